def LGX : List Ev := [(1, 2, 15, 0), (2, 2, 14, 58), (0, 58, 23, 40), (2, 2, 13, 0), (1, 2, 12, 0), (2, 2, 11, 57), (0, 57, 20, 240), (2, 2, 10, 48), (3, 55, (-1), 12), (2, 48, 2, 35), (2, 48, 1, 28), (2, 48, 0, 22), (2, 48, 18, 56), (0, 56, 20, 6), (1, 48, 17, (-1)), (1, 48, 16, (-1)), (1, 48, 15, (-1)), (2, 48, 14, 55), (0, 55, 20, 12), (1, 48, 13, 0), (1, 48, 12, 0), (2, 48, 11, 54), (0, 54, 20, 12), (2, 48, 10, 53), (0, 53, 20, 96), (1, 48, 9, 0), (1, 48, 8, 0), (2, 48, 7, 52), (0, 52, 20, 12), (2, 48, 6, 51), (0, 51, 20, 12), (2, 48, 5, 50), (0, 50, 20, 12), (1, 48, 4, 0), (2, 48, 3, 49), (0, 49, 23, 12), (0, 48, 6, 19), (2, 2, 9, 45), (2, 45, 0, 22), (1, 45, 4, 0), (2, 45, 3, 0), (2, 45, 2, 47), (0, 47, 20, 1312), (2, 45, 1, 46), (0, 46, 20, 369), (0, 45, 5, 5), (2, 2, 8, 40), (2, 40, 2, 35), (2, 40, 1, 28), (2, 40, 0, 22), (1, 40, 7, 0), (2, 40, 6, 44), (0, 44, 20, 200), (2, 40, 5, 43), (0, 43, 20, 200), (2, 40, 4, 42), (0, 42, 20, 201), (2, 40, 3, 41), (0, 41, 20, 0), (0, 40, 7, 8), (2, 2, 7, 35), (2, 35, 1, 28), (2, 35, 0, 22), (1, 35, 10, 0), (2, 35, 9, 39), (0, 39, 20, 64), (2, 35, 8, 38), (0, 38, 20, 64), (2, 35, 7, 37), (0, 37, 20, 64), (2, 35, 6, 36), (0, 36, 20, 64), (1, 35, 5, 1536), (1, 35, 4, 0), (1, 35, 3, 0), (2, 35, 2, 0), (0, 35, 10, 11), (2, 2, 6, 28), (2, 28, 0, 22), (1, 28, 11, (-1)), (1, 28, 10, 0), (1, 28, 9, 0), (1, 28, 8, 0), (2, 28, 7, 0), (2, 28, 6, 34), (0, 34, 20, 0), (2, 28, 5, 33), (0, 33, 20, 41), (2, 28, 4, 32), (0, 32, 20, 41), (2, 28, 3, 31), (0, 31, 20, 164), (2, 28, 2, 30), (0, 30, 20, 96), (2, 28, 1, 29), (0, 29, 20, 328), (0, 28, 8, 12), (2, 2, 5, 22), (3, 27, (-1), 5), (2, 22, 4, 27), (0, 27, 20, 5), (2, 22, 3, 26), (0, 26, 20, 8), (2, 22, 2, 25), (0, 25, 20, 8), (2, 22, 1, 24), (0, 24, 20, 64), (2, 22, 0, 23), (0, 23, 24, 12), (0, 22, 4, 5), (2, 2, 4, 15), (2, 15, 1, 7), (2, 15, 0, 4), (1, 15, 4, (-1)), (1, 15, 3, 0), (2, 15, 2, 16), (2, 16, 5, 0), (2, 16, 4, 21), (0, 21, 20, 40), (2, 16, 3, 20), (0, 20, 20, 40), (2, 16, 2, 19), (0, 19, 20, 40), (2, 16, 1, 18), (0, 18, 20, 41), (2, 16, 0, 17), (0, 17, 20, 192), (1, 16, 6, 0), (0, 16, 9, 7), (0, 15, 3, 5), (2, 2, 3, 7), (2, 7, 0, 4), (2, 7, 3, 9), (2, 9, 5, 0), (2, 9, 4, 14), (0, 14, 20, 16), (2, 9, 3, 13), (0, 13, 20, 16), (2, 9, 2, 12), (0, 12, 20, 16), (2, 9, 1, 11), (0, 11, 20, 17), (2, 9, 0, 10), (0, 10, 20, 16), (1, 9, 6, 0), (0, 9, 9, 7), (1, 7, 2, 0), (2, 7, 1, 8), (0, 8, 23, 40), (0, 7, 0, 4), (2, 2, 2, 4), (1, 5, 20, 1), (1, 5, 14, 1), (1, 5, 8, 1), (1, 5, 4, 1), (1, 5, 0, 1), (1, 4, 3, 0), (2, 4, 2, 6), (0, 6, 20, 676), (1, 4, 1, 5), (2, 4, 0, 5), (0, 5, 22, 26), (0, 4, 2, 4), (1, 2, 1, 0), (2, 2, 0, 3), (0, 3, 20, 240), (0, 2, 11, 16)]
def LGR : List Ev := (1, 89, 11, (-1)) :: (1, 89, 10, (-1)) :: (1, 89, 9, (-1)) :: (1, 89, 8, (-1)) :: (1, 89, 7, (-1)) :: (1, 89, 6, (-1)) :: (1, 89, 5, (-1)) :: (1, 89, 4, (-1)) :: (1, 89, 3, (-1)) :: (1, 89, 2, (-1)) :: (1, 89, 1, (-1)) :: (1, 89, 0, (-1)) :: (1, 97, 4, (-1)) :: (1, 97, 3, (-1)) :: (1, 97, 2, (-1)) :: (1, 97, 1, (-1)) :: (1, 97, 0, (-1)) :: (1, 61, 25, 0) :: (1, 61, 24, 0) :: (1, 61, 23, 0) :: (1, 61, 22, 0) :: (1, 61, 21, 0) :: (1, 61, 20, 1) :: (1, 61, 19, 0) :: (1, 61, 18, 0) :: (1, 61, 17, 0) :: (1, 61, 16, 0) :: (1, 61, 15, 0) :: (1, 61, 14, 1) :: (1, 61, 13, 0) :: (1, 61, 12, 0) :: (1, 61, 11, 0) :: (1, 61, 10, 0) :: (1, 61, 9, 0) :: (1, 61, 8, 1) :: (1, 61, 7, 0) :: (1, 61, 6, 0) :: (1, 61, 5, 0) :: (1, 61, 4, 1) :: (1, 61, 3, 0) :: (1, 61, 2, 0) :: (1, 61, 1, 0) :: (1, 61, 0, 1) :: (2, 59, 86, 129) :: (0, 129, 20, 6) :: (2, 59, 85, 128) :: (0, 128, 20, 40) :: (2, 59, 83, 127) :: (0, 127, 20, 40) :: (2, 59, 82, 126) :: (0, 126, 20, 40) :: (2, 59, 81, 125) :: (0, 125, 21, 640) :: (1, 59, 78, (-1)) :: (2, 59, 77, 124) :: (0, 124, 20, 12) :: (2, 59, 76, 123) :: (0, 123, 20, 12) :: (2, 59, 75, 122) :: (0, 122, 20, 96) :: (2, 59, 73, 121) :: (0, 121, 22, 12) :: (2, 59, 72, 120) :: (0, 120, 20, 12) :: (2, 59, 71, 119) :: (0, 119, 20, 12) :: (2, 59, 70, 118) :: (0, 118, 20, 12) :: (2, 59, 69, 117) :: (0, 117, 20, 12) :: (2, 59, 68, 116) :: (0, 116, 20, 2) :: (2, 59, 67, 115) :: (0, 115, 22, 1280) :: (2, 59, 66, 114) :: (0, 114, 20, 1280) :: (2, 59, 65, 113) :: (0, 113, 20, 141696) :: (2, 59, 63, 112) :: (0, 112, 20, 240) :: (2, 59, 62, 111) :: (0, 111, 20, 246) :: (2, 59, 60, 110) :: (0, 110, 20, 49446) :: (2, 59, 59, 109) :: (0, 109, 20, 201) :: (2, 59, 58, 108) :: (0, 108, 20, 201) :: (2, 59, 57, 107) :: (0, 107, 20, 70849) :: (2, 59, 56, 106) :: (0, 106, 20, 70849) :: (2, 59, 54, 105) :: (0, 105, 20, 42) :: (2, 59, 53, 104) :: (0, 104, 20, 2688) :: (2, 59, 52, 103) :: (0, 103, 20, 2688) :: (2, 59, 51, 102) :: (0, 102, 20, 2688) :: (2, 59, 50, 101) :: (0, 101, 20, 2688) :: (2, 59, 49, 100) :: (0, 100, 20, 2688) :: (2, 59, 48, 99) :: (0, 99, 20, 2688) :: (2, 59, 47, 98) :: (0, 98, 20, 2688) :: (2, 59, 44, 97) :: (0, 97, 20, 5) :: (2, 59, 43, 96) :: (0, 96, 20, 8) :: (2, 59, 42, 95) :: (0, 95, 20, 8) :: (2, 59, 41, 94) :: (0, 94, 20, 64) :: (2, 59, 40, 93) :: (0, 93, 20, 12) :: (2, 59, 39, 92) :: (0, 92, 20, 12) :: (2, 59, 38, 91) :: (0, 91, 20, 12) :: (2, 59, 37, 90) :: (0, 90, 20, 48) :: (2, 59, 36, 89) :: (0, 89, 20, 12) :: (1, 59, 35, (-1)) :: (2, 59, 33, 88) :: (0, 88, 20, 600) :: (2, 59, 32, 87) :: (0, 87, 20, 600) :: (2, 59, 31, 86) :: (0, 86, 20, 9600) :: (2, 59, 30, 85) :: (0, 85, 20, 600) :: (2, 59, 29, 84) :: (0, 84, 20, 600) :: (2, 59, 28, 83) :: (0, 83, 20, 600) :: (2, 59, 27, 82) :: (0, 82, 20, 600) :: (2, 59, 26, 81) :: (0, 81, 20, 15) :: (2, 59, 25, 80) :: (0, 80, 22, 180) :: (2, 59, 24, 79) :: (0, 79, 20, 180) :: (2, 59, 23, 78) :: (0, 78, 21, 2880) :: (2, 59, 22, 77) :: (0, 77, 20, 15) :: (2, 59, 21, 76) :: (0, 76, 22, 15) :: (2, 59, 19, 75) :: (0, 75, 20, 240) :: (2, 59, 18, 74) :: (0, 74, 20, 240) :: (2, 59, 17, 73) :: (0, 73, 21, 240) :: (2, 59, 15, 72) :: (0, 72, 20, 640) :: (2, 59, 14, 71) :: (0, 71, 20, 640) :: (2, 59, 13, 70) :: (0, 70, 20, 40) :: (2, 59, 12, 69) :: (0, 69, 20, 40) :: (2, 59, 11, 68) :: (0, 68, 21, 640) :: (2, 59, 9, 67) :: (0, 67, 20, 18) :: (2, 59, 8, 66) :: (0, 66, 22, 18) :: (2, 59, 7, 65) :: (0, 65, 20, 18) :: (2, 59, 5, 64) :: (0, 64, 20, 12) :: (2, 59, 4, 63) :: (0, 63, 20, 12) :: (2, 59, 3, 62) :: (0, 62, 20, 12) :: (2, 59, 2, 61) :: (0, 61, 22, 26) :: (2, 59, 0, 60) :: (0, 60, 21, 240) :: (0, 59, 12, 87) :: LGX
section IN0
variable {L : Nat} {xs : Nat → Int32} {Q : xH → Prop}
set_option maxRecDepth 100000 in
set_option maxHeartbeats 4000000 in
theorem x_init0 (K : Q (bld (xH0 L xs) LGX)) : xCv 2046 M_X_init [(1, 2)] (bld (xH0 L xs) [(0, 2, 11, 16)]) Q := by
  apply L_X_init
  refine ⟨by decide, ?_⟩
  refine ke_al (a := 3) (n' := 240) (by decide +kernel) (by decide) ?_
  refine ke_tag (by decide +kernel) ?_
  refine ke_wr ?_
  refine ke_tag (by decide +kernel) ?_
  refine ke_wi (c' := 2) (v' := 0) (rfl) (by decide) ?_
  refine ke_al (a := 4) (n' := 4) (by decide +kernel) (by decide) ?_
  refine ke_tag (by decide +kernel) ?_
  apply L_Language_init
  refine ⟨by decide, ?_⟩
  refine ke_al (a := 5) (n' := 26) (by decide +kernel) (by decide) ?_
  refine ke_tag (by decide +kernel) ?_
  refine ke_wr ?_
  refine ke_tag (by decide +kernel) ?_
  refine ke_wi (c' := 4) (v' := 5) (rfl) (by decide) ?_
  refine ke_al (a := 6) (n' := 676) (by decide +kernel) (by decide) ?_
  refine ke_tag (by decide +kernel) ?_
  refine ke_wr ?_
  refine ke_tag (by decide +kernel) ?_
  refine ke_wi (c' := 4) (v' := 0) (rfl) (by decide) ?_
  refine ke_tag (by decide +kernel) ?_
  refine ke_row (c' := 5) (n := 26) (ke_r (by decide +kernel)) (by decide +kernel) (by decide +kernel) (by decide) (by decide) ?_
  refine ke_wi (c' := 5) (v' := 1) (ke_r (by decide +kernel)) (by decide) ?_
  refine ke_tag (by decide +kernel) ?_
  refine ke_row (c' := 5) (n := 26) (ke_r (by decide +kernel)) (by decide +kernel) (by decide +kernel) (by decide) (by decide) ?_
  refine ke_wi (c' := 5) (v' := 1) (ke_r (by decide +kernel)) (by decide) ?_
  refine ke_tag (by decide +kernel) ?_
  refine ke_row (c' := 5) (n := 26) (ke_r (by decide +kernel)) (by decide +kernel) (by decide +kernel) (by decide) (by decide) ?_
  refine ke_wi (c' := 5) (v' := 1) (ke_r (by decide +kernel)) (by decide) ?_
  refine ke_tag (by decide +kernel) ?_
  refine ke_row (c' := 5) (n := 26) (ke_r (by decide +kernel)) (by decide +kernel) (by decide +kernel) (by decide) (by decide) ?_
  refine ke_wi (c' := 5) (v' := 1) (ke_r (by decide +kernel)) (by decide) ?_
  refine ke_tag (by decide +kernel) ?_
  refine ke_row (c' := 5) (n := 26) (ke_r (by decide +kernel)) (by decide +kernel) (by decide +kernel) (by decide) (by decide) ?_
  refine ke_wi (c' := 5) (v' := 1) (ke_r (by decide +kernel)) (by decide) ?_
  refine ke_tag (by decide +kernel) ?_
  refine ke_wr ?_
  refine ke_al (a := 7) (n' := 4) (by decide +kernel) (by decide) ?_
  refine ke_tag (by decide +kernel) ?_
  refine ke_tag (by decide +kernel) ?_
  rw [ke_r (c := 2) (k := 2) (v := 4)]
  rotate_left
  · decide +kernel
  apply L_Book_init
  refine ⟨by decide, ?_⟩
  refine ke_al (a := 8) (n' := 40) (by decide +kernel) (by decide) ?_
  refine ke_tag (by decide +kernel) ?_
  refine ke_wr ?_
  refine ke_tag (by decide +kernel) ?_
  refine ke_wi (c' := 7) (v' := 0) (rfl) (by decide) ?_
  refine ke_al (a := 9) (n' := 7) (by decide +kernel) (by decide) ?_
  refine ke_tag (by decide +kernel) ?_
  apply L_Syllables_init
  refine ⟨by decide, ?_⟩
  refine ke_tag (by decide +kernel) ?_
  refine ke_wi (c' := 9) (v' := 0) (rfl) (by decide) ?_
  refine ⟨by decide, ?_⟩
  refine ke_al (a := 10) (n' := 16) (by decide +kernel) (by decide) ?_
  refine ke_tag (by decide +kernel) ?_
  refine ke_wr ?_
  refine ⟨by decide, ?_⟩
  refine ke_al (a := 11) (n' := 17) (by decide +kernel) (by decide) ?_
  refine ke_tag (by decide +kernel) ?_
  refine ke_wr ?_
  refine ⟨by decide, ?_⟩
  refine ke_al (a := 12) (n' := 16) (by decide +kernel) (by decide) ?_
  refine ke_tag (by decide +kernel) ?_
  refine ke_wr ?_
  refine ⟨by decide, ?_⟩
  refine ke_al (a := 13) (n' := 16) (by decide +kernel) (by decide) ?_
  refine ke_tag (by decide +kernel) ?_
  refine ke_wr ?_
  refine ⟨by decide, ?_⟩
  refine ke_al (a := 14) (n' := 16) (by decide +kernel) (by decide) ?_
  refine ke_tag (by decide +kernel) ?_
  refine ke_wr ?_
  refine ke_tag (by decide +kernel) ?_
  refine ke_wr ?_
  refine ke_tag (by decide +kernel) ?_
  refine ke_wr ?_
  refine ke_tag (by decide +kernel) ?_
  refine ke_wr ?_
  refine ke_tag (by decide +kernel) ?_
  refine ke_wr ?_
  refine ke_al (a := 15) (n' := 5) (by decide +kernel) (by decide) ?_
  refine ke_tag (by decide +kernel) ?_
  refine ke_tag (by decide +kernel) ?_
  rw [ke_r (c := 2) (k := 2) (v := 4), ke_r (c := 2) (k := 3) (v := 7)]
  rotate_left
  · decide +kernel
  · decide +kernel
  apply L_LineReader_init
  refine ⟨by decide, ?_⟩
  refine ke_al (a := 16) (n' := 7) (by decide +kernel) (by decide) ?_
  refine ke_tag (by decide +kernel) ?_
  apply L_Syllables_init
  refine ⟨by decide, ?_⟩
  refine ke_tag (by decide +kernel) ?_
  refine ke_wi (c' := 16) (v' := 0) (rfl) (by decide) ?_
  refine ⟨by decide, ?_⟩
  refine ke_al (a := 17) (n' := 192) (by decide +kernel) (by decide) ?_
  refine ke_tag (by decide +kernel) ?_
  refine ke_wr ?_
  refine ⟨by decide, ?_⟩
  refine ke_al (a := 18) (n' := 41) (by decide +kernel) (by decide) ?_
  refine ke_tag (by decide +kernel) ?_
  refine ke_wr ?_
  refine ⟨by decide, ?_⟩
  refine ke_al (a := 19) (n' := 40) (by decide +kernel) (by decide) ?_
  refine ke_tag (by decide +kernel) ?_
  refine ke_wr ?_
  refine ⟨by decide, ?_⟩
  refine ke_al (a := 20) (n' := 40) (by decide +kernel) (by decide) ?_
  refine ke_tag (by decide +kernel) ?_
  refine ke_wr ?_
  refine ⟨by decide, ?_⟩
  refine ke_al (a := 21) (n' := 40) (by decide +kernel) (by decide) ?_
  refine ke_tag (by decide +kernel) ?_
  refine ke_wr ?_
  refine ke_tag (by decide +kernel) ?_
  refine ke_wr ?_
  refine ke_tag (by decide +kernel) ?_
  refine ke_wr ?_
  refine ke_tag (by decide +kernel) ?_
  refine ke_wi (c' := 15) (v' := 0) (rfl) (by decide) ?_
  refine ke_tag (by decide +kernel) ?_
  refine ke_wi (c' := 15) (v' := (-1)) (rfl) (by decide) ?_
  refine ke_tag (by decide +kernel) ?_
  refine ke_wr ?_
  refine ke_tag (by decide +kernel) ?_
  refine ke_wr ?_
  refine ke_tag (by decide +kernel) ?_
  refine ke_wr ?_
  refine ke_al (a := 22) (n' := 5) (by decide +kernel) (by decide) ?_
  refine ke_tag (by decide +kernel) ?_
  apply L_Metre_init
  refine ⟨by decide, ?_⟩
  refine ke_al (a := 23) (n' := 12) (by decide +kernel) (by decide) ?_
  refine ke_tag (by decide +kernel) ?_
  refine ke_wr ?_
  refine ke_al (a := 24) (n' := 64) (by decide +kernel) (by decide) ?_
  refine ke_tag (by decide +kernel) ?_
  refine ke_wr ?_
  refine ke_al (a := 25) (n' := 8) (by decide +kernel) (by decide) ?_
  refine ke_tag (by decide +kernel) ?_
  refine ke_wr ?_
  refine ke_al (a := 26) (n' := 8) (by decide +kernel) (by decide) ?_
  refine ke_tag (by decide +kernel) ?_
  refine ke_wr ?_
  refine ke_al (a := 27) (n' := 5) (by decide +kernel) (by decide) ?_
  refine ke_tag (by decide +kernel) ?_
  refine ke_wr ?_
  refine ke_tag (by decide +kernel) ?_
  rw [ke_r (c := 22) (k := 4) (v := 27)]
  rotate_left
  · decide +kernel
  refine ke_fill (n := 5) (by decide +kernel) (by decide +kernel) (by decide) ?_
  refine ke_tag (by decide +kernel) ?_
  refine ke_wr ?_
  refine ke_al (a := 28) (n' := 12) (by decide +kernel) (by decide) ?_
  refine ke_tag (by decide +kernel) ?_
  refine ke_tag (by decide +kernel) ?_
  rw [ke_r (c := 2) (k := 5) (v := 22)]
  rotate_left
  · decide +kernel
  apply L_Scanner_init
  refine ⟨by decide, ?_⟩
  refine ke_al (a := 29) (n' := 328) (by decide +kernel) (by decide) ?_
  refine ke_tag (by decide +kernel) ?_
  refine ke_wr ?_
  refine ke_al (a := 30) (n' := 96) (by decide +kernel) (by decide) ?_
  refine ke_tag (by decide +kernel) ?_
  refine ke_wr ?_
  refine ke_al (a := 31) (n' := 164) (by decide +kernel) (by decide) ?_
  refine ke_tag (by decide +kernel) ?_
  refine ke_wr ?_
  refine ke_al (a := 32) (n' := 41) (by decide +kernel) (by decide) ?_
  refine ke_tag (by decide +kernel) ?_
  refine ke_wr ?_
  refine ke_al (a := 33) (n' := 41) (by decide +kernel) (by decide) ?_
  refine ke_tag (by decide +kernel) ?_
  refine ke_wr ?_
  refine ke_al (a := 34) (n' := 0) (by decide +kernel) (by decide) ?_
  refine ke_tag (by decide +kernel) ?_
  refine ke_wr ?_
  refine ke_tag (by decide +kernel) ?_
  refine ke_wr ?_
  refine ke_tag (by decide +kernel) ?_
  refine ke_wi (c' := 28) (v' := 0) (rfl) (by decide) ?_
  refine ke_tag (by decide +kernel) ?_
  refine ke_wi (c' := 28) (v' := 0) (rfl) (by decide) ?_
  refine ke_tag (by decide +kernel) ?_
  refine ke_wi (c' := 28) (v' := 0) (rfl) (by decide) ?_
  refine ke_tag (by decide +kernel) ?_
  refine ke_wi (c' := 28) (v' := (-1)) (rfl) (by decide) ?_
  refine ke_tag (by decide +kernel) ?_
  refine ke_wr ?_
  refine ke_tag (by decide +kernel) ?_
  refine ke_wr ?_
  refine ke_al (a := 35) (n' := 11) (by decide +kernel) (by decide) ?_
  refine ke_tag (by decide +kernel) ?_
  refine ke_tag (by decide +kernel) ?_
  rw [ke_r (c := 2) (k := 5) (v := 22), ke_r (c := 2) (k := 6) (v := 28)]
  rotate_left
  · decide +kernel
  · decide +kernel
  apply L_Walker_init
  refine ⟨by decide, ?_⟩
  refine ke_tag (by decide +kernel) ?_
  refine ke_wr ?_
  refine ke_tag (by decide +kernel) ?_
  refine ke_wi (c' := 35) (v' := 0) (rfl) (by decide) ?_
  refine ke_tag (by decide +kernel) ?_
  refine ke_wi (c' := 35) (v' := 0) (rfl) (by decide) ?_
  refine ke_tag (by decide +kernel) ?_
  refine ke_wi (c' := 35) (v' := 1536) (rfl) (by decide) ?_
  refine ke_al (a := 36) (n' := 64) (by decide +kernel) (by decide) ?_
  refine ke_tag (by decide +kernel) ?_
  refine ke_wr ?_
  refine ke_al (a := 37) (n' := 64) (by decide +kernel) (by decide) ?_
  refine ke_tag (by decide +kernel) ?_
  refine ke_wr ?_
  refine ke_al (a := 38) (n' := 64) (by decide +kernel) (by decide) ?_
  refine ke_tag (by decide +kernel) ?_
  refine ke_wr ?_
  refine ke_al (a := 39) (n' := 64) (by decide +kernel) (by decide) ?_
  refine ke_tag (by decide +kernel) ?_
  refine ke_wr ?_
  refine ke_tag (by decide +kernel) ?_
  refine ke_wi (c' := 35) (v' := 0) (rfl) (by decide) ?_
  refine ke_tag (by decide +kernel) ?_
  refine ke_wr ?_
  refine ke_tag (by decide +kernel) ?_
  refine ke_wr ?_
  refine ke_tag (by decide +kernel) ?_
  refine ke_wr ?_
  refine ke_al (a := 40) (n' := 8) (by decide +kernel) (by decide) ?_
  refine ke_tag (by decide +kernel) ?_
  refine ke_tag (by decide +kernel) ?_
  rw [ke_r (c := 2) (k := 5) (v := 22), ke_r (c := 2) (k := 6) (v := 28), ke_r (c := 2) (k := 7) (v := 35)]
  rotate_left
  · decide +kernel
  · decide +kernel
  · decide +kernel
  apply L_Readings_init
  refine ⟨by decide, ?_⟩
  refine ke_al (a := 41) (n' := 0) (by decide +kernel) (by decide) ?_
  refine ke_tag (by decide +kernel) ?_
  refine ke_wr ?_
  refine ke_al (a := 42) (n' := 201) (by decide +kernel) (by decide) ?_
  refine ke_tag (by decide +kernel) ?_
  refine ke_wr ?_
  refine ke_al (a := 43) (n' := 200) (by decide +kernel) (by decide) ?_
  refine ke_tag (by decide +kernel) ?_
  refine ke_wr ?_
  refine ke_al (a := 44) (n' := 200) (by decide +kernel) (by decide) ?_
  refine ke_tag (by decide +kernel) ?_
  refine ke_wr ?_
  refine ke_tag (by decide +kernel) ?_
  refine ke_wi (c' := 40) (v' := 0) (rfl) (by decide) ?_
  refine ke_tag (by decide +kernel) ?_
  refine ke_wr ?_
  refine ke_tag (by decide +kernel) ?_
  refine ke_wr ?_
  refine ke_tag (by decide +kernel) ?_
  refine ke_wr ?_
  refine ke_tag (by decide +kernel) ?_
  refine ke_wr ?_
  refine ke_al (a := 45) (n' := 5) (by decide +kernel) (by decide) ?_
  refine ke_tag (by decide +kernel) ?_
  refine ke_tag (by decide +kernel) ?_
  rw [ke_r (c := 2) (k := 5) (v := 22)]
  rotate_left
  · decide +kernel
  apply L_Near_init
  refine ⟨by decide, ?_⟩
  refine ke_al (a := 46) (n' := 369) (by decide +kernel) (by decide) ?_
  refine ke_tag (by decide +kernel) ?_
  refine ke_wr ?_
  refine ke_al (a := 47) (n' := 1312) (by decide +kernel) (by decide) ?_
  refine ke_tag (by decide +kernel) ?_
  refine ke_wr ?_
  refine ke_tag (by decide +kernel) ?_
  refine ke_wr ?_
  refine ke_tag (by decide +kernel) ?_
  refine ke_wi (c' := 45) (v' := 0) (rfl) (by decide) ?_
  refine ke_tag (by decide +kernel) ?_
  refine ke_wr ?_
  refine ke_tag (by decide +kernel) ?_
  refine ke_wr ?_
  refine ke_al (a := 48) (n' := 19) (by decide +kernel) (by decide) ?_
  refine ke_tag (by decide +kernel) ?_
  refine ke_tag (by decide +kernel) ?_
  rw [ke_r (c := 2) (k := 5) (v := 22), ke_r (c := 2) (k := 6) (v := 28), ke_r (c := 2) (k := 7) (v := 35)]
  rotate_left
  · decide +kernel
  · decide +kernel
  · decide +kernel
  apply L_Poem_init
  refine ⟨by decide, ?_⟩
  refine ke_al (a := 49) (n' := 12) (by decide +kernel) (by decide) ?_
  refine ke_tag (by decide +kernel) ?_
  refine ke_wr ?_
  refine ke_tag (by decide +kernel) ?_
  refine ke_wi (c' := 48) (v' := 0) (rfl) (by decide) ?_
  refine ke_al (a := 50) (n' := 12) (by decide +kernel) (by decide) ?_
  refine ke_tag (by decide +kernel) ?_
  refine ke_wr ?_
  refine ke_al (a := 51) (n' := 12) (by decide +kernel) (by decide) ?_
  refine ke_tag (by decide +kernel) ?_
  refine ke_wr ?_
  refine ke_al (a := 52) (n' := 12) (by decide +kernel) (by decide) ?_
  refine ke_tag (by decide +kernel) ?_
  refine ke_wr ?_
  refine ke_tag (by decide +kernel) ?_
  refine ke_wi (c' := 48) (v' := 0) (rfl) (by decide) ?_
  refine ke_tag (by decide +kernel) ?_
  refine ke_wi (c' := 48) (v' := 0) (rfl) (by decide) ?_
  refine ke_al (a := 53) (n' := 96) (by decide +kernel) (by decide) ?_
  refine ke_tag (by decide +kernel) ?_
  refine ke_wr ?_
  refine ke_al (a := 54) (n' := 12) (by decide +kernel) (by decide) ?_
  refine ke_tag (by decide +kernel) ?_
  refine ke_wr ?_
  refine ke_tag (by decide +kernel) ?_
  refine ke_wi (c' := 48) (v' := 0) (rfl) (by decide) ?_
  refine ke_tag (by decide +kernel) ?_
  refine ke_wi (c' := 48) (v' := 0) (rfl) (by decide) ?_
  refine ke_al (a := 55) (n' := 12) (by decide +kernel) (by decide) ?_
  refine ke_tag (by decide +kernel) ?_
  refine ke_wr ?_
  refine ke_tag (by decide +kernel) ?_
  refine ke_wi (c' := 48) (v' := (-1)) (rfl) (by decide) ?_
  refine ke_tag (by decide +kernel) ?_
  refine ke_wi (c' := 48) (v' := (-1)) (rfl) (by decide) ?_
  refine ke_tag (by decide +kernel) ?_
  refine ke_wi (c' := 48) (v' := (-1)) (rfl) (by decide) ?_
  refine ke_al (a := 56) (n' := 6) (by decide +kernel) (by decide) ?_
  refine ke_tag (by decide +kernel) ?_
  refine ke_wr ?_
  refine ke_tag (by decide +kernel) ?_
  refine ke_wr ?_
  refine ke_tag (by decide +kernel) ?_
  refine ke_wr ?_
  refine ke_tag (by decide +kernel) ?_
  refine ke_wr ?_
  refine ke_tag (by decide +kernel) ?_
  rw [ke_r (c := 48) (k := 14) (v := 55)]
  rotate_left
  · decide +kernel
  refine ke_fill (n := 12) (by decide +kernel) (by decide +kernel) (by decide) ?_
  refine ke_tag (by decide +kernel) ?_
  refine ke_wr ?_
  refine ke_al (a := 57) (n' := 240) (by decide +kernel) (by decide) ?_
  refine ke_tag (by decide +kernel) ?_
  refine ke_wr ?_
  refine ke_tag (by decide +kernel) ?_
  refine ke_wi (c' := 2) (v' := 0) (rfl) (by decide) ?_
  refine ke_tag (by decide +kernel) ?_
  refine ke_wr ?_
  refine ke_al (a := 58) (n' := 40) (by decide +kernel) (by decide) ?_
  refine ke_tag (by decide +kernel) ?_
  refine ke_wr ?_
  refine ke_tag (by decide +kernel) ?_
  refine ke_wi (c' := 2) (v' := 0) (rfl) (by decide) ?_
  exact K
set_option maxRecDepth 100000 in
set_option maxHeartbeats 8000000 in
theorem r_init0 (K : Q (bld (xH0 L xs) LGR)) : xCv 2046 M_R_init [(1, 59)] (bld (xH0 L xs) ((0, 59, 12, 87) :: LGX)) Q := by
  apply L_R_init
  refine ⟨by decide, ?_⟩
  refine ke_al (a := 60) (n' := 240) (by decide +kernel) (by decide) ?_
  refine ke_tag (by decide +kernel) ?_
  refine ke_wr ?_
  refine ke_al (a := 61) (n' := 26) (by decide +kernel) (by decide) ?_
  refine ke_tag (by decide +kernel) ?_
  refine ke_wr ?_
  refine ke_al (a := 62) (n' := 12) (by decide +kernel) (by decide) ?_
  refine ke_tag (by decide +kernel) ?_
  refine ke_wr ?_
  refine ke_al (a := 63) (n' := 12) (by decide +kernel) (by decide) ?_
  refine ke_tag (by decide +kernel) ?_
  refine ke_wr ?_
  refine ke_al (a := 64) (n' := 12) (by decide +kernel) (by decide) ?_
  refine ke_tag (by decide +kernel) ?_
  refine ke_wr ?_
  refine ke_al (a := 65) (n' := 18) (by decide +kernel) (by decide) ?_
  refine ke_tag (by decide +kernel) ?_
  refine ke_wr ?_
  refine ke_al (a := 66) (n' := 18) (by decide +kernel) (by decide) ?_
  refine ke_tag (by decide +kernel) ?_
  refine ke_wr ?_
  refine ke_al (a := 67) (n' := 18) (by decide +kernel) (by decide) ?_
  refine ke_tag (by decide +kernel) ?_
  refine ke_wr ?_
  refine ke_al (a := 68) (n' := 640) (by decide +kernel) (by decide) ?_
  refine ke_tag (by decide +kernel) ?_
  refine ke_wr ?_
  refine ke_al (a := 69) (n' := 40) (by decide +kernel) (by decide) ?_
  refine ke_tag (by decide +kernel) ?_
  refine ke_wr ?_
  refine ke_al (a := 70) (n' := 40) (by decide +kernel) (by decide) ?_
  refine ke_tag (by decide +kernel) ?_
  refine ke_wr ?_
  refine ke_al (a := 71) (n' := 640) (by decide +kernel) (by decide) ?_
  refine ke_tag (by decide +kernel) ?_
  refine ke_wr ?_
  refine ke_al (a := 72) (n' := 640) (by decide +kernel) (by decide) ?_
  refine ke_tag (by decide +kernel) ?_
  refine ke_wr ?_
  refine ke_al (a := 73) (n' := 240) (by decide +kernel) (by decide) ?_
  refine ke_tag (by decide +kernel) ?_
  refine ke_wr ?_
  refine ke_al (a := 74) (n' := 240) (by decide +kernel) (by decide) ?_
  refine ke_tag (by decide +kernel) ?_
  refine ke_wr ?_
  refine ke_al (a := 75) (n' := 240) (by decide +kernel) (by decide) ?_
  refine ke_tag (by decide +kernel) ?_
  refine ke_wr ?_
  refine ke_al (a := 76) (n' := 15) (by decide +kernel) (by decide) ?_
  refine ke_tag (by decide +kernel) ?_
  refine ke_wr ?_
  refine ke_al (a := 77) (n' := 15) (by decide +kernel) (by decide) ?_
  refine ke_tag (by decide +kernel) ?_
  refine ke_wr ?_
  refine ke_al (a := 78) (n' := 2880) (by decide +kernel) (by decide) ?_
  refine ke_tag (by decide +kernel) ?_
  refine ke_wr ?_
  refine ke_al (a := 79) (n' := 180) (by decide +kernel) (by decide) ?_
  refine ke_tag (by decide +kernel) ?_
  refine ke_wr ?_
  refine ke_al (a := 80) (n' := 180) (by decide +kernel) (by decide) ?_
  refine ke_tag (by decide +kernel) ?_
  refine ke_wr ?_
  refine ke_al (a := 81) (n' := 15) (by decide +kernel) (by decide) ?_
  refine ke_tag (by decide +kernel) ?_
  refine ke_wr ?_
  refine ke_al (a := 82) (n' := 600) (by decide +kernel) (by decide) ?_
  refine ke_tag (by decide +kernel) ?_
  refine ke_wr ?_
  refine ke_al (a := 83) (n' := 600) (by decide +kernel) (by decide) ?_
  refine ke_tag (by decide +kernel) ?_
  refine ke_wr ?_
  refine ke_al (a := 84) (n' := 600) (by decide +kernel) (by decide) ?_
  refine ke_tag (by decide +kernel) ?_
  refine ke_wr ?_
  refine ke_al (a := 85) (n' := 600) (by decide +kernel) (by decide) ?_
  refine ke_tag (by decide +kernel) ?_
  refine ke_wr ?_
  refine ke_al (a := 86) (n' := 9600) (by decide +kernel) (by decide) ?_
  refine ke_tag (by decide +kernel) ?_
  refine ke_wr ?_
  refine ke_al (a := 87) (n' := 600) (by decide +kernel) (by decide) ?_
  refine ke_tag (by decide +kernel) ?_
  refine ke_wr ?_
  refine ke_al (a := 88) (n' := 600) (by decide +kernel) (by decide) ?_
  refine ke_tag (by decide +kernel) ?_
  refine ke_wr ?_
  refine ke_tag (by decide +kernel) ?_
  refine ke_wi (c' := 59) (v' := (-1)) (rfl) (by decide) ?_
  refine ke_al (a := 89) (n' := 12) (by decide +kernel) (by decide) ?_
  refine ke_tag (by decide +kernel) ?_
  refine ke_wr ?_
  refine ke_al (a := 90) (n' := 48) (by decide +kernel) (by decide) ?_
  refine ke_tag (by decide +kernel) ?_
  refine ke_wr ?_
  refine ke_al (a := 91) (n' := 12) (by decide +kernel) (by decide) ?_
  refine ke_tag (by decide +kernel) ?_
  refine ke_wr ?_
  refine ke_al (a := 92) (n' := 12) (by decide +kernel) (by decide) ?_
  refine ke_tag (by decide +kernel) ?_
  refine ke_wr ?_
  refine ke_al (a := 93) (n' := 12) (by decide +kernel) (by decide) ?_
  refine ke_tag (by decide +kernel) ?_
  refine ke_wr ?_
  refine ke_al (a := 94) (n' := 64) (by decide +kernel) (by decide) ?_
  refine ke_tag (by decide +kernel) ?_
  refine ke_wr ?_
  refine ke_al (a := 95) (n' := 8) (by decide +kernel) (by decide) ?_
  refine ke_tag (by decide +kernel) ?_
  refine ke_wr ?_
  refine ke_al (a := 96) (n' := 8) (by decide +kernel) (by decide) ?_
  refine ke_tag (by decide +kernel) ?_
  refine ke_wr ?_
  refine ke_al (a := 97) (n' := 5) (by decide +kernel) (by decide) ?_
  refine ke_tag (by decide +kernel) ?_
  refine ke_wr ?_
  refine ke_al (a := 98) (n' := 2688) (by decide +kernel) (by decide) ?_
  refine ke_tag (by decide +kernel) ?_
  refine ke_wr ?_
  refine ke_al (a := 99) (n' := 2688) (by decide +kernel) (by decide) ?_
  refine ke_tag (by decide +kernel) ?_
  refine ke_wr ?_
  refine ke_al (a := 100) (n' := 2688) (by decide +kernel) (by decide) ?_
  refine ke_tag (by decide +kernel) ?_
  refine ke_wr ?_
  refine ke_al (a := 101) (n' := 2688) (by decide +kernel) (by decide) ?_
  refine ke_tag (by decide +kernel) ?_
  refine ke_wr ?_
  refine ke_al (a := 102) (n' := 2688) (by decide +kernel) (by decide) ?_
  refine ke_tag (by decide +kernel) ?_
  refine ke_wr ?_
  refine ke_al (a := 103) (n' := 2688) (by decide +kernel) (by decide) ?_
  refine ke_tag (by decide +kernel) ?_
  refine ke_wr ?_
  refine ke_al (a := 104) (n' := 2688) (by decide +kernel) (by decide) ?_
  refine ke_tag (by decide +kernel) ?_
  refine ke_wr ?_
  refine ke_al (a := 105) (n' := 42) (by decide +kernel) (by decide) ?_
  refine ke_tag (by decide +kernel) ?_
  refine ke_wr ?_
  refine ke_al (a := 106) (n' := 70849) (by decide +kernel) (by decide) ?_
  refine ke_tag (by decide +kernel) ?_
  refine ke_wr ?_
  refine ke_al (a := 107) (n' := 70849) (by decide +kernel) (by decide) ?_
  refine ke_tag (by decide +kernel) ?_
  refine ke_wr ?_
  refine ke_al (a := 108) (n' := 201) (by decide +kernel) (by decide) ?_
  refine ke_tag (by decide +kernel) ?_
  refine ke_wr ?_
  refine ke_al (a := 109) (n' := 201) (by decide +kernel) (by decide) ?_
  refine ke_tag (by decide +kernel) ?_
  refine ke_wr ?_
  refine ke_al (a := 110) (n' := 49446) (by decide +kernel) (by decide) ?_
  refine ke_tag (by decide +kernel) ?_
  refine ke_wr ?_
  refine ke_al (a := 111) (n' := 246) (by decide +kernel) (by decide) ?_
  refine ke_tag (by decide +kernel) ?_
  refine ke_wr ?_
  refine ke_al (a := 112) (n' := 240) (by decide +kernel) (by decide) ?_
  refine ke_tag (by decide +kernel) ?_
  refine ke_wr ?_
  refine ke_al (a := 113) (n' := 141696) (by decide +kernel) (by decide) ?_
  refine ke_tag (by decide +kernel) ?_
  refine ke_wr ?_
  refine ke_al (a := 114) (n' := 1280) (by decide +kernel) (by decide) ?_
  refine ke_tag (by decide +kernel) ?_
  refine ke_wr ?_
  refine ke_al (a := 115) (n' := 1280) (by decide +kernel) (by decide) ?_
  refine ke_tag (by decide +kernel) ?_
  refine ke_wr ?_
  refine ke_al (a := 116) (n' := 2) (by decide +kernel) (by decide) ?_
  refine ke_tag (by decide +kernel) ?_
  refine ke_wr ?_
  refine ke_al (a := 117) (n' := 12) (by decide +kernel) (by decide) ?_
  refine ke_tag (by decide +kernel) ?_
  refine ke_wr ?_
  refine ke_al (a := 118) (n' := 12) (by decide +kernel) (by decide) ?_
  refine ke_tag (by decide +kernel) ?_
  refine ke_wr ?_
  refine ke_al (a := 119) (n' := 12) (by decide +kernel) (by decide) ?_
  refine ke_tag (by decide +kernel) ?_
  refine ke_wr ?_
  refine ke_al (a := 120) (n' := 12) (by decide +kernel) (by decide) ?_
  refine ke_tag (by decide +kernel) ?_
  refine ke_wr ?_
  refine ke_al (a := 121) (n' := 12) (by decide +kernel) (by decide) ?_
  refine ke_tag (by decide +kernel) ?_
  refine ke_wr ?_
  refine ke_al (a := 122) (n' := 96) (by decide +kernel) (by decide) ?_
  refine ke_tag (by decide +kernel) ?_
  refine ke_wr ?_
  refine ke_al (a := 123) (n' := 12) (by decide +kernel) (by decide) ?_
  refine ke_tag (by decide +kernel) ?_
  refine ke_wr ?_
  refine ke_al (a := 124) (n' := 12) (by decide +kernel) (by decide) ?_
  refine ke_tag (by decide +kernel) ?_
  refine ke_wr ?_
  refine ke_tag (by decide +kernel) ?_
  refine ke_wi (c' := 59) (v' := (-1)) (rfl) (by decide) ?_
  refine ke_al (a := 125) (n' := 640) (by decide +kernel) (by decide) ?_
  refine ke_tag (by decide +kernel) ?_
  refine ke_wr ?_
  refine ke_al (a := 126) (n' := 40) (by decide +kernel) (by decide) ?_
  refine ke_tag (by decide +kernel) ?_
  refine ke_wr ?_
  refine ke_al (a := 127) (n' := 40) (by decide +kernel) (by decide) ?_
  refine ke_tag (by decide +kernel) ?_
  refine ke_wr ?_
  refine ke_al (a := 128) (n' := 40) (by decide +kernel) (by decide) ?_
  refine ke_tag (by decide +kernel) ?_
  refine ke_wr ?_
  refine ke_al (a := 129) (n' := 6) (by decide +kernel) (by decide) ?_
  refine ke_tag (by decide +kernel) ?_
  refine ke_wr ?_
  apply L_R_init_290
  rw [if_pos (by decide)]
  refine ke_tag (by decide +kernel) ?_
  rw [if_pos (by decide)]
  refine ke_row (c' := 61) (n := 26) (ke_r (by decide +kernel)) (by decide +kernel) (by decide +kernel) (by decide) (by decide) ?_
  refine ke_wi (c' := 61) (v' := 1) (ke_r (by decide +kernel)) (by decide) ?_
  refine ke_x (y := 1) (by decide) ?_
  apply L_R_init_290
  rw [if_pos (by decide)]
  refine ke_tag (by decide +kernel) ?_
  rw [if_neg (by decide), if_neg (by decide), if_neg (by decide), if_neg (by decide), if_neg (by decide)]
  refine ke_row (c' := 61) (n := 26) (ke_r (by decide +kernel)) (by decide +kernel) (by decide +kernel) (by decide) (by decide) ?_
  refine ke_wi (c' := 61) (v' := 0) (ke_r (by decide +kernel)) (by decide) ?_
  refine ke_x (y := 2) (by decide) ?_
  apply L_R_init_290
  rw [if_pos (by decide)]
  refine ke_tag (by decide +kernel) ?_
  rw [if_neg (by decide), if_neg (by decide), if_neg (by decide), if_neg (by decide), if_neg (by decide)]
  refine ke_row (c' := 61) (n := 26) (ke_r (by decide +kernel)) (by decide +kernel) (by decide +kernel) (by decide) (by decide) ?_
  refine ke_wi (c' := 61) (v' := 0) (ke_r (by decide +kernel)) (by decide) ?_
  refine ke_x (y := 3) (by decide) ?_
  apply L_R_init_290
  rw [if_pos (by decide)]
  refine ke_tag (by decide +kernel) ?_
  rw [if_neg (by decide), if_neg (by decide), if_neg (by decide), if_neg (by decide), if_neg (by decide)]
  refine ke_row (c' := 61) (n := 26) (ke_r (by decide +kernel)) (by decide +kernel) (by decide +kernel) (by decide) (by decide) ?_
  refine ke_wi (c' := 61) (v' := 0) (ke_r (by decide +kernel)) (by decide) ?_
  refine ke_x (y := 4) (by decide) ?_
  apply L_R_init_290
  rw [if_pos (by decide)]
  refine ke_tag (by decide +kernel) ?_
  rw [if_neg (by decide), if_pos (by decide)]
  refine ke_row (c' := 61) (n := 26) (ke_r (by decide +kernel)) (by decide +kernel) (by decide +kernel) (by decide) (by decide) ?_
  refine ke_wi (c' := 61) (v' := 1) (ke_r (by decide +kernel)) (by decide) ?_
  refine ke_x (y := 5) (by decide) ?_
  apply L_R_init_290
  rw [if_pos (by decide)]
  refine ke_tag (by decide +kernel) ?_
  rw [if_neg (by decide), if_neg (by decide), if_neg (by decide), if_neg (by decide), if_neg (by decide)]
  refine ke_row (c' := 61) (n := 26) (ke_r (by decide +kernel)) (by decide +kernel) (by decide +kernel) (by decide) (by decide) ?_
  refine ke_wi (c' := 61) (v' := 0) (ke_r (by decide +kernel)) (by decide) ?_
  refine ke_x (y := 6) (by decide) ?_
  apply L_R_init_290
  rw [if_pos (by decide)]
  refine ke_tag (by decide +kernel) ?_
  rw [if_neg (by decide), if_neg (by decide), if_neg (by decide), if_neg (by decide), if_neg (by decide)]
  refine ke_row (c' := 61) (n := 26) (ke_r (by decide +kernel)) (by decide +kernel) (by decide +kernel) (by decide) (by decide) ?_
  refine ke_wi (c' := 61) (v' := 0) (ke_r (by decide +kernel)) (by decide) ?_
  refine ke_x (y := 7) (by decide) ?_
  apply L_R_init_290
  rw [if_pos (by decide)]
  refine ke_tag (by decide +kernel) ?_
  rw [if_neg (by decide), if_neg (by decide), if_neg (by decide), if_neg (by decide), if_neg (by decide)]
  refine ke_row (c' := 61) (n := 26) (ke_r (by decide +kernel)) (by decide +kernel) (by decide +kernel) (by decide) (by decide) ?_
  refine ke_wi (c' := 61) (v' := 0) (ke_r (by decide +kernel)) (by decide) ?_
  refine ke_x (y := 8) (by decide) ?_
  apply L_R_init_290
  rw [if_pos (by decide)]
  refine ke_tag (by decide +kernel) ?_
  rw [if_neg (by decide), if_neg (by decide), if_pos (by decide)]
  refine ke_row (c' := 61) (n := 26) (ke_r (by decide +kernel)) (by decide +kernel) (by decide +kernel) (by decide) (by decide) ?_
  refine ke_wi (c' := 61) (v' := 1) (ke_r (by decide +kernel)) (by decide) ?_
  refine ke_x (y := 9) (by decide) ?_
  apply L_R_init_290
  rw [if_pos (by decide)]
  refine ke_tag (by decide +kernel) ?_
  rw [if_neg (by decide), if_neg (by decide), if_neg (by decide), if_neg (by decide), if_neg (by decide)]
  refine ke_row (c' := 61) (n := 26) (ke_r (by decide +kernel)) (by decide +kernel) (by decide +kernel) (by decide) (by decide) ?_
  refine ke_wi (c' := 61) (v' := 0) (ke_r (by decide +kernel)) (by decide) ?_
  refine ke_x (y := 10) (by decide) ?_
  apply L_R_init_290
  rw [if_pos (by decide)]
  refine ke_tag (by decide +kernel) ?_
  rw [if_neg (by decide), if_neg (by decide), if_neg (by decide), if_neg (by decide), if_neg (by decide)]
  refine ke_row (c' := 61) (n := 26) (ke_r (by decide +kernel)) (by decide +kernel) (by decide +kernel) (by decide) (by decide) ?_
  refine ke_wi (c' := 61) (v' := 0) (ke_r (by decide +kernel)) (by decide) ?_
  refine ke_x (y := 11) (by decide) ?_
  apply L_R_init_290
  rw [if_pos (by decide)]
  refine ke_tag (by decide +kernel) ?_
  rw [if_neg (by decide), if_neg (by decide), if_neg (by decide), if_neg (by decide), if_neg (by decide)]
  refine ke_row (c' := 61) (n := 26) (ke_r (by decide +kernel)) (by decide +kernel) (by decide +kernel) (by decide) (by decide) ?_
  refine ke_wi (c' := 61) (v' := 0) (ke_r (by decide +kernel)) (by decide) ?_
  refine ke_x (y := 12) (by decide) ?_
  apply L_R_init_290
  rw [if_pos (by decide)]
  refine ke_tag (by decide +kernel) ?_
  rw [if_neg (by decide), if_neg (by decide), if_neg (by decide), if_neg (by decide), if_neg (by decide)]
  refine ke_row (c' := 61) (n := 26) (ke_r (by decide +kernel)) (by decide +kernel) (by decide +kernel) (by decide) (by decide) ?_
  refine ke_wi (c' := 61) (v' := 0) (ke_r (by decide +kernel)) (by decide) ?_
  refine ke_x (y := 13) (by decide) ?_
  apply L_R_init_290
  rw [if_pos (by decide)]
  refine ke_tag (by decide +kernel) ?_
  rw [if_neg (by decide), if_neg (by decide), if_neg (by decide), if_neg (by decide), if_neg (by decide)]
  refine ke_row (c' := 61) (n := 26) (ke_r (by decide +kernel)) (by decide +kernel) (by decide +kernel) (by decide) (by decide) ?_
  refine ke_wi (c' := 61) (v' := 0) (ke_r (by decide +kernel)) (by decide) ?_
  refine ke_x (y := 14) (by decide) ?_
  apply L_R_init_290
  rw [if_pos (by decide)]
  refine ke_tag (by decide +kernel) ?_
  rw [if_neg (by decide), if_neg (by decide), if_neg (by decide), if_pos (by decide)]
  refine ke_row (c' := 61) (n := 26) (ke_r (by decide +kernel)) (by decide +kernel) (by decide +kernel) (by decide) (by decide) ?_
  refine ke_wi (c' := 61) (v' := 1) (ke_r (by decide +kernel)) (by decide) ?_
  refine ke_x (y := 15) (by decide) ?_
  apply L_R_init_290
  rw [if_pos (by decide)]
  refine ke_tag (by decide +kernel) ?_
  rw [if_neg (by decide), if_neg (by decide), if_neg (by decide), if_neg (by decide), if_neg (by decide)]
  refine ke_row (c' := 61) (n := 26) (ke_r (by decide +kernel)) (by decide +kernel) (by decide +kernel) (by decide) (by decide) ?_
  refine ke_wi (c' := 61) (v' := 0) (ke_r (by decide +kernel)) (by decide) ?_
  refine ke_x (y := 16) (by decide) ?_
  apply L_R_init_290
  rw [if_pos (by decide)]
  refine ke_tag (by decide +kernel) ?_
  rw [if_neg (by decide), if_neg (by decide), if_neg (by decide), if_neg (by decide), if_neg (by decide)]
  refine ke_row (c' := 61) (n := 26) (ke_r (by decide +kernel)) (by decide +kernel) (by decide +kernel) (by decide) (by decide) ?_
  refine ke_wi (c' := 61) (v' := 0) (ke_r (by decide +kernel)) (by decide) ?_
  refine ke_x (y := 17) (by decide) ?_
  apply L_R_init_290
  rw [if_pos (by decide)]
  refine ke_tag (by decide +kernel) ?_
  rw [if_neg (by decide), if_neg (by decide), if_neg (by decide), if_neg (by decide), if_neg (by decide)]
  refine ke_row (c' := 61) (n := 26) (ke_r (by decide +kernel)) (by decide +kernel) (by decide +kernel) (by decide) (by decide) ?_
  refine ke_wi (c' := 61) (v' := 0) (ke_r (by decide +kernel)) (by decide) ?_
  refine ke_x (y := 18) (by decide) ?_
  apply L_R_init_290
  rw [if_pos (by decide)]
  refine ke_tag (by decide +kernel) ?_
  rw [if_neg (by decide), if_neg (by decide), if_neg (by decide), if_neg (by decide), if_neg (by decide)]
  refine ke_row (c' := 61) (n := 26) (ke_r (by decide +kernel)) (by decide +kernel) (by decide +kernel) (by decide) (by decide) ?_
  refine ke_wi (c' := 61) (v' := 0) (ke_r (by decide +kernel)) (by decide) ?_
  refine ke_x (y := 19) (by decide) ?_
  apply L_R_init_290
  rw [if_pos (by decide)]
  refine ke_tag (by decide +kernel) ?_
  rw [if_neg (by decide), if_neg (by decide), if_neg (by decide), if_neg (by decide), if_neg (by decide)]
  refine ke_row (c' := 61) (n := 26) (ke_r (by decide +kernel)) (by decide +kernel) (by decide +kernel) (by decide) (by decide) ?_
  refine ke_wi (c' := 61) (v' := 0) (ke_r (by decide +kernel)) (by decide) ?_
  refine ke_x (y := 20) (by decide) ?_
  apply L_R_init_290
  rw [if_pos (by decide)]
  refine ke_tag (by decide +kernel) ?_
  rw [if_neg (by decide), if_neg (by decide), if_neg (by decide), if_neg (by decide), if_pos (by decide)]
  refine ke_row (c' := 61) (n := 26) (ke_r (by decide +kernel)) (by decide +kernel) (by decide +kernel) (by decide) (by decide) ?_
  refine ke_wi (c' := 61) (v' := 1) (ke_r (by decide +kernel)) (by decide) ?_
  refine ke_x (y := 21) (by decide) ?_
  apply L_R_init_290
  rw [if_pos (by decide)]
  refine ke_tag (by decide +kernel) ?_
  rw [if_neg (by decide), if_neg (by decide), if_neg (by decide), if_neg (by decide), if_neg (by decide)]
  refine ke_row (c' := 61) (n := 26) (ke_r (by decide +kernel)) (by decide +kernel) (by decide +kernel) (by decide) (by decide) ?_
  refine ke_wi (c' := 61) (v' := 0) (ke_r (by decide +kernel)) (by decide) ?_
  refine ke_x (y := 22) (by decide) ?_
  apply L_R_init_290
  rw [if_pos (by decide)]
  refine ke_tag (by decide +kernel) ?_
  rw [if_neg (by decide), if_neg (by decide), if_neg (by decide), if_neg (by decide), if_neg (by decide)]
  refine ke_row (c' := 61) (n := 26) (ke_r (by decide +kernel)) (by decide +kernel) (by decide +kernel) (by decide) (by decide) ?_
  refine ke_wi (c' := 61) (v' := 0) (ke_r (by decide +kernel)) (by decide) ?_
  refine ke_x (y := 23) (by decide) ?_
  apply L_R_init_290
  rw [if_pos (by decide)]
  refine ke_tag (by decide +kernel) ?_
  rw [if_neg (by decide), if_neg (by decide), if_neg (by decide), if_neg (by decide), if_neg (by decide)]
  refine ke_row (c' := 61) (n := 26) (ke_r (by decide +kernel)) (by decide +kernel) (by decide +kernel) (by decide) (by decide) ?_
  refine ke_wi (c' := 61) (v' := 0) (ke_r (by decide +kernel)) (by decide) ?_
  refine ke_x (y := 24) (by decide) ?_
  apply L_R_init_290
  rw [if_pos (by decide)]
  refine ke_tag (by decide +kernel) ?_
  rw [if_neg (by decide), if_neg (by decide), if_neg (by decide), if_neg (by decide), if_neg (by decide)]
  refine ke_row (c' := 61) (n := 26) (ke_r (by decide +kernel)) (by decide +kernel) (by decide +kernel) (by decide) (by decide) ?_
  refine ke_wi (c' := 61) (v' := 0) (ke_r (by decide +kernel)) (by decide) ?_
  refine ke_x (y := 25) (by decide) ?_
  apply L_R_init_290
  rw [if_pos (by decide)]
  refine ke_tag (by decide +kernel) ?_
  rw [if_neg (by decide), if_neg (by decide), if_neg (by decide), if_neg (by decide), if_neg (by decide)]
  refine ke_row (c' := 61) (n := 26) (ke_r (by decide +kernel)) (by decide +kernel) (by decide +kernel) (by decide) (by decide) ?_
  refine ke_wi (c' := 61) (v' := 0) (ke_r (by decide +kernel)) (by decide) ?_
  refine ke_x (y := 26) (by decide) ?_
  apply L_R_init_290
  rw [if_neg (by decide)]
  apply L_R_init_318
  rw [if_pos (by decide)]
  refine ke_tag (by decide +kernel) ?_
  refine ke_row (c' := 97) (n := 5) (ke_r (by decide +kernel)) (by decide +kernel) (by decide +kernel) (by decide) (by decide) ?_
  refine ke_wi (c' := 97) (v' := (-1)) (ke_r (by decide +kernel)) (by decide) ?_
  refine ke_x (y := 1) (by decide) ?_
  apply L_R_init_318
  rw [if_pos (by decide)]
  refine ke_tag (by decide +kernel) ?_
  refine ke_row (c' := 97) (n := 5) (ke_r (by decide +kernel)) (by decide +kernel) (by decide +kernel) (by decide) (by decide) ?_
  refine ke_wi (c' := 97) (v' := (-1)) (ke_r (by decide +kernel)) (by decide) ?_
  refine ke_x (y := 2) (by decide) ?_
  apply L_R_init_318
  rw [if_pos (by decide)]
  refine ke_tag (by decide +kernel) ?_
  refine ke_row (c' := 97) (n := 5) (ke_r (by decide +kernel)) (by decide +kernel) (by decide +kernel) (by decide) (by decide) ?_
  refine ke_wi (c' := 97) (v' := (-1)) (ke_r (by decide +kernel)) (by decide) ?_
  refine ke_x (y := 3) (by decide) ?_
  apply L_R_init_318
  rw [if_pos (by decide)]
  refine ke_tag (by decide +kernel) ?_
  refine ke_row (c' := 97) (n := 5) (ke_r (by decide +kernel)) (by decide +kernel) (by decide +kernel) (by decide) (by decide) ?_
  refine ke_wi (c' := 97) (v' := (-1)) (ke_r (by decide +kernel)) (by decide) ?_
  refine ke_x (y := 4) (by decide) ?_
  apply L_R_init_318
  rw [if_pos (by decide)]
  refine ke_tag (by decide +kernel) ?_
  refine ke_row (c' := 97) (n := 5) (ke_r (by decide +kernel)) (by decide +kernel) (by decide +kernel) (by decide) (by decide) ?_
  refine ke_wi (c' := 97) (v' := (-1)) (ke_r (by decide +kernel)) (by decide) ?_
  refine ke_x (y := 5) (by decide) ?_
  apply L_R_init_318
  rw [if_neg (by decide)]
  apply L_R_init_330
  rw [if_pos (by decide)]
  refine ke_tag (by decide +kernel) ?_
  refine ke_row (c' := 89) (n := 12) (ke_r (by decide +kernel)) (by decide +kernel) (by decide +kernel) (by decide) (by decide) ?_
  refine ke_wi (c' := 89) (v' := (-1)) (ke_r (by decide +kernel)) (by decide) ?_
  refine ke_x (y := 1) (by decide) ?_
  apply L_R_init_330
  rw [if_pos (by decide)]
  refine ke_tag (by decide +kernel) ?_
  refine ke_row (c' := 89) (n := 12) (ke_r (by decide +kernel)) (by decide +kernel) (by decide +kernel) (by decide) (by decide) ?_
  refine ke_wi (c' := 89) (v' := (-1)) (ke_r (by decide +kernel)) (by decide) ?_
  refine ke_x (y := 2) (by decide) ?_
  apply L_R_init_330
  rw [if_pos (by decide)]
  refine ke_tag (by decide +kernel) ?_
  refine ke_row (c' := 89) (n := 12) (ke_r (by decide +kernel)) (by decide +kernel) (by decide +kernel) (by decide) (by decide) ?_
  refine ke_wi (c' := 89) (v' := (-1)) (ke_r (by decide +kernel)) (by decide) ?_
  refine ke_x (y := 3) (by decide) ?_
  apply L_R_init_330
  rw [if_pos (by decide)]
  refine ke_tag (by decide +kernel) ?_
  refine ke_row (c' := 89) (n := 12) (ke_r (by decide +kernel)) (by decide +kernel) (by decide +kernel) (by decide) (by decide) ?_
  refine ke_wi (c' := 89) (v' := (-1)) (ke_r (by decide +kernel)) (by decide) ?_
  refine ke_x (y := 4) (by decide) ?_
  apply L_R_init_330
  rw [if_pos (by decide)]
  refine ke_tag (by decide +kernel) ?_
  refine ke_row (c' := 89) (n := 12) (ke_r (by decide +kernel)) (by decide +kernel) (by decide +kernel) (by decide) (by decide) ?_
  refine ke_wi (c' := 89) (v' := (-1)) (ke_r (by decide +kernel)) (by decide) ?_
  refine ke_x (y := 5) (by decide) ?_
  apply L_R_init_330
  rw [if_pos (by decide)]
  refine ke_tag (by decide +kernel) ?_
  refine ke_row (c' := 89) (n := 12) (ke_r (by decide +kernel)) (by decide +kernel) (by decide +kernel) (by decide) (by decide) ?_
  refine ke_wi (c' := 89) (v' := (-1)) (ke_r (by decide +kernel)) (by decide) ?_
  refine ke_x (y := 6) (by decide) ?_
  apply L_R_init_330
  rw [if_pos (by decide)]
  refine ke_tag (by decide +kernel) ?_
  refine ke_row (c' := 89) (n := 12) (ke_r (by decide +kernel)) (by decide +kernel) (by decide +kernel) (by decide) (by decide) ?_
  refine ke_wi (c' := 89) (v' := (-1)) (ke_r (by decide +kernel)) (by decide) ?_
  refine ke_x (y := 7) (by decide) ?_
  apply L_R_init_330
  rw [if_pos (by decide)]
  refine ke_tag (by decide +kernel) ?_
  refine ke_row (c' := 89) (n := 12) (ke_r (by decide +kernel)) (by decide +kernel) (by decide +kernel) (by decide) (by decide) ?_
  refine ke_wi (c' := 89) (v' := (-1)) (ke_r (by decide +kernel)) (by decide) ?_
  refine ke_x (y := 8) (by decide) ?_
  apply L_R_init_330
  rw [if_pos (by decide)]
  refine ke_tag (by decide +kernel) ?_
  refine ke_row (c' := 89) (n := 12) (ke_r (by decide +kernel)) (by decide +kernel) (by decide +kernel) (by decide) (by decide) ?_
  refine ke_wi (c' := 89) (v' := (-1)) (ke_r (by decide +kernel)) (by decide) ?_
  refine ke_x (y := 9) (by decide) ?_
  apply L_R_init_330
  rw [if_pos (by decide)]
  refine ke_tag (by decide +kernel) ?_
  refine ke_row (c' := 89) (n := 12) (ke_r (by decide +kernel)) (by decide +kernel) (by decide +kernel) (by decide) (by decide) ?_
  refine ke_wi (c' := 89) (v' := (-1)) (ke_r (by decide +kernel)) (by decide) ?_
  refine ke_x (y := 10) (by decide) ?_
  apply L_R_init_330
  rw [if_pos (by decide)]
  refine ke_tag (by decide +kernel) ?_
  refine ke_row (c' := 89) (n := 12) (ke_r (by decide +kernel)) (by decide +kernel) (by decide +kernel) (by decide) (by decide) ?_
  refine ke_wi (c' := 89) (v' := (-1)) (ke_r (by decide +kernel)) (by decide) ?_
  refine ke_x (y := 11) (by decide) ?_
  apply L_R_init_330
  rw [if_pos (by decide)]
  refine ke_tag (by decide +kernel) ?_
  refine ke_row (c' := 89) (n := 12) (ke_r (by decide +kernel)) (by decide +kernel) (by decide +kernel) (by decide) (by decide) ?_
  refine ke_wi (c' := 89) (v' := (-1)) (ke_r (by decide +kernel)) (by decide) ?_
  refine ke_x (y := 12) (by decide) ?_
  apply L_R_init_330
  rw [if_neg (by decide)]
  exact K
end IN0
