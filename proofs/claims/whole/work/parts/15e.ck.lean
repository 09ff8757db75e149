/-! every op of every method is the instruction at its byte -/
theorem xkm_Law_law : xckm 0 := by
  intro k hk
  have hl : (xcT.getD 0 []).length = 866 := by decide +kernel
  rw [hl] at hk
  by_cases c0 : k < 40
  · have z : xck 0 (0 + (k - 0)) = true := List.all_eq_true.mp xk_Law_law_0 (k - 0) (List.mem_range.mpr (by omega))
    rw [show 0 + (k - 0) = k by omega] at z; exact z
  by_cases c1 : k < 80
  · have z : xck 0 (40 + (k - 40)) = true := List.all_eq_true.mp xk_Law_law_1 (k - 40) (List.mem_range.mpr (by omega))
    rw [show 40 + (k - 40) = k by omega] at z; exact z
  by_cases c2 : k < 120
  · have z : xck 0 (80 + (k - 80)) = true := List.all_eq_true.mp xk_Law_law_2 (k - 80) (List.mem_range.mpr (by omega))
    rw [show 80 + (k - 80) = k by omega] at z; exact z
  by_cases c3 : k < 160
  · have z : xck 0 (120 + (k - 120)) = true := List.all_eq_true.mp xk_Law_law_3 (k - 120) (List.mem_range.mpr (by omega))
    rw [show 120 + (k - 120) = k by omega] at z; exact z
  by_cases c4 : k < 200
  · have z : xck 0 (160 + (k - 160)) = true := List.all_eq_true.mp xk_Law_law_4 (k - 160) (List.mem_range.mpr (by omega))
    rw [show 160 + (k - 160) = k by omega] at z; exact z
  by_cases c5 : k < 240
  · have z : xck 0 (200 + (k - 200)) = true := List.all_eq_true.mp xk_Law_law_5 (k - 200) (List.mem_range.mpr (by omega))
    rw [show 200 + (k - 200) = k by omega] at z; exact z
  by_cases c6 : k < 280
  · have z : xck 0 (240 + (k - 240)) = true := List.all_eq_true.mp xk_Law_law_6 (k - 240) (List.mem_range.mpr (by omega))
    rw [show 240 + (k - 240) = k by omega] at z; exact z
  by_cases c7 : k < 320
  · have z : xck 0 (280 + (k - 280)) = true := List.all_eq_true.mp xk_Law_law_7 (k - 280) (List.mem_range.mpr (by omega))
    rw [show 280 + (k - 280) = k by omega] at z; exact z
  by_cases c8 : k < 360
  · have z : xck 0 (320 + (k - 320)) = true := List.all_eq_true.mp xk_Law_law_8 (k - 320) (List.mem_range.mpr (by omega))
    rw [show 320 + (k - 320) = k by omega] at z; exact z
  by_cases c9 : k < 400
  · have z : xck 0 (360 + (k - 360)) = true := List.all_eq_true.mp xk_Law_law_9 (k - 360) (List.mem_range.mpr (by omega))
    rw [show 360 + (k - 360) = k by omega] at z; exact z
  by_cases c10 : k < 440
  · have z : xck 0 (400 + (k - 400)) = true := List.all_eq_true.mp xk_Law_law_10 (k - 400) (List.mem_range.mpr (by omega))
    rw [show 400 + (k - 400) = k by omega] at z; exact z
  by_cases c11 : k < 480
  · have z : xck 0 (440 + (k - 440)) = true := List.all_eq_true.mp xk_Law_law_11 (k - 440) (List.mem_range.mpr (by omega))
    rw [show 440 + (k - 440) = k by omega] at z; exact z
  by_cases c12 : k < 520
  · have z : xck 0 (480 + (k - 480)) = true := List.all_eq_true.mp xk_Law_law_12 (k - 480) (List.mem_range.mpr (by omega))
    rw [show 480 + (k - 480) = k by omega] at z; exact z
  by_cases c13 : k < 560
  · have z : xck 0 (520 + (k - 520)) = true := List.all_eq_true.mp xk_Law_law_13 (k - 520) (List.mem_range.mpr (by omega))
    rw [show 520 + (k - 520) = k by omega] at z; exact z
  by_cases c14 : k < 600
  · have z : xck 0 (560 + (k - 560)) = true := List.all_eq_true.mp xk_Law_law_14 (k - 560) (List.mem_range.mpr (by omega))
    rw [show 560 + (k - 560) = k by omega] at z; exact z
  by_cases c15 : k < 640
  · have z : xck 0 (600 + (k - 600)) = true := List.all_eq_true.mp xk_Law_law_15 (k - 600) (List.mem_range.mpr (by omega))
    rw [show 600 + (k - 600) = k by omega] at z; exact z
  by_cases c16 : k < 680
  · have z : xck 0 (640 + (k - 640)) = true := List.all_eq_true.mp xk_Law_law_16 (k - 640) (List.mem_range.mpr (by omega))
    rw [show 640 + (k - 640) = k by omega] at z; exact z
  by_cases c17 : k < 720
  · have z : xck 0 (680 + (k - 680)) = true := List.all_eq_true.mp xk_Law_law_17 (k - 680) (List.mem_range.mpr (by omega))
    rw [show 680 + (k - 680) = k by omega] at z; exact z
  by_cases c18 : k < 760
  · have z : xck 0 (720 + (k - 720)) = true := List.all_eq_true.mp xk_Law_law_18 (k - 720) (List.mem_range.mpr (by omega))
    rw [show 720 + (k - 720) = k by omega] at z; exact z
  by_cases c19 : k < 800
  · have z : xck 0 (760 + (k - 760)) = true := List.all_eq_true.mp xk_Law_law_19 (k - 760) (List.mem_range.mpr (by omega))
    rw [show 760 + (k - 760) = k by omega] at z; exact z
  by_cases c20 : k < 840
  · have z : xck 0 (800 + (k - 800)) = true := List.all_eq_true.mp xk_Law_law_20 (k - 800) (List.mem_range.mpr (by omega))
    rw [show 800 + (k - 800) = k by omega] at z; exact z
  by_cases c21 : k < 866
  · have z : xck 0 (840 + (k - 840)) = true := List.all_eq_true.mp xk_Law_law_21 (k - 840) (List.mem_range.mpr (by omega))
    rw [show 840 + (k - 840) = k by omega] at z; exact z
  omega
theorem xkm_Book_init : xckm 1 := by
  intro k hk
  have hl : (xcT.getD 1 []).length = 20 := by decide +kernel
  rw [hl] at hk
  by_cases c0 : k < 20
  · have z : xck 1 (0 + (k - 0)) = true := List.all_eq_true.mp xk_Book_init_0 (k - 0) (List.mem_range.mpr (by omega))
    rw [show 0 + (k - 0) = k by omega] at z; exact z
  omega
theorem xkm_Book_size : xckm 2 := by
  intro k hk
  have hl : (xcT.getD 2 []).length = 3 := by decide +kernel
  rw [hl] at hk
  by_cases c0 : k < 3
  · have z : xck 2 (0 + (k - 0)) = true := List.all_eq_true.mp xk_Book_size_0 (k - 0) (List.mem_range.mpr (by omega))
    rw [show 0 + (k - 0) = k by omega] at z; exact z
  omega
theorem xkm_Book_wordAt : xckm 3 := by
  intro k hk
  have hl : (xcT.getD 3 []).length = 13 := by decide +kernel
  rw [hl] at hk
  by_cases c0 : k < 13
  · have z : xck 3 (0 + (k - 0)) = true := List.all_eq_true.mp xk_Book_wordAt_0 (k - 0) (List.mem_range.mpr (by omega))
    rw [show 0 + (k - 0) = k by omega] at z; exact z
  omega
theorem xkm_Book_learnWord : xckm 4 := by
  intro k hk
  have hl : (xcT.getD 4 []).length = 68 := by decide +kernel
  rw [hl] at hk
  by_cases c0 : k < 40
  · have z : xck 4 (0 + (k - 0)) = true := List.all_eq_true.mp xk_Book_learnWord_0 (k - 0) (List.mem_range.mpr (by omega))
    rw [show 0 + (k - 0) = k by omega] at z; exact z
  by_cases c1 : k < 68
  · have z : xck 4 (40 + (k - 40)) = true := List.all_eq_true.mp xk_Book_learnWord_1 (k - 40) (List.mem_range.mpr (by omega))
    rw [show 40 + (k - 40) = k by omega] at z; exact z
  omega
theorem xkm_Book_forgetWord : xckm 5 := by
  intro k hk
  have hl : (xcT.getD 5 []).length = 50 := by decide +kernel
  rw [hl] at hk
  by_cases c0 : k < 40
  · have z : xck 5 (0 + (k - 0)) = true := List.all_eq_true.mp xk_Book_forgetWord_0 (k - 0) (List.mem_range.mpr (by omega))
    rw [show 0 + (k - 0) = k by omega] at z; exact z
  by_cases c1 : k < 50
  · have z : xck 5 (40 + (k - 40)) = true := List.all_eq_true.mp xk_Book_forgetWord_1 (k - 40) (List.mem_range.mpr (by omega))
    rw [show 40 + (k - 40) = k by omega] at z; exact z
  omega
theorem xkm_Book_entryOf : xckm 6 := by
  intro k hk
  have hl : (xcT.getD 6 []).length = 19 := by decide +kernel
  rw [hl] at hk
  by_cases c0 : k < 19
  · have z : xck 6 (0 + (k - 0)) = true := List.all_eq_true.mp xk_Book_entryOf_0 (k - 0) (List.mem_range.mpr (by omega))
    rw [show 0 + (k - 0) = k by omega] at z; exact z
  omega
theorem xkm_Book_placeFor : xckm 7 := by
  intro k hk
  have hl : (xcT.getD 7 []).length = 25 := by decide +kernel
  rw [hl] at hk
  by_cases c0 : k < 25
  · have z : xck 7 (0 + (k - 0)) = true := List.all_eq_true.mp xk_Book_placeFor_0 (k - 0) (List.mem_range.mpr (by omega))
    rw [show 0 + (k - 0) = k by omega] at z; exact z
  omega
theorem xkm_Book_isAt : xckm 8 := by
  intro k hk
  have hl : (xcT.getD 8 []).length = 16 := by decide +kernel
  rw [hl] at hk
  by_cases c0 : k < 16
  · have z : xck 8 (0 + (k - 0)) = true := List.all_eq_true.mp xk_Book_isAt_0 (k - 0) (List.mem_range.mpr (by omega))
    rw [show 0 + (k - 0) = k by omega] at z; exact z
  omega
theorem xkm_Book_readTold : xckm 9 := by
  intro k hk
  have hl : (xcT.getD 9 []).length = 65 := by decide +kernel
  rw [hl] at hk
  by_cases c0 : k < 40
  · have z : xck 9 (0 + (k - 0)) = true := List.all_eq_true.mp xk_Book_readTold_0 (k - 0) (List.mem_range.mpr (by omega))
    rw [show 0 + (k - 0) = k by omega] at z; exact z
  by_cases c1 : k < 65
  · have z : xck 9 (40 + (k - 40)) = true := List.all_eq_true.mp xk_Book_readTold_1 (k - 40) (List.mem_range.mpr (by omega))
    rw [show 40 + (k - 40) = k by omega] at z; exact z
  omega
theorem xkm_Book_markOf : xckm 10 := by
  intro k hk
  have hl : (xcT.getD 10 []).length = 10 := by decide +kernel
  rw [hl] at hk
  by_cases c0 : k < 10
  · have z : xck 10 (0 + (k - 0)) = true := List.all_eq_true.mp xk_Book_markOf_0 (k - 0) (List.mem_range.mpr (by omega))
    rw [show 0 + (k - 0) = k by omega] at z; exact z
  omega
theorem xkm_Foot_init : xckm 11 := by
  intro k hk
  have hl : (xcT.getD 11 []).length = 44 := by decide +kernel
  rw [hl] at hk
  by_cases c0 : k < 40
  · have z : xck 11 (0 + (k - 0)) = true := List.all_eq_true.mp xk_Foot_init_0 (k - 0) (List.mem_range.mpr (by omega))
    rw [show 0 + (k - 0) = k by omega] at z; exact z
  by_cases c1 : k < 44
  · have z : xck 11 (40 + (k - 40)) = true := List.all_eq_true.mp xk_Foot_init_1 (k - 40) (List.mem_range.mpr (by omega))
    rw [show 40 + (k - 40) = k by omega] at z; exact z
  omega
theorem xkm_Foot_isClosing : xckm 12 := by
  intro k hk
  have hl : (xcT.getD 12 []).length = 8 := by decide +kernel
  rw [hl] at hk
  by_cases c0 : k < 8
  · have z : xck 12 (0 + (k - 0)) = true := List.all_eq_true.mp xk_Foot_isClosing_0 (k - 0) (List.mem_range.mpr (by omega))
    rw [show 0 + (k - 0) = k by omega] at z; exact z
  omega
theorem xkm_Foot_codes : xckm 13 := by
  intro k hk
  have hl : (xcT.getD 13 []).length = 3 := by decide +kernel
  rw [hl] at hk
  by_cases c0 : k < 3
  · have z : xck 13 (0 + (k - 0)) = true := List.all_eq_true.mp xk_Foot_codes_0 (k - 0) (List.mem_range.mpr (by omega))
    rw [show 0 + (k - 0) = k by omega] at z; exact z
  omega
theorem xkm_Foot_need : xckm 14 := by
  intro k hk
  have hl : (xcT.getD 14 []).length = 20 := by decide +kernel
  rw [hl] at hk
  by_cases c0 : k < 20
  · have z : xck 14 (0 + (k - 0)) = true := List.all_eq_true.mp xk_Foot_need_0 (k - 0) (List.mem_range.mpr (by omega))
    rw [show 0 + (k - 0) = k by omega] at z; exact z
  omega
theorem xkm_Foot_next : xckm 15 := by
  intro k hk
  have hl : (xcT.getD 15 []).length = 20 := by decide +kernel
  rw [hl] at hk
  by_cases c0 : k < 20
  · have z : xck 15 (0 + (k - 0)) = true := List.all_eq_true.mp xk_Foot_next_0 (k - 0) (List.mem_range.mpr (by omega))
    rw [show 0 + (k - 0) = k by omega] at z; exact z
  omega
theorem xkm_Foot_asksCut : xckm 16 := by
  intro k hk
  have hl : (xcT.getD 16 []).length = 14 := by decide +kernel
  rw [hl] at hk
  by_cases c0 : k < 14
  · have z : xck 16 (0 + (k - 0)) = true := List.all_eq_true.mp xk_Foot_asksCut_0 (k - 0) (List.mem_range.mpr (by omega))
    rw [show 0 + (k - 0) = k by omega] at z; exact z
  omega
theorem xkm_Foot_mayEnd : xckm 17 := by
  intro k hk
  have hl : (xcT.getD 17 []).length = 14 := by decide +kernel
  rw [hl] at hk
  by_cases c0 : k < 14
  · have z : xck 17 (0 + (k - 0)) = true := List.all_eq_true.mp xk_Foot_mayEnd_0 (k - 0) (List.mem_range.mpr (by omega))
    rw [show 0 + (k - 0) = k by omega] at z; exact z
  omega
theorem xkm_Foot_buildFree : xckm 18 := by
  intro k hk
  have hl : (xcT.getD 18 []).length = 74 := by decide +kernel
  rw [hl] at hk
  by_cases c0 : k < 40
  · have z : xck 18 (0 + (k - 0)) = true := List.all_eq_true.mp xk_Foot_buildFree_0 (k - 0) (List.mem_range.mpr (by omega))
    rw [show 0 + (k - 0) = k by omega] at z; exact z
  by_cases c1 : k < 74
  · have z : xck 18 (40 + (k - 40)) = true := List.all_eq_true.mp xk_Foot_buildFree_1 (k - 40) (List.mem_range.mpr (by omega))
    rw [show 40 + (k - 40) = k by omega] at z; exact z
  omega
theorem xkm_Foot_buildPlaces : xckm 19 := by
  intro k hk
  have hl : (xcT.getD 19 []).length = 105 := by decide +kernel
  rw [hl] at hk
  by_cases c0 : k < 40
  · have z : xck 19 (0 + (k - 0)) = true := List.all_eq_true.mp xk_Foot_buildPlaces_0 (k - 0) (List.mem_range.mpr (by omega))
    rw [show 0 + (k - 0) = k by omega] at z; exact z
  by_cases c1 : k < 80
  · have z : xck 19 (40 + (k - 40)) = true := List.all_eq_true.mp xk_Foot_buildPlaces_1 (k - 40) (List.mem_range.mpr (by omega))
    rw [show 40 + (k - 40) = k by omega] at z; exact z
  by_cases c2 : k < 105
  · have z : xck 19 (80 + (k - 80)) = true := List.all_eq_true.mp xk_Foot_buildPlaces_2 (k - 80) (List.mem_range.mpr (by omega))
    rw [show 80 + (k - 80) = k by omega] at z; exact z
  omega
theorem xkm_Foot_addChoice : xckm 20 := by
  intro k hk
  have hl : (xcT.getD 20 []).length = 48 := by decide +kernel
  rw [hl] at hk
  by_cases c0 : k < 40
  · have z : xck 20 (0 + (k - 0)) = true := List.all_eq_true.mp xk_Foot_addChoice_0 (k - 0) (List.mem_range.mpr (by omega))
    rw [show 0 + (k - 0) = k by omega] at z; exact z
  by_cases c1 : k < 48
  · have z : xck 20 (40 + (k - 40)) = true := List.all_eq_true.mp xk_Foot_addChoice_1 (k - 40) (List.mem_range.mpr (by omega))
    rw [show 40 + (k - 40) = k by omega] at z; exact z
  omega
theorem xkm_Language_init : xckm 21 := by
  intro k hk
  have hl : (xcT.getD 21 []).length = 42 := by decide +kernel
  rw [hl] at hk
  by_cases c0 : k < 40
  · have z : xck 21 (0 + (k - 0)) = true := List.all_eq_true.mp xk_Language_init_0 (k - 0) (List.mem_range.mpr (by omega))
    rw [show 0 + (k - 0) = k by omega] at z; exact z
  by_cases c1 : k < 42
  · have z : xck 21 (40 + (k - 40)) = true := List.all_eq_true.mp xk_Language_init_1 (k - 40) (List.mem_range.mpr (by omega))
    rw [show 40 + (k - 40) = k by omega] at z; exact z
  omega
theorem xkm_Language_isLetter : xckm 22 := by
  intro k hk
  have hl : (xcT.getD 22 []).length = 10 := by decide +kernel
  rw [hl] at hk
  by_cases c0 : k < 10
  · have z : xck 22 (0 + (k - 0)) = true := List.all_eq_true.mp xk_Language_isLetter_0 (k - 0) (List.mem_range.mpr (by omega))
    rw [show 0 + (k - 0) = k by omega] at z; exact z
  omega
theorem xkm_Language_vowelCount : xckm 23 := by
  intro k hk
  have hl : (xcT.getD 23 []).length = 3 := by decide +kernel
  rw [hl] at hk
  by_cases c0 : k < 3
  · have z : xck 23 (0 + (k - 0)) = true := List.all_eq_true.mp xk_Language_vowelCount_0 (k - 0) (List.mem_range.mpr (by omega))
    rw [show 0 + (k - 0) = k by omega] at z; exact z
  omega
theorem xkm_Language_pairCount : xckm 24 := by
  intro k hk
  have hl : (xcT.getD 24 []).length = 3 := by decide +kernel
  rw [hl] at hk
  by_cases c0 : k < 3
  · have z : xck 24 (0 + (k - 0)) = true := List.all_eq_true.mp xk_Language_pairCount_0 (k - 0) (List.mem_range.mpr (by omega))
    rw [show 0 + (k - 0) = k by omega] at z; exact z
  omega
theorem xkm_Language_setVowel : xckm 25 := by
  intro k hk
  have hl : (xcT.getD 25 []).length = 31 := by decide +kernel
  rw [hl] at hk
  by_cases c0 : k < 31
  · have z : xck 25 (0 + (k - 0)) = true := List.all_eq_true.mp xk_Language_setVowel_0 (k - 0) (List.mem_range.mpr (by omega))
    rw [show 0 + (k - 0) = k by omega] at z; exact z
  omega
theorem xkm_Language_setPair : xckm 26 := by
  intro k hk
  have hl : (xcT.getD 26 []).length = 71 := by decide +kernel
  rw [hl] at hk
  by_cases c0 : k < 40
  · have z : xck 26 (0 + (k - 0)) = true := List.all_eq_true.mp xk_Language_setPair_0 (k - 0) (List.mem_range.mpr (by omega))
    rw [show 0 + (k - 0) = k by omega] at z; exact z
  by_cases c1 : k < 71
  · have z : xck 26 (40 + (k - 40)) = true := List.all_eq_true.mp xk_Language_setPair_1 (k - 40) (List.mem_range.mpr (by omega))
    rw [show 40 + (k - 40) = k by omega] at z; exact z
  omega
theorem xkm_Language_pairAt : xckm 27 := by
  intro k hk
  have hl : (xcT.getD 27 []).length = 48 := by decide +kernel
  rw [hl] at hk
  by_cases c0 : k < 40
  · have z : xck 27 (0 + (k - 0)) = true := List.all_eq_true.mp xk_Language_pairAt_0 (k - 0) (List.mem_range.mpr (by omega))
    rw [show 0 + (k - 0) = k by omega] at z; exact z
  by_cases c1 : k < 48
  · have z : xck 27 (40 + (k - 40)) = true := List.all_eq_true.mp xk_Language_pairAt_1 (k - 40) (List.mem_range.mpr (by omega))
    rw [show 40 + (k - 40) = k by omega] at z; exact z
  omega
theorem xkm_Language_isPairAt : xckm 28 := by
  intro k hk
  have hl : (xcT.getD 28 []).length = 10 := by decide +kernel
  rw [hl] at hk
  by_cases c0 : k < 10
  · have z : xck 28 (0 + (k - 0)) = true := List.all_eq_true.mp xk_Language_isPairAt_0 (k - 0) (List.mem_range.mpr (by omega))
    rw [show 0 + (k - 0) = k by omega] at z; exact z
  omega
theorem xkm_Language_isVowelAt : xckm 29 := by
  intro k hk
  have hl : (xcT.getD 29 []).length = 46 := by decide +kernel
  rw [hl] at hk
  by_cases c0 : k < 40
  · have z : xck 29 (0 + (k - 0)) = true := List.all_eq_true.mp xk_Language_isVowelAt_0 (k - 0) (List.mem_range.mpr (by omega))
    rw [show 0 + (k - 0) = k by omega] at z; exact z
  by_cases c1 : k < 46
  · have z : xck 29 (40 + (k - 40)) = true := List.all_eq_true.mp xk_Language_isVowelAt_1 (k - 40) (List.mem_range.mpr (by omega))
    rw [show 40 + (k - 40) = k by omega] at z; exact z
  omega
theorem xkm_Language_soundCode : xckm 30 := by
  intro k hk
  have hl : (xcT.getD 30 []).length = 53 := by decide +kernel
  rw [hl] at hk
  by_cases c0 : k < 40
  · have z : xck 30 (0 + (k - 0)) = true := List.all_eq_true.mp xk_Language_soundCode_0 (k - 0) (List.mem_range.mpr (by omega))
    rw [show 0 + (k - 0) = k by omega] at z; exact z
  by_cases c1 : k < 53
  · have z : xck 30 (40 + (k - 40)) = true := List.all_eq_true.mp xk_Language_soundCode_1 (k - 40) (List.mem_range.mpr (by omega))
    rw [show 40 + (k - 40) = k by omega] at z; exact z
  omega
theorem xkm_Language_vowelSounds : xckm 31 := by
  intro k hk
  have hl : (xcT.getD 31 []).length = 29 := by decide +kernel
  rw [hl] at hk
  by_cases c0 : k < 29
  · have z : xck 31 (0 + (k - 0)) = true := List.all_eq_true.mp xk_Language_vowelSounds_0 (k - 0) (List.mem_range.mpr (by omega))
    rw [show 0 + (k - 0) = k by omega] at z; exact z
  omega
theorem xkm_Language_firstVowel : xckm 32 := by
  intro k hk
  have hl : (xcT.getD 32 []).length = 28 := by decide +kernel
  rw [hl] at hk
  by_cases c0 : k < 28
  · have z : xck 32 (0 + (k - 0)) = true := List.all_eq_true.mp xk_Language_firstVowel_0 (k - 0) (List.mem_range.mpr (by omega))
    rw [show 0 + (k - 0) = k by omega] at z; exact z
  omega
theorem xkm_Language_traitsOf : xckm 33 := by
  intro k hk
  have hl : (xcT.getD 33 []).length = 44 := by decide +kernel
  rw [hl] at hk
  by_cases c0 : k < 40
  · have z : xck 33 (0 + (k - 0)) = true := List.all_eq_true.mp xk_Language_traitsOf_0 (k - 0) (List.mem_range.mpr (by omega))
    rw [show 0 + (k - 0) = k by omega] at z; exact z
  by_cases c1 : k < 44
  · have z : xck 33 (40 + (k - 40)) = true := List.all_eq_true.mp xk_Language_traitsOf_1 (k - 40) (List.mem_range.mpr (by omega))
    rw [show 40 + (k - 40) = k by omega] at z; exact z
  omega
theorem xkm_LineReader_init : xckm 34 := by
  intro k hk
  have hl : (xcT.getD 34 []).length = 22 := by decide +kernel
  rw [hl] at hk
  by_cases c0 : k < 22
  · have z : xck 34 (0 + (k - 0)) = true := List.all_eq_true.mp xk_LineReader_init_0 (k - 0) (List.mem_range.mpr (by omega))
    rw [show 0 + (k - 0) = k by omega] at z; exact z
  omega
theorem xkm_LineReader_faultSort : xckm 35 := by
  intro k hk
  have hl : (xcT.getD 35 []).length = 3 := by decide +kernel
  rw [hl] at hk
  by_cases c0 : k < 3
  · have z : xck 35 (0 + (k - 0)) = true := List.all_eq_true.mp xk_LineReader_faultSort_0 (k - 0) (List.mem_range.mpr (by omega))
    rw [show 0 + (k - 0) = k by omega] at z; exact z
  omega
theorem xkm_LineReader_faultPlace : xckm 36 := by
  intro k hk
  have hl : (xcT.getD 36 []).length = 3 := by decide +kernel
  rw [hl] at hk
  by_cases c0 : k < 3
  · have z : xck 36 (0 + (k - 0)) = true := List.all_eq_true.mp xk_LineReader_faultPlace_0 (k - 0) (List.mem_range.mpr (by omega))
    rw [show 0 + (k - 0) = k by omega] at z; exact z
  omega
theorem xkm_LineReader_readLine : xckm 37 := by
  intro k hk
  have hl : (xcT.getD 37 []).length = 86 := by decide +kernel
  rw [hl] at hk
  by_cases c0 : k < 40
  · have z : xck 37 (0 + (k - 0)) = true := List.all_eq_true.mp xk_LineReader_readLine_0 (k - 0) (List.mem_range.mpr (by omega))
    rw [show 0 + (k - 0) = k by omega] at z; exact z
  by_cases c1 : k < 80
  · have z : xck 37 (40 + (k - 40)) = true := List.all_eq_true.mp xk_LineReader_readLine_1 (k - 40) (List.mem_range.mpr (by omega))
    rw [show 40 + (k - 40) = k by omega] at z; exact z
  by_cases c2 : k < 86
  · have z : xck 37 (80 + (k - 80)) = true := List.all_eq_true.mp xk_LineReader_readLine_2 (k - 80) (List.mem_range.mpr (by omega))
    rw [show 80 + (k - 80) = k by omega] at z; exact z
  omega
theorem xkm_LineReader_lineRead : xckm 38 := by
  intro k hk
  have hl : (xcT.getD 38 []).length = 12 := by decide +kernel
  rw [hl] at hk
  by_cases c0 : k < 12
  · have z : xck 38 (0 + (k - 0)) = true := List.all_eq_true.mp xk_LineReader_lineRead_0 (k - 0) (List.mem_range.mpr (by omega))
    rw [show 0 + (k - 0) = k by omega] at z; exact z
  omega
theorem xkm_LineReader_withWord : xckm 39 := by
  intro k hk
  have hl : (xcT.getD 39 []).length = 53 := by decide +kernel
  rw [hl] at hk
  by_cases c0 : k < 40
  · have z : xck 39 (0 + (k - 0)) = true := List.all_eq_true.mp xk_LineReader_withWord_0 (k - 0) (List.mem_range.mpr (by omega))
    rw [show 0 + (k - 0) = k by omega] at z; exact z
  by_cases c1 : k < 53
  · have z : xck 39 (40 + (k - 40)) = true := List.all_eq_true.mp xk_LineReader_withWord_1 (k - 40) (List.mem_range.mpr (by omega))
    rw [show 40 + (k - 40) = k by omega] at z; exact z
  omega
theorem xkm_LineReader_setFault : xckm 40 := by
  intro k hk
  have hl : (xcT.getD 40 []).length = 9 := by decide +kernel
  rw [hl] at hk
  by_cases c0 : k < 9
  · have z : xck 40 (0 + (k - 0)) = true := List.all_eq_true.mp xk_LineReader_setFault_0 (k - 0) (List.mem_range.mpr (by omega))
    rw [show 0 + (k - 0) = k by omega] at z; exact z
  omega
theorem xkm_LineReader_addWord : xckm 41 := by
  intro k hk
  have hl : (xcT.getD 41 []).length = 54 := by decide +kernel
  rw [hl] at hk
  by_cases c0 : k < 40
  · have z : xck 41 (0 + (k - 0)) = true := List.all_eq_true.mp xk_LineReader_addWord_0 (k - 0) (List.mem_range.mpr (by omega))
    rw [show 0 + (k - 0) = k by omega] at z; exact z
  by_cases c1 : k < 54
  · have z : xck 41 (40 + (k - 40)) = true := List.all_eq_true.mp xk_LineReader_addWord_1 (k - 40) (List.mem_range.mpr (by omega))
    rw [show 40 + (k - 40) = k by omega] at z; exact z
  omega
theorem xkm_LineReader_addEntry : xckm 42 := by
  intro k hk
  have hl : (xcT.getD 42 []).length = 21 := by decide +kernel
  rw [hl] at hk
  by_cases c0 : k < 21
  · have z : xck 42 (0 + (k - 0)) = true := List.all_eq_true.mp xk_LineReader_addEntry_0 (k - 0) (List.mem_range.mpr (by omega))
    rw [show 0 + (k - 0) = k by omega] at z; exact z
  omega
theorem xkm_LineReader_addByRules : xckm 43 := by
  intro k hk
  have hl : (xcT.getD 43 []).length = 107 := by decide +kernel
  rw [hl] at hk
  by_cases c0 : k < 40
  · have z : xck 43 (0 + (k - 0)) = true := List.all_eq_true.mp xk_LineReader_addByRules_0 (k - 0) (List.mem_range.mpr (by omega))
    rw [show 0 + (k - 0) = k by omega] at z; exact z
  by_cases c1 : k < 80
  · have z : xck 43 (40 + (k - 40)) = true := List.all_eq_true.mp xk_LineReader_addByRules_1 (k - 40) (List.mem_range.mpr (by omega))
    rw [show 40 + (k - 40) = k by omega] at z; exact z
  by_cases c2 : k < 107
  · have z : xck 43 (80 + (k - 80)) = true := List.all_eq_true.mp xk_LineReader_addByRules_2 (k - 80) (List.mem_range.mpr (by omega))
    rw [show 80 + (k - 80) = k by omega] at z; exact z
  omega
theorem xkm_LineReader_addRuled : xckm 44 := by
  intro k hk
  have hl : (xcT.getD 44 []).length = 21 := by decide +kernel
  rw [hl] at hk
  by_cases c0 : k < 21
  · have z : xck 44 (0 + (k - 0)) = true := List.all_eq_true.mp xk_LineReader_addRuled_0 (k - 0) (List.mem_range.mpr (by omega))
    rw [show 0 + (k - 0) = k by omega] at z; exact z
  omega
theorem xkm_Metre_init : xckm 45 := by
  intro k hk
  have hl : (xcT.getD 45 []).length = 27 := by decide +kernel
  rw [hl] at hk
  by_cases c0 : k < 27
  · have z : xck 45 (0 + (k - 0)) = true := List.all_eq_true.mp xk_Metre_init_0 (k - 0) (List.mem_range.mpr (by omega))
    rw [show 0 + (k - 0) = k by omega] at z; exact z
  omega
theorem xkm_Metre_setFoot : xckm 46 := by
  intro k hk
  have hl : (xcT.getD 46 []).length = 49 := by decide +kernel
  rw [hl] at hk
  by_cases c0 : k < 40
  · have z : xck 46 (0 + (k - 0)) = true := List.all_eq_true.mp xk_Metre_setFoot_0 (k - 0) (List.mem_range.mpr (by omega))
    rw [show 0 + (k - 0) = k by omega] at z; exact z
  by_cases c1 : k < 49
  · have z : xck 46 (40 + (k - 40)) = true := List.all_eq_true.mp xk_Metre_setFoot_1 (k - 40) (List.mem_range.mpr (by omega))
    rw [show 40 + (k - 40) = k by omega] at z; exact z
  omega
theorem xkm_Metre_mayHave : xckm 47 := by
  intro k hk
  have hl : (xcT.getD 47 []).length = 41 := by decide +kernel
  rw [hl] at hk
  by_cases c0 : k < 40
  · have z : xck 47 (0 + (k - 0)) = true := List.all_eq_true.mp xk_Metre_mayHave_0 (k - 0) (List.mem_range.mpr (by omega))
    rw [show 0 + (k - 0) = k by omega] at z; exact z
  by_cases c1 : k < 41
  · have z : xck 47 (40 + (k - 40)) = true := List.all_eq_true.mp xk_Metre_mayHave_1 (k - 40) (List.mem_range.mpr (by omega))
    rw [show 40 + (k - 40) = k by omega] at z; exact z
  omega
theorem xkm_Metre_placesOf : xckm 48 := by
  intro k hk
  have hl : (xcT.getD 48 []).length = 40 := by decide +kernel
  rw [hl] at hk
  by_cases c0 : k < 40
  · have z : xck 48 (0 + (k - 0)) = true := List.all_eq_true.mp xk_Metre_placesOf_0 (k - 0) (List.mem_range.mpr (by omega))
    rw [show 0 + (k - 0) = k by omega] at z; exact z
  omega
theorem xkm_Metre_setPosition : xckm 49 := by
  intro k hk
  have hl : (xcT.getD 49 []).length = 52 := by decide +kernel
  rw [hl] at hk
  by_cases c0 : k < 40
  · have z : xck 49 (0 + (k - 0)) = true := List.all_eq_true.mp xk_Metre_setPosition_0 (k - 0) (List.mem_range.mpr (by omega))
    rw [show 0 + (k - 0) = k by omega] at z; exact z
  by_cases c1 : k < 52
  · have z : xck 49 (40 + (k - 40)) = true := List.all_eq_true.mp xk_Metre_setPosition_1 (k - 40) (List.mem_range.mpr (by omega))
    rw [show 40 + (k - 40) = k by omega] at z; exact z
  omega
theorem xkm_Metre_setCuts : xckm 50 := by
  intro k hk
  have hl : (xcT.getD 50 []).length = 24 := by decide +kernel
  rw [hl] at hk
  by_cases c0 : k < 24
  · have z : xck 50 (0 + (k - 0)) = true := List.all_eq_true.mp xk_Metre_setCuts_0 (k - 0) (List.mem_range.mpr (by omega))
    rw [show 0 + (k - 0) = k by omega] at z; exact z
  omega
theorem xkm_Metre_setPrice : xckm 51 := by
  intro k hk
  have hl : (xcT.getD 51 []).length = 25 := by decide +kernel
  rw [hl] at hk
  by_cases c0 : k < 25
  · have z : xck 51 (0 + (k - 0)) = true := List.all_eq_true.mp xk_Metre_setPrice_0 (k - 0) (List.mem_range.mpr (by omega))
    rw [show 0 + (k - 0) = k by omega] at z; exact z
  omega
theorem xkm_Metre_price : xckm 52 := by
  intro k hk
  have hl : (xcT.getD 52 []).length = 12 := by decide +kernel
  rw [hl] at hk
  by_cases c0 : k < 12
  · have z : xck 52 (0 + (k - 0)) = true := List.all_eq_true.mp xk_Metre_price_0 (k - 0) (List.mem_range.mpr (by omega))
    rw [show 0 + (k - 0) = k by omega] at z; exact z
  omega
theorem xkm_Metre_isForm : xckm 53 := by
  intro k hk
  have hl : (xcT.getD 53 []).length = 14 := by decide +kernel
  rw [hl] at hk
  by_cases c0 : k < 14
  · have z : xck 53 (0 + (k - 0)) = true := List.all_eq_true.mp xk_Metre_isForm_0 (k - 0) (List.mem_range.mpr (by omega))
    rw [show 0 + (k - 0) = k by omega] at z; exact z
  omega
theorem xkm_Metre_positions : xckm 54 := by
  intro k hk
  have hl : (xcT.getD 54 []).length = 11 := by decide +kernel
  rw [hl] at hk
  by_cases c0 : k < 11
  · have z : xck 54 (0 + (k - 0)) = true := List.all_eq_true.mp xk_Metre_positions_0 (k - 0) (List.mem_range.mpr (by omega))
    rw [show 0 + (k - 0) = k by omega] at z; exact z
  omega
theorem xkm_Metre_cutBehind : xckm 55 := by
  intro k hk
  have hl : (xcT.getD 55 []).length = 24 := by decide +kernel
  rw [hl] at hk
  by_cases c0 : k < 24
  · have z : xck 55 (0 + (k - 0)) = true := List.all_eq_true.mp xk_Metre_cutBehind_0 (k - 0) (List.mem_range.mpr (by omega))
    rw [show 0 + (k - 0) = k by omega] at z; exact z
  omega
theorem xkm_Metre_footAt : xckm 56 := by
  intro k hk
  have hl : (xcT.getD 56 []).length = 48 := by decide +kernel
  rw [hl] at hk
  by_cases c0 : k < 40
  · have z : xck 56 (0 + (k - 0)) = true := List.all_eq_true.mp xk_Metre_footAt_0 (k - 0) (List.mem_range.mpr (by omega))
    rw [show 0 + (k - 0) = k by omega] at z; exact z
  by_cases c1 : k < 48
  · have z : xck 56 (40 + (k - 40)) = true := List.all_eq_true.mp xk_Metre_footAt_1 (k - 40) (List.mem_range.mpr (by omega))
    rw [show 40 + (k - 40) = k by omega] at z; exact z
  omega
theorem xkm_Metre_setByUse : xckm 57 := by
  intro k hk
  have hl : (xcT.getD 57 []).length = 40 := by decide +kernel
  rw [hl] at hk
  by_cases c0 : k < 40
  · have z : xck 57 (0 + (k - 0)) = true := List.all_eq_true.mp xk_Metre_setByUse_0 (k - 0) (List.mem_range.mpr (by omega))
    rw [show 0 + (k - 0) = k by omega] at z; exact z
  omega
theorem xkm_Near_init : xckm 58 := by
  intro k hk
  have hl : (xcT.getD 58 []).length = 20 := by decide +kernel
  rw [hl] at hk
  by_cases c0 : k < 20
  · have z : xck 58 (0 + (k - 0)) = true := List.all_eq_true.mp xk_Near_init_0 (k - 0) (List.mem_range.mpr (by omega))
    rw [show 0 + (k - 0) = k by omega] at z; exact z
  omega
theorem xkm_Near_changes : xckm 59 := by
  intro k hk
  have hl : (xcT.getD 59 []).length = 72 := by decide +kernel
  rw [hl] at hk
  by_cases c0 : k < 40
  · have z : xck 59 (0 + (k - 0)) = true := List.all_eq_true.mp xk_Near_changes_0 (k - 0) (List.mem_range.mpr (by omega))
    rw [show 0 + (k - 0) = k by omega] at z; exact z
  by_cases c1 : k < 72
  · have z : xck 59 (40 + (k - 40)) = true := List.all_eq_true.mp xk_Near_changes_1 (k - 40) (List.mem_range.mpr (by omega))
    rw [show 40 + (k - 40) = k by omega] at z; exact z
  omega
theorem xkm_Near_fillGate : xckm 60 := by
  intro k hk
  have hl : (xcT.getD 60 []).length = 110 := by decide +kernel
  rw [hl] at hk
  by_cases c0 : k < 40
  · have z : xck 60 (0 + (k - 0)) = true := List.all_eq_true.mp xk_Near_fillGate_0 (k - 0) (List.mem_range.mpr (by omega))
    rw [show 0 + (k - 0) = k by omega] at z; exact z
  by_cases c1 : k < 80
  · have z : xck 60 (40 + (k - 40)) = true := List.all_eq_true.mp xk_Near_fillGate_1 (k - 40) (List.mem_range.mpr (by omega))
    rw [show 40 + (k - 40) = k by omega] at z; exact z
  by_cases c2 : k < 110
  · have z : xck 60 (80 + (k - 80)) = true := List.all_eq_true.mp xk_Near_fillGate_2 (k - 80) (List.mem_range.mpr (by omega))
    rw [show 80 + (k - 80) = k by omega] at z; exact z
  omega
theorem xkm_Near_fillFoot : xckm 61 := by
  intro k hk
  have hl : (xcT.getD 61 []).length = 42 := by decide +kernel
  rw [hl] at hk
  by_cases c0 : k < 40
  · have z : xck 61 (0 + (k - 0)) = true := List.all_eq_true.mp xk_Near_fillFoot_0 (k - 0) (List.mem_range.mpr (by omega))
    rw [show 0 + (k - 0) = k by omega] at z; exact z
  by_cases c1 : k < 42
  · have z : xck 61 (40 + (k - 40)) = true := List.all_eq_true.mp xk_Near_fillFoot_1 (k - 40) (List.mem_range.mpr (by omega))
    rw [show 40 + (k - 40) = k by omega] at z; exact z
  omega
theorem xkm_Near_stateValue : xckm 62 := by
  intro k hk
  have hl : (xcT.getD 62 []).length = 59 := by decide +kernel
  rw [hl] at hk
  by_cases c0 : k < 40
  · have z : xck 62 (0 + (k - 0)) = true := List.all_eq_true.mp xk_Near_stateValue_0 (k - 0) (List.mem_range.mpr (by omega))
    rw [show 0 + (k - 0) = k by omega] at z; exact z
  by_cases c1 : k < 59
  · have z : xck 62 (40 + (k - 40)) = true := List.all_eq_true.mp xk_Near_stateValue_1 (k - 40) (List.mem_range.mpr (by omega))
    rw [show 40 + (k - 40) = k by omega] at z; exact z
  omega
theorem xkm_Near_leastChoice : xckm 63 := by
  intro k hk
  have hl : (xcT.getD 63 []).length = 78 := by decide +kernel
  rw [hl] at hk
  by_cases c0 : k < 40
  · have z : xck 63 (0 + (k - 0)) = true := List.all_eq_true.mp xk_Near_leastChoice_0 (k - 0) (List.mem_range.mpr (by omega))
    rw [show 0 + (k - 0) = k by omega] at z; exact z
  by_cases c1 : k < 78
  · have z : xck 63 (40 + (k - 40)) = true := List.all_eq_true.mp xk_Near_leastChoice_1 (k - 40) (List.mem_range.mpr (by omega))
    rw [show 40 + (k - 40) = k by omega] at z; exact z
  omega
theorem xkm_Near_cell : xckm 64 := by
  intro k hk
  have hl : (xcT.getD 64 []).length = 33 := by decide +kernel
  rw [hl] at hk
  by_cases c0 : k < 33
  · have z : xck 64 (0 + (k - 0)) = true := List.all_eq_true.mp xk_Near_cell_0 (k - 0) (List.mem_range.mpr (by omega))
    rw [show 0 + (k - 0) = k by omega] at z; exact z
  omega
theorem xkm_Near_setCell : xckm 65 := by
  intro k hk
  have hl : (xcT.getD 65 []).length = 32 := by decide +kernel
  rw [hl] at hk
  by_cases c0 : k < 32
  · have z : xck 65 (0 + (k - 0)) = true := List.all_eq_true.mp xk_Near_setCell_0 (k - 0) (List.mem_range.mpr (by omega))
    rw [show 0 + (k - 0) = k by omega] at z; exact z
  omega
theorem xkm_Poem_init : xckm 66 := by
  intro k hk
  have hl : (xcT.getD 66 []).length = 72 := by decide +kernel
  rw [hl] at hk
  by_cases c0 : k < 40
  · have z : xck 66 (0 + (k - 0)) = true := List.all_eq_true.mp xk_Poem_init_0 (k - 0) (List.mem_range.mpr (by omega))
    rw [show 0 + (k - 0) = k by omega] at z; exact z
  by_cases c1 : k < 72
  · have z : xck 66 (40 + (k - 40)) = true := List.all_eq_true.mp xk_Poem_init_1 (k - 40) (List.mem_range.mpr (by omega))
    rw [show 40 + (k - 40) = k by omega] at z; exact z
  omega
theorem xkm_Poem_lineCount : xckm 67 := by
  intro k hk
  have hl : (xcT.getD 67 []).length = 3 := by decide +kernel
  rw [hl] at hk
  by_cases c0 : k < 3
  · have z : xck 67 (0 + (k - 0)) = true := List.all_eq_true.mp xk_Poem_lineCount_0 (k - 0) (List.mem_range.mpr (by omega))
    rw [show 0 + (k - 0) = k by omega] at z; exact z
  omega
theorem xkm_Poem_placeCount : xckm 68 := by
  intro k hk
  have hl : (xcT.getD 68 []).length = 3 := by decide +kernel
  rw [hl] at hk
  by_cases c0 : k < 3
  · have z : xck 68 (0 + (k - 0)) = true := List.all_eq_true.mp xk_Poem_placeCount_0 (k - 0) (List.mem_range.mpr (by omega))
    rw [show 0 + (k - 0) = k by omega] at z; exact z
  omega
theorem xkm_Poem_lineAt : xckm 69 := by
  intro k hk
  have hl : (xcT.getD 69 []).length = 12 := by decide +kernel
  rw [hl] at hk
  by_cases c0 : k < 12
  · have z : xck 69 (0 + (k - 0)) = true := List.all_eq_true.mp xk_Poem_lineAt_0 (k - 0) (List.mem_range.mpr (by omega))
    rw [show 0 + (k - 0) = k by omega] at z; exact z
  omega
theorem xkm_Poem_keepLine : xckm 70 := by
  intro k hk
  have hl : (xcT.getD 70 []).length = 26 := by decide +kernel
  rw [hl] at hk
  by_cases c0 : k < 26
  · have z : xck 70 (0 + (k - 0)) = true := List.all_eq_true.mp xk_Poem_keepLine_0 (k - 0) (List.mem_range.mpr (by omega))
    rw [show 0 + (k - 0) = k by omega] at z; exact z
  omega
theorem xkm_Poem_dropLine : xckm 71 := by
  intro k hk
  have hl : (xcT.getD 71 []).length = 28 := by decide +kernel
  rw [hl] at hk
  by_cases c0 : k < 28
  · have z : xck 71 (0 + (k - 0)) = true := List.all_eq_true.mp xk_Poem_dropLine_0 (k - 0) (List.mem_range.mpr (by omega))
    rw [show 0 + (k - 0) = k by omega] at z; exact z
  omega
theorem xkm_Poem_rhymeOf : xckm 72 := by
  intro k hk
  have hl : (xcT.getD 72 []).length = 34 := by decide +kernel
  rw [hl] at hk
  by_cases c0 : k < 34
  · have z : xck 72 (0 + (k - 0)) = true := List.all_eq_true.mp xk_Poem_rhymeOf_0 (k - 0) (List.mem_range.mpr (by omega))
    rw [show 0 + (k - 0) = k by omega] at z; exact z
  omega
theorem xkm_Poem_letterOf : xckm 73 := by
  intro k hk
  have hl : (xcT.getD 73 []).length = 31 := by decide +kernel
  rw [hl] at hk
  by_cases c0 : k < 31
  · have z : xck 73 (0 + (k - 0)) = true := List.all_eq_true.mp xk_Poem_letterOf_0 (k - 0) (List.mem_range.mpr (by omega))
    rw [show 0 + (k - 0) = k by omega] at z; exact z
  omega
theorem xkm_Poem_firstOfRhyme : xckm 74 := by
  intro k hk
  have hl : (xcT.getD 74 []).length = 27 := by decide +kernel
  rw [hl] at hk
  by_cases c0 : k < 27
  · have z : xck 74 (0 + (k - 0)) = true := List.all_eq_true.mp xk_Poem_firstOfRhyme_0 (k - 0) (List.mem_range.mpr (by omega))
    rw [show 0 + (k - 0) = k by omega] at z; exact z
  omega
theorem xkm_Poem_setPlace : xckm 75 := by
  intro k hk
  have hl : (xcT.getD 75 []).length = 84 := by decide +kernel
  rw [hl] at hk
  by_cases c0 : k < 40
  · have z : xck 75 (0 + (k - 0)) = true := List.all_eq_true.mp xk_Poem_setPlace_0 (k - 0) (List.mem_range.mpr (by omega))
    rw [show 0 + (k - 0) = k by omega] at z; exact z
  by_cases c1 : k < 80
  · have z : xck 75 (40 + (k - 40)) = true := List.all_eq_true.mp xk_Poem_setPlace_1 (k - 40) (List.mem_range.mpr (by omega))
    rw [show 40 + (k - 40) = k by omega] at z; exact z
  by_cases c2 : k < 84
  · have z : xck 75 (80 + (k - 80)) = true := List.all_eq_true.mp xk_Poem_setPlace_2 (k - 80) (List.mem_range.mpr (by omega))
    rw [show 80 + (k - 80) = k by omega] at z; exact z
  omega
theorem xkm_Poem_layLines : xckm 76 := by
  intro k hk
  have hl : (xcT.getD 76 []).length = 128 := by decide +kernel
  rw [hl] at hk
  by_cases c0 : k < 40
  · have z : xck 76 (0 + (k - 0)) = true := List.all_eq_true.mp xk_Poem_layLines_0 (k - 0) (List.mem_range.mpr (by omega))
    rw [show 0 + (k - 0) = k by omega] at z; exact z
  by_cases c1 : k < 80
  · have z : xck 76 (40 + (k - 40)) = true := List.all_eq_true.mp xk_Poem_layLines_1 (k - 40) (List.mem_range.mpr (by omega))
    rw [show 40 + (k - 40) = k by omega] at z; exact z
  by_cases c2 : k < 120
  · have z : xck 76 (80 + (k - 80)) = true := List.all_eq_true.mp xk_Poem_layLines_2 (k - 80) (List.mem_range.mpr (by omega))
    rw [show 80 + (k - 80) = k by omega] at z; exact z
  by_cases c3 : k < 128
  · have z : xck 76 (120 + (k - 120)) = true := List.all_eq_true.mp xk_Poem_layLines_3 (k - 120) (List.mem_range.mpr (by omega))
    rw [show 120 + (k - 120) = k by omega] at z; exact z
  omega
theorem xkm_Poem_mayLieOn : xckm 77 := by
  intro k hk
  have hl : (xcT.getD 77 []).length = 38 := by decide +kernel
  rw [hl] at hk
  by_cases c0 : k < 38
  · have z : xck 77 (0 + (k - 0)) = true := List.all_eq_true.mp xk_Poem_mayLieOn_0 (k - 0) (List.mem_range.mpr (by omega))
    rw [show 0 + (k - 0) = k by omega] at z; exact z
  omega
theorem xkm_Poem_layWithout : xckm 78 := by
  intro k hk
  have hl : (xcT.getD 78 []).length = 86 := by decide +kernel
  rw [hl] at hk
  by_cases c0 : k < 40
  · have z : xck 78 (0 + (k - 0)) = true := List.all_eq_true.mp xk_Poem_layWithout_0 (k - 0) (List.mem_range.mpr (by omega))
    rw [show 0 + (k - 0) = k by omega] at z; exact z
  by_cases c1 : k < 80
  · have z : xck 78 (40 + (k - 40)) = true := List.all_eq_true.mp xk_Poem_layWithout_1 (k - 40) (List.mem_range.mpr (by omega))
    rw [show 40 + (k - 40) = k by omega] at z; exact z
  by_cases c2 : k < 86
  · have z : xck 78 (80 + (k - 80)) = true := List.all_eq_true.mp xk_Poem_layWithout_2 (k - 80) (List.mem_range.mpr (by omega))
    rw [show 80 + (k - 80) = k by omega] at z; exact z
  omega
theorem xkm_Poem_nextLine : xckm 79 := by
  intro k hk
  have hl : (xcT.getD 79 []).length = 16 := by decide +kernel
  rw [hl] at hk
  by_cases c0 : k < 16
  · have z : xck 79 (0 + (k - 0)) = true := List.all_eq_true.mp xk_Poem_nextLine_0 (k - 0) (List.mem_range.mpr (by omega))
    rw [show 0 + (k - 0) = k by omega] at z; exact z
  omega
theorem xkm_Poem_weighLine : xckm 80 := by
  intro k hk
  have hl : (xcT.getD 80 []).length = 109 := by decide +kernel
  rw [hl] at hk
  by_cases c0 : k < 40
  · have z : xck 80 (0 + (k - 0)) = true := List.all_eq_true.mp xk_Poem_weighLine_0 (k - 0) (List.mem_range.mpr (by omega))
    rw [show 0 + (k - 0) = k by omega] at z; exact z
  by_cases c1 : k < 80
  · have z : xck 80 (40 + (k - 40)) = true := List.all_eq_true.mp xk_Poem_weighLine_1 (k - 40) (List.mem_range.mpr (by omega))
    rw [show 40 + (k - 40) = k by omega] at z; exact z
  by_cases c2 : k < 109
  · have z : xck 80 (80 + (k - 80)) = true := List.all_eq_true.mp xk_Poem_weighLine_2 (k - 80) (List.mem_range.mpr (by omega))
    rw [show 80 + (k - 80) = k by omega] at z; exact z
  omega
theorem xkm_Poem_laidOut : xckm 81 := by
  intro k hk
  have hl : (xcT.getD 81 []).length = 26 := by decide +kernel
  rw [hl] at hk
  by_cases c0 : k < 26
  · have z : xck 81 (0 + (k - 0)) = true := List.all_eq_true.mp xk_Poem_laidOut_0 (k - 0) (List.mem_range.mpr (by omega))
    rw [show 0 + (k - 0) = k by omega] at z; exact z
  omega
theorem xkm_Poem_learnPrices : xckm 82 := by
  intro k hk
  have hl : (xcT.getD 82 []).length = 55 := by decide +kernel
  rw [hl] at hk
  by_cases c0 : k < 40
  · have z : xck 82 (0 + (k - 0)) = true := List.all_eq_true.mp xk_Poem_learnPrices_0 (k - 0) (List.mem_range.mpr (by omega))
    rw [show 0 + (k - 0) = k by omega] at z; exact z
  by_cases c1 : k < 55
  · have z : xck 82 (40 + (k - 40)) = true := List.all_eq_true.mp xk_Poem_learnPrices_1 (k - 40) (List.mem_range.mpr (by omega))
    rw [show 40 + (k - 40) = k by omega] at z; exact z
  omega
theorem xkm_Poem_countUses : xckm 83 := by
  intro k hk
  have hl : (xcT.getD 83 []).length = 44 := by decide +kernel
  rw [hl] at hk
  by_cases c0 : k < 40
  · have z : xck 83 (0 + (k - 0)) = true := List.all_eq_true.mp xk_Poem_countUses_0 (k - 0) (List.mem_range.mpr (by omega))
    rw [show 0 + (k - 0) = k by omega] at z; exact z
  by_cases c1 : k < 44
  · have z : xck 83 (40 + (k - 40)) = true := List.all_eq_true.mp xk_Poem_countUses_1 (k - 40) (List.mem_range.mpr (by omega))
    rw [show 40 + (k - 40) = k by omega] at z; exact z
  omega
theorem xkm_Readings_init : xckm 84 := by
  intro k hk
  have hl : (xcT.getD 84 []).length = 31 := by decide +kernel
  rw [hl] at hk
  by_cases c0 : k < 31
  · have z : xck 84 (0 + (k - 0)) = true := List.all_eq_true.mp xk_Readings_init_0 (k - 0) (List.mem_range.mpr (by omega))
    rw [show 0 + (k - 0) = k by omega] at z; exact z
  omega
theorem xkm_Readings_layOut : xckm 85 := by
  intro k hk
  have hl : (xcT.getD 85 []).length = 88 := by decide +kernel
  rw [hl] at hk
  by_cases c0 : k < 40
  · have z : xck 85 (0 + (k - 0)) = true := List.all_eq_true.mp xk_Readings_layOut_0 (k - 0) (List.mem_range.mpr (by omega))
    rw [show 0 + (k - 0) = k by omega] at z; exact z
  by_cases c1 : k < 80
  · have z : xck 85 (40 + (k - 40)) = true := List.all_eq_true.mp xk_Readings_layOut_1 (k - 40) (List.mem_range.mpr (by omega))
    rw [show 40 + (k - 40) = k by omega] at z; exact z
  by_cases c2 : k < 88
  · have z : xck 85 (80 + (k - 80)) = true := List.all_eq_true.mp xk_Readings_layOut_2 (k - 80) (List.mem_range.mpr (by omega))
    rw [show 80 + (k - 80) = k by omega] at z; exact z
  omega
theorem xkm_Readings_priceOf : xckm 86 := by
  intro k hk
  have hl : (xcT.getD 86 []).length = 16 := by decide +kernel
  rw [hl] at hk
  by_cases c0 : k < 16
  · have z : xck 86 (0 + (k - 0)) = true := List.all_eq_true.mp xk_Readings_priceOf_0 (k - 0) (List.mem_range.mpr (by omega))
    rw [show 0 + (k - 0) = k by omega] at z; exact z
  omega
theorem xkm_Readings_lengthOf : xckm 87 := by
  intro k hk
  have hl : (xcT.getD 87 []).length = 26 := by decide +kernel
  rw [hl] at hk
  by_cases c0 : k < 26
  · have z : xck 87 (0 + (k - 0)) = true := List.all_eq_true.mp xk_Readings_lengthOf_0 (k - 0) (List.mem_range.mpr (by omega))
    rw [show 0 + (k - 0) = k by omega] at z; exact z
  omega
theorem xkm_Readings_partOf : xckm 88 := by
  intro k hk
  have hl : (xcT.getD 88 []).length = 40 := by decide +kernel
  rw [hl] at hk
  by_cases c0 : k < 40
  · have z : xck 88 (0 + (k - 0)) = true := List.all_eq_true.mp xk_Readings_partOf_0 (k - 0) (List.mem_range.mpr (by omega))
    rw [show 0 + (k - 0) = k by omega] at z; exact z
  omega
theorem xkm_Readings_priceOfSteps : xckm 89 := by
  intro k hk
  have hl : (xcT.getD 89 []).length = 36 := by decide +kernel
  rw [hl] at hk
  by_cases c0 : k < 36
  · have z : xck 89 (0 + (k - 0)) = true := List.all_eq_true.mp xk_Readings_priceOfSteps_0 (k - 0) (List.mem_range.mpr (by omega))
    rw [show 0 + (k - 0) = k by omega] at z; exact z
  omega
theorem xkm_Readings_putInOrder : xckm 90 := by
  intro k hk
  have hl : (xcT.getD 90 []).length = 47 := by decide +kernel
  rw [hl] at hk
  by_cases c0 : k < 40
  · have z : xck 90 (0 + (k - 0)) = true := List.all_eq_true.mp xk_Readings_putInOrder_0 (k - 0) (List.mem_range.mpr (by omega))
    rw [show 0 + (k - 0) = k by omega] at z; exact z
  by_cases c1 : k < 47
  · have z : xck 90 (40 + (k - 40)) = true := List.all_eq_true.mp xk_Readings_putInOrder_1 (k - 40) (List.mem_range.mpr (by omega))
    rw [show 40 + (k - 40) = k by omega] at z; exact z
  omega
theorem xkm_Readings_isAhead : xckm 91 := by
  intro k hk
  have hl : (xcT.getD 91 []).length = 105 := by decide +kernel
  rw [hl] at hk
  by_cases c0 : k < 40
  · have z : xck 91 (0 + (k - 0)) = true := List.all_eq_true.mp xk_Readings_isAhead_0 (k - 0) (List.mem_range.mpr (by omega))
    rw [show 0 + (k - 0) = k by omega] at z; exact z
  by_cases c1 : k < 80
  · have z : xck 91 (40 + (k - 40)) = true := List.all_eq_true.mp xk_Readings_isAhead_1 (k - 40) (List.mem_range.mpr (by omega))
    rw [show 40 + (k - 40) = k by omega] at z; exact z
  by_cases c2 : k < 105
  · have z : xck 91 (80 + (k - 80)) = true := List.all_eq_true.mp xk_Readings_isAhead_2 (k - 80) (List.mem_range.mpr (by omega))
    rw [show 80 + (k - 80) = k by omega] at z; exact z
  omega
theorem xkm_Scanner_init : xckm 92 := by
  intro k hk
  have hl : (xcT.getD 92 []).length = 45 := by decide +kernel
  rw [hl] at hk
  by_cases c0 : k < 40
  · have z : xck 92 (0 + (k - 0)) = true := List.all_eq_true.mp xk_Scanner_init_0 (k - 0) (List.mem_range.mpr (by omega))
    rw [show 0 + (k - 0) = k by omega] at z; exact z
  by_cases c1 : k < 45
  · have z : xck 92 (40 + (k - 40)) = true := List.all_eq_true.mp xk_Scanner_init_1 (k - 40) (List.mem_range.mpr (by omega))
    rw [show 40 + (k - 40) = k by omega] at z; exact z
  omega
theorem xkm_Scanner_howMany : xckm 93 := by
  intro k hk
  have hl : (xcT.getD 93 []).length = 13 := by decide +kernel
  rw [hl] at hk
  by_cases c0 : k < 13
  · have z : xck 93 (0 + (k - 0)) = true := List.all_eq_true.mp xk_Scanner_howMany_0 (k - 0) (List.mem_range.mpr (by omega))
    rw [show 0 + (k - 0) = k by omega] at z; exact z
  omega
theorem xkm_Scanner_cheapest : xckm 94 := by
  intro k hk
  have hl : (xcT.getD 94 []).length = 19 := by decide +kernel
  rw [hl] at hk
  by_cases c0 : k < 19
  · have z : xck 94 (0 + (k - 0)) = true := List.all_eq_true.mp xk_Scanner_cheapest_0 (k - 0) (List.mem_range.mpr (by omega))
    rw [show 0 + (k - 0) = k by omega] at z; exact z
  omega
theorem xkm_Scanner_ownPrice : xckm 95 := by
  intro k hk
  have hl : (xcT.getD 95 []).length = 23 := by decide +kernel
  rw [hl] at hk
  by_cases c0 : k < 23
  · have z : xck 95 (0 + (k - 0)) = true := List.all_eq_true.mp xk_Scanner_ownPrice_0 (k - 0) (List.mem_range.mpr (by omega))
    rw [show 0 + (k - 0) = k by omega] at z; exact z
  omega
theorem xkm_Scanner_meltPrice : xckm 96 := by
  intro k hk
  have hl : (xcT.getD 96 []).length = 12 := by decide +kernel
  rw [hl] at hk
  by_cases c0 : k < 12
  · have z : xck 96 (0 + (k - 0)) = true := List.all_eq_true.mp xk_Scanner_meltPrice_0 (k - 0) (List.mem_range.mpr (by omega))
    rw [show 0 + (k - 0) = k by omega] at z; exact z
  omega
theorem xkm_Scanner_lostPrice : xckm 97 := by
  intro k hk
  have hl : (xcT.getD 97 []).length = 12 := by decide +kernel
  rw [hl] at hk
  by_cases c0 : k < 12
  · have z : xck 97 (0 + (k - 0)) = true := List.all_eq_true.mp xk_Scanner_lostPrice_0 (k - 0) (List.mem_range.mpr (by omega))
    rw [show 0 + (k - 0) = k by omega] at z; exact z
  omega
theorem xkm_Scanner_extraPrice : xckm 98 := by
  intro k hk
  have hl : (xcT.getD 98 []).length = 17 := by decide +kernel
  rw [hl] at hk
  by_cases c0 : k < 17
  · have z : xck 98 (0 + (k - 0)) = true := List.all_eq_true.mp xk_Scanner_extraPrice_0 (k - 0) (List.mem_range.mpr (by omega))
    rw [show 0 + (k - 0) = k by omega] at z; exact z
  omega
theorem xkm_Scanner_valueAt : xckm 99 := by
  intro k hk
  have hl : (xcT.getD 99 []).length = 55 := by decide +kernel
  rw [hl] at hk
  by_cases c0 : k < 40
  · have z : xck 99 (0 + (k - 0)) = true := List.all_eq_true.mp xk_Scanner_valueAt_0 (k - 0) (List.mem_range.mpr (by omega))
    rw [show 0 + (k - 0) = k by omega] at z; exact z
  by_cases c1 : k < 55
  · have z : xck 99 (40 + (k - 40)) = true := List.all_eq_true.mp xk_Scanner_valueAt_1 (k - 40) (List.mem_range.mpr (by omega))
    rw [show 40 + (k - 40) = k by omega] at z; exact z
  omega
theorem xkm_Scanner_join : xckm 100 := by
  intro k hk
  have hl : (xcT.getD 100 []).length = 15 := by decide +kernel
  rw [hl] at hk
  by_cases c0 : k < 15
  · have z : xck 100 (0 + (k - 0)) = true := List.all_eq_true.mp xk_Scanner_join_0 (k - 0) (List.mem_range.mpr (by omega))
    rw [show 0 + (k - 0) = k by omega] at z; exact z
  omega
theorem xkm_Scanner_fill : xckm 101 := by
  intro k hk
  have hl : (xcT.getD 101 []).length = 91 := by decide +kernel
  rw [hl] at hk
  by_cases c0 : k < 40
  · have z : xck 101 (0 + (k - 0)) = true := List.all_eq_true.mp xk_Scanner_fill_0 (k - 0) (List.mem_range.mpr (by omega))
    rw [show 0 + (k - 0) = k by omega] at z; exact z
  by_cases c1 : k < 80
  · have z : xck 101 (40 + (k - 40)) = true := List.all_eq_true.mp xk_Scanner_fill_1 (k - 40) (List.mem_range.mpr (by omega))
    rw [show 40 + (k - 40) = k by omega] at z; exact z
  by_cases c2 : k < 91
  · have z : xck 101 (80 + (k - 80)) = true := List.all_eq_true.mp xk_Scanner_fill_2 (k - 80) (List.mem_range.mpr (by omega))
    rw [show 80 + (k - 80) = k by omega] at z; exact z
  omega
theorem xkm_Scanner_priceSyllables : xckm 102 := by
  intro k hk
  have hl : (xcT.getD 102 []).length = 127 := by decide +kernel
  rw [hl] at hk
  by_cases c0 : k < 40
  · have z : xck 102 (0 + (k - 0)) = true := List.all_eq_true.mp xk_Scanner_priceSyllables_0 (k - 0) (List.mem_range.mpr (by omega))
    rw [show 0 + (k - 0) = k by omega] at z; exact z
  by_cases c1 : k < 80
  · have z : xck 102 (40 + (k - 40)) = true := List.all_eq_true.mp xk_Scanner_priceSyllables_1 (k - 40) (List.mem_range.mpr (by omega))
    rw [show 40 + (k - 40) = k by omega] at z; exact z
  by_cases c2 : k < 120
  · have z : xck 102 (80 + (k - 80)) = true := List.all_eq_true.mp xk_Scanner_priceSyllables_2 (k - 80) (List.mem_range.mpr (by omega))
    rw [show 80 + (k - 80) = k by omega] at z; exact z
  by_cases c3 : k < 127
  · have z : xck 102 (120 + (k - 120)) = true := List.all_eq_true.mp xk_Scanner_priceSyllables_3 (k - 120) (List.mem_range.mpr (by omega))
    rw [show 120 + (k - 120) = k by omega] at z; exact z
  omega
theorem xkm_Scanner_numberFeet : xckm 103 := by
  intro k hk
  have hl : (xcT.getD 103 []).length = 66 := by decide +kernel
  rw [hl] at hk
  by_cases c0 : k < 40
  · have z : xck 103 (0 + (k - 0)) = true := List.all_eq_true.mp xk_Scanner_numberFeet_0 (k - 0) (List.mem_range.mpr (by omega))
    rw [show 0 + (k - 0) = k by omega] at z; exact z
  by_cases c1 : k < 66
  · have z : xck 103 (40 + (k - 40)) = true := List.all_eq_true.mp xk_Scanner_numberFeet_1 (k - 40) (List.mem_range.mpr (by omega))
    rw [show 40 + (k - 40) = k by omega] at z; exact z
  omega
theorem xkm_Scanner_fillFoot : xckm 104 := by
  intro k hk
  have hl : (xcT.getD 104 []).length = 65 := by decide +kernel
  rw [hl] at hk
  by_cases c0 : k < 40
  · have z : xck 104 (0 + (k - 0)) = true := List.all_eq_true.mp xk_Scanner_fillFoot_0 (k - 0) (List.mem_range.mpr (by omega))
    rw [show 0 + (k - 0) = k by omega] at z; exact z
  by_cases c1 : k < 65
  · have z : xck 104 (40 + (k - 40)) = true := List.all_eq_true.mp xk_Scanner_fillFoot_1 (k - 40) (List.mem_range.mpr (by omega))
    rw [show 40 + (k - 40) = k by omega] at z; exact z
  omega
theorem xkm_Scanner_stateValue : xckm 105 := by
  intro k hk
  have hl : (xcT.getD 105 []).length = 88 := by decide +kernel
  rw [hl] at hk
  by_cases c0 : k < 40
  · have z : xck 105 (0 + (k - 0)) = true := List.all_eq_true.mp xk_Scanner_stateValue_0 (k - 0) (List.mem_range.mpr (by omega))
    rw [show 0 + (k - 0) = k by omega] at z; exact z
  by_cases c1 : k < 80
  · have z : xck 105 (40 + (k - 40)) = true := List.all_eq_true.mp xk_Scanner_stateValue_1 (k - 40) (List.mem_range.mpr (by omega))
    rw [show 40 + (k - 40) = k by omega] at z; exact z
  by_cases c2 : k < 88
  · have z : xck 105 (80 + (k - 80)) = true := List.all_eq_true.mp xk_Scanner_stateValue_2 (k - 80) (List.mem_range.mpr (by omega))
    rw [show 80 + (k - 80) = k by omega] at z; exact z
  omega
theorem xkm_Scanner_addChoices : xckm 106 := by
  intro k hk
  have hl : (xcT.getD 106 []).length = 66 := by decide +kernel
  rw [hl] at hk
  by_cases c0 : k < 40
  · have z : xck 106 (0 + (k - 0)) = true := List.all_eq_true.mp xk_Scanner_addChoices_0 (k - 0) (List.mem_range.mpr (by omega))
    rw [show 0 + (k - 0) = k by omega] at z; exact z
  by_cases c1 : k < 66
  · have z : xck 106 (40 + (k - 40)) = true := List.all_eq_true.mp xk_Scanner_addChoices_1 (k - 40) (List.mem_range.mpr (by omega))
    rw [show 40 + (k - 40) = k by omega] at z; exact z
  omega
theorem xkm_Scanner_cell : xckm 107 := by
  intro k hk
  have hl : (xcT.getD 107 []).length = 26 := by decide +kernel
  rw [hl] at hk
  by_cases c0 : k < 26
  · have z : xck 107 (0 + (k - 0)) = true := List.all_eq_true.mp xk_Scanner_cell_0 (k - 0) (List.mem_range.mpr (by omega))
    rw [show 0 + (k - 0) = k by omega] at z; exact z
  omega
theorem xkm_Scanner_finish : xckm 108 := by
  intro k hk
  have hl : (xcT.getD 108 []).length = 28 := by decide +kernel
  rw [hl] at hk
  by_cases c0 : k < 28
  · have z : xck 108 (0 + (k - 0)) = true := List.all_eq_true.mp xk_Scanner_finish_0 (k - 0) (List.mem_range.mpr (by omega))
    rw [show 0 + (k - 0) = k by omega] at z; exact z
  omega
theorem xkm_Syllables_init : xckm 109 := by
  intro k hk
  have hl : (xcT.getD 109 []).length = 31 := by decide +kernel
  rw [hl] at hk
  by_cases c0 : k < 31
  · have z : xck 109 (0 + (k - 0)) = true := List.all_eq_true.mp xk_Syllables_init_0 (k - 0) (List.mem_range.mpr (by omega))
    rw [show 0 + (k - 0) = k by omega] at z; exact z
  omega
theorem xkm_Syllables_init2 : xckm 110 := by
  intro k hk
  have hl : (xcT.getD 110 []).length = 50 := by decide +kernel
  rw [hl] at hk
  by_cases c0 : k < 40
  · have z : xck 110 (0 + (k - 0)) = true := List.all_eq_true.mp xk_Syllables_init2_0 (k - 0) (List.mem_range.mpr (by omega))
    rw [show 0 + (k - 0) = k by omega] at z; exact z
  by_cases c1 : k < 50
  · have z : xck 110 (40 + (k - 40)) = true := List.all_eq_true.mp xk_Syllables_init2_1 (k - 40) (List.mem_range.mpr (by omega))
    rw [show 40 + (k - 40) = k by omega] at z; exact z
  omega
theorem xkm_Syllables_empty : xckm 111 := by
  intro k hk
  have hl : (xcT.getD 111 []).length = 4 := by decide +kernel
  rw [hl] at hk
  by_cases c0 : k < 4
  · have z : xck 111 (0 + (k - 0)) = true := List.all_eq_true.mp xk_Syllables_empty_0 (k - 0) (List.mem_range.mpr (by omega))
    rw [show 0 + (k - 0) = k by omega] at z; exact z
  omega
theorem xkm_Syllables_add : xckm 112 := by
  intro k hk
  have hl : (xcT.getD 112 []).length = 71 := by decide +kernel
  rw [hl] at hk
  by_cases c0 : k < 40
  · have z : xck 112 (0 + (k - 0)) = true := List.all_eq_true.mp xk_Syllables_add_0 (k - 0) (List.mem_range.mpr (by omega))
    rw [show 0 + (k - 0) = k by omega] at z; exact z
  by_cases c1 : k < 71
  · have z : xck 112 (40 + (k - 40)) = true := List.all_eq_true.mp xk_Syllables_add_1 (k - 40) (List.mem_range.mpr (by omega))
    rw [show 40 + (k - 40) = k by omega] at z; exact z
  omega
theorem xkm_Syllables_addFrom : xckm 113 := by
  intro k hk
  have hl : (xcT.getD 113 []).length = 35 := by decide +kernel
  rw [hl] at hk
  by_cases c0 : k < 35
  · have z : xck 113 (0 + (k - 0)) = true := List.all_eq_true.mp xk_Syllables_addFrom_0 (k - 0) (List.mem_range.mpr (by omega))
    rw [show 0 + (k - 0) = k by omega] at z; exact z
  omega
theorem xkm_Syllables_addFromBook : xckm 114 := by
  intro k hk
  have hl : (xcT.getD 114 []).length = 46 := by decide +kernel
  rw [hl] at hk
  by_cases c0 : k < 40
  · have z : xck 114 (0 + (k - 0)) = true := List.all_eq_true.mp xk_Syllables_addFromBook_0 (k - 0) (List.mem_range.mpr (by omega))
    rw [show 0 + (k - 0) = k by omega] at z; exact z
  by_cases c1 : k < 46
  · have z : xck 114 (40 + (k - 40)) = true := List.all_eq_true.mp xk_Syllables_addFromBook_1 (k - 40) (List.mem_range.mpr (by omega))
    rw [show 40 + (k - 40) = k by omega] at z; exact z
  omega
theorem xkm_Syllables_letterCount : xckm 115 := by
  intro k hk
  have hl : (xcT.getD 115 []).length = 6 := by decide +kernel
  rw [hl] at hk
  by_cases c0 : k < 6
  · have z : xck 115 (0 + (k - 0)) = true := List.all_eq_true.mp xk_Syllables_letterCount_0 (k - 0) (List.mem_range.mpr (by omega))
    rw [show 0 + (k - 0) = k by omega] at z; exact z
  omega
theorem xkm_Syllables_letterAt : xckm 116 := by
  intro k hk
  have hl : (xcT.getD 116 []).length = 13 := by decide +kernel
  rw [hl] at hk
  by_cases c0 : k < 13
  · have z : xck 116 (0 + (k - 0)) = true := List.all_eq_true.mp xk_Syllables_letterAt_0 (k - 0) (List.mem_range.mpr (by omega))
    rw [show 0 + (k - 0) = k by omega] at z; exact z
  omega
theorem xkm_Syllables_lettersIn : xckm 117 := by
  intro k hk
  have hl : (xcT.getD 117 []).length = 20 := by decide +kernel
  rw [hl] at hk
  by_cases c0 : k < 20
  · have z : xck 117 (0 + (k - 0)) = true := List.all_eq_true.mp xk_Syllables_lettersIn_0 (k - 0) (List.mem_range.mpr (by omega))
    rw [show 0 + (k - 0) = k by omega] at z; exact z
  omega
theorem xkm_Syllables_letterIn : xckm 118 := by
  intro k hk
  have hl : (xcT.getD 118 []).length = 18 := by decide +kernel
  rw [hl] at hk
  by_cases c0 : k < 18
  · have z : xck 118 (0 + (k - 0)) = true := List.all_eq_true.mp xk_Syllables_letterIn_0 (k - 0) (List.mem_range.mpr (by omega))
    rw [show 0 + (k - 0) = k by omega] at z; exact z
  omega
theorem xkm_Syllables_wordCount : xckm 119 := by
  intro k hk
  have hl : (xcT.getD 119 []).length = 15 := by decide +kernel
  rw [hl] at hk
  by_cases c0 : k < 15
  · have z : xck 119 (0 + (k - 0)) = true := List.all_eq_true.mp xk_Syllables_wordCount_0 (k - 0) (List.mem_range.mpr (by omega))
    rw [show 0 + (k - 0) = k by omega] at z; exact z
  omega
theorem xkm_Syllables_endsWord : xckm 120 := by
  intro k hk
  have hl : (xcT.getD 120 []).length = 29 := by decide +kernel
  rw [hl] at hk
  by_cases c0 : k < 29
  · have z : xck 120 (0 + (k - 0)) = true := List.all_eq_true.mp xk_Syllables_endsWord_0 (k - 0) (List.mem_range.mpr (by omega))
    rw [show 0 + (k - 0) = k by omega] at z; exact z
  omega
theorem xkm_Syllables_meetsVowels : xckm 121 := by
  intro k hk
  have hl : (xcT.getD 121 []).length = 28 := by decide +kernel
  rw [hl] at hk
  by_cases c0 : k < 28
  · have z : xck 121 (0 + (k - 0)) = true := List.all_eq_true.mp xk_Syllables_meetsVowels_0 (k - 0) (List.mem_range.mpr (by omega))
    rw [show 0 + (k - 0) = k by omega] at z; exact z
  omega
theorem xkm_Syllables_mayBeLost : xckm 122 := by
  intro k hk
  have hl : (xcT.getD 122 []).length = 20 := by decide +kernel
  rw [hl] at hk
  by_cases c0 : k < 20
  · have z : xck 122 (0 + (k - 0)) = true := List.all_eq_true.mp xk_Syllables_mayBeLost_0 (k - 0) (List.mem_range.mpr (by omega))
    rw [show 0 + (k - 0) = k by omega] at z; exact z
  omega
theorem xkm_Syllables_mayMelt : xckm 123 := by
  intro k hk
  have hl : (xcT.getD 123 []).length = 12 := by decide +kernel
  rw [hl] at hk
  by_cases c0 : k < 12
  · have z : xck 123 (0 + (k - 0)) = true := List.all_eq_true.mp xk_Syllables_mayMelt_0 (k - 0) (List.mem_range.mpr (by omega))
    rw [show 0 + (k - 0) = k by omega] at z; exact z
  omega
theorem xkm_Syllables_setEnding : xckm 124 := by
  intro k hk
  have hl : (xcT.getD 124 []).length = 112 := by decide +kernel
  rw [hl] at hk
  by_cases c0 : k < 40
  · have z : xck 124 (0 + (k - 0)) = true := List.all_eq_true.mp xk_Syllables_setEnding_0 (k - 0) (List.mem_range.mpr (by omega))
    rw [show 0 + (k - 0) = k by omega] at z; exact z
  by_cases c1 : k < 80
  · have z : xck 124 (40 + (k - 40)) = true := List.all_eq_true.mp xk_Syllables_setEnding_1 (k - 40) (List.mem_range.mpr (by omega))
    rw [show 40 + (k - 40) = k by omega] at z; exact z
  by_cases c2 : k < 112
  · have z : xck 124 (80 + (k - 80)) = true := List.all_eq_true.mp xk_Syllables_setEnding_2 (k - 80) (List.mem_range.mpr (by omega))
    rw [show 80 + (k - 80) = k by omega] at z; exact z
  omega
theorem xkm_Syllables_fullRhyme : xckm 125 := by
  intro k hk
  have hl : (xcT.getD 125 []).length = 46 := by decide +kernel
  rw [hl] at hk
  by_cases c0 : k < 40
  · have z : xck 125 (0 + (k - 0)) = true := List.all_eq_true.mp xk_Syllables_fullRhyme_0 (k - 0) (List.mem_range.mpr (by omega))
    rw [show 0 + (k - 0) = k by omega] at z; exact z
  by_cases c1 : k < 46
  · have z : xck 125 (40 + (k - 40)) = true := List.all_eq_true.mp xk_Syllables_fullRhyme_1 (k - 40) (List.mem_range.mpr (by omega))
    rw [show 40 + (k - 40) = k by omega] at z; exact z
  omega
theorem xkm_Syllables_halfRhyme : xckm 126 := by
  intro k hk
  have hl : (xcT.getD 126 []).length = 72 := by decide +kernel
  rw [hl] at hk
  by_cases c0 : k < 40
  · have z : xck 126 (0 + (k - 0)) = true := List.all_eq_true.mp xk_Syllables_halfRhyme_0 (k - 0) (List.mem_range.mpr (by omega))
    rw [show 0 + (k - 0) = k by omega] at z; exact z
  by_cases c1 : k < 72
  · have z : xck 126 (40 + (k - 40)) = true := List.all_eq_true.mp xk_Syllables_halfRhyme_1 (k - 40) (List.mem_range.mpr (by omega))
    rw [show 40 + (k - 40) = k by omega] at z; exact z
  omega
theorem xkm_Syllables_vowelFrom : xckm 127 := by
  intro k hk
  have hl : (xcT.getD 127 []).length = 31 := by decide +kernel
  rw [hl] at hk
  by_cases c0 : k < 31
  · have z : xck 127 (0 + (k - 0)) = true := List.all_eq_true.mp xk_Syllables_vowelFrom_0 (k - 0) (List.mem_range.mpr (by omega))
    rw [show 0 + (k - 0) = k by omega] at z; exact z
  omega
theorem xkm_Syllables_eyeRhyme : xckm 128 := by
  intro k hk
  have hl : (xcT.getD 128 []).length = 33 := by decide +kernel
  rw [hl] at hk
  by_cases c0 : k < 33
  · have z : xck 128 (0 + (k - 0)) = true := List.all_eq_true.mp xk_Syllables_eyeRhyme_0 (k - 0) (List.mem_range.mpr (by omega))
    rw [show 0 + (k - 0) = k by omega] at z; exact z
  omega
theorem xkm_Syllables_seenLength : xckm 129 := by
  intro k hk
  have hl : (xcT.getD 129 []).length = 36 := by decide +kernel
  rw [hl] at hk
  by_cases c0 : k < 36
  · have z : xck 129 (0 + (k - 0)) = true := List.all_eq_true.mp xk_Syllables_seenLength_0 (k - 0) (List.mem_range.mpr (by omega))
    rw [show 0 + (k - 0) = k by omega] at z; exact z
  omega
theorem xkm_Syllables_sameWords : xckm 130 := by
  intro k hk
  have hl : (xcT.getD 130 []).length = 34 := by decide +kernel
  rw [hl] at hk
  by_cases c0 : k < 34
  · have z : xck 130 (0 + (k - 0)) = true := List.all_eq_true.mp xk_Syllables_sameWords_0 (k - 0) (List.mem_range.mpr (by omega))
    rw [show 0 + (k - 0) = k by omega] at z; exact z
  omega
theorem xkm_Syllables_lettersThrough : xckm 131 := by
  intro k hk
  have hl : (xcT.getD 131 []).length = 19 := by decide +kernel
  rw [hl] at hk
  by_cases c0 : k < 19
  · have z : xck 131 (0 + (k - 0)) = true := List.all_eq_true.mp xk_Syllables_lettersThrough_0 (k - 0) (List.mem_range.mpr (by omega))
    rw [show 0 + (k - 0) = k by omega] at z; exact z
  omega
theorem xkm_Syllables_compareLetters : xckm 132 := by
  intro k hk
  have hl : (xcT.getD 132 []).length = 56 := by decide +kernel
  rw [hl] at hk
  by_cases c0 : k < 40
  · have z : xck 132 (0 + (k - 0)) = true := List.all_eq_true.mp xk_Syllables_compareLetters_0 (k - 0) (List.mem_range.mpr (by omega))
    rw [show 0 + (k - 0) = k by omega] at z; exact z
  by_cases c1 : k < 56
  · have z : xck 132 (40 + (k - 40)) = true := List.all_eq_true.mp xk_Syllables_compareLetters_1 (k - 40) (List.mem_range.mpr (by omega))
    rw [show 40 + (k - 40) = k by omega] at z; exact z
  omega
theorem xkm_Walker_init : xckm 133 := by
  intro k hk
  have hl : (xcT.getD 133 []).length = 40 := by decide +kernel
  rw [hl] at hk
  by_cases c0 : k < 40
  · have z : xck 133 (0 + (k - 0)) = true := List.all_eq_true.mp xk_Walker_init_0 (k - 0) (List.mem_range.mpr (by omega))
    rw [show 0 + (k - 0) = k by omega] at z; exact z
  omega
theorem xkm_Walker_begin : xckm 134 := by
  intro k hk
  have hl : (xcT.getD 134 []).length = 13 := by decide +kernel
  rw [hl] at hk
  by_cases c0 : k < 13
  · have z : xck 134 (0 + (k - 0)) = true := List.all_eq_true.mp xk_Walker_begin_0 (k - 0) (List.mem_range.mpr (by omega))
    rw [show 0 + (k - 0) = k by omega] at z; exact z
  omega
theorem xkm_Walker_isOver : xckm 135 := by
  intro k hk
  have hl : (xcT.getD 135 []).length = 13 := by decide +kernel
  rw [hl] at hk
  by_cases c0 : k < 13
  · have z : xck 135 (0 + (k - 0)) = true := List.all_eq_true.mp xk_Walker_isOver_0 (k - 0) (List.mem_range.mpr (by omega))
    rw [show 0 + (k - 0) = k by omega] at z; exact z
  omega
theorem xkm_Walker_listMoves : xckm 136 := by
  intro k hk
  have hl : (xcT.getD 136 []).length = 139 := by decide +kernel
  rw [hl] at hk
  by_cases c0 : k < 40
  · have z : xck 136 (0 + (k - 0)) = true := List.all_eq_true.mp xk_Walker_listMoves_0 (k - 0) (List.mem_range.mpr (by omega))
    rw [show 0 + (k - 0) = k by omega] at z; exact z
  by_cases c1 : k < 80
  · have z : xck 136 (40 + (k - 40)) = true := List.all_eq_true.mp xk_Walker_listMoves_1 (k - 40) (List.mem_range.mpr (by omega))
    rw [show 40 + (k - 40) = k by omega] at z; exact z
  by_cases c2 : k < 120
  · have z : xck 136 (80 + (k - 80)) = true := List.all_eq_true.mp xk_Walker_listMoves_2 (k - 80) (List.mem_range.mpr (by omega))
    rw [show 80 + (k - 80) = k by omega] at z; exact z
  by_cases c3 : k < 139
  · have z : xck 136 (120 + (k - 120)) = true := List.all_eq_true.mp xk_Walker_listMoves_3 (k - 120) (List.mem_range.mpr (by omega))
    rw [show 120 + (k - 120) = k by omega] at z; exact z
  omega
theorem xkm_Walker_listPosition : xckm 137 := by
  intro k hk
  have hl : (xcT.getD 137 []).length = 24 := by decide +kernel
  rw [hl] at hk
  by_cases c0 : k < 24
  · have z : xck 137 (0 + (k - 0)) = true := List.all_eq_true.mp xk_Walker_listPosition_0 (k - 0) (List.mem_range.mpr (by omega))
    rw [show 0 + (k - 0) = k by omega] at z; exact z
  omega
theorem xkm_Walker_listChoices : xckm 138 := by
  intro k hk
  have hl : (xcT.getD 138 []).length = 123 := by decide +kernel
  rw [hl] at hk
  by_cases c0 : k < 40
  · have z : xck 138 (0 + (k - 0)) = true := List.all_eq_true.mp xk_Walker_listChoices_0 (k - 0) (List.mem_range.mpr (by omega))
    rw [show 0 + (k - 0) = k by omega] at z; exact z
  by_cases c1 : k < 80
  · have z : xck 138 (40 + (k - 40)) = true := List.all_eq_true.mp xk_Walker_listChoices_1 (k - 40) (List.mem_range.mpr (by omega))
    rw [show 40 + (k - 40) = k by omega] at z; exact z
  by_cases c2 : k < 120
  · have z : xck 138 (80 + (k - 80)) = true := List.all_eq_true.mp xk_Walker_listChoices_2 (k - 80) (List.mem_range.mpr (by omega))
    rw [show 80 + (k - 80) = k by omega] at z; exact z
  by_cases c3 : k < 123
  · have z : xck 138 (120 + (k - 120)) = true := List.all_eq_true.mp xk_Walker_listChoices_3 (k - 120) (List.mem_range.mpr (by omega))
    rw [show 120 + (k - 120) = k by omega] at z; exact z
  omega
theorem xkm_Walker_ownWay : xckm 139 := by
  intro k hk
  have hl : (xcT.getD 139 []).length = 15 := by decide +kernel
  rw [hl] at hk
  by_cases c0 : k < 15
  · have z : xck 139 (0 + (k - 0)) = true := List.all_eq_true.mp xk_Walker_ownWay_0 (k - 0) (List.mem_range.mpr (by omega))
    rw [show 0 + (k - 0) = k by omega] at z; exact z
  omega
theorem xkm_Walker_stepOf : xckm 140 := by
  intro k hk
  have hl : (xcT.getD 140 []).length = 9 := by decide +kernel
  rw [hl] at hk
  by_cases c0 : k < 9
  · have z : xck 140 (0 + (k - 0)) = true := List.all_eq_true.mp xk_Walker_stepOf_0 (k - 0) (List.mem_range.mpr (by omega))
    rw [show 0 + (k - 0) = k by omega] at z; exact z
  omega
theorem xkm_Walker_addMove : xckm 141 := by
  intro k hk
  have hl : (xcT.getD 141 []).length = 35 := by decide +kernel
  rw [hl] at hk
  by_cases c0 : k < 35
  · have z : xck 141 (0 + (k - 0)) = true := List.all_eq_true.mp xk_Walker_addMove_0 (k - 0) (List.mem_range.mpr (by omega))
    rw [show 0 + (k - 0) = k by omega] at z; exact z
  omega
theorem xkm_Walker_valueOf : xckm 142 := by
  intro k hk
  have hl : (xcT.getD 142 []).length = 15 := by decide +kernel
  rw [hl] at hk
  by_cases c0 : k < 15
  · have z : xck 142 (0 + (k - 0)) = true := List.all_eq_true.mp xk_Walker_valueOf_0 (k - 0) (List.mem_range.mpr (by omega))
    rw [show 0 + (k - 0) = k by omega] at z; exact z
  omega
theorem xkm_Walker_take : xckm 143 := by
  intro k hk
  have hl : (xcT.getD 143 []).length = 20 := by decide +kernel
  rw [hl] at hk
  by_cases c0 : k < 20
  · have z : xck 143 (0 + (k - 0)) = true := List.all_eq_true.mp xk_Walker_take_0 (k - 0) (List.mem_range.mpr (by omega))
    rw [show 0 + (k - 0) = k by omega] at z; exact z
  omega
theorem xkm_Walker_takeCheapest : xckm 144 := by
  intro k hk
  have hl : (xcT.getD 144 []).length = 52 := by decide +kernel
  rw [hl] at hk
  by_cases c0 : k < 40
  · have z : xck 144 (0 + (k - 0)) = true := List.all_eq_true.mp xk_Walker_takeCheapest_0 (k - 0) (List.mem_range.mpr (by omega))
    rw [show 0 + (k - 0) = k by omega] at z; exact z
  by_cases c1 : k < 52
  · have z : xck 144 (40 + (k - 40)) = true := List.all_eq_true.mp xk_Walker_takeCheapest_1 (k - 40) (List.mem_range.mpr (by omega))
    rw [show 40 + (k - 40) = k by omega] at z; exact z
  omega
theorem xkm_Walker_takeRanked : xckm 145 := by
  intro k hk
  have hl : (xcT.getD 145 []).length = 67 := by decide +kernel
  rw [hl] at hk
  by_cases c0 : k < 40
  · have z : xck 145 (0 + (k - 0)) = true := List.all_eq_true.mp xk_Walker_takeRanked_0 (k - 0) (List.mem_range.mpr (by omega))
    rw [show 0 + (k - 0) = k by omega] at z; exact z
  by_cases c1 : k < 67
  · have z : xck 145 (40 + (k - 40)) = true := List.all_eq_true.mp xk_Walker_takeRanked_1 (k - 40) (List.mem_range.mpr (by omega))
    rw [show 40 + (k - 40) = k by omega] at z; exact z
  omega
theorem xkm_Walker_follow : xckm 146 := by
  intro k hk
  have hl : (xcT.getD 146 []).length = 53 := by decide +kernel
  rw [hl] at hk
  by_cases c0 : k < 40
  · have z : xck 146 (0 + (k - 0)) = true := List.all_eq_true.mp xk_Walker_follow_0 (k - 0) (List.mem_range.mpr (by omega))
    rw [show 0 + (k - 0) = k by omega] at z; exact z
  by_cases c1 : k < 53
  · have z : xck 146 (40 + (k - 40)) = true := List.all_eq_true.mp xk_Walker_follow_1 (k - 40) (List.mem_range.mpr (by omega))
    rw [show 40 + (k - 40) = k by omega] at z; exact z
  omega
theorem xkm_Walker_isTold : xckm 147 := by
  intro k hk
  have hl : (xcT.getD 147 []).length = 30 := by decide +kernel
  rw [hl] at hk
  by_cases c0 : k < 30
  · have z : xck 147 (0 + (k - 0)) = true := List.all_eq_true.mp xk_Walker_isTold_0 (k - 0) (List.mem_range.mpr (by omega))
    rw [show 0 + (k - 0) = k by omega] at z; exact z
  omega
theorem xkm_Walker_wayOf : xckm 148 := by
  intro k hk
  have hl : (xcT.getD 148 []).length = 6 := by decide +kernel
  rw [hl] at hk
  by_cases c0 : k < 6
  · have z : xck 148 (0 + (k - 0)) = true := List.all_eq_true.mp xk_Walker_wayOf_0 (k - 0) (List.mem_range.mpr (by omega))
    rw [show 0 + (k - 0) = k by omega] at z; exact z
  omega
theorem xkm_Walker_licenceOf : xckm 149 := by
  intro k hk
  have hl : (xcT.getD 149 []).length = 15 := by decide +kernel
  rw [hl] at hk
  by_cases c0 : k < 15
  · have z : xck 149 (0 + (k - 0)) = true := List.all_eq_true.mp xk_Walker_licenceOf_0 (k - 0) (List.mem_range.mpr (by omega))
    rw [show 0 + (k - 0) = k by omega] at z; exact z
  omega
theorem xkm_Walker_partOf : xckm 150 := by
  intro k hk
  have hl : (xcT.getD 150 []).length = 44 := by decide +kernel
  rw [hl] at hk
  by_cases c0 : k < 40
  · have z : xck 150 (0 + (k - 0)) = true := List.all_eq_true.mp xk_Walker_partOf_0 (k - 0) (List.mem_range.mpr (by omega))
    rw [show 0 + (k - 0) = k by omega] at z; exact z
  by_cases c1 : k < 44
  · have z : xck 150 (40 + (k - 40)) = true := List.all_eq_true.mp xk_Walker_partOf_1 (k - 40) (List.mem_range.mpr (by omega))
    rw [show 40 + (k - 40) = k by omega] at z; exact z
  omega
theorem xkm_X_init : xckm 151 := by
  intro k hk
  have hl : (xcT.getD 151 []).length = 98 := by decide +kernel
  rw [hl] at hk
  by_cases c0 : k < 40
  · have z : xck 151 (0 + (k - 0)) = true := List.all_eq_true.mp xk_X_init_0 (k - 0) (List.mem_range.mpr (by omega))
    rw [show 0 + (k - 0) = k by omega] at z; exact z
  by_cases c1 : k < 80
  · have z : xck 151 (40 + (k - 40)) = true := List.all_eq_true.mp xk_X_init_1 (k - 40) (List.mem_range.mpr (by omega))
    rw [show 40 + (k - 40) = k by omega] at z; exact z
  by_cases c2 : k < 98
  · have z : xck 151 (80 + (k - 80)) = true := List.all_eq_true.mp xk_X_init_2 (k - 80) (List.mem_range.mpr (by omega))
    rw [show 80 + (k - 80) = k by omega] at z; exact z
  omega
theorem xkm_X_feed : xckm 152 := by
  intro k hk
  have hl : (xcT.getD 152 []).length = 26 := by decide +kernel
  rw [hl] at hk
  by_cases c0 : k < 26
  · have z : xck 152 (0 + (k - 0)) = true := List.all_eq_true.mp xk_X_feed_0 (k - 0) (List.mem_range.mpr (by omega))
    rw [show 0 + (k - 0) = k by omega] at z; exact z
  omega
theorem xkm_X_end : xckm 153 := by
  intro k hk
  have hl : (xcT.getD 153 []).length = 13 := by decide +kernel
  rw [hl] at hk
  by_cases c0 : k < 13
  · have z : xck 153 (0 + (k - 0)) = true := List.all_eq_true.mp xk_X_end_0 (k - 0) (List.mem_range.mpr (by omega))
    rw [show 0 + (k - 0) = k by omega] at z; exact z
  omega
theorem xkm_X_vowel : xckm 154 := by
  intro k hk
  have hl : (xcT.getD 154 []).length = 6 := by decide +kernel
  rw [hl] at hk
  by_cases c0 : k < 6
  · have z : xck 154 (0 + (k - 0)) = true := List.all_eq_true.mp xk_X_vowel_0 (k - 0) (List.mem_range.mpr (by omega))
    rw [show 0 + (k - 0) = k by omega] at z; exact z
  omega
theorem xkm_X_pair : xckm 155 := by
  intro k hk
  have hl : (xcT.getD 155 []).length = 7 := by decide +kernel
  rw [hl] at hk
  by_cases c0 : k < 7
  · have z : xck 155 (0 + (k - 0)) = true := List.all_eq_true.mp xk_X_pair_0 (k - 0) (List.mem_range.mpr (by omega))
    rw [show 0 + (k - 0) = k by omega] at z; exact z
  omega
theorem xkm_X_word : xckm 156 := by
  intro k hk
  have hl : (xcT.getD 156 []).length = 8 := by decide +kernel
  rw [hl] at hk
  by_cases c0 : k < 8
  · have z : xck 156 (0 + (k - 0)) = true := List.all_eq_true.mp xk_X_word_0 (k - 0) (List.mem_range.mpr (by omega))
    rw [show 0 + (k - 0) = k by omega] at z; exact z
  omega
theorem xkm_X_unword : xckm 157 := by
  intro k hk
  have hl : (xcT.getD 157 []).length = 8 := by decide +kernel
  rw [hl] at hk
  by_cases c0 : k < 8
  · have z : xck 157 (0 + (k - 0)) = true := List.all_eq_true.mp xk_X_unword_0 (k - 0) (List.mem_range.mpr (by omega))
    rw [show 0 + (k - 0) = k by omega] at z; exact z
  omega
theorem xkm_X_foot : xckm 158 := by
  intro k hk
  have hl : (xcT.getD 158 []).length = 9 := by decide +kernel
  rw [hl] at hk
  by_cases c0 : k < 9
  · have z : xck 158 (0 + (k - 0)) = true := List.all_eq_true.mp xk_X_foot_0 (k - 0) (List.mem_range.mpr (by omega))
    rw [show 0 + (k - 0) = k by omega] at z; exact z
  omega
theorem xkm_X_form : xckm 159 := by
  intro k hk
  have hl : (xcT.getD 159 []).length = 7 := by decide +kernel
  rw [hl] at hk
  by_cases c0 : k < 7
  · have z : xck 159 (0 + (k - 0)) = true := List.all_eq_true.mp xk_X_form_0 (k - 0) (List.mem_range.mpr (by omega))
    rw [show 0 + (k - 0) = k by omega] at z; exact z
  omega
theorem xkm_X_cut : xckm 160 := by
  intro k hk
  have hl : (xcT.getD 160 []).length = 6 := by decide +kernel
  rw [hl] at hk
  by_cases c0 : k < 6
  · have z : xck 160 (0 + (k - 0)) = true := List.all_eq_true.mp xk_X_cut_0 (k - 0) (List.mem_range.mpr (by omega))
    rw [show 0 + (k - 0) = k by omega] at z; exact z
  omega
theorem xkm_X_licence : xckm 161 := by
  intro k hk
  have hl : (xcT.getD 161 []).length = 6 := by decide +kernel
  rw [hl] at hk
  by_cases c0 : k < 6
  · have z : xck 161 (0 + (k - 0)) = true := List.all_eq_true.mp xk_X_licence_0 (k - 0) (List.mem_range.mpr (by omega))
    rw [show 0 + (k - 0) = k by omega] at z; exact z
  omega
theorem xkm_X_line : xckm 162 := by
  intro k hk
  have hl : (xcT.getD 162 []).length = 19 := by decide +kernel
  rw [hl] at hk
  by_cases c0 : k < 19
  · have z : xck 162 (0 + (k - 0)) = true := List.all_eq_true.mp xk_X_line_0 (k - 0) (List.mem_range.mpr (by omega))
    rw [show 0 + (k - 0) = k by omega] at z; exact z
  omega
theorem xkm_X_fault : xckm 163 := by
  intro k hk
  have hl : (xcT.getD 163 []).length = 15 := by decide +kernel
  rw [hl] at hk
  by_cases c0 : k < 15
  · have z : xck 163 (0 + (k - 0)) = true := List.all_eq_true.mp xk_X_fault_0 (k - 0) (List.mem_range.mpr (by omega))
    rw [show 0 + (k - 0) = k by omega] at z; exact z
  omega
theorem xkm_X_syllable : xckm 164 := by
  intro k hk
  have hl : (xcT.getD 164 []).length = 51 := by decide +kernel
  rw [hl] at hk
  by_cases c0 : k < 40
  · have z : xck 164 (0 + (k - 0)) = true := List.all_eq_true.mp xk_X_syllable_0 (k - 0) (List.mem_range.mpr (by omega))
    rw [show 0 + (k - 0) = k by omega] at z; exact z
  by_cases c1 : k < 51
  · have z : xck 164 (40 + (k - 40)) = true := List.all_eq_true.mp xk_X_syllable_1 (k - 40) (List.mem_range.mpr (by omega))
    rw [show 40 + (k - 40) = k by omega] at z; exact z
  omega
theorem xkm_X_scan : xckm 165 := by
  intro k hk
  have hl : (xcT.getD 165 []).length = 13 := by decide +kernel
  rw [hl] at hk
  by_cases c0 : k < 13
  · have z : xck 165 (0 + (k - 0)) = true := List.all_eq_true.mp xk_X_scan_0 (k - 0) (List.mem_range.mpr (by omega))
    rw [show 0 + (k - 0) = k by omega] at z; exact z
  omega
theorem xkm_X_best : xckm 166 := by
  intro k hk
  have hl : (xcT.getD 166 []).length = 13 := by decide +kernel
  rw [hl] at hk
  by_cases c0 : k < 13
  · have z : xck 166 (0 + (k - 0)) = true := List.all_eq_true.mp xk_X_best_0 (k - 0) (List.mem_range.mpr (by omega))
    rw [show 0 + (k - 0) = k by omega] at z; exact z
  omega
theorem xkm_X_lay : xckm 167 := by
  intro k hk
  have hl : (xcT.getD 167 []).length = 13 := by decide +kernel
  rw [hl] at hk
  by_cases c0 : k < 13
  · have z : xck 167 (0 + (k - 0)) = true := List.all_eq_true.mp xk_X_lay_0 (k - 0) (List.mem_range.mpr (by omega))
    rw [show 0 + (k - 0) = k by omega] at z; exact z
  omega
theorem xkm_X_reading : xckm 168 := by
  intro k hk
  have hl : (xcT.getD 168 []).length = 17 := by decide +kernel
  rw [hl] at hk
  by_cases c0 : k < 17
  · have z : xck 168 (0 + (k - 0)) = true := List.all_eq_true.mp xk_X_reading_0 (k - 0) (List.mem_range.mpr (by omega))
    rw [show 0 + (k - 0) = k by omega] at z; exact z
  omega
theorem xkm_X_step : xckm 169 := by
  intro k hk
  have hl : (xcT.getD 169 []).length = 7 := by decide +kernel
  rw [hl] at hk
  by_cases c0 : k < 7
  · have z : xck 169 (0 + (k - 0)) = true := List.all_eq_true.mp xk_X_step_0 (k - 0) (List.mem_range.mpr (by omega))
    rw [show 0 + (k - 0) = k by omega] at z; exact z
  omega
theorem xkm_X_near : xckm 170 := by
  intro k hk
  have hl : (xcT.getD 170 []).length = 13 := by decide +kernel
  rw [hl] at hk
  by_cases c0 : k < 13
  · have z : xck 170 (0 + (k - 0)) = true := List.all_eq_true.mp xk_X_near_0 (k - 0) (List.mem_range.mpr (by omega))
    rw [show 0 + (k - 0) = k by omega] at z; exact z
  omega
theorem xkm_X_tell : xckm 171 := by
  intro k hk
  have hl : (xcT.getD 171 []).length = 60 := by decide +kernel
  rw [hl] at hk
  by_cases c0 : k < 40
  · have z : xck 171 (0 + (k - 0)) = true := List.all_eq_true.mp xk_X_tell_0 (k - 0) (List.mem_range.mpr (by omega))
    rw [show 0 + (k - 0) = k by omega] at z; exact z
  by_cases c1 : k < 60
  · have z : xck 171 (40 + (k - 40)) = true := List.all_eq_true.mp xk_X_tell_1 (k - 40) (List.mem_range.mpr (by omega))
    rw [show 40 + (k - 40) = k by omega] at z; exact z
  omega
theorem xkm_X_check : xckm 172 := by
  intro k hk
  have hl : (xcT.getD 172 []).length = 29 := by decide +kernel
  rw [hl] at hk
  by_cases c0 : k < 29
  · have z : xck 172 (0 + (k - 0)) = true := List.all_eq_true.mp xk_X_check_0 (k - 0) (List.mem_range.mpr (by omega))
    rw [show 0 + (k - 0) = k by omega] at z; exact z
  omega
theorem xkm_X_keep : xckm 173 := by
  intro k hk
  have hl : (xcT.getD 173 []).length = 12 := by decide +kernel
  rw [hl] at hk
  by_cases c0 : k < 12
  · have z : xck 173 (0 + (k - 0)) = true := List.all_eq_true.mp xk_X_keep_0 (k - 0) (List.mem_range.mpr (by omega))
    rw [show 0 + (k - 0) = k by omega] at z; exact z
  omega
theorem xkm_X_drop : xckm 174 := by
  intro k hk
  have hl : (xcT.getD 174 []).length = 5 := by decide +kernel
  rw [hl] at hk
  by_cases c0 : k < 5
  · have z : xck 174 (0 + (k - 0)) = true := List.all_eq_true.mp xk_X_drop_0 (k - 0) (List.mem_range.mpr (by omega))
    rw [show 0 + (k - 0) = k by omega] at z; exact z
  omega
theorem xkm_X_rhyme : xckm 175 := by
  intro k hk
  have hl : (xcT.getD 175 []).length = 6 := by decide +kernel
  rw [hl] at hk
  by_cases c0 : k < 6
  · have z : xck 175 (0 + (k - 0)) = true := List.all_eq_true.mp xk_X_rhyme_0 (k - 0) (List.mem_range.mpr (by omega))
    rw [show 0 + (k - 0) = k by omega] at z; exact z
  omega
theorem xkm_X_scheme : xckm 176 := by
  intro k hk
  have hl : (xcT.getD 176 []).length = 5 := by decide +kernel
  rw [hl] at hk
  by_cases c0 : k < 5
  · have z : xck 176 (0 + (k - 0)) = true := List.all_eq_true.mp xk_X_scheme_0 (k - 0) (List.mem_range.mpr (by omega))
    rw [show 0 + (k - 0) = k by omega] at z; exact z
  omega
theorem xkm_X_place : xckm 177 := by
  intro k hk
  have hl : (xcT.getD 177 []).length = 9 := by decide +kernel
  rw [hl] at hk
  by_cases c0 : k < 9
  · have z : xck 177 (0 + (k - 0)) = true := List.all_eq_true.mp xk_X_place_0 (k - 0) (List.mem_range.mpr (by omega))
    rw [show 0 + (k - 0) = k by omega] at z; exact z
  omega
theorem xkm_X_judge : xckm 178 := by
  intro k hk
  have hl : (xcT.getD 178 []).length = 4 := by decide +kernel
  rw [hl] at hk
  by_cases c0 : k < 4
  · have z : xck 178 (0 + (k - 0)) = true := List.all_eq_true.mp xk_X_judge_0 (k - 0) (List.mem_range.mpr (by omega))
    rw [show 0 + (k - 0) = k by omega] at z; exact z
  omega
theorem xkm_X_judged : xckm 179 := by
  intro k hk
  have hl : (xcT.getD 179 []).length = 5 := by decide +kernel
  rw [hl] at hk
  by_cases c0 : k < 5
  · have z : xck 179 (0 + (k - 0)) = true := List.all_eq_true.mp xk_X_judged_0 (k - 0) (List.mem_range.mpr (by omega))
    rw [show 0 + (k - 0) = k by omega] at z; exact z
  omega
theorem xkm_X_fits : xckm 180 := by
  intro k hk
  have hl : (xcT.getD 180 []).length = 72 := by decide +kernel
  rw [hl] at hk
  by_cases c0 : k < 40
  · have z : xck 180 (0 + (k - 0)) = true := List.all_eq_true.mp xk_X_fits_0 (k - 0) (List.mem_range.mpr (by omega))
    rw [show 0 + (k - 0) = k by omega] at z; exact z
  by_cases c1 : k < 72
  · have z : xck 180 (40 + (k - 40)) = true := List.all_eq_true.mp xk_X_fits_1 (k - 40) (List.mem_range.mpr (by omega))
    rw [show 40 + (k - 40) = k by omega] at z; exact z
  omega
theorem xkm_X_fit : xckm 181 := by
  intro k hk
  have hl : (xcT.getD 181 []).length = 40 := by decide +kernel
  rw [hl] at hk
  by_cases c0 : k < 40
  · have z : xck 181 (0 + (k - 0)) = true := List.all_eq_true.mp xk_X_fit_0 (k - 0) (List.mem_range.mpr (by omega))
    rw [show 0 + (k - 0) = k by omega] at z; exact z
  omega
theorem xkm_X_learn : xckm 182 := by
  intro k hk
  have hl : (xcT.getD 182 []).length = 12 := by decide +kernel
  rw [hl] at hk
  by_cases c0 : k < 12
  · have z : xck 182 (0 + (k - 0)) = true := List.all_eq_true.mp xk_X_learn_0 (k - 0) (List.mem_range.mpr (by omega))
    rw [show 0 + (k - 0) = k by omega] at z; exact z
  omega
theorem xkm_X_count : xckm 183 := by
  intro k hk
  have hl : (xcT.getD 183 []).length = 61 := by decide +kernel
  rw [hl] at hk
  by_cases c0 : k < 40
  · have z : xck 183 (0 + (k - 0)) = true := List.all_eq_true.mp xk_X_count_0 (k - 0) (List.mem_range.mpr (by omega))
    rw [show 0 + (k - 0) = k by omega] at z; exact z
  by_cases c1 : k < 61
  · have z : xck 183 (40 + (k - 40)) = true := List.all_eq_true.mp xk_X_count_1 (k - 40) (List.mem_range.mpr (by omega))
    rw [show 40 + (k - 40) = k by omega] at z; exact z
  omega
theorem xkm_X_putBytes : xckm 184 := by
  intro k hk
  have hl : (xcT.getD 184 []).length = 26 := by decide +kernel
  rw [hl] at hk
  by_cases c0 : k < 26
  · have z : xck 184 (0 + (k - 0)) = true := List.all_eq_true.mp xk_X_putBytes_0 (k - 0) (List.mem_range.mpr (by omega))
    rw [show 0 + (k - 0) = k by omega] at z; exact z
  omega
theorem xkm_X_takeTape : xckm 185 := by
  intro k hk
  have hl : (xcT.getD 185 []).length = 8 := by decide +kernel
  rw [hl] at hk
  by_cases c0 : k < 8
  · have z : xck 185 (0 + (k - 0)) = true := List.all_eq_true.mp xk_X_takeTape_0 (k - 0) (List.mem_range.mpr (by omega))
    rw [show 0 + (k - 0) = k by omega] at z; exact z
  omega
theorem xkm_X_cannotScan : xckm 186 := by
  intro k hk
  have hl : (xcT.getD 186 []).length = 12 := by decide +kernel
  rw [hl] at hk
  by_cases c0 : k < 12
  · have z : xck 186 (0 + (k - 0)) = true := List.all_eq_true.mp xk_X_cannotScan_0 (k - 0) (List.mem_range.mpr (by omega))
    rw [show 0 + (k - 0) = k by omega] at z; exact z
  omega
theorem xkm_R_init : xckm 187 := by
  intro k hk
  have hl : (xcT.getD 187 []).length = 341 := by decide +kernel
  rw [hl] at hk
  by_cases c0 : k < 40
  · have z : xck 187 (0 + (k - 0)) = true := List.all_eq_true.mp xk_R_init_0 (k - 0) (List.mem_range.mpr (by omega))
    rw [show 0 + (k - 0) = k by omega] at z; exact z
  by_cases c1 : k < 80
  · have z : xck 187 (40 + (k - 40)) = true := List.all_eq_true.mp xk_R_init_1 (k - 40) (List.mem_range.mpr (by omega))
    rw [show 40 + (k - 40) = k by omega] at z; exact z
  by_cases c2 : k < 120
  · have z : xck 187 (80 + (k - 80)) = true := List.all_eq_true.mp xk_R_init_2 (k - 80) (List.mem_range.mpr (by omega))
    rw [show 80 + (k - 80) = k by omega] at z; exact z
  by_cases c3 : k < 160
  · have z : xck 187 (120 + (k - 120)) = true := List.all_eq_true.mp xk_R_init_3 (k - 120) (List.mem_range.mpr (by omega))
    rw [show 120 + (k - 120) = k by omega] at z; exact z
  by_cases c4 : k < 200
  · have z : xck 187 (160 + (k - 160)) = true := List.all_eq_true.mp xk_R_init_4 (k - 160) (List.mem_range.mpr (by omega))
    rw [show 160 + (k - 160) = k by omega] at z; exact z
  by_cases c5 : k < 240
  · have z : xck 187 (200 + (k - 200)) = true := List.all_eq_true.mp xk_R_init_5 (k - 200) (List.mem_range.mpr (by omega))
    rw [show 200 + (k - 200) = k by omega] at z; exact z
  by_cases c6 : k < 280
  · have z : xck 187 (240 + (k - 240)) = true := List.all_eq_true.mp xk_R_init_6 (k - 240) (List.mem_range.mpr (by omega))
    rw [show 240 + (k - 240) = k by omega] at z; exact z
  by_cases c7 : k < 320
  · have z : xck 187 (280 + (k - 280)) = true := List.all_eq_true.mp xk_R_init_7 (k - 280) (List.mem_range.mpr (by omega))
    rw [show 280 + (k - 280) = k by omega] at z; exact z
  by_cases c8 : k < 341
  · have z : xck 187 (320 + (k - 320)) = true := List.all_eq_true.mp xk_R_init_8 (k - 320) (List.mem_range.mpr (by omega))
    rw [show 320 + (k - 320) = k by omega] at z; exact z
  omega
theorem xkm_R_in : xckm 188 := by
  intro k hk
  have hl : (xcT.getD 188 []).length = 10 := by decide +kernel
  rw [hl] at hk
  by_cases c0 : k < 10
  · have z : xck 188 (0 + (k - 0)) = true := List.all_eq_true.mp xk_R_in_0 (k - 0) (List.mem_range.mpr (by omega))
    rw [show 0 + (k - 0) = k by omega] at z; exact z
  omega
theorem xkm_R_feed : xckm 189 := by
  intro k hk
  have hl : (xcT.getD 189 []).length = 60 := by decide +kernel
  rw [hl] at hk
  by_cases c0 : k < 40
  · have z : xck 189 (0 + (k - 0)) = true := List.all_eq_true.mp xk_R_feed_0 (k - 0) (List.mem_range.mpr (by omega))
    rw [show 0 + (k - 0) = k by omega] at z; exact z
  by_cases c1 : k < 60
  · have z : xck 189 (40 + (k - 40)) = true := List.all_eq_true.mp xk_R_feed_1 (k - 40) (List.mem_range.mpr (by omega))
    rw [show 40 + (k - 40) = k by omega] at z; exact z
  omega
theorem xkm_R_end : xckm 190 := by
  intro k hk
  have hl : (xcT.getD 190 []).length = 13 := by decide +kernel
  rw [hl] at hk
  by_cases c0 : k < 13
  · have z : xck 190 (0 + (k - 0)) = true := List.all_eq_true.mp xk_R_end_0 (k - 0) (List.mem_range.mpr (by omega))
    rw [show 0 + (k - 0) = k by omega] at z; exact z
  omega
theorem xkm_R_isLetter : xckm 191 := by
  intro k hk
  have hl : (xcT.getD 191 []).length = 10 := by decide +kernel
  rw [hl] at hk
  by_cases c0 : k < 10
  · have z : xck 191 (0 + (k - 0)) = true := List.all_eq_true.mp xk_R_isLetter_0 (k - 0) (List.mem_range.mpr (by omega))
    rw [show 0 + (k - 0) = k by omega] at z; exact z
  omega
theorem xkm_R_vowel : xckm 192 := by
  intro k hk
  have hl : (xcT.getD 192 []).length = 16 := by decide +kernel
  rw [hl] at hk
  by_cases c0 : k < 16
  · have z : xck 192 (0 + (k - 0)) = true := List.all_eq_true.mp xk_R_vowel_0 (k - 0) (List.mem_range.mpr (by omega))
    rw [show 0 + (k - 0) = k by omega] at z; exact z
  omega
theorem xkm_R_pairOf : xckm 193 := by
  intro k hk
  have hl : (xcT.getD 193 []).length = 24 := by decide +kernel
  rw [hl] at hk
  by_cases c0 : k < 24
  · have z : xck 193 (0 + (k - 0)) = true := List.all_eq_true.mp xk_R_pairOf_0 (k - 0) (List.mem_range.mpr (by omega))
    rw [show 0 + (k - 0) = k by omega] at z; exact z
  omega
theorem xkm_R_pair : xckm 194 := by
  intro k hk
  have hl : (xcT.getD 194 []).length = 105 := by decide +kernel
  rw [hl] at hk
  by_cases c0 : k < 40
  · have z : xck 194 (0 + (k - 0)) = true := List.all_eq_true.mp xk_R_pair_0 (k - 0) (List.mem_range.mpr (by omega))
    rw [show 0 + (k - 0) = k by omega] at z; exact z
  by_cases c1 : k < 80
  · have z : xck 194 (40 + (k - 40)) = true := List.all_eq_true.mp xk_R_pair_1 (k - 40) (List.mem_range.mpr (by omega))
    rw [show 40 + (k - 40) = k by omega] at z; exact z
  by_cases c2 : k < 105
  · have z : xck 194 (80 + (k - 80)) = true := List.all_eq_true.mp xk_R_pair_2 (k - 80) (List.mem_range.mpr (by omega))
    rw [show 80 + (k - 80) = k by omega] at z; exact z
  omega
theorem xkm_R_cutSounds : xckm 195 := by
  intro k hk
  have hl : (xcT.getD 195 []).length = 106 := by decide +kernel
  rw [hl] at hk
  by_cases c0 : k < 40
  · have z : xck 195 (0 + (k - 0)) = true := List.all_eq_true.mp xk_R_cutSounds_0 (k - 0) (List.mem_range.mpr (by omega))
    rw [show 0 + (k - 0) = k by omega] at z; exact z
  by_cases c1 : k < 80
  · have z : xck 195 (40 + (k - 40)) = true := List.all_eq_true.mp xk_R_cutSounds_1 (k - 40) (List.mem_range.mpr (by omega))
    rw [show 40 + (k - 40) = k by omega] at z; exact z
  by_cases c2 : k < 106
  · have z : xck 195 (80 + (k - 80)) = true := List.all_eq_true.mp xk_R_cutSounds_2 (k - 80) (List.mem_range.mpr (by omega))
    rw [show 80 + (k - 80) = k by omega] at z; exact z
  omega
theorem xkm_R_isWord : xckm 196 := by
  intro k hk
  have hl : (xcT.getD 196 []).length = 33 := by decide +kernel
  rw [hl] at hk
  by_cases c0 : k < 33
  · have z : xck 196 (0 + (k - 0)) = true := List.all_eq_true.mp xk_R_isWord_0 (k - 0) (List.mem_range.mpr (by omega))
    rw [show 0 + (k - 0) = k by omega] at z; exact z
  omega
theorem xkm_R_find : xckm 197 := by
  intro k hk
  have hl : (xcT.getD 197 []).length = 19 := by decide +kernel
  rw [hl] at hk
  by_cases c0 : k < 19
  · have z : xck 197 (0 + (k - 0)) = true := List.all_eq_true.mp xk_R_find_0 (k - 0) (List.mem_range.mpr (by omega))
    rw [show 0 + (k - 0) = k by omega] at z; exact z
  omega
theorem xkm_R_readWord : xckm 198 := by
  intro k hk
  have hl : (xcT.getD 198 []).length = 139 := by decide +kernel
  rw [hl] at hk
  by_cases c0 : k < 40
  · have z : xck 198 (0 + (k - 0)) = true := List.all_eq_true.mp xk_R_readWord_0 (k - 0) (List.mem_range.mpr (by omega))
    rw [show 0 + (k - 0) = k by omega] at z; exact z
  by_cases c1 : k < 80
  · have z : xck 198 (40 + (k - 40)) = true := List.all_eq_true.mp xk_R_readWord_1 (k - 40) (List.mem_range.mpr (by omega))
    rw [show 40 + (k - 40) = k by omega] at z; exact z
  by_cases c2 : k < 120
  · have z : xck 198 (80 + (k - 80)) = true := List.all_eq_true.mp xk_R_readWord_2 (k - 80) (List.mem_range.mpr (by omega))
    rw [show 80 + (k - 80) = k by omega] at z; exact z
  by_cases c3 : k < 139
  · have z : xck 198 (120 + (k - 120)) = true := List.all_eq_true.mp xk_R_readWord_3 (k - 120) (List.mem_range.mpr (by omega))
    rw [show 120 + (k - 120) = k by omega] at z; exact z
  omega
theorem xkm_R_word : xckm 199 := by
  intro k hk
  have hl : (xcT.getD 199 []).length = 108 := by decide +kernel
  rw [hl] at hk
  by_cases c0 : k < 40
  · have z : xck 199 (0 + (k - 0)) = true := List.all_eq_true.mp xk_R_word_0 (k - 0) (List.mem_range.mpr (by omega))
    rw [show 0 + (k - 0) = k by omega] at z; exact z
  by_cases c1 : k < 80
  · have z : xck 199 (40 + (k - 40)) = true := List.all_eq_true.mp xk_R_word_1 (k - 40) (List.mem_range.mpr (by omega))
    rw [show 40 + (k - 40) = k by omega] at z; exact z
  by_cases c2 : k < 108
  · have z : xck 199 (80 + (k - 80)) = true := List.all_eq_true.mp xk_R_word_2 (k - 80) (List.mem_range.mpr (by omega))
    rw [show 80 + (k - 80) = k by omega] at z; exact z
  omega
theorem xkm_R_unword : xckm 200 := by
  intro k hk
  have hl : (xcT.getD 200 []).length = 108 := by decide +kernel
  rw [hl] at hk
  by_cases c0 : k < 40
  · have z : xck 200 (0 + (k - 0)) = true := List.all_eq_true.mp xk_R_unword_0 (k - 0) (List.mem_range.mpr (by omega))
    rw [show 0 + (k - 0) = k by omega] at z; exact z
  by_cases c1 : k < 80
  · have z : xck 200 (40 + (k - 40)) = true := List.all_eq_true.mp xk_R_unword_1 (k - 40) (List.mem_range.mpr (by omega))
    rw [show 40 + (k - 40) = k by omega] at z; exact z
  by_cases c2 : k < 108
  · have z : xck 200 (80 + (k - 80)) = true := List.all_eq_true.mp xk_R_unword_2 (k - 80) (List.mem_range.mpr (by omega))
    rw [show 80 + (k - 80) = k by omega] at z; exact z
  omega
theorem xkm_R_addWord : xckm 201 := by
  intro k hk
  have hl : (xcT.getD 201 []).length = 114 := by decide +kernel
  rw [hl] at hk
  by_cases c0 : k < 40
  · have z : xck 201 (0 + (k - 0)) = true := List.all_eq_true.mp xk_R_addWord_0 (k - 0) (List.mem_range.mpr (by omega))
    rw [show 0 + (k - 0) = k by omega] at z; exact z
  by_cases c1 : k < 80
  · have z : xck 201 (40 + (k - 40)) = true := List.all_eq_true.mp xk_R_addWord_1 (k - 40) (List.mem_range.mpr (by omega))
    rw [show 40 + (k - 40) = k by omega] at z; exact z
  by_cases c2 : k < 114
  · have z : xck 201 (80 + (k - 80)) = true := List.all_eq_true.mp xk_R_addWord_2 (k - 80) (List.mem_range.mpr (by omega))
    rw [show 80 + (k - 80) = k by omega] at z; exact z
  omega
theorem xkm_R_addSyllable : xckm 202 := by
  intro k hk
  have hl : (xcT.getD 202 []).length = 106 := by decide +kernel
  rw [hl] at hk
  by_cases c0 : k < 40
  · have z : xck 202 (0 + (k - 0)) = true := List.all_eq_true.mp xk_R_addSyllable_0 (k - 0) (List.mem_range.mpr (by omega))
    rw [show 0 + (k - 0) = k by omega] at z; exact z
  by_cases c1 : k < 80
  · have z : xck 202 (40 + (k - 40)) = true := List.all_eq_true.mp xk_R_addSyllable_1 (k - 40) (List.mem_range.mpr (by omega))
    rw [show 40 + (k - 40) = k by omega] at z; exact z
  by_cases c2 : k < 106
  · have z : xck 202 (80 + (k - 80)) = true := List.all_eq_true.mp xk_R_addSyllable_2 (k - 80) (List.mem_range.mpr (by omega))
    rw [show 80 + (k - 80) = k by omega] at z; exact z
  omega
theorem xkm_R_copySyllable : xckm 203 := by
  intro k hk
  have hl : (xcT.getD 203 []).length = 92 := by decide +kernel
  rw [hl] at hk
  by_cases c0 : k < 40
  · have z : xck 203 (0 + (k - 0)) = true := List.all_eq_true.mp xk_R_copySyllable_0 (k - 0) (List.mem_range.mpr (by omega))
    rw [show 0 + (k - 0) = k by omega] at z; exact z
  by_cases c1 : k < 80
  · have z : xck 203 (40 + (k - 40)) = true := List.all_eq_true.mp xk_R_copySyllable_1 (k - 40) (List.mem_range.mpr (by omega))
    rw [show 40 + (k - 40) = k by omega] at z; exact z
  by_cases c2 : k < 92
  · have z : xck 203 (80 + (k - 80)) = true := List.all_eq_true.mp xk_R_copySyllable_2 (k - 80) (List.mem_range.mpr (by omega))
    rw [show 80 + (k - 80) = k by omega] at z; exact z
  omega
theorem xkm_R_copyWord : xckm 204 := by
  intro k hk
  have hl : (xcT.getD 204 []).length = 92 := by decide +kernel
  rw [hl] at hk
  by_cases c0 : k < 40
  · have z : xck 204 (0 + (k - 0)) = true := List.all_eq_true.mp xk_R_copyWord_0 (k - 0) (List.mem_range.mpr (by omega))
    rw [show 0 + (k - 0) = k by omega] at z; exact z
  by_cases c1 : k < 80
  · have z : xck 204 (40 + (k - 40)) = true := List.all_eq_true.mp xk_R_copyWord_1 (k - 40) (List.mem_range.mpr (by omega))
    rw [show 40 + (k - 40) = k by omega] at z; exact z
  by_cases c2 : k < 92
  · have z : xck 204 (80 + (k - 80)) = true := List.all_eq_true.mp xk_R_copyWord_2 (k - 80) (List.mem_range.mpr (by omega))
    rw [show 80 + (k - 80) = k by omega] at z; exact z
  omega
theorem xkm_R_byRules : xckm 205 := by
  intro k hk
  have hl : (xcT.getD 205 []).length = 69 := by decide +kernel
  rw [hl] at hk
  by_cases c0 : k < 40
  · have z : xck 205 (0 + (k - 0)) = true := List.all_eq_true.mp xk_R_byRules_0 (k - 0) (List.mem_range.mpr (by omega))
    rw [show 0 + (k - 0) = k by omega] at z; exact z
  by_cases c1 : k < 69
  · have z : xck 205 (40 + (k - 40)) = true := List.all_eq_true.mp xk_R_byRules_1 (k - 40) (List.mem_range.mpr (by omega))
    rw [show 40 + (k - 40) = k by omega] at z; exact z
  omega
theorem xkm_R_closes : xckm 206 := by
  intro k hk
  have hl : (xcT.getD 206 []).length = 50 := by decide +kernel
  rw [hl] at hk
  by_cases c0 : k < 40
  · have z : xck 206 (0 + (k - 0)) = true := List.all_eq_true.mp xk_R_closes_0 (k - 0) (List.mem_range.mpr (by omega))
    rw [show 0 + (k - 0) = k by omega] at z; exact z
  by_cases c1 : k < 50
  · have z : xck 206 (40 + (k - 40)) = true := List.all_eq_true.mp xk_R_closes_1 (k - 40) (List.mem_range.mpr (by omega))
    rw [show 40 + (k - 40) = k by omega] at z; exact z
  omega
theorem xkm_R_wrong : xckm 207 := by
  intro k hk
  have hl : (xcT.getD 207 []).length = 8 := by decide +kernel
  rw [hl] at hk
  by_cases c0 : k < 8
  · have z : xck 207 (0 + (k - 0)) = true := List.all_eq_true.mp xk_R_wrong_0 (k - 0) (List.mem_range.mpr (by omega))
    rw [show 0 + (k - 0) = k by omega] at z; exact z
  omega
theorem xkm_R_readLine : xckm 208 := by
  intro k hk
  have hl : (xcT.getD 208 []).length = 209 := by decide +kernel
  rw [hl] at hk
  by_cases c0 : k < 40
  · have z : xck 208 (0 + (k - 0)) = true := List.all_eq_true.mp xk_R_readLine_0 (k - 0) (List.mem_range.mpr (by omega))
    rw [show 0 + (k - 0) = k by omega] at z; exact z
  by_cases c1 : k < 80
  · have z : xck 208 (40 + (k - 40)) = true := List.all_eq_true.mp xk_R_readLine_1 (k - 40) (List.mem_range.mpr (by omega))
    rw [show 40 + (k - 40) = k by omega] at z; exact z
  by_cases c2 : k < 120
  · have z : xck 208 (80 + (k - 80)) = true := List.all_eq_true.mp xk_R_readLine_2 (k - 80) (List.mem_range.mpr (by omega))
    rw [show 80 + (k - 80) = k by omega] at z; exact z
  by_cases c3 : k < 160
  · have z : xck 208 (120 + (k - 120)) = true := List.all_eq_true.mp xk_R_readLine_3 (k - 120) (List.mem_range.mpr (by omega))
    rw [show 120 + (k - 120) = k by omega] at z; exact z
  by_cases c4 : k < 200
  · have z : xck 208 (160 + (k - 160)) = true := List.all_eq_true.mp xk_R_readLine_4 (k - 160) (List.mem_range.mpr (by omega))
    rw [show 160 + (k - 160) = k by omega] at z; exact z
  by_cases c5 : k < 209
  · have z : xck 208 (200 + (k - 200)) = true := List.all_eq_true.mp xk_R_readLine_5 (k - 200) (List.mem_range.mpr (by omega))
    rw [show 200 + (k - 200) = k by omega] at z; exact z
  omega
theorem xkm_R_copyLine : xckm 209 := by
  intro k hk
  have hl : (xcT.getD 209 []).length = 31 := by decide +kernel
  rw [hl] at hk
  by_cases c0 : k < 31
  · have z : xck 209 (0 + (k - 0)) = true := List.all_eq_true.mp xk_R_copyLine_0 (k - 0) (List.mem_range.mpr (by omega))
    rw [show 0 + (k - 0) = k by omega] at z; exact z
  omega
theorem xkm_R_line : xckm 210 := by
  intro k hk
  have hl : (xcT.getD 210 []).length = 27 := by decide +kernel
  rw [hl] at hk
  by_cases c0 : k < 27
  · have z : xck 210 (0 + (k - 0)) = true := List.all_eq_true.mp xk_R_line_0 (k - 0) (List.mem_range.mpr (by omega))
    rw [show 0 + (k - 0) = k by omega] at z; exact z
  omega
theorem xkm_R_fault : xckm 211 := by
  intro k hk
  have hl : (xcT.getD 211 []).length = 13 := by decide +kernel
  rw [hl] at hk
  by_cases c0 : k < 13
  · have z : xck 211 (0 + (k - 0)) = true := List.all_eq_true.mp xk_R_fault_0 (k - 0) (List.mem_range.mpr (by omega))
    rw [show 0 + (k - 0) = k by omega] at z; exact z
  omega
theorem xkm_R_syllable : xckm 212 := by
  intro k hk
  have hl : (xcT.getD 212 []).length = 77 := by decide +kernel
  rw [hl] at hk
  by_cases c0 : k < 40
  · have z : xck 212 (0 + (k - 0)) = true := List.all_eq_true.mp xk_R_syllable_0 (k - 0) (List.mem_range.mpr (by omega))
    rw [show 0 + (k - 0) = k by omega] at z; exact z
  by_cases c1 : k < 77
  · have z : xck 212 (40 + (k - 40)) = true := List.all_eq_true.mp xk_R_syllable_1 (k - 40) (List.mem_range.mpr (by omega))
    rw [show 40 + (k - 40) = k by omega] at z; exact z
  omega
theorem xkm_R_foot : xckm 213 := by
  intro k hk
  have hl : (xcT.getD 213 []).length = 165 := by decide +kernel
  rw [hl] at hk
  by_cases c0 : k < 40
  · have z : xck 213 (0 + (k - 0)) = true := List.all_eq_true.mp xk_R_foot_0 (k - 0) (List.mem_range.mpr (by omega))
    rw [show 0 + (k - 0) = k by omega] at z; exact z
  by_cases c1 : k < 80
  · have z : xck 213 (40 + (k - 40)) = true := List.all_eq_true.mp xk_R_foot_1 (k - 40) (List.mem_range.mpr (by omega))
    rw [show 40 + (k - 40) = k by omega] at z; exact z
  by_cases c2 : k < 120
  · have z : xck 213 (80 + (k - 80)) = true := List.all_eq_true.mp xk_R_foot_2 (k - 80) (List.mem_range.mpr (by omega))
    rw [show 80 + (k - 80) = k by omega] at z; exact z
  by_cases c3 : k < 160
  · have z : xck 213 (120 + (k - 120)) = true := List.all_eq_true.mp xk_R_foot_3 (k - 120) (List.mem_range.mpr (by omega))
    rw [show 120 + (k - 120) = k by omega] at z; exact z
  by_cases c4 : k < 165
  · have z : xck 213 (160 + (k - 160)) = true := List.all_eq_true.mp xk_R_foot_4 (k - 160) (List.mem_range.mpr (by omega))
    rw [show 160 + (k - 160) = k by omega] at z; exact z
  omega
theorem xkm_R_form : xckm 214 := by
  intro k hk
  have hl : (xcT.getD 214 []).length = 51 := by decide +kernel
  rw [hl] at hk
  by_cases c0 : k < 40
  · have z : xck 214 (0 + (k - 0)) = true := List.all_eq_true.mp xk_R_form_0 (k - 0) (List.mem_range.mpr (by omega))
    rw [show 0 + (k - 0) = k by omega] at z; exact z
  by_cases c1 : k < 51
  · have z : xck 214 (40 + (k - 40)) = true := List.all_eq_true.mp xk_R_form_1 (k - 40) (List.mem_range.mpr (by omega))
    rw [show 40 + (k - 40) = k by omega] at z; exact z
  omega
theorem xkm_R_cut : xckm 215 := by
  intro k hk
  have hl : (xcT.getD 215 []).length = 24 := by decide +kernel
  rw [hl] at hk
  by_cases c0 : k < 24
  · have z : xck 215 (0 + (k - 0)) = true := List.all_eq_true.mp xk_R_cut_0 (k - 0) (List.mem_range.mpr (by omega))
    rw [show 0 + (k - 0) = k by omega] at z; exact z
  omega
theorem xkm_R_licence : xckm 216 := by
  intro k hk
  have hl : (xcT.getD 216 []).length = 24 := by decide +kernel
  rw [hl] at hk
  by_cases c0 : k < 24
  · have z : xck 216 (0 + (k - 0)) = true := List.all_eq_true.mp xk_R_licence_0 (k - 0) (List.mem_range.mpr (by omega))
    rw [show 0 + (k - 0) = k by omega] at z; exact z
  omega
theorem xkm_R_isLast : xckm 217 := by
  intro k hk
  have hl : (xcT.getD 217 []).length = 34 := by decide +kernel
  rw [hl] at hk
  by_cases c0 : k < 34
  · have z : xck 217 (0 + (k - 0)) = true := List.all_eq_true.mp xk_R_isLast_0 (k - 0) (List.mem_range.mpr (by omega))
    rw [show 0 + (k - 0) = k by omega] at z; exact z
  omega
theorem xkm_R_isFirst : xckm 218 := by
  intro k hk
  have hl : (xcT.getD 218 []).length = 27 := by decide +kernel
  rw [hl] at hk
  by_cases c0 : k < 27
  · have z : xck 218 (0 + (k - 0)) = true := List.all_eq_true.mp xk_R_isFirst_0 (k - 0) (List.mem_range.mpr (by omega))
    rw [show 0 + (k - 0) = k by omega] at z; exact z
  omega
theorem xkm_R_markOf : xckm 219 := by
  intro k hk
  have hl : (xcT.getD 219 []).length = 10 := by decide +kernel
  rw [hl] at hk
  by_cases c0 : k < 10
  · have z : xck 219 (0 + (k - 0)) = true := List.all_eq_true.mp xk_R_markOf_0 (k - 0) (List.mem_range.mpr (by omega))
    rw [show 0 + (k - 0) = k by omega] at z; exact z
  omega
theorem xkm_R_endsByVowel : xckm 220 := by
  intro k hk
  have hl : (xcT.getD 220 []).length = 29 := by decide +kernel
  rw [hl] at hk
  by_cases c0 : k < 29
  · have z : xck 220 (0 + (k - 0)) = true := List.all_eq_true.mp xk_R_endsByVowel_0 (k - 0) (List.mem_range.mpr (by omega))
    rw [show 0 + (k - 0) = k by omega] at z; exact z
  omega
theorem xkm_R_beginsByVowel : xckm 221 := by
  intro k hk
  have hl : (xcT.getD 221 []).length = 17 := by decide +kernel
  rw [hl] at hk
  by_cases c0 : k < 17
  · have z : xck 221 (0 + (k - 0)) = true := List.all_eq_true.mp xk_R_beginsByVowel_0 (k - 0) (List.mem_range.mpr (by omega))
    rw [show 0 + (k - 0) = k by omega] at z; exact z
  omega
theorem xkm_R_canLose : xckm 222 := by
  intro k hk
  have hl : (xcT.getD 222 []).length = 31 := by decide +kernel
  rw [hl] at hk
  by_cases c0 : k < 31
  · have z : xck 222 (0 + (k - 0)) = true := List.all_eq_true.mp xk_R_canLose_0 (k - 0) (List.mem_range.mpr (by omega))
    rw [show 0 + (k - 0) = k by omega] at z; exact z
  omega
theorem xkm_R_canMelt : xckm 223 := by
  intro k hk
  have hl : (xcT.getD 223 []).length = 27 := by decide +kernel
  rw [hl] at hk
  by_cases c0 : k < 27
  · have z : xck 223 (0 + (k - 0)) = true := List.all_eq_true.mp xk_R_canMelt_0 (k - 0) (List.mem_range.mpr (by omega))
    rw [show 0 + (k - 0) = k by omega] at z; exact z
  omega
theorem xkm_R_mayStand : xckm 224 := by
  intro k hk
  have hl : (xcT.getD 224 []).length = 44 := by decide +kernel
  rw [hl] at hk
  by_cases c0 : k < 40
  · have z : xck 224 (0 + (k - 0)) = true := List.all_eq_true.mp xk_R_mayStand_0 (k - 0) (List.mem_range.mpr (by omega))
    rw [show 0 + (k - 0) = k by omega] at z; exact z
  by_cases c1 : k < 44
  · have z : xck 224 (40 + (k - 40)) = true := List.all_eq_true.mp xk_R_mayStand_1 (k - 40) (List.mem_range.mpr (by omega))
    rw [show 40 + (k - 40) = k by omega] at z; exact z
  omega
theorem xkm_R_isOver : xckm 225 := by
  intro k hk
  have hl : (xcT.getD 225 []).length = 38 := by decide +kernel
  rw [hl] at hk
  by_cases c0 : k < 38
  · have z : xck 225 (0 + (k - 0)) = true := List.all_eq_true.mp xk_R_isOver_0 (k - 0) (List.mem_range.mpr (by omega))
    rw [show 0 + (k - 0) = k by omega] at z; exact z
  omega
theorem xkm_R_isCut : xckm 226 := by
  intro k hk
  have hl : (xcT.getD 226 []).length = 14 := by decide +kernel
  rw [hl] at hk
  by_cases c0 : k < 14
  · have z : xck 226 (0 + (k - 0)) = true := List.all_eq_true.mp xk_R_isCut_0 (k - 0) (List.mem_range.mpr (by omega))
    rw [show 0 + (k - 0) = k by omega] at z; exact z
  omega
theorem xkm_R_state : xckm 227 := by
  intro k hk
  have hl : (xcT.getD 227 []).length = 20 := by decide +kernel
  rw [hl] at hk
  by_cases c0 : k < 20
  · have z : xck 227 (0 + (k - 0)) = true := List.all_eq_true.mp xk_R_state_0 (k - 0) (List.mem_range.mpr (by omega))
    rw [show 0 + (k - 0) = k by omega] at z; exact z
  omega
theorem xkm_R_add : xckm 228 := by
  intro k hk
  have hl : (xcT.getD 228 []).length = 147 := by decide +kernel
  rw [hl] at hk
  by_cases c0 : k < 40
  · have z : xck 228 (0 + (k - 0)) = true := List.all_eq_true.mp xk_R_add_0 (k - 0) (List.mem_range.mpr (by omega))
    rw [show 0 + (k - 0) = k by omega] at z; exact z
  by_cases c1 : k < 80
  · have z : xck 228 (40 + (k - 40)) = true := List.all_eq_true.mp xk_R_add_1 (k - 40) (List.mem_range.mpr (by omega))
    rw [show 40 + (k - 40) = k by omega] at z; exact z
  by_cases c2 : k < 120
  · have z : xck 228 (80 + (k - 80)) = true := List.all_eq_true.mp xk_R_add_2 (k - 80) (List.mem_range.mpr (by omega))
    rw [show 80 + (k - 80) = k by omega] at z; exact z
  by_cases c3 : k < 147
  · have z : xck 228 (120 + (k - 120)) = true := List.all_eq_true.mp xk_R_add_3 (k - 120) (List.mem_range.mpr (by omega))
    rw [show 120 + (k - 120) = k by omega] at z; exact z
  omega
theorem xkm_R_isBehind : xckm 229 := by
  intro k hk
  have hl : (xcT.getD 229 []).length = 74 := by decide +kernel
  rw [hl] at hk
  by_cases c0 : k < 40
  · have z : xck 229 (0 + (k - 0)) = true := List.all_eq_true.mp xk_R_isBehind_0 (k - 0) (List.mem_range.mpr (by omega))
    rw [show 0 + (k - 0) = k by omega] at z; exact z
  by_cases c1 : k < 74
  · have z : xck 229 (40 + (k - 40)) = true := List.all_eq_true.mp xk_R_isBehind_1 (k - 40) (List.mem_range.mpr (by omega))
    rw [show 40 + (k - 40) = k by omega] at z; exact z
  omega
theorem xkm_R_addHeavy : xckm 230 := by
  intro k hk
  have hl : (xcT.getD 230 []).length = 79 := by decide +kernel
  rw [hl] at hk
  by_cases c0 : k < 40
  · have z : xck 230 (0 + (k - 0)) = true := List.all_eq_true.mp xk_R_addHeavy_0 (k - 0) (List.mem_range.mpr (by omega))
    rw [show 0 + (k - 0) = k by omega] at z; exact z
  by_cases c1 : k < 79
  · have z : xck 230 (40 + (k - 40)) = true := List.all_eq_true.mp xk_R_addHeavy_1 (k - 40) (List.mem_range.mpr (by omega))
    rw [show 40 + (k - 40) = k by omega] at z; exact z
  omega
theorem xkm_R_addLight : xckm 231 := by
  intro k hk
  have hl : (xcT.getD 231 []).length = 61 := by decide +kernel
  rw [hl] at hk
  by_cases c0 : k < 40
  · have z : xck 231 (0 + (k - 0)) = true := List.all_eq_true.mp xk_R_addLight_0 (k - 0) (List.mem_range.mpr (by omega))
    rw [show 0 + (k - 0) = k by omega] at z; exact z
  by_cases c1 : k < 61
  · have z : xck 231 (40 + (k - 40)) = true := List.all_eq_true.mp xk_R_addLight_1 (k - 40) (List.mem_range.mpr (by omega))
    rw [show 40 + (k - 40) = k by omega] at z; exact z
  omega
theorem xkm_R_addPlace : xckm 232 := by
  intro k hk
  have hl : (xcT.getD 232 []).length = 86 := by decide +kernel
  rw [hl] at hk
  by_cases c0 : k < 40
  · have z : xck 232 (0 + (k - 0)) = true := List.all_eq_true.mp xk_R_addPlace_0 (k - 0) (List.mem_range.mpr (by omega))
    rw [show 0 + (k - 0) = k by omega] at z; exact z
  by_cases c1 : k < 80
  · have z : xck 232 (40 + (k - 40)) = true := List.all_eq_true.mp xk_R_addPlace_1 (k - 40) (List.mem_range.mpr (by omega))
    rw [show 40 + (k - 40) = k by omega] at z; exact z
  by_cases c2 : k < 86
  · have z : xck 232 (80 + (k - 80)) = true := List.all_eq_true.mp xk_R_addPlace_2 (k - 80) (List.mem_range.mpr (by omega))
    rw [show 80 + (k - 80) = k by omega] at z; exact z
  omega
theorem xkm_R_addPosition : xckm 233 := by
  intro k hk
  have hl : (xcT.getD 233 []).length = 21 := by decide +kernel
  rw [hl] at hk
  by_cases c0 : k < 21
  · have z : xck 233 (0 + (k - 0)) = true := List.all_eq_true.mp xk_R_addPosition_0 (k - 0) (List.mem_range.mpr (by omega))
    rw [show 0 + (k - 0) = k by omega] at z; exact z
  omega
theorem xkm_R_list : xckm 234 := by
  intro k hk
  have hl : (xcT.getD 234 []).length = 261 := by decide +kernel
  rw [hl] at hk
  by_cases c0 : k < 40
  · have z : xck 234 (0 + (k - 0)) = true := List.all_eq_true.mp xk_R_list_0 (k - 0) (List.mem_range.mpr (by omega))
    rw [show 0 + (k - 0) = k by omega] at z; exact z
  by_cases c1 : k < 80
  · have z : xck 234 (40 + (k - 40)) = true := List.all_eq_true.mp xk_R_list_1 (k - 40) (List.mem_range.mpr (by omega))
    rw [show 40 + (k - 40) = k by omega] at z; exact z
  by_cases c2 : k < 120
  · have z : xck 234 (80 + (k - 80)) = true := List.all_eq_true.mp xk_R_list_2 (k - 80) (List.mem_range.mpr (by omega))
    rw [show 80 + (k - 80) = k by omega] at z; exact z
  by_cases c3 : k < 160
  · have z : xck 234 (120 + (k - 120)) = true := List.all_eq_true.mp xk_R_list_3 (k - 120) (List.mem_range.mpr (by omega))
    rw [show 120 + (k - 120) = k by omega] at z; exact z
  by_cases c4 : k < 200
  · have z : xck 234 (160 + (k - 160)) = true := List.all_eq_true.mp xk_R_list_4 (k - 160) (List.mem_range.mpr (by omega))
    rw [show 160 + (k - 160) = k by omega] at z; exact z
  by_cases c5 : k < 240
  · have z : xck 234 (200 + (k - 200)) = true := List.all_eq_true.mp xk_R_list_5 (k - 200) (List.mem_range.mpr (by omega))
    rw [show 200 + (k - 200) = k by omega] at z; exact z
  by_cases c6 : k < 261
  · have z : xck 234 (240 + (k - 240)) = true := List.all_eq_true.mp xk_R_list_6 (k - 240) (List.mem_range.mpr (by omega))
    rw [show 240 + (k - 240) = k by omega] at z; exact z
  omega
theorem xkm_R_mayEnd : xckm 235 := by
  intro k hk
  have hl : (xcT.getD 235 []).length = 53 := by decide +kernel
  rw [hl] at hk
  by_cases c0 : k < 40
  · have z : xck 235 (0 + (k - 0)) = true := List.all_eq_true.mp xk_R_mayEnd_0 (k - 0) (List.mem_range.mpr (by omega))
    rw [show 0 + (k - 0) = k by omega] at z; exact z
  by_cases c1 : k < 53
  · have z : xck 235 (40 + (k - 40)) = true := List.all_eq_true.mp xk_R_mayEnd_1 (k - 40) (List.mem_range.mpr (by omega))
    rw [show 40 + (k - 40) = k by omega] at z; exact z
  omega
theorem xkm_R_begin : xckm 236 := by
  intro k hk
  have hl : (xcT.getD 236 []).length = 19 := by decide +kernel
  rw [hl] at hk
  by_cases c0 : k < 19
  · have z : xck 236 (0 + (k - 0)) = true := List.all_eq_true.mp xk_R_begin_0 (k - 0) (List.mem_range.mpr (by omega))
    rw [show 0 + (k - 0) = k by omega] at z; exact z
  omega
theorem xkm_R_waysFrom : xckm 237 := by
  intro k hk
  have hl : (xcT.getD 237 []).length = 116 := by decide +kernel
  rw [hl] at hk
  by_cases c0 : k < 40
  · have z : xck 237 (0 + (k - 0)) = true := List.all_eq_true.mp xk_R_waysFrom_0 (k - 0) (List.mem_range.mpr (by omega))
    rw [show 0 + (k - 0) = k by omega] at z; exact z
  by_cases c1 : k < 80
  · have z : xck 237 (40 + (k - 40)) = true := List.all_eq_true.mp xk_R_waysFrom_1 (k - 40) (List.mem_range.mpr (by omega))
    rw [show 40 + (k - 40) = k by omega] at z; exact z
  by_cases c2 : k < 116
  · have z : xck 237 (80 + (k - 80)) = true := List.all_eq_true.mp xk_R_waysFrom_2 (k - 80) (List.mem_range.mpr (by omega))
    rw [show 80 + (k - 80) = k by omega] at z; exact z
  omega
theorem xkm_R_isForm : xckm 238 := by
  intro k hk
  have hl : (xcT.getD 238 []).length = 14 := by decide +kernel
  rw [hl] at hk
  by_cases c0 : k < 14
  · have z : xck 238 (0 + (k - 0)) = true := List.all_eq_true.mp xk_R_isForm_0 (k - 0) (List.mem_range.mpr (by omega))
    rw [show 0 + (k - 0) = k by omega] at z; exact z
  omega
theorem xkm_R_scan : xckm 239 := by
  intro k hk
  have hl : (xcT.getD 239 []).length = 19 := by decide +kernel
  rw [hl] at hk
  by_cases c0 : k < 19
  · have z : xck 239 (0 + (k - 0)) = true := List.all_eq_true.mp xk_R_scan_0 (k - 0) (List.mem_range.mpr (by omega))
    rw [show 0 + (k - 0) = k by omega] at z; exact z
  omega
theorem xkm_R_cheapest : xckm 240 := by
  intro k hk
  have hl : (xcT.getD 240 []).length = 21 := by decide +kernel
  rw [hl] at hk
  by_cases c0 : k < 21
  · have z : xck 240 (0 + (k - 0)) = true := List.all_eq_true.mp xk_R_cheapest_0 (k - 0) (List.mem_range.mpr (by omega))
    rw [show 0 + (k - 0) = k by omega] at z; exact z
  omega
theorem xkm_R_best : xckm 241 := by
  intro k hk
  have hl : (xcT.getD 241 []).length = 16 := by decide +kernel
  rw [hl] at hk
  by_cases c0 : k < 16
  · have z : xck 241 (0 + (k - 0)) = true := List.all_eq_true.mp xk_R_best_0 (k - 0) (List.mem_range.mpr (by omega))
    rw [show 0 + (k - 0) = k by omega] at z; exact z
  omega
theorem xkm_R_write : xckm 242 := by
  intro k hk
  have hl : (xcT.getD 242 []).length = 68 := by decide +kernel
  rw [hl] at hk
  by_cases c0 : k < 40
  · have z : xck 242 (0 + (k - 0)) = true := List.all_eq_true.mp xk_R_write_0 (k - 0) (List.mem_range.mpr (by omega))
    rw [show 0 + (k - 0) = k by omega] at z; exact z
  by_cases c1 : k < 68
  · have z : xck 242 (40 + (k - 40)) = true := List.all_eq_true.mp xk_R_write_1 (k - 40) (List.mem_range.mpr (by omega))
    rw [show 40 + (k - 40) = k by omega] at z; exact z
  omega
theorem xkm_R_layFrom : xckm 243 := by
  intro k hk
  have hl : (xcT.getD 243 []).length = 161 := by decide +kernel
  rw [hl] at hk
  by_cases c0 : k < 40
  · have z : xck 243 (0 + (k - 0)) = true := List.all_eq_true.mp xk_R_layFrom_0 (k - 0) (List.mem_range.mpr (by omega))
    rw [show 0 + (k - 0) = k by omega] at z; exact z
  by_cases c1 : k < 80
  · have z : xck 243 (40 + (k - 40)) = true := List.all_eq_true.mp xk_R_layFrom_1 (k - 40) (List.mem_range.mpr (by omega))
    rw [show 40 + (k - 40) = k by omega] at z; exact z
  by_cases c2 : k < 120
  · have z : xck 243 (80 + (k - 80)) = true := List.all_eq_true.mp xk_R_layFrom_2 (k - 80) (List.mem_range.mpr (by omega))
    rw [show 80 + (k - 80) = k by omega] at z; exact z
  by_cases c3 : k < 160
  · have z : xck 243 (120 + (k - 120)) = true := List.all_eq_true.mp xk_R_layFrom_3 (k - 120) (List.mem_range.mpr (by omega))
    rw [show 120 + (k - 120) = k by omega] at z; exact z
  by_cases c4 : k < 161
  · have z : xck 243 (160 + (k - 160)) = true := List.all_eq_true.mp xk_R_layFrom_4 (k - 160) (List.mem_range.mpr (by omega))
    rw [show 160 + (k - 160) = k by omega] at z; exact z
  omega
theorem xkm_R_lay : xckm 244 := by
  intro k hk
  have hl : (xcT.getD 244 []).length = 36 := by decide +kernel
  rw [hl] at hk
  by_cases c0 : k < 36
  · have z : xck 244 (0 + (k - 0)) = true := List.all_eq_true.mp xk_R_lay_0 (k - 0) (List.mem_range.mpr (by omega))
    rw [show 0 + (k - 0) = k by omega] at z; exact z
  omega
theorem xkm_R_reading : xckm 245 := by
  intro k hk
  have hl : (xcT.getD 245 []).length = 27 := by decide +kernel
  rw [hl] at hk
  by_cases c0 : k < 27
  · have z : xck 245 (0 + (k - 0)) = true := List.all_eq_true.mp xk_R_reading_0 (k - 0) (List.mem_range.mpr (by omega))
    rw [show 0 + (k - 0) = k by omega] at z; exact z
  omega
theorem xkm_R_step : xckm 246 := by
  intro k hk
  have hl : (xcT.getD 246 []).length = 38 := by decide +kernel
  rw [hl] at hk
  by_cases c0 : k < 38
  · have z : xck 246 (0 + (k - 0)) = true := List.all_eq_true.mp xk_R_step_0 (k - 0) (List.mem_range.mpr (by omega))
    rw [show 0 + (k - 0) = k by omega] at z; exact z
  omega
theorem xkm_R_tell : xckm 247 := by
  intro k hk
  have hl : (xcT.getD 247 []).length = 60 := by decide +kernel
  rw [hl] at hk
  by_cases c0 : k < 40
  · have z : xck 247 (0 + (k - 0)) = true := List.all_eq_true.mp xk_R_tell_0 (k - 0) (List.mem_range.mpr (by omega))
    rw [show 0 + (k - 0) = k by omega] at z; exact z
  by_cases c1 : k < 60
  · have z : xck 247 (40 + (k - 40)) = true := List.all_eq_true.mp xk_R_tell_1 (k - 40) (List.mem_range.mpr (by omega))
    rw [show 40 + (k - 40) = k by omega] at z; exact z
  omega
theorem xkm_R_isTold : xckm 248 := by
  intro k hk
  have hl : (xcT.getD 248 []).length = 69 := by decide +kernel
  rw [hl] at hk
  by_cases c0 : k < 40
  · have z : xck 248 (0 + (k - 0)) = true := List.all_eq_true.mp xk_R_isTold_0 (k - 0) (List.mem_range.mpr (by omega))
    rw [show 0 + (k - 0) = k by omega] at z; exact z
  by_cases c1 : k < 69
  · have z : xck 248 (40 + (k - 40)) = true := List.all_eq_true.mp xk_R_isTold_1 (k - 40) (List.mem_range.mpr (by omega))
    rw [show 40 + (k - 40) = k by omega] at z; exact z
  omega
theorem xkm_R_check : xckm 249 := by
  intro k hk
  have hl : (xcT.getD 249 []).length = 94 := by decide +kernel
  rw [hl] at hk
  by_cases c0 : k < 40
  · have z : xck 249 (0 + (k - 0)) = true := List.all_eq_true.mp xk_R_check_0 (k - 0) (List.mem_range.mpr (by omega))
    rw [show 0 + (k - 0) = k by omega] at z; exact z
  by_cases c1 : k < 80
  · have z : xck 249 (40 + (k - 40)) = true := List.all_eq_true.mp xk_R_check_1 (k - 40) (List.mem_range.mpr (by omega))
    rw [show 40 + (k - 40) = k by omega] at z; exact z
  by_cases c2 : k < 94
  · have z : xck 249 (80 + (k - 80)) = true := List.all_eq_true.mp xk_R_check_2 (k - 80) (List.mem_range.mpr (by omega))
    rw [show 80 + (k - 80) = k by omega] at z; exact z
  omega
theorem xkm_R_less : xckm 250 := by
  intro k hk
  have hl : (xcT.getD 250 []).length = 7 := by decide +kernel
  rw [hl] at hk
  by_cases c0 : k < 7
  · have z : xck 250 (0 + (k - 0)) = true := List.all_eq_true.mp xk_R_less_0 (k - 0) (List.mem_range.mpr (by omega))
    rw [show 0 + (k - 0) = k by omega] at z; exact z
  omega
theorem xkm_R_changesFrom : xckm 251 := by
  intro k hk
  have hl : (xcT.getD 251 []).length = 145 := by decide +kernel
  rw [hl] at hk
  by_cases c0 : k < 40
  · have z : xck 251 (0 + (k - 0)) = true := List.all_eq_true.mp xk_R_changesFrom_0 (k - 0) (List.mem_range.mpr (by omega))
    rw [show 0 + (k - 0) = k by omega] at z; exact z
  by_cases c1 : k < 80
  · have z : xck 251 (40 + (k - 40)) = true := List.all_eq_true.mp xk_R_changesFrom_1 (k - 40) (List.mem_range.mpr (by omega))
    rw [show 40 + (k - 40) = k by omega] at z; exact z
  by_cases c2 : k < 120
  · have z : xck 251 (80 + (k - 80)) = true := List.all_eq_true.mp xk_R_changesFrom_2 (k - 80) (List.mem_range.mpr (by omega))
    rw [show 80 + (k - 80) = k by omega] at z; exact z
  by_cases c3 : k < 145
  · have z : xck 251 (120 + (k - 120)) = true := List.all_eq_true.mp xk_R_changesFrom_3 (k - 120) (List.mem_range.mpr (by omega))
    rw [show 120 + (k - 120) = k by omega] at z; exact z
  omega
theorem xkm_R_toPosition : xckm 252 := by
  intro k hk
  have hl : (xcT.getD 252 []).length = 27 := by decide +kernel
  rw [hl] at hk
  by_cases c0 : k < 27
  · have z : xck 252 (0 + (k - 0)) = true := List.all_eq_true.mp xk_R_toPosition_0 (k - 0) (List.mem_range.mpr (by omega))
    rw [show 0 + (k - 0) = k by omega] at z; exact z
  omega
theorem xkm_R_within : xckm 253 := by
  intro k hk
  have hl : (xcT.getD 253 []).length = 103 := by decide +kernel
  rw [hl] at hk
  by_cases c0 : k < 40
  · have z : xck 253 (0 + (k - 0)) = true := List.all_eq_true.mp xk_R_within_0 (k - 0) (List.mem_range.mpr (by omega))
    rw [show 0 + (k - 0) = k by omega] at z; exact z
  by_cases c1 : k < 80
  · have z : xck 253 (40 + (k - 40)) = true := List.all_eq_true.mp xk_R_within_1 (k - 40) (List.mem_range.mpr (by omega))
    rw [show 40 + (k - 40) = k by omega] at z; exact z
  by_cases c2 : k < 103
  · have z : xck 253 (80 + (k - 80)) = true := List.all_eq_true.mp xk_R_within_2 (k - 80) (List.mem_range.mpr (by omega))
    rw [show 80 + (k - 80) = k by omega] at z; exact z
  omega
theorem xkm_R_toPlace : xckm 254 := by
  intro k hk
  have hl : (xcT.getD 254 []).length = 82 := by decide +kernel
  rw [hl] at hk
  by_cases c0 : k < 40
  · have z : xck 254 (0 + (k - 0)) = true := List.all_eq_true.mp xk_R_toPlace_0 (k - 0) (List.mem_range.mpr (by omega))
    rw [show 0 + (k - 0) = k by omega] at z; exact z
  by_cases c1 : k < 80
  · have z : xck 254 (40 + (k - 40)) = true := List.all_eq_true.mp xk_R_toPlace_1 (k - 40) (List.mem_range.mpr (by omega))
    rw [show 40 + (k - 40) = k by omega] at z; exact z
  by_cases c2 : k < 82
  · have z : xck 254 (80 + (k - 80)) = true := List.all_eq_true.mp xk_R_toPlace_2 (k - 80) (List.mem_range.mpr (by omega))
    rw [show 80 + (k - 80) = k by omega] at z; exact z
  omega
theorem xkm_R_fill : xckm 255 := by
  intro k hk
  have hl : (xcT.getD 255 []).length = 60 := by decide +kernel
  rw [hl] at hk
  by_cases c0 : k < 40
  · have z : xck 255 (0 + (k - 0)) = true := List.all_eq_true.mp xk_R_fill_0 (k - 0) (List.mem_range.mpr (by omega))
    rw [show 0 + (k - 0) = k by omega] at z; exact z
  by_cases c1 : k < 60
  · have z : xck 255 (40 + (k - 40)) = true := List.all_eq_true.mp xk_R_fill_1 (k - 40) (List.mem_range.mpr (by omega))
    rw [show 40 + (k - 40) = k by omega] at z; exact z
  omega
theorem xkm_R_near : xckm 256 := by
  intro k hk
  have hl : (xcT.getD 256 []).length = 45 := by decide +kernel
  rw [hl] at hk
  by_cases c0 : k < 40
  · have z : xck 256 (0 + (k - 0)) = true := List.all_eq_true.mp xk_R_near_0 (k - 0) (List.mem_range.mpr (by omega))
    rw [show 0 + (k - 0) = k by omega] at z; exact z
  by_cases c1 : k < 45
  · have z : xck 256 (40 + (k - 40)) = true := List.all_eq_true.mp xk_R_near_1 (k - 40) (List.mem_range.mpr (by omega))
    rw [show 40 + (k - 40) = k by omega] at z; exact z
  omega
theorem xkm_R_keep : xckm 257 := by
  intro k hk
  have hl : (xcT.getD 257 []).length = 22 := by decide +kernel
  rw [hl] at hk
  by_cases c0 : k < 22
  · have z : xck 257 (0 + (k - 0)) = true := List.all_eq_true.mp xk_R_keep_0 (k - 0) (List.mem_range.mpr (by omega))
    rw [show 0 + (k - 0) = k by omega] at z; exact z
  omega
theorem xkm_R_drop : xckm 258 := by
  intro k hk
  have hl : (xcT.getD 258 []).length = 27 := by decide +kernel
  rw [hl] at hk
  by_cases c0 : k < 27
  · have z : xck 258 (0 + (k - 0)) = true := List.all_eq_true.mp xk_R_drop_0 (k - 0) (List.mem_range.mpr (by omega))
    rw [show 0 + (k - 0) = k by omega] at z; exact z
  omega
theorem xkm_R_hasLine : xckm 259 := by
  intro k hk
  have hl : (xcT.getD 259 []).length = 16 := by decide +kernel
  rw [hl] at hk
  by_cases c0 : k < 16
  · have z : xck 259 (0 + (k - 0)) = true := List.all_eq_true.mp xk_R_hasLine_0 (k - 0) (List.mem_range.mpr (by omega))
    rw [show 0 + (k - 0) = k by omega] at z; exact z
  omega
theorem xkm_R_ending : xckm 260 := by
  intro k hk
  have hl : (xcT.getD 260 []).length = 137 := by decide +kernel
  rw [hl] at hk
  by_cases c0 : k < 40
  · have z : xck 260 (0 + (k - 0)) = true := List.all_eq_true.mp xk_R_ending_0 (k - 0) (List.mem_range.mpr (by omega))
    rw [show 0 + (k - 0) = k by omega] at z; exact z
  by_cases c1 : k < 80
  · have z : xck 260 (40 + (k - 40)) = true := List.all_eq_true.mp xk_R_ending_1 (k - 40) (List.mem_range.mpr (by omega))
    rw [show 40 + (k - 40) = k by omega] at z; exact z
  by_cases c2 : k < 120
  · have z : xck 260 (80 + (k - 80)) = true := List.all_eq_true.mp xk_R_ending_2 (k - 80) (List.mem_range.mpr (by omega))
    rw [show 80 + (k - 80) = k by omega] at z; exact z
  by_cases c3 : k < 137
  · have z : xck 260 (120 + (k - 120)) = true := List.all_eq_true.mp xk_R_ending_3 (k - 120) (List.mem_range.mpr (by omega))
    rw [show 120 + (k - 120) = k by omega] at z; exact z
  omega
theorem xkm_R_sameEndings : xckm 261 := by
  intro k hk
  have hl : (xcT.getD 261 []).length = 80 := by decide +kernel
  rw [hl] at hk
  by_cases c0 : k < 40
  · have z : xck 261 (0 + (k - 0)) = true := List.all_eq_true.mp xk_R_sameEndings_0 (k - 0) (List.mem_range.mpr (by omega))
    rw [show 0 + (k - 0) = k by omega] at z; exact z
  by_cases c1 : k < 80
  · have z : xck 261 (40 + (k - 40)) = true := List.all_eq_true.mp xk_R_sameEndings_1 (k - 40) (List.mem_range.mpr (by omega))
    rw [show 40 + (k - 40) = k by omega] at z; exact z
  omega
theorem xkm_R_sameLook : xckm 262 := by
  intro k hk
  have hl : (xcT.getD 262 []).length = 83 := by decide +kernel
  rw [hl] at hk
  by_cases c0 : k < 40
  · have z : xck 262 (0 + (k - 0)) = true := List.all_eq_true.mp xk_R_sameLook_0 (k - 0) (List.mem_range.mpr (by omega))
    rw [show 0 + (k - 0) = k by omega] at z; exact z
  by_cases c1 : k < 80
  · have z : xck 262 (40 + (k - 40)) = true := List.all_eq_true.mp xk_R_sameLook_1 (k - 40) (List.mem_range.mpr (by omega))
    rw [show 40 + (k - 40) = k by omega] at z; exact z
  by_cases c2 : k < 83
  · have z : xck 262 (80 + (k - 80)) = true := List.all_eq_true.mp xk_R_sameLook_2 (k - 80) (List.mem_range.mpr (by omega))
    rw [show 80 + (k - 80) = k by omega] at z; exact z
  omega
theorem xkm_R_rhyme : xckm 263 := by
  intro k hk
  have hl : (xcT.getD 263 []).length = 47 := by decide +kernel
  rw [hl] at hk
  by_cases c0 : k < 40
  · have z : xck 263 (0 + (k - 0)) = true := List.all_eq_true.mp xk_R_rhyme_0 (k - 0) (List.mem_range.mpr (by omega))
    rw [show 0 + (k - 0) = k by omega] at z; exact z
  by_cases c1 : k < 47
  · have z : xck 263 (40 + (k - 40)) = true := List.all_eq_true.mp xk_R_rhyme_1 (k - 40) (List.mem_range.mpr (by omega))
    rw [show 40 + (k - 40) = k by omega] at z; exact z
  omega
theorem xkm_R_scheme : xckm 264 := by
  intro k hk
  have hl : (xcT.getD 264 []).length = 57 := by decide +kernel
  rw [hl] at hk
  by_cases c0 : k < 40
  · have z : xck 264 (0 + (k - 0)) = true := List.all_eq_true.mp xk_R_scheme_0 (k - 0) (List.mem_range.mpr (by omega))
    rw [show 0 + (k - 0) = k by omega] at z; exact z
  by_cases c1 : k < 57
  · have z : xck 264 (40 + (k - 40)) = true := List.all_eq_true.mp xk_R_scheme_1 (k - 40) (List.mem_range.mpr (by omega))
    rw [show 40 + (k - 40) = k by omega] at z; exact z
  omega
theorem xkm_R_place : xckm 265 := by
  intro k hk
  have hl : (xcT.getD 265 []).length = 96 := by decide +kernel
  rw [hl] at hk
  by_cases c0 : k < 40
  · have z : xck 265 (0 + (k - 0)) = true := List.all_eq_true.mp xk_R_place_0 (k - 0) (List.mem_range.mpr (by omega))
    rw [show 0 + (k - 0) = k by omega] at z; exact z
  by_cases c1 : k < 80
  · have z : xck 265 (40 + (k - 40)) = true := List.all_eq_true.mp xk_R_place_1 (k - 40) (List.mem_range.mpr (by omega))
    rw [show 40 + (k - 40) = k by omega] at z; exact z
  by_cases c2 : k < 96
  · have z : xck 265 (80 + (k - 80)) = true := List.all_eq_true.mp xk_R_place_2 (k - 80) (List.mem_range.mpr (by omega))
    rw [show 80 + (k - 80) = k by omega] at z; exact z
  omega
theorem xkm_R_sameWords : xckm 266 := by
  intro k hk
  have hl : (xcT.getD 266 []).length = 75 := by decide +kernel
  rw [hl] at hk
  by_cases c0 : k < 40
  · have z : xck 266 (0 + (k - 0)) = true := List.all_eq_true.mp xk_R_sameWords_0 (k - 0) (List.mem_range.mpr (by omega))
    rw [show 0 + (k - 0) = k by omega] at z; exact z
  by_cases c1 : k < 75
  · have z : xck 266 (40 + (k - 40)) = true := List.all_eq_true.mp xk_R_sameWords_1 (k - 40) (List.mem_range.mpr (by omega))
    rw [show 40 + (k - 40) = k by omega] at z; exact z
  omega
theorem xkm_R_layOn : xckm 267 := by
  intro k hk
  have hl : (xcT.getD 267 []).length = 128 := by decide +kernel
  rw [hl] at hk
  by_cases c0 : k < 40
  · have z : xck 267 (0 + (k - 0)) = true := List.all_eq_true.mp xk_R_layOn_0 (k - 0) (List.mem_range.mpr (by omega))
    rw [show 0 + (k - 0) = k by omega] at z; exact z
  by_cases c1 : k < 80
  · have z : xck 267 (40 + (k - 40)) = true := List.all_eq_true.mp xk_R_layOn_1 (k - 40) (List.mem_range.mpr (by omega))
    rw [show 40 + (k - 40) = k by omega] at z; exact z
  by_cases c2 : k < 120
  · have z : xck 267 (80 + (k - 80)) = true := List.all_eq_true.mp xk_R_layOn_2 (k - 80) (List.mem_range.mpr (by omega))
    rw [show 80 + (k - 80) = k by omega] at z; exact z
  by_cases c3 : k < 128
  · have z : xck 267 (120 + (k - 120)) = true := List.all_eq_true.mp xk_R_layOn_3 (k - 120) (List.mem_range.mpr (by omega))
    rw [show 120 + (k - 120) = k by omega] at z; exact z
  omega
theorem xkm_R_isOffRhyme : xckm 268 := by
  intro k hk
  have hl : (xcT.getD 268 []).length = 48 := by decide +kernel
  rw [hl] at hk
  by_cases c0 : k < 40
  · have z : xck 268 (0 + (k - 0)) = true := List.all_eq_true.mp xk_R_isOffRhyme_0 (k - 0) (List.mem_range.mpr (by omega))
    rw [show 0 + (k - 0) = k by omega] at z; exact z
  by_cases c1 : k < 48
  · have z : xck 268 (40 + (k - 40)) = true := List.all_eq_true.mp xk_R_isOffRhyme_1 (k - 40) (List.mem_range.mpr (by omega))
    rw [show 40 + (k - 40) = k by omega] at z; exact z
  omega
theorem xkm_R_judge : xckm 269 := by
  intro k hk
  have hl : (xcT.getD 269 []).length = 131 := by decide +kernel
  rw [hl] at hk
  by_cases c0 : k < 40
  · have z : xck 269 (0 + (k - 0)) = true := List.all_eq_true.mp xk_R_judge_0 (k - 0) (List.mem_range.mpr (by omega))
    rw [show 0 + (k - 0) = k by omega] at z; exact z
  by_cases c1 : k < 80
  · have z : xck 269 (40 + (k - 40)) = true := List.all_eq_true.mp xk_R_judge_1 (k - 40) (List.mem_range.mpr (by omega))
    rw [show 40 + (k - 40) = k by omega] at z; exact z
  by_cases c2 : k < 120
  · have z : xck 269 (80 + (k - 80)) = true := List.all_eq_true.mp xk_R_judge_2 (k - 80) (List.mem_range.mpr (by omega))
    rw [show 80 + (k - 80) = k by omega] at z; exact z
  by_cases c3 : k < 131
  · have z : xck 269 (120 + (k - 120)) = true := List.all_eq_true.mp xk_R_judge_3 (k - 120) (List.mem_range.mpr (by omega))
    rw [show 120 + (k - 120) = k by omega] at z; exact z
  omega
theorem xkm_R_judged : xckm 270 := by
  intro k hk
  have hl : (xcT.getD 270 []).length = 31 := by decide +kernel
  rw [hl] at hk
  by_cases c0 : k < 31
  · have z : xck 270 (0 + (k - 0)) = true := List.all_eq_true.mp xk_R_judged_0 (k - 0) (List.mem_range.mpr (by omega))
    rw [show 0 + (k - 0) = k by omega] at z; exact z
  omega
theorem xkm_R_isAhead : xckm 271 := by
  intro k hk
  have hl : (xcT.getD 271 []).length = 67 := by decide +kernel
  rw [hl] at hk
  by_cases c0 : k < 40
  · have z : xck 271 (0 + (k - 0)) = true := List.all_eq_true.mp xk_R_isAhead_0 (k - 0) (List.mem_range.mpr (by omega))
    rw [show 0 + (k - 0) = k by omega] at z; exact z
  by_cases c1 : k < 67
  · have z : xck 271 (40 + (k - 40)) = true := List.all_eq_true.mp xk_R_isAhead_1 (k - 40) (List.mem_range.mpr (by omega))
    rw [show 40 + (k - 40) = k by omega] at z; exact z
  omega
theorem xkm_R_fits : xckm 272 := by
  intro k hk
  have hl : (xcT.getD 272 []).length = 148 := by decide +kernel
  rw [hl] at hk
  by_cases c0 : k < 40
  · have z : xck 272 (0 + (k - 0)) = true := List.all_eq_true.mp xk_R_fits_0 (k - 0) (List.mem_range.mpr (by omega))
    rw [show 0 + (k - 0) = k by omega] at z; exact z
  by_cases c1 : k < 80
  · have z : xck 272 (40 + (k - 40)) = true := List.all_eq_true.mp xk_R_fits_1 (k - 40) (List.mem_range.mpr (by omega))
    rw [show 40 + (k - 40) = k by omega] at z; exact z
  by_cases c2 : k < 120
  · have z : xck 272 (80 + (k - 80)) = true := List.all_eq_true.mp xk_R_fits_2 (k - 80) (List.mem_range.mpr (by omega))
    rw [show 80 + (k - 80) = k by omega] at z; exact z
  by_cases c3 : k < 148
  · have z : xck 272 (120 + (k - 120)) = true := List.all_eq_true.mp xk_R_fits_3 (k - 120) (List.mem_range.mpr (by omega))
    rw [show 120 + (k - 120) = k by omega] at z; exact z
  omega
theorem xkm_R_takesPlace : xckm 273 := by
  intro k hk
  have hl : (xcT.getD 273 []).length = 75 := by decide +kernel
  rw [hl] at hk
  by_cases c0 : k < 40
  · have z : xck 273 (0 + (k - 0)) = true := List.all_eq_true.mp xk_R_takesPlace_0 (k - 0) (List.mem_range.mpr (by omega))
    rw [show 0 + (k - 0) = k by omega] at z; exact z
  by_cases c1 : k < 75
  · have z : xck 273 (40 + (k - 40)) = true := List.all_eq_true.mp xk_R_takesPlace_1 (k - 40) (List.mem_range.mpr (by omega))
    rw [show 40 + (k - 40) = k by omega] at z; exact z
  omega
theorem xkm_R_fit : xckm 274 := by
  intro k hk
  have hl : (xcT.getD 274 []).length = 48 := by decide +kernel
  rw [hl] at hk
  by_cases c0 : k < 40
  · have z : xck 274 (0 + (k - 0)) = true := List.all_eq_true.mp xk_R_fit_0 (k - 0) (List.mem_range.mpr (by omega))
    rw [show 0 + (k - 0) = k by omega] at z; exact z
  by_cases c1 : k < 48
  · have z : xck 274 (40 + (k - 40)) = true := List.all_eq_true.mp xk_R_fit_1 (k - 40) (List.mem_range.mpr (by omega))
    rw [show 40 + (k - 40) = k by omega] at z; exact z
  omega
theorem xkm_R_learn : xckm 275 := by
  intro k hk
  have hl : (xcT.getD 275 []).length = 168 := by decide +kernel
  rw [hl] at hk
  by_cases c0 : k < 40
  · have z : xck 275 (0 + (k - 0)) = true := List.all_eq_true.mp xk_R_learn_0 (k - 0) (List.mem_range.mpr (by omega))
    rw [show 0 + (k - 0) = k by omega] at z; exact z
  by_cases c1 : k < 80
  · have z : xck 275 (40 + (k - 40)) = true := List.all_eq_true.mp xk_R_learn_1 (k - 40) (List.mem_range.mpr (by omega))
    rw [show 40 + (k - 40) = k by omega] at z; exact z
  by_cases c2 : k < 120
  · have z : xck 275 (80 + (k - 80)) = true := List.all_eq_true.mp xk_R_learn_2 (k - 80) (List.mem_range.mpr (by omega))
    rw [show 80 + (k - 80) = k by omega] at z; exact z
  by_cases c3 : k < 160
  · have z : xck 275 (120 + (k - 120)) = true := List.all_eq_true.mp xk_R_learn_3 (k - 120) (List.mem_range.mpr (by omega))
    rw [show 120 + (k - 120) = k by omega] at z; exact z
  by_cases c4 : k < 168
  · have z : xck 275 (160 + (k - 160)) = true := List.all_eq_true.mp xk_R_learn_4 (k - 160) (List.mem_range.mpr (by omega))
    rw [show 160 + (k - 160) = k by omega] at z; exact z
  omega
theorem xkm_R_count : xckm 276 := by
  intro k hk
  have hl : (xcT.getD 276 []).length = 99 := by decide +kernel
  rw [hl] at hk
  by_cases c0 : k < 40
  · have z : xck 276 (0 + (k - 0)) = true := List.all_eq_true.mp xk_R_count_0 (k - 0) (List.mem_range.mpr (by omega))
    rw [show 0 + (k - 0) = k by omega] at z; exact z
  by_cases c1 : k < 80
  · have z : xck 276 (40 + (k - 40)) = true := List.all_eq_true.mp xk_R_count_1 (k - 40) (List.mem_range.mpr (by omega))
    rw [show 40 + (k - 40) = k by omega] at z; exact z
  by_cases c2 : k < 99
  · have z : xck 276 (80 + (k - 80)) = true := List.all_eq_true.mp xk_R_count_2 (k - 80) (List.mem_range.mpr (by omega))
    rw [show 80 + (k - 80) = k by omega] at z; exact z
  omega
theorem xkm_Arrays_fill : xckm 277 := by
  intro k hk
  have hl : (xcT.getD 277 []).length = 15 := by decide +kernel
  rw [hl] at hk
  by_cases c0 : k < 15
  · have z : xck 277 (0 + (k - 0)) = true := List.all_eq_true.mp xk_Arrays_fill_0 (k - 0) (List.mem_range.mpr (by omega))
    rw [show 0 + (k - 0) = k by omega] at z; exact z
  omega
theorem xkm_Arrays_copyOf : xckm 278 := by
  intro k hk
  have hl : (xcT.getD 278 []).length = 22 := by decide +kernel
  rw [hl] at hk
  by_cases c0 : k < 22
  · have z : xck 278 (0 + (k - 0)) = true := List.all_eq_true.mp xk_Arrays_copyOf_0 (k - 0) (List.mem_range.mpr (by omega))
    rw [show 0 + (k - 0) = k by omega] at z; exact z
  omega
theorem xkm_Arrays_fill2 : xckm 279 := by
  intro k hk
  have hl : (xcT.getD 279 []).length = 17 := by decide +kernel
  rw [hl] at hk
  by_cases c0 : k < 17
  · have z : xck 279 (0 + (k - 0)) = true := List.all_eq_true.mp xk_Arrays_fill2_0 (k - 0) (List.mem_range.mpr (by omega))
    rw [show 0 + (k - 0) = k by omega] at z; exact z
  omega
theorem xkm_Arrays_rangeCheck : xckm 280 := by
  intro k hk
  have hl : (xcT.getD 280 []).length = 37 := by decide +kernel
  rw [hl] at hk
  by_cases c0 : k < 37
  · have z : xck 280 (0 + (k - 0)) = true := List.all_eq_true.mp xk_Arrays_rangeCheck_0 (k - 0) (List.mem_range.mpr (by omega))
    rw [show 0 + (k - 0) = k by omega] at z; exact z
  omega
theorem xkm_Integer_bitCount : xckm 281 := by
  intro k hk
  have hl : (xcT.getD 281 []).length = 42 := by decide +kernel
  rw [hl] at hk
  by_cases c0 : k < 40
  · have z : xck 281 (0 + (k - 0)) = true := List.all_eq_true.mp xk_Integer_bitCount_0 (k - 0) (List.mem_range.mpr (by omega))
    rw [show 0 + (k - 0) = k by omega] at z; exact z
  by_cases c1 : k < 42
  · have z : xck 281 (40 + (k - 40)) = true := List.all_eq_true.mp xk_Integer_bitCount_1 (k - 40) (List.mem_range.mpr (by omega))
    rw [show 40 + (k - 40) = k by omega] at z; exact z
  omega
theorem xkg_0 (m : Nat) (h0 : 0 ≤ m) (h1 : m < 20) : xckm m := by
  by_cases c0 : m = 0
  · rw [c0]; exact xkm_Law_law
  by_cases c1 : m = 1
  · rw [c1]; exact xkm_Book_init
  by_cases c2 : m = 2
  · rw [c2]; exact xkm_Book_size
  by_cases c3 : m = 3
  · rw [c3]; exact xkm_Book_wordAt
  by_cases c4 : m = 4
  · rw [c4]; exact xkm_Book_learnWord
  by_cases c5 : m = 5
  · rw [c5]; exact xkm_Book_forgetWord
  by_cases c6 : m = 6
  · rw [c6]; exact xkm_Book_entryOf
  by_cases c7 : m = 7
  · rw [c7]; exact xkm_Book_placeFor
  by_cases c8 : m = 8
  · rw [c8]; exact xkm_Book_isAt
  by_cases c9 : m = 9
  · rw [c9]; exact xkm_Book_readTold
  by_cases c10 : m = 10
  · rw [c10]; exact xkm_Book_markOf
  by_cases c11 : m = 11
  · rw [c11]; exact xkm_Foot_init
  by_cases c12 : m = 12
  · rw [c12]; exact xkm_Foot_isClosing
  by_cases c13 : m = 13
  · rw [c13]; exact xkm_Foot_codes
  by_cases c14 : m = 14
  · rw [c14]; exact xkm_Foot_need
  by_cases c15 : m = 15
  · rw [c15]; exact xkm_Foot_next
  by_cases c16 : m = 16
  · rw [c16]; exact xkm_Foot_asksCut
  by_cases c17 : m = 17
  · rw [c17]; exact xkm_Foot_mayEnd
  by_cases c18 : m = 18
  · rw [c18]; exact xkm_Foot_buildFree
  by_cases c19 : m = 19
  · rw [c19]; exact xkm_Foot_buildPlaces
  omega
theorem xkg_1 (m : Nat) (h0 : 20 ≤ m) (h1 : m < 40) : xckm m := by
  by_cases c20 : m = 20
  · rw [c20]; exact xkm_Foot_addChoice
  by_cases c21 : m = 21
  · rw [c21]; exact xkm_Language_init
  by_cases c22 : m = 22
  · rw [c22]; exact xkm_Language_isLetter
  by_cases c23 : m = 23
  · rw [c23]; exact xkm_Language_vowelCount
  by_cases c24 : m = 24
  · rw [c24]; exact xkm_Language_pairCount
  by_cases c25 : m = 25
  · rw [c25]; exact xkm_Language_setVowel
  by_cases c26 : m = 26
  · rw [c26]; exact xkm_Language_setPair
  by_cases c27 : m = 27
  · rw [c27]; exact xkm_Language_pairAt
  by_cases c28 : m = 28
  · rw [c28]; exact xkm_Language_isPairAt
  by_cases c29 : m = 29
  · rw [c29]; exact xkm_Language_isVowelAt
  by_cases c30 : m = 30
  · rw [c30]; exact xkm_Language_soundCode
  by_cases c31 : m = 31
  · rw [c31]; exact xkm_Language_vowelSounds
  by_cases c32 : m = 32
  · rw [c32]; exact xkm_Language_firstVowel
  by_cases c33 : m = 33
  · rw [c33]; exact xkm_Language_traitsOf
  by_cases c34 : m = 34
  · rw [c34]; exact xkm_LineReader_init
  by_cases c35 : m = 35
  · rw [c35]; exact xkm_LineReader_faultSort
  by_cases c36 : m = 36
  · rw [c36]; exact xkm_LineReader_faultPlace
  by_cases c37 : m = 37
  · rw [c37]; exact xkm_LineReader_readLine
  by_cases c38 : m = 38
  · rw [c38]; exact xkm_LineReader_lineRead
  by_cases c39 : m = 39
  · rw [c39]; exact xkm_LineReader_withWord
  omega
theorem xkg_2 (m : Nat) (h0 : 40 ≤ m) (h1 : m < 60) : xckm m := by
  by_cases c40 : m = 40
  · rw [c40]; exact xkm_LineReader_setFault
  by_cases c41 : m = 41
  · rw [c41]; exact xkm_LineReader_addWord
  by_cases c42 : m = 42
  · rw [c42]; exact xkm_LineReader_addEntry
  by_cases c43 : m = 43
  · rw [c43]; exact xkm_LineReader_addByRules
  by_cases c44 : m = 44
  · rw [c44]; exact xkm_LineReader_addRuled
  by_cases c45 : m = 45
  · rw [c45]; exact xkm_Metre_init
  by_cases c46 : m = 46
  · rw [c46]; exact xkm_Metre_setFoot
  by_cases c47 : m = 47
  · rw [c47]; exact xkm_Metre_mayHave
  by_cases c48 : m = 48
  · rw [c48]; exact xkm_Metre_placesOf
  by_cases c49 : m = 49
  · rw [c49]; exact xkm_Metre_setPosition
  by_cases c50 : m = 50
  · rw [c50]; exact xkm_Metre_setCuts
  by_cases c51 : m = 51
  · rw [c51]; exact xkm_Metre_setPrice
  by_cases c52 : m = 52
  · rw [c52]; exact xkm_Metre_price
  by_cases c53 : m = 53
  · rw [c53]; exact xkm_Metre_isForm
  by_cases c54 : m = 54
  · rw [c54]; exact xkm_Metre_positions
  by_cases c55 : m = 55
  · rw [c55]; exact xkm_Metre_cutBehind
  by_cases c56 : m = 56
  · rw [c56]; exact xkm_Metre_footAt
  by_cases c57 : m = 57
  · rw [c57]; exact xkm_Metre_setByUse
  by_cases c58 : m = 58
  · rw [c58]; exact xkm_Near_init
  by_cases c59 : m = 59
  · rw [c59]; exact xkm_Near_changes
  omega
theorem xkg_3 (m : Nat) (h0 : 60 ≤ m) (h1 : m < 80) : xckm m := by
  by_cases c60 : m = 60
  · rw [c60]; exact xkm_Near_fillGate
  by_cases c61 : m = 61
  · rw [c61]; exact xkm_Near_fillFoot
  by_cases c62 : m = 62
  · rw [c62]; exact xkm_Near_stateValue
  by_cases c63 : m = 63
  · rw [c63]; exact xkm_Near_leastChoice
  by_cases c64 : m = 64
  · rw [c64]; exact xkm_Near_cell
  by_cases c65 : m = 65
  · rw [c65]; exact xkm_Near_setCell
  by_cases c66 : m = 66
  · rw [c66]; exact xkm_Poem_init
  by_cases c67 : m = 67
  · rw [c67]; exact xkm_Poem_lineCount
  by_cases c68 : m = 68
  · rw [c68]; exact xkm_Poem_placeCount
  by_cases c69 : m = 69
  · rw [c69]; exact xkm_Poem_lineAt
  by_cases c70 : m = 70
  · rw [c70]; exact xkm_Poem_keepLine
  by_cases c71 : m = 71
  · rw [c71]; exact xkm_Poem_dropLine
  by_cases c72 : m = 72
  · rw [c72]; exact xkm_Poem_rhymeOf
  by_cases c73 : m = 73
  · rw [c73]; exact xkm_Poem_letterOf
  by_cases c74 : m = 74
  · rw [c74]; exact xkm_Poem_firstOfRhyme
  by_cases c75 : m = 75
  · rw [c75]; exact xkm_Poem_setPlace
  by_cases c76 : m = 76
  · rw [c76]; exact xkm_Poem_layLines
  by_cases c77 : m = 77
  · rw [c77]; exact xkm_Poem_mayLieOn
  by_cases c78 : m = 78
  · rw [c78]; exact xkm_Poem_layWithout
  by_cases c79 : m = 79
  · rw [c79]; exact xkm_Poem_nextLine
  omega
theorem xkg_4 (m : Nat) (h0 : 80 ≤ m) (h1 : m < 100) : xckm m := by
  by_cases c80 : m = 80
  · rw [c80]; exact xkm_Poem_weighLine
  by_cases c81 : m = 81
  · rw [c81]; exact xkm_Poem_laidOut
  by_cases c82 : m = 82
  · rw [c82]; exact xkm_Poem_learnPrices
  by_cases c83 : m = 83
  · rw [c83]; exact xkm_Poem_countUses
  by_cases c84 : m = 84
  · rw [c84]; exact xkm_Readings_init
  by_cases c85 : m = 85
  · rw [c85]; exact xkm_Readings_layOut
  by_cases c86 : m = 86
  · rw [c86]; exact xkm_Readings_priceOf
  by_cases c87 : m = 87
  · rw [c87]; exact xkm_Readings_lengthOf
  by_cases c88 : m = 88
  · rw [c88]; exact xkm_Readings_partOf
  by_cases c89 : m = 89
  · rw [c89]; exact xkm_Readings_priceOfSteps
  by_cases c90 : m = 90
  · rw [c90]; exact xkm_Readings_putInOrder
  by_cases c91 : m = 91
  · rw [c91]; exact xkm_Readings_isAhead
  by_cases c92 : m = 92
  · rw [c92]; exact xkm_Scanner_init
  by_cases c93 : m = 93
  · rw [c93]; exact xkm_Scanner_howMany
  by_cases c94 : m = 94
  · rw [c94]; exact xkm_Scanner_cheapest
  by_cases c95 : m = 95
  · rw [c95]; exact xkm_Scanner_ownPrice
  by_cases c96 : m = 96
  · rw [c96]; exact xkm_Scanner_meltPrice
  by_cases c97 : m = 97
  · rw [c97]; exact xkm_Scanner_lostPrice
  by_cases c98 : m = 98
  · rw [c98]; exact xkm_Scanner_extraPrice
  by_cases c99 : m = 99
  · rw [c99]; exact xkm_Scanner_valueAt
  omega
theorem xkg_5 (m : Nat) (h0 : 100 ≤ m) (h1 : m < 120) : xckm m := by
  by_cases c100 : m = 100
  · rw [c100]; exact xkm_Scanner_join
  by_cases c101 : m = 101
  · rw [c101]; exact xkm_Scanner_fill
  by_cases c102 : m = 102
  · rw [c102]; exact xkm_Scanner_priceSyllables
  by_cases c103 : m = 103
  · rw [c103]; exact xkm_Scanner_numberFeet
  by_cases c104 : m = 104
  · rw [c104]; exact xkm_Scanner_fillFoot
  by_cases c105 : m = 105
  · rw [c105]; exact xkm_Scanner_stateValue
  by_cases c106 : m = 106
  · rw [c106]; exact xkm_Scanner_addChoices
  by_cases c107 : m = 107
  · rw [c107]; exact xkm_Scanner_cell
  by_cases c108 : m = 108
  · rw [c108]; exact xkm_Scanner_finish
  by_cases c109 : m = 109
  · rw [c109]; exact xkm_Syllables_init
  by_cases c110 : m = 110
  · rw [c110]; exact xkm_Syllables_init2
  by_cases c111 : m = 111
  · rw [c111]; exact xkm_Syllables_empty
  by_cases c112 : m = 112
  · rw [c112]; exact xkm_Syllables_add
  by_cases c113 : m = 113
  · rw [c113]; exact xkm_Syllables_addFrom
  by_cases c114 : m = 114
  · rw [c114]; exact xkm_Syllables_addFromBook
  by_cases c115 : m = 115
  · rw [c115]; exact xkm_Syllables_letterCount
  by_cases c116 : m = 116
  · rw [c116]; exact xkm_Syllables_letterAt
  by_cases c117 : m = 117
  · rw [c117]; exact xkm_Syllables_lettersIn
  by_cases c118 : m = 118
  · rw [c118]; exact xkm_Syllables_letterIn
  by_cases c119 : m = 119
  · rw [c119]; exact xkm_Syllables_wordCount
  omega
theorem xkg_6 (m : Nat) (h0 : 120 ≤ m) (h1 : m < 140) : xckm m := by
  by_cases c120 : m = 120
  · rw [c120]; exact xkm_Syllables_endsWord
  by_cases c121 : m = 121
  · rw [c121]; exact xkm_Syllables_meetsVowels
  by_cases c122 : m = 122
  · rw [c122]; exact xkm_Syllables_mayBeLost
  by_cases c123 : m = 123
  · rw [c123]; exact xkm_Syllables_mayMelt
  by_cases c124 : m = 124
  · rw [c124]; exact xkm_Syllables_setEnding
  by_cases c125 : m = 125
  · rw [c125]; exact xkm_Syllables_fullRhyme
  by_cases c126 : m = 126
  · rw [c126]; exact xkm_Syllables_halfRhyme
  by_cases c127 : m = 127
  · rw [c127]; exact xkm_Syllables_vowelFrom
  by_cases c128 : m = 128
  · rw [c128]; exact xkm_Syllables_eyeRhyme
  by_cases c129 : m = 129
  · rw [c129]; exact xkm_Syllables_seenLength
  by_cases c130 : m = 130
  · rw [c130]; exact xkm_Syllables_sameWords
  by_cases c131 : m = 131
  · rw [c131]; exact xkm_Syllables_lettersThrough
  by_cases c132 : m = 132
  · rw [c132]; exact xkm_Syllables_compareLetters
  by_cases c133 : m = 133
  · rw [c133]; exact xkm_Walker_init
  by_cases c134 : m = 134
  · rw [c134]; exact xkm_Walker_begin
  by_cases c135 : m = 135
  · rw [c135]; exact xkm_Walker_isOver
  by_cases c136 : m = 136
  · rw [c136]; exact xkm_Walker_listMoves
  by_cases c137 : m = 137
  · rw [c137]; exact xkm_Walker_listPosition
  by_cases c138 : m = 138
  · rw [c138]; exact xkm_Walker_listChoices
  by_cases c139 : m = 139
  · rw [c139]; exact xkm_Walker_ownWay
  omega
theorem xkg_7 (m : Nat) (h0 : 140 ≤ m) (h1 : m < 160) : xckm m := by
  by_cases c140 : m = 140
  · rw [c140]; exact xkm_Walker_stepOf
  by_cases c141 : m = 141
  · rw [c141]; exact xkm_Walker_addMove
  by_cases c142 : m = 142
  · rw [c142]; exact xkm_Walker_valueOf
  by_cases c143 : m = 143
  · rw [c143]; exact xkm_Walker_take
  by_cases c144 : m = 144
  · rw [c144]; exact xkm_Walker_takeCheapest
  by_cases c145 : m = 145
  · rw [c145]; exact xkm_Walker_takeRanked
  by_cases c146 : m = 146
  · rw [c146]; exact xkm_Walker_follow
  by_cases c147 : m = 147
  · rw [c147]; exact xkm_Walker_isTold
  by_cases c148 : m = 148
  · rw [c148]; exact xkm_Walker_wayOf
  by_cases c149 : m = 149
  · rw [c149]; exact xkm_Walker_licenceOf
  by_cases c150 : m = 150
  · rw [c150]; exact xkm_Walker_partOf
  by_cases c151 : m = 151
  · rw [c151]; exact xkm_X_init
  by_cases c152 : m = 152
  · rw [c152]; exact xkm_X_feed
  by_cases c153 : m = 153
  · rw [c153]; exact xkm_X_end
  by_cases c154 : m = 154
  · rw [c154]; exact xkm_X_vowel
  by_cases c155 : m = 155
  · rw [c155]; exact xkm_X_pair
  by_cases c156 : m = 156
  · rw [c156]; exact xkm_X_word
  by_cases c157 : m = 157
  · rw [c157]; exact xkm_X_unword
  by_cases c158 : m = 158
  · rw [c158]; exact xkm_X_foot
  by_cases c159 : m = 159
  · rw [c159]; exact xkm_X_form
  omega
theorem xkg_8 (m : Nat) (h0 : 160 ≤ m) (h1 : m < 180) : xckm m := by
  by_cases c160 : m = 160
  · rw [c160]; exact xkm_X_cut
  by_cases c161 : m = 161
  · rw [c161]; exact xkm_X_licence
  by_cases c162 : m = 162
  · rw [c162]; exact xkm_X_line
  by_cases c163 : m = 163
  · rw [c163]; exact xkm_X_fault
  by_cases c164 : m = 164
  · rw [c164]; exact xkm_X_syllable
  by_cases c165 : m = 165
  · rw [c165]; exact xkm_X_scan
  by_cases c166 : m = 166
  · rw [c166]; exact xkm_X_best
  by_cases c167 : m = 167
  · rw [c167]; exact xkm_X_lay
  by_cases c168 : m = 168
  · rw [c168]; exact xkm_X_reading
  by_cases c169 : m = 169
  · rw [c169]; exact xkm_X_step
  by_cases c170 : m = 170
  · rw [c170]; exact xkm_X_near
  by_cases c171 : m = 171
  · rw [c171]; exact xkm_X_tell
  by_cases c172 : m = 172
  · rw [c172]; exact xkm_X_check
  by_cases c173 : m = 173
  · rw [c173]; exact xkm_X_keep
  by_cases c174 : m = 174
  · rw [c174]; exact xkm_X_drop
  by_cases c175 : m = 175
  · rw [c175]; exact xkm_X_rhyme
  by_cases c176 : m = 176
  · rw [c176]; exact xkm_X_scheme
  by_cases c177 : m = 177
  · rw [c177]; exact xkm_X_place
  by_cases c178 : m = 178
  · rw [c178]; exact xkm_X_judge
  by_cases c179 : m = 179
  · rw [c179]; exact xkm_X_judged
  omega
theorem xkg_9 (m : Nat) (h0 : 180 ≤ m) (h1 : m < 200) : xckm m := by
  by_cases c180 : m = 180
  · rw [c180]; exact xkm_X_fits
  by_cases c181 : m = 181
  · rw [c181]; exact xkm_X_fit
  by_cases c182 : m = 182
  · rw [c182]; exact xkm_X_learn
  by_cases c183 : m = 183
  · rw [c183]; exact xkm_X_count
  by_cases c184 : m = 184
  · rw [c184]; exact xkm_X_putBytes
  by_cases c185 : m = 185
  · rw [c185]; exact xkm_X_takeTape
  by_cases c186 : m = 186
  · rw [c186]; exact xkm_X_cannotScan
  by_cases c187 : m = 187
  · rw [c187]; exact xkm_R_init
  by_cases c188 : m = 188
  · rw [c188]; exact xkm_R_in
  by_cases c189 : m = 189
  · rw [c189]; exact xkm_R_feed
  by_cases c190 : m = 190
  · rw [c190]; exact xkm_R_end
  by_cases c191 : m = 191
  · rw [c191]; exact xkm_R_isLetter
  by_cases c192 : m = 192
  · rw [c192]; exact xkm_R_vowel
  by_cases c193 : m = 193
  · rw [c193]; exact xkm_R_pairOf
  by_cases c194 : m = 194
  · rw [c194]; exact xkm_R_pair
  by_cases c195 : m = 195
  · rw [c195]; exact xkm_R_cutSounds
  by_cases c196 : m = 196
  · rw [c196]; exact xkm_R_isWord
  by_cases c197 : m = 197
  · rw [c197]; exact xkm_R_find
  by_cases c198 : m = 198
  · rw [c198]; exact xkm_R_readWord
  by_cases c199 : m = 199
  · rw [c199]; exact xkm_R_word
  omega
theorem xkg_10 (m : Nat) (h0 : 200 ≤ m) (h1 : m < 220) : xckm m := by
  by_cases c200 : m = 200
  · rw [c200]; exact xkm_R_unword
  by_cases c201 : m = 201
  · rw [c201]; exact xkm_R_addWord
  by_cases c202 : m = 202
  · rw [c202]; exact xkm_R_addSyllable
  by_cases c203 : m = 203
  · rw [c203]; exact xkm_R_copySyllable
  by_cases c204 : m = 204
  · rw [c204]; exact xkm_R_copyWord
  by_cases c205 : m = 205
  · rw [c205]; exact xkm_R_byRules
  by_cases c206 : m = 206
  · rw [c206]; exact xkm_R_closes
  by_cases c207 : m = 207
  · rw [c207]; exact xkm_R_wrong
  by_cases c208 : m = 208
  · rw [c208]; exact xkm_R_readLine
  by_cases c209 : m = 209
  · rw [c209]; exact xkm_R_copyLine
  by_cases c210 : m = 210
  · rw [c210]; exact xkm_R_line
  by_cases c211 : m = 211
  · rw [c211]; exact xkm_R_fault
  by_cases c212 : m = 212
  · rw [c212]; exact xkm_R_syllable
  by_cases c213 : m = 213
  · rw [c213]; exact xkm_R_foot
  by_cases c214 : m = 214
  · rw [c214]; exact xkm_R_form
  by_cases c215 : m = 215
  · rw [c215]; exact xkm_R_cut
  by_cases c216 : m = 216
  · rw [c216]; exact xkm_R_licence
  by_cases c217 : m = 217
  · rw [c217]; exact xkm_R_isLast
  by_cases c218 : m = 218
  · rw [c218]; exact xkm_R_isFirst
  by_cases c219 : m = 219
  · rw [c219]; exact xkm_R_markOf
  omega
theorem xkg_11 (m : Nat) (h0 : 220 ≤ m) (h1 : m < 240) : xckm m := by
  by_cases c220 : m = 220
  · rw [c220]; exact xkm_R_endsByVowel
  by_cases c221 : m = 221
  · rw [c221]; exact xkm_R_beginsByVowel
  by_cases c222 : m = 222
  · rw [c222]; exact xkm_R_canLose
  by_cases c223 : m = 223
  · rw [c223]; exact xkm_R_canMelt
  by_cases c224 : m = 224
  · rw [c224]; exact xkm_R_mayStand
  by_cases c225 : m = 225
  · rw [c225]; exact xkm_R_isOver
  by_cases c226 : m = 226
  · rw [c226]; exact xkm_R_isCut
  by_cases c227 : m = 227
  · rw [c227]; exact xkm_R_state
  by_cases c228 : m = 228
  · rw [c228]; exact xkm_R_add
  by_cases c229 : m = 229
  · rw [c229]; exact xkm_R_isBehind
  by_cases c230 : m = 230
  · rw [c230]; exact xkm_R_addHeavy
  by_cases c231 : m = 231
  · rw [c231]; exact xkm_R_addLight
  by_cases c232 : m = 232
  · rw [c232]; exact xkm_R_addPlace
  by_cases c233 : m = 233
  · rw [c233]; exact xkm_R_addPosition
  by_cases c234 : m = 234
  · rw [c234]; exact xkm_R_list
  by_cases c235 : m = 235
  · rw [c235]; exact xkm_R_mayEnd
  by_cases c236 : m = 236
  · rw [c236]; exact xkm_R_begin
  by_cases c237 : m = 237
  · rw [c237]; exact xkm_R_waysFrom
  by_cases c238 : m = 238
  · rw [c238]; exact xkm_R_isForm
  by_cases c239 : m = 239
  · rw [c239]; exact xkm_R_scan
  omega
theorem xkg_12 (m : Nat) (h0 : 240 ≤ m) (h1 : m < 260) : xckm m := by
  by_cases c240 : m = 240
  · rw [c240]; exact xkm_R_cheapest
  by_cases c241 : m = 241
  · rw [c241]; exact xkm_R_best
  by_cases c242 : m = 242
  · rw [c242]; exact xkm_R_write
  by_cases c243 : m = 243
  · rw [c243]; exact xkm_R_layFrom
  by_cases c244 : m = 244
  · rw [c244]; exact xkm_R_lay
  by_cases c245 : m = 245
  · rw [c245]; exact xkm_R_reading
  by_cases c246 : m = 246
  · rw [c246]; exact xkm_R_step
  by_cases c247 : m = 247
  · rw [c247]; exact xkm_R_tell
  by_cases c248 : m = 248
  · rw [c248]; exact xkm_R_isTold
  by_cases c249 : m = 249
  · rw [c249]; exact xkm_R_check
  by_cases c250 : m = 250
  · rw [c250]; exact xkm_R_less
  by_cases c251 : m = 251
  · rw [c251]; exact xkm_R_changesFrom
  by_cases c252 : m = 252
  · rw [c252]; exact xkm_R_toPosition
  by_cases c253 : m = 253
  · rw [c253]; exact xkm_R_within
  by_cases c254 : m = 254
  · rw [c254]; exact xkm_R_toPlace
  by_cases c255 : m = 255
  · rw [c255]; exact xkm_R_fill
  by_cases c256 : m = 256
  · rw [c256]; exact xkm_R_near
  by_cases c257 : m = 257
  · rw [c257]; exact xkm_R_keep
  by_cases c258 : m = 258
  · rw [c258]; exact xkm_R_drop
  by_cases c259 : m = 259
  · rw [c259]; exact xkm_R_hasLine
  omega
theorem xkg_13 (m : Nat) (h0 : 260 ≤ m) (h1 : m < 280) : xckm m := by
  by_cases c260 : m = 260
  · rw [c260]; exact xkm_R_ending
  by_cases c261 : m = 261
  · rw [c261]; exact xkm_R_sameEndings
  by_cases c262 : m = 262
  · rw [c262]; exact xkm_R_sameLook
  by_cases c263 : m = 263
  · rw [c263]; exact xkm_R_rhyme
  by_cases c264 : m = 264
  · rw [c264]; exact xkm_R_scheme
  by_cases c265 : m = 265
  · rw [c265]; exact xkm_R_place
  by_cases c266 : m = 266
  · rw [c266]; exact xkm_R_sameWords
  by_cases c267 : m = 267
  · rw [c267]; exact xkm_R_layOn
  by_cases c268 : m = 268
  · rw [c268]; exact xkm_R_isOffRhyme
  by_cases c269 : m = 269
  · rw [c269]; exact xkm_R_judge
  by_cases c270 : m = 270
  · rw [c270]; exact xkm_R_judged
  by_cases c271 : m = 271
  · rw [c271]; exact xkm_R_isAhead
  by_cases c272 : m = 272
  · rw [c272]; exact xkm_R_fits
  by_cases c273 : m = 273
  · rw [c273]; exact xkm_R_takesPlace
  by_cases c274 : m = 274
  · rw [c274]; exact xkm_R_fit
  by_cases c275 : m = 275
  · rw [c275]; exact xkm_R_learn
  by_cases c276 : m = 276
  · rw [c276]; exact xkm_R_count
  by_cases c277 : m = 277
  · rw [c277]; exact xkm_Arrays_fill
  by_cases c278 : m = 278
  · rw [c278]; exact xkm_Arrays_copyOf
  by_cases c279 : m = 279
  · rw [c279]; exact xkm_Arrays_fill2
  omega
theorem xkg_14 (m : Nat) (h0 : 280 ≤ m) (h1 : m < 282) : xckm m := by
  by_cases c280 : m = 280
  · rw [c280]; exact xkm_Arrays_rangeCheck
  by_cases c281 : m = 281
  · rw [c281]; exact xkm_Integer_bitCount
  omega
theorem xkall (m : Nat) (h : m < 282) : xckm m := by
  by_cases c0 : m < 20
  · exact xkg_0 m (by omega) c0
  by_cases c1 : m < 40
  · exact xkg_1 m (by omega) c1
  by_cases c2 : m < 60
  · exact xkg_2 m (by omega) c2
  by_cases c3 : m < 80
  · exact xkg_3 m (by omega) c3
  by_cases c4 : m < 100
  · exact xkg_4 m (by omega) c4
  by_cases c5 : m < 120
  · exact xkg_5 m (by omega) c5
  by_cases c6 : m < 140
  · exact xkg_6 m (by omega) c6
  by_cases c7 : m < 160
  · exact xkg_7 m (by omega) c7
  by_cases c8 : m < 180
  · exact xkg_8 m (by omega) c8
  by_cases c9 : m < 200
  · exact xkg_9 m (by omega) c9
  by_cases c10 : m < 220
  · exact xkg_10 m (by omega) c10
  by_cases c11 : m < 240
  · exact xkg_11 m (by omega) c11
  by_cases c12 : m < 260
  · exact xkg_12 m (by omega) c12
  by_cases c13 : m < 280
  · exact xkg_13 m (by omega) c13
  by_cases c14 : m < 282
  · exact xkg_14 m (by omega) c14
  omega
