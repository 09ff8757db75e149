/-! lay: writing the row of steps alone -/
def qS : List (Int × Int) := [(40, 7), (59, 61)]
section IQ
variable {h h' : xH} {q : Int}
theorem q_dyn (F : Fr [q] qS h h') {c : Int} (h1 : 130 ≤ c) (h2 : c ≠ q) : h'.i c = h.i c ∧ h'.r c = h.r c ∧ h'.tag c = h.tag c ∧ h'.len c = h.len c := by
  have fs := fr_same F
  refine ⟨Fr_row F (by rw [List.mem_singleton]; exact h2) (fun x m e => ?_), by rw [fs.1], by rw [fs.2.1], by rw [fs.2.2.1]⟩
  have : ∀ y ∈ qS, y.1 < 130 := by decide
  have := this x m
  omega
theorem q_row (F : Fr [q] qS h h') (q0 : 130 ≤ q) {c : Int} (h1 : c < 130) (h2 : c ≠ 40) (h3 : c ≠ 59) : h'.i c = h.i c :=
  Fr_row F (by rw [List.mem_singleton]; omega) (fun x m e => by
    have : ∀ y ∈ qS, y.1 = 40 ∨ y.1 = 59 := by decide
    have := this x m
    omega)
theorem SylB_q (F : Fr [q] qS h h') (hq : q = h.r 40 3) {p : Int} (S : SylB h p) : SylB h' p := by
  have fs := fr_same F
  unfold SylB at S
  obtain ⟨a1, a2, a3, a4, a5, a6, a7, a8, a9, a10, a11, a12, a13, a14, a15, a16, a17, a18, a19⟩ := S
  have z := a19
  unfold aprt at z
  have b0 := q_dyn F (c := p) (by omega) (by omega)
  have b2 := q_dyn F (c := p + 2) (by omega) (by omega)
  unfold SylB aprt
  rw [fs.1, fs.2.1, fs.2.2.1, fs.2.2.2.1, b0.1, b2.1]
  exact ⟨a1, a2, a3, a4, a5, a6, a7, a8, a9, a10, a11, a12, a13, a14, a15, a16, a17, a18, a19⟩
theorem SylB_rowsq (F : Fr [q] qS h h') (hq : q = h.r 40 3) {p : Int} (S : SylB h p) : h'.i p = h.i p ∧ h'.r p = h.r p ∧ h'.i (p + 1) = h.i (p + 1) ∧ h'.i (p + 2) = h.i (p + 2) ∧ h'.i (p + 3) = h.i (p + 3) ∧ h'.i (p + 4) = h.i (p + 4) ∧ h'.i (p + 5) = h.i (p + 5) ∧ h'.len (p + 1) = h.len (p + 1) := by
  unfold SylB at S
  obtain ⟨a1, a2, a3, a4, a5, a6, a7, a8, a9, a10, a11, a12, a13, a14, a15, a16, a17, a18, a19⟩ := S
  unfold aprt at a19
  have b0 := q_dyn F (c := p) (by omega) (by omega)
  have b1 := q_dyn F (c := p + 1) (by omega) (by omega)
  have b2 := q_dyn F (c := p + 2) (by omega) (by omega)
  have b3 := q_dyn F (c := p + 3) (by omega) (by omega)
  have b4 := q_dyn F (c := p + 4) (by omega) (by omega)
  have b5 := q_dyn F (c := p + 5) (by omega) (by omega)
  exact ⟨b0.1, b0.2.1, b1.1, b2.1, b3.1, b4.1, b5.1, b1.2.2.2⟩
theorem RV_q (F : Fr [q] qS h h') (q0 : 130 ≤ q) (k : Int) : RV h' k = RV h k := by
  have r1 := q_row F q0 (c := 77) (by decide) (by decide) (by decide)
  have r2 := q_row F q0 (c := 78) (by decide) (by decide) (by decide)
  have r3 := q_row F q0 (c := 79) (by decide) (by decide) (by decide)
  have r4 := q_row F q0 (c := 80) (by decide) (by decide) (by decide)
  have r5 := q_row F q0 (c := 81) (by decide) (by decide) (by decide)
  have r6 := q_row F q0 (c := 82) (by decide) (by decide) (by decide)
  have r7 := q_row F q0 (c := 83) (by decide) (by decide) (by decide)
  have r8 := q_row F q0 (c := 84) (by decide) (by decide) (by decide)
  have r9 := q_row F q0 (c := 85) (by decide) (by decide) (by decide)
  have r10 := q_row F q0 (c := 86) (by decide) (by decide) (by decide)
  have r11 := q_row F q0 (c := 87) (by decide) (by decide) (by decide)
  have r12 := q_row F q0 (c := 88) (by decide) (by decide) (by decide)
  funext f j
  unfold RV
  rw [r1, r2, r3, r4, r5, r6, r7, r8, r9, r10, r11, r12]
theorem LineRel_q (F : Fr [q] qS h h') (q0 : 130 ≤ q) (hq : q = h.r 40 3) {p k : Int} (S : LineRel h p k) : LineRel h' p k := by
  obtain ⟨s1, s2, s3⟩ := S
  have fs := fr_same F
  have r := SylB_rowsq F hq s1
  have s1' := SylB_q F hq s1
  unfold SylE at s2
  obtain ⟨c1, c2, c3, c4⟩ := s2
  have z := c4
  unfold aprt at z
  have hp : 130 ≤ p := s1.1
  have b7 := q_dyn F (c := p + 7) (by omega) (by omega)
  have s2' : SylE h' p := by
    unfold SylE aprt
    rw [fs.1, fs.2.1, fs.2.2.2.1]
    exact ⟨c1, c2, c3, c4⟩
  have e : XV h' p = XV h p := by
    have q := s1
    unfold SylB at q
    obtain ⟨a1, a2, a3, a4, a5, a6, a7, a8, a9⟩ := q
    funext f j
    match f with
    | 0 => show h'.i p _ = h.i p _; rw [r.1]
    | 1 => show h'.i (h'.r p _) _ = h.i (h.r p _) _; rw [r.2.1, a4, r.2.2.1]
    | 2 => show h'.i (h'.r p _) _ = h.i (h.r p _) _; rw [r.2.1, a5, r.2.2.2.1]
    | 3 => show h'.i (h'.r p _) _ = h.i (h.r p _) _; rw [r.2.1, a6, r.2.2.2.2.1]
    | 4 => show h'.i (h'.r p _) _ = h.i (h.r p _) _; rw [r.2.1, a7, r.2.2.2.2.2.1]
    | 5 => show h'.i (h'.r p _) _ = h.i (h.r p _) _; rw [r.2.1, a8, r.2.2.2.2.2.2.1]
    | 6 => show h'.i (h'.r p _) _ = h.i (h.r p _) _; rw [r.2.1, c2, b7.1]
    | _ + 7 => show h'.len (h'.r p _) = h.len (h.r p _); rw [r.2.1, c2, b7.2.2.2]
  refine ⟨s1', s2', ?_⟩
  rw [e, RV_q F q0]; exact s3
theorem BookRel_q (F : Fr [q] qS h h') (q0 : 130 ≤ q) (hq : q = h.r 40 3) {p v : Int} (B : BookRel h p v) : BookRel h' p v := by
  have r := SylB_rowsq F hq B.1
  refine ⟨SylB_q F hq B.1, ?_⟩
  rw [r.1, r.2.2.1, r.2.2.2.1, r.2.2.2.2.2.1, q_row F q0 (c := 68) (by decide) (by decide) (by decide), q_row F q0 (c := 69) (by decide) (by decide) (by decide), q_row F q0 (c := 70) (by decide) (by decide) (by decide), q_row F q0 (c := 71) (by decide) (by decide) (by decide), q_row F q0 (c := 72) (by decide) (by decide) (by decide)]
  exact B.2
theorem FTab_q (F : Fr [q] qS h h') (hq : q = h.r 40 3) {p s m x y : Int} {dg : Int → Int} (B : FTab h p s m x y dg) : FTab h' p s m x y dg := by
  have fs := fr_same F
  unfold FTab at B ⊢
  obtain ⟨a1, a2, a3, a4, a5, a6, a7, a8, a9, a10, a11, a12, a13, a14, a15, a16, a17, a18, a19, a20⟩ := B
  have z := a16
  unfold aprt at z ⊢
  have b0 := q_dyn F (c := p) (by omega) (by omega)
  have b1 := q_dyn F (c := p + 1) (by omega) (by omega)
  have b2 := q_dyn F (c := p + 2) (by omega) (by omega)
  have b3 := q_dyn F (c := p + 3) (by omega) (by omega)
  have b4 := q_dyn F (c := p + 4) (by omega) (by omega)
  rw [fs.1, fs.2.1, fs.2.2.1, fs.2.2.2.1, b0.1, b1.1, b2.1, b3.1, b4.1]
  exact ⟨a1, a2, a3, a4, a5, a6, a7, a8, a9, a10, a11, a12, a13, a14, a15, z, a17, a18, a19, a20⟩
/-- all stands that does not speak of the readings -/
theorem INV_q {n : Nat} (I : INV n h) (F : Fr [q] qS h h') (q0 : 130 ≤ q) (hq : q = h.r 40 3) (q1 : q < h.nx) (rd' : I_read h') : INV n h' := by
  have fs := fr_same F
  obtain ⟨a1, a2, a3, a4, a5, a6, i1, i2, i3, i4, i5, i6, i7, i8, i9, i10, i11, i12, i13, i14, i15⟩ := I
  have P : FA [] qS [] [] (h.wr 28 6 q) (h'.wr 28 6 q) := by
    refine ⟨by show h.nx ≤ h'.nx; rw [fs.2.2.2.1]; exact Int.le_refl _, fun c _ => ⟨by show h'.tag c = h.tag c; rw [fs.2.1], by show h'.len c = h.len c; rw [fs.2.2.1]⟩, fun c k _ _ u w => ?_, fun c k _ _ _ => ?_⟩
    · have e : (h.wr 28 6 q).r 28 6 = q := by simp only [true_and, and_true, false_and, and_false, forall_eq, forall_eq', xi_wi, xr_wi, xt_wi, xl_wi, xn_wi, xs_wi, xi_wr, xr_wr, xt_wr, xl_wr, xn_wr, xs_wr, if_true, if_false, and_self, Int.reduceEq, Int.reduceLT, Int.reduceLE, Int.reduceNeg, Int.le_refl, Int.reduceMod]
      rw [e] at w
      exact F.2 c k (by rw [List.mem_singleton]; exact w) u
    · rw [xr_wr, xr_wr, fs.1]
  have ht : I_tab (h.wr 28 6 q) := by
    unfold I_tab
    simp only [true_and, and_true, false_and, and_false, forall_eq, forall_eq', xi_wi, xr_wi, xt_wi, xl_wi, xn_wi, xs_wi, xi_wr, xr_wr, xt_wr, xl_wr, xn_wr, xs_wr, if_true, if_false, and_self, Int.reduceEq, Int.reduceLT, Int.reduceLE, Int.reduceNeg, Int.le_refl, Int.reduceMod]
    exact Or.inr q0
  have row : ∀ {c : Int}, c < 130 → c ≠ 40 → c ≠ 59 → h'.i c = h.i c := fun x y z => q_row F q0 x y z
  have s59 : ∀ k, k ≠ 61 → h'.i 59 k = h.i 59 k := fun k hk => F.2 59 k (by rw [List.mem_singleton]; omega) (fun m => by
    unfold qS at m
    simp only [List.mem_cons, List.not_mem_nil, or_false, Prod.mk.injEq] at m
    rcases m with m | m
    · exact absurd m.1 (by decide)
    · exact hk m.2)
  refine ⟨SX_2 F.1 a1, SR_2 F.1 a2, by rw [fs.2.2.2.1]; exact a3, by unfold I_tab at a4 ⊢; rw [fs.1]; exact a4, ?_, ?_, (show I_tape (h'.wr 28 6 q) from I_tape_fa (h := h.wr 28 6 q) P a3 ht (by decide) i1), (show I_vow (h'.wr 28 6 q) from I_vow_fa (h := h.wr 28 6 q) P a3 ht (by decide) i2), (show I_pair (h'.wr 28 6 q) from I_pair_fa (h := h.wr 28 6 q) P a3 ht (by decide) i3), (show I_form (h'.wr 28 6 q) from I_form_fa (h := h.wr 28 6 q) P a3 ht (by decide) i4), (show I_told (h'.wr 28 6 q) from I_told_fa (h := h.wr 28 6 q) P a3 ht (by decide) i5), (show I_fault (h'.wr 28 6 q) from I_fault_fa (h := h.wr 28 6 q) P a3 ht (by decide) i6), (show I_place (h'.wr 28 6 q) from I_place_fa (h := h.wr 28 6 q) P a3 ht (by decide) i7), (show I_judge (h'.wr 28 6 q) from I_judge_fa (h := h.wr 28 6 q) P a3 ht (by decide) i8), ?_, ?_, ?_, ?_, rd', ?_, (show I_dr (h'.wr 28 6 q) from I_dr_fa (h := h.wr 28 6 q) P a3 ht (by decide) i15)⟩
  · intro c k hc
    rw [fs.2.2.2.1] at hc
    have := a5 c k hc
    rw [fs.1, (q_dyn F (c := c) (by omega) (by omega)).1]
    exact this
  · unfold I_room at a6 ⊢
    rw [fs.1, fs.2.1, fs.2.2.1, fs.2.2.2.1, fs.2.2.2.2]; exact a6
  · unfold I_book at i9 ⊢
    rw [row (c := 68) (by decide) (by decide) (by decide), row (c := 69) (by decide) (by decide) (by decide), row (c := 7) (by decide) (by decide) (by decide), s59 16 (by decide), fs.1]
    obtain ⟨j1, j2, j3, j4, j5, j6, j7⟩ := i9
    refine ⟨j1, j2, j3, fun j h0 h1 => ?_, fun v h0 h1 => ?_, fun j k h0 h1 h2 => ?_, j7⟩
    · obtain ⟨v, v0, v1, B⟩ := j4 j h0 h1
      exact ⟨v, v0, v1, BookRel_q F q0 hq B⟩
    · obtain ⟨j, v0, v1, B⟩ := j5 v h0 h1
      exact ⟨j, v0, v1, BookRel_q F q0 hq B⟩
    · obtain ⟨v, -, -, B⟩ := j4 j h0 (by omega)
      obtain ⟨v', -, -, B'⟩ := j4 k (by omega) h2
      have b := SylB_rowsq F hq B.1
      have b' := SylB_rowsq F hq B'.1
      rw [b.2.2.1, b'.2.2.1, b.2.2.2.2.2.2.2, b'.2.2.2.2.2.2.2]
      exact j6 j k h0 h1 h2
  · unfold I_feet at i10 ⊢
    intro k h0 h1
    rw [row (c := 89) (by decide) (by decide) (by decide), fs.1]
    refine (i10 k h0 h1).imp id (fun z => ⟨z.1, ?_⟩)
    have y := z.2
    unfold FootRel at y ⊢
    rw [row (c := 89) (by decide) (by decide) (by decide), row (c := 90) (by decide) (by decide) (by decide), row (c := 91) (by decide) (by decide) (by decide), row (c := 92) (by decide) (by decide) (by decide), row (c := 93) (by decide) (by decide) (by decide)]
    exact ⟨y.1, FTab_q F hq y.2⟩
  · unfold I_line at i11 ⊢
    rw [row (c := 76) (by decide) (by decide) (by decide), fs.1]
    exact i11.imp id (fun z => ⟨z.1, z.2.1, LineRel_q F q0 hq z.2.2⟩)
  · unfold I_poem at i12 ⊢
    rw [row (c := 76) (by decide) (by decide) (by decide), row (c := 48) (by decide) (by decide) (by decide), fs.1]
    exact ⟨i12.1, fun k h0 h1 => (i12.2 k h0 h1).imp id (fun z => ⟨z.1, z.2.1, LineRel_q F q0 hq z.2.2⟩)⟩
  · unfold I_fit at i14 ⊢
    rw [row (c := 125) (by decide) (by decide) (by decide), row (c := 126) (by decide) (by decide) (by decide), row (c := 127) (by decide) (by decide) (by decide), row (c := 2) (by decide) (by decide) (by decide), s59 84 (by decide), fs.1]
    obtain ⟨j1, j2, j3, j4⟩ := i14
    refine ⟨j1, j2, j3, fun a h0 h1 => ?_⟩
    obtain ⟨c1, c2, c3⟩ := j4 a h0 h1
    have b := SylB_rowsq F hq c2
    rw [b.1, b.2.2.1, b.2.2.2.1]
    exact ⟨c1, SylB_q F hq c2, c3⟩
end IQ
