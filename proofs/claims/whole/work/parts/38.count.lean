/-! count, drop -/
theorem line_bits {n : Nat} {h : xH} (I : INV n h) : ∀ k : Int, 0 ≤ k → k < (12 : Nat) → 0 ≤ h.i 76 (k + 1) ∧ h.i 76 (k + 1) ≤ 1 := by
  intro k k0 k1
  have i12 := I.2.2.2.2.2.2.2.2.2.2.2.2.2.2.2.2.2.1
  rcases i12.2 k k0 (by omega) with z | z
  · rw [z.2]; decide
  · rw [z.2.1]; decide
theorem c_R_count_56 {d : Nat} {h : xH} {Q : Int → xH → Prop} (S : SR h) (hb : ∀ k : Int, 0 ≤ k → k < (12 : Nat) → 0 ≤ h.i 76 (k + 1) ∧ h.i 76 (k + 1) ≤ 1) (H : Q (sumN (fun k => h.i 76 (k + 1)) 12) h) : ∀ (n k : Nat) (u1 : xV), k + n = 12 → xT d M_R_count 56 [(1, 59), u1, (0, sumN (fun k => h.i 76 (k + 1)) k), (0, (k : Int))] [] h (xqi Q) := by
  intro n
  induction n with
  | zero =>
    intro k u1 e
    apply L_R_count_56
    rw [if_neg (by omega)]
    have : k = 12 := by omega
    subst this
    exact H
  | succ n ih =>
    intro k u1 e
    apply L_R_count_56
    rw [if_pos (by omega)]
    have b := hb k (by omega) (by omega)
    have sb := sumN_bits (f := fun k => h.i 76 (k + 1)) k (fun j j0 j1 => hb j j0 (by omega))
    have g : (0 : Int) ≤ ((k + 1 : Nat) : Int) ∧ ((k + 1 : Nat) : Int) < 15 := by omega
    have z0 := ih (k + 1) (xkl u1) (by omega)
    rw [sumN] at z0
    rw [show xw ((k : Int) + 1) = ((k + 1 : Nat) : Int) from by rw [xw_id (by omega) (by omega)]; omega, show xw (sumN (fun k => h.i 76 (k + 1)) k + 0) = sumN (fun k => h.i 76 (k + 1)) k from by rw [xw_id (by omega) (by omega)]; omega, show xw (sumN (fun k => h.i 76 (k + 1)) k + 1) = sumN (fun k => h.i 76 (k + 1)) k + 1 from by rw [xw_id (by omega) (by omega)]]
    have ek : ((k + 1 : Nat) : Int) = (k : Int) + 1 := by omega
    simp only [srt S, srl S, srf S, true_and, and_true, false_and, and_false, forall_eq, forall_eq', xi_wi, xr_wi, xt_wi, xl_wi, xn_wi, xs_wi, xi_wr, xr_wr, xt_wr, xl_wr, xn_wr, xs_wr, if_true, if_false, and_self, Int.reduceEq, Int.reduceLT, Int.reduceLE, Int.reduceNeg, Int.le_refl, Int.reduceMod]
    refine ⟨g, x_if (fun c => ?_) (fun c => ?_)⟩
    · rw [ek] at c
      rw [c, Int.add_zero] at z0
      exact z0
    · rw [ek] at c
      rw [show h.i 76 ((k : Int) + 1) = 1 by omega] at z0
      exact z0
theorem c_R_count5 {d : Nat} {h : xH} {Q : Int → xH → Prop} (S : SR h) (hb : ∀ k : Int, 0 ≤ k → k < (12 : Nat) → 0 ≤ h.i 76 (k + 1) ∧ h.i 76 (k + 1) ≤ 1) (H : Q (sumN (fun k => h.i 76 (k + 1)) 12) h) : xCi (d + 1) M_R_count [(1, 59), (0, 5)] h Q := by
  apply L_R_count
  rw [if_neg (by decide), if_neg (by decide), if_neg (by decide), if_neg (by decide), if_neg (by decide), if_pos rfl]
  exact c_R_count_56 S hb H 12 0 _ rfl
theorem j_count (n : Nat) (hn : n < 512) (a : Int) (ha : xrg a) : JJ INV n M_X_count M_R_count [(0, a)] := by
  refine jj_same1 (fun h I => ?_)
  have S := I.2.1
  have SX_ := I.1
  have I' := I
  obtain ⟨-, -, -, -, -, -, i1, i2, i3, i4, i5, i6, i7, i8, i9, i10, i11, i12, i13, i14⟩ := I
  by_cases c0 : a = 0
  · subst c0
    refine ⟨_, fun Q H => ?_, fun Q H => c_R_count0 S (fun k k0 k1 => (i2.1 k k0 k1).2) H⟩
    apply L_X_count
    simp only [sxt SX_, sxl SX_, sxf SX_, true_and, and_true, false_and, and_false, forall_eq, forall_eq', xi_wi, xr_wi, xt_wi, xl_wi, xn_wi, xs_wi, xi_wr, xr_wr, xt_wr, xl_wr, xn_wr, xs_wr, if_true, if_false, and_self, Int.reduceEq, Int.reduceLT, Int.reduceLE, Int.reduceNeg, Int.le_refl, Int.reduceMod]
    apply L_Language_vowelCount
    simp only [sxt SX_, sxl SX_, sxf SX_, true_and, and_true, false_and, and_false, forall_eq, forall_eq', xi_wi, xr_wi, xt_wi, xl_wi, xn_wi, xs_wi, xi_wr, xr_wr, xt_wr, xl_wr, xn_wr, xs_wr, if_true, if_false, and_self, Int.reduceEq, Int.reduceLT, Int.reduceLE, Int.reduceNeg, Int.le_refl, Int.reduceMod]
    rw [i2.2]; exact H
  by_cases c1 : a = 1
  · subst c1
    refine ⟨h.i 59 6, fun Q H => ?_, fun Q H => ?_⟩
    · apply L_X_count
      simp only [sxt SX_, sxl SX_, sxf SX_, true_and, and_true, false_and, and_false, forall_eq, forall_eq', xi_wi, xr_wi, xt_wi, xl_wi, xn_wi, xs_wi, xi_wr, xr_wr, xt_wr, xl_wr, xn_wr, xs_wr, if_true, if_false, and_self, Int.reduceEq, Int.reduceLT, Int.reduceLE, Int.reduceNeg, Int.le_refl, Int.reduceMod]
      apply L_Language_pairCount
      simp only [sxt SX_, sxl SX_, sxf SX_, true_and, and_true, false_and, and_false, forall_eq, forall_eq', xi_wi, xr_wi, xt_wi, xl_wi, xn_wi, xs_wi, xi_wr, xr_wr, xt_wr, xl_wr, xn_wr, xs_wr, if_true, if_false, and_self, Int.reduceEq, Int.reduceLT, Int.reduceLE, Int.reduceNeg, Int.le_refl, Int.reduceMod]
      rw [i3.1]; exact H
    · apply L_R_count
      simp only [srt S, srl S, srf S, true_and, and_true, false_and, and_false, forall_eq, forall_eq', xi_wi, xr_wi, xt_wi, xl_wi, xn_wi, xs_wi, xi_wr, xr_wr, xt_wr, xl_wr, xn_wr, xs_wr, if_true, if_false, and_self, Int.reduceEq, Int.reduceLT, Int.reduceLE, Int.reduceNeg, Int.le_refl, Int.reduceMod]
      exact H
  by_cases c2 : a = 2
  · subst c2
    refine ⟨h.i 59 16, fun Q H => ?_, fun Q H => ?_⟩
    · apply L_X_count
      simp only [sxt SX_, sxl SX_, sxf SX_, true_and, and_true, false_and, and_false, forall_eq, forall_eq', xi_wi, xr_wi, xt_wi, xl_wi, xn_wi, xs_wi, xi_wr, xr_wr, xt_wr, xl_wr, xn_wr, xs_wr, if_true, if_false, and_self, Int.reduceEq, Int.reduceLT, Int.reduceLE, Int.reduceNeg, Int.le_refl, Int.reduceMod]
      apply L_Book_size
      simp only [sxt SX_, sxl SX_, sxf SX_, true_and, and_true, false_and, and_false, forall_eq, forall_eq', xi_wi, xr_wi, xt_wi, xl_wi, xn_wi, xs_wi, xi_wr, xr_wr, xt_wr, xl_wr, xn_wr, xs_wr, if_true, if_false, and_self, Int.reduceEq, Int.reduceLT, Int.reduceLE, Int.reduceNeg, Int.le_refl, Int.reduceMod]
      rw [i9.1]; exact H
    · apply L_R_count
      simp only [srt S, srl S, srf S, true_and, and_true, false_and, and_false, forall_eq, forall_eq', xi_wi, xr_wi, xt_wi, xl_wi, xn_wi, xs_wi, xi_wr, xr_wr, xt_wr, xl_wr, xn_wr, xs_wr, if_true, if_false, and_self, Int.reduceEq, Int.reduceLT, Int.reduceLE, Int.reduceNeg, Int.le_refl, Int.reduceMod]
      exact H
  by_cases c3 : a = 3
  · subst c3
    rcases i11 with z | z
    · refine ⟨-1, fun Q H => ?_, fun Q H => ?_⟩
      · apply L_X_count
        simp only [sxt SX_, sxl SX_, sxf SX_, z.1, true_and, and_true, false_and, and_false, forall_eq, forall_eq', xi_wi, xr_wi, xt_wi, xl_wi, xn_wi, xs_wi, xi_wr, xr_wr, xt_wr, xl_wr, xn_wr, xs_wr, if_true, if_false, and_self, Int.reduceEq, Int.reduceLT, Int.reduceLE, Int.reduceNeg, Int.le_refl, Int.reduceMod]
        exact H
      · apply L_R_count
        simp only [srt S, srl S, srf S, z.2, true_and, and_true, false_and, and_false, forall_eq, forall_eq', xi_wi, xr_wi, xt_wi, xl_wi, xn_wi, xs_wi, xi_wr, xr_wr, xt_wr, xl_wr, xn_wr, xs_wr, if_true, if_false, and_self, Int.reduceEq, Int.reduceLT, Int.reduceLE, Int.reduceNeg, Int.le_refl, Int.reduceMod]
        exact H
    · obtain ⟨z1, z2, sb, -, ws, ok, -, XL, RL_, -⟩ := z
      refine ⟨(ws.length : Nat), fun Q H => ?_, fun Q H => ?_⟩
      · apply L_X_count
        simp only [sxt SX_, sxl SX_, sxf SX_, z1, true_and, and_true, false_and, and_false, forall_eq, forall_eq', xi_wi, xr_wi, xt_wi, xl_wi, xn_wi, xs_wi, xi_wr, xr_wr, xt_wr, xl_wr, xn_wr, xs_wr, if_true, if_false, and_self, Int.reduceEq, Int.reduceLT, Int.reduceLE, Int.reduceNeg, Int.le_refl, Int.reduceMod]
        exact ⟨sb.2.2.1, c_X_wordCount ok XL (XSh_B sb ok XL) H⟩
      · apply L_R_count
        have r : h.i 77 0 = (ws.length : Nat) := RL_.2.1
        simp only [srt S, srl S, srf S, z2, r, true_and, and_true, false_and, and_false, forall_eq, forall_eq', xi_wi, xr_wi, xt_wi, xl_wi, xn_wi, xs_wi, xi_wr, xr_wr, xt_wr, xl_wr, xn_wr, xs_wr, if_true, if_false, and_self, Int.reduceEq, Int.reduceLT, Int.reduceLE, Int.reduceNeg, Int.le_refl, Int.reduceMod]
        exact H
  by_cases c4 : a = 4
  · subst c4
    rcases i11 with z | z
    · refine ⟨-1, fun Q H => ?_, fun Q H => ?_⟩
      · apply L_X_count
        simp only [sxt SX_, sxl SX_, sxf SX_, z.1, true_and, and_true, false_and, and_false, forall_eq, forall_eq', xi_wi, xr_wi, xt_wi, xl_wi, xn_wi, xs_wi, xi_wr, xr_wr, xt_wr, xl_wr, xn_wr, xs_wr, if_true, if_false, and_self, Int.reduceEq, Int.reduceLT, Int.reduceLE, Int.reduceNeg, Int.le_refl, Int.reduceMod]
        exact H
      · apply L_R_count
        simp only [srt S, srl S, srf S, z.2, true_and, and_true, false_and, and_false, forall_eq, forall_eq', xi_wi, xr_wi, xt_wi, xl_wi, xn_wi, xs_wi, xi_wr, xr_wr, xt_wr, xl_wr, xn_wr, xs_wr, if_true, if_false, and_self, Int.reduceEq, Int.reduceLT, Int.reduceLE, Int.reduceNeg, Int.le_refl, Int.reduceMod]
        exact H
    · obtain ⟨z1, z2, sb, -, ws, ok, -, XL, RL_, -⟩ := z
      refine ⟨((flat ws).length : Nat), fun Q H => ?_, fun Q H => ?_⟩
      · apply L_X_count
        have r : h.i (h.r 2 13) 6 = ((flat ws).length : Nat) := XL.1
        simp only [sxt SX_, sxl SX_, sxf SX_, z1, r, true_and, and_true, false_and, and_false, forall_eq, forall_eq', xi_wi, xr_wi, xt_wi, xl_wi, xn_wi, xs_wi, xi_wr, xr_wr, xt_wr, xl_wr, xn_wr, xs_wr, if_true, if_false, and_self, Int.reduceEq, Int.reduceLT, Int.reduceLE, Int.reduceNeg, Int.le_refl, Int.reduceMod]
        exact ⟨sb.2.2.1, H⟩
      · apply L_R_count
        have r : h.i 81 0 = ((flat ws).length : Nat) := RL_.1
        simp only [srt S, srl S, srf S, z2, r, true_and, and_true, false_and, and_false, forall_eq, forall_eq', xi_wi, xr_wi, xt_wi, xl_wi, xn_wi, xs_wi, xi_wr, xr_wr, xt_wr, xl_wr, xn_wr, xs_wr, if_true, if_false, and_self, Int.reduceEq, Int.reduceLT, Int.reduceLE, Int.reduceNeg, Int.le_refl, Int.reduceMod]
        exact H
  by_cases c5 : a = 5
  · subst c5
    refine ⟨_, fun Q H => ?_, fun Q H => c_R_count5 S (line_bits I') H⟩
    apply L_X_count
    simp only [sxt SX_, sxl SX_, sxf SX_, true_and, and_true, false_and, and_false, forall_eq, forall_eq', xi_wi, xr_wi, xt_wi, xl_wi, xn_wi, xs_wi, xi_wr, xr_wr, xt_wr, xl_wr, xn_wr, xs_wr, if_true, if_false, and_self, Int.reduceEq, Int.reduceLT, Int.reduceLE, Int.reduceNeg, Int.le_refl, Int.reduceMod]
    apply L_Poem_lineCount
    simp only [sxt SX_, sxl SX_, sxf SX_, true_and, and_true, false_and, and_false, forall_eq, forall_eq', xi_wi, xr_wi, xt_wi, xl_wi, xn_wi, xs_wi, xi_wr, xr_wr, xt_wr, xl_wr, xn_wr, xs_wr, if_true, if_false, and_self, Int.reduceEq, Int.reduceLT, Int.reduceLE, Int.reduceNeg, Int.le_refl, Int.reduceMod]
    rw [i12.1]; exact H
  by_cases c6 : a = 6
  · subst c6
    refine ⟨h.i 59 74, fun Q H => ?_, fun Q H => ?_⟩
    · apply L_X_count
      simp only [sxt SX_, sxl SX_, sxf SX_, true_and, and_true, false_and, and_false, forall_eq, forall_eq', xi_wi, xr_wi, xt_wi, xl_wi, xn_wi, xs_wi, xi_wr, xr_wr, xt_wr, xl_wr, xn_wr, xs_wr, if_true, if_false, and_self, Int.reduceEq, Int.reduceLT, Int.reduceLE, Int.reduceNeg, Int.le_refl, Int.reduceMod]
      apply L_Poem_placeCount
      simp only [sxt SX_, sxl SX_, sxf SX_, true_and, and_true, false_and, and_false, forall_eq, forall_eq', xi_wi, xr_wi, xt_wi, xl_wi, xn_wi, xs_wi, xi_wr, xr_wr, xt_wr, xl_wr, xn_wr, xs_wr, if_true, if_false, and_self, Int.reduceEq, Int.reduceLT, Int.reduceLE, Int.reduceNeg, Int.le_refl, Int.reduceMod]
      rw [i7.1]; exact H
    · apply L_R_count
      simp only [srt S, srl S, srf S, true_and, and_true, false_and, and_false, forall_eq, forall_eq', xi_wi, xr_wi, xt_wi, xl_wi, xn_wi, xs_wi, xi_wr, xr_wr, xt_wr, xl_wr, xn_wr, xs_wr, if_true, if_false, and_self, Int.reduceEq, Int.reduceLT, Int.reduceLE, Int.reduceNeg, Int.le_refl, Int.reduceMod]
      exact H
  by_cases c7 : a = 7
  · subst c7
    refine ⟨h.i 59 64, fun Q H => ?_, fun Q H => ?_⟩
    · apply L_X_count
      simp only [sxt SX_, sxl SX_, sxf SX_, true_and, and_true, false_and, and_false, forall_eq, forall_eq', xi_wi, xr_wi, xt_wi, xl_wi, xn_wi, xs_wi, xi_wr, xr_wr, xt_wr, xl_wr, xn_wr, xs_wr, if_true, if_false, and_self, Int.reduceEq, Int.reduceLT, Int.reduceLE, Int.reduceNeg, Int.le_refl, Int.reduceMod]
      rw [i5.1]; exact H
    · apply L_R_count
      simp only [srt S, srl S, srf S, true_and, and_true, false_and, and_false, forall_eq, forall_eq', xi_wi, xr_wi, xt_wi, xl_wi, xn_wi, xs_wi, xi_wr, xr_wr, xt_wr, xl_wr, xn_wr, xs_wr, if_true, if_false, and_self, Int.reduceEq, Int.reduceLT, Int.reduceLE, Int.reduceNeg, Int.le_refl, Int.reduceMod]
      exact H
  by_cases c8 : a = 8
  · subst c8
    refine ⟨h.i 59 1, fun Q H => ?_, fun Q H => ?_⟩
    · apply L_X_count
      simp only [sxt SX_, sxl SX_, sxf SX_, true_and, and_true, false_and, and_false, forall_eq, forall_eq', xi_wi, xr_wi, xt_wi, xl_wi, xn_wi, xs_wi, xi_wr, xr_wr, xt_wr, xl_wr, xn_wr, xs_wr, if_true, if_false, and_self, Int.reduceEq, Int.reduceLT, Int.reduceLE, Int.reduceNeg, Int.le_refl, Int.reduceMod]
      rw [i1.1]; exact H
    · apply L_R_count
      simp only [srt S, srl S, srf S, true_and, and_true, false_and, and_false, forall_eq, forall_eq', xi_wi, xr_wi, xt_wi, xl_wi, xn_wi, xs_wi, xi_wr, xr_wr, xt_wr, xl_wr, xn_wr, xs_wr, if_true, if_false, and_self, Int.reduceEq, Int.reduceLT, Int.reduceLE, Int.reduceNeg, Int.le_refl, Int.reduceMod]
      exact H
  refine ⟨if 10 ≤ a ∧ a < 15 then h.i 97 (a - 10) else -1, fun Q H => ?_, fun Q H => ?_⟩
  · apply L_X_count
    rw [if_neg c0, if_neg c1, if_neg c2, if_neg c3, if_neg c4, if_neg c5, if_neg c6, if_neg c7, if_neg c8]
    refine x_if (fun c => by rw [if_neg (by omega)] at H; exact H) (fun c => x_if (fun c9 => ?_) (fun c9 => by rw [if_neg (by omega)] at H; exact H))
    rw [if_pos (by omega)] at H
    have g : (0 : Int) ≤ a - 10 ∧ a - 10 < 5 := by omega
    rw [xw_id (by omega) (by omega)]
    simp only [sxt SX_, sxl SX_, sxf SX_, true_and, and_true, false_and, and_false, forall_eq, forall_eq', xi_wi, xr_wi, xt_wi, xl_wi, xn_wi, xs_wi, xi_wr, xr_wr, xt_wr, xl_wr, xn_wr, xs_wr, if_true, if_false, and_self, Int.reduceEq, Int.reduceLT, Int.reduceLE, Int.reduceNeg, Int.le_refl, Int.reduceMod]
    apply L_Metre_price
    rw [if_neg (by omega), if_pos g.2]
    simp only [sxt SX_, sxl SX_, sxf SX_, true_and, and_true, false_and, and_false, forall_eq, forall_eq', xi_wi, xr_wi, xt_wi, xl_wi, xn_wi, xs_wi, xi_wr, xr_wr, xt_wr, xl_wr, xn_wr, xs_wr, if_true, if_false, and_self, Int.reduceEq, Int.reduceLT, Int.reduceLE, Int.reduceNeg, Int.le_refl, Int.reduceMod]
    rw [(i4.2.2 (a - 10) g.1 g.2).1]
    exact ⟨g, H⟩
  · apply L_R_count
    rw [if_neg c0, if_neg c1, if_neg c2, if_neg c3, if_neg c4, if_neg c5, if_neg c6, if_neg c7, if_neg c8]
    by_cases c : 10 ≤ a ∧ a < 15
    · rw [if_pos c] at H
      refine c_R_in_t (by omega) ?_
      rw [if_neg (by decide)]
      have g : (0 : Int) ≤ a - 10 ∧ a - 10 < 5 := by omega
      rw [xw_id (by omega) (by omega)]
      simp only [srt S, srl S, srf S, true_and, and_true, false_and, and_false, forall_eq, forall_eq', xi_wi, xr_wi, xt_wi, xl_wi, xn_wi, xs_wi, xi_wr, xr_wr, xt_wr, xl_wr, xn_wr, xs_wr, if_true, if_false, and_self, Int.reduceEq, Int.reduceLT, Int.reduceLE, Int.reduceNeg, Int.le_refl, Int.reduceMod]
      exact ⟨g, H⟩
    · rw [if_neg c] at H
      refine c_R_in_f (by omega) ?_
      rw [if_pos rfl]
      exact H
