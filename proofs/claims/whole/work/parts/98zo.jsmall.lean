/-! judge: small calls -/
theorem c_X_cheap_no {d : Nat} {h : xH} {Q : Int → xH → Prop} {p f : Int} (SX_ : SX h) (t9 : h.tag p = 9) (p0 : p ≠ 0) (s1 : 1 ≤ h.i p 6) (s40 : h.i p 6 ≤ 40) (no : ¬ (0 ≤ f ∧ f ≤ 7 ∧ 0 < h.i 25 f)) (H : Q (-1) h) : xCi (d + 3) M_Scanner_cheapest [(1, 28), (1, p), (0, f)] h Q := by
  have g : h.tag 28 = 8 ∧ h.r 28 0 = 22 ∧ h.tag 22 = 4 := by simp only [sxt SX_, sxl SX_, sxf SX_, true_and, and_true, false_and, and_false, forall_eq, forall_eq', xi_wi, xr_wi, xt_wi, xl_wi, xn_wi, xs_wi, xi_wr, xr_wr, xt_wr, xl_wr, xn_wr, xs_wr, if_true, if_false, and_self, Int.reduceEq, Int.reduceLT, Int.reduceLE, Int.reduceNeg, Int.le_refl, Int.reduceMod]
  apply L_Scanner_cheapest
  refine ⟨g.1, ?_⟩
  apply L_Scanner_fill
  rw [if_neg p0, if_neg (by omega), if_neg (by omega), g.2.1]
  refine ⟨t9, g.1, g.2.2, ?_⟩
  refine c_X_isForm0 (d := d) SX_ ?_
  rw [if_neg no, if_pos rfl, if_pos rfl]
  exact H
theorem c_X_nl4 {d : Nat} {h : xH} {Q : Int → xH → Prop} {t : Nat → Bool} {W : Nat → List Wd} (SX_ : SX h) (P : XPo h t W) : ∀ (n k : Nat) (u1 : xV), k + n = 12 → Q ((nxF t n k : Nat) : Int) h → xT d M_Poem_nextLine 4 [(1, 48), u1, (0, (k : Int))] [] h (xqi Q) := by
  have g : h.tag 48 = 6 ∧ h.r 48 3 = 49 ∧ h.tag 49 = 23 ∧ h.len 49 = 12 := by simp only [sxt SX_, sxl SX_, sxf SX_, true_and, and_true, false_and, and_false, forall_eq, forall_eq', xi_wi, xr_wi, xt_wi, xl_wi, xn_wi, xs_wi, xi_wr, xr_wr, xt_wr, xl_wr, xn_wr, xs_wr, if_true, if_false, and_self, Int.reduceEq, Int.reduceLT, Int.reduceLE, Int.reduceNeg, Int.le_refl, Int.reduceMod]
  intro n
  induction n with
  | zero =>
    intro k u1 hk H
    rw [nxF] at H
    apply L_Poem_nextLine_4
    rw [if_neg (by omega)]
    exact H
  | succ n ih =>
    intro k u1 hk H
    have pk := (P k (by omega)).1
    rw [nxF] at H
    apply L_Poem_nextLine_4
    rw [if_pos (by omega), g.2.1, g.2.2.2]
    refine ⟨g.1, ⟨g.2.2.1, by omega, by omega⟩, ?_⟩
    by_cases c : t k = true
    · rw [if_pos c] at H
      rw [if_neg (pk.mp c)]
      exact H
    · rw [if_neg c] at H
      have z : h.r 49 (k : Int) = 0 := Classical.byContradiction (fun y => c (pk.mpr y))
      rw [if_pos z]
      intro x1 e1
      rw [xw_id (by omega) (by omega)] at e1
      rw [e1]
      have := ih (k + 1) (xkl u1) (by omega) H
      push_cast at this
      exact this
theorem c_X_nextLine {d : Nat} {h : xH} {Q : Int → xH → Prop} {t : Nat → Bool} {W : Nat → List Wd} {k : Nat} (SX_ : SX h) (P : XPo h t W) (hk : k ≤ 12) (H : Q ((nxL t k : Nat) : Int) h) : xCi (d + 1) M_Poem_nextLine [(1, 48), (0, (k : Int))] h Q := by
  apply L_Poem_nextLine
  intro x1 e1
  have e1 : x1 = (k : Int) := by
    rw [e1]
    by_cases c : 0 < (k : Int)
    · rw [if_pos c]
    · rw [if_neg c]; omega
  rw [e1]
  exact c_X_nl4 SX_ P (12 - k) k _ (by omega) H
