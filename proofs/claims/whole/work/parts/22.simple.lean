/-! the simple calls, each side -/
theorem c_R_in {d : Nat} {h : xH} {Q : Int → xH → Prop} {x a b : Int} (H : Q (if a ≤ x ∧ x ≤ b then 1 else 0) h) : xCi (d + 1) M_R_in [(0, x), (0, a), (0, b)] h Q := by
  apply L_R_in
  by_cases c1 : x < a
  · rw [if_pos c1]; rw [if_neg (by omega)] at H; exact H
  · rw [if_neg c1]
    by_cases c2 : b < x
    · rw [if_pos c2]; rw [if_neg (by omega)] at H; exact H
    · rw [if_neg c2]; rw [if_pos (by omega)] at H; exact H
theorem c_R_cut {d : Nat} {h : xH} {Q : Int → xH → Prop} {f s : Int} (S : SR h) (H : if 0 ≤ f ∧ f ≤ 7 ∧ 0 ≤ s ∧ s ≤ 255 then Q (h.i 96 f) (h.wi 96 f s) else Q (-2) h) : xCi (d + 2) M_R_cut [(1, 59), (0, f), (0, s)] h Q := by
  obtain ⟨T, L, F⟩ := S
  unfold SRT at T
  unfold SRL at L
  unfold SRF at F
  apply L_R_cut
  apply c_R_in
  by_cases c1 : 0 ≤ f ∧ f ≤ 7
  · simp only [c1, and_self, if_true, Int.reduceEq, if_false]
    apply c_R_in
    by_cases c2 : 0 ≤ s ∧ s ≤ 255
    · simp only [c1, c2, and_self, if_true, Int.reduceEq, if_false, T, L, F, true_and, forall_eq] at H ⊢
      exact ⟨by omega, by omega, H⟩
    · simp only [c2, if_false, if_true]
      rw [if_neg (by omega)] at H; exact H
  · simp only [c1, if_false, if_true]
    rw [if_neg (by omega)] at H; exact H
