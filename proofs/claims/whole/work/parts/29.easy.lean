/-! the calls that need no loop -/
theorem j_end (n : Nat) (hn : n < 512) (a : Int) (ha : xrg a) : JJ INV n M_X_end M_R_end [(0, a)] := by
  refine jj_fr [] [(2, 1), (59, 1)] (by decide) (fun h I => ?_)
  have S := I.2.1
  have SX_ := I.1
  have i1 := I.2.2.2.2.2.2.1
  unfold I_tape at i1
  apply L_X_end
  apply x_if
  · intro c
    refine ⟨Fr_refl _ _ _, ?_⟩
    apply L_R_end
    rw [if_pos c]
    exact ⟨rfl, Fr_refl _ _ _, INV_mono I⟩
  · intro c
    refine ⟨(sxt SX_).1, ?_⟩
    apply x_if
    · intro c2
      refine ⟨Fr_refl _ _ _, ?_⟩
      apply L_R_end
      rw [if_neg c]
      refine ⟨(srt S).1, ?_⟩
      rw [if_pos (by omega)]
      exact ⟨rfl, Fr_refl _ _ _, INV_mono I⟩
    · intro c2 h1 e1
      subst e1
      refine ⟨Fr_slot (Fr_refl _ _ _) _ (by decide), ?_⟩
      apply L_R_end
      rw [if_neg c]
      refine ⟨(srt S).1, ?_⟩
      rw [if_neg (by simp only [true_and, and_true, false_and, and_false, forall_eq, forall_eq', xi_wi, xr_wi, xt_wi, xl_wi, xn_wi, xs_wi, xi_wr, xr_wr, xt_wr, xl_wr, xn_wr, xs_wr, if_true, if_false, and_self, Int.reduceEq, Int.reduceLT, Int.reduceLE, Int.reduceNeg, Int.le_refl, Int.reduceMod]; omega)]
      intro h2 e2
      subst e2
      have F : Fr [] [(2, 1), (59, 1)] h ((h.wi 2 1 a).wi 59 1 a) := Fr_slot (Fr_slot (Fr_refl _ _ _) _ (by decide)) _ (by decide)
      refine ⟨rfl, F, INV_fr I F (by decide) (Or.inr ?_) (Or.inl (by decide)) (Or.inl (by decide)) (Or.inl (by decide)) (Or.inl (by decide)) (Or.inl (by decide)) (Or.inl (by decide)) (Or.inl (by decide)) (Or.inl (by decide)) (Or.inl (by decide)) (Or.inl (by decide)) (Or.inl (by decide)) (Or.inl (by decide)) (Or.inl (by decide)) (Or.inl (by decide))⟩
      unfold I_tape
      simp only [true_and, and_true, false_and, and_false, forall_eq, forall_eq', xi_wi, xr_wi, xt_wi, xl_wi, xn_wi, xs_wi, xi_wr, xr_wr, xt_wr, xl_wr, xn_wr, xs_wr, if_true, if_false, and_self, Int.reduceEq, Int.reduceLT, Int.reduceLE, Int.reduceNeg, Int.le_refl, Int.reduceMod]
      exact ⟨by omega, by omega, fun k h0 h1 => i1.2.2.2 k h0 (by omega)⟩
