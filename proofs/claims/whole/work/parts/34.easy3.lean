/-! judged, pair, drop, keep -/
/-- a call that changes nothing on either side -/
theorem jj_same {n mx mr : Nat} {as : List xV} (H : ∀ h, INV n h → ∃ v w : Int, v = w ∧ (∀ Q : Int → xH → Prop, Q v h → xCi 2046 mx ((1, 2) :: as) h Q) ∧ (∀ Q : Int → xH → Prop, Q w h → xCi 2046 mr ((1, 59) :: as) h Q)) : JJ INV n mx mr as := by
  refine jj_fr [] [] (by decide) (fun h I => ?_)
  obtain ⟨v, w, e, A, B⟩ := H h I
  exact A _ ⟨Fr_refl _ _ _, B _ ⟨e, Fr_refl _ _ _, INV_mono I⟩⟩
theorem j_judged (n : Nat) (hn : n < 512) (a : Int) (ha : xrg a) : JJ INV n M_X_judged M_R_judged [(0, a)] := by
  refine jj_same (fun h I => ?_)
  have S := I.2.1
  have SX_ := I.1
  have i8 := I.2.2.2.2.2.2.2.2.2.2.2.2.2.1
  have e1 : 10 ≤ a → xw (a - 10) = a - 10 := by intro c; unfold xrg at ha; unfold xw; omega
  refine ⟨if a = 0 then h.i 48 15 else if a = 1 then h.i 48 16 else if a = 2 then h.i 48 17 else if 10 ≤ a ∧ a < 22 then h.i 55 (a - 10) else -1, if h.i 59 78 = -1 then -1 else if a = 0 then h.i 59 78 else if a = 1 then h.i 59 79 else if a = 2 then h.i 59 80 else if 10 ≤ a ∧ a < 22 then h.i 124 (a - 10) else -1, ?_, ?_, ?_⟩
  · rcases i8 with q | q
    · rw [if_pos q.1]
      repeat' split
      · exact q.2.1
      · exact q.2.2.1
      · exact q.2.2.2.1
      · exact q.2.2.2.2 _ (by omega) (by omega)
      · rfl
    · rw [if_neg q.1]
      repeat' split
      · exact q.2.1
      · exact q.2.2.1
      · exact q.2.2.2.1
      · exact q.2.2.2.2 _ (by omega) (by omega)
      · rfl
  · intro Q H
    apply L_X_judged
    simp only [sxt SX_, sxl SX_, sxf SX_, true_and, and_true, false_and, and_false, forall_eq, forall_eq', xi_wi, xr_wi, xt_wi, xl_wi, xn_wi, xs_wi, xi_wr, xr_wr, xt_wr, xl_wr, xn_wr, xs_wr, if_true, if_false, and_self, Int.reduceEq, Int.reduceLT, Int.reduceLE, Int.reduceNeg, Int.le_refl, Int.reduceMod]
    apply L_Poem_laidOut
    simp only [sxt SX_, sxl SX_, sxf SX_, true_and, and_true, false_and, and_false, forall_eq, forall_eq', xi_wi, xr_wi, xt_wi, xl_wi, xn_wi, xs_wi, xi_wr, xr_wr, xt_wr, xl_wr, xn_wr, xs_wr, if_true, if_false, and_self, Int.reduceEq, Int.reduceLT, Int.reduceLE, Int.reduceNeg, Int.le_refl, Int.reduceMod]
    refine x_if (fun c => by rw [if_pos c] at H; exact H) (fun c => ?_)
    rw [if_neg c] at H
    refine x_if (fun c => by rw [if_pos c] at H; exact H) (fun c => ?_)
    rw [if_neg c] at H
    refine x_if (fun c => by rw [if_pos c] at H; exact H) (fun c => ?_)
    rw [if_neg c] at H
    refine x_if (fun c => by rw [if_neg (by omega)] at H; exact H) (fun c => x_if (fun c2 => ?_) (fun c => by rw [if_neg (by omega)] at H; exact H))
    rw [if_pos (by omega)] at H
    rw [e1 (by omega)]
    exact ⟨⟨by omega, by omega⟩, H⟩
  · intro Q H
    apply L_R_judged
    simp only [srt S, srl S, srf S, true_and, and_true, false_and, and_false, forall_eq, forall_eq', xi_wi, xr_wi, xt_wi, xl_wi, xn_wi, xs_wi, xi_wr, xr_wr, xt_wr, xl_wr, xn_wr, xs_wr, if_true, if_false, and_self, Int.reduceEq, Int.reduceLT, Int.reduceLE, Int.reduceNeg, Int.le_refl, Int.reduceMod]
    refine x_if (fun c => by rw [if_pos c] at H; exact H) (fun c => ?_)
    rw [if_neg c] at H
    refine x_if (fun c => by rw [if_pos c] at H; exact H) (fun c => ?_)
    rw [if_neg c] at H
    refine x_if (fun c => by rw [if_pos c] at H; exact H) (fun c => ?_)
    rw [if_neg c] at H
    refine x_if (fun c => by rw [if_pos c] at H; exact H) (fun c => ?_)
    rw [if_neg c] at H
    by_cases z : 10 ≤ a ∧ a < 22
    · rw [if_pos z] at H
      refine c_R_in_t (by omega) ?_
      rw [if_neg (by decide)]
      rw [e1 (by omega)]
      simp only [srt S, srl S, srf S, true_and, and_true, false_and, and_false, forall_eq, forall_eq', xi_wi, xr_wi, xt_wi, xl_wi, xn_wi, xs_wi, xi_wr, xr_wr, xt_wr, xl_wr, xn_wr, xs_wr, if_true, if_false, and_self, Int.reduceEq, Int.reduceLT, Int.reduceLE, Int.reduceNeg, Int.le_refl, Int.reduceMod]
      exact ⟨⟨by omega, by omega⟩, H⟩
    · rw [if_neg z] at H
      refine c_R_in_f (by omega) ?_
      rw [if_pos rfl]
      exact H
theorem j_pair (n : Nat) (hn : n < 512) (a b c : Int) (ha : xrg a) (hb : xrg b) (hc : xrg c) : JJ INV n M_X_pair M_R_pair [(0, a), (0, b), (0, c)] := by
  refine jj_fr [6, 62, 63, 64] [(4, 3), (59, 6)] (by decide) (fun h I => ?_)
  have S := I.2.1
  have SX_ := I.1
  have i3 := I.2.2.2.2.2.2.2.2.1
  have S0 := S
  obtain ⟨k1, k2, k3, k4, k5, k6, k7⟩ := i3
  apply L_X_pair
  refine ⟨(sxt SX_).1, by simp only [sxt SX_, sxl SX_, sxf SX_, true_and, and_true, false_and, and_false, forall_eq, forall_eq', xi_wi, xr_wi, xt_wi, xl_wi, xn_wi, xs_wi, xi_wr, xr_wr, xt_wr, xl_wr, xn_wr, xs_wr, if_true, if_false, and_self, Int.reduceEq, Int.reduceLT, Int.reduceLE, Int.reduceNeg, Int.le_refl, Int.reduceMod], ?_⟩
  simp only [sxt SX_, sxl SX_, sxf SX_, true_and, and_true, false_and, and_false, forall_eq, forall_eq', xi_wi, xr_wi, xt_wi, xl_wi, xn_wi, xs_wi, xi_wr, xr_wr, xt_wr, xl_wr, xn_wr, xs_wr, if_true, if_false, and_self, Int.reduceEq, Int.reduceLT, Int.reduceLE, Int.reduceNeg, Int.le_refl, Int.reduceMod]
  apply L_Language_setPair
  have out : ¬ (0 ≤ a ∧ a ≤ 25 ∧ 0 ≤ b ∧ b ≤ 25 ∧ 0 ≤ c ∧ c ≤ 2) → xCi 2046 M_R_pair [(1, 59), (0, a), (0, b), (0, c)] h (fun r2 h2 => -2 = r2 ∧ Fr [6, 62, 63, 64] [(4, 3), (59, 6)] h h2 ∧ INV (n + 1) h2) := by
    intro z
    apply L_R_pair
    apply c_R_in
    by_cases z1 : 0 ≤ a ∧ a ≤ 25
    · rw [if_pos z1, if_neg (by decide)]
      apply c_R_in
      by_cases z2 : 0 ≤ b ∧ b ≤ 25
      · rw [if_pos z2, if_neg (by decide)]
        refine c_R_in_f (by omega) ?_
        rw [if_pos rfl]
        exact ⟨rfl, Fr_refl _ _ _, INV_mono I⟩
      · rw [if_neg z2, if_pos rfl]
        exact ⟨rfl, Fr_refl _ _ _, INV_mono I⟩
    · rw [if_neg z1, if_pos rfl]
      exact ⟨rfl, Fr_refl _ _ _, INV_mono I⟩
  refine x_if (fun c => ⟨Fr_refl _ _ _, out (by omega)⟩) (fun z1 => x_if (fun z2 => x_if (fun c => ⟨Fr_refl _ _ _, out (by omega)⟩) (fun z3 => x_if (fun z4 => x_if (fun c => ⟨Fr_refl _ _ _, out (by omega)⟩) (fun z5 => x_if (fun c => ⟨Fr_refl _ _ _, out (by omega)⟩) (fun z6 => ?_))) (fun c => ⟨Fr_refl _ _ _, out (by omega)⟩))) (fun c => ⟨Fr_refl _ _ _, out (by omega)⟩))
  have e1 : xw (xw (a * 26) + b) = 26 * a + b := by unfold xw; omega
  have e2 : xw (h.i 59 6 + 1) = h.i 59 6 + 1 := by unfold xw; omega
  have e3 : xw (h.i 59 6 - 1) = h.i 59 6 - 1 := by unfold xw; omega
  have e4 : xw (h.i 59 6 + -1) = h.i 59 6 - 1 := by unfold xw; omega
  rw [e1]
  intro x1 q1
  subst q1
  have p4 := k4 (26 * a + b) (by omega) (by omega)
  -- the reference's answer behind the class' run
  have enter : ∀ (h1 : xH) (Q : Int → xH → Prop), SR h1 → h1.i 59 6 = h.i 59 6 → h1.i 62 = h.i 62 → h1.i 63 = h.i 63 → h1.i 64 = h.i 64 → (∀ k, 0 ≤ k → k < h.i 59 6 → h.i 62 k = a → h.i 63 k = b → (if c = 0 then Q (h.i 59 6 - 1) ((((h1.wi 59 6 (h.i 59 6 - 1)).wi 62 k (h.i 62 (h.i 59 6 - 1))).wi 63 k (h.i 63 (h.i 59 6 - 1))).wi 64 k (h.i 64 (h.i 59 6 - 1))) else Q (h.i 59 6) (((h1.wi 62 k a).wi 63 k b).wi 64 k c))) → ((∀ k, 0 ≤ k → k < h.i 59 6 → ¬ (h.i 62 k = a ∧ h.i 63 k = b)) → (if c = 0 then Q (h.i 59 6) h1 else if h.i 59 6 = 12 then Q (-3) h1 else Q (h.i 59 6 + 1) ((((h1.wi 59 6 (h.i 59 6 + 1)).wi 62 (h.i 59 6) a).wi 63 (h.i 59 6) b).wi 64 (h.i 59 6) c))) → xCi 2046 M_R_pair [(1, 59), (0, a), (0, b), (0, c)] h1 Q := by
    intro h1 Q S1 r0 r1 r2 r3 A B
    have S := S1
    apply L_R_pair
    refine c_R_in_t (by omega) ?_
    rw [if_neg (by decide)]
    refine c_R_in_t (by omega) ?_
    rw [if_neg (by decide)]
    refine c_R_in_t (by omega) ?_
    rw [if_neg (by decide)]
    refine ⟨S1.1.1, c_R_pairOf S1 (by omega) (by omega) ?_ ?_⟩
    · intro k k0 kk ka kb
      have A := A k k0 (by omega) (by rw [← r1]; exact ka) (by rw [← r2]; exact kb)
      by_cases zc : c = 0
      · rw [if_pos zc] at A ⊢
        rw [if_neg (by omega)]
        simp only [srt S, srl S, srf S, r0, e3, true_and, and_true, false_and, and_false, forall_eq, forall_eq', xi_wi, xr_wi, xt_wi, xl_wi, xn_wi, xs_wi, xi_wr, xr_wr, xt_wr, xl_wr, xn_wr, xs_wr, if_true, if_false, and_self, Int.reduceEq, Int.reduceLT, Int.reduceLE, Int.reduceNeg, Int.le_refl, Int.reduceMod]
        refine ⟨⟨by omega, by omega⟩, ⟨by omega, by omega⟩, ⟨by omega, by omega⟩, ⟨by omega, by omega⟩, ⟨by omega, by omega⟩, ⟨by omega, by omega⟩, ?_⟩
        rw [r1, r2, r3]
        exact A
      · rw [if_neg zc] at A ⊢
        rw [if_neg (by omega)]
        apply L_R_pair_75
        rw [if_neg (by omega)]
        simp only [srt S, srl S, srf S, r0, true_and, and_true, false_and, and_false, forall_eq, forall_eq', xi_wi, xr_wi, xt_wi, xl_wi, xn_wi, xs_wi, xi_wr, xr_wr, xt_wr, xl_wr, xn_wr, xs_wr, if_true, if_false, and_self, Int.reduceEq, Int.reduceLT, Int.reduceLE, Int.reduceNeg, Int.le_refl, Int.reduceMod]
        exact ⟨⟨by omega, by omega⟩, ⟨by omega, by omega⟩, ⟨by omega, by omega⟩, A⟩
    · intro no
      have B := B (fun k k0 kk => by rw [← r1, ← r2]; exact no k k0 (by omega))
      by_cases zc : c = 0
      · rw [if_pos zc] at B ⊢
        rw [if_pos rfl]
        simp only [srt S, srl S, srf S, r0, true_and, and_true, false_and, and_false, forall_eq, forall_eq', xi_wi, xr_wi, xt_wi, xl_wi, xn_wi, xs_wi, xi_wr, xr_wr, xt_wr, xl_wr, xn_wr, xs_wr, if_true, if_false, and_self, Int.reduceEq, Int.reduceLT, Int.reduceLE, Int.reduceNeg, Int.le_refl, Int.reduceMod]
        exact B
      · rw [if_neg zc] at B ⊢
        rw [if_pos rfl]
        simp only [srt S, srl S, srf S, r0, true_and, and_true, false_and, and_false, forall_eq, forall_eq', xi_wi, xr_wi, xt_wi, xl_wi, xn_wi, xs_wi, xi_wr, xr_wr, xt_wr, xl_wr, xn_wr, xs_wr, if_true, if_false, and_self, Int.reduceEq, Int.reduceLT, Int.reduceLE, Int.reduceNeg, Int.le_refl, Int.reduceMod]
        by_cases zf : h.i 59 6 = 12
        · rw [if_pos zf] at B ⊢
          exact B
        · rw [if_neg zf] at B ⊢
          apply L_R_pair_75
          rw [if_pos rfl]
          simp only [srt S, srl S, srf S, r0, e2, true_and, and_true, false_and, and_false, forall_eq, forall_eq', xi_wi, xr_wi, xt_wi, xl_wi, xn_wi, xs_wi, xi_wr, xr_wr, xt_wr, xl_wr, xn_wr, xs_wr, if_true, if_false, and_self, Int.reduceEq, Int.reduceLT, Int.reduceLE, Int.reduceNeg, Int.le_refl, Int.reduceMod]
          exact ⟨⟨by omega, by omega⟩, ⟨by omega, by omega⟩, ⟨by omega, by omega⟩, B⟩
  have ncase : h.i 6 (26 * a + b) = 0 → ∀ k, 0 ≤ k → k < h.i 59 6 → ¬ (h.i 62 k = a ∧ h.i 63 k = b) := by
    intro z k k0 kk q
    have y := k5 k k0 kk
    rw [q.1, q.2, z] at y
    omega
  -- the class' table behind its run, with c put in
  have fin : ∀ (h2 : xH) (m : Int), Fr [6, 62, 63, 64] [(4, 3), (59, 6)] h h2 → h2.i 4 3 = m → h2.i 59 6 = m → 0 ≤ m → m ≤ 12 → (∀ j, h2.i 6 j = if j = 26 * a + b then c else h.i 6 j) → (∀ k, 0 ≤ k → k < m → (h2.i 62 k = a ∧ h2.i 63 k = b ∧ h2.i 64 k = c ∧ c ≠ 0) ∨ (∃ k', 0 ≤ k' ∧ k' < h.i 59 6 ∧ h2.i 62 k = h.i 62 k' ∧ h2.i 63 k = h.i 63 k' ∧ h2.i 64 k = h.i 64 k' ∧ ¬ (h.i 62 k' = a ∧ h.i 63 k' = b))) → (∀ j k, 0 ≤ j → j < k → k < m → ¬ (h2.i 62 j = h2.i 62 k ∧ h2.i 63 j = h2.i 63 k)) → (∀ k', 0 ≤ k' → k' < h.i 59 6 → ¬ (h.i 62 k' = a ∧ h.i 63 k' = b) → ∃ k, 0 ≤ k ∧ k < m ∧ h2.i 62 k = h.i 62 k' ∧ h2.i 63 k = h.i 63 k') → (c ≠ 0 → ∃ k, 0 ≤ k ∧ k < m ∧ h2.i 62 k = a ∧ h2.i 63 k = b) → INV (n + 1) h2 := by
    intro h2 m F q1 q2 m0 m1 q3 q4 q5 q6 q7
    refine INV_fr I F (by decide) (Or.inl (by decide)) (Or.inl (by decide)) (Or.inr ?_) (Or.inl (by decide)) (Or.inl (by decide)) (Or.inl (by decide)) (Or.inl (by decide)) (Or.inl (by decide)) (Or.inl (by decide)) (Or.inl (by decide)) (Or.inl (by decide)) (Or.inl (by decide)) (Or.inl (by decide)) (Or.inl (by decide)) (Or.inl (by decide))
    refine ⟨by rw [q1, q2], by omega, by omega, fun k k0 kk => ?_, fun k k0 kk => ?_, fun j k j0 jk kk => ?_, fun a' b' a0 a1 b0 b1 ne => ?_⟩
    · rw [q3]
      by_cases z : k = 26 * a + b
      · rw [if_pos z]; omega
      · rw [if_neg z]; exact k4 k k0 kk
    · rw [q2] at kk
      rw [q3]
      rcases q4 k k0 kk with z | ⟨k', k'0, k'1, z1, z2, z3, z4⟩
      · rw [z.1, z.2.1, z.2.2.1, if_pos (by omega)]; omega
      · have y := k5 k' k'0 k'1
        rw [z1, z2, z3, if_neg (by omega)]
        exact y
    · rw [q2] at kk
      exact q5 j k j0 jk kk
    · rw [q2]
      rw [q3] at ne
      by_cases z : 26 * a' + b' = 26 * a + b
      · rw [if_pos z] at ne
        obtain ⟨k, y1, y2, y3, y4⟩ := q7 ne
        exact ⟨k, y1, y2, by omega, by omega⟩
      · rw [if_neg z] at ne
        obtain ⟨k', y1, y2, y3, y4⟩ := k7 a' b' a0 a1 b0 b1 ne
        obtain ⟨k, w1, w2, w3, w4⟩ := q6 k' y1 y2 (by omega)
        exact ⟨k, w1, w2, by omega, by omega⟩
  have FX : ∀ v m, Fr [6, 62, 63, 64] [(4, 3), (59, 6)] h ((h.wi 4 3 m).wi 6 (26 * a + b) v) := fun v m => Fr_cell (Fr_slot (Fr_refl _ _ _) _ (by decide)) _ _ (by decide)
  have FX0 : ∀ v, Fr [6, 62, 63, 64] [(4, 3), (59, 6)] h (h.wi 6 (26 * a + b) v) := fun v => Fr_cell (Fr_refl _ _ _) _ _ (by decide)
  have hit : ∀ k, 0 ≤ k → k < h.i 59 6 → h.i 62 k = a → h.i 63 k = b → h.i 6 (26 * a + b) ≠ 0 := by
    intro k k0 kk ka kb z
    exact ncase z k k0 kk ⟨ka, kb⟩
  by_cases zc : c = 0
  · rw [if_pos zc]
    apply L_Language_setPair_36
    rw [if_pos zc]
    apply L_Language_setPair_50
    rw [if_pos zc]
    simp only [sxt SX_, sxl SX_, sxf SX_, true_and, and_true, false_and, and_false, forall_eq, forall_eq', xi_wi, xr_wi, xt_wi, xl_wi, xn_wi, xs_wi, xi_wr, xr_wr, xt_wr, xl_wr, xn_wr, xs_wr, if_true, if_false, and_self, Int.reduceEq, Int.reduceLT, Int.reduceLE, Int.reduceNeg, Int.le_refl, Int.reduceMod]
    refine ⟨⟨by omega, by omega⟩, x_if (fun zt => ?_) (fun zt => ?_)⟩
    · refine ⟨⟨by omega, by omega⟩, FX0 _, ?_⟩
      refine enter _ _ (SR_2 (h := h) rfl S0) (by simp only [true_and, and_true, false_and, and_false, forall_eq, forall_eq', xi_wi, xr_wi, xt_wi, xl_wi, xn_wi, xs_wi, xi_wr, xr_wr, xt_wr, xl_wr, xn_wr, xs_wr, if_true, if_false, and_self, Int.reduceEq, Int.reduceLT, Int.reduceLE, Int.reduceNeg, Int.le_refl, Int.reduceMod]) (by funext j; simp only [true_and, and_true, false_and, and_false, forall_eq, forall_eq', xi_wi, xr_wi, xt_wi, xl_wi, xn_wi, xs_wi, xi_wr, xr_wr, xt_wr, xl_wr, xn_wr, xs_wr, if_true, if_false, and_self, Int.reduceEq, Int.reduceLT, Int.reduceLE, Int.reduceNeg, Int.le_refl, Int.reduceMod]) (by funext j; simp only [true_and, and_true, false_and, and_false, forall_eq, forall_eq', xi_wi, xr_wi, xt_wi, xl_wi, xn_wi, xs_wi, xi_wr, xr_wr, xt_wr, xl_wr, xn_wr, xs_wr, if_true, if_false, and_self, Int.reduceEq, Int.reduceLT, Int.reduceLE, Int.reduceNeg, Int.le_refl, Int.reduceMod]) (by funext j; simp only [true_and, and_true, false_and, and_false, forall_eq, forall_eq', xi_wi, xr_wi, xt_wi, xl_wi, xn_wi, xs_wi, xi_wr, xr_wr, xt_wr, xl_wr, xn_wr, xs_wr, if_true, if_false, and_self, Int.reduceEq, Int.reduceLT, Int.reduceLE, Int.reduceNeg, Int.le_refl, Int.reduceMod]) ?_ ?_
      · intro k k0 kk ka kb
        exact absurd zt (hit k k0 kk ka kb)
      · intro no
        rw [if_pos zc]
        have F := FX0 c
        refine ⟨k1, F, fin _ (h.i 59 6) F (by simp only [true_and, and_true, false_and, and_false, forall_eq, forall_eq', xi_wi, xr_wi, xt_wi, xl_wi, xn_wi, xs_wi, xi_wr, xr_wr, xt_wr, xl_wr, xn_wr, xs_wr, if_true, if_false, and_self, Int.reduceEq, Int.reduceLT, Int.reduceLE, Int.reduceNeg, Int.le_refl, Int.reduceMod]; exact k1) (by simp only [true_and, and_true, false_and, and_false, forall_eq, forall_eq', xi_wi, xr_wi, xt_wi, xl_wi, xn_wi, xs_wi, xi_wr, xr_wr, xt_wr, xl_wr, xn_wr, xs_wr, if_true, if_false, and_self, Int.reduceEq, Int.reduceLT, Int.reduceLE, Int.reduceNeg, Int.le_refl, Int.reduceMod]) k2 k3 (fun j => by simp only [true_and, and_true, false_and, and_false, forall_eq, forall_eq', xi_wi, xr_wi, xt_wi, xl_wi, xn_wi, xs_wi, xi_wr, xr_wr, xt_wr, xl_wr, xn_wr, xs_wr, if_true, if_false, and_self, Int.reduceEq, Int.reduceLT, Int.reduceLE, Int.reduceNeg, Int.le_refl, Int.reduceMod]) (fun k k0 kk => Or.inr ⟨k, k0, kk, by simp only [true_and, and_true, false_and, and_false, forall_eq, forall_eq', xi_wi, xr_wi, xt_wi, xl_wi, xn_wi, xs_wi, xi_wr, xr_wr, xt_wr, xl_wr, xn_wr, xs_wr, if_true, if_false, and_self, Int.reduceEq, Int.reduceLT, Int.reduceLE, Int.reduceNeg, Int.le_refl, Int.reduceMod], by simp only [true_and, and_true, false_and, and_false, forall_eq, forall_eq', xi_wi, xr_wi, xt_wi, xl_wi, xn_wi, xs_wi, xi_wr, xr_wr, xt_wr, xl_wr, xn_wr, xs_wr, if_true, if_false, and_self, Int.reduceEq, Int.reduceLT, Int.reduceLE, Int.reduceNeg, Int.le_refl, Int.reduceMod], by simp only [true_and, and_true, false_and, and_false, forall_eq, forall_eq', xi_wi, xr_wi, xt_wi, xl_wi, xn_wi, xs_wi, xi_wr, xr_wr, xt_wr, xl_wr, xn_wr, xs_wr, if_true, if_false, and_self, Int.reduceEq, Int.reduceLT, Int.reduceLE, Int.reduceNeg, Int.le_refl, Int.reduceMod], no k k0 kk⟩) (fun j k j0 jk kk => by simp only [true_and, and_true, false_and, and_false, forall_eq, forall_eq', xi_wi, xr_wi, xt_wi, xl_wi, xn_wi, xs_wi, xi_wr, xr_wr, xt_wr, xl_wr, xn_wr, xs_wr, if_true, if_false, and_self, Int.reduceEq, Int.reduceLT, Int.reduceLE, Int.reduceNeg, Int.le_refl, Int.reduceMod]; exact k6 j k j0 jk kk) (fun k k0 kk _ => ⟨k, k0, kk, by simp only [true_and, and_true, false_and, and_false, forall_eq, forall_eq', xi_wi, xr_wi, xt_wi, xl_wi, xn_wi, xs_wi, xi_wr, xr_wr, xt_wr, xl_wr, xn_wr, xs_wr, if_true, if_false, and_self, Int.reduceEq, Int.reduceLT, Int.reduceLE, Int.reduceNeg, Int.le_refl, Int.reduceMod], by simp only [true_and, and_true, false_and, and_false, forall_eq, forall_eq', xi_wi, xr_wi, xt_wi, xl_wi, xn_wi, xs_wi, xi_wr, xr_wr, xt_wr, xl_wr, xn_wr, xs_wr, if_true, if_false, and_self, Int.reduceEq, Int.reduceLT, Int.reduceLE, Int.reduceNeg, Int.le_refl, Int.reduceMod]⟩) (fun q => absurd zc q)⟩
    · have e5 : xw (h.i 4 3 - 1) = h.i 59 6 - 1 := by unfold xw; omega
      rw [e5]
      refine ⟨⟨by omega, by omega⟩, FX _ _, ?_⟩
      refine enter _ _ (SR_2 (h := h) rfl S0) (by simp only [true_and, and_true, false_and, and_false, forall_eq, forall_eq', xi_wi, xr_wi, xt_wi, xl_wi, xn_wi, xs_wi, xi_wr, xr_wr, xt_wr, xl_wr, xn_wr, xs_wr, if_true, if_false, and_self, Int.reduceEq, Int.reduceLT, Int.reduceLE, Int.reduceNeg, Int.le_refl, Int.reduceMod]) (by funext j; simp only [true_and, and_true, false_and, and_false, forall_eq, forall_eq', xi_wi, xr_wi, xt_wi, xl_wi, xn_wi, xs_wi, xi_wr, xr_wr, xt_wr, xl_wr, xn_wr, xs_wr, if_true, if_false, and_self, Int.reduceEq, Int.reduceLT, Int.reduceLE, Int.reduceNeg, Int.le_refl, Int.reduceMod]) (by funext j; simp only [true_and, and_true, false_and, and_false, forall_eq, forall_eq', xi_wi, xr_wi, xt_wi, xl_wi, xn_wi, xs_wi, xi_wr, xr_wr, xt_wr, xl_wr, xn_wr, xs_wr, if_true, if_false, and_self, Int.reduceEq, Int.reduceLT, Int.reduceLE, Int.reduceNeg, Int.le_refl, Int.reduceMod]) (by funext j; simp only [true_and, and_true, false_and, and_false, forall_eq, forall_eq', xi_wi, xr_wi, xt_wi, xl_wi, xn_wi, xs_wi, xi_wr, xr_wr, xt_wr, xl_wr, xn_wr, xs_wr, if_true, if_false, and_self, Int.reduceEq, Int.reduceLT, Int.reduceLE, Int.reduceNeg, Int.le_refl, Int.reduceMod]) ?_ ?_
      · intro k k0 kk ka kb
        rw [if_pos zc]
        have F : Fr [6, 62, 63, 64] [(4, 3), (59, 6)] h ((((((h.wi 4 3 (h.i 59 6 - 1)).wi 6 (26 * a + b) c).wi 59 6 (h.i 59 6 - 1)).wi 62 k (h.i 62 (h.i 59 6 - 1))).wi 63 k (h.i 63 (h.i 59 6 - 1))).wi 64 k (h.i 64 (h.i 59 6 - 1))) := Fr_cell (Fr_cell (Fr_cell (Fr_slot (FX _ _) _ (by decide)) _ _ (by decide)) _ _ (by decide)) _ _ (by decide)
        refine ⟨rfl, F, fin _ (h.i 59 6 - 1) F (by simp only [true_and, and_true, false_and, and_false, forall_eq, forall_eq', xi_wi, xr_wi, xt_wi, xl_wi, xn_wi, xs_wi, xi_wr, xr_wr, xt_wr, xl_wr, xn_wr, xs_wr, if_true, if_false, and_self, Int.reduceEq, Int.reduceLT, Int.reduceLE, Int.reduceNeg, Int.le_refl, Int.reduceMod]) (by simp only [true_and, and_true, false_and, and_false, forall_eq, forall_eq', xi_wi, xr_wi, xt_wi, xl_wi, xn_wi, xs_wi, xi_wr, xr_wr, xt_wr, xl_wr, xn_wr, xs_wr, if_true, if_false, and_self, Int.reduceEq, Int.reduceLT, Int.reduceLE, Int.reduceNeg, Int.le_refl, Int.reduceMod]) (by omega) (by omega) (fun j => by simp only [true_and, and_true, false_and, and_false, forall_eq, forall_eq', xi_wi, xr_wi, xt_wi, xl_wi, xn_wi, xs_wi, xi_wr, xr_wr, xt_wr, xl_wr, xn_wr, xs_wr, if_true, if_false, and_self, Int.reduceEq, Int.reduceLT, Int.reduceLE, Int.reduceNeg, Int.le_refl, Int.reduceMod]) ?_ ?_ ?_ (fun q => absurd zc q)⟩
        · intro j j0 jj
          right
          by_cases z : j = k
          · refine ⟨h.i 59 6 - 1, by omega, by omega, by simp only [z, true_and, and_true, false_and, and_false, forall_eq, forall_eq', xi_wi, xr_wi, xt_wi, xl_wi, xn_wi, xs_wi, xi_wr, xr_wr, xt_wr, xl_wr, xn_wr, xs_wr, if_true, if_false, and_self, Int.reduceEq, Int.reduceLT, Int.reduceLE, Int.reduceNeg, Int.le_refl, Int.reduceMod], by simp only [z, true_and, and_true, false_and, and_false, forall_eq, forall_eq', xi_wi, xr_wi, xt_wi, xl_wi, xn_wi, xs_wi, xi_wr, xr_wr, xt_wr, xl_wr, xn_wr, xs_wr, if_true, if_false, and_self, Int.reduceEq, Int.reduceLT, Int.reduceLE, Int.reduceNeg, Int.le_refl, Int.reduceMod], by simp only [z, true_and, and_true, false_and, and_false, forall_eq, forall_eq', xi_wi, xr_wi, xt_wi, xl_wi, xn_wi, xs_wi, xi_wr, xr_wr, xt_wr, xl_wr, xn_wr, xs_wr, if_true, if_false, and_self, Int.reduceEq, Int.reduceLT, Int.reduceLE, Int.reduceNeg, Int.le_refl, Int.reduceMod], ?_⟩
            have y := k6 k (h.i 59 6 - 1) k0 (by omega) (by omega)
            rw [ka, kb] at y
            exact fun q => y ⟨q.1.symm, q.2.symm⟩
          · refine ⟨j, by omega, by omega, by simp only [z, true_and, and_true, false_and, and_false, forall_eq, forall_eq', xi_wi, xr_wi, xt_wi, xl_wi, xn_wi, xs_wi, xi_wr, xr_wr, xt_wr, xl_wr, xn_wr, xs_wr, if_true, if_false, and_self, Int.reduceEq, Int.reduceLT, Int.reduceLE, Int.reduceNeg, Int.le_refl, Int.reduceMod], by simp only [z, true_and, and_true, false_and, and_false, forall_eq, forall_eq', xi_wi, xr_wi, xt_wi, xl_wi, xn_wi, xs_wi, xi_wr, xr_wr, xt_wr, xl_wr, xn_wr, xs_wr, if_true, if_false, and_self, Int.reduceEq, Int.reduceLT, Int.reduceLE, Int.reduceNeg, Int.le_refl, Int.reduceMod], by simp only [z, true_and, and_true, false_and, and_false, forall_eq, forall_eq', xi_wi, xr_wi, xt_wi, xl_wi, xn_wi, xs_wi, xi_wr, xr_wr, xt_wr, xl_wr, xn_wr, xs_wr, if_true, if_false, and_self, Int.reduceEq, Int.reduceLT, Int.reduceLE, Int.reduceNeg, Int.le_refl, Int.reduceMod], ?_⟩
            intro q
            by_cases lt : j < k
            · exact k6 j k j0 lt kk ⟨by rw [q.1, ka], by rw [q.2, kb]⟩
            · exact k6 k j k0 (by omega) (by omega) ⟨by rw [q.1, ka], by rw [q.2, kb]⟩
        · intro i j i0 ij jj
          simp only [true_and, and_true, false_and, and_false, forall_eq, forall_eq', xi_wi, xr_wi, xt_wi, xl_wi, xn_wi, xs_wi, xi_wr, xr_wr, xt_wr, xl_wr, xn_wr, xs_wr, if_true, if_false, and_self, Int.reduceEq, Int.reduceLT, Int.reduceLE, Int.reduceNeg, Int.le_refl, Int.reduceMod]
          by_cases z : i = k
          · rw [if_pos z, if_pos z, if_neg (by omega), if_neg (by omega)]
            exact fun q => k6 j (h.i 59 6 - 1) (by omega) (by omega) (by omega) ⟨q.1.symm, q.2.symm⟩
          · rw [if_neg z, if_neg z]
            by_cases z2 : j = k
            · rw [if_pos z2, if_pos z2]
              exact k6 i (h.i 59 6 - 1) (by omega) (by omega) (by omega)
            · rw [if_neg z2, if_neg z2]
              exact k6 i j (by omega) (by omega) (by omega)
        · intro k' k'0 k'1 ne
          by_cases z : k' = h.i 59 6 - 1
          · refine ⟨k, k0, ?_, by simp only [z, true_and, and_true, false_and, and_false, forall_eq, forall_eq', xi_wi, xr_wi, xt_wi, xl_wi, xn_wi, xs_wi, xi_wr, xr_wr, xt_wr, xl_wr, xn_wr, xs_wr, if_true, if_false, and_self, Int.reduceEq, Int.reduceLT, Int.reduceLE, Int.reduceNeg, Int.le_refl, Int.reduceMod], by simp only [z, true_and, and_true, false_and, and_false, forall_eq, forall_eq', xi_wi, xr_wi, xt_wi, xl_wi, xn_wi, xs_wi, xi_wr, xr_wr, xt_wr, xl_wr, xn_wr, xs_wr, if_true, if_false, and_self, Int.reduceEq, Int.reduceLT, Int.reduceLE, Int.reduceNeg, Int.le_refl, Int.reduceMod]⟩
            have : k ≠ k' := fun q => ne ⟨by rw [← q]; exact ka, by rw [← q]; exact kb⟩
            omega
          · have z2 : ¬ k' = k := fun q => ne ⟨by rw [q]; exact ka, by rw [q]; exact kb⟩
            exact ⟨k', k'0, by omega, by simp only [z2, true_and, and_true, false_and, and_false, forall_eq, forall_eq', xi_wi, xr_wi, xt_wi, xl_wi, xn_wi, xs_wi, xi_wr, xr_wr, xt_wr, xl_wr, xn_wr, xs_wr, if_true, if_false, and_self, Int.reduceEq, Int.reduceLT, Int.reduceLE, Int.reduceNeg, Int.le_refl, Int.reduceMod], by simp only [z2, true_and, and_true, false_and, and_false, forall_eq, forall_eq', xi_wi, xr_wi, xt_wi, xl_wi, xn_wi, xs_wi, xi_wr, xr_wr, xt_wr, xl_wr, xn_wr, xs_wr, if_true, if_false, and_self, Int.reduceEq, Int.reduceLT, Int.reduceLE, Int.reduceNeg, Int.le_refl, Int.reduceMod]⟩
      · intro no
        obtain ⟨k, y0, y1, y2, y3⟩ := k7 a b (by omega) (by omega) (by omega) (by omega) zt
        exact absurd ⟨y2, y3⟩ (no k y0 y1)
  · rw [if_neg zc]
    simp only [sxt SX_, sxl SX_, sxf SX_, true_and, and_true, false_and, and_false, forall_eq, forall_eq', xi_wi, xr_wi, xt_wi, xl_wi, xn_wi, xs_wi, xi_wr, xr_wr, xt_wr, xl_wr, xn_wr, xs_wr, if_true, if_false, and_self, Int.reduceEq, Int.reduceLT, Int.reduceLE, Int.reduceNeg, Int.le_refl, Int.reduceMod]
    have tail : ∀ m : Int, (m = h.i 59 6 ∧ h.i 6 (26 * a + b) ≠ 0 ∨ m = h.i 59 6 + 1 ∧ h.i 6 (26 * a + b) = 0 ∧ h.i 59 6 < 12) → ∀ h1 : xH, Fr [6, 62, 63, 64] [(4, 3), (59, 6)] h h1 → h1.i 4 3 = m → (∀ j, h1.i 6 j = if j = 26 * a + b then c else h.i 6 j) → h1.i 59 6 = h.i 59 6 → h1.i 62 = h.i 62 → h1.i 63 = h.i 63 → h1.i 64 = h.i 64 → xCi 2046 M_R_pair [(1, 59), (0, a), (0, b), (0, c)] h1 (fun r2 h2 => m = r2 ∧ Fr [6, 62, 63, 64] [(4, 3), (59, 6)] h h2 ∧ INV (n + 1) h2) := by
      intro m hm h1 F1 r43 r6 r59 r62 r63 r64
      refine enter h1 _ (SR_2 F1.1 S0) r59 r62 r63 r64 ?_ ?_
      · intro k k0 kk ka kb
        rw [if_neg zc]
        have hh := hit k k0 kk ka kb
        have em : m = h.i 59 6 := by omega
        have F : Fr [6, 62, 63, 64] [(4, 3), (59, 6)] h (((h1.wi 62 k a).wi 63 k b).wi 64 k c) := Fr_cell (Fr_cell (Fr_cell F1 _ _ (by decide)) _ _ (by decide)) _ _ (by decide)
        refine ⟨em, F, fin _ m F (by simp only [true_and, and_true, false_and, and_false, forall_eq, forall_eq', xi_wi, xr_wi, xt_wi, xl_wi, xn_wi, xs_wi, xi_wr, xr_wr, xt_wr, xl_wr, xn_wr, xs_wr, if_true, if_false, and_self, Int.reduceEq, Int.reduceLT, Int.reduceLE, Int.reduceNeg, Int.le_refl, Int.reduceMod]; exact r43) (by simp only [true_and, and_true, false_and, and_false, forall_eq, forall_eq', xi_wi, xr_wi, xt_wi, xl_wi, xn_wi, xs_wi, xi_wr, xr_wr, xt_wr, xl_wr, xn_wr, xs_wr, if_true, if_false, and_self, Int.reduceEq, Int.reduceLT, Int.reduceLE, Int.reduceNeg, Int.le_refl, Int.reduceMod]; omega) (by omega) (by omega) (fun j => by simp only [true_and, and_true, false_and, and_false, forall_eq, forall_eq', xi_wi, xr_wi, xt_wi, xl_wi, xn_wi, xs_wi, xi_wr, xr_wr, xt_wr, xl_wr, xn_wr, xs_wr, if_true, if_false, and_self, Int.reduceEq, Int.reduceLT, Int.reduceLE, Int.reduceNeg, Int.le_refl, Int.reduceMod]; exact r6 j) ?_ ?_ ?_ ?_⟩
        · intro j j0 jj
          by_cases z : j = k
          · left
            exact ⟨by simp only [z, true_and, and_true, false_and, and_false, forall_eq, forall_eq', xi_wi, xr_wi, xt_wi, xl_wi, xn_wi, xs_wi, xi_wr, xr_wr, xt_wr, xl_wr, xn_wr, xs_wr, if_true, if_false, and_self, Int.reduceEq, Int.reduceLT, Int.reduceLE, Int.reduceNeg, Int.le_refl, Int.reduceMod], by simp only [z, true_and, and_true, false_and, and_false, forall_eq, forall_eq', xi_wi, xr_wi, xt_wi, xl_wi, xn_wi, xs_wi, xi_wr, xr_wr, xt_wr, xl_wr, xn_wr, xs_wr, if_true, if_false, and_self, Int.reduceEq, Int.reduceLT, Int.reduceLE, Int.reduceNeg, Int.le_refl, Int.reduceMod], by simp only [z, true_and, and_true, false_and, and_false, forall_eq, forall_eq', xi_wi, xr_wi, xt_wi, xl_wi, xn_wi, xs_wi, xi_wr, xr_wr, xt_wr, xl_wr, xn_wr, xs_wr, if_true, if_false, and_self, Int.reduceEq, Int.reduceLT, Int.reduceLE, Int.reduceNeg, Int.le_refl, Int.reduceMod], zc⟩
          · right
            refine ⟨j, by omega, by omega, by simp only [z, r62, true_and, and_true, false_and, and_false, forall_eq, forall_eq', xi_wi, xr_wi, xt_wi, xl_wi, xn_wi, xs_wi, xi_wr, xr_wr, xt_wr, xl_wr, xn_wr, xs_wr, if_true, if_false, and_self, Int.reduceEq, Int.reduceLT, Int.reduceLE, Int.reduceNeg, Int.le_refl, Int.reduceMod], by simp only [z, r63, true_and, and_true, false_and, and_false, forall_eq, forall_eq', xi_wi, xr_wi, xt_wi, xl_wi, xn_wi, xs_wi, xi_wr, xr_wr, xt_wr, xl_wr, xn_wr, xs_wr, if_true, if_false, and_self, Int.reduceEq, Int.reduceLT, Int.reduceLE, Int.reduceNeg, Int.le_refl, Int.reduceMod], by simp only [z, r64, true_and, and_true, false_and, and_false, forall_eq, forall_eq', xi_wi, xr_wi, xt_wi, xl_wi, xn_wi, xs_wi, xi_wr, xr_wr, xt_wr, xl_wr, xn_wr, xs_wr, if_true, if_false, and_self, Int.reduceEq, Int.reduceLT, Int.reduceLE, Int.reduceNeg, Int.le_refl, Int.reduceMod], ?_⟩
            intro q
            by_cases lt : j < k
            · exact k6 j k j0 lt kk ⟨by rw [q.1, ka], by rw [q.2, kb]⟩
            · exact k6 k j k0 (by omega) (by omega) ⟨by rw [q.1, ka], by rw [q.2, kb]⟩
        · intro i j i0 ij jj
          have y := k6 i j i0 ij (by omega)
          simp only [r62, r63, true_and, and_true, false_and, and_false, forall_eq, forall_eq', xi_wi, xr_wi, xt_wi, xl_wi, xn_wi, xs_wi, xi_wr, xr_wr, xt_wr, xl_wr, xn_wr, xs_wr, if_true, if_false, and_self, Int.reduceEq, Int.reduceLT, Int.reduceLE, Int.reduceNeg, Int.le_refl, Int.reduceMod]
          by_cases z : i = k
          · rw [if_pos z, if_pos z, if_neg (by omega), if_neg (by omega), ← ka, ← kb, ← z]
            exact y
          · rw [if_neg z, if_neg z]
            by_cases z2 : j = k
            · rw [if_pos z2, if_pos z2, ← ka, ← kb, ← z2]
              exact y
            · rw [if_neg z2, if_neg z2]
              exact y
        · intro k' k'0 k'1 ne
          have z2 : ¬ k' = k := fun q => ne ⟨by rw [q]; exact ka, by rw [q]; exact kb⟩
          exact ⟨k', k'0, by omega, by simp only [z2, r62, true_and, and_true, false_and, and_false, forall_eq, forall_eq', xi_wi, xr_wi, xt_wi, xl_wi, xn_wi, xs_wi, xi_wr, xr_wr, xt_wr, xl_wr, xn_wr, xs_wr, if_true, if_false, and_self, Int.reduceEq, Int.reduceLT, Int.reduceLE, Int.reduceNeg, Int.le_refl, Int.reduceMod], by simp only [z2, r63, true_and, and_true, false_and, and_false, forall_eq, forall_eq', xi_wi, xr_wi, xt_wi, xl_wi, xn_wi, xs_wi, xi_wr, xr_wr, xt_wr, xl_wr, xn_wr, xs_wr, if_true, if_false, and_self, Int.reduceEq, Int.reduceLT, Int.reduceLE, Int.reduceNeg, Int.le_refl, Int.reduceMod]⟩
        · intro _
          exact ⟨k, k0, by omega, by simp only [true_and, and_true, false_and, and_false, forall_eq, forall_eq', xi_wi, xr_wi, xt_wi, xl_wi, xn_wi, xs_wi, xi_wr, xr_wr, xt_wr, xl_wr, xn_wr, xs_wr, if_true, if_false, and_self, Int.reduceEq, Int.reduceLT, Int.reduceLE, Int.reduceNeg, Int.le_refl, Int.reduceMod], by simp only [true_and, and_true, false_and, and_false, forall_eq, forall_eq', xi_wi, xr_wi, xt_wi, xl_wi, xn_wi, xs_wi, xi_wr, xr_wr, xt_wr, xl_wr, xn_wr, xs_wr, if_true, if_false, and_self, Int.reduceEq, Int.reduceLT, Int.reduceLE, Int.reduceNeg, Int.le_refl, Int.reduceMod]⟩
      · intro no
        rw [if_neg zc]
        have hz : h.i 6 (26 * a + b) = 0 := by
          by_cases z : h.i 6 (26 * a + b) = 0
          · exact z
          · obtain ⟨k, y0, y1, y2, y3⟩ := k7 a b (by omega) (by omega) (by omega) (by omega) z
            exact absurd ⟨y2, y3⟩ (no k y0 y1)
        have em : m = h.i 59 6 + 1 := by omega
        rw [if_neg (by omega)]
        have F : Fr [6, 62, 63, 64] [(4, 3), (59, 6)] h ((((h1.wi 59 6 (h.i 59 6 + 1)).wi 62 (h.i 59 6) a).wi 63 (h.i 59 6) b).wi 64 (h.i 59 6) c) := Fr_cell (Fr_cell (Fr_cell (Fr_slot F1 _ (by decide)) _ _ (by decide)) _ _ (by decide)) _ _ (by decide)
        refine ⟨em, F, fin _ m F (by simp only [true_and, and_true, false_and, and_false, forall_eq, forall_eq', xi_wi, xr_wi, xt_wi, xl_wi, xn_wi, xs_wi, xi_wr, xr_wr, xt_wr, xl_wr, xn_wr, xs_wr, if_true, if_false, and_self, Int.reduceEq, Int.reduceLT, Int.reduceLE, Int.reduceNeg, Int.le_refl, Int.reduceMod]; exact r43) (by simp only [true_and, and_true, false_and, and_false, forall_eq, forall_eq', xi_wi, xr_wi, xt_wi, xl_wi, xn_wi, xs_wi, xi_wr, xr_wr, xt_wr, xl_wr, xn_wr, xs_wr, if_true, if_false, and_self, Int.reduceEq, Int.reduceLT, Int.reduceLE, Int.reduceNeg, Int.le_refl, Int.reduceMod]; omega) (by omega) (by omega) (fun j => by simp only [true_and, and_true, false_and, and_false, forall_eq, forall_eq', xi_wi, xr_wi, xt_wi, xl_wi, xn_wi, xs_wi, xi_wr, xr_wr, xt_wr, xl_wr, xn_wr, xs_wr, if_true, if_false, and_self, Int.reduceEq, Int.reduceLT, Int.reduceLE, Int.reduceNeg, Int.le_refl, Int.reduceMod]; exact r6 j) ?_ ?_ ?_ ?_⟩
        · intro j j0 jj
          by_cases z : j = h.i 59 6
          · left
            exact ⟨by simp only [z, true_and, and_true, false_and, and_false, forall_eq, forall_eq', xi_wi, xr_wi, xt_wi, xl_wi, xn_wi, xs_wi, xi_wr, xr_wr, xt_wr, xl_wr, xn_wr, xs_wr, if_true, if_false, and_self, Int.reduceEq, Int.reduceLT, Int.reduceLE, Int.reduceNeg, Int.le_refl, Int.reduceMod], by simp only [z, true_and, and_true, false_and, and_false, forall_eq, forall_eq', xi_wi, xr_wi, xt_wi, xl_wi, xn_wi, xs_wi, xi_wr, xr_wr, xt_wr, xl_wr, xn_wr, xs_wr, if_true, if_false, and_self, Int.reduceEq, Int.reduceLT, Int.reduceLE, Int.reduceNeg, Int.le_refl, Int.reduceMod], by simp only [z, true_and, and_true, false_and, and_false, forall_eq, forall_eq', xi_wi, xr_wi, xt_wi, xl_wi, xn_wi, xs_wi, xi_wr, xr_wr, xt_wr, xl_wr, xn_wr, xs_wr, if_true, if_false, and_self, Int.reduceEq, Int.reduceLT, Int.reduceLE, Int.reduceNeg, Int.le_refl, Int.reduceMod], zc⟩
          · right
            exact ⟨j, by omega, by omega, by simp only [z, r62, true_and, and_true, false_and, and_false, forall_eq, forall_eq', xi_wi, xr_wi, xt_wi, xl_wi, xn_wi, xs_wi, xi_wr, xr_wr, xt_wr, xl_wr, xn_wr, xs_wr, if_true, if_false, and_self, Int.reduceEq, Int.reduceLT, Int.reduceLE, Int.reduceNeg, Int.le_refl, Int.reduceMod], by simp only [z, r63, true_and, and_true, false_and, and_false, forall_eq, forall_eq', xi_wi, xr_wi, xt_wi, xl_wi, xn_wi, xs_wi, xi_wr, xr_wr, xt_wr, xl_wr, xn_wr, xs_wr, if_true, if_false, and_self, Int.reduceEq, Int.reduceLT, Int.reduceLE, Int.reduceNeg, Int.le_refl, Int.reduceMod], by simp only [z, r64, true_and, and_true, false_and, and_false, forall_eq, forall_eq', xi_wi, xr_wi, xt_wi, xl_wi, xn_wi, xs_wi, xi_wr, xr_wr, xt_wr, xl_wr, xn_wr, xs_wr, if_true, if_false, and_self, Int.reduceEq, Int.reduceLT, Int.reduceLE, Int.reduceNeg, Int.le_refl, Int.reduceMod], no j j0 (by omega)⟩
        · intro i j i0 ij jj
          simp only [r62, r63, (show ¬ i = h.i 59 6 by omega), true_and, and_true, false_and, and_false, forall_eq, forall_eq', xi_wi, xr_wi, xt_wi, xl_wi, xn_wi, xs_wi, xi_wr, xr_wr, xt_wr, xl_wr, xn_wr, xs_wr, if_true, if_false, and_self, Int.reduceEq, Int.reduceLT, Int.reduceLE, Int.reduceNeg, Int.le_refl, Int.reduceMod]
          by_cases z2 : j = h.i 59 6
          · simp only [z2, true_and, and_true, false_and, and_false, forall_eq, forall_eq', xi_wi, xr_wi, xt_wi, xl_wi, xn_wi, xs_wi, xi_wr, xr_wr, xt_wr, xl_wr, xn_wr, xs_wr, if_true, if_false, and_self, Int.reduceEq, Int.reduceLT, Int.reduceLE, Int.reduceNeg, Int.le_refl, Int.reduceMod]
            exact no i i0 (by omega)
          · simp only [z2, true_and, and_true, false_and, and_false, forall_eq, forall_eq', xi_wi, xr_wi, xt_wi, xl_wi, xn_wi, xs_wi, xi_wr, xr_wr, xt_wr, xl_wr, xn_wr, xs_wr, if_true, if_false, and_self, Int.reduceEq, Int.reduceLT, Int.reduceLE, Int.reduceNeg, Int.le_refl, Int.reduceMod]
            exact k6 i j i0 ij (by omega)
        · intro k' k'0 k'1 ne
          have z2 : ¬ k' = h.i 59 6 := by omega
          exact ⟨k', k'0, by omega, by simp only [z2, r62, true_and, and_true, false_and, and_false, forall_eq, forall_eq', xi_wi, xr_wi, xt_wi, xl_wi, xn_wi, xs_wi, xi_wr, xr_wr, xt_wr, xl_wr, xn_wr, xs_wr, if_true, if_false, and_self, Int.reduceEq, Int.reduceLT, Int.reduceLE, Int.reduceNeg, Int.le_refl, Int.reduceMod], by simp only [z2, r63, true_and, and_true, false_and, and_false, forall_eq, forall_eq', xi_wi, xr_wi, xt_wi, xl_wi, xn_wi, xs_wi, xi_wr, xr_wr, xt_wr, xl_wr, xn_wr, xs_wr, if_true, if_false, and_self, Int.reduceEq, Int.reduceLT, Int.reduceLE, Int.reduceNeg, Int.le_refl, Int.reduceMod]⟩
        · intro _
          exact ⟨h.i 59 6, by omega, by omega, by simp only [true_and, and_true, false_and, and_false, forall_eq, forall_eq', xi_wi, xr_wi, xt_wi, xl_wi, xn_wi, xs_wi, xi_wr, xr_wr, xt_wr, xl_wr, xn_wr, xs_wr, if_true, if_false, and_self, Int.reduceEq, Int.reduceLT, Int.reduceLE, Int.reduceNeg, Int.le_refl, Int.reduceMod], by simp only [true_and, and_true, false_and, and_false, forall_eq, forall_eq', xi_wi, xr_wi, xt_wi, xl_wi, xn_wi, xs_wi, xi_wr, xr_wr, xt_wr, xl_wr, xn_wr, xs_wr, if_true, if_false, and_self, Int.reduceEq, Int.reduceLT, Int.reduceLE, Int.reduceNeg, Int.le_refl, Int.reduceMod]⟩
    refine ⟨⟨by omega, by omega⟩, x_if (fun zt => x_if (fun zf => ?_) (fun zf => ?_)) (fun zt => ?_)⟩
    · apply L_Language_setPair_36
      rw [if_neg zc]
      have e5 : xw (h.i 4 3 + 1) = h.i 59 6 + 1 := by unfold xw; omega
      simp only [sxt SX_, sxl SX_, sxf SX_, e5, zt, true_and, and_true, false_and, and_false, forall_eq, forall_eq', xi_wi, xr_wi, xt_wi, xl_wi, xn_wi, xs_wi, xi_wr, xr_wr, xt_wr, xl_wr, xn_wr, xs_wr, if_true, if_false, and_self, Int.reduceEq, Int.reduceLT, Int.reduceLE, Int.reduceNeg, Int.le_refl, Int.reduceMod]
      refine ⟨⟨by omega, by omega⟩, ⟨by omega, by omega⟩, FX _ _, ?_⟩
      exact tail (h.i 59 6 + 1) (Or.inr ⟨rfl, zt, by omega⟩) _ (FX _ _) (by simp only [true_and, and_true, false_and, and_false, forall_eq, forall_eq', xi_wi, xr_wi, xt_wi, xl_wi, xn_wi, xs_wi, xi_wr, xr_wr, xt_wr, xl_wr, xn_wr, xs_wr, if_true, if_false, and_self, Int.reduceEq, Int.reduceLT, Int.reduceLE, Int.reduceNeg, Int.le_refl, Int.reduceMod]) (fun j => by simp only [true_and, and_true, false_and, and_false, forall_eq, forall_eq', xi_wi, xr_wi, xt_wi, xl_wi, xn_wi, xs_wi, xi_wr, xr_wr, xt_wr, xl_wr, xn_wr, xs_wr, if_true, if_false, and_self, Int.reduceEq, Int.reduceLT, Int.reduceLE, Int.reduceNeg, Int.le_refl, Int.reduceMod]) (by simp only [true_and, and_true, false_and, and_false, forall_eq, forall_eq', xi_wi, xr_wi, xt_wi, xl_wi, xn_wi, xs_wi, xi_wr, xr_wr, xt_wr, xl_wr, xn_wr, xs_wr, if_true, if_false, and_self, Int.reduceEq, Int.reduceLT, Int.reduceLE, Int.reduceNeg, Int.le_refl, Int.reduceMod]) (by funext j; simp only [true_and, and_true, false_and, and_false, forall_eq, forall_eq', xi_wi, xr_wi, xt_wi, xl_wi, xn_wi, xs_wi, xi_wr, xr_wr, xt_wr, xl_wr, xn_wr, xs_wr, if_true, if_false, and_self, Int.reduceEq, Int.reduceLT, Int.reduceLE, Int.reduceNeg, Int.le_refl, Int.reduceMod]) (by funext j; simp only [true_and, and_true, false_and, and_false, forall_eq, forall_eq', xi_wi, xr_wi, xt_wi, xl_wi, xn_wi, xs_wi, xi_wr, xr_wr, xt_wr, xl_wr, xn_wr, xs_wr, if_true, if_false, and_self, Int.reduceEq, Int.reduceLT, Int.reduceLE, Int.reduceNeg, Int.le_refl, Int.reduceMod]) (by funext j; simp only [true_and, and_true, false_and, and_false, forall_eq, forall_eq', xi_wi, xr_wi, xt_wi, xl_wi, xn_wi, xs_wi, xi_wr, xr_wr, xt_wr, xl_wr, xn_wr, xs_wr, if_true, if_false, and_self, Int.reduceEq, Int.reduceLT, Int.reduceLE, Int.reduceNeg, Int.le_refl, Int.reduceMod])
    · refine ⟨Fr_refl _ _ _, ?_⟩
      refine enter _ _ S0 rfl rfl rfl rfl ?_ ?_
      · intro k k0 kk ka kb
        exact absurd zt (hit k k0 kk ka kb)
      · intro no
        rw [if_neg zc, if_pos (by omega)]
        first | exact ⟨rfl, Fr_refl _ _ _, INV_mono I⟩ | exact ⟨Fr_refl _ _ _, INV_mono I⟩
    · apply L_Language_setPair_36
      rw [if_neg zc]
      simp only [sxt SX_, sxl SX_, sxf SX_, zt, true_and, and_true, false_and, and_false, forall_eq, forall_eq', xi_wi, xr_wi, xt_wi, xl_wi, xn_wi, xs_wi, xi_wr, xr_wr, xt_wr, xl_wr, xn_wr, xs_wr, if_true, if_false, and_self, Int.reduceEq, Int.reduceLT, Int.reduceLE, Int.reduceNeg, Int.le_refl, Int.reduceMod]
      refine ⟨⟨by omega, by omega⟩, ?_⟩
      apply L_Language_setPair_50
      rw [if_neg zc]
      simp only [sxt SX_, sxl SX_, sxf SX_, true_and, and_true, false_and, and_false, forall_eq, forall_eq', xi_wi, xr_wi, xt_wi, xl_wi, xn_wi, xs_wi, xi_wr, xr_wr, xt_wr, xl_wr, xn_wr, xs_wr, if_true, if_false, and_self, Int.reduceEq, Int.reduceLT, Int.reduceLE, Int.reduceNeg, Int.le_refl, Int.reduceMod]
      refine ⟨⟨by omega, by omega⟩, FX0 _, ?_⟩
      rw [k1]
      exact tail (h.i 59 6) (Or.inl ⟨rfl, zt⟩) _ (FX0 _) (by simp only [true_and, and_true, false_and, and_false, forall_eq, forall_eq', xi_wi, xr_wi, xt_wi, xl_wi, xn_wi, xs_wi, xi_wr, xr_wr, xt_wr, xl_wr, xn_wr, xs_wr, if_true, if_false, and_self, Int.reduceEq, Int.reduceLT, Int.reduceLE, Int.reduceNeg, Int.le_refl, Int.reduceMod]; exact k1) (fun j => by simp only [true_and, and_true, false_and, and_false, forall_eq, forall_eq', xi_wi, xr_wi, xt_wi, xl_wi, xn_wi, xs_wi, xi_wr, xr_wr, xt_wr, xl_wr, xn_wr, xs_wr, if_true, if_false, and_self, Int.reduceEq, Int.reduceLT, Int.reduceLE, Int.reduceNeg, Int.le_refl, Int.reduceMod]) (by simp only [true_and, and_true, false_and, and_false, forall_eq, forall_eq', xi_wi, xr_wi, xt_wi, xl_wi, xn_wi, xs_wi, xi_wr, xr_wr, xt_wr, xl_wr, xn_wr, xs_wr, if_true, if_false, and_self, Int.reduceEq, Int.reduceLT, Int.reduceLE, Int.reduceNeg, Int.le_refl, Int.reduceMod]) (by funext j; simp only [true_and, and_true, false_and, and_false, forall_eq, forall_eq', xi_wi, xr_wi, xt_wi, xl_wi, xn_wi, xs_wi, xi_wr, xr_wr, xt_wr, xl_wr, xn_wr, xs_wr, if_true, if_false, and_self, Int.reduceEq, Int.reduceLT, Int.reduceLE, Int.reduceNeg, Int.le_refl, Int.reduceMod]) (by funext j; simp only [true_and, and_true, false_and, and_false, forall_eq, forall_eq', xi_wi, xr_wi, xt_wi, xl_wi, xn_wi, xs_wi, xi_wr, xr_wr, xt_wr, xl_wr, xn_wr, xs_wr, if_true, if_false, and_self, Int.reduceEq, Int.reduceLT, Int.reduceLE, Int.reduceNeg, Int.le_refl, Int.reduceMod]) (by funext j; simp only [true_and, and_true, false_and, and_false, forall_eq, forall_eq', xi_wi, xr_wi, xt_wi, xl_wi, xn_wi, xs_wi, xi_wr, xr_wr, xt_wr, xl_wr, xn_wr, xs_wr, if_true, if_false, and_self, Int.reduceEq, Int.reduceLT, Int.reduceLE, Int.reduceNeg, Int.le_refl, Int.reduceMod])
