/-! reading, step, fit, syllable, count -/
theorem jj_same1 {n mx mr : Nat} {as : List xV} (H : ∀ h, INV n h → ∃ v : Int, (∀ Q : Int → xH → Prop, Q v h → xCi 2046 mx ((1, 2) :: as) h Q) ∧ (∀ Q : Int → xH → Prop, Q v h → xCi 2046 mr ((1, 59) :: as) h Q)) : JJ INV n mx mr as :=
  jj_same (fun h I => by obtain ⟨v, A, B⟩ := H h I; exact ⟨v, v, rfl, A, B⟩)
theorem c_X_lengthOf {d n : Nat} {h : xH} {Q : Int → xH → Prop} {a : Int} (I : INV n h) (H : Q (if 0 ≤ a ∧ a < h.i 59 61 then h.i 109 a else -1) h) : xCi (d + 1) M_Readings_lengthOf [(1, 40), (0, a)] h Q := by
  have SX_ := I.1
  have i13 := I.2.2.2.2.2.2.2.2.2.2.2.2.2.2.2.2.2.2.1
  obtain ⟨z1, z2, z3, z4, z5, z6, z7⟩ := i13
  apply L_Readings_lengthOf
  refine x_if (fun c => by rw [if_neg (by omega)] at H; exact H) (fun c => ?_)
  simp only [sxt SX_, sxl SX_, sxf SX_, true_and, and_true, false_and, and_false, forall_eq, forall_eq', xi_wi, xr_wi, xt_wi, xl_wi, xn_wi, xs_wi, xi_wr, xr_wr, xt_wr, xl_wr, xn_wr, xs_wr, if_true, if_false, and_self, Int.reduceEq, Int.reduceLT, Int.reduceLE, Int.reduceNeg, Int.le_refl, Int.reduceMod]
  refine x_if (fun c2 => ?_) (fun c2 => by rw [if_neg (by omega)] at H; exact H)
  obtain ⟨y1, y2, y3, y4, y5, y6, y7, y8, y9, y10⟩ := z7 a (by omega) (by omega)
  have e1 : xw (h.i 44 a + 1) = h.i 44 a + 1 := by unfold xw; omega
  have e2 : xw (h.i 42 (h.i 44 a + 1) - h.i 42 (h.i 44 a)) = h.i 109 a := by rw [y5]; unfold xw; omega
  rw [if_pos (by omega)] at H
  rw [e1, e2]
  exact ⟨⟨by omega, by omega⟩, ⟨by omega, by omega⟩, ⟨by omega, by omega⟩, ⟨by omega, by omega⟩, H⟩
theorem j_reading (n : Nat) (hn : n < 512) (a b : Int) (ha : xrg a) (hb : xrg b) : JJ INV n M_X_reading M_R_reading [(0, a), (0, b)] := by
  refine jj_same1 (fun h I => ?_)
  have S := I.2.1
  have SX_ := I.1
  have i13 := I.2.2.2.2.2.2.2.2.2.2.2.2.2.2.2.2.2.2.1
  obtain ⟨z1, z2, z3, z4, z5, z6, z7⟩ := i13
  refine ⟨if b = 0 then (if 0 ≤ a ∧ a < h.i 59 61 then h.i 108 a else -1) else if b = 1 then (if 0 ≤ a ∧ a < h.i 59 61 then h.i 109 a else -1) else -1, fun Q H => ?_, fun Q H => ?_⟩
  · apply L_X_reading
    refine x_if (fun c => ?_) (fun c => x_if (fun c2 => ?_) (fun c2 => ?_))
    · rw [if_pos c] at H
      simp only [sxt SX_, sxl SX_, sxf SX_, true_and, and_true, false_and, and_false, forall_eq, forall_eq', xi_wi, xr_wi, xt_wi, xl_wi, xn_wi, xs_wi, xi_wr, xr_wr, xt_wr, xl_wr, xn_wr, xs_wr, if_true, if_false, and_self, Int.reduceEq, Int.reduceLT, Int.reduceLE, Int.reduceNeg, Int.le_refl, Int.reduceMod]
      apply L_Readings_priceOf
      refine x_if (fun c => by rw [if_neg (by omega)] at H; exact H) (fun c => ?_)
      simp only [sxt SX_, sxl SX_, sxf SX_, true_and, and_true, false_and, and_false, forall_eq, forall_eq', xi_wi, xr_wi, xt_wi, xl_wi, xn_wi, xs_wi, xi_wr, xr_wr, xt_wr, xl_wr, xn_wr, xs_wr, if_true, if_false, and_self, Int.reduceEq, Int.reduceLT, Int.reduceLE, Int.reduceNeg, Int.le_refl, Int.reduceMod]
      refine x_if (fun c2 => ?_) (fun c2 => by rw [if_neg (by omega)] at H; exact H)
      obtain ⟨y1, y2, y3, y4, y5, y6, y7, y8, y9, y10⟩ := z7 a (by omega) (by omega)
      rw [if_pos (by omega)] at H
      rw [y3]
      exact ⟨⟨by omega, by omega⟩, ⟨by omega, by omega⟩, H⟩
    · rw [if_neg c, if_pos c2] at H
      simp only [sxt SX_, sxl SX_, sxf SX_, true_and, and_true, false_and, and_false, forall_eq, forall_eq', xi_wi, xr_wi, xt_wi, xl_wi, xn_wi, xs_wi, xi_wr, xr_wr, xt_wr, xl_wr, xn_wr, xs_wr, if_true, if_false, and_self, Int.reduceEq, Int.reduceLT, Int.reduceLE, Int.reduceNeg, Int.le_refl, Int.reduceMod]
      exact c_X_lengthOf I H
    · rw [if_neg c, if_neg c2] at H
      exact H
  · apply L_R_reading
    have e : xw (h.i 59 61 - 1) = h.i 59 61 - 1 := by unfold xw; omega
    refine ⟨(srt S).1, ?_⟩
    rw [e]
    by_cases z : 0 ≤ a ∧ a < h.i 59 61
    · rw [if_pos z, if_pos z] at H
      refine c_R_in_t (by omega) ?_
      rw [if_neg (by decide)]
      refine x_if (fun c => ?_) (fun c => x_if (fun c2 => ?_) (fun c2 => ?_))
      · rw [if_pos c] at H
        simp only [srt S, srl S, srf S, true_and, and_true, false_and, and_false, forall_eq, forall_eq', xi_wi, xr_wi, xt_wi, xl_wi, xn_wi, xs_wi, xi_wr, xr_wr, xt_wr, xl_wr, xn_wr, xs_wr, if_true, if_false, and_self, Int.reduceEq, Int.reduceLT, Int.reduceLE, Int.reduceNeg, Int.le_refl, Int.reduceMod]
        exact ⟨⟨by omega, by omega⟩, H⟩
      · rw [if_neg c, if_pos c2] at H
        simp only [srt S, srl S, srf S, true_and, and_true, false_and, and_false, forall_eq, forall_eq', xi_wi, xr_wi, xt_wi, xl_wi, xn_wi, xs_wi, xi_wr, xr_wr, xt_wr, xl_wr, xn_wr, xs_wr, if_true, if_false, and_self, Int.reduceEq, Int.reduceLT, Int.reduceLE, Int.reduceNeg, Int.le_refl, Int.reduceMod]
        exact ⟨⟨by omega, by omega⟩, H⟩
      · rw [if_neg c, if_neg c2] at H
        exact H
    · rw [if_neg z, if_neg z] at H
      refine c_R_in_f (by omega) ?_
      rw [if_pos rfl]
      have : (if b = 0 then (-1 : Int) else if b = 1 then -1 else -1) = -1 := by split <;> (try split) <;> rfl
      rw [this] at H
      exact H
theorem sp_sh {s : Int} (k : Nat) (h0 : 0 ≤ s) (h1 : s < 2147483648) (hk : k < 32) : xshr s k = s / 2 ^ k := by
  have z := xshr_eq (a := s) (k := k) ⟨by omega, h1⟩ (by omega) (by omega)
  rw [Int.toNat_natCast] at z
  exact z
theorem xand_15 {a : Int} (ha : 0 ≤ a) : xand a 15 = a % 16 := by
  rw [xand_nn ha (by decide) (by decide), show (15 : Int).toNat = 2 ^ 4 - 1 from rfl, Nat.and_two_pow_sub_one_eq_mod]
  omega
theorem xand_3 {a : Int} (ha : 0 ≤ a) : xand a 3 = a % 4 := by
  rw [xand_nn ha (by decide) (by decide), show (3 : Int).toNat = 2 ^ 2 - 1 from rfl, Nat.and_two_pow_sub_one_eq_mod]
  omega
theorem c_X_wayOf {d : Nat} {h : xH} {Q : Int → xH → Prop} {s : Int} (s0 : 0 ≤ s) (s1 : s < 2147483648) (H : Q (s / 4096 % 16) h) : xCi (d + 1) M_Walker_wayOf [(0, s)] h Q := by
  apply L_Walker_wayOf
  have e := sp_sh 12 s0 s1 (by decide)
  rw [show ((12 : Nat) : Int) = 12 from rfl] at e
  rw [e, xand_15 (by omega)]
  exact H
theorem c_X_partOf {d : Nat} {h : xH} {Q : Int → xH → Prop} {s w : Int} (s0 : 0 ≤ s) (s1 : s < 2147483648) (w0 : 0 ≤ w) (w1 : w ≤ 5) (H : Q (spart s w) h) : xCi (d + 2) M_Walker_partOf [(0, s), (0, w)] h Q := by
  apply L_Walker_partOf
  unfold spart at H
  have e16 := sp_sh 16 s0 s1 (by decide)
  have e8 := sp_sh 8 s0 s1 (by decide)
  have e4 := sp_sh 4 s0 s1 (by decide)
  have e2 := sp_sh 2 s0 s1 (by decide)
  rw [show ((16 : Nat) : Int) = 16 from rfl] at e16
  rw [show ((8 : Nat) : Int) = 8 from rfl] at e8
  rw [show ((4 : Nat) : Int) = 4 from rfl] at e4
  rw [show ((2 : Nat) : Int) = 2 from rfl] at e2
  refine x_if (fun c => ?_) (fun c => x_if (fun c2 => ?_) (fun c2 => ?_))
  · rw [if_pos c] at H; rw [e16]; exact H
  · rw [if_neg c, if_pos c2] at H; exact c_X_wayOf s0 s1 H
  · rw [if_neg c, if_neg c2] at H
    refine c_X_wayOf s0 s1 ?_
    refine x_if (fun c3 => ?_) (fun c3 => by rw [if_pos (by omega)] at H; exact H)
    rw [if_neg (by omega)] at H
    refine x_if (fun c => ?_) (fun c => ?_)
    · rw [if_pos c] at H; rw [e8, xand_15 (by omega)]; exact H
    rw [if_neg c] at H
    refine x_if (fun c => ?_) (fun c => ?_)
    · rw [if_pos c] at H; rw [e4, xand_15 (by omega)]; exact H
    rw [if_neg c] at H
    refine x_if (fun c => ?_) (fun c => ?_)
    · rw [if_pos c] at H; rw [e2, xand_3 (by omega)]; exact H
    rw [if_neg c] at H
    rw [if_pos (by omega), xand_3 s0]; exact H
theorem j_step (n : Nat) (hn : n < 512) (a b c : Int) (ha : xrg a) (hb : xrg b) (hc : xrg c) : JJ INV n M_X_step M_R_step [(0, a), (0, b), (0, c)] := by
  refine jj_same1 (fun h I => ?_)
  have S := I.2.1
  have SX_ := I.1
  have i13 := I.2.2.2.2.2.2.2.2.2.2.2.2.2.2.2.2.2.2.1
  obtain ⟨z1, z2, z3, z4, z5, z6, z7⟩ := i13
  by_cases z : 0 ≤ a ∧ a < h.i 59 61
  · obtain ⟨y1, y2, y3, y4, y5, y6, y7, y8, y9, y10⟩ := z7 a z.1 z.2
    refine ⟨if 0 ≤ b ∧ b < h.i 109 a ∧ 0 ≤ c ∧ c ≤ 5 then h.i 110 (246 * a + 6 * b + c) else -1, fun Q H => ?_, fun Q H => ?_⟩
    · apply L_X_step
      simp only [sxt SX_, sxl SX_, sxf SX_, true_and, and_true, false_and, and_false, forall_eq, forall_eq', xi_wi, xr_wi, xt_wi, xl_wi, xn_wi, xs_wi, xi_wr, xr_wr, xt_wr, xl_wr, xn_wr, xs_wr, if_true, if_false, and_self, Int.reduceEq, Int.reduceLT, Int.reduceLE, Int.reduceNeg, Int.le_refl, Int.reduceMod]
      apply L_Readings_partOf
      refine x_if (fun c => by rw [if_neg (by omega)] at H; exact H) (fun c1 => ?_)
      refine ⟨(sxt SX_).2.2.2.2.2.2.2.2.2.2.2.2.2.2.2.2.2.2.2.2.2.2.2.2.2.2.2.2.2.2.2.2.2.2.2.2.2.2.1, ?_⟩
      refine c_X_lengthOf I ?_
      rw [if_pos z]
      refine x_if (fun c2 => ?_) (fun c => by rw [if_neg (by omega)] at H; exact H)
      refine x_if (fun c => by rw [if_neg (by omega)] at H; exact H) (fun c3 => ?_)
      refine x_if (fun c4 => ?_) (fun c => by rw [if_neg (by omega)] at H; exact H)
      rw [if_pos (by omega)] at H
      have e : xw (h.i 42 (h.i 44 a) + b) = h.i 42 (h.i 44 a) + b := by unfold xw; omega
      simp only [sxt SX_, sxl SX_, sxf SX_, e, z4, true_and, and_true, false_and, and_false, forall_eq, forall_eq', xi_wi, xr_wi, xt_wi, xl_wi, xn_wi, xs_wi, xi_wr, xr_wr, xt_wr, xl_wr, xn_wr, xs_wr, if_true, if_false, and_self, Int.reduceEq, Int.reduceLT, Int.reduceLE, Int.reduceNeg, Int.le_refl, Int.reduceMod]
      refine ⟨⟨by omega, by omega⟩, ⟨by omega, by omega⟩, ?_⟩
      rw [if_neg (by omega), if_pos (by omega)]
      have y := y10 b c (by omega) (by omega) (by omega) (by omega)
      refine ⟨⟨by omega, by omega⟩, c_X_partOf y.1 y.2.1 (by omega) (by omega) ?_⟩
      rw [y.2.2]
      exact H
    · apply L_R_step
      have e : xw (h.i 59 61 - 1) = h.i 59 61 - 1 := by unfold xw; omega
      have e2 : xw (h.i 109 a - 1) = h.i 109 a - 1 := by unfold xw; omega
      refine ⟨(srt S).1, ?_⟩
      rw [e]
      refine c_R_in_t (by omega) ?_
      rw [if_neg (by decide)]
      simp only [srt S, srl S, srf S, e2, true_and, and_true, false_and, and_false, forall_eq, forall_eq', xi_wi, xr_wi, xt_wi, xl_wi, xn_wi, xs_wi, xi_wr, xr_wr, xt_wr, xl_wr, xn_wr, xs_wr, if_true, if_false, and_self, Int.reduceEq, Int.reduceLT, Int.reduceLE, Int.reduceNeg, Int.le_refl, Int.reduceMod]
      refine ⟨⟨by omega, by omega⟩, ?_⟩
      by_cases q : 0 ≤ b ∧ b < h.i 109 a
      · refine c_R_in_t (by omega) ?_
        rw [if_neg (by decide)]
        by_cases q2 : 0 ≤ c ∧ c ≤ 5
        · rw [if_pos (by omega)] at H
          refine c_R_in_t (by omega) ?_
          rw [if_neg (by decide)]
          have e3 : xw (xw (xw (246 * a) + xw (6 * b)) + c) = 246 * a + 6 * b + c := by unfold xw; omega
          simp only [srt S, srl S, srf S, e3, true_and, and_true, false_and, and_false, forall_eq, forall_eq', xi_wi, xr_wi, xt_wi, xl_wi, xn_wi, xs_wi, xi_wr, xr_wr, xt_wr, xl_wr, xn_wr, xs_wr, if_true, if_false, and_self, Int.reduceEq, Int.reduceLT, Int.reduceLE, Int.reduceNeg, Int.le_refl, Int.reduceMod]
          exact ⟨⟨by omega, by omega⟩, H⟩
        · rw [if_neg (by omega)] at H
          refine c_R_in_f (by omega) ?_
          rw [if_pos rfl]
          exact H
      · rw [if_neg (by omega)] at H
        refine c_R_in_f (by omega) ?_
        rw [if_pos rfl]
        exact H
  · refine ⟨-1, fun Q H => ?_, fun Q H => ?_⟩
    · apply L_X_step
      simp only [sxt SX_, sxl SX_, sxf SX_, true_and, and_true, false_and, and_false, forall_eq, forall_eq', xi_wi, xr_wi, xt_wi, xl_wi, xn_wi, xs_wi, xi_wr, xr_wr, xt_wr, xl_wr, xn_wr, xs_wr, if_true, if_false, and_self, Int.reduceEq, Int.reduceLT, Int.reduceLE, Int.reduceNeg, Int.le_refl, Int.reduceMod]
      apply L_Readings_partOf
      refine x_if (fun c => H) (fun c1 => ?_)
      refine ⟨(sxt SX_).2.2.2.2.2.2.2.2.2.2.2.2.2.2.2.2.2.2.2.2.2.2.2.2.2.2.2.2.2.2.2.2.2.2.2.2.2.2.1, ?_⟩
      refine c_X_lengthOf I ?_
      rw [if_neg z]
      refine x_if (fun c2 => ?_) (fun c => H)
      omega
    · apply L_R_step
      have e : xw (h.i 59 61 - 1) = h.i 59 61 - 1 := by unfold xw; omega
      refine ⟨(srt S).1, ?_⟩
      rw [e]
      refine c_R_in_f (by omega) ?_
      rw [if_pos rfl]
      exact H
theorem j_fit (n : Nat) (hn : n < 512) (a b : Int) (ha : xrg a) (hb : xrg b) : JJ INV n M_X_fit M_R_fit [(0, a), (0, b)] := by
  refine jj_same1 (fun h I => ?_)
  have S := I.2.1
  have SX_ := I.1
  have i14 := I.2.2.2.2.2.2.2.2.2.2.2.2.2.2.2.2.2.2.2.1
  obtain ⟨z1, z2, z3, z4⟩ := i14
  by_cases z : 0 ≤ a ∧ a < h.i 59 84
  · obtain ⟨y1, y2, y3, y4, y5, y6, y7, y8, y9⟩ := z4 a z.1 z.2
    have yb := y2
    obtain ⟨b1, b2, b3, b4, b5, b6, b7, b8, b9, b10, b11, b12, b13, b14, b15, b16⟩ := yb
    refine ⟨if b = 0 then h.i 127 a else if b = 1 then h.i 126 a else if 10 ≤ b ∧ b < 10 + h.i 126 a then h.i 125 (16 * a + (b - 10)) else -1, fun Q H => ?_, fun Q H => ?_⟩
    · apply L_X_fit
      rw [if_neg (by omega)]
      simp only [sxt SX_, sxl SX_, sxf SX_, z1, true_and, and_true, false_and, and_false, forall_eq, forall_eq', xi_wi, xr_wi, xt_wi, xl_wi, xn_wi, xs_wi, xi_wr, xr_wr, xt_wr, xl_wr, xn_wr, xs_wr, if_true, if_false, and_self, Int.reduceEq, Int.reduceLT, Int.reduceLE, Int.reduceNeg, Int.le_refl, Int.reduceMod]
      rw [if_pos (by omega), if_neg y1]
      refine ⟨⟨by omega, by omega⟩, ⟨by omega, by omega⟩, ?_⟩
      have cnt : ∀ (d : Nat) (Q : Int → xH → Prop), Q (h.i 126 a) h → xCi (d + 1) M_Syllables_letterCount [(1, h.r 58 a)] h Q := by
        intro d Q H
        apply L_Syllables_letterCount
        rw [b5, y3, y4]
        exact ⟨b3, ⟨b10, by omega, by rw [b15, y3]; omega⟩, H⟩
      refine x_if (fun c => ?_) (fun c => x_if (fun c2 => ?_) (fun c2 => x_if (fun c3 => ?_) (fun c3 => ?_)))
      · rw [if_pos c] at H
        rw [y3]
        exact ⟨b3, H⟩
      · rw [if_neg c, if_pos c2] at H
        exact ⟨b3, cnt _ _ H⟩
      · rw [if_neg c, if_neg c2, if_neg (by omega)] at H
        exact H
      · rw [if_neg c, if_neg c2] at H
        have e : xw (b - 10) = b - 10 := by unfold xrg at hb; unfold xw; omega
        rw [e]
        refine ⟨b3, ?_⟩
        apply L_Syllables_letterAt
        rw [if_neg (by omega)]
        refine ⟨b3, cnt _ _ ?_⟩
        refine x_if (fun c4 => ?_) (fun c4 => by rw [if_neg (by omega)] at H; exact H)
        rw [if_pos (by omega)] at H
        rw [b4, y9 (b - 10) (by omega) c4]
        exact ⟨b3, ⟨b9, by omega, by rw [b14, y3, y4]; omega⟩, H⟩
    · apply L_R_fit
      have e : xw (h.i 59 84 - 1) = h.i 59 84 - 1 := by unfold xw; omega
      have e2 : xw (9 + h.i 126 a) = 9 + h.i 126 a := by unfold xw; omega
      refine ⟨(srt S).1, ?_⟩
      rw [e]
      refine c_R_in_t (by omega) ?_
      rw [if_neg (by decide)]
      refine x_if (fun c => ?_) (fun c => x_if (fun c2 => ?_) (fun c2 => ?_))
      · rw [if_pos c] at H
        simp only [srt S, srl S, srf S, true_and, and_true, false_and, and_false, forall_eq, forall_eq', xi_wi, xr_wi, xt_wi, xl_wi, xn_wi, xs_wi, xi_wr, xr_wr, xt_wr, xl_wr, xn_wr, xs_wr, if_true, if_false, and_self, Int.reduceEq, Int.reduceLT, Int.reduceLE, Int.reduceNeg, Int.le_refl, Int.reduceMod]
        exact ⟨⟨by omega, by omega⟩, H⟩
      · rw [if_neg c, if_pos c2] at H
        simp only [srt S, srl S, srf S, true_and, and_true, false_and, and_false, forall_eq, forall_eq', xi_wi, xr_wi, xt_wi, xl_wi, xn_wi, xs_wi, xi_wr, xr_wr, xt_wr, xl_wr, xn_wr, xs_wr, if_true, if_false, and_self, Int.reduceEq, Int.reduceLT, Int.reduceLE, Int.reduceNeg, Int.le_refl, Int.reduceMod]
        exact ⟨⟨by omega, by omega⟩, H⟩
      · rw [if_neg c, if_neg c2] at H
        simp only [srt S, srl S, srf S, e2, true_and, and_true, false_and, and_false, forall_eq, forall_eq', xi_wi, xr_wi, xt_wi, xl_wi, xn_wi, xs_wi, xi_wr, xr_wr, xt_wr, xl_wr, xn_wr, xs_wr, if_true, if_false, and_self, Int.reduceEq, Int.reduceLT, Int.reduceLE, Int.reduceNeg, Int.le_refl, Int.reduceMod]
        refine ⟨⟨by omega, by omega⟩, ?_⟩
        by_cases q : 10 ≤ b ∧ b < 10 + h.i 126 a
        · rw [if_pos q] at H
          refine c_R_in_t (by omega) ?_
          rw [if_neg (by decide)]
          have e3 : xw (xw (xw (16 * a) + b) - 10) = 16 * a + (b - 10) := by unfold xw; omega
          simp only [srt S, srl S, srf S, e3, true_and, and_true, false_and, and_false, forall_eq, forall_eq', xi_wi, xr_wi, xt_wi, xl_wi, xn_wi, xs_wi, xi_wr, xr_wr, xt_wr, xl_wr, xn_wr, xs_wr, if_true, if_false, and_self, Int.reduceEq, Int.reduceLT, Int.reduceLE, Int.reduceNeg, Int.le_refl, Int.reduceMod]
          exact ⟨⟨by omega, by omega⟩, H⟩
        · rw [if_neg q] at H
          refine c_R_in_f (by omega) ?_
          rw [if_pos rfl]
          exact H
  · refine ⟨-1, fun Q H => ?_, fun Q H => ?_⟩
    · apply L_X_fit
      refine x_if (fun c => H) (fun c1 => ?_)
      simp only [sxt SX_, sxl SX_, sxf SX_, z1, true_and, and_true, false_and, and_false, forall_eq, forall_eq', xi_wi, xr_wi, xt_wi, xl_wi, xn_wi, xs_wi, xi_wr, xr_wr, xt_wr, xl_wr, xn_wr, xs_wr, if_true, if_false, and_self, Int.reduceEq, Int.reduceLT, Int.reduceLE, Int.reduceNeg, Int.le_refl, Int.reduceMod]
      rw [if_neg (by omega)]
      exact H
    · apply L_R_fit
      have e : xw (h.i 59 84 - 1) = h.i 59 84 - 1 := by unfold xw; omega
      refine ⟨(srt S).1, ?_⟩
      rw [e]
      refine c_R_in_f (by omega) ?_
      rw [if_pos rfl]
      exact H
