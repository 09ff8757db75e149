/-! vowel, cut, licence, form, fault, tell -/
theorem sumN_congr {f g : Int → Int} : ∀ n : Nat, (∀ k : Int, 0 ≤ k → k < n → f k = g k) → sumN f n = sumN g n := by
  intro n
  induction n with
  | zero => intro _; rfl
  | succ n ih =>
    intro H
    rw [sumN, sumN, ih (fun k k0 k1 => H k k0 (by omega)), H n (by omega) (by omega)]
theorem sumN_upd {f : Int → Int} {a v : Int} : ∀ n : Nat, sumN (fun j => if j = a then v else f j) n = sumN f n + (if 0 ≤ a ∧ a < n then v - f a else 0) := by
  intro n
  induction n with
  | zero => rw [sumN, sumN, if_neg (by omega)]; rfl
  | succ n ih =>
    rw [sumN, sumN, ih]
    by_cases e : (n : Int) = a
    · rw [if_pos e, if_neg (by omega), if_pos (by omega), e]; omega
    · rw [if_neg e]
      by_cases c : 0 ≤ a ∧ a < n
      · rw [if_pos c, if_pos (by omega)]; omega
      · rw [if_neg c, if_neg (by omega)]; omega
theorem sumN_bits {f : Int → Int} : ∀ n : Nat, (∀ k : Int, 0 ≤ k → k < n → 0 ≤ f k ∧ f k ≤ 1) → 0 ≤ sumN f n ∧ sumN f n ≤ n := by
  intro n
  induction n with
  | zero => intro _; exact ⟨Int.le_refl _, Int.le_refl _⟩
  | succ n ih =>
    intro H
    have a := ih (fun k k0 k1 => H k k0 (by omega))
    have b := H n (by omega) (by omega)
    rw [sumN]
    omega
theorem c_R_count_6 {d : Nat} {h : xH} {Q : Int → xH → Prop} (S : SR h) (hb : ∀ k, 0 ≤ k → k < 26 → 0 ≤ h.i 61 k ∧ h.i 61 k ≤ 1) (H : Q (sumN (h.i 61) 26) h) : ∀ (n k : Nat) (u1 : xV), k + n = 26 → xT d M_R_count 6 [(1, 59), u1, (0, sumN (h.i 61) k), (0, (k : Int))] [] h (xqi Q) := by
  intro n
  induction n with
  | zero =>
    intro k u1 e
    apply L_R_count_6
    rw [if_neg (by omega)]
    have : k = 26 := by omega
    subst this
    exact H
  | succ n ih =>
    intro k u1 e
    apply L_R_count_6
    rw [if_pos (by omega)]
    have b := hb k (by omega) (by omega)
    have sb := sumN_bits k (fun j j0 j1 => hb j j0 (by omega))
    have e1 : xw ((k : Int) + 1) = ((k + 1 : Nat) : Int) := by unfold xw; omega
    have e2 : xw (sumN (h.i 61) k + 0) = sumN (h.i 61) k := by unfold xw; omega
    have e3 : xw (sumN (h.i 61) k + 1) = sumN (h.i 61) k + 1 := by unfold xw; omega
    simp only [srt S, srl S, srf S, e1, e2, e3, true_and, and_true, false_and, and_false, forall_eq, forall_eq', xi_wi, xr_wi, xt_wi, xl_wi, xn_wi, xs_wi, xi_wr, xr_wr, xt_wr, xl_wr, xn_wr, xs_wr, if_true, if_false, and_self, Int.reduceEq, Int.reduceLT, Int.reduceLE, Int.reduceNeg, Int.le_refl, Int.reduceMod]
    refine ⟨⟨by omega, by omega⟩, x_if (fun c => ?_) (fun c => ?_)⟩
    · have z := ih (k + 1) (xkl u1) (by omega)
      rw [sumN, c, Int.add_zero] at z
      exact z
    · have z := ih (k + 1) (xkl u1) (by omega)
      rw [sumN, show h.i 61 (k : Int) = 1 by omega] at z
      exact z
theorem c_R_count0 {d : Nat} {h : xH} {Q : Int → xH → Prop} (S : SR h) (hb : ∀ k, 0 ≤ k → k < 26 → 0 ≤ h.i 61 k ∧ h.i 61 k ≤ 1) (H : Q (sumN (h.i 61) 26) h) : xCi (d + 1) M_R_count [(1, 59), (0, 0)] h Q := by
  apply L_R_count
  rw [if_pos rfl]
  exact c_R_count_6 S hb H 26 0 _ rfl
theorem j_vowel (n : Nat) (hn : n < 512) (a b : Int) (hb : b = 0 ∨ b = 1) : JJ INV n M_X_vowel M_R_vowel [(0, a), (0, b)] := by
  refine jj_fr [5, 61] [(4, 1)] (by decide) (fun h I => ?_)
  have S := I.2.1
  have SX_ := I.1
  have i2 := I.2.2.2.2.2.2.2.1
  have S0 := S
  have hbits : ∀ k : Int, 0 ≤ k → k < (26 : Nat) → 0 ≤ h.i 61 k ∧ h.i 61 k ≤ 1 := fun k k0 k1 => (i2.1 k k0 (by omega)).2
  have hsb := sumN_bits 26 hbits
  apply L_X_vowel
  refine ⟨(sxt SX_).1, by simp only [sxt SX_, sxl SX_, sxf SX_, true_and, and_true, false_and, and_false, forall_eq, forall_eq', xi_wi, xr_wi, xt_wi, xl_wi, xn_wi, xs_wi, xi_wr, xr_wr, xt_wr, xl_wr, xn_wr, xs_wr, if_true, if_false, and_self, Int.reduceEq, Int.reduceLT, Int.reduceLE, Int.reduceNeg, Int.le_refl, Int.reduceMod], ?_⟩
  simp only [sxt SX_, sxl SX_, sxf SX_, true_and, and_true, false_and, and_false, forall_eq, forall_eq', xi_wi, xr_wi, xt_wi, xl_wi, xn_wi, xs_wi, xi_wr, xr_wr, xt_wr, xl_wr, xn_wr, xs_wr, if_true, if_false, and_self, Int.reduceEq, Int.reduceLT, Int.reduceLE, Int.reduceNeg, Int.le_refl, Int.reduceMod]
  apply L_Language_setVowel
  have out : ¬ (0 ≤ a ∧ a < 26) → xCi 2046 M_R_vowel [(1, 59), (0, a), (0, b)] h (fun r2 h2 => -2 = r2 ∧ Fr [5, 61] [(4, 1)] h h2 ∧ INV (n + 1) h2) := by
    intro c
    apply L_R_vowel
    refine c_R_in_f (by omega) ?_
    rw [if_pos rfl]
    first | exact ⟨rfl, Fr_refl _ _ _, INV_mono I⟩ | exact ⟨Fr_refl _ _ _, INV_mono I⟩
  refine x_if (fun c => ⟨Fr_refl _ _ _, out (by omega)⟩) (fun c => x_if (fun c2 => ?_) (fun c2 => ⟨Fr_refl _ _ _, out (by omega)⟩))
  have b2 : b % 2 = b := by omega
  have ia := i2.1 a (by omega) (by omega)
  have isum := i2.2
  have su := sumN_upd (f := h.i 61) (a := a) (v := b) 26
  rw [if_pos (by omega)] at su
  have fin : ∀ h1 : xH, Fr [5, 61] [(4, 1)] h h1 → h1.i 61 = h.i 61 → (∀ j, 0 ≤ j → j < 26 → h1.i 5 j = if j = a then b else h.i 5 j) → h1.i 4 1 = sumN (h.i 61) 26 + (b - h.i 61 a) → xCi 2046 M_R_vowel [(1, 59), (0, a), (0, b)] h1 (fun r2 h2 => h1.i 4 1 = r2 ∧ Fr [5, 61] [(4, 1)] h h2 ∧ INV (n + 1) h2) := by
    intro h1 F1 r61 r5 r4
    have S1 := SR_2 F1.1 S0
    have F : Fr [5, 61] [(4, 1)] h (h1.wi 61 a b) := Fr_cell F1 _ _ (by decide)
    have sumE : sumN ((h1.wi 61 a b).i 61) 26 = h1.i 4 1 := by
      rw [r4, ← su]
      exact sumN_congr 26 (fun j j0 j1 => by simp only [true_and, and_true, false_and, and_false, forall_eq, forall_eq', xi_wi, xr_wi, xt_wi, xl_wi, xn_wi, xs_wi, xi_wr, xr_wr, xt_wr, xl_wr, xn_wr, xs_wr, if_true, if_false, and_self, Int.reduceEq, Int.reduceLT, Int.reduceLE, Int.reduceNeg, Int.le_refl, Int.reduceMod]; rw [r61])
    have S2 : SR (h1.wi 61 a b) := SR_2 rfl S1
    have S := S1
    apply L_R_vowel
    refine c_R_in_t (by omega) ?_
    rw [if_neg (by decide)]
    simp only [srt S, srl S, srf S, b2, true_and, and_true, false_and, and_false, forall_eq, forall_eq', xi_wi, xr_wi, xt_wi, xl_wi, xn_wi, xs_wi, xi_wr, xr_wr, xt_wr, xl_wr, xn_wr, xs_wr, if_true, if_false, and_self, Int.reduceEq, Int.reduceLT, Int.reduceLE, Int.reduceNeg, Int.le_refl, Int.reduceMod]
    refine ⟨⟨by omega, by omega⟩, ?_⟩
    refine c_R_count0 S2 ?_ ?_
    · intro j j0 j1
      simp only [true_and, and_true, false_and, and_false, forall_eq, forall_eq', xi_wi, xr_wi, xt_wi, xl_wi, xn_wi, xs_wi, xi_wr, xr_wr, xt_wr, xl_wr, xn_wr, xs_wr, if_true, if_false, and_self, Int.reduceEq, Int.reduceLT, Int.reduceLE, Int.reduceNeg, Int.le_refl, Int.reduceMod]
      split
      · omega
      · rw [r61]; exact (hbits j j0 (by omega))
    · rw [sumE]
      refine ⟨rfl, F, INV_fr I F (by decide) (Or.inl (by decide)) (Or.inr ?_) (Or.inl (by decide)) (Or.inl (by decide)) (Or.inl (by decide)) (Or.inl (by decide)) (Or.inl (by decide)) (Or.inl (by decide)) (Or.inl (by decide)) (Or.inl (by decide)) (Or.inl (by decide)) (Or.inl (by decide)) (Or.inl (by decide)) (Or.inl (by decide)) (Or.inl (by decide))⟩
      refine ⟨fun k k0 k1 => ?_, ?_⟩
      · have z := r5 k k0 k1
        have y := i2.1 k k0 k1
        simp only [true_and, and_true, false_and, and_false, forall_eq, forall_eq', xi_wi, xr_wi, xt_wi, xl_wi, xn_wi, xs_wi, xi_wr, xr_wr, xt_wr, xl_wr, xn_wr, xs_wr, if_true, if_false, and_self, Int.reduceEq, Int.reduceLT, Int.reduceLE, Int.reduceNeg, Int.le_refl, Int.reduceMod]
        rw [z, r61]
        by_cases e : k = a
        · rw [if_pos e, if_pos e]; omega
        · rw [if_neg e, if_neg e]; exact y
      · exact sumE.symm
  simp only [sxt SX_, sxl SX_, sxf SX_, b2, true_and, and_true, false_and, and_false, forall_eq, forall_eq', xi_wi, xr_wi, xt_wi, xl_wi, xn_wi, xs_wi, xi_wr, xr_wr, xt_wr, xl_wr, xn_wr, xs_wr, if_true, if_false, and_self, Int.reduceEq, Int.reduceLT, Int.reduceLE, Int.reduceNeg, Int.le_refl, Int.reduceMod]
  refine ⟨⟨by omega, by omega⟩, x_if (fun c3 => ?_) (fun c3 => ?_)⟩
  · have z := fin h (Fr_refl _ _ _) rfl (fun j j0 j1 => by by_cases e : j = a; (· rw [if_pos e, e, c3]); (· rw [if_neg e])) (by omega)
    exact ⟨Fr_refl _ _ _, z⟩
  · refine ⟨⟨by omega, by omega⟩, x_if (fun c4 => ?_) (fun c4 => ?_)⟩
    · have e1 : xw (h.i 4 1 + -1) = h.i 4 1 - 1 := by unfold xw; omega
      rw [e1]
      have F : Fr [5, 61] [(4, 1)] h ((h.wi 5 a b).wi 4 1 (h.i 4 1 - 1)) := Fr_slot (Fr_cell (Fr_refl _ _ _) _ _ (by decide)) _ (by decide)
      have z := fin _ F (by funext j; simp only [true_and, and_true, false_and, and_false, forall_eq, forall_eq', xi_wi, xr_wi, xt_wi, xl_wi, xn_wi, xs_wi, xi_wr, xr_wr, xt_wr, xl_wr, xn_wr, xs_wr, if_true, if_false, and_self, Int.reduceEq, Int.reduceLT, Int.reduceLE, Int.reduceNeg, Int.le_refl, Int.reduceMod]) (fun j j0 j1 => by simp only [true_and, and_true, false_and, and_false, forall_eq, forall_eq', xi_wi, xr_wi, xt_wi, xl_wi, xn_wi, xs_wi, xi_wr, xr_wr, xt_wr, xl_wr, xn_wr, xs_wr, if_true, if_false, and_self, Int.reduceEq, Int.reduceLT, Int.reduceLE, Int.reduceNeg, Int.le_refl, Int.reduceMod]) (by simp only [true_and, and_true, false_and, and_false, forall_eq, forall_eq', xi_wi, xr_wi, xt_wi, xl_wi, xn_wi, xs_wi, xi_wr, xr_wr, xt_wr, xl_wr, xn_wr, xs_wr, if_true, if_false, and_self, Int.reduceEq, Int.reduceLT, Int.reduceLE, Int.reduceNeg, Int.le_refl, Int.reduceMod]; omega)
      simp only [xi_wi, and_self, if_true] at z
      exact ⟨F, z⟩
    · have e1 : xw (h.i 4 1 + 1) = h.i 4 1 + 1 := by unfold xw; omega
      rw [e1]
      have F : Fr [5, 61] [(4, 1)] h ((h.wi 5 a b).wi 4 1 (h.i 4 1 + 1)) := Fr_slot (Fr_cell (Fr_refl _ _ _) _ _ (by decide)) _ (by decide)
      have z := fin _ F (by funext j; simp only [true_and, and_true, false_and, and_false, forall_eq, forall_eq', xi_wi, xr_wi, xt_wi, xl_wi, xn_wi, xs_wi, xi_wr, xr_wr, xt_wr, xl_wr, xn_wr, xs_wr, if_true, if_false, and_self, Int.reduceEq, Int.reduceLT, Int.reduceLE, Int.reduceNeg, Int.le_refl, Int.reduceMod]) (fun j j0 j1 => by simp only [true_and, and_true, false_and, and_false, forall_eq, forall_eq', xi_wi, xr_wi, xt_wi, xl_wi, xn_wi, xs_wi, xi_wr, xr_wr, xt_wr, xl_wr, xn_wr, xs_wr, if_true, if_false, and_self, Int.reduceEq, Int.reduceLT, Int.reduceLE, Int.reduceNeg, Int.le_refl, Int.reduceMod]) (by simp only [true_and, and_true, false_and, and_false, forall_eq, forall_eq', xi_wi, xr_wi, xt_wi, xl_wi, xn_wi, xs_wi, xi_wr, xr_wr, xt_wr, xl_wr, xn_wr, xs_wr, if_true, if_false, and_self, Int.reduceEq, Int.reduceLT, Int.reduceLE, Int.reduceNeg, Int.le_refl, Int.reduceMod]; omega)
      simp only [xi_wi, and_self, if_true] at z
      exact ⟨F, z⟩
theorem j_cut (n : Nat) (hn : n < 512) (a b : Int) (ha : xrg a) (hb : xrg b) : JJ INV n M_X_cut M_R_cut [(0, a), (0, b)] := by
  refine jj_fr [26, 96] [] (by decide) (fun h I => ?_)
  have S := I.2.1
  have SX_ := I.1
  have i4 := I.2.2.2.2.2.2.2.2.2.1
  have S0 := S
  apply L_X_cut
  refine ⟨(sxt SX_).1, by simp only [sxt SX_, sxl SX_, sxf SX_, true_and, and_true, false_and, and_false, forall_eq, forall_eq', xi_wi, xr_wi, xt_wi, xl_wi, xn_wi, xs_wi, xi_wr, xr_wr, xt_wr, xl_wr, xn_wr, xs_wr, if_true, if_false, and_self, Int.reduceEq, Int.reduceLT, Int.reduceLE, Int.reduceNeg, Int.le_refl, Int.reduceMod], ?_⟩
  simp only [sxt SX_, sxl SX_, sxf SX_, true_and, and_true, false_and, and_false, forall_eq, forall_eq', xi_wi, xr_wi, xt_wi, xl_wi, xn_wi, xs_wi, xi_wr, xr_wr, xt_wr, xl_wr, xn_wr, xs_wr, if_true, if_false, and_self, Int.reduceEq, Int.reduceLT, Int.reduceLE, Int.reduceNeg, Int.le_refl, Int.reduceMod]
  apply L_Metre_setCuts
  have out : ¬ (0 ≤ a ∧ a ≤ 7 ∧ 0 ≤ b ∧ b ≤ 255) → xCi 2046 M_R_cut [(1, 59), (0, a), (0, b)] h (fun r2 h2 => -2 = r2 ∧ Fr [26, 96] [] h h2 ∧ INV (n + 1) h2) := by
    intro c
    apply c_R_cut S0
    rw [if_neg (by omega)]
    first | exact ⟨rfl, Fr_refl _ _ _, INV_mono I⟩ | exact ⟨Fr_refl _ _ _, INV_mono I⟩
  refine x_if (fun c => ⟨Fr_refl _ _ _, out (by omega)⟩) (fun c => x_if (fun c2 => x_if (fun c3 => ⟨Fr_refl _ _ _, out (by omega)⟩) (fun c3 => x_if (fun c4 => ?_) (fun c4 => ⟨Fr_refl _ _ _, out (by omega)⟩))) (fun c2 => ⟨Fr_refl _ _ _, out (by omega)⟩))
  simp only [sxt SX_, sxl SX_, sxf SX_, true_and, and_true, false_and, and_false, forall_eq, forall_eq', xi_wi, xr_wi, xt_wi, xl_wi, xn_wi, xs_wi, xi_wr, xr_wr, xt_wr, xl_wr, xn_wr, xs_wr, if_true, if_false, and_self, Int.reduceEq, Int.reduceLT, Int.reduceLE, Int.reduceNeg, Int.le_refl, Int.reduceMod]
  refine ⟨⟨by omega, by omega⟩, ⟨by omega, by omega⟩, ?_⟩
  have F1 : Fr [26, 96] [] h (h.wi 26 a b) := Fr_cell (Fr_refl _ _ _) _ _ (by decide)
  refine ⟨F1, ?_⟩
  apply c_R_cut (SR_2 (h' := h.wi 26 a b) rfl S0)
  rw [if_pos (by omega)]
  have F : Fr [26, 96] [] h ((h.wi 26 a b).wi 96 a b) := Fr_cell F1 _ _ (by decide)
  have z := i4.1 a (by omega) (by omega)
  refine ⟨by simp only [true_and, and_true, false_and, and_false, forall_eq, forall_eq', xi_wi, xr_wi, xt_wi, xl_wi, xn_wi, xs_wi, xi_wr, xr_wr, xt_wr, xl_wr, xn_wr, xs_wr, if_true, if_false, and_self, Int.reduceEq, Int.reduceLT, Int.reduceLE, Int.reduceNeg, Int.le_refl, Int.reduceMod]; omega, F, INV_fr I F (by decide) (Or.inl (by decide)) (Or.inl (by decide)) (Or.inl (by decide)) (Or.inr ?_) (Or.inl (by decide)) (Or.inl (by decide)) (Or.inl (by decide)) (Or.inl (by decide)) (Or.inl (by decide)) (Or.inl (by decide)) (Or.inl (by decide)) (Or.inl (by decide)) (Or.inl (by decide)) (Or.inl (by decide)) (Or.inl (by decide))⟩
  obtain ⟨i41, i42, i43⟩ := i4
  refine ⟨fun k k0 k1 => ?_, fun k k0 k1 => ?_, fun k k0 k1 => ?_⟩
  · simp only [true_and, and_true, false_and, and_false, forall_eq, forall_eq', xi_wi, xr_wi, xt_wi, xl_wi, xn_wi, xs_wi, xi_wr, xr_wr, xt_wr, xl_wr, xn_wr, xs_wr, if_true, if_false, and_self, Int.reduceEq, Int.reduceLT, Int.reduceLE, Int.reduceNeg, Int.le_refl, Int.reduceMod]
    have y := i41 k k0 k1
    by_cases e : k = a
    · rw [if_pos e, if_pos e]; omega
    · rw [if_neg e, if_neg e]; exact y
  · simp only [true_and, and_true, false_and, and_false, forall_eq, forall_eq', xi_wi, xr_wi, xt_wi, xl_wi, xn_wi, xs_wi, xi_wr, xr_wr, xt_wr, xl_wr, xn_wr, xs_wr, if_true, if_false, and_self, Int.reduceEq, Int.reduceLT, Int.reduceLE, Int.reduceNeg, Int.le_refl, Int.reduceMod]
    exact i42 k k0 k1
  · simp only [true_and, and_true, false_and, and_false, forall_eq, forall_eq', xi_wi, xr_wi, xt_wi, xl_wi, xn_wi, xs_wi, xi_wr, xr_wr, xt_wr, xl_wr, xn_wr, xs_wr, if_true, if_false, and_self, Int.reduceEq, Int.reduceLT, Int.reduceLE, Int.reduceNeg, Int.le_refl, Int.reduceMod]
    exact i43 k k0 k1
theorem j_licence (n : Nat) (hn : n < 512) (a b : Int) (ha : xrg a) (hb : xrg b) : JJ INV n M_X_licence M_R_licence [(0, a), (0, b)] := by
  refine jj_fr [27, 97] [] (by decide) (fun h I => ?_)
  have S := I.2.1
  have SX_ := I.1
  have i4 := I.2.2.2.2.2.2.2.2.2.1
  have S0 := S
  apply L_X_licence
  refine ⟨(sxt SX_).1, by simp only [sxt SX_, sxl SX_, sxf SX_, true_and, and_true, false_and, and_false, forall_eq, forall_eq', xi_wi, xr_wi, xt_wi, xl_wi, xn_wi, xs_wi, xi_wr, xr_wr, xt_wr, xl_wr, xn_wr, xs_wr, if_true, if_false, and_self, Int.reduceEq, Int.reduceLT, Int.reduceLE, Int.reduceNeg, Int.le_refl, Int.reduceMod], ?_⟩
  simp only [sxt SX_, sxl SX_, sxf SX_, true_and, and_true, false_and, and_false, forall_eq, forall_eq', xi_wi, xr_wi, xt_wi, xl_wi, xn_wi, xs_wi, xi_wr, xr_wr, xt_wr, xl_wr, xn_wr, xs_wr, if_true, if_false, and_self, Int.reduceEq, Int.reduceLT, Int.reduceLE, Int.reduceNeg, Int.le_refl, Int.reduceMod]
  apply L_Metre_setPrice
  have out : ¬ (0 ≤ a ∧ a ≤ 4 ∧ -1 ≤ b ∧ b ≤ 50) → xCi 2046 M_R_licence [(1, 59), (0, a), (0, b)] h (fun r2 h2 => -2 = r2 ∧ Fr [27, 97] [] h h2 ∧ INV (n + 1) h2) := by
    intro c
    apply L_R_licence
    apply c_R_in
    by_cases c1 : 0 ≤ a ∧ a ≤ 4
    · rw [if_pos c1, if_neg (by decide)]
      refine c_R_in_f (by omega) ?_
      rw [if_pos rfl]
      first | exact ⟨rfl, Fr_refl _ _ _, INV_mono I⟩ | exact ⟨Fr_refl _ _ _, INV_mono I⟩
    · rw [if_neg c1, if_pos rfl]
      first | exact ⟨rfl, Fr_refl _ _ _, INV_mono I⟩ | exact ⟨Fr_refl _ _ _, INV_mono I⟩
  refine x_if (fun c => ⟨Fr_refl _ _ _, out (by omega)⟩) (fun c => x_if (fun c2 => x_if (fun c3 => ⟨Fr_refl _ _ _, out (by omega)⟩) (fun c3 => x_if (fun c4 => ⟨Fr_refl _ _ _, out (by omega)⟩) (fun c4 => ?_))) (fun c2 => ⟨Fr_refl _ _ _, out (by omega)⟩))
  simp only [sxt SX_, sxl SX_, sxf SX_, true_and, and_true, false_and, and_false, forall_eq, forall_eq', xi_wi, xr_wi, xt_wi, xl_wi, xn_wi, xs_wi, xi_wr, xr_wr, xt_wr, xl_wr, xn_wr, xs_wr, if_true, if_false, and_self, Int.reduceEq, Int.reduceLT, Int.reduceLE, Int.reduceNeg, Int.le_refl, Int.reduceMod]
  refine ⟨⟨by omega, by omega⟩, ⟨by omega, by omega⟩, ?_⟩
  have F1 : Fr [27, 97] [] h (h.wi 27 a b) := Fr_cell (Fr_refl _ _ _) _ _ (by decide)
  refine ⟨F1, ?_⟩
  apply L_R_licence
  refine c_R_in_t (by omega) ?_
  rw [if_neg (by decide)]
  refine c_R_in_t (by omega) ?_
  rw [if_neg (by decide)]
  simp only [srt S, srl S, srf S, true_and, and_true, false_and, and_false, forall_eq, forall_eq', xi_wi, xr_wi, xt_wi, xl_wi, xn_wi, xs_wi, xi_wr, xr_wr, xt_wr, xl_wr, xn_wr, xs_wr, if_true, if_false, and_self, Int.reduceEq, Int.reduceLT, Int.reduceLE, Int.reduceNeg, Int.le_refl, Int.reduceMod]
  refine ⟨⟨by omega, by omega⟩, ⟨by omega, by omega⟩, ?_⟩
  have F : Fr [27, 97] [] h ((h.wi 27 a b).wi 97 a b) := Fr_cell F1 _ _ (by decide)
  have z := i4.2.2 a (by omega) (by omega)
  refine ⟨by omega, F, INV_fr I F (by decide) (Or.inl (by decide)) (Or.inl (by decide)) (Or.inl (by decide)) (Or.inr ?_) (Or.inl (by decide)) (Or.inl (by decide)) (Or.inl (by decide)) (Or.inl (by decide)) (Or.inl (by decide)) (Or.inl (by decide)) (Or.inl (by decide)) (Or.inl (by decide)) (Or.inl (by decide)) (Or.inl (by decide)) (Or.inl (by decide))⟩
  obtain ⟨i41, i42, i43⟩ := i4
  refine ⟨fun k k0 k1 => ?_, fun k k0 k1 => ?_, fun k k0 k1 => ?_⟩
  · simp only [true_and, and_true, false_and, and_false, forall_eq, forall_eq', xi_wi, xr_wi, xt_wi, xl_wi, xn_wi, xs_wi, xi_wr, xr_wr, xt_wr, xl_wr, xn_wr, xs_wr, if_true, if_false, and_self, Int.reduceEq, Int.reduceLT, Int.reduceLE, Int.reduceNeg, Int.le_refl, Int.reduceMod]
    exact i41 k k0 k1
  · simp only [true_and, and_true, false_and, and_false, forall_eq, forall_eq', xi_wi, xr_wi, xt_wi, xl_wi, xn_wi, xs_wi, xi_wr, xr_wr, xt_wr, xl_wr, xn_wr, xs_wr, if_true, if_false, and_self, Int.reduceEq, Int.reduceLT, Int.reduceLE, Int.reduceNeg, Int.le_refl, Int.reduceMod]
    exact i42 k k0 k1
  · simp only [true_and, and_true, false_and, and_false, forall_eq, forall_eq', xi_wi, xr_wi, xt_wi, xl_wi, xn_wi, xs_wi, xi_wr, xr_wr, xt_wr, xl_wr, xn_wr, xs_wr, if_true, if_false, and_self, Int.reduceEq, Int.reduceLT, Int.reduceLE, Int.reduceNeg, Int.le_refl, Int.reduceMod]
    have y := i43 k k0 k1
    by_cases e : k = a
    · rw [if_pos e, if_pos e]; omega
    · rw [if_neg e, if_neg e]; exact y
theorem j_form (n : Nat) (hn : n < 512) (a b c : Int) (ha : xrg a) (hb : xrg b) (hc : xrg c) : JJ INV n M_X_form M_R_form [(0, a), (0, b), (0, c)] := by
  refine jj_fr [24, 25, 94, 95] [] (by decide) (fun h I => ?_)
  have S := I.2.1
  have SX_ := I.1
  have i4 := I.2.2.2.2.2.2.2.2.2.1
  have S0 := S
  apply L_X_form
  refine ⟨(sxt SX_).1, by simp only [sxt SX_, sxl SX_, sxf SX_, true_and, and_true, false_and, and_false, forall_eq, forall_eq', xi_wi, xr_wi, xt_wi, xl_wi, xn_wi, xs_wi, xi_wr, xr_wr, xt_wr, xl_wr, xn_wr, xs_wr, if_true, if_false, and_self, Int.reduceEq, Int.reduceLT, Int.reduceLE, Int.reduceNeg, Int.le_refl, Int.reduceMod], ?_⟩
  simp only [sxt SX_, sxl SX_, sxf SX_, true_and, and_true, false_and, and_false, forall_eq, forall_eq', xi_wi, xr_wi, xt_wi, xl_wi, xn_wi, xs_wi, xi_wr, xr_wr, xt_wr, xl_wr, xn_wr, xs_wr, if_true, if_false, and_self, Int.reduceEq, Int.reduceLT, Int.reduceLE, Int.reduceNeg, Int.le_refl, Int.reduceMod]
  apply L_Metre_setPosition
  have out : ¬ (0 ≤ a ∧ a ≤ 7 ∧ 0 ≤ b ∧ b ≤ 7 ∧ b ≤ h.i 95 a ∧ 1 ≤ c ∧ c ≤ 4095) → xCi 2046 M_R_form [(1, 59), (0, a), (0, b), (0, c)] h (fun r2 h2 => -2 = r2 ∧ Fr [24, 25, 94, 95] [] h h2 ∧ INV (n + 1) h2) := by
    intro d1
    apply L_R_form
    apply c_R_in
    by_cases c1 : 0 ≤ a ∧ a ≤ 7
    · rw [if_pos c1, if_neg (by decide)]
      apply c_R_in
      by_cases c2 : 0 ≤ b ∧ b ≤ 7
      · rw [if_pos c2, if_neg (by decide)]
        simp only [srt S, srl S, srf S, true_and, and_true, false_and, and_false, forall_eq, forall_eq', xi_wi, xr_wi, xt_wi, xl_wi, xn_wi, xs_wi, xi_wr, xr_wr, xt_wr, xl_wr, xn_wr, xs_wr, if_true, if_false, and_self, Int.reduceEq, Int.reduceLT, Int.reduceLE, Int.reduceNeg, Int.le_refl, Int.reduceMod]
        refine ⟨⟨by omega, by omega⟩, x_if (fun c3 => by first | exact ⟨rfl, Fr_refl _ _ _, INV_mono I⟩ | exact ⟨Fr_refl _ _ _, INV_mono I⟩) (fun c3 => ?_)⟩
        refine c_R_in_f (by omega) ?_
        rw [if_pos rfl]
        first | exact ⟨rfl, Fr_refl _ _ _, INV_mono I⟩ | exact ⟨Fr_refl _ _ _, INV_mono I⟩
      · rw [if_neg c2, if_pos rfl]
        first | exact ⟨rfl, Fr_refl _ _ _, INV_mono I⟩ | exact ⟨Fr_refl _ _ _, INV_mono I⟩
    · rw [if_neg c1, if_pos rfl]
      first | exact ⟨rfl, Fr_refl _ _ _, INV_mono I⟩ | exact ⟨Fr_refl _ _ _, INV_mono I⟩
  refine x_if (fun c1 => ⟨Fr_refl _ _ _, out (by omega)⟩) (fun c1 => x_if (fun c2 => x_if (fun c3 => ⟨Fr_refl _ _ _, out (by omega)⟩) (fun c3 => x_if (fun c4 => ?_) (fun c4 => ⟨Fr_refl _ _ _, out (by omega)⟩))) (fun c2 => ⟨Fr_refl _ _ _, out (by omega)⟩))
  have z := i4.1 a (by omega) (by omega)
  simp only [sxt SX_, sxl SX_, sxf SX_, true_and, and_true, false_and, and_false, forall_eq, forall_eq', xi_wi, xr_wi, xt_wi, xl_wi, xn_wi, xs_wi, xi_wr, xr_wr, xt_wr, xl_wr, xn_wr, xs_wr, if_true, if_false, and_self, Int.reduceEq, Int.reduceLT, Int.reduceLE, Int.reduceNeg, Int.le_refl, Int.reduceMod]
  refine ⟨⟨by omega, by omega⟩, x_if (fun c5 => ⟨Fr_refl _ _ _, out (by omega)⟩) (fun c5 => x_if (fun c6 => ⟨Fr_refl _ _ _, out (by omega)⟩) (fun c6 => x_if (fun c7 => ?_) (fun c7 => ⟨Fr_refl _ _ _, out (by omega)⟩)))⟩
  have e1 : xw (xw (a * 8) + b) = 8 * a + b := by unfold xw; omega
  have e2 : xw (xw (8 * a) + b) = 8 * a + b := by unfold xw; omega
  have e3 : xw (b + 1) = b + 1 := by unfold xw; omega
  have e4 : xw (h.i 95 a + 1) = h.i 95 a + 1 := by unfold xw; omega
  rw [e1, e3]
  refine ⟨⟨by omega, by omega⟩, ⟨by omega, by omega⟩, ⟨by omega, by omega⟩, ⟨by omega, by omega⟩, ?_⟩
  have F1 : ∀ v, Fr [24, 25, 94, 95] [] h ((h.wi 24 (8 * a + b) c).wi 25 a v) := fun v => Fr_cell (Fr_cell (Fr_refl _ _ _) _ _ (by decide)) _ _ (by decide)
  refine ⟨F1 _, ?_⟩
  apply L_R_form
  refine c_R_in_t (by omega) ?_
  rw [if_neg (by decide)]
  refine c_R_in_t (by omega) ?_
  rw [if_neg (by decide)]
  simp only [srt S, srl S, srf S, true_and, and_true, false_and, and_false, forall_eq, forall_eq', xi_wi, xr_wi, xt_wi, xl_wi, xn_wi, xs_wi, xi_wr, xr_wr, xt_wr, xl_wr, xn_wr, xs_wr, if_true, if_false, and_self, Int.reduceEq, Int.reduceLT, Int.reduceLE, Int.reduceNeg, Int.le_refl, Int.reduceMod]
  refine ⟨⟨by omega, by omega⟩, ?_⟩
  rw [if_neg (by omega)]
  refine c_R_in_t (by omega) ?_
  rw [if_neg (by decide)]
  rw [e2]
  simp only [srt S, srl S, srf S, true_and, and_true, false_and, and_false, forall_eq, forall_eq', xi_wi, xr_wi, xt_wi, xl_wi, xn_wi, xs_wi, xi_wr, xr_wr, xt_wr, xl_wr, xn_wr, xs_wr, if_true, if_false, and_self, Int.reduceEq, Int.reduceLT, Int.reduceLE, Int.reduceNeg, Int.le_refl, Int.reduceMod]
  refine ⟨⟨by omega, by omega⟩, ⟨by omega, by omega⟩, ?_⟩
  obtain ⟨i41, i42, i43⟩ := i4
  have fin : ∀ h2 : xH, Fr [24, 25, 94, 95] [] h h2 → (∀ k, h2.i 24 k = if k = 8 * a + b then c else h.i 24 k) → (∀ k, h2.i 25 k = if k = a then (if h.i 25 a < b + 1 then b + 1 else h.i 25 a) else h.i 25 k) → (∀ k, h2.i 94 k = if k = 8 * a + b then c else h.i 94 k) → (∀ k, h2.i 95 k = if k = a then (if h.i 25 a < b + 1 then b + 1 else h.i 25 a) else h.i 95 k) → Fr [24, 25, 94, 95] [] h h2 ∧ INV (n + 1) h2 := by
    intro h2 F q1 q2 q3 q4
    have q5 : h2.i 26 = h.i 26 := Fr_row F (by decide) (by decide)
    have q6 : h2.i 27 = h.i 27 := Fr_row F (by decide) (by decide)
    have q7 : h2.i 96 = h.i 96 := Fr_row F (by decide) (by decide)
    have q8 : h2.i 97 = h.i 97 := Fr_row F (by decide) (by decide)
    refine ⟨F, INV_fr I F (by decide) (Or.inl (by decide)) (Or.inl (by decide)) (Or.inl (by decide)) (Or.inr ?_) (Or.inl (by decide)) (Or.inl (by decide)) (Or.inl (by decide)) (Or.inl (by decide)) (Or.inl (by decide)) (Or.inl (by decide)) (Or.inl (by decide)) (Or.inl (by decide)) (Or.inl (by decide)) (Or.inl (by decide)) (Or.inl (by decide))⟩
    refine ⟨fun k k0 k1 => ?_, fun k k0 k1 => ?_, fun k k0 k1 => ?_⟩
    · rw [q2, q4, q5, q7]
      have y := i41 k k0 k1
      by_cases e : k = a
      · rw [if_pos e, if_pos e]
        subst e
        refine ⟨rfl, ?_, ?_, y.2.2.2⟩ <;> split <;> omega
      · rw [if_neg e, if_neg e]; exact y
    · rw [q1, q3]
      by_cases e : k = 8 * a + b
      · rw [if_pos e, if_pos e]; omega
      · rw [if_neg e, if_neg e]; exact i42 k k0 k1
    · rw [q6, q8]; exact i43 k k0 k1
  refine x_if (fun c8 => ?_) (fun c8 => ?_)
  · refine ⟨⟨by omega, by omega⟩, ⟨by omega, by omega⟩, ⟨by omega, by omega⟩, ?_, ?_⟩
    · rw [if_pos (by omega), e4]; omega
    · refine fin _ (Fr_cell (Fr_cell (F1 _) _ _ (by decide)) _ _ (by decide)) (fun k => ?_) (fun k => ?_) (fun k => ?_) (fun k => ?_) <;> simp only [true_and, and_true, false_and, and_false, forall_eq, forall_eq', xi_wi, xr_wi, xt_wi, xl_wi, xn_wi, xs_wi, xi_wr, xr_wr, xt_wr, xl_wr, xn_wr, xs_wr, if_true, if_false, and_self, Int.reduceEq, Int.reduceLT, Int.reduceLE, Int.reduceNeg, Int.le_refl, Int.reduceMod]
      by_cases e : k = a
      · rw [if_pos e, if_pos e, if_pos (by omega), e4]; omega
      · rw [if_neg e, if_neg e]
  · refine ⟨⟨by omega, by omega⟩, ?_, ?_⟩
    · rw [if_neg (by omega)]; omega
    · refine fin _ (Fr_cell (F1 _) _ _ (by decide)) (fun k => ?_) (fun k => ?_) (fun k => ?_) (fun k => ?_) <;> simp only [true_and, and_true, false_and, and_false, forall_eq, forall_eq', xi_wi, xr_wi, xt_wi, xl_wi, xn_wi, xs_wi, xi_wr, xr_wr, xt_wr, xl_wr, xn_wr, xs_wr, if_true, if_false, and_self, Int.reduceEq, Int.reduceLT, Int.reduceLE, Int.reduceNeg, Int.le_refl, Int.reduceMod]
      by_cases e : k = a
      · rw [if_pos e, if_neg (by omega), e]; omega
      · rw [if_neg e]
theorem j_fault (n : Nat) (hn : n < 512) (a : Int) (ha : xrg a) : JJ INV n M_X_fault M_R_fault [(0, a)] := by
  refine jj_fr [] [] (by decide) (fun h I => ?_)
  have S := I.2.1
  have SX_ := I.1
  have i6 := I.2.2.2.2.2.2.2.2.2.2.2.1
  apply L_X_fault
  refine x_if (fun c => ?_) (fun c => x_if (fun c2 => ?_) (fun c2 => ?_))
  · simp only [sxt SX_, sxl SX_, sxf SX_, true_and, and_true, false_and, and_false, forall_eq, forall_eq', xi_wi, xr_wi, xt_wi, xl_wi, xn_wi, xs_wi, xi_wr, xr_wr, xt_wr, xl_wr, xn_wr, xs_wr, if_true, if_false, and_self, Int.reduceEq, Int.reduceLT, Int.reduceLE, Int.reduceNeg, Int.le_refl, Int.reduceMod]
    apply L_LineReader_faultSort
    simp only [sxt SX_, sxl SX_, sxf SX_, true_and, and_true, false_and, and_false, forall_eq, forall_eq', xi_wi, xr_wi, xt_wi, xl_wi, xn_wi, xs_wi, xi_wr, xr_wr, xt_wr, xl_wr, xn_wr, xs_wr, if_true, if_false, and_self, Int.reduceEq, Int.reduceLT, Int.reduceLE, Int.reduceNeg, Int.le_refl, Int.reduceMod]
    refine ⟨Fr_refl _ _ _, ?_⟩
    apply L_R_fault
    rw [if_pos c]
    exact ⟨(srt S).1, i6.1, Fr_refl _ _ _, INV_mono I⟩
  · simp only [sxt SX_, sxl SX_, sxf SX_, true_and, and_true, false_and, and_false, forall_eq, forall_eq', xi_wi, xr_wi, xt_wi, xl_wi, xn_wi, xs_wi, xi_wr, xr_wr, xt_wr, xl_wr, xn_wr, xs_wr, if_true, if_false, and_self, Int.reduceEq, Int.reduceLT, Int.reduceLE, Int.reduceNeg, Int.le_refl, Int.reduceMod]
    apply L_LineReader_faultPlace
    simp only [sxt SX_, sxl SX_, sxf SX_, true_and, and_true, false_and, and_false, forall_eq, forall_eq', xi_wi, xr_wi, xt_wi, xl_wi, xn_wi, xs_wi, xi_wr, xr_wr, xt_wr, xl_wr, xn_wr, xs_wr, if_true, if_false, and_self, Int.reduceEq, Int.reduceLT, Int.reduceLE, Int.reduceNeg, Int.le_refl, Int.reduceMod]
    refine ⟨Fr_refl _ _ _, ?_⟩
    apply L_R_fault
    rw [if_neg c, if_pos c2]
    exact ⟨(srt S).1, i6.2, Fr_refl _ _ _, INV_mono I⟩
  · refine ⟨Fr_refl _ _ _, ?_⟩
    apply L_R_fault
    rw [if_neg c, if_neg c2]
    first | exact ⟨rfl, Fr_refl _ _ _, INV_mono I⟩ | exact ⟨Fr_refl _ _ _, INV_mono I⟩
theorem j_tell (n : Nat) (hn : n < 512) (a1 a2 a3 a4 a5 a6 : Int) (h1 : xrg a1) (h2 : xrg a2) (h3 : xrg a3) (h4 : xrg a4) (h5 : xrg a5) (h6 : xrg a6) : JJ INV n M_X_tell M_R_tell [(0, a1), (0, a2), (0, a3), (0, a4), (0, a5), (0, a6)] := by
  refine jj_fr [57, 112] [(2, 12), (59, 64)] (by decide) (fun h I => ?_)
  have S := I.2.1
  have SX_ := I.1
  have i5 := I.2.2.2.2.2.2.2.2.2.2.1
  obtain ⟨j1, j2, j3, j4⟩ := i5
  apply L_X_tell
  refine ⟨(sxt SX_).1, x_if (fun c => ?_) (fun c => ?_)⟩
  · have e0 : xw (h.i 2 12 * 6) = 6 * h.i 59 64 := by unfold xw; omega
    have e00 : xw (6 * h.i 59 64) = 6 * h.i 59 64 := by unfold xw; omega
    have ee : ∀ k : Int, 0 ≤ k → k ≤ 5 → xw (6 * h.i 59 64 + k) = 6 * h.i 59 64 + k := by intro k k0 k1; unfold xw; omega
    have e1 := ee 1 (by omega) (by omega)
    have e2 := ee 2 (by omega) (by omega)
    have e3 := ee 3 (by omega) (by omega)
    have e4 := ee 4 (by omega) (by omega)
    have e5 := ee 5 (by omega) (by omega)
    have e6 : xw (h.i 2 12 + 1) = h.i 59 64 + 1 := by unfold xw; omega
    have e7 : xw (h.i 59 64 + 1) = h.i 59 64 + 1 := by unfold xw; omega
    rw [e0]
    simp only [sxt SX_, sxl SX_, sxf SX_, e1, e2, e3, e4, e5, e6, true_and, and_true, false_and, and_false, forall_eq, forall_eq', xi_wi, xr_wi, xt_wi, xl_wi, xn_wi, xs_wi, xi_wr, xr_wr, xt_wr, xl_wr, xn_wr, xs_wr, if_true, if_false, and_self, Int.reduceEq, Int.reduceLT, Int.reduceLE, Int.reduceNeg, Int.le_refl, Int.reduceMod]
    refine ⟨⟨by omega, by omega⟩, ⟨by omega, by omega⟩, ⟨by omega, by omega⟩, ⟨by omega, by omega⟩, ⟨by omega, by omega⟩, ⟨by omega, by omega⟩, ?_, ?_⟩
    · exact Fr_slot (Fr_cell (Fr_cell (Fr_cell (Fr_cell (Fr_cell (Fr_cell (Fr_refl _ _ _) _ _ (by decide)) _ _ (by decide)) _ _ (by decide)) _ _ (by decide)) _ _ (by decide)) _ _ (by decide)) _ (by decide)
    · apply L_R_tell
      simp only [srt S, srl S, srf S, true_and, and_true, false_and, and_false, forall_eq, forall_eq', xi_wi, xr_wi, xt_wi, xl_wi, xn_wi, xs_wi, xi_wr, xr_wr, xt_wr, xl_wr, xn_wr, xs_wr, if_true, if_false, and_self, Int.reduceEq, Int.reduceLT, Int.reduceLE, Int.reduceNeg, Int.le_refl, Int.reduceMod]
      rw [if_neg (by omega), e00]
      simp only [srt S, srl S, srf S, e1, e2, e3, e4, e5, e7, true_and, and_true, false_and, and_false, forall_eq, forall_eq', xi_wi, xr_wi, xt_wi, xl_wi, xn_wi, xs_wi, xi_wr, xr_wr, xt_wr, xl_wr, xn_wr, xs_wr, if_true, if_false, and_self, Int.reduceEq, Int.reduceLT, Int.reduceLE, Int.reduceNeg, Int.le_refl, Int.reduceMod]
      refine ⟨⟨by omega, by omega⟩, ⟨by omega, by omega⟩, ⟨by omega, by omega⟩, ⟨by omega, by omega⟩, ⟨by omega, by omega⟩, ⟨by omega, by omega⟩, ?_⟩
      have F : Fr [57, 112] [(2, 12), (59, 64)] h ((((((((((((((h.wi 57 (6 * h.i 59 64) a1).wi 57 (6 * h.i 59 64 + 1) a2).wi 57 (6 * h.i 59 64 + 2) a3).wi 57 (6 * h.i 59 64 + 3) a4).wi 57 (6 * h.i 59 64 + 4) a5).wi 57 (6 * h.i 59 64 + 5) a6).wi 2 12 (h.i 59 64 + 1)).wi 112 (6 * h.i 59 64) a1).wi 112 (6 * h.i 59 64 + 1) a2).wi 112 (6 * h.i 59 64 + 2) a3).wi 112 (6 * h.i 59 64 + 3) a4).wi 112 (6 * h.i 59 64 + 4) a5).wi 112 (6 * h.i 59 64 + 5) a6).wi 59 64 (h.i 59 64 + 1)) := Fr_slot (Fr_cell (Fr_cell (Fr_cell (Fr_cell (Fr_cell (Fr_cell (Fr_slot (Fr_cell (Fr_cell (Fr_cell (Fr_cell (Fr_cell (Fr_cell (Fr_refl _ _ _) _ _ (by decide)) _ _ (by decide)) _ _ (by decide)) _ _ (by decide)) _ _ (by decide)) _ _ (by decide)) _ (by decide)) _ _ (by decide)) _ _ (by decide)) _ _ (by decide)) _ _ (by decide)) _ _ (by decide)) _ _ (by decide)) _ (by decide)
      first | refine ⟨F, INV_fr I F (by decide) (Or.inl (by decide)) (Or.inl (by decide)) (Or.inl (by decide)) (Or.inl (by decide)) (Or.inr ?_) (Or.inl (by decide)) (Or.inl (by decide)) (Or.inl (by decide)) (Or.inl (by decide)) (Or.inl (by decide)) (Or.inl (by decide)) (Or.inl (by decide)) (Or.inl (by decide)) (Or.inl (by decide)) (Or.inl (by decide))⟩ | refine ⟨rfl, F, INV_fr I F (by decide) (Or.inl (by decide)) (Or.inl (by decide)) (Or.inl (by decide)) (Or.inl (by decide)) (Or.inr ?_) (Or.inl (by decide)) (Or.inl (by decide)) (Or.inl (by decide)) (Or.inl (by decide)) (Or.inl (by decide)) (Or.inl (by decide)) (Or.inl (by decide)) (Or.inl (by decide)) (Or.inl (by decide)) (Or.inl (by decide))⟩
      unfold I_told
      simp only [true_and, and_true, false_and, and_false, forall_eq, forall_eq', xi_wi, xr_wi, xt_wi, xl_wi, xn_wi, xs_wi, xi_wr, xr_wr, xt_wr, xl_wr, xn_wr, xs_wr, if_true, if_false, and_self, Int.reduceEq, Int.reduceLT, Int.reduceLE, Int.reduceNeg, Int.le_refl, Int.reduceMod]
      refine ⟨by omega, by omega, fun k k0 k1 => ?_⟩
      by_cases z : k < 6 * h.i 59 64
      · rw [if_neg (by omega), if_neg (by omega), if_neg (by omega), if_neg (by omega), if_neg (by omega), if_neg (by omega), if_neg (by omega), if_neg (by omega), if_neg (by omega), if_neg (by omega), if_neg (by omega), if_neg (by omega)]
        exact j4 k k0 z
      · repeat' split
        all_goals first | rfl | omega
  · refine ⟨Fr_refl _ _ _, ?_⟩
    apply L_R_tell
    simp only [srt S, srl S, srf S, true_and, and_true, false_and, and_false, forall_eq, forall_eq', xi_wi, xr_wi, xt_wi, xl_wi, xn_wi, xs_wi, xi_wr, xr_wr, xt_wr, xl_wr, xn_wr, xs_wr, if_true, if_false, and_self, Int.reduceEq, Int.reduceLT, Int.reduceLE, Int.reduceNeg, Int.le_refl, Int.reduceMod]
    rw [if_pos (by omega)]
    first | exact ⟨rfl, Fr_refl _ _ _, INV_mono I⟩ | exact ⟨Fr_refl _ _ _, INV_mono I⟩
