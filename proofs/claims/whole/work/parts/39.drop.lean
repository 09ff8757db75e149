/-! drop -/
def D_rv : List Int := [77, 78, 79, 80, 81, 82, 83, 84, 85, 86, 87, 88]
theorem RV_fa2 {l lR : List Int} {l2 lr : List (Int × Int)} {h h' : xH} (F : FA l l2 lR lr h h') (hn : 130 ≤ h.nx) (ht : I_tab h) (d : dis D_rv [] l2 l = true) (k : Int) : RV h' k = RV h k := by
  have r1 := dis_row d F hn ht (c := 77) (by decide)
  have r2 := dis_row d F hn ht (c := 78) (by decide)
  have r3 := dis_row d F hn ht (c := 79) (by decide)
  have r4 := dis_row d F hn ht (c := 80) (by decide)
  have r5 := dis_row d F hn ht (c := 81) (by decide)
  have r6 := dis_row d F hn ht (c := 82) (by decide)
  have r7 := dis_row d F hn ht (c := 83) (by decide)
  have r8 := dis_row d F hn ht (c := 84) (by decide)
  have r9 := dis_row d F hn ht (c := 85) (by decide)
  have r10 := dis_row d F hn ht (c := 86) (by decide)
  have r11 := dis_row d F hn ht (c := 87) (by decide)
  have r12 := dis_row d F hn ht (c := 88) (by decide)
  funext f j
  unfold RV
  rw [r1, r2, r3, r4, r5, r6, r7, r8, r9, r10, r11, r12]
theorem noal {n : Nat} {h h' : xH} (I : INV n h) (et : h'.tag = h.tag) (el : h'.len = h.len) (en : h'.nx = h.nx) (eu : h'.us = h.us) (e1 : h'.r 28 6 = h.r 28 6) (e2 : h'.r 40 3 = h.r 40 3) : Tok h h' ∧ I_tab h' ∧ I_room (n + 1) h' := by
  refine ⟨⟨Or.inl e1, Or.inl e2⟩, ?_, ?_⟩
  · have z := I.2.2.2.1
    unfold I_tab at z ⊢
    rw [e1]; exact z
  · have z := (INV_mono I).2.2.2.2.2.1
    unfold I_room at z ⊢
    rw [en, eu, e1, e2, el, et]; exact z
theorem SCk_of {h h' : xH} (et : h'.tag = h.tag) (el : h'.len = h.len) (e1 : h'.i 1 = h.i 1) (S : SR h) : SCk h h' := ⟨by rw [et], by rw [el], e1, by rw [et]; exact (srt S).1⟩
theorem j_drop (n : Nat) (hn : n < 512) (a : Int) (ha : xrg a) : JJ INV n M_X_drop M_R_drop [(0, a)] := by
  refine jj_fa (fun h I => ?_)
  have S := I.2.1
  have SX_ := I.1
  have i12 := I.2.2.2.2.2.2.2.2.2.2.2.2.2.2.2.2.2.1
  have same : SCk h h := ⟨rfl, rfl, rfl, (srt S).1⟩
  by_cases c : 0 ≤ a ∧ a ≤ 11
  · rcases i12.2 a c.1 (by omega) with z | z
    · apply L_X_drop
      simp only [sxt SX_, sxl SX_, sxf SX_, true_and, and_true, false_and, and_false, forall_eq, forall_eq', xi_wi, xr_wi, xt_wi, xl_wi, xn_wi, xs_wi, xi_wr, xr_wr, xt_wr, xl_wr, xn_wr, xs_wr, if_true, if_false, and_self, Int.reduceEq, Int.reduceLT, Int.reduceLE, Int.reduceNeg, Int.le_refl, Int.reduceMod]
      apply L_Poem_dropLine
      rw [if_neg (by omega), if_pos (by omega)]
      simp only [sxt SX_, sxl SX_, sxf SX_, z.1, true_and, and_true, false_and, and_false, forall_eq, forall_eq', xi_wi, xr_wi, xt_wi, xl_wi, xn_wi, xs_wi, xi_wr, xr_wr, xt_wr, xl_wr, xn_wr, xs_wr, if_true, if_false, and_self, Int.reduceEq, Int.reduceLT, Int.reduceLE, Int.reduceNeg, Int.le_refl, Int.reduceMod]
      refine ⟨⟨c.1, by omega⟩, same, ?_⟩
      apply L_R_drop
      refine c_R_in_t c ?_
      rw [if_neg (by decide), xw_id (by omega) (by omega)]
      simp only [srt S, srl S, srf S, z.2, true_and, and_true, false_and, and_false, forall_eq, forall_eq', xi_wi, xr_wi, xt_wi, xl_wi, xn_wi, xs_wi, xi_wr, xr_wr, xt_wr, xl_wr, xn_wr, xs_wr, if_true, if_false, and_self, Int.reduceEq, Int.reduceLT, Int.reduceLE, Int.reduceNeg, Int.le_refl, Int.reduceMod]
      refine ⟨⟨by omega, by omega⟩, ?_⟩
      first | exact ⟨rfl, same, INV_mono I⟩ | exact ⟨same, INV_mono I⟩
    · have bits := line_bits I
      have sm := sumN_bits (f := fun k => h.i 76 (k + 1)) 12 bits
      have su := sumN_upd (f := fun k => h.i 76 (k + 1)) (a := a) (v := 0) 12
      rw [if_pos (by omega)] at su
      have i0 := i12.1
      have s1 : 1 ≤ sumN (fun k => h.i 76 (k + 1)) 12 := by
        have q := sumN_bits (f := fun j => if j = a then 0 else h.i 76 (j + 1)) 12 (fun k k0 k1 => by
          show 0 ≤ (if k = a then 0 else h.i 76 (k + 1)) ∧ (if k = a then 0 else h.i 76 (k + 1)) ≤ 1
          split
          · decide
          · exact bits k k0 k1)
        rw [su, z.2.1] at q
        omega
      rw [z.2.1] at su
      apply L_X_drop
      simp only [sxt SX_, sxl SX_, sxf SX_, true_and, and_true, false_and, and_false, forall_eq, forall_eq', xi_wi, xr_wi, xt_wi, xl_wi, xn_wi, xs_wi, xi_wr, xr_wr, xt_wr, xl_wr, xn_wr, xs_wr, if_true, if_false, and_self, Int.reduceEq, Int.reduceLT, Int.reduceLE, Int.reduceNeg, Int.le_refl, Int.reduceMod]
      apply L_Poem_dropLine
      rw [if_neg (by omega), if_pos (by omega)]
      simp only [sxt SX_, sxl SX_, sxf SX_, z.1, true_and, and_true, false_and, and_false, forall_eq, forall_eq', xi_wi, xr_wi, xt_wi, xl_wi, xn_wi, xs_wi, xi_wr, xr_wr, xt_wr, xl_wr, xn_wr, xs_wr, if_true, if_false, and_self, Int.reduceEq, Int.reduceLT, Int.reduceLE, Int.reduceNeg, Int.le_refl, Int.reduceMod]
      refine ⟨⟨c.1, by omega⟩, ⟨c.1, by omega⟩, ?_⟩
      rw [xw_id (by omega) (by omega), i0]
      refine ⟨SCk_of rfl rfl (by funext j; simp only [true_and, and_true, false_and, and_false, forall_eq, forall_eq', xi_wi, xr_wi, xt_wi, xl_wi, xn_wi, xs_wi, xi_wr, xr_wr, xt_wr, xl_wr, xn_wr, xs_wr, if_true, if_false, and_self, Int.reduceEq, Int.reduceLT, Int.reduceLE, Int.reduceNeg, Int.le_refl, Int.reduceMod]) S, ?_⟩
      have S1 : SR ((h.wr 49 a 0).wi 48 4 (sumN (fun k => h.i 76 (k + 1)) 12 - 1)) := SR_2 (h := h.wr 49 a 0) rfl (SR_wr (by decide) S)
      have X1 : SX ((h.wr 49 a 0).wi 48 4 (sumN (fun k => h.i 76 (k + 1)) 12 - 1)) := SX_2 (h := h.wr 49 a 0) rfl (SX_wr49 SX_)
      have S0 := S
      have S := S1
      apply L_R_drop
      refine c_R_in_t c ?_
      rw [if_neg (by decide), xw_id (by omega) (by omega)]
      simp only [srt S, srl S, srf S, z.2.1, true_and, and_true, false_and, and_false, forall_eq, forall_eq', xi_wi, xr_wi, xt_wi, xl_wi, xn_wi, xs_wi, xi_wr, xr_wr, xt_wr, xl_wr, xn_wr, xs_wr, if_true, if_false, and_self, Int.reduceEq, Int.reduceLT, Int.reduceLE, Int.reduceNeg, Int.le_refl, Int.reduceMod]
      refine ⟨⟨by omega, by omega⟩, ⟨by omega, by omega⟩, ?_⟩
      have rowL : ∀ k, (((h.wr 49 a 0).wi 48 4 (sumN (fun k => h.i 76 (k + 1)) 12 - 1)).wi 76 (a + 1) 0).i 76 (k + 1) = if k = a then 0 else h.i 76 (k + 1) := by
        intro k
        simp only [true_and, and_true, false_and, and_false, forall_eq, forall_eq', xi_wi, xr_wi, xt_wi, xl_wi, xn_wi, xs_wi, xi_wr, xr_wr, xt_wr, xl_wr, xn_wr, xs_wr, if_true, if_false, and_self, Int.reduceEq, Int.reduceLT, Int.reduceLE, Int.reduceNeg, Int.le_refl, Int.reduceMod]
        by_cases q : k = a
        · rw [if_pos q, if_pos (by omega)]
        · rw [if_neg q, if_neg (by omega)]
      have S2 : SR (((h.wr 49 a 0).wi 48 4 (sumN (fun k => h.i 76 (k + 1)) 12 - 1)).wi 76 (a + 1) 0) := SR_2 (h := (h.wr 49 a 0).wi 48 4 (sumN (fun k => h.i 76 (k + 1)) 12 - 1)) rfl S1
      have hX : SX (((h.wr 49 a 0).wi 48 4 (sumN (fun k => h.i 76 (k + 1)) 12 - 1)).wi 76 (a + 1) 0) := SX_2 (h := (h.wr 49 a 0).wi 48 4 (sumN (fun k => h.i 76 (k + 1)) 12 - 1)) rfl X1
      have F : FA [76] [(48, 4)] [49] [] h (((h.wr 49 a 0).wi 48 4 (sumN (fun k => h.i 76 (k + 1)) 12 - 1)).wi 76 (a + 1) 0) := FA_wi (FA_wi (FA_wr (FA_refl _ _ _ _ _) _ _ (Or.inl (by decide))) _ _ (Or.inr (Or.inl (by decide)))) _ _ (Or.inl (by decide))
      have hNew : I_new (((h.wr 49 a 0).wi 48 4 (sumN (fun k => h.i 76 (k + 1)) 12 - 1)).wi 76 (a + 1) 0) := by
        have n1 := I.2.2.1
        exact I_new_wi (h := (h.wr 49 a 0).wi 48 4 (sumN (fun k => h.i 76 (k + 1)) 12 - 1)) (I_new_wi (h := h.wr 49 a 0) (I_new_wr I.2.2.2.2.1 _ _ (by omega)) _ _ (by show (48 : Int) < h.nx; omega)) _ _ (by show (76 : Int) < h.nx; omega)
      generalize hh : ((h.wr 49 a 0).wi 48 4 (sumN (fun k => h.i 76 (k + 1)) 12 - 1)).wi 76 (a + 1) 0 = h2 at *
      have en : h2.tag = h.tag ∧ h2.len = h.len ∧ h2.nx = h.nx ∧ h2.us = h.us ∧ h2.i 1 = h.i 1 ∧ h2.r 28 6 = h.r 28 6 ∧ h2.r 40 3 = h.r 40 3 ∧ h2.r 2 13 = h.r 2 13 ∧ (∀ k, h2.r 49 k = if k = a then 0 else h.r 49 k) ∧ h2.i 48 4 = sumN (fun k => h.i 76 (k + 1)) 12 - 1 ∧ h2.i 76 0 = h.i 76 0 := by
        subst hh
        refine ⟨rfl, rfl, rfl, rfl, by funext j; simp only [true_and, and_true, false_and, and_false, forall_eq, forall_eq', xi_wi, xr_wi, xt_wi, xl_wi, xn_wi, xs_wi, xi_wr, xr_wr, xt_wr, xl_wr, xn_wr, xs_wr, if_true, if_false, and_self, Int.reduceEq, Int.reduceLT, Int.reduceLE, Int.reduceNeg, Int.le_refl, Int.reduceMod], by simp only [true_and, and_true, false_and, and_false, forall_eq, forall_eq', xi_wi, xr_wi, xt_wi, xl_wi, xn_wi, xs_wi, xi_wr, xr_wr, xt_wr, xl_wr, xn_wr, xs_wr, if_true, if_false, and_self, Int.reduceEq, Int.reduceLT, Int.reduceLE, Int.reduceNeg, Int.le_refl, Int.reduceMod], by simp only [true_and, and_true, false_and, and_false, forall_eq, forall_eq', xi_wi, xr_wi, xt_wi, xl_wi, xn_wi, xs_wi, xi_wr, xr_wr, xt_wr, xl_wr, xn_wr, xs_wr, if_true, if_false, and_self, Int.reduceEq, Int.reduceLT, Int.reduceLE, Int.reduceNeg, Int.le_refl, Int.reduceMod], by simp only [true_and, and_true, false_and, and_false, forall_eq, forall_eq', xi_wi, xr_wi, xt_wi, xl_wi, xn_wi, xs_wi, xi_wr, xr_wr, xt_wr, xl_wr, xn_wr, xs_wr, if_true, if_false, and_self, Int.reduceEq, Int.reduceLT, Int.reduceLE, Int.reduceNeg, Int.le_refl, Int.reduceMod], fun k => by simp only [true_and, and_true, false_and, and_false, forall_eq, forall_eq', xi_wi, xr_wi, xt_wi, xl_wi, xn_wi, xs_wi, xi_wr, xr_wr, xt_wr, xl_wr, xn_wr, xs_wr, if_true, if_false, and_self, Int.reduceEq, Int.reduceLT, Int.reduceLE, Int.reduceNeg, Int.le_refl, Int.reduceMod], by simp only [true_and, and_true, false_and, and_false, forall_eq, forall_eq', xi_wi, xr_wi, xt_wi, xl_wi, xn_wi, xs_wi, xi_wr, xr_wr, xt_wr, xl_wr, xn_wr, xs_wr, if_true, if_false, and_self, Int.reduceEq, Int.reduceLT, Int.reduceLE, Int.reduceNeg, Int.le_refl, Int.reduceMod], ?_⟩
        simp only [true_and, and_true, false_and, and_false, forall_eq, forall_eq', xi_wi, xr_wi, xt_wi, xl_wi, xn_wi, xs_wi, xi_wr, xr_wr, xt_wr, xl_wr, xn_wr, xs_wr, if_true, if_false, and_self, Int.reduceEq, Int.reduceLT, Int.reduceLE, Int.reduceNeg, Int.le_refl, Int.reduceMod]
        rw [if_neg (by omega)]
      clear hh
      obtain ⟨f1, f2, f3, f4, f5, f6, f7, f8, f9, f10, f11⟩ := en
      obtain ⟨hT, hTab, hRoom⟩ := noal I f1 f2 f3 f4 f6 f7
      have sumE : sumN (fun k => h2.i 76 (k + 1)) 12 = sumN (fun k => h.i 76 (k + 1)) 12 - 1 := by
        rw [sumN_congr 12 (fun k k0 k1 => rowL k), su]; omega
      have rv := RV_fa2 F I.2.2.1 I.2.2.2.1 (by decide)
      have bits2 : ∀ k : Int, 0 ≤ k → k < (12 : Nat) → 0 ≤ h2.i 76 (k + 1) ∧ h2.i 76 (k + 1) ≤ 1 := by
        intro k k0 k1
        rw [rowL k]
        split
        · decide
        · exact bits k k0 k1
      refine c_R_count5 S2 bits2 ?_
      have hR := S2
      refine ⟨sumE.symm, SCk_of f1 f2 f5 S0, INV_fa I F (by decide) hT hX hR hTab hNew hRoom (Or.inl (by decide)) (Or.inl (by decide)) (Or.inl (by decide)) (Or.inl (by decide)) (Or.inl (by decide)) (Or.inl (by decide)) (Or.inl (by decide)) (Or.inl (by decide)) (Or.inl (by decide)) (Or.inl (by decide)) (Or.inr ?_) (Or.inr ?_) (Or.inl (by decide)) (Or.inl (by decide)) (Or.inl (by decide))⟩
      · rcases line_open I with q | q
        · exact Or.inl ⟨by rw [f8]; exact q.1, by rw [f11]; exact q.2⟩
        · exact Or.inr ⟨by rw [f8]; exact q.1, by rw [f11]; exact q.2.1, by rw [f8]; exact LineRel_fa F (by decide) hT (rv 0) q.2.2⟩
      · refine ⟨by rw [f10, sumE], fun k k0 k1 => ?_⟩
        rw [f9 k, rowL k]
        by_cases q : k = a
        · rw [if_pos q, if_pos q]; exact Or.inl ⟨rfl, rfl⟩
        · rw [if_neg q, if_neg q]
          exact (i12.2 k k0 k1).imp id (fun y => ⟨y.1, y.2.1, LineRel_fa F (by decide) hT (rv _) y.2.2⟩)
  · apply L_X_drop
    simp only [sxt SX_, sxl SX_, sxf SX_, true_and, and_true, false_and, and_false, forall_eq, forall_eq', xi_wi, xr_wi, xt_wi, xl_wi, xn_wi, xs_wi, xi_wr, xr_wr, xt_wr, xl_wr, xn_wr, xs_wr, if_true, if_false, and_self, Int.reduceEq, Int.reduceLT, Int.reduceLE, Int.reduceNeg, Int.le_refl, Int.reduceMod]
    apply L_Poem_dropLine
    have out : SCk h h ∧ xCi 2046 M_R_drop [(1, 59), (0, a)] h (fun r2 h2 => -2 = r2 ∧ SCk h h2 ∧ INV (n + 1) h2) := by
      refine ⟨same, ?_⟩
      apply L_R_drop
      refine c_R_in_f c ?_
      rw [if_pos rfl]
      exact ⟨rfl, same, INV_mono I⟩
    refine x_if (fun _ => out) (fun _ => ?_)
    rw [if_neg (by omega)]
    exact out
