/-! keep -/
theorem fr_same {l : List Int} {l2 : List (Int × Int)} {h h' : xH} (F : Fr l l2 h h') : h'.r = h.r ∧ h'.tag = h.tag ∧ h'.len = h.len ∧ h'.nx = h.nx ∧ h'.us = h.us := by
  obtain ⟨e, f⟩ := F
  obtain ⟨x, b⟩ := h
  obtain ⟨y, b'⟩ := h'
  have e : b' = b := e
  subst e
  exact ⟨rfl, rfl, rfl, rfl, rfl⟩
/-- the reference's keep behind the class' -/
theorem keep_fin {n : Nat} {h h1 : xH} {a : Int} {ws : List Wd} {v : Int} (I : INV n h) (a0 : 0 ≤ a) (a1 : a ≤ 11) (sb : SylB h (h.r 2 13)) (se : SylE h (h.r 2 13)) (hp : h.r 2 13 ≠ 0) (h1l : h.i 76 0 = 1) (ok : LnOk ws) (w1 : 1 ≤ ws.length) (XL : XLn (XV h (h.r 2 13)) ws) (RL_ : RLn (RV h 0) ws) (EL : ELn (XV h (h.r 2 13)) ws) (F1 : FA [76, 77, 78, 79, 80, 81, 82, 83, 84, 85, 86, 87, 88] [(48, 4)] [49] [] h h1) (S1 : SR h1) (X1 : SX h1) (N1 : I_new h1) (et : h1.tag = h.tag) (el : h1.len = h.len) (en : h1.nx = h.nx) (eu : h1.us = h.us) (e28 : h1.r 28 6 = h.r 28 6) (e40 : h1.r 40 3 = h.r 40 3) (e13 : h1.r 2 13 = h.r 2 13) (r49 : ∀ k, h1.r 49 k = if k = a then h.r 2 13 else h.r 49 k) (ri : ∀ c, c ≠ 48 → h1.i c = h.i c) (hv : h1.i 48 4 = v) (hs : v = sumN (fun k => if k = a then 1 else h.i 76 (k + 1)) 12) : SCk h h1 ∧ xCi 2046 M_R_keep [(1, 59), (0, a)] h1 (fun r2 h2 => v = r2 ∧ SCk h h2 ∧ INV (n + 1) h2) := by
  have S0 := I.2.1
  have rv1 : ∀ k, RV h1 k = RV h k := fun k => RV_row (by rw [ri 77 (by decide)]) (by rw [ri 81 (by decide)]) (fun _ _ _ => by rw [ri 82 (by decide)]) (fun _ _ _ => by rw [ri 83 (by decide)]) (fun _ _ _ => by rw [ri 84 (by decide)]) (fun _ _ _ => by rw [ri 85 (by decide)]) (fun _ _ _ => by rw [ri 87 (by decide)]) (fun _ _ _ => by rw [ri 88 (by decide)]) (fun _ _ _ => by rw [ri 86 (by decide)]) (fun _ _ _ => by rw [ri 79 (by decide)]) (fun _ _ _ => by rw [ri 80 (by decide)]) (fun _ _ _ => by rw [ri 78 (by decide)])
  refine ⟨SCk_of et el (ri 1 (by decide)) S0, ?_⟩
  have S := S1
  have l76 : h1.i 76 0 = 1 := by rw [ri 76 (by decide)]; exact h1l
  apply L_R_keep
  simp only [srt S, srl S, srf S, l76, true_and, and_true, false_and, and_false, forall_eq, forall_eq', xi_wi, xr_wi, xt_wi, xl_wi, xn_wi, xs_wi, xi_wr, xr_wr, xt_wr, xl_wr, xn_wr, xs_wr, if_true, if_false, and_self, Int.reduceEq, Int.reduceLT, Int.reduceLE, Int.reduceNeg, Int.le_refl, Int.reduceMod]
  refine c_R_in_t ⟨a0, a1⟩ ?_
  rw [if_neg (by decide), xw_id (a := a + 1) (by omega) (by omega)]
  refine ⟨(srt S).1, c_R_copyLine S (ws := ws) (by omega) (by omega) (by decide) (by decide) (by omega) ok (by rw [rv1]; exact RL_) ?_⟩
  intro h2 F2 R2 rv2 e76
  have fs := fr_same F2
  have S2 := SR_2 F2.1 S1
  have hX := SX_2 F2.1 X1
  have bits := line_bits I
  have row : ∀ k, h2.i 76 (k + 1) = if k = a then 1 else h.i 76 (k + 1) := by
    intro k
    rw [e76, ri 76 (by decide)]
    by_cases q : k = a
    · rw [if_pos q, if_pos (by omega)]
    · rw [if_neg q, if_neg (by omega)]
  have bits2 : ∀ k : Int, 0 ≤ k → k < (12 : Nat) → 0 ≤ h2.i 76 (k + 1) ∧ h2.i 76 (k + 1) ≤ 1 := by
    intro k k0 k1
    rw [row k]
    split
    · decide
    · exact bits k k0 k1
  refine ⟨(srt S2).1, c_R_count5 S2 bits2 ?_⟩
  have sE : sumN (fun k => h2.i 76 (k + 1)) 12 = v := by rw [hs]; exact sumN_congr 12 (fun k _ _ => row k)
  have F : FA [76, 77, 78, 79, 80, 81, 82, 83, 84, 85, 86, 87, 88] [(48, 4)] [49] [] h h2 := FA_trans F1 (Or.inl e28) (FA_of [49] [] (Fr_mono F2 (fun c hc => hc) (fun c hc => absurd hc List.not_mem_nil)))
  obtain ⟨hT, hTab, hRoom⟩ := noal (n := n) (h' := h2) I (by rw [fs.2.1, et]) (by rw [fs.2.2.1, el]) (by rw [fs.2.2.2.1, en]) (by rw [fs.2.2.2.2, eu]) (by rw [fs.1, e28]) (by rw [fs.1, e40])
  have hNew : I_new h2 := I_new_fr N1 F2 (by decide) (by rw [en]; exact I.2.2.1)
  have hR := S2
  obtain ⟨sb2, se2, xv2⟩ := LineX_fa F (by decide) hT sb se
  have f13 : h2.r 2 13 = h.r 2 13 := by rw [fs.1, e13]
  have rvk : ∀ k, k ≠ a + 1 → RV h2 k = RV h k := fun k hk => (rv2 k hk).trans (rv1 k)
  refine ⟨sE.symm, SCk_of (by rw [fs.2.1, et]) (by rw [fs.2.2.1, el]) (by rw [Fr_row F2 (c := 1) (by decide) (by decide), ri 1 (by decide)]) S0, INV_fa I F (by decide) hT hX hR hTab hNew hRoom (Or.inl (by decide)) (Or.inl (by decide)) (Or.inl (by decide)) (Or.inl (by decide)) (Or.inl (by decide)) (Or.inl (by decide)) (Or.inl (by decide)) (Or.inl (by decide)) (Or.inl (by decide)) (Or.inl (by decide)) (Or.inr ?_) (Or.inr ?_) (Or.inl (by decide)) (Or.inl (by decide)) (Or.inl (by decide))⟩
  · right
    rw [f13]
    refine ⟨hp, by rw [e76, if_neg (by omega), l76], sb2, se2, ws, ok, w1, by rw [xv2]; exact XL, by rw [rvk 0 (by omega)]; exact RL_, by rw [xv2]; exact EL⟩
  · have i12 := I.2.2.2.2.2.2.2.2.2.2.2.2.2.2.2.2.2.1
    refine ⟨by rw [sE, Fr_row F2 (c := 48) (by decide) (by decide), hv], fun k k0 k1 => ?_⟩
    rw [fs.1, r49 k, row k]
    by_cases q : k = a
    · rw [if_pos q, if_pos q]
      right
      refine ⟨hp, rfl, sb2, se2, ws, ok, w1, by rw [xv2]; exact XL, ?_, by rw [xv2]; exact EL⟩
      rw [q]; exact R2
    · rw [if_neg q, if_neg q]
      exact (i12.2 k k0 k1).imp id (fun y => ⟨y.1, y.2.1, LineRel_fa F (by decide) hT (rvk _ (by omega)) y.2.2⟩)
theorem j_keep (n : Nat) (hn : n < 512) (a : Int) (ha : xrg a) : JJ INV n M_X_keep M_R_keep [(0, a)] := by
  refine jj_fa (fun h I => ?_)
  have S := I.2.1
  have SX_ := I.1
  have i12 := I.2.2.2.2.2.2.2.2.2.2.2.2.2.2.2.2.2.1
  have n0 := I.2.2.1
  have same : SCk h h := ⟨rfl, rfl, rfl, (srt S).1⟩
  apply L_X_keep
  refine ⟨(sxt SX_).1, ?_⟩
  rcases line_open I with z | z
  · rw [if_pos z.1]
    refine ⟨same, ?_⟩
    apply L_R_keep
    simp only [srt S, srl S, srf S, z.2, true_and, and_true, false_and, and_false, forall_eq, forall_eq', xi_wi, xr_wi, xt_wi, xl_wi, xn_wi, xs_wi, xi_wr, xr_wr, xt_wr, xl_wr, xn_wr, xs_wr, if_true, if_false, and_self, Int.reduceEq, Int.reduceLT, Int.reduceLE, Int.reduceNeg, Int.le_refl, Int.reduceMod]
    first | exact ⟨rfl, same, INV_mono I⟩ | exact ⟨same, INV_mono I⟩
  · obtain ⟨hp, h1l, sb, se, ws, ok, w1, XL, RL_, EL⟩ := z
    rw [if_neg hp]
    simp only [sxt SX_, sxl SX_, sxf SX_, true_and, and_true, false_and, and_false, forall_eq, forall_eq', xi_wi, xr_wi, xt_wi, xl_wi, xn_wi, xs_wi, xi_wr, xr_wr, xt_wr, xl_wr, xn_wr, xs_wr, if_true, if_false, and_self, Int.reduceEq, Int.reduceLT, Int.reduceLE, Int.reduceNeg, Int.le_refl, Int.reduceMod]
    apply L_Poem_keepLine
    by_cases c : 0 ≤ a ∧ a ≤ 11
    · have bits := line_bits I
      have su := sumN_upd (f := fun k => h.i 76 (k + 1)) (a := a) (v := 1) 12
      rw [if_pos (by omega)] at su
      have sm := sumN_bits (f := fun k => h.i 76 (k + 1)) 12 bits
      have i0 := i12.1
      rw [if_neg (by omega), if_pos (by omega)]
      simp only [sxt SX_, sxl SX_, sxf SX_, true_and, and_true, false_and, and_false, forall_eq, forall_eq', xi_wi, xr_wi, xt_wi, xl_wi, xn_wi, xs_wi, xi_wr, xr_wr, xt_wr, xl_wr, xn_wr, xs_wr, if_true, if_false, and_self, Int.reduceEq, Int.reduceLT, Int.reduceLE, Int.reduceNeg, Int.le_refl, Int.reduceMod]
      refine ⟨⟨c.1, by omega⟩, ?_⟩
      have p9 : h.tag (h.r 2 13) = 9 := sb.2.2.1
      rcases i12.2 a c.1 (by omega) with y | y
      · rw [y.2] at su
        rw [if_pos y.1, xw_id (by omega) (by omega)]
        refine ⟨⟨c.1, by omega, Or.inr p9⟩, ?_⟩
        refine keep_fin I c.1 c.2 sb se hp h1l ok w1 XL RL_ EL (FA_wr (FA_wi (FA_refl _ _ _ _ _) _ _ (Or.inr (Or.inl (by decide)))) _ _ (Or.inl (by decide))) (SR_wr (h := h.wi 48 4 (h.i 48 4 + 1)) (by decide) (SR_2 (h := h) rfl S)) (SX_wr49 (h := h.wi 48 4 (h.i 48 4 + 1)) (SX_2 (h := h) rfl SX_)) (I_new_wr (h := h.wi 48 4 (h.i 48 4 + 1)) (I_new_wi I.2.2.2.2.1 _ _ (by omega)) _ _ (by show (49 : Int) < h.nx; omega)) rfl rfl rfl rfl (by simp only [true_and, and_true, false_and, and_false, forall_eq, forall_eq', xi_wi, xr_wi, xt_wi, xl_wi, xn_wi, xs_wi, xi_wr, xr_wr, xt_wr, xl_wr, xn_wr, xs_wr, if_true, if_false, and_self, Int.reduceEq, Int.reduceLT, Int.reduceLE, Int.reduceNeg, Int.le_refl, Int.reduceMod]) (by simp only [true_and, and_true, false_and, and_false, forall_eq, forall_eq', xi_wi, xr_wi, xt_wi, xl_wi, xn_wi, xs_wi, xi_wr, xr_wr, xt_wr, xl_wr, xn_wr, xs_wr, if_true, if_false, and_self, Int.reduceEq, Int.reduceLT, Int.reduceLE, Int.reduceNeg, Int.le_refl, Int.reduceMod]) (by simp only [true_and, and_true, false_and, and_false, forall_eq, forall_eq', xi_wi, xr_wi, xt_wi, xl_wi, xn_wi, xs_wi, xi_wr, xr_wr, xt_wr, xl_wr, xn_wr, xs_wr, if_true, if_false, and_self, Int.reduceEq, Int.reduceLT, Int.reduceLE, Int.reduceNeg, Int.le_refl, Int.reduceMod]) (fun k => by simp only [true_and, and_true, false_and, and_false, forall_eq, forall_eq', xi_wi, xr_wi, xt_wi, xl_wi, xn_wi, xs_wi, xi_wr, xr_wr, xt_wr, xl_wr, xn_wr, xs_wr, if_true, if_false, and_self, Int.reduceEq, Int.reduceLT, Int.reduceLE, Int.reduceNeg, Int.le_refl, Int.reduceMod]) (fun c hc => by funext j; simp only [hc, true_and, and_true, false_and, and_false, forall_eq, forall_eq', xi_wi, xr_wi, xt_wi, xl_wi, xn_wi, xs_wi, xi_wr, xr_wr, xt_wr, xl_wr, xn_wr, xs_wr, if_true, if_false, and_self, Int.reduceEq, Int.reduceLT, Int.reduceLE, Int.reduceNeg, Int.le_refl, Int.reduceMod]) (by simp only [true_and, and_true, false_and, and_false, forall_eq, forall_eq', xi_wi, xr_wi, xt_wi, xl_wi, xn_wi, xs_wi, xi_wr, xr_wr, xt_wr, xl_wr, xn_wr, xs_wr, if_true, if_false, and_self, Int.reduceEq, Int.reduceLT, Int.reduceLE, Int.reduceNeg, Int.le_refl, Int.reduceMod]) ?_
        rw [su, i0]
        omega
      · rw [y.2.1] at su
        rw [if_neg y.1]
        refine ⟨⟨c.1, by omega, Or.inr p9⟩, ?_⟩
        refine keep_fin I c.1 c.2 sb se hp h1l ok w1 XL RL_ EL (FA_wr (FA_refl _ _ _ _ _) _ _ (Or.inl (by decide))) (SR_wr (by decide) S) (SX_wr49 SX_) (I_new_wr I.2.2.2.2.1 _ _ (by omega)) rfl rfl rfl rfl (by simp only [true_and, and_true, false_and, and_false, forall_eq, forall_eq', xi_wi, xr_wi, xt_wi, xl_wi, xn_wi, xs_wi, xi_wr, xr_wr, xt_wr, xl_wr, xn_wr, xs_wr, if_true, if_false, and_self, Int.reduceEq, Int.reduceLT, Int.reduceLE, Int.reduceNeg, Int.le_refl, Int.reduceMod]) (by simp only [true_and, and_true, false_and, and_false, forall_eq, forall_eq', xi_wi, xr_wi, xt_wi, xl_wi, xn_wi, xs_wi, xi_wr, xr_wr, xt_wr, xl_wr, xn_wr, xs_wr, if_true, if_false, and_self, Int.reduceEq, Int.reduceLT, Int.reduceLE, Int.reduceNeg, Int.le_refl, Int.reduceMod]) (by simp only [true_and, and_true, false_and, and_false, forall_eq, forall_eq', xi_wi, xr_wi, xt_wi, xl_wi, xn_wi, xs_wi, xi_wr, xr_wr, xt_wr, xl_wr, xn_wr, xs_wr, if_true, if_false, and_self, Int.reduceEq, Int.reduceLT, Int.reduceLE, Int.reduceNeg, Int.le_refl, Int.reduceMod]) (fun k => by simp only [true_and, and_true, false_and, and_false, forall_eq, forall_eq', xi_wi, xr_wi, xt_wi, xl_wi, xn_wi, xs_wi, xi_wr, xr_wr, xt_wr, xl_wr, xn_wr, xs_wr, if_true, if_false, and_self, Int.reduceEq, Int.reduceLT, Int.reduceLE, Int.reduceNeg, Int.le_refl, Int.reduceMod]) (fun c hc => rfl) rfl ?_
        rw [su]
        omega
    · have out : SCk h h ∧ xCi 2046 M_R_keep [(1, 59), (0, a)] h (fun r2 h2 => -2 = r2 ∧ SCk h h2 ∧ INV (n + 1) h2) := by
        refine ⟨same, ?_⟩
        apply L_R_keep
        simp only [srt S, srl S, srf S, h1l, true_and, and_true, false_and, and_false, forall_eq, forall_eq', xi_wi, xr_wi, xt_wi, xl_wi, xn_wi, xs_wi, xi_wr, xr_wr, xt_wr, xl_wr, xn_wr, xs_wr, if_true, if_false, and_self, Int.reduceEq, Int.reduceLT, Int.reduceLE, Int.reduceNeg, Int.le_refl, Int.reduceMod]
        refine c_R_in_f c ?_
        rw [if_pos rfl]
        first | exact ⟨rfl, same, INV_mono I⟩ | exact ⟨same, INV_mono I⟩
      refine x_if (fun _ => out) (fun _ => ?_)
      rw [if_neg (by omega)]
      exact out
