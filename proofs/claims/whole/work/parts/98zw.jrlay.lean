/-! judge: the reference's trial -/
section JL
variable {n0 : Nat} {h0 : xH} {t : Nat → Bool} {W : Nat → List Wd} {d : Nat} {m P : Nat}
def onL : List Int := [114, 115, 116, 123]
theorem c_R_lo73 {Q : Int → xH → Prop} {o i k : Nat} {fa pr s0 : Int} {on : List Int} {h : xH} {u2 u6 u7 : xV} (C : RCx h0 h t W) (PL : PlI h0 P m) (hi : i < P) (hk : k < 12) (tk : t k = true) (rows : ∀ j : Nat, j < i → h.i 123 (j : Int) = on.getD j (-1)) (onb : ∀ j, onV t (on.getD j (-1))) (f0 : 0 ≤ fa) (f1 : fa ≤ 1000) (s00 : 0 ≤ s0) (s01 : s0 ≤ 1) (H : ∀ u6 u7 : xV, xT (d + 4) M_R_layOn 8 [(1, 59), (0, (o : Int)), (0, fa + s0 + agV (jD h0 t W) on i k), (0, pr), (0, ((k + 1 : Nat) : Int)), (0, ((i + 1 : Nat) : Int)), u6, u7] [] h (xql Q)) : xT (d + 4) M_R_layOn 73 [(1, 59), (0, (o : Int)), u2, (0, pr), (0, (k : Int)), (0, (i : Int)), u6, u7] [(0, s0), (0, fa)] h (xql Q) := by
  have S := C.1
  have g : h.tag 59 = 12 ∧ h.r 59 72 = 120 ∧ h.tag 120 = 20 ∧ h.len 120 = 12 ∧ h.r 59 76 = 123 ∧ h.tag 123 = 20 ∧ h.len 123 = 12 := by simp only [srt S, srl S, srf S, true_and, and_true, false_and, and_false, forall_eq, forall_eq', xi_wi, xr_wi, xt_wi, xl_wi, xn_wi, xs_wi, xi_wr, xr_wr, xt_wr, xl_wr, xn_wr, xs_wr, if_true, if_false, and_self, Int.reduceEq, Int.reduceLT, Int.reduceLE, Int.reduceNeg, Int.le_refl, Int.reduceMod]
  obtain ⟨g1, g2, g3, g4, g5, g6, g7⟩ := g
  have P12 := PL.2.2.1
  have pl := PL.2.2.2.1 i hi
  have eA : (jD h0 t W).A i = h0.i 120 (i : Int) := rfl
  have a0 := pl.2.2.2.2.2.2.2.1
  have a1 := pl.2.2.2.2.2.2.2.2.1
  have eG : agV (jD h0 t W) on i k = if h0.i 120 (i : Int) ≠ -1 ∧ (on.getD (h0.i 120 (i : Int)).toNat (-1) = -1 ∨ (jD h0 t W).sw (on.getD (h0.i 120 (i : Int)).toNat (-1)).toNat k = false) then 1 else 0 := rfl
  rw [eG] at H
  apply L_R_layOn_73
  intro x1 e1
  rw [xw_id (by omega) (by omega)] at e1
  rw [g2, g4, C.2.2.2.2.2.1]
  refine ⟨g1, ⟨g3, by omega, by omega⟩, fun x2 e2 => ?_⟩
  rw [e2, e1]
  generalize h0.i 120 (i : Int) = A at a0 a1 eA H ⊢
  have nk : ∀ x : Int, x = xw ((k : Int) + 1) → x = ((k + 1 : Nat) : Int) := fun x e => by rw [e, xw_id (by omega) (by omega)]; push_cast; rfl
  have ni : ∀ x : Int, x = xw ((i : Int) + 1) → x = ((i + 1 : Nat) : Int) := fun x e => by rw [e, xw_id (by omega) (by omega)]; push_cast; rfl
  by_cases c : A = -1
  · rw [if_pos c]
    intro x3 e3 x4 e4
    rw [nk x3 e3, ni x4 e4]
    have z := H (xkl u6) (0, A)
    rw [if_neg (fun y => y.1 c), Int.add_zero] at z
    exact z
  · rw [if_neg c]
    have eR := rows A.toNat (by omega)
    rw [show ((A.toNat : Nat) : Int) = A by omega] at eR
    rw [g5, g7, eR]
    have ob := onb A.toNat
    generalize on.getD A.toNat (-1) = v at ob H ⊢
    refine ⟨⟨g6, by omega, by omega⟩, ?_⟩
    have yes : (v = -1 ∨ (jD h0 t W).sw v.toNat k = false) → ∀ x5 : Int, x5 = xw (fa + s0 + 1) → ∀ x6 : Int, x6 = xw ((k : Int) + 1) → ∀ x7 : Int, x7 = xw ((i : Int) + 1) → xT (d + 4) M_R_layOn 8 [(1, 59), (0, (o : Int)), (0, x5), (0, pr), (0, x6), (0, x7), xkl u6, (0, A)] [] h (xql Q) := fun y x5 e5 x6 e6 x7 e7 => by
      rw [e5, nk x6 e6, ni x7 e7, xw_id (by omega) (by omega)]
      have z := H (xkl u6) (0, A)
      rw [if_pos ⟨c, y⟩] at z
      exact z
    rcases ob with ob | ob
    · rw [if_pos ob]
      exact yes (Or.inl ob)
    · obtain ⟨o0, o1, o2⟩ := ob
      have hv : ((v.toNat : Nat) : Int) = v := by omega
      have a := C.2.1 v.toNat (by omega)
      have b := C.2.1 k hk
      rw [hv] at a
      have az := a.2 o2
      have bz := b.2 tk
      have eS : (jD h0 t W).sw v.toNat k = decide ((W v.toNat).map (fun d => d.1) = (W k).map (fun d => d.1)) := rfl
      rw [if_neg (by omega)]
      refine ⟨⟨g6, by omega, by omega⟩, ?_⟩
      rw [xw_id (a := v + 1) (by omega) (by omega), xw_id (a := (k : Int) + 1) (by omega) (by omega)]
      refine c_R_sameWords (d := d + 3) S az.1 bz.1 (by omega) (by omega) (by omega) (by omega) az.2.2 bz.2.2 (fun e => ?_) (fun e => ?_)
      · rw [if_neg (by decide)]
        intro x11 e11 x12 e12
        rw [ni x12 e12, e11]
        have z := H (xkl u6) (0, A)
        rw [if_neg (fun y => by
          rcases y.2 with y | y
          · omega
          · rw [eS, decide_eq_true (show (W v.toNat).map (fun d => d.1) = (W k).map (fun d => d.1) from e)] at y; exact absurd y (by decide)), Int.add_zero] at z
        push_cast at z ⊢
        exact z
      · rw [if_pos rfl]
        have y := yes (Or.inr (by rw [eS]; exact decide_eq_false e))
        rw [xw_id (a := (k : Int) + 1) (by omega) (by omega)] at y
        exact y
theorem c_R_lo8 {Q : Int → xH → Prop} (I : INV n0 h0) (P0 : XPo h0 t W) (PL : PlI h0 P m) {o : Nat} (ho : o < 4096) {hb : xH} (Cb : RCx h0 hb t W) (CC : ∀ k f : Nat, k < 12 → f < 8 → hb.i 122 ((8 * k + f : Nat) : Int) = (jD h0 t W).C k (f : Int)) (H : ∀ h', Fr onL [] hb h' → (∀ j : Nat, j < P → h'.i 123 (j : Int) = (jOn (jD h0 t W) o.testBit P).getD j (-1)) → Q (1000000 * jFa (jD h0 t W) o.testBit P + jPr (jD h0 t W) o.testBit P) h') : ∀ (n i : Nat) (h : xH) (u6 u7 : xV), i + n = P → Fr onL [] hb h → (∀ j : Nat, j < i → h.i 123 (j : Int) = (layJ (jD h0 t W) o.testBit i).2.2.2.getD j (-1)) → xT (d + 4) M_R_layOn 8 [(1, 59), (0, (o : Int)), (0, (layJ (jD h0 t W) o.testBit i).2.1), (0, (layJ (jD h0 t W) o.testBit i).2.2.1), (0, (((layJ (jD h0 t W) o.testBit i).1 : Nat) : Int)), (0, (i : Int)), u6, u7] [] h (xql Q) := by
  have P12 := PL.2.2.1
  have cb := jD_C I P0
  intro n
  induction n with
  | zero =>
    intro i h u6 u7 hi F rows
    have e : i = P := by omega
    subst e
    have C := RCx_fr Cb (Fr_mono F (by decide) (fun c mm => absurd mm List.not_mem_nil))
    have g : h.tag 59 = 12 := (srt C.1).1
    have bd := layJ_bd (D := jD h0 t W) (out := o.testBit) cb i
    apply L_R_layOn_8
    refine ⟨g, ?_⟩
    rw [C.2.2.2.2.2.2.2.1, PL.2.1, if_neg (by omega)]
    refine c_R_lo105 (d := d) (o := o) C bd.2.2.2.1 (by have := bd.2.2.2.2.1; omega) (12 - (layJ (jD h0 t W) o.testBit i).1) (layJ (jD h0 t W) o.testBit i).1 _ _ (by have := bd.1; omega) bd.2.1 (by have := bd.2.2.1; omega) ?_
    exact H h F rows
  | succ n ih =>
    intro i h u6 u7 hi F rows
    have iP : i < P := by omega
    have C := RCx_fr Cb (Fr_mono F (by decide) (fun c mm => absurd mm List.not_mem_nil))
    have S := C.1
    have g : h.tag 59 = 12 ∧ h.r 59 76 = 123 ∧ h.tag 123 = 20 ∧ h.len 123 = 12 := by simp only [srt S, srl S, srf S, true_and, and_true, false_and, and_false, forall_eq, forall_eq', xi_wi, xr_wi, xt_wi, xl_wi, xn_wi, xs_wi, xi_wr, xr_wr, xt_wr, xl_wr, xn_wr, xs_wr, if_true, if_false, and_self, Int.reduceEq, Int.reduceLT, Int.reduceLE, Int.reduceNeg, Int.le_refl, Int.reduceMod]
    obtain ⟨g1, g2, g3, g4⟩ := g
    have pl := PL.2.2.2.1 i iP
    have bd := layJ_bd (D := jD h0 t W) (out := o.testBit) cb i
    have nb := nxL_bd (t := t) (k := (layJ (jD h0 t W) o.testBit i).1) bd.1
    have lo : (layJ (jD h0 t W) o.testBit i).2.2.2.length = i := bd.2.2.2.2.2.1
    have eS : layJ (jD h0 t W) o.testBit (i + 1) = stJ (jD h0 t W) o.testBit i (layJ (jD h0 t W) o.testBit i) := rfl
    have onb := onV_get (t := t) (on := (layJ (jD h0 t W) o.testBit i).2.2.2) bd.2.2.2.2.2.2
    generalize layJ (jD h0 t W) o.testBit i = s at *
    obtain ⟨s1, s2, s3, on⟩ := s
    have lo : on.length = i := lo
    have nb : s1 ≤ nxL t s1 ∧ nxL t s1 ≤ 12 ∧ (nxL t s1 < 12 → t (nxL t s1) = true) := nb
    have b1 : s1 ≤ 12 := bd.1
    have b2 : 0 ≤ s2 := bd.2.1
    have b3 : s2 ≤ 3 * (i : Int) := bd.2.2.1
    have b4 : 0 ≤ s3 := bd.2.2.2.1
    have b5 : s3 ≤ 2100 * (i : Int) := bd.2.2.2.2.1
    have rows : ∀ j : Nat, j < i → h.i 123 (j : Int) = on.getD j (-1) := rows
    have gd : ∀ (v : Int) (j : Nat), (on ++ [v]).getD j (-1) = if j = i then v else on.getD j (-1) := fun v j => by
      by_cases c : j = i
      · rw [if_pos c, c, getD_app_r _ (by omega), lo, Nat.sub_self]; rfl
      · rw [if_neg c]
        by_cases c2 : j < i
        · rw [getD_app_l _ (by omega)]
        · rw [List.getD_eq_getElem?_getD, List.getElem?_eq_none (by rw [List.length_append, lo]; show i + 1 ≤ j; omega), List.getD_eq_getElem?_getD, List.getElem?_eq_none (by omega)]
    apply L_R_layOn_8
    refine ⟨g1, ?_⟩
    rw [C.2.2.2.2.2.2.2.1, PL.2.1, if_pos (by omega), g2, g4]
    refine ⟨⟨g3, by omega, by omega⟩, fun h1 e1 => ?_⟩
    have F1 : Fr onL [] h h1 := by rw [e1]; exact Fr_cell (Fr_refl _ _ _) _ _ (by decide)
    have C1 := RCx_fr C (Fr_mono F1 (by decide) (fun c mm => absurd mm List.not_mem_nil))
    have e123 : ∀ j : Nat, j < i + 1 → h1.i 123 (j : Int) = (on ++ [-1]).getD j (-1) := fun j hj => by
      rw [e1, xi_wi, gd]
      by_cases z : j = i
      · rw [if_pos ⟨rfl, by omega⟩, if_pos z]
      · rw [if_neg (fun y => z (by omega)), if_neg z]; exact rows j (by omega)
    rw [jbit ho (by omega)]
    by_cases c1 : o.testBit i = true
    · rw [if_pos c1, if_pos rfl]
      intro x1 ex
      rw [ex, jnx (show i < 100000 by omega)]
      have eS' : layJ (jD h0 t W) o.testBit (i + 1) = (s1, s2, s3, on ++ [-1]) := by rw [eS]; unfold stJ; rw [if_pos c1]
      have key := ih (i + 1) h1 u6 u7 (by omega) (Fr_trans F F1)
      rw [eS'] at key
      exact key e123
    · rw [if_neg c1, if_neg (by decide)]
      refine c_R_lo25 (d := d) C1 (12 - s1) s1 (by omega) ?_
      show xT (d + 4) M_R_layOn 34 [(1, 59), (0, (o : Int)), (0, s2), (0, s3), (0, ((nxL t s1 : Nat) : Int)), (0, (i : Int)), u6, u7] [] h1 (xql Q)
      apply L_R_layOn_34
      by_cases c2 : nxL t s1 = 12
      · rw [if_pos (by omega)]
        intro x1 ex x2 ey
        rw [ex, ey, jnx (show i < 100000 by omega), xw_id (a := s2 + 1) (by omega) (by omega)]
        have eS' : layJ (jD h0 t W) o.testBit (i + 1) = (12, s2 + 1, s3, on ++ [-1]) := by
          rw [eS]; unfold stJ; rw [if_neg c1, if_pos (show nxL (jD h0 t W).t s1 = 12 from c2)]
        have key := ih (i + 1) h1 u6 u7 (by omega) (Fr_trans F F1)
        rw [eS'] at key
        rw [c2]
        exact key e123
      · have lt : nxL t s1 < 12 := by omega
        have tk := nb.2.2 lt
        rw [if_neg (by omega)]
        have S := C1.1
        have y : h1.tag 59 = 12 ∧ h1.r 59 76 = 123 ∧ h1.tag 123 = 20 ∧ h1.len 123 = 12 := by simp only [srt S, srl S, srf S, true_and, and_true, false_and, and_false, forall_eq, forall_eq', xi_wi, xr_wi, xt_wi, xl_wi, xn_wi, xs_wi, xi_wr, xr_wr, xt_wr, xl_wr, xn_wr, xs_wr, if_true, if_false, and_self, Int.reduceEq, Int.reduceLT, Int.reduceLE, Int.reduceNeg, Int.le_refl, Int.reduceMod]
        obtain ⟨y1, y2, y3, y4⟩ := y
        rw [y2, y4]
        refine ⟨y1, ⟨y3, by omega, by omega⟩, fun h2 e2 => ?_⟩
        have F2 : Fr onL [] h1 h2 := by rw [e2]; exact Fr_cell (Fr_refl _ _ _) _ _ (by decide)
        have C2 := RCx_fr C1 (Fr_mono F2 (by decide) (fun c mm => absurd mm List.not_mem_nil))
        have S := C2.1
        have w : h2.tag 59 = 12 ∧ h2.r 59 70 = 118 ∧ h2.tag 118 = 20 ∧ h2.len 118 = 12 ∧ h2.r 59 75 = 122 ∧ h2.tag 122 = 20 ∧ h2.len 122 = 96 := by simp only [srt S, srl S, srf S, true_and, and_true, false_and, and_false, forall_eq, forall_eq', xi_wi, xr_wi, xt_wi, xl_wi, xn_wi, xs_wi, xi_wr, xr_wr, xt_wr, xl_wr, xn_wr, xs_wr, if_true, if_false, and_self, Int.reduceEq, Int.reduceLT, Int.reduceLE, Int.reduceNeg, Int.le_refl, Int.reduceMod]
        obtain ⟨w1, w2, w3, w4, w5, w6, w7⟩ := w
        have k123 : ∀ j : Nat, j < i + 1 → h2.i 123 (j : Int) = (on ++ [((nxL t s1 : Nat) : Int)]).getD j (-1) := fun j hj => by
          rw [e2, xi_wi, gd]
          by_cases z : j = i
          · rw [if_pos ⟨rfl, by omega⟩, if_pos z]
          · rw [if_neg (fun y => z (by omega)), if_neg z, e123 j hj, gd, if_neg z]
        have k122 : h2.i 122 = hb.i 122 := by rw [Fr_row F2 (by decide) (fun c mm => absurd mm List.not_mem_nil), Fr_row F1 (by decide) (fun c mm => absurd mm List.not_mem_nil), Fr_row F (by decide) (fun c mm => absurd mm List.not_mem_nil)]
        have eF : (jD h0 t W).F i = h0.i 118 (i : Int) := rfl
        have q0 := pl.2.1
        have q1 := pl.2.2.1
        obtain ⟨f, hf⟩ : ∃ f : Nat, h0.i 118 (i : Int) = (f : Int) := ⟨(h0.i 118 (i : Int)).toNat, by omega⟩
        have cc := cb (nxL t s1) (f : Int)
        have ec := CC (nxL t s1) f lt (by omega)
        rw [w2, w4, w5, w7, C2.2.2.2.1, hf, jxB (by omega) (by omega) (by omega) (by omega), show 8 * ((nxL t s1 : Nat) : Int) + (f : Int) = ((8 * nxL t s1 + f : Nat) : Int) by push_cast; rfl, k122, ec]
        refine ⟨w1, ⟨w3, by omega, by omega⟩, ⟨w6, by omega, by omega⟩, fun x3 ex3 => ?_⟩
        rw [ex3]
        have eS' : layJ (jD h0 t W) o.testBit (i + 1) = (nxL t s1 + 1, s2 + (if (jD h0 t W).C (nxL t s1) (f : Int) = -1 then 1 else 0) + offV (jD h0 t W) on i (nxL t s1) + agV (jD h0 t W) on i (nxL t s1), s3 + (if (jD h0 t W).C (nxL t s1) (f : Int) = -1 then 0 else (jD h0 t W).C (nxL t s1) (f : Int)), on ++ [((nxL t s1 : Nat) : Int)]) := by
          rw [eS]; unfold stJ; rw [if_neg c1, if_neg (show ¬ nxL (jD h0 t W).t s1 = 12 from c2), eF, hf]; rfl
        -- behind the cost
        have go : ∀ (fa pr : Int) (u6 : xV), fa = s2 + (if (jD h0 t W).C (nxL t s1) (f : Int) = -1 then 1 else 0) → pr = s3 + (if (jD h0 t W).C (nxL t s1) (f : Int) = -1 then 0 else (jD h0 t W).C (nxL t s1) (f : Int)) → xCi (d + 4) M_R_isOffRhyme [(1, 59), (0, (i : Int))] h2 (fun r1 h3 => if r1 = 0 then xT (d + 4) M_R_layOn 73 [(1, 59), (0, (o : Int)), (0, fa), (0, pr), (0, ((nxL t s1 : Nat) : Int)), (0, (i : Int)), u6, u7] [(0, 0), (0, fa)] h3 (xql Q) else xT (d + 4) M_R_layOn 73 [(1, 59), (0, (o : Int)), (0, fa), (0, pr), (0, ((nxL t s1 : Nat) : Int)), (0, (i : Int)), u6, u7] [(0, 1), (0, fa)] h3 (xql Q)) := fun fa pr u6 ef ep => by
          refine c_R_off (d := d) (on := on) C2 PL iP lt tk (fun j hj => by rw [k123 j (by omega), gd, if_neg (by omega)]) (by rw [k123 i (by omega), gd, if_pos rfl]) onb (fun h3 F3 => ?_)
          have F3' : Fr onL [] h2 h3 := Fr_mono F3 (by decide) (fun c mm => mm)
          have C3 := RCx_fr C2 (Fr_mono F3 (by decide) (fun c mm => absurd mm List.not_mem_nil))
          have r3 : ∀ j : Nat, j < i + 1 → h3.i 123 (j : Int) = (on ++ [((nxL t s1 : Nat) : Int)]).getD j (-1) := fun j hj => by
            rw [Fr_row F3 (by decide) (fun c mm => absurd mm List.not_mem_nil)]; exact k123 j hj
          have fb : 0 ≤ fa ∧ fa ≤ s2 + 1 := by rw [ef]; split <;> omega
          have ob : offV (jD h0 t W) on i (nxL t s1) = 0 ∨ offV (jD h0 t W) on i (nxL t s1) = 1 := by
            unfold offV
            split
            · exact Or.inr rfl
            · exact Or.inl rfl
          have fin : ∀ (u2 : xV) (s0 : Int), s0 = offV (jD h0 t W) on i (nxL t s1) → xT (d + 4) M_R_layOn 73 [(1, 59), (0, (o : Int)), u2, (0, pr), (0, ((nxL t s1 : Nat) : Int)), (0, (i : Int)), u6, u7] [(0, s0), (0, fa)] h3 (xql Q) := fun u2 s0 es => by
            refine c_R_lo73 (d := d) (on := on) C3 PL iP lt tk (fun j hj => by rw [r3 j (by omega), gd, if_neg (by omega)]) onb fb.1 (by omega) (by omega) (by omega) (fun u6 u7 => ?_)
            have key := ih (i + 1) h3 u6 u7 (by omega) (Fr_trans F (Fr_trans F1 (Fr_trans F2 F3')))
            rw [eS'] at key
            rw [es, ef, ep]
            exact key r3
          rcases ob with ob | ob
          · rw [ob, if_pos rfl]
            exact fin _ 0 ob.symm
          · rw [ob, if_neg (by decide)]
            exact fin _ 1 ob.symm
        by_cases c3 : (jD h0 t W).C (nxL t s1) (f : Int) = -1
        · rw [if_pos c3]
          intro x4 ex4
          have z := go (s2 + 1) s3 (0, (jD h0 t W).C (nxL t s1) (f : Int)) (by rw [if_pos c3]) (by rw [if_pos c3, Int.add_zero])
          rw [ex4, xw_id (a := s2 + 1) (by omega) (by omega)]
          exact z
        · rw [if_neg c3]
          intro x5 ex5
          have z := go s2 (s3 + (jD h0 t W).C (nxL t s1) (f : Int)) (0, (jD h0 t W).C (nxL t s1) (f : Int)) (by rw [if_neg c3, Int.add_zero]) (by rw [if_neg c3])
          rw [ex5, xw_id (a := s3 + (jD h0 t W).C (nxL t s1) (f : Int)) (by omega) (by omega)]
          exact z
theorem c_R_jlay {Q : Int → xH → Prop} (I : INV n0 h0) (P0 : XPo h0 t W) (PL : PlI h0 P m) {o : Nat} (ho : o < 4096) {h : xH} (C : RCx h0 h t W) (CC : ∀ k f : Nat, k < 12 → f < 8 → h.i 122 ((8 * k + f : Nat) : Int) = (jD h0 t W).C k (f : Int)) (H : ∀ h', Fr onL [] h h' → (∀ j : Nat, j < P → h'.i 123 (j : Int) = (jOn (jD h0 t W) o.testBit P).getD j (-1)) → Q (1000000 * jFa (jD h0 t W) o.testBit P + jPr (jD h0 t W) o.testBit P) h') : xCl (d + 5) M_R_layOn [(1, 59), (0, (o : Int))] h Q := by
  apply L_R_layOn
  have key := c_R_lo8 (d := d) I P0 PL ho C CC H P 0 h (9, 0) (9, 0) (by omega) (Fr_refl _ _ _) (fun j hj => absurd hj (Nat.not_lt_zero _))
  exact key
end JL
