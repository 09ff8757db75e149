/-! fits: withWord as a whole -/
section WW2
variable {d : Nat} {Q : Int → xH → Prop} {p e : Int} {ws : List Wd} {W : Nat}
theorem ws_splitW (ok : ∀ x ∈ ws, WdOk x) (hW : W < ws.length) (v : Wd) : flat ws = flat (ws.take W) ++ (fsyl (W : Int) (ws.getD W wd0).2.1 0 (ws.getD W wd0).2.2 ++ flatF ((W : Int) + 1) (ws.drop (W + 1))) ∧ txt ws = txt (ws.take W) ++ ((ws.getD W wd0).1 ++ txt (ws.drop (W + 1))) ∧ flat (ws.set W v) = flat (ws.take W) ++ (fsyl (W : Int) v.2.1 0 v.2.2 ++ flatF ((W : Int) + 1) (ws.drop (W + 1))) ∧ txt (ws.set W v) = txt (ws.take W) ++ (v.1 ++ txt (ws.drop (W + 1))) := by
  have eg : ws.getD W wd0 = ws[W] := by rw [List.getD_eq_getElem?_getD, List.getElem?_eq_getElem hW]; rfl
  have esp : ws = ws.take W ++ (ws.getD W wd0 :: ws.drop (W + 1)) := by
    rw [eg, ← List.drop_eq_getElem_cons hW, List.take_append_drop]
  have lt : (ws.take W).length = W := by rw [List.length_take]; omega
  have gf : ∀ x : Wd, flat (ws.take W ++ (x :: ws.drop (W + 1))) = flat (ws.take W) ++ (fsyl (W : Int) x.2.1 0 x.2.2 ++ flatF ((W : Int) + 1) (ws.drop (W + 1))) := fun x => by
    unfold flat
    rw [flatF_ap, flatF, lt, Int.zero_add]
  have gt : ∀ x : Wd, txt (ws.take W ++ (x :: ws.drop (W + 1))) = txt (ws.take W) ++ (x.1 ++ txt (ws.drop (W + 1))) := fun x => by rw [txt_ap, txt_c]
  refine ⟨?_, ?_, ?_, ?_⟩
  · have := gf (ws.getD W wd0)
    rw [← esp] at this; exact this
  · have := gt (ws.getD W wd0)
    rw [← esp] at this; exact this
  · rw [List.set_eq_take_append_cons_drop, if_pos hW]; exact gf v
  · rw [List.set_eq_take_append_cons_drop, if_pos hW]; exact gt v
set_option maxHeartbeats 1000000 in
theorem c_X_withWord {h : xH} {b : Int} {D : List Int} {Lp : List (Int × Int)} (ok : LnOk ws) (hW : W < ws.length) (SX_ : SX h) (O : LineO h p ws) (z18 : h.i 18 0 = 0) (b0 : 0 ≤ b) (b1 : b < h.i 7 2) (b40 : h.i 7 2 ≤ 40) (eE : h.r 8 b = e) (E : EntO h e D Lp) (hV : bits26 (h.i 5)) (lc : ∀ c ∈ D, 97 ≤ c ∧ c ≤ 122) (d16 : D.length ≤ 16) (l16 : Lp.length ≤ 16) (H1 : (flat (ws.set W (D, 1, mkSy (h.i 6) (h.i 5) D 0 Lp))).length ≤ 40 → ∀ h', Fr drL drS h h' → Dr h' (flat (ws.set W (D, 1, mkSy (h.i 6) (h.i 5) D 0 Lp))) (txt (ws.set W (D, 1, mkSy (h.i 6) (h.i 5) D 0 Lp))) → Q 16 h') (H0 : 40 < (flat (ws.set W (D, 1, mkSy (h.i 6) (h.i 5) D 0 Lp))).length → ∀ h', Fr drL drS h h' → h'.i 18 0 = 0 → Q 0 h') : xCr (d + 7) M_LineReader_withWord [(1, 15), (1, p), (0, (W : Int)), (0, b)] h Q := by
  have g : h.tag 15 = 3 ∧ h.r 15 1 = 7 ∧ h.tag 7 = 0 ∧ h.r 7 1 = 8 ∧ h.tag 8 = 23 ∧ h.len 8 = 40 ∧ h.r 15 2 = 16 ∧ h.tag 16 = 9 ∧ h.r 16 1 = 18 := by simp only [sxt SX_, sxl SX_, sxf SX_, true_and, and_true, false_and, and_false, forall_eq, forall_eq', xi_wi, xr_wi, xt_wi, xl_wi, xn_wi, xs_wi, xi_wr, xr_wr, xt_wr, xl_wr, xn_wr, xs_wr, if_true, if_false, and_self, Int.reduceEq, Int.reduceLT, Int.reduceLE, Int.reduceNeg, Int.le_refl, Int.reduceMod]
  obtain ⟨g1, g2, g3, g4, g5, g6, g7, g8, g9⟩ := g
  have okT : ∀ x ∈ ws.take W, WdOk x := fun x m => ok.2.2 x (List.mem_of_mem_take m)
  have okR : ∀ x ∈ ws.drop (W + 1), WdOk x := fun x m => ok.2.2 x (List.mem_of_mem_drop m)
  have okd : WdOk (ws.getD W wd0) := ok.2.2 _ (getD_mem wd0 hW)
  have S4 := ws_splitW ok.2.2 hW (D, 1, mkSy (h.i 6) (h.i 5) D 0 Lp)
  obtain ⟨eL, eT, eF, eX⟩ := S4
  rw [eF, eX] at H1
  rw [eF] at H0
  have lt : (ws.take W).length = W := by rw [List.length_take]; omega
  have p1 : psm (flat (ws.take W)) (flat (ws.take W)).length = (((txt (ws.take W)).length : Nat) : Int) := psm_all _ 0 okT
  have pw : psm (fsyl (W : Int) (ws.getD W wd0).2.1 0 (ws.getD W wd0).2.2) (fsyl (W : Int) (ws.getD W wd0).2.1 0 (ws.getD W wd0).2.2).length = (((ws.getD W wd0).1.length : Nat) : Int) := by
    unfold psm
    rw [List.take_length, fsyl_n]; exact okd.2.2.2.2.2.2
  have pa : psm (flat ws) (flat ws).length = (((txt ws).length : Nat) : Int) := psm_all ws 0 ok.2.2
  have lw1 : 1 ≤ (fsyl (W : Int) (ws.getD W wd0).2.1 0 (ws.getD W wd0).2.2).length := by rw [fsyl_len]; exact okd.2.2.2.2.1
  have nl : (fsyl (W : Int) 1 0 (mkSy (h.i 6) (h.i 5) D 0 Lp)).length = Lp.length := by rw [fsyl_len, mkSy_len]
  have tl1 := txt_le (ws.take W) okT
  have tl2 := txt_le (ws.drop (W + 1)) okR
  rw [lt] at tl1
  rw [List.length_drop] at tl2
  have o1 := ok.1
  have o2 := ok.2.1
  have hi1 : ∀ q ∈ flat (ws.take W), q.w < (W : Int) := fun q m => by
    have := flatF_hi (w := 0) okT q m
    rw [lt] at this; omega
  have hi2 : ∀ q ∈ fsyl (W : Int) (ws.getD W wd0).2.1 0 (ws.getD W wd0).2.2, q.w = (W : Int) := fun q m => fsyl_w _ _ _ m
  have hi3 : ∀ q ∈ flatF ((W : Int) + 1) (ws.drop (W + 1)), (W : Int) + 1 ≤ q.w := fun q m => (flatF_hi okR q m).1
  have tT : (txt ws).length = (txt (ws.take W)).length + ((ws.getD W wd0).1.length + (txt (ws.drop (W + 1))).length) := by rw [eT, List.length_append, List.length_append]
  have fT : (flat ws).length = (flat (ws.take W)).length + ((fsyl (W : Int) (ws.getD W wd0).2.1 0 (ws.getD W wd0).2.2).length + (flatF ((W : Int) + 1) (ws.drop (W + 1))).length) := by rw [eL, List.length_append, List.length_append]
  have nS : (flat (ws.take W) ++ (fsyl (W : Int) 1 0 (mkSy (h.i 6) (h.i 5) D 0 Lp) ++ flatF ((W : Int) + 1) (ws.drop (W + 1)))).length = (flat (ws.take W)).length + (Lp.length + (flatF ((W : Int) + 1) (ws.drop (W + 1))).length) := by rw [List.length_append, List.length_append, nl]
  have H1 : (flat (ws.take W)).length + (Lp.length + (flatF ((W : Int) + 1) (ws.drop (W + 1))).length) ≤ 40 → ∀ h', Fr drL drS h h' → Dr h' (flat (ws.take W) ++ (fsyl (W : Int) 1 0 (mkSy (h.i 6) (h.i 5) D 0 Lp) ++ flatF ((W : Int) + 1) (ws.drop (W + 1)))) (txt (ws.take W) ++ (D ++ txt (ws.drop (W + 1)))) → Q 16 h' := fun le => H1 (Nat.le_trans (Nat.le_of_eq nS) le)
  have H0 : 40 < (flat (ws.take W)).length + (Lp.length + (flatF ((W : Int) + 1) (ws.drop (W + 1))).length) → ∀ h', Fr drL drS h h' → h'.i 18 0 = 0 → Q 0 h' := fun lt => H0 (Nat.lt_of_lt_of_le lt (Nat.le_of_eq nS.symm))
  clear nS eF eX
  generalize eN : fsyl (W : Int) 1 0 (mkSy (h.i 6) (h.i 5) D 0 Lp) = N at H1 nl
  generalize eL1 : flat (ws.take W) = L1 at *
  generalize eLw : fsyl (W : Int) (ws.getD W wd0).2.1 0 (ws.getD W wd0).2.2 = Lw at *
  generalize eL2 : flatF ((W : Int) + 1) (ws.drop (W + 1)) = L2 at *
  generalize eT1 : txt (ws.take W) = T1 at *
  generalize eT2 : txt (ws.drop (W + 1)) = T2 at *
  generalize eTw : (ws.getD W wd0).1 = Tw at *
  have ps1 : psm (flat ws) L1.length = ((T1.length : Nat) : Int) := by rw [eL, psm_app_l (Nat.le_refl _)]; exact p1
  have ps2 : psm (flat ws) (L1.length + Lw.length) = ((T1.length : Nat) : Int) + ((Tw.length : Nat) : Int) := by
    rw [eL, psm_app_r (by omega), show L1.length + Lw.length - L1.length = Lw.length by omega, psm_app_l (Nat.le_refl _), pw]
    have : (L1.map FS.n).sum = psm L1 L1.length := by unfold psm; rw [List.take_length]
    rw [this, p1]
  have w1 : ∀ j, 0 ≤ j → j < 0 + L1.length → ((flat ws).getD j fs0).w ≠ (W : Int) := fun j _ hj => by
    rw [eL, getD_app_l fs0 (by omega)]
    have := hi1 _ (getD_mem fs0 (show j < L1.length by omega))
    omega
  have w2 : ∀ j, L1.length ≤ j → j < L1.length + Lw.length → ((flat ws).getD j fs0).w = (W : Int) := fun j j0 j1 => by
    rw [eL, getD_app_r fs0 j0, getD_app_l fs0 (by omega)]
    exact hi2 _ (getD_mem fs0 (by omega))
  have w3 : ∀ j, L1.length + Lw.length ≤ j → j < L1.length + Lw.length + L2.length → ((flat ws).getD j fs0).w ≠ (W : Int) := fun j j0 j1 => by
    rw [eL, getD_app_r fs0 (by omega), getD_app_r fs0 (by omega)]
    have := hi3 _ (getD_mem fs0 (show j - L1.length - Lw.length < L2.length by omega))
    omega
  have e130 : ¬ e = 0 := by have := E.1; omega
  apply L_LineReader_withWord
  rw [g2]
  refine ⟨g1, g3, ?_⟩
  apply L_Book_wordAt
  rw [if_neg (by omega), if_pos b1, g4, g6, eE, if_neg e130, g7]
  refine ⟨g3, ⟨g5, b0, by omega⟩, g1, g8, ?_⟩
  apply L_Syllables_empty
  refine ⟨g8, fun h3 e3 => ?_⟩
  have F3 : Fr drL drS h h3 := by rw [e3]; exact Fr_slot (Fr_refl _ _ _) _ (by decide)
  have SX3 := SX_2 F3.1 SX_
  have D3 : Dr h3 [] [] := by
    refine ⟨⟨by rw [e3]; show xH.i _ 16 6 = 0; rw [xi_wi, if_pos ⟨rfl, rfl⟩], fun i hi => absurd hi (Nat.not_lt_zero _), fun i hi => ?_, fun k hk => absurd hk (Nat.not_lt_zero _)⟩, rfl⟩
    have : i = 0 := Nat.le_zero.mp hi
    rw [this]
    show h3.i (h3.r 16 1) 0 = 0
    rw [(fr_same F3).1, g9, e3, xi_wi, if_neg (fun z => absurd z.1 (by decide))]
    exact z18
  clear e3
  have O3 := LineO_fr F3 (by decide) O
  refine c_X_wwC (d := d) ok L1.length 0 h3 [] [] _ SX3 O3 D3 (Nat.zero_le _) (by omega) w1 (by show (0 : Int) + _ ≤ 192; rw [Nat.zero_add, ps1, psm_0]; omega) (fun le h4 u7 F4 D4 => ?_) (fun gt h4 F4 z => H0 (by have gt : 40 < 0 + L1.length := gt; omega) h4 (Fr_trans F3 F4) z)
  rw [Nat.zero_add, ps1, psm_0, List.drop_zero, List.nil_append, List.nil_append] at D4
  have D4' : Dr h4 L1 T1 := by
    have a : (flat ws).take L1.length = L1 := by rw [eL, List.take_left]
    have b : sgT (txt ws) 0 (((T1.length : Nat) : Int) - 0) = T1 := by
      unfold sgT
      rw [show (0 : Int).toNat = 0 from rfl, List.drop_zero, show (((T1.length : Nat) : Int) - 0).toNat = T1.length by omega, eT, List.take_left]
    rw [a, b] at D4; exact D4
  clear D4
  have le1 : L1.length ≤ 40 := by have le : 0 + L1.length ≤ 40 := le; omega
  have F4' : Fr drL drS h h4 := Fr_trans F3 F4
  have SX4 := SX_2 F4.1 SX3
  have O4 := LineO_fr F4 (by decide) O3
  have O4' := O4
  obtain ⟨⟨q1, q2, q3, q4, q5, q6, q7, q8, q9, q10, q11, q12, q13, q14, q15, q16, q17, q18, q19⟩, O2, x0, x1, x2, x3⟩ := O4'
  have x0 : h4.i p 6 = (((flat ws).length : Nat) : Int) := x0
  have y2 := (x1 L1.length (by omega)).1
  rw [show XV h4 p 3 ((L1.length : Nat) : Int) = h4.i (h4.r p 2) ((L1.length : Nat) : Int) from rfl, q6, w2 L1.length (Nat.le_refl _) (by omega)] at y2
  have ec : ((0 : Nat) : Int) + ((L1.length : Nat) : Int) = ((L1.length : Nat) : Int) := by omega
  rw [ec]
  apply L_LineReader_withWord_16
  rw [x0, q6, y2]
  refine ⟨q3, ?_⟩
  rw [if_pos (by omega), if_pos rfl, if_pos rfl]
  refine ⟨⟨q11, by omega, by omega⟩, by rw [(fr_same F4').2.1]; exact g1, ?_⟩
  have E4 := EntO_fr F4' E
  have i6 : h4.i 6 = h.i 6 := Fr_row F4' (by decide) (by decide)
  have i5 : h4.i 5 = h.i 5 := Fr_row F4' (by decide) (by decide)
  apply L_LineReader_addEntry
  have key := c_X_addEnt2 (d := d) (P := h.i 6) (V := h.i 5) (D := D) (T0 := T1) (p := e) (w := (W : Int)) (L := Lp) (Q := fun r1 h1 => if r1 = 0 then Q 0 h1 else ∀ x1 : Int, x1 = xw (((L1.length : Nat) : Int) + 1) → xT (d + 6) M_LineReader_withWord 16 [(1, 15), (1, p), (0, (W : Int)), (0, b), (1, e), (0, 1), (0, x1), (0, r1)] [] h1 (xqr Q)) hV lc d16 (by omega) Lp.length 0 L1 h4 (Nat.zero_add _) SX4 i6 i5 E4 l16 (by show Dr h4 L1 (T1 ++ D.take (0 : Int).toNat); rw [show (0 : Int).toNat = 0 from rfl, List.take_zero, List.append_nil]; exact D4') le1 (fun le h5 F5 D5 => ?_) (fun gt h5 F5 z => by rw [if_pos rfl]; exact H0 (by omega) h5 (Fr_trans F4' F5) z)
  · exact key
  · rw [if_neg (by decide)]
    intro x1 ex
    rw [xw_id (by omega) (by omega)] at ex
    rw [ex]
    have D5 : Dr h5 (L1 ++ N) (T1 ++ D) := by rw [← eN]; exact D5
    have F5' : Fr drL drS h h5 := Fr_trans F4' F5
    have SX5 := SX_2 F5.1 SX4
    have O5 := LineO_fr F5 (by decide) O4
    have sk := c_X_wwS (d := d) (Q := Q) (W := (W : Int)) (e := e) (u3 := (0, b)) ok SX5 O5 (Lw.length - 1) (L1.length + 1) (0, 1) (by omega) (fun j j0 j1 => w2 j (by omega) (by omega)) (fun u7 => ?_)
    · push_cast at sk; exact sk
    · rw [show (((L1.length + 1 : Nat) : Int)) + ((Lw.length - 1 : Nat) : Int) = ((L1.length + Lw.length : Nat) : Int) by omega]
      have ends : L1.length + Lw.length + L2.length = (flat ws).length := by omega
      refine c_X_wwC (d := d) ok L2.length (L1.length + Lw.length) h5 (L1 ++ N) (T1 ++ D) u7 SX5 O5 D5 (by rw [List.length_append, nl]; omega) (by omega) w3 (by rw [ends, pa, ps2, List.length_append]; push_cast; omega) (fun le h6 u7 F6 D6 => ?_) (fun gt h6 F6 z => H0 (by rw [List.length_append, nl] at gt; omega) h6 (Fr_trans F5' F6) z)
      rw [List.length_append, nl] at le
      have O6 := LineO_fr F6 (by decide) O5
      have F6' : Fr drL drS h h6 := Fr_trans F5' F6
      have x60 : h6.i p 6 = (((flat ws).length : Nat) : Int) := O6.2.2.1
      have fs6 := fr_same F6'
      rw [ends, pa, ps2] at D6
      have a : ((flat ws).drop (L1.length + Lw.length)).take L2.length = L2 := by
        rw [eL, ← List.append_assoc, show L1.length + Lw.length = (L1 ++ Lw).length by rw [List.length_append], List.drop_left, List.take_length]
      have b' : sgT (txt ws) (((T1.length : Nat) : Int) + ((Tw.length : Nat) : Int)) ((((txt ws).length : Nat) : Int) - (((T1.length : Nat) : Int) + ((Tw.length : Nat) : Int))) = T2 := by
        unfold sgT
        rw [show (((T1.length : Nat) : Int) + ((Tw.length : Nat) : Int)).toNat = (T1 ++ Tw).length by rw [List.length_append]; omega, show ((((txt ws).length : Nat) : Int) - (((T1.length : Nat) : Int) + ((Tw.length : Nat) : Int))).toNat = T2.length by omega, eT, ← List.append_assoc, List.drop_left, List.take_length]
      rw [a, b', List.append_assoc, List.append_assoc] at D6
      apply L_LineReader_withWord_16
      rw [x60, fs6.2.1, fs6.1, g7]
      refine ⟨by have := O6.1.2.2.1; rw [fs6.2.1] at this; exact this, ?_⟩
      rw [if_neg (by omega)]
      exact ⟨g1, H1 (by omega) h6 F6' D6⟩
end WW2
