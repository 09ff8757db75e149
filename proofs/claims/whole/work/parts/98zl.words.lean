/-! judge: whether two lines have the same words, both sides -/
def swE (ws vs : List Wd) : Prop := ws.map (fun d => d.1) = vs.map (fun d => d.1)
theorem sw_len {ws vs : List Wd} (e : swE ws vs) : ws.length = vs.length := by
  have := congrArg List.length e
  rw [List.length_map, List.length_map] at this
  exact this
theorem sw_get {ws vs : List Wd} (e : swE ws vs) (j : Nat) : (ws.getD j wd0).1 = (vs.getD j wd0).1 := by
  have a : ∀ us : List Wd, (us.getD j wd0).1 = (us.map (fun d => d.1)).getD j [] := fun us => by
    by_cases c : j < us.length
    · rw [map_gd (z := wd0) c]
    · rw [List.getD_eq_getElem?_getD, List.getElem?_eq_none (by omega), List.getD_eq_getElem?_getD, List.getElem?_eq_none (by rw [List.length_map]; omega)]; rfl
  rw [a, a]
  unfold swE at e
  rw [e]
theorem sw_of {ws vs : List Wd} (e : ws.length = vs.length) (H : ∀ j, j < ws.length → (ws.getD j wd0).1 = (vs.getD j wd0).1) : swE ws vs := by
  unfold swE
  refine List.ext_getElem (by rw [List.length_map, List.length_map]; exact e) (fun j h1 h2 => ?_)
  rw [List.length_map] at h1 h2
  have := H j h1
  rw [List.getD_eq_getElem?_getD, List.getElem?_eq_getElem h1, List.getD_eq_getElem?_getD, List.getElem?_eq_getElem h2] at this
  rw [List.getElem_map, List.getElem_map]
  exact this
theorem sw_txt {ws vs : List Wd} (e : swE ws vs) : txt ws = txt vs := by
  unfold txt
  unfold swE at e
  rw [e]
theorem sw_tsm {ws vs : List Wd} (e : swE ws vs) (j : Nat) : tsm ws j = tsm vs j := by
  have a : ∀ us : List Wd, tsm us j = (((us.map (fun d => d.1)).take j).map List.length).sum := fun us => by
    unfold tsm
    rw [← List.map_take, List.map_map]
    rfl
  rw [a, a]
  unfold swE at e
  rw [e]
theorem txt_tsm (ws : List Wd) (j : Nat) : (txt (ws.take j)).length = tsm ws j := by
  unfold txt tsm
  rw [List.length_flatten, List.map_map]
  rfl
theorem tsm_s {ws : List Wd} {j : Nat} (hj : j < ws.length) : tsm ws (j + 1) = tsm ws j + (ws.getD j wd0).1.length := by
  unfold tsm
  rw [List.take_succ_eq_append_getElem hj, List.map_append, List.sum_append, List.getD_eq_getElem?_getD, List.getElem?_eq_getElem hj]
  simp only [List.map_cons, List.map_nil, List.sum_cons, List.sum_nil, Option.getD_some]
  omega
theorem ext_gD {A B : List Int} (el : A.length = B.length) (H : ∀ k, k < A.length → A.getD k 0 = B.getD k 0) : A = B := by
  refine List.ext_getElem el (fun k h1 h2 => ?_)
  have := H k h1
  rw [List.getD_eq_getElem?_getD, List.getElem?_eq_getElem h1, List.getD_eq_getElem?_getD, List.getElem?_eq_getElem h2] at this
  exact this
theorem sw_back {ws vs : List Wd} (el : ws.length = vs.length) (et : txt ws = txt vs) (H : ∀ j, j < ws.length → tsm ws (j + 1) = tsm vs (j + 1)) : swE ws vs := by
  have H0 : ∀ j, j ≤ ws.length → tsm ws j = tsm vs j := fun j hj => by
    cases j with
    | zero => rfl
    | succ j => exact H j hj
  refine sw_of el (fun j hj => ?_)
  have a := H0 j (by omega)
  have b := H0 (j + 1) hj
  rw [tsm_s hj, tsm_s (by omega)] at b
  have len : (ws.getD j wd0).1.length = (vs.getD j wd0).1.length := by omega
  refine ext_gD len (fun k h1 => ?_)
  have x := (txt_get ws j k hj h1).2
  have y := (txt_get vs j k (by omega) (by omega)).2
  rw [et, a] at x
  exact x.symm.trans y
section SWX
variable {d : Nat} {h : xH} {Q : Int → xH → Prop} {p o : Int} {ws vs : List Wd}
theorem c_X_through {w : Nat} (ok : LnOk ws) (O : LineO h p ws) (hw : w < ws.length) (H : Q ((tsm ws (w + 1) : Nat) : Int) h) : xCi (d + 1) M_Syllables_lettersThrough [(1, p), (0, (w : Int))] h Q := by
  obtain ⟨⟨b1, b2, b3, b4, b5, b6, b7, b8, b9, b10, b11, b12, b13, b14, b15, b16, b17, b18, b19⟩, O2, x0, x1, x2, x3⟩ := O
  have x0 : h.i p 6 = (((flat ws).length : Nat) : Int) := x0
  have o2 := ok.2.1
  have okT : ∀ x ∈ ws.take (w + 1), WdOk x := fun x m => ok.2.2 x (List.mem_of_mem_take m)
  have okD : ∀ x ∈ ws.drop (w + 1), WdOk x := fun x m => ok.2.2 x (List.mem_of_mem_drop m)
  have lt : (ws.take (w + 1)).length = w + 1 := by rw [List.length_take]; omega
  have eL : flat ws = flat (ws.take (w + 1)) ++ flatF ((w : Int) + 1) (ws.drop (w + 1)) := by
    have := flatF_ap (ws.take (w + 1)) (ws.drop (w + 1)) 0
    rw [List.take_append_drop, lt] at this
    unfold flat
    rw [this, show (0 : Int) + ((w + 1 : Nat) : Int) = (w : Int) + 1 by push_cast; omega]
  have pK : psm (flat ws) (flat (ws.take (w + 1))).length = ((tsm ws (w + 1) : Nat) : Int) := by
    rw [eL, psm_app_l (Nat.le_refl _), ← txt_tsm]
    exact psm_all _ 0 okT
  have hi1 : ∀ q ∈ flat (ws.take (w + 1)), q.w ≤ (w : Int) := fun q m => by
    have := (flatF_hi (w := 0) okT q m).2
    rw [lt] at this
    push_cast at this
    omega
  have hi2 : ∀ q ∈ flatF ((w : Int) + 1) (ws.drop (w + 1)), (w : Int) + 1 ≤ q.w := fun q m => (flatF_hi okD q m).1
  have lK : (flat (ws.take (w + 1))).length ≤ (flat ws).length := by rw [eL, List.length_append]; omega
  generalize eK : (flat (ws.take (w + 1))).length = K at pK lK
  have from_ : ∀ i : Nat, i ≤ (flat ws).length → h.i (p + 2) (i : Int) = psm (flat ws) i := fun i hi => by
    have := x2 i hi
    rw [show XV h p 2 i = h.i (h.r p 1) i from rfl, b5] at this
    exact this
  have lp : ∀ (n i : Nat), i + n = K → xT d M_Syllables_lettersThrough 2 [(1, p), (0, (w : Int)), (0, (i : Int))] [] h (xqi Q) := by
    intro n
    induction n with
    | zero =>
      intro i hi
      have e : i = K := by omega
      subst e
      have fr := from_ i lK
      rw [pK] at fr
      apply L_Syllables_lettersThrough_2
      rw [x0, b5, b6, fr]
      refine ⟨b3, ?_⟩
      by_cases c : (i : Int) < (((flat ws).length : Nat) : Int)
      · rw [if_pos c]
        have y2 := (x1 i (by omega)).1
        rw [show XV h p 3 i = h.i (h.r p 2) i from rfl, b6] at y2
        rw [y2]
        refine ⟨⟨b11, by omega, by omega⟩, ?_⟩
        have gt : (w : Int) < ((flat ws).getD i fs0).w := by
          have li : i < (flat (ws.take (w + 1))).length + (flatF ((w : Int) + 1) (ws.drop (w + 1))).length := by
            rw [← List.length_append, ← eL]; omega
          rw [eL, getD_app_r fs0 (by omega)]
          have := hi2 _ (getD_mem fs0 (show i - (flat (ws.take (w + 1))).length < (flatF ((w : Int) + 1) (ws.drop (w + 1))).length by omega))
          omega
        rw [if_pos gt]
        exact ⟨⟨b10, by omega, by omega⟩, H⟩
      · rw [if_neg c]
        exact ⟨⟨b10, by omega, by omega⟩, H⟩
    | succ n ih =>
      intro i hi
      apply L_Syllables_lettersThrough_2
      have y2 := (x1 i (by omega)).1
      rw [show XV h p 3 i = h.i (h.r p 2) i from rfl, b6] at y2
      rw [x0, b6, y2]
      refine ⟨b3, ?_⟩
      rw [if_pos (by omega)]
      refine ⟨⟨b11, by omega, by omega⟩, ?_⟩
      have le : ((flat ws).getD i fs0).w ≤ (w : Int) := by
        rw [eL, getD_app_l fs0 (by omega)]
        exact hi1 _ (getD_mem fs0 (by omega))
      rw [if_neg (by omega)]
      intro x1 e1
      rw [xw_id (by omega) (by omega)] at e1
      rw [e1]
      have := ih (i + 1) (by omega)
      push_cast at this
      exact this
  apply L_Syllables_lettersThrough
  exact lp K 0 (Nat.zero_add _)
theorem c_X_sw17 (ok : LnOk ws) (okv : LnOk vs) (O : LineO h p ws) (V : LineO h o vs) (el : ws.length = vs.length) (et : txt ws = txt vs) (H1 : swE ws vs → Q 1 h) (H0 : ¬ swE ws vs → Q 0 h) : ∀ (n w : Nat), w + n = ws.length → (∀ j, j < w → tsm ws (j + 1) = tsm vs (j + 1)) → xT (d + 2) M_Syllables_sameWords 17 [(1, p), (1, o), (0, (w : Int))] [] h (xqi Q) := by
  have t1 := O.1.2.2.1
  have t2 := V.1.2.2.1
  have o1 := ok.1
  intro n
  induction n with
  | zero =>
    intro w hw pre
    apply L_Syllables_sameWords_17
    refine ⟨t1, ?_⟩
    refine c_X_wordCount (d := d + 1) ok O.2.2 (XSh_B O.1 ok O.2.2) ?_
    rw [if_neg (by omega)]
    exact H1 (sw_back el et (fun j hj => pre j (by omega)))
  | succ n ih =>
    intro w hw pre
    apply L_Syllables_sameWords_17
    refine ⟨t1, ?_⟩
    refine c_X_wordCount (d := d + 1) ok O.2.2 (XSh_B O.1 ok O.2.2) ?_
    rw [if_pos (by omega)]
    refine ⟨t1, ?_⟩
    refine c_X_through (d := d + 1) ok O (by omega) ?_
    refine ⟨t2, ?_⟩
    refine c_X_through (d := d + 1) okv V (by omega) ?_
    by_cases c : tsm ws (w + 1) = tsm vs (w + 1)
    · rw [if_pos (by omega)]
      intro x1 e1
      rw [xw_id (by omega) (by omega)] at e1
      rw [e1]
      have := ih (w + 1) (by omega) (fun j hj => by
        by_cases z : j = w
        · rw [z]; exact c
        · exact pre j (by omega))
      push_cast at this
      exact this
    · rw [if_neg (by omega)]
      exact H0 (fun z => c (sw_tsm z (w + 1)))
theorem c_X_sameWords (ok : LnOk ws) (okv : LnOk vs) (O : LineO h p ws) (V : LineO h o vs) (H1 : swE ws vs → Q 1 h) (H0 : ¬ swE ws vs → Q 0 h) : xCi (d + 3) M_Syllables_sameWords [(1, p), (1, o)] h Q := by
  have t1 := O.1.2.2.1
  have t2 := V.1.2.2.1
  have o1 := ok.1
  have v1 := okv.1
  have tl := txt_le ws ok.2.2
  have tv := txt_le vs okv.2.2
  have tc := txt_lc ok.2.2
  have tcv := txt_lc okv.2.2
  have lets1 : ∀ k : Nat, k < (txt ws).length → h.i (p + 1) (k : Int) = (txt ws).getD k 0 := fun k hk => by
    have := O.2.2.2.2.2 k hk
    rw [show XV h p 1 k = h.i (h.r p 0) k from rfl, O.1.2.2.2.1] at this
    exact this
  have lets2 : ∀ k : Nat, k < (txt vs).length → h.i (o + 1) (k : Int) = (txt vs).getD k 0 := fun k hk => by
    have := V.2.2.2.2.2 k hk
    rw [show XV h o 1 k = h.i (h.r o 0) k from rfl, V.1.2.2.2.1] at this
    exact this
  have Zp := XSh_B O.1 ok O.2.2
  have Zo := XSh_B V.1 okv V.2.2
  apply L_Syllables_sameWords
  refine ⟨t1, ?_⟩
  refine c_X_wordCount (d := d + 1) ok O.2.2 Zp ?_
  refine ⟨t2, ?_⟩
  refine c_X_wordCount (d := d + 1) okv V.2.2 Zo ?_
  by_cases c : ws.length = vs.length
  · rw [if_pos (by omega)]
    refine ⟨t2, ?_⟩
    refine c_X_letterCount (d := d + 1) okv V.2.2 Zo ?_
    refine ⟨t1, ?_⟩
    have r1 := O.1.2.2.2.1
    have r2 := V.1.2.2.2.1
    have r1b := O.1.2.2.2.2.1
    have i6 : h.i p 6 = (((flat ws).length : Nat) : Int) := O.2.2.1
    have X : XLet h p (h.i (p + 1)) (((txt ws).length : Nat) : Int) := by
      have zn := O.2.2.2.2.1 (flat ws).length (Nat.le_refl _)
      have pa : psm (flat ws) (flat ws).length = (((txt ws).length : Nat) : Int) := psm_all ws 0 ok.2.2
      rw [show XV h p 2 (((flat ws).length : Nat) : Int) = h.i (h.r p 1) (((flat ws).length : Nat) : Int) from rfl, pa] at zn
      refine ⟨t1, Zp.2.1, Zp.2.2.1, by omega, by omega, Zp.2.2.2.2.2.2.1, by omega, by rw [i6]; have := Zp.2.2.2.2.2.2.2.1; omega, by rw [i6]; exact zn, by rw [r1], fun j j0 j1 => ?_⟩
      obtain ⟨k, rfl⟩ : ∃ k : Nat, j = (k : Int) := ⟨j.toNat, by omega⟩
      rw [lets1 k (by omega)]
      exact tc _ (getD_mem 0 (by omega))
    have e0 : (((txt vs).length : Nat) : Int) - 0 = (((txt vs).length : Nat) : Int) := by omega
    refine c_cmp (d := d) (g := h.i (o + 1)) X Zo.2.1 (Int.le_refl _) (by omega) Zo.2.2.2.2.2.2.1 (by omega) (fun j => by rw [r2, show (0 : Int) + j = j by omega]) (fun j j0 j1 => ?_) (fun v v0 _ => ?_)
    · rw [e0] at j1
      obtain ⟨k, rfl⟩ : ∃ k : Nat, j = (k : Int) := ⟨j.toNat, by omega⟩
      rw [lets2 k (by omega)]
      have := tcv _ (getD_mem 0 (show k < (txt vs).length by omega))
      omega
    · rw [e0] at v0
      by_cases c2 : v = 0
      · rw [if_pos c2]
        have E := v0.mp c2
        have et : txt ws = txt vs := by
          refine List.ext_getElem (by have := E.1; omega) (fun k h1 h2 => ?_)
          have := E.2 (k : Int) (by omega) (by omega)
          rw [lets1 k h1, lets2 k h2, List.getD_eq_getElem?_getD, List.getElem?_eq_getElem h1, List.getD_eq_getElem?_getD, List.getElem?_eq_getElem h2] at this
          exact this
        have key := c_X_sw17 (d := d) (Q := Q) ok okv O V c et H1 H0 ws.length 0 (Nat.zero_add _) (fun j hj => absurd hj (Nat.not_lt_zero _))
        exact key
      · rw [if_neg c2]
        refine H0 (fun z => c2 (v0.mpr ?_))
        have et := sw_txt z
        refine ⟨by rw [et], fun j j0 j1 => ?_⟩
        obtain ⟨k, rfl⟩ : ∃ k : Nat, j = (k : Int) := ⟨j.toNat, by omega⟩
        have hk : k < (txt ws).length := by omega
        have hk2 : k < (txt vs).length := by rw [← et]; exact hk
        rw [lets1 k hk, lets2 k hk2, et]
  · rw [if_neg (by omega)]
    exact H0 (fun z => c (sw_len z))
end SWX
section SWR
variable {d : Nat} {h : xH} {Q : Int → xH → Prop} {l o : Int} {ws vs : List Wd}
theorem c_R_sw13 (S : SR h) (ok : LnOk ws) (okv : LnOk vs) (l0 : 0 ≤ l) (l1 : l < 15) (o0 : 0 ≤ o) (o1 : o < 15) (R : RLn (RV h l) ws) (V : RLn (RV h o) vs) (el : ws.length = vs.length) (H1 : swE ws vs → Q 1 h) (H0 : ¬ swE ws vs → Q 0 h) : ∀ (n w : Nat) (u4 u5 u6 : xV), w + n = ws.length → (∀ j, j < w → (ws.getD j wd0).1 = (vs.getD j wd0).1) → xT d M_R_sameWords 13 [(1, 59), (0, l), (0, o), (0, (w : Int)), u4, u5, u6] [] h (xqi Q) := by
  have g : h.tag 59 = 12 ∧ h.r 59 22 = 77 ∧ h.tag 77 = 20 ∧ h.len 77 = 15 ∧ h.r 59 24 = 79 ∧ h.tag 79 = 20 ∧ h.len 79 = 180 ∧ h.r 59 23 = 78 ∧ h.tag 78 = 21 ∧ h.len 78 = 2880 := by simp only [srt S, srl S, srf S, true_and, and_true, false_and, and_false, forall_eq, forall_eq', xi_wi, xr_wi, xt_wi, xl_wi, xn_wi, xs_wi, xi_wr, xr_wr, xt_wr, xl_wr, xn_wr, xs_wr, if_true, if_false, and_self, Int.reduceEq, Int.reduceLT, Int.reduceLE, Int.reduceNeg, Int.le_refl, Int.reduceMod]
  obtain ⟨g1, g2, g3, g4, g5, g6, g7, g8, g9, g10⟩ := g
  have e77 : h.i 77 l = ((ws.length : Nat) : Int) := R.2.1
  have k1 := ok.1
  intro n
  induction n with
  | zero =>
    intro w u4 u5 u6 hw pre
    apply L_R_sameWords_13
    rw [g2, g4, e77]
    refine ⟨g1, ⟨g3, l0, l1⟩, ?_⟩
    rw [if_neg (by omega)]
    exact H1 (sw_of el (fun j hj => pre j (by omega)))
  | succ n ih =>
    intro w u4 u5 u6 hw pre
    have a := rln_wd ok R (w := w) (by omega)
    have b := rln_wd okv V (w := w) (by omega)
    have a16 := (ok.2.2 _ (getD_mem wd0 (show w < ws.length by omega))).2.1
    have b16 := (okv.2.2 _ (getD_mem wd0 (show w < vs.length by omega))).2.1
    apply L_R_sameWords_13
    rw [g2, g4, e77]
    refine ⟨g1, ⟨g3, l0, l1⟩, ?_⟩
    rw [if_pos (by omega), g5, g7]
    intro x1 e1 x2 e2
    rw [xw_id (a := 12 * l) (by omega) (by omega), xw_id (by omega) (by omega)] at e1
    rw [xw_id (a := 12 * o) (by omega) (by omega), xw_id (by omega) (by omega)] at e2
    subst e1 e2
    rw [a.1, b.1]
    refine ⟨⟨g6, by omega, by omega⟩, ⟨g6, by omega, by omega⟩, ?_⟩
    by_cases c : (ws.getD w wd0).1.length = (vs.getD w wd0).1.length
    · rw [if_pos (by omega)]
      have lp : ∀ (m k : Nat), k + m = (ws.getD w wd0).1.length → (∀ j, j < k → (ws.getD w wd0).1.getD j 0 = (vs.getD w wd0).1.getD j 0) → xT d M_R_sameWords 44 [(1, 59), (0, l), (0, o), (0, (w : Int)), (0, 12 * l + (w : Int)), (0, 12 * o + (w : Int)), (0, (k : Int))] [] h (xqi Q) := by
        intro m
        induction m with
        | zero =>
          intro k hk pk
          apply L_R_sameWords_44
          rw [g5, g7, a.1]
          refine ⟨g1, ⟨g6, by omega, by omega⟩, ?_⟩
          rw [if_neg (by omega)]
          intro x2 e2
          rw [xw_id (by omega) (by omega)] at e2
          rw [e2]
          have key := ih (w + 1) (0, 12 * l + (w : Int)) (0, 12 * o + (w : Int)) (0, (k : Int)) (by omega) (fun j hj => by
            by_cases z : j = w
            · rw [z]
              exact ext_gD c (fun i h1 => pk i (by omega))
            · exact pre j (by omega))
          push_cast at key
          exact key
        | succ m ihm =>
          intro k hk pk
          have ak := a.2.2 k (by omega)
          have bk := b.2.2 k (by omega)
          apply L_R_sameWords_44
          rw [g5, g7, a.1, g8, g10]
          refine ⟨g1, ⟨g6, by omega, by omega⟩, ?_⟩
          rw [if_pos (by omega), xw_id (a := 16 * (12 * l + (w : Int))) (by omega) (by omega), xw_id (a := 16 * (12 * l + (w : Int)) + (k : Int)) (by omega) (by omega), xw_id (a := 16 * (12 * o + (w : Int))) (by omega) (by omega), xw_id (a := 16 * (12 * o + (w : Int)) + (k : Int)) (by omega) (by omega)]
          have ak' : h.i 78 (16 * (12 * l + (w : Int)) + (k : Int)) = (ws.getD w wd0).1.getD k 0 := by
            rw [← ak]; congr 1; omega
          have bk' : h.i 78 (16 * (12 * o + (w : Int)) + (k : Int)) = (vs.getD w wd0).1.getD k 0 := by
            rw [← bk]; congr 1; omega
          rw [ak', bk']
          refine ⟨⟨g9, by omega, by omega⟩, ⟨g9, by omega, by omega⟩, ?_⟩
          by_cases z : (ws.getD w wd0).1.getD k 0 = (vs.getD w wd0).1.getD k 0
          · rw [if_pos z]
            intro x1 e1
            rw [xw_id (by omega) (by omega)] at e1
            rw [e1]
            have key := ihm (k + 1) (by omega) (fun j hj => by
              by_cases y : j = k
              · rw [y]; exact z
              · exact pk j (by omega))
            push_cast at key
            exact key
          · rw [if_neg z]
            exact H0 (fun y => z (by rw [sw_get y w]))
      have key := lp (ws.getD w wd0).1.length 0 (Nat.zero_add _) (fun j hj => absurd hj (Nat.not_lt_zero _))
      exact key
    · rw [if_neg (by omega)]
      exact H0 (fun z => c (by rw [sw_get z w]))
theorem c_R_sameWords (S : SR h) (ok : LnOk ws) (okv : LnOk vs) (l0 : 0 ≤ l) (l1 : l < 15) (o0 : 0 ≤ o) (o1 : o < 15) (R : RLn (RV h l) ws) (V : RLn (RV h o) vs) (H1 : swE ws vs → Q 1 h) (H0 : ¬ swE ws vs → Q 0 h) : xCi (d + 1) M_R_sameWords [(1, 59), (0, l), (0, o)] h Q := by
  have g : h.tag 59 = 12 ∧ h.r 59 22 = 77 ∧ h.tag 77 = 20 ∧ h.len 77 = 15 := by simp only [srt S, srl S, srf S, true_and, and_true, false_and, and_false, forall_eq, forall_eq', xi_wi, xr_wi, xt_wi, xl_wi, xn_wi, xs_wi, xi_wr, xr_wr, xt_wr, xl_wr, xn_wr, xs_wr, if_true, if_false, and_self, Int.reduceEq, Int.reduceLT, Int.reduceLE, Int.reduceNeg, Int.le_refl, Int.reduceMod]
  have e1 : h.i 77 l = ((ws.length : Nat) : Int) := R.2.1
  have e2 : h.i 77 o = ((vs.length : Nat) : Int) := V.2.1
  apply L_R_sameWords
  rw [g.2.1, g.2.2.2, e1, e2]
  refine ⟨g.1, ⟨g.2.2.1, l0, l1⟩, ⟨g.2.2.1, o0, o1⟩, ?_⟩
  by_cases c : ws.length = vs.length
  · rw [if_pos (by omega)]
    have key := c_R_sw13 (d := d) (Q := Q) S ok okv l0 l1 o0 o1 R V c H1 H0 ws.length 0 (9, 0) (9, 0) (9, 0) (Nat.zero_add _) (fun j hj => absurd hj (Nat.not_lt_zero _))
    exact key
  · rw [if_neg (by omega)]
    exact H0 (fun z => c (sw_len z))
end SWR
