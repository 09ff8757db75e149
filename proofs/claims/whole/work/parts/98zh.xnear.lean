/-! near: the class' cells -/
def NC (h : xH) (p f : Int) (E : SEn) : Prop := XEn h p f E ∧ h.r 45 3 = p ∧ h.i 45 4 = f
def cIx (c : Int) (b : Bool) (i : Int) : Int := (2 * c + b2i b) * 41 + i
/-- a cell is right -/
def CeV (h : xH) (E : SEn) (q g c i : Int) (b : Bool) : Prop := 0 ≤ h.i 47 (cIx c b i) ∧ h.i 47 (cIx c b i) ≤ 1048576 + (E 0 0 - i) ∧ (cOk E g c → min (h.i 47 (cIx c b i)) 1048576 = min (nN E i q g c b) 1048576)
/-- the cells behind (i, c) are right -/
def CeI (h : xH) (E : SEn) (q g i c : Int) : Prop := ∀ i' c' b, 0 ≤ i' → i' ≤ E 0 0 → 0 ≤ c' → c' < fcE E g → (i < i' ∨ (i' = i ∧ c < c')) → CeV h E q g c' i' b
/-- the gates from position q on are right -/
def GaI (h : xH) (E : SEn) (q : Int) : Prop := ∀ p' i, q ≤ p' → p' ≤ E 5 0 → 0 ≤ i → i ≤ E 0 0 → 0 ≤ h.i 46 (41 * p' + i) ∧ h.i 46 (41 * p' + i) ≤ 1048576 ∧ min (h.i 46 (41 * p' + i)) 1048576 = min (nGt E p' (E 0 0 - i).toNat) 1048576
section XN
variable {p f : Int} {E : SEn} {d : Nat} {Q : Int → xH → Prop}
theorem NC_fr {h h' : xH} (F : Fr [46, 47] [] h h') (N : NC h p f E) : NC h' p f E := by
  obtain ⟨x, a, b⟩ := N
  refine ⟨XEn_fr F ⟨fun y m => ?_, fun q m => absurd m List.not_mem_nil⟩ x, by rw [(fr_same F).1]; exact a, by rw [F.2 45 4 (by decide) (by decide)]; exact b⟩
  left
  rw [List.mem_cons, List.mem_singleton] at m
  omega
theorem nc_g {h : xH} (N : NC h p f E) : h.tag 45 = 5 ∧ h.r 45 0 = 22 ∧ h.tag 22 = 4 ∧ h.r 45 1 = 46 ∧ h.tag 46 = 20 ∧ h.len 46 = 369 ∧ h.r 45 2 = 47 ∧ h.tag 47 = 20 ∧ h.len 47 = 1312 ∧ h.tag p = 9 ∧ h.i p 6 = E 0 0 := by
  have X5 := N.1.2.2.2.2.1
  have SX_ := N.1.1
  have a : h.tag 45 = 5 ∧ h.r 45 0 = 22 ∧ h.tag 22 = 4 ∧ h.r 45 1 = 46 ∧ h.tag 46 = 20 ∧ h.len 46 = 369 ∧ h.r 45 2 = 47 ∧ h.tag 47 = 20 ∧ h.len 47 = 1312 := by simp only [sxt SX_, sxl SX_, sxf SX_, true_and, and_true, false_and, and_false, forall_eq, forall_eq', xi_wi, xr_wi, xt_wi, xl_wi, xn_wi, xs_wi, xi_wr, xr_wr, xt_wr, xl_wr, xn_wr, xs_wr, if_true, if_false, and_self, Int.reduceEq, Int.reduceLT, Int.reduceLE, Int.reduceNeg, Int.le_refl, Int.reduceMod]
  obtain ⟨a1, a2, a3, a4, a5, a6, a7, a8, a9⟩ := a
  exact ⟨a1, a2, a3, a4, a5, a6, a7, a8, a9, X5.1, X5.2.1⟩
theorem ft_of {h : xH} {q g : Int} (X : XEn h p f E) (g0 : 0 ≤ g) (g1 : g < 12) (st : scStand E q g = true) : FTab h (h.r 23 g) (E 8 g) (E 9 g) (E 10 g) (E 11 g) (fun k => E 12 (4 * g + k)) ∧ h.r 23 g ≠ 0 := by
  have z := X.2.2.2.2.2.2.2.2.2.2.2 g g0 g1
  rcases z with z | z
  · exfalso
    unfold scStand at st
    simp only [Bool.and_eq_true, decide_eq_true_eq] at st
    exact st.2.1 z.2
  · exact ⟨z.2.2, z.1⟩
theorem cIx_bd {c i : Int} {b : Bool} (c0 : 0 ≤ c) (c1 : c < 16) (i0 : 0 ≤ i) (i1 : i ≤ 40) : 0 ≤ cIx c b i ∧ cIx c b i < 1312 := by
  have := b2i_01 b
  unfold cIx
  omega
theorem cIx_inj {c i c' i' : Int} {b b' : Bool} (i0 : 0 ≤ i) (i1 : i ≤ 40) (j0 : 0 ≤ i') (j1 : i' ≤ 40) (e : cIx c b i = cIx c' b' i') : c = c' ∧ b = b' ∧ i = i' := by
  have a := b2i_01 b
  have a' := b2i_01 b'
  unfold cIx at e
  have e1 : i = i' := by omega
  have e2 : b2i b = b2i b' := by omega
  refine ⟨by omega, ?_, e1⟩
  cases b <;> cases b' <;> first | rfl | exact absurd e2 (by decide)
theorem c_X_ncell {h : xH} {c i : Int} {b : Bool} (N : NC h p f E) (c0 : 0 ≤ c) (c1 : c < 16) (i0 : 0 ≤ i) (i1 : i ≤ 40) (H : Q (h.i 47 (cIx c b i)) h) : xCi (d + 1) M_Near_cell [(1, 45), (0, c), (0, b2i b), (0, i)] h Q := by
  obtain ⟨t1, t2, t3, t4, t5, t6, t7, t8, t9, t10, t11⟩ := nc_g N
  have bd := cIx_bd (b := b) c0 c1 i0 i1
  have go : ∀ (s0 : Int) (u4 : xV), s0 = b2i b → xT d M_Near_cell 8 [(1, 45), (0, c), (0, b2i b), (0, i), u4] [(0, s0), (0, xw (c * 2))] h (xqi Q) := fun s0 u4 es => by
    have b01 := b2i_01 b
    apply L_Near_cell_8
    intro x1 e1
    have e1 : x1 = cIx c b i := by
      rw [e1, es, xw_id (a := c * 2) (by omega) (by omega), xw_id (a := c * 2 + b2i b) (by omega) (by omega), xw_id (a := (c * 2 + b2i b) * 41) (by omega) (by omega), xw_id (by omega) (by omega)]
      unfold cIx
      omega
    subst e1
    rw [if_neg (by omega), if_pos (by omega), if_neg (by omega), t7, t9, if_pos bd.2]
    exact ⟨t1, t8, ⟨t8, bd.1, bd.2⟩, H⟩
  apply L_Near_cell
  cases b with
  | false => rw [b2i_0, if_pos rfl]; exact go 0 _ rfl
  | true => rw [b2i_1, if_neg (by decide)]; exact go 1 _ rfl
theorem c_X_nset {h : xH} {Q : xH → Prop} {c i v : Int} {b : Bool} (N : NC h p f E) (c0 : 0 ≤ c) (c1 : c < 16) (i0 : 0 ≤ i) (i1 : i ≤ 40) (H : ∀ h', h' = h.wi 47 (cIx c b i) v → Q h') : xCv (d + 1) M_Near_setCell [(1, 45), (0, c), (0, b2i b), (0, i), (0, v)] h Q := by
  obtain ⟨t1, t2, t3, t4, t5, t6, t7, t8, t9, t10, t11⟩ := nc_g N
  have bd := cIx_bd (b := b) c0 c1 i0 i1
  have go : ∀ (s0 : Int) (u5 : xV), s0 = b2i b → xT d M_Near_setCell 8 [(1, 45), (0, c), (0, b2i b), (0, i), (0, v), u5] [(0, s0), (0, xw (c * 2))] h (xqv Q) := fun s0 u4 es => by
    have b01 := b2i_01 b
    apply L_Near_setCell_8
    intro x1 e1
    have e1 : x1 = cIx c b i := by
      rw [e1, es, xw_id (a := c * 2) (by omega) (by omega), xw_id (a := c * 2 + b2i b) (by omega) (by omega), xw_id (a := (c * 2 + b2i b) * 41) (by omega) (by omega), xw_id (by omega) (by omega)]
      unfold cIx
      omega
    subst e1
    rw [if_neg (by omega), if_pos (by omega), if_neg (by omega), t7, t9, if_pos bd.2]
    exact ⟨t1, t8, ⟨t8, bd.1, bd.2⟩, fun h1 e => H h1 e⟩
  apply L_Near_setCell
  cases b with
  | false => rw [b2i_0, if_pos rfl]; exact go 0 _ rfl
  | true => rw [b2i_1, if_neg (by decide)]; exact go 1 _ rfl
theorem nLs_app {v : NF} {i q g : Int} : ∀ (L : List (Int × Int)) (x : Int × Int), nLs E v i q g (L ++ [x]) = min (nLs E v i q g L) (nFill E v i q g x) := by
  intro L
  induction L with
  | nil =>
    intro x
    have := nFill_le (E := E) (v := v) (i := i) (q := q) (g := g) (p := x)
    rw [List.nil_append, nLs, nLs, nLs]; omega
  | cons y r ih => intro x; rw [List.cons_append, nLs, nLs, ih]; omega
theorem c_X_lc4 {h : xH} {q g c i : Int} (N : NC h p f E) (q0 : 0 ≤ q) (q1 : q < E 5 0) (g0 : 0 ≤ g) (g1 : g < 12) (st : scStand E q g = true) (c0 : 0 ≤ c) (c1 : c ≤ 16) (i0 : 0 ≤ i) (i1 : i ≤ E 0 0) (C : ∀ c' b, 0 ≤ c' → c' < fcE E g → ((c = 16 ∨ c < c') → CeV h E q g c' i b) ∧ (i < E 0 0 → CeV h E q g c' (i + 1) b)) (H : ∀ v, 0 ≤ v → v ≤ 1048576 → min v 1048576 = min (nCh E (nN E) i q g c) 1048576 → Q v h) : ∀ (n j : Nat) (l4 : Int) (u6 u7 u8 u9 : xV), j + n = 2 → 0 ≤ l4 → l4 ≤ 1048576 → min l4 1048576 = min (nLs E (nN E) i q g ((scCh E g c).take j)) 1048576 → xT (d + 2) M_Near_leastChoice 4 [(1, 45), (1, h.r 23 g), (0, c), (0, i), (0, l4), (0, (j : Int)), u6, u7, u8, u9] [] h (xqi Q) := by
  have ok := N.1.2.2.2.1
  have X := N.1
  have n40 := ok.2.1
  have B := (ft_of X g0 g1 st).1
  have F := sc_stand ok g0 g1 st
  have t1 : h.tag (h.r 23 g) = 1 := B.2.2.1
  obtain ⟨t45, t2, t3, t4, t5, t6, t7, t8, t9, t10, t11⟩ := nc_g N
  have nr := N.2.1
  have X5 := X.2.2.2.2.1
  intro n
  induction n with
  | zero =>
    intro j l4 u6 u7 u8 u9 hj a b tr
    have e : j = 2 := by omega
    subst e
    apply L_Near_leastChoice_4
    rw [if_neg (by decide)]
    rw [List.take_of_length_le ch_len] at tr
    exact H l4 a b tr
  | succ n ih =>
    intro j l4 u6 u7 u8 u9 hj a b tr
    have nx : ∀ x : Int, x = xw ((j : Int) + 1) → x = ((j + 1 : Nat) : Int) := fun x e => by rw [e, xw_id (by omega) (by omega)]; push_cast; rfl
    apply L_Near_leastChoice_4
    rw [if_pos (by omega)]
    refine ⟨t1, ?_⟩
    refine c_X_need (d := d + 1) B c0 c1 (j := j) (by omega) ?_
    refine ⟨t1, ?_⟩
    refine c_X_next (d := d + 1) B c0 c1 (j := j) (by omega) ?_
    rw [show fch (E 8 g) (E 9 g) (E 10 g) (E 11 g) (fun k => E 12 (4 * g + k)) c = scCh E g c from rfl]
    by_cases c2 : j < (scCh E g c).length
    · have mp := getD_mem ((-1, 0) : Int × Int) c2
      have hc := ch_some F c0 mp
      have z := ch_nx ok i0 i1 q0 q1 g0 g1 st hc mp
      have tS : (scCh E g c).take (j + 1) = (scCh E g c).take j ++ [(scCh E g c).getD j (-1, 0)] := by
        rw [List.take_succ_eq_append_getElem c2, List.getD_eq_getElem?_getD, List.getElem?_eq_getElem c2]; rfl
      generalize (scCh E g c).getD j (-1, 0) = y at mp z tS
      have kp := (z.1.2.2.resolve_left (fun w => by omega)).2.2.2.2.2
      have pc := cOk_lt F kp
      have p15 := cOk_15 F kp
      have cv := (C y.2 false pc.1 pc.2).1 z.2.2.2.2
      have v1 := nN_bd ok (b := false) z.1
      have cvt := cv.2.2 kp
      have cv0 := cv.1
      have cv1 := cv.2.1
      rw [if_neg (show ¬ y.1 = -1 by omega)]
      refine ⟨t45, ?_⟩
      have ec := c_X_ncell (d := d + 1) (Q := fun r3 h3 => ∀ x1 : Int, x1 = (if xw (1 + r3) < l4 then xw (1 + r3) else l4) → xT (d + 2) M_Near_leastChoice 30 [(1, 45), (1, h.r 23 g), (0, c), (0, i), (0, x1), (0, (j : Int)), (0, y.1), (0, y.2), u8, u9] [] h3 (xqi Q)) (b := false) N p15.1 (by omega) i0 (by omega) (fun x1 ex => ?_)
      · exact ec
      · rw [xw_id (a := 1 + h.i 47 (cIx y.2 false i)) (by omega) (by omega)] at ex
        have e1 : x1 = min (1 + h.i 47 (cIx y.2 false i)) l4 := by
          rw [ex]
          by_cases w : 1 + h.i 47 (cIx y.2 false i) < l4
          · rw [if_pos w]; omega
          · rw [if_neg w]; omega
        clear ex
        generalize h.i 47 (cIx y.2 false i) = a1 at cv0 cv1 cvt e1
        apply L_Near_leastChoice_30
        rw [if_neg (show ¬ y.1 = -1 by omega), if_neg (by omega), nr, t11]
        refine ⟨t45, t10, ?_⟩
        by_cases c3 : i < E 0 0
        · rw [if_pos c3]
          have k2 := z.2.1 c3
          have v2 := nN_bd ok (b := scLast E i) k2
          have dv := (C y.2 (scLast E i) pc.1 pc.2).2 c3
          have dvt := dv.2.2 kp
          have dv0 := dv.1
          have dv1 := dv.2.1
          have mk := (X5.2.2.2.2.2.2.2.2.2.2.2.2 i i0 c3).2.1
          refine ⟨⟨X5.2.2.2.1, i0, by have := X5.2.2.2.2.2.2.1; omega⟩, fun x3 e3 => ?_⟩
          rw [mk] at e3
          subst e3
          have done : ∀ (cost : Int) (x4 : Int) (u6 u7 u8 u9 : xV), cost = nCost E i y.1 → x4 = min (cost + h.i 47 (cIx y.2 (scLast E i) (i + 1))) x1 → ∀ x5 : Int, x5 = xw ((j : Int) + 1) → xT (d + 2) M_Near_leastChoice 4 [(1, 45), (1, h.r 23 g), (0, c), (0, i), (0, x4), (0, x5), u6, u7, u8, u9] [] h (xqi Q) := fun cost x4 u6 u7 u8 u9 ec e4 x5 e5 => by
            have nc : 0 ≤ nCost E i y.1 ∧ nCost E i y.1 ≤ 1 := by
              unfold nCost
              by_cases w : y.1 = 3 ∨ E 1 i = 3 ∨ E 1 i = y.1
              · rw [if_pos w]; decide
              · rw [if_neg w]; decide
            rw [nx x5 e5]
            refine ih (j + 1) x4 _ _ _ _ (by omega) (by omega) (by omega) ?_
            rw [tS, nLs_app]
            unfold nFill
            rw [if_pos c3]
            generalize h.i 47 (cIx y.2 (scLast E i) (i + 1)) = a2 at dv0 dv1 dvt e4
            generalize nN E i q g y.2 false = n1 at v1 cvt ⊢
            generalize nN E (i + 1) q g y.2 (scLast E i) = n2 at v2 dvt ⊢
            generalize nLs E (nN E) i q g ((scCh E g c).take j) = n3 at tr ⊢
            rw [← ec] at nc ⊢
            clear ih H C
            omega
          have free : nCost E i y.1 = 0 → ∀ u8 u9 : xV, xT (d + 2) M_Near_leastChoice 55 [(1, 45), (1, h.r 23 g), (0, c), (0, i), (0, x1), (0, (j : Int)), (0, y.1), (0, y.2), u8, u9] [] h (xqi Q) := fun e0 u8 u9 => by
            apply L_Near_leastChoice_55
            rw [nr]
            refine ⟨t45, t10, ?_⟩
            refine c_X_ends (d := d + 1) X (by omega) c3 ?_
            refine ⟨t45, ?_⟩
            rw [xw_id (a := i + 1) (by omega) (by omega)]
            refine c_X_ncell (d := d + 1) N p15.1 (by omega) (by omega) (by omega) (fun x4 e4 x5 e5 => ?_)
            rw [xw_id (a := 0 + h.i 47 (cIx y.2 (scLast E i) (i + 1))) (by omega) (by omega)] at e4
            refine done 0 x4 _ _ _ _ e0.symm ?_ x5 e5
            rw [e4]
            by_cases w : 0 + h.i 47 (cIx y.2 (scLast E i) (i + 1)) < x1
            · rw [if_pos w]; omega
            · rw [if_neg w]; omega
          by_cases d1 : y.1 = 3
          · rw [if_pos d1]; exact free (by unfold nCost; rw [if_pos (Or.inl d1)]) _ _
          · rw [if_neg d1]
            by_cases d2 : E 1 i = 3
            · rw [if_pos d2]; exact free (by unfold nCost; rw [if_pos (Or.inr (Or.inl d2))]) _ _
            · rw [if_neg d2]
              by_cases d3 : E 1 i = y.1
              · rw [if_pos d3]; exact free (by unfold nCost; rw [if_pos (Or.inr (Or.inr d3))]) _ _
              · rw [if_neg d3]
                refine c_X_ends (d := d + 1) X (by omega) c3 ?_
                refine ⟨t45, ?_⟩
                rw [xw_id (a := i + 1) (by omega) (by omega)]
                refine c_X_ncell (d := d + 1) N p15.1 (by omega) (by omega) (by omega) (fun x4 e4 x5 e5 => ?_)
                rw [xw_id (a := 1 + h.i 47 (cIx y.2 (scLast E i) (i + 1))) (by omega) (by omega)] at e4
                refine done 1 x4 _ _ _ _ (by unfold nCost; rw [if_neg (by omega)]) ?_ x5 e5
                rw [e4]
                by_cases w : 1 + h.i 47 (cIx y.2 (scLast E i) (i + 1)) < x1
                · rw [if_pos w]; omega
                · rw [if_neg w]; omega
        · rw [if_neg c3]
          intro x6 e6
          rw [nx x6 e6]
          refine ih (j + 1) x1 _ _ _ _ (by omega) (by omega) (by omega) ?_
          rw [tS, nLs_app]
          unfold nFill
          rw [if_neg c3]
          generalize nN E i q g y.2 false = n1 at v1 cvt ⊢
          generalize nLs E (nN E) i q g ((scCh E g c).take j) = n3 at tr ⊢
          clear ih H C
          omega
    · have e : (scCh E g c).getD j (-1, 0) = (-1, 0) := by rw [List.getD_eq_getElem?_getD, List.getElem?_eq_none (by omega)]; rfl
      rw [e, if_pos rfl]
      apply L_Near_leastChoice_30
      rw [if_pos rfl]
      intro x1 e1
      rw [nx x1 e1]
      refine ih (j + 1) l4 _ _ _ _ (by omega) a b ?_
      rw [List.take_of_length_le (by omega)] at tr ⊢
      exact tr
theorem c_X_least {h : xH} {q g c i : Int} (N : NC h p f E) (q0 : 0 ≤ q) (q1 : q < E 5 0) (g0 : 0 ≤ g) (g1 : g < 12) (st : scStand E q g = true) (c0 : 0 ≤ c) (c1 : c ≤ 16) (i0 : 0 ≤ i) (i1 : i ≤ E 0 0) (C : ∀ c' b, 0 ≤ c' → c' < fcE E g → ((c = 16 ∨ c < c') → CeV h E q g c' i b) ∧ (i < E 0 0 → CeV h E q g c' (i + 1) b)) (H : ∀ v, 0 ≤ v → v ≤ 1048576 → min v 1048576 = min (nCh E (nN E) i q g c) 1048576 → Q v h) : xCi (d + 3) M_Near_leastChoice [(1, 45), (1, h.r 23 g), (0, c), (0, i)] h Q := by
  apply L_Near_leastChoice
  exact c_X_lc4 (d := d) N q0 q1 g0 g1 st c0 c1 i0 i1 C H 2 0 1048576 _ _ _ _ rfl (by decide) (by decide) (by rw [List.take_zero, nLs]; decide)
end XN
