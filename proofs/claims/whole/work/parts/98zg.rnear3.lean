/-! near: the reference's recursion, its call -/
section RN3
variable {E : SEn} {l f : Int}
theorem c_R_cf {D0 D : Nat} {i q g c : Int} {b : Bool} (ok : EOk E) (hD : D0 ≤ D) (h1 : 1 ≤ D0) (k : nOk E i q g c) (kb : q = -1 → b = false) (IH : ∀ i' q' g' c' b', nOk E i' q' g' c' → (q' = -1 → b' = false) → nrk E i' q' c' < nrk E i q c → ∀ D', D0 ≤ D' → CFo E l f D' i' q' g' c' b') : CFo E l f (D + 4) i q g c b := by
  intro h Q R M H
  have rows : ∀ h : xH, REn h l f E → h.tag 59 = 12 ∧ h.r 59 65 = 113 ∧ h.tag 113 = 20 ∧ h.len 113 = 141696 ∧ h.r 59 26 = 81 ∧ h.tag 81 = 20 ∧ h.len 81 = 15 ∧ h.r 59 42 = 95 ∧ h.tag 95 = 20 ∧ h.len 95 = 8 := fun h R => by have S := R.1; simp only [srt S, srl S, srf S, true_and, and_true, false_and, and_false, forall_eq, forall_eq', xi_wi, xr_wi, xt_wi, xl_wi, xn_wi, xs_wi, xi_wr, xr_wr, xt_wr, xl_wr, xn_wr, xs_wr, if_true, if_false, and_self, Int.reduceEq, Int.reduceLT, Int.reduceLE, Int.reduceNeg, Int.le_refl, Int.reduceMod]
  have n40 := ok.2.1
  have p1 := ok.2.2.2.1
  have p8 := ok.2.2.2.2.1
  have hl := rel R
  have hf := ref R
  have i0 := k.1
  have i1 := k.2.1
  have x := nIx_bd ok (b := b) k
  have ab := nA_bd k
  have r := nOk_rk ok k
  have vN := nN_bd ok (b := b) k
  have b01 := b2i_01 b
  have eN := nN_eq ok (b := b) k
  obtain ⟨t1, t2, t3, t4, t5, t6, t7, t8, t9, t10⟩ := rows h R
  have eIx : nIx E i q g c b = 2 * ((((9 * i + q + 1) * 12 + g) * 4 + c / 4) * 4 + nA E q g c) + b2i b := rfl
  -- the value is kept
  have fin : ∀ (h2 : xH) (v : Int), Fr [113] [] h h2 → MN h2 E → v = nN E i q g c b → h2.tag 59 = 12 ∧ ((h2.tag (h2.r 59 65) = 20 ∧ 0 ≤ nIx E i q g c b ∧ nIx E i q g c b < h2.len (h2.r 59 65)) ∧ ∀ h3 : xH, h3 = h2.wi (h2.r 59 65) (nIx E i q g c b) v → Q v h3) := fun h2 v F2 M2 ev => by
    obtain ⟨u1, u2, u3, u4, u5, u6, u7, u8, u9, u10⟩ := rows h2 (REn_n F2 R)
    rw [u2, u4]
    refine ⟨u1, ⟨u3, x.1, x.2.1⟩, fun h3 e3 => ?_⟩
    rw [ev] at e3 ⊢
    exact H h3 (by rw [e3]; exact Fr_trans F2 (Fr_cell (Fr_refl _ _ _) _ _ (by decide))) (MN_w ok k M2 e3)
  have main : ∀ (u7 u8 u9 u10 u11 : xV), xT (D + 3) M_R_changesFrom 13 [(1, 59), (0, i), (0, q), (0, g), (0, c / 4), (0, nA E q g c), (0, b2i b), u7, u8, u9, u10, u11] [(0, b2i b), (0, xw (2 * ((((9 * i + q + 1) * 12 + g) * 4 + c / 4) * 4 + nA E q g c)))] h (xqi Q) := fun u7 u8 u9 u10 u11 => by
    apply L_R_changesFrom_13
    intro x1 e1
    unfold nIx at x
    rw [xw_id (a := 2 * ((((9 * i + q + 1) * 12 + g) * 4 + c / 4) * 4 + nA E q g c)) (by omega) (by omega), xw_id (by omega) (by omega)] at e1
    have e1 : x1 = nIx E i q g c b := by rw [e1, eIx]
    subst e1
    rw [t2, t4, t5, t7, reL R, re0 R]
    have x := nIx_bd ok (b := b) k
    refine ⟨t1, ⟨t3, x.1, x.2.1⟩, ?_⟩
    by_cases c1 : h.i 113 (nIx E i q g c b) = -1
    · rw [if_pos c1]
      refine ⟨⟨t6, hl.1, hl.2⟩, fun x2 e2 => ?_⟩
      subst e2
      -- behind the last syllable's question
      have p75 : ∀ (lv : Bool) (s0 : Int) (u9 u11 : xV), lv = nLv E q g c b → s0 = (if i = E 0 0 ∧ nLv E q g c b = true ∧ q = E 5 0 - 1 then 0 else 100000000) → xT (D + 3) M_R_changesFrom 75 [(1, 59), (0, i), (0, q), (0, g), (0, c / 4), (0, nA E q g c), (0, b2i b), (0, nIx E i q g c b), (0, E 0 0), u9, (0, b2i lv), u11] [(0, s0)] h (xqi Q) := fun lv s0 u9 u11 el es => by
        subst el
        apply L_R_changesFrom_75
        by_cases c2 : i = E 0 0 ∧ nLv E q g c b = true ∧ q = E 5 0 - 1
        · rw [if_pos c2] at es
          subst es
          rw [if_neg (by decide)]
          exact fin h 0 (Fr_refl _ _ _) M (by rw [eN]; unfold nStep; rw [if_pos c2])
        · rw [if_neg c2] at es
          subst es
          rw [if_pos (by decide)]
          -- behind the one that is left out
          have p96 : ∀ (h2 : xH) (u8 u9 : xV), Fr [113] [] h h2 → MN h2 E → xT (D + 3) M_R_changesFrom 96 [(1, 59), (0, i), (0, q), (0, g), (0, c / 4), (0, nA E q g c), (0, b2i b), (0, nIx E i q g c b), u8, u9, (0, b2i (nLv E q g c b)), (0, min 100000000 (if i < E 0 0 then 1 + nN E (i + 1) q g c b else 100000000))] [] h2 (xqi Q) := fun h2 u8 u9 F2 M2 => by
            have R2 := REn_n F2 R
            obtain ⟨u1, u2, u3, u4, u5, u6, u7, u8, u9, u10⟩ := rows h2 R2
            have posC : ∀ q', q < q' → 0 ≤ q' → q' < E 5 0 → ∀ g' : Int, 0 ≤ g' → g' < 12 → scStand E q' g' = true → ∀ p ∈ scCh E g' 16, CEn E l f D0 i q' g' p := fun q' lt l0 l5 g' g0 g1 st p mp => by
              have z := ch_nx ok i0 i1 l0 l5 g0 g1 st (Or.inl rfl) mp
              have rp := nOk_rk ok z.1
              refine ⟨z.1, z.2.2.1, z.2.2.2.1, fun D' hD' => IH i q' g' p.2 false z.1 (fun _ => rfl) (by unfold nrk; omega) D' hD', fun lt' D' hD' => IH (i + 1) q' g' p.2 _ (z.2.1 lt') (fun y => by omega) (by unfold nrk; omega) D' hD'⟩
            apply L_R_changesFrom_96
            by_cases cq : q = -1
            · rw [if_pos cq]
              refine ⟨u1, ?_⟩
              refine c_R_toPosition (D := D) ok hD h1 i0 i1 (Int.le_refl _) (by omega) (posC 0 (by omega) (by decide) (by omega)) R2 M2 (fun h3 F3 M3 => ?_)
              refine c_R_less ?_
              refine fin h3 _ (Fr_trans F2 F3) M3 ?_
              rw [eN]
              unfold nStep
              rw [if_neg c2, if_pos cq]
            · rw [if_neg cq]
              have kk := k.2.2.resolve_left (fun z => cq z.1)
              have F := sc_stand ok kk.2.2.1 kk.2.2.2.1 kk.2.2.2.2.1
              have p127 : ∀ (h3 : xH) (a : Int) (u8 u9 u10 : xV), Fr [113] [] h h3 → MN h3 E → (min a (nWi E (nN E) i q g c b) = nN E i q g c b) → xT (D + 3) M_R_changesFrom 127 [(1, 59), (0, i), (0, q), (0, g), (0, c / 4), (0, nA E q g c), (0, b2i b), (0, nIx E i q g c b), u8, u9, u10, (0, a)] [] h3 (xqi Q) := fun h3 a u8 u9 u10 F3 M3 ea => by
                have R3 := REn_n F3 R
                apply L_R_changesFrom_127
                refine ⟨(srt R3.1).1, ?_⟩
                refine c_R_within (D := D) ok hD h1 kk.1 kk.2.2.1 kk.2.2.2.1 F kk.2.2.2.2.2 (fun p mp => ?_) R3 M3 (fun h4 F4 M4 => ?_)
                · have z := ch_nx ok i0 i1 kk.1 kk.2.1 kk.2.2.1 kk.2.2.2.1 kk.2.2.2.2.1 (Or.inr kk.2.2.2.2.2) mp
                  have gt := z.2.2.2.2.resolve_left (by omega)
                  exact ⟨z.1, z.2.2.1, z.2.2.2.1, fun D' hD' => IH i q g p.2 false z.1 (fun _ => rfl) (by unfold nrk; omega) D' hD', fun lt' D' hD' => IH (i + 1) q g p.2 _ (z.2.1 lt') (fun y => absurd y cq) (by unfold nrk; omega) D' hD'⟩
                · refine c_R_less ?_
                  exact fin h4 _ (Fr_trans F3 F4) M4 ea
              cases eL : nLv E q g c b with
              | false =>
                rw [b2i_0, if_pos rfl]
                refine p127 h2 _ _ _ _ F2 M2 ?_
                rw [eN]
                unfold nStep
                rw [if_neg c2, if_neg cq, if_neg (show ¬ (nLv E q g c b = true ∧ q + 1 < E 5 0) from fun z => by rw [eL] at z; exact absurd z.1 (by decide))]
                have w := nW_bd ok (b := b) k cq
                omega
              | true =>
                rw [b2i_1, if_neg (by decide), u8, u10, reF R2, re5 R2, xw_id (a := q + 1) (by omega) (by omega)]
                refine ⟨u1, ⟨u9, by omega, by omega⟩, ?_⟩
                by_cases c5 : q + 1 < E 5 0
                · rw [if_pos c5]
                  refine c_R_toPosition (D := D) ok hD h1 i0 i1 (by omega) c5 (posC (q + 1) (by omega) (by omega) c5) R2 M2 (fun h3 F3 M3 => ?_)
                  refine c_R_less ?_
                  refine p127 h3 _ _ _ _ (Fr_trans F2 F3) M3 ?_
                  rw [eN]
                  unfold nStep
                  rw [if_neg c2, if_neg cq, if_pos (show nLv E q g c b = true ∧ q + 1 < E 5 0 from ⟨eL, c5⟩)]
                  omega
                · rw [if_neg c5]
                  refine p127 h2 _ _ _ _ F2 M2 ?_
                  rw [eN]
                  unfold nStep
                  rw [if_neg c2, if_neg cq, if_neg (show ¬ (nLv E q g c b = true ∧ q + 1 < E 5 0) from fun z => c5 z.2)]
                  have w := nW_bd ok (b := b) k cq
                  omega
          by_cases c3 : i < E 0 0
          · rw [if_pos c3]
            refine ⟨t1, ?_⟩
            rw [xw_id (a := i + 1) (by omega) (by omega)]
            have k2 : nOk E (i + 1) q g c := ⟨by omega, by omega, k.2.2⟩
            have v2 := nN_bd ok (b := b) k2
            refine IH (i + 1) q g c b k2 kb (by unfold nrk; omega) (D + 3) (by omega) h _ R M (fun h2 F2 M2 => ?_)
            rw [xw_id (a := 1 + nN E (i + 1) q g c b) (by omega) (by omega)]
            refine c_R_less ?_
            have := p96 h2 (0, E 0 0) u9 F2 M2
            rw [if_pos c3] at this
            exact this
          · rw [if_neg c3]
            have := p96 h (0, E 0 0) u9 (Fr_refl _ _ _) M
            rw [if_neg c3] at this
            exact this
      by_cases cq : q < 0
      · rw [if_pos cq]
        have el : nLv E q g c b = false := by unfold nLv; rw [decide_eq_false (by omega), Bool.false_and]
        apply L_R_changesFrom_43
        rw [if_pos rfl]
        have := p75 false 100000000 (0, 0) u11 el.symm (by rw [if_neg (fun z => by rw [el] at z; exact absurd z.2.1 (by decide))])
        by_cases c6 : i = E 0 0
        · rw [if_pos c6]; exact this
        · rw [if_neg c6]; exact this
      · rw [if_neg cq]
        have kk := k.2.2.resolve_left (fun z => by omega)
        have F := sc_stand ok kk.2.2.1 kk.2.2.2.1 kk.2.2.2.2.1
        have eA : nA E q g c = cN E g c := by unfold nA; rw [if_neg (by omega)]
        have no : nLv E q g c b = false → ∀ (s0 : Int) (u9 u11 : xV), xT (D + 3) M_R_changesFrom 75 [(1, 59), (0, i), (0, q), (0, g), (0, c / 4), (0, nA E q g c), (0, b2i b), (0, nIx E i q g c b), (0, E 0 0), u9, (0, 0), u11] [(0, 100000000)] h (xqi Q) := fun el s0 u9 u11 => p75 false 100000000 u9 u11 el.symm (by rw [if_neg (fun z => by rw [el] at z; exact absurd z.2.1 (by decide))])
        rw [eA]
        refine c_R_isOver (d := D + 2) R kk.2.2.1 kk.2.2.2.1 F kk.2.2.2.2.2 ?_
        rw [← eA]
        cases eE : scEnd E g c with
        | false =>
          have el : nLv E q g c b = false := by unfold nLv; rw [eE, Bool.false_and, Bool.and_false]
          rw [b2i_0, if_pos rfl]
          apply L_R_changesFrom_43
          rw [if_pos rfl]
          by_cases c6 : i = E 0 0
          · rw [if_pos c6]; exact no el 0 _ _
          · rw [if_neg c6]; exact no el 0 _ _
        | true =>
          rw [b2i_1, if_neg (by decide)]
          apply L_R_changesFrom_43
          rw [if_neg (by decide), reF R]
          refine ⟨t1, ?_⟩
          refine c_R_isCut (d := D + 2) R (by omega) (by omega) ?_
          have yes : nLv E q g c b = true → (if i = E 0 0 then (h.tag 59 = 12 ∧ ((h.tag (h.r 59 42) = 20 ∧ 0 ≤ h.i 59 46 ∧ h.i 59 46 < h.len (h.r 59 42)) ∧ (if q = xw ((h.i (h.r 59 42) (h.i 59 46)) - 1) then xT (D + 3) M_R_changesFrom 75 [(1, 59), (0, i), (0, q), (0, g), (0, c / 4), (0, nA E q g c), (0, b2i b), (0, nIx E i q g c b), (0, E 0 0), (0, 1), (0, 1), u11] [(0, 0)] h (xqi Q) else xT (D + 3) M_R_changesFrom 75 [(1, 59), (0, i), (0, q), (0, g), (0, c / 4), (0, nA E q g c), (0, b2i b), (0, nIx E i q g c b), (0, E 0 0), (0, 1), (0, 1), u11] [(0, 100000000)] h (xqi Q)))) else xT (D + 3) M_R_changesFrom 75 [(1, 59), (0, i), (0, q), (0, g), (0, c / 4), (0, nA E q g c), (0, b2i b), (0, nIx E i q g c b), (0, E 0 0), (0, 1), (0, 1), u11] [(0, 100000000)] h (xqi Q)) := fun el => by
            by_cases c6 : i = E 0 0
            · rw [if_pos c6, t8, t10, reF R, re5 R, xw_id (a := E 5 0 - 1) (by omega) (by omega)]
              refine ⟨t1, ⟨t9, by omega, by omega⟩, ?_⟩
              by_cases c7 : q = E 5 0 - 1
              · rw [if_pos c7]
                exact p75 true 0 _ _ el.symm (by rw [if_pos ⟨c6, el, c7⟩])
              · rw [if_neg c7]
                exact p75 true 100000000 _ _ el.symm (by rw [if_neg (fun z => c7 z.2.2)])
            · rw [if_neg c6]
              exact p75 true 100000000 _ _ el.symm (by rw [if_neg (fun z => c6 z.1)])
          cases eC : scCut E q with
          | false =>
            rw [b2i_0, if_pos rfl]
            refine yes ?_
            unfold nLv
            rw [decide_eq_true (by omega), eE, eC, Bool.not_false, Bool.or_true]; rfl
          | true =>
            rw [b2i_1, if_neg (by decide)]
            cases b with
            | false =>
              have el : nLv E q g c false = false := by
                unfold nLv
                rw [eC, Bool.not_true, Bool.or_false, Bool.and_false, Bool.and_false]
              rw [b2i_0, if_pos rfl]
              by_cases c6 : i = E 0 0
              · rw [if_pos c6]; exact no el 0 _ _
              · rw [if_neg c6]; exact no el 0 _ _
            | true =>
              rw [if_neg (by rw [b2i_1]; decide)]
              refine yes ?_
              unfold nLv
              rw [decide_eq_true (by omega), eE, Bool.true_or]; rfl
    · rw [if_neg c1]
      refine ⟨⟨t3, x.1, x.2.1⟩, ?_⟩
      rw [(M i q g c b k).resolve_left c1]
      exact H h (Fr_refl _ _ _) M
  apply L_R_changesFrom
  refine c_R_state (d := D + 2) i0 (by omega) (by omega) (by omega) x.2.2.2.2.1 x.2.2.2.2.2 x.2.2.1 x.2.2.2.1 ab.1 ab.2.1 ?_
  cases b with
  | false => rw [b2i_0, if_pos rfl]; exact main _ _ _ _ _
  | true => rw [b2i_1, if_neg (by decide)]; exact main _ _ _ _ _
theorem c_R_cfAll (ok : EOk E) : ∀ (m : Nat) (i q g c : Int) (b : Bool), nOk E i q g c → (q = -1 → b = false) → nrk E i q c < m → ∀ D, 4 * m + 4 ≤ D → CFo E l f D i q g c b := by
  intro m
  induction m with
  | zero => intro i q g c b k _ lt; have := nOk_rk ok k; omega
  | succ m ih =>
    intro i q g c b k kb lt D hD
    obtain ⟨d, rfl⟩ : ∃ d, D = d + 4 := ⟨D - 4, by omega⟩
    exact c_R_cf (D0 := 4 * m + 4) ok (by omega) (by omega) k kb (fun i' q' g' c' b' k' kb' l => ih i' q' g' c' b' k' kb' (by push_cast at lt; omega))
def nrS : List (Int × Int) := [(59, 45), (59, 46)]
theorem c_R_near19 {d : Nat} {Q : Int → xH → Prop} (hd : 940 ≤ d) : ∀ (n : Nat) (k : Int) (h : xH) (u1 : xV), 0 ≤ k → k + n = 141696 → REn h l f E → (∀ j, 0 ≤ j → j < k → h.i 113 j = -1) → (∀ h', Fr [113] [] h h' → Q (if nN E 0 (-1) 0 0 false < 100000000 then nN E 0 (-1) 0 0 false else -1) h') → xT d M_R_near 19 [(1, 59), u1, (0, k)] [] h (xqi Q) := by
  intro n
  induction n with
  | zero =>
    intro k h u1 k0 kn R ms H
    have ok := reo R
    have n1 := ok.1
    have k' : nOk E 0 (-1) 0 0 := ⟨Int.le_refl _, by omega, Or.inl ⟨rfl, rfl, rfl⟩⟩
    have r := nOk_rk ok k'
    have M : MN h E := fun i q g c b kk => Or.inl (ms _ (nIx_bd ok (b := b) kk).1 (by have := (nIx_bd ok (b := b) kk).2.1; omega))
    apply L_R_near_19
    rw [if_neg (by omega)]
    refine ⟨(srt R.1).1, ?_⟩
    have e := c_R_cfAll (l := l) (f := f) ok 231 0 (-1) 0 0 false k' (fun _ => rfl) (by omega) d (by omega) h (fun r1 h2 => if r1 < 100000000 then Q r1 h2 else Q (-1) h2) R M (fun h' F' M' => by
      have K := H h' F'
      by_cases z : nN E 0 (-1) 0 0 false < 100000000
      · rw [if_pos z] at K ⊢; exact K
      · rw [if_neg z] at K ⊢; exact K)
    rw [show nA E (-1) 0 0 = 0 by unfold nA; rw [if_pos rfl]] at e
    exact e
  | succ n ih =>
    intro k h u1 k0 kn R ms H
    have g : h.tag 59 = 12 ∧ h.r 59 65 = 113 ∧ h.tag 113 = 20 ∧ h.len 113 = 141696 := by have S := R.1; simp only [srt S, srl S, srf S, true_and, and_true, false_and, and_false, forall_eq, forall_eq', xi_wi, xr_wi, xt_wi, xl_wi, xn_wi, xs_wi, xi_wr, xr_wr, xt_wr, xl_wr, xn_wr, xs_wr, if_true, if_false, and_self, Int.reduceEq, Int.reduceLT, Int.reduceLE, Int.reduceNeg, Int.le_refl, Int.reduceMod]
    apply L_R_near_19
    rw [if_pos (by omega), g.2.1, g.2.2.2]
    refine ⟨g.1, ⟨g.2.2.1, by omega, by omega⟩, fun h1 e1 x1 ex => ?_⟩
    rw [xw_id (by omega) (by omega)] at ex
    rw [ex]
    have F1 : Fr [113] [] h h1 := by rw [e1]; exact Fr_cell (Fr_refl _ _ _) _ _ (by decide)
    refine ih (k + 1) h1 _ (by omega) (by push_cast at kn; omega) (REn_n F1 R) (fun j j0 j1 => ?_) (fun h' F' => H h' (Fr_trans F1 F'))
    rw [e1, xi_wi]
    by_cases z : j = k
    · rw [if_pos ⟨rfl, z⟩]
    · rw [if_neg (fun y => z y.2)]; exact ms j j0 (by omega)
end RN3
