/-! near: the reference's memo -/
section RN2
variable {E : SEn} {l f : Int}
theorem ch16 (g : Int) : scCh E g 16 = scOpen E g 0 := by
  unfold scCh fch scOpen
  by_cases c : E 8 g = 4
  · rw [if_pos c, if_pos c, if_pos rfl]; rfl
  · rw [if_neg c, if_neg c, if_pos rfl]
theorem c_R_tpos4 {D0 D : Nat} {Q : Int → xH → Prop} {i q : Int} (ok : EOk E) (hD : D0 ≤ D) (h1 : 1 ≤ D0) (q0 : 0 ≤ q) (q1 : q < E 5 0) (C : ∀ g : Int, 0 ≤ g → g < 12 → scStand E q g = true → ∀ p ∈ scCh E g 16, CEn E l f D0 i q g p) (bd : ∀ m : Nat, m ≤ 12 → 0 ≤ nPs E (nN E) i q m ∧ nPs E (nN E) i q m ≤ 100000000) : ∀ (n m : Nat) (h : xH), m + n = 12 → REn h l f E → MN h E → (∀ h', Fr [113] [] h h' → MN h' E → Q (nPs E (nN E) i q 12) h') → xT (D + 2) M_R_toPosition 4 [(1, 59), (0, i), (0, q), (0, nPs E (nN E) i q m), (0, (m : Int))] [] h (xqi Q) := by
  have p8 := ok.2.2.2.2.1
  intro n
  induction n with
  | zero =>
    intro m h hm R M H
    have e : m = 12 := by omega
    subst e
    apply L_R_toPosition_4
    rw [if_neg (by decide)]
    exact H h (Fr_refl _ _ _) M
  | succ n ih =>
    intro m h hm R M H
    have b := bd m (by omega)
    have eS : nPs E (nN E) i q (m + 1) = min (nPs E (nN E) i q m) (if scStand E q (m : Int) = true then nCh E (nN E) i q (m : Int) 16 else 100000000) := rfl
    apply L_R_toPosition_4
    rw [if_pos (by omega), reF R]
    refine ⟨(srt R.1).1, ?_⟩
    refine c_R_mayStand R q0 (by omega) (by omega) (by omega) ?_
    by_cases c : scStand E q (m : Int) = true
    · rw [c, b2i_1, if_neg (by decide)]
      refine ⟨(srt R.1).1, ?_⟩
      have F := sc_stand ok (g := (m : Int)) (by omega) (by omega) c
      refine c_R_toPlace (D := D) ok hD h1 q0 (by omega) (by omega) F (Int.le_refl _) (by have := F.2.2.1; omega) (fun p mp => C m (by omega) (by omega) c p (by rw [ch16]; exact mp)) R M (fun h1 F1 M1 => ?_)
      refine c_R_less ?_
      intro x2 e2
      rw [xw_id (by omega) (by omega)] at e2
      rw [e2]
      have key := ih (m + 1) h1 (by omega) (REn_n F1 R) M1 (fun h' F' M' => H h' (Fr_trans F1 F') M')
      rw [eS, if_pos c] at key
      unfold nCh at key
      rw [ch16] at key
      push_cast at key
      exact key
    · have c' : scStand E q (m : Int) = false := by
        cases z : scStand E q (m : Int) with
        | true => exact absurd z c
        | false => rfl
      rw [c', b2i_0, if_pos rfl]
      intro x1 e1
      rw [xw_id (by omega) (by omega)] at e1
      rw [e1]
      have key := ih (m + 1) h (by omega) R M H
      rw [eS, if_neg c, show min (nPs E (nN E) i q m) 100000000 = nPs E (nN E) i q m by omega] at key
      push_cast at key
      exact key
theorem nPs_b2 (ok : EOk E) {i q : Int} (i0 : 0 ≤ i) (i1 : i ≤ E 0 0) (q0 : 0 ≤ q) (q1 : q < E 5 0) : ∀ m : Nat, m ≤ 12 → 0 ≤ nPs E (nN E) i q m ∧ nPs E (nN E) i q m ≤ 100000000 := fun m hm => by
  have := nPs_bd ok (v := nN E) (B := 300) (by decide) i0 i1 q0 q1 (fun i' g' c' b' k' hi => by
    have := nN_bd ok (b := b') k'
    omega) m hm
  exact ⟨this.1, this.2.1⟩
theorem c_R_toPosition {D0 D : Nat} {h : xH} {Q : Int → xH → Prop} {i q : Int} (ok : EOk E) (hD : D0 ≤ D) (h1 : 1 ≤ D0) (i0 : 0 ≤ i) (i1 : i ≤ E 0 0) (q0 : 0 ≤ q) (q1 : q < E 5 0) (C : ∀ g : Int, 0 ≤ g → g < 12 → scStand E q g = true → ∀ p ∈ scCh E g 16, CEn E l f D0 i q g p) (R : REn h l f E) (M : MN h E) (H : ∀ h', Fr [113] [] h h' → MN h' E → Q (nPs E (nN E) i q 12) h') : xCi (D + 3) M_R_toPosition [(1, 59), (0, i), (0, q)] h Q := by
  apply L_R_toPosition
  exact c_R_tpos4 ok hD h1 q0 q1 C (nPs_b2 ok i0 i1 q0 q1) 12 0 h rfl R M H
theorem c_R_within {D0 D : Nat} {h : xH} {Q : Int → xH → Prop} {i q g c : Int} {b : Bool} (ok : EOk E) (hD : D0 ≤ D) (h1 : 1 ≤ D0) (q0 : 0 ≤ q) (g0 : 0 ≤ g) (g1 : g < 12) (F : FOk (E 8 g) (E 9 g) (E 10 g) (E 11 g) (fun k => E 12 (4 * g + k))) (k : cOk E g c) (C : ∀ p ∈ scCh E g c, CEn E l f D0 i q g p) (R : REn h l f E) (M : MN h E) (H : ∀ h', Fr [113] [] h h' → MN h' E → Q (nWi E (nN E) i q g c b) h') : xCi (D + 3) M_R_within [(1, 59), (0, i), (0, q), (0, g), (0, c / 4), (0, nA E q g c), (0, b2i b)] h Q := by
  have rows : ∀ h : xH, REn h l f E → h.tag 59 = 12 ∧ h.r 59 36 = 89 ∧ h.tag 89 = 20 ∧ h.len 89 = 12 ∧ h.r 59 38 = 91 ∧ h.tag 91 = 20 ∧ h.len 91 = 12 ∧ h.r 59 39 = 92 ∧ h.tag 92 = 20 ∧ h.len 92 = 12 ∧ h.r 59 40 = 93 ∧ h.tag 93 = 20 ∧ h.len 93 = 12 := fun h R => by have S := R.1; simp only [srt S, srl S, srf S, true_and, and_true, false_and, and_false, forall_eq, forall_eq', xi_wi, xr_wi, xt_wi, xl_wi, xn_wi, xs_wi, xi_wr, xr_wr, xt_wr, xl_wr, xn_wr, xs_wr, if_true, if_false, and_self, Int.reduceEq, Int.reduceLT, Int.reduceLE, Int.reduceNeg, Int.le_refl, Int.reduceMod]
  obtain ⟨t1, t2, t3, t4, t5, t6, t7, t8, t9, t10, t11, t12, t13⟩ := rows h R
  have m4 := F.2.2.2.1
  have c15 := cOk_15 F k
  have kk := k
  unfold cOk at kk
  have eA : nA E q g c = cN E g c := by unfold nA; rw [if_neg (by omega)]
  have fl : ∀ p : Int × Int, min (nFill E (nN E) i q g p) 100000000 = nFill E (nN E) i q g p := fun p => by have := nFill_le (E := E) (v := nN E) (i := i) (q := q) (g := g) (p := p); omega
  have fm : ∀ p : Int × Int, min 100000000 (nFill E (nN E) i q g p) = nFill E (nN E) i q g p := fun p => by have := nFill_le (E := E) (v := nN E) (i := i) (q := q) (g := g) (p := p); omega
  rw [eA]
  apply L_R_within
  rw [t2, t4, re8 R g, t5, t7, re9 R g, t8, t10, re10 R g, t11, t13, re11 R g]
  refine ⟨t1, ⟨t3, g0, g1⟩, ?_⟩
  by_cases s4 : E 8 g = 4
  · rw [if_pos s4]
    have F4 := F.2.2.2.2.1 s4
    have eN : cN E g c = c % 4 := by unfold cN; rw [if_pos s4]
    have ask : scAsk E g c = false := by
      unfold scAsk fasks
      rw [if_neg (fun z => by have := z.1; omega)]; decide
    have eC : scCh E g c = (if c % 4 < E 11 g then [(2, c + 1)] else []) ++ (if E 10 g ≤ c % 4 ∧ c / 4 + 1 < E 9 g then [(1, 4 * (c / 4 + 1))] else []) := by
      unfold scCh fch
      rw [if_pos s4, if_neg (by omega), if_pos (show c / 4 < E 9 g ∧ c % 4 ≤ E 11 g by omega)]
    have eW : nWi E (nN E) i q g c b = nLs E (nN E) i q g ((if c % 4 < E 11 g then [(2, c + 1)] else []) ++ (if E 10 g ≤ c % 4 ∧ c / 4 + 1 < E 9 g then [(1, 4 * (c / 4 + 1))] else [])) := by
      unfold nWi
      rw [ask, Bool.not_false, Bool.or_true, if_pos rfl]
      unfold nCh
      rw [eC]
    rw [eW] at H
    rw [eC] at C
    rw [eN]
    refine ⟨⟨t12, g0, g1⟩, ?_⟩
    -- behind the light one
    have heavy : ∀ (h2 : xH) (A : List (Int × Int)) (a : Int), Fr [113] [] h h2 → MN h2 E → a = nLs E (nN E) i q g A → (if c % 4 < E 11 g then [(2, c + 1)] else []) = A → xT (D + 2) M_R_within 27 [(1, 59), (0, i), (0, q), (0, g), (0, c / 4), (0, c % 4), (0, b2i b), (0, a)] [] h2 (xqi Q) := fun h2 A a F2 M2 ea eAA => by
      have R2 := REn_n F2 R
      obtain ⟨u1, u2, u3, u4, u5, u6, u7, u8, u9, u10, u11, u12, u13⟩ := rows h2 R2
      rw [eAA] at H
      have app : ∀ (L : List (Int × Int)) (p : Int × Int), nLs E (nN E) i q g (L ++ [p]) = min (nLs E (nN E) i q g L) (nFill E (nN E) i q g p) := by
        intro L
        induction L with
        | nil => intro p; rw [List.nil_append, nLs, nLs, nLs, fl, fm]
        | cons x r ih => intro p; rw [List.cons_append, nLs, nLs, ih]; omega
      apply L_R_within_27
      rw [u5, u7, re9 R2 g, u8, u10, re10 R2 g, xw_id (a := c / 4 + 1) (by omega) (by omega)]
      refine ⟨u1, ⟨u6, g0, g1⟩, ?_⟩
      by_cases c1 : c / 4 + 1 < E 9 g
      · rw [if_pos c1]
        refine ⟨⟨u9, g0, g1⟩, ?_⟩
        by_cases c2 : c % 4 < E 10 g
        · rw [if_pos c2]
          rw [if_neg (by omega), List.append_nil] at H
          rw [ea]; exact H h2 F2 M2
        · rw [if_neg c2]
          have yes : E 10 g ≤ c % 4 ∧ c / 4 + 1 < E 9 g := by omega
          rw [if_pos yes] at H C
          have e := c_R_fill (h := h2) (D := D + 1) (Q := fun r1 h1 => xCi (D + 2) M_R_less [(0, a), (0, r1)] h1 (fun r2 h2 => Q r2 h2)) ok (by omega) h1 q0 (C (1, 4 * (c / 4 + 1)) (List.mem_append_right _ List.mem_cons_self)) R2 M2 (fun h3 F3 M3 => by
            refine c_R_less ?_
            have K := H h3 (Fr_trans F2 F3) M3
            rw [app, ← ea] at K
            exact K)
          rw [show ((1, 4 * (c / 4 + 1)) : Int × Int).2 / 4 = c / 4 + 1 by show 4 * (c / 4 + 1) / 4 = c / 4 + 1; omega, show nA E q g ((1, 4 * (c / 4 + 1)) : Int × Int).2 = 0 by unfold nA cN; rw [if_neg (by omega), if_pos s4]; show 4 * (c / 4 + 1) % 4 = 0; omega] at e
          exact e
      · rw [if_neg c1]
        rw [if_neg (by omega), List.append_nil] at H
        rw [ea]; exact H h2 F2 M2
    by_cases c1 : c % 4 < E 11 g
    · rw [if_pos c1] at C ⊢
      rw [xw_id (a := c % 4 + 1) (by omega) (by omega)]
      have e := c_R_fill (h := h) (D := D + 1) (Q := fun r1 h1 => xCi (D + 2) M_R_less [(0, 100000000), (0, r1)] h1 (fun r2 h2 => xT (D + 2) M_R_within 27 [(1, 59), (0, i), (0, q), (0, g), (0, c / 4), (0, c % 4), (0, b2i b), (0, r2)] [] h2 (xqi Q))) ok (by omega) h1 q0 (C (2, c + 1) (List.mem_append_left _ List.mem_cons_self)) R M (fun h2 F2 M2 => by
        refine c_R_less ?_
        exact heavy h2 [(2, c + 1)] _ F2 M2 (by rw [nLs, nLs, fl, fm]) (by rw [if_pos c1]))
      rw [show ((2, c + 1) : Int × Int).2 / 4 = c / 4 by show (c + 1) / 4 = c / 4; omega, show nA E q g ((2, c + 1) : Int × Int).2 = c % 4 + 1 by unfold nA cN; rw [if_neg (by omega), if_pos s4]; show (c + 1) % 4 = c % 4 + 1; omega] at e
      exact e
    · rw [if_neg c1]
      exact heavy h [] 100000000 (Fr_refl _ _ _) M rfl (by rw [if_neg c1])
  · rw [if_neg s4]
    have k9 := kk.2.1
    have kk := kk.2.2.resolve_left (fun z => s4 z.1)
    have eN : cN E g c = 1 - c % 4 := by unfold cN; rw [if_neg s4]
    rw [eN]
    have eC : scCh E g c = if c % 4 = 1 ∧ c / 4 + 1 < E 9 g then fopen (E 8 g) (E 9 g) (fun k => E 12 (4 * g + k)) (c / 4 + 1) else if c % 4 = 0 ∧ c / 4 < E 9 g ∧ fd (E 8 g) (E 9 g) (fun k => E 12 (4 * g + k)) (c / 4) = 4 then [(2, c + 1)] else [] := by
      unfold scCh fch
      rw [if_neg s4, if_neg (by omega)]
    have eAs : scAsk E g c = decide (E 8 g = 3 ∧ c = 4 * (E 10 g - 1) + 1) := by
      unfold scAsk fasks
      by_cases z : E 8 g = 3 ∧ c = 4 * (E 10 g - 1) + 1
      · rw [if_pos z, decide_eq_true z]; decide
      · rw [if_neg z, decide_eq_false z]; decide
    rcases kk.2 with c1 | ⟨c0, cf⟩
    · rw [if_neg (by omega), xw_id (a := c / 4 + 1) (by omega) (by omega)]
      refine ⟨⟨t6, g0, g1⟩, ?_⟩
      by_cases c2 : c / 4 + 1 = E 9 g
      · rw [if_pos c2]
        have K := H h (Fr_refl _ _ _) M
        have e : nWi E (nN E) i q g c b = 100000000 := by
          have z0 : nCh E (nN E) i q g c = 100000000 := by
            unfold nCh
            rw [eC, if_neg (show ¬ (c % 4 = 1 ∧ c / 4 + 1 < E 9 g) from fun z => by have := z.2; omega), if_neg (show ¬ (c % 4 = 0 ∧ c / 4 < E 9 g ∧ fd (E 8 g) (E 9 g) (fun k => E 12 (4 * g + k)) (c / 4) = 4) from fun z => by have := z.1; omega)]
            rfl
          unfold nWi
          by_cases z : (b || !scAsk E g c) = true
          · rw [if_pos z]; exact z0
          · rw [if_neg z]
        rw [e] at K
        exact K
      · rw [if_neg c2]
        have lt : c / 4 + 1 < E 9 g := by omega
        have eO : scCh E g c = scOpen E g (c / 4 + 1) := by
          rw [eC, if_pos ⟨c1, lt⟩]
          unfold scOpen
          rw [if_neg s4]
        have go : (b || !scAsk E g c) = true → xCi (D + 2) M_R_toPlace [(1, 59), (0, i), (0, q), (0, g), (0, c / 4 + 1)] h (fun r h' => Q r h') := fun z => by
          refine c_R_toPlace (D := D) ok hD h1 q0 g0 g1 F (by omega) lt (fun p mp => C p (by rw [eO]; exact mp)) R M (fun h' F' M' => ?_)
          have K := H h' F' M'
          unfold nWi at K
          rw [if_pos z] at K
          unfold nCh at K
          rw [eO] at K
          exact K
        refine ⟨⟨t3, g0, g1⟩, ?_⟩
        by_cases c3 : E 8 g = 3
        · rw [if_pos c3]
          refine ⟨⟨t9, g0, g1⟩, ?_⟩
          by_cases c4 : c / 4 + 1 = E 10 g
          · rw [if_pos c4]
            have as : scAsk E g c = true := by rw [eAs]; exact decide_eq_true ⟨c3, by omega⟩
            cases b with
            | false =>
              rw [b2i_0, if_pos rfl]
              have K := H h (Fr_refl _ _ _) M
              unfold nWi at K
              rw [as, if_neg (by decide)] at K
              exact K
            | true =>
              rw [b2i_1, if_neg (by decide)]
              exact go (by rw [Bool.true_or])
          · rw [if_neg c4]
            refine go ?_
            rw [eAs, decide_eq_false (fun z => c4 (by omega)), Bool.not_false, Bool.or_true]
        · rw [if_neg c3]
          refine go ?_
          rw [eAs, decide_eq_false (fun z => c3 z.1), Bool.not_false, Bool.or_true]
    · rw [if_pos (by omega)]
      have eO : scCh E g c = [(2, c + 1)] := by
        rw [eC, if_neg (show ¬ (c % 4 = 1 ∧ c / 4 + 1 < E 9 g) from fun z => by have := z.1; omega), if_pos ⟨c0, k9, cf⟩]
      have e := c_R_fill (h := h) (D := D + 1) (Q := Q) ok (by omega) h1 q0 (C (2, c + 1) (by rw [eO]; exact List.mem_cons_self)) R M (fun h' F' M' => by
        have K := H h' F' M'
        unfold nWi at K
        rw [eAs, decide_eq_false (fun z => by have := z.2; omega), Bool.not_false, Bool.or_true, if_pos rfl] at K
        unfold nCh at K
        rw [eO, nLs, nLs, fl] at K
        exact K)
      rw [show ((2, c + 1) : Int × Int).2 / 4 = c / 4 by show (c + 1) / 4 = c / 4; omega, show nA E q g ((2, c + 1) : Int × Int).2 = 0 by unfold nA cN; rw [if_neg (by omega), if_neg s4]; show 1 - (c + 1) % 4 = 0; omega] at e
      exact e
end RN2
