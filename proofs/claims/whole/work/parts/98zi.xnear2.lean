/-! near: the class' states, feet, gates -/
section XN2
variable {p f : Int} {E : SEn} {d : Nat}
theorem c_X_sv {h : xH} {Q : Int → xH → Prop} {q g c : Int} {b : Bool} {m : Nat} (N : NC h p f E) (q0 : 0 ≤ q) (q1 : q < E 5 0) (g0 : 0 ≤ g) (g1 : g < 12) (st : scStand E q g = true) (c0 : 0 ≤ c) (c1 : c < fcE E g) (c16 : c < 16) (hm : (m : Int) ≤ E 0 0) (C : ∀ c' b, 0 ≤ c' → c' < fcE E g → ((c = 16 ∨ c < c') → CeV h E q g c' (E 0 0 - m) b) ∧ (E 0 0 - (m : Int) < E 0 0 → CeV h E q g c' (E 0 0 - m + 1) b)) (G : GaI h E (q + 1)) (H : ∀ v, 0 ≤ v → v ≤ 1048576 + (m : Int) → (cOk E g c → min v 1048576 = min (nN E (E 0 0 - m) q g c b) 1048576) → Q v h) : xCi (d + 5) M_Near_stateValue [(1, 45), (1, h.r 23 g), (0, q), (0, c), (0, b2i b), (0, E 0 0 - (m : Int))] h Q := by
  have ok := N.1.2.2.2.1
  have X := N.1
  have n40 := ok.2.1
  have p8 := ok.2.2.2.2.1
  have B := (ft_of X g0 g1 st).1
  have F := sc_stand ok g0 g1 st
  have t1 : h.tag (h.r 23 g) = 1 := B.2.2.1
  obtain ⟨t45, t2, t3, t4, t5, t6, t7, t8, t9, t10, t11⟩ := nc_g N
  have nr := N.2.1
  have nf := N.2.2
  have gv := G (q + 1) (E 0 0 - m) (Int.le_refl _) (by omega) (by omega) (by omega)
  rw [show (E 0 0 - (E 0 0 - (m : Int))).toNat = m by omega] at gv
  have iok : cOk E g c → nOk E (E 0 0 - (m : Int)) q g c := fun k => ⟨by omega, by omega, Or.inr ⟨q0, q1, g0, g1, st, k⟩⟩
  have eG : (q + 1) * 41 + (E 0 0 - (m : Int)) = 41 * (q + 1) + (E 0 0 - m) := by omega
  have wbd : cOk E g c → 0 ≤ nWi E (nN E) (E 0 0 - m) q g c b ∧ nWi E (nN E) (E 0 0 - m) q g c b ≤ 100000000 := fun k => nW_bd ok (b := b) (iok k) (by omega)
  have gbd := nGt_bd ok (p := q + 1) (by omega) (by omega) m hm
  -- behind the choices
  have p31 : ∀ v1 : Int, 0 ≤ v1 → v1 ≤ 1048576 + (m : Int) → (cOk E g c → min v1 1048576 = min (min (min 100000000 (if 0 < m then 1 + nN E (E 0 0 - (m : Int) + 1) q g c b else 100000000)) (nWi E (nN E) (E 0 0 - m) q g c b)) 1048576) → xT (d + 4) M_Near_stateValue 31 [(1, 45), (1, h.r 23 g), (0, q), (0, c), (0, b2i b), (0, E 0 0 - (m : Int)), (0, v1)] [] h (xqi Q) := fun v1 a1 a2 a3 => by
    apply L_Near_stateValue_31
    refine ⟨t1, ?_⟩
    refine c_X_mayEnd (d := d + 3) B c0 (by omega) ?_
    rw [show decide (fends (E 8 g) (E 9 g) (E 10 g) (E 11 g) c = 1) = scEnd E g c from rfl]
    have no : nLv E q g c b = false → Q v1 h := fun el => by
      refine H v1 a1 a2 (fun k => ?_)
      rw [a3 k, nN_gt ok q0 m (iok k), if_neg (show ¬ nLv E q g c b = true by rw [el]; decide)]
      have w := wbd k
      generalize (if 0 < m then 1 + nN E (E 0 0 - (m : Int) + 1) q g c b else 100000000) = z1
      generalize nWi E (nN E) (E 0 0 - m) q g c b = z2 at w ⊢
      clear H C G
      omega
    have yes : nLv E q g c b = true → ∀ x1 : Int, x1 = (if h.i 46 (41 * (q + 1) + (E 0 0 - (m : Int))) < v1 then h.i 46 (41 * (q + 1) + (E 0 0 - (m : Int))) else v1) → Q x1 h := fun el x1 e1 => by
      have e1 : x1 = min (h.i 46 (41 * (q + 1) + (E 0 0 - (m : Int)))) v1 := by
        rw [e1]
        by_cases w : h.i 46 (41 * (q + 1) + (E 0 0 - (m : Int))) < v1
        · rw [if_pos w]; omega
        · rw [if_neg w]; omega
      have g0' := gv.1
      have g1' := gv.2.1
      have g2' := gv.2.2
      generalize h.i 46 (41 * (q + 1) + (E 0 0 - (m : Int))) = ga at e1 g0' g1' g2'
      refine H x1 (by omega) (by omega) (fun k => ?_)
      have b3 := a3 k
      rw [nN_gt ok q0 m (iok k), if_pos el]
      have w := wbd k
      generalize (if 0 < m then 1 + nN E (E 0 0 - (m : Int) + 1) q g c b else 100000000) = z1 at b3 ⊢
      generalize nWi E (nN E) (E 0 0 - m) q g c b = z2 at w b3 ⊢
      generalize nGt E (q + 1) m = z3 at g2' gbd ⊢
      clear H C G
      omega
    cases eE : scEnd E g c with
    | false =>
      rw [b2i_0, if_pos rfl]
      exact no (by unfold nLv; rw [eE, Bool.false_and, Bool.and_false])
    | true =>
      rw [b2i_1, if_neg (by decide)]
      have gix : xw (xw (xw (q + 1) * 41) + (E 0 0 - (m : Int))) = 41 * (q + 1) + (E 0 0 - (m : Int)) := by
        rw [xw_id (a := q + 1) (by omega) (by omega), xw_id (a := (q + 1) * 41) (by omega) (by omega), xw_id (by omega) (by omega)]
        exact eG
      cases b with
      | false =>
        rw [b2i_0, if_pos rfl, t2, nf]
        refine ⟨t45, t3, ?_⟩
        refine c_X_cutB (d := d + 3) X q0 (by omega) ?_
        cases eC : scCut E q with
        | true =>
          rw [b2i_1, if_neg (by decide)]
          refine no ?_
          unfold nLv
          rw [eC, Bool.not_true, Bool.or_false, Bool.and_false, Bool.and_false]
        | false =>
          rw [b2i_0, if_pos rfl, t4, t6, gix]
          refine ⟨t45, ⟨t5, by omega, by omega⟩, fun x1 e1 => yes ?_ x1 e1⟩
          unfold nLv
          rw [decide_eq_true (by omega), eE, eC, Bool.not_false, Bool.or_true]; rfl
      | true =>
        rw [b2i_1, if_neg (by decide), t4, t6, gix]
        refine ⟨t45, ⟨t5, by omega, by omega⟩, fun x2 e2 => yes ?_ x2 e2⟩
        unfold nLv
        rw [decide_eq_true (by omega), eE, Bool.true_or]; rfl
  -- the choices
  have chs : ∀ A : Int, 0 ≤ A → A ≤ 1048576 + (m : Int) → (cOk E g c → min A 1048576 = min (min 100000000 (if 0 < m then 1 + nN E (E 0 0 - (m : Int) + 1) q g c b else 100000000)) 1048576) → (b = true ∨ scAsk E g c = false → xCi (d + 4) M_Near_leastChoice [(1, 45), (1, h.r 23 g), (0, c), (0, E 0 0 - (m : Int))] h (fun r3 h3 => ∀ x2 : Int, x2 = (if r3 < A then r3 else A) → xT (d + 4) M_Near_stateValue 31 [(1, 45), (1, h.r 23 g), (0, q), (0, c), (0, b2i b), (0, E 0 0 - (m : Int)), (0, x2)] [] h3 (xqi Q))) ∧ (b = false → scAsk E g c = true → xT (d + 4) M_Near_stateValue 31 [(1, 45), (1, h.r 23 g), (0, q), (0, c), (0, b2i b), (0, E 0 0 - (m : Int)), (0, A)] [] h (xqi Q)) := fun A a1 a2 a3 => by
    constructor
    · intro hb
      refine c_X_least (d := d + 1) N q0 q1 g0 g1 st c0 (by omega) (by omega) (by omega) C (fun v v0 v1 v2 x2 e2 => ?_)
      have e2 : x2 = min v A := by
        rw [e2]
        by_cases w : v < A
        · rw [if_pos w]; omega
        · rw [if_neg w]; omega
      refine p31 x2 (by omega) (by omega) (fun k => ?_)
      have b3 := a3 k
      have eW : nWi E (nN E) (E 0 0 - m) q g c b = nCh E (nN E) (E 0 0 - m) q g c := by
        unfold nWi
        rw [if_pos (by rcases hb with z | z <;> rw [z] <;> simp)]
      rw [eW]
      generalize (if 0 < m then 1 + nN E (E 0 0 - (m : Int) + 1) q g c b else 100000000) = z1 at b3 ⊢
      generalize nCh E (nN E) (E 0 0 - m) q g c = z2 at v2 ⊢
      clear H C G
      omega
    · intro hb ha
      refine p31 A a1 a2 (fun k => ?_)
      rw [a3 k]
      have eW : nWi E (nN E) (E 0 0 - m) q g c b = 100000000 := by
        unfold nWi
        rw [hb, ha, if_neg (by decide)]
      rw [eW]
      generalize (if 0 < m then 1 + nN E (E 0 0 - (m : Int) + 1) q g c b else 100000000) = z1
      omega
  apply L_Near_stateValue
  rw [nr, t11]
  refine ⟨t45, t10, ?_⟩
  by_cases c3 : E 0 0 - (m : Int) < E 0 0
  · rw [if_pos c3, xw_id (a := E 0 0 - (m : Int) + 1) (by omega) (by omega)]
    have cv := (C c b c0 c1).2 c3
    have cv0 := cv.1
    have cv1 := cv.2.1
    have cv2 := cv.2.2
    refine c_X_ncell (d := d + 3) N c0 c16 (by omega) (by omega) (fun x1 e1 => ?_)
    rw [xw_id (by omega) (by omega)] at e1
    have K := chs x1 (by omega) (by omega) (fun k => by
      rw [if_pos (by omega)]
      have c4 := cv2 k
      have k2 : nOk E (E 0 0 - (m : Int) + 1) q g c := ⟨by omega, by omega, (iok k).2.2⟩
      have v2 := nN_bd ok (b := b) k2
      generalize nN E (E 0 0 - (m : Int) + 1) q g c b = z1 at c4 v2 ⊢
      generalize h.i 47 (cIx c b (E 0 0 - (m : Int) + 1)) = z2 at c4 e1 cv0 cv1
      clear H C G chs p31
      omega)
    cases b with
    | false =>
      rw [b2i_0, if_pos rfl]
      refine ⟨t1, ?_⟩
      refine c_X_asks (d := d + 3) B c0 (by omega) ?_
      rw [show decide (fasks (E 8 g) (E 10 g) c = 1) = scAsk E g c from rfl]
      cases eA : scAsk E g c with
      | false => rw [b2i_0, if_pos rfl]; exact ⟨t45, K.1 (Or.inr eA)⟩
      | true => rw [b2i_1, if_neg (by decide)]; exact K.2 rfl eA
    | true =>
      rw [b2i_1, if_neg (by decide)]
      exact ⟨t45, K.1 (Or.inl rfl)⟩
  · rw [if_neg c3]
    have K := chs 1048576 (by decide) (by omega) (fun k => by rw [if_neg (by omega)]; decide)
    cases b with
    | false =>
      rw [b2i_0, if_pos rfl]
      refine ⟨t1, ?_⟩
      refine c_X_asks (d := d + 3) B c0 (by omega) ?_
      rw [show decide (fasks (E 8 g) (E 10 g) c = 1) = scAsk E g c from rfl]
      cases eA : scAsk E g c with
      | false => rw [b2i_0, if_pos rfl]; exact ⟨t45, K.1 (Or.inr eA)⟩
      | true => rw [b2i_1, if_neg (by decide)]; exact K.2 rfl eA
    | true =>
      rw [b2i_1, if_neg (by decide)]
      exact K.1 (Or.inl rfl)
theorem CeV_ne {h h' : xH} {q g c i v c' i' : Int} {b b' : Bool} (e : h' = h.wi 47 (cIx c b i) v) (ne : cIx c' b' i' ≠ cIx c b i) (C : CeV h E q g c' i' b') : CeV h' E q g c' i' b' := by
  unfold CeV at C ⊢
  rw [e, xi_wi, if_neg (fun z => ne z.2)]
  exact C
theorem GaI_47 {h h' : xH} {q : Int} (e : h'.i 46 = h.i 46) (G : GaI h E q) : GaI h' E q := by
  intro p' i a b c d
  rw [e]
  exact G p' i a b c d
theorem CeI_46 {h h' : xH} {q g i c : Int} (e : h'.i 47 = h.i 47) (C : CeI h E q g i c) : CeI h' E q g i c := by
  intro i' c' b a1 a2 a3 a4 a5
  unfold CeV
  rw [e]
  exact C i' c' b a1 a2 a3 a4 a5
theorem c_X_ff11 {Q : xH → Prop} {q g : Int} {m : Nat} (q0 : 0 ≤ q) (q1 : q < E 5 0) (g0 : 0 ≤ g) (g1 : g < 12) (st : scStand E q g = true) (hm : (m : Int) ≤ E 0 0) (fc : fcE E g ≤ 16) (hr : xH) : ∀ (n : Nat) (h : xH), (n : Int) ≤ fcE E g → NC h p f E → GaI h E (q + 1) → h.r 23 g = hr.r 23 g → CeI h E q g (E 0 0 - m) ((n : Int) - 1) → (∀ h', Fr [47] [] h h' → CeI h' E q g (E 0 0 - m) (-1) → xT (d + 6) M_Near_fillFoot 4 [(1, 45), (1, hr.r 23 g), (0, q), (0, E 0 0 - (m : Int) - 1), (0, -1)] [] h' (xqv Q)) → xT (d + 6) M_Near_fillFoot 11 [(1, 45), (1, hr.r 23 g), (0, q), (0, E 0 0 - (m : Int)), (0, (n : Int) - 1)] [] h (xqv Q) := by
  intro n
  induction n with
  | zero =>
    intro h hn N G er C H
    have ok := N.1.2.2.2.1
    have n40 := ok.2.1
    apply L_Near_fillFoot_11
    rw [if_pos (by decide)]
    intro x1 e1
    rw [xw_id (by omega) (by omega)] at e1
    rw [e1]
    have := H h (Fr_refl _ _ _) C
    rw [show E 0 0 - (m : Int) + -1 = E 0 0 - (m : Int) - 1 by omega]
    exact this
  | succ n ih =>
    intro h hn N G er C H
    have ok := N.1.2.2.2.1
    have n40 := ok.2.1
    have t45 := (nc_g N).1
    have en : (((n + 1 : Nat) : Int) - 1) = (n : Int) := by push_cast; omega
    rw [en] at C ⊢
    push_cast at hn
    apply L_Near_fillFoot_11
    rw [if_neg (by omega), ← er]
    refine ⟨t45, ?_⟩
    have cf : ∀ c' b, 0 ≤ c' → c' < fcE E g → (((n : Int) = 16 ∨ (n : Int) < c') → CeV h E q g c' (E 0 0 - m) b) ∧ (E 0 0 - (m : Int) < E 0 0 → CeV h E q g c' (E 0 0 - m + 1) b) := fun c' b a1 a2 => ⟨fun a3 => C _ c' b (by omega) (by omega) a1 a2 (Or.inr ⟨rfl, by omega⟩), fun a3 => C _ c' b (by omega) (by omega) a1 a2 (Or.inl (by omega))⟩
    have e0 := c_X_sv (d := d + 1) (b := false) (m := m) (c := (n : Int)) (Q := fun r1 h1 => h1.tag 45 = 5 ∧ (xCv (d + 6) M_Near_setCell [(1, 45), (0, (n : Int)), (0, 0), (0, E 0 0 - (m : Int)), (0, r1)] h1 (fun h2 => h2.tag 45 = 5 ∧ (xCi (d + 6) M_Near_stateValue [(1, 45), (1, h.r 23 g), (0, q), (0, (n : Int)), (0, 1), (0, E 0 0 - (m : Int))] h2 (fun r2 h3 => h3.tag 45 = 5 ∧ (xCv (d + 6) M_Near_setCell [(1, 45), (0, (n : Int)), (0, 1), (0, E 0 0 - (m : Int)), (0, r2)] h3 (fun h4 => ∀ x2 : Int, x2 = xw ((n : Int) + (-1)) → xT (d + 6) M_Near_fillFoot 11 [(1, 45), (1, h.r 23 g), (0, q), (0, E 0 0 - (m : Int)), (0, x2)] [] h4 (xqv Q)))))))) N q0 q1 g0 g1 st (by omega) (by omega) (by omega) hm cf G (fun v v0 v1 v2 => ?_)
    · exact e0
    refine ⟨t45, ?_⟩
    refine c_X_nset (d := d + 5) (b := false) N (by omega) (by omega) (by omega) (by omega) (fun h2 e2 => ?_)
    have F2 : Fr [47] [] h h2 := by rw [e2]; exact Fr_cell (Fr_refl _ _ _) _ _ (by decide)
    have F2' : Fr [46, 47] [] h h2 := Fr_mono F2 (by decide) (fun c m => m)
    have N2 := NC_fr F2' N
    have G2 := GaI_47 (Fr_row F2 (c := 46) (by decide) (by decide)) G
    have r2 : h2.r 23 g = h.r 23 g := by rw [(fr_same F2).1]
    have ne : ∀ c' i' (b' : Bool), 0 ≤ i' → i' ≤ E 0 0 → (c' ≠ (n : Int) ∨ i' ≠ E 0 0 - m ∨ b' ≠ false) → cIx c' b' i' ≠ cIx (n : Int) false (E 0 0 - m) := fun c' i' b' a1 a2 a3 z => by
      have := cIx_inj a1 (by omega) (by omega) (by omega) z
      rcases a3 with y | y | y
      · exact y this.1
      · exact y this.2.2
      · exact y this.2.1
    have cf2 : ∀ c' b, 0 ≤ c' → c' < fcE E g → (((n : Int) = 16 ∨ (n : Int) < c') → CeV h2 E q g c' (E 0 0 - m) b) ∧ (E 0 0 - (m : Int) < E 0 0 → CeV h2 E q g c' (E 0 0 - m + 1) b) := fun c' b a1 a2 => ⟨fun a3 => CeV_ne e2 (ne c' _ b (by omega) (by omega) (Or.inl (by omega))) ((cf c' b a1 a2).1 a3), fun a3 => CeV_ne e2 (ne c' _ b (by omega) (by omega) (Or.inr (Or.inl (by omega)))) ((cf c' b a1 a2).2 a3)⟩
    refine ⟨(nc_g N2).1, ?_⟩
    rw [← r2]
    have e1 := c_X_sv (d := d + 1) (b := true) (m := m) (c := (n : Int)) (Q := fun r2 h3 => h3.tag 45 = 5 ∧ (xCv (d + 6) M_Near_setCell [(1, 45), (0, (n : Int)), (0, 1), (0, E 0 0 - (m : Int)), (0, r2)] h3 (fun h4 => ∀ x2 : Int, x2 = xw ((n : Int) + (-1)) → xT (d + 6) M_Near_fillFoot 11 [(1, 45), (1, h2.r 23 g), (0, q), (0, E 0 0 - (m : Int)), (0, x2)] [] h4 (xqv Q)))) N2 q0 q1 g0 g1 st (by omega) (by omega) (by omega) hm cf2 G2 (fun w w0 w1 w2 => ?_)
    · exact e1
    refine ⟨(nc_g N2).1, ?_⟩
    refine c_X_nset (d := d + 5) (b := true) N2 (by omega) (by omega) (by omega) (by omega) (fun h4 e4 => ?_)
    intro x2 ex
    rw [xw_id (by omega) (by omega)] at ex
    rw [ex, r2, er]
    have F4 : Fr [47] [] h2 h4 := by rw [e4]; exact Fr_cell (Fr_refl _ _ _) _ _ (by decide)
    have F24 : Fr [47] [] h h4 := Fr_trans F2 F4
    have N4 := NC_fr (Fr_mono F4 (by decide) (fun c m => m) : Fr [46, 47] [] h2 h4) N2
    have G4 := GaI_47 (Fr_row F24 (c := 46) (by decide) (by decide)) G
    have key := ih h4 (by omega) N4 G4 (by rw [(fr_same F24).1]; exact er) (fun i' c' b' a1 a2 a3 a4 a5 => ?_) (fun h' F' C' => H h' (Fr_trans F24 F') C')
    · rw [show (n : Int) + -1 = (n : Int) - 1 by omega]
      exact key
    · by_cases z : c' = (n : Int) ∧ i' = E 0 0 - m
      · obtain ⟨z1, z2⟩ := z
        subst z1 z2
        cases b' with
        | false =>
          have ne4 : cIx (n : Int) false (E 0 0 - (m : Int)) ≠ cIx (n : Int) true (E 0 0 - m) := fun y => by
            have := (cIx_inj (by omega) (by omega) (by omega) (by omega) y).2.1
            exact absurd this (by decide)
          refine CeV_ne e4 ne4 ?_
          unfold CeV
          rw [e2, xi_wi, if_pos ⟨rfl, rfl⟩]
          exact ⟨v0, by omega, v2⟩
        | true =>
          unfold CeV
          rw [e4, xi_wi, if_pos ⟨rfl, rfl⟩]
          exact ⟨w0, by omega, w2⟩
      · have ne4 : cIx c' b' i' ≠ cIx (n : Int) true (E 0 0 - m) := fun y => by
          have := cIx_inj a1 (by omega) (by omega) (by omega) y
          exact z ⟨this.1, this.2.2⟩
        refine CeV_ne e4 ne4 (CeV_ne e2 (ne c' i' b' a1 a2 (by omega)) (C i' c' b' a1 a2 a3 a4 (by omega)))
theorem c_X_ff4 {Q : xH → Prop} {q g : Int} (q0 : 0 ≤ q) (q1 : q < E 5 0) (g0 : 0 ≤ g) (g1 : g < 12) (st : scStand E q g = true) (hr : xH) (H : ∀ h', Fr [47] [] hr h' → CeI h' E q g (-1) (fcE E g - 1) → Q h') (Nr : NC hr p f E) (Gr : GaI hr E (q + 1)) : ∀ (n m : Nat) (h : xH) (u4 : xV), ((m + n : Nat) : Int) = E 0 0 + 1 → Fr [47] [] hr h → CeI h E q g (E 0 0 - m) (fcE E g - 1) → xT (d + 6) M_Near_fillFoot 4 [(1, 45), (1, hr.r 23 g), (0, q), (0, E 0 0 - (m : Int)), u4] [] h (xqv Q) := by
  have ok := Nr.1.2.2.2.1
  have n40 := ok.2.1
  have F := sc_stand ok g0 g1 st
  have m4 := F.2.2.2.1
  have m1 := F.2.2.1
  have f4 := F.2.2.2.2.1
  have fc : 0 ≤ fcE E g ∧ fcE E g ≤ 16 := by
    unfold fcE fcodes
    by_cases e : E 8 g = 4
    · rw [if_pos e]; have := f4 e; omega
    · rw [if_neg e]; omega
  intro n
  induction n with
  | zero =>
    intro m h u4 hm F0 C
    apply L_Near_fillFoot_4
    rw [if_pos (by omega)]
    refine H h F0 ?_
    rw [show E 0 0 - (m : Int) = -1 by omega] at C
    exact C
  | succ n ih =>
    intro m h u4 hm F0 C
    have F0' : Fr [46, 47] [] hr h := Fr_mono F0 (by decide) (fun c m => m)
    have N := NC_fr F0' Nr
    have G := GaI_47 (Fr_row F0 (c := 46) (by decide) (by decide)) Gr
    have er : h.r 23 g = hr.r 23 g := by rw [(fr_same F0).1]
    have B := (ft_of N.1 g0 g1 st).1
    rw [er] at B
    apply L_Near_fillFoot_4
    rw [if_neg (by omega)]
    refine ⟨B.2.2.1, ?_⟩
    refine c_X_codes (d := d + 5) B ?_
    intro x1 e1
    have e1 : x1 = fcE E g - 1 := by
      have : fcodes (E 8 g) (E 9 g) (E 11 g) = fcE E g := rfl
      rw [e1, this, xw_id (by omega) (by omega)]
    rw [e1]
    have key := c_X_ff11 (d := d) (Q := Q) (m := m) q0 q1 g0 g1 st (by omega) fc.2 hr (fcE E g).toNat h (by omega) N G er (by rw [show (((fcE E g).toNat : Nat) : Int) - 1 = fcE E g - 1 by omega]; exact C) (fun h' F' C' => ?_)
    · rw [show (((fcE E g).toNat : Nat) : Int) - 1 = fcE E g - 1 by omega] at key
      exact key
    · have := ih (m + 1) h' (0, -1) (by omega) (Fr_trans F0 F') (fun i' c' b a1 a2 a3 a4 a5 => C' i' c' b a1 a2 a3 a4 (by push_cast at a5; omega))
      rw [show E 0 0 - ((m + 1 : Nat) : Int) = E 0 0 - (m : Int) - 1 by push_cast; omega] at this
      exact this
theorem c_X_fillFoot {h : xH} {Q : xH → Prop} {q g : Int} (N : NC h p f E) (q0 : 0 ≤ q) (q1 : q < E 5 0) (g0 : 0 ≤ g) (g1 : g < 12) (st : scStand E q g = true) (G : GaI h E (q + 1)) (H : ∀ h', Fr [47] [] h h' → CeI h' E q g (-1) (fcE E g - 1) → Q h') : xCv (d + 7) M_Near_fillFoot [(1, 45), (1, h.r 23 g), (0, q)] h Q := by
  obtain ⟨t45, t2, t3, t4, t5, t6, t7, t8, t9, t10, t11⟩ := nc_g N
  have ok := N.1.2.2.2.1
  have n1 := ok.1
  apply L_Near_fillFoot
  rw [N.2.1, t11]
  refine ⟨t45, t10, fun x1 e1 => ?_⟩
  subst e1
  have key := c_X_ff4 (d := d) (Q := Q) q0 q1 g0 g1 st h H N G (E 0 0 + 1).toNat 0 h (9, 0) (by omega) (Fr_refl _ _ _) (fun i' c' b a1 a2 a3 a4 a5 => by omega)
  rw [show E 0 0 - ((0 : Nat) : Int) = E 0 0 by omega] at key
  exact key
end XN2
