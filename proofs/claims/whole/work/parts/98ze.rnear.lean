/-! near: the reference -/
def nA (E : SEn) (q g c : Int) : Int := if q = -1 then 0 else cN E g c
def nIx (E : SEn) (i q g c : Int) (b : Bool) : Int := 2 * ((((9 * i + q + 1) * 12 + g) * 4 + c / 4) * 4 + nA E q g c) + b2i b
def MN (h : xH) (E : SEn) : Prop := ∀ i q g c b, nOk E i q g c → h.i 113 (nIx E i q g c b) = -1 ∨ h.i 113 (nIx E i q g c b) = nN E i q g c b
def CFo (E : SEn) (l f : Int) (D : Nat) (i q g c : Int) (b : Bool) : Prop := ∀ (h : xH) (Q : Int → xH → Prop), REn h l f E → MN h E → (∀ h', Fr [113] [] h h' → MN h' E → Q (nN E i q g c b) h') → xCi D M_R_changesFrom [(1, 59), (0, i), (0, q), (0, g), (0, c / 4), (0, nA E q g c), (0, b2i b)] h Q
/-- what is called behind a choice may be called -/
def CEn (E : SEn) (l f : Int) (D0 : Nat) (i q g : Int) (p : Int × Int) : Prop := nOk E i q g p.2 ∧ 1 ≤ p.1 ∧ p.1 ≤ 3 ∧ (∀ D, D0 ≤ D → CFo E l f D i q g p.2 false) ∧ (i < E 0 0 → ∀ D, D0 ≤ D → CFo E l f D (i + 1) q g p.2 (scLast E i))
section RN
variable {E : SEn} {l f : Int}
theorem nA_bd {i q g c : Int} (k : nOk E i q g c) : 0 ≤ nA E q g c ∧ nA E q g c < 4 ∧ (c / 4 = 0 ∨ c / 4 = 1 ∨ c / 4 = 2 ∨ c / 4 = 3 ∨ c / 4 < 0 ∨ 4 ≤ c / 4) := by
  unfold nA
  by_cases z : q = -1
  · rw [if_pos z]; omega
  · rw [if_neg z]
    have := cN_bd (k.2.2.resolve_left (fun y => z y.1)).2.2.2.2.2
    omega
theorem b2i_01 (b : Bool) : b2i b = 0 ∨ b2i b = 1 := by cases b <;> decide
theorem nIx_bd (ok : EOk E) {i q g c : Int} {b : Bool} (k : nOk E i q g c) : 0 ≤ nIx E i q g c b ∧ nIx E i q g c b < 141696 ∧ 0 ≤ c / 4 ∧ c / 4 < 4 ∧ 0 ≤ g ∧ g < 12 := by
  have n40 := ok.2.1
  have a := nA_bd k
  have r := nOk_rk ok k
  have k0 := k.1
  have k1 := k.2.1
  have b01 := b2i_01 b
  have g01 : 0 ≤ g ∧ g < 12 := by rcases k.2.2 with z | z <;> omega
  unfold nIx
  omega
theorem nIx_inj (ok : EOk E) {i q g c i' q' g' c' : Int} {b b' : Bool} (k : nOk E i q g c) (k' : nOk E i' q' g' c') (e : nIx E i q g c b = nIx E i' q' g' c' b') : i = i' ∧ q = q' ∧ g = g' ∧ c = c' ∧ b = b' := by
  have a := nA_bd k
  have a' := nA_bd k'
  have r := nOk_rk ok k
  have r' := nOk_rk ok k'
  have x := nIx_bd ok (b := b) k
  have x' := nIx_bd ok (b := b') k'
  have b01 := b2i_01 b
  have b01' := b2i_01 b'
  unfold nIx at e
  have e1 : b2i b = b2i b' := by omega
  have e2 : nA E q g c = nA E q' g' c' := by omega
  have e3 : c / 4 = c' / 4 := by omega
  have e4 : g = g' := by omega
  have e5 : q = q' := by omega
  have e6 : i = i' := by omega
  refine ⟨e6, e5, e4, ?_, ?_⟩
  · subst e5 e4
    rcases k.2.2 with z | z
    · rcases k'.2.2 with y | y
      · omega
      · omega
    · rcases k'.2.2 with y | y
      · omega
      · unfold nA cN at e2
        rw [if_neg (show ¬ q = -1 by omega), if_neg (show ¬ q = -1 by omega)] at e2
        by_cases s : E 8 g = 4
        · rw [if_pos s, if_pos s] at e2; omega
        · rw [if_neg s, if_neg s] at e2; omega
  · cases b <;> cases b' <;> first | rfl | exact absurd e1 (by decide)
theorem MN_w (ok : EOk E) {h h2 : xH} {i q g c : Int} {b : Bool} (k : nOk E i q g c) (M : MN h E) (e : h2 = h.wi 113 (nIx E i q g c b) (nN E i q g c b)) : MN h2 E := by
  intro i' q' g' c' b' k'
  rw [e, xi_wi]
  by_cases z : nIx E i' q' g' c' b' = nIx E i q g c b
  · obtain ⟨z1, z2, z3, z4, z5⟩ := nIx_inj ok k' k z
    subst z1 z2 z3 z4 z5
    rw [if_pos ⟨rfl, rfl⟩]
    exact Or.inr rfl
  · rw [if_neg (fun y => z y.2)]
    exact M i' q' g' c' b' k'
theorem c_R_less {d : Nat} {h : xH} {Q : Int → xH → Prop} {a b : Int} (H : Q (min a b) h) : xCi (d + 1) M_R_less [(0, a), (0, b)] h Q := by
  apply L_R_less
  by_cases c : a < b
  · rw [if_pos c]; rw [show min a b = a by omega] at H; exact H
  · rw [if_neg c]; rw [show min a b = b by omega] at H; exact H
theorem REn_n {h h' : xH} (F : Fr [113] [] h h') (R : REn h l f E) : REn h' l f E := REn_fr F (by decide) R
theorem c_R_fill {D0 D : Nat} {h : xH} {Q : Int → xH → Prop} {i q g : Int} {p : Int × Int} (ok : EOk E) (hD : D0 ≤ D) (h1 : 1 ≤ D0) (q0 : 0 ≤ q) (C : CEn E l f D0 i q g p) (R : REn h l f E) (M : MN h E) (H : ∀ h', Fr [113] [] h h' → MN h' E → Q (nFill E (nN E) i q g p) h') : xCi (D + 1) M_R_fill [(1, 59), (0, i), (0, q), (0, g), (0, p.2 / 4), (0, nA E q g p.2), (0, p.1)] h Q := by
  obtain ⟨d, rfl⟩ : ∃ d, D = d + 1 := ⟨D - 1, by omega⟩
  obtain ⟨k, w1, w3, c1, c2⟩ := C
  have n40 := ok.2.1
  have hl := rel R
  have i0 := k.1
  have i1 := k.2.1
  have v1 := nN_bd ok (b := false) k
  apply L_R_fill
  refine ⟨(srt R.1).1, ?_⟩
  refine c1 (d + 1) hD h _ R M (fun h1 F1 M1 x1 e1 => ?_)
  rw [xw_id (by omega) (by omega)] at e1
  subst e1
  have R1 := REn_n F1 R
  have g1 : h1.tag 59 = 12 ∧ h1.r 59 26 = 81 ∧ h1.tag 81 = 20 ∧ h1.len 81 = 15 := by have S := R1.1; simp only [srt S, srl S, srf S, true_and, and_true, false_and, and_false, forall_eq, forall_eq', xi_wi, xr_wi, xt_wi, xl_wi, xn_wi, xs_wi, xi_wr, xr_wr, xt_wr, xl_wr, xn_wr, xs_wr, if_true, if_false, and_self, Int.reduceEq, Int.reduceLT, Int.reduceLE, Int.reduceNeg, Int.le_refl, Int.reduceMod]
  rw [g1.2.1, g1.2.2.2, reL R1, re0 R1]
  refine ⟨g1.1, ⟨g1.2.2.1, hl.1, hl.2⟩, ?_⟩
  unfold nFill at H
  by_cases c : i = E 0 0
  · rw [if_pos c]
    refine c_R_less ?_
    have K := H h1 F1 M1
    rw [if_neg (by omega)] at K
    rw [show min (1 + nN E i q g p.2 false) 100000000 = min 100000000 (min (1 + nN E i q g p.2 false) 100000000) by omega]
    exact K
  · rw [if_neg c]
    have lt : i < E 0 0 := by omega
    rw [if_pos lt] at H
    have k2 : nOk E (i + 1) q g p.2 := ⟨by omega, by omega, k.2.2⟩
    have v2 := nN_bd ok (b := scLast E i) k2
    have m3 := ok.2.2.1 i i0 lt
    refine c_R_markOf R1 i0 lt ?_
    have p35 : nCost E i p.1 = 0 → ∀ (u6 u8 u9 : xV), xT (d + 1) M_R_fill 35 [(1, 59), (0, i), (0, q), (0, g), (0, p.2 / 4), (0, nA E q g p.2), u6, (0, 1 + nN E i q g p.2 false), u8, u9] [] h1 (xqi Q) := fun e0 u6 u8 u9 => by
      apply L_R_fill_35
      refine ⟨g1.1, ?_⟩
      refine c_R_isLast R1 i0 lt ?_
      refine ⟨g1.1, ?_⟩
      rw [xw_id (a := i + 1) (by omega) (by omega)]
      refine c2 lt (d + 1) hD h1 _ R1 M1 (fun h2 F2 M2 => ?_)
      rw [xw_id (a := 0 + nN E (i + 1) q g p.2 (scLast E i)) (by omega) (by omega)]
      refine c_R_less (c_R_less ?_)
      have K := H h2 (Fr_trans F1 F2) M2
      rw [e0] at K
      rw [show min (min (1 + nN E i q g p.2 false) (0 + nN E (i + 1) q g p.2 (scLast E i))) 100000000 = min 100000000 (min (1 + nN E i q g p.2 false) (0 + nN E (i + 1) q g p.2 (scLast E i))) by omega]
      exact K
    by_cases a1 : p.1 = 3
    · rw [if_pos a1]
      exact p35 (by unfold nCost; rw [if_pos (Or.inl a1)]) _ _ _
    · rw [if_neg a1]
      by_cases a2 : E 1 i = 3
      · rw [if_pos a2]
        exact p35 (by unfold nCost; rw [if_pos (Or.inr (Or.inl a2))]) _ _ _
      · rw [if_neg a2]
        by_cases a3 : E 1 i = p.1
        · rw [if_pos a3]
          exact p35 (by unfold nCost; rw [if_pos (Or.inr (Or.inr a3))]) _ _ _
        · rw [if_neg a3]
          have e1 : nCost E i p.1 = 1 := by unfold nCost; rw [if_neg (by omega)]
          refine ⟨g1.1, ?_⟩
          refine c_R_isLast R1 i0 lt ?_
          refine ⟨g1.1, ?_⟩
          rw [xw_id (a := i + 1) (by omega) (by omega)]
          refine c2 lt (d + 1) hD h1 _ R1 M1 (fun h2 F2 M2 => ?_)
          rw [xw_id (a := 1 + nN E (i + 1) q g p.2 (scLast E i)) (by omega) (by omega)]
          refine c_R_less (c_R_less ?_)
          have K := H h2 (Fr_trans F1 F2) M2
          rw [e1] at K
          rw [show min (min (1 + nN E i q g p.2 false) (1 + nN E (i + 1) q g p.2 (scLast E i))) 100000000 = min 100000000 (min (1 + nN E i q g p.2 false) (1 + nN E (i + 1) q g p.2 (scLast E i))) by omega]
          exact K
theorem nFill_le {v : NF} {i q g : Int} {p : Int × Int} : nFill E v i q g p ≤ 100000000 := by unfold nFill; omega
theorem nLs_le {v : NF} {i q g : Int} : ∀ L, nLs E v i q g L ≤ 100000000 := by
  intro L
  cases L with
  | nil => exact Int.le_refl _
  | cons p r => have := nFill_le (E := E) (v := v) (i := i) (q := q) (g := g) (p := p); rw [nLs]; omega
theorem c_R_toPlace {D0 D : Nat} {h : xH} {Q : Int → xH → Prop} {i q g k : Int} (ok : EOk E) (hD : D0 ≤ D) (h1 : 1 ≤ D0) (q0 : 0 ≤ q) (g0 : 0 ≤ g) (g1 : g < 12) (F : FOk (E 8 g) (E 9 g) (E 10 g) (E 11 g) (fun k => E 12 (4 * g + k))) (k0 : 0 ≤ k) (k1 : k < E 9 g) (C : ∀ p ∈ scOpen E g k, CEn E l f D0 i q g p) (R : REn h l f E) (M : MN h E) (H : ∀ h', Fr [113] [] h h' → MN h' E → Q (nLs E (nN E) i q g (scOpen E g k)) h') : xCi (D + 2) M_R_toPlace [(1, 59), (0, i), (0, q), (0, g), (0, k)] h Q := by
  have g' : h.tag 59 = 12 ∧ h.r 59 36 = 89 ∧ h.tag 89 = 20 ∧ h.len 89 = 12 ∧ h.r 59 37 = 90 ∧ h.tag 90 = 20 ∧ h.len 90 = 48 ∧ h.r 59 38 = 91 ∧ h.tag 91 = 20 ∧ h.len 91 = 12 := by have S := R.1; simp only [srt S, srl S, srf S, true_and, and_true, false_and, and_false, forall_eq, forall_eq', xi_wi, xr_wi, xt_wi, xl_wi, xn_wi, xs_wi, xi_wr, xr_wr, xt_wr, xl_wr, xn_wr, xs_wr, if_true, if_false, and_self, Int.reduceEq, Int.reduceLT, Int.reduceLE, Int.reduceNeg, Int.le_refl, Int.reduceMod]
  obtain ⟨t1, t2, t3, t4, t5, t6, t7, t8, t9, t10⟩ := g'
  have m4 := F.2.2.2.1
  unfold scOpen at C H
  apply L_R_toPlace
  rw [t2, t4, t5, t7, t8, t10, re8 R g, re9 R g]
  refine ⟨t1, ⟨t3, g0, g1⟩, ?_⟩
  by_cases s4 : E 8 g = 4
  · rw [if_pos s4] at C H ⊢
    have e := c_R_fill (h := h) (D := D) (Q := Q) ok hD h1 q0 (C (1, 4 * k) List.mem_cons_self) R M (fun h' F' M' => by
      have K := H h' F' M'
      rw [nLs, nLs] at K
      rw [show min (nFill E (nN E) i q g (1, 4 * k)) 100000000 = nFill E (nN E) i q g (1, 4 * k) by have := nFill_le (E := E) (v := nN E) (i := i) (q := q) (g := g) (p := (1, 4 * k)); omega] at K
      exact K)
    rw [show ((1, 4 * k) : Int × Int).2 / 4 = k by show 4 * k / 4 = k; omega, show nA E q g ((1, 4 * k) : Int × Int).2 = 0 by unfold nA cN; rw [if_neg (by omega), if_pos s4]; show 4 * k % 4 = 0; omega] at e
    exact e
  · rw [if_neg s4] at C H ⊢
    have dg := F.2.2.2.2.2.1 s4 k k0 k1
    simp only at dg
    have cNe : ∀ c, cN E g c = 1 - c % 4 := fun c => by unfold cN; rw [if_neg s4]
    have p40 : ∀ dd : Int, dd = fd (E 8 g) (E 9 g) (fun j => E 12 (4 * g + j)) k → 1 ≤ dd → dd ≤ 4 → xT (D + 1) M_R_toPlace 40 [(1, 59), (0, i), (0, q), (0, g), (0, k), (0, dd)] [] h (xqi Q) := fun dd ed d1 d4 => by
      unfold fopen at C H
      rw [← ed] at C H
      apply L_R_toPlace_40
      have one : dd ≠ 4 → xCi (D + 1) M_R_fill [(1, 59), (0, i), (0, q), (0, g), (0, k), (0, 0), (0, dd)] h Q := fun n4 => by
        rw [if_neg n4] at C H
        have e := c_R_fill (h := h) (D := D) (Q := Q) ok hD h1 q0 (C (dd, 4 * k + 1) List.mem_cons_self) R M (fun h' F' M' => by
          have K := H h' F' M'
          rw [nLs, nLs] at K
          rw [show min (nFill E (nN E) i q g (dd, 4 * k + 1)) 100000000 = nFill E (nN E) i q g (dd, 4 * k + 1) by have := nFill_le (E := E) (v := nN E) (i := i) (q := q) (g := g) (p := (dd, 4 * k + 1)); omega] at K
          exact K)
        rw [show ((dd, 4 * k + 1) : Int × Int).2 / 4 = k by show (4 * k + 1) / 4 = k; omega, show nA E q g ((dd, 4 * k + 1) : Int × Int).2 = 0 by unfold nA; rw [if_neg (by omega), cNe]; show 1 - (4 * k + 1) % 4 = 0; omega] at e
        exact e
      by_cases c3 : dd < 3
      · rw [if_pos c3]
        exact ⟨t1, one (by omega)⟩
      · rw [if_neg c3]
        by_cases c4 : dd = 3
        · rw [if_pos c4]
          have := one (by omega)
          rw [c4] at this
          exact ⟨t1, this⟩
        · rw [if_neg c4]
          have e4 : dd = 4 := by omega
          rw [if_pos e4] at C H
          refine ⟨t1, ?_⟩
          have e := c_R_fill (h := h) (D := D) (Q := fun r3 h3 => h3.tag 59 = 12 ∧ (xCi (D + 1) M_R_fill [(1, 59), (0, i), (0, q), (0, g), (0, k), (0, 1), (0, 2)] h3 (fun r4 h4 => xCi (D + 1) M_R_less [(0, r3), (0, r4)] h4 (fun r5 h5 => Q r5 h5)))) ok hD h1 q0 (C (1, 4 * k + 1) List.mem_cons_self) R M (fun h3 F3 M3 => by
            have R3 := REn_n F3 R
            refine ⟨(srt R3.1).1, ?_⟩
            have e := c_R_fill (h := h3) (D := D) (Q := fun r4 h4 => xCi (D + 1) M_R_less [(0, nFill E (nN E) i q g (1, 4 * k + 1)), (0, r4)] h4 (fun r5 h5 => Q r5 h5)) ok hD h1 q0 (C (2, 4 * k) (List.mem_cons_of_mem _ List.mem_cons_self)) R3 M3 (fun h4 F4 M4 => by
              refine c_R_less ?_
              have K := H h4 (Fr_trans F3 F4) M4
              rw [nLs, nLs, nLs] at K
              rw [show min (nFill E (nN E) i q g (2, 4 * k)) 100000000 = nFill E (nN E) i q g (2, 4 * k) by have := nFill_le (E := E) (v := nN E) (i := i) (q := q) (g := g) (p := (2, 4 * k)); omega] at K
              exact K)
            rw [show ((2, 4 * k) : Int × Int).2 / 4 = k by show 4 * k / 4 = k; omega, show nA E q g ((2, 4 * k) : Int × Int).2 = 1 by unfold nA; rw [if_neg (by omega), cNe]; show 1 - 4 * k % 4 = 1; omega] at e
            exact e)
          rw [show ((1, 4 * k + 1) : Int × Int).2 / 4 = k by show (4 * k + 1) / 4 = k; omega, show nA E q g ((1, 4 * k + 1) : Int × Int).2 = 0 by unfold nA; rw [if_neg (by omega), cNe]; show 1 - (4 * k + 1) % 4 = 0; omega] at e
          exact e
    rw [xw_id (a := 4 * g) (by omega) (by omega), xw_id (a := 4 * g + k) (by omega) (by omega)]
    refine ⟨⟨t6, by omega, by omega⟩, fun x1 e1 => ?_⟩
    rw [re12 R] at e1
    refine ⟨⟨t3, g0, g1⟩, ?_⟩
    have fdv : fd (E 8 g) (E 9 g) (fun j => E 12 (4 * g + j)) k = if E 8 g = 2 ∧ k = E 9 g - 1 then 3 else E 12 (4 * g + k) := rfl
    by_cases c2 : E 8 g = 2
    · rw [if_pos c2, xw_id (a := E 9 g - 1) (by omega) (by omega)]
      refine ⟨⟨t9, g0, g1⟩, ?_⟩
      by_cases c3 : k = E 9 g - 1
      · rw [if_pos c3]
        exact p40 3 (by rw [fdv, if_pos ⟨c2, c3⟩]) (by decide) (by decide)
      · rw [if_neg c3]
        exact p40 x1 (by rw [fdv, if_neg (fun z => c3 z.2)]; exact e1) (by omega) (by omega)
    · rw [if_neg c2]
      exact p40 x1 (by rw [fdv, if_neg (fun z => c2 z.1)]; exact e1) (by omega) (by omega)
end RN
