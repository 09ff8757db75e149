/-! foot, the call -/
def ftL : List Int := [89, 90, 91, 92, 93]
section FJ
variable {d : Nat}
theorem c_R_foot {h : xH} {Q : Int → xH → Prop} {k s row x y : Int} (S : SR h) (H0 : (∀ m, ¬ GoodF k s row x y m) → Q (-2) h) (H1 : ∀ m h', GoodF k s row x y m → Fr ftL [] h h' → (∀ j, h'.i 89 j = if j = k then s else h.i 89 j) → (∀ j, h'.i 91 j = if j = k then m else h.i 91 j) → (∀ j, h'.i 92 j = if j = k then x else h.i 92 j) → (∀ j, h'.i 93 j = if j = k then y else h.i 93 j) → (s ≠ 4 → ∀ i, 0 ≤ i → i < m → h'.i 90 (4 * k + i) = Rr m row i % 10) → (∀ j, (j < 4 * k ∨ 4 * k + 4 ≤ j) → h'.i 90 j = h.i 90 j) → Q m h') : xCi (d + 2) M_R_foot [(1, 59), (0, k), (0, s), (0, row), (0, x), (0, y)] h Q := by
  apply L_R_foot
  by_cases ck : ¬ (0 ≤ k ∧ k ≤ 11)
  · refine c_R_in_f ck ?_
    rw [if_pos rfl]; exact H0 (fun m g => ck ⟨g.1, g.2.1⟩)
  have ck := Decidable.not_not.mp ck
  refine c_R_in_t ck ?_
  rw [if_neg (by decide)]
  by_cases cs : ¬ (0 ≤ s ∧ s ≤ 4)
  · refine c_R_in_f cs ?_
    rw [if_pos rfl]; exact H0 (fun m g => by rcases g.2.2 with t | t <;> omega)
  have cs := Decidable.not_not.mp cs
  refine c_R_in_t cs ?_
  rw [if_neg (by decide)]
  by_cases s4 : s = 4
  · rw [if_pos s4]
    by_cases c1 : ¬ (1 ≤ row ∧ row ≤ 3)
    · refine c_R_in_f c1 ?_
      rw [if_pos rfl]; exact H0 (fun m g => by rcases g.2.2 with t | t <;> omega)
    have c1 := Decidable.not_not.mp c1
    refine c_R_in_t c1 ?_
    rw [if_neg (by decide)]
    by_cases c2 : ¬ (0 ≤ x ∧ x ≤ 3)
    · refine c_R_in_f c2 ?_
      rw [if_pos rfl]; exact H0 (fun m g => by rcases g.2.2 with t | t <;> omega)
    have c2 := Decidable.not_not.mp c2
    refine c_R_in_t c2 ?_
    rw [if_neg (by decide)]
    by_cases c3 : ¬ (x ≤ y ∧ y ≤ 3)
    · refine c_R_in_f c3 ?_
      rw [if_pos rfl]; exact H0 (fun m g => by rcases g.2.2 with t | t <;> omega)
    have c3 := Decidable.not_not.mp c3
    refine c_R_in_t c3 ?_
    rw [if_neg (by decide)]
    have G : GoodF k s row x y row := ⟨ck.1, ck.2, Or.inl ⟨s4, rfl, c1.1, c1.2, c2.1, c3.1, c3.2⟩⟩
    exact c_rf_120 (m := row) S ck.1 ck.2 (Or.inl ⟨s4, rfl⟩) (fun h' F v1 v2 v3 v4 => H1 row h' G (Fr_mono F (by decide) (fun c m => m)) v1 v2 v3 v4 (fun z => absurd s4 z) (fun j _ => by rw [Fr_row F (by decide) (fun q m => absurd m List.not_mem_nil)]))
  · rw [if_neg s4]
    by_cases c1 : ¬ (1 ≤ row ∧ row ≤ 4444)
    · refine c_R_in_f c1 ?_
      rw [if_pos rfl]; exact H0 (fun m g => by rcases g.2.2 with t | t <;> omega)
    have c1 := Decidable.not_not.mp c1
    refine c_R_in_t c1 ?_
    rw [if_neg (by decide)]
    have n4 := ndg_4 c1.1 c1.2
    have go : ∀ m, m = ndg 4 row → xT (d + 1) M_R_foot 58 [(1, 59), (0, k), (0, s), (0, row), (0, x), (0, y), (0, m), (0, row), (9, 0)] [] h (xqi Q) := fun m hm => by
      refine c_rf_58 4 row (by omega) (by show row < 10000; omega) c1.2 (fun D => ?_) (fun D => H0 (fun m g => by
        rcases g.2.2 with t | t
        · exact s4 t.1
        · exact D t.2.2.2.2.1))
      have R := Rr_ok (Mf_4 s).2 c1.1 c1.2 D hm
      have fin : (s = 3 → 1 ≤ x ∧ x < m) → (s ≠ 3 → x = 0) → y = 0 → ∀ x3, x3 = xw (m - 1) → xT (d + 1) M_R_foot 101 [(1, 59), (0, k), (0, s), (0, row), (0, x), (0, y), (0, m), (0, row), (0, x3)] [] h (xqi Q) := fun a1 a2 a3 x3 e3 => by
        rw [xw_id (by omega) (by omega)] at e3
        subst e3
        obtain ⟨N, hN⟩ : ∃ N : Nat, m = (N : Int) := ⟨m.toNat, by omega⟩
        have G : GoodF k s row x y m := ⟨ck.1, ck.2, Or.inr ⟨cs.1, by omega, c1.1, c1.2, D, hm, a3, a1, a2⟩⟩
        have := c_rf_101 (Q := Q) (d := d + 1) (s := s) (x := x) (y := y) (u6 := (9, 0)) ck.1 ck.2 R.2.1 R.2.2.2 N h (0, m) S (by omega) (fun h1 u6 u7 u8 F1 q1 q2 => ?_)
        · rw [← hN, R.2.2.1] at this; exact this
        · refine c_rf_120 (m := m) (SR_2 F1.1 S) ck.1 ck.2 (Or.inr ⟨s4, c1.1, c1.2, hm⟩) (fun h' F v1 v2 v3 v4 => H1 m h' G (Fr_trans (Fr_mono F1 (by decide) (fun c m => m)) (Fr_mono F (by decide) (fun c m => m))) (fun j => ?_) (fun j => ?_) (fun j => ?_) (fun j => ?_) (fun _ i i0 i1 => ?_) (fun j hj => ?_))
          · rw [v1, Fr_row F1 (c := 89) (by decide) (fun q m => absurd m List.not_mem_nil)]
          · rw [v2, Fr_row F1 (c := 91) (by decide) (fun q m => absurd m List.not_mem_nil)]
          · rw [v3, Fr_row F1 (c := 92) (by decide) (fun q m => absurd m List.not_mem_nil)]
          · rw [v4, Fr_row F1 (c := 93) (by decide) (fun q m => absurd m List.not_mem_nil)]
          · rw [Fr_row F (c := 90) (by decide) (fun q m => absurd m List.not_mem_nil)]
            obtain ⟨t, ht⟩ : ∃ t : Nat, i = (t : Int) := ⟨i.toNat, by omega⟩
            subst ht
            exact q1 t (Nat.zero_le _) (by omega)
          · rw [Fr_row F (c := 90) (by decide) (fun q m => absurd m List.not_mem_nil)]
            exact q2 j (by omega)
      apply L_R_foot_58
      rw [if_neg (by decide)]
      by_cases cy : y = 0
      · rw [if_pos cy]
        by_cases c3 : s = 3
        · rw [if_pos c3, xw_id (a := m - 1) (by omega) (by omega)]
          by_cases cx : 1 ≤ x ∧ x ≤ m - 1
          · refine c_R_in_t cx ?_
            rw [if_neg (by decide)]
            intro x3 e3
            exact fin (fun _ => ⟨cx.1, by omega⟩) (fun z => absurd c3 z) cy x3 (by rw [xw_id (by omega) (by omega)]; exact e3)
          · refine c_R_in_f cx ?_
            rw [if_pos rfl]
            exact H0 (fun m' g => by
              rcases g.2.2 with t | t
              · exact s4 t.1
              · have := t.2.2.2.2.2.2.2.1 c3
                have := t.2.2.2.2.2.1
                omega)
        · rw [if_neg c3]
          by_cases cx : x = 0
          · rw [if_pos cx]
            exact fin (fun z => absurd z c3) (fun _ => cx) cy
          · rw [if_neg cx]
            exact H0 (fun m' g => by
              rcases g.2.2 with t | t
              · exact s4 t.1
              · exact cx (t.2.2.2.2.2.2.2.2 c3))
      · rw [if_neg cy]
        exact H0 (fun m' g => by
          rcases g.2.2 with t | t
          · exact s4 t.1
          · exact cy t.2.2.2.2.2.2.1)
    by_cases a : row < 10
    · rw [if_pos a]; exact go 1 (by omega)
    · rw [if_neg a]
      by_cases b : row < 100
      · rw [if_pos b]; exact go 2 (by omega)
      · rw [if_neg b]
        by_cases c : row < 1000
        · rw [if_pos c]; exact go 3 (by omega)
        · rw [if_neg c]; exact go 4 (by omega)
theorem c_X_setFoot {h : xH} {Q : Int → xH → Prop} {k s row x y : Int} (SX_ : SX h) (hn : 130 ≤ h.nx) (new : I_new h) (H0 : (∀ m, ¬ GoodF k s row x y m) → Q (-2) h) (H1 : ∀ m h', GoodF k s row x y m → (∀ c, c < h.nx → h'.tag c = h.tag c ∧ h'.len c = h.len c) → (∀ c j, c < h.nx → h'.i c j = h.i c j) → (∀ c j, c < h.nx → ¬ (c = 23 ∧ j = k) → h'.r c j = h.r c j) → h'.r 23 k = h.nx → (∀ c j, h.nx + 5 ≤ c → h'.i c j = 0 ∧ h'.r c j = 0) → h'.nx = h.nx + 5 → h'.us = h.us + 109 → TabOk h' h.nx s m x y (fun i => Rr m row i % 10) → Q m h') : xCi (d + 4) M_Metre_setFoot [(1, 22), (0, k), (0, s), (0, row), (0, x), (0, y)] h Q := by
  have no : ∀ {P : Prop}, P = Q (-2) h → (∀ m, ¬ GoodF k s row x y m) → P := fun e z => by rw [e]; exact H0 z
  apply L_Metre_setFoot
  by_cases k0 : k < 0
  · rw [if_pos k0]; exact H0 (fun m g => by have := g.1; omega)
  rw [if_neg k0]
  by_cases k1 : ¬ (k < 12)
  · rw [if_neg k1]; exact H0 (fun m g => by have := g.2.1; omega)
  have k1 := Decidable.not_not.mp k1
  rw [if_pos k1]
  by_cases s0 : s < 0
  · rw [if_pos s0]; exact H0 (fun m g => by rcases g.2.2 with t | t <;> omega)
  rw [if_neg s0]
  by_cases s5 : 4 < s
  · rw [if_pos s5]; exact H0 (fun m g => by rcases g.2.2 with t | t <;> omega)
  rw [if_neg s5]
  -- behind the size
  have g20 : ∀ m, 1 ≤ m → m ≤ 4 → ((s = 4 ∧ m = row) ∨ (s ≠ 4 ∧ 1 ≤ row ∧ row ≤ 4444 ∧ dOk (Mf s) 4 row ∧ m = ndg 4 row)) → xT (d + 3) M_Metre_setFoot 20 [(1, 22), (0, k), (0, s), (0, row), (0, x), (0, y), (9, 0)] [(0, m)] h (xqi Q) := fun m m1 m4 hm => by
    have good : GoodF k s row x y m → (h.tag 22 = 4 ∧ ∀ p1 : Int, p1 = h.nx → ∀ h2 : xH, h2 = h.al 1 7 → h2.tag p1 = 1 ∧ (xCv (d + 3) M_Foot_init [(1, p1), (0, s), (0, m), (0, row), (0, x), (0, y)] h2 (fun h3 => (h3.tag (h.r 22 0) = 24 ∧ (0 : Int) ≤ k ∧ k < h3.len (h.r 22 0) ∧ (p1 = 0 ∨ h3.tag p1 = 1)) ∧ ∀ h4 : xH, h4 = h3.wr (h.r 22 0) k p1 → Q m h4))) := fun G => by
      refine ⟨by simp only [sxt SX_, sxl SX_, sxf SX_, true_and, and_true, false_and, and_false, forall_eq, forall_eq', xi_wi, xr_wi, xt_wi, xl_wi, xn_wi, xs_wi, xi_wr, xr_wr, xt_wr, xl_wr, xn_wr, xs_wr, if_true, if_false, and_self, Int.reduceEq, Int.reduceLT, Int.reduceLE, Int.reduceNeg, Int.le_refl, Int.reduceMod], ?_⟩
      intro p1 e1 h2 e2
      subst e1
      have e23 : h.r 22 0 = 23 := by simp only [sxt SX_, sxl SX_, sxf SX_, true_and, and_true, false_and, and_false, forall_eq, forall_eq', xi_wi, xr_wi, xt_wi, xl_wi, xn_wi, xs_wi, xi_wr, xr_wr, xt_wr, xl_wr, xn_wr, xs_wr, if_true, if_false, and_self, Int.reduceEq, Int.reduceLT, Int.reduceLE, Int.reduceNeg, Int.le_refl, Int.reduceMod]
      have t23 : h.tag 23 = 24 ∧ h.len 23 = 12 := by simp only [sxt SX_, sxl SX_, sxf SX_, true_and, and_true, false_and, and_false, forall_eq, forall_eq', xi_wi, xr_wi, xt_wi, xl_wi, xn_wi, xs_wi, xi_wr, xr_wr, xt_wr, xl_wr, xn_wr, xs_wr, if_true, if_false, and_self, Int.reduceEq, Int.reduceLT, Int.reduceLE, Int.reduceNeg, Int.le_refl, Int.reduceMod]
      have b2 : h2.i = h.i ∧ h2.r = h.r ∧ h2.nx = h.nx + 1 ∧ h2.us = h.us + 7 ∧ (∀ c, h2.tag c = if c = h.nx then 1 else h.tag c) ∧ (∀ c, h2.len c = if c = h.nx then 7 else h.len c) := by
        rw [e2]; exact ⟨rfl, rfl, rfl, rfl, fun c => by rw [xt_al], fun c => by rw [xl_al]⟩
      clear e2
      have tp : h2.tag h.nx = 1 := by rw [b2.2.2.2.2.1, if_pos rfl]
      refine ⟨tp, ?_⟩
      rw [e23]
      refine c_X_finit (dg := fun i => Rr m row i % 10) (R := Rr m row) b2.2.2.1 hn tp (fun c j hc => by rw [b2.1, b2.2.1]; exact new c j hc) m1 ?_ (fun h3 a1 a2 a3 a4 a5 T => ?_)
      · rcases G.2.2 with t | t
        · exact Or.inl ⟨t.1, by omega, t.2.2.2.2.1, t.2.2.2.2.2.1, t.2.2.2.2.2.2⟩
        · obtain ⟨t0, t1, t2, t3, t4, t5, t6, t7, t8⟩ := t
          have R := Rr_ok (Mf_4 s).2 t2 t3 t4 t5
          exact Or.inr ⟨t0, t1, m4, t6, t7, R.2.2.1, fun i i0 i1 => by have r := R.2.2.2 i i0 i1; exact ⟨r.1, r.2.1, rfl, r.2.2.1, r.2.2.2.1, r.2.2.2.2⟩⟩
      · have z := a1 23 (by omega)
        rw [z.1, z.2, b2.2.2.2.2.1, b2.2.2.2.2.2, if_neg (by omega), if_neg (by omega)]
        refine ⟨⟨t23.1, by omega, by omega, Or.inr (by rw [(a1 h.nx (Int.le_refl _)).1]; exact tp)⟩, ?_⟩
        intro h4 e4
        have r4 : ∀ c j, h4.r c j = if c = 23 ∧ j = k then h.nx else h3.r c j := fun c j => by rw [e4, xr_wr]
        have b4 : h4.i = h3.i ∧ h4.tag = h3.tag ∧ h4.len = h3.len ∧ h4.nx = h3.nx ∧ h4.us = h3.us := by rw [e4]; exact ⟨rfl, rfl, rfl, rfl, rfl⟩
        clear e4
        refine H1 m h4 G (fun c hc => ?_) (fun c j hc => by rw [b4.1, (a2 c j hc).1, b2.1]) (fun c j hc n => by rw [r4, if_neg n, (a2 c j hc).2, b2.2.1]) (by rw [r4, if_pos ⟨rfl, rfl⟩]) (fun c j hc => by rw [b4.1, r4, if_neg (by omega)]; exact a3 c j hc) (by rw [b4.2.2.2.1]; exact a4) (by rw [b4.2.2.2.2, a5, b2.2.2.2.1]; omega) ?_
        · have z := a1 c (by omega)
          rw [b4.2.1, b4.2.2.1, z.1, z.2, b2.2.2.2.2.1, b2.2.2.2.2.2, if_neg (by omega), if_neg (by omega)]
          exact ⟨rfl, rfl⟩
        · unfold TabOk FSh at T ⊢
          rw [b4.1, b4.2.1, b4.2.2.1, r4, r4, r4, r4, if_neg (by omega), if_neg (by omega), if_neg (by omega), if_neg (by omega)]
          exact T
    apply L_Metre_setFoot_20
    rw [if_neg (by omega), if_neg (by omega)]
    apply L_Metre_mayHave
    by_cases s4 : s = 4
    · rw [if_pos s4]
      have hm' : m = row := by omega
      by_cases a : 3 < m
      · rw [if_pos a, if_pos rfl]; exact H0 (fun m g => by rcases g.2.2 with t | t <;> omega)
      rw [if_neg a]
      by_cases b : x < 0
      · rw [if_pos b, if_pos rfl]; exact H0 (fun m g => by rcases g.2.2 with t | t <;> omega)
      rw [if_neg b]
      by_cases c : y < x
      · rw [if_pos c, if_pos rfl]; exact H0 (fun m g => by rcases g.2.2 with t | t <;> omega)
      rw [if_neg c]
      by_cases e : 3 < y
      · rw [if_pos e, if_pos rfl]; exact H0 (fun m g => by rcases g.2.2 with t | t <;> omega)
      rw [if_neg e, if_neg (by decide)]
      exact good ⟨by omega, by omega, Or.inl ⟨s4, hm', by omega, by omega, by omega, by omega, by omega⟩⟩
    · rw [if_neg s4]
      obtain ⟨-, r0, r1, D, em⟩ := hm.resolve_left (fun t => s4 t.1)
      by_cases c3 : s = 3
      · rw [if_pos c3]
        by_cases a : x < 1
        · rw [if_pos a, if_pos rfl]
          exact H0 (fun m g => by
            rcases g.2.2 with t | t
            · omega
            · have := t.2.2.2.2.2.2.2.1 c3; omega)
        rw [if_neg a]
        by_cases b : x < m
        · rw [if_pos b]
          by_cases c : y = 0
          · rw [if_pos c, if_neg (by decide)]
            exact good ⟨by omega, by omega, Or.inr ⟨by omega, by omega, r0, r1, D, em, c, fun _ => ⟨by omega, b⟩, fun z => absurd c3 z⟩⟩
          · rw [if_neg c, if_pos rfl]
            exact H0 (fun m g => by
              rcases g.2.2 with t | t
              · omega
              · exact c t.2.2.2.2.2.2.1)
        · rw [if_neg b, if_pos rfl]
          exact H0 (fun m' g => by
            rcases g.2.2 with t | t
            · omega
            · have h1 := t.2.2.2.2.2.2.2.1 c3
              have h2 := t.2.2.2.2.2.1
              omega)
      · rw [if_neg c3]
        by_cases a : x = 0
        · rw [if_pos a]
          by_cases c : y = 0
          · rw [if_pos c, if_neg (by decide)]
            exact good ⟨by omega, by omega, Or.inr ⟨by omega, by omega, r0, r1, D, em, c, fun z => absurd z c3, fun _ => a⟩⟩
          · rw [if_neg c, if_pos rfl]
            exact H0 (fun m g => by
              rcases g.2.2 with t | t
              · omega
              · exact c t.2.2.2.2.2.2.1)
        · rw [if_neg a, if_pos rfl]
          exact H0 (fun m g => by
            rcases g.2.2 with t | t
            · omega
            · exact a (t.2.2.2.2.2.2.2.2 c3))
  by_cases s4 : s = 4
  · rw [if_pos s4]
    by_cases a : 1 ≤ row ∧ row ≤ 4
    · exact g20 row a.1 a.2 (Or.inl ⟨s4, rfl⟩)
    · apply L_Metre_setFoot_20
      have bad : ∀ m, ¬ GoodF k s row x y m := fun m g => by rcases g.2.2 with t | t <;> omega
      by_cases b : row < 1
      · rw [if_pos b]; exact H0 bad
      · rw [if_neg b, if_pos (by omega)]; exact H0 bad
  · rw [if_neg s4]
    refine c_X_places (fun r0 r1 D => ?_) (fun z => ?_)
    · have n4 := ndg_4 r0 r1
      exact g20 _ (by omega) (by omega) (Or.inr ⟨s4, r0, r1, D, rfl⟩)
    · apply L_Metre_setFoot_20
      rw [if_pos (by decide)]
      exact H0 (fun m g => by
        rcases g.2.2 with t | t
        · exact s4 t.1
        · exact z ⟨t.2.2.1, t.2.2.2.1, t.2.2.2.2.1⟩)
theorem fch_cg {s m x y c : Int} {dg dg' : Int → Int} (m1 : 1 ≤ m) (c0 : 0 ≤ c) (e : ∀ k, 0 ≤ k → k < m → s ≠ 4 → dg k = dg' k) : fch s m x y dg c = fch s m x y dg' c := by
  unfold fch
  by_cases s4 : s = 4
  · rw [if_pos s4, if_pos s4]
  rw [if_neg s4, if_neg s4]
  have fo : ∀ k, 0 ≤ k → k < m → fd s m dg k = fd s m dg' k ∧ fopen s m dg k = fopen s m dg' k := fun k k0 k1 => by
    have f : fd s m dg k = fd s m dg' k := by unfold fd; rw [e k k0 k1 s4]
    exact ⟨f, by unfold fopen; rw [f]⟩
  by_cases a : c = 16
  · rw [if_pos a, if_pos a, (fo 0 (by decide) (by omega)).2]
  rw [if_neg a, if_neg a]
  by_cases b : c % 4 = 1 ∧ c / 4 + 1 < m
  · rw [if_pos b, if_pos b, (fo _ (by omega) b.2).2]
  rw [if_neg b, if_neg b]
  by_cases z : c % 4 = 0 ∧ c / 4 < m
  · rw [(fo (c / 4) (by omega) z.2).1]
  · rw [if_neg (fun t => z ⟨t.1, t.2.1⟩), if_neg (fun t => z ⟨t.1, t.2.1⟩)]
theorem FTab_cg {h : xH} {p s m x y : Int} {dg dg' : Int → Int} (m1 : 1 ≤ m) (e : ∀ k, 0 ≤ k → k < m → s ≠ 4 → dg k = dg' k) (B : FTab h p s m x y dg) : FTab h p s m x y dg' := by
  unfold FTab at B ⊢
  obtain ⟨a1, a2, a3, a4, a5, a6, a7, a8, a9, a10, a11, a12, a13, a14, a15, a16, a17, a18, a19, a20⟩ := B
  refine ⟨a1, a2, a3, a4, a5, a6, a7, a8, a9, a10, a11, a12, a13, a14, a15, a16, a17, a18, a19, fun c c0 c1 => ?_⟩
  rw [← fch_cg m1 c0 e]
  exact a20 c c0 c1
end FJ
theorem j_foot (n : Nat) (hn : n < 512) (k s row x y : Int) (hk : xrg k) (hs : xrg s) (hr : xrg row) (hx : xrg x) (hy : xrg y) : JJ INV n M_X_foot M_R_foot [(0, k), (0, s), (0, row), (0, x), (0, y)] := by
  refine jj_fa (fun h I => ?_)
  have S := I.2.1
  have SX_ := I.1
  have sm := same_J I
  have hn0 := I.2.2.1
  have new := I.2.2.2.2.1
  have ht := I.2.2.2.1
  have rm := I.2.2.2.2.2.1
  have i10 := I.2.2.2.2.2.2.2.2.2.2.2.2.2.2.2.1
  have i13 := I.2.2.2.2.2.2.2.2.2.2.2.2.2.2.2.2.2.2.1
  apply L_X_foot
  have g5 : h.r 2 5 = 22 := by simp only [sxt SX_, sxl SX_, sxf SX_, true_and, and_true, false_and, and_false, forall_eq, forall_eq', xi_wi, xr_wi, xt_wi, xl_wi, xn_wi, xs_wi, xi_wr, xr_wr, xt_wr, xl_wr, xn_wr, xs_wr, if_true, if_false, and_self, Int.reduceEq, Int.reduceLT, Int.reduceLE, Int.reduceNeg, Int.le_refl, Int.reduceMod]
  have t22 : h.tag 22 = 4 := by simp only [sxt SX_, sxl SX_, sxf SX_, true_and, and_true, false_and, and_false, forall_eq, forall_eq', xi_wi, xr_wi, xt_wi, xl_wi, xn_wi, xs_wi, xi_wr, xr_wr, xt_wr, xl_wr, xn_wr, xs_wr, if_true, if_false, and_self, Int.reduceEq, Int.reduceLT, Int.reduceLE, Int.reduceNeg, Int.le_refl, Int.reduceMod]
  rw [g5]
  refine ⟨(sxt SX_).1, t22, ?_⟩
  refine c_X_setFoot (d := 2041) SX_ hn0 new (fun bad => ?_) (fun m h1 G lo ii rr rk nw nx us T => ?_)
  · refine ⟨sm.1, ?_⟩
    exact c_R_foot (d := 2044) S (fun _ => ⟨rfl, sm⟩) (fun m h' G => absurd G (bad m))
  · have sc1 : SCk h h1 := ⟨(lo 1 (by omega)).1, (lo 1 (by omega)).2, funext (fun j => ii 1 j (by omega)), by rw [(lo 59 (by omega)).1]; exact (srt S).1⟩
    have S1 : SR h1 := by
      obtain ⟨a, b, c⟩ := S
      refine ⟨?_, ?_, ?_⟩
      · unfold SRT at a ⊢
        have lo' : ∀ c : Int, c < 130 → h1.tag c = h.tag c := fun c hc => (lo c (by omega)).1
        simp (disch := decide) only [lo']
        exact a
      · unfold SRL at b ⊢
        have lo' : ∀ c : Int, c < 130 → h1.len c = h.len c := fun c hc => (lo c (by omega)).2
        simp (disch := decide) only [lo']
        exact b
      · unfold SRF at c ⊢
        have e : ∀ k, h1.r 59 k = h.r 59 k := fun k => rr 59 k (by omega) (by omega)
        simp only [e]
        exact c
    refine ⟨sc1, ?_⟩
    refine c_R_foot (d := 2044) S1 (fun bad => absurd G (bad m)) (fun m' h2 G' F v1 v2 v3 v4 vr vo => ?_)
    have em : m' = m := by
      rcases G.2.2 with t | t
      · rcases G'.2.2 with u | u
        · have := t.2.1; have := u.2.1; omega
        · have := t.1; have := u.2.1; omega
      · rcases G'.2.2 with u | u
        · have := u.1; have := t.2.1; omega
        · have := t.2.2.2.2.2.1; have := u.2.2.2.2.2.1; omega
    subst em
    have fs := fr_same F
    have G1 : FA ftL [] [23] [] h h1 := ⟨by omega, lo, fun c j hc _ _ _ => ii c j hc, fun c j hc u _ => rr c j hc (fun t => u (by rw [t.1]; exact List.mem_cons_self))⟩
    have e6 : h1.r 28 6 = h.r 28 6 := rr 28 6 (by omega) (by omega)
    have e3 : h1.r 40 3 = h.r 40 3 := rr 40 3 (by omega) (by omega)
    have G2 : FA ftL [] [23] [] h h2 := FA_trans G1 (Or.inl e6) (FA_of [23] [] F)
    have hT : Tok h h2 := ⟨Or.inl (by rw [fs.1]; exact e6), Or.inl (by rw [fs.1]; exact e3)⟩
    have hX : SX h2 := SX_lo (h := h) (fun c hc => by rw [fs.2.1, fs.2.2.1]; exact lo c (by omega)) (fun c j hc n => by rw [fs.1]; exact rr c j (by omega) (fun t => n t.1)) SX_
    have hR : SR h2 := SR_2 F.1 S1
    have hTab : I_tab h2 := by unfold I_tab at ht ⊢; rw [fs.1, e6]; exact ht
    have hNew : I_new h2 := by
      refine I_new_fr (h := h1) (fun c j hc => ?_) F (by decide) (by omega)
      exact nw c j (by omega)
    have st3 : h.r 40 3 < h.nx := by have := i13.2.2.2.2.1; omega
    have hRoom : I_room (n + 1) h2 := by
      unfold I_room at rm ⊢
      have l6 := lo (h.r 28 6) (by omega)
      have l3 := lo (h.r 40 3) st3
      rw [fs.1, fs.2.1, fs.2.2.1, fs.2.2.2.1, fs.2.2.2.2, e6, e3, l6.1, l6.2, l3.2, nx, us]
      push_cast
      omega
    have rt := rm.2.2.2.2.2.2.2
    have mb : 1 ≤ m' ∧ m' ≤ 4 := by
      rcases G.2.2 with t | t
      · omega
      · have := ndg_4 t.2.2.1 t.2.2.2.1
        have := t.2.2.2.2.2.1
        omega
    have F0 := F
    have F := G2
    refine ⟨rfl, ⟨by rw [fs.2.1]; exact sc1.1, by rw [fs.2.2.1]; exact sc1.2.1, by rw [Fr_row F0 (c := 1) (by decide) (fun q m => absurd m List.not_mem_nil)]; exact sc1.2.2.1, (srt hR).1⟩, INV_fa I F (by decide) hT hX hR hTab hNew hRoom (Or.inl (by decide)) (Or.inl (by decide)) (Or.inl (by decide)) (Or.inl (by decide)) (Or.inl (by decide)) (Or.inl (by decide)) (Or.inl (by decide)) (Or.inl (by decide)) (Or.inl (by decide)) (Or.inr ?_) (Or.inl (by decide)) (Or.inl (by decide)) (Or.inl (by decide)) (Or.inl (by decide)) (Or.inl (by decide))⟩
    intro g g0 g1
    by_cases c : g = k
    · subst c
      have r2 : h2.r 23 g = h.nx := by rw [fs.1]; exact rk
      refine Or.inr ⟨by rw [r2]; omega, ?_⟩
      rw [r2]
      unfold FootRel
      rw [v1, v2, v3, v4, if_pos rfl, if_pos rfl, if_pos rfl, if_pos rfl]
      refine ⟨?_, ?_⟩
      · unfold FOk
        rcases G.2.2 with t | t
        · exact ⟨by omega, by omega, mb.1, mb.2, fun _ => ⟨by omega, by omega, by omega, by omega⟩, fun z => absurd t.1 z, fun z => by omega, fun z => absurd t.1 z⟩
        · obtain ⟨t0, t1, t2, t3, t4, t5, t6, t7, t8⟩ := t
          have R := Rr_ok (Mf_4 s).2 t2 t3 t4 t5
          refine ⟨t0, by omega, mb.1, mb.2, fun z => by omega, fun z i i0 i1 => ?_, t7, fun _ => ⟨t6, t8⟩⟩
          have := R.2.2.2 i i0 i1
          show 1 ≤ h2.i 90 (4 * g + i) ∧ h2.i 90 (4 * g + i) ≤ 4
          rw [vr z i i0 i1]
          omega
      · refine FTab_cg mb.1 (dg := fun i => Rr m' row i % 10) (fun i i0 i1 s4 => (vr s4 i i0 i1).symm) ?_
        obtain ⟨⟨f1, f2, f3, f4, f5, f6, f7, f8, f9, f10, f11, f12, f13⟩, T1, T2, T3, T4⟩ := T
        have lo2 : ∀ c : Int, 130 ≤ c → h2.i c = h1.i c := fun c hc => Fr_row F0 (fun z => by
          have : ∀ y ∈ ftL, y < 130 := by decide
          have := this c z
          omega) (fun q m => absurd m List.not_mem_nil)
        unfold FTab aprt
        rw [fs.1, fs.2.1, fs.2.2.1, fs.2.2.2.1, lo2 h.nx (by omega), lo2 (h.nx + 1) (by omega), lo2 (h.nx + 2) (by omega), lo2 (h.nx + 3) (by omega), lo2 (h.nx + 4) (by omega), e6, e3]
        exact ⟨hn0, by omega, f1, f2, f3, f4, f5, f6, f7, f8, f9, f10, f11, f12, f13, ⟨Or.inl rt, Or.inl st3⟩, T1, T2, T3, T4⟩
    · have r2 : h2.r 23 g = h.r 23 g := by rw [fs.1]; exact rr 23 g (by omega) (fun t => c t.2)
      have u1 : h1.i 89 = h.i 89 := funext (fun j => ii _ j (by omega))
      have u2 : h1.i 91 = h.i 91 := funext (fun j => ii _ j (by omega))
      have u3 : h1.i 92 = h.i 92 := funext (fun j => ii _ j (by omega))
      have u4 : h1.i 93 = h.i 93 := funext (fun j => ii _ j (by omega))
      rw [r2, v1, if_neg c, u1]
      refine (i10 g g0 g1).imp id (fun z => ⟨z.1, ?_⟩)
      obtain ⟨z1, z2⟩ := z.2
      have mg := z1
      unfold FOk at mg
      have ro : ∀ i, 0 ≤ i → i < h.i 91 g → h.i 90 (4 * g + i) = h2.i 90 (4 * g + i) := fun i i0 i1 => by
        rw [vo _ (by omega), ii _ _ (by omega)]
      unfold FootRel
      rw [v1, v2, v3, v4, if_neg c, if_neg c, if_neg c, if_neg c, u1, u2, u3, u4]
      refine ⟨?_, FTab_cg mg.2.2.1 (fun i i0 i1 _ => ro i i0 i1) (FTab_fa F (by decide) hT z2)⟩
      unfold FOk
      refine ⟨mg.1, mg.2.1, mg.2.2.1, mg.2.2.2.1, mg.2.2.2.2.1, fun z i i0 i1 => ?_, mg.2.2.2.2.2.2.1, mg.2.2.2.2.2.2.2⟩
      show 1 ≤ h2.i 90 (4 * g + i) ∧ h2.i 90 (4 * g + i) ≤ 4
      have := mg.2.2.2.2.2.1 z i i0 i1
      rw [← ro i i0 i1]
      exact this
