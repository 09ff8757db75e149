/-! rows are copied, a row of syllables is made out of another -/
def CpO (h h' : xH) (q m : Int) : Prop := (∀ c, h'.tag c = if c = h.nx then 20 else h.tag c) ∧ (∀ c, h'.len c = if c = h.nx then m else h.len c) ∧ h'.r = h.r ∧ h'.nx = h.nx + 1 ∧ h'.us = h.us + m ∧ (∀ c, c ≠ h.nx → h'.i c = h.i c) ∧ ∀ k, 0 ≤ k → k < m → h'.i h.nx k = h.i q k
theorem CpO_of {h : xH} {q m : Int} (qn : q < h.nx) : CpO h ((h.al 20 m).cp q 0 h.nx 0 m) q m := by
  refine ⟨fun c => by rw [xt_cp, xt_al], fun c => by rw [xl_cp, xl_al], rfl, rfl, rfl, fun c hc => ?_, fun k k0 k1 => ?_⟩
  · funext j
    rw [xi_cp, if_neg hc]; rfl
  · rw [xi_cp, if_pos rfl]
    unfold xcp
    rw [if_pos ⟨k0, by omega⟩, show 0 + (k - 0) = k by omega]; rfl
theorem c_copyOf {d : Nat} {h : xH} {q m : Int} {Q : Int → xH → Prop} (tq : h.tag q = 20) (m0 : 0 ≤ m) (ml : m ≤ h.len q) (mx : m ≤ 7302250) (qn : q < h.nx) (H : ∀ h', CpO h h' q m → Q h.nx h') : xCr (d + 1) M_Arrays_copyOf [(1, q), (0, m)] h Q := by
  apply L_Arrays_copyOf
  refine ⟨tq, ?_⟩
  by_cases c : m = h.len q
  · rw [if_pos c, ← c]
    intro p1 e1 h1 eh
    subst e1
    have K := CpO_of (h := h) (m := m) qn
    rw [← eh] at K
    exact ⟨by rw [K.1, if_pos rfl], H h1 K⟩
  · rw [if_neg c]
    refine ⟨⟨m0, mx⟩, fun p2 e2 h2 eh => ?_⟩
    subst e2
    subst eh
    rw [xt_al, if_neg (by omega), xl_al, if_neg (by omega), if_pos (by omega), xt_al, if_pos rfl, xl_al, if_pos rfl]
    refine ⟨tq, ⟨tq, rfl, Int.le_refl _, Int.le_refl _, m0, by omega, by omega⟩, fun h3 e3 => ?_⟩
    have K := CpO_of (h := h) (m := m) qn
    rw [← e3] at K
    exact H h3 K
section CP
variable {g g' : xH} {q m p k v : Int}
theorem cp_low (C : CpO g g' q m) {c : Int} (hc : c < g.nx) : (g'.wr p k v).tag c = g.tag c ∧ (g'.wr p k v).len c = g.len c ∧ (g'.wr p k v).i c = g.i c ∧ (c ≠ p → (g'.wr p k v).r c = g.r c) := by
  obtain ⟨c1, c2, c3, c4, c5, c6, c7⟩ := C
  refine ⟨by rw [xt_wr, c1, if_neg (by omega)], by rw [xl_wr, c2, if_neg (by omega)], by rw [xi_wr, c6 c (by omega)], fun n => ?_⟩
  funext j
  rw [xr_wr, if_neg (fun z => n z.1), c3]
theorem cp_new (C : CpO g g' q m) : (g'.wr p k v).tag g.nx = 20 ∧ (g'.wr p k v).len g.nx = m ∧ (∀ j, 0 ≤ j → j < m → (g'.wr p k v).i g.nx j = g.i q j) ∧ (g'.wr p k v).nx = g.nx + 1 ∧ (g'.wr p k v).us = g.us + m ∧ (g'.wr p k v).r p k = v ∧ ∀ j, j ≠ k → (g'.wr p k v).r p j = g.r p j := by
  obtain ⟨c1, c2, c3, c4, c5, c6, c7⟩ := C
  refine ⟨by rw [xt_wr, c1, if_pos rfl], by rw [xl_wr, c2, if_pos rfl], fun j j0 j1 => by rw [xi_wr]; exact c7 j j0 j1, by rw [xn_wr]; exact c4, by rw [xs_wr]; exact c5, by rw [xr_wr, if_pos ⟨rfl, rfl⟩], fun j n => by rw [xr_wr, if_neg (fun z => n z.2), c3]⟩
end CP
/-- what a row of syllables made out of another is -/
def IniO (h h' : xH) (p o s t : Int) : Prop := (∀ c, c < h.nx → h'.tag c = h.tag c ∧ h'.len c = h.len c) ∧ (h'.tag h.nx = 20 ∧ h'.tag (h.nx + 1) = 20 ∧ h'.tag (h.nx + 2) = 20 ∧ h'.tag (h.nx + 3) = 20 ∧ h'.tag (h.nx + 4) = 20) ∧ (h'.len h.nx = t ∧ h'.len (h.nx + 1) = s + 1 ∧ h'.len (h.nx + 2) = s ∧ h'.len (h.nx + 3) = s ∧ h'.len (h.nx + 4) = s) ∧ (h'.r p 0 = h.nx ∧ h'.r p 1 = h.nx + 1 ∧ h'.r p 2 = h.nx + 2 ∧ h'.r p 3 = h.nx + 3 ∧ h'.r p 4 = h.nx + 4 ∧ h'.r p 5 = 0) ∧ (∀ c, c < h.nx → c ≠ p → h'.r c = h.r c ∧ h'.i c = h.i c) ∧ h'.i p 6 = s ∧ h'.nx = h.nx + 5 ∧ h'.us = h.us + t + (s + 1) + s + s + s ∧ (∀ k, 0 ≤ k → k < t → h'.i h.nx k = h.i (h.r o 0) k) ∧ (∀ k, 0 ≤ k → k < s + 1 → h'.i (h.nx + 1) k = h.i (h.r o 1) k) ∧ (∀ k, 0 ≤ k → k < s → h'.i (h.nx + 2) k = h.i (h.r o 2) k) ∧ (∀ k, 0 ≤ k → k < s → h'.i (h.nx + 3) k = h.i (h.r o 3) k) ∧ (∀ k, 0 ≤ k → k < s → h'.i (h.nx + 4) k = h.i (h.r o 4) k)
/-- what the other must be -/
def SrcO (h : xH) (p o s t : Int) : Prop := h.tag p = 9 ∧ p ≠ 0 ∧ p < h.nx ∧ h.tag o = 9 ∧ o ≠ p ∧ o < h.nx ∧ h.i o 6 = s ∧ 0 ≤ s ∧ s ≤ 100 ∧ 0 ≤ t ∧ t ≤ 1000 ∧ h.i (h.r o 1) s = t ∧ (h.r o 0 < h.nx ∧ h.r o 1 < h.nx ∧ h.r o 2 < h.nx ∧ h.r o 3 < h.nx ∧ h.r o 4 < h.nx) ∧ (h.tag (h.r o 0) = 20 ∧ h.tag (h.r o 1) = 20 ∧ h.tag (h.r o 2) = 20 ∧ h.tag (h.r o 3) = 20 ∧ h.tag (h.r o 4) = 20) ∧ t ≤ h.len (h.r o 0) ∧ s + 1 ≤ h.len (h.r o 1) ∧ s ≤ h.len (h.r o 2) ∧ s ≤ h.len (h.r o 3) ∧ s ≤ h.len (h.r o 4)
theorem c_X_init2 {d : Nat} {h : xH} {p o s t : Int} {Q : xH → Prop} (Z : SrcO h p o s t) (H : ∀ h', IniO h h' p o s t → Q h') : xCv (d + 2) M_Syllables_init2 [(1, p), (1, o)] h Q := by
  obtain ⟨z1, z2, z3, z4, z5, z6, z7, z8, z9, z10, z11, z12, ⟨n0, n1, n2, n3, n4⟩, ⟨t0, t1, t2, t3, t4⟩, l0, l1, l2, l3, l4⟩ := Z
  have np : ∀ c, h.tag c = 20 → c ≠ p := fun c e y => by rw [y, z1] at e; exact absurd e (by decide)
  apply L_Syllables_init2
  refine ⟨z2, z1, fun h1 e1 => ?_⟩
  subst e1
  refine ⟨z4, z1, fun g0 e2 => ?_⟩
  rw [xi_wi, if_neg (fun y => z5 y.1), z7] at e2
  have b0 : g0.tag = h.tag ∧ g0.len = h.len ∧ g0.r = h.r ∧ g0.nx = h.nx ∧ g0.us = h.us := by rw [e2]; exact ⟨rfl, rfl, rfl, rfl, rfl⟩
  have bi : ∀ c, c ≠ p → g0.i c = h.i c := fun c n => by
    funext j
    rw [e2, xi_wi, if_neg (fun y => n y.1), xi_wi, if_neg (fun y => n y.1)]
  have bp : g0.i p 6 = s := by rw [e2, xi_wi, if_pos ⟨rfl, rfl⟩]
  clear e2
  have o6 : g0.i o 6 = s := by rw [bi o z5]; exact z7
  refine ⟨by rw [b0.1]; exact z4, ?_⟩
  apply L_Syllables_letterCount
  rw [b0.1, b0.2.1, b0.2.2.1, o6, bi _ (np _ t1), z12]
  refine ⟨z4, ⟨t1, z8, by omega⟩, ?_⟩
  refine c_copyOf (d := d) (by rw [b0.1]; exact t0) z10 (by rw [b0.2.1]; exact l0) (by omega) (by rw [b0.2.2.2.1]; exact n0) (fun a1 C1 => ?_)
  have w1 := fun (c : Int) (hc : c < g0.nx) => cp_low (p := p) (k := 0) (v := g0.nx) C1 hc
  have v1 := cp_new (p := p) (k := 0) (v := g0.nx) C1
  have ta1 : a1.tag p = 9 := by rw [C1.1, if_neg (by omega), b0.1]; exact z1
  refine ⟨ta1, fun g1 e1 => ?_⟩
  rw [← e1] at w1 v1
  clear e1
  rw [b0.2.2.2.1] at w1 v1
  have o1 := w1 o z6
  have p1 := w1 p z3
  rw [o1.1, p1.1, p1.2.2.1, bp, o1.2.2.2 z5, b0.1, b0.2.2.1, xw_id (a := s + 1) (by omega) (by omega)]
  refine ⟨z4, z1, ?_⟩
  refine c_copyOf (d := d) (by rw [(w1 _ n1).1, b0.1]; exact t1) (by omega) (by rw [(w1 _ n1).2.1, b0.2.1]; exact l1) (by omega) (by rw [v1.2.2.2.1]; omega) (fun a2 C2 => ?_)
  have w2 := fun (c : Int) (hc : c < g1.nx) => cp_low (p := p) (k := 1) (v := g1.nx) C2 hc
  have v2 := cp_new (p := p) (k := 1) (v := g1.nx) C2
  have ta2 : a2.tag p = 9 := by rw [C2.1, if_neg (by omega), p1.1, b0.1]; exact z1
  refine ⟨ta2, fun g2 e2 => ?_⟩
  rw [← e2] at w2 v2
  clear e2
  rw [v1.2.2.2.1] at w2 v2
  have o2 := w2 o (by omega)
  have p2 := w2 p (by omega)
  rw [o2.1, o1.1, p2.1, p1.1, p2.2.2.1, p1.2.2.1, bp, o2.2.2.2 z5, o1.2.2.2 z5, b0.1, b0.2.2.1]
  refine ⟨z4, z1, ?_⟩
  refine c_copyOf (d := d) (by rw [(w2 _ (by omega)).1, (w1 _ n2).1, b0.1]; exact t2) (by omega) (by rw [(w2 _ (by omega)).2.1, (w1 _ n2).2.1, b0.2.1]; exact l2) (by omega) (by rw [v2.2.2.2.1]; omega) (fun a3 C3 => ?_)
  have w3 := fun (c : Int) (hc : c < g2.nx) => cp_low (p := p) (k := 2) (v := g2.nx) C3 hc
  have v3 := cp_new (p := p) (k := 2) (v := g2.nx) C3
  have ta3 : a3.tag p = 9 := by rw [C3.1, if_neg (by omega), p2.1, p1.1, b0.1]; exact z1
  refine ⟨ta3, fun g3 e3 => ?_⟩
  rw [← e3] at w3 v3
  clear e3
  rw [v2.2.2.2.1] at w3 v3
  have o3 := w3 o (by omega)
  have p3 := w3 p (by omega)
  rw [o3.1, o2.1, o1.1, p3.1, p2.1, p1.1, p3.2.2.1, p2.2.2.1, p1.2.2.1, bp, o3.2.2.2 z5, o2.2.2.2 z5, o1.2.2.2 z5, b0.1, b0.2.2.1]
  refine ⟨z4, z1, ?_⟩
  refine c_copyOf (d := d) (by rw [(w3 _ (by omega)).1, (w2 _ (by omega)).1, (w1 _ n3).1, b0.1]; exact t3) (by omega) (by rw [(w3 _ (by omega)).2.1, (w2 _ (by omega)).2.1, (w1 _ n3).2.1, b0.2.1]; exact l3) (by omega) (by rw [v3.2.2.2.1]; omega) (fun a4 C4 => ?_)
  have w4 := fun (c : Int) (hc : c < g3.nx) => cp_low (p := p) (k := 3) (v := g3.nx) C4 hc
  have v4 := cp_new (p := p) (k := 3) (v := g3.nx) C4
  have ta4 : a4.tag p = 9 := by rw [C4.1, if_neg (by omega), p3.1, p2.1, p1.1, b0.1]; exact z1
  refine ⟨ta4, fun g4 e4 => ?_⟩
  rw [← e4] at w4 v4
  clear e4
  rw [v3.2.2.2.1] at w4 v4
  have o4 := w4 o (by omega)
  have p4 := w4 p (by omega)
  rw [o4.1, o3.1, o2.1, o1.1, p4.1, p3.1, p2.1, p1.1, p4.2.2.1, p3.2.2.1, p2.2.2.1, p1.2.2.1, bp, o4.2.2.2 z5, o3.2.2.2 z5, o2.2.2.2 z5, o1.2.2.2 z5, b0.1, b0.2.2.1]
  refine ⟨z4, z1, ?_⟩
  refine c_copyOf (d := d) (by rw [(w4 _ (by omega)).1, (w3 _ (by omega)).1, (w2 _ (by omega)).1, (w1 _ n4).1, b0.1]; exact t4) (by omega) (by rw [(w4 _ (by omega)).2.1, (w3 _ (by omega)).2.1, (w2 _ (by omega)).2.1, (w1 _ n4).2.1, b0.2.1]; exact l4) (by omega) (by rw [v4.2.2.2.1]; omega) (fun a5 C5 => ?_)
  have w5 := fun (c : Int) (hc : c < g4.nx) => cp_low (p := p) (k := 4) (v := g4.nx) C5 hc
  have v5 := cp_new (p := p) (k := 4) (v := g4.nx) C5
  have ta5 : a5.tag p = 9 := by rw [C5.1, if_neg (by omega), p4.1, p3.1, p2.1, p1.1, b0.1]; exact z1
  refine ⟨ta5, fun g5 e5 => ?_⟩
  rw [← e5] at w5 v5
  clear e5
  rw [v4.2.2.2.1] at w5 v5
  have p5 := w5 p (by omega)
  refine ⟨by rw [p5.1, p4.1, p3.1, p2.1, p1.1, b0.1]; exact z1, fun g6 e6 => ?_⟩
  have K : IniO h g6 p o s t := by
    have q1 : h.nx + 1 + 1 = h.nx + 2 := by omega
    have q2 : h.nx + 1 + 1 + 1 = h.nx + 3 := by omega
    have q3 : h.nx + 1 + 1 + 1 + 1 = h.nx + 4 := by omega
    have d6 : g6.tag = g5.tag ∧ g6.len = g5.len ∧ g6.i = g5.i ∧ g6.nx = g5.nx ∧ g6.us = g5.us := by rw [e6]; exact ⟨rfl, rfl, rfl, rfl, rfl⟩
    have r6 : ∀ c k, g6.r c k = if c = p ∧ k = 5 then 0 else g5.r c k := fun c k => by rw [e6, xr_wr]
    rw [q1] at v3 w4
    rw [q2] at v4 w5
    rw [q3] at v5
    rw [show h.nx + 1 + 1 = h.nx + 2 from q1] at w3
    refine ⟨fun c hc => ?_, ⟨?_, ?_, ?_, ?_, ?_⟩, ⟨?_, ?_, ?_, ?_, ?_⟩, ⟨?_, ?_, ?_, ?_, ?_, ?_⟩, fun c hc hp => ⟨?_, ?_⟩, ?_, ?_, ?_, fun k k0 k1 => ?_, fun k k0 k1 => ?_, fun k k0 k1 => ?_, fun k k0 k1 => ?_, fun k k0 k1 => ?_⟩
    · rw [d6.1, d6.2.1, (w5 c (by omega)).1, (w4 c (by omega)).1, (w3 c (by omega)).1, (w2 c (by omega)).1, (w1 c hc).1, (w5 c (by omega)).2.1, (w4 c (by omega)).2.1, (w3 c (by omega)).2.1, (w2 c (by omega)).2.1, (w1 c hc).2.1, b0.1, b0.2.1]
      exact ⟨rfl, rfl⟩
    · rw [d6.1, (w5 _ (by omega)).1, (w4 _ (by omega)).1, (w3 _ (by omega)).1, (w2 _ (by omega)).1]; exact v1.1
    · rw [d6.1, (w5 _ (by omega)).1, (w4 _ (by omega)).1, (w3 _ (by omega)).1]; exact v2.1
    · rw [d6.1, (w5 _ (by omega)).1, (w4 _ (by omega)).1]; exact v3.1
    · rw [d6.1, (w5 _ (by omega)).1]; exact v4.1
    · rw [d6.1]; exact v5.1
    · rw [d6.2.1, (w5 _ (by omega)).2.1, (w4 _ (by omega)).2.1, (w3 _ (by omega)).2.1, (w2 _ (by omega)).2.1]; exact v1.2.1
    · rw [d6.2.1, (w5 _ (by omega)).2.1, (w4 _ (by omega)).2.1, (w3 _ (by omega)).2.1]; exact v2.2.1
    · rw [d6.2.1, (w5 _ (by omega)).2.1, (w4 _ (by omega)).2.1]; exact v3.2.1
    · rw [d6.2.1, (w5 _ (by omega)).2.1]; exact v4.2.1
    · rw [d6.2.1]; exact v5.2.1
    · rw [r6, if_neg (fun y => absurd y.2 (by decide)), v5.2.2.2.2.2.2 0 (by decide), v4.2.2.2.2.2.2 0 (by decide), v3.2.2.2.2.2.2 0 (by decide), v2.2.2.2.2.2.2 0 (by decide)]; exact v1.2.2.2.2.2.1
    · rw [r6, if_neg (fun y => absurd y.2 (by decide)), v5.2.2.2.2.2.2 1 (by decide), v4.2.2.2.2.2.2 1 (by decide), v3.2.2.2.2.2.2 1 (by decide)]; exact v2.2.2.2.2.2.1
    · rw [r6, if_neg (fun y => absurd y.2 (by decide)), v5.2.2.2.2.2.2 2 (by decide), v4.2.2.2.2.2.2 2 (by decide)]; exact v3.2.2.2.2.2.1
    · rw [r6, if_neg (fun y => absurd y.2 (by decide)), v5.2.2.2.2.2.2 3 (by decide)]; exact v4.2.2.2.2.2.1
    · rw [r6, if_neg (fun y => absurd y.2 (by decide))]; exact v5.2.2.2.2.2.1
    · rw [r6, if_pos ⟨rfl, rfl⟩]
    · funext k
      rw [r6, if_neg (fun y => hp y.1), (w5 c (by omega)).2.2.2 hp, (w4 c (by omega)).2.2.2 hp, (w3 c (by omega)).2.2.2 hp, (w2 c (by omega)).2.2.2 hp, (w1 c hc).2.2.2 hp, b0.2.2.1]
    · rw [d6.2.2.1, (w5 c (by omega)).2.2.1, (w4 c (by omega)).2.2.1, (w3 c (by omega)).2.2.1, (w2 c (by omega)).2.2.1, (w1 c hc).2.2.1, bi c hp]
    · rw [d6.2.2.1, p5.2.2.1, p4.2.2.1, p3.2.2.1, p2.2.2.1, p1.2.2.1]; exact bp
    · rw [d6.2.2.2.1, v5.2.2.2.1]; omega
    · rw [d6.2.2.2.2, v5.2.2.2.2.1, v4.2.2.2.2.1, v3.2.2.2.2.1, v2.2.2.2.2.1, v1.2.2.2.2.1, b0.2.2.2.2]
    · rw [d6.2.2.1, (w5 _ (by omega)).2.2.1, (w4 _ (by omega)).2.2.1, (w3 _ (by omega)).2.2.1, (w2 _ (by omega)).2.2.1, v1.2.2.1 k k0 k1, b0.2.2.1, bi _ (np _ t0)]
    · rw [d6.2.2.1, (w5 _ (by omega)).2.2.1, (w4 _ (by omega)).2.2.1, (w3 _ (by omega)).2.2.1, v2.2.2.1 k k0 k1, (w1 _ n1).2.2.1, bi _ (np _ t1)]
    · rw [d6.2.2.1, (w5 _ (by omega)).2.2.1, (w4 _ (by omega)).2.2.1, v3.2.2.1 k k0 k1, (w2 _ (by omega)).2.2.1, (w1 _ n2).2.2.1, bi _ (np _ t2)]
    · rw [d6.2.2.1, (w5 _ (by omega)).2.2.1, v4.2.2.1 k k0 k1, (w3 _ (by omega)).2.2.1, (w2 _ (by omega)).2.2.1, (w1 _ n3).2.2.1, bi _ (np _ t3)]
    · rw [d6.2.2.1, v5.2.2.1 k k0 k1, (w4 _ (by omega)).2.2.1, (w3 _ (by omega)).2.2.1, (w2 _ (by omega)).2.2.1, (w1 _ n4).2.2.1, bi _ (np _ t4)]
  exact H g6 K
