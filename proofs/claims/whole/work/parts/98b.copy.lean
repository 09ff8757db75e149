/-! rows are copied, a row of syllables is made out of another -/
def CpO (h h' : xH) (q m : Int) : Prop := (∀ c, h'.tag c = if c = h.nx then 20 else h.tag c) ∧ (∀ c, h'.len c = if c = h.nx then m else h.len c) ∧ h'.r = h.r ∧ h'.nx = h.nx + 1 ∧ h'.us = h.us + m ∧ (∀ c, c ≠ h.nx → h'.i c = h.i c) ∧ ∀ k, 0 ≤ k → k < m → h'.i h.nx k = h.i q k
theorem CpO_of {h : xH} {q m : Int} (qn : q < h.nx) : CpO h ((h.al 20 m).cp q 0 h.nx 0 m) q m := by
  refine ⟨fun c => by rw [xt_cp, xt_al], fun c => by rw [xl_cp, xl_al], rfl, rfl, rfl, fun c hc => ?_, fun k k0 k1 => ?_⟩
  · funext j
    rw [xi_cp, if_neg hc]; rfl
  · rw [xi_cp, if_pos rfl]
    unfold xcp
    rw [if_pos ⟨k0, by omega⟩, show 0 + (k - 0) = k by omega]; rfl
theorem c_copyOf {d : Nat} {h : xH} {q m : Int} {Q : Int → xH → Prop} (tq : h.tag q = 20) (m0 : 0 ≤ m) (ml : m ≤ h.len q) (mx : m ≤ 7302250) (qn : q < h.nx) (H : ∀ h', CpO h h' q m → Q h.nx h') : xCr (d + 1) M_Arrays_copyOf [(1, q), (0, m)] h Q := by
  apply L_Arrays_copyOf
  refine ⟨tq, ?_⟩
  by_cases c : m = h.len q
  · rw [if_pos c, ← c]
    intro p1 e1 h1 eh
    subst e1
    have K := CpO_of (h := h) (m := m) qn
    rw [← eh] at K
    exact ⟨by rw [K.1, if_pos rfl], H h1 K⟩
  · rw [if_neg c]
    refine ⟨⟨m0, mx⟩, fun p2 e2 h2 eh => ?_⟩
    subst e2
    subst eh
    have q1 : ¬ q = h.nx := by omega
    have q2 : m < h.len q := by omega
    simp only [xt_al, xl_al, q1, q2, if_true, if_false]
    refine ⟨tq, ⟨tq, trivial, Int.le_refl _, Int.le_refl _, m0, by omega, by omega⟩, fun h3 e3 => ?_⟩
    have K := CpO_of (h := h) (m := m) qn
    rw [← e3] at K
    exact H h3 K
/-- heap g has K cells more than h, all old ones as they were but the slots of p -/
def StI (h g : xH) (p s K : Int) : Prop := g.nx = h.nx + K ∧ (∀ c, c < h.nx → g.tag c = h.tag c ∧ g.len c = h.len c) ∧ (∀ c, c < h.nx → c ≠ p → g.i c = h.i c ∧ g.r c = h.r c) ∧ g.i p 6 = s ∧ ∀ c, h.nx + K ≤ c → g.i c = h.i c ∧ g.r c = h.r c
def NwA (h g g' : xH) (p k q m v N : Int) : Prop := g'.tag N = 20 ∧ g'.len N = m ∧ (∀ j, 0 ≤ j → j < m → g'.i N j = g.i q j) ∧ g'.us = g.us + m ∧ g'.r p k = v ∧ (∀ j, j ≠ k → g'.r p j = g.r p j) ∧ ∀ c, h.nx ≤ c → c < N → g'.tag c = g.tag c ∧ g'.len c = g.len c ∧ g'.i c = g.i c
section CP
variable {h g g' : xH} {q m p k v s K : Int}
theorem StI_next (hp : p < h.nx) (K0 : 0 ≤ K) (S : StI h g p s K) (C : CpO g g' q m) : StI h (g'.wr p k v) p s (K + 1) ∧ NwA h g (g'.wr p k v) p k q m v (h.nx + K) := by
  obtain ⟨a1, a2, a3, a4, a5⟩ := S
  obtain ⟨c1, c2, c3, c4, c5, c6, c7⟩ := C
  have low : ∀ c, c < h.nx + K → g'.tag c = g.tag c ∧ g'.len c = g.len c ∧ g'.i c = g.i c := fun c hc => ⟨by rw [c1, if_neg (by omega)], by rw [c2, if_neg (by omega)], c6 c (by omega)⟩
  rw [a1] at c1 c2 c7
  refine ⟨⟨?_, fun c hc => ?_, fun c hc hn => ⟨?_, ?_⟩, ?_, fun c hc => ⟨?_, ?_⟩⟩, ?_, ?_, fun j j0 j1 => ?_, c5, ?_, fun j n => ?_, fun c _ hc => low c hc⟩
  · show g'.nx = _; rw [c4, a1]; omega
  · have l := low c (by omega)
    have b := a2 c hc
    exact ⟨l.1.trans b.1, l.2.1.trans b.2⟩
  · exact (low c (by omega)).2.2.trans (a3 c hc hn).1
  · funext j
    rw [xr_wr, if_neg (fun z => hn z.1), c3, (a3 c hc hn).2]
  · show g'.i p 6 = s
    rw [(low p (by omega)).2.2]; exact a4
  · show g'.i c = _
    rw [c6 c (by omega)]; exact (a5 c (by omega)).1
  · funext j
    rw [xr_wr, if_neg (fun z => by omega), c3, (a5 c (by omega)).2]
  · show g'.tag _ = _; rw [c1, if_pos rfl]
  · show g'.len _ = _; rw [c2, if_pos rfl]
  · exact c7 j j0 j1
  · rw [xr_wr, if_pos ⟨rfl, rfl⟩]
  · rw [xr_wr, if_neg (fun z => n z.2), c3]
theorem st_low (S : StI h g p s K) {c : Int} (hc : c < h.nx) : g.tag c = h.tag c ∧ g.len c = h.len c := S.2.1 c hc
theorem st_row (S : StI h g p s K) {c : Int} (hc : c < h.nx) (n : c ≠ p) : g.i c = h.i c ∧ g.r c = h.r c := S.2.2.1 c hc n
theorem st_nx (S : StI h g p s K) : g.nx = h.nx + K := S.1
theorem st_6 (S : StI h g p s K) : g.i p 6 = s := S.2.2.2.1
theorem st_hi (S : StI h g p s K) {c : Int} (hc : h.nx + K ≤ c) : g.i c = h.i c ∧ g.r c = h.r c := S.2.2.2.2 c hc
end CP
/-- what a row of syllables made out of another is -/
def IniO (h h' : xH) (p o s t : Int) : Prop := (∀ c, c < h.nx → h'.tag c = h.tag c ∧ h'.len c = h.len c) ∧ (h'.tag h.nx = 20 ∧ h'.tag (h.nx + 1) = 20 ∧ h'.tag (h.nx + 2) = 20 ∧ h'.tag (h.nx + 3) = 20 ∧ h'.tag (h.nx + 4) = 20) ∧ (h'.len h.nx = t ∧ h'.len (h.nx + 1) = s + 1 ∧ h'.len (h.nx + 2) = s ∧ h'.len (h.nx + 3) = s ∧ h'.len (h.nx + 4) = s) ∧ (h'.r p 0 = h.nx ∧ h'.r p 1 = h.nx + 1 ∧ h'.r p 2 = h.nx + 2 ∧ h'.r p 3 = h.nx + 3 ∧ h'.r p 4 = h.nx + 4 ∧ h'.r p 5 = 0) ∧ (∀ c, c < h.nx → c ≠ p → h'.r c = h.r c ∧ h'.i c = h.i c) ∧ h'.i p 6 = s ∧ h'.nx = h.nx + 5 ∧ h'.us = h.us + t + (s + 1) + s + s + s ∧ (∀ k, 0 ≤ k → k < t → h'.i h.nx k = h.i (h.r o 0) k) ∧ (∀ k, 0 ≤ k → k < s + 1 → h'.i (h.nx + 1) k = h.i (h.r o 1) k) ∧ (∀ k, 0 ≤ k → k < s → h'.i (h.nx + 2) k = h.i (h.r o 2) k) ∧ (∀ k, 0 ≤ k → k < s → h'.i (h.nx + 3) k = h.i (h.r o 3) k) ∧ (∀ k, 0 ≤ k → k < s → h'.i (h.nx + 4) k = h.i (h.r o 4) k) ∧ ∀ c, h.nx + 5 ≤ c → h'.i c = h.i c ∧ h'.r c = h.r c
/-- what the other must be -/
def SrcO (h : xH) (p o s t : Int) : Prop := h.tag p = 9 ∧ p ≠ 0 ∧ p < h.nx ∧ h.tag o = 9 ∧ o ≠ p ∧ o < h.nx ∧ h.i o 6 = s ∧ 0 ≤ s ∧ s ≤ 100 ∧ 0 ≤ t ∧ t ≤ 1000 ∧ h.i (h.r o 1) s = t ∧ (h.r o 0 < h.nx ∧ h.r o 1 < h.nx ∧ h.r o 2 < h.nx ∧ h.r o 3 < h.nx ∧ h.r o 4 < h.nx) ∧ (h.tag (h.r o 0) = 20 ∧ h.tag (h.r o 1) = 20 ∧ h.tag (h.r o 2) = 20 ∧ h.tag (h.r o 3) = 20 ∧ h.tag (h.r o 4) = 20) ∧ t ≤ h.len (h.r o 0) ∧ s + 1 ≤ h.len (h.r o 1) ∧ s ≤ h.len (h.r o 2) ∧ s ≤ h.len (h.r o 3) ∧ s ≤ h.len (h.r o 4)
set_option maxHeartbeats 4000000 in
theorem c_X_init2 {d : Nat} {h : xH} {p o s t : Int} {Q : xH → Prop} (Z : SrcO h p o s t) (H : ∀ h', IniO h h' p o s t → Q h') : xCv (d + 2) M_Syllables_init2 [(1, p), (1, o)] h Q := by
  obtain ⟨z1, z2, z3, z4, z5, z6, z7, z8, z9, z10, z11, z12, ⟨n0, n1, n2, n3, n4⟩, ⟨t0, t1, t2, t3, t4⟩, l0, l1, l2, l3, l4⟩ := Z
  have np : ∀ c, h.tag c = 20 → c ≠ p := fun c e y => by rw [y, z1] at e; exact absurd e (by decide)
  have m0 := np _ t0
  have m1 := np _ t1
  have m2 := np _ t2
  have m3 := np _ t3
  have m4 := np _ t4
  clear np
  apply L_Syllables_init2
  refine ⟨z2, z1, fun h1 e1 => ?_⟩
  subst e1
  refine ⟨z4, z1, fun g0 e2 => ?_⟩
  rw [xi_wi, if_neg (fun y => z5 y.1), z7] at e2
  have S0 : StI h g0 p s 0 ∧ g0.us = h.us := by
    rw [e2]
    refine ⟨⟨by show h.nx = h.nx + 0; omega, fun c hc => ⟨rfl, rfl⟩, fun c hc n => ⟨?_, rfl⟩, by rw [xi_wi, if_pos ⟨rfl, rfl⟩], fun c hc => ⟨?_, rfl⟩⟩, rfl⟩
    all_goals funext j
    · rw [xi_wi, if_neg (fun y => n y.1), xi_wi, if_neg (fun y => n y.1)]
    · rw [xi_wi, if_neg (fun y => by omega), xi_wi, if_neg (fun y => by omega)]
  clear e2
  obtain ⟨S0, u0⟩ := S0
  have x0 := st_nx S0
  refine ⟨by rw [(st_low S0 z6).1]; exact z4, ?_⟩
  apply L_Syllables_letterCount
  rw [(st_low S0 z6).1, (st_row S0 z6 z5).2, (st_low S0 n1).1, (st_low S0 n1).2, (st_row S0 z6 z5).1, (st_row S0 n1 m1).1, z7, z12]
  refine ⟨z4, ⟨t1, z8, by omega⟩, ?_⟩
  refine c_copyOf (d := d) (by rw [(st_low S0 n0).1]; exact t0) (by omega) (by rw [(st_low S0 n0).2]; exact l0) (by omega) (by rw [x0]; omega) (fun a1 C => ?_)
  have W := StI_next (k := 0) (v := g0.nx) z3 (by decide) S0 C
  have ta : a1.tag p = 9 := by rw [C.1, if_neg (by omega), (st_low S0 z3).1]; exact z1
  clear C
  refine ⟨ta, fun g1 e => ?_⟩
  rw [← e] at W
  clear e ta
  obtain ⟨S1, N1⟩ := W
  have x1 := st_nx S1
  rw [(st_low S1 z6).1, (st_low S1 z3).1, st_6 S1, (st_row S1 z6 z5).2, xw_id (a := s + 1) (by omega) (by omega)]
  refine ⟨z4, z1, ?_⟩
  refine c_copyOf (d := d) (by rw [(st_low S1 n1).1]; exact t1) (by omega) (by rw [(st_low S1 n1).2]; exact l1) (by omega) (by rw [x1]; omega) (fun a2 C => ?_)
  have W := StI_next (k := 1) (v := g1.nx) z3 (by decide) S1 C
  have ta : a2.tag p = 9 := by rw [C.1, if_neg (by omega), (st_low S1 z3).1]; exact z1
  clear C
  refine ⟨ta, fun g2 e => ?_⟩
  rw [← e] at W
  clear e ta
  obtain ⟨S2, N2⟩ := W
  have x2 := st_nx S2
  rw [(st_low S2 z6).1, (st_low S2 z3).1, st_6 S2, (st_row S2 z6 z5).2]
  refine ⟨z4, z1, ?_⟩
  refine c_copyOf (d := d) (by rw [(st_low S2 n2).1]; exact t2) (by omega) (by rw [(st_low S2 n2).2]; exact l2) (by omega) (by rw [x2]; omega) (fun a3 C => ?_)
  have W := StI_next (k := 2) (v := g2.nx) z3 (by decide) S2 C
  have ta : a3.tag p = 9 := by rw [C.1, if_neg (by omega), (st_low S2 z3).1]; exact z1
  clear C
  refine ⟨ta, fun g3 e => ?_⟩
  rw [← e] at W
  clear e ta
  obtain ⟨S3, N3⟩ := W
  have x3 := st_nx S3
  rw [(st_low S3 z6).1, (st_low S3 z3).1, st_6 S3, (st_row S3 z6 z5).2]
  refine ⟨z4, z1, ?_⟩
  refine c_copyOf (d := d) (by rw [(st_low S3 n3).1]; exact t3) (by omega) (by rw [(st_low S3 n3).2]; exact l3) (by omega) (by rw [x3]; omega) (fun a4 C => ?_)
  have W := StI_next (k := 3) (v := g3.nx) z3 (by decide) S3 C
  have ta : a4.tag p = 9 := by rw [C.1, if_neg (by omega), (st_low S3 z3).1]; exact z1
  clear C
  refine ⟨ta, fun g4 e => ?_⟩
  rw [← e] at W
  clear e ta
  obtain ⟨S4, N4⟩ := W
  have x4 := st_nx S4
  rw [(st_low S4 z6).1, (st_low S4 z3).1, st_6 S4, (st_row S4 z6 z5).2]
  refine ⟨z4, z1, ?_⟩
  refine c_copyOf (d := d) (by rw [(st_low S4 n4).1]; exact t4) (by omega) (by rw [(st_low S4 n4).2]; exact l4) (by omega) (by rw [x4]; omega) (fun a5 C => ?_)
  have W := StI_next (k := 4) (v := g4.nx) z3 (by decide) S4 C
  have ta : a5.tag p = 9 := by rw [C.1, if_neg (by omega), (st_low S4 z3).1]; exact z1
  clear C
  refine ⟨ta, fun g5 e => ?_⟩
  rw [← e] at W
  clear e ta
  obtain ⟨S5, N5⟩ := W
  have x5 := st_nx S5
  refine ⟨by rw [(st_low S5 z3).1]; exact z1, fun g6 e6 => ?_⟩
  have d6 : g6.tag = g5.tag ∧ g6.len = g5.len ∧ g6.i = g5.i ∧ g6.nx = g5.nx ∧ g6.us = g5.us ∧ (∀ c k, g6.r c k = if c = p ∧ k = 5 then 0 else g5.r c k) := by rw [e6]; exact ⟨rfl, rfl, rfl, rfl, rfl, fun c k => by rw [xr_wr]⟩
  clear e6
  obtain ⟨d1, d2, d3, d4, d5, d6⟩ := d6
  refine H g6 ?_
  rw [x0] at N1
  rw [show h.nx + 0 = h.nx by omega] at N1
  rw [x1] at N2
  rw [x2] at N3
  rw [x3] at N4
  rw [x4] at N5
  rw [show h.nx + (0 + 1) = h.nx + 1 by omega] at N2
  rw [show h.nx + (0 + 1 + 1) = h.nx + 2 by omega] at N3
  rw [show h.nx + (0 + 1 + 1 + 1) = h.nx + 3 by omega] at N4
  rw [show h.nx + (0 + 1 + 1 + 1 + 1) = h.nx + 4 by omega] at N5
  have r0 := (st_row S0 n0 m0).1
  have r1 := (st_row S1 n1 m1).1
  have r2 := (st_row S2 n2 m2).1
  have r3 := (st_row S3 n3 m3).1
  have r4 := (st_row S4 n4 m4).1
  have s6 := st_6 S5
  have lo5 : ∀ c, c < h.nx → g5.tag c = h.tag c ∧ g5.len c = h.len c := fun c hc => st_low S5 hc
  have ro5 : ∀ c, c < h.nx → c ≠ p → g5.i c = h.i c ∧ g5.r c = h.r c := fun c hc hn => st_row S5 hc hn
  have hi5 : ∀ c, h.nx + 5 ≤ c → g5.i c = h.i c ∧ g5.r c = h.r c := fun c hc => st_hi S5 (by omega)
  clear S0 S1 S2 S3 S4 S5 n0 n1 n2 n3 n4 m0 m1 m2 m3 m4 t0 t1 t2 t3 t4 l0 l1 l2 l3 l4 x0 x1 x2 x3 x4 z12 z7 z6 z5 z4
  have b1 : h.nx < h.nx + 1 := by omega
  have b2 : h.nx < h.nx + 2 := by omega
  have b3 : h.nx < h.nx + 3 := by omega
  have b4 : h.nx < h.nx + 4 := by omega
  have b0 : h.nx ≤ h.nx := Int.le_refl _
  have c1 : h.nx ≤ h.nx + 1 := by omega
  have c2 : h.nx ≤ h.nx + 2 := by omega
  have c3 : h.nx ≤ h.nx + 3 := by omega
  have b12 : h.nx + 1 < h.nx + 2 := by omega
  have b13 : h.nx + 1 < h.nx + 3 := by omega
  have b14 : h.nx + 1 < h.nx + 4 := by omega
  have b23 : h.nx + 2 < h.nx + 3 := by omega
  have b24 : h.nx + 2 < h.nx + 4 := by omega
  have b34 : h.nx + 3 < h.nx + 4 := by omega
  have x5' : g5.nx = h.nx + 5 := by rw [x5]; omega
  clear x5
  obtain ⟨p1, p2, p3, p4, p5, p6, p7⟩ := N1
  obtain ⟨q1, q2, q3, q4, q5, q6, q7⟩ := N2
  obtain ⟨v1, v2, v3, v4, v5, v6, v7⟩ := N3
  obtain ⟨w1, w2, w3, w4, w5, w6, w7⟩ := N4
  obtain ⟨y1, y2, y3, y4, y5, y6, y7⟩ := N5
  have A0 := q7 _ b0 b1
  have A1 := v7 _ b0 b2
  have A2 := w7 _ b0 b3
  have A3 := y7 _ b0 b4
  have B1 := v7 _ c1 b12
  have B2 := w7 _ c1 b13
  have B3 := y7 _ c1 b14
  have C2 := w7 _ c2 b23
  have C3 := y7 _ c2 b24
  have D3 := y7 _ c3 b34
  refine ⟨fun c hc => ?_, ⟨?_, ?_, ?_, ?_, ?_⟩, ⟨?_, ?_, ?_, ?_, ?_⟩, ⟨?_, ?_, ?_, ?_, ?_, ?_⟩, fun c hc hp => ⟨?_, ?_⟩, ?_, ?_, ?_, fun k k0 k1 => ?_, fun k k0 k1 => ?_, fun k k0 k1 => ?_, fun k k0 k1 => ?_, fun k k0 k1 => ?_, fun c hc => ⟨?_, ?_⟩⟩
  · rw [d1, d2]; exact lo5 c hc
  · rw [d1, A3.1, A2.1, A1.1, A0.1]; exact p1
  · rw [d1, B3.1, B2.1, B1.1]; exact q1
  · rw [d1, C3.1, C2.1]; exact v1
  · rw [d1, D3.1]; exact w1
  · rw [d1]; exact y1
  · rw [d2, A3.2.1, A2.2.1, A1.2.1, A0.2.1]; exact p2
  · rw [d2, B3.2.1, B2.2.1, B1.2.1]; exact q2
  · rw [d2, C3.2.1, C2.2.1]; exact v2
  · rw [d2, D3.2.1]; exact w2
  · rw [d2]; exact y2
  · rw [d6, if_neg (fun y => absurd y.2 (by decide)), y6 0 (by decide), w6 0 (by decide), v6 0 (by decide), q6 0 (by decide)]; exact p5
  · rw [d6, if_neg (fun y => absurd y.2 (by decide)), y6 1 (by decide), w6 1 (by decide), v6 1 (by decide)]; exact q5
  · rw [d6, if_neg (fun y => absurd y.2 (by decide)), y6 2 (by decide), w6 2 (by decide)]; exact v5
  · rw [d6, if_neg (fun y => absurd y.2 (by decide)), y6 3 (by decide)]; exact w5
  · rw [d6, if_neg (fun y => absurd y.2 (by decide))]; exact y5
  · rw [d6, if_pos ⟨rfl, rfl⟩]
  · funext k
    rw [d6, if_neg (fun y => hp y.1), (ro5 c hc hp).2]
  · rw [d3]; exact (ro5 c hc hp).1
  · rw [d3]; exact s6
  · rw [d4]; exact x5'
  · rw [d5, y4, w4, v4, q4, p4, u0]
  · rw [d3, A3.2.2, A2.2.2, A1.2.2, A0.2.2, p3 k k0 k1, r0]
  · rw [d3, B3.2.2, B2.2.2, B1.2.2, q3 k k0 k1, r1]
  · rw [d3, C3.2.2, C2.2.2, v3 k k0 k1, r2]
  · rw [d3, D3.2.2, w3 k k0 k1, r3]
  · rw [d3, y3 k k0 k1, r4]
  · rw [d3]; exact (hi5 c hc).1
  · funext k
    rw [d6, if_neg (fun y => by omega), (hi5 c hc).2]
