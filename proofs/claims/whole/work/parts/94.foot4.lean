/-! foot: the object is made; the digits of a row -/
section FI
variable {d : Nat}
theorem SX_lo {h h' : xH} (lo : ∀ c, c < 130 → h'.tag c = h.tag c ∧ h'.len c = h.len c) (r : ∀ c k, c < 130 → c ≠ 23 → h'.r c k = h.r c k) (S : SX h) : SX h' := by
  obtain ⟨a, b, c⟩ := S
  refine ⟨?_, ?_, ?_⟩
  · unfold SXT at a ⊢
    simp (disch := decide) only [(lo _ _).1]
    exact a
  · unfold SXL at b ⊢
    simp (disch := decide) only [(lo _ _).2]
    exact b
  · unfold SXF at c ⊢
    simp (disch := decide) only [r]
    exact c
/-- the foot's object, filled -/
def TabOk (h : xH) (p s m x y : Int) (dg : Int → Int) : Prop := FSh h p ∧ h.i p 0 = s ∧ h.i p 1 = m ∧ h.i p 6 = fcodes s m y ∧ (∀ c, 0 ≤ c → c ≤ 16 → h.i (p + 1) (2 * c) = ((fch s m x y dg c).getD 0 (-1, 0)).1 ∧ h.i (p + 1) (2 * c + 1) = ((fch s m x y dg c).getD 1 (-1, 0)).1 ∧ h.i (p + 2) (2 * c) = ((fch s m x y dg c).getD 0 (-1, 0)).2 ∧ h.i (p + 2) (2 * c + 1) = ((fch s m x y dg c).getD 1 (-1, 0)).2 ∧ h.i (p + 3) c = fasks s x c ∧ h.i (p + 4) c = fends s m x y c)
theorem tab_P {h : xH} {p s m x : Int} {dg : Int → Int} (s4 : s ≠ 4) (m1 : 1 ≤ m) (hx : s = 3 → 1 ≤ x ∧ x < m) (P : PJ h p s m x dg 0) : TabOk h p s m x 0 dg := by
  obtain ⟨S, P0, P1, O, As, En, Co⟩ := P
  refine ⟨S, P0, P1, ?_, fun c c0 c1 => ?_⟩
  · rw [Co, if_neg (by omega)]
    unfold fcodes
    rw [if_neg s4]
  · have o := O c c0 c1
    have e : (if Aj 0 c then fch s m x 0 dg c else []) = fch s m x 0 dg c := by
      by_cases z : Aj 0 c
      · rw [if_pos z]
      · rw [if_neg z, fch_o s4 z c0 c1]
    rw [e] at o
    refine ⟨o.1, o.2.1, o.2.2.1, o.2.2.2, ?_, ?_⟩
    · rw [As c c0 c1]
      unfold fasks
      by_cases z : s = 3 ∧ c = 4 * (x - 1) + 1
      · have := hx z.1
        rw [if_pos z, if_pos ⟨by omega, z⟩]
      · rw [if_neg z, if_neg (fun t => z t.2)]
    · rw [En c c0 c1]
      unfold fends
      rw [if_neg s4]
      by_cases z : c = 4 * (m - 1) + 1
      · rw [if_pos z, if_pos ⟨by omega, z⟩]
      · rw [if_neg z, if_neg (fun t => z t.2)]
theorem tab_F {h : xH} {p m x y : Int} {dg : Int → Int} (m1 : 1 ≤ m) (m3 : m ≤ 3) (P : PF h p m x y dg m 0) : TabOk h p 4 m x y dg := by
  obtain ⟨S, P0, P1, O, As, En, Co⟩ := P
  refine ⟨S, P0, P1, ?_, fun c c0 c1 => ?_⟩
  · rw [Co]
    unfold Kf fcodes
    rw [if_neg (by omega), if_neg (by omega), if_pos rfl]
  · have o := O c c0 c1
    have e : (if Af m 0 c then fch 4 m x y dg c else []) = fch 4 m x y dg c := by
      by_cases z : Af m 0 c
      · rw [if_pos z]
      · rw [if_neg z]
        unfold fch
        rw [if_pos rfl, if_neg (by omega), if_neg (by omega)]
    rw [e] at o
    refine ⟨o.1, o.2.1, o.2.2.1, o.2.2.2, ?_, ?_⟩
    · rw [As c c0 c1]; unfold fasks; rw [if_neg (by omega)]
    · rw [En c c0 c1]
      unfold fends
      rw [if_pos rfl]
      by_cases z : c / 4 + 1 = m ∧ x ≤ c % 4 ∧ c % 4 ≤ y
      · rw [if_pos z, if_pos ⟨by omega, z⟩]
      · rw [if_neg z, if_neg (fun t => z t.2)]
theorem c_X_finit {h : xH} {Q : xH → Prop} {s m row x y p : Int} {dg R : Int → Int} (hp : h.nx = p + 1) (p0 : 130 ≤ p) (tp : h.tag p = 1) (new : ∀ c k, p ≤ c → h.i c k = 0 ∧ h.r c k = 0) (m1 : 1 ≤ m) (hs : (s = 4 ∧ m ≤ 3 ∧ 0 ≤ x ∧ x ≤ y ∧ y ≤ 3) ∨ (0 ≤ s ∧ s ≤ 3 ∧ m ≤ 4 ∧ y = 0 ∧ (s = 3 → 1 ≤ x ∧ x < m) ∧ R (m - 1) = row ∧ (∀ k, 0 ≤ k → k < m → 0 ≤ R k ∧ R k ≤ 4444 ∧ dg k = R k % 10 ∧ 1 ≤ dg k ∧ dg k ≤ 4 ∧ R (k - 1) = R k / 10))) (H : ∀ h', (∀ c, c ≤ p → h'.tag c = h.tag c ∧ h'.len c = h.len c) → (∀ c k, c < p → h'.i c k = h.i c k ∧ h'.r c k = h.r c k) → (∀ c k, p + 5 ≤ c → h'.i c k = 0 ∧ h'.r c k = 0) → h'.nx = p + 5 → h'.us = h.us + 102 → TabOk h' p s m x y dg → Q h') : xCv (d + 3) M_Foot_init [(1, p), (0, s), (0, m), (0, row), (0, x), (0, y)] h Q := by
  apply L_Foot_init
  refine ⟨by omega, ?_⟩
  intro p1 e1 h1 g1
  have a1 : h1.i = h.i ∧ h1.r = h.r ∧ h1.nx = p + 2 ∧ h1.us = h.us + 34 ∧ (∀ c, h1.tag c = if c = p + 1 then 20 else h.tag c) ∧ (∀ c, h1.len c = if c = p + 1 then 34 else h.len c) := by
    rw [g1]; exact ⟨rfl, rfl, by rw [xn_al]; omega, rfl, fun c => by rw [xt_al, hp], fun c => by rw [xl_al, hp]⟩
  clear g1
  refine ⟨by rw [a1.2.2.2.2.1, if_neg (by omega)]; exact tp, ?_⟩
  intro h2 g2 p2 e2 h3 g3
  have a3 : h3.i = h.i ∧ (∀ c k, h3.r c k = if c = p ∧ k = 2 then p + 1 else h.r c k) ∧ h3.nx = p + 3 ∧ h3.us = h.us + 68 ∧ (∀ c, h3.tag c = if c = p + 2 then 20 else h1.tag c) ∧ (∀ c, h3.len c = if c = p + 2 then 34 else h1.len c) := by
    rw [g3, g2]; exact ⟨a1.1, fun c k => by show (if c = p ∧ k = 2 then p1 else h1.r c k) = _; rw [e1, hp, a1.2.1], by rw [xn_al, xn_wr, a1.2.2.1]; omega, by rw [xs_al, xs_wr, a1.2.2.2.1]; omega, fun c => by rw [xt_al, xn_wr, xt_wr, a1.2.2.1], fun c => by rw [xl_al, xn_wr, xl_wr, a1.2.2.1]⟩
  have e2' : p2 = p + 2 := by rw [e2, g2, xn_wr]; exact a1.2.2.1
  clear g3 g2 e2
  refine ⟨by rw [a3.2.2.2.2.1, if_neg (by omega), a1.2.2.2.2.1, if_neg (by omega)]; exact tp, ?_⟩
  intro h4 g4 p3 e3 h5 g5
  have a5 : h5.i = h.i ∧ (∀ c k, h5.r c k = if c = p ∧ k = 3 then p + 2 else h3.r c k) ∧ h5.nx = p + 4 ∧ h5.us = h.us + 85 ∧ (∀ c, h5.tag c = if c = p + 3 then 22 else h3.tag c) ∧ (∀ c, h5.len c = if c = p + 3 then 17 else h3.len c) := by
    rw [g5, g4]; exact ⟨a3.1, fun c k => by show (if c = p ∧ k = 3 then p2 else h3.r c k) = _; rw [e2'], by rw [xn_al, xn_wr, a3.2.2.1]; omega, by rw [xs_al, xs_wr, a3.2.2.2.1]; omega, fun c => by rw [xt_al, xn_wr, xt_wr, a3.2.2.1], fun c => by rw [xl_al, xn_wr, xl_wr, a3.2.2.1]⟩
  have e3' : p3 = p + 3 := by rw [e3, g4, xn_wr]; exact a3.2.2.1
  clear g5 g4 e3
  refine ⟨by rw [a5.2.2.2.2.1, if_neg (by omega), a3.2.2.2.2.1, if_neg (by omega), a1.2.2.2.2.1, if_neg (by omega)]; exact tp, ?_⟩
  intro h6 g6 p4 e4 h7 g7
  have a7 : h7.i = h.i ∧ (∀ c k, h7.r c k = if c = p ∧ k = 4 then p + 3 else h5.r c k) ∧ h7.nx = p + 5 ∧ h7.us = h.us + 102 ∧ (∀ c, h7.tag c = if c = p + 4 then 22 else h5.tag c) ∧ (∀ c, h7.len c = if c = p + 4 then 17 else h5.len c) := by
    rw [g7, g6]; exact ⟨a5.1, fun c k => by show (if c = p ∧ k = 4 then p3 else h5.r c k) = _; rw [e3'], by rw [xn_al, xn_wr, a5.2.2.1]; omega, by rw [xs_al, xs_wr, a5.2.2.2.1]; omega, fun c => by rw [xt_al, xn_wr, xt_wr, a5.2.2.1], fun c => by rw [xl_al, xn_wr, xl_wr, a5.2.2.1]⟩
  have e4' : p4 = p + 4 := by rw [e4, g6, xn_wr]; exact a5.2.2.1
  clear g7 g6 e4
  have tg : ∀ c, h7.tag c = if c = p + 4 then 22 else if c = p + 3 then 22 else if c = p + 2 then 20 else if c = p + 1 then 20 else h.tag c := fun c => by rw [a7.2.2.2.2.1, a5.2.2.2.2.1, a3.2.2.2.2.1, a1.2.2.2.2.1]
  have ln : ∀ c, h7.len c = if c = p + 4 then 17 else if c = p + 3 then 17 else if c = p + 2 then 34 else if c = p + 1 then 34 else h.len c := fun c => by rw [a7.2.2.2.2.2, a5.2.2.2.2.2, a3.2.2.2.2.2, a1.2.2.2.2.2]
  have t7 : h7.tag p = 1 := by rw [tg, if_neg (by omega), if_neg (by omega), if_neg (by omega), if_neg (by omega)]; exact tp
  refine ⟨t7, ?_⟩
  intro h8 g8
  refine ⟨by rw [g8]; exact t7, ?_⟩
  intro h9 g9
  refine ⟨by rw [g9, g8]; exact t7, ?_⟩
  intro h10 g10
  refine ⟨by rw [g10, g9, g8]; exact t7, ?_⟩
  intro h11 g11
  have b11 : (∀ c k, h11.i c k = if c = p ∧ k = 1 then m else if c = p ∧ k = 0 then s else if c = p ∧ k = 6 then 0 else h.i c k) ∧ (∀ c k, h11.r c k = if c = p ∧ k = 5 then p + 4 else if c = p ∧ k = 4 then p + 3 else if c = p ∧ k = 3 then p + 2 else if c = p ∧ k = 2 then p + 1 else h.r c k) ∧ h11.nx = p + 5 ∧ h11.us = h.us + 102 ∧ h11.tag = h7.tag ∧ h11.len = h7.len := by
    rw [g11, g10, g9, g8]
    refine ⟨fun c k => by rw [xi_wi, xi_wi, xi_wi, xi_wr, a7.1], fun c k => ?_, a7.2.2.1, a7.2.2.2.1, rfl, rfl⟩
    show (if c = p ∧ k = 5 then p4 else h7.r c k) = _
    rw [e4', a7.2.1, a5.2.1, a3.2.1]
  clear g11 g10 g9 g8
  obtain ⟨i11, r11, n11, u11, t11, l11⟩ := b11
  have S : FSh h11 p := by
    unfold FSh
    rw [t11, l11]
    refine ⟨t7, ?_, ?_, ?_, ?_, ?_, ?_, ?_, ?_, ?_, ?_, ?_, ?_⟩
    · rw [r11, if_neg (by omega), if_neg (by omega), if_neg (by omega), if_pos (by omega)]
    · rw [r11, if_neg (by omega), if_neg (by omega), if_pos (by omega)]
    · rw [r11, if_neg (by omega), if_pos (by omega)]
    · rw [r11, if_pos (by omega)]
    · rw [tg, if_neg (by omega), if_neg (by omega), if_neg (by omega), if_pos rfl]
    · rw [tg, if_neg (by omega), if_neg (by omega), if_pos rfl]
    · rw [tg, if_neg (by omega), if_pos rfl]
    · rw [tg, if_pos rfl]
    · rw [ln, if_neg (by omega), if_neg (by omega), if_neg (by omega), if_pos rfl]
    · rw [ln, if_neg (by omega), if_neg (by omega), if_pos rfl]
    · rw [ln, if_neg (by omega), if_pos rfl]
    · rw [ln, if_pos rfl]
  refine ⟨S.1, ?_⟩
  rw [S.2.1]
  apply L_Arrays_fill
  refine ⟨S.2.2.2.2.2.1, ?_⟩
  intro x1 ex
  subst ex
  have l34 := S.2.2.2.2.2.2.2.2.2.1
  refine c_fill_5 34 h11 0 S.2.2.2.2.2.1 (by omega) (by decide) (by rw [l34]; rfl) (fun h12 F12 q1 q2 => ?_)
  have S12 := FSh_2 F12.1 S
  have z : ∀ c k, c ≠ p + 1 → h12.i c k = h11.i c k := fun c k hc => F12.2 c k (by rw [List.mem_singleton]; exact hc) List.not_mem_nil
  have zz : ∀ c k, p + 1 ≤ c → h11.i c k = 0 := fun c k hc => by rw [i11, if_neg (by omega), if_neg (by omega), if_neg (by omega)]; exact (new c k (by omega)).1
  have v0 : h12.i p 0 = s := by rw [z _ _ (by omega), i11, if_neg (by omega), if_pos ⟨rfl, rfl⟩]
  have v1 : h12.i p 1 = m := by rw [z _ _ (by omega), i11, if_pos ⟨rfl, rfl⟩]
  have v6 : h12.i p 6 = 0 := by rw [z _ _ (by omega), i11, if_neg (by omega), if_neg (by omega), if_pos ⟨rfl, rfl⟩]
  have v3 : ∀ c, h12.i (p + 3) c = 0 := fun c => by rw [z _ _ (by omega)]; exact zz _ _ (by omega)
  have v4 : ∀ c, h12.i (p + 4) c = 0 := fun c => by rw [z _ _ (by omega)]; exact zz _ _ (by omega)
  have vt : ∀ c, 0 ≤ c → c ≤ 16 → h12.i (p + 1) (2 * c) = -1 ∧ h12.i (p + 1) (2 * c + 1) = -1 ∧ h12.i (p + 2) (2 * c) = 0 ∧ h12.i (p + 2) (2 * c + 1) = 0 := fun c c0 c1 => ⟨q1 _ (by omega) (by omega), q1 _ (by omega) (by omega), by rw [z _ _ (by omega)]; exact zz _ _ (by omega), by rw [z _ _ (by omega)]; exact zz _ _ (by omega)⟩
  -- behind it all
  have fin : ∀ h', Fr [p + 1, p + 2, p + 3, p + 4] [(p, 6)] h12 h' → TabOk h' p s m x y dg → Q h' := fun h' F T => by
    have fs := fr_same (Fr_trans (Fr_mono F12 (m := [p + 1, p + 2, p + 3, p + 4]) (m2 := [(p, 6)]) (fun c m => by rw [List.mem_singleton] at m; rw [m]; exact List.mem_cons_self) (fun c m => absurd m List.not_mem_nil)) F)
    have F2 := Fr_trans (Fr_mono F12 (m := [p + 1, p + 2, p + 3, p + 4]) (m2 := [(p, 6)]) (fun c m => by rw [List.mem_singleton] at m; rw [m]; exact List.mem_cons_self) (fun c m => absurd m List.not_mem_nil)) F
    have out : ∀ c k, (c < p ∨ p + 5 ≤ c) → h'.i c k = h.i c k ∧ h'.r c k = h.r c k := fun c k hc => by
      rw [F2.2 c k (by simp only [List.mem_cons, List.not_mem_nil, or_false]; omega) (by simp only [List.mem_cons, List.not_mem_nil, or_false, Prod.mk.injEq]; omega), fs.1, i11, r11, if_neg (by omega), if_neg (by omega), if_neg (by omega), if_neg (by omega), if_neg (by omega), if_neg (by omega), if_neg (by omega)]
      exact ⟨rfl, rfl⟩
    refine H h' (fun c hc => ?_) (fun c k hc => out c k (Or.inl hc)) (fun c k hc => ?_) (by rw [fs.2.2.2.1]; exact n11) (by rw [fs.2.2.2.2]; exact u11) T
    · rw [fs.2.1, fs.2.2.1, t11, l11, tg, ln, if_neg (by omega), if_neg (by omega), if_neg (by omega), if_neg (by omega), if_neg (by omega), if_neg (by omega), if_neg (by omega), if_neg (by omega)]
      exact ⟨rfl, rfl⟩
    · have := out c k (Or.inr hc)
      rw [this.1, this.2]
      exact new c k (by omega)
  rcases hs with ⟨h4', m3, x0, xy, y3⟩ | ⟨s0, s3, m4, y0, hx, hr, HR⟩
  · subst h4'
    rw [if_pos rfl]
    refine ⟨S12.1, ?_⟩
    apply L_Foot_buildFree
    refine ⟨S12.1, ?_⟩
    refine c_addC (d := d) S12 (by decide) (by decide) (by decide) (by decide) (fun h13 a ea F13 j1 j2 j6 => ?_)
    have vt16 := vt 16 (by decide) (by decide)
    rw [vt16.1, if_pos rfl] at ea
    have S13 := FSh_2 F13.1 S12
    have sl : ∀ k, k ≠ 6 → h13.i p k = h12.i p k := fun k hk => F13.2 p k (by simp only [List.mem_cons, List.not_mem_nil, or_false]; omega) (by simp only [List.mem_cons, List.not_mem_nil, or_false, Prod.mk.injEq]; exact fun t => hk t.2)
    have rr : ∀ c k, c = p + 3 ∨ c = p + 4 → h13.i c k = h12.i c k := fun c k hc => F13.2 c k (by simp only [List.mem_cons, List.not_mem_nil, or_false]; omega) (by simp only [List.mem_cons, List.not_mem_nil, or_false, Prod.mk.injEq]; omega)
    have P13 : PF h13 p m x y dg 0 0 := by
      refine ⟨S13, by rw [sl 0 (by decide)]; exact v0, by rw [sl 1 (by decide)]; exact v1, fun c c0 c1 => ?_, fun c c0 c1 => by rw [rr _ _ (Or.inl rfl)]; exact v3 c, fun c c0 c1 => by rw [rr _ _ (Or.inr rfl), v4, if_neg (by omega)], ?_⟩
      · rw [j1, j1, j2, j2]
        by_cases w : c = 16
        · rw [w, if_pos (by omega), if_pos (by omega), if_neg (by omega), if_pos (by omega), if_neg (by omega)]
          have e : fch 4 m x y dg 16 = [(1, 0)] := by unfold fch; rw [if_pos rfl, if_pos rfl]
          rw [e]
          exact ⟨rfl, vt16.2.1, rfl, vt16.2.2.2⟩
        · rw [if_neg (show ¬ Af 0 0 c by omega), if_neg (by omega), if_neg (by omega), if_neg (by omega), if_neg (by omega)]
          exact vt c c0 c1
      · rw [j6, v6, if_pos (by decide)]
        unfold Kf
        rw [if_neg (by omega), if_pos (by omega)]; omega
    apply L_Foot_buildFree_7
    refine ⟨S13.1, ?_⟩
    rw [P13.2.2.1, if_pos (by omega)]
    have F13' : Fr [p + 1, p + 2, p + 3, p + 4] [(p, 6)] h12 h13 := Fr_mono F13 (fun c m => by simp only [List.mem_cons, List.not_mem_nil, or_false] at m ⊢; omega) (fun c m => m)
    exact c_bf_13 (Q := Q) (d := d) p0 m1 m3 x0 xy y3 (fun h' F P => fin h' F (tab_F m1 m3 P)) 15 h13 0 0 _ (by omega) (by decide) (by omega) (by decide) (by omega) F13' P13
  · rw [if_neg (by omega)]
    subst y0
    refine ⟨S12.1, ?_⟩
    apply L_Foot_buildPlaces
    refine ⟨S12.1, ?_⟩
    intro x1 ex
    rw [v1, xw_id (by omega) (by omega)] at ex
    subst ex
    obtain ⟨N, hN⟩ : ∃ N : Nat, m = (N : Int) := ⟨m.toNat, by omega⟩
    have PM : PJ h12 p s m x dg m := by
      refine ⟨S12, v0, v1, fun c c0 c1 => ?_, fun c c0 c1 => by rw [v3, if_neg (fun t => by have := hx t.2.1; omega)], fun c c0 c1 => by rw [v4, if_neg (by omega)], by rw [if_pos rfl]; exact v6⟩
      have e : (if Aj m c then fch s m x 0 dg c else []) = [] := by
        by_cases w : Aj m c
        · rw [if_pos w]
          unfold fch
          rw [if_neg (by omega), if_neg (by omega), if_neg (by omega), if_neg (by omega)]
        · rw [if_neg w]
      rw [e]; exact vt c c0 c1
    have := c_bp_7 (Q := Q) (d := d) (u1 := (0, row)) p0 s0 s3 m4 hx HR N h12 (9, 0) (9, 0) (9, 0) (9, 0) (by omega) (by rw [← hN]; exact PM) (fun h' F P => fin h' F (tab_P (by omega) m1 hx P))
    rw [← hN, hr] at this
    exact this
end FI
