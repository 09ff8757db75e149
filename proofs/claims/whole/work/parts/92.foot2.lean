/-! foot: rows of places -/
abbrev Aj (j c : Int) : Prop := (c = 16 ∧ j ≤ 0) ∨ (c % 4 = 1 ∧ j ≤ c / 4 + 1) ∨ (c % 4 = 0 ∧ c ≠ 16 ∧ j ≤ c / 4)
section FP
variable {d : Nat} {p s m x : Int} {dg R : Int → Int}
theorem fch_b {k c : Int} (s4 : s ≠ 4) (k0 : 0 ≤ k) (k1 : k < m) (m4 : m ≤ 4) (hc : c = if k = 0 then 16 else 4 * k - 3) : fch s m x 0 dg c = fopen s m dg k := by
  unfold fch
  rw [if_neg s4]
  by_cases z : k = 0
  · rw [if_pos z] at hc
    rw [if_pos hc, z]
  · rw [if_neg z] at hc
    rw [if_neg (by omega), if_pos (by omega), show c / 4 + 1 = k by omega]
theorem fch_m {k : Int} (s4 : s ≠ 4) (k0 : 0 ≤ k) (k1 : k < m) (m4 : m ≤ 4) : fch s m x 0 dg (4 * k) = if fd s m dg k = 4 then [(2, 4 * k + 1)] else [] := by
  unfold fch
  rw [if_neg s4, if_neg (by omega), if_neg (by omega), show 4 * k / 4 = k by omega]
  by_cases z : fd s m dg k = 4
  · rw [if_pos z, if_pos ⟨by omega, k1, z⟩]
  · rw [if_neg z, if_neg (fun y => z y.2.2)]
theorem fch_o {c : Int} (s4 : s ≠ 4) (h : ¬ Aj 0 c) (c0 : 0 ≤ c) (c1 : c ≤ 16) : fch s m x 0 dg c = [] := by
  unfold Aj at h
  unfold fch
  rw [if_neg s4, if_neg (by omega), if_neg (by omega), if_neg (by omega)]
/-- what stands when the places from j on have been filled -/
def PJ (h : xH) (p s m x : Int) (dg : Int → Int) (j : Int) : Prop := FSh h p ∧ h.i p 0 = s ∧ h.i p 1 = m ∧ FTJ h p s m x 0 dg (Aj j) ∧ (∀ c, 0 ≤ c → c ≤ 16 → h.i (p + 3) c = if j ≤ x ∧ s = 3 ∧ c = 4 * (x - 1) + 1 then 1 else 0) ∧ (∀ c, 0 ≤ c → c ≤ 16 → h.i (p + 4) c = if j ≤ m - 1 ∧ c = 4 * (m - 1) + 1 then 1 else 0) ∧ h.i p 6 = if j = m then 0 else 4 * (m - 1) + 2
/-- one more code is filled: two codes change -/
theorem FTJ_up {h h' : xH} {j k b0 : Int} (s4 : s ≠ 4) (hk : j = k + 1) (k0 : 0 ≤ k) (k1 : k < m) (m4 : m ≤ 4) (hb : b0 = if k = 0 then 16 else 4 * k - 3) (O : FTJ h p s m x 0 dg (Aj j)) (same : ∀ t, t ≠ 2 * b0 → t ≠ 2 * b0 + 1 → t ≠ 8 * k → h'.i (p + 1) t = h.i (p + 1) t ∧ h'.i (p + 2) t = h.i (p + 2) t) (nb : h'.i (p + 1) (2 * b0) = ((fopen s m dg k).getD 0 (-1, 0)).1 ∧ h'.i (p + 1) (2 * b0 + 1) = ((fopen s m dg k).getD 1 (-1, 0)).1 ∧ h'.i (p + 2) (2 * b0) = ((fopen s m dg k).getD 0 (-1, 0)).2 ∧ h'.i (p + 2) (2 * b0 + 1) = ((fopen s m dg k).getD 1 (-1, 0)).2) (nm : h'.i (p + 1) (8 * k) = (if fd s m dg k = 4 then 2 else -1) ∧ h'.i (p + 2) (8 * k) = (if fd s m dg k = 4 then 4 * k + 1 else 0)) : FTJ h' p s m x 0 dg (Aj k) := by
  intro c c0 c1
  by_cases cb : c = b0
  · rw [if_pos (by unfold Aj; rw [cb, hb]; by_cases z : k = 0
                   · rw [if_pos z]; omega
                   · rw [if_neg z]; omega), fch_b s4 k0 k1 m4 (cb.trans hb), cb]
    exact nb
  · by_cases cm : c = 4 * k
    · have o := O c c0 c1
      rw [if_neg (by unfold Aj; omega)] at o
      rw [if_pos (by unfold Aj; omega), cm, fch_m s4 k0 k1 m4, show 2 * (4 * k) = 8 * k by omega]
      have o2 := o.2.1
      have o4 := o.2.2.2
      rw [cm, show 2 * (4 * k) = 8 * k by omega] at o2 o4
      have sm := same (8 * k + 1) (by
        by_cases z : k = 0
        · rw [if_pos z] at hb; omega
        · rw [if_neg z] at hb; omega) (by
        by_cases z : k = 0
        · rw [if_pos z] at hb; omega
        · rw [if_neg z] at hb; omega) (by omega)
      rw [nm.1, nm.2, sm.1, sm.2, o2, o4]
      by_cases z : fd s m dg k = 4
      · rw [if_pos z, if_pos z, if_pos z]; exact ⟨rfl, rfl, rfl, rfl⟩
      · rw [if_neg z, if_neg z, if_neg z]; exact ⟨rfl, rfl, rfl, rfl⟩
    · have o := O c c0 c1
      have a1 := same (2 * c) (by omega) (by omega) (by omega)
      have a2 := same (2 * c + 1) (by omega) (by omega) (by omega)
      rw [a1.1, a1.2, a2.1, a2.2]
      by_cases z : Aj j c
      · rw [if_pos z] at o
        rw [if_pos (by unfold Aj at z ⊢; omega)]
        exact o
      · rw [if_neg z] at o
        rw [if_neg (by
          unfold Aj at z ⊢
          by_cases y : k = 0
          · rw [if_pos y] at hb; omega
          · rw [if_neg y] at hb; omega)]
        exact o
theorem c_bp_7 {Q : xH → Prop} {u1 : xV} (p0 : 130 ≤ p) (s0 : 0 ≤ s) (s3 : s ≤ 3) (m4 : m ≤ 4) (hx : s = 3 → 1 ≤ x ∧ x < m) (HR : ∀ k, 0 ≤ k → k < m → 0 ≤ R k ∧ R k ≤ 4444 ∧ dg k = R k % 10 ∧ 1 ≤ dg k ∧ dg k ≤ 4 ∧ R (k - 1) = R k / 10) : ∀ (n : Nat) (h : xH) (u5 u6 u7 u8 : xV), (n : Int) ≤ m → PJ h p s m x dg n → (∀ h', Fr [p + 1, p + 2, p + 3, p + 4] [(p, 6)] h h' → PJ h' p s m x dg 0 → Q h') → xT (d + 1) M_Foot_buildPlaces 7 [(1, p), u1, (0, x), (0, R ((n : Int) - 1)), (0, (n : Int) - 1), u5, u6, u7, u8] [] h (xqv Q) := by
  intro n
  induction n with
  | zero =>
    intro h u5 u6 u7 u8 hn P H
    apply L_Foot_buildPlaces_7
    rw [if_pos (by decide)]
    exact H h (Fr_refl _ _ _) P
  | succ n ih =>
    intro h u5 u6 u7 u8 hn P H
    obtain ⟨S, P0, P1, O, As, En, Co⟩ := P
    have SS := S
    obtain ⟨s1, s2, s3', s4', s5, s6, s7, s8, s9, s10, s11, s12, s13⟩ := S
    obtain ⟨r0, r1, r2, r3, r4, r5⟩ := HR n (by omega) (by push_cast at hn; omega)
    obtain ⟨b0, hb⟩ : ∃ b0 : Int, b0 = if (n : Int) = 0 then 16 else 4 * (n : Int) - 3 := ⟨_, rfl⟩
    have hb' : ((n : Int) = 0 ∧ b0 = 16) ∨ ((n : Int) ≠ 0 ∧ b0 = 4 * (n : Int) - 3) := by
      by_cases z : (n : Int) = 0
      · rw [if_pos z] at hb; exact Or.inl ⟨z, hb⟩
      · rw [if_neg z] at hb; exact Or.inr ⟨z, hb⟩
    have xm : xrem (R (n : Int)) 10 = dg n := by rw [r2]; exact xrem_eq r0 (by omega) (by decide) (by decide)
    have xd : xdiv (R (n : Int)) 10 = R ((n : Int) - 1) := by rw [r5]; exact xdiv_eq r0 (by omega) (by decide) (by decide)
    -- from the row of asks on
    have g73 : ∀ (h1 : xH) (D ask : Int) (u5 : xV), D = fd s m dg n → (ask = if (n : Int) = x ∧ s = 3 then 1 else 0) → h1.2 = h.2 → Fr [p + 1, p + 2, p + 3, p + 4] [(p, 6)] h h1 → h1.i (p + 1) = h.i (p + 1) → h1.i (p + 2) = h.i (p + 2) → h1.i (p + 3) = h.i (p + 3) → h1.i p = h.i p → (∀ c, 0 ≤ c → c ≤ 16 → h1.i (p + 4) c = if (n : Int) ≤ m - 1 ∧ c = 4 * (m - 1) + 1 then 1 else 0) → xT (d + 1) M_Foot_buildPlaces 73 [(1, p), u1, (0, x), (0, R ((n : Int) - 1)), (0, (n : Int)), u5, (0, D), (0, 4 * (n : Int) + 1), (0, b0)] [(0, ask), (0, b0), (1, p + 3)] h1 (xqv Q) := by
      intro h1 D ask u5 hD hask e2 F1 q1 q2 q3 q0 q4
      have S1 : FSh h1 p := FSh_2 e2 SS
      apply L_Foot_buildPlaces_73
      refine ⟨⟨S1.2.2.2.2.2.2.2.1, by omega, by have := S1.2.2.2.2.2.2.2.2.2.2.2.1; omega⟩, ?_⟩
      intro h2 e2'
      have am : ask % 2 = ask := by rw [hask]; by_cases z : (n : Int) = x ∧ s = 3
                                    · rw [if_pos z]; decide
                                    · rw [if_neg z]; decide
      rw [am] at e2'
      have S2 : FSh h2 p := FSh_2 (h := h1) (by rw [e2']; rfl) S1
      have F2 : Fr [p + 1, p + 2, p + 3, p + 4] [(p, 6)] h1 h2 := by rw [e2']; exact Fr_cell (Fr_refl _ _ _) _ _ (by simp only [List.mem_cons, true_or, or_true])
      have z1 : h2.i (p + 1) = h.i (p + 1) := by rw [e2', ← q1]; funext k; rw [xi_wi, if_neg (by omega)]
      have z2 : h2.i (p + 2) = h.i (p + 2) := by rw [e2', ← q2]; funext k; rw [xi_wi, if_neg (by omega)]
      have z0 : h2.i p = h.i p := by rw [e2', ← q0]; funext k; rw [xi_wi, if_neg (by omega)]
      have z4 : h2.i (p + 4) = h1.i (p + 4) := by rw [e2']; funext k; rw [xi_wi, if_neg (by omega)]
      have z3 : ∀ c, 0 ≤ c → c ≤ 16 → h2.i (p + 3) c = if (n : Int) ≤ x ∧ s = 3 ∧ c = 4 * (x - 1) + 1 then 1 else 0 := fun c c0 c1 => by
        have o := As c c0 c1
        rw [e2', xi_wi, q3, o, hask]
        push_cast
        by_cases y : s = 3
        · have hx' := hx y
          by_cases w : c = b0
          · rw [if_pos ⟨rfl, w⟩]
            by_cases v : (n : Int) = x
            · rw [if_pos ⟨v, y⟩, if_pos ⟨by omega, y, by omega⟩]
            · rw [if_neg (fun t => v t.1), if_neg (fun t => by have := t.1; have := t.2.2; omega)]
          · rw [if_neg (fun t => w t.2)]
            by_cases v : (n : Int) + 1 ≤ x ∧ s = 3 ∧ c = 4 * (x - 1) + 1
            · rw [if_pos v, if_pos ⟨by have := v.1; omega, v.2⟩]
            · rw [if_neg v, if_neg (fun t => v ⟨by have := t.1; have := t.2.2; omega, t.2⟩)]
        · rw [if_neg (c := (n : Int) = x ∧ s = 3) (fun t => y t.2), if_neg (c := (n : Int) + 1 ≤ x ∧ s = 3 ∧ c = 4 * (x - 1) + 1) (fun t => y t.2.1), if_neg (c := (n : Int) ≤ x ∧ s = 3 ∧ c = 4 * (x - 1) + 1) (fun t => y t.2.1)]
          by_cases w : p + 3 = p + 3 ∧ c = b0
          · rw [if_pos w]
          · rw [if_neg w]
      clear e2'
      -- behind the choices
      have fin : ∀ h3, Fr [p + 1, p + 2] [(p, 6)] h2 h3 → FTJ h3 p s m x 0 dg (Aj n) → h3.i p 6 = 4 * (m - 1) + 2 → ∀ x1, x1 = xw ((n : Int) + -1) → ∀ u8 u7 u6 u5 : xV, xT (d + 1) M_Foot_buildPlaces 7 [(1, p), u1, (0, x), (0, R ((n : Int) - 1)), (0, x1), u5, u6, u7, u8] [] h3 (xqv Q) := fun h3 F3 O3 C3 x1 ex u8 u7 u6 u5 => by
        rw [xw_id (by omega) (by omega), show (n : Int) + -1 = (n : Int) - 1 by omega] at ex
        subst ex
        have rw3 : ∀ c, c ≠ p + 1 → c ≠ p + 2 → c ≠ p → h3.i c = h2.i c := fun c a b e => Fr_row F3 (by simp only [List.mem_cons, List.not_mem_nil, or_false]; omega) (fun y m t => by simp only [List.mem_cons, List.not_mem_nil, or_false] at m; rw [m] at t; exact e t.symm)
        have s0' : ∀ k, k ≠ 6 → h3.i p k = h2.i p k := fun k hk => F3.2 p k (by simp only [List.mem_cons, List.not_mem_nil, or_false]; omega) (by simp only [List.mem_cons, List.not_mem_nil, or_false, Prod.mk.injEq]; exact fun t => hk t.2)
        refine ih h3 _ _ _ _ (by push_cast at hn; omega) ⟨FSh_2 F3.1 S2, by rw [s0' 0 (by decide), z0]; exact P0, by rw [s0' 1 (by decide), z0]; exact P1, O3, fun c c0 c1 => by rw [rw3 _ (by omega) (by omega) (by omega)]; exact z3 c c0 c1, fun c c0 c1 => by rw [rw3 _ (by omega) (by omega) (by omega), z4]; exact q4 c c0 c1, by rw [C3, if_neg (by push_cast at hn; omega)]⟩ (fun h' F' P' => H h' (Fr_trans F1 (Fr_trans F2 (Fr_trans (Fr_mono F3 (fun c m => by simp only [List.mem_cons, List.not_mem_nil, or_false] at m ⊢; omega) (fun c m => m)) F'))) P')
      have ob := O b0 (by omega) (by omega)
      have om := O (4 * (n : Int)) (by omega) (by push_cast at hn; omega)
      rw [if_neg (by unfold Aj; push_cast; omega)] at ob om
      rw [show 2 * (4 * (n : Int)) = 8 * (n : Int) by omega] at om
      rw [← z1, ← z2] at ob om
      have ob : h2.i (p + 1) (2 * b0) = -1 ∧ h2.i (p + 1) (2 * b0 + 1) = -1 ∧ h2.i (p + 2) (2 * b0) = 0 ∧ h2.i (p + 2) (2 * b0 + 1) = 0 := ob
      have om : h2.i (p + 1) (8 * (n : Int)) = -1 ∧ h2.i (p + 1) (8 * (n : Int) + 1) = -1 ∧ h2.i (p + 2) (8 * (n : Int)) = 0 ∧ h2.i (p + 2) (8 * (n : Int) + 1) = 0 := om
      have cod : h2.i p 6 = if (n : Int) + 1 = m then 0 else 4 * (m - 1) + 2 := by rw [z0, Co]; push_cast; rfl
      have cod' : (h2.i p 6 = 0 ∧ (n : Int) + 1 = m) ∨ (h2.i p 6 = 4 * (m - 1) + 2) := by
        by_cases z : (n : Int) + 1 = m
        · rw [if_pos z] at cod; exact Or.inl ⟨cod, z⟩
        · rw [if_neg z] at cod; exact Or.inr cod
      have O2 : FTJ h2 p s m x 0 dg (Aj ((n : Int) + 1)) := by
        have : ((n + 1 : Nat) : Int) = (n : Int) + 1 := by push_cast; rfl
        rw [this] at O
        unfold FTJ at O ⊢
        rw [z1, z2]; exact O
      have n4 : (n : Int) < m := by push_cast at hn; omega
      by_cases D4 : D = 4
      · rw [if_pos D4]
        rw [D4] at hD
        refine ⟨S2.1, ?_⟩
        rw [xw_id (a := 4 * (n : Int) + 1 - 1) (by omega) (by omega), show 4 * (n : Int) + 1 - 1 = 4 * (n : Int) by omega]
        refine c_addC S2 (by omega) (by omega) (by omega) (by omega) (fun h3 a1 ea1 F3 i1 j1 k1 => ?_)
        rw [if_pos ob.1] at ea1
        refine ⟨(FSh_2 F3.1 S2).1, ?_⟩
        refine c_addC (FSh_2 F3.1 S2) (by omega) (by omega) (by omega) (by omega) (fun h4 a2 ea2 F4 i2 j2 k2 => ?_)
        rw [i1, if_pos ea1.symm, if_neg (by decide)] at ea2
        have S4 := FSh_2 F4.1 (FSh_2 F3.1 S2)
        refine ⟨S4.1, ?_⟩
        refine c_addC S4 (by omega) (by omega) (by omega) (by omega) (fun h5 a3 ea3 F5 i3 j3 k3 => ?_)
        have v8 : h4.i (p + 1) (8 * (n : Int)) = -1 := by rw [i2, if_neg (by omega), i1, if_neg (by omega)]; exact om.1
        rw [show 2 * (4 * (n : Int)) = 8 * (n : Int) by omega, v8, if_pos rfl] at ea3
        have fo : fopen s m dg n = [(1, 4 * (n : Int) + 1), (2, 4 * (n : Int))] := by unfold fopen; rw [if_pos hD.symm]
        intro x1 ex1
        refine fin h5 (Fr_trans F3 (Fr_trans F4 F5)) (FTJ_up (j := (n : Int) + 1) (b0 := b0) (by omega) rfl (by omega) n4 m4 hb O2 (fun t t1 t2 t3 => ?_) ?_ ?_) ?_ x1 ex1 _ _ _ _
        · rw [i3, if_neg (by omega), i2, if_neg (by omega), i1, if_neg (by omega), j3, if_neg (by omega), j2, if_neg (by omega), j1, if_neg (by omega)]
          exact ⟨rfl, rfl⟩
        · rw [fo]
          refine ⟨?_, ?_, ?_, ?_⟩
          · rw [i3, if_neg (by omega), i2, if_neg (by omega), i1, if_pos ea1.symm]; rfl
          · rw [i3, if_neg (by omega), i2, if_pos ea2.symm]; rfl
          · rw [j3, if_neg (by omega), j2, if_neg (by omega), j1, if_pos ea1.symm]; rfl
          · rw [j3, if_neg (by omega), j2, if_pos ea2.symm]; rfl
        · rw [i3, if_pos ea3.symm, j3, if_pos ea3.symm, if_pos hD.symm, if_pos hD.symm]
          exact ⟨rfl, rfl⟩
        · rw [k3, k2, k1]
          have mx : ∀ a b : Int, (if a < b then b else a) = max a b := fun a b => by
            by_cases z : a < b
            · rw [if_pos z]; omega
            · rw [if_neg z]; omega
          rw [mx, mx, mx]
          omega
      · rw [if_neg D4]
        refine ⟨S2.1, ?_⟩
        refine c_addC S2 (by omega) (by omega) (by omega) (by omega) (fun h3 a1 ea1 F3 i1 j1 k1 => ?_)
        rw [if_pos ob.1] at ea1
        have hD4 : ¬ fd s m dg n = 4 := by rw [← hD]; exact D4
        have fo : fopen s m dg n = [(D, 4 * (n : Int) + 1)] := by unfold fopen; rw [if_neg hD4, hD]
        intro x1 ex1
        refine fin h3 F3 (FTJ_up (j := (n : Int) + 1) (b0 := b0) (by omega) rfl (by omega) n4 m4 hb O2 (fun t t1 t2 t3 => ?_) ?_ ?_) ?_ x1 ex1 _ _ _ _
        · rw [i1, if_neg (by omega), j1, if_neg (by omega)]
          exact ⟨rfl, rfl⟩
        · rw [fo]
          refine ⟨?_, ?_, ?_, ?_⟩
          · rw [i1, if_pos ea1.symm]; rfl
          · rw [i1, if_neg (by omega), ob.2.1]; rfl
          · rw [j1, if_pos ea1.symm]; rfl
          · rw [j1, if_neg (by omega), ob.2.2.2]; rfl
        · rw [if_neg hD4, if_neg hD4, i1, j1, if_neg (show ¬ 8 * (n : Int) = a1 by omega), if_neg (show ¬ 8 * (n : Int) = a1 by omega)]
          exact ⟨om.1, om.2.2.1⟩
        · rw [k1]
          have mx : ∀ a b : Int, (if a < b then b else a) = max a b := fun a b => by
            by_cases z : a < b
            · rw [if_pos z]; omega
            · rw [if_neg z]; omega
          rw [mx]
          omega
    -- from the digit on
    have g30 : ∀ (l5 : Int) (u6 u7 u8 : xV), (l5 = if (n : Int) = m - 1 then 1 else 0) → xT (d + 1) M_Foot_buildPlaces 30 [(1, p), u1, (0, x), (0, R (n : Int)), (0, (n : Int)), (0, l5), u6, u7, u8] [(0, fd s m dg n)] h (xqv Q) := by
      intro l5 u6 u7 u8 hl
      apply L_Foot_buildPlaces_30
      intro x1 e1 x2 e2
      rw [xd] at e1
      rw [xw_id (a := (n : Int) * 4) (by omega) (by push_cast at hn; omega), xw_id (a := (n : Int) * 4 + 1) (by omega) (by push_cast at hn; omega), show (n : Int) * 4 + 1 = 4 * (n : Int) + 1 by omega] at e2
      subst e1 e2
      have lm : l5 % 2 = l5 := by rw [hl]; by_cases z : (n : Int) = m - 1
                                  · rw [if_pos z]; decide
                                  · rw [if_neg z]; decide
      rw [if_neg (by omega), if_pos (by push_cast at hn; omega), s5, s13, s9, lm]
      refine ⟨s1, ⟨rfl, by omega, by push_cast at hn; omega⟩, ?_⟩
      intro h1 e1
      have a2 : h1.2 = h.2 := by rw [e1]; rfl
      have F1 : Fr [p + 1, p + 2, p + 3, p + 4] [(p, 6)] h h1 := by rw [e1]; exact Fr_cell (Fr_refl _ _ _) _ _ (by simp only [List.mem_cons, true_or, or_true])
      have q : ∀ c, c ≠ p + 4 → h1.i c = h.i c := fun c hc => by rw [e1]; funext k; rw [xi_wi, if_neg (fun t => hc t.1)]
      have q4 : ∀ c, 0 ≤ c → c ≤ 16 → h1.i (p + 4) c = if (n : Int) ≤ m - 1 ∧ c = 4 * (m - 1) + 1 then 1 else 0 := fun c c0 c1 => by
        have o := En c c0 c1
        rw [e1, xi_wi, o, hl]
        push_cast at hn ⊢
        by_cases w : c = 4 * (n : Int) + 1
        · rw [if_pos ⟨rfl, w⟩]
          by_cases z : (n : Int) = m - 1
          · rw [if_pos z, if_pos ⟨by omega, by omega⟩]
          · rw [if_neg z, if_neg (fun t => by have := t.2; omega)]
        · rw [if_neg (fun t => w t.2)]
          by_cases z : (n : Int) + 1 ≤ m - 1 ∧ c = 4 * (m - 1) + 1
          · rw [if_pos z, if_pos ⟨by have := z.1; omega, z.2⟩]
          · rw [if_neg z, if_neg (fun t => z ⟨by have := t.1; have := t.2; omega, t.2⟩)]
      have r1' : h1.r p 4 = p + 3 := by rw [e1]; exact s4'
      have t1' : h1.tag p = 1 := by rw [e1]; exact s1
      have i0' : h1.i p 0 = s := by rw [q p (by omega)]; exact P0
      clear e1
      have go := fun (ask : Int) (hask : ask = if (n : Int) = x ∧ s = 3 then 1 else 0) => g73 h1 (fd s m dg n) ask (0, l5) rfl hask a2 F1 (q _ (by omega)) (q _ (by omega)) (q _ (by omega)) (q _ (by omega)) q4
      have asks : ∀ ask : Int, xT (d + 1) M_Foot_buildPlaces 73 [(1, p), u1, (0, x), (0, R ((n : Int) - 1)), (0, (n : Int)), (0, l5), (0, fd s m dg n), (0, 4 * (n : Int) + 1), (0, b0)] [(0, ask), (0, b0), (1, p + 3)] h1 (xqv Q) ↔ xT (d + 1) M_Foot_buildPlaces 73 [(1, p), u1, (0, x), (0, R ((n : Int) - 1)), (0, (n : Int)), (0, l5), (0, fd s m dg n), (0, 4 * (n : Int) + 1), (0, b0)] [(0, ask), (0, b0), (1, p + 3)] h1 (xqv Q) := fun _ => Iff.rfl
      by_cases z : (n : Int) = 0
      · rw [if_pos z, i0', r1']
        have eb : b0 = 16 := by omega
        rw [eb] at go
        refine ⟨t1', ?_⟩
        by_cases y : s = 3
        · rw [if_pos y]
          by_cases v : (n : Int) = x
          · rw [if_pos v]; exact go 1 (by rw [if_pos ⟨v, y⟩])
          · rw [if_neg v]; exact go 0 (by rw [if_neg (fun t => v t.1)])
        · rw [if_neg y]; exact go 0 (by rw [if_neg (fun t => y t.2)])
      · rw [if_neg z]
        intro x4 e4
        rw [xw_id (by omega) (by push_cast at hn; omega)] at e4
        have eb : b0 = x4 := by omega
        rw [eb] at go
        rw [i0', r1']
        refine ⟨t1', ?_⟩
        by_cases y : s = 3
        · rw [if_pos y]
          by_cases v : (n : Int) = x
          · rw [if_pos v]; exact go 1 (by rw [if_pos ⟨v, y⟩])
          · rw [if_neg v]; exact go 0 (by rw [if_neg (fun t => v t.1)])
        · rw [if_neg y]; exact go 0 (by rw [if_neg (fun t => y t.2)])
    rw [show ((n + 1 : Nat) : Int) - 1 = (n : Int) by push_cast; omega]
    apply L_Foot_buildPlaces_7
    rw [if_neg (by omega), P1, P0, xw_id (a := m - 1) (by push_cast at hn; omega) (by omega), xm]
    refine ⟨s1, ?_⟩
    by_cases z : (n : Int) = m - 1
    · rw [if_pos z]
      have g := fun u6 u7 u8 => g30 1 u6 u7 u8 (by rw [if_pos z])
      unfold fd at g
      by_cases y : s = 2
      · rw [if_pos y]
        rw [if_pos ⟨y, z⟩] at g
        exact g _ _ _
      · rw [if_neg y]
        rw [if_neg (fun t => y t.1)] at g
        exact g _ _ _
    · rw [if_neg z]
      have g := fun u6 u7 u8 => g30 0 u6 u7 u8 (by rw [if_neg z])
      unfold fd at g
      rw [if_neg (fun t => z t.2)] at g
      exact g _ _ _
end FP
