/-! foot: free feet -/
abbrev Af (st li c : Int) : Prop := c = 16 ∨ (c ≠ 16 ∧ (c / 4 < st ∨ (c / 4 = st ∧ c % 4 < li)))
def Kf (m x y st li : Int) : Int := if st + 1 < m ∧ x < li then 4 * (st + 1) + 1 else if st < m then 4 * st + min li y + 1 else 4 * (m - 1) + y + 1
def PF (h : xH) (p m x y : Int) (dg : Int → Int) (st li : Int) : Prop := FSh h p ∧ h.i p 0 = 4 ∧ h.i p 1 = m ∧ FTJ h p 4 m x y dg (Af st li) ∧ (∀ c, 0 ≤ c → c ≤ 16 → h.i (p + 3) c = 0) ∧ (∀ c, 0 ≤ c → c ≤ 16 → h.i (p + 4) c = if Af st li c ∧ c / 4 + 1 = m ∧ x ≤ c % 4 ∧ c % 4 ≤ y then 1 else 0) ∧ h.i p 6 = Kf m x y st li
section FF
variable {d : Nat} {p m x y : Int} {dg : Int → Int}
theorem fchF {st li : Int} (l0 : 0 ≤ li) (l3 : li ≤ 3) (ly : li ≤ y) (s0 : 0 ≤ st) (s1 : st < m) (m3 : m ≤ 3) : fch 4 m x y dg (4 * st + li) = (if li < y then [(2, 4 * st + li + 1)] else []) ++ (if x ≤ li ∧ st + 1 < m then [(1, 4 * (st + 1))] else []) := by
  unfold fch
  rw [if_pos rfl, if_neg (by omega), show (4 * st + li) / 4 = st by omega, show (4 * st + li) % 4 = li by omega, if_pos ⟨s1, ly⟩]
theorem FTJ_upF {h h' : xH} {st li : Int} (l0 : 0 ≤ li) (l3 : li ≤ 3) (s0 : 0 ≤ st) (s1 : st ≤ 2) (O : FTJ h p 4 m x y dg (Af st li)) (same : ∀ t, t ≠ 2 * (4 * st + li) → t ≠ 2 * (4 * st + li) + 1 → h'.i (p + 1) t = h.i (p + 1) t ∧ h'.i (p + 2) t = h.i (p + 2) t) (nb : h'.i (p + 1) (2 * (4 * st + li)) = ((fch 4 m x y dg (4 * st + li)).getD 0 (-1, 0)).1 ∧ h'.i (p + 1) (2 * (4 * st + li) + 1) = ((fch 4 m x y dg (4 * st + li)).getD 1 (-1, 0)).1 ∧ h'.i (p + 2) (2 * (4 * st + li)) = ((fch 4 m x y dg (4 * st + li)).getD 0 (-1, 0)).2 ∧ h'.i (p + 2) (2 * (4 * st + li) + 1) = ((fch 4 m x y dg (4 * st + li)).getD 1 (-1, 0)).2) : FTJ h' p 4 m x y dg (Af st (li + 1)) := by
  intro c c0 c1
  by_cases cb : c = 4 * st + li
  · rw [if_pos (by omega), cb]; exact nb
  · have o := O c c0 c1
    have a1 := same (2 * c) (by omega) (by omega)
    have a2 := same (2 * c + 1) (by omega) (by omega)
    rw [a1.1, a1.2, a2.1, a2.2]
    by_cases z : Af st li c
    · rw [if_pos z] at o
      rw [if_pos (by omega)]; exact o
    · rw [if_neg z] at o
      rw [if_neg (by omega)]; exact o
theorem c_bf_13 {Q : xH → Prop} {h0 : xH} (p0 : 130 ≤ p) (m1 : 1 ≤ m) (m3 : m ≤ 3) (x0 : 0 ≤ x) (xy : x ≤ y) (y3 : y ≤ 3) (H : ∀ h', Fr [p + 1, p + 2, p + 3, p + 4] [(p, 6)] h0 h' → PF h' p m x y dg m 0 → Q h') : ∀ (n : Nat) (h : xH) (st li : Int) (u5 : xV), (m - st) * 5 - li ≤ n → 0 ≤ st → st < m → 0 ≤ li → li ≤ y + 1 → Fr [p + 1, p + 2, p + 3, p + 4] [(p, 6)] h0 h → PF h p m x y dg st li → xT (d + 1) M_Foot_buildFree 13 [(1, p), (0, x), (0, y), (0, st), (0, li), u5] [] h (xqv Q) := by
  intro n
  induction n with
  | zero => intro h st li u5 hn s0 s1 l0 l1 G P; omega
  | succ n ih =>
    intro h st li u5 hn s0 s1 l0 l1 G P
    obtain ⟨S, P0, P1, O, As, En, Co⟩ := P
    have s11 := S.1
    apply L_Foot_buildFree_13
    by_cases z : y < li
    · rw [if_pos z]
      intro x1 e1
      rw [xw_id (by omega) (by omega)] at e1
      subst e1
      have l4 : li = y + 1 := by omega
      have O' : FTJ h p 4 m x y dg (Af (st + 1) 0) := by
        intro c c0 c1
        have o := O c c0 c1
        by_cases w : Af st li c
        · rw [if_pos w] at o
          rw [if_pos (by omega)]; exact o
        · rw [if_neg w] at o
          by_cases v : Af (st + 1) 0 c
          · rw [if_pos v]
            have e : fch 4 m x y dg c = [] := by
              unfold fch
              rw [if_pos rfl, if_neg (by omega), if_neg (by omega)]
            rw [e]; exact o
          · rw [if_neg v]; exact o
      have E' : ∀ c, 0 ≤ c → c ≤ 16 → h.i (p + 4) c = if Af (st + 1) 0 c ∧ c / 4 + 1 = m ∧ x ≤ c % 4 ∧ c % 4 ≤ y then 1 else 0 := fun c c0 c1 => by
        rw [En c c0 c1]
        by_cases w : Af st li c ∧ c / 4 + 1 = m ∧ x ≤ c % 4 ∧ c % 4 ≤ y
        · rw [if_pos w, if_pos (by omega)]
        · rw [if_neg w, if_neg (by omega)]
      have C' : h.i p 6 = Kf m x y (st + 1) 0 := by
        rw [Co]
        unfold Kf
        by_cases w : st + 1 < m
        · rw [if_pos ⟨w, by omega⟩, if_neg (by omega), if_pos w]; omega
        · rw [if_neg (by omega), if_pos s1, if_neg (by omega), if_neg (by omega)]; omega
      apply L_Foot_buildFree_7
      refine ⟨s11, ?_⟩
      rw [P1]
      by_cases w : st + 1 < m
      · rw [if_pos w]
        exact ih h (st + 1) 0 u5 (by push_cast at hn; omega) (by omega) w (by decide) (by omega) G ⟨S, P0, P1, O', As, E', C'⟩
      · rw [if_neg w]
        have e : st + 1 = m := by omega
        rw [e] at O' E' C'
        exact H h G ⟨S, P0, P1, O', As, E', C'⟩
    · rw [if_neg z]
      intro x2 e2
      rw [xw_id (a := st * 4) (by omega) (by omega), xw_id (a := st * 4 + li) (by omega) (by omega), show st * 4 + li = 4 * st + li by omega] at e2
      subst e2
      have fc := fchF (x := x) (y := y) (dg := dg) (st := st) (li := li) (m := m) l0 (by omega) (by omega) s0 s1 m3
      have o := O (4 * st + li) (by omega) (by omega)
      rw [if_neg (by omega)] at o
      have o : h.i (p + 1) (2 * (4 * st + li)) = -1 ∧ h.i (p + 1) (2 * (4 * st + li) + 1) = -1 ∧ h.i (p + 2) (2 * (4 * st + li)) = 0 ∧ h.i (p + 2) (2 * (4 * st + li) + 1) = 0 := o
      -- behind the choices
      have g50 : ∀ h5, Fr [p + 1, p + 2] [(p, 6)] h h5 → FTJ h5 p 4 m x y dg (Af st (li + 1)) → h5.i p 6 = Kf m x y st (li + 1) → xT (d + 1) M_Foot_buildFree 50 [(1, p), (0, x), (0, y), (0, st), (0, li), (0, 4 * st + li)] [] h5 (xqv Q) := fun h5 F5 O5 C5 => by
        have S5 := FSh_2 F5.1 S
        have rw5 : ∀ c, c ≠ p + 1 → c ≠ p + 2 → c ≠ p → h5.i c = h.i c := fun c a b e => Fr_row F5 (by simp only [List.mem_cons, List.not_mem_nil, or_false]; omega) (fun y m t => by simp only [List.mem_cons, List.not_mem_nil, or_false] at m; rw [m] at t; exact e t.symm)
        have s0' : ∀ k, k ≠ 6 → h5.i p k = h.i p k := fun k hk => F5.2 p k (by simp only [List.mem_cons, List.not_mem_nil, or_false]; omega) (by simp only [List.mem_cons, List.not_mem_nil, or_false, Prod.mk.injEq]; exact fun t => hk t.2)
        have P50 : h5.i p 0 = 4 := by rw [s0' 0 (by decide)]; exact P0
        have P51 : h5.i p 1 = m := by rw [s0' 1 (by decide)]; exact P1
        have As5 : ∀ c, 0 ≤ c → c ≤ 16 → h5.i (p + 3) c = 0 := fun c c0 c1 => by rw [rw5 _ (by omega) (by omega) (by omega)]; exact As c c0 c1
        have En5 : ∀ c, 0 ≤ c → c ≤ 16 → h5.i (p + 4) c = if Af st li c ∧ c / 4 + 1 = m ∧ x ≤ c % 4 ∧ c % 4 ≤ y then 1 else 0 := fun c c0 c1 => by rw [rw5 _ (by omega) (by omega) (by omega)]; exact En c c0 c1
        have nxt : ∀ x1, x1 = xw (li + 1) → ∀ h6, Fr [p + 1, p + 2, p + 3, p + 4] [(p, 6)] h5 h6 → FSh h6 p → h6.i p = h5.i p → FTJ h6 p 4 m x y dg (Af st (li + 1)) → (∀ c, 0 ≤ c → c ≤ 16 → h6.i (p + 3) c = 0) → (∀ c, 0 ≤ c → c ≤ 16 → h6.i (p + 4) c = if Af st (li + 1) c ∧ c / 4 + 1 = m ∧ x ≤ c % 4 ∧ c % 4 ≤ y then 1 else 0) → ∀ u5, xT (d + 1) M_Foot_buildFree 13 [(1, p), (0, x), (0, y), (0, st), (0, x1), u5] [] h6 (xqv Q) := fun x1 e1 h6 F6 S6 ep O6 A6 E6 u5 => by
          rw [xw_id (by omega) (by omega)] at e1
          subst e1
          exact ih h6 st (li + 1) u5 (by push_cast at hn; omega) s0 s1 (by omega) (by omega) (Fr_trans G (Fr_trans (Fr_mono F5 (fun c m => by simp only [List.mem_cons, List.not_mem_nil, or_false] at m ⊢; omega) (fun c m => m)) F6)) ⟨S6, by rw [ep]; exact P50, by rw [ep]; exact P51, O6, A6, E6, by rw [ep]; exact C5⟩
        apply L_Foot_buildFree_50
        by_cases w : li < x
        · rw [if_pos w]
          intro x1 e1
          exact nxt x1 e1 h5 (Fr_refl _ _ _) S5 rfl O5 As5 (fun c c0 c1 => by
            rw [En5 c c0 c1]
            by_cases v : Af st li c ∧ c / 4 + 1 = m ∧ x ≤ c % 4 ∧ c % 4 ≤ y
            · rw [if_pos v, if_pos (by omega)]
            · rw [if_neg v, if_neg (by omega)]) _
        · rw [if_neg w, xw_id (a := st + 1) (by omega) (by omega), P51]
          refine ⟨S5.1, ?_⟩
          by_cases v : st + 1 = m
          · rw [if_pos v, if_neg (by omega), if_pos (by omega)]
            obtain ⟨t1, t2, t3, t4, t5, t6, t7, t8, t9, t10, t11, t12, t13⟩ := S5
            have S5 : FSh h5 p := ⟨t1, t2, t3, t4, t5, t6, t7, t8, t9, t10, t11, t12, t13⟩
            rw [t5, t9, t13]
            refine ⟨⟨rfl, by omega, by omega⟩, ?_⟩
            intro h6 e6 x3 e3
            have q : ∀ c, c ≠ p + 4 → h6.i c = h5.i c := fun c hc => by rw [e6]; funext k; rw [xi_wi, if_neg (fun t => hc t.1)]
            refine nxt x3 e3 h6 (by rw [e6]; exact Fr_cell (Fr_refl _ _ _) _ _ (by simp only [List.mem_cons, true_or, or_true])) (FSh_2 (h := h5) (by rw [e6]; rfl) S5) (q _ (by omega)) (by unfold FTJ at O5 ⊢; rw [q (p + 1) (by omega), q (p + 2) (by omega)]; exact O5) (fun c c0 c1 => by rw [q _ (by omega)]; exact As5 c c0 c1) (fun c c0 c1 => ?_) _
            rw [e6, xi_wi, En5 c c0 c1]
            by_cases b : c = 4 * st + li
            · rw [if_pos ⟨rfl, b⟩, if_pos (by omega)]; rfl
            · rw [if_neg (fun t => b t.2)]
              by_cases a : Af st li c ∧ c / 4 + 1 = m ∧ x ≤ c % 4 ∧ c % 4 ≤ y
              · rw [if_pos a, if_pos (by omega)]
              · rw [if_neg a, if_neg (by omega)]
          · rw [if_neg v]
            intro x5 e5
            exact nxt x5 e5 h5 (Fr_refl _ _ _) S5 rfl O5 As5 (fun c c0 c1 => by
              rw [En5 c c0 c1]
              by_cases a : Af st li c ∧ c / 4 + 1 = m ∧ x ≤ c % 4 ∧ c % 4 ≤ y
              · rw [if_pos a, if_pos (by omega)]
              · rw [if_neg a, if_neg (by omega)]) _
      have mx : ∀ a b : Int, (if a < b then b else a) = max a b := fun a b => by
        by_cases z : a < b
        · rw [if_pos z]; omega
        · rw [if_neg z]; omega
      have K0 : ∀ t, t = Kf m x y st li → (st + 1 < m ∧ x < li ∧ t = 4 * (st + 1) + 1) ∨ (¬ (st + 1 < m ∧ x < li) ∧ t = 4 * st + li + 1) := fun t ht => by
        unfold Kf at ht
        by_cases a : st + 1 < m ∧ x < li
        · rw [if_pos a] at ht; exact Or.inl ⟨a.1, a.2, ht⟩
        · rw [if_neg a, if_pos s1] at ht; exact Or.inr ⟨a, by omega⟩
      have K1 : ∀ t, ((st + 1 < m ∧ x ≤ li ∧ t = 4 * (st + 1) + 1) ∨ (¬ (st + 1 < m ∧ x ≤ li) ∧ t = 4 * st + min (li + 1) y + 1)) → t = Kf m x y st (li + 1) := fun t ht => by
        unfold Kf
        by_cases a : st + 1 < m ∧ x < li + 1
        · rw [if_pos a]; omega
        · rw [if_neg a, if_pos s1]; omega
      have k0 := K0 _ Co
      -- the second choice, behind the first
      have g2 : ∀ h1, Fr [p + 1, p + 2] [(p, 6)] h h1 → (∀ t, t ≠ 2 * (4 * st + li) → t ≠ 2 * (4 * st + li) + 1 → h1.i (p + 1) t = h.i (p + 1) t ∧ h1.i (p + 2) t = h.i (p + 2) t) → h1.i (p + 1) (2 * (4 * st + li)) = (if li < y then 2 else -1) → h1.i (p + 2) (2 * (4 * st + li)) = (if li < y then 4 * st + li + 1 else 0) → h1.i (p + 1) (2 * (4 * st + li) + 1) = -1 → h1.i (p + 2) (2 * (4 * st + li) + 1) = 0 → h1.i p 6 = (if li < y then max (h.i p 6) (4 * st + li + 2) else h.i p 6) → (if li < x then xT (d + 1) M_Foot_buildFree 50 [(1, p), (0, x), (0, y), (0, st), (0, li), (0, 4 * st + li)] [] h1 (xqv Q) else (h1.tag p = 1 ∧ (if xw (st + 1) < h1.i p 1 then xCv (d + 1) M_Foot_addChoice [(1, p), (0, 4 * st + li), (0, 1), (0, xw ((xw ((4 * st + li) - li)) + 4))] h1 (fun h2 => xT (d + 1) M_Foot_buildFree 50 [(1, p), (0, x), (0, y), (0, st), (0, li), (0, 4 * st + li)] [] h2 (xqv Q)) else xT (d + 1) M_Foot_buildFree 50 [(1, p), (0, x), (0, y), (0, st), (0, li), (0, 4 * st + li)] [] h1 (xqv Q)))) := fun h1 F1 sm v1 v2 v3 v4 vk => by
        have S1 := FSh_2 F1.1 S
        have P11 : h1.i p 1 = m := by rw [F1.2 p 1 (by simp only [List.mem_cons, List.not_mem_nil, or_false]; omega) (by simp only [List.mem_cons, List.not_mem_nil, or_false, Prod.mk.injEq]; omega)]; exact P1
        have no : ¬ (x ≤ li ∧ st + 1 < m) → xT (d + 1) M_Foot_buildFree 50 [(1, p), (0, x), (0, y), (0, st), (0, li), (0, 4 * st + li)] [] h1 (xqv Q) := fun w => by
          rw [if_neg w, List.append_nil] at fc
          refine g50 h1 F1 (FTJ_upF l0 (by omega) s0 (by omega) O sm ?_) (K1 _ ?_)
          · rw [fc, v1, v2, v3, v4]
            by_cases b : li < y
            · rw [if_pos b, if_pos b, if_pos b]; exact ⟨rfl, rfl, rfl, rfl⟩
            · rw [if_neg b, if_neg b, if_neg b]; exact ⟨rfl, rfl, rfl, rfl⟩
          · by_cases b : li < y
            · rw [if_pos b] at vk; omega
            · rw [if_neg b] at vk; omega
        by_cases w : li < x
        · rw [if_pos w]; exact no (by omega)
        · rw [if_neg w, xw_id (a := st + 1) (by omega) (by omega), P11]
          refine ⟨S1.1, ?_⟩
          by_cases w2 : st + 1 < m
          · rw [if_pos w2, xw_id (a := 4 * st + li - li) (by omega) (by omega), xw_id (a := 4 * st + li - li + 4) (by omega) (by omega)]
            refine c_addC S1 (by omega) (by omega) (by omega) (by omega) (fun h2 a ea F2 i2 j2 k2 => ?_)
            rw [v1] at ea
            rw [if_pos (show x ≤ li ∧ st + 1 < m by omega)] at fc
            rw [mx] at k2
            refine g50 h2 (Fr_trans F1 F2) (FTJ_upF l0 (by omega) s0 (by omega) O (fun t t1 t2 => ?_) ?_) (K1 _ ?_)
            · have z := sm t t1 t2
              have na : t ≠ a := by
                by_cases b : li < y
                · rw [if_pos b, if_neg (by decide)] at ea; omega
                · rw [if_neg b, if_pos rfl] at ea; omega
              rw [i2, if_neg na, j2, if_neg na]; exact z
            · by_cases b : li < y
              · rw [if_pos b, if_neg (by decide)] at ea
                rw [if_pos b] at fc v1 v2
                rw [fc, i2, i2, j2, j2, if_neg (show ¬ 2 * (4 * st + li) = a by omega), if_pos ea.symm, if_neg (show ¬ 2 * (4 * st + li) = a by omega), if_pos ea.symm, v1, v2]
                exact ⟨rfl, rfl, rfl, by show 4 * st + li - li + 4 = 4 * (st + 1); omega⟩
              · rw [if_neg b, if_pos rfl] at ea
                rw [if_neg b, List.nil_append] at fc
                rw [fc, i2, i2, j2, j2, if_pos ea.symm, if_neg (show ¬ 2 * (4 * st + li) + 1 = a by omega), if_pos ea.symm, if_neg (show ¬ 2 * (4 * st + li) + 1 = a by omega), v3, v4]
                exact ⟨rfl, rfl, by show 4 * st + li - li + 4 = 4 * (st + 1); omega, rfl⟩
            · by_cases b : li < y
              · rw [if_pos b] at vk; omega
              · rw [if_neg b] at vk; omega
          · rw [if_neg w2]; exact no (by omega)
      by_cases b : li < y
      · rw [if_pos b]
        refine ⟨s11, ?_⟩
        rw [xw_id (a := 4 * st + li + 1) (by omega) (by omega)]
        refine c_addC S (by omega) (by omega) (by omega) (by omega) (fun h1 a ea F1 i1 j1 k1 => ?_)
        rw [o.1, if_pos rfl] at ea
        rw [mx] at k1
        refine g2 h1 F1 (fun t t1 t2 => ?_) ?_ ?_ ?_ ?_ ?_
        · rw [i1, if_neg (by omega), j1, if_neg (by omega)]; exact ⟨rfl, rfl⟩
        · rw [i1, if_pos ea.symm, if_pos b]
        · rw [j1, if_pos ea.symm, if_pos b]
        · rw [i1, if_neg (by omega)]; exact o.2.1
        · rw [j1, if_neg (by omega)]; exact o.2.2.2
        · rw [k1, if_pos b]; omega
      · rw [if_neg b]
        exact g2 h (Fr_refl _ _ _) (fun t _ _ => ⟨rfl, rfl⟩) (by rw [if_neg b]; exact o.1) (by rw [if_neg b]; exact o.2.2.1) o.2.1 o.2.2.2 (by rw [if_neg b])
end FF
