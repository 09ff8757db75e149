/-! learn: the prices, both sides -/
/-- the price of a licence that u of s steps use -/
def npr (P u s : Int) : Int := if P = -1 then P else if 1 < 50 - xf2i (xfmul 1112014848 (xfdiv (xi2f u) (xi2f s))) then 50 - xf2i (xfmul 1112014848 (xfdiv (xi2f u) (xi2f s))) else 1
theorem npr_bd {P u s : Int} (p0 : -1 ≤ P) (u0 : 0 ≤ u) (u1 : u < 2147483648) (s0 : 1 ≤ s) (s1 : s < 2147483648) : -1 ≤ npr P u s ∧ npr P u s ≤ 50 := by
  have z := xfl_ok u0 u1 s0 s1
  unfold npr
  by_cases c : P = -1
  · rw [if_pos c, c]; decide
  · rw [if_neg c]
    by_cases c2 : 1 < 50 - xf2i (xfmul 1112014848 (xfdiv (xi2f u) (xi2f s)))
    · rw [if_pos c2]; omega
    · rw [if_neg c2]; omega
section NP
variable {d : Nat} {q s : Int}
theorem c_sbu_2 {Q : xH → Prop} (s0 : 1 ≤ s) (s1 : s < 2147483648) (q27 : q ≠ 27) : ∀ (n : Nat) (l : Int) (h : xH) (u4 : xV), 0 ≤ l → l + n = 5 → SX h → h.tag q = 20 → h.len q = 5 → (∀ j, 0 ≤ j → j < 5 → 0 ≤ h.i q j ∧ h.i q j < 2147483648) → (∀ h', Fr [27] [] h h' → (∀ j, l ≤ j → j < 5 → h'.i 27 j = npr (h.i 27 j) (h.i q j) s) → (∀ j, j < l → h'.i 27 j = h.i 27 j) → Q h') → xT d M_Metre_setByUse 2 [(1, 22), (1, q), (0, s), (0, l), u4] [] h (xqv Q) := by
  intro n
  induction n with
  | zero =>
    intro l h u4 l0 hl SX_ tq lq ub H
    apply L_Metre_setByUse_2
    rw [if_neg (by omega)]
    exact H h (Fr_refl _ _ _) (fun j j0 j1 => by omega) (fun j _ => rfl)
  | succ n ih =>
    intro l h u4 l0 hl SX_ tq lq ub H
    have u := ub l l0 (by omega)
    have fo := xfl_ok u.1 u.2 s0 s1
    apply L_Metre_setByUse_2
    rw [if_pos (by omega), lq, if_pos (by omega), if_pos (by omega)]
    simp only [sxt SX_, sxl SX_, sxf SX_, true_and, and_true, false_and, and_false, forall_eq, forall_eq', xi_wi, xr_wi, xt_wi, xl_wi, xn_wi, xs_wi, xi_wr, xr_wr, xt_wr, xl_wr, xn_wr, xs_wr, if_true, if_false, and_self, Int.reduceEq, Int.reduceLT, Int.reduceLE, Int.reduceNeg, Int.le_refl, Int.reduceMod]
    refine ⟨tq, ⟨by omega, by omega⟩, ?_⟩
    have nx : ∀ x : Int, x = xw (l + 1) → x = l + 1 := fun x e => by rw [e, xw_id (by omega) (by omega)]
    by_cases c : h.i 27 l = -1
    · rw [if_pos c]
      rw [nx _ rfl]
      refine ih (l + 1) h u4 (by omega) (by push_cast at hl; omega) SX_ tq lq ub (fun h' F a b => H h' F (fun j j0 j1 => ?_) (fun j j1 => b j (by omega)))
      by_cases z : j = l
      · rw [z, b l (by omega)]; unfold npr; rw [if_pos c]
      · exact a j (by omega) j1
    · rw [if_neg c]
      refine ⟨⟨tq, l0, by omega⟩, fo.1, fo.2.1, ⟨by omega, by omega⟩, ?_⟩
      rw [xw_id (a := 50 - xf2i (xfmul 1112014848 (xfdiv (xi2f (h.i q l)) (xi2f s)))) (by omega) (by omega), nx _ rfl]
      generalize e1' : h.wi 27 l _ = h1
      have e1 := e1'.symm
      have F1 : Fr [27] [] h h1 := by rw [e1]; exact Fr_cell (Fr_refl _ _ _) _ _ (by decide)
      have fs := fr_same F1
      have rq : h1.i q = h.i q := Fr_row F1 (fun m => by rw [List.mem_singleton] at m; exact q27 m) (fun p m => absurd m List.not_mem_nil)
      have v1 : ∀ j, h1.i 27 j = if j = l then npr (h.i 27 l) (h.i q l) s else h.i 27 j := fun j => by
        rw [e1, xi_wi]
        unfold npr
        rw [if_neg c]
        by_cases z : j = l
        · rw [if_pos ⟨rfl, z⟩, if_pos z]
        · rw [if_neg (fun t => z t.2), if_neg z]
      refine ih (l + 1) h1 _ (by omega) (by push_cast at hl; omega) (SX_2 F1.1 SX_) (by rw [fs.2.1]; exact tq) (by rw [fs.2.2.1]; exact lq) (by rw [rq]; exact ub) (fun h' F a b => H h' (Fr_trans F1 F) (fun j j0 j1 => ?_) (fun j j1 => by rw [b j (by omega), v1, if_neg (by omega)]))
      by_cases z : j = l
      · rw [z, b l (by omega), v1, if_pos rfl]
      · rw [a j (by omega) j1, v1, if_neg z, rq]
def wyl (l : Int) : Int := if l = 0 then 4 else if l = 1 then 3 else if l = 2 then 1 else if l = 3 then 2 else 5
theorem c_R_learn_108 {Q : Int → xH → Prop} {l2 s : Int} (s0 : 1 ≤ s) (s1 : s < 2147483648) : ∀ (n : Nat) (l : Int) (h : xH) (u1 u5 u6 u7 : xV), 0 ≤ l → l + n = 5 → SR h → (∀ j, 0 ≤ j → j < 6 → 0 ≤ h.i 129 j ∧ h.i 129 j < 2147483648) → (∀ j, 0 ≤ j → j < 5 → -1 ≤ h.i 97 j) → (∀ h', Fr [97] [] h h' → (∀ j, l ≤ j → j < 5 → h'.i 97 j = npr (h.i 97 j) (h.i 129 (wyl j)) s) → (∀ j, j < l → h'.i 97 j = h.i 97 j) → Q l2 h') → xT d M_R_learn 108 [(1, 59), u1, (0, l2), (0, s), (0, l), u5, u6, u7] [] h (xqi Q) := by
  intro n
  induction n with
  | zero =>
    intro l h u1 u5 u6 u7 l0 hl S ub pb H
    apply L_R_learn_108
    rw [if_neg (by omega)]
    exact H h (Fr_refl _ _ _) (fun j j0 j1 => by omega) (fun j _ => rfl)
  | succ n ih =>
    intro l h u1 u5 u6 u7 l0 hl S ub pb H
    have nx : ∀ x : Int, x = xw (l + 1) → x = l + 1 := fun x e => by rw [e, xw_id (by omega) (by omega)]
    have p0 := pb l l0 (by omega)
    apply L_R_learn_108
    rw [if_pos (by omega)]
    simp only [srt S, srl S, srf S, true_and, and_true, false_and, and_false, forall_eq, forall_eq', xi_wi, xr_wi, xt_wi, xl_wi, xn_wi, xs_wi, xi_wr, xr_wr, xt_wr, xl_wr, xn_wr, xs_wr, if_true, if_false, and_self, Int.reduceEq, Int.reduceLT, Int.reduceLE, Int.reduceNeg, Int.le_refl, Int.reduceMod]
    refine ⟨⟨by omega, by omega⟩, ?_⟩
    by_cases c : h.i 97 l < 0
    · rw [if_pos c]
      rw [nx _ rfl]
      refine ih (l + 1) h u1 u5 u6 u7 (by omega) (by push_cast at hl; omega) S ub pb (fun h' F a b => H h' F (fun j j0 j1 => ?_) (fun j j1 => b j (by omega)))
      by_cases z : j = l
      · rw [z, b l (by omega)]; unfold npr; rw [if_pos (by omega)]
      · exact a j (by omega) j1
    · rw [if_neg c]
      have go : ∀ w, w = wyl l → xT d M_R_learn 139 [(1, 59), u1, (0, l2), (0, s), (0, l), u5, u6, u7] [(0, w), (1, 129)] h (xqi Q) := fun w ew => by
        have w6 : 0 ≤ w ∧ w < 6 := by
          rw [ew]; unfold wyl
          by_cases a0 : l = 0
          · rw [if_pos a0]; decide
          by_cases a1 : l = 1
          · rw [if_neg a0, if_pos a1]; decide
          by_cases a2 : l = 2
          · rw [if_neg a0, if_neg a1, if_pos a2]; decide
          by_cases a3 : l = 3
          · rw [if_neg a0, if_neg a1, if_neg a2, if_pos a3]; decide
          · rw [if_neg a0, if_neg a1, if_neg a2, if_neg a3]; decide
        have u := ub w w6.1 w6.2
        have fo := xfl_ok u.1 u.2 s0 s1
        apply L_R_learn_139
        have g : h.tag 129 = 20 ∧ h.len 129 = 6 := by simp only [srt S, srl S, srf S, true_and, and_true, false_and, and_false, forall_eq, forall_eq', xi_wi, xr_wi, xt_wi, xl_wi, xn_wi, xs_wi, xi_wr, xr_wr, xt_wr, xl_wr, xn_wr, xs_wr, if_true, if_false, and_self, Int.reduceEq, Int.reduceLT, Int.reduceLE, Int.reduceNeg, Int.le_refl, Int.reduceMod]
        refine ⟨⟨g.1, w6.1, by omega⟩, fun x1 e1 => ?_⟩
        subst e1
        refine ⟨fo.1, fun x2 e2 => ?_⟩
        subst e2
        refine ⟨fo.2.1, fun x3 e3 => ?_⟩
        rw [xw_id (by omega) (by omega)] at e3
        subst e3
        simp only [srt S, srl S, srf S, true_and, and_true, false_and, and_false, forall_eq, forall_eq', xi_wi, xr_wi, xt_wi, xl_wi, xn_wi, xs_wi, xi_wr, xr_wr, xt_wr, xl_wr, xn_wr, xs_wr, if_true, if_false, and_self, Int.reduceEq, Int.reduceLT, Int.reduceLE, Int.reduceNeg, Int.le_refl, Int.reduceMod]
        have step : ∀ (v : Int) (h1 : xH) (u5 u6 u7 : xV) (x : Int), v = npr (h.i 97 l) (h.i 129 (wyl l)) s → h1 = h.wi 97 l v → x = xw (l + 1) → xT d M_R_learn 108 [(1, 59), u1, (0, l2), (0, s), (0, x), u5, u6, u7] [] h1 (xqi Q) := fun v h1 u5 u6 u7 x ev e1 ex => by
          rw [nx x ex]
          have F1 : Fr [97] [] h h1 := by rw [e1]; exact Fr_cell (Fr_refl _ _ _) _ _ (by decide)
          have rq : h1.i 129 = h.i 129 := Fr_row F1 (by decide) (by decide)
          have v1 : ∀ j, h1.i 97 j = if j = l then npr (h.i 97 l) (h.i 129 (wyl l)) s else h.i 97 j := fun j => by
            rw [e1, xi_wi, ← ev]
            by_cases z : j = l
            · rw [if_pos ⟨rfl, z⟩, if_pos z]
            · rw [if_neg (fun t => z t.2), if_neg z]
          have nb : -1 ≤ npr (h.i 97 l) (h.i 129 (wyl l)) s := (npr_bd p0 (by rw [← ew]; exact u.1) (by rw [← ew]; exact u.2) s0 s1).1
          refine ih (l + 1) h1 u1 u5 u6 u7 (by omega) (by push_cast at hl; omega) (SR_2 F1.1 S) (by rw [rq]; exact ub) (fun j j0 j1 => ?_) (fun h' F a b => H h' (Fr_trans F1 F) (fun j j0 j1 => ?_) (fun j j1 => by rw [b j (by omega), v1, if_neg (by omega)]))
          · rw [v1]
            by_cases z : j = l
            · rw [if_pos z]; exact nb
            · rw [if_neg z]; exact pb j j0 j1
          · by_cases z : j = l
            · rw [z, b l (by omega), v1, if_pos rfl]
            · rw [a j (by omega) j1, v1, if_neg z, rq]
        by_cases c2 : 50 - xf2i (xfmul 1112014848 (xfdiv (xi2f (h.i 129 w)) (xi2f s))) < 1
        · rw [if_pos c2]
          exact ⟨⟨by omega, by omega⟩, step _ _ _ _ _ _ (by unfold npr; rw [if_neg (by omega), ← ew, if_neg (by omega)]) rfl rfl⟩
        · rw [if_neg c2]
          refine ⟨⟨by omega, by omega⟩, step _ _ _ _ _ _ ?_ rfl rfl⟩
          unfold npr
          rw [if_neg (by omega), ← ew]
          by_cases c3 : 1 < 50 - xf2i (xfmul 1112014848 (xfdiv (xi2f (h.i 129 w)) (xi2f s)))
          · rw [if_pos c3]
          · rw [if_neg c3]; omega
      unfold wyl at go
      by_cases a0 : l = 0
      · rw [if_pos a0]
        exact go _ (by rw [if_pos a0])
      by_cases a1 : l = 1
      · rw [if_neg a0, if_pos a1]
        exact go _ (by rw [if_neg a0, if_pos a1])
      by_cases a2 : l = 2
      · rw [if_neg a0, if_neg a1, if_pos a2]
        exact go _ (by rw [if_neg a0, if_neg a1, if_pos a2])
      by_cases a3 : l = 3
      · rw [if_neg a0, if_neg a1, if_neg a2, if_pos a3]
        exact go _ (by rw [if_neg a0, if_neg a1, if_neg a2, if_pos a3])
      · rw [if_neg a0, if_neg a1, if_neg a2, if_neg a3]
        exact go _ (by rw [if_neg a0, if_neg a1, if_neg a2, if_neg a3])
end NP
