/-! word: the reference reads what the bytes tell -/
def RWd (h : xH) (B : Pcs) : Prop := (∀ k : Nat, k < (ptx B).length → h.i 73 k = (ptx B).getD k 0) ∧ ∀ j : Nat, j < B.length → h.i 74 j = (((B.getD j pc0).1.length : Nat) : Int) ∧ h.i 75 j = (B.getD j pc0).2
def rwL : List Int := [73, 74, 75]
section RWS
variable {d : Nat}
theorem c_R_rw8 {T : Int → Int} {n : Int} {Q : Int → xH → Prop} (n240 : n ≤ 240) : ∀ (r : List Int) (B : Pcs) (cur : List Int) (h : xH) (u6 u7 : xV), SR h → h.i 60 = T → (∀ k : Nat, k < r.length → T (n - ((r.length : Nat) : Int) + k) % 256 = r.getD k 0 ∧ -128 ≤ T (n - ((r.length : Nat) : Int) + k) ∧ T (n - ((r.length : Nat) : Int) + k) < 128) → (((ptx B).length : Nat) : Int) + ((cur.length : Nat) : Int) + ((r.length : Nat) : Int) ≤ n → (∀ c ∈ cur, 97 ≤ c ∧ c ≤ 122) → PcsOk B → RWd h B → (∀ k : Nat, k < cur.length → h.i 73 ((((ptx B).length : Nat) : Int) + k) = cur.getD k 0) → (∀ h' B' u6 u7, Fr rwL [] h h' → rdW r B cur = some B' → (ptx B').length ≤ 16 → PcsOk B' → RWd h' B' → xT (d + 1) M_R_readWord 87 [(1, 59), (0, n), (0, ((B'.length : Nat) : Int)), (0, (((ptx B').length : Nat) : Int)), (0, 0), (0, 0), u6, u7] [] h' (xqi Q)) → (∀ h', Fr rwL [] h h' → (∀ B', rdW r B cur = some B' → 16 < (ptx B').length) → Q (-1) h') → xT (d + 1) M_R_readWord 8 [(1, 59), (0, n), (0, ((B.length : Nat) : Int)), (0, (((ptx B).length : Nat) : Int) + ((cur.length : Nat) : Int)), (0, (((ptx B).length : Nat) : Int)), (0, n - ((r.length : Nat) : Int)), u6, u7] [] h (xqi Q) := by
  intro r
  induction r with
  | nil =>
    intro B cur h u6 u7 S eT tr bd lc ok W wc H1 H0
    have e0 : (([] : List Int).length : Int) = 0 := rfl
    apply L_R_readWord_8
    rw [e0, Int.sub_zero, if_neg (by omega)]
    by_cases c1 : B.length = 0
    · rw [if_pos (by omega)]
      exact H0 h (Fr_refl _ _ _) (fun B' e => by unfold rdW at e; rw [if_neg (fun z => by omega)] at e; cases e)
    rw [if_neg (by omega)]
    by_cases c2 : cur.length = 0
    · rw [if_pos (by omega)]
      have er : rdW [] B cur = some B := by unfold rdW; rw [if_pos ⟨by omega, c2⟩]
      by_cases c3 : 16 < (ptx B).length
      · rw [if_pos (by omega)]
        exact H0 h (Fr_refl _ _ _) (fun B' e => by rw [er] at e; rw [← Option.some.inj e]; exact c3)
      · rw [if_neg (by omega), show (((ptx B).length : Nat) : Int) + ((cur.length : Nat) : Int) = (((ptx B).length : Nat) : Int) by omega]
        exact H1 h B u6 u7 (Fr_refl _ _ _) er (by omega) ok W
    · rw [if_neg (by omega)]
      exact H0 h (Fr_refl _ _ _) (fun B' e => by unfold rdW at e; rw [if_neg (fun z => c2 z.2)] at e; cases e)
  | cons c r ih =>
    intro B cur h u6 u7 S eT tr bd lc ok W wc H1 H0
    have ec : (((c :: r).length : Nat) : Int) = ((r.length : Nat) : Int) + 1 := by rw [List.length_cons]; push_cast; rfl
    have t0 := tr 0 (by rw [List.length_cons]; omega)
    rw [ec] at t0 bd ⊢
    rw [show n - (((r.length : Nat) : Int) + 1) + ((0 : Nat) : Int) = n - (((r.length : Nat) : Int) + 1) by omega, show (c :: r).getD 0 0 = c from rfl] at t0
    have tr' : ∀ k : Nat, k < r.length → T (n - ((r.length : Nat) : Int) + k) % 256 = r.getD k 0 ∧ -128 ≤ T (n - ((r.length : Nat) : Int) + k) ∧ T (n - ((r.length : Nat) : Int) + k) < 128 := fun k hk => by
      have := tr (k + 1) (by rw [List.length_cons]; omega)
      rw [ec] at this
      rw [show n - ((r.length : Nat) : Int) + (k : Int) = n - (((r.length : Nat) : Int) + 1) + ((k + 1 : Nat) : Int) by push_cast; omega]
      exact this
    have pl := pcs_len ok
    have g : h.tag 59 = 12 ∧ h.r 59 0 = 60 ∧ h.tag 60 = 21 ∧ h.len 60 = 240 ∧ h.r 59 17 = 73 ∧ h.tag 73 = 21 ∧ h.len 73 = 240 ∧ h.r 59 18 = 74 ∧ h.tag 74 = 20 ∧ h.len 74 = 240 ∧ h.r 59 19 = 75 ∧ h.tag 75 = 20 ∧ h.len 75 = 240 := by simp only [srt S, srl S, srf S, true_and, and_true, false_and, and_false, forall_eq, forall_eq', xi_wi, xr_wi, xt_wi, xl_wi, xn_wi, xs_wi, xi_wr, xr_wr, xt_wr, xl_wr, xn_wr, xs_wr, if_true, if_false, and_self, Int.reduceEq, Int.reduceLT, Int.reduceLE, Int.reduceNeg, Int.le_refl, Int.reduceMod]
    obtain ⟨g1, g2, g3, g4, g5, g6, g7, g8, g9, g10, g11, g12, g13⟩ := g
    apply L_R_readWord_8
    rw [if_pos (by omega), g2, g4, eT]
    refine ⟨g1, ⟨g3, by omega, by omega⟩, fun x1 e1 => ?_⟩
    refine c_R_isLet ?_
    by_cases c1 : 97 ≤ c ∧ c ≤ 122
    · have ex : x1 = c := by omega
      rw [if_pos (show 97 ≤ x1 ∧ x1 ≤ 122 by omega), if_neg (by decide)]
      rw [g2, g4, g5, g7, eT]
      refine ⟨g1, ⟨g3, by omega, by omega⟩, ⟨g6, by omega, by omega⟩, fun h2 e2 x2 ex2 x3 ex3 => ?_⟩
      rw [xw_id (by omega) (by omega)] at ex2 ex3
      rw [← e1, ex, show xw8 c = c by unfold xw8; omega] at e2
      have F2 : Fr rwL [] h h2 := by rw [e2]; exact Fr_cell (Fr_refl _ _ _) _ _ (by decide)
      have v2 : ∀ k, h2.i 73 k = if k = (((ptx B).length : Nat) : Int) + ((cur.length : Nat) : Int) then c else h.i 73 k := fun k => by
        rw [e2, xi_wi]
        by_cases z : k = (((ptx B).length : Nat) : Int) + ((cur.length : Nat) : Int)
        · rw [if_pos ⟨rfl, z⟩, if_pos z]
        · rw [if_neg (fun y => z y.2), if_neg z]
      have e74 : h2.i 74 = h.i 74 ∧ h2.i 75 = h.i 75 := by
        rw [e2]
        exact ⟨by funext j; rw [xi_wi, if_neg (fun z => absurd z.1 (by decide))], by funext j; rw [xi_wi, if_neg (fun z => absurd z.1 (by decide))]⟩
      have W2 : RWd h2 B := ⟨fun k hk => by rw [v2, if_neg (by omega)]; exact W.1 k hk, fun j hj => by rw [e74.1, e74.2]; exact W.2 j hj⟩
      have lcur : (((cur ++ [c]).length : Nat) : Int) = ((cur.length : Nat) : Int) + 1 := by rw [List.length_append]; push_cast; rfl
      have z := ih B (cur ++ [c]) h2 (0, x1) u7 (SR_2 F2.1 S) (by rw [Fr_row F2 (by decide) (by decide)]; exact eT) tr' (by rw [lcur]; omega) (fun x m => by
        rw [List.mem_append, List.mem_singleton] at m
        rcases m with m | m
        · exact lc x m
        · rw [m]; exact c1) ok W2 (fun k hk => by
        rw [List.length_append] at hk
        have hk : k < cur.length + 1 := hk
        rw [v2]
        by_cases ck : k = cur.length
        · rw [if_pos (by omega), ck, getD_app_r 0 (Nat.le_refl _), Nat.sub_self]; rfl
        · rw [if_neg (by omega), getD_app_l 0 (by omega)]
          exact wc k (by omega)) (fun h' B' u6 u7 F e l o W' => H1 h' B' u6 u7 (Fr_trans F2 F) (by unfold rdW; rw [if_pos c1]; exact e) l o W') (fun h' F n' => H0 h' (Fr_trans F2 F) (fun B' e => by unfold rdW at e; rw [if_pos c1] at e; exact n' B' e))
      rw [lcur] at z
      rw [ex2, ex3, show n - (((r.length : Nat) : Int) + 1) + 1 = n - ((r.length : Nat) : Int) by omega, Int.add_assoc]
      exact z
    · rw [if_neg (show ¬ (97 ≤ x1 ∧ x1 ≤ 122) by omega), if_pos rfl]
      have no : mkB c = -1 → ∀ h' : xH, Fr rwL [] h h' → Q (-1) h' := fun z h' F => H0 h' F (fun B' e => by unfold rdW at e; rw [if_neg c1, if_pos z] at e; cases e)
      have yes : (c = 43 ∧ x1 = 43) ∨ (c = 45 ∧ x1 = 45) ∨ (c = 42 ∧ x1 = 42) → xT (d + 1) M_R_readWord 38 [(1, 59), (0, n), (0, ((B.length : Nat) : Int)), (0, (((ptx B).length : Nat) : Int) + ((cur.length : Nat) : Int)), (0, (((ptx B).length : Nat) : Int)), (0, n - (((r.length : Nat) : Int) + 1)), (0, x1), u7] [] h (xqi Q) := fun ms => by
        have c2 : mkB c ≠ -1 := by
          rcases ms with ⟨z, _⟩ | ⟨z, _⟩ | ⟨z, _⟩ <;> rw [z] <;> decide
        apply L_R_readWord_38
        by_cases c4 : cur.length = 0
        · rw [if_pos (by omega)]
          exact H0 h (Fr_refl _ _ _) (fun B' e => by unfold rdW at e; rw [if_neg c1, if_neg c2, if_pos c4] at e; cases e)
        · rw [if_neg (by omega), g8, g10]
          refine ⟨g1, ⟨g9, by omega, by omega⟩, fun h1 eh => ?_⟩
          rw [xw_id (by omega) (by omega), show (((ptx B).length : Nat) : Int) + ((cur.length : Nat) : Int) - (((ptx B).length : Nat) : Int) = ((cur.length : Nat) : Int) by omega] at eh
          have k1 : h1.tag = h.tag ∧ h1.len = h.len ∧ h1.r = h.r := by rw [eh]; exact ⟨rfl, rfl, rfl⟩
          have mr := mkB_rg c2
          have st : rdW (c :: r) B cur = rdW r (B ++ [(cur, mkB c)]) [] := by
            show (if 97 ≤ c ∧ c ≤ 122 then _ else _) = _
            rw [if_neg c1, if_neg c2, if_neg c4]
          have fin : ∀ (h2 : xH) (x y : Int), h2 = h1.wi 75 ((B.length : Nat) : Int) (mkB c) → x = xw (((B.length : Nat) : Int) + 1) → y = xw (n - (((r.length : Nat) : Int) + 1) + 1) → xT (d + 1) M_R_readWord 8 [(1, 59), (0, n), (0, x), (0, (((ptx B).length : Nat) : Int) + ((cur.length : Nat) : Int)), (0, (((ptx B).length : Nat) : Int) + ((cur.length : Nat) : Int)), (0, y), (0, x1), u7] [] h2 (xqi Q) := fun h2 x y e2 ex ey => by
            rw [xw_id (by omega) (by omega)] at ex ey
            have F2 : Fr rwL [] h h2 := by rw [e2, eh]; exact Fr_cell (Fr_cell (Fr_refl _ _ _) _ _ (by decide)) _ _ (by decide)
            have v73 : h2.i 73 = h.i 73 := by
              rw [e2, eh]; funext j
              rw [xi_wi, if_neg (fun z => absurd z.1 (by decide)), xi_wi, if_neg (fun z => absurd z.1 (by decide))]
            have v74 : ∀ j, h2.i 74 j = if j = ((B.length : Nat) : Int) then ((cur.length : Nat) : Int) else h.i 74 j := fun j => by
              rw [e2, eh, xi_wi, if_neg (fun z => absurd z.1 (by decide)), xi_wi]
              by_cases z : j = ((B.length : Nat) : Int)
              · rw [if_pos ⟨rfl, z⟩, if_pos z]
              · rw [if_neg (fun y => z y.2), if_neg z]
            have v75 : ∀ j, h2.i 75 j = if j = ((B.length : Nat) : Int) then mkB c else h.i 75 j := fun j => by
              rw [e2, xi_wi]
              by_cases z : j = ((B.length : Nat) : Int)
              · rw [if_pos ⟨rfl, z⟩, if_pos z]
              · rw [if_neg (fun y => z y.2), if_neg z, eh, xi_wi, if_neg (fun z => absurd z.1 (by decide))]
            have lB : (((B ++ [(cur, mkB c)]).length : Nat) : Int) = ((B.length : Nat) : Int) + 1 := by rw [List.length_append]; push_cast; rfl
            have lp : (((ptx (B ++ [(cur, mkB c)])).length : Nat) : Int) = (((ptx B).length : Nat) : Int) + ((cur.length : Nat) : Int) := by rw [ptx_app, ptx_one, List.length_append]; push_cast; rfl
            have W2 : RWd h2 (B ++ [(cur, mkB c)]) := by
              refine ⟨fun k hk => ?_, fun j hj => ?_⟩
              · rw [ptx_app, ptx_one] at hk ⊢
                rw [List.length_append] at hk
                rw [v73]
                by_cases ck : (ptx B).length ≤ k
                · rw [getD_app_r 0 ck, ← wc (k - (ptx B).length) (by omega)]
                  congr 1; omega
                · rw [getD_app_l 0 (by omega)]; exact W.1 k (by omega)
              · rw [List.length_append] at hj
                have hj : j < B.length + 1 := hj
                rw [v74, v75]
                by_cases cj : j = B.length
                · rw [if_pos (by omega), if_pos (by omega), cj, getD_app_r pc0 (Nat.le_refl _), Nat.sub_self]
                  exact ⟨rfl, rfl⟩
                · rw [if_neg (by omega), if_neg (by omega), getD_app_l pc0 (by omega)]
                  exact W.2 j (by omega)
            have z := ih (B ++ [(cur, mkB c)]) [] h2 (0, x1) u7 (SR_2 F2.1 S) (by rw [Fr_row F2 (by decide) (by decide)]; exact eT) tr' (by rw [lp]; show _ + 0 + _ ≤ n; omega) (fun x m => absurd m List.not_mem_nil) (PcsOk_app ok (by omega) lc mr) W2 (fun k hk => absurd hk (Nat.not_lt_zero _)) (fun h' B' u6 u7 F e l o W' => H1 h' B' u6 u7 (Fr_trans F2 F) (by rw [st]; exact e) l o W') (fun h' F n' => H0 h' (Fr_trans F2 F) (fun B' e => by rw [st] at e; exact n' B' e))
            rw [lB, lp, show (((ptx B).length : Nat) : Int) + ((cur.length : Nat) : Int) + ((([] : List Int).length : Nat) : Int) = (((ptx B).length : Nat) : Int) + ((cur.length : Nat) : Int) by show _ + 0 = _; omega] at z
            rw [ex, ey, show n - (((r.length : Nat) : Int) + 1) + 1 = n - ((r.length : Nat) : Int) by omega]
            exact z
          rw [k1.1, k1.2.1, k1.2.2, g11, g13]
          refine ⟨g1, ?_⟩
          rcases ms with ⟨z, zx⟩ | ⟨z, zx⟩ | ⟨z, zx⟩
          · rw [if_pos zx]
            refine ⟨⟨g12, by omega, by omega⟩, fun h2 e2 x ex y ey => fin h2 x y (by rw [e2, z]; rfl) ex ey⟩
          · rw [if_neg (by omega), if_pos zx]
            refine ⟨⟨g12, by omega, by omega⟩, fun h2 e2 x ex y ey => fin h2 x y (by rw [e2, z]; rfl) ex ey⟩
          · rw [if_neg (by omega), if_neg (by omega)]
            refine ⟨⟨g12, by omega, by omega⟩, fun h2 e2 x ex y ey => fin h2 x y (by rw [e2, z]; rfl) ex ey⟩
      by_cases a : x1 = 43
      · rw [if_pos a]; exact yes (Or.inl ⟨by omega, a⟩)
      rw [if_neg a]
      by_cases b : x1 = 45
      · rw [if_pos b]; exact yes (Or.inr (Or.inl ⟨by omega, b⟩))
      rw [if_neg b]
      by_cases e : x1 = 42
      · rw [if_pos e]; exact yes (Or.inr (Or.inr ⟨by omega, e⟩))
      · rw [if_neg e]
        refine no ?_ h (Fr_refl _ _ _)
        unfold mkB
        rw [if_neg (by omega), if_neg (by omega), if_neg (by omega)]
/-- the sum of the first k vowel bits -/
def vs (L : List (Int × Int)) (k : Nat) : Int := ((L.take k).map (fun p => p.2)).sum
theorem vs_s {L : List (Int × Int)} {k : Nat} (hk : k < L.length) : vs L (k + 1) = vs L k + (L.getD k (0, 0)).2 := by
  unfold vs
  rw [List.take_succ_eq_append_getElem hk, List.map_append, List.sum_append, List.getD_eq_getElem?_getD, List.getElem?_eq_getElem hk]
  simp only [List.map_cons, List.map_nil, List.sum_cons, List.sum_nil, Option.getD_some]
  omega
theorem vs_bd {L : List (Int × Int)} (ok : ∀ p ∈ L, p.2 = 0 ∨ p.2 = 1) : ∀ k : Nat, k ≤ L.length → 0 ≤ vs L k ∧ vs L k ≤ k := by
  intro k
  induction k with
  | zero => intro _; exact ⟨Int.le_refl _, Int.le_refl _⟩
  | succ k ih =>
    intro hk
    have a := ih (by omega)
    have b := ok _ (getD_mem ((0 : Int), (0 : Int)) (show k < L.length by omega))
    rw [vs_s (by omega)]
    omega
theorem c_R_rw103 {h : xH} {L : List (Int × Int)} {Q : Int → xH → Prop} {u1 : xV} {l2 l3 l4 l5 : Int} (S : SR h) (N : SndR h L) (ok : ∀ p ∈ L, p.2 = 0 ∨ p.2 = 1) (l16 : L.length ≤ 18) (l50 : 0 ≤ l5) (l51 : l5 < 240) (H1 : vs L L.length = 1 → ∀ u6 u7, ∀ x5 : Int, x5 = xw (l4 + (h.i 74 l5)) → ∀ x6 : Int, x6 = xw (l5 + 1) → xT d M_R_readWord 87 [(1, 59), u1, (0, l2), (0, l3), (0, x5), (0, x6), u6, u7] [] h (xqi Q)) (H0 : vs L L.length ≠ 1 → Q (-1) h) : ∀ (m k : Nat), k + m = L.length → xT d M_R_readWord 103 [(1, 59), u1, (0, l2), (0, l3), (0, l4), (0, l5), (0, vs L k), (0, (k : Int))] [] h (xqi Q) := by
  intro m
  induction m with
  | zero =>
    intro k hk
    have ek : k = L.length := by omega
    subst ek
    apply L_R_readWord_103
    rw [show h.i 59 10 = ((L.length : Nat) : Int) from N.1]
    rw [if_neg (show ¬ ((L.length : Nat) : Int) < ((L.length : Nat) : Int) by omega)]
    refine ⟨(srt S).1, ?_⟩
    by_cases c : vs L L.length = 1
    · rw [if_pos c]
      have g : h.r 59 18 = 74 ∧ h.tag 74 = 20 ∧ h.len 74 = 240 := by simp only [srt S, srl S, srf S, true_and, and_true, false_and, and_false, forall_eq, forall_eq', xi_wi, xr_wi, xt_wi, xl_wi, xn_wi, xs_wi, xi_wr, xr_wr, xt_wr, xl_wr, xn_wr, xs_wr, if_true, if_false, and_self, Int.reduceEq, Int.reduceLT, Int.reduceLE, Int.reduceNeg, Int.le_refl, Int.reduceMod]
      rw [g.1, g.2.2]
      exact ⟨⟨g.2.1, l50, l51⟩, H1 c _ _⟩
    · rw [if_neg c]; exact H0 c
  | succ m ih =>
    intro k hk
    have n := N.2 k (by omega)
    have b := ok _ (getD_mem ((0 : Int), (0 : Int)) (show k < L.length by omega))
    have vb := vs_bd ok k (by omega)
    have g : h.r 59 8 = 66 ∧ h.tag 66 = 22 ∧ h.len 66 = 18 := by simp only [srt S, srl S, srf S, true_and, and_true, false_and, and_false, forall_eq, forall_eq', xi_wi, xr_wi, xt_wi, xl_wi, xn_wi, xs_wi, xi_wr, xr_wr, xt_wr, xl_wr, xn_wr, xs_wr, if_true, if_false, and_self, Int.reduceEq, Int.reduceLT, Int.reduceLE, Int.reduceNeg, Int.le_refl, Int.reduceMod]
    apply L_R_readWord_103
    rw [show h.i 59 10 = ((L.length : Nat) : Int) from N.1]
    rw [if_pos (show (k : Int) < ((L.length : Nat) : Int) by omega), g.1, g.2.2, n.2]
    refine ⟨(srt S).1, ⟨g.2.1, by omega, by omega⟩, ?_⟩
    have z := ih (k + 1) (by omega)
    rw [vs_s (by omega)] at z
    by_cases c : (L.getD k (0, 0)).2 = 0
    · rw [if_pos c]
      intro x1 e1 x2 e2
      rw [xw_id (by omega) (by omega)] at e1 e2
      rw [e1, e2, show (k : Int) + 1 = ((k + 1 : Nat) : Int) by push_cast; rfl]
      rw [c] at z
      exact z
    · rw [if_neg c]
      intro x1 e1 x2 e2
      rw [xw_id (by omega) (by omega)] at e1 e2
      rw [e1, e2, show (k : Int) + 1 = ((k + 1 : Nat) : Int) by push_cast; rfl]
      rw [show (L.getD k (0, 0)).2 = 1 by omega] at z
      exact z
def rwL2 : List Int := [65, 66, 67, 73, 74, 75]
theorem c_R_rw87 {P V : Int → Int} {Q : Int → xH → Prop} {B : Pcs} {u1 : xV} (hV : bits26 V) (ok : PcsOk B) (l16 : (ptx B).length ≤ 16) : ∀ (m j : Nat) (h : xH) (u6 u7 : xV), j + m = B.length → SR h → RLang h P V → RWd h B → (∀ i : Nat, i < j → vcL P V (B.getD i pc0).1 = 1) → (∀ h', Fr [65, 66, 67] [(59, 10), (59, 20)] h h' → gdB P V B → RWd h' B → h'.i 59 20 = (((ptx B).length : Nat) : Int) → Q ((B.length : Nat) : Int) h') → (∀ h', Fr [65, 66, 67] [(59, 10), (59, 20)] h h' → ¬ gdB P V B → Q (-1) h') → xT (d + 2) M_R_readWord 87 [(1, 59), u1, (0, ((B.length : Nat) : Int)), (0, (((ptx B).length : Nat) : Int)), (0, (((ptx (B.take j)).length : Nat) : Int)), (0, (j : Int)), u6, u7] [] h (xqi Q) := by
  have pl := pcs_len ok
  intro m
  induction m with
  | zero =>
    intro j h u6 u7 hj S RL_ W gd H1 H0
    apply L_R_readWord_87
    rw [if_neg (by omega)]
    refine ⟨(srt S).1, fun h2 e2 => ?_⟩
    refine H1 h2 (by rw [e2]; exact Fr_slot (Fr_refl _ _ _) _ (by decide)) ⟨fun p mp => ?_, l16⟩ ?_ (by rw [e2, xi_wi, if_pos ⟨rfl, rfl⟩])
    · obtain ⟨i, hi, ei⟩ := List.mem_iff_getElem.mp mp
      have := gd i (by omega)
      rw [List.getD_eq_getElem?_getD, List.getElem?_eq_getElem hi] at this
      have e : (some B[i]).getD pc0 = p := ei
      rw [e] at this
      exact this
    · have e : ∀ c : Int, c ≠ 59 → h2.i c = h.i c := fun c n => by rw [e2]; funext k; rw [xi_wi, if_neg (fun z => n z.1)]
      unfold RWd
      rw [e 73 (by decide), e 74 (by decide), e 75 (by decide)]
      exact W
  | succ m ih =>
    intro j h u6 u7 hj S RL_ W gd H1 H0
    have hjl : j < B.length := by omega
    have w := W.2 j hjl
    have pj := ok _ (getD_mem pc0 hjl)
    have sp := ptx_take_s hjl
    have le : (ptx (B.take (j + 1))).length ≤ (ptx B).length := by
      have e : ptx B = ptx (B.take (j + 1)) ++ ptx (B.drop (j + 1)) := by rw [← ptx_app, List.take_append_drop]
      rw [e, List.length_append]; omega
    have g : h.r 59 17 = 73 ∧ h.tag 73 = 21 ∧ h.len 73 = 240 ∧ h.r 59 18 = 74 ∧ h.tag 74 = 20 ∧ h.len 74 = 240 := by simp only [srt S, srl S, srf S, true_and, and_true, false_and, and_false, forall_eq, forall_eq', xi_wi, xr_wi, xt_wi, xl_wi, xn_wi, xs_wi, xi_wr, xr_wr, xt_wr, xl_wr, xn_wr, xs_wr, if_true, if_false, and_self, Int.reduceEq, Int.reduceLT, Int.reduceLE, Int.reduceNeg, Int.le_refl, Int.reduceMod]
    have let73 : ∀ k : Int, 0 ≤ k → k < (((B.getD j pc0).1.length : Nat) : Int) → h.i 73 ((((ptx (B.take j)).length : Nat) : Int) + k) = gD (B.getD j pc0).1 (0 + k) := fun k k0 k1 => by
      obtain ⟨i, rfl⟩ : ∃ i : Nat, k = (i : Int) := ⟨k.toNat, by omega⟩
      have pg := ptx_get hjl (k := i) (by omega)
      have := W.1 _ pg.1
      rw [pg.2] at this
      unfold gD
      rw [show (0 + (i : Int)).toNat = i by omega, ← this]
      congr 1
    have es : sgs P V (h.i 73) (((ptx (B.take j)).length : Nat) : Int) ((((ptx (B.take j)).length : Nat) : Int) + (((B.getD j pc0).1.length : Nat) : Int)) = sgs P V (gD (B.getD j pc0).1) 0 (((B.getD j pc0).1.length : Nat) : Int) := by
      have := sgs_eq (P := P) (V := V) (g := h.i 73) (g' := gD (B.getD j pc0).1) (a := (((ptx (B.take j)).length : Nat) : Int)) (a' := 0) (m := (((B.getD j pc0).1.length : Nat) : Int)) (by omega) let73
      rw [show 0 + (((B.getD j pc0).1.length : Nat) : Int) = (((B.getD j pc0).1.length : Nat) : Int) by omega] at this
      exact this
    have lt : lets (h.i 73) (((ptx (B.take j)).length : Nat) : Int) ((((ptx (B.take j)).length : Nat) : Int) + (((B.getD j pc0).1.length : Nat) : Int)) := fun k k0 k1 => by
      have := let73 (k - (((ptx (B.take j)).length : Nat) : Int)) (by omega) (by omega)
      rw [show (((ptx (B.take j)).length : Nat) : Int) + (k - (((ptx (B.take j)).length : Nat) : Int)) = k by omega] at this
      rw [this]
      unfold gD
      exact pj.2.1 _ (getD_mem 0 (by omega))
    apply L_R_readWord_87
    rw [if_pos (by omega), g.1, g.2.2.2.1, g.2.2.2.2.2, w.1]
    refine ⟨(srt S).1, ⟨g.2.2.2.2.1, by omega, by omega⟩, ?_⟩
    refine c_R_cutS (d := d) S RL_ (by omega) (by omega) (by omega) (by omega) g.2.1 (by rw [g.2.2.1]; omega) lt (by decide) (by decide) (by decide) (by decide) (fun h1 F1 N1 => ?_)
    rw [es] at N1
    have sok : ∀ p ∈ sgs P V (gD (B.getD j pc0).1) 0 (((B.getD j pc0).1.length : Nat) : Int), p.2 = 0 ∨ p.2 = 1 := fun p mp => by
      rw [← es] at mp
      exact (sgs_all hV lt p mp).1
    have sl := sgs_len (P := P) (V := V) (g := gD (B.getD j pc0).1) (a := 0) (e := (((B.getD j pc0).1.length : Nat) : Int)) (by omega)
    have F1' : Fr [65, 66, 67] [(59, 10), (59, 20)] h h1 := Fr_mono F1 (fun c m => m) (by decide)
    have S1 := SR_2 F1.1 S
    have r74 : h1.i 74 = h.i 74 := Fr_row F1 (by decide) (by decide)
    have W1 : RWd h1 B := by
      unfold RWd
      rw [Fr_row F1 (c := 73) (by decide) (by decide), r74, Fr_row F1 (c := 75) (by decide) (by decide)]
      exact W
    have RL1 : RLang h1 P V := RLang_row (Fr_row F1 (by decide) (by decide)) (Fr_row F1 (by decide) (by decide)) (Fr_row F1 (by decide) (by decide)) (Fr_row F1 (by decide) (by decide)) (F1.2 59 6 (by decide) (by decide)) RL_
    have ev : vs (sgs P V (gD (B.getD j pc0).1) 0 (((B.getD j pc0).1.length : Nat) : Int)) (sgs P V (gD (B.getD j pc0).1) 0 (((B.getD j pc0).1.length : Nat) : Int)).length = vcL P V (B.getD j pc0).1 := by
      unfold vs vcL
      rw [List.take_length]
    have := c_R_rw103 (d := d + 2) (Q := Q) (u1 := u1) (l2 := ((B.length : Nat) : Int)) (l3 := (((ptx B).length : Nat) : Int)) (l4 := (((ptx (B.take j)).length : Nat) : Int)) (l5 := (j : Int)) S1 N1 sok (by omega) (by omega) (by omega) (fun v1 u6 u7 x5 e5 x6 e6 => ?_) (fun v0 => ?_) _ 0 (Nat.zero_add _)
    · exact this
    · rw [r74, w.1, xw_id (by omega) (by omega)] at e5
      rw [xw_id (by omega) (by omega)] at e6
      rw [ev] at v1
      have z := ih (j + 1) h1 u6 u7 (by omega) S1 RL1 W1 (fun i hi => by
        by_cases c : i = j
        · rw [c]; exact v1
        · exact gd i (by omega)) (fun h' F => H1 h' (Fr_trans F1' F)) (fun h' F => H0 h' (Fr_trans F1' F))
      rw [e5, e6, show (((ptx (B.take j)).length : Nat) : Int) + (((B.getD j pc0).1.length : Nat) : Int) = (((ptx (B.take (j + 1))).length : Nat) : Int) by rw [sp]; push_cast; rfl, show (j : Int) + 1 = ((j + 1 : Nat) : Int) by push_cast; rfl]
      exact z
    · rw [ev] at v0
      exact H0 h1 F1' (fun gd' => v0 (gd'.1 _ (getD_mem pc0 hjl)))
theorem c_R_readWord {h : xH} {P V T : Int → Int} {n : Int} {r : List Int} {Q : Int → xH → Prop} (S : SR h) (RL_ : RLang h P V) (hV : bits26 V) (eT : h.i 60 = T) (hn : n = ((r.length : Nat) : Int)) (n240 : n ≤ 240) (tr : ∀ k : Nat, k < r.length → T k % 256 = r.getD k 0 ∧ -128 ≤ T k ∧ T k < 128) (H1 : ∀ h' B, Fr rwL2 [(59, 10), (59, 20)] h h' → rdW r [] [] = some B → gdB P V B → PcsOk B → RWd h' B → h'.i 59 20 = (((ptx B).length : Nat) : Int) → Q ((B.length : Nat) : Int) h') (H0 : ∀ h', Fr rwL2 [(59, 10), (59, 20)] h h' → (∀ B, rdW r [] [] = some B → ¬ gdB P V B) → Q (-1) h') : xCi (d + 3) M_R_readWord [(1, 59), (0, n)] h Q := by
  apply L_R_readWord
  have z := c_R_rw8 (d := d + 1) (T := T) (n := n) (Q := Q) n240 r [] [] h (9, 0) (9, 0) S eT (fun k hk => by rw [show n - ((r.length : Nat) : Int) + (k : Int) = (k : Int) by omega]; exact tr k hk) (by show (0 : Int) + 0 + _ ≤ n; omega) (fun c m => absurd m List.not_mem_nil) (fun p m => absurd m List.not_mem_nil) ⟨fun k hk => absurd hk (Nat.not_lt_zero _), fun j hj => absurd hj (Nat.not_lt_zero _)⟩ (fun k hk => absurd hk (Nat.not_lt_zero _)) (fun h' B' u6 u7 F e l o W' => ?_) (fun h' F no => ?_)
  · rw [show n - ((r.length : Nat) : Int) = 0 by omega] at z
    exact z
  · have F2 : Fr rwL2 [(59, 10), (59, 20)] h h' := Fr_mono F (by decide) (fun c m => absurd m List.not_mem_nil)
    have RL1 : RLang h' P V := RLang_row (Fr_row F (by decide) (by decide)) (Fr_row F (by decide) (by decide)) (Fr_row F (by decide) (by decide)) (Fr_row F (by decide) (by decide)) (F.2 59 6 (by decide) (by decide)) RL_
    have := c_R_rw87 (d := d) (Q := Q) (u1 := (0, n)) hV o l B'.length 0 h' u6 u7 (Nat.zero_add _) (SR_2 F.1 S) RL1 W' (fun i hi => absurd hi (Nat.not_lt_zero _)) (fun h2 F3 gd W2 t2 => H1 h2 B' (Fr_trans F2 (Fr_mono F3 (by decide) (fun c m => m))) e gd o W2 t2) (fun h2 F3 ng => H0 h2 (Fr_trans F2 (Fr_mono F3 (by decide) (fun c m => m))) (fun B'' e'' => by rw [e] at e''; rw [← Option.some.inj e'']; exact ng))
    exact this
  · exact H0 h' (Fr_mono F (by decide) (fun c m => absurd m List.not_mem_nil)) (fun B e gd => by have := no B e; have := gd.2; omega)
end RWS
