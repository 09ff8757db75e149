/-! word: both sides read what the bytes tell -/
theorem ptx_split {B : Pcs} {j : Nat} (hj : j < B.length) : ptx B = ptx (B.take j) ++ ((B.getD j pc0).1 ++ ptx (B.drop (j + 1))) := by
  have e : B = B.take j ++ (B.getD j pc0 :: B.drop (j + 1)) := by rw [← drop_c hj, List.take_append_drop]
  have e2 : ptx B = ptx (B.take j ++ (B.getD j pc0 :: B.drop (j + 1))) := by rw [← e]
  rw [e2, ptx_app]
  rfl
theorem ptx_get {B : Pcs} {j k : Nat} (hj : j < B.length) (hk : k < (B.getD j pc0).1.length) : (ptx (B.take j)).length + k < (ptx B).length ∧ (ptx B).getD ((ptx (B.take j)).length + k) 0 = (B.getD j pc0).1.getD k 0 := by
  rw [ptx_split hj]
  refine ⟨by rw [List.length_append, List.length_append]; omega, ?_⟩
  rw [getD_app_r 0 (by omega), Nat.add_sub_cancel_left, getD_app_l 0 hk]
theorem ptx_take_s {B : Pcs} {j : Nat} (hj : j < B.length) : (ptx (B.take (j + 1))).length = (ptx (B.take j)).length + (B.getD j pc0).1.length := by
  have e : B.take (j + 1) = B.take j ++ [B.getD j pc0] := by
    rw [List.take_succ_eq_append_getElem hj, List.getD_eq_getElem?_getD, List.getElem?_eq_getElem hj]; rfl
  rw [e, ptx_app, List.length_append]
  congr 1
  show (ptx [((B.getD j pc0).1, (B.getD j pc0).2)]).length = _
  rw [ptx_one]
theorem DrX_add {h h' : xH} {B : Pcs} {cur : List Int} {b e m tr q w : Int} (D : DrX h B) (A : AddO h h' 9 w q b e m tr ((B.length : Nat) : Int) (((ptx B).length : Nat) : Int)) (le : e - b = ((cur.length : Nat) : Int)) (src : ∀ k : Nat, k < cur.length → h.i q (b + k) = cur.getD k 0) : DrX h' (B ++ [(cur, m)]) := by
  obtain ⟨d1, d2, d3, d4⟩ := D
  obtain ⟨F, a1, a2, a3, a4, a5, a6⟩ := A
  refine ⟨?_, fun j hj => ?_, fun k hk => ?_, fun j hj => ?_⟩
  · rw [List.length_append]; show h'.i 9 6 = _; rw [a1]; push_cast; rfl
  · rw [List.length_append] at hj
    have hj : j ≤ B.length + 1 := hj
    show h'.i (9 + 2) j = _
    rw [a3]
    by_cases c : j = B.length + 1
    · rw [if_pos (by omega), c, le, show B.length + 1 = (B ++ [(cur, m)]).length by rw [List.length_append]; rfl, List.take_length, ptx_app, ptx_one, List.length_append]; push_cast; rfl
    · rw [if_neg (by omega), List.take_append_of_le_length (by omega)]
      exact d2 j (by omega)
  · rw [ptx_app, ptx_one] at hk ⊢
    rw [List.length_append] at hk
    show h'.i (9 + 1) k = _
    rw [a2]
    by_cases c : (ptx B).length ≤ k
    · rw [if_pos (by omega), getD_app_r 0 c, ← src (k - (ptx B).length) (by omega)]
      congr 1; omega
    · rw [if_neg (by omega), getD_app_l 0 (by omega)]
      exact d3 k (by omega)
  · rw [List.length_append] at hj
    have hj : j < B.length + 1 := hj
    show h'.i (9 + 4) j = _
    rw [a5]
    by_cases c : j = B.length
    · rw [if_pos (by omega), c, getD_app_r pc0 (Nat.le_refl _), Nat.sub_self]; rfl
    · rw [if_neg (by omega), getD_app_l pc0 (by omega)]
      exact d4 j (by omega)
theorem c_X_markOf {d : Nat} {h : xH} {Q : Int → xH → Prop} {c : Int} (H : Q (mkB c) h) : xCi (d + 1) M_Book_markOf [(0, c)] h Q := by
  apply L_Book_markOf
  unfold mkB at H
  by_cases a : c = 42
  · rw [if_pos a] at H ⊢; exact H
  rw [if_neg a] at H ⊢
  by_cases b : c = 43
  · rw [if_pos b] at H ⊢; exact H
  rw [if_neg b] at H ⊢
  by_cases e : c = 45
  · rw [if_pos e] at H; rw [if_neg (by omega), if_pos e]; exact H
  rw [if_neg e] at H
  by_cases f : c = 44
  · rw [if_pos f]; exact H
  · rw [if_neg f, if_neg e]; exact H
theorem c_X_isLet {d : Nat} {h : xH} {Q : Int → xH → Prop} {c : Int} (H : Q (if 97 ≤ c ∧ c ≤ 122 then 1 else 0) h) : xCi (d + 1) M_Language_isLetter [(0, c)] h Q := by
  apply L_Language_isLetter
  by_cases a : c < 97
  · rw [if_pos a]; rw [if_neg (by omega)] at H; exact H
  rw [if_neg a]
  by_cases b : c < 123
  · rw [if_pos b]; rw [if_pos (by omega)] at H; exact H
  · rw [if_neg b]; rw [if_neg (by omega)] at H; exact H
theorem c_R_isLet {d : Nat} {h : xH} {Q : Int → xH → Prop} {c : Int} (H : Q (if 97 ≤ c ∧ c ≤ 122 then 1 else 0) h) : xCi (d + 1) M_R_isLetter [(0, c)] h Q := by
  apply L_R_isLetter
  by_cases a : c < 97
  · rw [if_pos a]; rw [if_neg (by omega)] at H; exact H
  rw [if_neg a]
  by_cases b : 122 < c
  · rw [if_pos b]; rw [if_neg (by omega)] at H; exact H
  · rw [if_neg b]; rw [if_pos (by omega)] at H; exact H
def rtL : List Int := [10, 11, 12, 13, 14]
def rtS : List (Int × Int) := [(9, 6)]
theorem vcL_nil (P V : Int → Int) : vcL P V [] = 0 := by unfold vcL; rw [sgs_nil (by show ¬ (0 : Int) < 0; decide)]; rfl
theorem gdB_no {P V : Int → Int} {B C : Pcs} {cur : List Int} {m : Int} (n : vcL P V cur ≠ 1 ∨ 16 < (ptx B).length + cur.length) : ¬ gdB P V ((B ++ [(cur, m)]) ++ C) := by
  intro g
  have g := gdB_pre g
  rcases n with n | n
  · exact n (g.1 (cur, m) (List.mem_append_right _ List.mem_cons_self))
  · have := g.2
    rw [ptx_app, ptx_one, List.length_append] at this
    omega
theorem c_X_rt7 {d : Nat} {P V T : Int → Int} {n : Int} {Q : Int → xH → Prop} (hV : bits26 V) (n240 : n ≤ 240) : ∀ (r : List Int) (B : Pcs) (cur : List Int) (h : xH) (u5 : xV), SX h → h.i 6 = P → h.i 5 = V → h.i 3 = T → (∀ k : Nat, k < r.length → T (n - ((r.length : Nat) : Int) + k) = r.getD k 0) → (∀ k : Nat, k < cur.length → T (n - ((r.length : Nat) : Int) - ((cur.length : Nat) : Int) + k) = cur.getD k 0) → 0 ≤ n - ((r.length : Nat) : Int) - ((cur.length : Nat) : Int) → (∀ c ∈ cur, 97 ≤ c ∧ c ≤ 122) → PcsOk B → gdB P V B → DrX h B → (∀ h' B', Fr rtL rtS h h' → rdW r B cur = some B' → gdB P V B' → PcsOk B' → DrX h' B' → Q 1 h') → (∀ h', Fr rtL rtS h h' → h'.i 11 0 = 0 → (∀ B', rdW r B cur = some B' → ¬ gdB P V B') → Q 0 h') → xT (d + 3) M_Book_readTold 7 [(1, 7), (1, 3), (0, n), (0, n - ((r.length : Nat) : Int) - ((cur.length : Nat) : Int)), (0, n - ((r.length : Nat) : Int)), u5] [] h (xqi Q) := by
  intro r
  induction r with
  | nil =>
    intro B cur h u5 SX_ eP eV eT tr tc b0 lc ok gd D H1 H0
    have d0 : h.i 11 0 = 0 := by have := D.2.1 0 (Nat.zero_le _); exact this
    have e0 : (([] : List Int).length : Int) = 0 := rfl
    apply L_Book_readTold_7
    rw [e0, Int.sub_zero, if_neg (by omega)]
    simp only [sxt SX_, sxl SX_, sxf SX_, true_and, and_true, false_and, and_false, forall_eq, forall_eq', xi_wi, xr_wi, xt_wi, xl_wi, xn_wi, xs_wi, xi_wr, xr_wr, xt_wr, xl_wr, xn_wr, xs_wr, if_true, if_false, and_self, Int.reduceEq, Int.reduceLT, Int.reduceLE, Int.reduceNeg, Int.le_refl, Int.reduceMod]
    rw [show h.i 9 6 = ((B.length : Nat) : Int) from D.1]
    by_cases c1 : 0 < B.length
    · rw [if_pos (by omega)]
      by_cases c2 : cur.length = 0
      · rw [if_pos (by omega)]
        exact H1 h B (Fr_refl _ _ _) (by unfold rdW; rw [if_pos ⟨c1, c2⟩]) gd ok D
      · rw [if_neg (by omega)]
        exact H0 h (Fr_refl _ _ _) d0 (fun B' e => by unfold rdW at e; rw [if_neg (fun z => c2 z.2)] at e; cases e)
    · rw [if_neg (by omega)]
      exact H0 h (Fr_refl _ _ _) d0 (fun B' e => by unfold rdW at e; rw [if_neg (fun z => c1 z.1)] at e; cases e)
  | cons c r ih =>
    intro B cur h u5 SX_ eP eV eT tr tc b0 lc ok gd D H1 H0
    have d0 : h.i 11 0 = 0 := by have := D.2.1 0 (Nat.zero_le _); exact this
    have ec : (((c :: r).length : Nat) : Int) = ((r.length : Nat) : Int) + 1 := by rw [List.length_cons]; push_cast; rfl
    have t0 : T (n - (((r.length : Nat) : Int) + 1)) = c := by
      have := tr 0 (by rw [List.length_cons]; omega)
      rw [ec] at this
      rw [show n - (((r.length : Nat) : Int) + 1) + ((0 : Nat) : Int) = n - (((r.length : Nat) : Int) + 1) by omega] at this
      exact this
    rw [ec] at tc b0 ⊢
    have tr' : ∀ k : Nat, k < r.length → T (n - ((r.length : Nat) : Int) + k) = r.getD k 0 := fun k hk => by
      have := tr (k + 1) (by rw [List.length_cons]; omega)
      rw [ec] at this
      rw [show n - ((r.length : Nat) : Int) + (k : Int) = n - (((r.length : Nat) : Int) + 1) + ((k + 1 : Nat) : Int) by push_cast; omega, this]
      rfl
    have t3 : h.tag 3 = 20 ∧ h.len 3 = 240 ∧ h.tag 7 = 0 ∧ h.r 7 0 = 4 ∧ h.tag 4 = 2 ∧ h.r 7 3 = 9 ∧ h.tag 9 = 9 := by simp only [sxt SX_, sxl SX_, sxf SX_, true_and, and_true, false_and, and_false, forall_eq, forall_eq', xi_wi, xr_wi, xt_wi, xl_wi, xn_wi, xs_wi, xi_wr, xr_wr, xt_wr, xl_wr, xn_wr, xs_wr, if_true, if_false, and_self, Int.reduceEq, Int.reduceLT, Int.reduceLE, Int.reduceNeg, Int.le_refl, Int.reduceMod]
    apply L_Book_readTold_7
    rw [if_pos (by omega), t3.2.1, if_pos (by omega), eT, t0]
    refine ⟨t3.1, ⟨t3.1, by omega, by omega⟩, ?_⟩
    refine c_X_isLet ?_
    by_cases c1 : 97 ≤ c ∧ c ≤ 122
    · rw [if_pos c1, if_neg (by decide)]
      intro x3 e3
      rw [xw_id (by omega) (by omega)] at e3
      have lcur : (((cur ++ [c]).length : Nat) : Int) = ((cur.length : Nat) : Int) + 1 := by rw [List.length_append]; push_cast; rfl
      have z := ih B (cur ++ [c]) h u5 SX_ eP eV eT tr' (fun k hk => by
        rw [lcur]
        rw [List.length_append] at hk
        have hk : k < cur.length + 1 := hk
        by_cases ck : k = cur.length
        · rw [ck, getD_app_r 0 (Nat.le_refl _), Nat.sub_self, show n - ((r.length : Nat) : Int) - (((cur.length : Nat) : Int) + 1) + ((cur.length : Nat) : Int) = n - (((r.length : Nat) : Int) + 1) by omega, t0]; rfl
        · rw [getD_app_l 0 (by omega), ← tc k (by omega)]
          congr 1; omega) (by rw [lcur]; omega) (fun x m => by
        rw [List.mem_append, List.mem_singleton] at m
        rcases m with m | m
        · exact lc x m
        · rw [m]; exact c1) ok gd D (fun h' B' F e g o D' => H1 h' B' F (by unfold rdW; rw [if_pos c1]; exact e) g o D') (fun h' F z0 n' => H0 h' F z0 (fun B' e => by unfold rdW at e; rw [if_pos c1] at e; exact n' B' e))
      rw [lcur] at z
      rw [e3, show n - (((r.length : Nat) : Int) + 1) - ((cur.length : Nat) : Int) = n - ((r.length : Nat) : Int) - (((cur.length : Nat) : Int) + 1) by omega, show n - (((r.length : Nat) : Int) + 1) + 1 = n - ((r.length : Nat) : Int) by omega]
      exact z
    · rw [if_neg c1, if_pos rfl, eT, t0]
      refine ⟨⟨t3.1, by omega, by omega⟩, ?_⟩
      refine c_X_markOf ?_
      by_cases c2 : mkB c = -1
      · rw [if_pos c2]
        exact H0 h (Fr_refl _ _ _) d0 (fun B' e => by unfold rdW at e; rw [if_neg c1, if_pos c2] at e; cases e)
      · rw [if_neg c2, t3.2.2.2.1]
        refine ⟨t3.2.2.1, t3.2.2.2.2.1, ?_⟩
        have tcl : ∀ k : Int, 0 ≤ k → k < ((cur.length : Nat) : Int) → h.i 3 (n - (((r.length : Nat) : Int) + 1) - ((cur.length : Nat) : Int) + k) = gD cur (0 + k) := fun k k0 k1 => by
          obtain ⟨i, rfl⟩ : ∃ i : Nat, k = (i : Int) := ⟨k.toNat, by omega⟩
          rw [eT, tc i (by omega)]
          unfold gD
          rw [show (0 + (i : Int)).toNat = i by omega]
        have lets3 : lets (h.i 3) (n - (((r.length : Nat) : Int) + 1) - ((cur.length : Nat) : Int)) (n - (((r.length : Nat) : Int) + 1)) := fun k k0 k1 => by
          obtain ⟨i, hi⟩ : ∃ i : Nat, k = n - (((r.length : Nat) : Int) + 1) - ((cur.length : Nat) : Int) + (i : Int) := ⟨(k - (n - (((r.length : Nat) : Int) + 1) - ((cur.length : Nat) : Int))).toNat, by omega⟩
          rw [hi, eT, tc i (by omega)]
          exact lc _ (getD_mem 0 (by omega))
        have es : sgs P V (h.i 3) (n - (((r.length : Nat) : Int) + 1) - ((cur.length : Nat) : Int)) (n - (((r.length : Nat) : Int) + 1)) = sgs P V (gD cur) 0 ((cur.length : Nat) : Int) := by
          have := sgs_eq (P := P) (V := V) (g := h.i 3) (g' := gD cur) (a := n - (((r.length : Nat) : Int) + 1) - ((cur.length : Nat) : Int)) (a' := 0) (m := ((cur.length : Nat) : Int)) (by omega) tcl
          rw [show n - (((r.length : Nat) : Int) + 1) - ((cur.length : Nat) : Int) + ((cur.length : Nat) : Int) = n - (((r.length : Nat) : Int) + 1) by omega, show 0 + ((cur.length : Nat) : Int) = ((cur.length : Nat) : Int) by omega] at this
          exact this
        refine c_X_vsum (d := d) SX_ t3.1 (by rw [t3.2.1]; omega) (by omega) (by rw [eV]; exact hV) b0 lets3 ?_
        rw [eP, eV, es]
        have st : cur.length ≠ 0 → rdW (c :: r) B cur = rdW r (B ++ [(cur, mkB c)]) [] := fun z => by
          show (if 97 ≤ c ∧ c ≤ 122 then _ else _) = _
          rw [if_neg c1, if_neg c2, if_neg z]
        by_cases c3 : vcL P V cur = 1
        · have c4 : cur.length ≠ 0 := fun z => by
            have : cur = [] := List.length_eq_zero_iff.mp z
            rw [this, vcL_nil] at c3
            exact absurd c3 (by decide)
          rw [if_pos (show (List.map (fun p => p.2) (sgs P V (gD cur) 0 ((cur.length : Nat) : Int))).sum = 1 from c3), t3.2.2.2.2.2.1]
          refine ⟨t3.2.2.1, t3.2.2.2.2.2.2, ?_⟩
          have pl := pcs_len ok
          have mr := mkB_rg c2
          have g9 : h.r 9 0 = 9 + 1 ∧ h.r 9 1 = 9 + 2 ∧ h.r 9 2 = 9 + 3 ∧ h.r 9 3 = 9 + 4 ∧ h.r 9 4 = 9 + 5 := by simp only [sxt SX_, sxl SX_, sxf SX_, true_and, and_true, false_and, and_false, forall_eq, forall_eq', xi_wi, xr_wi, xt_wi, xl_wi, xn_wi, xs_wi, xi_wr, xr_wr, xt_wr, xl_wr, xn_wr, xs_wr, if_true, if_false, and_self, Int.reduceEq, Int.reduceLT, Int.reduceLE, Int.reduceNeg, Int.le_refl, Int.reduceMod]; decide
          have w9 : (h.tag (9 + 1) = 20 ∧ h.tag (9 + 2) = 20 ∧ h.tag (9 + 3) = 20 ∧ h.tag (9 + 4) = 20 ∧ h.tag (9 + 5) = 20) ∧ h.len (9 + 1) = 16 ∧ h.len (9 + 2) = 16 + 1 ∧ h.len (9 + 3) = 16 ∧ h.len (9 + 4) = 16 ∧ h.len (9 + 5) = 16 := by
            show (h.tag 10 = 20 ∧ h.tag 11 = 20 ∧ h.tag 12 = 20 ∧ h.tag 13 = 20 ∧ h.tag 14 = 20) ∧ h.len 10 = 16 ∧ h.len 11 = 17 ∧ h.len 12 = 16 ∧ h.len 13 = 16 ∧ h.len 14 = 16
            simp only [sxt SX_, sxl SX_, sxf SX_, true_and, and_true, false_and, and_false, forall_eq, forall_eq', xi_wi, xr_wi, xt_wi, xl_wi, xn_wi, xs_wi, xi_wr, xr_wr, xt_wr, xl_wr, xn_wr, xs_wr, if_true, if_false, and_self, Int.reduceEq, Int.reduceLT, Int.reduceLE, Int.reduceNeg, Int.le_refl, Int.reduceMod]
          have stE : h.i (9 + 2) ((B.length : Nat) : Int) = (((ptx B).length : Nat) : Int) := by
            have := D.2.1 B.length (Nat.le_refl _)
            rw [List.take_length] at this
            exact this
          have g16 := gd.2
          refine c_X_add (d := d + 1) (N := 16) (L := 16) t3.2.2.2.2.2.2 g9.1 g9.2.1 g9.2.2.1 g9.2.2.2.1 g9.2.2.2.2 w9.1 w9.2 D.1 (by omega) (by omega) (by decide) stE (by omega) (by omega) (by decide) t3.1 b0 (by omega) (by rw [t3.2.1]; omega) (by omega) (fun s1 s2 h1 A => ?_) (fun no => ?_)
          · rw [if_neg (by decide)]
            intro x1 e1 x2 e2
            rw [xw_id (by omega) (by omega)] at e1 e2
            have F1 : Fr rtL rtS h h1 := A.1
            have D1 := DrX_add (cur := cur) D A (by omega) (fun k hk => by rw [eT]; exact tc k hk)
            have ok1 := PcsOk_app ok (by omega) lc mr
            have gd1 : gdB P V (B ++ [(cur, mkB c)]) := by
              refine ⟨fun p m => ?_, ?_⟩
              · rw [List.mem_append, List.mem_singleton] at m
                rcases m with m | m
                · exact gd.1 p m
                · rw [m]; exact c3
              · rw [ptx_app, ptx_one, List.length_append]; omega
            have z := ih (B ++ [(cur, mkB c)]) [] h1 (0, mkB c) (SX_2 F1.1 SX_) (by rw [Fr_row F1 (by decide) (by decide)]; exact eP) (by rw [Fr_row F1 (by decide) (by decide)]; exact eV) (by rw [Fr_row F1 (by decide) (by decide)]; exact eT) tr' (fun k hk => absurd hk (Nat.not_lt_zero _)) (by show 0 ≤ n - ((r.length : Nat) : Int) - 0; omega) (fun x m => absurd m List.not_mem_nil) ok1 gd1 D1 (fun h' B' F e g o D' => H1 h' B' (Fr_trans F1 F) (by rw [st c4]; exact e) g o D') (fun h' F z0 n' => H0 h' (Fr_trans F1 F) z0 (fun B' e => by rw [st c4] at e; exact n' B' e))
            rw [e1, e2, show n - (((r.length : Nat) : Int) + 1) + 1 = n - ((r.length : Nat) : Int) by omega]
            rw [show n - ((r.length : Nat) : Int) - ((([] : List Int).length : Nat) : Int) = n - ((r.length : Nat) : Int) by show n - ((r.length : Nat) : Int) - 0 = _; omega] at z
            exact z
          · rw [if_pos rfl]
            refine H0 h (Fr_refl _ _ _) d0 (fun B' e => ?_)
            rw [st c4] at e
            obtain ⟨C, eC⟩ := rdW_pre _ _ _ _ e
            rw [eC]
            exact gdB_no (Or.inr (by omega))
        · rw [if_neg (show ¬ (List.map (fun p => p.2) (sgs P V (gD cur) 0 ((cur.length : Nat) : Int))).sum = 1 from c3)]
          refine H0 h (Fr_refl _ _ _) d0 (fun B' e => ?_)
          by_cases c4 : cur.length = 0
          · unfold rdW at e
            rw [if_neg c1, if_neg c2, if_pos c4] at e
            cases e
          · rw [st c4] at e
            obtain ⟨C, eC⟩ := rdW_pre _ _ _ _ e
            rw [eC]
            exact gdB_no (Or.inl c3)
theorem c_X_readTold {d : Nat} {h : xH} {P V : Int → Int} {n : Int} {r : List Int} {Q : Int → xH → Prop} (SX_ : SX h) (eP : h.i 6 = P) (eV : h.i 5 = V) (hV : bits26 V) (z : h.i 11 0 = 0) (hn : n = ((r.length : Nat) : Int)) (n240 : n ≤ 240) (tr : ∀ k : Nat, k < r.length → h.i 3 k = r.getD k 0) (H1 : ∀ h' B, Fr rtL rtS h h' → rdW r [] [] = some B → gdB P V B → PcsOk B → DrX h' B → Q 1 h') (H0 : ∀ h', Fr rtL rtS h h' → h'.i 11 0 = 0 → (∀ B, rdW r [] [] = some B → ¬ gdB P V B) → Q 0 h') : xCi (d + 4) M_Book_readTold [(1, 7), (1, 3), (0, n)] h Q := by
  apply L_Book_readTold
  simp only [sxt SX_, sxl SX_, sxf SX_, true_and, and_true, false_and, and_false, forall_eq, forall_eq', xi_wi, xr_wi, xt_wi, xl_wi, xn_wi, xs_wi, xi_wr, xr_wr, xt_wr, xl_wr, xn_wr, xs_wr, if_true, if_false, and_self, Int.reduceEq, Int.reduceLT, Int.reduceLE, Int.reduceNeg, Int.le_refl, Int.reduceMod]
  apply L_Syllables_empty
  refine ⟨(by simp only [sxt SX_, sxl SX_, sxf SX_, true_and, and_true, false_and, and_false, forall_eq, forall_eq', xi_wi, xr_wi, xt_wi, xl_wi, xn_wi, xs_wi, xi_wr, xr_wr, xt_wr, xl_wr, xn_wr, xs_wr, if_true, if_false, and_self, Int.reduceEq, Int.reduceLT, Int.reduceLE, Int.reduceNeg, Int.le_refl, Int.reduceMod]), fun h1 e1 => ?_⟩
  have F1 : Fr rtL rtS h h1 := by rw [e1]; exact Fr_slot (Fr_refl _ _ _) _ (by decide)
  have b6 : h1.i 9 6 = 0 := by rw [e1, xi_wi, if_pos ⟨rfl, rfl⟩]
  have e3 : h1.i 3 = h.i 3 := Fr_row F1 (by decide) (by decide)
  have e11 : h1.i 11 0 = 0 := by rw [e1, xi_wi, if_neg (fun y => absurd y.1 (by decide))]; exact z
  have := c_X_rt7 (d := d) (T := h1.i 3) (n := n) (Q := Q) hV n240 r [] [] h1 (9, 0) (SX_2 F1.1 SX_) (by rw [Fr_row F1 (by decide) (by decide)]; exact eP) (by rw [Fr_row F1 (by decide) (by decide)]; exact eV) rfl (fun k hk => by rw [e3, show n - ((r.length : Nat) : Int) + (k : Int) = (k : Int) by omega]; exact tr k hk) (fun k hk => absurd hk (Nat.not_lt_zero _)) (by show 0 ≤ n - _ - 0; omega) (fun c m => absurd m List.not_mem_nil) (fun p m => absurd m List.not_mem_nil) ⟨fun p m => absurd m List.not_mem_nil, by decide⟩ ⟨b6, fun j hj => by have : j = 0 := Nat.le_zero.mp hj; rw [this]; exact e11, fun k hk => absurd hk (Nat.not_lt_zero _), fun j hj => absurd hj (Nat.not_lt_zero _)⟩ (fun h' B F e g o D => H1 h' B (Fr_trans F1 F) e g o D) (fun h' F z0 no => H0 h' (Fr_trans F1 F) z0 no)
  rw [show n - ((r.length : Nat) : Int) = 0 by omega, show (0 : Int) - ((([] : List Int).length : Nat) : Int) = 0 by decide] at this
  exact this
