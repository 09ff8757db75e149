/-! the class' walker: all steps that may come next, their values, one taken -/
section WL
variable {p f : Int} {E : SEn} {b : Bool} {d : Nat} {s : Stt}
theorem t35_ {h : xH} (SX_ : SX h) : h.tag 35 = 10 := (sxt SX_).2.2.2.2.2.2.2.2.2.2.2.2.2.2.2.2.2.2.2.2.2.2.2.2.2.2.2.2.2.2.2.2.2.1
theorem t28_ {h : xH} (SX_ : SX h) : h.tag 28 = 8 := (sxt SX_).2.2.2.2.2.2.2.2.2.2.2.2.2.2.2.2.2.2.2.2.2.2.2.2.2.2.1
theorem c_X_listCh {h : xH} {Q : xH → Prop} {ft q g c : Int} {A : List Op_} (W : WkA h p f E b s) (F : FOk (E 8 g) (E 9 g) (E 10 g) (E 11 g) (fun k => E 12 (4 * g + k))) (B : FTab h ft (E 8 g) (E 9 g) (E 10 g) (E 11 g) (fun k => E 12 (4 * g + k))) (q0 : 0 ≤ q) (q1 : q < E 5 0) (g0 : 0 ≤ g) (g1 : g < 12) (c0 : 0 ≤ c) (c1 : c ≤ 16) (s0 : 0 ≤ s.1) (s1 : s.1 < E 0 0) (ln : A.length + 4 ≤ 64) (M : MvP h A s.1) (H : ∀ h', Fr mvL mvS h h' → MvP h' (A ++ scCs E s.1 q g c) s.1 → Q h') : xCv (d + 3) M_Walker_listChoices [(1, 35), (1, ft), (0, c), (0, q), (0, g)] h Q := by
  have SX_ := W.1.1.1
  have L := W.1.1.2.2.2.2.1
  have n40 := W.1.1.2.2.2.1.2.1
  unfold XLe at L
  have tp := L.1
  have z := (L.2.2.2.2.2.2.2.2.2.2.2.2 s.1 s0 s1).2.1
  apply L_Walker_listChoices
  refine ⟨t35_ SX_, ?_⟩
  refine c_X_wOver W ?_
  rw [if_pos s1, if_pos rfl]
  simp only [sxt SX_, sxl SX_, sxf SX_, W.2.2.1, tp, W.2.2.2.2.1, true_and, and_true, false_and, and_false, forall_eq, forall_eq', xi_wi, xr_wi, xt_wi, xl_wi, xn_wi, xs_wi, xi_wr, xr_wr, xt_wr, xl_wr, xn_wr, xs_wr, if_true, if_false, and_self, Int.reduceEq, Int.reduceLT, Int.reduceLE, Int.reduceNeg, Int.le_refl, Int.reduceMod]
  rw [if_neg (by omega), z]
  refine ⟨⟨L.2.2.2.1, s0, by have := L.2.2.2.2.2.2.1; omega⟩, ?_⟩
  exact c_lc_16 F q0 q1 g0 g1 c0 c1 s0 s1 ln 2 0 h _ _ _ _ _ _ _ (by decide) W B (by show MvP h (A ++ []) s.1; rw [List.append_nil]; exact M) H
theorem c_lp_2 {q : Int} {Q : xH → Prop} (q0 : 0 ≤ q) (q1 : q < E 5 0) (s0 : 0 ≤ s.1) (s1 : s.1 < E 0 0) : ∀ (n m : Nat) (h : xH) (A : List Op_) (u3 : xV), m + n = 12 → WkA h p f E b s → MvP h (A ++ scPosN E s.1 q m) s.1 → A.length + 48 ≤ 64 → (∀ h', Fr mvL mvS h h' → MvP h' (A ++ scPosN E s.1 q 12) s.1 → Q h') → xT (d + 3) M_Walker_listPosition 2 [(1, 35), (0, q), (0, (m : Int)), u3] [] h (xqv Q) := by
  intro n
  induction n with
  | zero =>
    intro m h A u3 hm W M ln H
    have e : m = 12 := by omega
    subst e
    apply L_Walker_listPosition_2
    rw [if_neg (by decide)]
    exact H h (Fr_refl _ _ _) M
  | succ n ih =>
    intro m h A u3 hm W M ln H
    have SX_ := W.1.1.1
    have ok := W.1.1.2.2.2.1
    have p8 := ok.2.2.2.2.1
    apply L_Walker_listPosition_2
    rw [if_pos (by omega)]
    simp only [sxt SX_, sxl SX_, sxf SX_, W.2.2.2.1, true_and, and_true, false_and, and_false, forall_eq, forall_eq', xi_wi, xr_wi, xt_wi, xl_wi, xn_wi, xs_wi, xi_wr, xr_wr, xt_wr, xl_wr, xn_wr, xs_wr, if_true, if_false, and_self, Int.reduceEq, Int.reduceLT, Int.reduceLE, Int.reduceNeg, Int.le_refl, Int.reduceMod]
    refine c_X_footAt (d := d) W.1.1 q0 (by omega) (by omega) (by omega) ?_
    rw [xw_id (a := (m : Int) + 1) (by omega) (by omega), show ((m : Int) + 1) = ((m + 1 : Nat) : Int) by push_cast; rfl]
    have ft := W.1.1.2.2.2.2.2.2.2.2.2.2.2 (m : Int) (by omega) (by omega)
    by_cases c : q < E 5 0 ∧ scStand E q (m : Int) = true
    · have F := sc_stand ok (by omega) (by omega) c.2
      have ft' := ft.resolve_left (fun z => by have := F.1; omega)
      rw [if_pos c, if_neg ft'.1]
      refine ⟨t35_ SX_, ?_⟩
      have := scPosN_len (E := E) (i := s.1) (q := q) m
      refine c_X_listCh (d := d) W F ft'.2.2 q0 q1 (by omega) (by omega) (by decide) (by decide) s0 s1 (by rw [List.length_append]; omega) M (fun h1 F1 M1 => ?_)
      refine ih (m + 1) h1 A _ (by omega) (WkA_m F1 W) ?_ ln (fun h2 F2 M2 => H h2 (Fr_trans F1 F2) M2)
      rw [scPosN_succ, if_pos c.2, ← List.append_assoc]
      exact M1
    · rw [if_neg c, if_pos rfl]
      refine ih (m + 1) h A _ (by omega) W ?_ ln H
      rw [scPosN_succ, if_neg (fun z => c ⟨q1, z⟩), List.append_nil]
      exact M
theorem c_X_listPos {q : Int} {h : xH} {Q : xH → Prop} {A : List Op_} (W : WkA h p f E b s) (q0 : 0 ≤ q) (q1 : q < E 5 0) (s0 : 0 ≤ s.1) (s1 : s.1 < E 0 0) (M : MvP h A s.1) (ln : A.length + 48 ≤ 64) (H : ∀ h', Fr mvL mvS h h' → MvP h' (A ++ scPosN E s.1 q 12) s.1 → Q h') : xCv (d + 4) M_Walker_listPosition [(1, 35), (0, q)] h Q := by
  apply L_Walker_listPosition
  exact c_lp_2 q0 q1 s0 s1 12 0 h A _ (by decide) W (by show MvP h (A ++ []) s.1; rw [List.append_nil]; exact M) ln H
theorem c_lm_105 {q g c : Int} {h : xH} {Q : xH → Prop} {A : List Op_} {u1 u3 u4 u5 : xV} (W : WkA h p f E b s) (hs : s = (s.1, q, g, c)) (q0 : 0 ≤ q) (q1 : q < E 5 0) (s0 : 1 ≤ s.1) (s1 : s.1 < E 0 0) (M : MvP h A s.1) (ln : A.length ≤ 5) (l : (scEnd E g c && (scLast E (s.1 - 1) || !scCut E q)) = true) (H : ∀ h', Fr mvL mvS h h' → MvP h' (A ++ scLv E s.1 q g c) s.1 → Q h') : xT (d + 4) M_Walker_listMoves 105 [(1, 35), u1, (0, q), u3, u4, u5] [] h (xqv Q) := by
  have SX_ := W.1.1.1
  have ok := W.1.1.2.2.2.1
  have p8 := ok.2.2.2.2.1
  have n40 := ok.2.1
  unfold scLv at H
  rw [if_pos l] at H
  apply L_Walker_listMoves_105
  simp only [sxt SX_, sxl SX_, sxf SX_, W.2.2.2.1, true_and, and_true, false_and, and_false, forall_eq, forall_eq', xi_wi, xr_wi, xt_wi, xl_wi, xn_wi, xs_wi, xi_wr, xr_wr, xt_wr, xl_wr, xn_wr, xs_wr, if_true, if_false, and_self, Int.reduceEq, Int.reduceLT, Int.reduceLE, Int.reduceNeg, Int.le_refl, Int.reduceMod]
  refine c_X_positions W.1.1 ?_
  rw [xw_id (a := q + 1) (by omega) (by omega)]
  by_cases l2 : q + 1 < E 5 0
  · rw [if_pos l2]
    rw [if_pos l2] at H
    exact ⟨t35_ SX_, c_X_listPos W (by omega) l2 (by omega) s1 M (by omega) H⟩
  · rw [if_neg l2]
    rw [if_neg l2] at H
    simp only [sxt SX_, sxl SX_, sxf SX_, W.2.2.2.2.1, true_and, and_true, false_and, and_false, forall_eq, forall_eq', xi_wi, xr_wi, xt_wi, xl_wi, xn_wi, xs_wi, xi_wr, xr_wr, xt_wr, xl_wr, xn_wr, xs_wr, if_true, if_false, and_self, Int.reduceEq, Int.reduceLT, Int.reduceLE, Int.reduceNeg, Int.le_refl, Int.reduceMod]
    refine c_X_extra W.1 (by omega) (by omega) ?_
    by_cases l3 : scEx E s.1 < 0
    · rw [if_pos l3]
      rw [if_neg (by omega), List.append_nil] at H
      exact H h (Fr_refl _ _ _) M
    · rw [if_neg l3]
      rw [if_pos (by omega)] at H
      refine ⟨t35_ SX_, ?_⟩
      apply L_Walker_stepOf
      simp only [sxt SX_, sxl SX_, sxf SX_, W.2.2.2.2.1, true_and, and_true, false_and, and_false, forall_eq, forall_eq', xi_wi, xr_wi, xt_wi, xl_wi, xn_wi, xs_wi, xi_wr, xr_wr, xt_wr, xl_wr, xn_wr, xs_wr, if_true, if_false, and_self, Int.reduceEq, Int.reduceLT, Int.reduceLE, Int.reduceNeg, Int.le_refl, Int.reduceMod]
      refine c_X_extra W.1 (by omega) (by omega) ?_
      simp only [sxt SX_, sxl SX_, sxf SX_, true_and, and_true, false_and, and_false, forall_eq, forall_eq', xi_wi, xr_wi, xt_wi, xl_wi, xn_wi, xs_wi, xi_wr, xr_wr, xt_wr, xl_wr, xn_wr, xs_wr, if_true, if_false, and_self, Int.reduceEq, Int.reduceLT, Int.reduceLE, Int.reduceNeg, Int.le_refl, Int.reduceMod]
      have en : s.1 + 1 = E 0 0 := by
        unfold scEx at l3
        by_cases z : 0 < s.1 ∧ s.1 + 1 = E 0 0 ∧ E 1 s.1 ≠ 1
        · exact z.2.1
        · rw [if_neg z] at l3; omega
      refine c_X_addMove (o := ((5, -1, -1, -1, -1), scEx E s.1, (E 0 0, -2, 0, 0))) SX_ M (by omega) (pk_far (by omega) (by omega) (by decide) (by decide) _) rfl (by show (1 : Int) = E 0 0 - s.1; omega) rfl H
theorem c_lm_90 {ft q g c : Int} {h : xH} {Q : xH → Prop} {A : List Op_} {u3 : xV} (W : WkA h p f E b s) (hs : s = (s.1, q, g, c)) (B : FTab h ft (E 8 g) (E 9 g) (E 10 g) (E 11 g) (fun k => E 12 (4 * g + k))) (fn : ft ≠ 0) (q0 : 0 ≤ q) (q1 : q < E 5 0) (c0 : 0 ≤ c) (c1 : c ≤ 16) (s0 : 1 ≤ s.1) (s1 : s.1 < E 0 0) (M : MvP h A s.1) (ln : A.length ≤ 5) (H : ∀ h', Fr mvL mvS h h' → MvP h' (A ++ scLv E s.1 q g c) s.1 → Q h') : xT (d + 4) M_Walker_listMoves 90 [(1, 35), (0, c), (0, q), u3, (1, ft), (0, b2i (scLast E (s.1 - 1)))] [] h (xqv Q) := by
  have SX_ := W.1.1.1
  have ok := W.1.1.2.2.2.1
  have p8 := ok.2.2.2.2.1
  have stop : ¬ ((scEnd E g c && (scLast E (s.1 - 1) || !scCut E q)) = true) → Q h := fun z => by
    unfold scLv at H
    rw [if_neg z, List.append_nil] at H
    exact H h (Fr_refl _ _ _) M
  apply L_Walker_listMoves_90
  rw [if_neg fn]
  refine ⟨B.2.2.1, ?_⟩
  refine c_X_mayEnd B c0 c1 ?_
  change (if b2i (scEnd E g c) = 0 then _ else _)
  cases e : scEnd E g c
  · rw [b2i_0, if_pos rfl]
    exact stop (by rw [e, Bool.false_and]; decide)
  · rw [b2i_1, if_neg (by decide)]
    cases w : scLast E (s.1 - 1)
    · rw [b2i_0, if_pos rfl]
      simp only [sxt SX_, sxl SX_, sxf SX_, W.2.2.2.1, true_and, and_true, false_and, and_false, forall_eq, forall_eq', xi_wi, xr_wi, xt_wi, xl_wi, xn_wi, xs_wi, xi_wr, xr_wr, xt_wr, xl_wr, xn_wr, xs_wr, if_true, if_false, and_self, Int.reduceEq, Int.reduceLT, Int.reduceLE, Int.reduceNeg, Int.le_refl, Int.reduceMod]
      refine c_X_cutB W.1.1 q0 (by omega) ?_
      cases cu : scCut E q
      · rw [b2i_0, if_pos rfl]
        exact c_lm_105 W hs q0 q1 s0 s1 M ln (by rw [e, cu]; cases scLast E (s.1 - 1) <;> rfl) H
      · rw [b2i_1, if_neg (by decide)]
        exact stop (by rw [e, cu, w]; decide)
    · rw [b2i_1, if_neg (by decide)]
      exact c_lm_105 W hs q0 q1 s0 s1 M ln (by rw [e, w]; rfl) H
theorem c_X_list {h : xH} {Q : xH → Prop} (W : WkA h p f E b s) (k : scOk E s) (H : ∀ h', Fr mvL mvS h h' → MvP h' (scOps E s) s.1 → Q h') : xCv (d + 5) M_Walker_listMoves [(1, 35)] h Q := by
  have SX_ := W.1.1.1
  have ok := W.1.1.2.2.2.1
  have p8 := ok.2.2.2.2.1
  have n40 := ok.2.1
  have n1 := ok.1
  have si := scOk_i ok k
  have F1 : Fr mvL mvS h (h.wi 35 10 0) := Fr_slot (Fr_refl _ _ _) _ (by decide)
  have W1 := WkA_m F1 W
  have M1 : MvP (h.wi 35 10 0) [] s.1 := ⟨by simp only [true_and, and_true, false_and, and_false, forall_eq, forall_eq', xi_wi, xr_wi, xt_wi, xl_wi, xn_wi, xs_wi, xi_wr, xr_wr, xt_wr, xl_wr, xn_wr, xs_wr, if_true, if_false, and_self, Int.reduceEq, Int.reduceLT, Int.reduceLE, Int.reduceNeg, Int.le_refl, Int.reduceMod]; rfl, Nat.zero_le _, fun j hj => absurd hj (Nat.not_lt_zero j)⟩
  have H1 : ∀ h', Fr mvL mvS (h.wi 35 10 0) h' → MvP h' (scOps E s) s.1 → Q h' := fun h' F M => H h' (Fr_trans F1 F) M
  have e5 := W.2.2.2.2.2
  apply L_Walker_listMoves
  simp only [sxt SX_, sxl SX_, sxf SX_, e5, true_and, and_true, false_and, and_false, forall_eq, forall_eq', xi_wi, xr_wi, xt_wi, xl_wi, xn_wi, xs_wi, xi_wr, xr_wr, xt_wr, xl_wr, xn_wr, xs_wr, if_true, if_false, and_self, Int.reduceEq, Int.reduceLT, Int.reduceLE, Int.reduceNeg, Int.le_refl, Int.reduceMod]
  by_cases st : s.2.1 = -1
  · have k' : s.1 = 0 := by rcases k with k | k | k <;> omega
    have ex : xstS s = 1536 := by unfold xstS; rw [if_neg (by omega), if_pos st]
    have eo : scOps E s = scPosN E s.1 0 12 := by unfold scOps; rw [if_neg (by omega), if_pos st]
    rw [ex, if_pos rfl]
    rw [eo] at H1
    exact c_X_listPos (d := d) W1 (by decide) (by have := ok.2.2.2.1; omega) (by omega) (by omega) M1 (by decide) H1
  · have nx : ¬ xstS s = 1536 := by
      unfold xstS
      rcases k with k | k | k
      · rw [if_pos k.1]; decide
      · exact absurd k.1 st
      · have cc := k.2.2.2.2.2.2.2
        have F := sc_stand ok k.2.2.2.2.1 k.2.2.2.2.2.1 k.2.2.2.2.2.2.1
        have m4 := F.2.2.2.1
        unfold cOk at cc
        rw [if_neg (by omega), if_neg (by omega)]; omega
    rw [if_neg nx]
    refine c_X_wOver W1 ?_
    by_cases ci : s.1 < E 0 0
    · rw [if_pos ci, if_pos rfl]
      obtain ⟨i, q, g, c⟩ := s
      have k' : scOk E (i, q, g, c) := k
      rcases k with k | k | k
      · exact absurd ci (by have := k.2.1; omega)
      · exact absurd k.1 st
      obtain ⟨q0, q1, i0, i1, g0, g1, sd, co⟩ := k
      simp only at q0 q1 i0 i1 g0 g1 sd co ci st si
      have F := sc_stand ok g0 g1 sd
      have m4 := F.2.2.2.1
      have cc := co
      unfold cOk at cc
      have c16 : c < 16 := by omega
      have ex : xstS (i, q, g, c) = (q * 12 + g) * 16 + c := by
        unfold xstS
        rw [if_neg (by show ¬ q = -2; omega), if_neg (by show ¬ q = -1; omega)]
      have eo : scOps E (i, q, g, c) = scLo E i q g c ++ (scIn E i q g c ++ scLv E i q g c) := by unfold scOps; rw [if_neg (by show ¬ E 0 0 ≤ i; omega), if_neg (by show ¬ q = -1; omega)]
      have ft := W.1.1.2.2.2.2.2.2.2.2.2.2.2 g g0 g1
      have ft' := ft.resolve_left (fun z => by have := F.1; omega)
      -- behind the lost one
      have go : ∀ (h2 : xH) (u1 u2 u3 u4 u5 : xV), Fr mvL mvS h h2 → MvP h2 (scLo E i q g c) i → xT (d + 4) M_Walker_listMoves 41 [(1, 35), u1, u2, u3, u4, u5] [] h2 (xqv Q) := by
        intro h2 u1 u2 u3 u4 u5 F2 M2
        have W2 := WkA_m F2 W
        have SX_ := W2.1.1.1
        have B2 := FTab_fr F2 (sok_low (by decide)) ft'.2.2
        have L := W2.1.1.2.2.2.2.1
        unfold XLe at L
        have tp := L.1
        have r23 : h2.r 23 g = h.r 23 g := by rw [(fr_same F2).1]
        have lo : (scLo E i q g c).length ≤ 1 := by
          unfold scLo
          by_cases z : 0 ≤ scLs E i
          · rw [if_pos z]; exact Nat.le_refl _
          · rw [if_neg z]; exact Nat.zero_le _
        have lin : (scIn E i q g c).length ≤ 4 := by
          unfold scIn
          by_cases z : (scLast E (i - 1) || !scAsk E g c) = true
          · rw [if_pos z]
            have := flat_len (E := E) (i := i) (q := q) (g := g) (scCh E g c)
            have := ch_len (E := E) (g := g) (c := c)
            unfold scCs; omega
          · rw [if_neg z]; exact Nat.zero_le _
        have end_ : ∀ (h3 : xH) (u3 : xV), Fr mvL mvS h2 h3 → MvP h3 (scLo E i q g c ++ scIn E i q g c) i → xT (d + 4) M_Walker_listMoves 90 [(1, 35), (0, c), (0, q), u3, (1, h.r 23 g), (0, b2i (scLast E (i - 1)))] [] h3 (xqv Q) := by
          intro h3 u3 F3 M3
          refine c_lm_90 (s := (i, q, g, c)) (WkA_m F3 W2) rfl (FTab_fr F3 (sok_low (by decide)) B2) ft'.1 q0 q1 (by omega) (by omega) i0 ci M3 (by rw [List.length_append]; omega) (fun h4 F4 M4 => H h4 (Fr_trans F2 (Fr_trans F3 F4)) ?_)
          rw [eo, ← List.append_assoc]
          exact M4
        apply L_Walker_listMoves_41
        simp only [sxt SX_, sxl SX_, sxf SX_, W2.2.2.2.2.2, W2.2.2.2.1, ex, true_and, and_true, false_and, and_false, forall_eq, forall_eq', xi_wi, xr_wi, xt_wi, xl_wi, xn_wi, xs_wi, xi_wr, xr_wr, xt_wr, xl_wr, xn_wr, xs_wr, if_true, if_false, and_self, Int.reduceEq, Int.reduceLT, Int.reduceLE, Int.reduceNeg, Int.le_refl, Int.reduceMod]
        rw [xrem_eq (a := (q * 12 + g) * 16 + c) (by omega) (by omega) (by decide) (by decide), xdiv_eq (a := (q * 12 + g) * 16 + c) (by omega) (by omega) (b := 16) (by decide) (by decide), show ((q * 12 + g) * 16 + c) % 16 = c by omega, show ((q * 12 + g) * 16 + c) / 16 = q * 12 + g by omega, xdiv_eq (a := q * 12 + g) (by omega) (by omega) (by decide) (by decide), xrem_eq (a := q * 12 + g) (by omega) (by omega) (by decide) (by decide), show (q * 12 + g) / 12 = q by omega, show (q * 12 + g) % 12 = g by omega]
        refine c_X_footAt W2.1.1 q0 (by omega) g0 g1 ?_
        rw [if_pos ⟨q1, sd⟩, r23]
        simp only [sxt SX_, sxl SX_, sxf SX_, W2.2.2.1, tp, W2.2.2.2.2.1, true_and, and_true, false_and, and_false, forall_eq, forall_eq', xi_wi, xr_wi, xt_wi, xl_wi, xn_wi, xs_wi, xi_wr, xr_wr, xt_wr, xl_wr, xn_wr, xs_wr, if_true, if_false, and_self, Int.reduceEq, Int.reduceLT, Int.reduceLE, Int.reduceNeg, Int.le_refl, Int.reduceMod]
        rw [xw_id (a := i - 1) (by omega) (by omega)]
        refine c_X_ends W2.1.1 (by omega) (by omega) ?_
        rw [if_neg ft'.1]
        have lch : xCv (d + 4) M_Walker_listChoices [(1, 35), (1, h.r 23 g), (0, c), (0, q), (0, g)] h2 (fun h3 => (scLast E (i - 1) || !scAsk E g c) = true → xT (d + 4) M_Walker_listMoves 90 [(1, 35), (0, c), (0, q), (0, g), (1, h.r 23 g), (0, b2i (scLast E (i - 1)))] [] h3 (xqv Q)) := by
          refine c_X_listCh (s := (i, q, g, c)) W2 F B2 q0 q1 g0 g1 (by omega) (by omega) (by omega) ci (by omega) M2 (fun h3 F3 M3 z => ?_)
          refine end_ h3 _ F3 ?_
          unfold scIn
          rw [if_pos z]
          exact M3
        cases w : scLast E (i - 1)
        · rw [w] at lch end_
          rw [b2i_0, if_pos rfl]
          refine ⟨B2.2.2.1, ?_⟩
          refine c_X_asks B2 (by omega) (by omega) ?_
          change (if b2i (scAsk E g c) = 0 then _ else _)
          cases a : scAsk E g c
          · rw [b2i_0, if_pos rfl]
            exact ⟨t35_ SX_, xCv_mono (fun h3 z => z (by rw [a]; rfl)) lch⟩
          · rw [b2i_1, if_neg (by decide)]
            refine end_ h2 _ (Fr_refl _ _ _) ?_
            unfold scIn
            rw [w, a, if_neg (by decide), List.append_nil]
            exact M2
        · rw [w] at lch
          rw [b2i_1, if_neg (by decide)]
          exact ⟨t35_ SX_, xCv_mono (fun h3 z => z rfl) lch⟩
      have SX_ := W1.1.1.1
      have P := (W1.1.2.2.2.2.2.2.1 i (by omega) (by omega)).2.2.2.2
      have lp : ∀ (Q' : Int → xH → Prop), Q' (scLs E i) (h.wi 35 10 0) → xCi (d + 4) M_Scanner_lostPrice [(1, 28), (0, i)] (h.wi 35 10 0) Q' := fun Q' hq => by
        apply L_Scanner_lostPrice
        simp only [sxt SX_, sxl SX_, sxf SX_, P, true_and, and_true, false_and, and_false, forall_eq, forall_eq', xi_wi, xr_wi, xt_wi, xl_wi, xn_wi, xs_wi, xi_wr, xr_wr, xt_wr, xl_wr, xn_wr, xs_wr, if_true, if_false, and_self, Int.reduceEq, Int.reduceLT, Int.reduceLE, Int.reduceNeg, Int.le_refl, Int.reduceMod]
        rw [if_neg (by omega), if_pos (by omega)]
        exact ⟨⟨by omega, by omega⟩, hq⟩
      have e51 := W1.2.2.2.2.2
      have e41 := W1.2.2.2.2.1
      simp only at e41
      simp only [sxt SX_, sxl SX_, sxf SX_, e51, e41, true_and, and_true, false_and, and_false, forall_eq, forall_eq', xi_wi, xr_wi, xt_wi, xl_wi, xn_wi, xs_wi, xi_wr, xr_wr, xt_wr, xl_wr, xn_wr, xs_wr, if_true, if_false, and_self, Int.reduceEq, Int.reduceLT, Int.reduceLE, Int.reduceNeg, Int.le_refl, Int.reduceMod]
      rw [ex, if_neg (by omega), if_neg (by omega)]
      refine lp _ ?_
      by_cases c1 : scLs E i < 0
      · rw [if_pos c1]
        refine go _ _ _ _ _ _ F1 ?_
        unfold scLo
        rw [if_neg (by omega)]
        exact M1
      · rw [if_neg c1]
        refine ⟨t35_ SX_, ?_⟩
        apply L_Walker_stepOf
        simp only [sxt SX_, sxl SX_, sxf SX_, e51, e41, true_and, and_true, false_and, and_false, forall_eq, forall_eq', xi_wi, xr_wi, xt_wi, xl_wi, xn_wi, xs_wi, xi_wr, xr_wr, xt_wr, xl_wr, xn_wr, xs_wr, if_true, if_false, and_self, Int.reduceEq, Int.reduceLT, Int.reduceLE, Int.reduceNeg, Int.le_refl, Int.reduceMod]
        refine lp _ ?_
        simp only [sxt SX_, sxl SX_, sxf SX_, true_and, and_true, false_and, and_false, forall_eq, forall_eq', xi_wi, xr_wi, xt_wi, xl_wi, xn_wi, xs_wi, xi_wr, xr_wr, xt_wr, xl_wr, xn_wr, xs_wr, if_true, if_false, and_self, Int.reduceEq, Int.reduceLT, Int.reduceLE, Int.reduceNeg, Int.le_refl, Int.reduceMod]
        refine c_X_addMove (o := ((4, -1, -1, -1, -1), scLs E i, (i + 1, q, g, c))) SX_ M1 (by decide) (pk_far (by omega) (by omega) (by decide) (by decide) _) rfl (by show (1 : Int) = i + 1 - i; omega) rfl (fun h2 F2 M2 => go h2 _ _ _ _ _ (Fr_trans F1 F2) ?_)
        unfold scLo
        rw [if_pos (by omega)]
        exact M2
    · rw [if_neg ci, if_neg (by decide)]
      have eo : scOps E s = [] := by unfold scOps; rw [if_pos (by omega)]
      refine H1 _ (Fr_refl _ _ _) ?_
      rw [eo]; exact M1
/-! values, taking -/
theorem c_X_valueAt {h : xH} {Q : Int → xH → Prop} {t : Stt} (C : ScC h p f E b) (T : TbOk h E b (fun _ _ => True)) (k : scOk E t) (ns : t.2.1 ≠ -1) (H : Q (scW E b t) h) : xCi (d + 1) M_Scanner_valueAt [(1, 28), (0, xstS t), (0, t.1)] h Q := by
  have SX_ := C.1.1
  have ok := C.1.2.2.2.1
  have n40 := ok.2.1
  have p8 := ok.2.2.2.2.1
  have ti := scOk_i ok k
  have e9 := C.2.2.2.1
  have tT := C.2.2.2.2.2.1
  have T2 := C.2.2.2.2.2.2.2.2.2.1
  have T1 := C.2.2.2.2.2.2.2.2.2.2
  apply L_Scanner_valueAt
  simp only [sxt SX_, sxl SX_, sxf SX_, e9, tT, true_and, and_true, false_and, and_false, forall_eq, forall_eq', xi_wi, xr_wi, xt_wi, xl_wi, xn_wi, xs_wi, xi_wr, xr_wr, xt_wr, xl_wr, xn_wr, xs_wr, if_true, if_false, and_self, Int.reduceEq, Int.reduceLT, Int.reduceLE, Int.reduceNeg, Int.le_refl, Int.reduceMod]
  rcases k with k | k | k
  · have ex : xstS t = 1537 := by unfold xstS; rw [if_pos k.1]
    have ew : scW E b t = sc1 b := by
      rw [scW_eq ok b (by omega)]
      have : scFin E t = true := by unfold scFin; rw [decide_eq_true k.1, Bool.true_or]
      rw [this, if_pos rfl]
    rw [ew] at H
    rw [ex, if_pos rfl]
    cases b
    · rw [b2i_0, if_pos rfl]; exact H
    · rw [b2i_1, if_neg (by decide)]; exact H
  · exact absurd k.1 ns
  · obtain ⟨i, q, g, c⟩ := t
    obtain ⟨q0, q1, i0, i1, g0, g1, sd, co⟩ := k
    simp only at q0 q1 i0 i1 g0 g1 sd co ti
    have F := sc_stand ok g0 g1 sd
    have m4 := F.2.2.2.1
    have cl := cOk_lt F co
    have cc := co
    unfold cOk at cc
    have c16 : c < 16 := by omega
    have ex : xstS (i, q, g, c) = (q * 12 + g) * 16 + c := by
      unfold xstS
      rw [if_neg (by show ¬ q = -2; omega), if_neg (by show ¬ q = -1; omega)]
    obtain ⟨qn, rfl⟩ : ∃ qn : Nat, q = (qn : Int) := ⟨q.toNat, by omega⟩
    obtain ⟨gn, rfl⟩ : ∃ gn : Nat, g = (gn : Int) := ⟨g.toNat, by omega⟩
    have st : stN E (qn : Int) (gn : Int) = true := by unfold stN; rw [decide_eq_true q1, sd]; rfl
    have eb := C.2.2.2.2.2.2.2.2.1 (12 * qn + gn) (by omega)
    have e12 : (12 * qn + gn) / 12 = qn := by omega
    have m12 : (12 * qn + gn) % 12 = gn := by omega
    rw [e12, m12, st, if_pos rfl] at eb
    have bd := bsN_bd ok (12 * qn + gn) (by omega)
    have b1 : bsN E (12 * qn + gn + 1) = bsN E (12 * qn + gn) + fcE E (gn : Int) := by
      show bsN E (12 * qn + gn) + _ = _
      rw [e12, m12, st, if_pos rfl]
    have mo := bsN_mono ok (96 - (12 * qn + gn + 1)) (12 * qn + gn + 1) (by omega)
    rw [show 12 * qn + gn + 1 + (96 - (12 * qn + gn + 1)) = 96 by omega] at mo
    have tb := T qn gn (by omega) (by omega) trivial st c i cl.1 cl.2 (by omega) i1
    rw [ex, if_neg (by omega), if_neg (by omega), if_pos (by omega), if_neg (by omega), if_pos (by omega), xdiv_eq (a := ((qn : Int) * 12 + (gn : Int)) * 16 + c) (by omega) (by omega) (by decide) (by decide), xrem_eq (a := ((qn : Int) * 12 + (gn : Int)) * 16 + c) (by omega) (by omega) (by decide) (by decide), show (((qn : Int) * 12 + (gn : Int)) * 16 + c) / 16 = ((12 * qn + gn : Nat) : Int) by push_cast; omega, show (((qn : Int) * 12 + (gn : Int)) * 16 + c) % 16 = c by omega, eb]
    refine ⟨⟨by omega, by omega⟩, ?_⟩
    unfold tl at T2 T1
    generalize bsN E 96 = N at *
    rw [if_neg (by omega), xw_id (a := bsN E (12 * qn + gn) + c) (by omega) (by omega), xw_id (a := (bsN E (12 * qn + gn) + c) * 41) (by omega) (by omega), xw_id (a := (bsN E (12 * qn + gn) + c) * 41 + i) (by omega) (by omega), if_pos (by omega), tb]
    exact ⟨⟨by omega, by omega⟩, H⟩
theorem next_ns (ok : EOk E) (k : scOk E s) {o : Op_} (m : o ∈ scOps E s) : o.2.2.2.1 ≠ -1 := by
  have a := scOps_nx m
  have b := (scOps_ok ok k m).1
  have c := scOk_i ok k
  intro z
  rcases b with b | b | b <;> omega
theorem c_X_valueOf {h : xH} {Q : Int → xH → Prop} {j : Nat} (W : WkA h p f E b s) (k : scOk E s) (M : MvP h (scOps E s) s.1) (hj : j < (scOps E s).length) (H : Q (scW E b ((scOps E s).getD j op0).2.2) h) : xCi (d + 2) M_Walker_valueOf [(1, 35), (0, (j : Int))] h Q := by
  have SX_ := W.1.1.1
  have ok := W.1.1.2.2.2.1
  have n40 := ok.2.1
  have mem := getD_mem' hj
  have z := M.2.2 j hj
  have nx := scOps_nx mem
  have si := scOk_i ok k
  have l64 := M.2.1
  apply L_Walker_valueOf
  simp only [sxt SX_, sxl SX_, sxf SX_, W.2.2.2.2.1, true_and, and_true, false_and, and_false, forall_eq, forall_eq', xi_wi, xr_wi, xt_wi, xl_wi, xn_wi, xs_wi, xi_wr, xr_wr, xt_wr, xl_wr, xn_wr, xs_wr, if_true, if_false, and_self, Int.reduceEq, Int.reduceLT, Int.reduceLE, Int.reduceNeg, Int.le_refl, Int.reduceMod]
  rw [z.2.1, z.2.2.1, show s.1 + (((scOps E s).getD j op0).2.2.1 - s.1) = ((scOps E s).getD j op0).2.2.1 by omega, xw_id (by omega) (by omega)]
  refine ⟨⟨by omega, by omega⟩, ⟨by omega, by omega⟩, ?_⟩
  exact c_X_valueAt W.1 W.2.1 (scOps_ok ok k mem).1 (next_ns ok k mem) H
theorem c_X_take {h : xH} {Q : Int → xH → Prop} {j : Nat} (W : WkA h p f E b s) (k : scOk E s) (M : MvP h (scOps E s) s.1) (hj : j < (scOps E s).length) (H : ∀ h', Fr [] [(35, 4), (35, 5)] h h' → WkA h' p f E b ((scOps E s).getD j op0).2.2 → Q (pk s.1 ((scOps E s).getD j op0).1) h') : xCi (d + 1) M_Walker_take [(1, 35), (0, (j : Int))] h Q := by
  have SX_ := W.1.1.1
  have ok := W.1.1.2.2.2.1
  have n40 := ok.2.1
  have mem := getD_mem' hj
  have z := M.2.2 j hj
  have nx := scOps_nx mem
  have si := scOk_i ok k
  have l64 := M.2.1
  apply L_Walker_take
  simp only [sxt SX_, sxl SX_, sxf SX_, W.2.2.2.2.1, true_and, and_true, false_and, and_false, forall_eq, forall_eq', xi_wi, xr_wi, xt_wi, xl_wi, xn_wi, xs_wi, xi_wr, xr_wr, xt_wr, xl_wr, xn_wr, xs_wr, if_true, if_false, and_self, Int.reduceEq, Int.reduceLT, Int.reduceLE, Int.reduceNeg, Int.le_refl, Int.reduceMod]
  rw [z.1, z.2.1, z.2.2.1, show s.1 + (((scOps E s).getD j op0).2.2.1 - s.1) = ((scOps E s).getD j op0).2.2.1 by omega, xw_id (by omega) (by omega)]
  refine ⟨⟨by omega, by omega⟩, ⟨by omega, by omega⟩, ⟨by omega, by omega⟩, ?_⟩
  have F : Fr [] [(35, 4), (35, 5)] h ((h.wi 35 4 ((scOps E s).getD j op0).2.2.1).wi 35 5 (xstS ((scOps E s).getD j op0).2.2)) := Fr_slot (Fr_slot (Fr_refl _ _ _) _ (by decide)) _ (by decide)
  refine H _ F ⟨ScC_fr F (fun x m => absurd m List.not_mem_nil) (fun q m => ?_) W.1, TbOk_fr F W.1.1.2.2.1 (fun x m => absurd m List.not_mem_nil) (fun q m => ?_) W.2.1, W.2.2.1, by simp only [true_and, and_true, false_and, and_false, forall_eq, forall_eq', xi_wi, xr_wi, xt_wi, xl_wi, xn_wi, xs_wi, xi_wr, xr_wr, xt_wr, xl_wr, xn_wr, xs_wr, if_true, if_false, and_self, Int.reduceEq, Int.reduceLT, Int.reduceLE, Int.reduceNeg, Int.le_refl, Int.reduceMod]; exact W.2.2.2.1, by simp only [true_and, and_true, false_and, and_false, forall_eq, forall_eq', xi_wi, xr_wi, xt_wi, xl_wi, xn_wi, xs_wi, xi_wr, xr_wr, xt_wr, xl_wr, xn_wr, xs_wr, if_true, if_false, and_self, Int.reduceEq, Int.reduceLT, Int.reduceLE, Int.reduceNeg, Int.le_refl, Int.reduceMod], by simp only [true_and, and_true, false_and, and_false, forall_eq, forall_eq', xi_wi, xr_wi, xt_wi, xl_wi, xn_wi, xs_wi, xi_wr, xr_wr, xt_wr, xl_wr, xn_wr, xs_wr, if_true, if_false, and_self, Int.reduceEq, Int.reduceLT, Int.reduceLE, Int.reduceNeg, Int.le_refl, Int.reduceMod]⟩
  · simp only [List.mem_cons, List.not_mem_nil, or_false] at m
    rcases m with m | m <;> · rw [m]; decide
  · simp only [List.mem_cons, List.not_mem_nil, or_false] at m
    rcases m with m | m <;> · rw [m]; decide
end WL
