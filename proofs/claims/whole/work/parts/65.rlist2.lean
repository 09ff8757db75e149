/-! scanning: the reference's list of a state, whole; its ends -/
section RX
variable {l f : Int} {E : SEn} {d : Nat}
theorem c_list_171 {v i q g c : Int} {h : xH} {Q : xH → Prop} {A : List Op_} {u1 u8 u9 u10 : xV} (C : AddC h l f E v i q g) (P : RowP h E v A) (ln : A.length + 8 ≤ 64) (F : FOk (E 8 g) (E 9 g) (E 10 g) (E 11 g) (fun k => E 12 (4 * g + k))) (k : cOk E g c) (H : ∀ h', FrO v h h' → RowP h' E v (A ++ scIn E i q g c) → Q h') : xT (d + 5) M_R_list 171 [(1, 59), u1, (0, cN E g c), (0, c / 4), (0, g), (0, q), (0, i), (0, b2i (scLast E (i - 1))), u8, u9, u10] [] h (xqv Q) := by
  have C' := C
  obtain ⟨R, hv, v0, v1, i0, i1, q0, q1, g0, g1⟩ := C
  have S := R.1
  have ok := reo R
  have k' := k
  unfold cOk at k'
  have m4 := F.2.2.2.1
  rw [scIn_pl F k] at H
  apply L_R_list_171
  simp only [srt S, srl S, srf S, true_and, and_true, false_and, and_false, forall_eq, forall_eq', xi_wi, xr_wi, xt_wi, xl_wi, xn_wi, xs_wi, xi_wr, xr_wr, xt_wr, xl_wr, xn_wr, xs_wr, if_true, if_false, and_self, Int.reduceEq, Int.reduceLT, Int.reduceLE, Int.reduceNeg, Int.le_refl, Int.reduceMod]
  rw [re8 R g, xw_id (a := c / 4 + 1) (by omega) (by omega)]
  refine ⟨⟨g0, by omega⟩, ?_⟩
  by_cases e : E 8 g = 4
  · have F4 := F.2.2.2.2.1 e
    have hN : cN E g c = c % 4 := by unfold cN; rw [if_pos e]
    rw [if_pos e, hN, re11 R g, re9 R g, re10 R g]
    rw [if_pos e] at H
    refine ⟨⟨g0, by omega⟩, ?_⟩
    by_cases c1 : c % 4 < E 11 g
    · rw [if_pos c1, xw_id (a := c % 4 + 1) (by omega) (by omega)]
      rw [if_pos c1] at H
      refine c_R_addLight (c := c + 1) C' P (by omega) (by omega) (by omega) (by omega) (by unfold cN; rw [if_pos e]; omega) (by omega) (by omega) (Or.inr rfl) (fun h1 F1 P1 => ?_)
      rw [ltL_1 ok i0 i1] at P1
      have R1 := REn_o F1 R
      have S := R1.1
      have C1 := AddC_o F1 C'
      have l1 := scC1_len (E := E) (i := i) (q := q) (g := g) (2, c + 1)
      simp only [srt S, srl S, srf S, true_and, and_true, false_and, and_false, forall_eq, forall_eq', xi_wi, xr_wi, xt_wi, xl_wi, xn_wi, xs_wi, xi_wr, xr_wr, xt_wr, xl_wr, xn_wr, xs_wr, if_true, if_false, and_self, Int.reduceEq, Int.reduceLT, Int.reduceLE, Int.reduceNeg, Int.le_refl, Int.reduceMod]
      rw [re9 R1 g, re10 R1 g]
      refine ⟨⟨g0, by omega⟩, ?_⟩
      by_cases c2 : c / 4 + 1 < E 9 g
      · rw [if_pos c2]
        refine ⟨⟨g0, by omega⟩, ?_⟩
        by_cases c3 : c % 4 < E 10 g
        · rw [if_pos c3]
          rw [if_neg (show ¬ (c / 4 + 1 < E 9 g ∧ E 10 g ≤ c % 4) by omega), List.append_nil] at H
          exact H h1 F1 P1
        · rw [if_neg c3]
          rw [if_pos (show c / 4 + 1 < E 9 g ∧ E 10 g ≤ c % 4 by omega)] at H
          refine c_R_addPlace C1 P1 (by rw [List.length_append]; omega) F (by omega) c2 (fun h2 F2 P2 => H h2 (FrO_trans F1 F2) ?_)
          rw [← List.append_assoc]; exact P2
      · rw [if_neg c2]
        rw [if_neg (show ¬ (c / 4 + 1 < E 9 g ∧ E 10 g ≤ c % 4) by omega), List.append_nil] at H
        exact H h1 F1 P1
    · rw [if_neg c1]
      rw [if_neg c1, List.nil_append] at H
      refine ⟨⟨g0, by omega⟩, ?_⟩
      by_cases c2 : c / 4 + 1 < E 9 g
      · rw [if_pos c2]
        refine ⟨⟨g0, by omega⟩, ?_⟩
        by_cases c3 : c % 4 < E 10 g
        · rw [if_pos c3]
          rw [if_neg (show ¬ (c / 4 + 1 < E 9 g ∧ E 10 g ≤ c % 4) by omega), List.append_nil] at H
          exact H h (FrO_refl _ _) P
        · rw [if_neg c3]
          rw [if_pos (show c / 4 + 1 < E 9 g ∧ E 10 g ≤ c % 4 by omega)] at H
          exact c_R_addPlace C' P (by omega) F (by omega) c2 H
      · rw [if_neg c2]
        rw [if_neg (show ¬ (c / 4 + 1 < E 9 g ∧ E 10 g ≤ c % 4) by omega), List.append_nil] at H
        exact H h (FrO_refl _ _) P
  · have hN : cN E g c = 1 - c % 4 := by unfold cN; rw [if_neg e]
    rw [if_neg e, hN]
    rw [if_neg e] at H
    by_cases c0 : c % 4 = 0
    · rw [if_pos (by omega)]
      rw [if_pos c0, ← ltL_1 ok i0 i1] at H
      exact c_R_addLight (c := c + 1) C' P (by omega) (by omega) (by omega) (by omega) (by unfold cN; rw [if_neg e]; omega) (by decide) (by decide) (Or.inr rfl) H
    · rw [if_neg (by omega), re9 R g, re10 R g]
      rw [if_neg c0] at H
      refine ⟨⟨g0, by omega⟩, ?_⟩
      by_cases c2 : c / 4 + 1 < E 9 g
      · rw [if_pos c2]
        refine ⟨⟨g0, by omega⟩, ?_⟩
        have go : ¬ (E 8 g = 3 ∧ c / 4 + 1 = E 10 g ∧ scLast E (i - 1) = false) → xCv (d + 5) M_R_addPlace [(1, 59), (0, i), (0, q), (0, g), (0, c / 4 + 1)] h Q := fun z => by
          rw [if_pos (show c / 4 + 1 < E 9 g ∧ ¬ (E 8 g = 3 ∧ c / 4 + 1 = E 10 g ∧ scLast E (i - 1) = false) from ⟨c2, z⟩)] at H
          exact c_R_addPlace C' P (by omega) F (by omega) c2 H
        by_cases c3 : E 8 g = 3
        · rw [if_pos c3]
          refine ⟨⟨g0, by omega⟩, ?_⟩
          by_cases c4 : c / 4 + 1 = E 10 g
          · rw [if_pos c4]
            cases la : scLast E (i - 1)
            · rw [b2i_0, if_pos rfl]
              rw [if_neg (show ¬ (c / 4 + 1 < E 9 g ∧ ¬ (E 8 g = 3 ∧ c / 4 + 1 = E 10 g ∧ scLast E (i - 1) = false)) from fun y => y.2 ⟨c3, c4, la⟩), List.append_nil] at H
              exact H h (FrO_refl _ _) P
            · rw [b2i_1, if_neg (by decide)]
              exact go (fun y => by rw [la] at y; exact absurd y.2.2 (by decide))
          · rw [if_neg c4]
            exact go (fun y => c4 y.2.1)
        · rw [if_neg c3]
          exact go (fun y => c3 y.1)
      · rw [if_neg c2]
        rw [if_neg (show ¬ (c / 4 + 1 < E 9 g ∧ ¬ (E 8 g = 3 ∧ c / 4 + 1 = E 10 g ∧ scLast E (i - 1) = false)) from fun y => c2 y.1), List.append_nil] at H
        exact H h (FrO_refl _ _) P
theorem scLv_len {i q g c : Int} : (scLv E i q g c).length ≤ 48 := by
  unfold scLv
  by_cases c1 : (scEnd E g c && (scLast E (i - 1) || !scCut E q)) = true
  · rw [if_pos c1]
    by_cases c2 : q + 1 < E 5 0
    · rw [if_pos c2]; exact scPosN_len 12
    · rw [if_neg c2]
      by_cases c3 : 0 ≤ scEx E i
      · rw [if_pos c3]; show 1 ≤ 48; decide
      · rw [if_neg c3]; exact Nat.zero_le _
  · rw [if_neg c1]; exact Nat.zero_le _
theorem c_list_111 {v i q g c : Int} {h : xH} {Q : xH → Prop} {A : List Op_} {u1 u8 u9 u10 : xV} (C : AddC h l f E v i q g) (P : RowP h E v A) (ln : A.length ≤ 1) (hi : 1 ≤ i) (q5 : q < E 5 0) (F : FOk (E 8 g) (E 9 g) (E 10 g) (E 11 g) (fun k => E 12 (4 * g + k))) (k : cOk E g c) (H : ∀ h', FrO v h h' → RowP h' E v (A ++ (scLv E i q g c ++ scIn E i q g c)) → Q h') : xT (d + 6) M_R_list 111 [(1, 59), u1, (0, cN E g c), (0, c / 4), (0, g), (0, q), (0, i), (0, b2i (scLast E (i - 1))), u8, u9, u10] [(0, b2i (scEnd E g c && (scLast E (i - 1) || !scCut E q)))] h (xqv Q) := by
  have C' := C
  obtain ⟨R, hv, v0, v1, i0, i1, q0, q1, g0, g1⟩ := C
  have S := R.1
  have ok := reo R
  have n40 := ok.2.1
  have np := ok.2.2.2.2.1
  have tail : ∀ (h1 : xH) (u8 u9 u10 : xV), FrO v h h1 → RowP h1 E v (A ++ scLv E i q g c) → xT (d + 6) M_R_list 171 [(1, 59), u1, (0, cN E g c), (0, c / 4), (0, g), (0, q), (0, i), (0, b2i (scLast E (i - 1))), u8, u9, u10] [] h1 (xqv Q) := by
    intro h1 u8 u9 u10 F1 P1
    have := scLv_len (E := E) (i := i) (q := q) (g := g) (c := c)
    refine c_list_171 (AddC_o F1 C') P1 (by rw [List.length_append]; omega) F k (fun h2 F2 P2 => H h2 (FrO_trans F1 F2) ?_)
    rw [← List.append_assoc]; exact P2
  apply L_R_list_111
  cases b : (scEnd E g c && (scLast E (i - 1) || !scCut E q))
  · have e : scLv E i q g c = [] := by unfold scLv; rw [if_neg (by rw [b]; decide)]
    rw [b2i_0, if_pos rfl, if_pos rfl]
    exact tail h _ _ _ (FrO_refl _ _) (by rw [e, List.append_nil]; exact P)
  · have e : scLv E i q g c = if q + 1 < E 5 0 then scPosN E i (q + 1) 12 else if 0 ≤ scEx E i then [((5, -1, -1, -1, -1), scEx E i, (E 0 0, -2, 0, 0))] else [] := by unfold scLv; rw [if_pos b]
    rw [b2i_1, if_neg (by decide)]
    simp only [srt S, srl S, srf S, reL R, reF R, true_and, and_true, false_and, and_false, forall_eq, forall_eq', xi_wi, xr_wi, xt_wi, xl_wi, xn_wi, xs_wi, xi_wr, xr_wr, xt_wr, xl_wr, xn_wr, xs_wr, if_true, if_false, and_self, Int.reduceEq, Int.reduceLT, Int.reduceLE, Int.reduceNeg, Int.le_refl, Int.reduceMod]
    rw [re5 R, xw_id (a := E 5 0 - 1) (by omega) (by omega)]
    have hl := rel R
    have hf := ref R
    refine ⟨⟨by omega, by omega⟩, ?_⟩
    by_cases c1 : q = E 5 0 - 1
    · rw [if_pos c1, re13 R 4]
      rw [if_neg (by omega)] at e
      have none : (¬ 0 ≤ scEx E i) → xT (d + 6) M_R_list 146 [(1, 59), u1, (0, cN E g c), (0, c / 4), (0, g), (0, q), (0, i), (0, b2i (scLast E (i - 1))), xkl u8, (0, 1), u10] [] h (xqv Q) := fun z => by
        rw [if_neg z] at e
        apply L_R_list_146
        exact tail h _ _ _ (FrO_refl _ _) (by rw [e, List.append_nil]; exact P)
      by_cases c2 : E 13 4 < 0
      · rw [if_pos c2]
        refine none ?_
        unfold scEx
        by_cases z : 0 < i ∧ i + 1 = E 0 0 ∧ E 1 i ≠ 1
        · rw [if_pos z]; omega
        · rw [if_neg z]; omega
      · rw [if_neg c2, re0 R, xw_id (a := E 0 0 - 1) (by omega) (by omega)]
        refine ⟨⟨by omega, by omega⟩, ?_⟩
        by_cases c3 : i = E 0 0 - 1
        · rw [if_pos c3, if_pos (by omega)]
          refine c_R_markOf R i0 i1 ?_
          by_cases c4 : E 1 i = 1
          · rw [if_pos c4]
            refine none ?_
            unfold scEx
            rw [if_neg (fun z => z.2.2 c4)]; omega
          · rw [if_neg c4]
            simp only [srt S, srl S, srf S, true_and, and_true, false_and, and_false, forall_eq, forall_eq', xi_wi, xr_wi, xt_wi, xl_wi, xn_wi, xs_wi, xi_wr, xr_wr, xt_wr, xl_wr, xn_wr, xs_wr, if_true, if_false, and_self, Int.reduceEq, Int.reduceLT, Int.reduceLE, Int.reduceNeg, Int.le_refl, Int.reduceMod]
            rw [re13 R 4]
            have ex : scEx E i = E 13 4 := by unfold scEx; rw [if_pos ⟨by omega, by omega, c4⟩]
            refine c_R_add (o := ((5, -1, -1, -1, -1), E 13 4, (E 0 0, -2, 0, 0))) (E := E) rfl S hv v0 v1 P (by omega) (fun h1 F1 P1 => tail h1 _ _ _ F1 ?_)
            rw [e, ex, if_pos (by omega)]
            exact P1
        · rw [if_neg c3]
          refine none ?_
          unfold scEx
          rw [if_neg (fun z => c3 (by omega))]; omega
    · rw [if_neg c1]
      rw [if_pos (by omega)] at e
      rw [xw_id (a := q + 1) (by omega) (by omega)]
      refine c_R_addPosition R hv v0 v1 i0 i1 (by omega) (by omega) P (by omega) (fun h1 F1 P1 => tail h1 _ _ _ F1 ?_)
      rw [e]; exact P1
theorem enc_bd {s : Stt} (ok : EOk E) (k : scOk E s) : 0 ≤ scEnc E s ∧ scEnc E s ≤ 70848 := by
  unfold scEnc
  rcases k with k | k | k
  · rw [if_pos k.1]; decide
  · rw [if_neg (by omega), if_pos k.1]; decide
  · have := cN_bd k.2.2.2.2.2.2.2
    have c := k.2.2.2.2.2.2.2
    have n40 := ok.2.1
    have F := sc_stand ok k.2.2.2.2.1 k.2.2.2.2.2.1 k.2.2.2.2.2.2.1
    have m4 := F.2.2.2.1
    have p8 := ok.2.2.2.2.1
    unfold cOk at c
    rw [if_neg (by omega), if_neg (by omega)]
    omega
theorem enc_dec {i q g c : Int} (ok : EOk E) (q0 : 0 ≤ q) (q1 : q < E 5 0) (i0 : 0 ≤ i) (i1 : i ≤ E 0 0) (g0 : 0 ≤ g) (g1 : g < 12) (st : scStand E q g = true) (c0 : cOk E g c) : scEnc E (i, q, g, c) % 4 = cN E g c ∧ scEnc E (i, q, g, c) / 4 % 4 = c / 4 ∧ scEnc E (i, q, g, c) / 16 % 12 = g ∧ scEnc E (i, q, g, c) / 192 % 9 = q + 1 ∧ scEnc E (i, q, g, c) / 1728 = i := by
  have := cN_bd c0
  have F := sc_stand ok g0 g1 st
  have m4 := F.2.2.2.1
  have p8 := ok.2.2.2.2.1
  unfold cOk at c0
  rw [scEnc_q q0]
  refine ⟨by omega, by omega, by omega, by omega, by omega⟩
theorem FrL_of {v x : Int} {h h' : xH} (F : FrO v ((h.wi 59 55 v).wi 105 v x) h') : FrL v h h' := by
  refine ⟨Fr_trans (Fr_cell (Fr_slot (Fr_refl _ _ _) _ (by decide)) _ _ (by decide)) (Fr_mono F.1 (fun _ q => q) (by decide)), fun c k c0 c1 hk => ?_, fun k hk => ?_⟩
  · rw [F.2.1 c k c0 c1 hk, xi_wi, if_neg (by omega), xi_wi, if_neg (by omega)]
  · rw [F.2.2 k hk, xi_wi, if_neg (by omega), xi_wi, if_neg (by omega)]
theorem FrL_55 {v x : Int} {h h' : xH} (F : FrO v ((h.wi 59 55 v).wi 105 v x) h') : h'.i 59 55 = v := by
  rw [FrO_59 F]; simp only [true_and, and_true, false_and, and_false, forall_eq, forall_eq', xi_wi, xr_wi, xt_wi, xl_wi, xn_wi, xs_wi, xi_wr, xr_wr, xt_wr, xl_wr, xn_wr, xs_wr, if_true, if_false, and_self, Int.reduceEq, Int.reduceLT, Int.reduceLE, Int.reduceNeg, Int.le_refl, Int.reduceMod]
theorem RowP_0 (h : xH) (v : Int) : RowP (h.wi 105 v 0) E v [] := ⟨[], ⟨by simp only [true_and, and_true, false_and, and_false, forall_eq, forall_eq', xi_wi, xr_wi, xt_wi, xl_wi, xn_wi, xs_wi, xi_wr, xr_wr, xt_wr, xl_wr, xn_wr, xs_wr, if_true, if_false, and_self, Int.reduceEq, Int.reduceLT, Int.reduceLE, Int.reduceNeg, Int.le_refl, Int.reduceMod]; rfl, Nat.zero_le _, fun j hj => absurd hj (Nat.not_lt_zero j)⟩, fun i j _ hj => absurd hj (Nat.not_lt_zero j), List.Perm.refl _⟩
theorem c_R_list {s : Stt} {h : xH} {Q : xH → Prop} (R : REn h l f E) (k : scOk E s) (H : ∀ h', FrL (lvS s) h h' → h'.i 59 55 = lvS s → RowP h' E (lvS s) (scOps E s) → Q h') : xCv (d + 7) M_R_list [(1, 59), (0, scEnc E s)] h Q := by
  have S := R.1
  have ok := reo R
  have n40 := ok.2.1
  have n1 := ok.1
  have hl := rel R
  have hf := ref R
  have eb := enc_bd ok k
  apply L_R_list
  rw [xrem_eq (a := scEnc E s) eb.1 (by omega) (by decide) (by decide), xdiv_eq (a := scEnc E s) eb.1 (by omega) (b := 4) (by decide) (by decide), xdiv_eq (a := scEnc E s) eb.1 (by omega) (b := 16) (by decide) (by decide), xdiv_eq (a := scEnc E s) eb.1 (by omega) (b := 192) (by decide) (by decide), xdiv_eq (a := scEnc E s) eb.1 (by omega) (b := 1728) (by decide) (by decide), xrem_eq (a := scEnc E s / 4) (by omega) (by omega) (by decide) (by decide), xrem_eq (a := scEnc E s / 16) (by omega) (by omega) (by decide) (by decide), xrem_eq (a := scEnc E s / 192) (by omega) (by omega) (by decide) (by decide), xw_id (a := scEnc E s / 192 % 9 - 1) (by omega) (by omega)]
  simp only [srt S, srl S, srf S, reL R, true_and, and_true, false_and, and_false, forall_eq, forall_eq', xi_wi, xr_wi, xt_wi, xl_wi, xn_wi, xs_wi, xi_wr, xr_wr, xt_wr, xl_wr, xn_wr, xs_wr, if_true, if_false, and_self, Int.reduceEq, Int.reduceLT, Int.reduceLE, Int.reduceNeg, Int.le_refl, Int.reduceMod]
  obtain ⟨i, q, g, c⟩ := s
  rcases k with k | k | k
  · -- all is over
    obtain ⟨k1, k2, k3, k4⟩ := k
    simp only at k1 k2 k3 k4
    have e : scEnc E (i, q, g, c) = 70848 := by unfold scEnc; rw [if_pos k1]
    have lv : lvS (i, q, g, c) = 41 := by unfold lvS; rw [if_pos k1]
    rw [lv] at H
    rw [e, show (70848 : Int) / 1728 = 41 by decide, re0 R, if_neg (by omega)]
    refine ⟨⟨by decide, by decide⟩, ⟨by omega, by omega⟩, ?_⟩
    refine H _ (FrL_of (FrO_refl _ _)) (by simp only [true_and, and_true, false_and, and_false, forall_eq, forall_eq', xi_wi, xr_wi, xt_wi, xl_wi, xn_wi, xs_wi, xi_wr, xr_wr, xt_wr, xl_wr, xn_wr, xs_wr, if_true, if_false, and_self, Int.reduceEq, Int.reduceLT, Int.reduceLE, Int.reduceNeg, Int.le_refl, Int.reduceMod]) ?_
    have eo : scOps E (i, q, g, c) = [] := by unfold scOps; rw [if_pos (by show E 0 0 ≤ i; omega)]
    rw [eo]
    exact RowP_0 _ _
  · obtain ⟨k1, k2, k3, k4⟩ := k
    simp only at k1 k2 k3 k4
    subst k1 k2 k3 k4
    have e : scEnc E (0, -1, 0, 0) = 0 := rfl
    have lv : lvS (0, -1, 0, 0) = 0 := rfl
    rw [lv] at H
    rw [e, show (0 : Int) / 1728 = 0 by decide, show (0 : Int) / 192 % 9 - 1 = -1 by decide, show (0 : Int) / 16 % 12 = 0 by decide, show (0 : Int) / 4 % 4 = 0 by decide, show (0 : Int) % 4 = 0 by decide, re0 R, if_pos (by omega), re13 R 0]
    refine ⟨⟨by decide, by decide⟩, ⟨by omega, by omega⟩, ?_⟩
    have F0 : Fr [105] [(59, 55)] h ((h.wi 59 55 0).wi 105 0 0) := Fr_cell (Fr_slot (Fr_refl _ _ _) _ (by decide)) _ _ (by decide)
    have R2 := REn_fr F0 (by decide) R
    have eo : scOps E (0, -1, 0, 0) = scPosN E 0 0 12 := by unfold scOps; rw [if_neg (by show ¬ E 0 0 ≤ 0; omega), if_pos rfl]
    rw [eo] at H
    have go : ∀ u1 u7 u8 u9 u10 : xV, xT (d + 6) M_R_list 72 [(1, 59), u1, (0, 0), (0, 0), (0, 0), (0, -1), (0, 0), u7, u8, u9, u10] [] ((h.wi 59 55 0).wi 105 0 0) (xqv Q) := fun u1 u7 u8 u9 u10 => by
      have S := R2.1
      apply L_R_list_72
      rw [if_pos rfl]
      refine ⟨(srt S).1, ?_⟩
      rw [show ((h.wi 59 55 0).wi 105 0 0).r 59 42 = 95 from by have := srf S; simp only [srt S, srl S, srf S, true_and, and_true, false_and, and_false, forall_eq, forall_eq', xi_wi, xr_wi, xt_wi, xl_wi, xn_wi, xs_wi, xi_wr, xr_wr, xt_wr, xl_wr, xn_wr, xs_wr, if_true, if_false, and_self, Int.reduceEq, Int.reduceLT, Int.reduceLE, Int.reduceNeg, Int.le_refl, Int.reduceMod], reF R2, re5 R2, if_pos (by have := ok.2.2.2.1; omega)]
      refine ⟨⟨by simp only [srt S, srl S, srf S, true_and, and_true, false_and, and_false, forall_eq, forall_eq', xi_wi, xr_wi, xt_wi, xl_wi, xn_wi, xs_wi, xi_wr, xr_wr, xt_wr, xl_wr, xn_wr, xs_wr, if_true, if_false, and_self, Int.reduceEq, Int.reduceLT, Int.reduceLE, Int.reduceNeg, Int.le_refl, Int.reduceMod], by omega, by simp only [srt S, srl S, srf S, true_and, and_true, false_and, and_false, forall_eq, forall_eq', xi_wi, xr_wi, xt_wi, xl_wi, xn_wi, xs_wi, xi_wr, xr_wr, xt_wr, xl_wr, xn_wr, xs_wr, if_true, if_false, and_self, Int.reduceEq, Int.reduceLT, Int.reduceLE, Int.reduceNeg, Int.le_refl, Int.reduceMod]; omega⟩, ?_⟩
      refine c_R_addPosition R2 (by simp only [true_and, and_true, false_and, and_false, forall_eq, forall_eq', xi_wi, xr_wi, xt_wi, xl_wi, xn_wi, xs_wi, xi_wr, xr_wr, xt_wr, xl_wr, xn_wr, xs_wr, if_true, if_false, and_self, Int.reduceEq, Int.reduceLT, Int.reduceLE, Int.reduceNeg, Int.le_refl, Int.reduceMod]) (by decide) (by decide) (by decide) (by omega) (by decide) (by decide) (RowP_0 _ _) (by decide) (fun h' F' P' => H h' (FrL_of F') (FrL_55 F') P')
    by_cases c1 : E 13 0 < 0
    · rw [if_pos c1]; exact go _ _ _ _ _
    · rw [if_neg c1]
      refine c_R_canLose R2 (by decide) (by omega) ?_
      have el : scLose E 0 = false := by
        unfold scLose scFirst
        rw [show decide ((0 : Int) = 0) = true from rfl, Bool.true_or, Bool.not_true, Bool.false_and, Bool.and_false, Bool.and_false]
      rw [el, b2i_0, if_pos rfl]
      exact go _ _ _ _ _
  · obtain ⟨q0, q1, i0, i1, g0, g1, st, co⟩ := k
    simp only at q0 q1 i0 i1 g0 g1 st co
    have de := enc_dec ok q0 q1 (by omega) i1 g0 g1 st co
    have F := sc_stand ok g0 g1 st
    have p8 := ok.2.2.2.2.1
    have lv : lvS (i, q, g, c) = i := by unfold lvS; rw [if_neg (by show ¬ q = -2; omega)]
    rw [lv] at H
    rw [de.1, de.2.1, de.2.2.1, de.2.2.2.1, de.2.2.2.2, show q + 1 - 1 = q by omega, re0 R]
    refine ⟨⟨by omega, by omega⟩, ⟨by omega, by omega⟩, ?_⟩
    by_cases ci : i < E 0 0
    · rw [if_pos ci, re13 R 0]
      have eo : scOps E (i, q, g, c) = scLo E i q g c ++ (scIn E i q g c ++ scLv E i q g c) := by unfold scOps; rw [if_neg (by show ¬ E 0 0 ≤ i; omega), if_neg (by show ¬ q = -1; omega)]
      have F0 : Fr [105] [(59, 55)] h ((h.wi 59 55 i).wi 105 i 0) := Fr_cell (Fr_slot (Fr_refl _ _ _) _ (by decide)) _ _ (by decide)
      have R2 := REn_fr F0 (by decide) R
      have P0 := RowP_0 (E := E) (h.wi 59 55 i) i
      -- behind the lost one
      have go : ∀ (h2 : xH) (u1 u7 u8 u9 u10 : xV), FrO i ((h.wi 59 55 i).wi 105 i 0) h2 → RowP h2 E i (scLo E i q g c) → xT (d + 6) M_R_list 72 [(1, 59), u1, (0, cN E g c), (0, c / 4), (0, g), (0, q), (0, i), u7, u8, u9, u10] [] h2 (xqv Q) := fun h2 u1 u7 u8 u9 u10 F2 P2 => by
        have R3 := REn_o F2 R2
        have S := R3.1
        have lo : (scLo E i q g c).length ≤ 1 := by
          unfold scLo
          by_cases z : 0 ≤ scLs E i
          · rw [if_pos z]; exact Nat.le_refl _
          · rw [if_neg z]; exact Nat.zero_le _
        have end_ : ∀ (b : Bool) (u8 : xV), b = (scEnd E g c && (scLast E (i - 1) || !scCut E q)) → xT (d + 6) M_R_list 111 [(1, 59), u1, (0, cN E g c), (0, c / 4), (0, g), (0, q), (0, i), (0, b2i (scLast E (i - 1))), u8, u9, u10] [(0, b2i b)] h2 (xqv Q) := fun b u8 hb => by
          subst hb
          refine c_list_111 (v := i) ⟨R3, FrL_55 F2, by omega, by omega, by omega, ci, q0, by omega, g0, g1⟩ P2 lo (by omega) q1 F co (fun h4 F4 P4 => H h4 (FrL_of (FrO_trans F2 F4)) (FrL_55 (FrO_trans F2 F4)) ?_)
          rw [eo]
          obtain ⟨L, a, b, p⟩ := P4
          exact ⟨L, a, b, p.trans (List.perm_append_comm.append_left _)⟩
        apply L_R_list_72
        rw [if_neg (by omega)]
        refine ⟨(srt S).1, ?_⟩
        rw [xw_id (a := i - 1) (by omega) (by omega)]
        refine c_R_isLast R3 (by omega) (by omega) ?_
        refine ⟨(srt S).1, ?_⟩
        refine c_R_isOver R3 g0 g1 F co ?_
        cases z : scEnd E g c
        · rw [b2i_0, if_pos rfl]
          exact end_ false _ (by rw [z, Bool.false_and])
        · rw [b2i_1, if_neg (by decide)]
          refine ⟨(srt S).1, ?_⟩
          rw [reF R3]
          refine c_R_isCut R3 q0 (by omega) ?_
          cases z2 : scCut E q
          · rw [b2i_0, if_pos rfl]
            exact end_ true _ (by rw [z, z2, Bool.true_and, Bool.not_false, Bool.or_true])
          · rw [b2i_1, if_neg (by decide)]
            cases z3 : scLast E (i - 1)
            · rw [b2i_0, if_pos rfl]
              have := end_ false (0, 1) (by rw [z, z2, z3]; rfl)
              rw [z3] at this
              exact this
            · rw [b2i_1, if_neg (by decide)]
              have := end_ true (0, 1) (by rw [z, z2, z3]; rfl)
              rw [z3] at this
              exact this
      have stop : (¬ 0 ≤ scLs E i) → ∀ u1 u7 u8 u9 u10 : xV, xT (d + 6) M_R_list 72 [(1, 59), u1, (0, cN E g c), (0, c / 4), (0, g), (0, q), (0, i), u7, u8, u9, u10] [] ((h.wi 59 55 i).wi 105 i 0) (xqv Q) := fun z u1 u7 u8 u9 u10 => go _ u1 u7 u8 u9 u10 (FrO_refl _ _) (by unfold scLo; rw [if_neg z]; exact P0)
      by_cases c1 : E 13 0 < 0
      · rw [if_pos c1]
        refine stop ?_ _ _ _ _ _
        unfold scLs
        by_cases z : scLose E i = true
        · rw [if_pos z]; omega
        · rw [if_neg z]; omega
      · rw [if_neg c1]
        refine c_R_canLose R2 (by omega) ci ?_
        cases z : scLose E i
        · rw [b2i_0, if_pos rfl]
          refine stop ?_ _ _ _ _ _
          unfold scLs
          rw [z, if_neg (by decide)]; omega
        · rw [b2i_1, if_neg (by decide), xw_id (a := i + 1) (by omega) (by omega)]
          have cb := cN_bd co
          have co' := co
          unfold cOk at co'
          have m4 := F.2.2.2.1
          refine c_R_state (by omega) (by omega) (by omega) (by omega) g0 g1 (by omega) (by omega) cb.1 cb.2 ?_
          have S := R2.1
          refine ⟨(srt S).1, ?_⟩
          rw [show ((h.wi 59 55 i).wi 105 i 0).r 59 44 = 97 from by have := srf S; simp only [srt S, srl S, srf S, true_and, and_true, false_and, and_false, forall_eq, forall_eq', xi_wi, xr_wi, xt_wi, xl_wi, xn_wi, xs_wi, xi_wr, xr_wr, xt_wr, xl_wr, xn_wr, xs_wr, if_true, if_false, and_self, Int.reduceEq, Int.reduceLT, Int.reduceLE, Int.reduceNeg, Int.le_refl, Int.reduceMod], re13 R2 0]
          refine ⟨⟨by simp only [srt S, srl S, srf S, true_and, and_true, false_and, and_false, forall_eq, forall_eq', xi_wi, xr_wi, xt_wi, xl_wi, xn_wi, xs_wi, xi_wr, xr_wr, xt_wr, xl_wr, xn_wr, xs_wr, if_true, if_false, and_self, Int.reduceEq, Int.reduceLT, Int.reduceLE, Int.reduceNeg, Int.le_refl, Int.reduceMod], by simp only [srt S, srl S, srf S, true_and, and_true, false_and, and_false, forall_eq, forall_eq', xi_wi, xr_wi, xt_wi, xl_wi, xn_wi, xs_wi, xi_wr, xr_wr, xt_wr, xl_wr, xn_wr, xs_wr, if_true, if_false, and_self, Int.reduceEq, Int.reduceLT, Int.reduceLE, Int.reduceNeg, Int.le_refl, Int.reduceMod]⟩, ?_⟩
          have es : scLs E i = E 13 0 := by unfold scLs; rw [if_pos z]
          refine c_R_add (o := ((4, -1, -1, -1, -1), E 13 0, (i + 1, q, g, c))) (E := E) (by rw [scEnc_q q0]) S (by simp only [true_and, and_true, false_and, and_false, forall_eq, forall_eq', xi_wi, xr_wi, xt_wi, xl_wi, xn_wi, xs_wi, xi_wr, xr_wr, xt_wr, xl_wr, xn_wr, xs_wr, if_true, if_false, and_self, Int.reduceEq, Int.reduceLT, Int.reduceLE, Int.reduceNeg, Int.le_refl, Int.reduceMod]) (by omega) (by omega) P0 (by decide) (fun h2 F2 P2 => go h2 _ _ _ _ _ F2 ?_)
          unfold scLo
          rw [es, if_pos (by omega)]
          exact P2
    · rw [if_neg ci]
      refine H _ (FrL_of (FrO_refl _ _)) (by simp only [true_and, and_true, false_and, and_false, forall_eq, forall_eq', xi_wi, xr_wi, xt_wi, xl_wi, xn_wi, xs_wi, xi_wr, xr_wr, xt_wr, xl_wr, xn_wr, xs_wr, if_true, if_false, and_self, Int.reduceEq, Int.reduceLT, Int.reduceLE, Int.reduceNeg, Int.le_refl, Int.reduceMod]) ?_
      have eo : scOps E (i, q, g, c) = [] := by unfold scOps; rw [if_pos (by show E 0 0 ≤ i; omega)]
      rw [eo]
      exact RowP_0 _ _
end RX
