/-! scanning: the reference's questions about a line and a line form -/
def envR (h : xH) (l f : Int) : SEn
  | 0, _ => h.i 81 l
  | 1, i => h.i 85 (40 * l + i)
  | 2, i => h.i 82 (40 * l + i)
  | 3, i => h.i 88 (40 * l + i) / 2 ^ (h.i 87 (40 * l + i) - 1).toNat % 2
  | 4, i => h.i 88 (40 * l + i) % 2
  | 5, _ => h.i 95 f
  | 6, q => h.i 94 (8 * f + q)
  | 7, _ => h.i 96 f
  | 8, g => h.i 89 g
  | 9, g => h.i 91 g
  | 10, g => h.i 92 g
  | 11, g => h.i 93 g
  | 12, k => h.i 90 k
  | _, l => h.i 97 l
def REn (h : xH) (l f : Int) (E : SEn) : Prop := SR h ∧ h.i 59 45 = l ∧ h.i 59 46 = f ∧ 0 ≤ l ∧ l < 15 ∧ 0 ≤ f ∧ f < 8 ∧ envR h l f = E ∧ EOk E ∧ (∀ i, 0 ≤ i → i < E 0 0 → 0 ≤ h.i 88 (40 * l + i) ∧ h.i 88 (40 * l + i) < 65536 ∧ 1 ≤ h.i 87 (40 * l + i) ∧ h.i 87 (40 * l + i) ≤ 16)
section RG
variable {h : xH} {l f : Int} {E : SEn}
theorem REn_fr {c : List Int} {c2 : List (Int × Int)} {h' : xH} (F : Fr c c2 h h') (d : (c.all (fun x => decide (97 < x)) && c2.all (fun p => decide (p.1 = 59) && (decide (p.2 ≠ 45) && decide (p.2 ≠ 46)))) = true) (R : REn h l f E) : REn h' l f E := by
  rw [Bool.and_eq_true, List.all_eq_true, List.all_eq_true] at d
  have r : ∀ x : Int, x ≤ 97 → x ≠ 59 → h'.i x = h.i x := fun x hx ne => Fr_row F (fun m => by have := d.1 x m; simp only [decide_eq_true_eq] at this; omega) (fun p m e => by have := d.2 p m; simp only [Bool.and_eq_true, decide_eq_true_eq] at this; omega)
  have s : ∀ k : Int, (k = 45 ∨ k = 46) → h'.i 59 k = h.i 59 k := fun k hk => F.2 59 k (fun m => by have := d.1 _ m; simp only [decide_eq_true_eq] at this; omega) (fun m => by have := d.2 _ m; simp only [Bool.and_eq_true, decide_eq_true_eq] at this; omega)
  obtain ⟨S, e1, e2, l0, l1, f0, f1, he, ok, hz⟩ := R
  refine ⟨SR_2 F.1 S, by rw [s 45 (Or.inl rfl)]; exact e1, by rw [s 46 (Or.inr rfl)]; exact e2, l0, l1, f0, f1, ?_, ok, ?_⟩
  · rw [← he]
    funext k i
    unfold envR
    rw [r 81 (by decide) (by decide), r 85 (by decide) (by decide), r 82 (by decide) (by decide), r 88 (by decide) (by decide), r 87 (by decide) (by decide), r 95 (by decide) (by decide), r 94 (by decide) (by decide), r 96 (by decide) (by decide), r 89 (by decide) (by decide), r 91 (by decide) (by decide), r 92 (by decide) (by decide), r 93 (by decide) (by decide), r 90 (by decide) (by decide), r 97 (by decide) (by decide)]
  · rw [r 88 (by decide) (by decide), r 87 (by decide) (by decide)]
    exact hz
theorem re_eq (R : REn h l f E) (k : Nat) (i : Int) : envR h l f k i = E k i := by rw [R.2.2.2.2.2.2.2.1]
theorem re0 (R : REn h l f E) : h.i 81 l = E 0 0 := re_eq R 0 0
theorem re1 (R : REn h l f E) (i : Int) : h.i 85 (40 * l + i) = E 1 i := re_eq R 1 i
theorem re2 (R : REn h l f E) (i : Int) : h.i 82 (40 * l + i) = E 2 i := re_eq R 2 i
theorem re3 (R : REn h l f E) (i : Int) : h.i 88 (40 * l + i) / 2 ^ (h.i 87 (40 * l + i) - 1).toNat % 2 = E 3 i := re_eq R 3 i
theorem re4 (R : REn h l f E) (i : Int) : h.i 88 (40 * l + i) % 2 = E 4 i := re_eq R 4 i
theorem re5 (R : REn h l f E) : h.i 95 f = E 5 0 := re_eq R 5 0
theorem re6 (R : REn h l f E) (q : Int) : h.i 94 (8 * f + q) = E 6 q := re_eq R 6 q
theorem re7 (R : REn h l f E) : h.i 96 f = E 7 0 := re_eq R 7 0
theorem re8 (R : REn h l f E) (g : Int) : h.i 89 g = E 8 g := re_eq R 8 g
theorem re9 (R : REn h l f E) (g : Int) : h.i 91 g = E 9 g := re_eq R 9 g
theorem re10 (R : REn h l f E) (g : Int) : h.i 92 g = E 10 g := re_eq R 10 g
theorem re11 (R : REn h l f E) (g : Int) : h.i 93 g = E 11 g := re_eq R 11 g
theorem re12 (R : REn h l f E) (k : Int) : h.i 90 k = E 12 k := re_eq R 12 k
theorem re13 (R : REn h l f E) (k : Int) : h.i 97 k = E 13 k := re_eq R 13 k
theorem reL (R : REn h l f E) : h.i 59 45 = l := R.2.1
theorem reF (R : REn h l f E) : h.i 59 46 = f := R.2.2.1
theorem rel (R : REn h l f E) : 0 ≤ l ∧ l < 15 := ⟨R.2.2.2.1, R.2.2.2.2.1⟩
theorem ref (R : REn h l f E) : 0 ≤ f ∧ f < 8 := ⟨R.2.2.2.2.2.1, R.2.2.2.2.2.2.1⟩
theorem reo (R : REn h l f E) : EOk E := R.2.2.2.2.2.2.2.2.1
theorem yix {l i : Int} (l0 : 0 ≤ l) (l1 : l < 15) (i0 : -40 ≤ i) (i1 : i < 100) : xw (xw (40 * l) + i) = 40 * l + i := by rw [xw_id (a := 40 * l) (by omega) (by omega), xw_id (by omega) (by omega)]
theorem b2i_1 : b2i true = 1 := rfl
theorem b2i_0 : b2i false = 0 := rfl
variable {d : Nat} {Q : Int → xH → Prop}
theorem c_R_markOf {i : Int} (R : REn h l f E) (i0 : 0 ≤ i) (i1 : i < E 0 0) (H : Q (E 1 i) h) : xCi (d + 1) M_R_markOf [(1, 59), (0, i)] h Q := by
  have S := R.1
  have k := (reo R).2.1
  have hl := rel R
  apply L_R_markOf
  simp only [srt S, srl S, srf S, reL R, true_and, and_true, false_and, and_false, forall_eq, forall_eq', xi_wi, xr_wi, xt_wi, xl_wi, xn_wi, xs_wi, xi_wr, xr_wr, xt_wr, xl_wr, xn_wr, xs_wr, if_true, if_false, and_self, Int.reduceEq, Int.reduceLT, Int.reduceLE, Int.reduceNeg, Int.le_refl, Int.reduceMod]
  rw [yix hl.1 hl.2 (by omega) (by omega), re1 R i]
  exact ⟨⟨by omega, by omega⟩, H⟩
theorem c_R_isLast {i : Int} (R : REn h l f E) (i0 : 0 ≤ i) (i1 : i < E 0 0) (H : Q (b2i (scLast E i)) h) : xCi (d + 1) M_R_isLast [(1, 59), (0, i)] h Q := by
  have S := R.1
  have k := (reo R).2.1
  have hl := rel R
  apply L_R_isLast
  simp only [srt S, srl S, srf S, reL R, true_and, and_true, false_and, and_false, forall_eq, forall_eq', xi_wi, xr_wi, xt_wi, xl_wi, xn_wi, xs_wi, xi_wr, xr_wr, xt_wr, xl_wr, xn_wr, xs_wr, if_true, if_false, and_self, Int.reduceEq, Int.reduceLT, Int.reduceLE, Int.reduceNeg, Int.le_refl, Int.reduceMod]
  rw [yix hl.1 hl.2 (by omega) (by omega), xw_id (a := 40 * l + i + 1) (by omega) (by omega), show (40 * l + i + 1 : Int) = 40 * l + (i + 1) by omega, re2 R i, re2 R (i + 1), re0 R, xw_id (a := E 0 0 - 1) (by omega) (by omega)]
  refine ⟨⟨by omega, by omega⟩, ?_⟩
  have e : scLast E i = (decide (i = E 0 0 - 1) || decide (E 2 (i + 1) ≠ E 2 i)) := by unfold scLast; rw [decide_eq_true i0, Bool.true_and]
  rw [e] at H
  by_cases c : i = E 0 0 - 1
  · rw [if_pos c]
    rw [decide_eq_true c, Bool.true_or] at H
    exact H
  · rw [if_neg c]
    rw [decide_eq_false c, Bool.false_or] at H
    refine ⟨⟨by omega, by omega⟩, ⟨by omega, by omega⟩, ?_⟩
    by_cases c2 : E 2 (i + 1) = E 2 i
    · rw [if_pos c2]
      rw [decide_eq_false (by exact fun q => q c2)] at H
      exact H
    · rw [if_neg c2]
      rw [decide_eq_true (by exact c2)] at H
      exact H
theorem c_R_isFirst {i : Int} (R : REn h l f E) (i0 : 0 ≤ i) (i1 : i < E 0 0) (H : Q (b2i (scFirst E i)) h) : xCi (d + 1) M_R_isFirst [(1, 59), (0, i)] h Q := by
  have S := R.1
  have k := (reo R).2.1
  have hl := rel R
  apply L_R_isFirst
  unfold scFirst at H
  by_cases c : i = 0
  · rw [if_pos c]
    rw [decide_eq_true c, Bool.true_or] at H
    exact H
  · rw [if_neg c]
    rw [decide_eq_false c, Bool.false_or] at H
    simp only [srt S, srl S, srf S, reL R, true_and, and_true, false_and, and_false, forall_eq, forall_eq', xi_wi, xr_wi, xt_wi, xl_wi, xn_wi, xs_wi, xi_wr, xr_wr, xt_wr, xl_wr, xn_wr, xs_wr, if_true, if_false, and_self, Int.reduceEq, Int.reduceLT, Int.reduceLE, Int.reduceNeg, Int.le_refl, Int.reduceMod]
    rw [yix hl.1 hl.2 (by omega) (by omega), xw_id (a := 40 * l + i - 1) (by omega) (by omega), show (40 * l + i - 1 : Int) = 40 * l + (i - 1) by omega, re2 R i, re2 R (i - 1)]
    refine ⟨⟨by omega, by omega⟩, ⟨by omega, by omega⟩, ?_⟩
    by_cases c2 : E 2 (i - 1) = E 2 i
    · rw [if_pos c2]
      rw [decide_eq_false (by exact fun q => q c2)] at H
      exact H
    · rw [if_neg c2]
      rw [decide_eq_true (by exact c2)] at H
      exact H
theorem c_R_ends {i : Int} (R : REn h l f E) (i0 : 0 ≤ i) (i1 : i < E 0 0) (H : Q (b2i (decide (E 3 i = 1))) h) : xCi (d + 1) M_R_endsByVowel [(1, 59), (0, i)] h Q := by
  have S := R.1
  have k := (reo R).2.1
  have hl := rel R
  have z := R.2.2.2.2.2.2.2.2.2 i i0 i1
  apply L_R_endsByVowel
  simp only [srt S, srl S, srf S, reL R, true_and, and_true, false_and, and_false, forall_eq, forall_eq', xi_wi, xr_wi, xt_wi, xl_wi, xn_wi, xs_wi, xi_wr, xr_wr, xt_wr, xl_wr, xn_wr, xs_wr, if_true, if_false, and_self, Int.reduceEq, Int.reduceLT, Int.reduceLE, Int.reduceNeg, Int.le_refl, Int.reduceMod]
  rw [yix hl.1 hl.2 (by omega) (by omega), xw_id (a := h.i 87 (40 * l + i) - 1) (by omega) (by omega), xbit (by omega) (by omega) (by omega) (by omega), re3 R i]
  refine ⟨⟨by omega, by omega⟩, ⟨by omega, by omega⟩, ?_⟩
  by_cases c : E 3 i = 1
  · rw [if_pos c]; rw [decide_eq_true c] at H; exact H
  · rw [if_neg c]; rw [decide_eq_false c] at H; exact H
theorem c_R_begins {i : Int} (R : REn h l f E) (i0 : 0 ≤ i) (i1 : i < E 0 0) (H : Q (b2i (decide (E 4 i = 1))) h) : xCi (d + 1) M_R_beginsByVowel [(1, 59), (0, i)] h Q := by
  have S := R.1
  have k := (reo R).2.1
  have hl := rel R
  have z := R.2.2.2.2.2.2.2.2.2 i i0 i1
  apply L_R_beginsByVowel
  simp only [srt S, srl S, srf S, reL R, true_and, and_true, false_and, and_false, forall_eq, forall_eq', xi_wi, xr_wi, xt_wi, xl_wi, xn_wi, xs_wi, xi_wr, xr_wr, xt_wr, xl_wr, xn_wr, xs_wr, if_true, if_false, and_self, Int.reduceEq, Int.reduceLT, Int.reduceLE, Int.reduceNeg, Int.le_refl, Int.reduceMod]
  rw [yix hl.1 hl.2 (by omega) (by omega), xand_1 (by omega), re4 R i]
  refine ⟨⟨by omega, by omega⟩, ?_⟩
  by_cases c : E 4 i = 1
  · rw [if_pos c]; rw [decide_eq_true c] at H; exact H
  · rw [if_neg c]; rw [decide_eq_false c] at H; exact H
theorem c_R_canLose {i : Int} (R : REn h l f E) (i0 : 0 ≤ i) (i1 : i < E 0 0) (H : Q (b2i (scLose E i)) h) : xCi (d + 2) M_R_canLose [(1, 59), (0, i)] h Q := by
  have S := R.1
  have k := (reo R).2.1
  have hl := rel R
  apply L_R_canLose
  simp only [srt S, srl S, srf S, reL R, true_and, and_true, false_and, and_false, forall_eq, forall_eq', xi_wi, xr_wi, xt_wi, xl_wi, xn_wi, xs_wi, xi_wr, xr_wr, xt_wr, xl_wr, xn_wr, xs_wr, if_true, if_false, and_self, Int.reduceEq, Int.reduceLT, Int.reduceLE, Int.reduceNeg, Int.le_refl, Int.reduceMod]
  rw [re0 R, xw_id (a := i + 1) (by omega) (by omega)]
  refine ⟨⟨by omega, by omega⟩, ?_⟩
  unfold scLose at H
  by_cases c : i + 1 < E 0 0
  · rw [if_pos c]
    rw [decide_eq_true c, Bool.true_and] at H
    refine c_R_isLast R i0 i1 ?_
    cases e : scLast E i
    · rw [e] at H
      rw [b2i_0, if_pos rfl]; exact H
    · rw [e, Bool.true_and] at H
      rw [b2i_1, if_neg (by decide)]
      refine ⟨(srt S).1, ?_⟩
      refine c_R_isFirst R i0 i1 ?_
      cases e2 : scFirst E i
      · rw [e2, Bool.not_false, Bool.true_and] at H
        rw [b2i_0, if_pos rfl]
        refine ⟨(srt S).1, ?_⟩
        refine c_R_ends R i0 i1 ?_
        cases e3 : decide (E 3 i = 1)
        · rw [e3, Bool.false_and] at H
          rw [b2i_0, if_pos rfl]; exact H
        · rw [e3, Bool.true_and] at H
          rw [b2i_1, if_neg (by decide)]
          refine ⟨(srt S).1, ?_⟩
          refine c_R_begins R (by omega) c ?_
          cases e4 : decide (E 4 (i + 1) = 1)
          · rw [e4] at H
            rw [b2i_0, if_pos rfl]; exact H
          · rw [e4] at H
            rw [b2i_1, if_neg (by decide)]; exact H
      · rw [e2, Bool.not_true, Bool.false_and] at H
        rw [b2i_1, if_neg (by decide)]; exact H
  · rw [if_neg c]
    rw [decide_eq_false c, Bool.false_and] at H
    exact H
theorem c_R_canMelt {i : Int} (R : REn h l f E) (i0 : 0 ≤ i) (i1 : i < E 0 0) (H : Q (b2i (scMelt E i)) h) : xCi (d + 2) M_R_canMelt [(1, 59), (0, i)] h Q := by
  have S := R.1
  have k := (reo R).2.1
  have hl := rel R
  apply L_R_canMelt
  simp only [srt S, srl S, srf S, reL R, true_and, and_true, false_and, and_false, forall_eq, forall_eq', xi_wi, xr_wi, xt_wi, xl_wi, xn_wi, xs_wi, xi_wr, xr_wr, xt_wr, xl_wr, xn_wr, xs_wr, if_true, if_false, and_self, Int.reduceEq, Int.reduceLT, Int.reduceLE, Int.reduceNeg, Int.le_refl, Int.reduceMod]
  rw [re0 R, xw_id (a := i + 1) (by omega) (by omega)]
  refine ⟨⟨by omega, by omega⟩, ?_⟩
  unfold scMelt at H
  by_cases c : i + 1 < E 0 0
  · rw [if_pos c]
    rw [decide_eq_true c, Bool.true_and] at H
    refine c_R_isLast R i0 i1 ?_
    cases e : scLast E i
    · rw [e, Bool.not_false, Bool.true_and] at H
      rw [b2i_0, if_pos rfl]
      refine ⟨(srt S).1, ?_⟩
      refine c_R_ends R i0 i1 ?_
      cases e3 : decide (E 3 i = 1)
      · rw [e3, Bool.false_and] at H
        rw [b2i_0, if_pos rfl]; exact H
      · rw [e3, Bool.true_and] at H
        rw [b2i_1, if_neg (by decide)]
        refine ⟨(srt S).1, ?_⟩
        refine c_R_begins R (by omega) c ?_
        cases e4 : decide (E 4 (i + 1) = 1)
        · rw [e4] at H
          rw [b2i_0, if_pos rfl]; exact H
        · rw [e4] at H
          rw [b2i_1, if_neg (by decide)]; exact H
    · rw [e, Bool.not_true, Bool.false_and] at H
      rw [b2i_1, if_neg (by decide)]; exact H
  · rw [if_neg c]
    rw [decide_eq_false c, Bool.false_and] at H
    exact H
theorem c_R_mayStand {q g : Int} (R : REn h l f E) (q0 : 0 ≤ q) (q1 : q < 8) (g0 : 0 ≤ g) (g1 : g < 12) (H : Q (b2i (scStand E q g)) h) : xCi (d + 1) M_R_mayStand [(1, 59), (0, f), (0, q), (0, g)] h Q := by
  have S := R.1
  have hf := ref R
  have ok := reo R
  have s6 := ok.2.2.2.2.2.1 q q0 q1
  apply L_R_mayStand
  simp only [srt S, srl S, srf S, true_and, and_true, false_and, and_false, forall_eq, forall_eq', xi_wi, xr_wi, xt_wi, xl_wi, xn_wi, xs_wi, xi_wr, xr_wr, xt_wr, xl_wr, xn_wr, xs_wr, if_true, if_false, and_self, Int.reduceEq, Int.reduceLT, Int.reduceLE, Int.reduceNeg, Int.le_refl, Int.reduceMod]
  rw [xw_id (a := 8 * f) (by omega) (by omega), xw_id (a := 8 * f + q) (by omega) (by omega), re6 R q, xbit (by omega) (by omega) (by omega) (by omega), re8 R g]
  refine ⟨⟨by omega, by omega⟩, ?_⟩
  unfold scStand at H
  by_cases c : E 6 q / 2 ^ g.toNat % 2 = 1
  · rw [if_pos c]
    rw [decide_eq_true c, Bool.true_and] at H
    refine ⟨⟨by omega, by omega⟩, ?_⟩
    by_cases c2 : E 8 g = -1
    · rw [if_pos c2]
      rw [decide_eq_false (by exact fun z => z c2), Bool.false_and] at H
      apply L_R_mayStand_23
      rw [if_pos rfl]; exact H
    · rw [if_neg c2]
      rw [decide_eq_true (by exact c2), Bool.true_and] at H
      apply L_R_mayStand_23
      rw [if_neg (by decide)]
      simp only [srt S, srl S, srf S, true_and, and_true, false_and, and_false, forall_eq, forall_eq', xi_wi, xr_wi, xt_wi, xl_wi, xn_wi, xs_wi, xi_wr, xr_wr, xt_wr, xl_wr, xn_wr, xs_wr, if_true, if_false, and_self, Int.reduceEq, Int.reduceLT, Int.reduceLE, Int.reduceNeg, Int.le_refl, Int.reduceMod]
      rw [re8 R g, re5 R, xw_id (a := E 5 0 - 1) (by have := ok.2.2.2.1; omega) (by have := ok.2.2.2.2.1; omega)]
      refine ⟨⟨by omega, by omega⟩, ?_⟩
      by_cases c3 : E 8 g = 2
      · rw [if_pos c3]
        rw [decide_eq_false (by exact fun z => z c3), Bool.false_or] at H
        refine ⟨⟨by omega, by omega⟩, ?_⟩
        by_cases c4 : q = E 5 0 - 1
        · rw [if_pos c4]; rw [decide_eq_true c4] at H; exact H
        · rw [if_neg c4]; rw [decide_eq_false c4] at H; exact H
      · rw [if_neg c3]
        rw [decide_eq_true (by exact c3), Bool.true_or] at H
        exact H
  · rw [if_neg c]
    rw [decide_eq_false c, Bool.false_and] at H
    apply L_R_mayStand_23
    rw [if_pos rfl]; exact H
theorem c_R_isCut {q : Int} (R : REn h l f E) (q0 : 0 ≤ q) (q1 : q < 8) (H : Q (b2i (scCut E q)) h) : xCi (d + 1) M_R_isCut [(1, 59), (0, f), (0, q)] h Q := by
  have S := R.1
  have hf := ref R
  have ok := reo R
  have s7 := ok.2.2.2.2.2.2
  apply L_R_isCut
  simp only [srt S, srl S, srf S, true_and, and_true, false_and, and_false, forall_eq, forall_eq', xi_wi, xr_wi, xt_wi, xl_wi, xn_wi, xs_wi, xi_wr, xr_wr, xt_wr, xl_wr, xn_wr, xs_wr, if_true, if_false, and_self, Int.reduceEq, Int.reduceLT, Int.reduceLE, Int.reduceNeg, Int.le_refl, Int.reduceMod]
  rw [re7 R, xbit (by omega) (by omega) (by omega) (by omega)]
  refine ⟨⟨by omega, by omega⟩, ?_⟩
  unfold scCut at H
  by_cases c : E 7 0 / 2 ^ q.toNat % 2 = 1
  · rw [if_pos c]; rw [decide_eq_true c] at H; exact H
  · rw [if_neg c]; rw [decide_eq_false c] at H; exact H
/-- a code that a foot may be at; the strike or place, and the light ones (of two: 1 behind the first) -/
def cOk (E : SEn) (g c : Int) : Prop := 0 ≤ c ∧ c / 4 < E 9 g ∧ ((E 8 g = 4 ∧ c % 4 ≤ E 11 g) ∨ (E 8 g ≠ 4 ∧ (c % 4 = 1 ∨ (c % 4 = 0 ∧ fd (E 8 g) (E 9 g) (fun k => E 12 (4 * g + k)) (c / 4) = 4))))
def cN (E : SEn) (g c : Int) : Int := if E 8 g = 4 then c % 4 else 1 - c % 4
theorem cN_bd {g c : Int} (k : cOk E g c) : 0 ≤ cN E g c ∧ cN E g c < 4 := by
  unfold cOk at k
  unfold cN
  by_cases e : E 8 g = 4
  · rw [if_pos e]; omega
  · rw [if_neg e]; omega
theorem c_R_isOver {g c : Int} (R : REn h l f E) (g0 : 0 ≤ g) (g1 : g < 12) (F : FOk (E 8 g) (E 9 g) (E 10 g) (E 11 g) (fun k => E 12 (4 * g + k))) (k : cOk E g c) (H : Q (b2i (scEnd E g c)) h) : xCi (d + 1) M_R_isOver [(1, 59), (0, g), (0, c / 4), (0, cN E g c)] h Q := by
  have S := R.1
  have hm : 1 ≤ E 9 g ∧ E 9 g ≤ 4 := ⟨F.2.2.1, F.2.2.2.1⟩
  apply L_R_isOver
  simp only [srt S, srl S, srf S, true_and, and_true, false_and, and_false, forall_eq, forall_eq', xi_wi, xr_wi, xt_wi, xl_wi, xn_wi, xs_wi, xi_wr, xr_wr, xt_wr, xl_wr, xn_wr, xs_wr, if_true, if_false, and_self, Int.reduceEq, Int.reduceLT, Int.reduceLE, Int.reduceNeg, Int.le_refl, Int.reduceMod]
  rw [re8 R g, re9 R g, re10 R g, xw_id (a := E 9 g - 1) (by omega) (by omega)]
  refine ⟨⟨by omega, by omega⟩, ?_⟩
  unfold cOk at k
  unfold cN
  unfold scEnd fends at H
  by_cases e : E 8 g = 4
  · rw [if_pos e, if_pos e]
    rw [if_pos e] at H
    refine ⟨⟨by omega, by omega⟩, ?_⟩
    by_cases c1 : c / 4 = E 9 g - 1
    · rw [if_pos c1]
      refine ⟨⟨by omega, by omega⟩, ?_⟩
      by_cases c2 : c % 4 < E 10 g
      · rw [if_pos c2]; rw [if_neg (by omega)] at H; exact H
      · rw [if_neg c2]; rw [if_pos (by omega)] at H; exact H
    · rw [if_neg c1]; rw [if_neg (by omega)] at H; exact H
  · rw [if_neg e, if_neg e]
    rw [if_neg e] at H
    by_cases c1 : 1 - c % 4 = 0
    · rw [if_pos c1]
      refine ⟨⟨by omega, by omega⟩, ?_⟩
      by_cases c2 : c / 4 = E 9 g - 1
      · rw [if_pos c2]; rw [if_pos (by omega)] at H; exact H
      · rw [if_neg c2]; rw [if_neg (by omega)] at H; exact H
    · rw [if_neg c1]; rw [if_neg (by omega)] at H; exact H
theorem c_R_state {i q g k n : Int} (i0 : 0 ≤ i) (i1 : i ≤ 42) (q0 : -1 ≤ q) (q1 : q < 8) (g0 : 0 ≤ g) (g1 : g < 12) (k0 : 0 ≤ k) (k1 : k < 4) (n0 : 0 ≤ n) (n1 : n < 4) (H : Q ((((9 * i + q + 1) * 12 + g) * 4 + k) * 4 + n) h) : xCi (d + 1) M_R_state [(0, i), (0, q), (0, g), (0, k), (0, n)] h Q := by
  apply L_R_state
  rw [xw_id (a := 9 * i) (by omega) (by omega), xw_id (a := 9 * i + q) (by omega) (by omega), xw_id (a := 9 * i + q + 1) (by omega) (by omega), xw_id (a := (9 * i + q + 1) * 12) (by omega) (by omega), xw_id (a := (9 * i + q + 1) * 12 + g) (by omega) (by omega), xw_id (a := ((9 * i + q + 1) * 12 + g) * 4) (by omega) (by omega), xw_id (a := ((9 * i + q + 1) * 12 + g) * 4 + k) (by omega) (by omega), xw_id (a := (((9 * i + q + 1) * 12 + g) * 4 + k) * 4) (by omega) (by omega), xw_id (a := (((9 * i + q + 1) * 12 + g) * 4 + k) * 4 + n) (by omega) (by omega)]
  exact H
end RG
