/-! syllable, the reference -/
theorem c_R_syllable {h : xH} {Q : Int → xH → Prop} {ws : List Wd} {i : Nat} {b : Int} (S : SR h) (h1 : h.i 76 0 = 1) (ok : LnOk ws) (R : RLn (RV h 0) ws) (hi : i < (flat ws).length) (H : Q (sylA ws ((flat ws).getD i fs0) b) h) : xCi 2046 M_R_syllable [(1, 59), (0, (i : Int)), (0, b)] h Q := by
  apply L_R_syllable
  have rs : h.i 81 0 = ((flat ws).length : Nat) := R.1
  obtain ⟨r1, r2, r3, r4, r5, r6, r7⟩ := rln_syl ok R hi
  obtain ⟨j, j1, j2, j3, j4, j5, j6, j7⟩ := flat_get ok hi
  obtain ⟨w1, w2, w3⟩ := rln_wd ok R j1
  have o := ok.2.1
  have o1 := ok.1
  have b01 := (ok.2.2 _ (getD_mem wd0 j1)).2.2.2.1
  have wl := (ok.2.2 _ (getD_mem wd0 j1)).2.1
  rw [← j5] at b01 w2
  rw [show (40 * (0 : Int) + (i : Int)) = i by omega] at r1 r2 r3 r4
  rw [show (12 * (0 : Int) + (j : Int)) = j by omega] at w2
  have n1 : 1 ≤ ((flat ws).getD i fs0).n := j6.1
  have ri : (0 : Int) ≤ i ∧ (i : Int) < 600 := by omega
  have rj : (0 : Int) ≤ j ∧ (j : Int) < 180 := by omega
  have g0 : (0 : Int) ≤ i ∧ (i : Int) ≤ (((flat ws).length : Nat) : Int) - 1 := by omega
  unfold sylA at H
  rw [j2, Int.toNat_natCast] at H
  simp only [srt S, srl S, srf S, h1, rs, (show xw ((((flat ws).length : Nat) : Int) - 1) = (((flat ws).length : Nat) : Int) - 1 from xw_id (by omega) (by omega)), true_and, and_true, false_and, and_false, forall_eq, forall_eq', xi_wi, xr_wi, xt_wi, xl_wi, xn_wi, xs_wi, xi_wr, xr_wr, xt_wr, xl_wr, xn_wr, xs_wr, if_true, if_false, and_self, Int.reduceEq, Int.reduceLT, Int.reduceLE, Int.reduceNeg, Int.le_refl, Int.reduceMod]
  refine c_R_in_t g0 ?_
  rw [if_neg (by decide)]
  refine x_if (fun c1 => ?_) (fun c1 => x_if (fun c2 => ?_) (fun c2 => x_if (fun c3 => ?_) (fun c3 => x_if (fun c4 => ?_) (fun c4 => ?_))))
  · rw [if_pos c1] at H
    simp only [srt S, srl S, srf S, r1, j2, true_and, and_true, false_and, and_false, forall_eq, forall_eq', xi_wi, xr_wi, xt_wi, xl_wi, xn_wi, xs_wi, xi_wr, xr_wr, xt_wr, xl_wr, xn_wr, xs_wr, if_true, if_false, and_self, Int.reduceEq, Int.reduceLT, Int.reduceLE, Int.reduceNeg, Int.le_refl, Int.reduceMod]
    exact ⟨ri, H⟩
  · rw [if_neg c1, if_pos c2] at H
    simp only [srt S, srl S, srf S, r4, true_and, and_true, false_and, and_false, forall_eq, forall_eq', xi_wi, xr_wi, xt_wi, xl_wi, xn_wi, xs_wi, xi_wr, xr_wr, xt_wr, xl_wr, xn_wr, xs_wr, if_true, if_false, and_self, Int.reduceEq, Int.reduceLT, Int.reduceLE, Int.reduceNeg, Int.le_refl, Int.reduceMod]
    exact ⟨ri, H⟩
  · rw [if_neg c1, if_neg c2, if_pos c3] at H
    simp only [srt S, srl S, srf S, r3, true_and, and_true, false_and, and_false, forall_eq, forall_eq', xi_wi, xr_wi, xt_wi, xl_wi, xn_wi, xs_wi, xi_wr, xr_wr, xt_wr, xl_wr, xn_wr, xs_wr, if_true, if_false, and_self, Int.reduceEq, Int.reduceLT, Int.reduceLE, Int.reduceNeg, Int.le_refl, Int.reduceMod]
    exact ⟨ri, H⟩
  · rw [if_neg c1, if_neg c2, if_neg c3, if_pos c4] at H
    simp only [srt S, srl S, srf S, r1, j2, w2, true_and, and_true, false_and, and_false, forall_eq, forall_eq', xi_wi, xr_wi, xt_wi, xl_wi, xn_wi, xs_wi, xi_wr, xr_wr, xt_wr, xl_wr, xn_wr, xs_wr, if_true, if_false, and_self, Int.reduceEq, Int.reduceLT, Int.reduceLE, Int.reduceNeg, Int.le_refl, Int.reduceMod]
    refine ⟨ri, rj, ?_⟩
    rcases b01 with z | z
    · rw [z] at H ⊢
      rw [if_pos rfl]; exact H
    · rw [z] at H ⊢
      rw [if_neg (by decide)]; exact H
  · rw [if_neg c1, if_neg c2, if_neg c3, if_neg c4] at H
    simp only [srt S, srl S, srf S, r1, r2, r3, j2, (show xw (9 + ((flat ws).getD i fs0).n) = 9 + ((flat ws).getD i fs0).n from xw_id (by omega) (by omega)), true_and, and_true, false_and, and_false, forall_eq, forall_eq', xi_wi, xr_wi, xt_wi, xl_wi, xn_wi, xs_wi, xi_wr, xr_wr, xt_wr, xl_wr, xn_wr, xs_wr, if_true, if_false, and_self, Int.reduceEq, Int.reduceLT, Int.reduceLE, Int.reduceNeg, Int.le_refl, Int.reduceMod]
    refine ⟨ri, ?_⟩
    by_cases q : 10 ≤ b ∧ b < 10 + ((flat ws).getD i fs0).n
    · rw [if_pos q] at H
      refine c_R_in_t (by omega) ?_
      rw [if_neg (by decide)]
      have y := w3 (((flat ws).getD i fs0).f + (b - 10)).toNat (by omega)
      have g4 : (0 : Int) ≤ 192 * 0 + (16 * (j : Int) + ((((flat ws).getD i fs0).f + (b - 10)).toNat : Nat)) ∧ 192 * 0 + (16 * (j : Int) + ((((flat ws).getD i fs0).f + (b - 10)).toNat : Nat)) < 2880 := by omega
      have f4 : 16 * (j : Int) + ((flat ws).getD i fs0).f + b - 10 = 192 * 0 + (16 * (j : Int) + ((((flat ws).getD i fs0).f + (b - 10)).toNat : Nat)) := by omega
      simp only [srt S, srl S, srf S, r1, r2, j2, true_and, and_true, false_and, and_false, forall_eq, forall_eq', xi_wi, xr_wi, xt_wi, xl_wi, xn_wi, xs_wi, xi_wr, xr_wr, xt_wr, xl_wr, xn_wr, xs_wr, if_true, if_false, and_self, Int.reduceEq, Int.reduceLT, Int.reduceLE, Int.reduceNeg, Int.le_refl, Int.reduceMod]
      rw [xw_id (a := 16 * (j : Int)) (by omega) (by omega), xw_id (a := 16 * (j : Int) + ((flat ws).getD i fs0).f) (by omega) (by omega), xw_id (a := 16 * (j : Int) + ((flat ws).getD i fs0).f + b) (by omega) (by omega), xw_id (a := 16 * (j : Int) + ((flat ws).getD i fs0).f + b - 10) (by omega) (by omega), f4, y]
      exact ⟨ri, ri, g4, H⟩
    · rw [if_neg q] at H
      refine c_R_in_f (by omega) ?_
      rw [if_pos rfl]
      exact H
theorem j_syllable (n : Nat) (hn : n < 512) (a b : Int) (ha : xrg a) (hb : xrg b) : JJ INV n M_X_syllable M_R_syllable [(0, a), (0, b)] := by
  refine jj_same1 (fun h I => ?_)
  have S := I.2.1
  have SX_ := I.1
  rcases line_open I with z | z
  · refine ⟨-1, fun Q H => ?_, fun Q H => ?_⟩
    · apply L_X_syllable
      simp only [sxt SX_, sxl SX_, sxf SX_, z.1, true_and, and_true, false_and, and_false, forall_eq, forall_eq', xi_wi, xr_wi, xt_wi, xl_wi, xn_wi, xs_wi, xi_wr, xr_wr, xt_wr, xl_wr, xn_wr, xs_wr, if_true, if_false, and_self, Int.reduceEq, Int.reduceLT, Int.reduceLE, Int.reduceNeg, Int.le_refl, Int.reduceMod]
      exact H
    · apply L_R_syllable
      simp only [srt S, srl S, srf S, z.2, true_and, and_true, false_and, and_false, forall_eq, forall_eq', xi_wi, xr_wi, xt_wi, xl_wi, xn_wi, xs_wi, xi_wr, xr_wr, xt_wr, xl_wr, xn_wr, xs_wr, if_true, if_false, and_self, Int.reduceEq, Int.reduceLT, Int.reduceLE, Int.reduceNeg, Int.le_refl, Int.reduceMod]
      exact H
  · obtain ⟨z1, z2, sb, -, ws, ok, -, XL, RL_, -⟩ := z
    have Z := XSh_B sb ok XL
    by_cases c : 0 ≤ a ∧ a < ((flat ws).length : Nat)
    · obtain ⟨i, rfl⟩ : ∃ i : Nat, a = i := ⟨a.toNat, by omega⟩
      exact ⟨_, fun Q H => c_X_syllable SX_ z1 ok XL Z (by omega) hb H, fun Q H => c_R_syllable S z2 ok RL_ (by omega) H⟩
    · have xs : h.i (h.r 2 13) 6 = ((flat ws).length : Nat) := XL.1
      have rs : h.i 81 0 = ((flat ws).length : Nat) := RL_.1
      have o := ok.2.1
      refine ⟨-1, fun Q H => ?_, fun Q H => ?_⟩
      · apply L_X_syllable
        simp only [sxt SX_, sxl SX_, sxf SX_, z1, true_and, and_true, false_and, and_false, forall_eq, forall_eq', xi_wi, xr_wi, xt_wi, xl_wi, xn_wi, xs_wi, xi_wr, xr_wr, xt_wr, xl_wr, xn_wr, xs_wr, if_true, if_false, and_self, Int.reduceEq, Int.reduceLT, Int.reduceLE, Int.reduceNeg, Int.le_refl, Int.reduceMod]
        refine x_if (fun c1 => H) (fun c1 => ⟨Z.1, ?_⟩)
        rw [xs, if_neg (by omega)]
        exact H
      · apply L_R_syllable
        have g0 : ¬ (0 ≤ a ∧ a ≤ (((flat ws).length : Nat) : Int) - 1) := by omega
        simp only [srt S, srl S, srf S, z2, rs, (show xw ((((flat ws).length : Nat) : Int) - 1) = (((flat ws).length : Nat) : Int) - 1 from xw_id (by omega) (by omega)), true_and, and_true, false_and, and_false, forall_eq, forall_eq', xi_wi, xr_wi, xt_wi, xl_wi, xn_wi, xs_wi, xi_wr, xr_wr, xt_wr, xl_wr, xn_wr, xs_wr, if_true, if_false, and_self, Int.reduceEq, Int.reduceLT, Int.reduceLE, Int.reduceNeg, Int.le_refl, Int.reduceMod]
        refine c_R_in_f g0 ?_
        rw [if_pos rfl]
        exact H
