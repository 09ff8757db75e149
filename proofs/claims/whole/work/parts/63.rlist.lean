/-! scanning: what the reference lists behind a state -/
def AddC (h : xH) (l f : Int) (E : SEn) (v i q g : Int) : Prop := REn h l f E ∧ h.i 59 55 = v ∧ 0 ≤ v ∧ v < 42 ∧ 0 ≤ i ∧ i < E 0 0 ∧ 0 ≤ q ∧ q < 8 ∧ 0 ≤ g ∧ g < 12
section RL
variable {l f : Int} {E : SEn} {d : Nat} {v i q g : Int}
theorem AddC_o {h h' : xH} (F : FrO v h h') (C : AddC h l f E v i q g) : AddC h' l f E v i q g := by
  obtain ⟨a, b, c⟩ := C
  exact ⟨REn_o F a, by rw [FrO_59 F]; exact b, c⟩
def mlL (E : SEn) (i q g c : Int) : List Op_ := if 0 ≤ scMl E i then [((3, q, g, c / 4, 1), scMl E i, (i + 2, q, g, c))] else []
def hvL (E : SEn) (i q g c m : Int) : List Op_ := (if E 1 i = 2 then (if m = 1 ∧ 0 ≤ E 13 2 then [((1, q, g, c / 4, 1), E 13 2, (i + 1, q, g, c))] else []) else [((0, q, g, c / 4, 1), 0, (i + 1, q, g, c))]) ++ mlL E i q g c
def ltL (E : SEn) (i q g c b : Int) : List Op_ := if E 1 i = 2 ∨ (E 1 i = 3 ∧ b = 1) then [((0, q, g, c / 4, 2), 0, (i + 1, q, g, c))] else if E 1 i = 1 ∧ b = 1 ∧ i = 0 ∧ 0 ≤ E 13 3 then [((2, q, g, c / 4, 2), E 13 3, (i + 1, q, g, c))] else []
theorem mlL_len {c : Int} : (mlL E i q g c).length ≤ 1 := by
  unfold mlL; by_cases k : 0 ≤ scMl E i
  · rw [if_pos k]; exact Nat.le_refl _
  · rw [if_neg k]; exact Nat.zero_le _
theorem scEnc_q {j c : Int} (q0 : 0 ≤ q) : scEnc E (j, q, g, c) = (((9 * j + q + 1) * 12 + g) * 4 + c / 4) * 4 + cN E g c := by
  unfold scEnc
  rw [if_neg (by show ¬ q = -2; omega), if_neg (by show ¬ q = -1; omega)]
theorem c_addHeavy_50 {h : xH} {Q : xH → Prop} {k c : Int} {A : List Op_} {u5 u6 : xV} (C : AddC h l f E v i q g) (P : RowP h E v A) (ln : A.length < 64) (hk : c / 4 = k) (k0 : 0 ≤ k) (k1 : k < 4) (hN : cN E g c = 0) (H : ∀ h', FrO v h h' → RowP h' E v (A ++ mlL E i q g c) → Q h') : xT (d + 2) M_R_addHeavy 50 [(1, 59), (0, i), (0, q), (0, g), (0, k), u5, u6] [] h (xqv Q) := by
  obtain ⟨R, hv, v0, v1, i0, i1, q0, q1, g0, g1⟩ := C
  have S := R.1
  have nn := (reo R).2.1
  apply L_R_addHeavy_50
  simp only [srt S, srl S, srf S, true_and, and_true, false_and, and_false, forall_eq, forall_eq', xi_wi, xr_wi, xt_wi, xl_wi, xn_wi, xs_wi, xi_wr, xr_wr, xt_wr, xl_wr, xn_wr, xs_wr, if_true, if_false, and_self, Int.reduceEq, Int.reduceLT, Int.reduceLE, Int.reduceNeg, Int.le_refl, Int.reduceMod]
  rw [re13 R 1]
  unfold mlL at H
  unfold scMl at H
  by_cases c1 : E 13 1 < 0
  · rw [if_pos c1]
    refine H h (FrO_refl _ _) ?_
    have e : ¬ (0 ≤ if scMelt E i = true then E 13 1 else -1) := by
      by_cases z : scMelt E i = true
      · rw [if_pos z]; omega
      · rw [if_neg z]; omega
    rw [if_neg e, List.append_nil]; exact P
  · rw [if_neg c1]
    refine c_R_canMelt R i0 i1 ?_
    by_cases z : scMelt E i = true
    · rw [z, b2i_1, if_neg (by decide), xw_id (a := i + 2) (by omega) (by omega)]
      refine c_R_state (by omega) (by omega) (by omega) q1 g0 g1 k0 k1 (by decide) (by decide) ?_
      simp only [srt S, srl S, srf S, true_and, and_true, false_and, and_false, forall_eq, forall_eq', xi_wi, xr_wi, xt_wi, xl_wi, xn_wi, xs_wi, xi_wr, xr_wr, xt_wr, xl_wr, xn_wr, xs_wr, if_true, if_false, and_self, Int.reduceEq, Int.reduceLT, Int.reduceLE, Int.reduceNeg, Int.le_refl, Int.reduceMod]
      rw [re13 R 1]
      refine c_R_add (o := ((3, q, g, k, 1), E 13 1, (i + 2, q, g, c))) (E := E) ?_ S hv v0 v1 P ln (fun h' F P' => H h' F ?_)
      · rw [scEnc_q q0, hk, hN]
      · rw [if_pos z, if_pos (by omega), hk]; exact P'
    · rw [show scMelt E i = false from by cases h : scMelt E i; rfl; exact absurd h z] at H ⊢
      rw [b2i_0, if_pos rfl]
      refine H h (FrO_refl _ _) ?_
      rw [if_neg (by rw [if_neg (by decide)]; decide), List.append_nil]; exact P
theorem c_R_addHeavy {h : xH} {Q : xH → Prop} {k c m : Int} {A : List Op_} (C : AddC h l f E v i q g) (P : RowP h E v A) (ln : A.length + 2 ≤ 64) (hk : c / 4 = k) (k0 : 0 ≤ k) (k1 : k < 4) (hN : cN E g c = 0) (hm : m = 0 ∨ m = 1) (H : ∀ h', FrO v h h' → RowP h' E v (A ++ hvL E i q g c m) → Q h') : xCv (d + 3) M_R_addHeavy [(1, 59), (0, i), (0, q), (0, g), (0, k), (0, m)] h Q := by
  have C' := C
  obtain ⟨R, hv, v0, v1, i0, i1, q0, q1, g0, g1⟩ := C
  have S := R.1
  have nn := (reo R).2.1
  unfold hvL at H
  apply L_R_addHeavy
  refine ⟨(srt S).1, ?_⟩
  refine c_R_markOf R i0 i1 ?_
  by_cases c1 : E 1 i = 2
  · rw [if_pos c1]
    rw [if_pos c1] at H
    have stop : (¬ (m = 1 ∧ 0 ≤ E 13 2)) → ∀ u5 u6 : xV, xT (d + 2) M_R_addHeavy 50 [(1, 59), (0, i), (0, q), (0, g), (0, k), u5, u6] [] h (xqv Q) := fun z u5 u6 => by
      rw [if_neg z, List.nil_append] at H
      exact c_addHeavy_50 C' P (by omega) hk k0 k1 hN H
    by_cases c2 : m = 0
    · rw [if_pos c2]; exact stop (by omega) _ _
    · rw [if_neg c2]
      simp only [srt S, srl S, srf S, true_and, and_true, false_and, and_false, forall_eq, forall_eq', xi_wi, xr_wi, xt_wi, xl_wi, xn_wi, xs_wi, xi_wr, xr_wr, xt_wr, xl_wr, xn_wr, xs_wr, if_true, if_false, and_self, Int.reduceEq, Int.reduceLT, Int.reduceLE, Int.reduceNeg, Int.le_refl, Int.reduceMod]
      rw [re13 R 2]
      by_cases c3 : E 13 2 < 0
      · rw [if_pos c3]; exact stop (by omega) _ _
      · rw [if_neg c3, xw_id (a := i + 1) (by omega) (by omega)]
        refine c_R_state (by omega) (by omega) (by omega) q1 g0 g1 k0 k1 (by decide) (by decide) ?_
        simp only [srt S, srl S, srf S, true_and, and_true, false_and, and_false, forall_eq, forall_eq', xi_wi, xr_wi, xt_wi, xl_wi, xn_wi, xs_wi, xi_wr, xr_wr, xt_wr, xl_wr, xn_wr, xs_wr, if_true, if_false, and_self, Int.reduceEq, Int.reduceLT, Int.reduceLE, Int.reduceNeg, Int.le_refl, Int.reduceMod]
        rw [re13 R 2]
        refine c_R_add (o := ((1, q, g, k, 1), E 13 2, (i + 1, q, g, c))) (E := E) ?_ S hv v0 v1 P (by omega) (fun h' F P' => ?_)
        · rw [scEnc_q q0, hk, hN]
        · rw [if_pos (by omega)] at H
          refine c_addHeavy_50 (AddC_o F C') P' (by rw [List.length_append]; show A.length + 1 < 64; omega) hk k0 k1 hN (fun h2 F2 P2 => H h2 (FrO_trans F F2) ?_)
          rw [hk] at *
          rw [← List.append_assoc]
          exact P2
  · rw [if_neg c1, xw_id (a := i + 1) (by omega) (by omega)]
    rw [if_neg c1] at H
    refine c_R_state (by omega) (by omega) (by omega) q1 g0 g1 k0 k1 (by decide) (by decide) ?_
    refine ⟨(srt S).1, ?_⟩
    refine c_R_add (o := ((0, q, g, k, 1), 0, (i + 1, q, g, c))) (E := E) ?_ S hv v0 v1 P (by omega) (fun h' F P' => ?_)
    · rw [scEnc_q q0, hk, hN]
    · refine c_addHeavy_50 (AddC_o F C') P' (by rw [List.length_append]; show A.length + 1 < 64; omega) hk k0 k1 hN (fun h2 F2 P2 => H h2 (FrO_trans F F2) ?_)
      rw [hk] at *
      rw [← List.append_assoc]
      exact P2
theorem c_R_addLight {h : xH} {Q : xH → Prop} {k c n b : Int} {A : List Op_} (C : AddC h l f E v i q g) (P : RowP h E v A) (ln : A.length + 1 ≤ 64) (hk : c / 4 = k) (k0 : 0 ≤ k) (k1 : k < 4) (hN : cN E g c = n) (n0 : 0 ≤ n) (n1 : n < 4) (hb : b = 0 ∨ b = 1) (H : ∀ h', FrO v h h' → RowP h' E v (A ++ ltL E i q g c b) → Q h') : xCv (d + 3) M_R_addLight [(1, 59), (0, i), (0, q), (0, g), (0, k), (0, n), (0, b)] h Q := by
  obtain ⟨R, hv, v0, v1, i0, i1, q0, q1, g0, g1⟩ := C
  have S := R.1
  have nn := (reo R).2.1
  unfold ltL at H
  rw [hk] at H
  have own : (E 1 i = 2 ∨ (E 1 i = 3 ∧ b = 1)) → xCv (d + 2) M_R_add [(1, 59), (0, 0), (0, q), (0, g), (0, k), (0, 2), (0, (((9 * (i + 1) + q + 1) * 12 + g) * 4 + k) * 4 + n), (0, 0)] h Q := fun z => by
    rw [if_pos z] at H
    refine c_R_add (o := ((0, q, g, k, 2), 0, (i + 1, q, g, c))) (E := E) ?_ S hv v0 v1 P (by omega) H
    rw [scEnc_q q0, hk, hN]
  have stop : (¬ (E 1 i = 2 ∨ (E 1 i = 3 ∧ b = 1))) → xT (d + 2) M_R_addLight 29 [(1, 59), (0, i), (0, q), (0, g), (0, k), (0, n), (0, b), (0, E 1 i)] [] h (xqv Q) := fun z => by
    rw [if_neg z] at H
    have none : (¬ (E 1 i = 1 ∧ b = 1 ∧ i = 0 ∧ 0 ≤ E 13 3)) → Q h := fun y => by
      rw [if_neg y, List.append_nil] at H
      exact H h (FrO_refl _ _) P
    apply L_R_addLight_29
    refine x_if (fun c1 => x_if (fun c2 => none (by omega)) (fun c2 => x_if (fun c3 => ?_) (fun c3 => none (by omega)))) (fun c1 => none (by omega))
    simp only [srt S, srl S, srf S, true_and, and_true, false_and, and_false, forall_eq, forall_eq', xi_wi, xr_wi, xt_wi, xl_wi, xn_wi, xs_wi, xi_wr, xr_wr, xt_wr, xl_wr, xn_wr, xs_wr, if_true, if_false, and_self, Int.reduceEq, Int.reduceLT, Int.reduceLE, Int.reduceNeg, Int.le_refl, Int.reduceMod]
    rw [re13 R 3, xw_id (a := i + 1) (by omega) (by omega)]
    refine x_if (fun c4 => none (by omega)) (fun c4 => ?_)
    refine c_R_state (by omega) (by omega) (by omega) q1 g0 g1 k0 k1 n0 n1 ?_
    simp only [srt S, srl S, srf S, true_and, and_true, false_and, and_false, forall_eq, forall_eq', xi_wi, xr_wi, xt_wi, xl_wi, xn_wi, xs_wi, xi_wr, xr_wr, xt_wr, xl_wr, xn_wr, xs_wr, if_true, if_false, and_self, Int.reduceEq, Int.reduceLT, Int.reduceLE, Int.reduceNeg, Int.le_refl, Int.reduceMod]
    rw [re13 R 3]
    rw [if_pos (by omega)] at H
    refine c_R_add (o := ((2, q, g, k, 2), E 13 3, (i + 1, q, g, c))) (E := E) ?_ S hv v0 v1 P (by omega) H
    rw [scEnc_q q0, hk, hN]
  apply L_R_addLight
  refine ⟨(srt S).1, ?_⟩
  refine c_R_markOf R i0 i1 ?_
  rw [xw_id (a := i + 1) (by omega) (by omega)]
  refine x_if (fun c1 => ?_) (fun c1 => x_if (fun c2 => x_if (fun c3 => stop (by omega)) (fun c3 => ?_)) (fun c2 => stop (by omega)))
  · refine c_R_state (by omega) (by omega) (by omega) q1 g0 g1 k0 k1 n0 n1 ?_
    exact ⟨(srt S).1, own (Or.inl c1)⟩
  · refine c_R_state (by omega) (by omega) (by omega) q1 g0 g1 k0 k1 n0 n1 ?_
    exact ⟨(srt S).1, own (Or.inr ⟨c2, by omega⟩)⟩
/-! the reference's pieces against the choices -/
theorem hvL_1 (ok : EOk E) (i0 : 0 ≤ i) (i1 : i < E 0 0) (c : Int) : hvL E i q g c 1 = scC1 E i q g (1, c) := by
  have m := ok.2.2.1 i i0 i1
  unfold hvL scC1 mlL scOwn scWay scAs
  simp only [Int.reduceEq, if_false, if_true, true_and, true_or, show ¬ (i < 0 ∨ E 0 0 ≤ i) by omega]
  by_cases c1 : E 1 i = 2
  · simp only [c1, if_true, Int.reduceEq, or_self, if_false]
  · have e : E 1 i = 3 ∨ E 1 i = 1 := by omega
    simp only [c1, if_false, e, if_true, Int.le_refl]
theorem ltL_1 (ok : EOk E) (i0 : 0 ≤ i) (i1 : i < E 0 0) (c : Int) : ltL E i q g c 1 = scC1 E i q g (2, c) := by
  have m := ok.2.2.1 i i0 i1
  unfold ltL scC1 scOwn scWay scAs
  simp only [Int.reduceEq, if_false, if_true, and_true, true_and, or_self, false_and, List.append_nil, show ¬ (i < 0 ∨ E 0 0 ≤ i) by omega]
  by_cases c1 : E 1 i = 1
  · simp only [c1, if_true, Int.reduceEq, or_self, if_false, true_and]
    by_cases c2 : i = 0
    · simp only [c2, if_true, true_and]
    · simp only [c2, if_false, false_and, Int.reduceNeg, Int.reduceLE]
  · have e : E 1 i = 2 ∨ E 1 i = 3 := by omega
    have e2 : E 1 i = 3 ∨ E 1 i = 2 := by omega
    simp only [c1, if_false, e, e2, if_true, Int.le_refl]
theorem anyL (ok : EOk E) (i0 : 0 ≤ i) (i1 : i < E 0 0) (c : Int) : (hvL E i q g c 0 ++ ltL E i q g c 0).Perm (scC1 E i q g (3, c)) := by
  have m := ok.2.2.1 i i0 i1
  unfold hvL ltL scC1 mlL scOwn scWay scAs
  simp only [Int.reduceEq, if_false, if_true, and_false, or_false, false_and, true_and, or_true, show ¬ (i < 0 ∨ E 0 0 ≤ i) by omega, Int.le_refl]
  by_cases c1 : E 1 i = 2
  · simp only [c1, if_true, Int.reduceEq, or_true, List.nil_append]
    exact List.perm_append_comm
  · have e : E 1 i = 3 ∨ E 1 i = 1 := by omega
    simp only [c1, if_false, e, if_true, List.append_nil]
    exact List.Perm.refl _
def scOpen (E : SEn) (g k : Int) : List (Int × Int) := if E 8 g = 4 then [(1, 4 * k)] else fopen (E 8 g) (E 9 g) (fun j => E 12 (4 * g + j)) k
def plL (E : SEn) (i q g k : Int) : List Op_ := (scOpen E g k).flatMap (scC1 E i q g)
theorem plL_0 : plL E i q g 0 = scCs E i q g 16 := by
  unfold plL scCs scOpen scCh fch
  by_cases c : E 8 g = 4
  · rw [if_pos c, if_pos c, if_pos rfl]; rfl
  · rw [if_neg c, if_neg c, if_pos rfl]
theorem scC1_len (p : Int × Int) : (scC1 E i q g p).length ≤ 2 := by
  unfold scC1
  rw [List.length_append]
  by_cases c : 0 ≤ scOwn E p.1 i
  · rw [if_pos c]
    by_cases c2 : (p.1 = 1 ∨ p.1 = 3) ∧ 0 ≤ scMl E i
    · rw [if_pos c2]; exact Nat.le_refl _
    · rw [if_neg c2]; show 1 + 0 ≤ 2; decide
  · rw [if_neg c]
    by_cases c2 : (p.1 = 1 ∨ p.1 = 3) ∧ 0 ≤ scMl E i
    · rw [if_pos c2]; show 0 + 1 ≤ 2; decide
    · rw [if_neg c2]; show 0 + 0 ≤ 2; decide
theorem flat_len (L : List (Int × Int)) : (L.flatMap (scC1 E i q g)).length ≤ 2 * L.length := by
  induction L with
  | nil => exact Nat.le_refl _
  | cons a L ih =>
    rw [List.flatMap_cons, List.length_append, List.length_cons]
    have := scC1_len (E := E) (i := i) (q := q) (g := g) a
    omega
theorem plL_len {k : Int} : (plL E i q g k).length ≤ 4 := by
  refine Nat.le_trans (flat_len _) ?_
  unfold scOpen fopen
  by_cases c : E 8 g = 4
  · rw [if_pos c]; show 2 * 1 ≤ 4; decide
  · rw [if_neg c]
    by_cases c2 : fd (E 8 g) (E 9 g) (fun j => E 12 (4 * g + j)) k = 4
    · rw [if_pos c2]; exact Nat.le_refl _
    · rw [if_neg c2]; show 2 * 1 ≤ 4; decide
theorem c_R_addPlace {h : xH} {Q : xH → Prop} {k : Int} {A : List Op_} (C : AddC h l f E v i q g) (P : RowP h E v A) (ln : A.length + 4 ≤ 64) (F : FOk (E 8 g) (E 9 g) (E 10 g) (E 11 g) (fun j => E 12 (4 * g + j))) (k0 : 0 ≤ k) (k1 : k < E 9 g) (H : ∀ h', FrO v h h' → RowP h' E v (A ++ plL E i q g k) → Q h') : xCv (d + 4) M_R_addPlace [(1, 59), (0, i), (0, q), (0, g), (0, k)] h Q := by
  have C' := C
  obtain ⟨R, hv, v0, v1, i0, i1, q0, q1, g0, g1⟩ := C
  have S := R.1
  have ok := reo R
  have nn := ok.2.1
  have m4 : E 9 g ≤ 4 := F.2.2.2.1
  have z4 : (4 * k) / 4 = k := by omega
  have z41 : (4 * k + 1) / 4 = k := by omega
  unfold plL scOpen at H
  apply L_R_addPlace
  simp only [srt S, srl S, srf S, true_and, and_true, false_and, and_false, forall_eq, forall_eq', xi_wi, xr_wi, xt_wi, xl_wi, xn_wi, xs_wi, xi_wr, xr_wr, xt_wr, xl_wr, xn_wr, xs_wr, if_true, if_false, and_self, Int.reduceEq, Int.reduceLT, Int.reduceLE, Int.reduceNeg, Int.le_refl, Int.reduceMod]
  rw [re8 R g]
  refine ⟨⟨g0, by omega⟩, ?_⟩
  by_cases c1 : E 8 g = 4
  · rw [if_pos c1]
    rw [if_pos c1, List.flatMap_cons, List.flatMap_nil, List.append_nil, ← hvL_1 ok i0 i1] at H
    exact c_R_addHeavy C' P (by omega) z4 k0 (by omega) (by unfold cN; rw [if_pos c1]; omega) (Or.inr rfl) H
  · rw [if_neg c1]
    rw [if_neg c1] at H
    have n1 : cN E g (4 * k + 1) = 0 := by unfold cN; rw [if_neg c1]; omega
    have n0 : cN E g (4 * k) = 1 := by unfold cN; rw [if_neg c1]; omega
    rw [xw_id (a := 4 * g) (by omega) (by omega), xw_id (a := 4 * g + k) (by omega) (by omega), re12 R (4 * g + k), re9 R g, xw_id (a := E 9 g - 1) (by omega) (by omega)]
    refine ⟨⟨by omega, by omega⟩, ⟨g0, by omega⟩, ?_⟩
    have dg : 1 ≤ E 12 (4 * g + k) ∧ E 12 (4 * g + k) ≤ 4 := F.2.2.2.2.2.1 c1 k k0 k1
    have go : ∀ w, w = fd (E 8 g) (E 9 g) (fun j => E 12 (4 * g + j)) k → 1 ≤ w → w ≤ 4 → xT (d + 3) M_R_addPlace 39 [(1, 59), (0, i), (0, q), (0, g), (0, k), (0, w)] [] h (xqv Q) := by
      intro w hw w1 w4
      unfold fopen at H
      rw [← hw] at H
      apply L_R_addPlace_39
      by_cases d2 : w = 2
      · rw [if_pos d2]
        rw [if_neg (by omega), d2, List.flatMap_cons, List.flatMap_nil, List.append_nil, ← ltL_1 ok i0 i1] at H
        exact ⟨(srt S).1, c_R_addLight C' P (by omega) z41 k0 (by omega) n1 (by decide) (by decide) (Or.inr rfl) H⟩
      · rw [if_neg d2]
        by_cases d3 : w = 3
        · rw [if_pos d3]
          rw [if_neg (by omega), d3, List.flatMap_cons, List.flatMap_nil, List.append_nil] at H
          apply L_R_addPlace_62
          refine ⟨(srt S).1, ?_⟩
          refine c_R_addHeavy C' P (by omega) z41 k0 (by omega) n1 (Or.inl rfl) (fun h1 F1 P1 => ?_)
          rw [if_pos d3]
          refine ⟨(srt (SR_2 F1.1.1 S)).1, ?_⟩
          have lh : (hvL E i q g (4 * k + 1) 0).length ≤ 2 := by
            unfold hvL
            rw [List.length_append]
            have := mlL_len (E := E) (i := i) (q := q) (g := g) (c := 4 * k + 1)
            by_cases e : E 1 i = 2
            · rw [if_pos e, if_neg (by omega)]; show 0 + _ ≤ 2; omega
            · rw [if_neg e]; show 1 + _ ≤ 2; omega
          refine c_R_addLight (AddC_o F1 C') P1 (by rw [List.length_append]; omega) z41 k0 (by omega) n1 (by decide) (by decide) (Or.inl rfl) (fun h2 F2 P2 => ?_)
          rw [if_neg (by omega)]
          refine H h2 (FrO_trans F1 F2) ?_
          obtain ⟨L, a, b, p⟩ := P2
          refine ⟨L, a, b, p.trans ?_⟩
          rw [List.append_assoc]
          exact (anyL ok i0 i1 (4 * k + 1)).append_left A
        · rw [if_neg d3]
          apply L_R_addPlace_62
          refine ⟨(srt S).1, ?_⟩
          refine c_R_addHeavy C' P (by omega) z41 k0 (by omega) n1 (Or.inr rfl) (fun h1 F1 P1 => ?_)
          rw [if_neg d3]
          rw [hvL_1 ok i0 i1] at P1
          by_cases d4 : w = 4
          · rw [if_pos d4]
            rw [if_pos d4, List.flatMap_cons, List.flatMap_cons, List.flatMap_nil, List.append_nil, ← ltL_1 ok i0 i1] at H
            have lh := scC1_len (E := E) (i := i) (q := q) (g := g) (1, 4 * k + 1)
            refine ⟨(srt (SR_2 F1.1.1 S)).1, ?_⟩
            refine c_R_addLight (AddC_o F1 C') P1 (by rw [List.length_append]; omega) z4 k0 (by omega) n0 (by decide) (by decide) (Or.inr rfl) (fun h2 F2 P2 => H h2 (FrO_trans F1 F2) ?_)
            rw [← List.append_assoc]
            exact P2
          · rw [if_neg d4]
            rw [if_neg d4, List.flatMap_cons, List.flatMap_nil, List.append_nil, show w = 1 by omega] at H
            exact H h1 F1 P1
    have fdv : fd (E 8 g) (E 9 g) (fun j => E 12 (4 * g + j)) k = if E 8 g = 2 ∧ k = E 9 g - 1 then 3 else E 12 (4 * g + k) := rfl
    by_cases c2 : E 8 g = 2
    · rw [if_pos c2]
      refine ⟨⟨g0, by omega⟩, ?_⟩
      by_cases c3 : k = E 9 g - 1
      · rw [if_pos c3]
        exact go 3 (by rw [fdv, if_pos ⟨c2, c3⟩]) (by decide) (by decide)
      · rw [if_neg c3]
        exact go _ (by rw [fdv, if_neg (fun z => c3 z.2)]) dg.1 dg.2
    · rw [if_neg c2]
      exact go _ (by rw [fdv, if_neg (fun z => c2 z.1)]) dg.1 dg.2
end RL
