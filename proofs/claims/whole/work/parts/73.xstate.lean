/-! scanning: the class' value of a state; a foot's part of the table -/
section XV_
variable {p f : Int} {E : SEn} {b : Bool} {d : Nat}
theorem scC1_n {i q g : Int} {w : Int × Int} (hi : E 0 0 ≤ i) : scC1 E i q g w = [] := by
  unfold scC1
  rw [if_neg (fun z => by have := scOwn_n z; omega), if_neg (fun z => by have := scMl_n z.2; omega)]; rfl
theorem scCs_n {i q g c : Int} (hi : E 0 0 ≤ i) : scCs E i q g c = [] := by
  unfold scCs
  generalize scCh E g c = L
  induction L with
  | nil => rfl
  | cons a L ih => rw [List.flatMap_cons, scC1_n hi, List.nil_append]; exact ih
theorem scPosN_n {i q : Int} (hi : E 0 0 ≤ i) : ∀ m : Nat, scPosN E i q m = [] := by
  intro m
  induction m with
  | zero => rfl
  | succ m ih =>
    rw [scPosN_succ, ih]
    by_cases c : scStand E q (m : Int) = true
    · rw [if_pos c, scCs_n hi]; rfl
    · rw [if_neg c]; rfl
def top (b : Bool) : Int := if b then 1000000000 else 268435456
theorem top_le (b : Bool) : top b ≤ 1000000000 := by cases b <;> decide
theorem scF_top (ok : EOk E) {t : Int} {L : List Op_} (t0 : 0 ≤ t) (t1 : t ≤ top b) (H : ∀ o ∈ L, 0 ≤ o.2.1 ∧ o.2.2.1 ≤ 40) : 0 ≤ scF E b t L ∧ scF E b t L ≤ top b := by
  cases b
  · have := scF_f L t t0 t1 (fun o m => ⟨(H o m).1, (scW_f ok (H o m).2).1⟩)
    have t1' : t ≤ 268435456 := t1
    exact ⟨this.1, by show _ ≤ (268435456 : Int); omega⟩
  · exact scF_t L t t0 t1 (fun o m => (scW_t ok (H o m).2).1)
theorem scZ_top (b : Bool) : 0 ≤ scZ b ∧ scZ b ≤ top b := by cases b <;> decide
theorem scF_g (ok : EOk E) {t : Int} {L : List Op_} (t0 : 0 ≤ t) (t1 : t ≤ top b) (H : ∀ o ∈ L, 0 ≤ o.2.1 ∧ o.2.2.1 ≤ 40) : scJ b t 0 (scF E b (scZ b) L) = scF E b t L := by
  rw [scF_gate b L t (scZ b) t0 (scZ_top b).1 (fun o m => ⟨(H o m).1, (scW_b ok b (H o m).2).1⟩), scJ_z b t0 t1]
theorem pos_bd (ok : EOk E) {i q : Int} {m : Nat} : ∀ o ∈ scPosN E i q m, 0 ≤ o.2.1 ∧ o.2.2.1 ≤ 40 := fun o h => by
  obtain ⟨g, -, -, ho⟩ := scPos_mem h
  have := scCs_nx ho
  have := ok.2.1
  omega
theorem cs_bd (ok : EOk E) {i q g c : Int} : ∀ o ∈ scCs E i q g c, 0 ≤ o.2.1 ∧ o.2.2.1 ≤ 40 := fun o h => by
  have := scCs_nx h
  have := ok.2.1
  omega
theorem in_bd (ok : EOk E) {i q g c : Int} : ∀ o ∈ scIn E i q g c, 0 ≤ o.2.1 ∧ o.2.2.1 ≤ 40 := fun o h => by
  unfold scIn at h
  by_cases e : (scLast E (i - 1) || !scAsk E g c) = true
  · rw [if_pos e] at h; exact cs_bd ok o h
  · rw [if_neg e] at h; exact absurd h List.not_mem_nil
theorem lo_bd (ok : EOk E) {i q g c : Int} : ∀ o ∈ scLo E i q g c, 0 ≤ o.2.1 ∧ o.2.2.1 ≤ 40 := fun o h => by
  unfold scLo at h
  by_cases e : 0 ≤ scLs E i
  · rw [if_pos e, List.mem_singleton] at h
    subst h
    have := scLs_n e
    have := ok.2.1
    exact ⟨e, by show i + 1 ≤ 40; omega⟩
  · rw [if_neg e] at h; exact absurd h List.not_mem_nil
/-- what is behind the last foot -/
def finV (E : SEn) (b : Bool) (i : Int) : Int := if i = E 0 0 then sc1 b else if scEx E i < 0 then scZ b else if b then 1 else scEx E i
def svT (E : SEn) (b : Bool) (i q g c : Int) : Int := scF E b (scF E b (scZ b) (scLo E i q g c)) (scIn E i q g c)
def svL (E : SEn) (b : Bool) (i q g c : Int) : Int := if (scEnd E g c && (scLast E (i - 1) || !scCut E q)) = true then scJ b (svT E b i q g c) 0 (if q + 1 < E 5 0 then scF E b (scZ b) (scPosN E i (q + 1) 12) else finV E b i) else svT E b i q g c
theorem sv_top (ok : EOk E) (i q g c : Int) : 0 ≤ svT E b i q g c ∧ svT E b i q g c ≤ top b := by
  have a := scF_top ok (scZ_top b).1 (scZ_top b).2 (lo_bd ok (i := i) (q := q) (g := g) (c := c))
  exact scF_top ok a.1 a.2 (in_bd ok)
theorem sc1_J (b : Bool) : scJ b (scZ b) 0 (sc1 b) = sc1 b := by cases b <;> rfl
theorem sv_eq (ok : EOk E) {i q g c : Int} (i0 : 0 ≤ i) (i1 : i ≤ E 0 0) (q0 : 0 ≤ q) (q1 : q < E 5 0) : svL E b i q g c = scW E b (i, q, g, c) := by
  have n40 := ok.2.1
  have n1 := ok.1
  rw [scW_eq ok b (s := (i, q, g, c)) (by show i ≤ 40; omega)]
  have tt := sv_top (b := b) ok i q g c
  unfold svL
  by_cases ci : i < E 0 0
  · have nf : scFin E (i, q, g, c) = false := by
      unfold scFin
      rw [decide_eq_false (by show ¬ q = -2; omega), decide_eq_false (by show ¬ i = E 0 0; omega)]; rfl
    have eo : scOps E (i, q, g, c) = scLo E i q g c ++ (scIn E i q g c ++ scLv E i q g c) := by unfold scOps; rw [if_neg (by show ¬ E 0 0 ≤ i; omega), if_neg (by show ¬ q = -1; omega)]
    rw [nf, if_neg (show ¬ (false = true) by decide), eo, scF_app, scF_app]
    show _ = scF E b (svT E b i q g c) (scLv E i q g c)
    unfold scLv
    by_cases l : (scEnd E g c && (scLast E (i - 1) || !scCut E q)) = true
    · rw [if_pos l, if_pos l]
      by_cases l2 : q + 1 < E 5 0
      · rw [if_pos l2, if_pos l2]
        exact scF_g ok tt.1 tt.2 (pos_bd ok)
      · rw [if_neg l2, if_neg l2]
        unfold finV
        rw [if_neg (by omega)]
        by_cases l3 : 0 ≤ scEx E i
        · rw [if_pos l3, if_neg (by omega)]
          have ed : scW E b (E 0 0, -2, 0, 0) = sc1 b := by
            rw [scW_eq ok b (by show E 0 0 ≤ 40; omega)]; rfl
          show _ = scJ b (svT E b i q g c) (scEx E i) (scW E b (E 0 0, -2, 0, 0))
          rw [ed]
          cases b
          · show min _ (0 + scEx E i) = min _ (scEx E i + 0); omega
          · rfl
        · rw [if_neg l3, if_pos (by omega)]
          exact scJ_z b tt.1 tt.2
    · rw [if_neg l, if_neg l]; rfl
  · have ei : i = E 0 0 := by omega
    have eT : svT E b i q g c = scZ b := by
      have e1 : scLo E i q g c = [] := by
        unfold scLo
        rw [if_neg (fun z => by have := scLs_n z; omega)]
      have e2 : scIn E i q g c = [] := by
        unfold scIn
        rw [scCs_n (by omega)]
        by_cases e : (scLast E (i - 1) || !scAsk E g c) = true
        · rw [if_pos e]
        · rw [if_neg e]
      unfold svT
      rw [e1, e2]; rfl
    have eo : scOps E (i, q, g, c) = [] := by unfold scOps; rw [if_pos (by show E 0 0 ≤ i; omega)]
    have la : scLast E (i - 1) = true := by
      unfold scLast
      rw [decide_eq_true (by omega : 0 ≤ i - 1), decide_eq_true (by omega : i - 1 = E 0 0 - 1)]; rfl
    have ef : scFin E (i, q, g, c) = (decide (q = E 5 0 - 1) && scEnd E g c) := by
      unfold scFin
      rw [decide_eq_false (by show ¬ q = -2; omega), decide_eq_true (by exact ei), decide_eq_true (by exact q0), Bool.false_or, Bool.true_and, Bool.true_and]
    rw [eo, eT, ef, la, Bool.true_or, Bool.and_true]
    show _ = if _ then sc1 b else scZ b
    cases se : scEnd E g c
    · rw [if_neg (by decide), Bool.and_false, if_neg (by decide)]
    · rw [if_pos rfl, Bool.and_true]
      by_cases l2 : q + 1 < E 5 0
      · rw [if_pos l2, decide_eq_false (by omega), if_neg (by decide), scPosN_n (by omega)]
        exact scJ_z b (scZ_top b).1 (scZ_top b).2
      · rw [if_neg l2, decide_eq_true (by omega), if_pos rfl]
        unfold finV
        rw [if_pos ei]
        exact sc1_J b
variable {Q : Int → xH → Prop} {h : xH}
theorem c_X_finish {i : Int} (C : ScC h p f E b) (i0 : 0 ≤ i) (i1 : i ≤ E 0 0) (H : Q (finV E b i) h) : xCi (d + 2) M_Scanner_finish [(1, 28), (0, i)] h Q := by
  have SX_ := C.1.1
  have ok := C.1.2.2.2.1
  have n40 := ok.2.1
  have L := C.1.2.2.2.2.1
  unfold XLe at L
  have tp := L.1
  have e9 := C.2.2.2.1
  have e10 := C.2.2.2.2.1
  unfold finV at H
  apply L_Scanner_finish
  simp only [sxt SX_, sxl SX_, sxf SX_, C.2.1, tp, e9, true_and, and_true, false_and, and_false, forall_eq, forall_eq', xi_wi, xr_wi, xt_wi, xl_wi, xn_wi, xs_wi, xi_wr, xr_wr, xt_wr, xl_wr, xn_wr, xs_wr, if_true, if_false, and_self, Int.reduceEq, Int.reduceLT, Int.reduceLE, Int.reduceNeg, Int.le_refl, Int.reduceMod]
  rw [L.2.1]
  by_cases c : i = E 0 0
  · rw [if_pos c]
    rw [if_pos c] at H
    cases b
    · rw [b2i_0, if_pos rfl]; exact H
    · rw [b2i_1, if_neg (by decide)]; exact H
  · rw [if_neg c]
    rw [if_neg c] at H
    refine c_X_extra C i0 (by omega) ?_
    by_cases c2 : scEx E i < 0
    · rw [if_pos c2]
      rw [if_pos c2] at H
      simp only [sxt SX_, sxl SX_, sxf SX_, e10, true_and, and_true, false_and, and_false, forall_eq, forall_eq', xi_wi, xr_wi, xt_wi, xl_wi, xn_wi, xs_wi, xi_wr, xr_wr, xt_wr, xl_wr, xn_wr, xs_wr, if_true, if_false, and_self, Int.reduceEq, Int.reduceLT, Int.reduceLE, Int.reduceNeg, Int.le_refl, Int.reduceMod]
      exact H
    · rw [if_neg c2]
      rw [if_neg c2] at H
      simp only [sxt SX_, sxl SX_, sxf SX_, e9, true_and, and_true, false_and, and_false, forall_eq, forall_eq', xi_wi, xr_wi, xt_wi, xl_wi, xn_wi, xs_wi, xi_wr, xr_wr, xt_wr, xl_wr, xn_wr, xs_wr, if_true, if_false, and_self, Int.reduceEq, Int.reduceLT, Int.reduceLE, Int.reduceNeg, Int.le_refl, Int.reduceMod]
      cases b
      · rw [b2i_0, if_pos rfl]; exact H
      · rw [b2i_1, if_neg (by decide)]; exact H
theorem c_sv_58 {i q g c bs : Int} {u1 u3 u4 u7 : xV} (C : ScC h p f E b) (i0 : 0 ≤ i) (i1 : i ≤ E 0 0) (q0 : 0 ≤ q) (q1 : q < E 5 0) (G : q + 1 < E 5 0 → h.i 29 ((q + 1) * 41 + i) = scF E b (scZ b) (scPosN E i (q + 1) 12)) (l : (scEnd E g c && (scLast E (i - 1) || !scCut E q)) = true) (H : Q (scW E b (i, q, g, c)) h) : xT (d + 3) M_Scanner_stateValue 58 [(1, 28), u1, (0, q), u3, u4, (0, i), (0, svT E b i q g c), u7] [] h (xqi Q) := by
  have SX_ := C.1.1
  have ok := C.1.2.2.2.1
  have n40 := ok.2.1
  have p8 := ok.2.2.2.2.1
  have tt := sv_top (b := b) ok i q g c
  have tb := top_le b
  have ef := C.2.2.1
  rw [← sv_eq ok i0 i1 q0 q1] at H
  unfold svL at H
  rw [if_pos l] at H
  apply L_Scanner_stateValue_58
  simp only [sxt SX_, sxl SX_, sxf SX_, ef, true_and, and_true, false_and, and_false, forall_eq, forall_eq', xi_wi, xr_wi, xt_wi, xl_wi, xn_wi, xs_wi, xi_wr, xr_wr, xt_wr, xl_wr, xn_wr, xs_wr, if_true, if_false, and_self, Int.reduceEq, Int.reduceLT, Int.reduceLE, Int.reduceNeg, Int.le_refl, Int.reduceMod]
  refine c_X_positions C.1 ?_
  rw [xw_id (a := q + 1) (by omega) (by omega)]
  by_cases l2 : q + 1 < E 5 0
  · rw [if_pos l2]
    rw [if_pos l2] at H
    simp only [sxt SX_, sxl SX_, sxf SX_, true_and, and_true, false_and, and_false, forall_eq, forall_eq', xi_wi, xr_wi, xt_wi, xl_wi, xn_wi, xs_wi, xi_wr, xr_wr, xt_wr, xl_wr, xn_wr, xs_wr, if_true, if_false, and_self, Int.reduceEq, Int.reduceLT, Int.reduceLE, Int.reduceNeg, Int.le_refl, Int.reduceMod]
    rw [xw_id (a := (q + 1) * 41) (by omega) (by omega), xw_id (a := (q + 1) * 41 + i) (by omega) (by omega), G l2]
    have gb := scF_top ok (b := b) (scZ_top b).1 (scZ_top b).2 (pos_bd ok (i := i) (q := q + 1) (m := 12))
    refine ⟨⟨by omega, by omega⟩, c_X_join C tt.1 (by omega) (by decide) (by decide) gb.1 (by omega) H⟩
  · rw [if_neg l2]
    rw [if_neg l2] at H
    refine ⟨(sxt SX_).2.2.2.2.2.2.2.2.2.2.2.2.2.2.2.2.2.2.2.2.2.2.2.2.2.2.1, ?_⟩
    refine c_X_finish C i0 i1 ?_
    refine ⟨(sxt SX_).2.2.2.2.2.2.2.2.2.2.2.2.2.2.2.2.2.2.2.2.2.2.2.2.2.2.1, ?_⟩
    have fb : 0 ≤ finV E b i ∧ finV E b i ≤ 1000000000 := by
      unfold finV
      have := scEx_50 ok i
      have := scZ_top b
      by_cases a1 : i = E 0 0
      · rw [if_pos a1]; cases b <;> decide
      · rw [if_neg a1]
        by_cases a2 : scEx E i < 0
        · rw [if_pos a2]; omega
        · rw [if_neg a2]
          cases b
          · rw [if_neg (by decide)]; omega
          · rw [if_pos rfl]; decide
    exact c_X_join C tt.1 (by omega) (by decide) (by decide) fb.1 fb.2 H
theorem c_X_stateV {ft i q g c bs : Int} (C : ScC h p f E b) (F : FOk (E 8 g) (E 9 g) (E 10 g) (E 11 g) (fun k => E 12 (4 * g + k))) (B : FTab h ft (E 8 g) (E 9 g) (E 10 g) (E 11 g) (fun k => E 12 (4 * g + k))) (c0 : 0 ≤ c) (c1 : c < fcE E g) (b0 : 0 ≤ bs) (bl : (bs + fcE E g) * 41 ≤ tl h) (K : CB h E b bs q g i) (i0 : 0 ≤ i) (i1 : i ≤ E 0 0) (q0 : 0 ≤ q) (q1 : q < E 5 0) (G : q + 1 < E 5 0 → h.i 29 ((q + 1) * 41 + i) = scF E b (scZ b) (scPosN E i (q + 1) 12)) (H : Q (scW E b (i, q, g, c)) h) : xCi (d + 4) M_Scanner_stateValue [(1, 28), (1, ft), (0, q), (0, bs), (0, c), (0, i)] h Q := by
  have SX_ := C.1.1
  have ok := C.1.2.2.2.1
  have n40 := ok.2.1
  have p8 := ok.2.2.2.2.1
  have L := C.1.2.2.2.2.1
  unfold XLe at L
  have tp := L.1
  have ef := C.2.2.1
  have tft := B.2.2.1
  have tb := top_le b
  have T1 := C.2.2.2.2.2.2.2.2.2.2
  have f14 : fcE E g ≤ 14 := by
    unfold FOk at F
    unfold fcE fcodes
    by_cases z : E 8 g = 4
    · rw [if_pos z]; omega
    · rw [if_neg z]; omega
  have P := (C.2.2.2.2.2.2.1 i i0 (by omega)).2.2.2.2
  have z2 := scF_top ok (b := b) (scZ_top b).1 (scZ_top b).2 (lo_bd ok (i := i) (q := q) (g := g) (c := c))
  have H' := H
  rw [← sv_eq ok i0 i1 q0 q1] at H'
  unfold svL at H'
  -- behind the choices
  have leave : ∀ (wE : Bool) (u1 u3 u4 : xV), wE = scLast E (i - 1) → xCi (d + 3) M_Foot_mayEnd [(1, ft), (0, c)] h (fun r2 h2 => if r2 = 0 then Q (svT E b i q g c) h2 else if b2i wE = 0 then h2.tag 28 = 8 ∧ h2.tag (h2.r 28 0) = 4 ∧ xCi (d + 3) M_Metre_cutBehind [(1, h2.r 28 0), (0, h2.i 28 8), (0, q)] h2 (fun r3 h3 => if r3 = 0 then xT (d + 3) M_Scanner_stateValue 58 [(1, 28), u1, (0, q), u3, u4, (0, i), (0, svT E b i q g c), (0, b2i wE)] [] h3 (xqi Q) else Q (svT E b i q g c) h3) else xT (d + 3) M_Scanner_stateValue 58 [(1, 28), u1, (0, q), u3, u4, (0, i), (0, svT E b i q g c), (0, b2i wE)] [] h2 (xqi Q)) := by
    intro wE u1 u3 u4 hw
    refine c_X_mayEnd B c0 (by omega) ?_
    change (if b2i (scEnd E g c) = 0 then _ else _)
    cases e : scEnd E g c
    · rw [e, Bool.false_and, if_neg (by decide)] at H'
      rw [b2i_0, if_pos rfl]; exact H'
    · rw [b2i_1, if_neg (by decide)]
      cases w : wE
      · rw [b2i_0, if_pos rfl]
        simp only [sxt SX_, sxl SX_, sxf SX_, ef, true_and, and_true, false_and, and_false, forall_eq, forall_eq', xi_wi, xr_wi, xt_wi, xl_wi, xn_wi, xs_wi, xi_wr, xr_wr, xt_wr, xl_wr, xn_wr, xs_wr, if_true, if_false, and_self, Int.reduceEq, Int.reduceLT, Int.reduceLE, Int.reduceNeg, Int.le_refl, Int.reduceMod]
        refine c_X_cutB C.1 q0 (by omega) ?_
        cases cu : scCut E q
        · rw [b2i_0, if_pos rfl]
          exact c_sv_58 (bs := bs) C i0 i1 q0 q1 G (by rw [e, cu, ← hw, w]; rfl) H
        · rw [b2i_1, if_neg (by decide)]
          rw [e, cu, ← hw, w, if_neg (by decide)] at H'
          exact H'
      · rw [b2i_1, if_neg (by decide)]
        exact c_sv_58 (bs := bs) C i0 i1 q0 q1 G (by rw [e, ← hw, w]; rfl) H
  have go37 : ∀ wE : Bool, wE = scLast E (i - 1) → (wE || !scAsk E g c) = true → xT (d + 3) M_Scanner_stateValue 37 [(1, 28), (1, ft), (0, q), (0, bs), (0, c), (0, i), (0, scF E b (scZ b) (scLo E i q g c)), (0, b2i wE)] [] h (xqi Q) := by
    intro wE hw ha
    apply L_Scanner_stateValue_37
    refine ⟨(sxt SX_).2.2.2.2.2.2.2.2.2.2.2.2.2.2.2.2.2.2.2.2.2.2.2.2.2.2.1, ?_⟩
    refine c_X_addCh C F B c0 (by omega) b0 bl K i0 i1 z2.1 (by omega) ?_
    have es : scF E b (scF E b (scZ b) (scLo E i q g c)) (scCs E i q g c) = svT E b i q g c := by
      unfold svT scIn
      rw [← hw, if_pos ha]
    rw [es]
    exact ⟨tft, leave wE _ _ _ hw⟩
  have go24 : ∀ u7 : xV, xT (d + 3) M_Scanner_stateValue 24 [(1, 28), (1, ft), (0, q), (0, bs), (0, c), (0, i), (0, scF E b (scZ b) (scLo E i q g c)), u7] [] h (xqi Q) := by
    intro u7
    apply L_Scanner_stateValue_24
    simp only [sxt SX_, sxl SX_, sxf SX_, C.2.1, tp, true_and, and_true, false_and, and_false, forall_eq, forall_eq', xi_wi, xr_wi, xt_wi, xl_wi, xn_wi, xs_wi, xi_wr, xr_wr, xt_wr, xl_wr, xn_wr, xs_wr, if_true, if_false, and_self, Int.reduceEq, Int.reduceLT, Int.reduceLE, Int.reduceNeg, Int.le_refl, Int.reduceMod]
    rw [xw_id (a := i - 1) (by omega) (by omega)]
    refine c_X_ends C.1 (by omega) (by omega) ?_
    cases w : scLast E (i - 1)
    · rw [b2i_0, if_pos rfl]
      refine ⟨tft, ?_⟩
      refine c_X_asks B c0 (by omega) ?_
      change (if b2i (scAsk E g c) = 0 then _ else _)
      cases a : scAsk E g c
      · rw [b2i_0, if_pos rfl]
        exact go37 false w.symm (by rw [a]; rfl)
      · rw [b2i_1, if_neg (by decide)]
        refine ⟨tft, ?_⟩
        have es : svT E b i q g c = scF E b (scZ b) (scLo E i q g c) := by
          unfold svT scIn
          rw [w, a, if_neg (by decide)]; rfl
        have := leave false (1, ft) (0, bs) (0, c) w.symm
        rw [es] at this
        exact this
    · rw [b2i_1, if_neg (by decide)]
      exact go37 true w.symm rfl
  apply L_Scanner_stateValue
  simp only [sxt SX_, sxl SX_, sxf SX_, P, true_and, and_true, false_and, and_false, forall_eq, forall_eq', xi_wi, xr_wi, xt_wi, xl_wi, xn_wi, xs_wi, xi_wr, xr_wr, xt_wr, xl_wr, xn_wr, xs_wr, if_true, if_false, and_self, Int.reduceEq, Int.reduceLT, Int.reduceLE, Int.reduceNeg, Int.le_refl, Int.reduceMod]
  rw [C.2.2.2.2.1]
  refine ⟨⟨i0, by omega⟩, ?_⟩
  by_cases c1 : scLs E i < 0
  · rw [if_pos c1]
    have e : scF E b (scZ b) (scLo E i q g c) = scZ b := by unfold scLo; rw [if_neg (by omega)]; rfl
    have := go24 (9, 0)
    rw [e] at this
    exact this
  · rw [if_neg c1]
    have ln := scLs_n (E := E) (i := i) (by omega)
    rw [xw_id (a := bs + c) (by unfold tl at *; omega) (by unfold tl at *; omega), xw_id (a := i + 1) (by omega) (by omega)]
    refine ⟨⟨i0, by omega⟩, ?_⟩
    refine c_X_cell C (by omega) (by omega) (by omega) (by omega) ?_
    rw [K c (i + 1) c0 ‹_› (by omega) (by omega)]
    refine ⟨(sxt SX_).2.2.2.2.2.2.2.2.2.2.2.2.2.2.2.2.2.2.2.2.2.2.2.2.2.2.1, ?_⟩
    have wb := scW_b ok b (s := (i + 1, q, g, c)) (by show i + 1 ≤ 40; omega)
    have zt := scZ_top b
    refine c_X_join C zt.1 (by omega) (by omega) (scLs_50 ok i) wb.1 wb.2 ?_
    have e : scJ b (scZ b) (scLs E i) (scW E b (i + 1, q, g, c)) = scF E b (scZ b) (scLo E i q g c) := by unfold scLo; rw [if_pos (by omega)]; rfl
    rw [e]
    exact go24 (9, 0)
end XV_
