/-! scanning: the class fills its table -/
section XF
variable {p f : Int} {E : SEn} {b : Bool} {d : Nat}
/-- writing in one column of a foot's part and at one gate -/
def FI (bs cd i a : Int) (h h' : xH) : Prop := Fr [29, h.r 28 6] [] h h' ∧ (∀ k, ¬ (∃ c', 0 ≤ c' ∧ c' < cd ∧ k = (bs + c') * 41 + i) → h'.i (h.r 28 6) k = h.i (h.r 28 6) k) ∧ ∀ k, k ≠ a → h'.i 29 k = h.i 29 k
theorem ScC_t29 {h : xH} (C : ScC h p f E b) : h.r 28 6 ≠ 29 := by
  have := C.1.2.2.1
  unfold I_tab at this
  omega
theorem ScC_g {h h' : xH} (F : Fr [29, h.r 28 6] [] h h') (C : ScC h p f E b) : ScC h' p f E b := ScC_fr F (fun x m => by simp only [List.mem_cons, List.not_mem_nil, or_false] at m; omega) (fun q m => absurd m List.not_mem_nil) C
theorem FI_tr {bs cd i a : Int} {h h1 h2 : xH} (A : FI bs cd i a h h1) (B : FI bs cd i a h1 h2) : FI bs cd i a h h2 := by
  have e : h1.r 28 6 = h.r 28 6 := by rw [(fr_same A.1).1]
  refine ⟨Fr_trans A.1 (by rw [← e]; exact B.1), fun k hk => ?_, fun k hk => (B.2.2 k hk).trans (A.2.2 k hk)⟩
  have := B.2.1 k hk
  rw [e] at this
  exact this.trans (A.2.1 k hk)
theorem c_ff_8 {Q : xH → Prop} {ft q g bs i : Int} (F : FOk (E 8 g) (E 9 g) (E 10 g) (E 11 g) (fun k => E 12 (4 * g + k))) (b0 : 0 ≤ bs) (bl' : bs ≤ 2000) (i0 : 0 ≤ i) (i1 : i ≤ E 0 0) (q0 : 0 ≤ q) (q1 : q < E 5 0) : ∀ (n : Nat) (j : Int) (h : xH) (u6 : xV), 0 ≤ j → j + n = fcE E g → ScC h p f E b → FTab h ft (E 8 g) (E 9 g) (E 10 g) (E 11 g) (fun k => E 12 (4 * g + k)) → (bs + fcE E g) * 41 ≤ tl h → CB h E b bs q g i → (∀ c', 0 ≤ c' → c' < j → h.i (h.r 28 6) ((bs + c') * 41 + i) = scW E b (i, q, g, c')) → (q + 1 < E 5 0 → h.i 29 ((q + 1) * 41 + i) = scF E b (scZ b) (scPosN E i (q + 1) 12)) → 0 ≤ h.i 29 (q * 41 + i) → h.i 29 (q * 41 + i) ≤ 1000000000 → (∀ h' u5 u6, FI bs (fcE E g) i (q * 41 + i) h h' → (∀ c', 0 ≤ c' → c' < fcE E g → h'.i (h.r 28 6) ((bs + c') * 41 + i) = scW E b (i, q, g, c')) → h'.i 29 (q * 41 + i) = scF E b (h.i 29 (q * 41 + i)) (scCs E i q g 16) → xT (d + 4) M_Scanner_fillFoot 4 [(1, 28), (1, ft), (0, q), (0, bs), (0, i - 1), u5, u6] [] h' (xqv Q)) → xT (d + 4) M_Scanner_fillFoot 8 [(1, 28), (1, ft), (0, q), (0, bs), (0, i), (0, j), u6] [] h (xqv Q) := by
  intro n
  induction n with
  | zero =>
    intro j h u6 j0 hj C B bl K D G g0 g1 H
    have SX_ := C.1.1
    have ok := C.1.2.2.2.1
    have n40 := ok.2.1
    have p8 := ok.2.2.2.2.1
    have t29 := ScC_t29 C
    apply L_Scanner_fillFoot_8
    refine ⟨B.2.2.1, ?_⟩
    refine c_X_codes B ?_
    rw [if_neg (by show ¬ j < fcE E g; omega)]
    simp only [sxt SX_, sxl SX_, sxf SX_, true_and, and_true, false_and, and_false, forall_eq, forall_eq', xi_wi, xr_wi, xt_wi, xl_wi, xn_wi, xs_wi, xi_wr, xr_wr, xt_wr, xl_wr, xn_wr, xs_wr, if_true, if_false, and_self, Int.reduceEq, Int.reduceLT, Int.reduceLE, Int.reduceNeg, Int.le_refl, Int.reduceMod]
    rw [xw_id (a := q * 41) (by omega) (by omega), xw_id (a := q * 41 + i) (by omega) (by omega), xw_id (a := i + -1) (by omega) (by omega)]
    refine ⟨⟨by omega, by omega⟩, ?_⟩
    refine c_X_addCh C F B (by decide) (by decide) b0 bl K i0 i1 g0 g1 ?_
    simp only [sxt SX_, sxl SX_, sxf SX_, true_and, and_true, false_and, and_false, forall_eq, forall_eq', xi_wi, xr_wi, xt_wi, xl_wi, xn_wi, xs_wi, xi_wr, xr_wr, xt_wr, xl_wr, xn_wr, xs_wr, if_true, if_false, and_self, Int.reduceEq, Int.reduceLT, Int.reduceLE, Int.reduceNeg, Int.le_refl, Int.reduceMod]
    refine ⟨⟨by omega, by omega⟩, ?_⟩
    rw [show i + -1 = i - 1 by omega]
    refine H _ _ _ ⟨Fr_cell (Fr_refl _ _ _) _ _ (by exact List.mem_cons_self), fun k _ => ?_, fun k hk => ?_⟩ (fun c' c0 c1 => ?_) (by simp only [true_and, and_true, false_and, and_false, forall_eq, forall_eq', xi_wi, xr_wi, xt_wi, xl_wi, xn_wi, xs_wi, xi_wr, xr_wr, xt_wr, xl_wr, xn_wr, xs_wr, if_true, if_false, and_self, Int.reduceEq, Int.reduceLT, Int.reduceLE, Int.reduceNeg, Int.le_refl, Int.reduceMod])
    · rw [xi_wi, if_neg (fun z => t29 z.1)]
    · rw [xi_wi, if_neg (fun z => hk z.2)]
    · rw [xi_wi, if_neg (fun z => t29 z.1)]
      exact D c' c0 (by omega)
  | succ n ih =>
    intro j h u6 j0 hj C B bl K D G g0 g1 H
    have SX_ := C.1.1
    have ok := C.1.2.2.2.1
    have n40 := ok.2.1
    have p8 := ok.2.2.2.2.1
    have t29 := ScC_t29 C
    have tT := C.2.2.2.2.2.1
    have T1 := C.2.2.2.2.2.2.2.2.2.2
    have bl2 := bl
    unfold tl at bl2 T1
    apply L_Scanner_fillFoot_8
    refine ⟨B.2.2.1, ?_⟩
    refine c_X_codes B ?_
    rw [if_pos (by show j < fcE E g; omega)]
    intro x1 e1
    rw [xw_id (a := bs + j) (by omega) (by omega), xw_id (a := (bs + j) * 41) (by omega) (by omega), xw_id (a := (bs + j) * 41 + i) (by omega) (by omega)] at e1
    subst e1
    rw [if_neg (by omega)]
    simp only [sxt SX_, sxl SX_, sxf SX_, tT, true_and, and_true, false_and, and_false, forall_eq, forall_eq', xi_wi, xr_wi, xt_wi, xl_wi, xn_wi, xs_wi, xi_wr, xr_wr, xt_wr, xl_wr, xn_wr, xs_wr, if_true, if_false, and_self, Int.reduceEq, Int.reduceLT, Int.reduceLE, Int.reduceNeg, Int.le_refl, Int.reduceMod]
    rw [if_pos (by omega)]
    refine c_X_stateV C F B j0 (by omega) b0 bl K i0 i1 q0 q1 G ?_
    have F1 : Fr [29, h.r 28 6] [] h (h.wi (h.r 28 6) ((bs + j) * 41 + i) (scW E b (i, q, g, j))) := Fr_cell (Fr_refl _ _ _) _ _ (List.mem_cons_of_mem _ List.mem_cons_self)
    have A1 : FI bs (fcE E g) i (q * 41 + i) h (h.wi (h.r 28 6) ((bs + j) * 41 + i) (scW E b (i, q, g, j))) := by
      refine ⟨F1, fun k hk => ?_, fun k _ => ?_⟩
      · rw [xi_wi, if_neg (fun z => hk ⟨j, j0, by omega, z.2⟩)]
      · rw [xi_wi, if_neg (fun z => t29 z.1.symm)]
    have C1 := ScC_g F1 C
    have ge : ∀ k, (h.wi (h.r 28 6) ((bs + j) * 41 + i) (scW E b (i, q, g, j))).i 29 k = h.i 29 k := fun k => by rw [xi_wi, if_neg (fun z => t29 z.1.symm)]
    simp only [sxt SX_, sxl SX_, sxf SX_, tT, true_and, and_true, false_and, and_false, forall_eq, forall_eq', xi_wi, xr_wi, xt_wi, xl_wi, xn_wi, xs_wi, xi_wr, xr_wr, xt_wr, xl_wr, xn_wr, xs_wr, if_true, if_false, and_self, Int.reduceEq, Int.reduceLT, Int.reduceLE, Int.reduceNeg, Int.le_refl, Int.reduceMod]
    refine ⟨⟨by omega, by omega⟩, ?_⟩
    rw [xw_id (a := j + 1) (by omega) (by omega)]
    refine ih (j + 1) _ _ (by omega) (by omega) C1 (FTab_fr F1 ⟨fun x m => by simp only [List.mem_cons, List.not_mem_nil, or_false] at m; omega, fun q m => absurd m List.not_mem_nil⟩ B) bl (fun c' i' a0 a1 a2 a3 => ?_) (fun c' a0 a1 => ?_) (fun z => by rw [ge]; exact G z) (by rw [ge]; exact g0) (by rw [ge]; exact g1) (fun h' u5 u6 A B' D' => H h' u5 u6 (FI_tr A1 A) B' (by rw [D', ge]))
    · show (h.wi (h.r 28 6) ((bs + j) * 41 + i) (scW E b (i, q, g, j))).i (h.r 28 6) _ = _
      rw [xi_wi, if_neg (by omega)]
      exact K c' i' a0 a1 a2 a3
    · show (h.wi (h.r 28 6) ((bs + j) * 41 + i) (scW E b (i, q, g, j))).i (h.r 28 6) _ = _
      rw [xi_wi]
      by_cases z : c' = j
      · rw [z, if_pos ⟨rfl, rfl⟩]
      · rw [if_neg (by omega)]
        exact D c' a0 (by omega)
/-- writing in a foot's part and in one row of gates -/
def FF (bs cd q : Int) (h h' : xH) : Prop := Fr [29, h.r 28 6] [] h h' ∧ (∀ k, (k < bs * 41 ∨ (bs + cd) * 41 ≤ k) → h'.i (h.r 28 6) k = h.i (h.r 28 6) k) ∧ ∀ k, (k < q * 41 ∨ q * 41 + 41 ≤ k) → h'.i 29 k = h.i 29 k
theorem FF_of {bs cd i q : Int} {h h' : xH} (i0 : 0 ≤ i) (i1 : i ≤ 40) (A : FI bs cd i (q * 41 + i) h h') : FF bs cd q h h' := ⟨A.1, fun k hk => A.2.1 k (fun ⟨c', a0, a1, a2⟩ => by omega), fun k hk => A.2.2 k (by omega)⟩
theorem FF_tr {bs cd q : Int} {h h1 h2 : xH} (A : FF bs cd q h h1) (B : FF bs cd q h1 h2) : FF bs cd q h h2 := by
  have e : h1.r 28 6 = h.r 28 6 := by rw [(fr_same A.1).1]
  refine ⟨Fr_trans A.1 (by rw [← e]; exact B.1), fun k hk => ?_, fun k hk => (B.2.2 k hk).trans (A.2.2 k hk)⟩
  have := B.2.1 k hk
  rw [e] at this
  exact this.trans (A.2.1 k hk)
theorem c_ff_4 {Q : xH → Prop} {ft q bs : Int} {g : Nat} (hg : g < 12) (st : scStand E q (g : Int) = true) (F : FOk (E 8 g) (E 9 g) (E 10 g) (E 11 g) (fun k => E 12 (4 * (g : Int) + k))) (b0 : 0 ≤ bs) (bl' : bs ≤ 2000) (q0 : 0 ≤ q) (q1 : q < E 5 0) : ∀ (n : Nat) (i : Int) (h : xH) (u5 u6 : xV), i + 1 = n → i ≤ E 0 0 → ScC h p f E b → FTab h ft (E 8 g) (E 9 g) (E 10 g) (E 11 g) (fun k => E 12 (4 * (g : Int) + k)) → (bs + fcE E g) * 41 ≤ tl h → CB h E b bs q g i → (q + 1 < E 5 0 → ∀ i, 0 ≤ i → i ≤ E 0 0 → h.i 29 ((q + 1) * 41 + i) = scF E b (scZ b) (scPosN E i (q + 1) 12)) → (∀ i', 0 ≤ i' → i' ≤ E 0 0 → h.i 29 (q * 41 + i') = scF E b (scZ b) (scPosN E i' q (if i' ≤ i then g else g + 1))) → (∀ h', FF bs (fcE E g) q h h' → CB h' E b bs q g (-1) → (∀ i', 0 ≤ i' → i' ≤ E 0 0 → h'.i 29 (q * 41 + i') = scF E b (scZ b) (scPosN E i' q (g + 1))) → Q h') → xT (d + 4) M_Scanner_fillFoot 4 [(1, 28), (1, ft), (0, q), (0, bs), (0, i), u5, u6] [] h (xqv Q) := by
  intro n
  induction n with
  | zero =>
    intro i h u5 u6 hi i1 C B bl K G G2 H
    apply L_Scanner_fillFoot_4
    rw [if_pos (by omega)]
    refine H h ⟨Fr_refl _ _ _, fun _ _ => rfl, fun _ _ => rfl⟩ (by rw [show (-1 : Int) = i by omega]; exact K) (fun i' a0 a1 => ?_)
    rw [G2 i' a0 a1, if_neg (by omega)]
  | succ n ih =>
    intro i h u5 u6 hi i1 C B bl K G G2 H
    have ok := C.1.2.2.2.1
    have n40 := ok.2.1
    have p8 := ok.2.2.2.2.1
    have T1 := C.2.2.2.2.2.2.2.2.2.2
    have fb := fcE_bd ok (q := q) (by omega) (by omega) st
    have gt := scF_top ok (b := b) (scZ_top b).1 (scZ_top b).2 (pos_bd ok (i := i) (q := q) (m := g))
    have tb := top_le b
    have gi := G2 i (by omega) i1
    rw [if_pos (Int.le_refl _)] at gi
    apply L_Scanner_fillFoot_4
    rw [if_neg (by omega)]
    refine c_ff_8 (i := i) F b0 bl' (by omega) i1 q0 q1 (fcE E g).toNat 0 h _ (by decide) (by omega) C B bl K (fun c' a0 a1 => by omega) (fun z => G z i (by omega) i1) (by rw [gi]; exact gt.1) (by rw [gi]; omega) ?_
    intro h' u5 u6 A D' e'
    have A' := FF_of (q := q) (by omega) (by omega) A
    have C' := ScC_g A.1 C
    have eT : h'.r 28 6 = h.r 28 6 := by rw [(fr_same A.1).1]
    have et : tl h' = tl h := by unfold tl; rw [(fr_same A.1).1, (fr_same A.1).2.2.1]
    refine ih (i - 1) h' u5 u6 (by omega) (by omega) C' (FTab_fr A.1 ⟨fun x m => by simp only [List.mem_cons, List.not_mem_nil, or_false] at m; omega, fun q m => absurd m List.not_mem_nil⟩ B) (by rw [et]; exact bl) (fun c' i' a0 a1 a2 a3 => ?_) (fun z j j0 j1 => ?_) (fun i' j0 j1 => ?_) (fun h2 F2 K2 G3 => H h2 (FF_tr A' F2) K2 G3)
    · rw [eT]
      by_cases z : i' = i
      · rw [z]; exact D' c' a0 a1
      · rw [A.2.1 _ (fun ⟨c2, x0, x1, x2⟩ => by omega)]
        exact K c' i' a0 a1 (by omega) a3
    · rw [A.2.2 _ (by omega)]; exact G z j j0 j1
    · by_cases z : i' = i
      · rw [z, e', gi, if_neg (by omega), scPosN_succ, if_pos st, scF_app]
      · rw [A.2.2 _ (by omega), G2 i' j0 j1]
        by_cases y : i' ≤ i
        · rw [if_pos y, if_pos (by omega)]
        · rw [if_neg y, if_neg (by omega)]
/-- what of the table is filled -/
def TbOk (h : xH) (E : SEn) (b : Bool) (P : Nat → Nat → Prop) : Prop := ∀ q g : Nat, g < 12 → q < 8 → P q g → stN E (q : Int) (g : Int) = true → CB h E b (bsN E (12 * q + g)) (q : Int) (g : Int) (-1)
theorem c_fill_61 {Q : Int → xH → Prop} {q : Nat} (hq : (q : Int) < E 5 0) : ∀ (n g : Nat) (h : xH) (u1 u3 u6 : xV), g + n = 12 → ScC h p f E b → TbOk h E b (fun q' g' => q < q' ∨ (q' = q ∧ g' < g)) → ((q : Int) + 1 < E 5 0 → ∀ i, 0 ≤ i → i ≤ E 0 0 → h.i 29 (((q : Int) + 1) * 41 + i) = scF E b (scZ b) (scPosN E i ((q : Int) + 1) 12)) → (∀ i', 0 ≤ i' → i' ≤ E 0 0 → h.i 29 ((q : Int) * 41 + i') = scF E b (scZ b) (scPosN E i' (q : Int) g)) → (∀ h' u1 u3 u5 u6, Fr [29, h.r 28 6] [] h h' → TbOk h' E b (fun q' _ => q ≤ q') → (∀ i', 0 ≤ i' → i' ≤ E 0 0 → h'.i 29 ((q : Int) * 41 + i') = scF E b (scZ b) (scPosN E i' (q : Int) 12)) → xT (d + 5) M_Scanner_fill 44 [(1, 28), u1, (0, f), u3, (0, (q : Int) - 1), u5, u6] [] h' (xqi Q)) → xT (d + 5) M_Scanner_fill 61 [(1, 28), u1, (0, f), u3, (0, (q : Int)), (0, (g : Int)), u6] [] h (xqi Q) := by
  intro n
  induction n with
  | zero =>
    intro g h u1 u3 u6 hg C T G G2 H
    have ok := C.1.2.2.2.1
    have p8 := ok.2.2.2.2.1
    apply L_Scanner_fill_61
    rw [if_neg (by omega)]
    intro x3 e3
    rw [xw_id (by omega) (by omega)] at e3
    rw [e3, show (q : Int) + -1 = (q : Int) - 1 by omega]
    refine H h _ _ _ _ (Fr_refl _ _ _) (fun q' g' a0 a1 a2 a3 => T q' g' a0 a1 (by omega) a3) (fun i' a0 a1 => ?_)
    rw [G2 i' a0 a1, show g = 12 by omega]
  | succ n ih =>
    intro g h u1 u3 u6 hg C T G G2 H
    have SX_ := C.1.1
    have ok := C.1.2.2.2.1
    have p8 := ok.2.2.2.2.1
    have n40 := ok.2.1
    have n1 := ok.1
    apply L_Scanner_fill_61
    rw [if_pos (by omega)]
    simp only [sxt SX_, sxl SX_, sxf SX_, true_and, and_true, false_and, and_false, forall_eq, forall_eq', xi_wi, xr_wi, xt_wi, xl_wi, xn_wi, xs_wi, xi_wr, xr_wr, xt_wr, xl_wr, xn_wr, xs_wr, if_true, if_false, and_self, Int.reduceEq, Int.reduceLT, Int.reduceLE, Int.reduceNeg, Int.le_refl, Int.reduceMod]
    refine c_X_footAt C.1 (by omega) (by omega) (by omega) (by omega) ?_
    rw [xw_id (a := (q : Int) * 12) (by omega) (by omega), xw_id (a := (q : Int) * 12 + (g : Int)) (by omega) (by omega), xw_id (a := (g : Int) + 1) (by omega) (by omega), show ((g : Int) + 1) = ((g + 1 : Nat) : Int) by push_cast; rfl]
    have ft := C.1.2.2.2.2.2.2.2.2.2.2.2 (g : Int) (by omega) (by omega)
    by_cases c : (q : Int) < E 5 0 ∧ scStand E (q : Int) (g : Int) = true
    · have st : stN E (q : Int) (g : Int) = true := by unfold stN; rw [decide_eq_true c.1, c.2]; rfl
      have F := sc_stand ok (by omega) (by omega) c.2
      have ft' := ft.resolve_left (fun z => by have := F.1; omega)
      rw [if_pos c, if_neg ft'.1]
      simp only [sxt SX_, sxl SX_, sxf SX_, true_and, and_true, false_and, and_false, forall_eq, forall_eq', xi_wi, xr_wi, xt_wi, xl_wi, xn_wi, xs_wi, xi_wr, xr_wr, xt_wr, xl_wr, xn_wr, xs_wr, if_true, if_false, and_self, Int.reduceEq, Int.reduceLT, Int.reduceLE, Int.reduceNeg, Int.le_refl, Int.reduceMod]
      have e12 : (12 * q + g) / 12 = q := by omega
      have m12 : (12 * q + g) % 12 = g := by omega
      have eb := C.2.2.2.2.2.2.2.2.1 (12 * q + g) (by omega)
      rw [e12, m12, st, if_pos rfl] at eb
      have bd := bsN_bd ok (12 * q + g) (by omega)
      have b1 : bsN E (12 * q + g + 1) = bsN E (12 * q + g) + fcE E (g : Int) := by
        show bsN E (12 * q + g) + _ = _
        rw [e12, m12, st, if_pos rfl]
      have mo := bsN_mono ok (96 - (12 * q + g + 1)) (12 * q + g + 1) (by omega)
      rw [show 12 * q + g + 1 + (96 - (12 * q + g + 1)) = 96 by omega] at mo
      have T2 := C.2.2.2.2.2.2.2.2.2.1
      rw [show (q : Int) * 12 + (g : Int) = ((12 * q + g : Nat) : Int) by push_cast; omega, eb]
      refine ⟨⟨by omega, by omega⟩, ?_⟩
      apply L_Scanner_fillFoot
      have L := C.1.2.2.2.2.1
      unfold XLe at L
      have tp := L.1
      simp only [sxt SX_, sxl SX_, sxf SX_, C.2.1, tp, true_and, and_true, false_and, and_false, forall_eq, forall_eq', xi_wi, xr_wi, xt_wi, xl_wi, xn_wi, xs_wi, xi_wr, xr_wr, xt_wr, xl_wr, xn_wr, xs_wr, if_true, if_false, and_self, Int.reduceEq, Int.reduceLT, Int.reduceLE, Int.reduceNeg, Int.le_refl, Int.reduceMod]
      rw [L.2.1]
      refine c_ff_4 (n := (E 0 0 + 1).toNat) (by omega) c.2 F bd.1 (by omega) (by omega) c.1 (E 0 0) h _ _ (by omega) (Int.le_refl _) C ft'.2.2 (by generalize bsN E 96 = N at *; omega) (fun c' i' a0 a1 a2 a3 => by omega) G (fun i' a0 a1 => by rw [if_pos a1]; exact G2 i' a0 a1) ?_
      intro h' FF' K' G'
      have eT : h'.r 28 6 = h.r 28 6 := by rw [(fr_same FF'.1).1]
      refine ih (g + 1) h' _ _ _ (by omega) (ScC_g FF'.1 C) (fun q' g' a0 a1 a2 a3 => ?_) (fun z i j0 j1 => ?_) G' (fun h2 u1 u3 u5 u6 F2 => H h2 u1 u3 u5 u6 (Fr_trans FF'.1 (by rw [← eT]; exact F2)))
      · by_cases same : q' = q ∧ g' = g
        · rw [same.1, same.2]; exact K'
        · have old := T q' g' a0 a1 (by omega) a3
          have e12' : (12 * q' + g') / 12 = q' := by omega
          have m12' : (12 * q' + g') % 12 = g' := by omega
          have b1' : bsN E (12 * q' + g' + 1) = bsN E (12 * q' + g') + fcE E (g' : Int) := by
            show bsN E (12 * q' + g') + _ = _
            rw [e12', m12', a3, if_pos rfl]
          have dj : bsN E (12 * q' + g') + fcE E (g' : Int) ≤ bsN E (12 * q + g) ∨ bsN E (12 * q + g) + fcE E (g : Int) ≤ bsN E (12 * q' + g') := by
            by_cases y : 12 * q' + g' < 12 * q + g
            · have := bsN_mono ok (12 * q + g - (12 * q' + g' + 1)) (12 * q' + g' + 1) (by omega)
              rw [show 12 * q' + g' + 1 + (12 * q + g - (12 * q' + g' + 1)) = 12 * q + g by omega] at this
              exact Or.inl (by omega)
            · have := bsN_mono ok (12 * q' + g' - (12 * q + g + 1)) (12 * q + g + 1) (by omega)
              rw [show 12 * q + g + 1 + (12 * q' + g' - (12 * q + g + 1)) = 12 * q' + g' by omega] at this
              exact Or.inr (by omega)
          intro c' i' x0 x1 x2 x3
          rw [eT, FF'.2.1 _ (by omega)]
          exact old c' i' x0 x1 x2 x3
      · rw [FF'.2.2 _ (by omega)]; exact G z i j0 j1
    · have st : stN E (q : Int) (g : Int) = false := by
        cases z : stN E (q : Int) (g : Int)
        · rfl
        · unfold stN at z
          rw [Bool.and_eq_true, decide_eq_true_eq] at z
          exact absurd z c
      rw [if_neg c, if_pos rfl]
      have nst : ¬ (scStand E (q : Int) (g : Int) = true) := fun z => c ⟨hq, z⟩
      refine ih (g + 1) h _ _ _ (by omega) C (fun q' g' a0 a1 a2 a3 => T q' g' a0 a1 ?_ a3) G (fun i' a0 a1 => ?_) H
      · by_cases z : q' = q ∧ g' = g
        · rw [z.1, z.2, st] at a3; exact absurd a3 (by decide)
        · omega
      · rw [scPosN_succ, if_neg nst, List.append_nil]; exact G2 i' a0 a1
theorem c_fill2 {Q : xH → Prop} {v e : Int} : ∀ (n : Nat) (a : Int) (h : xH) (u1 : xV), SX h → 0 ≤ a → a + n = e → e ≤ 328 → (∀ h', Fr [29] [] h h' → (∀ k, a ≤ k → k < e → h'.i 29 k = v) → (∀ k, (k < a ∨ e ≤ k) → h'.i 29 k = h.i 29 k) → Q h') → xT d M_Arrays_fill2 7 [(1, 29), u1, (0, e), (0, v), (0, a)] [] h (xqv Q) := by
  intro n
  induction n with
  | zero =>
    intro a h u1 SX_ a0 ha e1 H
    apply L_Arrays_fill2_7
    rw [if_neg (by omega)]
    exact H h (Fr_refl _ _ _) (fun k k0 k1 => by omega) (fun _ _ => rfl)
  | succ n ih =>
    intro a h u1 SX_ a0 ha e1 H
    apply L_Arrays_fill2_7
    rw [if_pos (by omega), xw_id (a := a + 1) (by omega) (by omega)]
    simp only [sxt SX_, sxl SX_, sxf SX_, true_and, and_true, false_and, and_false, forall_eq, forall_eq', xi_wi, xr_wi, xt_wi, xl_wi, xn_wi, xs_wi, xi_wr, xr_wr, xt_wr, xl_wr, xn_wr, xs_wr, if_true, if_false, and_self, Int.reduceEq, Int.reduceLT, Int.reduceLE, Int.reduceNeg, Int.le_refl, Int.reduceMod]
    refine ⟨⟨by omega, by omega⟩, ?_⟩
    refine ih (a + 1) _ _ (SX_2 (h := h) rfl SX_) (by omega) (by omega) e1 (fun h' F q1 q2 => H h' (Fr_trans (Fr_cell (Fr_refl _ _ _) _ _ (by decide)) F) (fun k k0 k1 => ?_) (fun k hk => ?_))
    · by_cases c : k = a
      · rw [c, q2 a (by omega)]; simp only [true_and, and_true, false_and, and_false, forall_eq, forall_eq', xi_wi, xr_wi, xt_wi, xl_wi, xn_wi, xs_wi, xi_wr, xr_wr, xt_wr, xl_wr, xn_wr, xs_wr, if_true, if_false, and_self, Int.reduceEq, Int.reduceLT, Int.reduceLE, Int.reduceNeg, Int.le_refl, Int.reduceMod]
      · exact q1 k (by omega) k1
    · rw [q2 k (by omega)]
      simp only [true_and, and_true, false_and, and_false, forall_eq, forall_eq', xi_wi, xr_wi, xt_wi, xl_wi, xn_wi, xs_wi, xi_wr, xr_wr, xt_wr, xl_wr, xn_wr, xs_wr, if_true, if_false, and_self, Int.reduceEq, Int.reduceLT, Int.reduceLE, Int.reduceNeg, Int.le_refl, Int.reduceMod]
      rw [if_neg (by omega)]
theorem c_fill_44 {Q : Int → xH → Prop} : ∀ (n : Nat) (h : xH) (u1 u3 u5 u6 : xV), (n : Int) ≤ E 5 0 → ScC h p f E b → TbOk h E b (fun q' _ => n ≤ q') → ((n : Int) < E 5 0 → ∀ i, 0 ≤ i → i ≤ E 0 0 → h.i 29 ((n : Int) * 41 + i) = scF E b (scZ b) (scPosN E i (n : Int) 12)) → (∀ h', Fr [29, h.r 28 6] [] h h' → TbOk h' E b (fun _ _ => True) → h'.i 29 0 = scW E b st0 → Q 1 h') → xT (d + 5) M_Scanner_fill 44 [(1, 28), u1, (0, f), u3, (0, (n : Int) - 1), u5, u6] [] h (xqi Q) := by
  intro n
  induction n with
  | zero =>
    intro h u1 u3 u5 u6 hn C T G H
    have ok := C.1.2.2.2.1
    have n1 := ok.1
    have np := ok.2.2.2.1
    apply L_Scanner_fill_44
    rw [if_pos (by decide)]
    refine H h (Fr_refl _ _ _) (fun q' g' a0 a1 _ a3 => T q' g' a0 a1 (Nat.zero_le _) a3) ?_
    have := G (by omega) 0 (by decide) (by omega)
    rw [show ((0 : Nat) : Int) * 41 + 0 = 0 by decide] at this
    rw [this, scW_eq ok b (by decide)]
    have nf : scFin E st0 = false := by
      unfold scFin st0
      rw [decide_eq_false (by decide : ¬ ((-1 : Int) = -2)), decide_eq_false (by show ¬ (0 : Int) = E 0 0; omega)]; rfl
    have eo : scOps E st0 = scPosN E 0 0 12 := by unfold scOps st0; rw [if_neg (by show ¬ E 0 0 ≤ 0; omega), if_pos rfl]
    rw [nf, eo, if_neg (by decide)]; rfl
  | succ n ih =>
    intro h u1 u3 u5 u6 hn C T G H
    have SX_ := C.1.1
    have ok := C.1.2.2.2.1
    have p8 := ok.2.2.2.2.1
    have n40 := ok.2.1
    have t29 := ScC_t29 C
    apply L_Scanner_fill_44
    rw [show ((n + 1 : Nat) : Int) - 1 = (n : Int) by push_cast; omega, if_neg (by omega), xw_id (a := (n : Int) * 41) (by omega) (by omega), xw_id (a := (n : Int) + 1) (by omega) (by omega), xw_id (a := ((n : Int) + 1) * 41) (by omega) (by omega)]
    simp only [sxt SX_, sxl SX_, sxf SX_, true_and, and_true, false_and, and_false, forall_eq, forall_eq', xi_wi, xr_wi, xt_wi, xl_wi, xn_wi, xs_wi, xi_wr, xr_wr, xt_wr, xl_wr, xn_wr, xs_wr, if_true, if_false, and_self, Int.reduceEq, Int.reduceLT, Int.reduceLE, Int.reduceNeg, Int.le_refl, Int.reduceMod]
    rw [C.2.2.2.2.1]
    apply L_Arrays_fill2
    simp only [sxt SX_, sxl SX_, sxf SX_, true_and, and_true, false_and, and_false, forall_eq, forall_eq', xi_wi, xr_wi, xt_wi, xl_wi, xn_wi, xs_wi, xi_wr, xr_wr, xt_wr, xl_wr, xn_wr, xs_wr, if_true, if_false, and_self, Int.reduceEq, Int.reduceLT, Int.reduceLE, Int.reduceNeg, Int.le_refl, Int.reduceMod]
    apply L_Arrays_rangeCheck
    rw [if_neg (by omega), if_neg (by omega), if_neg (by omega)]
    refine c_fill2 (v := scZ b) (e := ((n : Int) + 1) * 41) 41 ((n : Int) * 41) h _ SX_ (by omega) (by omega) (by omega) (fun h1 F1 q1 q2 => ?_)
    have F1' : Fr [29, h.r 28 6] [] h h1 := Fr_mono F1 (fun x m => by rw [List.mem_singleton] at m; rw [m]; exact List.mem_cons_self) (fun _ m => m)
    have C1 := ScC_g F1' C
    have eT : h1.r 28 6 = h.r 28 6 := by rw [(fr_same F1).1]
    have rT : h1.i (h.r 28 6) = h.i (h.r 28 6) := Fr_row F1 (by rw [List.mem_singleton]; exact t29) (fun p m => absurd m List.not_mem_nil)
    refine c_fill_61 (q := n) (by omega) 12 0 h1 _ _ _ (by decide) C1 (fun q' g' a0 a1 a2 a3 c' i' x0 x1 x2 x3 => ?_) (fun z i i0 i1 => ?_) (fun i' i0 i1 => ?_) (fun h2 u1 u3 u5 u6 F2 T2 G2 => ?_)
    · rw [eT, rT]
      exact T q' g' a0 a1 (by omega) a3 c' i' x0 x1 x2 x3
    · rw [q2 _ (by omega)]
      have := G (by push_cast; omega) i i0 i1
      rw [show ((n + 1 : Nat) : Int) = (n : Int) + 1 by push_cast; rfl] at this
      exact this
    · rw [q1 _ (by omega) (by omega)]; rfl
    · refine ih h2 u1 u3 u5 u6 (by omega) (ScC_g F2 C1) T2 (fun _ => G2) (fun h3 F3 T3 e3 => H h3 (Fr_trans F1' (by rw [← eT]; exact Fr_trans F2 (by rw [← (show h2.r 28 6 = h1.r 28 6 by rw [(fr_same F2).1])]; exact F3))) T3 e3)
theorem c_X_fill {Q : Int → xH → Prop} {h : xH} (S : XS h) (X : XEn h p f E) (H : ∀ h', ScX h h' → ScC h' p f E b → TbOk h' E b (fun _ _ => True) → h'.i 29 0 = scW E b st0 → Q 1 h') : xCi (d + 6) M_Scanner_fill [(1, 28), (1, p), (0, f), (0, b2i b)] h Q := by
  have SX_ := X.1
  have ok := X.2.2.2.1
  have n1 := ok.1
  have n40 := ok.2.1
  have np := ok.2.2.2.1
  have p8 := ok.2.2.2.2.1
  have L := X.2.2.2.2.1
  unfold XLe at L
  have tp := L.1
  have pn : ¬ p = 0 := by have := L.2.2.2.2.2.2.2.2.1.1; omega
  have f0 := X.2.2.2.2.2.1
  have f1 := X.2.2.2.2.2.2.1
  have e5 := X.2.2.2.2.2.2.2.1
  -- from the four fields on
  have A7 := ScX_wr7 (v := p) S
  have X7 := XEn_wr7 (v := p) X
  have F8 : Fr [] scXS (h.wr 28 7 p) ((((h.wr 28 7 p).wi 28 8 f).wi 28 9 (b2i b)).wi 28 10 (scZ b)) := Fr_slot (Fr_slot (Fr_slot (Fr_refl _ _ _) _ (by decide)) _ (by decide)) _ (by decide)
  have A8 := ScX_trans S A7 (ScX_fr A7.2.2.2 F8 (fun x m => absurd m List.not_mem_nil) (fun q m => m))
  have X8 := XEn_fr F8 (sok_low (by decide)) X7
  have go : ∀ u1 u3 u5 u6 u4 : xV, xCv (d + 5) M_Scanner_priceSyllables [(1, 28)] ((((h.wr 28 7 p).wi 28 8 f).wi 28 9 (b2i b)).wi 28 10 (scZ b)) (fun h6 => h6.tag 28 = 8 ∧ xCv (d + 5) M_Scanner_numberFeet [(1, 28)] h6 (fun h7 => h7.tag 28 = 8 ∧ h7.tag (h7.r 28 0) = 4 ∧ xCi (d + 5) M_Metre_positions [(1, h7.r 28 0), (0, f)] h7 (fun r2 h8 => xT (d + 5) M_Scanner_fill 44 [(1, 28), u1, (0, f), u3, (0, xw (r2 - 1)), u5, u6] [] h8 (xqi Q)))) := by
    intro u1 u3 u5 u6 u4
    refine c_X_priceS (d := d + 2) X8 (by simp only [true_and, and_true, false_and, and_false, forall_eq, forall_eq', xi_wi, xr_wi, xt_wi, xl_wi, xn_wi, xs_wi, xi_wr, xr_wr, xt_wr, xl_wr, xn_wr, xs_wr, if_true, if_false, and_self, Int.reduceEq, Int.reduceLT, Int.reduceLE, Int.reduceNeg, Int.le_refl, Int.reduceMod]) (fun h6 F6 P6 e6 => ?_)
    have X6 := XEn_fr F6 (sok_low (by decide)) X8
    have A6 := ScX_trans S A8 (ScX_fr A8.2.2.2 F6 (fun x m => Or.inl (by revert x m; decide)) (fun q m => by rw [List.mem_singleton] at m; rw [m]; decide))
    have fs6 := fr_same F6
    have s6 : ∀ k, k ≠ 11 → h6.i 28 k = ((((h.wr 28 7 p).wi 28 8 f).wi 28 9 (b2i b)).wi 28 10 (scZ b)).i 28 k := fun k hk => F6.2 28 k (by decide) (by rw [List.mem_singleton]; intro z; exact hk (Prod.mk.inj z).2)
    refine ⟨(sxt X6.1).2.2.2.2.2.2.2.2.2.2.2.2.2.2.2.2.2.2.2.2.2.2.2.2.2.2.1, ?_⟩
    refine c_X_number (p := p) (f := f) (d := d + 1) A6.2.2.2 X6 (by rw [s6 8 (by decide)]; simp only [true_and, and_true, false_and, and_false, forall_eq, forall_eq', xi_wi, xr_wi, xt_wi, xl_wi, xn_wi, xs_wi, xi_wr, xr_wr, xt_wr, xl_wr, xn_wr, xs_wr, if_true, if_false, and_self, Int.reduceEq, Int.reduceLT, Int.reduceLE, Int.reduceNeg, Int.le_refl, Int.reduceMod]) (fun h7 A7' X7' r7 l7 B7 t7 => ?_)
    refine ⟨(sxt X7'.1).2.2.2.2.2.2.2.2.2.2.2.2.2.2.2.2.2.2.2.2.2.2.2.2.2.2.1, ?_⟩
    have SX_ := X7'.1
    simp only [sxt SX_, sxl SX_, sxf SX_, true_and, and_true, false_and, and_false, forall_eq, forall_eq', xi_wi, xr_wi, xt_wi, xl_wi, xn_wi, xs_wi, xi_wr, xr_wr, xt_wr, xl_wr, xn_wr, xs_wr, if_true, if_false, and_self, Int.reduceEq, Int.reduceLT, Int.reduceLE, Int.reduceNeg, Int.le_refl, Int.reduceMod]
    refine c_X_positions (d := d + 3) X7' ?_
    rw [xw_id (by omega) (by omega)]
    have A := ScX_trans S A6 A7'
    have C7 : ScC h7 p f E b := by
      refine ⟨X7', by rw [l7, fs6.1]; simp only [true_and, and_true, false_and, and_false, forall_eq, forall_eq', xi_wi, xr_wi, xt_wi, xl_wi, xn_wi, xs_wi, xi_wr, xr_wr, xt_wr, xl_wr, xn_wr, xs_wr, if_true, if_false, and_self, Int.reduceEq, Int.reduceLT, Int.reduceLE, Int.reduceNeg, Int.le_refl, Int.reduceMod], by rw [r7 28 8 (by decide), s6 8 (by decide)]; simp only [true_and, and_true, false_and, and_false, forall_eq, forall_eq', xi_wi, xr_wi, xt_wi, xl_wi, xn_wi, xs_wi, xi_wr, xr_wr, xt_wr, xl_wr, xn_wr, xs_wr, if_true, if_false, and_self, Int.reduceEq, Int.reduceLT, Int.reduceLE, Int.reduceNeg, Int.le_refl, Int.reduceMod], by rw [r7 28 9 (by decide), s6 9 (by decide)]; simp only [true_and, and_true, false_and, and_false, forall_eq, forall_eq', xi_wi, xr_wi, xt_wi, xl_wi, xn_wi, xs_wi, xi_wr, xr_wr, xt_wr, xl_wr, xn_wr, xs_wr, if_true, if_false, and_self, Int.reduceEq, Int.reduceLT, Int.reduceLE, Int.reduceNeg, Int.le_refl, Int.reduceMod], by rw [r7 28 10 (by decide), s6 10 (by decide)]; simp only [true_and, and_true, false_and, and_false, forall_eq, forall_eq', xi_wi, xr_wi, xt_wi, xl_wi, xn_wi, xs_wi, xi_wr, xr_wr, xt_wr, xl_wr, xn_wr, xs_wr, if_true, if_false, and_self, Int.reduceEq, Int.reduceLT, Int.reduceLE, Int.reduceNeg, Int.le_refl, Int.reduceMod], A.2.2.2.2.2.2.2.1, fun j j0 j1 => ?_, by rw [r7 28 11 (by decide)]; exact e6, B7, t7, A.2.2.2.2.2.2.2.2.2.2⟩
      have := P6 j j0 j1
      unfold PsI at this ⊢
      rw [r7 31 _ (by decide), r7 31 _ (by decide), r7 31 _ (by decide), r7 32 _ (by decide), r7 33 _ (by decide)]
      exact this
    obtain ⟨N, hN⟩ : ∃ N : Nat, E 5 0 = (N : Int) := ⟨(E 5 0).toNat, by omega⟩
    have := c_fill_44 (p := p) (f := f) (E := E) (b := b) (d := d) (Q := Q) N h7 u1 u3 u5 u6 (by omega) C7 (fun q' g' a0 a1 a2 a3 => by
      unfold stN at a3
      rw [Bool.and_eq_true, decide_eq_true_eq] at a3
      have a2 : N ≤ q' := a2
      omega) (fun z => by omega) (fun h8 F8' T8 e8 => ?_)
    · rw [hN]; exact this
    refine H h8 (ScX_trans S A (ScX_fr A.2.2.2 F8' (fun x m => ?_) (fun q m => absurd m List.not_mem_nil))) (ScC_g F8' C7) T8 e8
    simp only [List.mem_cons, List.not_mem_nil, or_false] at m
    rcases m with m | m
    · rw [m]; exact Or.inl (by decide)
    · exact Or.inr m
  apply L_Scanner_fill
  rw [if_neg pn]
  simp only [sxt SX_, sxl SX_, sxf SX_, tp, true_and, and_true, false_and, and_false, forall_eq, forall_eq', xi_wi, xr_wi, xt_wi, xl_wi, xn_wi, xs_wi, xi_wr, xr_wr, xt_wr, xl_wr, xn_wr, xs_wr, if_true, if_false, and_self, Int.reduceEq, Int.reduceLT, Int.reduceLE, Int.reduceNeg, Int.le_refl, Int.reduceMod]
  rw [L.2.1, if_neg (by omega), if_neg (by omega)]
  refine c_X_isForm0 SX_ ?_
  rw [e5, if_pos (show 0 ≤ f ∧ f ≤ 7 ∧ 0 < E 5 0 from ⟨f0, by omega, by omega⟩), if_neg (by decide)]
  simp only [sxt SX_, sxl SX_, sxf SX_, true_and, and_true, false_and, and_false, forall_eq, forall_eq', xi_wi, xr_wi, xt_wi, xl_wi, xn_wi, xs_wi, xi_wr, xr_wr, xt_wr, xl_wr, xn_wr, xs_wr, if_true, if_false, and_self, Int.reduceEq, Int.reduceLT, Int.reduceLE, Int.reduceNeg, Int.le_refl, Int.reduceMod]
  cases b
  · refine ⟨Or.inl rfl, ?_⟩
    rw [b2i_0, if_pos rfl]
    exact go _ _ _ _ (9, 0)
  · refine ⟨Or.inr rfl, ?_⟩
    rw [b2i_1, if_neg (by decide)]
    exact go _ _ _ _ (9, 0)
theorem c_X_howMany {Q : Int → xH → Prop} {h : xH} (S : XS h) (X : XEn h p f E) (H : ∀ h', ScX h h' → ScC h' p f E true → TbOk h' E true (fun _ _ => True) → Q (scW E true st0) h') : xCi (d + 7) M_Scanner_howMany [(1, 28), (1, p), (0, f)] h Q := by
  apply L_Scanner_howMany
  refine ⟨(sxt X.1).2.2.2.2.2.2.2.2.2.2.2.2.2.2.2.2.2.2.2.2.2.2.2.2.2.2.1, ?_⟩
  refine c_X_fill (b := true) S X (fun h' A C T e => ?_)
  have SX_ := C.1.1
  rw [if_neg (by decide)]
  simp only [sxt SX_, sxl SX_, sxf SX_, e, true_and, and_true, false_and, and_false, forall_eq, forall_eq', xi_wi, xr_wi, xt_wi, xl_wi, xn_wi, xs_wi, xi_wr, xr_wr, xt_wr, xl_wr, xn_wr, xs_wr, if_true, if_false, and_self, Int.reduceEq, Int.reduceLT, Int.reduceLE, Int.reduceNeg, Int.le_refl, Int.reduceMod]
  exact H h' A C T
theorem c_X_cheapest {Q : Int → xH → Prop} {h : xH} (S : XS h) (X : XEn h p f E) (H : ∀ h', ScX h h' → ScC h' p f E false → TbOk h' E false (fun _ _ => True) → Q (chp E) h') : xCi (d + 7) M_Scanner_cheapest [(1, 28), (1, p), (0, f)] h Q := by
  apply L_Scanner_cheapest
  refine ⟨(sxt X.1).2.2.2.2.2.2.2.2.2.2.2.2.2.2.2.2.2.2.2.2.2.2.2.2.2.2.1, ?_⟩
  refine c_X_fill (b := false) S X (fun h' A C T e => ?_)
  have SX_ := C.1.1
  have ok := C.1.2.2.2.1
  have r := scW_rel ok 41 st0 (by decide) st0_ok
  have w := scW_t ok (s := st0) (by decide)
  unfold scRel at r
  have := H h' A C T
  unfold chp at this
  rw [if_neg (by decide)]
  simp only [sxt SX_, sxl SX_, sxf SX_, e, true_and, and_true, false_and, and_false, forall_eq, forall_eq', xi_wi, xr_wi, xt_wi, xl_wi, xn_wi, xs_wi, xi_wr, xr_wr, xt_wr, xl_wr, xn_wr, xs_wr, if_true, if_false, and_self, Int.reduceEq, Int.reduceLT, Int.reduceLE, Int.reduceNeg, Int.le_refl, Int.reduceMod]
  by_cases c : scW E true st0 = 0
  · rw [if_pos c] at this
    rw [r.1 c, if_neg (by decide)]; exact this
  · rw [if_neg c] at this
    have := r.2 (by omega)
    rw [if_pos (by have e : st0.1 = 0 := rfl; omega)]; assumption
end XF
