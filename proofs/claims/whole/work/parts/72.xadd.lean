/-! scanning: the class adds choices up -/
def ScC (h : xH) (p f : Int) (E : SEn) (b : Bool) : Prop := XEn h p f E ∧ h.r 28 7 = p ∧ h.i 28 8 = f ∧ h.i 28 9 = b2i b ∧ h.i 28 10 = scZ b ∧ h.tag (h.r 28 6) = 20 ∧ (∀ j, 0 ≤ j → j < 41 → PsI h E j) ∧ h.i 28 11 = exV E ∧ BsOk h E 96 ∧ bsN E 96 * 41 ≤ tl h ∧ tl h ≤ 126000
section XA
variable {p f : Int} {E : SEn} {b : Bool} {d : Nat}
theorem scW_b (ok : EOk E) (b : Bool) {s : Stt} (h : s.1 ≤ 40) : 0 ≤ scW E b s ∧ scW E b s ≤ 1000000000 := by
  cases b
  · have := scW_f ok h; omega
  · exact scW_t ok h
theorem scJ_b {b : Bool} {t p v : Int} (t0 : 0 ≤ t) (t1 : t ≤ 1000000000) (p0 : 0 ≤ p) (v0 : 0 ≤ v) : 0 ≤ scJ b t p v ∧ scJ b t p v ≤ 1000000000 := by
  cases b
  · show 0 ≤ min t (p + v) ∧ min t (p + v) ≤ _; omega
  · show 0 ≤ min 1000000000 (t + v) ∧ min 1000000000 (t + v) ≤ _; omega
theorem ScC_fr {h h' : xH} {c : List Int} {c2 : List (Int × Int)} (F : Fr c c2 h h') (k1 : ∀ x ∈ c, x = 29 ∨ x = h.r 28 6 ∨ (35 ≤ x ∧ x ≤ 47)) (k2 : ∀ q ∈ c2, 35 ≤ q.1 ∧ q.1 ≤ 47) (C : ScC h p f E b) : ScC h' p f E b := by
  have fs := fr_same F
  obtain ⟨a1, a2, a3, a4, a5, a6, a7, a8, a9, a10, a11⟩ := C
  have ht := a1.2.2.1
  unfold I_tab at ht
  have row : ∀ x : Int, (x = 28 ∨ (30 ≤ x ∧ x ≤ 33)) → h'.i x = h.i x := fun x hx => Fr_row F (fun m => by have := k1 x m; omega) (fun q m e => by have := k2 q m; omega)
  have s : sok (h.r 28 6) c c2 := ⟨fun x m => by have := k1 x m; omega, fun q m => by have := k2 q m; omega⟩
  have e7 : tl h' = tl h := by unfold tl; rw [fs.1, fs.2.2.1]
  refine ⟨XEn_fr F s a1, by rw [fs.1]; exact a2, by rw [row 28 (Or.inl rfl)]; exact a3, by rw [row 28 (Or.inl rfl)]; exact a4, by rw [row 28 (Or.inl rfl)]; exact a5, by rw [fs.1, fs.2.1]; exact a6, fun j j0 j1 => ?_, by rw [row 28 (Or.inl rfl)]; exact a8, fun j hj => ?_, by rw [e7]; exact a10, by rw [e7]; exact a11⟩
  · unfold PsI
    rw [row 31 (by omega), row 32 (by omega), row 33 (by omega)]
    exact a7 j j0 j1
  · rw [row 30 (by omega)]; exact a9 j hj
variable {Q : Int → xH → Prop} {h : xH}
theorem c_X_cell {r i : Int} (C : ScC h p f E b) (r0 : 0 ≤ r) (i0 : 0 ≤ i) (i1 : i < 41) (hl : r * 41 + i < tl h) (H : Q (h.i (h.r 28 6) (r * 41 + i)) h) : xCi (d + 1) M_Scanner_cell [(1, 28), (0, r), (0, i)] h Q := by
  have SX_ := C.1.1
  have tT := C.2.2.2.2.2.1
  have t1 := C.2.2.2.2.2.2.2.2.2.2
  have hl' := hl
  unfold tl at hl'
  apply L_Scanner_cell
  intro x1 e1
  rw [xw_id (a := r * 41) (by omega) (by omega), xw_id (a := r * 41 + i) (by omega) (by omega)] at e1
  subst e1
  simp only [sxt SX_, sxl SX_, sxf SX_, tT, true_and, and_true, false_and, and_false, forall_eq, forall_eq', xi_wi, xr_wi, xt_wi, xl_wi, xn_wi, xs_wi, xi_wr, xr_wr, xt_wr, xl_wr, xn_wr, xs_wr, if_true, if_false, and_self, Int.reduceEq, Int.reduceLT, Int.reduceLE, Int.reduceNeg, Int.le_refl, Int.reduceMod]
  rw [if_neg (by omega), if_pos i1, if_neg (by omega), if_pos hl']
  exact ⟨⟨by omega, hl'⟩, H⟩
theorem c_X_own {w i : Int} (C : ScC h p f E b) (w0 : -1 ≤ w) (w1 : w ≤ 3) (i0 : 0 ≤ i) (i1 : i < 41) (H : Q (scOwn E w i) h) : xCi (d + 1) M_Scanner_ownPrice [(1, 28), (0, w), (0, i)] h Q := by
  have SX_ := C.1.1
  have P := C.2.2.2.2.2.2.1 i i0 i1
  unfold PsI at P
  apply L_Scanner_ownPrice
  intro x1 e1
  rw [xw_id (a := w * 41) (by omega) (by omega), xw_id (a := w * 41 + i) (by omega) (by omega)] at e1
  subst e1
  simp only [sxt SX_, sxl SX_, sxf SX_, true_and, and_true, false_and, and_false, forall_eq, forall_eq', xi_wi, xr_wi, xt_wi, xl_wi, xn_wi, xs_wi, xi_wr, xr_wr, xt_wr, xl_wr, xn_wr, xs_wr, if_true, if_false, and_self, Int.reduceEq, Int.reduceLT, Int.reduceLE, Int.reduceNeg, Int.le_refl, Int.reduceMod]
  by_cases c : 0 < w
  · rw [if_pos c, if_neg (by omega), if_neg (by omega), if_pos i1]
    refine ⟨⟨by omega, by omega⟩, ?_⟩
    have e : w = 1 ∨ w = 2 ∨ w = 3 := by omega
    rcases e with e | e | e
    · subst e; rw [show (1 : Int) * 41 + i = 41 + i by omega, P.1]; exact H
    · subst e; rw [show (2 : Int) * 41 + i = 82 + i by omega, P.2.1]; exact H
    · subst e; rw [show (3 : Int) * 41 + i = 123 + i by omega, P.2.2.1]; exact H
  · rw [if_neg c]
    have e : scOwn E w i = -1 := by
      unfold scOwn
      by_cases z : i < 0 ∨ E 0 0 ≤ i
      · rw [if_pos z]
      · rw [if_neg z, if_neg (by omega), if_neg (by omega), if_neg (by omega)]
    rw [e] at H; exact H
theorem c_X_extra {i : Int} (C : ScC h p f E b) (i0 : 0 ≤ i) (i1 : i < 41) (H : Q (scEx E i) h) : xCi (d + 1) M_Scanner_extraPrice [(1, 28), (0, i)] h Q := by
  have SX_ := C.1.1
  have L := C.1.2.2.2.2.1
  unfold XLe at L
  have tp := L.1
  have pn : ¬ p = 0 := by have := L.2.2.2.2.2.2.2.2.1.1; omega
  have e11 := C.2.2.2.2.2.2.2.1
  apply L_Scanner_extraPrice
  simp only [sxt SX_, sxl SX_, sxf SX_, C.2.1, tp, e11, true_and, and_true, false_and, and_false, forall_eq, forall_eq', xi_wi, xr_wi, xt_wi, xl_wi, xn_wi, xs_wi, xi_wr, xr_wr, xt_wr, xl_wr, xn_wr, xs_wr, if_true, if_false, and_self, Int.reduceEq, Int.reduceLT, Int.reduceLE, Int.reduceNeg, Int.le_refl, Int.reduceMod]
  rw [if_neg pn, L.2.1, xw_id (a := i + 1) (by omega) (by omega)]
  unfold scEx at H
  unfold exV
  by_cases c : 0 < i
  · rw [if_pos c]
    by_cases c2 : i + 1 = E 0 0
    · rw [if_pos c2]
      rw [show E 0 0 - 1 = i by omega]
      by_cases c3 : E 1 i = 1
      · rw [if_pos c3]; rw [if_neg (fun z => z.2.2 c3)] at H; exact H
      · rw [if_neg c3]; rw [if_pos ⟨c, c2, c3⟩] at H; exact H
    · rw [if_neg c2]; rw [if_neg (fun z => c2 z.2.1)] at H; exact H
  · rw [if_neg c]; rw [if_neg (fun z => c z.1)] at H; exact H
theorem c_X_join {t q v : Int} (C : ScC h p f E b) (t0 : 0 ≤ t) (t1 : t ≤ 1000000000) (q0 : 0 ≤ q) (q1 : q ≤ 50) (v0 : 0 ≤ v) (v1 : v ≤ 1000000000) (H : Q (scJ b t q v) h) : xCi (d + 1) M_Scanner_join [(1, 28), (0, t), (0, q), (0, v)] h Q := by
  have SX_ := C.1.1
  have e9 := C.2.2.2.1
  apply L_Scanner_join
  simp only [sxt SX_, sxl SX_, sxf SX_, e9, true_and, and_true, false_and, and_false, forall_eq, forall_eq', xi_wi, xr_wi, xt_wi, xl_wi, xn_wi, xs_wi, xi_wr, xr_wr, xt_wr, xl_wr, xn_wr, xs_wr, if_true, if_false, and_self, Int.reduceEq, Int.reduceLT, Int.reduceLE, Int.reduceNeg, Int.le_refl, Int.reduceMod]
  rw [xw_id (a := q + v) (by omega) (by omega), xw_id (a := t + v) (by omega) (by omega)]
  cases b
  · rw [b2i_0, if_pos rfl]
    have e : (if q + v < t then q + v else t) = scJ false t q v := by
      show _ = min t (q + v)
      by_cases c : q + v < t
      · rw [if_pos c]; omega
      · rw [if_neg c]; omega
    rw [e]; exact H
  · rw [b2i_1, if_neg (by decide)]
    have e : (if t + v < 1000000000 then t + v else 1000000000) = scJ true t q v := by
      show _ = min 1000000000 (t + v)
      by_cases c : t + v < 1000000000
      · rw [if_pos c]; omega
      · rw [if_neg c]; omega
    rw [e]; exact H
/-- the cells of a foot behind syllable i -/
def CB (h : xH) (E : SEn) (b : Bool) (bs q g i : Int) : Prop := ∀ c' i', 0 ≤ c' → c' < fcE E g → i < i' → i' ≤ E 0 0 → h.i (h.r 28 6) ((bs + c') * 41 + i') = scW E b (i', q, g, c')
theorem ch_some {g c : Int} {w : Int × Int} (F : FOk (E 8 g) (E 9 g) (E 10 g) (E 11 g) (fun k => E 12 (4 * g + k))) (c0 : 0 ≤ c) (m : w ∈ scCh E g c) : c = 16 ∨ cOk E g c := by
  by_cases c16 : c = 16
  · exact Or.inl c16
  refine Or.inr ?_
  unfold scCh fch at m
  unfold cOk
  by_cases e : E 8 g = 4
  · rw [if_pos e, if_neg c16] at m
    by_cases z : c / 4 < E 9 g ∧ c % 4 ≤ E 11 g
    · exact ⟨c0, z.1, Or.inl ⟨e, z.2⟩⟩
    · rw [if_neg z] at m; exact absurd m List.not_mem_nil
  · rw [if_neg e, if_neg c16] at m
    by_cases z : c % 4 = 1 ∧ c / 4 + 1 < E 9 g
    · exact ⟨c0, by omega, Or.inr ⟨e, Or.inl z.1⟩⟩
    · rw [if_neg z] at m
      by_cases z2 : c % 4 = 0 ∧ c / 4 < E 9 g ∧ fd (E 8 g) (E 9 g) (fun k => E 12 (4 * g + k)) (c / 4) = 4
      · exact ⟨c0, z2.2.1, Or.inr ⟨e, Or.inr ⟨z2.1, z2.2.2⟩⟩⟩
      · rw [if_neg z2] at m; exact absurd m List.not_mem_nil
theorem cOk_lt {g c : Int} (F : FOk (E 8 g) (E 9 g) (E 10 g) (E 11 g) (fun k => E 12 (4 * g + k))) (k : cOk E g c) : 0 ≤ c ∧ c < fcE E g := by
  unfold cOk at k
  unfold fcE fcodes
  by_cases e : E 8 g = 4
  · rw [if_pos e]; omega
  · rw [if_neg e]; omega
theorem ch_len {g c : Int} : (scCh E g c).length ≤ 2 := by
  unfold scCh fch fopen
  by_cases e : E 8 g = 4
  · rw [if_pos e]
    by_cases c16 : c = 16
    · rw [if_pos c16]; show 1 ≤ 2; decide
    · rw [if_neg c16]
      by_cases z : c / 4 < E 9 g ∧ c % 4 ≤ E 11 g
      · rw [if_pos z, List.length_append]
        have a : ∀ (P : Prop) (x : Int × Int) [Decidable P], (if P then [x] else []).length ≤ 1 := fun P x _ => by
          by_cases y : P
          · rw [if_pos y]; exact Nat.le_refl _
          · rw [if_neg y]; exact Nat.zero_le _
        exact Nat.add_le_add (a _ _) (a _ _)
      · rw [if_neg z]; exact Nat.zero_le _
  · rw [if_neg e]
    have a : ∀ k, (if fd (E 8 g) (E 9 g) (fun k => E 12 (4 * g + k)) k = 4 then [((1 : Int), 4 * k + 1), (2, 4 * k)] else [(fd (E 8 g) (E 9 g) (fun k => E 12 (4 * g + k)) k, 4 * k + 1)]).length ≤ 2 := fun k => by
      by_cases y : fd (E 8 g) (E 9 g) (fun k => E 12 (4 * g + k)) k = 4
      · rw [if_pos y]; exact Nat.le_refl _
      · rw [if_neg y]; show 1 ≤ 2; decide
    by_cases c16 : c = 16
    · rw [if_pos c16]; exact a 0
    · rw [if_neg c16]
      by_cases z : c % 4 = 1 ∧ c / 4 + 1 < E 9 g
      · rw [if_pos z]; exact a _
      · rw [if_neg z]
        by_cases z2 : c % 4 = 0 ∧ c / 4 < E 9 g ∧ fd (E 8 g) (E 9 g) (fun k => E 12 (4 * g + k)) (c / 4) = 4
        · rw [if_pos z2]; show 1 ≤ 2; decide
        · rw [if_neg z2]; exact Nat.zero_le _
theorem scF_C1 {i q g t : Int} {w : Int × Int} : scF E b t (scC1 E i q g w) = (if (w.1 = 1 ∨ w.1 = 3) ∧ 0 ≤ scMl E i then scJ b (if 0 ≤ scOwn E w.1 i then scJ b t (scOwn E w.1 i) (scW E b (i + 1, q, g, w.2)) else t) (scMl E i) (scW E b (i + 2, q, g, w.2)) else (if 0 ≤ scOwn E w.1 i then scJ b t (scOwn E w.1 i) (scW E b (i + 1, q, g, w.2)) else t)) := by
  unfold scC1
  rw [scF_app]
  by_cases c1 : 0 ≤ scOwn E w.1 i
  · rw [if_pos c1, if_pos c1]
    by_cases c2 : (w.1 = 1 ∨ w.1 = 3) ∧ 0 ≤ scMl E i
    · rw [if_pos c2, if_pos c2]; rfl
    · rw [if_neg c2, if_neg c2]; rfl
  · rw [if_neg c1, if_neg c1]
    by_cases c2 : (w.1 = 1 ∨ w.1 = 3) ∧ 0 ≤ scMl E i
    · rw [if_pos c2, if_pos c2]; rfl
    · rw [if_neg c2, if_neg c2]; rfl
theorem pr50 (ok : EOk E) {l : Int} (l0 : 0 ≤ l) (l1 : l < 5) : E 13 l ≤ 50 := (ok.2.2.2.2.2.2.2.2.2 l l0 l1).2
theorem scMl_50 (ok : EOk E) (i : Int) : scMl E i ≤ 50 := by
  have := pr50 ok (l := 1) (by decide) (by decide)
  unfold scMl
  by_cases c : scMelt E i = true
  · rw [if_pos c]; exact this
  · rw [if_neg c]; decide
theorem scLs_50 (ok : EOk E) (i : Int) : scLs E i ≤ 50 := by
  have := pr50 ok (l := 0) (by decide) (by decide)
  unfold scLs
  by_cases c : scLose E i = true
  · rw [if_pos c]; exact this
  · rw [if_neg c]; decide
theorem scEx_50 (ok : EOk E) (i : Int) : scEx E i ≤ 50 := by
  have := pr50 ok (l := 4) (by decide) (by decide)
  unfold scEx
  by_cases c : 0 < i ∧ i + 1 = E 0 0 ∧ E 1 i ≠ 1
  · rw [if_pos c]; exact this
  · rw [if_neg c]; decide
theorem scOwn_50 (ok : EOk E) (w i : Int) : scOwn E w i ≤ 50 := by
  have p2 := pr50 ok (l := 2) (by decide) (by decide)
  have p3 := pr50 ok (l := 3) (by decide) (by decide)
  unfold scOwn
  by_cases a1 : i < 0 ∨ E 0 0 ≤ i
  · rw [if_pos a1]; decide
  rw [if_neg a1]
  by_cases a2 : w = 3
  · rw [if_pos a2]; decide
  rw [if_neg a2]
  by_cases a3 : w = 1
  · rw [if_pos a3]
    by_cases a4 : E 1 i = 2
    · rw [if_pos a4]; exact p2
    · rw [if_neg a4]; decide
  rw [if_neg a3]
  by_cases a5 : w = 2
  · rw [if_pos a5]
    by_cases a6 : E 1 i = 1
    · rw [if_pos a6]
      by_cases a7 : i = 0
      · rw [if_pos a7]; exact p3
      · rw [if_neg a7]; decide
    · rw [if_neg a6]; decide
  · rw [if_neg a5]; decide
theorem getD_ge {w0 : Int × Int} {L : List (Int × Int)} {j : Nat} (h : L.length ≤ j) : L.getD j w0 = w0 := by
  rw [List.getD_eq_getElem?_getD, List.getElem?_eq_none h]; rfl
theorem take_s2 {L : List (Int × Int)} {w0 : Int × Int} {j : Nat} (hj : j < L.length) : L.take (j + 1) = L.take j ++ [L.getD j w0] := by
  rw [List.take_add_one, List.getD_eq_getElem?_getD, List.getElem?_eq_getElem hj]; rfl
theorem c_addCh_4 {ft q g c bs i t : Int} {u1 : xV} (C : ScC h p f E b) (F : FOk (E 8 g) (E 9 g) (E 10 g) (E 11 g) (fun k => E 12 (4 * g + k))) (B : FTab h ft (E 8 g) (E 9 g) (E 10 g) (E 11 g) (fun k => E 12 (4 * g + k))) (c0 : 0 ≤ c) (c1 : c ≤ 16) (b0 : 0 ≤ bs) (bl : (bs + fcE E g) * 41 ≤ tl h) (K : CB h E b bs q g i) (i0 : 0 ≤ i) (i1 : i ≤ E 0 0) (t0 : 0 ≤ t) (t1 : t ≤ 1000000000) (H : Q (scF E b t (scCs E i q g c)) h) : ∀ (n j : Nat) (u8 u9 u10 : xV), j + n = 2 → 0 ≤ scF E b t (((scCh E g c).take j).flatMap (scC1 E i q g)) ∧ scF E b t (((scCh E g c).take j).flatMap (scC1 E i q g)) ≤ 1000000000 → xT (d + 1) M_Scanner_addChoices 4 [(1, 28), u1, (1, ft), (0, c), (0, bs), (0, i), (0, scF E b t (((scCh E g c).take j).flatMap (scC1 E i q g))), (0, (j : Int)), u8, u9, u10] [] h (xqi Q) := by
  have ok := C.1.2.2.2.1
  have n40 := ok.2.1
  have SX_ := C.1.1
  have T1 := C.2.2.2.2.2.2.2.2.2.2
  have len := ch_len (E := E) (g := g) (c := c)
  have f14 : fcE E g ≤ 14 := by
    unfold FOk at F
    unfold fcE fcodes
    by_cases z : E 8 g = 4
    · rw [if_pos z]; omega
    · rw [if_neg z]; omega
  intro n
  induction n with
  | zero =>
    intro j u8 u9 u10 hj _
    apply L_Scanner_addChoices_4
    rw [if_neg (by omega)]
    rw [List.take_of_length_le (by omega)]
    exact H
  | succ n ih =>
    intro j u8 u9 u10 hj tb
    have tft := B.2.2.1
    apply L_Scanner_addChoices_4
    rw [if_pos (by omega)]
    refine ⟨tft, ?_⟩
    refine c_X_need B c0 c1 (by omega) ?_
    refine ⟨tft, ?_⟩
    refine c_X_next B c0 c1 (by omega) ?_
    intro x1 e1
    refine ⟨(sxt SX_).2.2.2.2.2.2.2.2.2.2.2.2.2.2.2.2.2.2.2.2.2.2.2.2.2.2.1, ?_⟩
    have nxt : ∀ (T : Int) (u8 u9 u10 : xV), T = scF E b t (((scCh E g c).take (j + 1)).flatMap (scC1 E i q g)) → 0 ≤ T → T ≤ 1000000000 → ∀ x, x = xw ((j : Int) + 1) → xT (d + 1) M_Scanner_addChoices 4 [(1, 28), u1, (1, ft), (0, c), (0, bs), (0, i), (0, T), (0, x), u8, u9, u10] [] h (xqi Q) := by
      intro T u8 u9 u10 hT T0 T1 x hx
      rw [xw_id (by omega) (by omega)] at hx
      subst hT
      rw [hx, show ((j : Int) + 1) = ((j + 1 : Nat) : Int) by push_cast; rfl]
      exact ih (j + 1) _ _ _ (by omega) ⟨T0, T1⟩
    have er : fch (E 8 g) (E 9 g) (E 10 g) (E 11 g) (fun k => E 12 (4 * g + k)) c = scCh E g c := rfl
    rw [er] at e1 ⊢
    by_cases hl : j < (scCh E g c).length
    · have mem : (scCh E g c).getD j (-1, 0) ∈ scCh E g c := getD_mem _ hl
      have ko := ch_ok F (ch_some F c0 mem) mem
      have kl := cOk_lt F ko.1
      have eT : scF E b t (((scCh E g c).take (j + 1)).flatMap (scC1 E i q g)) = scF E b (scF E b t (((scCh E g c).take j).flatMap (scC1 E i q g))) (scC1 E i q g ((scCh E g c).getD j (-1, 0))) := by
        rw [take_s2 (w0 := (-1, 0)) hl, List.flatMap_append, scF_app, List.flatMap_cons, List.flatMap_nil, List.append_nil]
      rw [scF_C1] at eT
      rw [xw_id (by unfold tl at *; omega) (by omega)] at e1
      generalize (scCh E g c).getD j (-1, 0) = w at *
      generalize scF E b t (((scCh E g c).take j).flatMap (scC1 E i q g)) = T at *
      refine c_X_own C (by omega) ko.2.2 i0 (by omega) ?_
      have cell : ∀ i', i < i' → i' ≤ E 0 0 → ∀ G : Int → xH → Prop, G (scW E b (i', q, g, w.2)) h → xCi (d + 1) M_Scanner_cell [(1, 28), (0, x1), (0, i')] h G := fun i' a1 a2 G hG => by
        refine c_X_cell C (by omega) (by omega) (by omega) (by rw [e1]; omega) ?_
        rw [e1, K w.2 i' kl.1 kl.2 a1 a2]
        exact hG
      -- behind the own one: melting
      have melt : ∀ (T1 : Int) (u10 : xV), T1 = (if 0 ≤ scOwn E w.1 i then scJ b T (scOwn E w.1 i) (scW E b (i + 1, q, g, w.2)) else T) → 0 ≤ T1 → T1 ≤ 1000000000 → xT (d + 1) M_Scanner_addChoices 37 [(1, 28), u1, (1, ft), (0, c), (0, bs), (0, i), (0, T1), (0, (j : Int)), (0, w.1), (0, x1), u10] [] h (xqi Q) := by
        intro T1 u10 hT1 p0 p1
        rw [← hT1] at eT
        have P := (C.2.2.2.2.2.2.1 i i0 (by omega)).2.2.2.1
        have no : ¬ ((w.1 = 1 ∨ w.1 = 3) ∧ 0 ≤ scMl E i) → ∀ x, x = xw ((j : Int) + 1) → ∀ u8 u9 u10 : xV, xT (d + 1) M_Scanner_addChoices 4 [(1, 28), u1, (1, ft), (0, c), (0, bs), (0, i), (0, T1), (0, x), u8, u9, u10] [] h (xqi Q) := fun z x hx u8 u9 u10 => by
          rw [if_neg z] at eT
          exact nxt T1 _ _ _ eT.symm p0 p1 x hx
        have yes : (w.1 = 1 ∨ w.1 = 3) → (if scMl E i < 0 then xT (d + 1) M_Scanner_addChoices 4 [(1, 28), u1, (1, ft), (0, c), (0, bs), (0, i), (0, T1), (0, xw ((j : Int) + 1)), (0, w.1), (0, x1), u10] [] h (xqi Q) else ((0 : Int) ≤ i ∧ i < 41) ∧ xCi (d + 1) M_Scanner_cell [(1, 28), (0, x1), (0, xw (i + 2))] h (fun r1 h1 => h1.tag 28 = 8 ∧ xCi (d + 1) M_Scanner_join [(1, 28), (0, T1), (0, scMl E i), (0, r1)] h1 (fun r2 h2 => xT (d + 1) M_Scanner_addChoices 4 [(1, 28), u1, (1, ft), (0, c), (0, bs), (0, i), (0, r2), (0, xw ((j : Int) + 1)), (0, w.1), (0, x1), u10] [] h2 (xqi Q)))) := by
          intro hw
          by_cases z : scMl E i < 0
          · rw [if_pos z]; exact no (by omega) _ rfl _ _ _
          · rw [if_neg z]
            have mn := scMl_n (E := E) (i := i) (by omega)
            rw [xw_id (a := i + 2) (by omega) (by omega)]
            refine ⟨⟨i0, by omega⟩, ?_⟩
            refine cell (i + 2) (by omega) (by omega) _ ?_
            refine ⟨(sxt SX_).2.2.2.2.2.2.2.2.2.2.2.2.2.2.2.2.2.2.2.2.2.2.2.2.2.2.1, ?_⟩
            have wb := scW_b ok b (s := (i + 2, q, g, w.2)) (by show i + 2 ≤ 40; omega)
            refine c_X_join C p0 p1 (by omega) (scMl_50 ok i) wb.1 wb.2 ?_
            rw [if_pos ⟨hw, by omega⟩] at eT
            have jb := scJ_b (b := b) p0 p1 (p := scMl E i) (by omega) wb.1
            exact nxt _ _ _ _ eT.symm jb.1 jb.2 _ rfl
        apply L_Scanner_addChoices_37
        simp only [sxt SX_, sxl SX_, sxf SX_, P, true_and, and_true, false_and, and_false, forall_eq, forall_eq', xi_wi, xr_wi, xt_wi, xl_wi, xn_wi, xs_wi, xi_wr, xr_wr, xt_wr, xl_wr, xn_wr, xs_wr, if_true, if_false, and_self, Int.reduceEq, Int.reduceLT, Int.reduceLE, Int.reduceNeg, Int.le_refl, Int.reduceMod]
        by_cases w1 : w.1 = 1
        · rw [if_pos w1]
          refine ⟨⟨i0, by omega⟩, ?_⟩
          exact yes (Or.inl w1)
        · rw [if_neg w1]
          by_cases w3 : w.1 = 3
          · rw [if_pos w3]
            refine ⟨⟨i0, by omega⟩, ?_⟩
            exact yes (Or.inr w3)
          · rw [if_neg w3]
            exact no (by omega) _ rfl _ _ _
      by_cases z : scOwn E w.1 i < 0
      · rw [if_pos z]
        exact melt T _ (by rw [if_neg (by omega)]) tb.1 tb.2
      · rw [if_neg z]
        have on := scOwn_n (E := E) (w := w.1) (i := i) (by omega)
        rw [xw_id (a := i + 1) (by omega) (by omega)]
        refine ⟨(sxt SX_).2.2.2.2.2.2.2.2.2.2.2.2.2.2.2.2.2.2.2.2.2.2.2.2.2.2.1, ?_⟩
        refine cell (i + 1) (by omega) (by omega) _ ?_
        refine ⟨(sxt SX_).2.2.2.2.2.2.2.2.2.2.2.2.2.2.2.2.2.2.2.2.2.2.2.2.2.2.1, ?_⟩
        have wb := scW_b ok b (s := (i + 1, q, g, w.2)) (by show i + 1 ≤ 40; omega)
        refine c_X_join C tb.1 tb.2 (by omega) (scOwn_50 ok _ i) wb.1 wb.2 ?_
        have jb := scJ_b (b := b) tb.1 tb.2 (p := scOwn E w.1 i) (by omega) wb.1
        exact melt _ _ (by rw [if_pos (by omega)]) jb.1 jb.2
    · have eg : (scCh E g c).getD j (-1, 0) = (-1, 0) := getD_ge (by omega)
      have eT : scF E b t (((scCh E g c).take (j + 1)).flatMap (scC1 E i q g)) = scF E b t (((scCh E g c).take j).flatMap (scC1 E i q g)) := by
        rw [List.take_of_length_le (by omega), List.take_of_length_le (by omega)]
      rw [eg] at e1 ⊢
      refine c_X_own C (by decide) (by decide) i0 (by omega) ?_
      have e : scOwn E (-1) i = -1 := by
        unfold scOwn
        by_cases z : i < 0 ∨ E 0 0 ≤ i
        · rw [if_pos z]
        · rw [if_neg z, if_neg (by decide), if_neg (by decide), if_neg (by decide)]
      rw [e, if_pos (by decide)]
      apply L_Scanner_addChoices_37
      rw [if_neg (by decide), if_neg (by decide)]
      intro x5 e5
      exact nxt _ _ _ _ eT.symm tb.1 tb.2 _ e5
theorem c_X_addCh {ft q g c bs i t : Int} (C : ScC h p f E b) (F : FOk (E 8 g) (E 9 g) (E 10 g) (E 11 g) (fun k => E 12 (4 * g + k))) (B : FTab h ft (E 8 g) (E 9 g) (E 10 g) (E 11 g) (fun k => E 12 (4 * g + k))) (c0 : 0 ≤ c) (c1 : c ≤ 16) (b0 : 0 ≤ bs) (bl : (bs + fcE E g) * 41 ≤ tl h) (K : CB h E b bs q g i) (i0 : 0 ≤ i) (i1 : i ≤ E 0 0) (t0 : 0 ≤ t) (t1 : t ≤ 1000000000) (H : Q (scF E b t (scCs E i q g c)) h) : xCi (d + 2) M_Scanner_addChoices [(1, 28), (0, t), (1, ft), (0, c), (0, bs), (0, i)] h Q := by
  apply L_Scanner_addChoices
  exact c_addCh_4 C F B c0 c1 b0 bl K i0 i1 t0 t1 H 2 0 _ _ _ (by decide) ⟨t0, t1⟩
end XA
