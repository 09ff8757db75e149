/-! scanning: the class prices the syllables -/
def PsI (h : xH) (E : SEn) (i : Int) : Prop := h.i 31 (41 + i) = scOwn E 1 i ∧ h.i 31 (82 + i) = scOwn E 2 i ∧ h.i 31 (123 + i) = scOwn E 3 i ∧ h.i 32 i = scMl E i ∧ h.i 33 i = scLs E i
def exV (E : SEn) : Int := if E 1 (E 0 0 - 1) = 1 then -1 else E 13 4
section XP
variable {p f : Int} {E : SEn} {d : Nat} {Q : xH → Prop}
theorem sok_low {T : Int} {c : List Int} {c2 : List (Int × Int)} (k : (c.all (fun x => decide (28 ≤ x ∧ x ≤ 47)) && c2.all (fun q => decide (28 ≤ q.1 ∧ q.1 ≤ 47))) = true) : sok T c c2 := by
  rw [Bool.and_eq_true, List.all_eq_true, List.all_eq_true] at k
  exact ⟨fun x m => Or.inl (of_decide_eq_true (k.1 x m)), fun q m => of_decide_eq_true (k.2 q m)⟩
theorem c_ps_74 {h : xH} {i s2 : Int} {u2 u3 u4 : xV} (X : XEn h p f E) (hl : h.r 28 7 = p) (i0 : 0 ≤ i) (i1 : i < 41) (H : ∀ x, x = i + 1 → xT (d + 2) M_Scanner_priceSyllables 2 [(1, 28), (0, x), u2, u3, u4] [] (((h.wi 31 (123 + i) s2).wi 32 i (scMl E i)).wi 33 i (scLs E i)) (xqv Q)) : xT (d + 2) M_Scanner_priceSyllables 74 [(1, 28), (0, i), u2, u3, u4] [(0, s2), (0, 123 + i), (1, 31)] h (xqv Q) := by
  have SX_ := X.1
  have tp := X.2.2.2.2.1.1
  have hx : xw (i + 1) = i + 1 := xw_id (by omega) (by omega)
  have F1 : Fr [31] [] h (h.wi 31 (123 + i) s2) := Fr_cell (Fr_refl _ _ _) _ _ (by decide)
  have X1 := XEn_fr F1 (sok_low (by decide)) X
  have lose' : ∀ m : Int, m = scMl E i → xCi (d + 2) M_Syllables_mayBeLost [(1, p), (0, i)] ((h.wi 31 (123 + i) s2).wi 32 i m) (fun r2 h4 => if r2 = 0 then (h4.tag 33 = 20 ∧ (0 : Int) ≤ i ∧ i < h4.len 33) ∧ xT (d + 2) M_Scanner_priceSyllables 2 [(1, 28), (0, xw (i + 1)), u2, u3, u4] [] (h4.wi 33 i (-1)) (xqv Q) else h4.tag 28 = 8 ∧ h4.tag (h4.r 28 0) = 4 ∧ xCi (d + 2) M_Metre_price [(1, h4.r 28 0), (0, 0)] h4 (fun r3 h6 => (h6.tag 33 = 20 ∧ (0 : Int) ≤ i ∧ i < h6.len 33) ∧ xT (d + 2) M_Scanner_priceSyllables 2 [(1, 28), (0, xw (i + 1)), u2, u3, u4] [] (h6.wi 33 i r3) (xqv Q))) := by
    intro m hm
    subst hm
    have F2 : Fr [31, 32] [] h ((h.wi 31 (123 + i) s2).wi 32 i (scMl E i)) := Fr_cell (Fr_cell (Fr_refl _ _ _) _ _ (by decide)) _ _ (by decide)
    have X2 := XEn_fr F2 (sok_low (by decide)) X
    have H' := H (i + 1) rfl
    refine c_X_mayLose X2 i0 (by omega) ?_
    cases z : scLose E i
    · rw [b2i_0, if_pos rfl]
      rw [show scLs E i = -1 from by unfold scLs; rw [z]; rfl] at H'
      simp only [sxt SX_, sxl SX_, sxf SX_, hx, true_and, and_true, false_and, and_false, forall_eq, forall_eq', xi_wi, xr_wi, xt_wi, xl_wi, xn_wi, xs_wi, xi_wr, xr_wr, xt_wr, xl_wr, xn_wr, xs_wr, if_true, if_false, and_self, Int.reduceEq, Int.reduceLT, Int.reduceLE, Int.reduceNeg, Int.le_refl, Int.reduceMod]
      exact ⟨⟨i0, i1⟩, H'⟩
    · rw [b2i_1, if_neg (by decide)]
      simp only [sxt SX_, sxl SX_, sxf SX_, hx, true_and, and_true, false_and, and_false, forall_eq, forall_eq', xi_wi, xr_wi, xt_wi, xl_wi, xn_wi, xs_wi, xi_wr, xr_wr, xt_wr, xl_wr, xn_wr, xs_wr, if_true, if_false, and_self, Int.reduceEq, Int.reduceLT, Int.reduceLE, Int.reduceNeg, Int.le_refl, Int.reduceMod]
      refine c_X_price X2 (by decide) (by decide) ?_
      rw [show scLs E i = E 13 0 from by unfold scLs; rw [z]; rfl] at H'
      simp only [sxt SX_, sxl SX_, sxf SX_, hx, true_and, and_true, false_and, and_false, forall_eq, forall_eq', xi_wi, xr_wi, xt_wi, xl_wi, xn_wi, xs_wi, xi_wr, xr_wr, xt_wr, xl_wr, xn_wr, xs_wr, if_true, if_false, and_self, Int.reduceEq, Int.reduceLT, Int.reduceLE, Int.reduceNeg, Int.le_refl, Int.reduceMod]
      exact ⟨⟨i0, i1⟩, H'⟩
  apply L_Scanner_priceSyllables_74
  simp only [sxt SX_, sxl SX_, sxf SX_, hl, tp, true_and, and_true, false_and, and_false, forall_eq, forall_eq', xi_wi, xr_wi, xt_wi, xl_wi, xn_wi, xs_wi, xi_wr, xr_wr, xt_wr, xl_wr, xn_wr, xs_wr, if_true, if_false, and_self, Int.reduceEq, Int.reduceLT, Int.reduceLE, Int.reduceNeg, Int.le_refl, Int.reduceMod]
  refine ⟨⟨by omega, by omega⟩, ?_⟩
  refine c_X_mayMelt X1 i0 (by omega) ?_
  cases z : scMelt E i
  · rw [b2i_0, if_pos rfl]
    simp only [sxt SX_, sxl SX_, sxf SX_, hl, tp, true_and, and_true, false_and, and_false, forall_eq, forall_eq', xi_wi, xr_wi, xt_wi, xl_wi, xn_wi, xs_wi, xi_wr, xr_wr, xt_wr, xl_wr, xn_wr, xs_wr, if_true, if_false, and_self, Int.reduceEq, Int.reduceLT, Int.reduceLE, Int.reduceNeg, Int.le_refl, Int.reduceMod]
    exact ⟨⟨i0, i1⟩, lose' (-1) (by unfold scMl; rw [z]; rfl)⟩
  · rw [b2i_1, if_neg (by decide)]
    simp only [sxt SX_, sxl SX_, sxf SX_, hl, tp, true_and, and_true, false_and, and_false, forall_eq, forall_eq', xi_wi, xr_wi, xt_wi, xl_wi, xn_wi, xs_wi, xi_wr, xr_wr, xt_wr, xl_wr, xn_wr, xs_wr, if_true, if_false, and_self, Int.reduceEq, Int.reduceLT, Int.reduceLE, Int.reduceNeg, Int.le_refl, Int.reduceMod]
    refine c_X_price X1 (by decide) (by decide) ?_
    simp only [sxt SX_, sxl SX_, sxf SX_, hl, tp, true_and, and_true, false_and, and_false, forall_eq, forall_eq', xi_wi, xr_wi, xt_wi, xl_wi, xn_wi, xs_wi, xi_wr, xr_wr, xt_wr, xl_wr, xn_wr, xs_wr, if_true, if_false, and_self, Int.reduceEq, Int.reduceLT, Int.reduceLE, Int.reduceNeg, Int.le_refl, Int.reduceMod]
    exact ⟨⟨i0, i1⟩, lose' (E 13 1) (by unfold scMl; rw [z]; rfl)⟩
theorem c_ps_2 : ∀ (n : Nat) (h : xH) (k : Int) (u2 u3 u4 : xV), 0 ≤ k → k + n = 41 → XEn h p f E → h.r 28 7 = p → (∀ j, 0 ≤ j → j < k → PsI h E j) → (∀ h', Fr [31, 32, 33] [(28, 11)] h h' → (∀ j, 0 ≤ j → j < 41 → PsI h' E j) → h'.i 28 11 = exV E → Q h') → xT (d + 2) M_Scanner_priceSyllables 2 [(1, 28), (0, k), u2, u3, u4] [] h (xqv Q) := by
  intro n
  induction n with
  | zero =>
    intro h k u2 u3 u4 k0 hk X hl P H
    have SX_ := X.1
    have L := X.2.2.2.2.1
    unfold XLe at L
    have tp := L.1
    have n1 := X.2.2.2.1.1
    have n40 := X.2.2.2.1.2.1
    have e1 := (L.2.2.2.2.2.2.2.2.2.2.2.2 (E 0 0 - 1) (by omega) (by omega)).2.1
    have fin : ∀ v, v = exV E → Q (h.wi 28 11 v) := fun v hv => by
      refine H _ (Fr_slot (Fr_refl _ _ _) _ (by decide)) (fun j j0 j1 => ?_) (by simp only [true_and, and_true, false_and, and_false, forall_eq, forall_eq', xi_wi, xr_wi, xt_wi, xl_wi, xn_wi, xs_wi, xi_wr, xr_wr, xt_wr, xl_wr, xn_wr, xs_wr, if_true, if_false, and_self, Int.reduceEq, Int.reduceLT, Int.reduceLE, Int.reduceNeg, Int.le_refl, Int.reduceMod]; exact hv)
      have := P j j0 (by omega)
      unfold PsI at this ⊢
      simp only [true_and, and_true, false_and, and_false, forall_eq, forall_eq', xi_wi, xr_wi, xt_wi, xl_wi, xn_wi, xs_wi, xi_wr, xr_wr, xt_wr, xl_wr, xn_wr, xs_wr, if_true, if_false, and_self, Int.reduceEq, Int.reduceLT, Int.reduceLE, Int.reduceNeg, Int.le_refl, Int.reduceMod]
      exact this
    unfold exV at fin
    apply L_Scanner_priceSyllables_2
    rw [if_neg (by omega)]
    simp only [sxt SX_, sxl SX_, sxf SX_, hl, tp, true_and, and_true, false_and, and_false, forall_eq, forall_eq', xi_wi, xr_wi, xt_wi, xl_wi, xn_wi, xs_wi, xi_wr, xr_wr, xt_wr, xl_wr, xn_wr, xs_wr, if_true, if_false, and_self, Int.reduceEq, Int.reduceLT, Int.reduceLE, Int.reduceNeg, Int.le_refl, Int.reduceMod]
    rw [L.2.1, xw_id (a := E 0 0 - 1) (by omega) (by omega), e1]
    refine ⟨⟨L.2.2.2.1, by omega, by have := L.2.2.2.2.2.2.1; omega⟩, ?_⟩
    by_cases c : E 1 (E 0 0 - 1) = 1
    · rw [if_pos c]
      exact fin _ (by rw [if_pos c])
    · rw [if_neg c]
      refine c_X_price X (by decide) (by decide) ?_
      simp only [sxt SX_, sxl SX_, sxf SX_, true_and, and_true, false_and, and_false, forall_eq, forall_eq', xi_wi, xr_wi, xt_wi, xl_wi, xn_wi, xs_wi, xi_wr, xr_wr, xt_wr, xl_wr, xn_wr, xs_wr, if_true, if_false, and_self, Int.reduceEq, Int.reduceLT, Int.reduceLE, Int.reduceNeg, Int.le_refl, Int.reduceMod]
      exact fin _ (by rw [if_neg c])
  | succ n ih =>
    intro h k u2 u3 u4 k0 hk X hl P H
    have SX_ := X.1
    have L := X.2.2.2.2.1
    unfold XLe at L
    have tp := L.1
    have k1 : k < 41 := by omega
    have ok := X.2.2.2.1
    -- from the two prices on
    have c27 : ∀ (m s0 : Int) (u3 u4 : xV), m = (if k < E 0 0 then E 1 k else 0) → s0 = (if m = 2 then E 13 2 else 0) → xT (d + 2) M_Scanner_priceSyllables 27 [(1, 28), (0, k), (0, m), u3, u4] [(0, s0)] h (xqv Q) := by
      intro m s0 u3 u4 hm hs
      have o1 : (if m = 0 then -1 else s0) = scOwn E 1 k := by
        unfold scOwn
        by_cases c : k < E 0 0
        · have := ok.2.2.1 k k0 c
          rw [if_pos c] at hm
          rw [if_neg (by omega), if_neg (by omega), if_neg (by decide), if_pos rfl, hs, hm]
        · rw [if_neg c] at hm
          rw [if_pos hm, if_pos (by omega)]
      have o2 : ∀ v, v = (if m = 1 then (if k = 0 then E 13 3 else -1) else 0) → (if m = 0 then -1 else v) = scOwn E 2 k := by
        intro v hv
        unfold scOwn
        by_cases c : k < E 0 0
        · have := ok.2.2.1 k k0 c
          rw [if_pos c] at hm
          rw [if_neg (by omega), if_neg (by omega), if_neg (by decide), if_neg (by decide), if_pos rfl, hv, hm]
        · rw [if_neg c] at hm
          rw [if_pos hm, if_pos (by omega)]
      have o3 : (if m = 0 then -1 else (0 : Int)) = scOwn E 3 k := by
        unfold scOwn
        by_cases c : k < E 0 0
        · have := ok.2.2.1 k k0 c
          rw [if_pos c] at hm
          rw [if_neg (by omega), if_neg (by omega), if_pos rfl]
        · rw [if_neg c] at hm
          rw [if_pos hm, if_pos (by omega)]
      have c52 : ∀ (v : Int) (u3 : xV), v = (if m = 1 then (if k = 0 then E 13 3 else -1) else 0) → xT (d + 2) M_Scanner_priceSyllables 52 [(1, 28), (0, k), (0, m), u3, (0, v)] [(0, scOwn E 1 k), (0, 41 + k), (1, 31)] h (xqv Q) := by
        intro v u3 hv
        have e2 := o2 v hv
        have go : xT (d + 2) M_Scanner_priceSyllables 74 [(1, 28), (0, k), (0, m), u3, (0, v)] [(0, scOwn E 3 k), (0, 123 + k), (1, 31)] ((h.wi 31 (41 + k) (scOwn E 1 k)).wi 31 (82 + k) (scOwn E 2 k)) (xqv Q) := by
          have F0 : Fr [31, 32, 33] [(28, 11)] h ((h.wi 31 (41 + k) (scOwn E 1 k)).wi 31 (82 + k) (scOwn E 2 k)) := Fr_cell (Fr_cell (Fr_refl _ _ _) _ _ (by decide)) _ _ (by decide)
          have X0 := XEn_fr F0 (sok_low (by decide)) X
          refine c_ps_74 X0 hl k0 k1 (fun x hx => ?_)
          have F1 : Fr [31, 32, 33] [(28, 11)] h (((((h.wi 31 (41 + k) (scOwn E 1 k)).wi 31 (82 + k) (scOwn E 2 k)).wi 31 (123 + k) (scOwn E 3 k)).wi 32 k (scMl E k)).wi 33 k (scLs E k)) := Fr_cell (Fr_cell (Fr_cell F0 _ _ (by decide)) _ _ (by decide)) _ _ (by decide)
          refine ih _ x _ _ _ (by omega) (by omega) (XEn_fr F1 (sok_low (by decide)) X) hl (fun j j0 j1 => ?_) (fun h' F' P' e' => H h' (Fr_trans F1 F') P' e')
          unfold PsI
          simp only [true_and, and_true, false_and, and_false, forall_eq, forall_eq', xi_wi, xr_wi, xt_wi, xl_wi, xn_wi, xs_wi, xi_wr, xr_wr, xt_wr, xl_wr, xn_wr, xs_wr, if_true, if_false, and_self, Int.reduceEq, Int.reduceLT, Int.reduceLE, Int.reduceNeg, Int.le_refl, Int.reduceMod]
          by_cases cj : j = k
          · subst cj
            simp only [if_true]
            rw [if_neg (by omega), if_neg (by omega), if_neg (by omega)]
            exact ⟨rfl, rfl, trivial, trivial, trivial⟩
          · have := P j j0 (by omega)
            unfold PsI at this
            rw [if_neg (by omega), if_neg (by omega), if_neg (by omega), if_neg (by omega), if_neg (by omega), if_neg (by omega), if_neg (by omega), if_neg (by omega), if_neg (by omega), if_neg (by omega), if_neg (by omega)]
            exact this
        apply L_Scanner_priceSyllables_52
        simp only [sxt SX_, sxl SX_, sxf SX_, true_and, and_true, false_and, and_false, forall_eq, forall_eq', xi_wi, xr_wi, xt_wi, xl_wi, xn_wi, xs_wi, xi_wr, xr_wr, xt_wr, xl_wr, xn_wr, xs_wr, if_true, if_false, and_self, Int.reduceEq, Int.reduceLT, Int.reduceLE, Int.reduceNeg, Int.le_refl, Int.reduceMod]
        rw [xw_id (a := 82 + k) (by omega) (by omega), xw_id (a := 123 + k) (by omega) (by omega)]
        refine ⟨⟨by omega, by omega⟩, ?_⟩
        by_cases c : m = 0
        · rw [if_pos c] at e2 o3
          rw [if_pos c]
          simp only [if_pos c]
          refine ⟨⟨by omega, by omega⟩, ?_⟩
          have := go
          rw [← e2, ← o3] at this
          exact this
        · rw [if_neg c] at e2 o3
          rw [if_neg c]
          simp only [if_neg c]
          refine ⟨⟨by omega, by omega⟩, ?_⟩
          have := go
          rw [← e2, ← o3] at this
          exact this
      apply L_Scanner_priceSyllables_27
      rw [xw_id (a := 41 + k) (by omega) (by omega)]
      have fin : ∀ (v : Int) (u3 : xV), v = (if m = 1 then (if k = 0 then E 13 3 else -1) else 0) → (if m = 0 then xT (d + 2) M_Scanner_priceSyllables 52 [(1, 28), (0, k), (0, m), u3, (0, v)] [(0, -1), (0, 41 + k), (1, 31)] h (xqv Q) else xT (d + 2) M_Scanner_priceSyllables 52 [(1, 28), (0, k), (0, m), u3, (0, v)] [(0, s0), (0, 41 + k), (1, 31)] h (xqv Q)) := by
        intro v u3 hv
        by_cases c : m = 0
        · rw [if_pos c] at o1 ⊢
          rw [o1]; exact c52 v u3 hv
        · rw [if_neg c] at o1 ⊢
          rw [o1]; exact c52 v u3 hv
      by_cases c1 : m = 1
      · rw [if_pos c1]
        by_cases c2 : k = 0
        · rw [if_pos c2]
          simp only [sxt SX_, sxl SX_, sxf SX_, true_and, and_true, false_and, and_false, forall_eq, forall_eq', xi_wi, xr_wi, xt_wi, xl_wi, xn_wi, xs_wi, xi_wr, xr_wr, xt_wr, xl_wr, xn_wr, xs_wr, if_true, if_false, and_self, Int.reduceEq, Int.reduceLT, Int.reduceLE, Int.reduceNeg, Int.le_refl, Int.reduceMod]
          refine c_X_price X (by decide) (by decide) ?_
          simp only [sxt SX_, sxl SX_, sxf SX_, true_and, and_true, false_and, and_false, forall_eq, forall_eq', xi_wi, xr_wi, xt_wi, xl_wi, xn_wi, xs_wi, xi_wr, xr_wr, xt_wr, xl_wr, xn_wr, xs_wr, if_true, if_false, and_self, Int.reduceEq, Int.reduceLT, Int.reduceLE, Int.reduceNeg, Int.le_refl, Int.reduceMod]
          exact fin _ _ (by rw [if_pos c1, if_pos c2])
        · rw [if_neg c2]
          simp only [sxt SX_, sxl SX_, sxf SX_, true_and, and_true, false_and, and_false, forall_eq, forall_eq', xi_wi, xr_wi, xt_wi, xl_wi, xn_wi, xs_wi, xi_wr, xr_wr, xt_wr, xl_wr, xn_wr, xs_wr, if_true, if_false, and_self, Int.reduceEq, Int.reduceLT, Int.reduceLE, Int.reduceNeg, Int.le_refl, Int.reduceMod]
          exact fin _ _ (by rw [if_pos c1, if_neg c2])
      · rw [if_neg c1]
        simp only [sxt SX_, sxl SX_, sxf SX_, true_and, and_true, false_and, and_false, forall_eq, forall_eq', xi_wi, xr_wi, xt_wi, xl_wi, xn_wi, xs_wi, xi_wr, xr_wr, xt_wr, xl_wr, xn_wr, xs_wr, if_true, if_false, and_self, Int.reduceEq, Int.reduceLT, Int.reduceLE, Int.reduceNeg, Int.le_refl, Int.reduceMod]
        exact fin _ _ (by rw [if_neg c1])
    apply L_Scanner_priceSyllables_2
    rw [if_pos k1]
    simp only [sxt SX_, sxl SX_, sxf SX_, hl, tp, true_and, and_true, false_and, and_false, forall_eq, forall_eq', xi_wi, xr_wi, xt_wi, xl_wi, xn_wi, xs_wi, xi_wr, xr_wr, xt_wr, xl_wr, xn_wr, xs_wr, if_true, if_false, and_self, Int.reduceEq, Int.reduceLT, Int.reduceLE, Int.reduceNeg, Int.le_refl, Int.reduceMod]
    rw [L.2.1]
    by_cases c : k < E 0 0
    · rw [if_pos c, (L.2.2.2.2.2.2.2.2.2.2.2.2 k k0 c).2.1]
      refine ⟨⟨L.2.2.2.1, by omega, by have := L.2.2.2.2.2.2.1; omega⟩, ?_⟩
      by_cases c2 : E 1 k = 2
      · rw [if_pos c2]
        refine c_X_price X (by decide) (by decide) ?_
        exact c27 _ _ _ _ (by rw [if_pos c]) (by rw [if_pos c2])
      · rw [if_neg c2]
        exact c27 _ _ _ _ (by rw [if_pos c]) (by rw [if_neg c2])
    · rw [if_neg c]
      exact c27 _ _ _ _ (by rw [if_neg c]) (by rw [if_neg (by decide)])
theorem c_X_priceS {h : xH} (X : XEn h p f E) (hl : h.r 28 7 = p) (H : ∀ h', Fr [31, 32, 33] [(28, 11)] h h' → (∀ j, 0 ≤ j → j < 41 → PsI h' E j) → h'.i 28 11 = exV E → Q h') : xCv (d + 3) M_Scanner_priceSyllables [(1, 28)] h Q := by
  apply L_Scanner_priceSyllables
  exact c_ps_2 41 h 0 _ _ _ (by decide) (by decide) X hl (fun j j0 j1 => by omega) H
end XP
