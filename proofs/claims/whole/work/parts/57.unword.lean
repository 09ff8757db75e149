/-! unword: what both sides write -/
section UW
variable {d : Nat}
theorem c_unw_49 {Q : Int → xH → Prop} {w b : Int} (w0 : 0 ≤ w) (w1 : w < 40) (b0 : 0 ≤ b) (b1 : b < 40) : ∀ (n : Nat) (h : xH) (k : Int) (u1 : xV), SR h → h.i 59 16 = b → 0 ≤ k → k + n = 16 → (∀ h', Fr [68, 71, 72] [] h h' → (w ≠ b → ∀ j, k ≤ j → j < 16 → h'.i 68 (16 * w + j) = xw8 (h.i 68 (16 * b + j)) ∧ h'.i 71 (16 * w + j) = h.i 71 (16 * b + j) ∧ h'.i 72 (16 * w + j) = h.i 72 (16 * b + j)) → (∀ j, (j < 16 * w + k ∨ 16 * w + 16 ≤ j) → h'.i 68 j = h.i 68 j ∧ h'.i 71 j = h.i 71 j ∧ h'.i 72 j = h.i 72 j) → Q b h') → xT d M_R_unword 49 [(1, 59), u1, (0, w), (0, k)] [] h (xqi Q) := by
  intro n
  induction n with
  | zero =>
    intro h k u1 S hb k0 kn H
    apply L_R_unword_49
    rw [if_neg (by omega), hb]
    exact ⟨(srt S).1, H h (Fr_refl _ _ _) (fun _ j j0 j1 => by omega) (fun _ _ => ⟨rfl, rfl, rfl⟩)⟩
  | succ n ih =>
    intro h k u1 S hb k0 kn H
    apply L_R_unword_49
    rw [if_pos (by omega), xw_id (a := k + 1) (by omega) (by omega)]
    simp only [srt S, srl S, srf S, hb, true_and, and_true, false_and, and_false, forall_eq, forall_eq', xi_wi, xr_wi, xt_wi, xl_wi, xn_wi, xs_wi, xi_wr, xr_wr, xt_wr, xl_wr, xn_wr, xs_wr, if_true, if_false, and_self, Int.reduceEq, Int.reduceLT, Int.reduceLE, Int.reduceNeg, Int.le_refl, Int.reduceMod]
    rw [xw_id (a := 16 * b) (by omega) (by omega), xw_id (a := 16 * b + k) (by omega) (by omega), xw_id (a := 16 * w) (by omega) (by omega), xw_id (a := 16 * w + k) (by omega) (by omega)]
    have gb : (0 : Int) ≤ 16 * b + k ∧ 16 * b + k < 640 := by omega
    have gw : (0 : Int) ≤ 16 * w + k ∧ 16 * w + k < 640 := by omega
    refine ⟨gb, gw, gb, gw, gb, gw, ?_⟩
    have F0 : Fr [68, 71, 72] [] h (((h.wi 68 (16 * w + k) (xw8 (h.i 68 (16 * b + k)))).wi 71 (16 * w + k) (h.i 71 (16 * b + k))).wi 72 (16 * w + k) (h.i 72 (16 * b + k))) := Fr_cell (Fr_cell (Fr_cell (Fr_refl _ _ _) _ _ (by decide)) _ _ (by decide)) _ _ (by decide)
    refine ih _ (k + 1) u1 (SR_2 (h := h) rfl S) (by simp only [true_and, and_true, false_and, and_false, forall_eq, forall_eq', xi_wi, xr_wi, xt_wi, xl_wi, xn_wi, xs_wi, xi_wr, xr_wr, xt_wr, xl_wr, xn_wr, xs_wr, if_true, if_false, and_self, Int.reduceEq, Int.reduceLT, Int.reduceLE, Int.reduceNeg, Int.le_refl, Int.reduceMod]; exact hb) (by omega) (by omega) ?_
    intro h' F q1 q2
    refine H h' (Fr_trans F0 F) (fun ne j j0 j1 => ?_) (fun j hj => ?_)
    · by_cases c : j = k
      · have y := q2 (16 * w + j) (by omega)
        rw [y.1, y.2.1, y.2.2, c]
        simp only [true_and, and_true, false_and, and_false, forall_eq, forall_eq', xi_wi, xr_wi, xt_wi, xl_wi, xn_wi, xs_wi, xi_wr, xr_wr, xt_wr, xl_wr, xn_wr, xs_wr, if_true, if_false, and_self, Int.reduceEq, Int.reduceLT, Int.reduceLE, Int.reduceNeg, Int.le_refl, Int.reduceMod]
      · have y := q1 ne j (by omega) j1
        rw [y.1, y.2.1, y.2.2]
        simp only [true_and, and_true, false_and, and_false, forall_eq, forall_eq', xi_wi, xr_wi, xt_wi, xl_wi, xn_wi, xs_wi, xi_wr, xr_wr, xt_wr, xl_wr, xn_wr, xs_wr, if_true, if_false, and_self, Int.reduceEq, Int.reduceLT, Int.reduceLE, Int.reduceNeg, Int.le_refl, Int.reduceMod]
        rw [if_neg (by omega), if_neg (by omega), if_neg (by omega)]
        exact ⟨rfl, rfl, rfl⟩
    · have y := q2 j (by omega)
      rw [y.1, y.2.1, y.2.2]
      simp only [true_and, and_true, false_and, and_false, forall_eq, forall_eq', xi_wi, xr_wi, xt_wi, xl_wi, xn_wi, xs_wi, xi_wr, xr_wr, xt_wr, xl_wr, xn_wr, xs_wr, if_true, if_false, and_self, Int.reduceEq, Int.reduceLT, Int.reduceLE, Int.reduceNeg, Int.le_refl, Int.reduceMod]
      rw [if_neg (by omega), if_neg (by omega), if_neg (by omega)]
      exact ⟨rfl, rfl, rfl⟩
/-- the reference takes word w out: the last one goes to its place -/
theorem c_R_unword_17 {h : xH} {Q : Int → xH → Prop} {w b : Int} {u1 u2 u3 : xV} (S : SR h) (hb : h.i 59 16 = b + 1) (w0 : 0 ≤ w) (w1 : w ≤ b) (b1 : b < 40) (H : ∀ h', Fr [68, 71, 72, 69, 70] [(59, 16)] h h' → h'.i 59 16 = b → (∀ v, 0 ≤ v → v < b → h'.i 69 v = h.i 69 (if v = w then b else v) ∧ h'.i 70 v = h.i 70 (if v = w then b else v) ∧ ∀ j, 0 ≤ j → j < 16 → h'.i 68 (16 * v + j) = (if v = w then xw8 (h.i 68 (16 * b + j)) else h.i 68 (16 * v + j)) ∧ h'.i 71 (16 * v + j) = h.i 71 (16 * (if v = w then b else v) + j) ∧ h'.i 72 (16 * v + j) = h.i 72 (16 * (if v = w then b else v) + j)) → Q b h') : xT d M_R_unword 17 [(1, 59), u1, u2, u3] [(0, w)] h (xqi Q) := by
  apply L_R_unword_17
  rw [if_neg (by omega)]
  have e : xw (b + 1 - 1) = b := by rw [xw_id (by omega) (by omega)]; omega
  simp only [srt S, srl S, srf S, hb, e, true_and, and_true, false_and, and_false, forall_eq, forall_eq', xi_wi, xr_wi, xt_wi, xl_wi, xn_wi, xs_wi, xi_wr, xr_wr, xt_wr, xl_wr, xn_wr, xs_wr, if_true, if_false, and_self, Int.reduceEq, Int.reduceLT, Int.reduceLE, Int.reduceNeg, Int.le_refl, Int.reduceMod]
  clear e
  have gb : (0 : Int) ≤ b ∧ b < 40 := by omega
  have gw : (0 : Int) ≤ w ∧ w < 40 := by omega
  refine ⟨gb, gw, gb, gw, ?_⟩
  have F0 : Fr [68, 71, 72, 69, 70] [(59, 16)] h (((h.wi 59 16 b).wi 69 w (h.i 69 b)).wi 70 w (h.i 70 b)) := Fr_cell (Fr_cell (Fr_slot (Fr_refl _ _ _) _ (by decide)) _ _ (by decide)) _ _ (by decide)
  refine c_unw_49 gw.1 gw.2 gb.1 gb.2 16 _ 0 _ (SR_2 (h := h) rfl S) (by simp only [true_and, and_true, false_and, and_false, forall_eq, forall_eq', xi_wi, xr_wi, xt_wi, xl_wi, xn_wi, xs_wi, xi_wr, xr_wr, xt_wr, xl_wr, xn_wr, xs_wr, if_true, if_false, and_self, Int.reduceEq, Int.reduceLT, Int.reduceLE, Int.reduceNeg, Int.le_refl, Int.reduceMod]) (by omega) (by omega) ?_
  intro h' F q1 q2
  have r59 : h'.i 59 = (((h.wi 59 16 b).wi 69 w (h.i 69 b)).wi 70 w (h.i 70 b)).i 59 := Fr_row F (by decide) (by decide)
  have r69 : h'.i 69 = (((h.wi 59 16 b).wi 69 w (h.i 69 b)).wi 70 w (h.i 70 b)).i 69 := Fr_row F (by decide) (by decide)
  have r70 : h'.i 70 = (((h.wi 59 16 b).wi 69 w (h.i 69 b)).wi 70 w (h.i 70 b)).i 70 := Fr_row F (by decide) (by decide)
  refine H h' (Fr_trans F0 (Fr_mono F (by decide) (by decide))) (by rw [r59]; simp only [true_and, and_true, false_and, and_false, forall_eq, forall_eq', xi_wi, xr_wi, xt_wi, xl_wi, xn_wi, xs_wi, xi_wr, xr_wr, xt_wr, xl_wr, xn_wr, xs_wr, if_true, if_false, and_self, Int.reduceEq, Int.reduceLT, Int.reduceLE, Int.reduceNeg, Int.le_refl, Int.reduceMod]) (fun v v0 v1 => ?_)
  rw [r69, r70]
  by_cases c : v = w
  · subst c
    rw [if_pos rfl]
    refine ⟨by simp only [true_and, and_true, false_and, and_false, forall_eq, forall_eq', xi_wi, xr_wi, xt_wi, xl_wi, xn_wi, xs_wi, xi_wr, xr_wr, xt_wr, xl_wr, xn_wr, xs_wr, if_true, if_false, and_self, Int.reduceEq, Int.reduceLT, Int.reduceLE, Int.reduceNeg, Int.le_refl, Int.reduceMod], by simp only [true_and, and_true, false_and, and_false, forall_eq, forall_eq', xi_wi, xr_wi, xt_wi, xl_wi, xn_wi, xs_wi, xi_wr, xr_wr, xt_wr, xl_wr, xn_wr, xs_wr, if_true, if_false, and_self, Int.reduceEq, Int.reduceLT, Int.reduceLE, Int.reduceNeg, Int.le_refl, Int.reduceMod], fun j j0 j1 => ?_⟩
    have y := q1 (by omega) j j0 j1
    rw [y.1, y.2.1, y.2.2, if_pos rfl]
    simp only [true_and, and_true, false_and, and_false, forall_eq, forall_eq', xi_wi, xr_wi, xt_wi, xl_wi, xn_wi, xs_wi, xi_wr, xr_wr, xt_wr, xl_wr, xn_wr, xs_wr, if_true, if_false, and_self, Int.reduceEq, Int.reduceLT, Int.reduceLE, Int.reduceNeg, Int.le_refl, Int.reduceMod]
  · rw [if_neg c]
    refine ⟨by simp only [true_and, and_true, false_and, and_false, forall_eq, forall_eq', xi_wi, xr_wi, xt_wi, xl_wi, xn_wi, xs_wi, xi_wr, xr_wr, xt_wr, xl_wr, xn_wr, xs_wr, if_true, if_false, and_self, Int.reduceEq, Int.reduceLT, Int.reduceLE, Int.reduceNeg, Int.le_refl, Int.reduceMod]; rw [if_neg c], by simp only [true_and, and_true, false_and, and_false, forall_eq, forall_eq', xi_wi, xr_wi, xt_wi, xl_wi, xn_wi, xs_wi, xi_wr, xr_wr, xt_wr, xl_wr, xn_wr, xs_wr, if_true, if_false, and_self, Int.reduceEq, Int.reduceLT, Int.reduceLE, Int.reduceNeg, Int.le_refl, Int.reduceMod]; rw [if_neg c], fun j j0 j1 => ?_⟩
    have y := q2 (16 * v + j) (by omega)
    rw [y.1, y.2.1, y.2.2, if_neg c]
    simp only [true_and, and_true, false_and, and_false, forall_eq, forall_eq', xi_wi, xr_wi, xt_wi, xl_wi, xn_wi, xs_wi, xi_wr, xr_wr, xt_wr, xl_wr, xn_wr, xs_wr, if_true, if_false, and_self, Int.reduceEq, Int.reduceLT, Int.reduceLE, Int.reduceNeg, Int.le_refl, Int.reduceMod]
/-- the class' entries move up by one behind the place -/
theorem c_X_forget_17 {Q : Int → xH → Prop} {sz : Int} (s40 : sz ≤ 40) : ∀ (n : Nat) (h : xH) (a : Int) (u1 u2 u3 : xV), SX h → h.i 7 2 = sz → 0 ≤ a → a + 1 + n = sz → (∀ j, 0 ≤ j → j < sz → h.r 8 j ≠ 0 ∧ h.tag (h.r 8 j) = 9) → (∀ h', SX h' → h'.tag = h.tag → h'.len = h.len → h'.nx = h.nx → h'.us = h.us → (∀ c k, ¬ (c = 7 ∧ k = 2) → h'.i c k = h.i c k) → h'.i 7 2 = sz - 1 → (∀ c k, c ≠ 8 → h'.r c k = h.r c k) → (∀ j, 0 ≤ j → j < sz - 1 → h'.r 8 j = if j < a then h.r 8 j else h.r 8 (j + 1)) → Q (sz - 1) h') → xT d M_Book_forgetWord 17 [(1, 7), u1, u2, u3, (0, a)] [] h (xqi Q) := by
  intro n
  induction n with
  | zero =>
    intro h a u1 u2 u3 SX_ hs a0 an tg H
    apply L_Book_forgetWord_17
    rw [xw_id (a := a + 1) (by omega) (by omega)]
    simp only [sxt SX_, sxl SX_, sxf SX_, hs, true_and, and_true, false_and, and_false, forall_eq, forall_eq', xi_wi, xr_wi, xt_wi, xl_wi, xn_wi, xs_wi, xi_wr, xr_wr, xt_wr, xl_wr, xn_wr, xs_wr, if_true, if_false, and_self, Int.reduceEq, Int.reduceLT, Int.reduceLE, Int.reduceNeg, Int.le_refl, Int.reduceMod]
    rw [if_neg (by omega), xw_id (a := sz - 1) (by omega) (by omega)]
    refine ⟨⟨by omega, by omega⟩, H _ (SX_wr8 (h := h.wi 7 2 (sz - 1)) (SX_2 (h := h) rfl SX_)) rfl rfl rfl rfl (fun c k hc => ?_) (by simp only [true_and, and_true, false_and, and_false, forall_eq, forall_eq', xi_wi, xr_wi, xt_wi, xl_wi, xn_wi, xs_wi, xi_wr, xr_wr, xt_wr, xl_wr, xn_wr, xs_wr, if_true, if_false, and_self, Int.reduceEq, Int.reduceLT, Int.reduceLE, Int.reduceNeg, Int.le_refl, Int.reduceMod]) (fun c k hc => ?_) (fun j j0 j1 => ?_)⟩
    · simp only [true_and, and_true, false_and, and_false, forall_eq, forall_eq', xi_wi, xr_wi, xt_wi, xl_wi, xn_wi, xs_wi, xi_wr, xr_wr, xt_wr, xl_wr, xn_wr, xs_wr, if_true, if_false, and_self, Int.reduceEq, Int.reduceLT, Int.reduceLE, Int.reduceNeg, Int.le_refl, Int.reduceMod]
      rw [if_neg hc]
    · simp only [true_and, and_true, false_and, and_false, forall_eq, forall_eq', xi_wi, xr_wi, xt_wi, xl_wi, xn_wi, xs_wi, xi_wr, xr_wr, xt_wr, xl_wr, xn_wr, xs_wr, if_true, if_false, and_self, Int.reduceEq, Int.reduceLT, Int.reduceLE, Int.reduceNeg, Int.le_refl, Int.reduceMod]
      rw [if_neg (fun q => hc q.1)]
    · simp only [true_and, and_true, false_and, and_false, forall_eq, forall_eq', xi_wi, xr_wi, xt_wi, xl_wi, xn_wi, xs_wi, xi_wr, xr_wr, xt_wr, xl_wr, xn_wr, xs_wr, if_true, if_false, and_self, Int.reduceEq, Int.reduceLT, Int.reduceLE, Int.reduceNeg, Int.le_refl, Int.reduceMod]
      rw [if_neg (by omega), if_pos (by omega)]
  | succ n ih =>
    intro h a u1 u2 u3 SX_ hs a0 an tg H
    apply L_Book_forgetWord_17
    rw [xw_id (a := a + 1) (by omega) (by omega)]
    simp only [sxt SX_, sxl SX_, sxf SX_, hs, true_and, and_true, false_and, and_false, forall_eq, forall_eq', xi_wi, xr_wi, xt_wi, xl_wi, xn_wi, xs_wi, xi_wr, xr_wr, xt_wr, xl_wr, xn_wr, xs_wr, if_true, if_false, and_self, Int.reduceEq, Int.reduceLT, Int.reduceLE, Int.reduceNeg, Int.le_refl, Int.reduceMod]
    rw [if_pos (by omega)]
    have t1 := tg (a + 1) (by omega) (by omega)
    refine ⟨⟨by omega, by omega⟩, ⟨a0, by omega, Or.inr t1.2⟩, ?_⟩
    refine ih (h.wr 8 a (h.r 8 (a + 1))) (a + 1) u1 u2 (xkl u3) (SX_wr8 SX_) (by simp only [true_and, and_true, false_and, and_false, forall_eq, forall_eq', xi_wi, xr_wi, xt_wi, xl_wi, xn_wi, xs_wi, xi_wr, xr_wr, xt_wr, xl_wr, xn_wr, xs_wr, if_true, if_false, and_self, Int.reduceEq, Int.reduceLT, Int.reduceLE, Int.reduceNeg, Int.le_refl, Int.reduceMod]; exact hs) (by omega) (by omega) (fun j j0 j1 => ?_) ?_
    · have tj := tg j j0 j1
      simp only [true_and, and_true, false_and, and_false, forall_eq, forall_eq', xi_wi, xr_wi, xt_wi, xl_wi, xn_wi, xs_wi, xi_wr, xr_wr, xt_wr, xl_wr, xn_wr, xs_wr, if_true, if_false, and_self, Int.reduceEq, Int.reduceLT, Int.reduceLE, Int.reduceNeg, Int.le_refl, Int.reduceMod]
      by_cases c : j = a
      · rw [if_pos c]; exact t1
      · rw [if_neg c]; exact tj
    · intro h' q1 q2 q3 q4 q5 q6 q7 q8 q9
      refine H h' q1 q2 q3 q4 q5 q6 q7 (fun c k hc => ?_) (fun j j0 j1 => ?_)
      · rw [q8 c k hc]
        simp only [true_and, and_true, false_and, and_false, forall_eq, forall_eq', xi_wi, xr_wi, xt_wi, xl_wi, xn_wi, xs_wi, xi_wr, xr_wr, xt_wr, xl_wr, xn_wr, xs_wr, if_true, if_false, and_self, Int.reduceEq, Int.reduceLT, Int.reduceLE, Int.reduceNeg, Int.le_refl, Int.reduceMod]
        rw [if_neg (fun q => hc q.1)]
      · rw [q9 j j0 j1]
        simp only [true_and, and_true, false_and, and_false, forall_eq, forall_eq', xi_wi, xr_wi, xt_wi, xl_wi, xn_wi, xs_wi, xi_wr, xr_wr, xt_wr, xl_wr, xn_wr, xs_wr, if_true, if_false, and_self, Int.reduceEq, Int.reduceLT, Int.reduceLE, Int.reduceNeg, Int.le_refl, Int.reduceMod]
        by_cases c : j < a
        · rw [if_pos (by omega), if_pos c, if_neg (by omega)]
        · rw [if_neg c]
          by_cases c2 : j = a
          · rw [if_pos (by omega), if_pos c2, c2]
          · rw [if_neg (by omega), if_neg (by omega)]
end UW
