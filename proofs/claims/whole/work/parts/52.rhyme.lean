/-! rhyme -/
def rhyV (ws vs : List Wd) : Int := if samF (endL (flat ws)) (endL (flat vs)) = true then 3 else if samF (vws (endL (flat ws))) (vws (endL (flat vs))) = true then 2 else eyeV (lastW ws) (lastW vs)
theorem flat_mem_en {ws : List Wd} (ok : LnOk ws) : ∀ q ∈ flat ws, enOk q.s := by
  intro q hq
  obtain ⟨i, hi, e⟩ := List.getElem_of_mem hq
  have z := (flat_en ok hi).1
  rw [List.getD_eq_getElem?_getD, List.getElem?_eq_getElem hi] at z
  have z : enOk ((flat ws)[i]).s := z
  rw [e] at z
  exact z
theorem end_ok {ws : List Wd} (ok : LnOk ws) : enOk (endL (flat ws)) ∧ (endL (flat ws)).length ≤ 640 := by
  have en := flat_mem_en ok
  have s16 := flat_s16 ok.2.2
  have o40 := ok.2.1
  have ea : enOk (eall (flat ws)) := by
    intro p hp
    unfold eall at hp
    obtain ⟨S, hS, hpS⟩ := List.mem_flatten.mp hp
    obtain ⟨q, hq, e⟩ := List.mem_map.mp hS
    rw [← e] at hpS
    exact en q (List.mem_of_mem_drop hq) p hpS
  have la : ∀ L : List FS, (∀ q ∈ L, q.s.length ≤ 16) → ((L.map FS.s).flatten).length ≤ 16 * L.length := by
    intro L
    induction L with
    | nil => intro _; exact Nat.le_refl _
    | cons q r ih =>
      intro h
      have a := h q List.mem_cons_self
      have b := ih (fun x hx => h x (List.mem_cons_of_mem _ hx))
      rw [List.map_cons, List.flatten_cons, List.length_append, List.length_cons]
      omega
  have l1 := la ((flat ws).drop (efst (flat ws))) (fun q hq => s16 q (List.mem_of_mem_drop hq))
  rw [List.length_drop] at l1
  have l2 : (eall (flat ws)).length ≤ 640 := by unfold eall; omega
  unfold endL
  split
  · exact ⟨ea, l2⟩
  · exact ⟨fun p hp => ea p ((List.dropWhile_sublist _).subset hp), Nat.le_trans (List.dropWhile_sublist _).length_le l2⟩
theorem XEnd_of {h : xH} {p : Int} {ws : List Wd} (B : SylB h p) (E : SylE h p) (EL : ELn (XV h p) ws) : XEnd h p (endL (flat ws)) := by
  obtain ⟨e1, e2, e3, e4⟩ := E
  have b1 := B.1
  refine ⟨B.2.2.1, by rw [e2]; omega, by rw [e2]; exact e3, EL.1, fun k hk => EL.2 k hk⟩
theorem c_X_lineAt {d : Nat} {h : xH} {Q : Int → xH → Prop} {a : Int} (SX_ : SX h) (H : Q (if 0 ≤ a ∧ a ≤ 11 then h.r 49 a else 0) h) : xCr (d + 1) M_Poem_lineAt [(1, 48), (0, a)] h Q := by
  apply L_Poem_lineAt
  refine x_if (fun c => by rw [if_neg (by omega)] at H; exact H) (fun c => x_if (fun c2 => ?_) (fun c2 => by rw [if_neg (by omega)] at H; exact H))
  rw [if_pos (by omega)] at H
  simp only [sxt SX_, sxl SX_, sxf SX_, true_and, and_true, false_and, and_false, forall_eq, forall_eq', xi_wi, xr_wi, xt_wi, xl_wi, xn_wi, xs_wi, xi_wr, xr_wr, xt_wr, xl_wr, xn_wr, xs_wr, if_true, if_false, and_self, Int.reduceEq, Int.reduceLT, Int.reduceLE, Int.reduceNeg, Int.le_refl, Int.reduceMod]
  exact ⟨⟨by omega, by omega⟩, H⟩
theorem c_R_hasLine {d : Nat} {h : xH} {Q : Int → xH → Prop} {a : Int} (S : SR h) (H : Q (if 0 ≤ a ∧ a ≤ 11 ∧ h.i 76 (a + 1) ≠ 0 then 1 else 0) h) : xCi (d + 2) M_R_hasLine [(1, 59), (0, a)] h Q := by
  apply L_R_hasLine
  by_cases c : 0 ≤ a ∧ a ≤ 11
  · refine c_R_in_t c ?_
    rw [if_neg (by decide), xw_id (by omega) (by omega)]
    simp only [srt S, srl S, srf S, true_and, and_true, false_and, and_false, forall_eq, forall_eq', xi_wi, xr_wi, xt_wi, xl_wi, xn_wi, xs_wi, xi_wr, xr_wr, xt_wr, xl_wr, xn_wr, xs_wr, if_true, if_false, and_self, Int.reduceEq, Int.reduceLT, Int.reduceLE, Int.reduceNeg, Int.le_refl, Int.reduceMod]
    refine ⟨⟨by omega, by omega⟩, x_if (fun c2 => ?_) (fun c2 => ?_)⟩
    · rw [if_neg (fun q => q.2.2 c2)] at H; exact H
    · rw [if_pos ⟨c.1, c.2, c2⟩] at H; exact H
  · refine c_R_in_f c ?_
    rw [if_pos rfl]
    rw [if_neg (fun q => c ⟨q.1, q.2.1⟩)] at H; exact H
/-- the class' rhyme of two lines that are there -/
theorem c_X_rhymeOf {d : Nat} {h : xH} {Q : Int → xH → Prop} {a b : Int} {ws vs : List Wd} (SX_ : SX h) (a0 : 0 ≤ a) (a1 : a ≤ 11) (b0 : 0 ≤ b) (b1 : b ≤ 11) (pa : h.r 49 a ≠ 0) (pb : h.r 49 b ≠ 0) (Ba : SylB h (h.r 49 a)) (Ea : SylE h (h.r 49 a)) (Bb : SylB h (h.r 49 b)) (Eb : SylE h (h.r 49 b)) (ok : LnOk ws) (w1 : 1 ≤ ws.length) (X : XLn (XV h (h.r 49 a)) ws) (EL : ELn (XV h (h.r 49 a)) ws) (okv : LnOk vs) (v1 : 1 ≤ vs.length) (Y : XLn (XV h (h.r 49 b)) vs) (EM : ELn (XV h (h.r 49 b)) vs) (H : Q (rhyV ws vs) h) : xCi (d + 4) M_Poem_rhymeOf [(1, 48), (0, a), (0, b)] h Q := by
  have tp := (sxt SX_).2.2.2.2.2.2.2.2.2.2.2.2.2.2.2.2.2.2.2.2.2.2.2.2.2.2.2.2.2.2.2.2.2.2.2.2.2.2.2.2.2.2.2.2.2.2.1
  have e1 := end_ok ok
  have e2 := end_ok okv
  have x1 := XEnd_of Ba Ea EL
  have x2 := XEnd_of Bb Eb EM
  unfold rhyV at H
  apply L_Poem_rhymeOf
  refine ⟨tp, c_X_lineAt SX_ ?_⟩
  refine ⟨tp, c_X_lineAt SX_ ?_⟩
  have ga : 0 ≤ a ∧ a ≤ 11 := ⟨a0, a1⟩
  have gb : 0 ≤ b ∧ b ≤ 11 := ⟨b0, b1⟩
  rw [if_pos ga, if_pos gb, if_neg pa, if_neg pb]
  refine ⟨Ba.2.2.1, c_X_fullRhyme x1 x2 e1.1 e2.1 (by omega) ?_⟩
  by_cases c : samF (endL (flat ws)) (endL (flat vs)) = true
  · rw [if_pos c] at H ⊢
    rw [if_neg (by decide)]
    exact H
  · rw [if_neg c] at H ⊢
    rw [if_pos rfl]
    refine ⟨Ba.2.2.1, c_X_halfRhyme x1 x2 e1.1 e2.1 (by omega) (by omega) ?_⟩
    by_cases c2 : samF (vws (endL (flat ws))) (vws (endL (flat vs))) = true
    · rw [if_pos c2] at H ⊢
      rw [if_neg (by decide)]
      exact H
    · rw [if_neg c2] at H ⊢
      rw [if_pos rfl]
      refine ⟨Ba.2.2.1, c_X_eyeRhyme ok w1 X (XSh_B Ba ok X) okv v1 Y (XSh_B Bb okv Y) ?_⟩
      refine x_if (fun c3 => by rw [c3] at H; exact H) (fun c3 => ?_)
      have e : eyeV (lastW ws) (lastW vs) = 1 := by
        unfold eyeV at c3 ⊢
        split <;> (try split) <;> (try split) <;> (try split) <;> simp_all
      rw [e] at H
      exact H
/-- the reference's -/
theorem c_R_rhyme {d : Nat} {h : xH} {Q : Int → xH → Prop} {a b : Int} {ws vs : List Wd} (S : SR h) (a0 : 0 ≤ a) (a1 : a ≤ 11) (b0 : 0 ≤ b) (b1 : b ≤ 11) (pa : h.i 76 (a + 1) ≠ 0) (pb : h.i 76 (b + 1) ≠ 0) (ok : LnOk ws) (w1 : 1 ≤ ws.length) (X : RLn (RV h (a + 1)) ws) (okv : LnOk vs) (v1 : 1 ≤ vs.length) (Y : RLn (RV h (b + 1)) vs) (H : ∀ h', Fr [114, 115, 116] [] h h' → Q (rhyV ws vs) h') : xCi (d + 3) M_R_rhyme [(1, 59), (0, a), (0, b)] h Q := by
  have e1 := end_ok ok
  have e2 := end_ok okv
  apply L_R_rhyme
  have ga : 0 ≤ a ∧ a ≤ 11 ∧ h.i 76 (a + 1) ≠ 0 := ⟨a0, a1, pa⟩
  have gb : 0 ≤ b ∧ b ≤ 11 ∧ h.i 76 (b + 1) ≠ 0 := ⟨b0, b1, pb⟩
  refine ⟨(srt S).1, c_R_hasLine S ?_⟩
  rw [if_pos ga, if_neg (by decide)]
  refine ⟨(srt S).1, c_R_hasLine S ?_⟩
  rw [if_pos gb, if_neg (by decide), xw_id (a := a + 1) (by omega) (by omega), xw_id (a := b + 1) (by omega) (by omega)]
  refine ⟨(srt S).1, c_R_ending S (by omega) (by omega) (Or.inl rfl) ok w1 X ?_⟩
  intro h1 F1 W1
  have S1 := SR_2 F1.1 S
  refine ⟨(srt S1).1, c_R_ending S1 (by omega) (by omega) (Or.inr rfl) okv v1 (by rw [RV_en F1]; exact Y) ?_⟩
  intro h2 F2 W2
  have S2 := SR_2 F2.1 S1
  have F := Fr_trans F1 F2
  have T : Two h2 (endL (flat ws)) (endL (flat vs)) := by
    obtain ⟨p1, p2, p3⟩ := W1
    obtain ⟨q1, q2, q3⟩ := W2
    refine ⟨?_, ?_, fun j hj => ?_, fun j hj => ?_, e1.2, e2.2⟩
    · rw [q1 0, if_neg (by decide)]
      simp only [true_and, and_true, false_and, and_false, forall_eq, forall_eq', xi_wi, xr_wi, xt_wi, xl_wi, xn_wi, xs_wi, xi_wr, xr_wr, xt_wr, xl_wr, xn_wr, xs_wr, if_true, if_false, and_self, Int.reduceEq, Int.reduceLT, Int.reduceLE, Int.reduceNeg, Int.le_refl, Int.reduceMod]
      rw [p1 0, if_pos rfl]
      omega
    · rw [q1 1, if_pos rfl]; omega
    · have y := q3 j (by omega)
      rw [y.1, y.2]
      simp only [true_and, and_true, false_and, and_false, forall_eq, forall_eq', xi_wi, xr_wi, xt_wi, xl_wi, xn_wi, xs_wi, xi_wr, xr_wr, xt_wr, xl_wr, xn_wr, xs_wr, if_true, if_false, and_self, Int.reduceEq, Int.reduceLT, Int.reduceLE, Int.reduceNeg, Int.le_refl, Int.reduceMod]
      have z := p2 j hj
      rw [show 640 * 0 + 0 + (j : Int) = (j : Int) by omega] at z
      exact z
    · have z := q2 j hj
      rw [show 640 * 1 + 0 + (j : Int) = 640 + (j : Int) by omega] at z
      exact z
  have H := H h2 F
  unfold rhyV at H
  refine ⟨(srt S2).1, c_R_sameEndings S2 T e1.1 e2.1 ?_⟩
  rw [show pick 0 (endL (flat ws)) = endL (flat ws) from rfl, show pick 0 (endL (flat vs)) = endL (flat vs) from rfl]
  by_cases c : samF (endL (flat ws)) (endL (flat vs)) = true
  · rw [if_pos c] at H ⊢
    rw [if_neg (by decide)]
    exact H
  · rw [if_neg c] at H ⊢
    rw [if_pos rfl]
    refine ⟨(srt S2).1, c_R_sameEndings S2 T e1.1 e2.1 ?_⟩
    rw [show pick 1 (endL (flat ws)) = vws (endL (flat ws)) from rfl, show pick 1 (endL (flat vs)) = vws (endL (flat vs)) from rfl]
    by_cases c2 : samF (vws (endL (flat ws))) (vws (endL (flat vs))) = true
    · rw [if_pos c2] at H ⊢
      rw [if_neg (by decide)]
      exact H
    · rw [if_neg c2] at H ⊢
      rw [if_pos rfl]
      refine ⟨(srt S2).1, c_R_sameLook S2 (by omega) (by omega) (by omega) (by omega) ok w1 (by rw [RV_en F]; exact X) okv v1 (by rw [RV_en F]; exact Y) ?_⟩
      refine x_if (fun c3 => by rw [c3] at H; exact H) (fun c3 => ?_)
      have e : eyeV (lastW ws) (lastW vs) = 1 := by
        unfold eyeV at c3 ⊢
        split <;> (try split) <;> (try split) <;> (try split) <;> simp_all
      rw [e] at H
      exact H
theorem j_rhyme (n : Nat) (hn : n < 512) (a b : Int) (ha : xrg a) (hb : xrg b) : JJ INV n M_X_rhyme M_R_rhyme [(0, a), (0, b)] := by
  refine jj_fr [114, 115, 116] [] (by decide) (fun h I => ?_)
  have S := I.2.1
  have SX_ := I.1
  have i12 := I.2.2.2.2.2.2.2.2.2.2.2.2.2.2.2.2.2.1
  have tp := (sxt SX_).2.2.2.2.2.2.2.2.2.2.2.2.2.2.2.2.2.2.2.2.2.2.2.2.2.2.2.2.2.2.2.2.2.2.2.2.2.2.2.2.2.2.2.2.2.2.1
  apply L_X_rhyme
  refine ⟨(sxt SX_).1, by simp only [sxt SX_, sxl SX_, sxf SX_, true_and, and_true, false_and, and_false, forall_eq, forall_eq', xi_wi, xr_wi, xt_wi, xl_wi, xn_wi, xs_wi, xi_wr, xr_wr, xt_wr, xl_wr, xn_wr, xs_wr, if_true, if_false, and_self, Int.reduceEq, Int.reduceLT, Int.reduceLE, Int.reduceNeg, Int.le_refl, Int.reduceMod], ?_⟩
  simp only [sxt SX_, sxl SX_, sxf SX_, true_and, and_true, false_and, and_false, forall_eq, forall_eq', xi_wi, xr_wi, xt_wi, xl_wi, xn_wi, xs_wi, xi_wr, xr_wr, xt_wr, xl_wr, xn_wr, xs_wr, if_true, if_false, and_self, Int.reduceEq, Int.reduceLT, Int.reduceLE, Int.reduceNeg, Int.le_refl, Int.reduceMod]
  -- a line that is not there
  have outa : (if 0 ≤ a ∧ a ≤ 11 then h.r 49 a else 0) = 0 → ¬ (0 ≤ a ∧ a ≤ 11 ∧ h.i 76 (a + 1) ≠ 0) := by
    intro e q
    have qa : 0 ≤ a ∧ a ≤ 11 := ⟨q.1, q.2.1⟩
    rw [if_pos qa] at e
    rcases i12.2 a q.1 (by omega) with z | z
    · exact q.2.2 z.2
    · exact z.1 e
  have outb : (if 0 ≤ b ∧ b ≤ 11 then h.r 49 b else 0) = 0 → ¬ (0 ≤ b ∧ b ≤ 11 ∧ h.i 76 (b + 1) ≠ 0) := by
    intro e q
    have qa : 0 ≤ b ∧ b ≤ 11 := ⟨q.1, q.2.1⟩
    rw [if_pos qa] at e
    rcases i12.2 b q.1 (by omega) with z | z
    · exact q.2.2 z.2
    · exact z.1 e
  have inn : ∀ c : Int, (if 0 ≤ c ∧ c ≤ 11 then h.r 49 c else 0) ≠ 0 → 0 ≤ c ∧ c ≤ 11 ∧ h.r 49 c ≠ 0 ∧ h.i 76 (c + 1) = 1 ∧ LineRel h (h.r 49 c) (c + 1) := by
    intro c e
    by_cases q : 0 ≤ c ∧ c ≤ 11
    · rw [if_pos q] at e
      rcases i12.2 c q.1 (by omega) with z | z
      · exact absurd z.1 e
      · exact ⟨q.1, q.2, z⟩
    · rw [if_neg q] at e
      exact absurd rfl e
  by_cases za : (if 0 ≤ a ∧ a ≤ 11 then h.r 49 a else 0) = 0
  · apply L_Poem_rhymeOf
    refine ⟨tp, c_X_lineAt SX_ ⟨tp, c_X_lineAt SX_ ?_⟩⟩
    rw [if_pos za]
    refine ⟨Fr_refl _ _ _, ?_⟩
    apply L_R_rhyme
    refine ⟨(srt S).1, c_R_hasLine S ?_⟩
    rw [if_neg (outa za), if_pos rfl]
    exact ⟨rfl, Fr_refl _ _ _, INV_mono I⟩
  by_cases zb : (if 0 ≤ b ∧ b ≤ 11 then h.r 49 b else 0) = 0
  · obtain ⟨a0, a1, a2, a3, a4⟩ := inn a za
    apply L_Poem_rhymeOf
    refine ⟨tp, c_X_lineAt SX_ ⟨tp, c_X_lineAt SX_ ?_⟩⟩
    rw [if_neg za, if_pos zb]
    refine ⟨Fr_refl _ _ _, ?_⟩
    apply L_R_rhyme
    have ga : 0 ≤ a ∧ a ≤ 11 ∧ h.i 76 (a + 1) ≠ 0 := ⟨a0, a1, by omega⟩
    refine ⟨(srt S).1, c_R_hasLine S ?_⟩
    rw [if_pos ga, if_neg (by decide)]
    refine ⟨(srt S).1, c_R_hasLine S ?_⟩
    rw [if_neg (outb zb), if_pos rfl]
    exact ⟨rfl, Fr_refl _ _ _, INV_mono I⟩
  obtain ⟨a0, a1, a2, a3, Ba, Ea, ws, ok, w1, X, R, EL⟩ := inn a za
  obtain ⟨b0, b1, b2, b3, Bb, Eb, vs, okv, v1, Y, R', EM⟩ := inn b zb
  refine c_X_rhymeOf SX_ a0 a1 b0 b1 a2 b2 Ba Ea Bb Eb ok w1 X EL okv v1 Y EM ?_
  refine ⟨Fr_refl _ _ _, ?_⟩
  refine c_R_rhyme S a0 a1 b0 b1 (by omega) (by omega) ok w1 R okv v1 R' ?_
  intro h' F
  exact ⟨rfl, F, INV_fr I F (by decide) (Or.inl (by decide)) (Or.inl (by decide)) (Or.inl (by decide)) (Or.inl (by decide)) (Or.inl (by decide)) (Or.inl (by decide)) (Or.inl (by decide)) (Or.inl (by decide)) (Or.inl (by decide)) (Or.inl (by decide)) (Or.inl (by decide)) (Or.inl (by decide)) (Or.inl (by decide)) (Or.inl (by decide)) (Or.inl (by decide))⟩
