/-! the reference's copies of lines; keep -/
theorem flatF_len : ∀ (ws : List Wd) (w : Int), (flatF w ws).length = (ws.map (fun d => d.2.2.length)).sum := by
  intro ws
  induction ws with
  | nil => intro w; rfl
  | cons d r ih => intro w; rw [flatF, List.length_append, fsyl_len, List.map_cons, List.sum_cons, ih]
theorem take_next {ws : List Wd} {w : Nat} (hw : w < ws.length) : ws.take w ++ [ws.getD w wd0] = ws.take (w + 1) := by
  rw [List.take_succ_eq_append_getElem hw, List.getD_eq_getElem?_getD, List.getElem?_eq_getElem hw]; rfl
theorem flat_take_le (ws : List Wd) (w : Nat) : (flat (ws.take w)).length ≤ (flat ws).length := by
  unfold flat
  rw [flatF_len, flatF_len]
  have e : (ws.map (fun d => d.2.2.length)).sum = ((ws.take w).map (fun d => d.2.2.length)).sum + ((ws.drop w).map (fun d => d.2.2.length)).sum := by
    rw [← List.sum_append, ← List.map_append, List.take_append_drop]
  omega
theorem c_copyLine_12 {d : Nat} {Q : xH → Prop} {l m : Int} {ws : List Wd} (l0 : 0 ≤ l) (l1 : l < 15) (m0 : 0 ≤ m) (m1 : m < 15) (hlm : l ≠ m) (ok : LnOk ws) : ∀ (n : Nat) (h : xH) (w : Nat), SR h → RLn (RV h m) ws → w + n = ws.length → RLn (RV h l) (ws.take w) → (∀ h', Fr [76, 77, 78, 79, 80, 81, 82, 83, 84, 85, 86, 87, 88] [] h h' → RLn (RV h' l) ws → (∀ k, k ≠ l → RV h' k = RV h k) → (∀ k, h'.i 76 k = if k = l then 1 else h.i 76 k) → Q h') → xT (d + 2) M_R_copyLine 12 [(1, 59), (0, l), (0, m), (0, (w : Int))] [] h (xqv Q) := by
  intro n
  induction n with
  | zero =>
    intro h w S R1 e R2 H
    have wm : h.i 77 m = (ws.length : Nat) := R1.2.1
    apply L_R_copyLine_12
    have F : Fr [76, 77, 78, 79, 80, 81, 82, 83, 84, 85, 86, 87, 88] [] h (h.wi 76 l 1) := Fr_cell (Fr_refl _ _ _) _ _ (by decide)
    have ev : ∀ k, RV (h.wi 76 l 1) k = RV h k := fun k => RV_row (by simp only [true_and, and_true, false_and, and_false, forall_eq, forall_eq', xi_wi, xr_wi, xt_wi, xl_wi, xn_wi, xs_wi, xi_wr, xr_wr, xt_wr, xl_wr, xn_wr, xs_wr, if_true, if_false, and_self, Int.reduceEq, Int.reduceLT, Int.reduceLE, Int.reduceNeg, Int.le_refl, Int.reduceMod]) (by simp only [true_and, and_true, false_and, and_false, forall_eq, forall_eq', xi_wi, xr_wi, xt_wi, xl_wi, xn_wi, xs_wi, xi_wr, xr_wr, xt_wr, xl_wr, xn_wr, xs_wr, if_true, if_false, and_self, Int.reduceEq, Int.reduceLT, Int.reduceLE, Int.reduceNeg, Int.le_refl, Int.reduceMod]) (fun _ _ _ => by simp only [true_and, and_true, false_and, and_false, forall_eq, forall_eq', xi_wi, xr_wi, xt_wi, xl_wi, xn_wi, xs_wi, xi_wr, xr_wr, xt_wr, xl_wr, xn_wr, xs_wr, if_true, if_false, and_self, Int.reduceEq, Int.reduceLT, Int.reduceLE, Int.reduceNeg, Int.le_refl, Int.reduceMod]) (fun _ _ _ => by simp only [true_and, and_true, false_and, and_false, forall_eq, forall_eq', xi_wi, xr_wi, xt_wi, xl_wi, xn_wi, xs_wi, xi_wr, xr_wr, xt_wr, xl_wr, xn_wr, xs_wr, if_true, if_false, and_self, Int.reduceEq, Int.reduceLT, Int.reduceLE, Int.reduceNeg, Int.le_refl, Int.reduceMod]) (fun _ _ _ => by simp only [true_and, and_true, false_and, and_false, forall_eq, forall_eq', xi_wi, xr_wi, xt_wi, xl_wi, xn_wi, xs_wi, xi_wr, xr_wr, xt_wr, xl_wr, xn_wr, xs_wr, if_true, if_false, and_self, Int.reduceEq, Int.reduceLT, Int.reduceLE, Int.reduceNeg, Int.le_refl, Int.reduceMod]) (fun _ _ _ => by simp only [true_and, and_true, false_and, and_false, forall_eq, forall_eq', xi_wi, xr_wi, xt_wi, xl_wi, xn_wi, xs_wi, xi_wr, xr_wr, xt_wr, xl_wr, xn_wr, xs_wr, if_true, if_false, and_self, Int.reduceEq, Int.reduceLT, Int.reduceLE, Int.reduceNeg, Int.le_refl, Int.reduceMod]) (fun _ _ _ => by simp only [true_and, and_true, false_and, and_false, forall_eq, forall_eq', xi_wi, xr_wi, xt_wi, xl_wi, xn_wi, xs_wi, xi_wr, xr_wr, xt_wr, xl_wr, xn_wr, xs_wr, if_true, if_false, and_self, Int.reduceEq, Int.reduceLT, Int.reduceLE, Int.reduceNeg, Int.le_refl, Int.reduceMod]) (fun _ _ _ => by simp only [true_and, and_true, false_and, and_false, forall_eq, forall_eq', xi_wi, xr_wi, xt_wi, xl_wi, xn_wi, xs_wi, xi_wr, xr_wr, xt_wr, xl_wr, xn_wr, xs_wr, if_true, if_false, and_self, Int.reduceEq, Int.reduceLT, Int.reduceLE, Int.reduceNeg, Int.le_refl, Int.reduceMod]) (fun _ _ _ => by simp only [true_and, and_true, false_and, and_false, forall_eq, forall_eq', xi_wi, xr_wi, xt_wi, xl_wi, xn_wi, xs_wi, xi_wr, xr_wr, xt_wr, xl_wr, xn_wr, xs_wr, if_true, if_false, and_self, Int.reduceEq, Int.reduceLT, Int.reduceLE, Int.reduceNeg, Int.le_refl, Int.reduceMod]) (fun _ _ _ => by simp only [true_and, and_true, false_and, and_false, forall_eq, forall_eq', xi_wi, xr_wi, xt_wi, xl_wi, xn_wi, xs_wi, xi_wr, xr_wr, xt_wr, xl_wr, xn_wr, xs_wr, if_true, if_false, and_self, Int.reduceEq, Int.reduceLT, Int.reduceLE, Int.reduceNeg, Int.le_refl, Int.reduceMod]) (fun _ _ _ => by simp only [true_and, and_true, false_and, and_false, forall_eq, forall_eq', xi_wi, xr_wi, xt_wi, xl_wi, xn_wi, xs_wi, xi_wr, xr_wr, xt_wr, xl_wr, xn_wr, xs_wr, if_true, if_false, and_self, Int.reduceEq, Int.reduceLT, Int.reduceLE, Int.reduceNeg, Int.le_refl, Int.reduceMod]) (fun _ _ _ => by simp only [true_and, and_true, false_and, and_false, forall_eq, forall_eq', xi_wi, xr_wi, xt_wi, xl_wi, xn_wi, xs_wi, xi_wr, xr_wr, xt_wr, xl_wr, xn_wr, xs_wr, if_true, if_false, and_self, Int.reduceEq, Int.reduceLT, Int.reduceLE, Int.reduceNeg, Int.le_refl, Int.reduceMod])
    have z := H _ F (by rw [ev]; rw [List.take_of_length_le (by omega)] at R2; exact R2) (fun k _ => ev k) (fun k => by simp only [true_and, and_true, false_and, and_false, forall_eq, forall_eq', xi_wi, xr_wi, xt_wi, xl_wi, xn_wi, xs_wi, xi_wr, xr_wr, xt_wr, xl_wr, xn_wr, xs_wr, if_true, if_false, and_self, Int.reduceEq, Int.reduceLT, Int.reduceLE, Int.reduceNeg, Int.le_refl, Int.reduceMod])
    simp only [srt S, srl S, srf S, wm, true_and, and_true, false_and, and_false, forall_eq, forall_eq', xi_wi, xr_wi, xt_wi, xl_wi, xn_wi, xs_wi, xi_wr, xr_wr, xt_wr, xl_wr, xn_wr, xs_wr, if_true, if_false, and_self, Int.reduceEq, Int.reduceLT, Int.reduceLE, Int.reduceNeg, Int.le_refl, Int.reduceMod]
    rw [if_neg (by omega)]
    exact ⟨⟨m0, m1⟩, ⟨l0, l1⟩, z⟩
  | succ n ih =>
    intro h w S R1 e R2 H
    have wm : h.i 77 m = (ws.length : Nat) := R1.2.1
    have hw : w < ws.length := by omega
    have o1 := ok.1
    apply L_R_copyLine_12
    rw [xw_id (a := (w : Int) + 1) (by omega) (by omega), show (w : Int) + 1 = ((w + 1 : Nat) : Int) by omega]
    simp only [srt S, srl S, srf S, wm, true_and, and_true, false_and, and_false, forall_eq, forall_eq', xi_wi, xr_wi, xt_wi, xl_wi, xn_wi, xs_wi, xi_wr, xr_wr, xt_wr, xl_wr, xn_wr, xs_wr, if_true, if_false, and_self, Int.reduceEq, Int.reduceLT, Int.reduceLE, Int.reduceNeg, Int.le_refl, Int.reduceMod]
    rw [if_pos (by omega)]
    have ef := take_next hw
    refine ⟨⟨m0, m1⟩, c_R_copyWord S l0 l1 m0 m1 hlm ok R1 (fun x hx => ok.2.2 x (List.mem_of_mem_take hx)) (by rw [List.length_take]; omega) R2 hw (by rw [ef]; exact Nat.le_trans (flat_take_le _ _) ok.2.1) ?_⟩
    intro h1 F1 R' rv1
    rw [ef] at R'
    refine ih h1 (w + 1) (SR_2 F1.1 S) (by rw [rv1 m (fun q => hlm q.symm)]; exact R1) (by omega) R' ?_
    intro h2 F2 R'' rv2 e76
    refine H h2 (Fr_trans (Fr_mono F1 (by decide) (by decide)) F2) R'' (fun k hk => (rv2 k hk).trans (rv1 k hk)) (fun k => ?_)
    rw [e76 k, Fr_row F1 (c := 76) (by decide) (by decide)]
theorem c_R_copyLine {d : Nat} {h : xH} {Q : xH → Prop} {l m : Int} {ws : List Wd} (S : SR h) (l0 : 0 ≤ l) (l1 : l < 15) (m0 : 0 ≤ m) (m1 : m < 15) (hlm : l ≠ m) (ok : LnOk ws) (R1 : RLn (RV h m) ws) (H : ∀ h', Fr [76, 77, 78, 79, 80, 81, 82, 83, 84, 85, 86, 87, 88] [] h h' → RLn (RV h' l) ws → (∀ k, k ≠ l → RV h' k = RV h k) → (∀ k, h'.i 76 k = if k = l then 1 else h.i 76 k) → Q h') : xCv (d + 3) M_R_copyLine [(1, 59), (0, l), (0, m)] h Q := by
  apply L_R_copyLine
  simp only [srt S, srl S, srf S, true_and, and_true, false_and, and_false, forall_eq, forall_eq', xi_wi, xr_wi, xt_wi, xl_wi, xn_wi, xs_wi, xi_wr, xr_wr, xt_wr, xl_wr, xn_wr, xs_wr, if_true, if_false, and_self, Int.reduceEq, Int.reduceLT, Int.reduceLE, Int.reduceNeg, Int.le_refl, Int.reduceMod]
  have rv0 : ∀ k, k ≠ l → RV ((h.wi 77 l 0).wi 81 l 0) k = RV h k := fun k hk => RV_row (by simp only [true_and, and_true, false_and, and_false, forall_eq, forall_eq', xi_wi, xr_wi, xt_wi, xl_wi, xn_wi, xs_wi, xi_wr, xr_wr, xt_wr, xl_wr, xn_wr, xs_wr, if_true, if_false, and_self, Int.reduceEq, Int.reduceLT, Int.reduceLE, Int.reduceNeg, Int.le_refl, Int.reduceMod]; rw [if_neg hk]) (by simp only [true_and, and_true, false_and, and_false, forall_eq, forall_eq', xi_wi, xr_wi, xt_wi, xl_wi, xn_wi, xs_wi, xi_wr, xr_wr, xt_wr, xl_wr, xn_wr, xs_wr, if_true, if_false, and_self, Int.reduceEq, Int.reduceLT, Int.reduceLE, Int.reduceNeg, Int.le_refl, Int.reduceMod]; rw [if_neg hk]) (fun _ _ _ => by simp only [true_and, and_true, false_and, and_false, forall_eq, forall_eq', xi_wi, xr_wi, xt_wi, xl_wi, xn_wi, xs_wi, xi_wr, xr_wr, xt_wr, xl_wr, xn_wr, xs_wr, if_true, if_false, and_self, Int.reduceEq, Int.reduceLT, Int.reduceLE, Int.reduceNeg, Int.le_refl, Int.reduceMod]) (fun _ _ _ => by simp only [true_and, and_true, false_and, and_false, forall_eq, forall_eq', xi_wi, xr_wi, xt_wi, xl_wi, xn_wi, xs_wi, xi_wr, xr_wr, xt_wr, xl_wr, xn_wr, xs_wr, if_true, if_false, and_self, Int.reduceEq, Int.reduceLT, Int.reduceLE, Int.reduceNeg, Int.le_refl, Int.reduceMod]) (fun _ _ _ => by simp only [true_and, and_true, false_and, and_false, forall_eq, forall_eq', xi_wi, xr_wi, xt_wi, xl_wi, xn_wi, xs_wi, xi_wr, xr_wr, xt_wr, xl_wr, xn_wr, xs_wr, if_true, if_false, and_self, Int.reduceEq, Int.reduceLT, Int.reduceLE, Int.reduceNeg, Int.le_refl, Int.reduceMod]) (fun _ _ _ => by simp only [true_and, and_true, false_and, and_false, forall_eq, forall_eq', xi_wi, xr_wi, xt_wi, xl_wi, xn_wi, xs_wi, xi_wr, xr_wr, xt_wr, xl_wr, xn_wr, xs_wr, if_true, if_false, and_self, Int.reduceEq, Int.reduceLT, Int.reduceLE, Int.reduceNeg, Int.le_refl, Int.reduceMod]) (fun _ _ _ => by simp only [true_and, and_true, false_and, and_false, forall_eq, forall_eq', xi_wi, xr_wi, xt_wi, xl_wi, xn_wi, xs_wi, xi_wr, xr_wr, xt_wr, xl_wr, xn_wr, xs_wr, if_true, if_false, and_self, Int.reduceEq, Int.reduceLT, Int.reduceLE, Int.reduceNeg, Int.le_refl, Int.reduceMod]) (fun _ _ _ => by simp only [true_and, and_true, false_and, and_false, forall_eq, forall_eq', xi_wi, xr_wi, xt_wi, xl_wi, xn_wi, xs_wi, xi_wr, xr_wr, xt_wr, xl_wr, xn_wr, xs_wr, if_true, if_false, and_self, Int.reduceEq, Int.reduceLT, Int.reduceLE, Int.reduceNeg, Int.le_refl, Int.reduceMod]) (fun _ _ _ => by simp only [true_and, and_true, false_and, and_false, forall_eq, forall_eq', xi_wi, xr_wi, xt_wi, xl_wi, xn_wi, xs_wi, xi_wr, xr_wr, xt_wr, xl_wr, xn_wr, xs_wr, if_true, if_false, and_self, Int.reduceEq, Int.reduceLT, Int.reduceLE, Int.reduceNeg, Int.le_refl, Int.reduceMod]) (fun _ _ _ => by simp only [true_and, and_true, false_and, and_false, forall_eq, forall_eq', xi_wi, xr_wi, xt_wi, xl_wi, xn_wi, xs_wi, xi_wr, xr_wr, xt_wr, xl_wr, xn_wr, xs_wr, if_true, if_false, and_self, Int.reduceEq, Int.reduceLT, Int.reduceLE, Int.reduceNeg, Int.le_refl, Int.reduceMod]) (fun _ _ _ => by simp only [true_and, and_true, false_and, and_false, forall_eq, forall_eq', xi_wi, xr_wi, xt_wi, xl_wi, xn_wi, xs_wi, xi_wr, xr_wr, xt_wr, xl_wr, xn_wr, xs_wr, if_true, if_false, and_self, Int.reduceEq, Int.reduceLT, Int.reduceLE, Int.reduceNeg, Int.le_refl, Int.reduceMod]) (fun _ _ _ => by simp only [true_and, and_true, false_and, and_false, forall_eq, forall_eq', xi_wi, xr_wi, xt_wi, xl_wi, xn_wi, xs_wi, xi_wr, xr_wr, xt_wr, xl_wr, xn_wr, xs_wr, if_true, if_false, and_self, Int.reduceEq, Int.reduceLT, Int.reduceLE, Int.reduceNeg, Int.le_refl, Int.reduceMod])
  have F0 : Fr [76, 77, 78, 79, 80, 81, 82, 83, 84, 85, 86, 87, 88] [] h ((h.wi 77 l 0).wi 81 l 0) := Fr_cell (Fr_cell (Fr_refl _ _ _) _ _ (by decide)) _ _ (by decide)
  refine ⟨⟨l0, l1⟩, ⟨l0, l1⟩, c_copyLine_12 l0 l1 m0 m1 hlm ok ws.length _ 0 (SR_2 (h := h) rfl S) (by rw [rv0 m (fun q => hlm q.symm)]; exact R1) (by omega) ?_ ?_⟩
  · refine ⟨?_, ?_, fun i hi => absurd hi (Nat.not_lt_zero _), fun i hi => absurd hi (Nat.not_lt_zero _)⟩
    · show ((h.wi 77 l 0).wi 81 l 0).i 81 l = 0
      simp only [true_and, and_true, false_and, and_false, forall_eq, forall_eq', xi_wi, xr_wi, xt_wi, xl_wi, xn_wi, xs_wi, xi_wr, xr_wr, xt_wr, xl_wr, xn_wr, xs_wr, if_true, if_false, and_self, Int.reduceEq, Int.reduceLT, Int.reduceLE, Int.reduceNeg, Int.le_refl, Int.reduceMod]
    · show ((h.wi 77 l 0).wi 81 l 0).i 77 l = 0
      simp only [true_and, and_true, false_and, and_false, forall_eq, forall_eq', xi_wi, xr_wi, xt_wi, xl_wi, xn_wi, xs_wi, xi_wr, xr_wr, xt_wr, xl_wr, xn_wr, xs_wr, if_true, if_false, and_self, Int.reduceEq, Int.reduceLT, Int.reduceLE, Int.reduceNeg, Int.le_refl, Int.reduceMod]
  · intro h' F R' rv e
    refine H h' (Fr_trans F0 F) R' (fun k hk => (rv k hk).trans (rv0 k hk)) (fun k => ?_)
    rw [e k]
    simp only [true_and, and_true, false_and, and_false, forall_eq, forall_eq', xi_wi, xr_wi, xt_wi, xl_wi, xn_wi, xs_wi, xi_wr, xr_wr, xt_wr, xl_wr, xn_wr, xs_wr, if_true, if_false, and_self, Int.reduceEq, Int.reduceLT, Int.reduceLE, Int.reduceNeg, Int.le_refl, Int.reduceMod]
theorem LineX_fa {l lR : List Int} {l2 lr : List (Int × Int)} {h h' : xH} (F : FA l l2 lR lr h h') (w : low l l2 lR lr = true) (hT : Tok h h') {p : Int} (s1 : SylB h p) (s2 : SylE h p) : SylB h' p ∧ SylE h' p ∧ XV h' p = XV h p := by
  have r := SylB_rows F w s1
  have n := F.1
  have s1' := SylB_fa F w hT s1
  unfold SylE at s2
  obtain ⟨c1, c2, c3, c4⟩ := s2
  have z := c4
  unfold aprt at z
  have hp : 130 ≤ p := s1.1
  have b7 := fa_dyn F w (c := p + 7) (by omega) (by omega) (by omega)
  have s2' : SylE h' p := by
    unfold SylE
    rw [r.2.1, b7.2.2.1]
    exact ⟨by omega, c2, c3, aprt_fa hT c1 c4⟩
  refine ⟨s1', s2', ?_⟩
  have q := s1
  unfold SylB at q
  obtain ⟨a1, a2, a3, a4, a5, a6, a7, a8, a9⟩ := q
  funext f j
  match f with
  | 0 => show h'.i p _ = h.i p _; rw [r.1]
  | 1 => show h'.i (h'.r p _) _ = h.i (h.r p _) _; rw [r.2.1, a4, r.2.2.1]
  | 2 => show h'.i (h'.r p _) _ = h.i (h.r p _) _; rw [r.2.1, a5, r.2.2.2.1]
  | 3 => show h'.i (h'.r p _) _ = h.i (h.r p _) _; rw [r.2.1, a6, r.2.2.2.2.1]
  | 4 => show h'.i (h'.r p _) _ = h.i (h.r p _) _; rw [r.2.1, a7, r.2.2.2.2.2.1]
  | 5 => show h'.i (h'.r p _) _ = h.i (h.r p _) _; rw [r.2.1, a8, r.2.2.2.2.2.2.1]
  | 6 => show h'.i (h'.r p _) _ = h.i (h.r p _) _; rw [r.2.1, c2, b7.1]
  | _ + 7 => show h'.len (h'.r p _) = h.len (h.r p _); rw [r.2.1, c2, b7.2.2.2]
