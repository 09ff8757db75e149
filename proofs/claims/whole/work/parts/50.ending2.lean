/-! the reference's endings: the whole ending -/
theorem outp_len (b : Bool) (S : List (Int × Int)) : (outp b S).length ≤ S.length := by
  unfold outp
  split
  · exact Nat.le_refl _
  · exact (List.dropWhile_sublist _).length_le
theorem enW_app {h h1 h2 : xH} {o m : Int} {A B : List (Int × Int)} (m0 : 0 ≤ m) (hm : m + (A.length : Nat) ≤ 640) (W : enW h h1 o m A) (V : enW h1 h2 o (m + (A.length : Nat)) B) : enW h h2 o m (A ++ B) := by
  obtain ⟨w1, w2, w3⟩ := W
  obtain ⟨v1, v2, v3⟩ := V
  refine ⟨fun j => ?_, fun j hj => ?_, fun j hj => ?_⟩
  · rw [v1 j, w1 j, List.length_append]
    by_cases c : j = o
    · rw [if_pos c, if_pos c]; push_cast; omega
    · rw [if_neg c, if_neg c, if_neg c]
  · rw [List.length_append] at hj
    by_cases c : j < A.length
    · have y := v3 (640 * o + m + j) (by omega)
      rw [y.1, y.2, getD_app_l _ c]
      exact w2 j c
    · have y := v2 (j - A.length) (by omega)
      rw [getD_app_r _ (by omega), show 640 * o + m + (j : Int) = 640 * o + (m + ((A.length : Nat) : Int)) + ((j - A.length : Nat) : Int) by omega]
      exact y
  · have y := v3 j (by omega)
    have z := w3 j (by omega)
    rw [y.1, y.2]; exact z
theorem vbits_zero : ∀ S : List (Int × Int), enOk S → (vbits S = 0 ↔ S.all (fun p => decide (p.2 = 0)) = true) := by
  intro S
  induction S with
  | nil => intro _; exact ⟨fun _ => rfl, fun _ => rfl⟩
  | cons p r ih =>
    intro ok
    have okr : enOk r := fun x hx => ok x (List.mem_cons_of_mem _ hx)
    have v := (ok p List.mem_cons_self).1
    have vr := (vbits_rg r okr).1
    have z := ih okr
    rw [vbits, List.all_cons, Bool.and_eq_true, decide_eq_true_eq, ← z]
    omega
theorem RV_en {h h' : xH} (F : Fr [114, 115, 116] [] h h') (k : Int) : RV h' k = RV h k := by
  have r := fun (c : Int) (hc : c ∉ [114, 115, 116]) => Fr_row F (c := c) hc (by intro p hp; exact absurd hp List.not_mem_nil)
  exact RV_row (by rw [r 77 (by decide)]) (by rw [r 81 (by decide)]) (fun _ _ _ => by rw [r 82 (by decide)]) (fun _ _ _ => by rw [r 83 (by decide)]) (fun _ _ _ => by rw [r 84 (by decide)]) (fun _ _ _ => by rw [r 85 (by decide)]) (fun _ _ _ => by rw [r 87 (by decide)]) (fun _ _ _ => by rw [r 88 (by decide)]) (fun _ _ _ => by rw [r 86 (by decide)]) (fun _ _ _ => by rw [r 79 (by decide)]) (fun _ _ _ => by rw [r 80 (by decide)]) (fun _ _ _ => by rw [r 78 (by decide)])
theorem flat_en {ws : List Wd} (ok : LnOk ws) {i : Nat} (hi : i < (flat ws).length) : enOk ((flat ws).getD i fs0).s ∧ 1 ≤ ((flat ws).getD i fs0).s.length ∧ ((flat ws).getD i fs0).s.length ≤ 16 := by
  obtain ⟨j, -, -, -, -, -, so, -⟩ := flat_get ok hi
  exact ⟨so.2.2.2.2.2, so.2.2.2.1, so.2.2.2.2.1⟩
section EN
variable {d : Nat} {Q : xH → Prop} {l o : Int} {ws : List Wd}
theorem c_end_48 (l0 : 0 ≤ l) (l1 : l < 15) (o0 : o = 0 ∨ o = 1) (ok : LnOk ws) : ∀ (n : Nat) (h : xH) (y : Nat) (b : Bool) (m : Int) (u5 u6 u7 : xV), SR h → RLn (RV h l) ws → y + n = (flat ws).length → h.i 116 o = m → 0 ≤ m → m + 16 * n ≤ 640 → (∀ h', Fr [114, 115, 116] [] h h' → enW h h' o m (outp b (((flat ws).drop y).map FS.s).flatten) → Q h') → xT d M_R_ending 48 [(1, 59), (0, l), (0, o), (0, (y : Int)), (0, b2i b), u5, u6, u7] [] h (xqv Q) := by
  intro n
  induction n with
  | zero =>
    intro h y b m u5 u6 u7 S R e z4 m0 m1 H
    have ed : (flat ws).drop y = [] := List.drop_of_length_le (by omega)
    have eo : outp b ([] : List (Int × Int)) = [] := by cases b <;> rfl
    have ym : h.i 81 l = ((flat ws).length : Nat) := R.1
    rw [ed] at H
    have z := H h (Fr_refl _ _ _) (by
      rw [List.map_nil, List.flatten_nil, eo]
      refine ⟨fun j => ?_, fun j hj => absurd hj (Nat.not_lt_zero _), fun j _ => ⟨rfl, rfl⟩⟩
      by_cases c : j = o
      · rw [if_pos c, c, z4]; exact (Int.add_zero m).symm
      · rw [if_neg c])
    apply L_R_ending_48
    simp only [srt S, srl S, srf S, ym, true_and, and_true, false_and, and_false, forall_eq, forall_eq', xi_wi, xr_wi, xt_wi, xl_wi, xn_wi, xs_wi, xi_wr, xr_wr, xt_wr, xl_wr, xn_wr, xs_wr, if_true, if_false, and_self, Int.reduceEq, Int.reduceLT, Int.reduceLE, Int.reduceNeg, Int.le_refl, Int.reduceMod]
    rw [if_neg (by omega)]
    exact ⟨⟨l0, l1⟩, z⟩
  | succ n ih =>
    intro h y b m u5 u6 u7 S R e z4 m0 m1 H
    have hy : y < (flat ws).length := by omega
    have ym : h.i 81 l = ((flat ws).length : Nat) := R.1
    have o40 := ok.2.1
    obtain ⟨-, -, -, -, s5, s6, s7⟩ := rln_syl ok R hy
    obtain ⟨e1, e2, e3⟩ := flat_en ok hy
    apply L_R_ending_48
    simp only [srt S, srl S, srf S, ym, true_and, and_true, false_and, and_false, forall_eq, forall_eq', xi_wi, xr_wi, xt_wi, xl_wi, xn_wi, xs_wi, xi_wr, xr_wr, xt_wr, xl_wr, xn_wr, xs_wr, if_true, if_false, and_self, Int.reduceEq, Int.reduceLT, Int.reduceLE, Int.reduceNeg, Int.le_refl, Int.reduceMod]
    rw [if_pos (by omega), xw_id (a := 40 * l) (by omega) (by omega), xw_id (a := 40 * l + (y : Int)) (by omega) (by omega)]
    refine ⟨⟨l0, l1⟩, ?_⟩
    refine c_end_62 (S_ := ((flat ws).getD y fs0).s) e1 e3 (by omega) (by omega) o0 (by omega) (by omega) ((flat ws).getD y fs0).s.length h 0 b m u7 S s5 s6 (fun k hk => ?_) (by omega) z4 m0 (by omega) ?_
    · rw [show 16 * (40 * l + (y : Int)) + (k : Int) = 640 * l + (16 * (y : Int) + k) by omega]
      exact s7 k hk
    · intro h1 v5 v6 v7 F W
      rw [List.drop_zero] at W ⊢
      have ol := outp_len b ((flat ws).getD y fs0).s
      rw [show (y : Int) + 1 = ((y + 1 : Nat) : Int) by omega]
      refine ih h1 (y + 1) _ (m + ((outp b ((flat ws).getD y fs0).s).length : Nat)) v5 v6 v7 (SR_2 F.1 S) (by rw [RV_en F]; exact R) (by omega) (by rw [W.1 o, if_pos rfl]) (by omega) (by omega) ?_
      intro h2 F2 W2
      refine H h2 (Fr_trans F F2) ?_
      rw [drop_at fs0 hy, List.map_cons, List.flatten_cons, outp_app b _ _ e1]
      exact enW_app m0 (by omega) W W2
theorem c_end_7 (l0 : 0 ≤ l) (l1 : l < 15) (ok : LnOk ws) {h : xH} {u4 u5 u6 u7 : xV} (S : SR h) (R : RLn (RV h l) ws) (H : xT d M_R_ending 21 [(1, 59), (0, l), (0, o), (0, hvy (flat ws) (flat ws).length), u4, u5, u6, u7] [] h (xqv Q)) : ∀ n : Nat, n ≤ (flat ws).length → hvy (flat ws) n = hvy (flat ws) (flat ws).length → xT d M_R_ending 7 [(1, 59), (0, l), (0, o), (0, (n : Int) - 1), u4, u5, u6, u7] [] h (xqv Q) := by
  intro n
  induction n with
  | zero =>
    intro hn e
    apply L_R_ending_7
    rw [if_pos (by omega)]
    rw [← e] at H
    exact H
  | succ n ih =>
    intro hn e
    have hy : n < (flat ws).length := by omega
    have o40 := ok.2.1
    obtain ⟨-, -, -, s4, -⟩ := rln_syl ok R hy
    apply L_R_ending_7
    rw [hvy] at e
    rw [if_neg (by omega), show ((n + 1 : Nat) : Int) - 1 = (n : Int) by omega, xw_id (a := 40 * l) (by omega) (by omega), xw_id (a := 40 * l + (n : Int)) (by omega) (by omega), show xw ((n : Int) + -1) = (n : Int) - 1 from by rw [xw_id (by omega) (by omega)]; omega]
    simp only [srt S, srl S, srf S, s4, true_and, and_true, false_and, and_false, forall_eq, forall_eq', xi_wi, xr_wi, xt_wi, xl_wi, xn_wi, xs_wi, xi_wr, xr_wr, xt_wr, xl_wr, xn_wr, xs_wr, if_true, if_false, and_self, Int.reduceEq, Int.reduceLT, Int.reduceLE, Int.reduceNeg, Int.le_refl, Int.reduceMod]
    refine ⟨⟨by omega, by omega⟩, x_if (fun c => ?_) (fun c => ?_)⟩
    · rw [if_pos c] at e
      rw [← e] at H
      exact H
    · rw [if_neg c] at e
      exact ih (by omega) e
theorem hvy_lt (L : List FS) : ∀ n : Nat, hvy L n < n ∧ -1 ≤ hvy L n := by
  intro n
  induction n with
  | zero =>
    show (-1 : Int) < 0 ∧ (-1 : Int) ≤ -1
    decide
  | succ n ih =>
    rw [hvy]
    split <;> omega
theorem c_R_ending {h : xH} (S : SR h) (l0 : 0 ≤ l) (l1 : l < 15) (o0 : o = 0 ∨ o = 1) (ok : LnOk ws) (w1 : 1 ≤ ws.length) (R : RLn (RV h l) ws) (H : ∀ h', Fr [114, 115, 116] [] h h' → enW (h.wi 116 o 0) h' o 0 (endL (flat ws)) → Q h') : xCv (d + 1) M_R_ending [(1, 59), (0, l), (0, o)] h Q := by
  have ym : h.i 81 l = ((flat ws).length : Nat) := R.1
  have f1 := (flatF_last ws 0 ok.2.2 w1).1
  have f1 : 1 ≤ (flat ws).length := f1
  have o40 := ok.2.1
  apply L_R_ending
  simp only [srt S, srl S, srf S, ym, true_and, and_true, false_and, and_false, forall_eq, forall_eq', xi_wi, xr_wi, xt_wi, xl_wi, xn_wi, xs_wi, xi_wr, xr_wr, xt_wr, xl_wr, xn_wr, xs_wr, if_true, if_false, and_self, Int.reduceEq, Int.reduceLT, Int.reduceLE, Int.reduceNeg, Int.le_refl, Int.reduceMod]
  rw [xw_id (by omega) (by omega)]
  refine ⟨⟨l0, l1⟩, ?_⟩
  refine c_end_7 l0 l1 ok S R ?_ (flat ws).length (Nat.le_refl _) rfl
  have hv := hvy_lt (flat ws) (flat ws).length
  have ef : efst (flat ws) < (flat ws).length := by
    unfold efst
    split <;> omega
  obtain ⟨e1, e2, e3⟩ := flat_en ok ef
  obtain ⟨-, -, -, -, s5, s6, s7⟩ := rln_syl ok R ef
  have vz := vbits_zero _ e1
  have F0 : Fr [114, 115, 116] [] h (h.wi 116 o 0) := Fr_cell (Fr_refl _ _ _) _ _ (by decide)
  have go : ∀ b : Bool, b = ((flat ws).getD (efst (flat ws)) fs0).s.all (fun p => decide (p.2 = 0)) → ∀ u5 u6 u7, xT d M_R_ending 48 [(1, 59), (0, l), (0, o), (0, ((efst (flat ws) : Nat) : Int)), (0, b2i b), u5, u6, u7] [] (h.wi 116 o 0) (xqv Q) := by
    intro b eb u5 u6 u7
    refine c_end_48 l0 l1 o0 ok ((flat ws).length - efst (flat ws)) _ (efst (flat ws)) b 0 u5 u6 u7 (SR_2 (h := h) rfl S) (by rw [RV_en F0]; exact R) (by omega) (by simp only [true_and, and_true, false_and, and_false, forall_eq, forall_eq', xi_wi, xr_wi, xt_wi, xl_wi, xn_wi, xs_wi, xi_wr, xr_wr, xt_wr, xl_wr, xn_wr, xs_wr, if_true, if_false, and_self, Int.reduceEq, Int.reduceLT, Int.reduceLE, Int.reduceNeg, Int.le_refl, Int.reduceMod]) (by omega) (by omega) ?_
    intro h' F W
    refine H h' (Fr_trans F0 F) ?_
    have ee : endL (flat ws) = outp b (((flat ws).drop (efst (flat ws))).map FS.s).flatten := by
      unfold endL outp eall
      rw [← eb]
    rw [ee]
    exact W
  have two : ∀ x : Int, x = ((efst (flat ws) : Nat) : Int) → ∀ u5 u6 u7, (if vbits ((flat ws).getD (efst (flat ws)) fs0).s = 0 then xT d M_R_ending 48 [(1, 59), (0, l), (0, o), (0, x), (0, 1), u5, u6, u7] [] (h.wi 116 o 0) (xqv Q) else xT d M_R_ending 48 [(1, 59), (0, l), (0, o), (0, x), (0, 0), u5, u6, u7] [] (h.wi 116 o 0) (xqv Q)) := by
    intro x ex u5 u6 u7
    rw [ex]
    refine x_if (fun c => ?_) (fun c => ?_)
    · exact go true (vz.mp c).symm u5 u6 u7
    · refine go false ?_ u5 u6 u7
      cases q : ((flat ws).getD (efst (flat ws)) fs0).s.all (fun p => decide (p.2 = 0)) with
      | true => exact absurd (vz.mpr q) c
      | false => rfl
  have go2 : (0 : Int) ≤ o ∧ o < 2 := by omega
  apply L_R_ending_21
  refine x_if (fun c => ?_) (fun c => ?_)
  · have ex : (((flat ws).length : Nat) : Int) - 1 = ((efst (flat ws) : Nat) : Int) := by unfold efst; rw [if_pos c]; omega
    simp only [srt S, srl S, srf S, ym, true_and, and_true, false_and, and_false, forall_eq, forall_eq', xi_wi, xr_wi, xt_wi, xl_wi, xn_wi, xs_wi, xi_wr, xr_wr, xt_wr, xl_wr, xn_wr, xs_wr, if_true, if_false, and_self, Int.reduceEq, Int.reduceLT, Int.reduceLE, Int.reduceNeg, Int.le_refl, Int.reduceMod]
    rw [xw_id (a := 40 * l) (by omega) (by omega), xw_id (a := (((flat ws).length : Nat) : Int) - 1) (by omega) (by omega), ex, xw_id (a := 40 * l + ((efst (flat ws) : Nat) : Int)) (by omega) (by omega), s6]
    exact ⟨⟨l0, l1⟩, go2, ⟨by omega, by omega⟩, two _ rfl _ _ _⟩
  · have ex : hvy (flat ws) (flat ws).length = ((efst (flat ws) : Nat) : Int) := by unfold efst; rw [if_neg c]; omega
    rw [ex]
    simp only [srt S, srl S, srf S, true_and, and_true, false_and, and_false, forall_eq, forall_eq', xi_wi, xr_wi, xt_wi, xl_wi, xn_wi, xs_wi, xi_wr, xr_wr, xt_wr, xl_wr, xn_wr, xs_wr, if_true, if_false, and_self, Int.reduceEq, Int.reduceLT, Int.reduceLE, Int.reduceNeg, Int.le_refl, Int.reduceMod]
    rw [xw_id (a := 40 * l) (by omega) (by omega), xw_id (a := 40 * l + ((efst (flat ws) : Nat) : Int)) (by omega) (by omega), s6]
    exact ⟨go2, ⟨by omega, by omega⟩, two _ rfl _ _ _⟩
end EN
