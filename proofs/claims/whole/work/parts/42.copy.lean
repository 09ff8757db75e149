/-! the reference's copies of syllables, words, lines -/
/-- row number src of the reference holds syllable r -/
def Row (h : xH) (src : Int) (r : FS) : Prop := h.i 83 src = r.f ∧ h.i 84 src = r.n ∧ h.i 85 src = r.m ∧ h.i 87 src = (r.s.length : Nat) ∧ h.i 88 src = vbits r.s ∧ ∀ k : Nat, k < r.s.length → h.i 86 (16 * src + k) = (r.s.getD k (0, 0)).1
theorem c_R_copySyllable {d : Nat} {h : xH} {Q : xH → Prop} {l src n : Int} {r : FS} (S : SR h) (l0 : 0 ≤ l) (l1 : l < 15) (s0 : 0 ≤ src) (s1 : src < 600) (hn : h.i 81 l = n) (n0 : 0 ≤ n) (n1 : n < 40) (hne : src ≠ 40 * l + n) (hw : h.i 77 l = r.w) (rl : r.s.length ≤ 16) (X : Row h src r) (H : ∀ h', Fr [81, 82, 83, 84, 85, 86, 87, 88] [] h h' → SylW h h' l n r → Q h') : xCv (d + 1) M_R_copySyllable [(1, 59), (0, l), (0, src)] h Q := by
  obtain ⟨x1, x2, x3, x4, x5, x6⟩ := X
  apply L_R_copySyllable
  rw [xw_id (a := 40 * l) (by omega) (by omega)]
  have gs : (0 : Int) ≤ src ∧ src < 600 := ⟨s0, s1⟩
  have gy : (0 : Int) ≤ 40 * l + n ∧ 40 * l + n < 600 := by omega
  have gl : (0 : Int) ≤ l ∧ l < 15 := ⟨l0, l1⟩
  simp only [srt S, srl S, srf S, hn, true_and, and_true, false_and, and_false, forall_eq, forall_eq', xi_wi, xr_wi, xt_wi, xl_wi, xn_wi, xs_wi, xi_wr, xr_wr, xt_wr, xl_wr, xn_wr, xs_wr, if_true, if_false, and_self, Int.reduceEq, Int.reduceLT, Int.reduceLE, Int.reduceNeg, Int.le_refl, Int.reduceMod]
  rw [xw_id (a := 40 * l + n) (by omega) (by omega)]
  simp only [srt S, srl S, srf S, hn, hw, x1, x2, x3, x4, x5, true_and, and_true, false_and, and_false, forall_eq, forall_eq', xi_wi, xr_wi, xt_wi, xl_wi, xn_wi, xs_wi, xi_wr, xr_wr, xt_wr, xl_wr, xn_wr, xs_wr, if_true, if_false, and_self, Int.reduceEq, Int.reduceLT, Int.reduceLE, Int.reduceNeg, Int.le_refl, Int.reduceMod]
  refine ⟨gl, gl, gy, gs, gy, gs, gy, gs, gy, gs, gy, gs, gy, ?_⟩
  have F0 : Fr [81, 82, 83, 84, 85, 86, 87, 88] [] h ((((((h.wi 82 (40 * l + n) r.w).wi 83 (40 * l + n) r.f).wi 84 (40 * l + n) r.n).wi 85 (40 * l + n) r.m).wi 87 (40 * l + n) ((r.s.length : Nat) : Int)).wi 88 (40 * l + n) (vbits r.s)) := Fr_cell (Fr_cell (Fr_cell (Fr_cell (Fr_cell (Fr_cell (Fr_refl _ _ _) _ _ (by decide)) _ _ (by decide)) _ _ (by decide)) _ _ (by decide)) _ _ (by decide)) _ _ (by decide)
  refine c_copySyl_59 l0 l1 s0 s1 gy.1 gy.2 hne (cnt := ((r.s.length : Nat) : Int)) (by omega) r.s.length _ 0 (SR_2 (h := h) rfl S) (by simp only [true_and, and_true, false_and, and_false, forall_eq, forall_eq', xi_wi, xr_wi, xt_wi, xl_wi, xn_wi, xs_wi, xi_wr, xr_wr, xt_wr, xl_wr, xn_wr, xs_wr, if_true, if_false, and_self, Int.reduceEq, Int.reduceLT, Int.reduceLE, Int.reduceNeg, Int.le_refl, Int.reduceMod]; rw [if_neg hne]; exact x4) (by omega) (by omega) (by simp only [true_and, and_true, false_and, and_false, forall_eq, forall_eq', xi_wi, xr_wi, xt_wi, xl_wi, xn_wi, xs_wi, xi_wr, xr_wr, xt_wr, xl_wr, xn_wr, xs_wr, if_true, if_false, and_self, Int.reduceEq, Int.reduceLT, Int.reduceLE, Int.reduceNeg, Int.le_refl, Int.reduceMod]; omega) (by simp only [true_and, and_true, false_and, and_false, forall_eq, forall_eq', xi_wi, xr_wi, xt_wi, xl_wi, xn_wi, xs_wi, xi_wr, xr_wr, xt_wr, xl_wr, xn_wr, xs_wr, if_true, if_false, and_self, Int.reduceEq, Int.reduceLT, Int.reduceLE, Int.reduceNeg, Int.le_refl, Int.reduceMod]; omega) ?_
  intro h' F q1 q2
  have e81 : ∀ k, h'.i 81 k = h.i 81 k := fun k => by rw [Fr_row F (c := 81) (by decide) (by decide)]; simp only [true_and, and_true, false_and, and_false, forall_eq, forall_eq', xi_wi, xr_wi, xt_wi, xl_wi, xn_wi, xs_wi, xi_wr, xr_wr, xt_wr, xl_wr, xn_wr, xs_wr, if_true, if_false, and_self, Int.reduceEq, Int.reduceLT, Int.reduceLE, Int.reduceNeg, Int.le_refl, Int.reduceMod]
  refine H _ (Fr_cell (Fr_trans F0 (Fr_mono F (by decide) (by decide))) _ _ (by decide)) ⟨fun k => ?_, fun k => ?_, fun k => ?_, fun k => ?_, fun k => ?_, fun k => ?_, fun k => ?_, fun k hk => ?_, fun k hk => ?_⟩
  · simp only [true_and, and_true, false_and, and_false, forall_eq, forall_eq', xi_wi, xr_wi, xt_wi, xl_wi, xn_wi, xs_wi, xi_wr, xr_wr, xt_wr, xl_wr, xn_wr, xs_wr, if_true, if_false, and_self, Int.reduceEq, Int.reduceLT, Int.reduceLE, Int.reduceNeg, Int.le_refl, Int.reduceMod]
    rw [e81, hn]
  · rw [xi_wi, if_neg (fun q => absurd q.1 (by decide)), Fr_row F (c := 82) (by decide) (by decide)]; simp only [true_and, and_true, false_and, and_false, forall_eq, forall_eq', xi_wi, xr_wi, xt_wi, xl_wi, xn_wi, xs_wi, xi_wr, xr_wr, xt_wr, xl_wr, xn_wr, xs_wr, if_true, if_false, and_self, Int.reduceEq, Int.reduceLT, Int.reduceLE, Int.reduceNeg, Int.le_refl, Int.reduceMod]
  · rw [xi_wi, if_neg (fun q => absurd q.1 (by decide)), Fr_row F (c := 83) (by decide) (by decide)]; simp only [true_and, and_true, false_and, and_false, forall_eq, forall_eq', xi_wi, xr_wi, xt_wi, xl_wi, xn_wi, xs_wi, xi_wr, xr_wr, xt_wr, xl_wr, xn_wr, xs_wr, if_true, if_false, and_self, Int.reduceEq, Int.reduceLT, Int.reduceLE, Int.reduceNeg, Int.le_refl, Int.reduceMod]
  · rw [xi_wi, if_neg (fun q => absurd q.1 (by decide)), Fr_row F (c := 84) (by decide) (by decide)]; simp only [true_and, and_true, false_and, and_false, forall_eq, forall_eq', xi_wi, xr_wi, xt_wi, xl_wi, xn_wi, xs_wi, xi_wr, xr_wr, xt_wr, xl_wr, xn_wr, xs_wr, if_true, if_false, and_self, Int.reduceEq, Int.reduceLT, Int.reduceLE, Int.reduceNeg, Int.le_refl, Int.reduceMod]
  · rw [xi_wi, if_neg (fun q => absurd q.1 (by decide)), Fr_row F (c := 85) (by decide) (by decide)]; simp only [true_and, and_true, false_and, and_false, forall_eq, forall_eq', xi_wi, xr_wi, xt_wi, xl_wi, xn_wi, xs_wi, xi_wr, xr_wr, xt_wr, xl_wr, xn_wr, xs_wr, if_true, if_false, and_self, Int.reduceEq, Int.reduceLT, Int.reduceLE, Int.reduceNeg, Int.le_refl, Int.reduceMod]
  · rw [xi_wi, if_neg (fun q => absurd q.1 (by decide)), Fr_row F (c := 87) (by decide) (by decide)]; simp only [true_and, and_true, false_and, and_false, forall_eq, forall_eq', xi_wi, xr_wi, xt_wi, xl_wi, xn_wi, xs_wi, xi_wr, xr_wr, xt_wr, xl_wr, xn_wr, xs_wr, if_true, if_false, and_self, Int.reduceEq, Int.reduceLT, Int.reduceLE, Int.reduceNeg, Int.le_refl, Int.reduceMod]
  · rw [xi_wi, if_neg (fun q => absurd q.1 (by decide)), Fr_row F (c := 88) (by decide) (by decide)]; simp only [true_and, and_true, false_and, and_false, forall_eq, forall_eq', xi_wi, xr_wi, xt_wi, xl_wi, xn_wi, xs_wi, xi_wr, xr_wr, xt_wr, xl_wr, xn_wr, xs_wr, if_true, if_false, and_self, Int.reduceEq, Int.reduceLT, Int.reduceLE, Int.reduceNeg, Int.le_refl, Int.reduceMod]
  · rw [xi_wi, if_neg (fun q => absurd q.1 (by decide)), q1 k (by omega) (by omega)]
    simp only [true_and, and_true, false_and, and_false, forall_eq, forall_eq', xi_wi, xr_wi, xt_wi, xl_wi, xn_wi, xs_wi, xi_wr, xr_wr, xt_wr, xl_wr, xn_wr, xs_wr, if_true, if_false, and_self, Int.reduceEq, Int.reduceLT, Int.reduceLE, Int.reduceNeg, Int.le_refl, Int.reduceMod]
    exact x6 k hk
  · rw [xi_wi, if_neg (fun q => absurd q.1 (by decide)), q2 k (by omega)]
    simp only [true_and, and_true, false_and, and_false, forall_eq, forall_eq', xi_wi, xr_wi, xt_wi, xl_wi, xn_wi, xs_wi, xi_wr, xr_wr, xt_wr, xl_wr, xn_wr, xs_wr, if_true, if_false, and_self, Int.reduceEq, Int.reduceLT, Int.reduceLE, Int.reduceNeg, Int.le_refl, Int.reduceMod]
/-- the syllables of word w of a line, as they are put as word v of another -/
def ofW (L : List FS) (w v : Int) : List FS := (L.filter (fun r => decide (r.w = w))).map (fun r => (v, r.f, r.n, r.m, r.s, r.b))
theorem c_copyWord_61 {d : Nat} {Q : xH → Prop} {l m w : Int} {L : List FS} (l0 : 0 ≤ l) (l1 : l < 15) (m0 : 0 ≤ m) (m1 : m < 15) (hlm : l ≠ m) (hL : L.length ≤ 40) (lL : ∀ q ∈ L, q.s.length ≤ 16) : ∀ (n : Nat) (h : xH) (i : Nat) (u4 u5 : xV) (A : List FS), SR h → RS (RV h m) L → i + n = L.length → RS (RV h l) A → (∀ q ∈ A, q.s.length ≤ 16) → A.length + (ofW (L.drop i) w (h.i 77 l)).length ≤ 40 → 0 ≤ h.i 77 l → h.i 77 l < 12 → (∀ h', Fr [81, 82, 83, 84, 85, 86, 87, 88] [] h h' → RS (RV h' l) (A ++ ofW (L.drop i) w (h.i 77 l)) → (∀ k, k ≠ l → RV h' k = RV h k) → Q (h'.wi 77 l (h.i 77 l + 1))) → xT (d + 1) M_R_copyWord 61 [(1, 59), (0, l), (0, m), (0, w), u4, u5, (0, 40 * m + (i : Int))] [] h (xqv Q) := by
  intro n
  induction n with
  | zero =>
    intro h i u4 u5 A S R1 e R2 lA hA w0 w1 H
    have ei : L.drop i = [] := List.drop_of_length_le (by omega)
    have z := H h (Fr_refl _ _ _) (by rw [ei]; show RS _ (A ++ []); rw [List.append_nil]; exact R2) (fun _ _ => rfl)
    apply L_R_copyWord_61
    have ym : h.i 81 m = (L.length : Nat) := R1.1
    rw [← xw_id (a := h.i 77 l + 1) (by omega) (by omega)] at z
    simp only [srt S, srl S, srf S, ym, true_and, and_true, false_and, and_false, forall_eq, forall_eq', xi_wi, xr_wi, xt_wi, xl_wi, xn_wi, xs_wi, xi_wr, xr_wr, xt_wr, xl_wr, xn_wr, xs_wr, if_true, if_false, and_self, Int.reduceEq, Int.reduceLT, Int.reduceLE, Int.reduceNeg, Int.le_refl, Int.reduceMod]
    rw [xw_id (a := 40 * m) (by omega) (by omega), xw_id (a := 40 * m + ((L.length : Nat) : Int)) (by omega) (by omega), if_neg (by omega)]
    exact ⟨⟨m0, m1⟩, ⟨l0, l1⟩, ⟨l0, l1⟩, z⟩
  | succ n ih =>
    intro h i u4 u5 A S R1 e R2 lA hA w0 w1 H
    have hi : i < L.length := by omega
    have ym : h.i 81 m = (L.length : Nat) := R1.1
    have q := R1.2 i hi
    have q0 := rv2 (h := h) (l := m) (i := i) (by omega) (by omega)
    rw [q0.1, q0.2.1, q0.2.2.1, q0.2.2.2.1, q0.2.2.2.2.1, q0.2.2.2.2.2] at q
    have ed : L.drop i = L.getD i fs0 :: L.drop (i + 1) := by
      rw [List.drop_eq_getElem_cons hi, List.getD_eq_getElem?_getD, List.getElem?_eq_getElem hi]; rfl
    have sl := lL _ (getD_mem fs0 hi)
    have gs : (0 : Int) ≤ 40 * m + (i : Int) ∧ 40 * m + (i : Int) < 600 := by omega
    have ex : 40 * m + (i : Int) + 1 = 40 * m + ((i + 1 : Nat) : Int) := by omega
    apply L_R_copyWord_61
    simp only [srt S, srl S, srf S, ym, true_and, and_true, false_and, and_false, forall_eq, forall_eq', xi_wi, xr_wi, xt_wi, xl_wi, xn_wi, xs_wi, xi_wr, xr_wr, xt_wr, xl_wr, xn_wr, xs_wr, if_true, if_false, and_self, Int.reduceEq, Int.reduceLT, Int.reduceLE, Int.reduceNeg, Int.le_refl, Int.reduceMod]
    rw [xw_id (a := 40 * m) (by omega) (by omega), xw_id (a := 40 * m + ((L.length : Nat) : Int)) (by omega) (by omega), if_pos (by omega), xw_id (a := 40 * m + (i : Int) + 1) (by omega) (by omega), ex, q.1]
    refine ⟨⟨m0, m1⟩, gs, x_if (fun c => ?_) (fun c => ?_)⟩
    · have eo : ofW (L.drop i) w (h.i 77 l) = ((h.i 77 l), (L.getD i fs0).f, (L.getD i fs0).n, (L.getD i fs0).m, (L.getD i fs0).s, (L.getD i fs0).b) :: ofW (L.drop (i + 1)) w (h.i 77 l) := by
        rw [ed]
        unfold ofW
        rw [List.filter_cons_of_pos (by exact decide_eq_true c), List.map_cons]
      rw [eo, List.length_cons] at hA
      refine c_R_copySyllable S l0 l1 gs.1 gs.2 (n := ((A.length : Nat) : Int)) R2.1 (by omega) (by omega) (by omega) (r := ((h.i 77 l), (L.getD i fs0).f, (L.getD i fs0).n, (L.getD i fs0).m, (L.getD i fs0).s, (L.getD i fs0).b)) rfl sl ⟨q.2.1, q.2.2.1, q.2.2.2.1, q.2.2.2.2.1, q.2.2.2.2.2.1, fun k hk => ?_⟩ ?_
      · have y := q.2.2.2.2.2.2 k hk
        have hk : k < (L.getD i fs0).s.length := hk
        rw [rv8 (by omega) (by omega)] at y
        rw [show 16 * (40 * m + (i : Int)) + (k : Int) = 640 * m + (16 * (i : Int) + k) by omega]
        exact y
      · intro h1 F1 W
        have r77 : h1.i 77 = h.i 77 := Fr_row F1 (by decide) (by decide)
        have r78 : h1.i 78 = h.i 78 := Fr_row F1 (by decide) (by decide)
        have r79 : h1.i 79 = h.i 79 := Fr_row F1 (by decide) (by decide)
        have r80 : h1.i 80 = h.i 80 := Fr_row F1 (by decide) (by decide)
        have rv := fun k (hk : k ≠ l) => SylW_RV (k := k) W r77 r78 r79 r80 (by omega) (by omega) hk
        have R2' := SylW_RS W (by omega) sl lA R2
        rw [← r77] at hA
        refine ih h1 (i + 1) u4 (xkl u5) _ (SR_2 F1.1 S) (by rw [rv m (fun q => hlm q.symm)]; exact R1) (by omega) R2' ?_ (by rw [List.length_append, List.length_singleton]; omega) (by rw [r77]; exact w0) (by rw [r77]; exact w1) ?_
        · intro x hx
          rcases List.mem_append.mp hx with z | z
          · exact lA x z
          · rw [List.mem_singleton.mp z]; exact sl
        · intro h' F' R' rv'
          rw [r77]
          rw [r77] at R'
          refine H h' (Fr_trans F1 F') (by rw [eo]; rw [List.append_assoc] at R'; exact R') (fun k hk => (rv' k hk).trans (rv k hk))
    · have eo : ofW (L.drop i) w (h.i 77 l) = ofW (L.drop (i + 1)) w (h.i 77 l) := by
        rw [ed]
        unfold ofW
        rw [List.filter_cons_of_neg (by intro z; exact c (of_decide_eq_true z))]
      rw [eo] at hA
      refine ih h (i + 1) u4 (xkl u5) A S R1 (by omega) R2 lA hA w0 w1 ?_
      rw [eo] at H
      exact H
theorem c_copyWord_17 {d : Nat} {Q : xH → Prop} {l m w at_ o : Int} {D : List Int} {bk : Int} (l0 : 0 ≤ l) (l1 : l < 15) (m0 : 0 ≤ m) (m1 : m < 15) (a0 : 0 ≤ at_) (a1 : at_ < 180) (o0 : 0 ≤ o) (o1 : o < 180) (hne : at_ ≠ o) (hD : D.length ≤ 16) (lets_ : ∀ c ∈ D, 97 ≤ c ∧ c ≤ 122) (hb : bk = 0 ∨ bk = 1) : ∀ (n : Nat) (h : xH) (k : Nat), SR h → h.i 79 o = (D.length : Nat) → h.i 80 o = bk → (∀ j : Nat, j < D.length → h.i 78 (16 * o + j) = D.getD j 0) → k + n = D.length → (∀ j : Nat, j < k → h.i 78 (16 * at_ + j) = D.getD j 0) → (∀ h', Fr [78, 79, 80] [] h h' → (∀ j : Nat, j < D.length → h'.i 78 (16 * at_ + j) = D.getD j 0) → (∀ j, (j < 16 * at_ ∨ 16 * at_ + 16 ≤ j) → h'.i 78 j = h.i 78 j) → (∀ j, h'.i 79 j = if j = at_ then ((D.length : Nat) : Int) else h.i 79 j) → (∀ j, h'.i 80 j = if j = at_ then bk else h.i 80 j) → xT d M_R_copyWord 61 [(1, 59), (0, l), (0, m), (0, w), (0, at_), (0, o), (0, 40 * m)] [] h' (xqv Q)) → xT d M_R_copyWord 17 [(1, 59), (0, l), (0, m), (0, w), (0, at_), (0, o), (0, (k : Int))] [] h (xqv Q) := by
  have ga : (0 : Int) ≤ at_ ∧ at_ < 180 := ⟨a0, a1⟩
  have go : (0 : Int) ≤ o ∧ o < 180 := ⟨o0, o1⟩
  intro n
  induction n with
  | zero =>
    intro h k S z1 z2 z3 e z4 H
    apply L_R_copyWord_17
    have b2 : bk % 2 = bk := by omega
    have F : Fr [78, 79, 80] [] h ((h.wi 79 at_ ((D.length : Nat) : Int)).wi 80 at_ bk) := Fr_cell (Fr_cell (Fr_refl _ _ _) _ _ (by decide)) _ _ (by decide)
    have z := H _ F (fun j hj => by simp only [true_and, and_true, false_and, and_false, forall_eq, forall_eq', xi_wi, xr_wi, xt_wi, xl_wi, xn_wi, xs_wi, xi_wr, xr_wr, xt_wr, xl_wr, xn_wr, xs_wr, if_true, if_false, and_self, Int.reduceEq, Int.reduceLT, Int.reduceLE, Int.reduceNeg, Int.le_refl, Int.reduceMod]; exact z4 j (by omega)) (fun j _ => by simp only [true_and, and_true, false_and, and_false, forall_eq, forall_eq', xi_wi, xr_wi, xt_wi, xl_wi, xn_wi, xs_wi, xi_wr, xr_wr, xt_wr, xl_wr, xn_wr, xs_wr, if_true, if_false, and_self, Int.reduceEq, Int.reduceLT, Int.reduceLE, Int.reduceNeg, Int.le_refl, Int.reduceMod]) (fun j => by simp only [true_and, and_true, false_and, and_false, forall_eq, forall_eq', xi_wi, xr_wi, xt_wi, xl_wi, xn_wi, xs_wi, xi_wr, xr_wr, xt_wr, xl_wr, xn_wr, xs_wr, if_true, if_false, and_self, Int.reduceEq, Int.reduceLT, Int.reduceLE, Int.reduceNeg, Int.le_refl, Int.reduceMod]) (fun j => by simp only [true_and, and_true, false_and, and_false, forall_eq, forall_eq', xi_wi, xr_wi, xt_wi, xl_wi, xn_wi, xs_wi, xi_wr, xr_wr, xt_wr, xl_wr, xn_wr, xs_wr, if_true, if_false, and_self, Int.reduceEq, Int.reduceLT, Int.reduceLE, Int.reduceNeg, Int.le_refl, Int.reduceMod])
    simp only [srt S, srl S, srf S, z1, z2, b2, true_and, and_true, false_and, and_false, forall_eq, forall_eq', xi_wi, xr_wi, xt_wi, xl_wi, xn_wi, xs_wi, xi_wr, xr_wr, xt_wr, xl_wr, xn_wr, xs_wr, if_true, if_false, and_self, Int.reduceEq, Int.reduceLT, Int.reduceLE, Int.reduceNeg, Int.le_refl, Int.reduceMod]
    refine ⟨go, ?_⟩
    rw [if_neg (by omega), xw_id (a := 40 * m) (by omega) (by omega)]
    exact ⟨go, ga, go, ga, z⟩
  | succ n ih =>
    intro h k S z1 z2 z3 e z4 H
    apply L_R_copyWord_17
    have hk : k < D.length := by omega
    have y := z3 k hk
    have yb := lets_ _ (getD_mem 0 hk)
    have e8 : xw8 (D.getD k 0) = D.getD k 0 := by unfold xw8; omega
    have ex : (k : Int) + 1 = ((k + 1 : Nat) : Int) := by omega
    rw [xw_id (a := 16 * o) (by omega) (by omega), xw_id (a := 16 * at_) (by omega) (by omega), xw_id (a := 16 * o + (k : Int)) (by omega) (by omega), xw_id (a := 16 * at_ + (k : Int)) (by omega) (by omega), xw_id (a := (k : Int) + 1) (by omega) (by omega), ex]
    simp only [srt S, srl S, srf S, z1, y, e8, true_and, and_true, false_and, and_false, forall_eq, forall_eq', xi_wi, xr_wi, xt_wi, xl_wi, xn_wi, xs_wi, xi_wr, xr_wr, xt_wr, xl_wr, xn_wr, xs_wr, if_true, if_false, and_self, Int.reduceEq, Int.reduceLT, Int.reduceLE, Int.reduceNeg, Int.le_refl, Int.reduceMod]
    refine ⟨go, ?_⟩
    rw [if_pos (by omega)]
    refine ⟨⟨by omega, by omega⟩, ⟨by omega, by omega⟩, ?_⟩
    have F0 : Fr [78, 79, 80] [] h (h.wi 78 (16 * at_ + (k : Int)) (D.getD k 0)) := Fr_cell (Fr_refl _ _ _) _ _ (by decide)
    refine ih _ (k + 1) (SR_2 (h := h) rfl S) (by simp only [true_and, and_true, false_and, and_false, forall_eq, forall_eq', xi_wi, xr_wi, xt_wi, xl_wi, xn_wi, xs_wi, xi_wr, xr_wr, xt_wr, xl_wr, xn_wr, xs_wr, if_true, if_false, and_self, Int.reduceEq, Int.reduceLT, Int.reduceLE, Int.reduceNeg, Int.le_refl, Int.reduceMod]; exact z1) (by simp only [true_and, and_true, false_and, and_false, forall_eq, forall_eq', xi_wi, xr_wi, xt_wi, xl_wi, xn_wi, xs_wi, xi_wr, xr_wr, xt_wr, xl_wr, xn_wr, xs_wr, if_true, if_false, and_self, Int.reduceEq, Int.reduceLT, Int.reduceLE, Int.reduceNeg, Int.le_refl, Int.reduceMod]; exact z2) (fun j hj => ?_) (by omega) (fun j hj => ?_) ?_
    · simp only [true_and, and_true, false_and, and_false, forall_eq, forall_eq', xi_wi, xr_wi, xt_wi, xl_wi, xn_wi, xs_wi, xi_wr, xr_wr, xt_wr, xl_wr, xn_wr, xs_wr, if_true, if_false, and_self, Int.reduceEq, Int.reduceLT, Int.reduceLE, Int.reduceNeg, Int.le_refl, Int.reduceMod]
      rw [if_neg (by omega)]
      exact z3 j hj
    · simp only [true_and, and_true, false_and, and_false, forall_eq, forall_eq', xi_wi, xr_wi, xt_wi, xl_wi, xn_wi, xs_wi, xi_wr, xr_wr, xt_wr, xl_wr, xn_wr, xs_wr, if_true, if_false, and_self, Int.reduceEq, Int.reduceLT, Int.reduceLE, Int.reduceNeg, Int.le_refl, Int.reduceMod]
      by_cases c : j = k
      · subst c
        rw [if_pos rfl]
      · rw [if_neg (by omega)]
        exact z4 j (by omega)
    · intro h' F q1 q2 q3 q4
      refine H h' (Fr_trans F0 F) q1 (fun j hj => ?_) (fun j => ?_) (fun j => ?_)
      · rw [q2 j hj]
        simp only [true_and, and_true, false_and, and_false, forall_eq, forall_eq', xi_wi, xr_wi, xt_wi, xl_wi, xn_wi, xs_wi, xi_wr, xr_wr, xt_wr, xl_wr, xn_wr, xs_wr, if_true, if_false, and_self, Int.reduceEq, Int.reduceLT, Int.reduceLE, Int.reduceNeg, Int.le_refl, Int.reduceMod]
        rw [if_neg (by omega)]
      · rw [q3 j]; simp only [true_and, and_true, false_and, and_false, forall_eq, forall_eq', xi_wi, xr_wi, xt_wi, xl_wi, xn_wi, xs_wi, xi_wr, xr_wr, xt_wr, xl_wr, xn_wr, xs_wr, if_true, if_false, and_self, Int.reduceEq, Int.reduceLT, Int.reduceLE, Int.reduceNeg, Int.le_refl, Int.reduceMod]
      · rw [q4 j]; simp only [true_and, and_true, false_and, and_false, forall_eq, forall_eq', xi_wi, xr_wi, xt_wi, xl_wi, xn_wi, xs_wi, xi_wr, xr_wr, xt_wr, xl_wr, xn_wr, xs_wr, if_true, if_false, and_self, Int.reduceEq, Int.reduceLT, Int.reduceLE, Int.reduceNeg, Int.le_refl, Int.reduceMod]
