/-! the reference holds two endings against each other -/
/-- E and F stand in the two rows of endings -/
def Two (h : xH) (E F : List (Int × Int)) : Prop := h.i 116 0 = (E.length : Nat) ∧ h.i 116 1 = (F.length : Nat) ∧ (∀ j : Nat, j < E.length → h.i 114 j = (E.getD j (0, 0)).1 ∧ h.i 115 j = (E.getD j (0, 0)).2) ∧ (∀ j : Nat, j < F.length → h.i 114 (640 + j) = (F.getD j (0, 0)).1 ∧ h.i 115 (640 + j) = (F.getD j (0, 0)).2) ∧ E.length ≤ 640 ∧ F.length ≤ 640
def pick (c : Int) (E : List (Int × Int)) : List (Int × Int) := if c = 0 then E else vws E
section SE
variable {d : Nat} {h : xH} {Q : Int → xH → Prop} {E F : List (Int × Int)} {c : Int}
/-- where the reference stands after it has passed what is no vowel -/
def nc (c : Int) (E : List (Int × Int)) (k : Nat) : Nat := if c = 0 then k else nv E k
theorem nc_le {k : Nat} (hk : k ≤ E.length) : k ≤ nc c E k ∧ nc c E k ≤ E.length := by
  unfold nc
  split
  · omega
  · exact nv_le hk
theorem nc_pick {k : Nat} (hk : k ≤ E.length) : (nc c E k = E.length ∧ pick c (E.drop k) = []) ∨ (nc c E k < E.length ∧ pick c (E.drop k) = E.getD (nc c E k) (0, 0) :: pick c (E.drop (nc c E k + 1))) := by
  unfold nc pick
  by_cases q : c = 0
  · rw [if_pos q, if_pos q, if_pos q]
    by_cases z : k < E.length
    · right
      exact ⟨z, drop_at (0, 0) z⟩
    · left
      exact ⟨by omega, List.drop_of_length_le (by omega)⟩
  · rw [if_neg q, if_neg q, if_neg q]
    rcases nv_vws (E := E) (E.length - k) k (by omega) with z | z
    · exact Or.inl z
    · exact Or.inr ⟨z.1, z.2.2⟩
theorem c_same_19 (S : SR h) (T : Two h E F) (oF : enOk F) {i : Nat} : ∀ (n j : Nat), j + n = F.length → xT d M_R_sameEndings 36 [(1, 59), (0, c), (0, (i : Int)), (0, ((nc c F j : Nat) : Int))] [] h (xqi Q) → xT d M_R_sameEndings 19 [(1, 59), (0, c), (0, (i : Int)), (0, (j : Int))] [] h (xqi Q) := by
  intro n
  induction n with
  | zero =>
    intro j e H
    apply L_R_sameEndings_19
    have z := nc_le (c := c) (E := F) (k := j) (by omega)
    rw [show nc c F j = j by omega] at H
    refine x_if (fun _ => H) (fun q => ?_)
    simp only [srt S, srl S, srf S, T.2.1, true_and, and_true, false_and, and_false, forall_eq, forall_eq', xi_wi, xr_wi, xt_wi, xl_wi, xn_wi, xs_wi, xi_wr, xr_wr, xt_wr, xl_wr, xn_wr, xs_wr, if_true, if_false, and_self, Int.reduceEq, Int.reduceLT, Int.reduceLE, Int.reduceNeg, Int.le_refl, Int.reduceMod]
    rw [if_neg (by omega)]
    exact H
  | succ n ih =>
    intro j e H
    apply L_R_sameEndings_19
    have hj : j < F.length := by omega
    have t := T.2.2.2.1 j hj
    have l6 := T.2.2.2.2.2
    have v := (oF _ (getD_mem (0, 0) hj)).1
    refine x_if (fun q => ?_) (fun q => ?_)
    · have : nc c F j = j := by unfold nc; rw [if_pos q]
      rw [this] at H
      exact H
    · have en : nc c F j = if (F.getD j (0, 0)).2 = 1 then j else nc c F (j + 1) := by
        unfold nc
        rw [if_neg q, if_neg q, nv_step hj]
      rw [en] at H
      rw [xw_id (a := 640 + (j : Int)) (by omega) (by omega), xw_id (a := (j : Int) + 1) (by omega) (by omega)]
      simp only [srt S, srl S, srf S, T.2.1, t.2, true_and, and_true, false_and, and_false, forall_eq, forall_eq', xi_wi, xr_wi, xt_wi, xl_wi, xn_wi, xs_wi, xi_wr, xr_wr, xt_wr, xl_wr, xn_wr, xs_wr, if_true, if_false, and_self, Int.reduceEq, Int.reduceLT, Int.reduceLE, Int.reduceNeg, Int.le_refl, Int.reduceMod]
      rw [if_pos (by omega)]
      refine ⟨⟨by omega, by omega⟩, x_if (fun c2 => ?_) (fun c2 => ?_)⟩
      · rw [if_neg (by omega)] at H
        rw [show (j : Int) + 1 = ((j + 1 : Nat) : Int) by omega]
        exact ih (j + 1) (by omega) H
      · rw [if_pos (by omega)] at H
        exact H
theorem c_same_4 (S : SR h) (T : Two h E F) (oE : enOk E) {j : Nat} : ∀ (n i : Nat), i + n = E.length → xT d M_R_sameEndings 19 [(1, 59), (0, c), (0, ((nc c E i : Nat) : Int)), (0, (j : Int))] [] h (xqi Q) → xT d M_R_sameEndings 4 [(1, 59), (0, c), (0, (i : Int)), (0, (j : Int))] [] h (xqi Q) := by
  intro n
  induction n with
  | zero =>
    intro i e H
    apply L_R_sameEndings_4
    have z := nc_le (c := c) (E := E) (k := i) (by omega)
    rw [show nc c E i = i by omega] at H
    refine x_if (fun _ => H) (fun q => ?_)
    simp only [srt S, srl S, srf S, T.1, true_and, and_true, false_and, and_false, forall_eq, forall_eq', xi_wi, xr_wi, xt_wi, xl_wi, xn_wi, xs_wi, xi_wr, xr_wr, xt_wr, xl_wr, xn_wr, xs_wr, if_true, if_false, and_self, Int.reduceEq, Int.reduceLT, Int.reduceLE, Int.reduceNeg, Int.le_refl, Int.reduceMod]
    rw [if_neg (by omega)]
    exact H
  | succ n ih =>
    intro i e H
    apply L_R_sameEndings_4
    have hi : i < E.length := by omega
    have t := T.2.2.1 i hi
    have l6 := T.2.2.2.2.1
    have v := (oE _ (getD_mem (0, 0) hi)).1
    refine x_if (fun q => ?_) (fun q => ?_)
    · have : nc c E i = i := by unfold nc; rw [if_pos q]
      rw [this] at H
      exact H
    · have en : nc c E i = if (E.getD i (0, 0)).2 = 1 then i else nc c E (i + 1) := by
        unfold nc
        rw [if_neg q, if_neg q, nv_step hi]
      rw [en] at H
      rw [xw_id (a := (i : Int) + 1) (by omega) (by omega)]
      simp only [srt S, srl S, srf S, T.1, t.2, true_and, and_true, false_and, and_false, forall_eq, forall_eq', xi_wi, xr_wi, xt_wi, xl_wi, xn_wi, xs_wi, xi_wr, xr_wr, xt_wr, xl_wr, xn_wr, xs_wr, if_true, if_false, and_self, Int.reduceEq, Int.reduceLT, Int.reduceLE, Int.reduceNeg, Int.le_refl, Int.reduceMod]
      rw [if_pos (by omega)]
      refine ⟨⟨by omega, by omega⟩, x_if (fun c2 => ?_) (fun c2 => ?_)⟩
      · rw [if_neg (by omega)] at H
        rw [show (i : Int) + 1 = ((i + 1 : Nat) : Int) by omega]
        exact ih (i + 1) (by omega) H
      · rw [if_pos (by omega)] at H
        exact H
theorem c_same (S : SR h) (T : Two h E F) (oE : enOk E) (oF : enOk F) : ∀ (n i j : Nat), E.length ≤ i + n → i ≤ E.length → j ≤ F.length → Q (if samF (pick c (E.drop i)) (pick c (F.drop j)) = true then 1 else 0) h → xT d M_R_sameEndings 4 [(1, 59), (0, c), (0, (i : Int)), (0, (j : Int))] [] h (xqi Q) := by
  intro n
  induction n with
  | zero =>
    intro i j e hi hj H
    refine c_same_4 S T oE (E.length - i) i (by omega) (c_same_19 S T oF (F.length - j) j (by omega) ?_)
    have a := nc_le (c := c) (E := E) (k := i) hi
    have b := nc_le (c := c) (E := F) (k := j) hj
    apply L_R_sameEndings_36
    simp only [srt S, srl S, srf S, T.1, T.2.1, true_and, and_true, false_and, and_false, forall_eq, forall_eq', xi_wi, xr_wi, xt_wi, xl_wi, xn_wi, xs_wi, xi_wr, xr_wr, xt_wr, xl_wr, xn_wr, xs_wr, if_true, if_false, and_self, Int.reduceEq, Int.reduceLT, Int.reduceLE, Int.reduceNeg, Int.le_refl, Int.reduceMod]
    rw [if_pos (by omega), if_pos (by omega)]
    rcases nc_pick (c := c) (E := E) (k := i) hi with x | x
    · rcases nc_pick (c := c) (E := F) (k := j) hj with y | y
      · rw [if_pos (by omega)]
        rw [x.2, y.2, if_pos samF_nil] at H
        exact H
      · rw [if_neg (by omega)]
        rw [x.2, y.2, show samF [] (F.getD (nc c F j) (0, 0) :: pick c (F.drop (nc c F j + 1))) = false from rfl] at H
        exact H
    · omega
  | succ n ih =>
    intro i j e hi hj H
    refine c_same_4 S T oE (E.length - i) i (by omega) (c_same_19 S T oF (F.length - j) j (by omega) ?_)
    have a := nc_le (c := c) (E := E) (k := i) hi
    have b := nc_le (c := c) (E := F) (k := j) hj
    have l6 := T.2.2.2.2.1
    have l7 := T.2.2.2.2.2
    apply L_R_sameEndings_36
    simp only [srt S, srl S, srf S, T.1, T.2.1, true_and, and_true, false_and, and_false, forall_eq, forall_eq', xi_wi, xr_wi, xt_wi, xl_wi, xn_wi, xs_wi, xi_wr, xr_wr, xt_wr, xl_wr, xn_wr, xs_wr, if_true, if_false, and_self, Int.reduceEq, Int.reduceLT, Int.reduceLE, Int.reduceNeg, Int.le_refl, Int.reduceMod]
    rcases nc_pick (c := c) (E := E) (k := i) hi with x | x
    · rw [if_pos (by omega), if_pos (by omega)]
      rcases nc_pick (c := c) (E := F) (k := j) hj with y | y
      · rw [if_pos (by omega)]
        rw [x.2, y.2, if_pos samF_nil] at H
        exact H
      · rw [if_neg (by omega)]
        rw [x.2, y.2, show samF [] (F.getD (nc c F j) (0, 0) :: pick c (F.drop (nc c F j + 1))) = false from rfl] at H
        exact H
    · rw [if_neg (by omega)]
      rcases nc_pick (c := c) (E := F) (k := j) hj with y | y
      · rw [if_pos (by omega), if_neg (by omega)]
        rw [x.2, y.2, show samF (E.getD (nc c E i) (0, 0) :: pick c (E.drop (nc c E i + 1))) [] = false from rfl] at H
        exact H
      · have t := T.2.2.1 _ x.1
        have u := T.2.2.2.1 _ y.1
        rw [if_neg (by omega), xw_id (a := 640 + ((nc c F j : Nat) : Int)) (by omega) (by omega), t.1, u.1, xw_id (a := ((nc c E i : Nat) : Int) + 1) (by omega) (by omega), xw_id (a := ((nc c F j : Nat) : Int) + 1) (by omega) (by omega)]
        rw [x.2, y.2] at H
        unfold samF at H
        rw [List.map_cons, List.map_cons] at H
        refine ⟨⟨by omega, by omega⟩, ⟨by omega, by omega⟩, x_if (fun c4 => ?_) (fun c4 => ?_)⟩
        · rw [show ((nc c E i : Nat) : Int) + 1 = ((nc c E i + 1 : Nat) : Int) by omega, show ((nc c F j : Nat) : Int) + 1 = ((nc c F j + 1 : Nat) : Int) by omega]
          refine ih (nc c E i + 1) (nc c F j + 1) (by omega) (by omega) (by omega) ?_
          unfold samF
          simp only [c4, List.cons.injEq, true_and] at H
          exact H
        · simp only [List.cons.injEq, c4, false_and, decide_false, Bool.false_eq_true, if_false] at H
          exact H
theorem c_R_sameEndings (S : SR h) (T : Two h E F) (oE : enOk E) (oF : enOk F) (H : Q (if samF (pick c E) (pick c F) = true then 1 else 0) h) : xCi (d + 1) M_R_sameEndings [(1, 59), (0, c)] h Q := by
  apply L_R_sameEndings
  exact c_same S T oE oF E.length 0 0 (by omega) (by omega) (by omega) (by rw [List.drop_zero, List.drop_zero]; exact H)
end SE
