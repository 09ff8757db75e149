/-! lay: the reference -/
def rc0 : Int × Op_ := (0, op0)
def RdC (h : xH) (a : Int) (x : Rd) : Prop := h.i 108 a = prR x ∧ h.i 109 a = (x.length : Nat) ∧ ∀ j : Nat, j < x.length → ∀ w, 0 ≤ w → w ≤ 5 → h.i 110 (246 * a + 6 * j + w) = kcomp (x.getD j rc0).1 (x.getD j rc0).2.1 w
def RdR (h : xH) (P : List Rd) : Prop := h.i 59 61 = (P.length : Nat) ∧ ∀ r : Nat, r < P.length → RdC h r (P.getD r [])
def StepR (h : xH) (x : Rd) : Prop := ∀ j : Nat, j < x.length → ∀ w, 0 ≤ w → w ≤ 5 → h.i 111 (6 * j + w) = kcomp (x.getD j rc0).1 (x.getD j rc0).2.1 w
theorem gInsGet {α : Type} {z : α} {L : List α} {o : α} {t : Nat} (ht : t ≤ L.length) (j : Nat) : (L.take t ++ o :: L.drop t).getD j z = if j < t then L.getD j z else if j = t then o else L.getD (j - 1) z := by
  rw [List.getD_eq_getElem?_getD, List.getElem?_append, List.length_take, Nat.min_eq_left ht]
  by_cases c : j < t
  · rw [if_pos c, if_pos c, List.getElem?_take, if_pos c, List.getD_eq_getElem?_getD]
  · rw [if_neg c, if_neg c]
    by_cases c2 : j = t
    · rw [if_pos c2, c2, Nat.sub_self]; rfl
    · rw [if_neg c2, show j - t = (j - t - 1) + 1 by omega, List.getElem?_cons_succ, List.getElem?_drop, show t + (j - t - 1) = j - 1 by omega, List.getD_eq_getElem?_getD]
theorem gInsLen {α : Type} {L : List α} {o : α} {t : Nat} (ht : t ≤ L.length) : (L.take t ++ o :: L.drop t).length = L.length + 1 := by
  rw [List.length_append, List.length_cons, List.length_take, List.length_drop]; omega
theorem gInsPerm {α : Type} {L : List α} {o : α} {t : Nat} : (L.take t ++ o :: L.drop t).Perm (L ++ [o]) := by
  refine (List.perm_middle).trans ?_
  rw [List.take_append_drop]
  exact (List.perm_append_singleton o L).symm
theorem pw_get {α : Type} {R : α → α → Prop} {z : α} {L : List α} (P : L.Pairwise R) {i j : Nat} (hij : i < j) (hj : j < L.length) : R (L.getD i z) (L.getD j z) := by
  have := List.pairwise_iff_getElem.mp P i j (by omega) hj hij
  rw [List.getD_eq_getElem?_getD, List.getD_eq_getElem?_getD, List.getElem?_eq_getElem (by omega), List.getElem?_eq_getElem hj]
  exact this
/-- into a row by price, behind all that are no dearer -/
theorem insRlt {P : List Rd} {x : Rd} {t : Nat} (ht : t ≤ P.length) (pw : P.Pairwise rlt) (h1 : ∀ j, t ≤ j → j < P.length → prR x < prR (P.getD j [])) (h0 : t = 0 ∨ prR (P.getD (t - 1) []) ≤ prR x) (hp : ∀ y ∈ P, plt (pkR y) (pkR x)) : (P.take t ++ x :: P.drop t).Pairwise rlt := by
  rw [List.pairwise_append, List.pairwise_cons]
  have pw' := pw
  rw [← List.take_append_drop t P, List.pairwise_append] at pw'
  refine ⟨pw'.1, ⟨fun b hb => ?_, pw'.2.1⟩, fun a ha b hb => ?_⟩
  · obtain ⟨j, hj, e⟩ := List.mem_iff_getElem.mp hb
    rw [List.getElem_drop] at e
    rw [List.length_drop] at hj
    have := h1 (t + j) (by omega) (by omega)
    rw [List.getD_eq_getElem?_getD, List.getElem?_eq_getElem (by omega)] at this
    rw [← e]; exact Or.inl this
  · rw [List.mem_cons] at hb
    rcases hb with hb | hb
    · subst hb
      have hm := List.mem_of_mem_take ha
      obtain ⟨j, hj, e⟩ := List.mem_iff_getElem.mp ha
      rw [List.length_take] at hj
      rw [List.getElem_take] at e
      have h0 := h0.resolve_left (by omega)
      have le : prR a ≤ prR b := by
        by_cases c : j = t - 1
        · rw [List.getD_eq_getElem?_getD, List.getElem?_eq_getElem (by omega)] at h0
          have : P[t - 1] = a := by rw [← e]; congr 1; exact c.symm
          rw [← this]; exact h0
        · have := pw_get (z := []) pw (i := j) (j := t - 1) (by omega) (by omega)
          rw [List.getD_eq_getElem?_getD, List.getElem?_eq_getElem (by omega)] at this
          have e' : (some P[j]).getD [] = a := e
          rw [e'] at this
          unfold rlt at this
          omega
      unfold rlt
      by_cases c : prR a < prR b
      · exact Or.inl c
      · exact Or.inr ⟨by omega, hp a hm⟩
    · exact pw'.2.2 a ha b hb
def FrY (v i : Int) (h h' : xH) : Prop := Fr [98, 99, 100, 101, 102, 103, 104, 105, 108, 109, 110, 111] [(59, 55), (59, 61)] h h' ∧ (∀ c k, 98 ≤ c → c ≤ 104 → k < 64 * v → h'.i c k = h.i c k) ∧ (∀ k, k < v → h'.i 105 k = h.i 105 k) ∧ ∀ k, k < 6 * i → h'.i 111 k = h.i 111 k
theorem FrY_trans {v i : Int} {h h1 h2 : xH} (a : FrY v i h h1) (b : FrY v i h1 h2) : FrY v i h h2 := ⟨Fr_trans a.1 b.1, fun c k u w x => (b.2.1 c k u w x).trans (a.2.1 c k u w x), fun k x => (b.2.2.1 k x).trans (a.2.2.1 k x), fun k x => (b.2.2.2 k x).trans (a.2.2.2 k x)⟩
theorem FrY_refl (v i : Int) (h : xH) : FrY v i h h := ⟨Fr_refl _ _ _, fun _ _ _ _ _ => rfl, fun _ _ => rfl, fun _ _ => rfl⟩
theorem FrY_mono {v w i j : Int} {h h' : xH} (hw : w ≤ v) (hj : j ≤ i) (a : FrY v i h h') : FrY w j h h' := ⟨a.1, fun c k u x y => a.2.1 c k u x (by omega), fun k x => a.2.2.1 k (by omega), fun k x => a.2.2.2 k (by omega)⟩
theorem FrY_L {v i : Int} {h h' : xH} (a : FrL v h h') : FrY v i h h' := ⟨Fr_mono a.1 (by decide) (by decide), fun c k u x y => a.2.1 c k u x (Or.inl y), fun k x => a.2.2 k (by omega), fun k _ => by rw [Fr_row a.1 (by decide) (by decide)]⟩
theorem FrY_of {v i : Int} {h h' : xH} (a : Fr [108, 109, 110] [(59, 61)] h h') : FrY v i h h' := ⟨Fr_mono a (by decide) (by decide), fun c k u x y => by rw [Fr_row a (by simp only [List.mem_cons, List.not_mem_nil, or_false]; omega) (fun q m e => by rw [List.mem_singleton] at m; rw [m] at e; have : (59 : Int) = c := e; omega)], fun k x => by rw [Fr_row a (by decide) (by decide)], fun k _ => by rw [Fr_row a (by decide) (by decide)]⟩
section YL
variable {l f : Int} {E : SEn} {d : Nat}
theorem c_lf_39 {Q : xH → Prop} {i p t : Int} {u1 u6 u7 u8 u9 : xV} (t0 : 1 ≤ t) (t1 : t ≤ 200) : ∀ (n : Nat) (h : xH) (k : Int), SR h → 0 ≤ k → k + n = 246 → (∀ h' u5, Fr [110] [] h h' → (∀ j, k ≤ j → j < 246 → h'.i 110 (246 * t + j) = h.i 110 (246 * (t - 1) + j)) → (∀ j, (j < 246 * t + k ∨ 246 * t + 246 ≤ j) → h'.i 110 j = h.i 110 j) → xT d M_R_layFrom 7 [(1, 59), u1, (0, i), (0, p), (0, t - 1), u5, u6, u7, u8, u9] [] h' (xqv Q)) → xT d M_R_layFrom 39 [(1, 59), u1, (0, i), (0, p), (0, t), (0, k), u6, u7, u8, u9] [] h (xqv Q) := by
  intro n
  induction n with
  | zero =>
    intro h k S k0 hk H
    apply L_R_layFrom_39
    rw [if_neg (by omega)]
    intro x2 e2
    rw [xw_id (by omega) (by omega)] at e2
    rw [e2, show t + -1 = t - 1 by omega]
    exact H h _ (Fr_refl _ _ _) (fun j a b => by omega) (fun _ _ => rfl)
  | succ n ih =>
    intro h k S k0 hk H
    apply L_R_layFrom_39
    rw [if_pos (by omega), xw_id (a := t - 1) (by omega) (by omega), xw_id (a := 246 * (t - 1)) (by omega) (by omega), xw_id (a := 246 * (t - 1) + k) (by omega) (by omega), xw_id (a := 246 * t) (by omega) (by omega), xw_id (a := 246 * t + k) (by omega) (by omega), xw_id (a := k + 1) (by omega) (by omega)]
    simp only [srt S, srl S, srf S, true_and, and_true, false_and, and_false, forall_eq, forall_eq', xi_wi, xr_wi, xt_wi, xl_wi, xn_wi, xs_wi, xi_wr, xr_wr, xt_wr, xl_wr, xn_wr, xs_wr, if_true, if_false, and_self, Int.reduceEq, Int.reduceLT, Int.reduceLE, Int.reduceNeg, Int.le_refl, Int.reduceMod]
    refine ⟨⟨by omega, by omega⟩, ⟨by omega, by omega⟩, ?_⟩
    refine ih _ (k + 1) (SR_2 (h := h) rfl S) (by omega) (by omega) (fun h' u5 F q1 q2 => H h' u5 (Fr_trans (Fr_cell (Fr_refl _ _ _) _ _ (by decide)) F) (fun j a b => ?_) (fun j a => ?_))
    · by_cases c : j = k
      · rw [c, q2 (246 * t + k) (by omega)]; simp only [true_and, and_true, false_and, and_false, forall_eq, forall_eq', xi_wi, xr_wi, xt_wi, xl_wi, xn_wi, xs_wi, xi_wr, xr_wr, xt_wr, xl_wr, xn_wr, xs_wr, if_true, if_false, and_self, Int.reduceEq, Int.reduceLT, Int.reduceLE, Int.reduceNeg, Int.le_refl, Int.reduceMod]
      · rw [q1 j (by omega) b]
        simp only [true_and, and_true, false_and, and_false, forall_eq, forall_eq', xi_wi, xr_wi, xt_wi, xl_wi, xn_wi, xs_wi, xi_wr, xr_wr, xt_wr, xl_wr, xn_wr, xs_wr, if_true, if_false, and_self, Int.reduceEq, Int.reduceLT, Int.reduceLE, Int.reduceNeg, Int.le_refl, Int.reduceMod]
        rw [if_neg (by omega)]
    · rw [q2 j (by omega)]
      simp only [true_and, and_true, false_and, and_false, forall_eq, forall_eq', xi_wi, xr_wi, xt_wi, xl_wi, xn_wi, xs_wi, xi_wr, xr_wr, xt_wr, xl_wr, xn_wr, xs_wr, if_true, if_false, and_self, Int.reduceEq, Int.reduceLT, Int.reduceLE, Int.reduceNeg, Int.le_refl, Int.reduceMod]
      rw [if_neg (by omega)]
theorem c_lf_76 {Q : xH → Prop} {t : Int} {u1 u2 u3 u6 u7 u8 u9 : xV} (t0 : 0 ≤ t) (t1 : t ≤ 200) : ∀ (n : Nat) (h : xH) (k : Int), SR h → 0 ≤ k → k + n = 246 → 0 ≤ h.i 59 61 → h.i 59 61 < 1000 → (∀ h', Fr [110] [(59, 61)] h h' → (∀ j, k ≤ j → j < 246 → h'.i 110 (246 * t + j) = h.i 111 j) → (∀ j, (j < 246 * t + k ∨ 246 * t + 246 ≤ j) → h'.i 110 j = h.i 110 j) → h'.i 59 61 = h.i 59 61 + 1 → Q h') → xT d M_R_layFrom 76 [(1, 59), u1, u2, u3, (0, t), (0, k), u6, u7, u8, u9] [] h (xqv Q) := by
  intro n
  induction n with
  | zero =>
    intro h k S k0 hk r0 r1 H
    apply L_R_layFrom_76
    rw [if_neg (by omega)]
    refine ⟨(srt S).1, ?_⟩
    intro h2 e2
    rw [xw_id (by omega) (by omega)] at e2
    subst e2
    exact H _ (Fr_slot (Fr_refl _ _ _) _ (by decide)) (fun j a b => by omega) (fun j _ => by simp only [true_and, and_true, false_and, and_false, forall_eq, forall_eq', xi_wi, xr_wi, xt_wi, xl_wi, xn_wi, xs_wi, xi_wr, xr_wr, xt_wr, xl_wr, xn_wr, xs_wr, if_true, if_false, and_self, Int.reduceEq, Int.reduceLT, Int.reduceLE, Int.reduceNeg, Int.le_refl, Int.reduceMod]) (by simp only [true_and, and_true, false_and, and_false, forall_eq, forall_eq', xi_wi, xr_wi, xt_wi, xl_wi, xn_wi, xs_wi, xi_wr, xr_wr, xt_wr, xl_wr, xn_wr, xs_wr, if_true, if_false, and_self, Int.reduceEq, Int.reduceLT, Int.reduceLE, Int.reduceNeg, Int.le_refl, Int.reduceMod])
  | succ n ih =>
    intro h k S k0 hk r0 r1 H
    apply L_R_layFrom_76
    rw [if_pos (by omega), xw_id (a := 246 * t) (by omega) (by omega), xw_id (a := 246 * t + k) (by omega) (by omega), xw_id (a := k + 1) (by omega) (by omega)]
    simp only [srt S, srl S, srf S, true_and, and_true, false_and, and_false, forall_eq, forall_eq', xi_wi, xr_wi, xt_wi, xl_wi, xn_wi, xs_wi, xi_wr, xr_wr, xt_wr, xl_wr, xn_wr, xs_wr, if_true, if_false, and_self, Int.reduceEq, Int.reduceLT, Int.reduceLE, Int.reduceNeg, Int.le_refl, Int.reduceMod]
    refine ⟨⟨by omega, by omega⟩, ⟨by omega, by omega⟩, ?_⟩
    refine ih _ (k + 1) (SR_2 (h := h) rfl S) (by omega) (by omega) (by simp only [true_and, and_true, false_and, and_false, forall_eq, forall_eq', xi_wi, xr_wi, xt_wi, xl_wi, xn_wi, xs_wi, xi_wr, xr_wr, xt_wr, xl_wr, xn_wr, xs_wr, if_true, if_false, and_self, Int.reduceEq, Int.reduceLT, Int.reduceLE, Int.reduceNeg, Int.le_refl, Int.reduceMod]; exact r0) (by simp only [true_and, and_true, false_and, and_false, forall_eq, forall_eq', xi_wi, xr_wi, xt_wi, xl_wi, xn_wi, xs_wi, xi_wr, xr_wr, xt_wr, xl_wr, xn_wr, xs_wr, if_true, if_false, and_self, Int.reduceEq, Int.reduceLT, Int.reduceLE, Int.reduceNeg, Int.le_refl, Int.reduceMod]; exact r1) (fun h' F q1 q2 q3 => H h' (Fr_trans (Fr_cell (Fr_refl _ _ _) _ _ (by decide)) F) (fun j a b => ?_) (fun j a => ?_) (by rw [q3]; simp only [true_and, and_true, false_and, and_false, forall_eq, forall_eq', xi_wi, xr_wi, xt_wi, xl_wi, xn_wi, xs_wi, xi_wr, xr_wr, xt_wr, xl_wr, xn_wr, xs_wr, if_true, if_false, and_self, Int.reduceEq, Int.reduceLT, Int.reduceLE, Int.reduceNeg, Int.le_refl, Int.reduceMod]))
    · by_cases c : j = k
      · rw [c, q2 (246 * t + k) (by omega)]; simp only [true_and, and_true, false_and, and_false, forall_eq, forall_eq', xi_wi, xr_wi, xt_wi, xl_wi, xn_wi, xs_wi, xi_wr, xr_wr, xt_wr, xl_wr, xn_wr, xs_wr, if_true, if_false, and_self, Int.reduceEq, Int.reduceLT, Int.reduceLE, Int.reduceNeg, Int.le_refl, Int.reduceMod]
      · rw [q1 j (by omega) b]
        simp only [true_and, and_true, false_and, and_false, forall_eq, forall_eq', xi_wi, xr_wi, xt_wi, xl_wi, xn_wi, xs_wi, xi_wr, xr_wr, xt_wr, xl_wr, xn_wr, xs_wr, if_true, if_false, and_self, Int.reduceEq, Int.reduceLT, Int.reduceLE, Int.reduceNeg, Int.le_refl, Int.reduceMod]
    · rw [q2 j (by omega)]
      simp only [true_and, and_true, false_and, and_false, forall_eq, forall_eq', xi_wi, xr_wi, xt_wi, xl_wi, xn_wi, xs_wi, xi_wr, xr_wr, xt_wr, xl_wr, xn_wr, xs_wr, if_true, if_false, and_self, Int.reduceEq, Int.reduceLT, Int.reduceLE, Int.reduceNeg, Int.le_refl, Int.reduceMod]
      rw [if_neg (by omega)]
/-- one reading is put into the row -/
theorem c_lf_7 {Q : xH → Prop} {P : List Rd} {x : Rd} (lp : P.length < 200) (lx : x.length ≤ 41) : ∀ (t : Nat) (h : xH) (u1 u5 u6 u7 u8 u9 : xV), SR h → StepR h x → h.i 59 61 = (P.length : Nat) → (∀ y ∈ P, y.length ≤ 41) → t ≤ P.length → (∀ j : Nat, j < t → RdC h j (P.getD j [])) → (∀ j : Nat, t ≤ j → j < P.length → RdC h ((j : Int) + 1) (P.getD j [])) → (∀ j, t ≤ j → j < P.length → prR x < prR (P.getD j [])) → (∀ (h' : xH) (t' : Nat), t' ≤ P.length → Fr [108, 109, 110] [(59, 61)] h h' → RdR h' (P.take t' ++ x :: P.drop t') → (∀ j, t' ≤ j → j < P.length → prR x < prR (P.getD j [])) → (t' = 0 ∨ prR (P.getD (t' - 1) []) ≤ prR x) → Q h') → xT d M_R_layFrom 7 [(1, 59), u1, (0, (x.length : Nat)), (0, prR x), (0, (t : Int)), u5, u6, u7, u8, u9] [] h (xqv Q) := by
  intro t
  -- the writing
  have fin : ∀ (t : Nat) (h : xH) (u1 u6 u7 u8 u9 : xV), SR h → StepR h x → h.i 59 61 = (P.length : Nat) → (∀ y ∈ P, y.length ≤ 41) → t ≤ P.length → (∀ j : Nat, j < t → RdC h j (P.getD j [])) → (∀ j : Nat, t ≤ j → j < P.length → RdC h ((j : Int) + 1) (P.getD j [])) → (∀ h' : xH, Fr [108, 109, 110] [(59, 61)] h h' → RdR h' (P.take t ++ x :: P.drop t) → Q h') → xT d M_R_layFrom 76 [(1, 59), u1, (0, (x.length : Nat)), (0, prR x), (0, (t : Int)), (0, 0), u6, u7, u8, u9] [] ((h.wi 108 (t : Int) (prR x)).wi 109 (t : Int) (x.length : Nat)) (xqv Q) := by
    intro t h u1 u6 u7 u8 u9 S St e61 ly ht A B H
    have S2 : SR ((h.wi 108 (t : Int) (prR x)).wi 109 (t : Int) (x.length : Nat)) := SR_2 (h := h) rfl S
    have F0 : Fr [108, 109, 110] [(59, 61)] h ((h.wi 108 (t : Int) (prR x)).wi 109 (t : Int) (x.length : Nat)) := Fr_cell (Fr_cell (Fr_refl _ _ _) _ _ (by decide)) _ _ (by decide)
    refine c_lf_76 (by omega) (by omega) 246 _ 0 S2 (by decide) (by decide) (by simp only [true_and, and_true, false_and, and_false, forall_eq, forall_eq', xi_wi, xr_wi, xt_wi, xl_wi, xn_wi, xs_wi, xi_wr, xr_wr, xt_wr, xl_wr, xn_wr, xs_wr, if_true, if_false, and_self, Int.reduceEq, Int.reduceLT, Int.reduceLE, Int.reduceNeg, Int.le_refl, Int.reduceMod]; omega) (by simp only [true_and, and_true, false_and, and_false, forall_eq, forall_eq', xi_wi, xr_wi, xt_wi, xl_wi, xn_wi, xs_wi, xi_wr, xr_wr, xt_wr, xl_wr, xn_wr, xs_wr, if_true, if_false, and_self, Int.reduceEq, Int.reduceLT, Int.reduceLE, Int.reduceNeg, Int.le_refl, Int.reduceMod]; omega) (fun h' F q1 q2 q3 => H h' (Fr_trans F0 (Fr_mono F (by decide) (by decide))) ⟨?_, fun j hj => ?_⟩)
    · rw [q3, gInsLen ht]; simp only [true_and, and_true, false_and, and_false, forall_eq, forall_eq', xi_wi, xr_wi, xt_wi, xl_wi, xn_wi, xs_wi, xi_wr, xr_wr, xt_wr, xl_wr, xn_wr, xs_wr, if_true, if_false, and_self, Int.reduceEq, Int.reduceLT, Int.reduceLE, Int.reduceNeg, Int.le_refl, Int.reduceMod]; rw [e61]; push_cast; rfl
    · rw [gInsLen ht] at hj
      rw [gInsGet ht]
      have r108 : h'.i 108 = ((h.wi 108 (t : Int) (prR x)).wi 109 (t : Int) (x.length : Nat)).i 108 := Fr_row F (by decide) (by decide)
      have r109 : h'.i 109 = ((h.wi 108 (t : Int) (prR x)).wi 109 (t : Int) (x.length : Nat)).i 109 := Fr_row F (by decide) (by decide)
      have low : ∀ (j : Nat) (y : Rd), j < t → RdC h (j : Int) y → y.length ≤ 41 → RdC h' (j : Int) y := by
        intro j y jt z ly
        unfold RdC at z ⊢
        rw [r108, r109]
        simp only [true_and, and_true, false_and, and_false, forall_eq, forall_eq', xi_wi, xr_wi, xt_wi, xl_wi, xn_wi, xs_wi, xi_wr, xr_wr, xt_wr, xl_wr, xn_wr, xs_wr, if_true, if_false, and_self, Int.reduceEq, Int.reduceLT, Int.reduceLE, Int.reduceNeg, Int.le_refl, Int.reduceMod]
        have ne : ¬ ((j : Int) = (t : Int)) := by omega
        simp only [ne, if_false]
        refine ⟨z.1, z.2.1, fun a ha w w0 w1 => ?_⟩
        rw [q2 _ (by omega)]
        simp only [true_and, and_true, false_and, and_false, forall_eq, forall_eq', xi_wi, xr_wi, xt_wi, xl_wi, xn_wi, xs_wi, xi_wr, xr_wr, xt_wr, xl_wr, xn_wr, xs_wr, if_true, if_false, and_self, Int.reduceEq, Int.reduceLT, Int.reduceLE, Int.reduceNeg, Int.le_refl, Int.reduceMod]
        exact z.2.2 a ha w w0 w1
      have high : ∀ (j : Int) (y : Rd), (t : Int) < j → RdC h j y → y.length ≤ 41 → RdC h' j y := by
        intro j y jt z ly
        unfold RdC at z ⊢
        rw [r108, r109]
        simp only [true_and, and_true, false_and, and_false, forall_eq, forall_eq', xi_wi, xr_wi, xt_wi, xl_wi, xn_wi, xs_wi, xi_wr, xr_wr, xt_wr, xl_wr, xn_wr, xs_wr, if_true, if_false, and_self, Int.reduceEq, Int.reduceLT, Int.reduceLE, Int.reduceNeg, Int.le_refl, Int.reduceMod]
        have ne : ¬ (j = (t : Int)) := by omega
        simp only [ne, if_false]
        refine ⟨z.1, z.2.1, fun a ha w w0 w1 => ?_⟩
        rw [q2 _ (by omega)]
        simp only [true_and, and_true, false_and, and_false, forall_eq, forall_eq', xi_wi, xr_wi, xt_wi, xl_wi, xn_wi, xs_wi, xi_wr, xr_wr, xt_wr, xl_wr, xn_wr, xs_wr, if_true, if_false, and_self, Int.reduceEq, Int.reduceLT, Int.reduceLE, Int.reduceNeg, Int.le_refl, Int.reduceMod]
        exact z.2.2 a ha w w0 w1
      by_cases c : j < t
      · rw [if_pos c]
        exact low j _ c (A j c) (ly _ (getD_mem _ (by omega)))
      · rw [if_neg c]
        by_cases c2 : j = t
        · rw [if_pos c2, c2]
          unfold RdC
          rw [r108, r109]
          simp only [true_and, and_true, false_and, and_false, forall_eq, forall_eq', xi_wi, xr_wi, xt_wi, xl_wi, xn_wi, xs_wi, xi_wr, xr_wr, xt_wr, xl_wr, xn_wr, xs_wr, if_true, if_false, and_self, Int.reduceEq, Int.reduceLT, Int.reduceLE, Int.reduceNeg, Int.le_refl, Int.reduceMod]
          refine fun a ha w w0 w1 => ?_
          rw [show 246 * (t : Int) + 6 * (a : Int) + w = 246 * (t : Int) + (6 * (a : Int) + w) by omega, q1 _ (by omega) (by omega)]
          simp only [true_and, and_true, false_and, and_false, forall_eq, forall_eq', xi_wi, xr_wi, xt_wi, xl_wi, xn_wi, xs_wi, xi_wr, xr_wr, xt_wr, xl_wr, xn_wr, xs_wr, if_true, if_false, and_self, Int.reduceEq, Int.reduceLT, Int.reduceLE, Int.reduceNeg, Int.le_refl, Int.reduceMod]
          exact St a ha w w0 w1
        · rw [if_neg c2]
          have z := B (j - 1) (by omega) (by omega)
          rw [show (((j - 1 : Nat) : Int) + 1) = (j : Int) by omega] at z
          exact high _ _ (by omega) z (ly _ (getD_mem _ (by omega)))
  induction t with
  | zero =>
    intro h u1 u5 u6 u7 u8 u9 S St e61 ly ht A B C H
    apply L_R_layFrom_7
    rw [if_neg (by decide)]
    simp only [srt S, srl S, srf S, true_and, and_true, false_and, and_false, forall_eq, forall_eq', xi_wi, xr_wi, xt_wi, xl_wi, xn_wi, xs_wi, xi_wr, xr_wr, xt_wr, xl_wr, xn_wr, xs_wr, if_true, if_false, and_self, Int.reduceEq, Int.reduceLT, Int.reduceLE, Int.reduceNeg, Int.le_refl, Int.reduceMod]
    refine ⟨⟨by decide, by omega⟩, ⟨by decide, by omega⟩, ?_⟩
    exact fin 0 h u1 u6 u7 u8 u9 S St e61 ly ht A B (fun h' F O => H h' 0 ht F O C (Or.inl rfl))
  | succ t ih =>
    intro h u1 u5 u6 u7 u8 u9 S St e61 ly ht A B C H
    have At := A t (by omega)
    apply L_R_layFrom_7
    rw [if_pos (by omega), xw_id (a := ((t + 1 : Nat) : Int) - 1) (by omega) (by omega), show ((t + 1 : Nat) : Int) - 1 = (t : Int) by omega]
    simp only [srt S, srl S, srf S, true_and, and_true, false_and, and_false, forall_eq, forall_eq', xi_wi, xr_wi, xt_wi, xl_wi, xn_wi, xs_wi, xi_wr, xr_wr, xt_wr, xl_wr, xn_wr, xs_wr, if_true, if_false, and_self, Int.reduceEq, Int.reduceLT, Int.reduceLE, Int.reduceNeg, Int.le_refl, Int.reduceMod]
    rw [At.1]
    refine ⟨⟨by omega, by omega⟩, ?_⟩
    by_cases c : prR x < prR (P.getD t [])
    · rw [if_pos c]
      refine ⟨⟨by omega, by omega⟩, ⟨by omega, by omega⟩, ⟨by omega, by omega⟩, ⟨by omega, by omega⟩, ?_⟩
      have F0 : Fr [108, 109, 110] [(59, 61)] h ((h.wi 108 ((t + 1 : Nat) : Int) (prR (P.getD t []))).wi 109 ((t + 1 : Nat) : Int) (h.i 109 (t : Int))) := Fr_cell (Fr_cell (Fr_refl _ _ _) _ _ (by decide)) _ _ (by decide)
      have S2 : SR ((h.wi 108 ((t + 1 : Nat) : Int) (prR (P.getD t []))).wi 109 ((t + 1 : Nat) : Int) (h.i 109 (t : Int))) := SR_2 (h := h) rfl S
      refine c_lf_39 (t := ((t + 1 : Nat) : Int)) (by omega) (by omega) 246 _ 0 S2 (by decide) (by decide) (fun h' u5 F q1 q2 => ?_)
      rw [show ((t + 1 : Nat) : Int) - 1 = (t : Int) by omega]
      have r108 : h'.i 108 = ((h.wi 108 ((t + 1 : Nat) : Int) (prR (P.getD t []))).wi 109 ((t + 1 : Nat) : Int) (h.i 109 (t : Int))).i 108 := Fr_row F (by decide) (by decide)
      have r109 : h'.i 109 = ((h.wi 108 ((t + 1 : Nat) : Int) (prR (P.getD t []))).wi 109 ((t + 1 : Nat) : Int) (h.i 109 (t : Int))).i 109 := Fr_row F (by decide) (by decide)
      have r111 : h'.i 111 = h.i 111 := by rw [Fr_row F (by decide) (by decide)]; funext j; simp only [true_and, and_true, false_and, and_false, forall_eq, forall_eq', xi_wi, xr_wi, xt_wi, xl_wi, xn_wi, xs_wi, xi_wr, xr_wr, xt_wr, xl_wr, xn_wr, xs_wr, if_true, if_false, and_self, Int.reduceEq, Int.reduceLT, Int.reduceLE, Int.reduceNeg, Int.le_refl, Int.reduceMod]
      have G : Fr [108, 109, 110] [(59, 61)] h h' := Fr_trans F0 (Fr_mono F (by decide) (fun q m => absurd m List.not_mem_nil))
      refine ih h' u1 u5 u6 u7 u8 u9 (SR_2 F.1 S2) (by unfold StepR at St ⊢; rw [r111]; exact St) (by rw [Fr_row F (c := 59) (by decide) (by decide)]; simp only [true_and, and_true, false_and, and_false, forall_eq, forall_eq', xi_wi, xr_wi, xt_wi, xl_wi, xn_wi, xs_wi, xi_wr, xr_wr, xt_wr, xl_wr, xn_wr, xs_wr, if_true, if_false, and_self, Int.reduceEq, Int.reduceLT, Int.reduceLE, Int.reduceNeg, Int.le_refl, Int.reduceMod]; exact e61) ly (by omega) (fun j hj => ?_) (fun j h1 h2 => ?_) (fun j h1 h2 => ?_) (fun h2 t' a1 a2 a3 a4 a5 => H h2 t' a1 (Fr_trans G a2) a3 a4 a5)
      · have z := A j (by omega)
        have lj := ly _ (getD_mem [] (show j < P.length by omega))
        unfold RdC at z ⊢
        rw [r108, r109]
        simp only [true_and, and_true, false_and, and_false, forall_eq, forall_eq', xi_wi, xr_wi, xt_wi, xl_wi, xn_wi, xs_wi, xi_wr, xr_wr, xt_wr, xl_wr, xn_wr, xs_wr, if_true, if_false, and_self, Int.reduceEq, Int.reduceLT, Int.reduceLE, Int.reduceNeg, Int.le_refl, Int.reduceMod]
        have ne : ¬ ((j : Int) = ((t + 1 : Nat) : Int)) := by omega
        simp only [ne, if_false]
        refine ⟨z.1, z.2.1, fun a ha w w0 w1 => ?_⟩
        rw [q2 _ (by omega)]
        simp only [true_and, and_true, false_and, and_false, forall_eq, forall_eq', xi_wi, xr_wi, xt_wi, xl_wi, xn_wi, xs_wi, xi_wr, xr_wr, xt_wr, xl_wr, xn_wr, xs_wr, if_true, if_false, and_self, Int.reduceEq, Int.reduceLT, Int.reduceLE, Int.reduceNeg, Int.le_refl, Int.reduceMod]
        exact z.2.2 a ha w w0 w1
      · have lj := ly _ (getD_mem [] (show j < P.length by omega))
        by_cases cj : j = t
        · rw [cj]
          rw [cj] at lj
          unfold RdC at At ⊢
          rw [r108, r109]
          simp only [true_and, and_true, false_and, and_false, forall_eq, forall_eq', xi_wi, xr_wi, xt_wi, xl_wi, xn_wi, xs_wi, xi_wr, xr_wr, xt_wr, xl_wr, xn_wr, xs_wr, if_true, if_false, and_self, Int.reduceEq, Int.reduceLT, Int.reduceLE, Int.reduceNeg, Int.le_refl, Int.reduceMod]
          have eq : ((t : Int) + 1 = ((t + 1 : Nat) : Int)) := by push_cast; rfl
          simp only [eq, if_true]
          refine ⟨trivial, At.2.1, fun a ha w w0 w1 => ?_⟩
          rw [show 246 * ((t + 1 : Nat) : Int) + 6 * (a : Int) + w = 246 * ((t + 1 : Nat) : Int) + (6 * (a : Int) + w) by omega, q1 _ (by omega) (by omega), show 246 * (((t + 1 : Nat) : Int) - 1) + (6 * (a : Int) + w) = 246 * (t : Int) + 6 * (a : Int) + w by push_cast; omega]
          simp only [true_and, and_true, false_and, and_false, forall_eq, forall_eq', xi_wi, xr_wi, xt_wi, xl_wi, xn_wi, xs_wi, xi_wr, xr_wr, xt_wr, xl_wr, xn_wr, xs_wr, if_true, if_false, and_self, Int.reduceEq, Int.reduceLT, Int.reduceLE, Int.reduceNeg, Int.le_refl, Int.reduceMod]
          exact At.2.2 a ha w w0 w1
        · have z := B j (by omega) h2
          unfold RdC at z ⊢
          rw [r108, r109]
          simp only [true_and, and_true, false_and, and_false, forall_eq, forall_eq', xi_wi, xr_wi, xt_wi, xl_wi, xn_wi, xs_wi, xi_wr, xr_wr, xt_wr, xl_wr, xn_wr, xs_wr, if_true, if_false, and_self, Int.reduceEq, Int.reduceLT, Int.reduceLE, Int.reduceNeg, Int.le_refl, Int.reduceMod]
          have ne : ¬ ((j : Int) + 1 = ((t + 1 : Nat) : Int)) := by omega
          simp only [ne, if_false]
          refine ⟨z.1, z.2.1, fun a ha w w0 w1 => ?_⟩
          rw [q2 _ (by omega)]
          simp only [true_and, and_true, false_and, and_false, forall_eq, forall_eq', xi_wi, xr_wi, xt_wi, xl_wi, xn_wi, xs_wi, xi_wr, xr_wr, xt_wr, xl_wr, xn_wr, xs_wr, if_true, if_false, and_self, Int.reduceEq, Int.reduceLT, Int.reduceLE, Int.reduceNeg, Int.le_refl, Int.reduceMod]
          exact z.2.2 a ha w w0 w1
      · by_cases cj : j = t
        · rw [cj]; exact c
        · exact C j (by omega) h2
    · rw [if_neg c]
      refine ⟨⟨by omega, by omega⟩, ⟨by omega, by omega⟩, ?_⟩
      exact fin (t + 1) h u1 u6 u7 u8 u9 S St e61 ly ht A B (fun h' F O => H h' (t + 1) ht F O C (Or.inr (by show prR (P.getD t []) ≤ prR x; omega)))
end YL
