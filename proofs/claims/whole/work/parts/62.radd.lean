/-! scanning: the reference's rows of options -/
def scEnc (E : SEn) (s : Stt) : Int := if s.2.1 = -2 then 70848 else if s.2.1 = -1 then 0 else (((9 * s.1 + s.2.1 + 1) * 12 + s.2.2.1) * 4 + s.2.2.2 / 4) * 4 + cN E s.2.2.1 s.2.2.2
def kle (a b : Key) : Prop := a.1 < b.1 ∨ (a.1 = b.1 ∧ (a.2.1 < b.2.1 ∨ (a.2.1 = b.2.1 ∧ (a.2.2.1 < b.2.2.1 ∨ (a.2.2.1 = b.2.2.1 ∧ (a.2.2.2.1 < b.2.2.2.1 ∨ (a.2.2.2.1 = b.2.2.2.1 ∧ a.2.2.2.2 ≤ b.2.2.2.2)))))))
theorem kle_tr {a b c : Key} (h1 : kle a b) (h2 : kle b c) : kle a c := by unfold kle at *; omega
theorem kle_tot {a b : Key} (h : ¬ kle a b) : kle b a := by unfold kle at *; omega
theorem kle_rf (a : Key) : kle a a := by unfold kle; omega
theorem kle_an {a b : Key} (h1 : kle a b) (h2 : kle b a) : a = b := by
  obtain ⟨a1, a2, a3, a4, a5⟩ := a
  obtain ⟨b1, b2, b3, b4, b5⟩ := b
  unfold kle at *
  simp only at h1 h2
  rw [show a1 = b1 by omega, show a2 = b2 by omega, show a3 = b3 by omega, show a4 = b4 by omega, show a5 = b5 by omega]
def Srt (L : List Op_) : Prop := ∀ i j : Nat, i < j → j < L.length → kle (L.getD i op0).1 (L.getD j op0).1
theorem insGet {L : List Op_} {o : Op_} {t : Nat} (ht : t ≤ L.length) (j : Nat) : (L.take t ++ o :: L.drop t).getD j op0 = if j < t then L.getD j op0 else if j = t then o else L.getD (j - 1) op0 := by
  rw [List.getD_eq_getElem?_getD, List.getElem?_append, List.length_take, Nat.min_eq_left ht]
  by_cases c : j < t
  · rw [if_pos c, if_pos c, List.getElem?_take, if_pos c, List.getD_eq_getElem?_getD]
  · rw [if_neg c, if_neg c]
    by_cases c2 : j = t
    · rw [if_pos c2, c2, Nat.sub_self]; rfl
    · rw [if_neg c2, show j - t = (j - t - 1) + 1 by omega, List.getElem?_cons_succ, List.getElem?_drop, show t + (j - t - 1) = j - 1 by omega, List.getD_eq_getElem?_getD]
theorem insLen {L : List Op_} {o : Op_} {t : Nat} (ht : t ≤ L.length) : (L.take t ++ o :: L.drop t).length = L.length + 1 := by
  rw [List.length_append, List.length_cons, List.length_take, List.length_drop]; omega
theorem insPerm {L : List Op_} {o : Op_} {t : Nat} : (L.take t ++ o :: L.drop t).Perm (L ++ [o]) := by
  refine (List.perm_middle).trans ?_
  rw [List.take_append_drop]
  exact (List.perm_append_singleton o L).symm
theorem insSrt {L : List Op_} {o : Op_} {t : Nat} (ht : t ≤ L.length) (S : Srt L) (h1 : ∀ j, t ≤ j → j < L.length → ¬ kle (L.getD j op0).1 o.1) (h0 : t = 0 ∨ kle (L.getD (t - 1) op0).1 o.1) : Srt (L.take t ++ o :: L.drop t) := by
  intro i j hij hj
  rw [insLen ht] at hj
  rw [insGet ht, insGet ht]
  by_cases ci : i < t
  · rw [if_pos ci]
    by_cases cj : j < t
    · rw [if_pos cj]; exact S i j hij (by omega)
    · rw [if_neg cj]
      by_cases cj2 : j = t
      · rw [if_pos cj2]
        have z := h0.resolve_left (by omega)
        by_cases c3 : i = t - 1
        · rw [c3]; exact z
        · exact kle_tr (S i (t - 1) (by omega) (by omega)) z
      · rw [if_neg cj2]; exact S i (j - 1) (by omega) (by omega)
  · rw [if_neg ci, if_neg (by omega : ¬ j < t), if_neg (by omega : ¬ j = t)]
    by_cases ci2 : i = t
    · rw [if_pos ci2]; exact kle_tot (h1 (j - 1) (by omega) (by omega))
    · rw [if_neg ci2]; exact S (i - 1) (j - 1) (by omega) (by omega)
def OCell (h : xH) (E : SEn) (a : Int) (o : Op_) : Prop := h.i 98 a = o.1.1 ∧ h.i 99 a = o.1.2.1 ∧ h.i 100 a = o.1.2.2.1 ∧ h.i 101 a = o.1.2.2.2.1 ∧ h.i 102 a = o.1.2.2.2.2 ∧ h.i 103 a = scEnc E o.2.2 ∧ h.i 104 a = o.2.1
def ORow (h : xH) (E : SEn) (v : Int) (L : List Op_) : Prop := h.i 105 v = (L.length : Nat) ∧ L.length ≤ 64 ∧ ∀ j : Nat, j < L.length → OCell h E (64 * v + j) (L.getD j op0)
def RowP (h : xH) (E : SEn) (v : Int) (A : List Op_) : Prop := ∃ L, ORow h E v L ∧ Srt L ∧ L.Perm A
def FrO (v : Int) (h h' : xH) : Prop := Fr [98, 99, 100, 101, 102, 103, 104, 105] [] h h' ∧ (∀ c k, 98 ≤ c → c ≤ 104 → (k < 64 * v ∨ 64 * v + 64 ≤ k) → h'.i c k = h.i c k) ∧ ∀ k, k ≠ v → h'.i 105 k = h.i 105 k
theorem FrO_refl (v : Int) (h : xH) : FrO v h h := ⟨Fr_refl _ _ _, fun _ _ _ _ _ => rfl, fun _ _ => rfl⟩
theorem FrO_trans {v : Int} {h h1 h2 : xH} (a : FrO v h h1) (b : FrO v h1 h2) : FrO v h h2 := ⟨Fr_trans a.1 b.1, fun c k u w x => (b.2.1 c k u w x).trans (a.2.1 c k u w x), fun k x => (b.2.2 k x).trans (a.2.2 k x)⟩
theorem FrO_59 {v : Int} {h h' : xH} (a : FrO v h h') : h'.i 59 = h.i 59 := Fr_row a.1 (by decide) (by decide)
section RA
variable {l f : Int} {E : SEn} {d : Nat} {v : Int}
theorem REn_o {h h' : xH} (F : FrO v h h') (R : REn h l f E) : REn h' l f E := REn_fr F.1 (by decide) R
theorem FrO_w {h h1 : xH} (F : FrO v h h1) {c k x : Int} (h0 : 98 ≤ c) (h2 : c ≤ 104) (k0 : 64 * v ≤ k) (k1 : k < 64 * v + 64) : FrO v h (h1.wi c k x) := by
  refine ⟨Fr_cell F.1 _ _ (by simp only [List.mem_cons, List.not_mem_nil, or_false]; omega), fun b j u w z => ?_, fun j hj => ?_⟩
  · rw [xi_wi, if_neg (by omega)]; exact F.2.1 b j u w z
  · rw [xi_wi, if_neg (by omega)]; exact F.2.2 j hj
theorem FrO_w7 {h : xH} {k a1 a2 a3 a4 a5 a6 a7 : Int} (k0 : 64 * v ≤ k) (k1 : k < 64 * v + 64) : FrO v h (((((((h.wi 98 k a1).wi 99 k a2).wi 100 k a3).wi 101 k a4).wi 102 k a5).wi 103 k a6).wi 104 k a7) := by
  refine FrO_w ?_ (by decide) (by decide) k0 k1
  refine FrO_w ?_ (by decide) (by decide) k0 k1
  refine FrO_w ?_ (by decide) (by decide) k0 k1
  refine FrO_w ?_ (by decide) (by decide) k0 k1
  refine FrO_w ?_ (by decide) (by decide) k0 k1
  refine FrO_w ?_ (by decide) (by decide) k0 k1
  exact FrO_w (FrO_refl v h) (by decide) (by decide) k0 k1
theorem FrO_n {h h1 : xH} (F : FrO v h h1) {x : Int} : FrO v h (h1.wi 105 v x) := by
  refine ⟨Fr_cell F.1 _ _ (by decide), fun b j u w z => ?_, fun j hj => ?_⟩
  · rw [xi_wi, if_neg (by omega)]; exact F.2.1 b j u w z
  · rw [xi_wi, if_neg (by omega)]; exact F.2.2 j hj
theorem c_R_isBehind {h : xH} {Q : Int → xH → Prop} {a : Int} {o p : Op_} (S : SR h) (a0 : 0 ≤ a) (a1 : a < 2688) (C : OCell h E a o) (H1 : kle o.1 p.1 → Q 0 h) (H0 : ¬ kle o.1 p.1 → Q 1 h) : xCi (d + 1) M_R_isBehind [(1, 59), (0, a), (0, p.1.1), (0, p.1.2.1), (0, p.1.2.2.1), (0, p.1.2.2.2.1), (0, p.1.2.2.2.2)] h Q := by
  obtain ⟨e1, e2, e3, e4, e5, -, -⟩ := C
  apply L_R_isBehind
  simp only [srt S, srl S, srf S, e1, e2, e3, e4, e5, true_and, and_true, false_and, and_false, forall_eq, forall_eq', xi_wi, xr_wi, xt_wi, xl_wi, xn_wi, xs_wi, xi_wr, xr_wr, xt_wr, xl_wr, xn_wr, xs_wr, if_true, if_false, and_self, Int.reduceEq, Int.reduceLT, Int.reduceLE, Int.reduceNeg, Int.le_refl, Int.reduceMod]
  have b : 0 ≤ a ∧ a < 2688 := ⟨a0, a1⟩
  unfold kle at H1 H0
  refine ⟨b, x_if (fun c1 => ⟨b, x_if (fun c2 => ⟨b, x_if (fun c3 => ⟨b, x_if (fun c4 => ⟨b, x_if (fun c5 => H0 (by omega)) (fun c5 => H1 (by omega))⟩) (fun c4 => ⟨b, x_if (fun c5 => H0 (by omega)) (fun c5 => H1 (by omega))⟩)⟩) (fun c3 => ⟨b, x_if (fun c5 => H0 (by omega)) (fun c5 => H1 (by omega))⟩)⟩) (fun c2 => ⟨b, x_if (fun c5 => H0 (by omega)) (fun c5 => H1 (by omega))⟩)⟩) (fun c1 => ⟨b, x_if (fun c5 => H0 (by omega)) (fun c5 => H1 (by omega))⟩)⟩
theorem c_add_13 {Q : xH → Prop} {o : Op_} {L : List Op_} {nx : Int} (hn : nx = scEnc E o.2.2) (v0 : 0 ≤ v) (v1 : v < 42) (ln : L.length < 64) : ∀ (t : Nat) (h : xH) (u8 : xV), SR h → h.i 59 55 = v → h.i 105 v = (L.length : Nat) → t ≤ L.length → (∀ j : Nat, j < t → OCell h E (64 * v + j) (L.getD j op0)) → (∀ j : Nat, t ≤ j → j < L.length → OCell h E (64 * v + j + 1) (L.getD j op0)) → (∀ j, t ≤ j → j < L.length → ¬ kle (L.getD j op0).1 o.1) → (∀ (h' : xH) (t' : Nat), t' ≤ L.length → FrO v h h' → ORow h' E v (L.take t' ++ o :: L.drop t') → (∀ j, t' ≤ j → j < L.length → ¬ kle (L.getD j op0).1 o.1) → (t' = 0 ∨ kle (L.getD (t' - 1) op0).1 o.1) → Q h') → xT (d + 1) M_R_add 13 [(1, 59), (0, o.1.1), (0, o.1.2.1), (0, o.1.2.2.1), (0, o.1.2.2.2.1), (0, o.1.2.2.2.2), (0, nx), (0, o.2.1), u8, (0, 64 * v + t)] [] h (xqv Q) := by
  intro t
  -- the writing
  have fin : ∀ (t : Nat) (h : xH) (u8 : xV), SR h → h.i 59 55 = v → h.i 105 v = (L.length : Nat) → t ≤ L.length → (∀ j : Nat, j < t → OCell h E (64 * v + j) (L.getD j op0)) → (∀ j : Nat, t ≤ j → j < L.length → OCell h E (64 * v + j + 1) (L.getD j op0)) → (∀ h' : xH, FrO v h h' → ORow h' E v (L.take t ++ o :: L.drop t) → Q h') → xT (d + 1) M_R_add 102 [(1, 59), (0, o.1.1), (0, o.1.2.1), (0, o.1.2.2.1), (0, o.1.2.2.2.1), (0, o.1.2.2.2.2), (0, nx), (0, o.2.1), u8, (0, 64 * v + t)] [] h (xqv Q) := by
    intro t h u8 S e55 e105 ht A B H
    apply L_R_add_102
    have b : (0 : Int) ≤ 64 * v + t ∧ 64 * v + t < 2688 := by omega
    simp only [srt S, srl S, srf S, e55, e105, true_and, and_true, false_and, and_false, forall_eq, forall_eq', xi_wi, xr_wi, xt_wi, xl_wi, xn_wi, xs_wi, xi_wr, xr_wr, xt_wr, xl_wr, xn_wr, xs_wr, if_true, if_false, and_self, Int.reduceEq, Int.reduceLT, Int.reduceLE, Int.reduceNeg, Int.le_refl, Int.reduceMod]
    refine ⟨b, b, b, b, b, b, b, ⟨by omega, by omega⟩, ⟨by omega, by omega⟩, ?_⟩
    rw [xw_id (by omega) (by omega)]
    have kb : 64 * v ≤ 64 * v + (t : Int) ∧ 64 * v + (t : Int) < 64 * v + 64 := by omega
    refine H _ (FrO_n (FrO_w7 kb.1 kb.2)) ?_
    refine ⟨?_, by rw [insLen ht]; omega, fun j hj => ?_⟩
    · rw [insLen ht]; simp only [true_and, and_true, false_and, and_false, forall_eq, forall_eq', xi_wi, xr_wi, xt_wi, xl_wi, xn_wi, xs_wi, xi_wr, xr_wr, xt_wr, xl_wr, xn_wr, xs_wr, if_true, if_false, and_self, Int.reduceEq, Int.reduceLT, Int.reduceLE, Int.reduceNeg, Int.le_refl, Int.reduceMod]; push_cast; rfl
    · rw [insLen ht] at hj
      rw [insGet ht]
      unfold OCell
      simp only [true_and, and_true, false_and, and_false, forall_eq, forall_eq', xi_wi, xr_wi, xt_wi, xl_wi, xn_wi, xs_wi, xi_wr, xr_wr, xt_wr, xl_wr, xn_wr, xs_wr, if_true, if_false, and_self, Int.reduceEq, Int.reduceLT, Int.reduceLE, Int.reduceNeg, Int.le_refl, Int.reduceMod]
      by_cases c : j < t
      · rw [if_pos c]
        have z := A j c
        unfold OCell at z
        have ne : ¬ (64 * v + (j : Int) = 64 * v + (t : Int)) := by omega
        simp only [ne, if_false]
        exact z
      · rw [if_neg c]
        by_cases c2 : j = t
        · rw [if_pos c2, c2]
          simp only [if_true]
          exact ⟨trivial, trivial, trivial, trivial, trivial, hn, trivial⟩
        · rw [if_neg c2]
          have z := B (j - 1) (by omega) (by omega)
          rw [show (64 * v + ((j - 1 : Nat) : Int) + 1) = 64 * v + (j : Int) by omega] at z
          unfold OCell at z
          have ne : ¬ (64 * v + (j : Int) = 64 * v + (t : Int)) := by omega
          simp only [ne, if_false]
          exact z
  induction t with
  | zero =>
    intro h u8 S e55 e105 ht A B C H
    apply L_R_add_13
    refine ⟨(srt S).1, ?_⟩
    rw [e55, xw_id (a := 64 * v) (by omega) (by omega), if_neg (by omega)]
    exact fin 0 h u8 S e55 e105 ht A B (fun h' F O => H h' 0 ht F O C (Or.inl rfl))
  | succ t ih =>
    intro h u8 S e55 e105 ht A B C H
    apply L_R_add_13
    refine ⟨(srt S).1, ?_⟩
    rw [e55, xw_id (a := 64 * v) (by omega) (by omega), if_pos (by omega), xw_id (a := 64 * v + ((t + 1 : Nat) : Int) - 1) (by omega) (by omega), show (64 * v + ((t + 1 : Nat) : Int) - 1) = 64 * v + (t : Int) by omega]
    refine c_R_isBehind S (by omega) (by omega) (A t (by omega)) (fun le => ?_) (fun gt => ?_)
    · rw [if_pos rfl]
      exact fin (t + 1) h u8 S e55 e105 ht A B (fun h' F O => H h' (t + 1) ht F O C (Or.inr le))
    · rw [if_neg (by decide)]
      have b : (0 : Int) ≤ 64 * v + (t : Int) ∧ 64 * v + (t : Int) < 2688 := by omega
      have b' : (0 : Int) ≤ 64 * v + ((t + 1 : Nat) : Int) ∧ 64 * v + ((t + 1 : Nat) : Int) < 2688 := by omega
      simp only [srt S, srl S, srf S, true_and, and_true, false_and, and_false, forall_eq, forall_eq', xi_wi, xr_wi, xt_wi, xl_wi, xn_wi, xs_wi, xi_wr, xr_wr, xt_wr, xl_wr, xn_wr, xs_wr, if_true, if_false, and_self, Int.reduceEq, Int.reduceLT, Int.reduceLE, Int.reduceNeg, Int.le_refl, Int.reduceMod]
      refine ⟨b, b', b, b', b, b', b, b', b, b', b, b', b, b', ?_⟩
      rw [xw_id (a := 64 * v + ((t + 1 : Nat) : Int) + -1) (by omega) (by omega), show (64 * v + ((t + 1 : Nat) : Int) + -1) = 64 * v + (t : Int) by omega]
      have F : FrO v h (((((((h.wi 98 (64 * v + ((t + 1 : Nat) : Int)) (h.i 98 (64 * v + (t : Int)))).wi 99 (64 * v + ((t + 1 : Nat) : Int)) (h.i 99 (64 * v + (t : Int)))).wi 100 (64 * v + ((t + 1 : Nat) : Int)) (h.i 100 (64 * v + (t : Int)))).wi 101 (64 * v + ((t + 1 : Nat) : Int)) (h.i 101 (64 * v + (t : Int)))).wi 102 (64 * v + ((t + 1 : Nat) : Int)) (h.i 102 (64 * v + (t : Int)))).wi 103 (64 * v + ((t + 1 : Nat) : Int)) (h.i 103 (64 * v + (t : Int)))).wi 104 (64 * v + ((t + 1 : Nat) : Int)) (h.i 104 (64 * v + (t : Int)))) := FrO_w7 (by omega) (by omega)
      refine ih _ _ (SR_2 F.1.1 S) (by rw [FrO_59 F]; exact e55) (by simp only [true_and, and_true, false_and, and_false, forall_eq, forall_eq', xi_wi, xr_wi, xt_wi, xl_wi, xn_wi, xs_wi, xi_wr, xr_wr, xt_wr, xl_wr, xn_wr, xs_wr, if_true, if_false, and_self, Int.reduceEq, Int.reduceLT, Int.reduceLE, Int.reduceNeg, Int.le_refl, Int.reduceMod]; exact e105) (by omega) (fun j hj => ?_) (fun j h1 h2 => ?_) (fun j h1 h2 => ?_) (fun h' t' q1 q2 q3 q4 q5 => H h' t' q1 (FrO_trans F q2) q3 q4 q5)
      · have z := A j (by omega)
        unfold OCell at z ⊢
        simp only [true_and, and_true, false_and, and_false, forall_eq, forall_eq', xi_wi, xr_wi, xt_wi, xl_wi, xn_wi, xs_wi, xi_wr, xr_wr, xt_wr, xl_wr, xn_wr, xs_wr, if_true, if_false, and_self, Int.reduceEq, Int.reduceLT, Int.reduceLE, Int.reduceNeg, Int.le_refl, Int.reduceMod]
        have ne : ¬ (64 * v + (j : Int) = 64 * v + ((t + 1 : Nat) : Int)) := by omega
        simp only [ne, if_false]
        exact z
      · by_cases c : j = t
        · rw [c]
          have z := A t (by omega)
          unfold OCell at z ⊢
          simp only [true_and, and_true, false_and, and_false, forall_eq, forall_eq', xi_wi, xr_wi, xt_wi, xl_wi, xn_wi, xs_wi, xi_wr, xr_wr, xt_wr, xl_wr, xn_wr, xs_wr, if_true, if_false, and_self, Int.reduceEq, Int.reduceLT, Int.reduceLE, Int.reduceNeg, Int.le_refl, Int.reduceMod]
          have eq : (64 * v + (t : Int) + 1 = 64 * v + ((t + 1 : Nat) : Int)) := by omega
          simp only [eq, if_true]
          exact z
        · have z := B j (by omega) h2
          unfold OCell at z ⊢
          simp only [true_and, and_true, false_and, and_false, forall_eq, forall_eq', xi_wi, xr_wi, xt_wi, xl_wi, xn_wi, xs_wi, xi_wr, xr_wr, xt_wr, xl_wr, xn_wr, xs_wr, if_true, if_false, and_self, Int.reduceEq, Int.reduceLT, Int.reduceLE, Int.reduceNeg, Int.le_refl, Int.reduceMod]
          have ne : ¬ (64 * v + (j : Int) + 1 = 64 * v + ((t + 1 : Nat) : Int)) := by omega
          simp only [ne, if_false]
          exact z
      · by_cases c : j = t
        · rw [c]; exact gt
        · exact C j (by omega) h2
/-- one option more -/
theorem c_R_add {h : xH} {Q : xH → Prop} {o : Op_} {A : List Op_} {nx : Int} (hn : nx = scEnc E o.2.2) (S : SR h) (hv : h.i 59 55 = v) (v0 : 0 ≤ v) (v1 : v < 42) (P : RowP h E v A) (ln : A.length < 64) (H : ∀ h', FrO v h h' → RowP h' E v (A ++ [o]) → Q h') : xCv (d + 2) M_R_add [(1, 59), (0, o.1.1), (0, o.1.2.1), (0, o.1.2.2.1), (0, o.1.2.2.2.1), (0, o.1.2.2.2.2), (0, nx), (0, o.2.1)] h Q := by
  obtain ⟨L, O, sr, p⟩ := P
  have len := p.length_eq
  apply L_R_add
  simp only [srt S, srl S, srf S, hv, true_and, and_true, false_and, and_false, forall_eq, forall_eq', xi_wi, xr_wi, xt_wi, xl_wi, xn_wi, xs_wi, xi_wr, xr_wr, xt_wr, xl_wr, xn_wr, xs_wr, if_true, if_false, and_self, Int.reduceEq, Int.reduceLT, Int.reduceLE, Int.reduceNeg, Int.le_refl, Int.reduceMod]
  rw [O.1, xw_id (a := 64 * v) (by omega) (by omega), xw_id (a := 64 * v + ((L.length : Nat) : Int)) (by omega) (by omega)]
  refine ⟨⟨by omega, by omega⟩, ?_⟩
  refine c_add_13 hn v0 v1 (by omega) L.length h _ S hv O.1 (Nat.le_refl _) O.2.2 (fun j h1 h2 => by omega) (fun j h1 h2 => by omega) (fun h' t' q1 q2 q3 q4 q5 => H h' q2 ⟨_, q3, insSrt q1 sr q4 q5, insPerm.trans (p.append_right [o])⟩)
end RA
