/-! word: the order of the letters, the row of entries, what the reference writes -/
theorem lexl_eqL {f f' g : Int → Int} {m m' n : Int} (E : eqP f f' m m') (Z : lexl f g m n) : lexl f' g m' n := by
  obtain ⟨k, k0, k1, k2, k3, k4⟩ := Z
  obtain ⟨e1, e2⟩ := E
  subst e1
  refine ⟨k, k0, k1, k2, fun j j0 j1 => by rw [← e2 j j0 (by omega)]; exact k3 j j0 j1, ?_⟩
  rcases k4 with z | z
  · exact Or.inl z
  · exact Or.inr ⟨z.1, z.2.1, by rw [← e2 k k0 z.1]; exact z.2.2⟩
theorem lexl_tr {f g e : Int → Int} {m n q : Int} (A : lexl f g m n) (B : lexl g e n q) : lexl f e m q := by
  obtain ⟨k, k0, k1, k2, k3, k4⟩ := A
  obtain ⟨i, i0, i1, i2, i3, i4⟩ := B
  by_cases c : k < i
  · refine ⟨k, k0, k1, by omega, fun j j0 j1 => by rw [k3 j j0 j1]; exact i3 j j0 (by omega), ?_⟩
    rcases k4 with z | z
    · exact Or.inl ⟨z.1, by omega⟩
    · exact Or.inr ⟨z.1, by omega, by rw [← i3 k k0 c]; exact z.2.2⟩
  by_cases c2 : i < k
  · refine ⟨i, i0, by omega, by omega, fun j j0 j1 => by rw [k3 j j0 (by omega)]; exact i3 j j0 j1, ?_⟩
    rcases i4 with z | z
    · omega
    · exact Or.inr ⟨by omega, z.2.1, by rw [k3 i i0 c2]; exact z.2.2⟩
  · have : i = k := by omega
    subst this
    refine ⟨i, i0, k1, i2, fun j j0 j1 => by rw [k3 j j0 j1]; exact i3 j j0 j1, ?_⟩
    rcases k4 with z | z
    · rcases i4 with y | y
      · omega
      · exact Or.inl ⟨z.1, by omega⟩
    · rcases i4 with y | y
      · omega
      · exact Or.inr ⟨z.1, y.2.1, by omega⟩
theorem lexl_tot {f g : Int → Int} {m n : Int} (m0 : 0 ≤ m) (n0 : 0 ≤ n) (a : ¬ lexl f g m n) (b : ¬ eqP f g m n) : lexl g f n m := by
  have key : ∀ t : Nat, (t : Int) ≤ m → (t : Int) ≤ n → (∀ j : Int, 0 ≤ j → j < t → f j = g j) ∨ ∃ k : Int, 0 ≤ k ∧ k < t ∧ (∀ j : Int, 0 ≤ j → j < k → f j = g j) ∧ f k ≠ g k := by
    intro t
    induction t with
    | zero => intro _ _; exact Or.inl (fun j j0 j1 => by omega)
    | succ t ih =>
      intro h1 h2
      rcases ih (by omega) (by omega) with z | ⟨k, k0, k1, k2, k3⟩
      · by_cases c : f (t : Int) = g (t : Int)
        · exact Or.inl (fun j j0 j1 => by
            by_cases y : j = (t : Int)
            · rw [y]; exact c
            · exact z j j0 (by push_cast at j1; omega))
        · exact Or.inr ⟨t, by omega, by push_cast; omega, z, c⟩
      · exact Or.inr ⟨k, k0, by push_cast; omega, k2, k3⟩
  by_cases c : m ≤ n
  · rcases key m.toNat (by omega) (by omega) with z | ⟨k, k0, k1, k2, k3⟩
    · by_cases c2 : m = n
      · exact absurd ⟨c2, fun j j0 j1 => z j j0 (by omega)⟩ b
      · exact absurd ⟨m, m0, Int.le_refl _, c, fun j j0 j1 => z j j0 (by omega), Or.inl ⟨rfl, by omega⟩⟩ a
    · by_cases c3 : f k < g k
      · exact absurd ⟨k, k0, by omega, by omega, k2, Or.inr ⟨by omega, by omega, c3⟩⟩ a
      · exact ⟨k, k0, by omega, by omega, fun j j0 j1 => (k2 j j0 j1).symm, Or.inr ⟨by omega, by omega, by omega⟩⟩
  · rcases key n.toNat (by omega) (by omega) with z | ⟨k, k0, k1, k2, k3⟩
    · exact ⟨n, n0, Int.le_refl _, by omega, fun j j0 j1 => (z j j0 (by omega)).symm, Or.inl ⟨rfl, by omega⟩⟩
    · by_cases c3 : f k < g k
      · exact absurd ⟨k, k0, by omega, by omega, k2, Or.inr ⟨by omega, by omega, c3⟩⟩ a
      · exact ⟨k, k0, by omega, by omega, fun j j0 j1 => (k2 j j0 j1).symm, Or.inr ⟨by omega, by omega, by omega⟩⟩
section WO
variable {d : Nat}
theorem c_X_learn_39 {Q : Int → xH → Prop} {sz a p : Int} {u1 u2 : xV} (s40 : sz < 40) (a0 : 0 ≤ a) (s0 : a ≤ sz) (p130 : 130 ≤ p) : ∀ (m : Nat) (h : xH) (i : Int), SX h → h.i 7 2 = sz → i = a + m → i ≤ sz → h.tag p = 9 → (∀ j, 0 ≤ j → j < sz → h.tag (h.r 8 j) = 9) → (∀ h', SX h' → h'.tag = h.tag → h'.len = h.len → h'.nx = h.nx → h'.us = h.us → (∀ c k, ¬ (c = 7 ∧ k = 2) → h'.i c k = h.i c k) → h'.i 7 2 = sz + 1 → (∀ c k, c ≠ 8 → h'.r c k = h.r c k) → (∀ j, h'.r 8 j = if j = a then p else if a < j ∧ j ≤ i then h.r 8 (j - 1) else h.r 8 j) → Q (h.i p 6) h') → xT d M_Book_learnWord 39 [(1, 7), u1, u2, (1, p), (0, a), (0, i)] [] h (xqi Q) := by
  intro m
  induction m with
  | zero =>
    intro h i SX_ hs hi le tp tg H
    apply L_Book_learnWord_39
    rw [if_neg (by omega)]
    simp only [sxt SX_, sxl SX_, sxf SX_, hs, true_and, and_true, false_and, and_false, forall_eq, forall_eq', xi_wi, xr_wi, xt_wi, xl_wi, xn_wi, xs_wi, xi_wr, xr_wr, xt_wr, xl_wr, xn_wr, xs_wr, if_true, if_false, and_self, Int.reduceEq, Int.reduceLT, Int.reduceLE, Int.reduceNeg, Int.le_refl, Int.reduceMod]
    rw [xw_id (a := sz + 1) (by omega) (by omega)]
    have e6 : ((h.wi 7 2 (sz + 1)).wr 8 a p).i p 6 = h.i p 6 := by
      rw [xi_wr, xi_wi, if_neg (by omega)]
    have K := H ((h.wi 7 2 (sz + 1)).wr 8 a p) (SX_wr8 (h := h.wi 7 2 (sz + 1)) (SX_2 (h := h) rfl SX_)) rfl rfl rfl rfl (fun c k hc => by rw [xi_wr, xi_wi, if_neg hc]) (by rw [xi_wr, xi_wi, if_pos ⟨rfl, rfl⟩]) (fun c k hc => by rw [xr_wr, if_neg (fun z => hc z.1), xr_wi]) (fun j => by
      rw [xr_wr, xr_wi]
      by_cases z : j = a
      · rw [if_pos ⟨rfl, z⟩, if_pos z]
      · rw [if_neg (fun y => z y.2), if_neg z, if_neg (by omega)])
    exact ⟨⟨by omega, by omega, Or.inr tp⟩, tp, K⟩
  | succ m ih =>
    intro h i SX_ hs hi le tp tg H
    apply L_Book_learnWord_39
    rw [if_pos (by omega), xw_id (a := i - 1) (by omega) (by omega)]
    simp only [sxt SX_, sxl SX_, sxf SX_, true_and, and_true, false_and, and_false, forall_eq, forall_eq', xi_wi, xr_wi, xt_wi, xl_wi, xn_wi, xs_wi, xi_wr, xr_wr, xt_wr, xl_wr, xn_wr, xs_wr, if_true, if_false, and_self, Int.reduceEq, Int.reduceLT, Int.reduceLE, Int.reduceNeg, Int.le_refl, Int.reduceMod]
    have t1 := tg (i - 1) (by omega) (by omega)
    rw [xw_id (a := i + (-1)) (by omega) (by omega)]
    refine ⟨⟨by omega, by omega⟩, ⟨by omega, by omega, Or.inr t1⟩, ?_⟩
    refine ih (h.wr 8 i (h.r 8 (i - 1))) (i + (-1)) (SX_wr8 SX_) (by simp only [true_and, and_true, false_and, and_false, forall_eq, forall_eq', xi_wi, xr_wi, xt_wi, xl_wi, xn_wi, xs_wi, xi_wr, xr_wr, xt_wr, xl_wr, xn_wr, xs_wr, if_true, if_false, and_self, Int.reduceEq, Int.reduceLT, Int.reduceLE, Int.reduceNeg, Int.le_refl, Int.reduceMod]; exact hs) (by push_cast at hi; omega) (by omega) tp (fun j j0 j1 => ?_) (fun h' q1 q2 q3 q4 q5 q6 q7 q8 q9 => ?_)
    · have tj := tg j j0 j1
      simp only [true_and, and_true, false_and, and_false, forall_eq, forall_eq', xi_wi, xr_wi, xt_wi, xl_wi, xn_wi, xs_wi, xi_wr, xr_wr, xt_wr, xl_wr, xn_wr, xs_wr, if_true, if_false, and_self, Int.reduceEq, Int.reduceLT, Int.reduceLE, Int.reduceNeg, Int.le_refl, Int.reduceMod]
      by_cases c : j = i
      · rw [if_pos c]; exact t1
      · rw [if_neg c]; exact tj
    · refine H h' q1 q2 q3 q4 q5 q6 q7 (fun c k hc => ?_) (fun j => ?_)
      · rw [q8 c k hc, xr_wr, if_neg (fun z => hc z.1)]
      · rw [q9]
        by_cases z : j = a
        · rw [if_pos z, if_pos z]
        · rw [if_neg z, if_neg z]
          by_cases y : a < j ∧ j ≤ i + (-1)
          · rw [if_pos y, if_pos (by omega), xr_wr, if_neg (by omega)]
          · rw [if_neg y, xr_wr]
            by_cases w : j = i
            · rw [if_pos ⟨rfl, w⟩, if_pos (by omega), w]
            · rw [if_neg (fun t => w t.2), if_neg (by omega)]
/-- the reference's word w is now the pieces B -/
def WrW (h h' : xH) (w : Int) (B : Pcs) : Prop := Fr [68, 69, 70, 71, 72] [] h h' ∧ (∀ v, h'.i 69 v = if v = w then (((ptx B).length : Nat) : Int) else h.i 69 v) ∧ (∀ v, h'.i 70 v = if v = w then ((B.length : Nat) : Int) else h.i 70 v) ∧ (∀ k : Nat, k < (ptx B).length → h'.i 68 (16 * w + k) = (ptx B).getD k 0) ∧ (∀ j : Nat, j < B.length → h'.i 71 (16 * w + j) = (((B.getD j pc0).1.length : Nat) : Int) ∧ h'.i 72 (16 * w + j) = (B.getD j pc0).2) ∧ ∀ k, (k < 16 * w ∨ 16 * w + 16 ≤ k) → h'.i 68 k = h.i 68 k ∧ h'.i 71 k = h.i 71 k ∧ h'.i 72 k = h.i 72 k
theorem c_R_word77 {Q : Int → xH → Prop} {w : Int} {B : Pcs} {u1 : xV} (w0 : 0 ≤ w) (w1 : w < 40) (b16 : B.length ≤ 16) : ∀ (m j : Nat) (h : xH), j + m = B.length → SR h → RWd h B → (∀ h', Fr [71, 72] [] h h' → (∀ i : Nat, j ≤ i → i < B.length → h'.i 71 (16 * w + i) = (((B.getD i pc0).1.length : Nat) : Int) ∧ h'.i 72 (16 * w + i) = (B.getD i pc0).2) → (∀ k, (k < 16 * w + j ∨ 16 * w + 16 ≤ k) → h'.i 71 k = h.i 71 k ∧ h'.i 72 k = h.i 72 k) → Q ((B.length : Nat) : Int) h') → xT d M_R_word 77 [(1, 59), u1, (0, ((B.length : Nat) : Int)), (0, w), (0, (j : Int))] [] h (xqi Q) := by
  intro m
  induction m with
  | zero =>
    intro j h hj S W H
    apply L_R_word_77
    rw [if_neg (by omega)]
    exact H h (Fr_refl _ _ _) (fun i i0 i1 => by omega) (fun k _ => ⟨rfl, rfl⟩)
  | succ m ih =>
    intro j h hj S W H
    have wj := W.2 j (by omega)
    apply L_R_word_77
    rw [if_pos (by omega), xw_id (a := 16 * w) (by omega) (by omega), xw_id (a := 16 * w + (j : Int)) (by omega) (by omega)]
    simp only [srt S, srl S, srf S, true_and, and_true, false_and, and_false, forall_eq, forall_eq', xi_wi, xr_wi, xt_wi, xl_wi, xn_wi, xs_wi, xi_wr, xr_wr, xt_wr, xl_wr, xn_wr, xs_wr, if_true, if_false, and_self, Int.reduceEq, Int.reduceLT, Int.reduceLE, Int.reduceNeg, Int.le_refl, Int.reduceMod]
    rw [wj.1, wj.2, xw_id (a := (j : Int) + 1) (by omega) (by omega)]
    refine ⟨⟨by omega, by omega⟩, ⟨by omega, by omega⟩, ⟨by omega, by omega⟩, ⟨by omega, by omega⟩, ?_⟩
    generalize e2' : (h.wi 71 (16 * w + (j : Int)) (((B.getD j pc0).1.length : Nat) : Int)).wi 72 (16 * w + (j : Int)) (B.getD j pc0).2 = h2
    have e2 := e2'.symm
    have F2 : Fr [71, 72] [] h h2 := by rw [e2]; exact Fr_cell (Fr_cell (Fr_refl _ _ _) _ _ (by decide)) _ _ (by decide)
    have v71 : ∀ k, h2.i 71 k = if k = 16 * w + (j : Int) then (((B.getD j pc0).1.length : Nat) : Int) else h.i 71 k := fun k => by
      rw [e2, xi_wi, if_neg (fun z => absurd z.1 (by decide)), xi_wi]
      by_cases z : k = 16 * w + (j : Int)
      · rw [if_pos ⟨rfl, z⟩, if_pos z]
      · rw [if_neg (fun y => z y.2), if_neg z]
    have v72 : ∀ k, h2.i 72 k = if k = 16 * w + (j : Int) then (B.getD j pc0).2 else h.i 72 k := fun k => by
      rw [e2, xi_wi]
      by_cases z : k = 16 * w + (j : Int)
      · rw [if_pos ⟨rfl, z⟩, if_pos z]
      · rw [if_neg (fun y => z y.2), if_neg z, xi_wi, if_neg (fun z => absurd z.1 (by decide))]
    have W2 : RWd h2 B := by
      unfold RWd
      rw [Fr_row F2 (c := 73) (by decide) (by decide), Fr_row F2 (c := 74) (by decide) (by decide), Fr_row F2 (c := 75) (by decide) (by decide)]
      exact W
    have z := ih (j + 1) h2 (by omega) (SR_2 F2.1 S) W2 (fun h' F a b => H h' (Fr_trans F2 F) (fun i i0 i1 => ?_) (fun k hk => ?_))
    · rw [show (j : Int) + 1 = ((j + 1 : Nat) : Int) by push_cast; rfl]
      exact z
    · by_cases c : i = j
      · have := b (16 * w + (i : Int)) (by push_cast; omega)
        rw [this.1, this.2, v71, v72, if_pos (by omega), if_pos (by omega), c]
        exact ⟨rfl, rfl⟩
      · exact a i (by omega) i1
    · have := b k (by push_cast; omega)
      rw [this.1, this.2, v71, v72, if_neg (by omega), if_neg (by omega)]
      exact ⟨rfl, rfl⟩
theorem c_R_word57 {Q : Int → xH → Prop} {w : Int} {B : Pcs} {u1 : xV} (w0 : 0 ≤ w) (w1 : w < 40) (l16 : (ptx B).length ≤ 16) (ok : PcsOk B) : ∀ (m j : Nat) (h : xH), j + m = (ptx B).length → SR h → RWd h B → h.i 59 20 = (((ptx B).length : Nat) : Int) → (∀ h', Fr [68] [] h h' → (∀ i : Nat, j ≤ i → i < (ptx B).length → h'.i 68 (16 * w + i) = (ptx B).getD i 0) → (∀ k, (k < 16 * w + j ∨ 16 * w + 16 ≤ k) → h'.i 68 k = h.i 68 k) → xT d M_R_word 77 [(1, 59), u1, (0, ((B.length : Nat) : Int)), (0, w), (0, 0)] [] h' (xqi Q)) → xT d M_R_word 57 [(1, 59), u1, (0, ((B.length : Nat) : Int)), (0, w), (0, (j : Int))] [] h (xqi Q) := by
  intro m
  induction m with
  | zero =>
    intro j h hj S W t H
    apply L_R_word_57
    rw [show h.i 59 20 = (((ptx B).length : Nat) : Int) from t, if_neg (by omega)]
    exact ⟨(srt S).1, H h (Fr_refl _ _ _) (fun i i0 i1 => by omega) (fun k _ => rfl)⟩
  | succ m ih =>
    intro j h hj S W t H
    have wj := W.1 j (by omega)
    have lc : 97 ≤ (ptx B).getD j 0 ∧ (ptx B).getD j 0 ≤ 122 := by
      have mm := getD_mem (0 : Int) (show j < (ptx B).length by omega)
      unfold ptx at mm ⊢
      rw [List.mem_flatten] at mm
      obtain ⟨D, mD, mc⟩ := mm
      rw [List.mem_map] at mD
      obtain ⟨p, mp, ep⟩ := mD
      rw [← ep] at mc
      exact (ok p mp).2.1 _ mc
    apply L_R_word_57
    rw [show h.i 59 20 = (((ptx B).length : Nat) : Int) from t, if_pos (by omega), xw_id (a := 16 * w) (by omega) (by omega), xw_id (a := 16 * w + (j : Int)) (by omega) (by omega)]
    simp only [srt S, srl S, srf S, true_and, and_true, false_and, and_false, forall_eq, forall_eq', xi_wi, xr_wi, xt_wi, xl_wi, xn_wi, xs_wi, xi_wr, xr_wr, xt_wr, xl_wr, xn_wr, xs_wr, if_true, if_false, and_self, Int.reduceEq, Int.reduceLT, Int.reduceLE, Int.reduceNeg, Int.le_refl, Int.reduceMod]
    rw [show h.i 73 (j : Int) = (ptx B).getD j 0 from wj, show xw8 ((ptx B).getD j 0) = (ptx B).getD j 0 by unfold xw8; omega, xw_id (a := (j : Int) + 1) (by omega) (by omega)]
    refine ⟨⟨by omega, by omega⟩, ⟨by omega, by omega⟩, ?_⟩
    generalize e2' : h.wi 68 (16 * w + (j : Int)) ((ptx B).getD j 0) = h2
    have e2 := e2'.symm
    have F2 : Fr [68] [] h h2 := by rw [e2]; exact Fr_cell (Fr_refl _ _ _) _ _ (by decide)
    have v68 : ∀ k, h2.i 68 k = if k = 16 * w + (j : Int) then (ptx B).getD j 0 else h.i 68 k := fun k => by
      rw [e2, xi_wi]
      by_cases z : k = 16 * w + (j : Int)
      · rw [if_pos ⟨rfl, z⟩, if_pos z]
      · rw [if_neg (fun y => z y.2), if_neg z]
    have W2 : RWd h2 B := by
      unfold RWd
      rw [Fr_row F2 (c := 73) (by decide) (by decide), Fr_row F2 (c := 74) (by decide) (by decide), Fr_row F2 (c := 75) (by decide) (by decide)]
      exact W
    have z := ih (j + 1) h2 (by omega) (SR_2 F2.1 S) W2 (by rw [F2.2 59 20 (by decide) (by decide)]; exact t) (fun h' F a b => H h' (Fr_trans F2 F) (fun i i0 i1 => ?_) (fun k hk => ?_))
    · rw [show (j : Int) + 1 = ((j + 1 : Nat) : Int) by push_cast; rfl]
      exact z
    · by_cases c : i = j
      · rw [b (16 * w + (i : Int)) (by push_cast; omega), v68, if_pos (by omega), c]
      · exact a i (by omega) i1
    · rw [b k (by push_cast; omega), v68, if_neg (by omega)]
theorem c_R_word57' {Q : Int → xH → Prop} {w : Int} {B : Pcs} {h h0 : xH} {u1 : xV} (w0 : 0 ≤ w) (w1 : w < 40) (l16 : (ptx B).length ≤ 16) (ok : PcsOk B) (S : SR h) (W : RWd h B) (t : h.i 59 20 = (((ptx B).length : Nat) : Int)) (e : h = (h0.wi 69 w (((ptx B).length : Nat) : Int)).wi 70 w ((B.length : Nat) : Int)) (H : ∀ h', WrW h0 h' w B → Q ((B.length : Nat) : Int) h') : xT d M_R_word 57 [(1, 59), u1, (0, ((B.length : Nat) : Int)), (0, w), (0, 0)] [] h (xqi Q) := by
  have pl := pcs_len ok
  refine c_R_word57 w0 w1 l16 ok (ptx B).length 0 h (Nat.zero_add _) S W t (fun h1 F1 a1 b1 => ?_)
  have W1 : RWd h1 B := by
    unfold RWd
    rw [Fr_row F1 (c := 73) (by decide) (by decide), Fr_row F1 (c := 74) (by decide) (by decide), Fr_row F1 (c := 75) (by decide) (by decide)]
    exact W
  refine c_R_word77 w0 w1 (by omega) B.length 0 h1 (Nat.zero_add _) (SR_2 F1.1 S) W1 (fun h2 F2 a2 b2 => H h2 ?_)
  have F0 : Fr [69, 70] [] h0 h := by rw [e]; exact Fr_cell (Fr_cell (Fr_refl _ _ _) _ _ (by decide)) _ _ (by decide)
  have e68 : h.i 68 = h0.i 68 := Fr_row F0 (by decide) (by decide)
  have e71 : h1.i 71 = h0.i 71 := by rw [Fr_row F1 (by decide) (by decide), Fr_row F0 (by decide) (by decide)]
  have e72 : h1.i 72 = h0.i 72 := by rw [Fr_row F1 (by decide) (by decide), Fr_row F0 (by decide) (by decide)]
  have f68 : h2.i 68 = h1.i 68 := Fr_row F2 (by decide) (by decide)
  have f69 : h2.i 69 = h.i 69 := by rw [Fr_row F2 (by decide) (by decide), Fr_row F1 (by decide) (by decide)]
  have f70 : h2.i 70 = h.i 70 := by rw [Fr_row F2 (by decide) (by decide), Fr_row F1 (by decide) (by decide)]
  refine ⟨Fr_trans (Fr_mono F0 (by decide) (fun c m => m)) (Fr_trans (Fr_mono F1 (by decide) (fun c m => m)) (Fr_mono F2 (by decide) (fun c m => m))), fun v => ?_, fun v => ?_, fun k hk => by rw [f68]; exact a1 k (Nat.zero_le _) hk, fun j hj => a2 j (Nat.zero_le _) hj, fun k hk => ?_⟩
  · rw [f69, e, xi_wi, if_neg (fun z => absurd z.1 (by decide)), xi_wi]
    by_cases z : v = w
    · rw [if_pos ⟨rfl, z⟩, if_pos z]
    · rw [if_neg (fun y => z y.2), if_neg z]
  · rw [f70, e, xi_wi]
    by_cases z : v = w
    · rw [if_pos ⟨rfl, z⟩, if_pos z]
    · rw [if_neg (fun y => z y.2), if_neg z, xi_wi, if_neg (fun z => absurd z.1 (by decide))]
  · have b := b2 k (by omega)
    rw [f68, b1 k (by omega), e68, b.1, b.2, e71, e72]
    exact ⟨rfl, rfl, rfl⟩
end WO
