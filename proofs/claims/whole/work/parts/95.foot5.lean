/-! foot: the digits of a row, both sides -/
def dOk (M : Int) : Nat → Int → Prop
  | 0, _ => True
  | n + 1, r => 0 < r → (1 ≤ r % 10 ∧ r % 10 ≤ M ∧ dOk M n (r / 10))
def ndg : Nat → Int → Int
  | 0, _ => 0
  | n + 1, r => if 0 < r then 1 + ndg n (r / 10) else 0
def Mf (s : Int) : Int := if s = 0 then 3 else 4
def Rr (m row i : Int) : Int := if i = m - 1 then row else if i = m - 2 then row / 10 else if i = m - 3 then row / 100 else if i = m - 4 then row / 1000 else row / 10000
def GoodF (k s row x y m : Int) : Prop := 0 ≤ k ∧ k ≤ 11 ∧ ((s = 4 ∧ m = row ∧ 1 ≤ row ∧ row ≤ 3 ∧ 0 ≤ x ∧ x ≤ y ∧ y ≤ 3) ∨ (0 ≤ s ∧ s ≤ 3 ∧ 1 ≤ row ∧ row ≤ 4444 ∧ dOk (Mf s) 4 row ∧ m = ndg 4 row ∧ y = 0 ∧ (s = 3 → 1 ≤ x ∧ x < m) ∧ (s ≠ 3 → x = 0)))
theorem ndg_4 {row : Int} (r0 : 1 ≤ row) (r1 : row ≤ 4444) : (row < 10 ∧ ndg 4 row = 1) ∨ (10 ≤ row ∧ row < 100 ∧ ndg 4 row = 2) ∨ (100 ≤ row ∧ row < 1000 ∧ ndg 4 row = 3) ∨ (1000 ≤ row ∧ ndg 4 row = 4) := by
  unfold ndg ndg ndg ndg ndg
  rw [if_pos (by omega)]
  by_cases a : row < 10
  · rw [if_neg (by omega)]; exact Or.inl ⟨a, rfl⟩
  · rw [if_pos (by omega)]
    by_cases b : row < 100
    · rw [if_neg (by omega)]; exact Or.inr (Or.inl ⟨by omega, b, rfl⟩)
    · rw [if_pos (by omega)]
      by_cases c : row < 1000
      · rw [if_neg (by omega)]; exact Or.inr (Or.inr (Or.inl ⟨by omega, c, rfl⟩))
      · rw [if_pos (by omega)]; exact Or.inr (Or.inr (Or.inr ⟨by omega, rfl⟩))
theorem Mf_4 (s : Int) : 3 ≤ Mf s ∧ Mf s ≤ 4 := by
  unfold Mf
  by_cases c : s = 0
  · rw [if_pos c]; decide
  · rw [if_neg c]; decide
theorem Rr_ok {M m row : Int} (m4 : M ≤ 4) (r0 : 1 ≤ row) (r1 : row ≤ 4444) (D : dOk M 4 row) (hm : m = ndg 4 row) : 1 ≤ m ∧ m ≤ 4 ∧ Rr m row (m - 1) = row ∧ ∀ k, 0 ≤ k → k < m → 0 ≤ Rr m row k ∧ Rr m row k ≤ 4444 ∧ 1 ≤ Rr m row k % 10 ∧ Rr m row k % 10 ≤ 4 ∧ Rr m row (k - 1) = Rr m row k / 10 := by
  have n4 := ndg_4 r0 r1
  rw [← hm] at n4
  unfold dOk dOk dOk dOk dOk at D
  have d0 := D (by omega)
  refine ⟨by omega, by omega, by unfold Rr; rw [if_pos rfl], fun k k0 k1 => ?_⟩
  unfold Rr
  by_cases a1 : k = m - 1
  · rw [if_pos a1, if_neg (by omega), if_pos (by omega)]
    exact ⟨by omega, by omega, d0.1, by omega, rfl⟩
  have d1 := d0.2.2 (by omega)
  rw [if_neg a1]
  by_cases a2 : k = m - 2
  · rw [if_pos a2, if_neg (by omega), if_neg (by omega), if_pos (by omega)]
    exact ⟨by omega, by omega, d1.1, by omega, by omega⟩
  have d2 := d1.2.2 (by omega)
  rw [if_neg a2]
  by_cases a3 : k = m - 3
  · rw [if_pos a3, if_neg (by omega), if_neg (by omega), if_neg (by omega), if_pos (by omega)]
    exact ⟨by omega, by omega, by omega, by omega, by omega⟩
  have d3 := d2.2.2 (by omega)
  rw [if_neg a3, if_pos (by omega), if_neg (by omega), if_neg (by omega), if_neg (by omega), if_neg (by omega)]
  exact ⟨by omega, by omega, by omega, by omega, by omega⟩
section FE
variable {d : Nat}
theorem c_pl_18 {h : xH} {Q : Int → xH → Prop} {M : Int} {u0 u1 : xV} : ∀ (n : Nat) (rest cnt : Int), n ≤ 4 → 0 ≤ rest → rest < 10 ^ n → rest ≤ 4444 → 0 ≤ cnt → cnt + n ≤ 4 → (dOk M n rest → Q (cnt + ndg n rest) h) → (¬ dOk M n rest → Q 0 h) → xT d M_Metre_placesOf 18 [u0, u1, (0, M), (0, cnt), (0, rest)] [] h (xqi Q) := by
  intro n
  induction n with
  | zero =>
    intro rest cnt hn r0 r1 r4 c0 c1 H1 H0
    rw [Int.pow_zero] at r1
    apply L_Metre_placesOf_18
    rw [if_neg (by omega)]
    have := H1 trivial
    unfold ndg at this
    rw [Int.add_zero] at this
    exact this
  | succ n ih =>
    intro rest cnt hn r0 r1 r4 c0 c1 H1 H0
    rw [Int.pow_succ] at r1
    unfold dOk at H1 H0
    unfold ndg at H1
    apply L_Metre_placesOf_18
    by_cases z : 0 < rest
    · rw [if_pos z, xrem_eq r0 (by omega) (by decide) (by decide), xdiv_eq r0 (by omega) (by decide) (by decide), xw_id (a := cnt + 1) (by omega) (by omega)]
      rw [if_pos z] at H1
      by_cases a : rest % 10 < 1
      · rw [if_pos a]; exact H0 (fun t => by have := (t z).1; omega)
      · rw [if_neg a]
        by_cases b : M < rest % 10
        · rw [if_pos b]; exact H0 (fun t => by have := (t z).2.1; omega)
        · rw [if_neg b]
          intro x1 e1 x2 e2
          subst e1 e2
          refine ih (rest / 10) (cnt + 1) (by omega) (by omega) (by omega) (by omega) (by omega) (by push_cast at c1; omega) (fun t => ?_) (fun t => H0 (fun v => t (v z).2.2))
          have := H1 (fun _ => ⟨by omega, by omega, t⟩)
          rw [Int.add_assoc]; exact this
    · rw [if_neg z]
      rw [if_neg z, Int.add_zero] at H1
      exact H1 (fun t => absurd t z)
theorem c_X_places {h : xH} {Q : Int → xH → Prop} {s row : Int} (H1 : 1 ≤ row → row ≤ 4444 → dOk (Mf s) 4 row → Q (ndg 4 row) h) (H0 : ¬ (1 ≤ row ∧ row ≤ 4444 ∧ dOk (Mf s) 4 row) → Q 0 h) : xCi (d + 1) M_Metre_placesOf [(0, s), (0, row)] h Q := by
  apply L_Metre_placesOf
  have go : ∀ M, M = Mf s → (if row < 1 then Q 0 h else (if 4444 < row then Q 0 h else xT d M_Metre_placesOf 18 [(0, s), (0, row), (0, M), (0, 0), (0, row)] [] h (xqi Q))) := fun M hM => by
    subst hM
    by_cases a : row < 1
    · rw [if_pos a]; exact H0 (fun t => by have := t.1; omega)
    · rw [if_neg a]
      by_cases b : 4444 < row
      · rw [if_pos b]; exact H0 (fun t => by have := t.2.1; omega)
      · rw [if_neg b]
        refine c_pl_18 4 row 0 (by decide) (by omega) (by show row < 10000; omega) (by omega) (by decide) (by decide) (fun t => ?_) (fun t => H0 (fun v => t v.2.2))
        rw [Int.zero_add]; exact H1 (by omega) (by omega) t
  by_cases c : s = 0
  · rw [if_pos c]; exact go 3 (by unfold Mf; rw [if_pos c])
  · rw [if_neg c]; exact go 4 (by unfold Mf; rw [if_neg c])
theorem c_rf_58 {h : xH} {Q : Int → xH → Prop} {t k s row x y m : Int} {u8 : xV} : ∀ (n : Nat) (rest : Int), 0 ≤ rest → rest < 10 ^ n → rest ≤ 4444 → (dOk (Mf s) n rest → xT (d + 1) M_R_foot 58 [(1, t), (0, k), (0, s), (0, row), (0, x), (0, y), (0, m), (0, 0), u8] [] h (xqi Q)) → (¬ dOk (Mf s) n rest → Q (-2) h) → xT (d + 1) M_R_foot 58 [(1, t), (0, k), (0, s), (0, row), (0, x), (0, y), (0, m), (0, rest), u8] [] h (xqi Q) := by
  intro n
  induction n with
  | zero =>
    intro rest r0 r1 r4 H1 H0
    rw [Int.pow_zero] at r1
    have e : rest = 0 := by omega
    rw [e]; exact H1 trivial
  | succ n ih =>
    intro rest r0 r1 r4 H1 H0
    rw [Int.pow_succ] at r1
    unfold dOk at H1 H0
    by_cases z : 0 < rest
    · apply L_R_foot_58
      rw [if_pos z, xrem_eq r0 (by omega) (by decide) (by decide), xdiv_eq r0 (by omega) (by decide) (by decide)]
      have nx : 1 ≤ rest % 10 → rest % 10 ≤ Mf s → xT (d + 1) M_R_foot 58 [(1, t), (0, k), (0, s), (0, row), (0, x), (0, y), (0, m), (0, rest / 10), u8] [] h (xqi Q) := fun a b => ih (rest / 10) (by omega) (by omega) (by omega) (fun v => H1 (fun _ => ⟨a, b, v⟩)) (fun v => H0 (fun w => v (w z).2.2))
      by_cases c : s = 0
      · have e : Mf s = 3 := by unfold Mf; rw [if_pos c]
        rw [e] at nx H0
        rw [if_pos c]
        by_cases a : 1 ≤ rest % 10 ∧ rest % 10 ≤ 3
        · refine c_R_in_t a ?_
          rw [if_neg (by decide)]
          intro x1 e1
          subst e1
          exact nx a.1 a.2
        · refine c_R_in_f a ?_
          rw [if_pos rfl]
          exact H0 (fun w => a ⟨(w z).1, (w z).2.1⟩)
      · have e : Mf s = 4 := by unfold Mf; rw [if_neg c]
        rw [e] at nx H0
        rw [if_neg c]
        by_cases a : 1 ≤ rest % 10 ∧ rest % 10 ≤ 4
        · refine c_R_in_t a ?_
          rw [if_neg (by decide)]
          intro x1 e1
          subst e1
          exact nx a.1 a.2
        · refine c_R_in_f a ?_
          rw [if_pos rfl]
          exact H0 (fun w => a ⟨(w z).1, (w z).2.1⟩)
    · have e : rest = 0 := by omega
      rw [e]; exact H1 (fun v => absurd v z)
theorem c_rf_101 {Q : Int → xH → Prop} {k s row x y m : Int} {u6 : xV} (k0 : 0 ≤ k) (k1 : k ≤ 11) (m4 : m ≤ 4) (HR : ∀ k, 0 ≤ k → k < m → 0 ≤ Rr m row k ∧ Rr m row k ≤ 4444 ∧ 1 ≤ Rr m row k % 10 ∧ Rr m row k % 10 ≤ 4 ∧ Rr m row (k - 1) = Rr m row k / 10) : ∀ (n : Nat) (h : xH) (u6 : xV), SR h → (n : Int) ≤ m → (∀ h' u6 u7 u8, Fr [90] [] h h' → (∀ i, 0 ≤ i → i < n → h'.i 90 (4 * k + i) = Rr m row i % 10) → (∀ j, (j < 4 * k ∨ 4 * k + n ≤ j) → h'.i 90 j = h.i 90 j) → xT d M_R_foot 120 [(1, 59), (0, k), (0, s), (0, row), (0, x), (0, y), u6, u7, u8] [] h' (xqi Q)) → xT d M_R_foot 101 [(1, 59), (0, k), (0, s), (0, row), (0, x), (0, y), u6, (0, Rr m row ((n : Int) - 1)), (0, (n : Int) - 1)] [] h (xqi Q) := by
  intro n
  induction n with
  | zero =>
    intro h u6 S hn H
    apply L_R_foot_101
    rw [if_pos (by decide)]
    exact H h _ _ _ (Fr_refl _ _ _) (fun i i0 i1 => by omega) (fun _ _ => rfl)
  | succ n ih =>
    intro h u6 S hn H
    push_cast at hn
    have r := HR n (by omega) (by omega)
    rw [show ((n + 1 : Nat) : Int) - 1 = (n : Int) by push_cast; omega]
    apply L_R_foot_101
    rw [if_neg (by omega), xw_id (a := 4 * k) (by omega) (by omega), xw_id (a := 4 * k + (n : Int)) (by omega) (by omega), xrem_eq r.1 (by omega) (by decide) (by decide), xdiv_eq r.1 (by omega) (by decide) (by decide), xw_id (a := (n : Int) + -1) (by omega) (by omega), ← r.2.2.2.2, show (n : Int) + -1 = (n : Int) - 1 by omega]
    simp only [srt S, srl S, srf S, true_and, and_true, false_and, and_false, forall_eq, forall_eq', xi_wi, xr_wi, xt_wi, xl_wi, xn_wi, xs_wi, xi_wr, xr_wr, xt_wr, xl_wr, xn_wr, xs_wr, if_true, if_false, and_self, Int.reduceEq, Int.reduceLT, Int.reduceLE, Int.reduceNeg, Int.le_refl, Int.reduceMod]
    refine ⟨⟨by omega, by omega⟩, ?_⟩
    refine ih _ _ (SR_2 (h := h) rfl S) (by omega) (fun h' u6 u7 u8 F q1 q2 => H h' u6 u7 u8 (Fr_trans (Fr_cell (Fr_refl _ _ _) _ _ (by decide)) F) (fun i i0 i1 => ?_) (fun j hj => ?_))
    · by_cases c : i = (n : Int)
      · rw [c, q2 _ (by omega)]; simp only [true_and, and_true, false_and, and_false, forall_eq, forall_eq', xi_wi, xr_wi, xt_wi, xl_wi, xn_wi, xs_wi, xi_wr, xr_wr, xt_wr, xl_wr, xn_wr, xs_wr, if_true, if_false, and_self, Int.reduceEq, Int.reduceLT, Int.reduceLE, Int.reduceNeg, Int.le_refl, Int.reduceMod]
      · exact q1 i i0 (by push_cast at i1; omega)
    · push_cast at hj
      rw [q2 j (by omega)]
      simp only [true_and, and_true, false_and, and_false, forall_eq, forall_eq', xi_wi, xr_wi, xt_wi, xl_wi, xn_wi, xs_wi, xi_wr, xr_wr, xt_wr, xl_wr, xn_wr, xs_wr, if_true, if_false, and_self, Int.reduceEq, Int.reduceLT, Int.reduceLE, Int.reduceNeg, Int.le_refl, Int.reduceMod]
      rw [if_neg (by omega)]
theorem c_rf_120 {h : xH} {Q : Int → xH → Prop} {k s row x y m : Int} {u6 u7 u8 : xV} (S : SR h) (k0 : 0 ≤ k) (k1 : k ≤ 11) (hm : (s = 4 ∧ m = row) ∨ (s ≠ 4 ∧ 1 ≤ row ∧ row ≤ 4444 ∧ m = ndg 4 row)) (H : ∀ h', Fr [89, 91, 92, 93] [] h h' → (∀ j, h'.i 89 j = if j = k then s else h.i 89 j) → (∀ j, h'.i 91 j = if j = k then m else h.i 91 j) → (∀ j, h'.i 92 j = if j = k then x else h.i 92 j) → (∀ j, h'.i 93 j = if j = k then y else h.i 93 j) → Q m h') : xT d M_R_foot 120 [(1, 59), (0, k), (0, s), (0, row), (0, x), (0, y), u6, u7, u8] [] h (xqi Q) := by
  have go : xT d M_R_foot 144 [(1, 59), (0, k), (0, s), (0, row), (0, x), (0, y), u6, u7, u8] [(0, m), (0, k), (1, 91)] h (xqi Q) := by
    apply L_R_foot_144
    simp only [srt S, srl S, srf S, true_and, and_true, false_and, and_false, forall_eq, forall_eq', xi_wi, xr_wi, xt_wi, xl_wi, xn_wi, xs_wi, xi_wr, xr_wr, xt_wr, xl_wr, xn_wr, xs_wr, if_true, if_false, and_self, Int.reduceEq, Int.reduceLT, Int.reduceLE, Int.reduceNeg, Int.le_refl, Int.reduceMod]
    refine ⟨⟨k0, by omega⟩, ⟨k0, by omega⟩, ⟨k0, by omega⟩, ⟨k0, by omega⟩, ⟨k0, by omega⟩, ?_⟩
    have := H ((((h.wi 91 k m).wi 89 k s).wi 92 k x).wi 93 k y) (Fr_cell (Fr_cell (Fr_cell (Fr_cell (Fr_refl _ _ _) _ _ (by decide)) _ _ (by decide)) _ _ (by decide)) _ _ (by decide)) (fun j => by simp only [true_and, and_true, false_and, and_false, forall_eq, forall_eq', xi_wi, xr_wi, xt_wi, xl_wi, xn_wi, xs_wi, xi_wr, xr_wr, xt_wr, xl_wr, xn_wr, xs_wr, if_true, if_false, and_self, Int.reduceEq, Int.reduceLT, Int.reduceLE, Int.reduceNeg, Int.le_refl, Int.reduceMod]) (fun j => by simp only [true_and, and_true, false_and, and_false, forall_eq, forall_eq', xi_wi, xr_wi, xt_wi, xl_wi, xn_wi, xs_wi, xi_wr, xr_wr, xt_wr, xl_wr, xn_wr, xs_wr, if_true, if_false, and_self, Int.reduceEq, Int.reduceLT, Int.reduceLE, Int.reduceNeg, Int.le_refl, Int.reduceMod]) (fun j => by simp only [true_and, and_true, false_and, and_false, forall_eq, forall_eq', xi_wi, xr_wi, xt_wi, xl_wi, xn_wi, xs_wi, xi_wr, xr_wr, xt_wr, xl_wr, xn_wr, xs_wr, if_true, if_false, and_self, Int.reduceEq, Int.reduceLT, Int.reduceLE, Int.reduceNeg, Int.le_refl, Int.reduceMod]) (fun j => by simp only [true_and, and_true, false_and, and_false, forall_eq, forall_eq', xi_wi, xr_wi, xt_wi, xl_wi, xn_wi, xs_wi, xi_wr, xr_wr, xt_wr, xl_wr, xn_wr, xs_wr, if_true, if_false, and_self, Int.reduceEq, Int.reduceLT, Int.reduceLE, Int.reduceNeg, Int.le_refl, Int.reduceMod])
    exact this
  apply L_R_foot_120
  refine ⟨(srt S).1, ?_⟩
  have e38 : h.r 59 38 = 91 := by simp only [srt S, srl S, srf S, true_and, and_true, false_and, and_false, forall_eq, forall_eq', xi_wi, xr_wi, xt_wi, xl_wi, xn_wi, xs_wi, xi_wr, xr_wr, xt_wr, xl_wr, xn_wr, xs_wr, if_true, if_false, and_self, Int.reduceEq, Int.reduceLT, Int.reduceLE, Int.reduceNeg, Int.le_refl, Int.reduceMod]
  rw [e38]
  rcases hm with ⟨a, b⟩ | ⟨a, r0, r1, b⟩
  · rw [if_pos a, ← b]
    exact b ▸ go
  · rw [if_neg a]
    have n4 := ndg_4 r0 r1
    rw [← b] at n4
    by_cases c1 : row < 10
    · rw [if_pos c1, show (1 : Int) = m by omega]; exact go
    · rw [if_neg c1]
      by_cases c2 : row < 100
      · rw [if_pos c2, show (2 : Int) = m by omega]; exact go
      · rw [if_neg c2]
        by_cases c3 : row < 1000
        · rw [if_pos c3, show (3 : Int) = m by omega]; exact go
        · rw [if_neg c3, show (4 : Int) = m by omega]; exact go
end FE
