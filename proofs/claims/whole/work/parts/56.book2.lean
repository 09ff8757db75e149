/-! the book: where a word stands, both sides -/
theorem lexl_irr {f g : Int → Int} {m n : Int} (E : eqP f g m n) : ¬ lexl f g m n := by
  intro z
  obtain ⟨k, k0, k1, k2, k3, k4⟩ := z
  have e := E.1
  rcases k4 with w | w
  · omega
  · have := E.2 k k0 w.1; omega
theorem lexl_eq {f g g' : Int → Int} {m n n' : Int} (E : eqP g g' n n') (Z : lexl f g m n) : lexl f g' m n' := by
  obtain ⟨k, k0, k1, k2, k3, k4⟩ := Z
  have e := E.1
  refine ⟨k, k0, k1, by omega, fun j j0 j1 => (k3 j j0 j1).trans (E.2 j j0 (by omega)), ?_⟩
  rcases k4 with w | w
  · exact Or.inl ⟨w.1, by omega⟩
  · have y := E.2 k k0 w.2.1
    exact Or.inr ⟨w.1, by omega, by omega⟩
section BK
variable {d : Nat} {h : xH} {q b e : Int} {g : Int → Int}
theorem c_X_wordAt {Q : Int → xH → Prop} {a : Int} (SX_ : SX h) (hn : h.i 7 2 ≤ 40) (H : Q (if 0 ≤ a ∧ a < h.i 7 2 then h.r 8 a else 0) h) : xCr (d + 1) M_Book_wordAt [(1, 7), (0, a)] h Q := by
  apply L_Book_wordAt
  refine x_if (fun c => by rw [if_neg (by omega)] at H; exact H) (fun c => ?_)
  simp only [sxt SX_, sxl SX_, sxf SX_, true_and, and_true, false_and, and_false, forall_eq, forall_eq', xi_wi, xr_wi, xt_wi, xl_wi, xn_wi, xs_wi, xi_wr, xr_wr, xt_wr, xl_wr, xn_wr, xs_wr, if_true, if_false, and_self, Int.reduceEq, Int.reduceLT, Int.reduceLE, Int.reduceNeg, Int.le_refl, Int.reduceMod]
  refine x_if (fun c2 => ?_) (fun c2 => by rw [if_neg (by omega)] at H; exact H)
  rw [if_pos (by omega)] at H
  exact ⟨⟨by omega, by omega⟩, H⟩
theorem c_placeFor_2 {Q : Int → xH → Prop} (SX_ : SX h) (I : I_book h) (tq : h.tag q = 20) (b0 : 0 ≤ b) (be : b ≤ e) (el : e ≤ h.len q) (e1 : e ≤ 1000) (hg : ∀ j, g j = h.i q (b + j)) (gr : ∀ j, 0 ≤ j → j < e - b → -1000 ≤ g j ∧ g j ≤ 1000) (H : ∀ a, 0 ≤ a → a ≤ h.i 59 16 → (∀ j, 0 ≤ j → j < a → lexl (h.i (h.r 8 j + 1)) g (h.len (h.r 8 j + 1)) (e - b)) → (a < h.i 59 16 → ¬ lexl (h.i (h.r 8 a + 1)) g (h.len (h.r 8 a + 1)) (e - b)) → Q a h) : ∀ (n : Nat) (a : Int) (u5 : xV), 0 ≤ a → a + n = h.i 59 16 → (∀ j, 0 ≤ j → j < a → lexl (h.i (h.r 8 j + 1)) g (h.len (h.r 8 j + 1)) (e - b)) → xT (d + 2) M_Book_placeFor 2 [(1, 7), (1, q), (0, b), (0, e), (0, a), u5] [] h (xqi Q) := by
  obtain ⟨z1, z2, z3, z4, -⟩ := I
  have tb := (sxt SX_).2.2.2.2.2.1
  intro n
  induction n with
  | zero =>
    intro a u5 a0 an pre
    apply L_Book_placeFor_2
    rw [if_neg (by omega), z1]
    refine ⟨tb, ?_⟩
    have := H a a0 (by omega) pre (fun c => by omega)
    rw [show a = h.i 59 16 by omega] at this
    exact this
  | succ n ih =>
    intro a u5 a0 an pre
    apply L_Book_placeFor_2
    rw [if_pos (by omega), xw_id (a := a + 1) (by omega) (by omega)]
    refine ⟨tb, c_X_wordAt SX_ (by omega) ?_⟩
    obtain ⟨v, v0, v1, B⟩ := z4 a a0 (by omega)
    obtain ⟨X, XL⟩ := XLet_book B
    have ga : 0 ≤ a ∧ a < h.i 7 2 := by omega
    have pb := B.1.1
    rw [if_pos ga, if_neg (by omega)]
    refine ⟨X.1, c_cmp X tq b0 be el e1 hg gr (fun r re rl => ?_)⟩
    rw [← XL] at rl
    refine x_if (fun c => ?_) (fun c => H a a0 (by omega) pre (fun _ z => c (rl.mpr z)))
    intro x1 xe
    rw [xe]
    refine ih (a + 1) _ (by omega) (by omega) (fun j j0 j1 => ?_)
    by_cases w : j = a
    · rw [w]; exact rl.mp c
    · exact pre j j0 (by omega)
/-- the place of a word, and whether it stands there -/
theorem c_X_placeFor {Q : Int → xH → Prop} (SX_ : SX h) (I : I_book h) (tq : h.tag q = 20) (b0 : 0 ≤ b) (be : b ≤ e) (el : e ≤ h.len q) (e1 : e ≤ 1000) (hg : ∀ j, g j = h.i q (b + j)) (gr : ∀ j, 0 ≤ j → j < e - b → -1000 ≤ g j ∧ g j ≤ 1000) (H : ∀ a, 0 ≤ a → a ≤ h.i 59 16 → (∀ j, 0 ≤ j → j < a → lexl (h.i (h.r 8 j + 1)) g (h.len (h.r 8 j + 1)) (e - b)) → (a < h.i 59 16 → ¬ lexl (h.i (h.r 8 a + 1)) g (h.len (h.r 8 a + 1)) (e - b)) → Q a h) : xCi (d + 3) M_Book_placeFor [(1, 7), (1, q), (0, b), (0, e)] h Q := by
  apply L_Book_placeFor
  have i2 := I.2.1
  exact c_placeFor_2 SX_ I tq b0 be el e1 hg gr H (h.i 59 16).toNat 0 _ (by omega) (by omega) (fun j j0 j1 => by omega)
theorem c_X_isAt {Q : Int → xH → Prop} {a : Int} (SX_ : SX h) (I : I_book h) (tq : h.tag q = 20) (b0 : 0 ≤ b) (be : b ≤ e) (el : e ≤ h.len q) (e1 : e ≤ 1000) (hg : ∀ j, g j = h.i q (b + j)) (gr : ∀ j, 0 ≤ j → j < e - b → -1000 ≤ g j ∧ g j ≤ 1000) (a0 : 0 ≤ a) (H1 : a < h.i 59 16 → eqP (h.i (h.r 8 a + 1)) g (h.len (h.r 8 a + 1)) (e - b) → Q 1 h) (H0 : ¬ (a < h.i 59 16 ∧ eqP (h.i (h.r 8 a + 1)) g (h.len (h.r 8 a + 1)) (e - b)) → Q 0 h) : xCi (d + 3) M_Book_isAt [(1, 7), (0, a), (1, q), (0, b), (0, e)] h Q := by
  obtain ⟨z1, z2, z3, z4, -⟩ := I
  apply L_Book_isAt
  refine ⟨(sxt SX_).2.2.2.2.2.1, c_X_wordAt SX_ (by omega) ?_⟩
  by_cases c : a < h.i 59 16
  · obtain ⟨v, v0, v1, B⟩ := z4 a a0 c
    obtain ⟨X, XL⟩ := XLet_book B
    have pb := B.1.1
    have ga : 0 ≤ a ∧ a < h.i 7 2 := by omega
    rw [if_pos ga, if_neg (by omega)]
    refine ⟨X.1, c_cmp X tq b0 be el e1 hg gr (fun r re rl => ?_)⟩
    rw [← XL] at re
    exact x_if (fun w => H1 c (re.mp w)) (fun w => H0 (fun y => w (re.mpr y.2)))
  · have ga : ¬ (0 ≤ a ∧ a < h.i 7 2) := by omega
    rw [if_neg ga, if_pos rfl]
    exact H0 (fun y => c y.1)
/-- the word that stands in the book is found at its place -/
theorem book_at {a m : Int} (I : I_book h) (m0 : 0 ≤ m) (m1 : m < h.i 59 16) (E : eqP (h.i (h.r 8 m + 1)) g (h.len (h.r 8 m + 1)) (e - b)) (a0 : 0 ≤ a) (pre : ∀ j, 0 ≤ j → j < a → lexl (h.i (h.r 8 j + 1)) g (h.len (h.r 8 j + 1)) (e - b)) (post : a < h.i 59 16 → ¬ lexl (h.i (h.r 8 a + 1)) g (h.len (h.r 8 a + 1)) (e - b)) : a = m := by
  by_cases c : a < m
  · exact absurd (lexl_eq E (I.2.2.2.2.2.1 a m a0 c m1)) (post (by omega))
  · by_cases c2 : m < a
    · exact absurd (pre m m0 c2) (lexl_irr E)
    · omega
end BK
/-- word w of the reference is these letters -/
def RMat (h : xH) (w q f m : Int) : Prop := h.i 69 w = m ∧ ∀ k, 0 ≤ k → k < m → h.i 68 (16 * w + k) = h.i q (f + k)
section RF
variable {d : Nat} {h : xH} {Q : Int → xH → Prop} {q f m : Int}
theorem c_isWord_10 {w : Int} (S : SR h) (tq : h.tag q = 21) (f0 : 0 ≤ f) (fl : f + m ≤ h.len q) (f1 : f + m ≤ 10000) (w0 : 0 ≤ w) (w1 : w < 40) (m16 : m ≤ 16) (H1 : (∀ k, 0 ≤ k → k < m → h.i 68 (16 * w + k) = h.i q (f + k)) → Q 1 h) (H0 : ¬ (∀ k, 0 ≤ k → k < m → h.i 68 (16 * w + k) = h.i q (f + k)) → Q 0 h) : ∀ (n : Nat) (k : Int), 0 ≤ k → k + n = m → (∀ j, 0 ≤ j → j < k → h.i 68 (16 * w + j) = h.i q (f + j)) → xT d M_R_isWord 10 [(1, 59), (0, w), (1, q), (0, f), (0, m), (0, k)] [] h (xqi Q) := by
  intro n
  induction n with
  | zero =>
    intro k k0 km pre
    apply L_R_isWord_10
    rw [if_neg (by omega)]
    exact H1 (fun j j0 j1 => pre j j0 (by omega))
  | succ n ih =>
    intro k k0 km pre
    apply L_R_isWord_10
    rw [if_pos (by omega), xw_id (a := 16 * w) (by omega) (by omega), xw_id (a := 16 * w + k) (by omega) (by omega), xw_id (a := f + k) (by omega) (by omega), xw_id (a := k + 1) (by omega) (by omega)]
    simp only [srt S, srl S, srf S, tq, true_and, and_true, false_and, and_false, forall_eq, forall_eq', xi_wi, xr_wi, xt_wi, xl_wi, xn_wi, xs_wi, xi_wr, xr_wr, xt_wr, xl_wr, xn_wr, xs_wr, if_true, if_false, and_self, Int.reduceEq, Int.reduceLT, Int.reduceLE, Int.reduceNeg, Int.le_refl, Int.reduceMod]
    refine ⟨⟨by omega, by omega⟩, ⟨by omega, by omega⟩, x_if (fun c => ?_) (fun c => H0 (fun z => c (z k k0 (by omega))))⟩
    refine ih (k + 1) (by omega) (by omega) (fun j j0 j1 => ?_)
    by_cases y : j = k
    · rw [y]; exact c
    · exact pre j j0 (by omega)
theorem c_R_isWord {w : Int} (S : SR h) (tq : h.tag q = 21) (f0 : 0 ≤ f) (m0 : 0 ≤ m) (fl : f + m ≤ h.len q) (f1 : f + m ≤ 10000) (w0 : 0 ≤ w) (w1 : w < 40) (ws : h.i 69 w ≤ 16) (H1 : RMat h w q f m → Q 1 h) (H0 : ¬ RMat h w q f m → Q 0 h) : xCi (d + 1) M_R_isWord [(1, 59), (0, w), (1, q), (0, f), (0, m)] h Q := by
  apply L_R_isWord
  simp only [srt S, srl S, srf S, true_and, and_true, false_and, and_false, forall_eq, forall_eq', xi_wi, xr_wi, xt_wi, xl_wi, xn_wi, xs_wi, xi_wr, xr_wr, xt_wr, xl_wr, xn_wr, xs_wr, if_true, if_false, and_self, Int.reduceEq, Int.reduceLT, Int.reduceLE, Int.reduceNeg, Int.le_refl, Int.reduceMod]
  refine ⟨⟨w0, w1⟩, x_if (fun c => ?_) (fun c => H0 (fun z => c z.1))⟩
  exact c_isWord_10 S tq f0 fl f1 w0 w1 (by omega) (fun z => H1 ⟨c, z⟩) (fun z => H0 (fun y => z y.2)) m.toNat 0 (by omega) (by omega) (fun j j0 j1 => by omega)
theorem c_find_2 (S : SR h) (tq : h.tag q = 21) (f0 : 0 ≤ f) (m0 : 0 ≤ m) (fl : f + m ≤ h.len q) (f1 : f + m ≤ 10000) (n40 : h.i 59 16 ≤ 40) (ws : ∀ w, 0 ≤ w → w < h.i 59 16 → h.i 69 w ≤ 16) (H1 : ∀ w, 0 ≤ w → w < h.i 59 16 → RMat h w q f m → Q w h) (H0 : (∀ w, 0 ≤ w → w < h.i 59 16 → ¬ RMat h w q f m) → Q (-1) h) : ∀ (n : Nat) (w : Int), 0 ≤ w → w + n = h.i 59 16 → (∀ v, 0 ≤ v → v < w → ¬ RMat h v q f m) → xT (d + 1) M_R_find 2 [(1, 59), (1, q), (0, f), (0, m), (0, w)] [] h (xqi Q) := by
  intro n
  induction n with
  | zero =>
    intro w w0 wn pre
    apply L_R_find_2
    refine ⟨(srt S).1, ?_⟩
    rw [if_neg (by omega)]
    exact H0 (fun v v0 v1 => pre v v0 (by omega))
  | succ n ih =>
    intro w w0 wn pre
    apply L_R_find_2
    refine ⟨(srt S).1, ?_⟩
    rw [if_pos (by omega), xw_id (a := w + 1) (by omega) (by omega)]
    refine c_R_isWord S tq f0 m0 fl f1 w0 (by omega) (ws w w0 (by omega)) (fun z => ?_) (fun z => ?_)
    · rw [if_neg (by decide)]
      exact H1 w w0 (by omega) z
    · rw [if_pos rfl]
      intro x1 xe
      rw [xe]
      refine ih (w + 1) (by omega) (by omega) (fun v v0 v1 => ?_)
      by_cases y : v = w
      · rw [y]; exact z
      · exact pre v v0 (by omega)
theorem c_R_find (S : SR h) (tq : h.tag q = 21) (f0 : 0 ≤ f) (m0 : 0 ≤ m) (fl : f + m ≤ h.len q) (f1 : f + m ≤ 10000) (n0 : 0 ≤ h.i 59 16) (n40 : h.i 59 16 ≤ 40) (ws : ∀ w, 0 ≤ w → w < h.i 59 16 → h.i 69 w ≤ 16) (H1 : ∀ w, 0 ≤ w → w < h.i 59 16 → RMat h w q f m → Q w h) (H0 : (∀ w, 0 ≤ w → w < h.i 59 16 → ¬ RMat h w q f m) → Q (-1) h) : xCi (d + 2) M_R_find [(1, 59), (1, q), (0, f), (0, m)] h Q := by
  apply L_R_find
  exact c_find_2 S tq f0 m0 fl f1 n40 ws H1 H0 (h.i 59 16).toNat 0 (by omega) (by omega) (fun v v0 v1 => by omega)
end RF
