/-! scanning: the class numbers the feet; what a scan may change -/
def tl (h : xH) : Int := h.len (h.r 28 6)
def Gro (h h' : xH) : Prop := ∃ a : Nat, h'.nx = h.nx + (a : Int) ∧ 2 ^ a * tl h ≤ tl h' ∧ (a = 0 ∨ 41 * 2 ^ a ≤ 2 * tl h') ∧ h'.us - 2 * tl h' ≤ h.us - 2 * tl h
def scXL : List Int := [29, 30, 31, 32, 33]
def scXS : List (Int × Int) := [(28, 8), (28, 9), (28, 10), (28, 11)]
def scXR : List (Int × Int) := [(28, 6), (28, 7)]
def XS (h : xH) : Prop := SX h ∧ 130 ≤ h.nx ∧ I_tab h ∧ I_new h ∧ h.tag (h.r 28 6) = 20 ∧ h.r 28 6 < h.nx ∧ 0 ≤ tl h ∧ tl h ≤ 126000
def ScX (h h' : xH) : Prop := FA scXL scXS [] scXR h h' ∧ Tok h h' ∧ Gro h h' ∧ XS h'
theorem Gro_refl (h : xH) : Gro h h := ⟨0, by push_cast; omega, by rw [Int.pow_zero]; omega, Or.inl rfl, Int.le_refl _⟩
theorem Gro_trans {h h1 h2 : xH} (t0 : 0 ≤ tl h) (A : Gro h h1) (B : Gro h1 h2) : Gro h h2 := by
  obtain ⟨a, a1, a2, a3, a4⟩ := A
  obtain ⟨b, b1, b2, b3, b4⟩ := B
  have p : (0 : Int) ≤ 2 ^ b := Int.le_of_lt (Int.pow_pos (by decide))
  have pa : (0 : Int) < 2 ^ a := Int.pow_pos (by decide)
  have e : (2 : Int) ^ (a + b) = 2 ^ b * 2 ^ a := by rw [Int.pow_add, Int.mul_comm]
  refine ⟨a + b, by push_cast; omega, ?_, ?_, by omega⟩
  · rw [e, Int.mul_assoc]
    exact Int.le_trans (Int.mul_le_mul_of_nonneg_left a2 p) b2
  · rcases a3 with a3 | a3
    · subst a3
      rcases b3 with b3 | b3
      · exact Or.inl (by omega)
      · refine Or.inr ?_
        rw [Nat.zero_add]; exact b3
    · refine Or.inr ?_
      have z := Int.mul_le_mul_of_nonneg_left a3 p
      have y : 2 ^ b * (2 * tl h1) = 2 * (2 ^ b * tl h1) := by rw [← Int.mul_assoc, Int.mul_comm (2 ^ b) 2, Int.mul_assoc]
      rw [y] at z
      rw [e, ← Int.mul_assoc, Int.mul_comm 41, Int.mul_assoc]
      exact Int.le_trans z (by omega)
theorem ScX_trans {h h1 h2 : xH} (S : XS h) (A : ScX h h1) (B : ScX h1 h2) : ScX h h2 := by
  obtain ⟨a1, a2, a3, a4⟩ := A
  obtain ⟨b1, b2, b3, b4⟩ := B
  have n1 := a1.1
  refine ⟨FA_trans a1 a2.1 b1, ?_, Gro_trans S.2.2.2.2.2.2.1 a3 b3, b4⟩
  unfold Tok at *
  omega
theorem ScX_refl {h : xH} (S : XS h) : ScX h h := ⟨FA_refl _ _ _ _ _, ⟨Or.inl rfl, Or.inl rfl⟩, Gro_refl h, S⟩
theorem ScX_fr {h h' : xH} {c : List Int} {c2 : List (Int × Int)} (S : XS h) (F : Fr c c2 h h') (k1 : ∀ x ∈ c, x ∈ scXL ∨ x = h.r 28 6) (k2 : ∀ q ∈ c2, q ∈ scXS) : ScX h h' := by
  have fs := fr_same F
  obtain ⟨s1, s2, s3, s4, s5, s6, s7, s8⟩ := S
  have rw_ : ∀ x k, x ∉ scXL → (x, k) ∉ scXS → x ≠ h.r 28 6 → h'.i x k = h.i x k := fun x k u v w => F.2 x k (fun m => by rcases k1 x m with z | z; exact u z; exact w z) (fun m => v (k2 _ m))
  have e7 : tl h' = tl h := by unfold tl; rw [fs.1, fs.2.2.1]
  refine ⟨⟨by rw [fs.2.2.2.1]; exact Int.le_refl _, fun x _ => ⟨by rw [fs.2.1], by rw [fs.2.2.1]⟩, fun x k _ u v w => rw_ x k u v w, fun x k _ _ _ => by rw [fs.1]⟩, ⟨Or.inl (by rw [fs.1]), Or.inl (by rw [fs.1])⟩, ⟨0, by rw [fs.2.2.2.1]; push_cast; omega, by rw [e7, Int.pow_zero]; omega, Or.inl rfl, by rw [fs.2.2.2.2, e7]; exact Int.le_refl _⟩, SX_2 F.1 s1, by rw [fs.2.2.2.1]; exact s2, ?_, ?_, by rw [fs.1, fs.2.1]; exact s5, by rw [fs.1, fs.2.2.2.1]; exact s6, by rw [e7]; exact s7, by rw [e7]; exact s8⟩
  · unfold I_tab at s3 ⊢; rw [fs.1]; exact s3
  · intro x k hx
    rw [fs.2.2.2.1] at hx
    have z := s4 x k hx
    have low : ∀ y ∈ scXL, y < 130 := by decide
    have low2 : ∀ q ∈ scXS, q.1 < 130 := by decide
    rw [fs.1, rw_ x k (fun m => by have := low x m; omega) (fun m => by have := low2 _ m; simp only at this; omega) (by omega)]
    exact z
theorem ScX_wr7 {h : xH} {v : Int} (S : XS h) : ScX h (h.wr 28 7 v) := by
  obtain ⟨s1, s2, s3, s4, s5, s6, s7, s8⟩ := S
  have e6 : (h.wr 28 7 v).r 28 6 = h.r 28 6 := by simp only [true_and, and_true, false_and, and_false, forall_eq, forall_eq', xi_wi, xr_wi, xt_wi, xl_wi, xn_wi, xs_wi, xi_wr, xr_wr, xt_wr, xl_wr, xn_wr, xs_wr, if_true, if_false, and_self, Int.reduceEq, Int.reduceLT, Int.reduceLE, Int.reduceNeg, Int.le_refl, Int.reduceMod]
  have e7 : tl (h.wr 28 7 v) = tl h := by unfold tl; rw [e6]; rfl
  refine ⟨FA_wr (FA_refl _ _ _ _ _) _ _ (Or.inr (Or.inl (by decide))), ⟨Or.inl e6, Or.inl (by simp only [true_and, and_true, false_and, and_false, forall_eq, forall_eq', xi_wi, xr_wi, xt_wi, xl_wi, xn_wi, xs_wi, xi_wr, xr_wr, xt_wr, xl_wr, xn_wr, xs_wr, if_true, if_false, and_self, Int.reduceEq, Int.reduceLT, Int.reduceLE, Int.reduceNeg, Int.le_refl, Int.reduceMod])⟩, ⟨0, by simp only [true_and, and_true, false_and, and_false, forall_eq, forall_eq', xi_wi, xr_wi, xt_wi, xl_wi, xn_wi, xs_wi, xi_wr, xr_wr, xt_wr, xl_wr, xn_wr, xs_wr, if_true, if_false, and_self, Int.reduceEq, Int.reduceLT, Int.reduceLE, Int.reduceNeg, Int.le_refl, Int.reduceMod]; omega, by rw [e7, Int.pow_zero]; omega, Or.inl rfl, by rw [e7]; exact Int.le_refl _⟩, SX_wrSL s1, s2, ?_, I_new_wr s4 _ _ (by omega), by rw [e6]; exact s5, by rw [e6]; exact s6, by rw [e7]; exact s7, by rw [e7]; exact s8⟩
  unfold I_tab at s3 ⊢; rw [e6]; exact s3
theorem ScX_al {h : xH} {n : Int} (S : XS h) (n0 : 2 * tl h ≤ n) (n1 : 41 ≤ n) (n2 : n ≤ 126000) : ScX h ((h.al 20 n).wr 28 6 h.nx) := by
  obtain ⟨s1, s2, s3, s4, s5, s6, s7, s8⟩ := S
  have e6 : ((h.al 20 n).wr 28 6 h.nx).r 28 6 = h.nx := by simp only [true_and, and_true, false_and, and_false, forall_eq, forall_eq', xi_wi, xr_wi, xt_wi, xl_wi, xn_wi, xs_wi, xi_wr, xr_wr, xt_wr, xl_wr, xn_wr, xs_wr, if_true, if_false, and_self, Int.reduceEq, Int.reduceLT, Int.reduceLE, Int.reduceNeg, Int.le_refl, Int.reduceMod]
  have e7 : tl ((h.al 20 n).wr 28 6 h.nx) = n := by
    unfold tl; rw [e6]; simp only [true_and, and_true, false_and, and_false, forall_eq, forall_eq', xi_wi, xr_wi, xt_wi, xl_wi, xn_wi, xs_wi, xi_wr, xr_wr, xt_wr, xl_wr, xn_wr, xs_wr, if_true, if_false, and_self, Int.reduceEq, Int.reduceLT, Int.reduceLE, Int.reduceNeg, Int.le_refl, Int.reduceMod]; rw [xl_al, if_pos rfl]
  refine ⟨FA_wr (FA_al (FA_refl _ _ _ _ _) _ _) _ _ (Or.inr (Or.inl (by decide))), ⟨Or.inr (by rw [e6]; exact Int.le_refl _), Or.inl (by simp only [true_and, and_true, false_and, and_false, forall_eq, forall_eq', xi_wi, xr_wi, xt_wi, xl_wi, xn_wi, xs_wi, xi_wr, xr_wr, xt_wr, xl_wr, xn_wr, xs_wr, if_true, if_false, and_self, Int.reduceEq, Int.reduceLT, Int.reduceLE, Int.reduceNeg, Int.le_refl, Int.reduceMod]; rfl)⟩, ⟨1, by simp only [true_and, and_true, false_and, and_false, forall_eq, forall_eq', xi_wi, xr_wi, xt_wi, xl_wi, xn_wi, xs_wi, xi_wr, xr_wr, xt_wr, xl_wr, xn_wr, xs_wr, if_true, if_false, and_self, Int.reduceEq, Int.reduceLT, Int.reduceLE, Int.reduceNeg, Int.le_refl, Int.reduceMod]; rfl, by rw [e7, Int.pow_succ, Int.pow_zero]; omega, Or.inr (by rw [e7, Int.pow_succ, Int.pow_zero]; omega), by rw [e7]; simp only [true_and, and_true, false_and, and_false, forall_eq, forall_eq', xi_wi, xr_wi, xt_wi, xl_wi, xn_wi, xs_wi, xi_wr, xr_wr, xt_wr, xl_wr, xn_wr, xs_wr, if_true, if_false, and_self, Int.reduceEq, Int.reduceLT, Int.reduceLE, Int.reduceNeg, Int.le_refl, Int.reduceMod]; rw [xs_al]; omega⟩, SX_wrT (SX_al s2 s1), by simp only [true_and, and_true, false_and, and_false, forall_eq, forall_eq', xi_wi, xr_wi, xt_wi, xl_wi, xn_wi, xs_wi, xi_wr, xr_wr, xt_wr, xl_wr, xn_wr, xs_wr, if_true, if_false, and_self, Int.reduceEq, Int.reduceLT, Int.reduceLE, Int.reduceNeg, Int.le_refl, Int.reduceMod]; rw [xn_al]; omega, ?_, I_new_wr (I_new_al s4 _ _) _ _ (by rw [xn_al]; omega), by rw [e6]; simp only [true_and, and_true, false_and, and_false, forall_eq, forall_eq', xi_wi, xr_wi, xt_wi, xl_wi, xn_wi, xs_wi, xi_wr, xr_wr, xt_wr, xl_wr, xn_wr, xs_wr, if_true, if_false, and_self, Int.reduceEq, Int.reduceLT, Int.reduceLE, Int.reduceNeg, Int.le_refl, Int.reduceMod]; rw [xt_al, if_pos rfl], by rw [e6]; simp only [true_and, and_true, false_and, and_false, forall_eq, forall_eq', xi_wi, xr_wi, xt_wi, xl_wi, xn_wi, xs_wi, xi_wr, xr_wr, xt_wr, xl_wr, xn_wr, xs_wr, if_true, if_false, and_self, Int.reduceEq, Int.reduceLT, Int.reduceLE, Int.reduceNeg, Int.le_refl, Int.reduceMod]; rw [xn_al]; omega, by rw [e7]; omega, by rw [e7]; exact n2⟩
  unfold I_tab; rw [e6]; omega
section XN
variable {p f : Int} {E : SEn} {d : Nat} {Q : xH → Prop}
theorem XFar_r {h : xH} {c : Int} (X : XFar h c) : c ≠ 28 := by unfold XFar at X; omega
theorem XEn_wr7 {h : xH} {v : Int} (X : XEn h p f E) : XEn (h.wr 28 7 v) p f E := by
  obtain ⟨a1, a2, a3, a4, a5, a6⟩ := X
  have e6 : (h.wr 28 7 v).r 28 6 = h.r 28 6 := by simp only [true_and, and_true, false_and, and_false, forall_eq, forall_eq', xi_wi, xr_wi, xt_wi, xl_wi, xn_wi, xs_wi, xi_wr, xr_wr, xt_wr, xl_wr, xn_wr, xs_wr, if_true, if_false, and_self, Int.reduceEq, Int.reduceLT, Int.reduceLE, Int.reduceNeg, Int.le_refl, Int.reduceMod]
  have ro : ∀ x k, x ≠ 28 → (h.wr 28 7 v).r x k = h.r x k := fun x k n => by rw [xr_wr, if_neg (fun z => n z.1)]
  refine ⟨SX_wrSL a1, a2, by unfold I_tab at a3 ⊢; rw [e6]; exact a3, a4, ?_, ?_⟩
  · have np := XFar_r a5.2.2.2.2.2.2.2.2.1
    unfold XLe XFar at a5 ⊢
    rw [ro p _ np, ro p _ np, ro p _ np, e6]
    exact a5
  · obtain ⟨f0, f1, b1, b2, b3, b4, b5⟩ := a6
    refine ⟨f0, f1, b1, b2, b3, b4, fun g g0 g1 => ?_⟩
    rw [ro 23 g (by decide)]
    refine (b5 g g0 g1).imp id (fun z => ⟨z.1, z.2.1, ?_⟩)
    have y := z.2.2
    have t0 : 130 ≤ h.r 23 g := y.1
    unfold FTab aprt at y ⊢
    rw [ro _ _ (by omega), ro _ _ (by omega), ro _ _ (by omega), ro _ _ (by omega), e6, ro 40 3 (by decide)]
    exact y
theorem XEn_al {h : xH} {n : Int} (X : XEn h p f E) : XEn ((h.al 20 n).wr 28 6 h.nx) p f E := by
  obtain ⟨a1, a2, a3, a4, a5, a6⟩ := X
  have e6 : ((h.al 20 n).wr 28 6 h.nx).r 28 6 = h.nx := by simp only [true_and, and_true, false_and, and_false, forall_eq, forall_eq', xi_wi, xr_wi, xt_wi, xl_wi, xn_wi, xs_wi, xi_wr, xr_wr, xt_wr, xl_wr, xn_wr, xs_wr, if_true, if_false, and_self, Int.reduceEq, Int.reduceLT, Int.reduceLE, Int.reduceNeg, Int.le_refl, Int.reduceMod]
  have ro : ∀ x k, x ≠ 28 → ((h.al 20 n).wr 28 6 h.nx).r x k = h.r x k := fun x k n => by rw [xr_wr, if_neg (fun z => n z.1)]; rfl
  have tg : ∀ x, x < h.nx → ((h.al 20 n).wr 28 6 h.nx).tag x = h.tag x ∧ ((h.al 20 n).wr 28 6 h.nx).len x = h.len x := fun x hx => by rw [xt_wr, xl_wr, xt_al, xl_al, if_neg (by omega), if_neg (by omega)]; exact ⟨rfl, rfl⟩
  have nx : ((h.al 20 n).wr 28 6 h.nx).nx = h.nx + 1 := rfl
  refine ⟨SX_wrT (SX_al a2 a1), by rw [nx]; omega, by unfold I_tab; rw [e6]; omega, a4, ?_, ?_⟩
  · have np := XFar_r a5.2.2.2.2.2.2.2.2.1
    have l1 := a5.2.2.2.2.2.2.2.2.1.2.2
    have l2 := a5.2.2.2.2.2.2.2.2.2.1.2.2
    have l3 := a5.2.2.2.2.2.2.2.2.2.2.1.2.2
    have l4 := a5.2.2.2.2.2.2.2.2.2.2.2.1.2.2
    unfold XLe XFar at a5 ⊢
    rw [ro p _ np, ro p _ np, ro p _ np, e6, nx, (tg _ l1).1, (tg _ l2).1, (tg _ l3).1, (tg _ l4).1, (tg _ l2).2, (tg _ l3).2, (tg _ l4).2]
    obtain ⟨b1, b2, b3, b4, b5, b6, b7, b8, b9, b10, b11, b12, b13⟩ := a5
    exact ⟨b1, b2, b3, b4, b5, b6, b7, b8, by omega, by omega, by omega, by omega, b13⟩
  · obtain ⟨f0, f1, b1, b2, b3, b4, b5⟩ := a6
    refine ⟨f0, f1, b1, b2, b3, b4, fun g g0 g1 => ?_⟩
    rw [ro 23 g (by decide)]
    refine (b5 g g0 g1).imp id (fun z => ⟨z.1, z.2.1, ?_⟩)
    have y := z.2.2
    have t0 : 130 ≤ h.r 23 g := y.1
    have t1 : h.r 23 g + 4 < h.nx := y.2.1
    unfold FTab aprt at y ⊢
    rw [ro _ _ (by omega), ro _ _ (by omega), ro _ _ (by omega), ro _ _ (by omega), e6, ro 40 3 (by decide), nx, (tg _ (show h.r 23 g < h.nx by omega)).1, (tg _ (show h.r 23 g + 1 < h.nx by omega)).1, (tg _ (show h.r 23 g + 2 < h.nx by omega)).1, (tg _ (show h.r 23 g + 3 < h.nx by omega)).1, (tg _ (show h.r 23 g + 4 < h.nx by omega)).1, (tg _ (show h.r 23 g + 1 < h.nx by omega)).2, (tg _ (show h.r 23 g + 2 < h.nx by omega)).2, (tg _ (show h.r 23 g + 3 < h.nx by omega)).2, (tg _ (show h.r 23 g + 4 < h.nx by omega)).2]
    obtain ⟨c1, c2, c3, c4, c5, c6, c7, c8, c9, c10, c11, c12, c13, c14, c15, c16, c17⟩ := y
    exact ⟨c1, by omega, c3, c4, c5, c6, c7, c8, c9, c10, c11, c12, c13, c14, c15, by omega, c17⟩
/-! which foot begins where in the table -/
def stN (E : SEn) (q g : Int) : Bool := decide (q < E 5 0) && scStand E q g
def fcE (E : SEn) (g : Int) : Int := fcodes (E 8 g) (E 9 g) (E 11 g)
def bsN (E : SEn) : Nat → Int
  | 0 => 0
  | j + 1 => bsN E j + (if stN E ((j / 12 : Nat) : Int) ((j % 12 : Nat) : Int) then fcE E ((j % 12 : Nat) : Int) else 0)
def BsOk (h : xH) (E : SEn) (m : Nat) : Prop := ∀ j : Nat, j < m → h.i 30 (j : Int) = if stN E ((j / 12 : Nat) : Int) ((j % 12 : Nat) : Int) then bsN E j else -1
theorem fcE_bd (ok : EOk E) {q g : Int} (g0 : 0 ≤ g) (g1 : g < 12) (st : scStand E q g = true) : 2 ≤ fcE E g + 1 ∧ fcE E g ≤ 14 := by
  have F := sc_stand ok g0 g1 st
  unfold FOk at F
  unfold fcE fcodes
  by_cases c : E 8 g = 4
  · rw [if_pos c]; omega
  · rw [if_neg c]; omega
theorem bsN_st (ok : EOk E) (j : Nat) (hj : j < 96) : bsN E j ≤ bsN E (j + 1) ∧ bsN E (j + 1) ≤ bsN E j + 14 := by
  show bsN E j ≤ bsN E j + _ ∧ bsN E j + _ ≤ bsN E j + 14
  by_cases c : stN E ((j / 12 : Nat) : Int) ((j % 12 : Nat) : Int) = true
  · rw [if_pos c]
    unfold stN at c
    rw [Bool.and_eq_true] at c
    have := fcE_bd ok (g := ((j % 12 : Nat) : Int)) (by omega) (by omega) c.2
    omega
  · rw [if_neg c]; omega
theorem bsN_bd (ok : EOk E) : ∀ j : Nat, j ≤ 96 → 0 ≤ bsN E j ∧ bsN E j ≤ 14 * j := by
  intro j
  induction j with
  | zero => intro _; exact ⟨Int.le_refl _, Int.le_refl _⟩
  | succ j ih =>
    intro hj
    have := ih (by omega)
    have := bsN_st ok j (by omega)
    omega
theorem bsN_mono (ok : EOk E) : ∀ (n j : Nat), j + n ≤ 96 → bsN E j ≤ bsN E (j + n) := by
  intro n
  induction n with
  | zero => intro j _; exact Int.le_refl _
  | succ n ih =>
    intro j hj
    have := ih j (by omega)
    have := bsN_st ok (j + n) (by omega)
    rw [show j + (n + 1) = j + n + 1 by omega]
    omega
theorem c_nf_9 : ∀ (n q g : Nat) (h : xH) (u4 : xV), 12 * q + g + n = 96 → g < 12 → q < 8 → XEn h p f E → h.i 28 8 = f → BsOk h E (12 * q + g) → (∀ h' u3 u4, Fr [30] [] h h' → BsOk h' E 96 → xT (d + 3) M_Scanner_numberFeet 4 [(1, 28), (0, bsN E 96), (0, 8), u3, u4] [] h' (xqv Q)) → xT (d + 3) M_Scanner_numberFeet 9 [(1, 28), (0, bsN E (12 * q + g)), (0, (q : Int)), (0, (g : Int)), u4] [] h (xqv Q) := by
  intro n
  induction n with
  | zero => intro q g h u4 hn hg hq; omega
  | succ n ih =>
    intro q g h u4 hn hg hq X hf B H
    have SX_ := X.1
    have ok := X.2.2.2.1
    have bb := bsN_bd ok (12 * q + g) (by omega)
    have bs := bsN_st ok (12 * q + g) (by omega)
    have e12 : (12 * q + g) / 12 = q := by omega
    have m12 : (12 * q + g) % 12 = g := by omega
    have bs1 : bsN E (12 * q + g + 1) = bsN E (12 * q + g) + (if stN E (q : Int) (g : Int) then fcE E (g : Int) else 0) := by
      show bsN E (12 * q + g) + _ = _
      rw [e12, m12]
    -- to the next foot
    have nxt : ∀ (h1 : xH) (u4 : xV), Fr [30] [] h h1 → BsOk h1 E (12 * q + g + 1) → xT (d + 3) M_Scanner_numberFeet 9 [(1, 28), (0, bsN E (12 * q + g + 1)), (0, (q : Int)), (0, ((g + 1 : Nat) : Int)), u4] [] h1 (xqv Q) := by
      intro h1 u4 F1 B1
      have X1 := XEn_fr F1 (sok_low (by decide)) X
      have f1 : h1.i 28 8 = f := by rw [Fr_row F1 (by decide) (by decide)]; exact hf
      by_cases c : g + 1 < 12
      · exact ih q (g + 1) h1 u4 (by omega) c hq X1 f1 B1 (fun h' u3 u4 F' B' => H h' u3 u4 (Fr_trans F1 F') B')
      · apply L_Scanner_numberFeet_9
        rw [if_neg (by omega)]
        intro x9 e9
        rw [xw_id (a := (q : Int) + 1) (by omega) (by omega)] at e9
        subst e9
        by_cases c2 : q + 1 < 8
        · apply L_Scanner_numberFeet_4
          rw [if_pos (by omega), show ((q : Int) + 1) = ((q + 1 : Nat) : Int) by push_cast; rfl]
          have := ih (q + 1) 0 h1 u4 (by omega) (by omega) c2 X1 f1 (by rw [show 12 * (q + 1) + 0 = 12 * q + g + 1 by omega]; exact B1) (fun h' u3 u4 F' B' => H h' u3 u4 (Fr_trans F1 F') B')
          rw [show 12 * (q + 1) + 0 = 12 * q + g + 1 by omega] at this
          exact this
        · have e96 : 12 * q + g + 1 = 96 := by omega
          rw [e96] at B1 ⊢
          rw [show ((q : Int) + 1) = 8 by omega]
          exact H h1 _ _ F1 B1
    have put : ∀ v, v = (if stN E (q : Int) (g : Int) then bsN E (12 * q + g) else -1) → Fr [30] [] h (h.wi 30 ((q : Int) * 12 + (g : Int)) v) ∧ BsOk (h.wi 30 ((q : Int) * 12 + (g : Int)) v) E (12 * q + g + 1) := by
      intro v hv
      refine ⟨Fr_cell (Fr_refl _ _ _) _ _ (by decide), fun j hj => ?_⟩
      simp only [true_and, and_true, false_and, and_false, forall_eq, forall_eq', xi_wi, xr_wi, xt_wi, xl_wi, xn_wi, xs_wi, xi_wr, xr_wr, xt_wr, xl_wr, xn_wr, xs_wr, if_true, if_false, and_self, Int.reduceEq, Int.reduceLT, Int.reduceLE, Int.reduceNeg, Int.le_refl, Int.reduceMod]
      by_cases c : j = 12 * q + g
      · rw [if_pos (by omega), c, e12, m12]; exact hv
      · rw [if_neg (by omega)]; exact B j (by omega)
    apply L_Scanner_numberFeet_9
    rw [if_pos (by omega)]
    simp only [sxt SX_, sxl SX_, sxf SX_, hf, true_and, and_true, false_and, and_false, forall_eq, forall_eq', xi_wi, xr_wi, xt_wi, xl_wi, xn_wi, xs_wi, xi_wr, xr_wr, xt_wr, xl_wr, xn_wr, xs_wr, if_true, if_false, and_self, Int.reduceEq, Int.reduceLT, Int.reduceLE, Int.reduceNeg, Int.le_refl, Int.reduceMod]
    refine c_X_footAt (d := d) X (by omega) (by omega) (by omega) (by omega) ?_
    rw [xw_id (a := (q : Int) * 12) (by omega) (by omega), xw_id (a := (q : Int) * 12 + (g : Int)) (by omega) (by omega), xw_id (a := (g : Int) + 1) (by omega) (by omega), show ((g : Int) + 1) = ((g + 1 : Nat) : Int) by push_cast; rfl]
    have ft := X.2.2.2.2.2.2.2.2.2.2.2 (g : Int) (by omega) (by omega)
    by_cases c : (q : Int) < E 5 0 ∧ scStand E (q : Int) (g : Int) = true
    · have st : stN E (q : Int) (g : Int) = true := by unfold stN; rw [decide_eq_true c.1, c.2]; rfl
      have F := sc_stand ok (by omega) (by omega) c.2
      have ft' := ft.resolve_left (fun z => by have := F.1; omega)
      have tg := ft'.2.2.2.2.1
      rw [if_pos c, if_neg ft'.1]
      simp only [if_neg ft'.1]
      simp only [sxt SX_, sxl SX_, sxf SX_, true_and, and_true, false_and, and_false, forall_eq, forall_eq', xi_wi, xr_wi, xt_wi, xl_wi, xn_wi, xs_wi, xi_wr, xr_wr, xt_wr, xl_wr, xn_wr, xs_wr, if_true, if_false, and_self, Int.reduceEq, Int.reduceLT, Int.reduceLE, Int.reduceNeg, Int.le_refl, Int.reduceMod]
      rw [st, if_pos rfl] at put bs1
      obtain ⟨F1, B1⟩ := put _ rfl
      refine ⟨⟨by omega, by omega⟩, tg, ?_⟩
      refine c_X_codes (FTab_fr F1 (sok_low (by decide)) ft'.2.2) ?_
      have fb := fcE_bd ok (by omega) (by omega) c.2
      have e7 : xw (bsN E (12 * q + g) + fcodes (E 8 (g : Int)) (E 9 (g : Int)) (E 11 (g : Int))) = bsN E (12 * q + g + 1) := by
        rw [bs1]
        show xw (bsN E (12 * q + g) + fcE E (g : Int)) = _
        exact xw_id (by omega) (by omega)
      rw [e7]
      exact nxt _ _ F1 B1
    · have st : stN E (q : Int) (g : Int) = false := by
        cases z : stN E (q : Int) (g : Int)
        · rfl
        · unfold stN at z
          rw [Bool.and_eq_true, decide_eq_true_eq] at z
          exact absurd z c
      rw [if_neg c]
      simp only [sxt SX_, sxl SX_, sxf SX_, true_and, and_true, false_and, and_false, forall_eq, forall_eq', xi_wi, xr_wi, xt_wi, xl_wi, xn_wi, xs_wi, xi_wr, xr_wr, xt_wr, xl_wr, xn_wr, xs_wr, if_true, if_false, and_self, Int.reduceEq, Int.reduceLT, Int.reduceLE, Int.reduceNeg, Int.le_refl, Int.reduceMod]
      rw [st, if_neg (by decide)] at put bs1
      obtain ⟨F1, B1⟩ := put _ rfl
      refine ⟨⟨by omega, by omega⟩, ?_⟩
      rw [xw_id (by omega) (by omega)]
      rw [← bs1]
      exact nxt _ _ F1 B1
theorem c_X_number {h : xH} (S : XS h) (X : XEn h p f E) (hf : h.i 28 8 = f) (H : ∀ h', ScX h h' → XEn h' p f E → (∀ x k, x ≠ 30 → h'.i x k = h.i x k) → h'.r 28 7 = h.r 28 7 → BsOk h' E 96 → bsN E 96 * 41 ≤ tl h' → Q h') : xCv (d + 4) M_Scanner_numberFeet [(1, 28)] h Q := by
  have ok := X.2.2.2.1
  have SX_ := X.1
  have b96 := bsN_bd ok 96 (Nat.le_refl _)
  apply L_Scanner_numberFeet
  apply L_Scanner_numberFeet_4
  rw [if_pos (by decide)]
  have := c_nf_9 (p := p) (d := d) (Q := Q) 96 0 0 h (9, 0) (by decide) (by decide) (by decide) X hf (fun j hj => absurd hj (Nat.not_lt_zero _)) (fun h1 u3 u4 F1 B1 => ?_)
  · exact this
  have X1 := XEn_fr F1 (sok_low (by decide)) X
  have A1 := ScX_fr S F1 (fun x m => Or.inl (by rw [List.mem_singleton] at m; rw [m]; decide)) (fun q m => absurd m List.not_mem_nil)
  have S1 := A1.2.2.2
  have row : ∀ x k, x ≠ 30 → h1.i x k = h.i x k := fun x k n => F1.2 x k (by simp only [List.mem_singleton]; exact n) List.not_mem_nil
  have SX_ := X1.1
  have r7 : h1.r = h.r := (fr_same F1).1
  obtain ⟨s1, s2, s3, s4, s5, s6, s7, s8⟩ := S1
  generalize hN : bsN E 96 = N at *
  apply L_Scanner_numberFeet_4
  rw [if_neg (by decide)]
  simp only [sxt SX_, sxl SX_, sxf SX_, s5, true_and, and_true, false_and, and_false, forall_eq, forall_eq', xi_wi, xr_wi, xt_wi, xl_wi, xn_wi, xs_wi, xi_wr, xr_wr, xt_wr, xl_wr, xn_wr, xs_wr, if_true, if_false, and_self, Int.reduceEq, Int.reduceLT, Int.reduceLE, Int.reduceNeg, Int.le_refl, Int.reduceMod]
  rw [xw_id (a := N * 41) (by omega) (by omega)]
  by_cases c : h1.len (h1.r 28 6) < N * 41
  · rw [if_pos c]
    unfold tl at s7 s8
    rw [xw_id (a := 2 * h1.len (h1.r 28 6)) (by omega) (by omega)]
    have z : ∀ n, n = (if N * 41 < 2 * h1.len (h1.r 28 6) then 2 * h1.len (h1.r 28 6) else N * 41) → 2 * h1.len (h1.r 28 6) ≤ n ∧ 41 ≤ n ∧ n ≤ 126000 ∧ N * 41 ≤ n := by
      intro n hn
      by_cases y : N * 41 < 2 * h1.len (h1.r 28 6)
      · rw [if_pos y] at hn; omega
      · rw [if_neg y] at hn; omega
    have y := z _ rfl
    refine ⟨⟨by omega, by omega⟩, ?_⟩
    have A2 := ScX_al (n := (if N * 41 < 2 * h1.len (h1.r 28 6) then 2 * h1.len (h1.r 28 6) else N * 41)) A1.2.2.2 (by unfold tl; exact y.1) y.2.1 y.2.2.1
    have eT : tl ((h1.al 20 (if N * 41 < 2 * h1.len (h1.r 28 6) then 2 * h1.len (h1.r 28 6) else N * 41)).wr 28 6 h1.nx) = (if N * 41 < 2 * h1.len (h1.r 28 6) then 2 * h1.len (h1.r 28 6) else N * 41) := by
      unfold tl
      simp only [true_and, and_true, false_and, and_false, forall_eq, forall_eq', xi_wi, xr_wi, xt_wi, xl_wi, xn_wi, xs_wi, xi_wr, xr_wr, xt_wr, xl_wr, xn_wr, xs_wr, if_true, if_false, and_self, Int.reduceEq, Int.reduceLT, Int.reduceLE, Int.reduceNeg, Int.le_refl, Int.reduceMod]
      rw [xl_al, if_pos rfl]
    have K := H _ (ScX_trans S A1 A2) (XEn_al X1) (fun x k n => row x k n) (by simp only [true_and, and_true, false_and, and_false, forall_eq, forall_eq', xi_wi, xr_wi, xt_wi, xl_wi, xn_wi, xs_wi, xi_wr, xr_wr, xt_wr, xl_wr, xn_wr, xs_wr, if_true, if_false, and_self, Int.reduceEq, Int.reduceLT, Int.reduceLE, Int.reduceNeg, Int.le_refl, Int.reduceMod]; show h1.r 28 7 = _; rw [r7]) B1 (by rw [eT]; exact y.2.2.2)
    first | exact K | (refine ⟨by rw [xt_al, if_neg (by omega)]; exact (sxt SX_).2.2.2.2.2.2.2.2.2.2.2.2.2.2.2.2.2.2.2.2.2.2.2.2.2.2.1, K⟩)
  · rw [if_neg c]
    exact H h1 A1 X1 row (by rw [r7]) B1 (by unfold tl; omega)
end XN
