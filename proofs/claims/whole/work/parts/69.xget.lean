/-! scanning: the class' questions about a line and a line form -/
def XFar (h : xH) (c : Int) : Prop := (130 ≤ c ∨ (16 ≤ c ∧ c ≤ 21)) ∧ c ≠ h.r 28 6 ∧ c < h.nx
def XLe (h : xH) (p : Int) (E : SEn) : Prop := h.tag p = 9 ∧ h.i p 6 = E 0 0 ∧ h.tag (h.r p 2) = 20 ∧ h.tag (h.r p 3) = 20 ∧ h.tag (h.r p 4) = 20 ∧ E 0 0 ≤ h.len (h.r p 2) ∧ E 0 0 ≤ h.len (h.r p 3) ∧ E 0 0 ≤ h.len (h.r p 4) ∧ XFar h p ∧ XFar h (h.r p 2) ∧ XFar h (h.r p 3) ∧ XFar h (h.r p 4) ∧ ∀ i, 0 ≤ i → i < E 0 0 → h.i (h.r p 2) i = E 2 i ∧ h.i (h.r p 3) i = E 1 i ∧ (h.i (h.r p 4) i = E 4 i + 2 * E 3 i ∨ h.i (h.r p 4) i = E 4 i + 2 * E 3 i + 4) ∧ (E 3 i = 0 ∨ E 3 i = 1) ∧ (E 4 i = 0 ∨ E 4 i = 1)
def XFo (h : xH) (f : Int) (E : SEn) : Prop := 0 ≤ f ∧ f < 8 ∧ h.i 25 f = E 5 0 ∧ (∀ q, 0 ≤ q → q < 8 → h.i 24 (8 * f + q) = E 6 q) ∧ h.i 26 f = E 7 0 ∧ (∀ l, 0 ≤ l → l < 5 → h.i 27 l = E 13 l) ∧ ∀ g, 0 ≤ g → g < 12 → (h.r 23 g = 0 ∧ E 8 g = -1) ∨ (h.r 23 g ≠ 0 ∧ E 8 g ≠ -1 ∧ FTab h (h.r 23 g) (E 8 g) (E 9 g) (E 10 g) (E 11 g) (fun k => E 12 (4 * g + k)))
def XEn (h : xH) (p f : Int) (E : SEn) : Prop := SX h ∧ 130 ≤ h.nx ∧ I_tab h ∧ EOk E ∧ XLe h p E ∧ XFo h f E
theorem xand_2 : ∀ k : Fin 8, xand (k.val : Int) 2 = if k.val % 4 < 2 then 0 else 2 := by decide +kernel
theorem xand_2' {t : Int} (h0 : 0 ≤ t) (h1 : t < 8) : xand t 2 = if t % 4 < 2 then 0 else 2 := by
  have z := xand_2 ⟨t.toNat, by omega⟩
  simp only [show ((t.toNat : Nat) : Int) = t by omega] at z
  rw [z]
  by_cases c : t % 4 < 2
  · rw [if_pos c, if_pos (by omega)]
  · rw [if_neg c, if_neg (by omega)]
section XG
variable {h : xH} {p f : Int} {E : SEn} {d : Nat} {Q : Int → xH → Prop}
/-- what the scanner writes leaves all of it alone -/
def sok (T : Int) (c : List Int) (c2 : List (Int × Int)) : Prop := (∀ x ∈ c, (28 ≤ x ∧ x ≤ 47) ∨ x = T) ∧ ∀ q ∈ c2, 28 ≤ q.1 ∧ q.1 ≤ 47
theorem sok_row {c : List Int} {c2 : List (Int × Int)} {h' : xH} (F : Fr c c2 h h') (k : sok (h.r 28 6) c c2) {x : Int} (n1 : ¬ (28 ≤ x ∧ x ≤ 47)) (n2 : x ≠ h.r 28 6) : h'.i x = h.i x := by
  refine Fr_row F (fun m => ?_) (fun q m e => ?_)
  · have := k.1 x m; omega
  · have := k.2 q m; omega
theorem sok_far {c : List Int} {c2 : List (Int × Int)} {h' : xH} (F : Fr c c2 h h') (k : sok (h.r 28 6) c c2) {x : Int} (X : XFar h x) : h'.i x = h.i x := by
  unfold XFar at X
  exact sok_row F k (by omega) X.2.1
theorem XLe_fr {c : List Int} {c2 : List (Int × Int)} {h' : xH} (F : Fr c c2 h h') (k : sok (h.r 28 6) c c2) (X : XLe h p E) : XLe h' p E := by
  have fs := fr_same F
  have X' := X
  unfold XLe at X
  obtain ⟨a1, a2, a3, a4, a5, a6, a7, a8, a9, a10, a11, a12, a13⟩ := X
  have far : ∀ x, XFar h x → XFar h' x := fun x z => by unfold XFar at z ⊢; rw [fs.1, fs.2.2.2.1]; exact z
  unfold XLe
  rw [fs.1, fs.2.1, fs.2.2.1, sok_far F k a9, sok_far F k a10, sok_far F k a11, sok_far F k a12]
  exact ⟨a1, a2, a3, a4, a5, a6, a7, a8, far _ a9, far _ a10, far _ a11, far _ a12, a13⟩
theorem FTab_fr {c : List Int} {c2 : List (Int × Int)} {h' : xH} (F : Fr c c2 h h') (k : sok (h.r 28 6) c c2) {t s m x y : Int} {dg : Int → Int} (B : FTab h t s m x y dg) : FTab h' t s m x y dg := by
  have fs := fr_same F
  have B' := B
  unfold FTab at B
  have ap := B.2.2.2.2.2.2.2.2.2.2.2.2.2.2.2.1
  have t0 := B.1
  unfold aprt at ap
  have r : ∀ j, 0 ≤ j → j ≤ 4 → h'.i (t + j) = h.i (t + j) := fun j j0 j1 => sok_row F k (by omega) (by omega)
  have r0 : h'.i t = h.i t := by have := r 0 (by decide) (by decide); rw [Int.add_zero] at this; exact this
  unfold FTab aprt at B' ⊢
  rw [fs.1, fs.2.1, fs.2.2.1, fs.2.2.2.1, r0, r 1 (by decide) (by decide), r 2 (by decide) (by decide), r 3 (by decide) (by decide), r 4 (by decide) (by decide)]
  exact B'
theorem XFo_fr {c : List Int} {c2 : List (Int × Int)} {h' : xH} (F : Fr c c2 h h') (k : sok (h.r 28 6) c c2) (ht : I_tab h) (X : XFo h f E) : XFo h' f E := by
  have fs := fr_same F
  unfold I_tab at ht
  obtain ⟨f0, f1, a1, a2, a3, a4, a5⟩ := X
  refine ⟨f0, f1, ?_, ?_, ?_, ?_, ?_⟩
  · rw [sok_row F k (by omega) (by omega)]; exact a1
  · rw [sok_row F k (by omega) (by omega)]; exact a2
  · rw [sok_row F k (by omega) (by omega)]; exact a3
  · rw [sok_row F k (by omega) (by omega)]; exact a4
  · intro g g0 g1
    rw [fs.1]
    exact (a5 g g0 g1).imp id (fun z => ⟨z.1, z.2.1, FTab_fr F k z.2.2⟩)
theorem XEn_fr {c : List Int} {c2 : List (Int × Int)} {h' : xH} (F : Fr c c2 h h') (k : sok (h.r 28 6) c c2) (X : XEn h p f E) : XEn h' p f E := by
  have fs := fr_same F
  obtain ⟨a1, a2, a3, a4, a5, a6⟩ := X
  exact ⟨SX_2 F.1 a1, by rw [fs.2.2.2.1]; exact a2, by unfold I_tab at a3 ⊢; rw [fs.1]; exact a3, a4, XLe_fr F k a5, XFo_fr F k a3 a6⟩
theorem c_X_price {l : Int} (X : XEn h p f E) (l0 : 0 ≤ l) (l1 : l < 5) (H : Q (E 13 l) h) : xCi (d + 1) M_Metre_price [(1, 22), (0, l)] h Q := by
  obtain ⟨SX_, -, -, -, -, F⟩ := X
  apply L_Metre_price
  simp only [sxt SX_, sxl SX_, sxf SX_, true_and, and_true, false_and, and_false, forall_eq, forall_eq', xi_wi, xr_wi, xt_wi, xl_wi, xn_wi, xs_wi, xi_wr, xr_wr, xt_wr, xl_wr, xn_wr, xs_wr, if_true, if_false, and_self, Int.reduceEq, Int.reduceLT, Int.reduceLE, Int.reduceNeg, Int.le_refl, Int.reduceMod]
  rw [if_neg (by omega), if_pos l1, F.2.2.2.2.2.1 l l0 l1]
  exact ⟨⟨l0, l1⟩, H⟩
theorem c_X_isForm0 {f : Int} (SX_ : SX h) (H : Q (if 0 ≤ f ∧ f ≤ 7 ∧ 0 < h.i 25 f then 1 else 0) h) : xCi (d + 1) M_Metre_isForm [(1, 22), (0, f)] h Q := by
  apply L_Metre_isForm
  simp only [sxt SX_, sxl SX_, sxf SX_, true_and, and_true, false_and, and_false, forall_eq, forall_eq', xi_wi, xr_wi, xt_wi, xl_wi, xn_wi, xs_wi, xi_wr, xr_wr, xt_wr, xl_wr, xn_wr, xs_wr, if_true, if_false, and_self, Int.reduceEq, Int.reduceLT, Int.reduceLE, Int.reduceNeg, Int.le_refl, Int.reduceMod]
  by_cases c : 0 ≤ f ∧ f ≤ 7
  · rw [if_neg (by omega), if_pos (by omega)]
    refine ⟨⟨by omega, by omega⟩, ?_⟩
    by_cases c2 : 0 < h.i 25 f
    · rw [if_pos c2]; rw [if_pos ⟨c.1, c.2, c2⟩] at H; exact H
    · rw [if_neg c2]; rw [if_neg (fun z => c2 z.2.2)] at H; exact H
  · rw [if_neg (fun z => c ⟨z.1, z.2.1⟩)] at H
    by_cases c1 : f < 0
    · rw [if_pos c1]; exact H
    · rw [if_neg c1, if_neg (by omega)]; exact H
theorem c_X_positions (X : XEn h p f E) (H : Q (E 5 0) h) : xCi (d + 2) M_Metre_positions [(1, 22), (0, f)] h Q := by
  obtain ⟨SX_, -, -, ok, -, F⟩ := X
  have np := ok.2.2.2.1
  have e5 := F.2.2.1
  have f0 := F.1
  have f1 := F.2.1
  apply L_Metre_positions
  refine ⟨(sxt SX_).2.2.2.2.2.2.2.2.2.2.2.2.2.2.2.2.2.2.2.2.1, ?_⟩
  refine c_X_isForm0 SX_ ?_
  rw [e5, if_pos (show 0 ≤ f ∧ f ≤ 7 ∧ 0 < E 5 0 from ⟨f0, by omega, by omega⟩), if_neg (by decide)]
  simp only [sxt SX_, sxl SX_, sxf SX_, true_and, and_true, false_and, and_false, forall_eq, forall_eq', xi_wi, xr_wi, xt_wi, xl_wi, xn_wi, xs_wi, xi_wr, xr_wr, xt_wr, xl_wr, xn_wr, xs_wr, if_true, if_false, and_self, Int.reduceEq, Int.reduceLT, Int.reduceLE, Int.reduceNeg, Int.le_refl, Int.reduceMod]
  rw [e5]
  exact ⟨⟨f0, f1⟩, H⟩
theorem c_X_cutB {q : Int} (X : XEn h p f E) (q0 : 0 ≤ q) (q1 : q < 8) (H : Q (b2i (scCut E q)) h) : xCi (d + 1) M_Metre_cutBehind [(1, 22), (0, f), (0, q)] h Q := by
  obtain ⟨SX_, -, -, ok, -, F⟩ := X
  have f0 := F.1
  have f1 := F.2.1
  have e7 := F.2.2.2.2.1
  have s7 := ok.2.2.2.2.2.2
  apply L_Metre_cutBehind
  simp only [sxt SX_, sxl SX_, sxf SX_, true_and, and_true, false_and, and_false, forall_eq, forall_eq', xi_wi, xr_wi, xt_wi, xl_wi, xn_wi, xs_wi, xi_wr, xr_wr, xt_wr, xl_wr, xn_wr, xs_wr, if_true, if_false, and_self, Int.reduceEq, Int.reduceLT, Int.reduceLE, Int.reduceNeg, Int.le_refl, Int.reduceMod]
  rw [if_neg (by omega), if_pos f1, if_neg (by omega), if_pos q1, e7, xbit (by omega) (by omega) (by omega) (by omega)]
  unfold scCut at H
  refine ⟨⟨f0, f1⟩, ?_⟩
  by_cases c : E 7 0 / 2 ^ q.toNat % 2 = 1
  · rw [if_pos c]; rw [decide_eq_true c] at H; exact H
  · rw [if_neg c]; rw [decide_eq_false c] at H; exact H
theorem c_X_footAt {q g : Int} (X : XEn h p f E) (q0 : 0 ≤ q) (q1 : q < 8) (g0 : 0 ≤ g) (g1 : g < 12) (H : Q (if q < E 5 0 ∧ scStand E q g = true then h.r 23 g else 0) h) : xCr (d + 3) M_Metre_footAt [(1, 22), (0, f), (0, q), (0, g)] h Q := by
  have X' := X
  obtain ⟨SX_, -, -, ok, -, F⟩ := X
  have f0 := F.1
  have f1 := F.2.1
  have e6 := F.2.2.2.1 q q0 q1
  have s6 := ok.2.2.2.2.2.1 q q0 q1
  have np := ok.2.2.2.2.1
  have ft := F.2.2.2.2.2.2 g g0 g1
  have tM : h.tag 22 = 4 := (sxt SX_).2.2.2.2.2.2.2.2.2.2.2.2.2.2.2.2.2.2.2.2.1
  apply L_Metre_footAt
  rw [if_neg (by omega)]
  refine ⟨tM, ?_⟩
  refine c_X_positions X' ?_
  by_cases c : q < E 5 0
  · rw [if_pos c, if_neg (by omega), if_pos g1]
    simp only [sxt SX_, sxl SX_, sxf SX_, true_and, and_true, false_and, and_false, forall_eq, forall_eq', xi_wi, xr_wi, xt_wi, xl_wi, xn_wi, xs_wi, xi_wr, xr_wr, xt_wr, xl_wr, xn_wr, xs_wr, if_true, if_false, and_self, Int.reduceEq, Int.reduceLT, Int.reduceLE, Int.reduceNeg, Int.le_refl, Int.reduceMod]
    rw [xw_id (a := f * 8) (by omega) (by omega), xw_id (a := f * 8 + q) (by omega) (by omega), show f * 8 + q = 8 * f + q by omega, e6, xbit (by omega) (by omega) (by omega) (by omega)]
    refine ⟨⟨by omega, by omega⟩, ?_⟩
    unfold scStand at H
    by_cases c1 : E 6 q / 2 ^ g.toNat % 2 = 0
    · rw [if_pos c1]
      rw [decide_eq_false (by omega : ¬ (E 6 q / 2 ^ g.toNat % 2 = 1)), Bool.false_and, if_neg (fun z => absurd z.2 (by decide))] at H
      exact H
    · rw [if_neg c1]
      rw [decide_eq_true (by omega : (E 6 q / 2 ^ g.toNat % 2 = 1)), Bool.true_and] at H
      refine ⟨⟨g0, g1⟩, ?_⟩
      rcases ft with ft | ft
      · rw [ft.1, if_pos rfl]
        rw [decide_eq_false (by exact fun z => z ft.2), Bool.false_and, if_neg (fun z => absurd z.2 (by decide))] at H
        exact H
      · rw [if_neg ft.1]
        rw [decide_eq_true (by exact ft.2.1), Bool.true_and] at H
        have tb := ft.2.2
        unfold FTab at tb
        have tf := tb.2.2.1
        refine ⟨tf, ?_⟩
        apply L_Foot_isClosing
        rw [tb.2.2.2.2.2.2.2.2.2.2.2.2.2.2.2.2.1]
        refine ⟨tf, ?_⟩
        by_cases c2 : E 8 g = 2
        · rw [if_pos c2, if_neg (by decide)]
          rw [decide_eq_false (by exact fun z => z c2), Bool.false_or] at H
          refine ⟨tM, ?_⟩
          refine c_X_positions X' ?_
          rw [xw_id (a := q + 1) (by omega) (by omega)]
          by_cases c3 : q = E 5 0 - 1
          · rw [if_pos (by omega)]
            rw [decide_eq_true c3, if_pos ⟨c, rfl⟩] at H
            exact H
          · rw [if_neg (by omega)]
            rw [decide_eq_false c3, if_neg (fun z => absurd z.2 (by decide))] at H
            exact H
        · rw [if_neg c2, if_pos rfl]
          rw [decide_eq_true (by exact c2), Bool.true_or, if_pos ⟨c, rfl⟩] at H
          exact H
  · rw [if_neg c]
    rw [if_neg (fun z => c z.1)] at H
    exact H
/-! a foot's tables -/
theorem c_X_codes {t s m x y : Int} {dg : Int → Int} (B : FTab h t s m x y dg) (H : Q (fcodes s m y) h) : xCi (d + 1) M_Foot_codes [(1, t)] h Q := by
  unfold FTab at B
  apply L_Foot_codes
  rw [B.2.2.2.2.2.2.2.2.2.2.2.2.2.2.2.2.2.2.1]
  exact ⟨B.2.2.1, H⟩
theorem c_X_need {t s m x y c : Int} {dg : Int → Int} {j : Nat} (B : FTab h t s m x y dg) (c0 : 0 ≤ c) (c1 : c ≤ 16) (hj : j < 2) (H : Q ((fch s m x y dg c).getD j (-1, 0)).1 h) : xCi (d + 1) M_Foot_need [(1, t), (0, c), (0, (j : Int))] h Q := by
  unfold FTab at B
  obtain ⟨b1, b2, b3, b4, b5, b6, b7, b8, b9, b10, b11, b12, b13, b14, b15, b16, b17, b18, b19, b20⟩ := B
  have z := b20 c c0 c1
  apply L_Foot_need
  intro x1 e1
  rw [xw_id (a := c * 2) (by omega) (by omega), xw_id (a := c * 2 + (j : Int)) (by omega) (by omega)] at e1
  rw [b4, e1, b12, if_neg (by omega), if_pos (by omega)]
  refine ⟨b3, b8, ⟨b8, by omega, by omega⟩, ?_⟩
  match j, hj with
  | 0, _ => rw [show c * 2 + ((0 : Nat) : Int) = 2 * c by omega, z.1]; exact H
  | 1, _ => rw [show c * 2 + ((1 : Nat) : Int) = 2 * c + 1 by omega, z.2.1]; exact H
theorem c_X_next {t s m x y c : Int} {dg : Int → Int} {j : Nat} (B : FTab h t s m x y dg) (c0 : 0 ≤ c) (c1 : c ≤ 16) (hj : j < 2) (H : Q ((fch s m x y dg c).getD j (-1, 0)).2 h) : xCi (d + 1) M_Foot_next [(1, t), (0, c), (0, (j : Int))] h Q := by
  unfold FTab at B
  obtain ⟨b1, b2, b3, b4, b5, b6, b7, b8, b9, b10, b11, b12, b13, b14, b15, b16, b17, b18, b19, b20⟩ := B
  have z := b20 c c0 c1
  apply L_Foot_next
  intro x1 e1
  rw [xw_id (a := c * 2) (by omega) (by omega), xw_id (a := c * 2 + (j : Int)) (by omega) (by omega)] at e1
  rw [b5, e1, b13, if_neg (by omega), if_pos (by omega)]
  refine ⟨b3, b9, ⟨b9, by omega, by omega⟩, ?_⟩
  match j, hj with
  | 0, _ => rw [show c * 2 + ((0 : Nat) : Int) = 2 * c by omega, z.2.2.1]; exact H
  | 1, _ => rw [show c * 2 + ((1 : Nat) : Int) = 2 * c + 1 by omega, z.2.2.2.1]; exact H
theorem c_X_asks {t s m x y c : Int} {dg : Int → Int} (B : FTab h t s m x y dg) (c0 : 0 ≤ c) (c1 : c ≤ 16) (H : Q (b2i (decide (fasks s x c = 1))) h) : xCi (d + 1) M_Foot_asksCut [(1, t), (0, c)] h Q := by
  unfold FTab at B
  obtain ⟨b1, b2, b3, b4, b5, b6, b7, b8, b9, b10, b11, b12, b13, b14, b15, b16, b17, b18, b19, b20⟩ := B
  have z := (b20 c c0 c1).2.2.2.2.1
  apply L_Foot_asksCut
  rw [b6, z, b14, if_neg (by omega), if_neg (by omega)]
  refine ⟨b3, ⟨b10, by omega, by omega⟩, ?_⟩
  unfold fasks at H ⊢
  by_cases e : s = 3 ∧ c = 4 * (x - 1) + 1
  · rw [if_pos e, if_neg (by decide)]; rw [if_pos e] at H; exact H
  · rw [if_neg e, if_pos rfl]; rw [if_neg e] at H; exact H
theorem c_X_mayEnd {t s m x y c : Int} {dg : Int → Int} (B : FTab h t s m x y dg) (c0 : 0 ≤ c) (c1 : c ≤ 16) (H : Q (b2i (decide (fends s m x y c = 1))) h) : xCi (d + 1) M_Foot_mayEnd [(1, t), (0, c)] h Q := by
  unfold FTab at B
  obtain ⟨b1, b2, b3, b4, b5, b6, b7, b8, b9, b10, b11, b12, b13, b14, b15, b16, b17, b18, b19, b20⟩ := B
  have z := (b20 c c0 c1).2.2.2.2.2
  apply L_Foot_mayEnd
  rw [b7, z, b15, if_neg (by omega), if_neg (by omega)]
  refine ⟨b3, ⟨b11, by omega, by omega⟩, ?_⟩
  have v : fends s m x y c = 0 ∨ fends s m x y c = 1 := by
    unfold fends
    by_cases e : s = 4
    · rw [if_pos e]
      by_cases e2 : c / 4 + 1 = m ∧ x ≤ c % 4 ∧ c % 4 ≤ y
      · rw [if_pos e2]; exact Or.inr rfl
      · rw [if_neg e2]; exact Or.inl rfl
    · rw [if_neg e]
      by_cases e2 : c = 4 * (m - 1) + 1
      · rw [if_pos e2]; exact Or.inr rfl
      · rw [if_neg e2]; exact Or.inl rfl
  rcases v with v | v
  · rw [v] at H ⊢
    rw [if_pos rfl]; exact H
  · rw [v] at H ⊢
    rw [if_neg (by decide)]; exact H
/-! the line -/
theorem c_X_ends {i : Int} (X : XEn h p f E) (i0 : -1 ≤ i) (i1 : i < E 0 0) (H : Q (b2i (scLast E i)) h) : xCi (d + 1) M_Syllables_endsWord [(1, p), (0, i)] h Q := by
  obtain ⟨-, -, -, ok, L, -⟩ := X
  obtain ⟨a1, a2, a3, a4, a5, a6, a7, a8, a9, a10, a11, a12, a13⟩ := L
  have n40 := ok.2.1
  unfold scLast at H
  apply L_Syllables_endsWord
  by_cases c : i < 0
  · rw [if_pos c]
    rw [decide_eq_false (by omega : ¬ 0 ≤ i), Bool.false_and] at H
    exact H
  · rw [if_neg c, a2, xw_id (a := i + 1) (by omega) (by omega), if_pos i1]
    rw [decide_eq_true (by omega : 0 ≤ i), Bool.true_and] at H
    refine ⟨a1, ?_⟩
    by_cases c2 : i = E 0 0 - 1
    · rw [if_pos (by omega)]
      rw [decide_eq_true c2, Bool.true_or] at H
      exact H
    · rw [if_neg (by omega), (a13 (i + 1) (by omega) (by omega)).1, (a13 i (by omega) i1).1]
      rw [decide_eq_false c2, Bool.false_or] at H
      refine ⟨⟨a3, by omega, by omega⟩, ⟨a3, by omega, by omega⟩, ?_⟩
      by_cases c3 : E 2 (i + 1) = E 2 i
      · rw [if_pos c3]; rw [decide_eq_false (by exact fun z => z c3)] at H; exact H
      · rw [if_neg c3]; rw [decide_eq_true (by exact c3)] at H; exact H
theorem c_X_meets {i : Int} (X : XEn h p f E) (i0 : 0 ≤ i) (i1 : i ≤ 40) (H : Q (b2i (decide (i + 1 < E 0 0) && (decide (E 3 i = 1) && decide (E 4 (i + 1) = 1)))) h) : xCi (d + 1) M_Syllables_meetsVowels [(1, p), (0, i)] h Q := by
  obtain ⟨-, -, -, ok, L, -⟩ := X
  obtain ⟨a1, a2, a3, a4, a5, a6, a7, a8, a9, a10, a11, a12, a13⟩ := L
  have n40 := ok.2.1
  apply L_Syllables_meetsVowels
  rw [if_neg (by omega), a2, xw_id (a := i + 1) (by omega) (by omega)]
  refine ⟨a1, ?_⟩
  by_cases c : i + 1 < E 0 0
  · rw [if_pos c]
    rw [decide_eq_true c, Bool.true_and] at H
    have z := a13 i (by omega) (by omega)
    have z' := a13 (i + 1) (by omega) (by omega)
    rw [xand_2' (by omega) (by omega), xand_1 (by omega)]
    refine ⟨⟨a5, by omega, by omega⟩, ?_⟩
    by_cases c1 : E 3 i = 1
    · rw [if_neg (show ¬ h.i (h.r p 4) i % 4 < 2 by omega), if_neg (by decide)]
      rw [decide_eq_true c1, Bool.true_and] at H
      refine ⟨⟨a5, by omega, by omega⟩, ?_⟩
      by_cases c2 : E 4 (i + 1) = 1
      · rw [if_neg (by omega)]; rw [decide_eq_true c2] at H; exact H
      · rw [if_pos (by omega)]; rw [decide_eq_false c2] at H; exact H
    · rw [if_pos (show h.i (h.r p 4) i % 4 < 2 by omega), if_pos rfl]
      rw [decide_eq_false c1, Bool.false_and] at H
      exact H
  · rw [if_neg c]
    rw [decide_eq_false c, Bool.false_and] at H
    exact H
theorem c_X_mayMelt {i : Int} (X : XEn h p f E) (i0 : 0 ≤ i) (i1 : i ≤ 40) (H : Q (b2i (scMelt E i)) h) : xCi (d + 2) M_Syllables_mayMelt [(1, p), (0, i)] h Q := by
  have tp := X.2.2.2.2.1.1
  apply L_Syllables_mayMelt
  refine ⟨tp, ?_⟩
  refine c_X_meets X i0 i1 ?_
  unfold scMelt at H
  by_cases c : i + 1 < E 0 0
  · rw [decide_eq_true c, Bool.true_and] at H ⊢
    cases z : (decide (E 3 i = 1) && decide (E 4 (i + 1) = 1))
    · rw [z, Bool.and_false] at H
      rw [b2i_0, if_pos rfl]; exact H
    · rw [z, Bool.and_true] at H
      rw [b2i_1, if_neg (by decide)]
      refine ⟨tp, ?_⟩
      refine c_X_ends X (by omega) (by omega) ?_
      cases y : scLast E i
      · rw [y] at H; rw [b2i_0, if_pos rfl]; exact H
      · rw [y] at H; rw [b2i_1, if_neg (by decide)]; exact H
  · rw [decide_eq_false c, Bool.false_and] at H ⊢
    rw [b2i_0, if_pos rfl]; exact H
theorem c_X_mayLose {i : Int} (X : XEn h p f E) (i0 : 0 ≤ i) (i1 : i ≤ 40) (H : Q (b2i (scLose E i)) h) : xCi (d + 2) M_Syllables_mayBeLost [(1, p), (0, i)] h Q := by
  have tp := X.2.2.2.2.1.1
  apply L_Syllables_mayBeLost
  unfold scLose at H
  by_cases c0 : 0 < i
  · rw [if_pos c0]
    refine ⟨tp, ?_⟩
    refine c_X_meets X i0 i1 ?_
    by_cases c : i + 1 < E 0 0
    · rw [decide_eq_true c, Bool.true_and] at H ⊢
      cases z : (decide (E 3 i = 1) && decide (E 4 (i + 1) = 1))
      · rw [z, Bool.and_false, Bool.and_false] at H
        rw [b2i_0, if_pos rfl]; exact H
      · rw [z, Bool.and_true] at H
        rw [b2i_1, if_neg (by decide)]
        refine ⟨tp, ?_⟩
        refine c_X_ends X (by omega) (by omega) ?_
        cases y : scLast E i
        · rw [y, Bool.false_and] at H; rw [b2i_0, if_pos rfl]; exact H
        · rw [y, Bool.true_and] at H
          rw [b2i_1, if_neg (by decide), xw_id (a := i - 1) (by omega) (by omega)]
          refine ⟨tp, ?_⟩
          refine c_X_ends X (by omega) (by omega) ?_
          have e : scLast E (i - 1) = scFirst E i := by
            unfold scLast scFirst
            rw [decide_eq_true (by omega : 0 ≤ i - 1), decide_eq_false (by omega : ¬ i - 1 = E 0 0 - 1), decide_eq_false (by omega : ¬ i = 0), Bool.true_and, Bool.false_or, Bool.false_or, show i - 1 + 1 = i by omega]
            by_cases w : E 2 i = E 2 (i - 1)
            · rw [decide_eq_false (by exact fun q => q w), decide_eq_false (by exact fun q => q w.symm)]
            · rw [decide_eq_true (by exact w), decide_eq_true (by exact fun q => w q.symm)]
          rw [e]
          cases y2 : scFirst E i
          · rw [y2] at H; rw [b2i_0, if_pos rfl]; exact H
          · rw [y2] at H; rw [b2i_1, if_neg (by decide)]; exact H
    · rw [decide_eq_false c, Bool.false_and] at H ⊢
      rw [b2i_0, if_pos rfl]; exact H
  · rw [if_neg c0]
    have e : scFirst E i = true := by unfold scFirst; rw [decide_eq_true (by omega : i = 0), Bool.true_or]
    rw [e, Bool.not_true, Bool.false_and, Bool.and_false, Bool.and_false] at H
    exact H
end XG
