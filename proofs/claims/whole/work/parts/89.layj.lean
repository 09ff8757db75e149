/-! lay: the class' call; the call -/
section LJ
variable {p f : Int} {E : SEn} {b : Bool} {d : Nat} {h : xH}
theorem XEn_new {N : Int} (X : XEn h p f E) : XEn ((h.al 20 N).wr 40 3 h.nx) p f E := by
  obtain ⟨a1, a2, a3, a4, a5, a6⟩ := X
  have e6 : ((h.al 20 N).wr 40 3 h.nx).r 40 3 = h.nx := by simp only [true_and, and_true, false_and, and_false, forall_eq, forall_eq', xi_wi, xr_wi, xt_wi, xl_wi, xn_wi, xs_wi, xi_wr, xr_wr, xt_wr, xl_wr, xn_wr, xs_wr, if_true, if_false, and_self, Int.reduceEq, Int.reduceLT, Int.reduceLE, Int.reduceNeg, Int.le_refl, Int.reduceMod]
  have ro : ∀ x k, x ≠ 40 → ((h.al 20 N).wr 40 3 h.nx).r x k = h.r x k := fun x k n => by rw [xr_wr, if_neg (fun z => n z.1)]; rfl
  have tg : ∀ x, x < h.nx → ((h.al 20 N).wr 40 3 h.nx).tag x = h.tag x ∧ ((h.al 20 N).wr 40 3 h.nx).len x = h.len x := fun x hx => by rw [xt_wr, xl_wr, xt_al, xl_al, if_neg (by omega), if_neg (by omega)]; exact ⟨rfl, rfl⟩
  have nx : ((h.al 20 N).wr 40 3 h.nx).nx = h.nx + 1 := rfl
  refine ⟨SX_wrRS (SX_al a2 a1), by rw [nx]; omega, by unfold I_tab at a3 ⊢; rw [ro 28 6 (by decide)]; exact a3, a4, ?_, ?_⟩
  · have np : p ≠ 40 := by have := a5.2.2.2.2.2.2.2.2.1.1; omega
    have l1 := a5.2.2.2.2.2.2.2.2.1.2.2
    have l2 := a5.2.2.2.2.2.2.2.2.2.1.2.2
    have l3 := a5.2.2.2.2.2.2.2.2.2.2.1.2.2
    have l4 := a5.2.2.2.2.2.2.2.2.2.2.2.1.2.2
    unfold XLe XFar at a5 ⊢
    rw [ro p _ np, ro p _ np, ro p _ np, ro 28 6 (by decide), nx, (tg _ l1).1, (tg _ l2).1, (tg _ l3).1, (tg _ l4).1, (tg _ l2).2, (tg _ l3).2, (tg _ l4).2]
    obtain ⟨b1, b2, b3, b4, b5, b6, b7, b8, b9, b10, b11, b12, b13⟩ := a5
    exact ⟨b1, b2, b3, b4, b5, b6, b7, b8, by omega, by omega, by omega, by omega, b13⟩
  · obtain ⟨f0, f1, b1, b2, b3, b4, b5⟩ := a6
    refine ⟨f0, f1, b1, b2, b3, b4, fun g g0 g1 => ?_⟩
    rw [ro 23 g (by decide)]
    refine (b5 g g0 g1).imp id (fun z => ⟨z.1, z.2.1, ?_⟩)
    have y := z.2.2
    have t0 : 130 ≤ h.r 23 g := y.1
    have t1 : h.r 23 g + 4 < h.nx := y.2.1
    unfold FTab aprt at y ⊢
    rw [ro _ _ (by omega), ro _ _ (by omega), ro _ _ (by omega), ro _ _ (by omega), e6, ro 28 6 (by decide), nx, (tg _ (show h.r 23 g < h.nx by omega)).1, (tg _ (show h.r 23 g + 1 < h.nx by omega)).1, (tg _ (show h.r 23 g + 2 < h.nx by omega)).1, (tg _ (show h.r 23 g + 3 < h.nx by omega)).1, (tg _ (show h.r 23 g + 4 < h.nx by omega)).1, (tg _ (show h.r 23 g + 1 < h.nx by omega)).2, (tg _ (show h.r 23 g + 2 < h.nx by omega)).2, (tg _ (show h.r 23 g + 3 < h.nx by omega)).2, (tg _ (show h.r 23 g + 4 < h.nx by omega)).2]
    obtain ⟨c1, c2, c3, c4, c5, c6, c7, c8, c9, c10, c11, c12, c13, c14, c15, c16, c17⟩ := y
    exact ⟨c1, by omega, c3, c4, c5, c6, c7, c8, c9, c10, c11, c12, c13, c14, c15, by omega, c17⟩
theorem ScC_new {N : Int} (S : XS h) (C : ScC h p f E b) (T : TbOk h E b (fun _ _ => True)) : ScC ((h.al 20 N).wr 40 3 h.nx) p f E b ∧ TbOk ((h.al 20 N).wr 40 3 h.nx) E b (fun _ _ => True) := by
  have ro : ∀ x k, x ≠ 40 → ((h.al 20 N).wr 40 3 h.nx).r x k = h.r x k := fun x k n => by rw [xr_wr, if_neg (fun z => n z.1)]; rfl
  have tg : ∀ x, x < h.nx → ((h.al 20 N).wr 40 3 h.nx).tag x = h.tag x ∧ ((h.al 20 N).wr 40 3 h.nx).len x = h.len x := fun x hx => by rw [xt_wr, xl_wr, xt_al, xl_al, if_neg (by omega), if_neg (by omega)]; exact ⟨rfl, rfl⟩
  have t6 := S.2.2.2.2.2.1
  have e7 : tl ((h.al 20 N).wr 40 3 h.nx) = tl h := by unfold tl; rw [ro 28 6 (by decide), (tg _ t6).2]
  obtain ⟨a1, a2, a3, a4, a5, a6, a7, a8, a9, a10, a11⟩ := C
  refine ⟨⟨XEn_new a1, by rw [ro 28 _ (by decide)]; exact a2, a3, a4, a5, by rw [ro 28 _ (by decide), (tg _ t6).1]; exact a6, a7, a8, a9, by rw [e7]; exact a10, by rw [e7]; exact a11⟩, ?_⟩
  intro q g c0 c1 c2 c3 c' i' x0 x1 x2 x3
  rw [ro 28 _ (by decide)]
  exact T q g c0 c1 c2 c3 c' i' x0 x1 x2 x3
theorem QOk_new {N : Int} (S : XS h) (X : XEn h p f E) : QOk ((h.al 20 N).wr 40 3 h.nx) p h.nx := by
  have ro : ∀ x k, x ≠ 40 → ((h.al 20 N).wr 40 3 h.nx).r x k = h.r x k := fun x k n => by rw [xr_wr, if_neg (fun z => n z.1)]; rfl
  have t6 := S.2.2.2.2.2.1
  have hn := S.2.1
  have L := X.2.2.2.2.1
  have Fo := X.2.2.2.2.2
  have l1 := L.2.2.2.2.2.2.2.2.1
  have l2 := L.2.2.2.2.2.2.2.2.2.1.2.2
  have l3 := L.2.2.2.2.2.2.2.2.2.2.1.2.2
  have l4 := L.2.2.2.2.2.2.2.2.2.2.2.1.2.2
  have np : p ≠ 40 := by have := l1.1; omega
  have l1' := l1.2.2
  unfold QOk
  rw [ro 28 6 (by decide), ro p _ np, ro p _ np, ro p _ np]
  refine ⟨by rw [xt_wr, xt_al, if_pos rfl], by show h.nx < h.nx + 1; omega, Or.inr ⟨hn, by omega, by omega, by omega, by omega, by omega, fun g g0 g1 => ?_⟩⟩
  rw [ro 23 g (by decide)]
  refine (Fo.2.2.2.2.2.2 g g0 g1).imp (fun z => z.1) (fun z => Or.inr ?_)
  have := z.2.2.2.1
  omega
/-- behind the count, a new row of steps made -/
def lyAS : List (Int × Int) := wkXS ++ [(40, 7)]
def lyAR : List (Int × Int) := wkXR ++ [(40, 3)]
def LyA (n : Nat) (h h' : xH) : Prop := FA wkXL lyAS [] lyAR h h' ∧ Tok h h' ∧ XS h' ∧ I_room (n + 1) h'
theorem gro12 {h1 : xH} (t0 : 0 ≤ tl h) (G : Gro h h1) (t1 : tl h1 ≤ 126000) : h.nx ≤ h1.nx ∧ h1.nx ≤ h.nx + 12 ∧ h1.us - 2 * tl h1 ≤ h.us - 2 * tl h := by
  obtain ⟨a, g1, g2, g3, g4⟩ := G
  have a12 : a ≤ 12 := by
    rcases g3 with z | z
    · omega
    · by_cases q : a ≤ 12
      · exact q
      · exfalso
        have w : (2 : Nat) ^ 13 ≤ 2 ^ a := Nat.pow_le_pow_right (by decide) (by omega)
        have w2 : ((2 ^ 13 : Nat) : Int) ≤ ((2 ^ a : Nat) : Int) := Int.ofNat_le.mpr w
        rw [Int.natCast_pow, Int.natCast_pow] at w2
        have w3 : (8192 : Int) ≤ 2 ^ a := w2
        omega
  omega
theorem c_X_layOut {n : Nat} {Q : Int → xH → Prop} (I : INV n h) (X : XEn h p f E) (B : SylB h p) (H1 : 200 < (rd E st0).length → ∀ h', LyA n h h' → h'.r 40 3 = h.r 40 3 → h'.i 40 7 = 0 → Q (-3) h') (H2 : (rd E st0).length ≤ 200 → ∀ h4 h' P', LyA n h h4 → QOk h4 p (h4.r 40 3) → h4.len (h4.r 40 3) ≤ 16000 → (((rd E st0).length : Nat) : Int) * E 0 0 ≤ h4.len (h4.r 40 3) → NA (lyL (h4.r 40 3)) lyS lyR h4 h' → SX h' → OrdX h' (h4.r 40 3) (h'.i 42 (((rd E st0).length : Nat) : Int)) (rd E st0).length P' → P'.length = (rd E st0).length → h'.i 42 (((rd E st0).length : Nat) : Int) ≤ (((rd E st0).length : Nat) : Int) * E 0 0 → P'.Perm (rd E st0) → P'.Pairwise rlt → h'.i 42 0 = 0 → Q (((rd E st0).length : Nat) : Int) h') : xCi (d + 8) M_Readings_layOut [(1, 40), (1, p), (0, f)] h Q := by
  have SX_ := I.1
  have hn := I.2.2.1
  have ht := I.2.2.2.1
  unfold I_tab at ht
  have a6 := I.2.2.2.2.2.1
  have i13 := I.2.2.2.2.2.2.2.2.2.2.2.2.2.2.2.2.2.2.1
  have i15 := I.2.2.2.2.2.2.2.2.2.2.2.2.2.2.2.2.2.2.2.2
  have ok := X.2.2.2.1
  have n40 := ok.2.1
  have n1 := ok.1
  have w := rd_W ok (s := st0) (by decide)
  apply L_Readings_layOut
  refine ⟨t40_ SX_, ?_⟩
  intro h0 e0
  have F0 : Fr [] [(40, 7)] h h0 := by rw [e0]; exact Fr_slot (Fr_refl _ _ _) _ (by decide)
  have v0 : h0.i 40 7 = 0 := by rw [e0]; simp only [true_and, and_true, false_and, and_false, forall_eq, forall_eq', xi_wi, xr_wi, xt_wi, xl_wi, xn_wi, xs_wi, xi_wr, xr_wr, xt_wr, xl_wr, xn_wr, xs_wr, if_true, if_false, and_self, Int.reduceEq, Int.reduceLT, Int.reduceLE, Int.reduceNeg, Int.le_refl, Int.reduceMod]
  clear e0
  have fs0 := fr_same F0
  have S0 : XS h0 := XS_fr (XS_of I) F0 (by decide)
  have X0 : XEn h0 p f E := XEn_fr F0 (sok_low (by decide)) X
  have g0 : h0.r 40 1 = 28 := by have SX_ := S0.1; simp only [sxt SX_, sxl SX_, sxf SX_, true_and, and_true, false_and, and_false, forall_eq, forall_eq', xi_wi, xr_wi, xt_wi, xl_wi, xn_wi, xs_wi, xi_wr, xr_wr, xt_wr, xl_wr, xn_wr, xs_wr, if_true, if_false, and_self, Int.reduceEq, Int.reduceLT, Int.reduceLE, Int.reduceNeg, Int.le_refl, Int.reduceMod]
  rw [g0]
  refine ⟨t40_ S0.1, t28_ S0.1, ?_⟩
  refine c_X_howMany (d := d) S0 X0 (fun h2 A C T => ?_)
  have W := WkX_of A
  have Tk : Tok h h2 := by
    have := A.2.1
    unfold Tok at this ⊢
    rw [fs0.1, fs0.2.2.2.1] at this
    exact this
  have S2 := A.2.2.2
  have SX2 := S2.1
  have G : FA wkXL lyAS [] lyAR h h2 := FA_trans (FA_of [] lyAR (Fr_mono F0 (fun c m => absurd m List.not_mem_nil) (fun c m => List.mem_append_right _ m))) (Or.inl (by rw [fs0.1])) (FA_mono W.1 (fun c m => m) (fun c m => List.mem_append_left _ m) (fun c m => m) (fun c m => List.mem_append_left _ m))
  have G2 : FA wkXL lyAS [] wkXR h h2 := FA_trans (FA_of [] wkXR (Fr_mono F0 (fun c m => absurd m List.not_mem_nil) (fun c m => List.mem_append_right _ m))) (Or.inl (by rw [fs0.1])) (FA_mono W.1 (fun c m => m) (fun c m => List.mem_append_left _ m) (fun c m => m) (fun c m => m))
  have t0 : tl h0 = tl h := by unfold tl; rw [fs0.1, fs0.2.2.1]
  have gr := gro12 S0.2.2.2.2.2.2.1 A.2.2.1 S2.2.2.2.2.2.2.2
  rw [t0, fs0.2.2.2.1, fs0.2.2.2.2] at gr
  have es : h2.r 40 3 = h.r 40 3 := FA_rslot G2 (by omega) (by decide)
  have qn : h.r 40 3 < h.nx := by have := i13.2.2.2.2.1; omega
  have ts := (G2.2.1 _ qn).1
  have ls := (G2.2.1 _ qn).2
  have S28 := S2.2.2.2.2.1
  have S29 := S2.2.2.2.2.2.1
  have S210 := S2.2.2.2.2.2.2.1
  have S211 := S2.2.2.2.2.2.2.2
  have rm : I_room (n + 1) h2 := by
    unfold I_room at a6 ⊢
    rw [es, ls]
    unfold tl at gr S210 S211
    push_cast
    omega
  have z7 : h2.i 40 7 = 0 := by
    rw [A.1.2.2.1 40 7 (by rw [fs0.2.2.2.1]; omega) (by decide) (by decide) (by rw [fs0.1]; omega)]; exact v0
  have z42 : h2.i 42 0 = 0 := by
    rw [G2.2.2.1 42 0 (by omega) (by decide) (by decide) (by omega)]; exact i15.2.2
  by_cases c : 200 < (rd E st0).length
  · rw [if_pos (by omega)]
    exact H1 c h2 ⟨G, Tk, S2, rm⟩ es z7
  · have e : scW E true st0 = (((rd E st0).length : Nat) : Int) := by omega
    rw [if_neg (by omega), e]
    have L2 := C.1.2.2.2.2.1
    have m1 : (((rd E st0).length : Nat) : Int) * E 0 0 ≤ 200 * 40 := Int.mul_le_mul (by omega) n40 (by omega) (by omega)
    have m0 : 0 ≤ (((rd E st0).length : Nat) : Int) * E 0 0 := Int.mul_nonneg (by omega) (by omega)
    have l6 : h2.i p 6 = E 0 0 := L2.2.1
    refine ⟨L2.1, ?_⟩
    intro x1 e1
    rw [l6, xw_id (by omega) (by omega)] at e1
    refine ⟨t40_ SX2, by rw [es, ts]; exact i13.2.2.2.1, ?_⟩
    have fin : ∀ h4, LyA n h h4 → ScC h4 p f E true → TbOk h4 E true (fun _ _ => True) → QOk h4 p (h4.r 40 3) → h4.len (h4.r 40 3) ≤ 16000 → x1 ≤ h4.len (h4.r 40 3) → h4.i 40 7 = 0 → h4.i 42 0 = 0 → xT (d + 7) M_Readings_layOut 36 [(1, 40), (1, p), (0, f), (0, (((rd E st0).length : Nat) : Int)), (0, x1), (0, 0)] [] h4 (xqi Q) := fun h4 a1 a2 a3 a4 a5 a6 a7 a8 => by
      have := c_lo_36 (p := p) (f := f) (E := E) (d := d + 1) (q := h4.r 40 3) (n := (rd E st0).length) (Q := Q) (h0 := h4) rfl (by omega) a4.1 (by omega) (by omega) (fun h' P' b1 b2 b3 b4 b5 b6 b7 b8 b9 => H2 (by omega) h4 h' P' a1 a4 a5 (by omega) b1 b9 b2 b3 b5 b6 b7 b8) (rd E st0).length 0 h4 [] (0, x1) (by omega) (NA_refl _ _ _ _) a2 a3 a4 rfl ⟨a7, Nat.le_refl _, fun j hj => absurd hj (Nat.not_lt_zero _)⟩ rfl (by rw [show ((0 : Nat) : Int) = 0 from rfl, a8]; exact Int.le_refl _) (by rw [show ((0 : Nat) : Int) = 0 from rfl, a8, Int.zero_mul]; exact Int.le_refl _) (by rw [List.take_zero]) List.Pairwise.nil a8
      exact this
    have Lr := i13.2.2.2.2.1
    have r7 := a6.2.2.2.2.1
    have r8 := a6.2.2.2.2.2.1
    by_cases al : h2.len (h2.r 40 3) < x1
    · rw [if_pos al]
      rw [es, ls] at al
      obtain ⟨N, eN, N1, N2, N3⟩ : ∃ N : Int, (if x1 < xw (2 * h2.len (h2.r 40 3)) then xw (2 * h2.len (h2.r 40 3)) else x1) = N ∧ x1 ≤ N ∧ 2 * h.len (h.r 40 3) ≤ N ∧ N ≤ 16000 := by
        rw [es, ls, xw_id (a := 2 * h.len (h.r 40 3)) (by omega) (by omega)]
        by_cases z : x1 < 2 * h.len (h.r 40 3)
        · rw [if_pos z]; exact ⟨_, rfl, by omega, by omega, by omega⟩
        · rw [if_neg z]; exact ⟨_, rfl, by omega, by omega, by omega⟩
      rw [eN]
      refine ⟨⟨by omega, by omega⟩, ?_⟩
      intro p1 ep h3 e3
      subst ep e3
      refine ⟨by rw [xt_al, if_neg (by have := S2.2.1; omega)]; exact t40_ SX2, ?_⟩
      intro h4 e4
      have e43 : h4.r 40 3 = h2.nx := by rw [e4]; simp only [true_and, and_true, false_and, and_false, forall_eq, forall_eq', xi_wi, xr_wi, xt_wi, xl_wi, xn_wi, xs_wi, xi_wr, xr_wr, xt_wr, xl_wr, xn_wr, xs_wr, if_true, if_false, and_self, Int.reduceEq, Int.reduceLT, Int.reduceLE, Int.reduceNeg, Int.le_refl, Int.reduceMod]
      have ro : ∀ x k, ¬ (x = 40 ∧ k = 3) → h4.r x k = h2.r x k := fun x k n => by rw [e4, xr_wr, if_neg n]; rfl
      have tg : ∀ x, x < h2.nx → h4.tag x = h2.tag x ∧ h4.len x = h2.len x := fun x hx => by rw [e4, xt_wr, xl_wr, xt_al, xl_al, if_neg (by omega), if_neg (by omega)]; exact ⟨rfl, rfl⟩
      have l4 : h4.len h2.nx = N := by rw [e4, xl_wr, xl_al, if_pos rfl]
      have nx4 : h4.nx = h2.nx + 1 := by rw [e4]; rfl
      have us4 : h4.us = h2.us + N := by rw [e4]; rfl
      have i4 : h4.i = h2.i := by rw [e4]; rfl
      have CT := ScC_new (N := N) S2 C T
      have Q4 := QOk_new (N := N) S2 C.1
      rw [← e4] at CT Q4
      have t64 : tl h4 = tl h2 := by unfold tl; rw [ro 28 6 (by decide), (tg _ S29).2]
      refine fin h4 ⟨?_, ?_, ⟨CT.1.1.1, by omega, CT.1.1.2.2.1, ?_, by rw [ro 28 6 (by decide), (tg _ S29).1]; exact S28, by rw [ro 28 6 (by decide)]; omega, by rw [t64]; exact S210, by rw [t64]; exact S211⟩, ?_⟩ CT.1 CT.2 (by rw [e43]; exact Q4) (by rw [e43, l4]; exact N3) (by rw [e43, l4]; exact N1) (by rw [i4]; exact z7) (by rw [i4]; exact z42)
      · rw [e4]
        exact FA_wr (FA_al G _ _) _ _ (Or.inr (Or.inl (by decide)))
      · refine ⟨?_, Or.inr (by rw [e43]; omega)⟩
        rw [ro 28 6 (by decide)]; exact Tk.1
      · rw [e4]
        exact I_new_wr (I_new_al S2.2.2.2.1 _ _) _ _ (by rw [xn_al]; have := S2.2.1; omega)
      · unfold I_room at a6 ⊢
        rw [e43, l4, nx4, us4, ro 28 6 (by decide), (tg _ S29).1, (tg _ S29).2]
        unfold tl at gr S210 S211
        push_cast
        omega
    · rw [if_neg al]
      rw [es, ls] at al
      refine fin h2 ⟨G, Tk, S2, rm⟩ C T ?_ (by rw [es, ls]; exact r8) (by rw [es, ls]; omega) z7 z42
      rw [es]
      refine ⟨by rw [ts]; exact i13.2.2.2.1, by omega, ?_⟩
      by_cases q41 : h.r 40 3 = 41
      · exact Or.inl q41
      · have qd := Lr.resolve_left q41
        have nt := i13.2.2.2.2.2.1
        have Tk1 := Tk.1
        have Bz := B
        unfold SylB at Bz
        obtain ⟨a1, a2, a3, a4, a5, a6', a7, a8, a9, a10, a11, a12, a13, a14, a15, a16, a17, a18, a19⟩ := Bz
        have z := a19
        unfold aprt at z
        have rp : h2.r p = h.r p := FA_rrow G2 (by omega) (by
          have : ∀ y ∈ wkXR, y.1 < 130 := by decide
          rw [Bool.and_eq_true, List.all_eq_true]
          refine ⟨rfl, fun y m => ?_⟩
          have := this y m
          exact bne_iff_ne.mpr (by omega))
        have r23 : h2.r 23 = h.r 23 := FA_rrow G2 (by omega) (by decide)
        rw [rp, r23, a6', a7, a8]
        refine Or.inr ⟨qd.1, by omega, by omega, by omega, by omega, by omega, fun g g0 g1 => ?_⟩
        refine (X.2.2.2.2.2.2.2.2.2.2.2 g g0 g1).imp (fun z => z.1) (fun z => ?_)
        have y := z.2.2.2.2.2.2.2.2.2.2.2.2.2.2.2.2.2.1
        unfold aprt at y
        omega
end LJ
