/-! check, the call; what a walk may change -/
def wkXL : List Int := scXL ++ mvL
def wkXS : List (Int × Int) := scXS ++ [(35, 3), (35, 4), (35, 5), (35, 10)]
def wkXR : List (Int × Int) := scXR ++ [(35, 2)]
def WkX (h h' : xH) : Prop := FA wkXL wkXS [] wkXR h h' ∧ Tok h h' ∧ Gro h h' ∧ XS h'
section WX
variable {p f : Int} {E : SEn} {b : Bool} {d : Nat} {h : xH}
theorem WkX_of {h' : xH} (A : ScX h h') : WkX h h' := ⟨FA_mono A.1 (fun c m => List.mem_append_left _ m) (fun c m => List.mem_append_left _ m) (fun c m => m) (fun c m => List.mem_append_left _ m), A.2⟩
theorem WkX_trans {h1 h2 : xH} (S : XS h) (A : WkX h h1) (B : WkX h1 h2) : WkX h h2 := by
  obtain ⟨a1, a2, a3, a4⟩ := A
  obtain ⟨b1, b2, b3, b4⟩ := B
  have n1 := a1.1
  refine ⟨FA_trans a1 a2.1 b1, ?_, Gro_trans S.2.2.2.2.2.2.1 a3 b3, b4⟩
  unfold Tok at *
  omega
theorem WkX_refl (S : XS h) : WkX h h := ⟨FA_refl _ _ _ _ _, ⟨Or.inl rfl, Or.inl rfl⟩, Gro_refl h, S⟩
theorem XS_fr {h' : xH} {c : List Int} {c2 : List (Int × Int)} (S : XS h) (F : Fr c c2 h h') (w : low c c2 [] [] = true) : XS h' := by
  have fs := fr_same F
  obtain ⟨s1, s2, s3, s4, s5, s6, s7, s8⟩ := S
  have e7 : tl h' = tl h := by unfold tl; rw [fs.1, fs.2.2.1]
  exact ⟨SX_2 F.1 s1, by rw [fs.2.2.2.1]; exact s2, by unfold I_tab at s3 ⊢; rw [fs.1]; exact s3, I_new_fr s4 F w s2, by rw [fs.1, fs.2.1]; exact s5, by rw [fs.1, fs.2.2.2.1]; exact s6, by rw [e7]; exact s7, by rw [e7]; exact s8⟩
theorem Gro_fr {h' : xH} {c : List Int} {c2 : List (Int × Int)} (F : Fr c c2 h h') : Gro h h' := by
  have fs := fr_same F
  have e7 : tl h' = tl h := by unfold tl; rw [fs.1, fs.2.2.1]
  exact ⟨0, by rw [fs.2.2.2.1]; push_cast; omega, by rw [e7, Int.pow_zero]; omega, Or.inl rfl, by rw [fs.2.2.2.2, e7]; exact Int.le_refl _⟩
theorem Tok_fr {h' : xH} {c : List Int} {c2 : List (Int × Int)} (F : Fr c c2 h h') : Tok h h' := by
  have fs := fr_same F
  exact ⟨Or.inl (by rw [fs.1]), Or.inl (by rw [fs.1])⟩
theorem WkX_fr {h' : xH} (S : XS h) (F : Fr mvL wkS h h') : WkX h h' := ⟨FA_of [] wkXR (Fr_mono F (fun c m => List.mem_append_right _ m) (by decide)), Tok_fr F, Gro_fr F, XS_fr S F (by decide)⟩
theorem XEn_wrW {v : Int} (X : XEn h p f E) : XEn (h.wr 35 2 v) p f E := by
  obtain ⟨a1, a2, a3, a4, a5, a6⟩ := X
  have e6 : (h.wr 35 2 v).r 28 6 = h.r 28 6 := by simp only [true_and, and_true, false_and, and_false, forall_eq, forall_eq', xi_wi, xr_wi, xt_wi, xl_wi, xn_wi, xs_wi, xi_wr, xr_wr, xt_wr, xl_wr, xn_wr, xs_wr, if_true, if_false, and_self, Int.reduceEq, Int.reduceLT, Int.reduceLE, Int.reduceNeg, Int.le_refl, Int.reduceMod]
  have ro : ∀ x k, x ≠ 35 → (h.wr 35 2 v).r x k = h.r x k := fun x k n => by rw [xr_wr, if_neg (fun z => n z.1)]
  refine ⟨SX_wrWL a1, a2, by unfold I_tab at a3 ⊢; rw [e6]; exact a3, a4, ?_, ?_⟩
  · have np : p ≠ 35 := by have := a5.2.2.2.2.2.2.2.2.1.1; omega
    unfold XLe XFar at a5 ⊢
    rw [ro p _ np, ro p _ np, ro p _ np, e6]
    exact a5
  · obtain ⟨f0, f1, b1, b2, b3, b4, b5⟩ := a6
    refine ⟨f0, f1, b1, b2, b3, b4, fun g g0 g1 => ?_⟩
    rw [ro 23 g (by decide)]
    refine (b5 g g0 g1).imp id (fun z => ⟨z.1, z.2.1, ?_⟩)
    have y := z.2.2
    have t0 : 130 ≤ h.r 23 g := y.1
    unfold FTab aprt at y ⊢
    rw [ro _ _ (by omega), ro _ _ (by omega), ro _ _ (by omega), ro _ _ (by omega), e6, ro 40 3 (by decide)]
    exact y
theorem c_X_wbegin {Q : xH → Prop} (S : XS h) (C : ScC h p f E b) (T : TbOk h E b (fun _ _ => True)) (H : ∀ h', WkX h h' → WkA h' p f E b st0 → Q h') : xCv (d + 1) M_Walker_begin [(1, 35), (1, p), (0, f)] h Q := by
  have SX_ := S.1
  have X := C.1
  apply L_Walker_begin
  simp only [sxt SX_, sxl SX_, sxf SX_, true_and, and_true, false_and, and_false, forall_eq, forall_eq', xi_wi, xr_wi, xt_wi, xl_wi, xn_wi, xs_wi, xi_wr, xr_wr, xt_wr, xl_wr, xn_wr, xs_wr, if_true, if_false, and_self, Int.reduceEq, Int.reduceLT, Int.reduceLE, Int.reduceNeg, Int.le_refl, Int.reduceMod]
  have XW := XEn_wrW (v := p) X
  have S1 : XS (h.wr 35 2 p) := by
    obtain ⟨s1, s2, s3, s4, s5, s6, s7, s8⟩ := S
    have e6 : (h.wr 35 2 p).r 28 6 = h.r 28 6 := by simp only [true_and, and_true, false_and, and_false, forall_eq, forall_eq', xi_wi, xr_wi, xt_wi, xl_wi, xn_wi, xs_wi, xi_wr, xr_wr, xt_wr, xl_wr, xn_wr, xs_wr, if_true, if_false, and_self, Int.reduceEq, Int.reduceLT, Int.reduceLE, Int.reduceNeg, Int.le_refl, Int.reduceMod]
    have e7 : tl (h.wr 35 2 p) = tl h := by unfold tl; rw [e6]; rfl
    exact ⟨SX_wrWL s1, s2, by unfold I_tab at s3 ⊢; rw [e6]; exact s3, I_new_wr s4 _ _ (by omega), by rw [e6]; exact s5, by rw [e6]; exact s6, by rw [e7]; exact s7, by rw [e7]; exact s8⟩
  have F : Fr [] [(35, 3), (35, 4), (35, 5)] (h.wr 35 2 p) ((((h.wr 35 2 p).wi 35 3 f).wi 35 4 0).wi 35 5 1536) := Fr_slot (Fr_slot (Fr_slot (Fr_refl _ _ _) _ (by decide)) _ (by decide)) _ (by decide)
  have e6 : (h.wr 35 2 p).r 28 6 = h.r 28 6 := by simp only [true_and, and_true, false_and, and_false, forall_eq, forall_eq', xi_wi, xr_wi, xt_wi, xl_wi, xn_wi, xs_wi, xi_wr, xr_wr, xt_wr, xl_wr, xn_wr, xs_wr, if_true, if_false, and_self, Int.reduceEq, Int.reduceLT, Int.reduceLE, Int.reduceNeg, Int.le_refl, Int.reduceMod]
  have e67 : (h.wr 35 2 p).r 28 7 = h.r 28 7 := by simp only [true_and, and_true, false_and, and_false, forall_eq, forall_eq', xi_wi, xr_wi, xt_wi, xl_wi, xn_wi, xs_wi, xi_wr, xr_wr, xt_wr, xl_wr, xn_wr, xs_wr, if_true, if_false, and_self, Int.reduceEq, Int.reduceLT, Int.reduceLE, Int.reduceNeg, Int.le_refl, Int.reduceMod]
  have e7 : tl (h.wr 35 2 p) = tl h := by unfold tl; rw [e6]; rfl
  have A1 : WkX h (h.wr 35 2 p) := ⟨FA_wr (FA_refl _ _ _ _ _) _ _ (Or.inr (Or.inl (by decide))), ⟨Or.inl e6, Or.inl (by simp only [true_and, and_true, false_and, and_false, forall_eq, forall_eq', xi_wi, xr_wi, xt_wi, xl_wi, xn_wi, xs_wi, xi_wr, xr_wr, xt_wr, xl_wr, xn_wr, xs_wr, if_true, if_false, and_self, Int.reduceEq, Int.reduceLT, Int.reduceLE, Int.reduceNeg, Int.le_refl, Int.reduceMod])⟩, ⟨0, by simp only [true_and, and_true, false_and, and_false, forall_eq, forall_eq', xi_wi, xr_wi, xt_wi, xl_wi, xn_wi, xs_wi, xi_wr, xr_wr, xt_wr, xl_wr, xn_wr, xs_wr, if_true, if_false, and_self, Int.reduceEq, Int.reduceLT, Int.reduceLE, Int.reduceNeg, Int.le_refl, Int.reduceMod]; omega, by rw [e7, Int.pow_zero]; omega, Or.inl rfl, by rw [e7]; exact Int.le_refl _⟩, S1⟩
  have A2 : WkX (h.wr 35 2 p) ((((h.wr 35 2 p).wi 35 3 f).wi 35 4 0).wi 35 5 1536) := ⟨FA_of [] wkXR (Fr_mono F (fun c m => absurd m List.not_mem_nil) (by decide)), Tok_fr F, Gro_fr F, XS_fr S1 F (by decide)⟩
  have C1 : ScC (h.wr 35 2 p) p f E b := by
    obtain ⟨a1, a2, a3, a4, a5, a6, a7, a8, a9, a10, a11⟩ := C
    exact ⟨XW, by rw [e67]; exact a2, a3, a4, a5, by rw [e6]; exact a6, a7, a8, a9, by rw [e7]; exact a10, by rw [e7]; exact a11⟩
  have T1 : TbOk (h.wr 35 2 p) E b (fun _ _ => True) := by
    intro q g a0 a1 a2 a3 c' i' x0 x1 x2 x3
    rw [e6]
    exact T q g a0 a1 a2 a3 c' i' x0 x1 x2 x3
  have k2 : ∀ q ∈ [((35 : Int), (3 : Int)), (35, 4), (35, 5)], 35 ≤ q.1 ∧ q.1 ≤ 47 := by decide
  exact H _ (WkX_trans S A1 A2) ⟨ScC_fr F (fun x m => absurd m List.not_mem_nil) k2 C1, TbOk_fr F C1.1.2.2.1 (fun x m => absurd m List.not_mem_nil) k2 T1, by simp only [true_and, and_true, false_and, and_false, forall_eq, forall_eq', xi_wi, xr_wi, xt_wi, xl_wi, xn_wi, xs_wi, xi_wr, xr_wr, xt_wr, xl_wr, xn_wr, xs_wr, if_true, if_false, and_self, Int.reduceEq, Int.reduceLT, Int.reduceLE, Int.reduceNeg, Int.le_refl, Int.reduceMod], by simp only [true_and, and_true, false_and, and_false, forall_eq, forall_eq', xi_wi, xr_wi, xt_wi, xl_wi, xn_wi, xs_wi, xi_wr, xr_wr, xt_wr, xl_wr, xn_wr, xs_wr, if_true, if_false, and_self, Int.reduceEq, Int.reduceLT, Int.reduceLE, Int.reduceNeg, Int.le_refl, Int.reduceMod], by simp only [true_and, and_true, false_and, and_false, forall_eq, forall_eq', xi_wi, xr_wi, xt_wi, xl_wi, xn_wi, xs_wi, xi_wr, xr_wr, xt_wr, xl_wr, xn_wr, xs_wr, if_true, if_false, and_self, Int.reduceEq, Int.reduceLT, Int.reduceLE, Int.reduceNeg, Int.le_refl, Int.reduceMod]; rfl, by simp only [true_and, and_true, false_and, and_false, forall_eq, forall_eq', xi_wi, xr_wi, xt_wi, xl_wi, xn_wi, xs_wi, xi_wr, xr_wr, xt_wr, xl_wr, xn_wr, xs_wr, if_true, if_false, and_self, Int.reduceEq, Int.reduceLT, Int.reduceLE, Int.reduceNeg, Int.le_refl, Int.reduceMod]; rfl⟩
theorem XEn_slot2 {k v : Int} (X : XEn h p f E) : XEn (h.wi 2 k v) p f E := by
  obtain ⟨a1, a2, a3, a4, a5, a6⟩ := X
  have e : ∀ c : Int, c ≠ 2 → (h.wi 2 k v).i c = h.i c := fun c n => by funext j; rw [xi_wi, if_neg (fun z => n z.1)]
  refine ⟨SX_2 (h := h) rfl a1, a2, a3, a4, ?_, ?_⟩
  · have l1 := a5.2.2.2.2.2.2.2.2.1.1
    have l2 := a5.2.2.2.2.2.2.2.2.2.1.1
    have l3 := a5.2.2.2.2.2.2.2.2.2.2.1.1
    have l4 := a5.2.2.2.2.2.2.2.2.2.2.2.1.1
    unfold XLe at a5 ⊢
    have r : (h.wi 2 k v).r = h.r := rfl
    rw [r, e p (by omega), e (h.r p 2) (by omega), e (h.r p 3) (by omega), e (h.r p 4) (by omega)]
    exact a5
  · obtain ⟨f0, f1, b1, b2, b3, b4, b5⟩ := a6
    refine ⟨f0, f1, by rw [e 25 (by decide)]; exact b1, by rw [e 24 (by decide)]; exact b2, by rw [e 26 (by decide)]; exact b3, by rw [e 27 (by decide)]; exact b4, fun g g0 g1 => ?_⟩
    refine (b5 g g0 g1).imp id (fun z => ⟨z.1, z.2.1, ?_⟩)
    have y := z.2.2
    have t0 : 130 ≤ h.r 23 g := y.1
    have r : (h.wi 2 k v).r = h.r := rfl
    unfold FTab at y ⊢
    rw [r, e _ (by omega), e _ (by omega), e _ (by omega), e _ (by omega), e _ (by omega)]
    exact y
/-- the room behind a scan or a walk, whatever else is written -/
theorem room_w {n : Nat} {h1 h2 : xH} {c cR : List Int} {c2 cr : List (Int × Int)} {k : List Int} {k2 : List (Int × Int)} (I : INV n h) (A : FA c c2 cR cr h h1 ∧ Tok h h1 ∧ Gro h h1 ∧ XS h1) (F : Fr k k2 h1 h2) (r : rsl 40 3 cR cr = true := by decide) : I_room (n + 1) h2 := by
  have a6 := I.2.2.2.2.2.1
  have i13 := I.2.2.2.2.2.2.2.2.2.2.2.2.2.2.2.2.2.2.1
  have n0 := I.2.2.1
  have fs := fr_same F
  obtain ⟨a1, a2, ⟨a, g1, g2, g3, g4⟩, x1, x2, x3, x4, x5, x6, x7, x8⟩ := A
  unfold I_room at a6 ⊢
  have es : h1.r 40 3 = h.r 40 3 := FA_rslot a1 (by omega) r
  have ls : h1.len (h.r 40 3) = h.len (h.r 40 3) := (a1.2.1 _ (by have := i13.2.2.2.2.1; omega)).2
  rw [fs.1, fs.2.1, fs.2.2.1, fs.2.2.2.1, fs.2.2.2.2, es, ls]
  unfold tl at g2 g3 g4 x7 x8
  have a12 : a ≤ 12 := by
    rcases g3 with z | z
    · omega
    · by_cases q : a ≤ 12
      · exact q
      · exfalso
        have w : (2 : Nat) ^ 13 ≤ 2 ^ a := Nat.pow_le_pow_right (by decide) (by omega)
        have w2 : ((2 ^ 13 : Nat) : Int) ≤ ((2 ^ a : Nat) : Int) := Int.ofNat_le.mpr w
        rw [Int.natCast_pow, Int.natCast_pow] at w2
        have w3 : (8192 : Int) ≤ 2 ^ a := w2
        omega
  push_cast
  omega
end WX
theorem j_check (n : Nat) (hn : n < 512) (f : Int) (hf : xrg f) : JJ INV n M_X_check M_R_check [(0, f)] := by
  refine jj_fa (fun h I => ?_)
  have S := I.2.1
  have SX_ := I.1
  have sm := same_J I
  have hS := XS_of I
  have told := I.2.2.2.2.2.2.2.2.2.2.1
  apply L_X_check
  refine ⟨(sxt SX_).1, ?_⟩
  refine c_X_cannot SX_ ?_
  by_cases c : h.r 2 13 ≠ 0 ∧ (0 ≤ f ∧ f ≤ 7 ∧ 0 < h.i 25 f)
  · have cr := (can_eq I).mp c
    have L := LR_env I (by decide) (by decide) (line_of I cr.1) cr.2.1 cr.2.2.1 cr.2.2.2
    obtain ⟨N, hN⟩ : ∃ N : Nat, h.i 59 64 = (N : Int) := ⟨(h.i 59 64).toNat, by have := told.2.1; omega⟩
    have hN2 : h.i 2 12 = (N : Int) := told.1.trans hN
    have N40 : N ≤ 40 := by have := told.2.2.1; omega
    rw [if_pos c, if_pos rfl]
    simp only [sxt SX_, sxl SX_, sxf SX_, hN2, true_and, and_true, false_and, and_false, forall_eq, forall_eq', xi_wi, xr_wi, xt_wi, xl_wi, xn_wi, xs_wi, xi_wr, xr_wr, xt_wr, xl_wr, xn_wr, xs_wr, if_true, if_false, and_self, Int.reduceEq, Int.reduceLT, Int.reduceLE, Int.reduceNeg, Int.le_refl, Int.reduceMod]
    have F2 : Fr [] [(2, 12)] h (h.wi 2 12 0) := Fr_slot (Fr_refl _ _ _) _ (by decide)
    have S2 : XS (h.wi 2 12 0) := XS_fr hS F2 (by decide)
    refine c_X_howMany S2 (XEn_slot2 L.2) (fun h3 A C T => ?_)
    have SX3 := A.2.2.2.1
    have r13 : h3.r 2 13 = h.r 2 13 := by rw [A.1.2.2.2 2 13 (by have := I.2.2.1; show 2 < h.nx; omega) (by decide) (by decide)]; rfl
    have hSX := SX3
    have T2 := (sxt SX3).1
    refine ⟨T2, ?_⟩
    rw [show h3.r 2 7 = 35 from by have := sxf SX3; have SX_ := SX3; simp only [sxt SX_, sxl SX_, sxf SX_, true_and, and_true, false_and, and_false, forall_eq, forall_eq', xi_wi, xr_wi, xt_wi, xl_wi, xn_wi, xs_wi, xi_wr, xr_wr, xt_wr, xl_wr, xn_wr, xs_wr, if_true, if_false, and_self, Int.reduceEq, Int.reduceLT, Int.reduceLE, Int.reduceNeg, Int.le_refl, Int.reduceMod], show h3.r 2 11 = 57 from by have SX_ := SX3; simp only [sxt SX_, sxl SX_, sxf SX_, true_and, and_true, false_and, and_false, forall_eq, forall_eq', xi_wi, xr_wi, xt_wi, xl_wi, xn_wi, xs_wi, xi_wr, xr_wr, xt_wr, xl_wr, xn_wr, xs_wr, if_true, if_false, and_self, Int.reduceEq, Int.reduceLT, Int.reduceLE, Int.reduceNeg, Int.le_refl, Int.reduceMod], r13]
    refine ⟨t35_ SX3, ?_⟩
    apply L_Walker_follow
    refine ⟨t35_ SX3, ?_⟩
    refine c_X_wbegin A.2.2.2 C T (fun h4 A4 W4 => ?_)
    have B3 := WkX_trans S2 (WkX_of A) A4
    have hn0 := I.2.2.1
    have ht0 := I.2.2.2.1
    have e57 : h4.i 57 = h.i 57 := by
      rw [FA_row B3.1 (c := 57) (by show 57 < h.nx; omega) (by decide) (by decide) (by show (57 : Int) ≠ h.r 28 6; unfold I_tab at ht0; omega)]
      funext j; simp only [true_and, and_true, false_and, and_false, forall_eq, forall_eq', xi_wi, xr_wi, xt_wi, xl_wi, xn_wi, xs_wi, xi_wr, xr_wr, xt_wr, xl_wr, xn_wr, xs_wr, if_true, if_false, and_self, Int.reduceEq, Int.reduceLT, Int.reduceLE, Int.reduceNeg, Int.le_refl, Int.reduceMod]
    have := c_fol_6 (p := h.r 2 13) (f := f) (d := 2039) (Q := fun r1 h1 => SCk h h1 ∧ xCi 2046 M_R_check [(1, 59), (0, f)] h1 (fun r2 h2 => r1 = r2 ∧ SCk h h2 ∧ INV (n + 1) h2)) (u1 := (1, h.r 2 13)) (u2 := (0, f)) (T := h.i 57) N40 N h4 st0 (9, 0) (9, 0) (Nat.le_refl _) (Or.inl ⟨rfl, rfl⟩) W4 st0_ok e57 (fun h5 F5 => ?_)
    · rw [show (N : Int) - (N : Int) = 0 by omega] at this
      exact this
    have B := WkX_trans S2 B3 (WkX_fr B3.2.2.2 F5)
    have G1 : FA wkXL (wkXS ++ [(2, 12)]) [] wkXR h h5 := FA_trans (FA_of [] wkXR (Fr_mono F2 (fun c m => absurd m List.not_mem_nil) (by decide))) (Or.inl rfl) (FA_mono B.1 (fun c m => m) (fun c m => List.mem_append_left _ m) (fun c m => m) (fun c m => m))
    refine ⟨SCk_x hS S G1 (by decide), ?_⟩
    have P1 := RPre_x hS G1 (by decide) L.1
    have S1 := P1.1
    have r76 : h5.i 76 = h.i 76 := FA_row G1 (by omega) (by decide) (by decide) (by unfold I_tab at ht0; omega)
    have r95 : h5.i 95 = h.i 95 := FA_row G1 (by omega) (by decide) (by decide) (by unfold I_tab at ht0; omega)
    have r59 : h5.i 59 = h.i 59 := FA_row G1 (by omega) (by decide) (by decide) (by unfold I_tab at ht0; omega)
    have r112 : h5.i 112 = h.i 112 := FA_row G1 (by omega) (by decide) (by decide) (by unfold I_tab at ht0; omega)
    apply L_R_check
    have S := S1
    simp only [srt S, srl S, srf S, r76, true_and, and_true, false_and, and_false, forall_eq, forall_eq', xi_wi, xr_wi, xt_wi, xl_wi, xn_wi, xs_wi, xi_wr, xr_wr, xt_wr, xl_wr, xn_wr, xs_wr, if_true, if_false, and_self, Int.reduceEq, Int.reduceLT, Int.reduceLE, Int.reduceNeg, Int.le_refl, Int.reduceMod]
    rw [if_neg cr.1]
    refine c_R_isForm S1 ?_
    rw [r95, if_pos cr.2, if_neg (by decide)]
    simp only [srt S, srl S, srf S, r59, hN, true_and, and_true, false_and, and_false, forall_eq, forall_eq', xi_wi, xr_wi, xt_wi, xl_wi, xn_wi, xs_wi, xi_wr, xr_wr, xt_wr, xl_wr, xn_wr, xs_wr, if_true, if_false, and_self, Int.reduceEq, Int.reduceLT, Int.reduceLE, Int.reduceNeg, Int.le_refl, Int.reduceMod]
    have P2 : RPre (h5.wi 59 64 0) 0 f (envR h 0 f) := by
      obtain ⟨p1, p2, p3, p4, p5, p6, p7, p8⟩ := P1
      have e : ∀ c : Int, c ≠ 59 → (h5.wi 59 64 0).i c = h5.i c := fun c n => by funext j; rw [xi_wi, if_neg (fun z => n z.1)]
      refine ⟨SR_2 (h := h5) rfl p1, p2, p3, p4, p5, ?_, p7, ?_⟩
      · rw [← p6]
        funext k i
        unfold envR
        rw [e 81 (by decide), e 85 (by decide), e 82 (by decide), e 88 (by decide), e 87 (by decide), e 95 (by decide), e 94 (by decide), e 96 (by decide), e 89 (by decide), e 91 (by decide), e 92 (by decide), e 93 (by decide), e 90 (by decide), e 97 (by decide)]
      · rw [e 88 (by decide), e 87 (by decide)]; exact p8
    refine c_R_ways0 (d := 1985) P2 (fun h6 F6 R6 M6 st6 => ?_)
    have FR : Fr scanL (scanS ++ [(59, 64)]) h5 h6 := Fr_trans (Fr_slot (Fr_refl _ _ _) _ (by decide)) (Fr_mono F6 (fun c m => m) (fun c m => List.mem_append_left _ m))
    have e112 : h6.i 112 = h.i 112 := by rw [Fr_row FR (by decide) (by decide)]; exact r112
    have := c_chk_29 (l := 0) (f := f) (d := 2037) (Q := fun r2 h2 => chkF (envR h 0 f) (h.i 57) N N st0 = r2 ∧ SCk h h2 ∧ INV (n + 1) h2) (u1 := (0, f)) (T := h.i 112) N40 N h6 st0 (0, scW (envR h 0 f) true st0) (9, 0) (9, 0) (9, 0) (Nat.le_refl _) R6 M6 st0_ok st6 e112 (fun h7 F7 S7 => ?_)
    · rw [show (N : Int) - (N : Int) = 0 by omega] at this
      exact this
    have FR7 : Fr scanL (scanS ++ [(59, 64)]) h5 h7 := Fr_trans FR (Fr_mono F7 (fun c m => m) (fun c m => List.mem_append_left _ m))
    refine ⟨chkF_cg (fun j j0 j1 => told.2.2.2 j j0 (by rw [hN]; exact j1)) N st0 (Nat.le_refl _), ?_⟩
    -- all stands
    have X1 := B.2.2.2
    have fs := fr_same FR7
    have G : FA (wkXL ++ scanL) (wkXS ++ [(2, 12)] ++ (scanS ++ [(59, 64)])) [] wkXR h h7 := FA_trans (FA_mono G1 (fun c m => List.mem_append_left _ m) (fun c m => List.mem_append_left _ m) (fun c m => m) (fun c m => m)) (by have := B.2.1.1; exact this) (FA_of [] wkXR (Fr_mono FR7 (fun c m => List.mem_append_right _ m) (fun c m => List.mem_append_right _ m)))
    have hT : Tok h h7 := by
      have z := B.2.1
      unfold Tok at z ⊢
      rw [fs.1]; exact z
    have hX : SX h7 := SX_2 FR7.1 X1.1
    have hTab : I_tab h7 := by have := X1.2.2.1; unfold I_tab at this ⊢; rw [fs.1]; exact this
    have hNew : I_new h7 := I_new_f X1.2.2.2.1 FR7 (by decide) X1.2.1
    have hR := S7
    have hRoom : I_room (n + 1) h7 := room_w I ⟨G1, B.2.1, B.2.2.1, X1⟩ FR7
    have F := G
    refine ⟨SCk_x hS I.2.1 G (by decide), INV_fa I F (by decide) hT hX hR hTab hNew hRoom (Or.inl (by decide)) (Or.inl (by decide)) (Or.inl (by decide)) (Or.inl (by decide)) (Or.inr ?_) (Or.inl (by decide)) (Or.inl (by decide)) (Or.inl (by decide)) (Or.inl (by decide)) (Or.inl (by decide)) (Or.inl (by decide)) (Or.inl (by decide)) (Or.inl (by decide)) (Or.inl (by decide)) (Or.inl (by decide))⟩
    have t2 : h7.i 2 12 = 0 := by
      rw [FR7.2 2 12 (by decide) (by decide)]
      have := B.1.2.2.1 2 12 (by show 2 < h.nx; omega) (by decide) (by decide) (by show (2 : Int) ≠ h.r 28 6; unfold I_tab at ht0; omega)
      rw [this]; simp only [true_and, and_true, false_and, and_false, forall_eq, forall_eq', xi_wi, xr_wi, xt_wi, xl_wi, xn_wi, xs_wi, xi_wr, xr_wr, xt_wr, xl_wr, xn_wr, xs_wr, if_true, if_false, and_self, Int.reduceEq, Int.reduceLT, Int.reduceLE, Int.reduceNeg, Int.le_refl, Int.reduceMod]
    have t59 : h7.i 59 64 = 0 := by
      rw [F7.2 59 64 (by decide) (by decide), F6.2 59 64 (by decide) (by decide)]; simp only [true_and, and_true, false_and, and_false, forall_eq, forall_eq', xi_wi, xr_wi, xt_wi, xl_wi, xn_wi, xs_wi, xi_wr, xr_wr, xt_wr, xl_wr, xn_wr, xs_wr, if_true, if_false, and_self, Int.reduceEq, Int.reduceLT, Int.reduceLE, Int.reduceNeg, Int.le_refl, Int.reduceMod]
    exact ⟨by rw [t2, t59], by rw [t59]; decide, by rw [t59]; decide, fun k k0 k1 => by rw [t59] at k1; omega⟩
  · have cr : ¬ (h.i 76 0 ≠ 0 ∧ (0 ≤ f ∧ f ≤ 7 ∧ 0 < h.i 95 f)) := fun z => c ((can_eq I).mpr z)
    rw [if_neg c, if_neg (by decide)]
    refine ⟨sm.1, ?_⟩
    apply L_R_check
    simp only [srt S, srl S, srf S, true_and, and_true, false_and, and_false, forall_eq, forall_eq', xi_wi, xr_wi, xt_wi, xl_wi, xn_wi, xs_wi, xi_wr, xr_wr, xt_wr, xl_wr, xn_wr, xs_wr, if_true, if_false, and_self, Int.reduceEq, Int.reduceLT, Int.reduceLE, Int.reduceNeg, Int.le_refl, Int.reduceMod]
    by_cases c1 : h.i 76 0 = 0
    · rw [if_pos c1]; exact sm
    · rw [if_neg c1]
      refine c_R_isForm S ?_
      rw [if_neg (fun z => cr ⟨c1, z⟩), if_pos rfl]
      exact sm
