/-! unword -/
theorem BookRel_mv {l lR : List Int} {l2 lr : List (Int × Int)} {h h' : xH} (F : FA l l2 lR lr h h') (lw : low l l2 lR lr = true) (hT : Tok h h') {p u v : Int} (q1 : h'.i 69 u = h.i 69 v) (q2 : h'.i 70 u = h.i 70 v) (q3 : ∀ j, 0 ≤ j → j < 16 → (h'.i 68 (16 * u + j) = h.i 68 (16 * v + j) ∨ h'.i 68 (16 * u + j) = xw8 (h.i 68 (16 * v + j))) ∧ h'.i 71 (16 * u + j) = h.i 71 (16 * v + j) ∧ h'.i 72 (16 * u + j) = h.i 72 (16 * v + j)) (B : BookRel h p v) : BookRel h' p u := by
  obtain ⟨sb, a1, a2, a3, a4, a5, a6, a7, a8⟩ := B
  have r := SylB_rows F lw sb
  refine ⟨SylB_fa F lw hT sb, by rw [r.1, q2]; exact a1, by rw [q2]; exact a2, by rw [q2]; exact a3, by rw [q1]; exact a4, by rw [r.2.2.2.1]; exact a5, by rw [r.2.2.2.1, q1, q2]; exact a6, fun s s0 s1 => ?_, fun k k0 k1 => ?_⟩
  · rw [q2] at s1
    have y := q3 s s0 (by omega)
    rw [r.2.2.2.1, r.2.2.2.2.2.1, y.2.1, y.2.2]
    exact a7 s s0 s1
  · rw [q1] at k1
    have y := (q3 k k0 (by omega)).1
    have z := a8 k k0 k1
    have e : h'.i 68 (16 * u + k) = h.i 68 (16 * v + k) := by
      rcases y with w | w
      · exact w
      · rw [w]; unfold xw8; omega
    rw [r.2.2.1, e]
    exact z
/-- the tape's letters: the class' entry and the reference's word are the same -/
theorem tape_mat {h : xH} {p v : Int} (I : I_tape h) (B : BookRel h p v) : eqP (h.i (p + 1)) (fun j => h.i 3 j) (h.len (p + 1)) (h.i 59 1 - 0) ↔ RMat h v 60 0 (h.i 59 1) := by
  obtain ⟨X, XL⟩ := XLet_book B
  obtain ⟨sb, a1, a2, a3, a4, a5, a6, a7, a8⟩ := B
  obtain ⟨j1, j2, j3, j4⟩ := I
  rw [XL]
  constructor
  · intro E
    have e := E.1
    refine ⟨by omega, fun k k0 k1 => ?_⟩
    have z := E.2 k k0 (by omega)
    have y := a8 k k0 (by omega)
    have t := j4 k k0 k1
    have z : h.i (p + 1) k = h.i 3 k := z
    rw [show (0 : Int) + k = k by omega]
    omega
  · intro M
    have e := M.1
    refine ⟨by omega, fun k k0 k1 => ?_⟩
    have z := M.2 k k0 (by omega)
    have y := a8 k k0 k1
    have t := j4 k k0 (by omega)
    rw [show (0 : Int) + k = k by omega] at z
    show h.i (p + 1) k = h.i 3 k
    omega
theorem j_unword (n : Nat) (hn : n < 512) : JJ INV n M_X_unword M_R_unword [] := by
  refine jj_fa (fun h I => ?_)
  have S := I.2.1
  have SX_ := I.1
  have n0 := I.2.2.1
  have ht := I.2.2.2.1
  have i1 := I.2.2.2.2.2.2.1
  have i9 := I.2.2.2.2.2.2.2.2.2.2.2.2.2.2.1
  obtain ⟨j1, j2, j3, j4⟩ := i1
  have F1 : Fr [] [(2, 1)] h (h.wi 2 1 0) := Fr_slot (Fr_refl _ _ _) _ (by decide)
  have A1 := FA_of [] [] F1
  have T1 : Tok h (h.wi 2 1 0) := ⟨Or.inl rfl, Or.inl rfl⟩
  have B1 : I_book (h.wi 2 1 0) := I_book_fa A1 (by decide) T1 n0 ht (by decide) (fun k => rfl) i9
  have X1 : SX (h.wi 2 1 0) := SX_2 (h := h) rfl SX_
  have hg : ∀ j, (fun j => h.i 3 j) j = (h.wi 2 1 0).i 3 (0 + j) := fun j => by simp only [true_and, and_true, false_and, and_false, forall_eq, forall_eq', xi_wi, xr_wi, xt_wi, xl_wi, xn_wi, xs_wi, xi_wr, xr_wr, xt_wr, xl_wr, xn_wr, xs_wr, if_true, if_false, and_self, Int.reduceEq, Int.reduceLT, Int.reduceLE, Int.reduceNeg, Int.le_refl, Int.reduceMod]; rw [show (0 : Int) + j = j by omega]
  have gr : ∀ j, 0 ≤ j → j < h.i 59 1 - 0 → -1000 ≤ (fun j => h.i 3 j) j ∧ (fun j => h.i 3 j) j ≤ 1000 := fun j j0 k => by have := j4 j j0 (by omega); show -1000 ≤ h.i 3 j ∧ h.i 3 j ≤ 1000; omega
  have tl : (h.wi 2 1 0).tag 3 = 20 := (sxt SX_).2.1
  have ll : (h.wi 2 1 0).len 3 = 240 := (sxl SX_).1
  have sizes : ∀ w, 0 ≤ w → w < h.i 59 16 → h.i 69 w ≤ 16 := fun w w0 w1 => by
    obtain ⟨j, _, _, B⟩ := i9.2.2.2.2.1 w w0 w1
    exact B.2.2.2.2.1
  apply L_X_unword
  refine ⟨(sxt SX_).1, ?_⟩
  apply L_X_takeTape
  refine ⟨(sxt SX_).1, ?_⟩
  intro x1 e1 h1 eh
  subst eh
  rw [e1, j1]
  simp only [sxt SX_, sxl SX_, sxf SX_, true_and, and_true, false_and, and_false, forall_eq, forall_eq', xi_wi, xr_wi, xt_wi, xl_wi, xn_wi, xs_wi, xi_wr, xr_wr, xt_wr, xl_wr, xn_wr, xs_wr, if_true, if_false, and_self, Int.reduceEq, Int.reduceLT, Int.reduceLE, Int.reduceNeg, Int.le_refl, Int.reduceMod]
  apply L_Book_forgetWord
  refine ⟨(sxt X1).2.2.2.2.2.1, ?_⟩
  refine c_X_placeFor X1 B1 tl (by decide) (by omega) (by rw [ll]; omega) (by omega) hg gr (fun a a0 a1 pre post => ?_)
  refine ⟨(sxt X1).2.2.2.2.2.1, ?_⟩
  -- the reference, where no word is found
  have none : ∀ hx : xH, SR hx → hx.i 59 = h.i 59 → hx.i 60 = h.i 60 → hx.i 68 = h.i 68 → hx.i 69 = h.i 69 → (∀ w, 0 ≤ w → w < h.i 59 16 → ¬ RMat h w 60 0 (h.i 59 1)) → ∀ Q : Int → xH → Prop, Q (-1) (hx.wi 59 1 0) → xCi 2046 M_R_unword [(1, 59)] hx Q := by
    intro hx Sx r59 r60 r68 r69 no Q H
    apply L_R_unword
    refine ⟨(srt Sx).1, ?_⟩
    intro y1 ye h2 he
    subst he
    rw [ye, r59]
    have S2 : SR (hx.wi 59 1 0) := SR_2 (h := hx) rfl Sx
    have fin : ∀ u1 u2 u3, xT 2045 M_R_unword 17 [(1, 59), u1, u2, u3] [(0, -1)] (hx.wi 59 1 0) (xqi Q) := by
      intro u1 u2 u3
      apply L_R_unword_17
      rw [if_pos rfl]
      exact H
    refine x_if (fun _ => fin _ _ _) (fun c => ⟨(srt S2).1, ?_⟩)
    rw [show (hx.wi 59 1 0).r 59 0 = 60 from (srf S2).1]
    have b59 : (hx.wi 59 1 0).i 59 16 = h.i 59 16 := by simp only [true_and, and_true, false_and, and_false, forall_eq, forall_eq', xi_wi, xr_wi, xt_wi, xl_wi, xn_wi, xs_wi, xi_wr, xr_wr, xt_wr, xl_wr, xn_wr, xs_wr, if_true, if_false, and_self, Int.reduceEq, Int.reduceLT, Int.reduceLE, Int.reduceNeg, Int.le_refl, Int.reduceMod]; rw [r59]
    refine c_R_find S2 (srt S2).2.1 (by decide) j2 (by rw [(srl S2).1]; omega) (by omega) (by rw [b59]; exact i9.2.1) (by rw [b59]; exact i9.2.2.1) (fun w w0 w1 => ?_) (fun w w0 w1 M => ?_) (fun _ => fin _ _ _)
    · rw [b59] at w1
      have := sizes w w0 w1
      simp only [true_and, and_true, false_and, and_false, forall_eq, forall_eq', xi_wi, xr_wi, xt_wi, xl_wi, xn_wi, xs_wi, xi_wr, xr_wr, xt_wr, xl_wr, xn_wr, xs_wr, if_true, if_false, and_self, Int.reduceEq, Int.reduceLT, Int.reduceLE, Int.reduceNeg, Int.le_refl, Int.reduceMod]
      rw [r69]; exact this
    · rw [b59] at w1
      exfalso
      refine no w w0 w1 ⟨?_, fun k k0 k1 => ?_⟩
      · have := M.1
        revert this
        simp only [true_and, and_true, false_and, and_false, forall_eq, forall_eq', xi_wi, xr_wi, xt_wi, xl_wi, xn_wi, xs_wi, xi_wr, xr_wr, xt_wr, xl_wr, xn_wr, xs_wr, if_true, if_false, and_self, Int.reduceEq, Int.reduceLT, Int.reduceLE, Int.reduceNeg, Int.le_refl, Int.reduceMod]
        rw [r69]; exact id
      · have := M.2 k k0 k1
        revert this
        simp only [true_and, and_true, false_and, and_false, forall_eq, forall_eq', xi_wi, xr_wi, xt_wi, xl_wi, xn_wi, xs_wi, xi_wr, xr_wr, xt_wr, xl_wr, xn_wr, xs_wr, if_true, if_false, and_self, Int.reduceEq, Int.reduceLT, Int.reduceLE, Int.reduceNeg, Int.le_refl, Int.reduceMod]
        rw [r68, r60]; exact id
  by_cases ex : a < h.i 59 16 ∧ eqP (h.i (h.r 8 a + 1)) (fun j => h.i 3 j) (h.len (h.r 8 a + 1)) (h.i 59 1 - 0)
  · obtain ⟨c, E⟩ := ex
    have rowE : (h.wi 2 1 0).i (h.r 8 a + 1) = h.i (h.r 8 a + 1) := by
      obtain ⟨v, _, _, B⟩ := i9.2.2.2.1 a a0 c
      have := B.1.1
      funext t
      simp only [true_and, and_true, false_and, and_false, forall_eq, forall_eq', xi_wi, xr_wi, xt_wi, xl_wi, xn_wi, xs_wi, xi_wr, xr_wr, xt_wr, xl_wr, xn_wr, xs_wr, if_true, if_false, and_self, Int.reduceEq, Int.reduceLT, Int.reduceLE, Int.reduceNeg, Int.le_refl, Int.reduceMod]
      rw [if_neg (by omega)]
    obtain ⟨va, va0, va1, Ba⟩ := i9.2.2.2.1 a a0 c
    have Ma := (tape_mat ⟨j1, j2, j3, j4⟩ Ba).mp E
    have n16 : h.i 59 1 ≤ 16 := by have := Ma.1; have := Ba.2.2.2.2.1; omega
    refine c_X_isAt X1 B1 tl (by decide) (by omega) (by rw [ll]; omega) (by omega) hg gr a0 (fun _ _ => ?_) (fun no => ?_)
    · rw [if_neg (by decide)]
      have b40 := i9.2.2.1
      refine c_X_forget_17 (sz := h.i 59 16) b40 (h.i 59 16 - (a + 1)).toNat _ a _ _ _ X1 (by simp only [true_and, and_true, false_and, and_false, forall_eq, forall_eq', xi_wi, xr_wi, xt_wi, xl_wi, xn_wi, xs_wi, xi_wr, xr_wr, xt_wr, xl_wr, xn_wr, xs_wr, if_true, if_false, and_self, Int.reduceEq, Int.reduceLT, Int.reduceLE, Int.reduceNeg, Int.le_refl, Int.reduceMod]; exact i9.1) a0 (by omega) (fun j k0 k1 => ?_) ?_
      · obtain ⟨v, _, _, B⟩ := i9.2.2.2.1 j k0 k1
        have := B.1.1
        exact ⟨by show h.r 8 j ≠ 0; omega, B.1.2.2.1⟩
      intro h' x1 x2 x3 x4 x5 x6 x7 x8 x9
      have S' : SR h' := by
        refine ⟨?_, ?_, ?_⟩
        · have z := S.1
          unfold SRT at z ⊢
          rw [x2]; exact z
        · have z := S.2.1
          unfold SRL at z ⊢
          rw [x3]; exact z
        · have z := S.2.2
          unfold SRF at z ⊢
          have e : ∀ k, h'.r 59 k = h.r 59 k := fun k => x8 59 k (by decide)
          simp only [e]
          exact z
      have row : ∀ d : Int, d ≠ 7 → d ≠ 2 → h'.i d = h.i d := fun d d7 d2 => funext (fun k => by rw [x6 d k (fun q => d7 q.1)]; simp only [true_and, and_true, false_and, and_false, forall_eq, forall_eq', xi_wi, xr_wi, xt_wi, xl_wi, xn_wi, xs_wi, xi_wr, xr_wr, xt_wr, xl_wr, xn_wr, xs_wr, if_true, if_false, and_self, Int.reduceEq, Int.reduceLT, Int.reduceLE, Int.reduceNeg, Int.le_refl, Int.reduceMod]; rw [if_neg (fun q => d2 q.1)])
      refine ⟨SCk_of x2 x3 (row 1 (by decide) (by decide)) S, ?_⟩
      apply L_R_unword
      refine ⟨(srt S').1, ?_⟩
      intro y1 ye h2 he
      subst he
      rw [ye, row 59 (by decide) (by decide), if_neg (by omega)]
      have S2 : SR (h'.wi 59 1 0) := SR_2 (h := h') rfl S'
      refine ⟨(srt S2).1, ?_⟩
      rw [show (h'.wi 59 1 0).r 59 0 = 60 from (srf S2).1]
      have b59 : (h'.wi 59 1 0).i 59 16 = h.i 59 16 := by simp only [true_and, and_true, false_and, and_false, forall_eq, forall_eq', xi_wi, xr_wi, xt_wi, xl_wi, xn_wi, xs_wi, xi_wr, xr_wr, xt_wr, xl_wr, xn_wr, xs_wr, if_true, if_false, and_self, Int.reduceEq, Int.reduceLT, Int.reduceLE, Int.reduceNeg, Int.le_refl, Int.reduceMod]; rw [row 59 (by decide) (by decide)]
      have mat : ∀ w, RMat (h'.wi 59 1 0) w 60 0 (h.i 59 1) ↔ RMat h w 60 0 (h.i 59 1) := by
        intro w
        unfold RMat
        simp only [row 69 (by decide) (by decide), row 68 (by decide) (by decide), row 60 (by decide) (by decide), true_and, and_true, false_and, and_false, forall_eq, forall_eq', xi_wi, xr_wi, xt_wi, xl_wi, xn_wi, xs_wi, xi_wr, xr_wr, xt_wr, xl_wr, xn_wr, xs_wr, if_true, if_false, and_self, Int.reduceEq, Int.reduceLT, Int.reduceLE, Int.reduceNeg, Int.le_refl, Int.reduceMod]
      refine c_R_find S2 (srt S2).2.1 (by decide) j2 (by rw [(srl S2).1]; omega) (by omega) (by rw [b59]; exact i9.2.1) (by rw [b59]; exact i9.2.2.1) (fun w w0 w1 => ?_) (fun w w0 w1 M => ?_) (fun no => absurd ((mat va).mpr Ma) (no va va0 (by rw [b59]; exact va1)))
      · rw [b59] at w1
        have := sizes w w0 w1
        simp only [true_and, and_true, false_and, and_false, forall_eq, forall_eq', xi_wi, xr_wi, xt_wi, xl_wi, xn_wi, xs_wi, xi_wr, xr_wr, xt_wr, xl_wr, xn_wr, xs_wr, if_true, if_false, and_self, Int.reduceEq, Int.reduceLT, Int.reduceLE, Int.reduceNeg, Int.le_refl, Int.reduceMod]
        rw [row 69 (by decide) (by decide)]; exact this
      rw [b59] at w1
      have M := (mat w).mp M
      have ew : va = w := by
        by_cases q : va < w
        · refine absurd ⟨by rw [Ma.1, M.1], fun k k0 k1 => ?_⟩ (i9.2.2.2.2.2.2 va w va0 q w1)
          rw [Ma.1] at k1
          rw [Ma.2 k k0 k1, M.2 k k0 k1]
        · by_cases q2 : w < va
          · refine absurd ⟨by rw [Ma.1, M.1], fun k k0 k1 => ?_⟩ (i9.2.2.2.2.2.2 w va w0 q2 va1)
            rw [M.1] at k1
            rw [Ma.2 k k0 k1, M.2 k k0 k1]
          · omega
      subst ew
      refine c_R_unword_17 (b := h.i 59 16 - 1) S2 (by rw [b59]; omega) w0 (by omega) (by omega) ?_
      intro h3 G g1 g2
      have fs := fr_same G
      have gi : ∀ d k, d ∉ [68, 71, 72, 69, 70] → (d, k) ∉ [((2 : Int), (1 : Int)), (7, 2), (59, 1), (59, 16)] → h3.i d k = h.i d k := by
        intro d k u w
        simp only [List.mem_cons, Prod.mk.injEq, List.not_mem_nil, or_false, not_or] at w
        rw [G.2 d k u (by simp only [List.mem_cons, Prod.mk.injEq, List.not_mem_nil, or_false]; exact w.2.2.2), xi_wi, if_neg w.2.2.1, x6 d k w.2.1, xi_wi, if_neg w.1]
      have F : FA [68, 71, 72, 69, 70] [(2, 1), (7, 2), (59, 1), (59, 16)] [8] [] h h3 := by
        refine ⟨by rw [fs.2.2.2.1]; show h.nx ≤ h'.nx; rw [x4]; exact Int.le_refl _, fun d _ => ⟨by rw [fs.2.1]; show h'.tag d = _; rw [x2]; rfl, by rw [fs.2.2.1]; show h'.len d = _; rw [x3]; rfl⟩, fun d k _ u w _ => gi d k u w, fun d k _ u _ => ?_⟩
        rw [fs.1]
        show h'.r d k = _
        rw [x8 d k (fun q => u (by rw [q]; exact List.mem_cons_self))]
        rfl
      have r3 : ∀ d k, d ≠ 8 → h3.r d k = h.r d k := fun d k q => by rw [fs.1]; show h'.r d k = _; rw [x8 d k q]; rfl
      have et : h3.tag = h.tag := by rw [fs.2.1]; exact x2
      have el : h3.len = h.len := by rw [fs.2.2.1]; exact x3
      have en : h3.nx = h.nx := by rw [fs.2.2.2.1]; exact x4
      obtain ⟨hT, hTab, hRoom⟩ := noal (n := n) (h' := h3) I et el en (by rw [fs.2.2.2.2]; exact x5) (r3 28 6 (by decide)) (r3 40 3 (by decide))
      have hR := SR_2 G.1 S2
      have hX : SX h3 := SX_2 (h := h'.wi 59 1 0) G.1 (SX_2 (h := h') rfl x1)
      have hNew : I_new h3 := by
        intro d k hd
        rw [en] at hd
        have z := I.2.2.2.2.1 d k hd
        refine ⟨?_, by rw [r3 d k (by omega)]; exact z.2⟩
        rw [gi d k (by intro q; simp only [List.mem_cons, List.not_mem_nil, or_false] at q; omega) (by intro q; simp only [List.mem_cons, Prod.mk.injEq, List.not_mem_nil, or_false] at q; omega)]
        exact z.1
      refine ⟨rfl, SCk_of et el (funext (fun k => gi 1 k (by decide) (by intro q; simp only [List.mem_cons, Prod.mk.injEq, List.not_mem_nil, or_false] at q; omega))) S, INV_fa I F (by decide) hT hX hR hTab hNew hRoom (Or.inr ?_) (Or.inl (by decide)) (Or.inl (by decide)) (Or.inl (by decide)) (Or.inl (by decide)) (Or.inl (by decide)) (Or.inl (by decide)) (Or.inl (by decide)) (Or.inr ?_) (Or.inl (by decide)) (Or.inl (by decide)) (Or.inl (by decide)) (Or.inl (by decide)) (Or.inl (by decide)) (Or.inl (by decide))⟩
      · have t2 : h3.i 2 1 = 0 := by rw [G.2 2 1 (by decide) (by decide)]; simp only [true_and, and_true, false_and, and_false, forall_eq, forall_eq', xi_wi, xr_wi, xt_wi, xl_wi, xn_wi, xs_wi, xi_wr, xr_wr, xt_wr, xl_wr, xn_wr, xs_wr, if_true, if_false, and_self, Int.reduceEq, Int.reduceLT, Int.reduceLE, Int.reduceNeg, Int.le_refl, Int.reduceMod]; rw [x6 2 1 (by decide)]; simp only [true_and, and_true, false_and, and_false, forall_eq, forall_eq', xi_wi, xr_wi, xt_wi, xl_wi, xn_wi, xs_wi, xi_wr, xr_wr, xt_wr, xl_wr, xn_wr, xs_wr, if_true, if_false, and_self, Int.reduceEq, Int.reduceLT, Int.reduceLE, Int.reduceNeg, Int.le_refl, Int.reduceMod]
        have t59 : h3.i 59 1 = 0 := by rw [G.2 59 1 (by decide) (by decide)]; simp only [true_and, and_true, false_and, and_false, forall_eq, forall_eq', xi_wi, xr_wi, xt_wi, xl_wi, xn_wi, xs_wi, xi_wr, xr_wr, xt_wr, xl_wr, xn_wr, xs_wr, if_true, if_false, and_self, Int.reduceEq, Int.reduceLT, Int.reduceLE, Int.reduceNeg, Int.le_refl, Int.reduceMod]
        refine ⟨by rw [t2, t59], by rw [t59]; decide, by rw [t59]; decide, fun k k0 k1 => ?_⟩
        rw [t59] at k1; omega
      · have r8 : ∀ j, 0 ≤ j → j < h.i 59 16 - 1 → h3.r 8 j = if j < a then h.r 8 j else h.r 8 (j + 1) := fun j k0 k1 => by rw [fs.1]; show h'.r 8 j = _; rw [x9 j k0 k1]; rfl
        have rr : ∀ d : Int, d ≠ 59 → (h'.wi 59 1 0).i d = h'.i d := fun d q => by funext k; simp only [q, true_and, and_true, false_and, and_false, forall_eq, forall_eq', xi_wi, xr_wi, xt_wi, xl_wi, xn_wi, xs_wi, xi_wr, xr_wr, xt_wr, xl_wr, xn_wr, xs_wr, if_true, if_false, and_self, Int.reduceEq, Int.reduceLT, Int.reduceLE, Int.reduceNeg, Int.le_refl, Int.reduceMod]
        have g3 : ∀ v, 0 ≤ v → v < h.i 59 16 - 1 → h3.i 69 v = h.i 69 (if v = va then h.i 59 16 - 1 else v) ∧ h3.i 70 v = h.i 70 (if v = va then h.i 59 16 - 1 else v) ∧ ∀ j, 0 ≤ j → j < 16 → h3.i 68 (16 * v + j) = (if v = va then xw8 (h.i 68 (16 * (h.i 59 16 - 1) + j)) else h.i 68 (16 * v + j)) ∧ h3.i 71 (16 * v + j) = h.i 71 (16 * (if v = va then h.i 59 16 - 1 else v) + j) ∧ h3.i 72 (16 * v + j) = h.i 72 (16 * (if v = va then h.i 59 16 - 1 else v) + j) := by
          intro v v0 v1
          have z := g2 v v0 v1
          rw [rr 69 (by decide), rr 70 (by decide), rr 68 (by decide), rr 71 (by decide), rr 72 (by decide), row 69 (by decide) (by decide), row 70 (by decide) (by decide), row 68 (by decide) (by decide), row 71 (by decide) (by decide), row 72 (by decide) (by decide)] at z
          exact z
        clear g2
        -- the entry that went and its word
        have key : ∀ m, 0 ≤ m → m < h.i 59 16 → BookRel h (h.r 8 m) va → m = a := by
          intro m m0 m1 B
          have Em := (tape_mat ⟨j1, j2, j3, j4⟩ B).mpr Ma
          by_cases q : m < a
          · exact absurd (lexl_eq E (i9.2.2.2.2.2.1 m a m0 q c)) (lexl_irr Em)
          · by_cases q2 : a < m
            · exact absurd (lexl_eq Em (i9.2.2.2.2.2.1 a m a0 q2 m1)) (lexl_irr E)
            · omega
        have dist : ∀ x y, 0 ≤ x → x < h.i 59 16 → 0 ≤ y → y < h.i 59 16 → x ≠ y → h.i 69 x = h.i 69 y → (∀ k, 0 ≤ k → k < h.i 69 x → h.i 68 (16 * x + k) = h.i 68 (16 * y + k)) → False := by
          intro x y x0 x1 y0 y1 ne e1 e2
          by_cases q : x < y
          · exact i9.2.2.2.2.2.2 x y x0 q y1 ⟨e1, e2⟩
          · exact i9.2.2.2.2.2.2 y x y0 (by omega) x1 ⟨e1.symm, fun k k0 k1 => (e2 k k0 (by omega)).symm⟩
        have key2 : ∀ v, 0 ≤ v → v < h.i 59 16 → BookRel h (h.r 8 a) v → v = va := by
          intro v v0 v1 B
          have Mv := (tape_mat ⟨j1, j2, j3, j4⟩ B).mp E
          by_cases q : v = va
          · exact q
          · exact (dist v va v0 v1 w0 w1 q (by rw [Mv.1, Ma.1]) (fun k k0 k1 => by rw [Mv.1] at k1; rw [Mv.2 k k0 k1, Ma.2 k k0 k1])).elim
        -- where a word has gone
        have mv : ∀ u p, 0 ≤ u → u < h.i 59 16 - 1 → BookRel h p (if u = va then h.i 59 16 - 1 else u) → BookRel h3 p u := by
          intro u p u0 u1 B
          have z := g3 u u0 u1
          refine BookRel_mv F (by decide) hT z.1 z.2.1 (fun j k0 k1 => ⟨?_, (z.2.2 j k0 k1).2⟩) B
          rw [(z.2.2 j k0 k1).1]
          by_cases q : u = va
          · rw [if_pos q, if_pos q]; exact Or.inr rfl
          · rw [if_neg q, if_neg q]; exact Or.inl rfl
        have old : ∀ j, 0 ≤ j → j < h.i 59 16 - 1 → ∃ m, 0 ≤ m ∧ m < h.i 59 16 ∧ m ≠ a ∧ h3.r 8 j = h.r 8 m ∧ ((j < a ∧ m = j) ∨ (¬ j < a ∧ m = j + 1)) := by
          intro j k0 k1
          rw [r8 j k0 k1]
          by_cases q : j < a
          · rw [if_pos q]; exact ⟨j, k0, by omega, by omega, rfl, Or.inl ⟨q, rfl⟩⟩
          · rw [if_neg q]; exact ⟨j + 1, by omega, by omega, by omega, rfl, Or.inr ⟨q, rfl⟩⟩
        have z7 : h3.i 7 2 = h.i 59 16 - 1 := by rw [G.2 7 2 (by decide) (by decide)]; simp only [true_and, and_true, false_and, and_false, forall_eq, forall_eq', xi_wi, xr_wi, xt_wi, xl_wi, xn_wi, xs_wi, xi_wr, xr_wr, xt_wr, xl_wr, xn_wr, xs_wr, if_true, if_false, and_self, Int.reduceEq, Int.reduceLT, Int.reduceLE, Int.reduceNeg, Int.le_refl, Int.reduceMod]; exact x7
        refine ⟨by rw [z7, g1], by rw [g1]; omega, by rw [g1]; omega, fun j k0 k1 => ?_, fun u u0 u1 => ?_, fun j k k0 k1 k2 => ?_, fun u v u0 uv v1 => ?_⟩
        · rw [g1] at k1 ⊢
          obtain ⟨m, m0, m1, ma, em, _⟩ := old j k0 k1
          obtain ⟨v, v0, v1, B⟩ := i9.2.2.2.1 m m0 m1
          have ne : v ≠ va := fun q => ma (key m m0 m1 (by rw [← q]; exact B))
          rw [em]
          by_cases q : v = h.i 59 16 - 1
          · exact ⟨va, w0, by omega, mv va _ w0 (by omega) (by rw [if_pos rfl, ← q]; exact B)⟩
          · exact ⟨v, v0, by omega, mv v _ v0 (by omega) (by rw [if_neg ne]; exact B)⟩
        · rw [g1] at u1 ⊢
          have sr : 0 ≤ (if u = va then h.i 59 16 - 1 else u) ∧ (if u = va then h.i 59 16 - 1 else u) < h.i 59 16 ∧ (if u = va then h.i 59 16 - 1 else u) ≠ va := by
            by_cases q : u = va
            · rw [if_pos q]; omega
            · rw [if_neg q]; omega
          obtain ⟨m, m0, m1, B⟩ := i9.2.2.2.2.1 _ sr.1 sr.2.1
          have ma : m ≠ a := fun q => sr.2.2 (key2 _ sr.1 sr.2.1 (by rw [← q]; exact B))
          have B' := mv u _ u0 u1 B
          by_cases q : m < a
          · exact ⟨m, m0, by omega, by rw [r8 m m0 (by omega), if_pos q]; exact B'⟩
          · exact ⟨m - 1, by omega, by omega, by rw [r8 (m - 1) (by omega) (by omega), if_neg (by omega), show m - 1 + 1 = m by omega]; exact B'⟩
        · rw [g1] at k2
          obtain ⟨m, m0, m1, ma, em, om⟩ := old j k0 (by omega)
          obtain ⟨m', m0', m1', ma', em', om'⟩ := old k (by omega) k2
          obtain ⟨v, _, _, B⟩ := i9.2.2.2.1 m m0 m1
          obtain ⟨v', _, _, B'⟩ := i9.2.2.2.1 m' m0' m1'
          have s1 := SylB_rows F (by decide) B.1
          have s2 := SylB_rows F (by decide) B'.1
          rw [em, em', s1.2.2.1, s2.2.2.1, s1.2.2.2.2.2.2.2, s2.2.2.2.2.2.2.2]
          exact i9.2.2.2.2.2.1 m m' m0 (by omega) m1'
        · rw [g1] at v1
          intro z
          have gu := g3 u u0 (by omega)
          have gv := g3 v (by omega) v1
          have sg : ∀ u, 0 ≤ u → u < h.i 59 16 - 1 → 0 ≤ (if u = va then h.i 59 16 - 1 else u) ∧ (if u = va then h.i 59 16 - 1 else u) < h.i 59 16 := by
            intro u u0 u1
            by_cases q : u = va
            · rw [if_pos q]; omega
            · rw [if_neg q]; omega
          have tx : ∀ u, 0 ≤ u → u < h.i 59 16 - 1 → ∀ k, 0 ≤ k → k < h.i 69 (if u = va then h.i 59 16 - 1 else u) → h3.i 68 (16 * u + k) = h.i 68 (16 * (if u = va then h.i 59 16 - 1 else u) + k) := by
            intro u u0 u1 k k0 k1
            have s := sg u u0 u1
            obtain ⟨m, _, _, B⟩ := i9.2.2.2.2.1 _ s.1 s.2
            have b16 := B.2.2.2.2.1
            have y := B.2.2.2.2.2.2.2.2 k k0 k1
            rw [((g3 u u0 u1).2.2 k k0 (by omega)).1]
            by_cases q : u = va
            · rw [if_pos q] at y ⊢
              rw [if_pos q]
              unfold xw8; omega
            · rw [if_neg q, if_neg q]
          have s := sg u u0 (by omega)
          have s' := sg v (by omega) v1
          refine dist _ _ s.1 s.2 s'.1 s'.2 ?_ (by rw [← gu.1, ← gv.1]; exact z.1) (fun k k0 k1 => ?_)
          · by_cases q : u = va
            · rw [if_pos q, if_neg (by omega)]; omega
            · rw [if_neg q]
              by_cases q2 : v = va
              · rw [if_pos q2]; omega
              · rw [if_neg q2]; omega
          · have y := z.2 k k0 (by rw [gu.1]; exact k1)
            rw [tx u u0 (by omega) k k0 k1, tx v (by omega) v1 k k0 (by rw [← gv.1, ← z.1, gu.1]; exact k1)] at y
            exact y
    · exfalso
      refine no ⟨c, ?_⟩
      rw [show (h.wi 2 1 0).r 8 a = h.r 8 a from rfl, rowE]
      exact E
  · have rowE : ∀ j, 0 ≤ j → j < h.i 59 16 → (h.wi 2 1 0).i (h.r 8 j + 1) = h.i (h.r 8 j + 1) := by
      intro j j0 k
      obtain ⟨v, _, _, B⟩ := i9.2.2.2.1 j j0 k
      have := B.1.1
      funext t
      simp only [true_and, and_true, false_and, and_false, forall_eq, forall_eq', xi_wi, xr_wi, xt_wi, xl_wi, xn_wi, xs_wi, xi_wr, xr_wr, xt_wr, xl_wr, xn_wr, xs_wr, if_true, if_false, and_self, Int.reduceEq, Int.reduceLT, Int.reduceLE, Int.reduceNeg, Int.le_refl, Int.reduceMod]
      rw [if_neg (by omega)]
    refine c_X_isAt X1 B1 tl (by decide) (by omega) (by rw [ll]; omega) (by omega) hg gr a0 (fun c E => ?_) (fun _ => ?_)
    · exfalso
      refine ex ⟨c, ?_⟩
      have E' := E
      rw [show (h.wi 2 1 0).r 8 a = h.r 8 a from rfl, rowE a a0 c] at E'
      exact E'
    · rw [if_pos rfl]
      refine ⟨SCk_of rfl rfl (by funext j; simp only [true_and, and_true, false_and, and_false, forall_eq, forall_eq', xi_wi, xr_wi, xt_wi, xl_wi, xn_wi, xs_wi, xi_wr, xr_wr, xt_wr, xl_wr, xn_wr, xs_wr, if_true, if_false, and_self, Int.reduceEq, Int.reduceLT, Int.reduceLE, Int.reduceNeg, Int.le_refl, Int.reduceMod]) S, ?_⟩
      refine none (h.wi 2 1 0) (SR_2 (h := h) rfl S) (by funext j; simp only [true_and, and_true, false_and, and_false, forall_eq, forall_eq', xi_wi, xr_wi, xt_wi, xl_wi, xn_wi, xs_wi, xi_wr, xr_wr, xt_wr, xl_wr, xn_wr, xs_wr, if_true, if_false, and_self, Int.reduceEq, Int.reduceLT, Int.reduceLE, Int.reduceNeg, Int.le_refl, Int.reduceMod]) (by funext j; simp only [true_and, and_true, false_and, and_false, forall_eq, forall_eq', xi_wi, xr_wi, xt_wi, xl_wi, xn_wi, xs_wi, xi_wr, xr_wr, xt_wr, xl_wr, xn_wr, xs_wr, if_true, if_false, and_self, Int.reduceEq, Int.reduceLT, Int.reduceLE, Int.reduceNeg, Int.le_refl, Int.reduceMod]) (by funext j; simp only [true_and, and_true, false_and, and_false, forall_eq, forall_eq', xi_wi, xr_wi, xt_wi, xl_wi, xn_wi, xs_wi, xi_wr, xr_wr, xt_wr, xl_wr, xn_wr, xs_wr, if_true, if_false, and_self, Int.reduceEq, Int.reduceLT, Int.reduceLE, Int.reduceNeg, Int.le_refl, Int.reduceMod]) (by funext j; simp only [true_and, and_true, false_and, and_false, forall_eq, forall_eq', xi_wi, xr_wi, xt_wi, xl_wi, xn_wi, xs_wi, xi_wr, xr_wr, xt_wr, xl_wr, xn_wr, xs_wr, if_true, if_false, and_self, Int.reduceEq, Int.reduceLT, Int.reduceLE, Int.reduceNeg, Int.le_refl, Int.reduceMod]) ?_ _ ?_
      · intro w w0 w1 M
        obtain ⟨j, k0, k1, B⟩ := i9.2.2.2.2.1 w w0 w1
        have E := (tape_mat ⟨j1, j2, j3, j4⟩ B).mpr M
        have E2 : eqP ((h.wi 2 1 0).i ((h.wi 2 1 0).r 8 j + 1)) (fun j => h.i 3 j) ((h.wi 2 1 0).len ((h.wi 2 1 0).r 8 j + 1)) (h.i 59 1 - 0) := by
          rw [show (h.wi 2 1 0).r 8 j = h.r 8 j from rfl, rowE j k0 k1]
          exact E
        have am := book_at B1 k0 k1 E2 a0 pre post
        subst am
        exact ex ⟨k1, E⟩
      · have F : Fr [] [(2, 1), (59, 1)] h ((h.wi 2 1 0).wi 59 1 0) := Fr_slot (Fr_slot (Fr_refl _ _ _) _ (by decide)) _ (by decide)
        refine ⟨rfl, SCk_of rfl rfl (by funext j; simp only [true_and, and_true, false_and, and_false, forall_eq, forall_eq', xi_wi, xr_wi, xt_wi, xl_wi, xn_wi, xs_wi, xi_wr, xr_wr, xt_wr, xl_wr, xn_wr, xs_wr, if_true, if_false, and_self, Int.reduceEq, Int.reduceLT, Int.reduceLE, Int.reduceNeg, Int.le_refl, Int.reduceMod]) S, INV_fr I F (by decide) (Or.inr ?_) (Or.inl (by decide)) (Or.inl (by decide)) (Or.inl (by decide)) (Or.inl (by decide)) (Or.inl (by decide)) (Or.inl (by decide)) (Or.inl (by decide)) (Or.inl (by decide)) (Or.inl (by decide)) (Or.inl (by decide)) (Or.inl (by decide)) (Or.inl (by decide)) (Or.inl (by decide)) (Or.inl (by decide))⟩
        refine ⟨by simp only [true_and, and_true, false_and, and_false, forall_eq, forall_eq', xi_wi, xr_wi, xt_wi, xl_wi, xn_wi, xs_wi, xi_wr, xr_wr, xt_wr, xl_wr, xn_wr, xs_wr, if_true, if_false, and_self, Int.reduceEq, Int.reduceLT, Int.reduceLE, Int.reduceNeg, Int.le_refl, Int.reduceMod], by simp only [true_and, and_true, false_and, and_false, forall_eq, forall_eq', xi_wi, xr_wi, xt_wi, xl_wi, xn_wi, xs_wi, xi_wr, xr_wr, xt_wr, xl_wr, xn_wr, xs_wr, if_true, if_false, and_self, Int.reduceEq, Int.reduceLT, Int.reduceLE, Int.reduceNeg, Int.le_refl, Int.reduceMod], by simp only [true_and, and_true, false_and, and_false, forall_eq, forall_eq', xi_wi, xr_wi, xt_wi, xl_wi, xn_wi, xs_wi, xi_wr, xr_wr, xt_wr, xl_wr, xn_wr, xs_wr, if_true, if_false, and_self, Int.reduceEq, Int.reduceLT, Int.reduceLE, Int.reduceNeg, Int.le_refl, Int.reduceMod], fun k k0 k1 => ?_⟩
        revert k1
        simp only [true_and, and_true, false_and, and_false, forall_eq, forall_eq', xi_wi, xr_wi, xt_wi, xl_wi, xn_wi, xs_wi, xi_wr, xr_wr, xt_wr, xl_wr, xn_wr, xs_wr, if_true, if_false, and_self, Int.reduceEq, Int.reduceLT, Int.reduceLE, Int.reduceNeg, Int.le_refl, Int.reduceMod]
        intro k1
        omega
