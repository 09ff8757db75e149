/-! lay: the class' loop -/
def lyL (q : Int) : List Int := q :: [36, 37, 38, 39, 42, 43, 44]
def lyS : List (Int × Int) := [(35, 10), (35, 4), (35, 5), (35, 3), (40, 7)]
def lyR : List (Int × Int) := [(35, 2)]
section XP
variable {p f : Int} {E : SEn} {b : Bool} {d : Nat} {q : Int}
theorem ScT_q {h h' : xH} {l : List Int} {l2 : List (Int × Int)} (K : QOk h p q) (F : Fr l l2 h h') (k1 : ∀ x ∈ l, x = q ∨ (35 ≤ x ∧ x ≤ 47)) (k2 : ∀ x ∈ l2, 35 ≤ x.1 ∧ x.1 ≤ 47) (C : ScC h p f E b) (T : TbOk h E b (fun _ _ => True)) : ScC h' p f E b ∧ TbOk h' E b (fun _ _ => True) := by
  have fs := fr_same F
  have row : ∀ c, c ≠ q → ¬ (35 ≤ c ∧ c ≤ 47) → h'.i c = h.i c := fun c n n2 => Fr_row F (fun m => by
    rcases k1 c m with z | z
    · exact n z
    · exact n2 z) (fun x m e => n2 (by rw [← e]; exact k2 x m))
  have ht := C.1.2.2.1
  unfold I_tab at ht
  by_cases c : q = 41
  · have k1' : ∀ x ∈ l, 35 ≤ x ∧ x ≤ 47 := fun x m => by
      rcases k1 x m with z | z <;> omega
    exact ⟨ScC_fr F (fun x m => Or.inr (Or.inr (k1' x m))) k2 C, TbOk_fr F C.1.2.2.1 k1' k2 T⟩
  · have K' := K.2.2.resolve_left c
    obtain ⟨⟨a1, a2, a3, a4, a5, a6⟩, s2, s3, s4, s5, s6, s7, s8, s9, s10, s11⟩ := C
    have e7 : tl h' = tl h := by unfold tl; rw [fs.1, fs.2.2.1]
    refine ⟨⟨⟨SX_2 F.1 a1, by rw [fs.2.2.2.1]; exact a2, by unfold I_tab at a3 ⊢; rw [fs.1]; exact a3, a4, ?_, ?_⟩, by rw [fs.1]; exact s2, by rw [row 28 (by omega) (by omega)]; exact s3, by rw [row 28 (by omega) (by omega)]; exact s4, by rw [row 28 (by omega) (by omega)]; exact s5, by rw [fs.1, fs.2.1]; exact s6, fun j j0 j1 => ?_, by rw [row 28 (by omega) (by omega)]; exact s8, fun j hj => by rw [row 30 (by omega) (by omega)]; exact s9 j hj, by rw [e7]; exact s10, by rw [e7]; exact s11⟩, ?_⟩
    · have f0 := a5.2.2.2.2.2.2.2.2.1.1
      have f1 := a5.2.2.2.2.2.2.2.2.2.1.1
      have f2 := a5.2.2.2.2.2.2.2.2.2.2.1.1
      have f3 := a5.2.2.2.2.2.2.2.2.2.2.2.1.1
      unfold XLe XFar at a5 ⊢
      rw [fs.1, fs.2.1, fs.2.2.1, fs.2.2.2.1, row p (fun z => K'.2.2.1 z.symm) (by omega), row (h.r p 2) (fun z => K'.2.2.2.1 z.symm) (by omega), row (h.r p 3) (fun z => K'.2.2.2.2.1 z.symm) (by omega), row (h.r p 4) (fun z => K'.2.2.2.2.2.1 z.symm) (by omega)]
      exact a5
    · obtain ⟨f0, f1, b1, b2, b3, b4, b5⟩ := a6
      refine ⟨f0, f1, by rw [row 25 (by omega) (by omega)]; exact b1, by rw [row 24 (by omega) (by omega)]; exact b2, by rw [row 26 (by omega) (by omega)]; exact b3, by rw [row 27 (by omega) (by omega)]; exact b4, fun g g0 g1 => ?_⟩
      rw [fs.1]
      rcases b5 g g0 g1 with z | z
      · exact Or.inl z
      · refine Or.inr ⟨z.1, z.2.1, ?_⟩
        have kg := (K'.2.2.2.2.2.2 g g0 g1).resolve_left z.1
        have y := z.2.2
        have t0 : 130 ≤ h.r 23 g := y.1
        unfold FTab aprt at y ⊢
        rw [fs.1, fs.2.1, fs.2.2.1, fs.2.2.2.1, row _ (by omega) (by omega), row _ (by omega) (by omega), row _ (by omega) (by omega), row _ (by omega) (by omega), row _ (by omega) (by omega)]
        exact y
    · have := s7 j j0 j1
      unfold PsI at this ⊢
      rw [row 31 (by omega) (by omega), row 32 (by omega) (by omega), row 33 (by omega) (by omega)]
      exact this
    · intro q' g b0 b1 b2 b3 c' i' x0 x1 x2 x3
      rw [fs.1, row (h.r 28 6) (fun z => K'.2.1 z.symm) (by omega)]
      exact T q' g b0 b1 b2 b3 c' i' x0 x1 x2 x3
theorem c_X_wbegN {h : xH} {Q : xH → Prop} (C : ScC h p f E b) (T : TbOk h E b (fun _ _ => True)) (H : ∀ h', NA [] [(35, 3), (35, 4), (35, 5)] lyR h h' → WkA h' p f E b st0 → Q h') : xCv (d + 1) M_Walker_begin [(1, 35), (1, p), (0, f)] h Q := by
  have X := C.1
  have SX_ := X.1
  apply L_Walker_begin
  simp only [sxt SX_, sxl SX_, sxf SX_, true_and, and_true, false_and, and_false, forall_eq, forall_eq', xi_wi, xr_wi, xt_wi, xl_wi, xn_wi, xs_wi, xi_wr, xr_wr, xt_wr, xl_wr, xn_wr, xs_wr, if_true, if_false, and_self, Int.reduceEq, Int.reduceLT, Int.reduceLE, Int.reduceNeg, Int.le_refl, Int.reduceMod]
  have XW := XEn_wrW (v := p) X
  have F : Fr [] [(35, 3), (35, 4), (35, 5)] (h.wr 35 2 p) ((((h.wr 35 2 p).wi 35 3 f).wi 35 4 0).wi 35 5 1536) := Fr_slot (Fr_slot (Fr_slot (Fr_refl _ _ _) _ (by decide)) _ (by decide)) _ (by decide)
  have e6 : (h.wr 35 2 p).r 28 6 = h.r 28 6 := by simp only [true_and, and_true, false_and, and_false, forall_eq, forall_eq', xi_wi, xr_wi, xt_wi, xl_wi, xn_wi, xs_wi, xi_wr, xr_wr, xt_wr, xl_wr, xn_wr, xs_wr, if_true, if_false, and_self, Int.reduceEq, Int.reduceLT, Int.reduceLE, Int.reduceNeg, Int.le_refl, Int.reduceMod]
  have e67 : (h.wr 35 2 p).r 28 7 = h.r 28 7 := by simp only [true_and, and_true, false_and, and_false, forall_eq, forall_eq', xi_wi, xr_wi, xt_wi, xl_wi, xn_wi, xs_wi, xi_wr, xr_wr, xt_wr, xl_wr, xn_wr, xs_wr, if_true, if_false, and_self, Int.reduceEq, Int.reduceLT, Int.reduceLE, Int.reduceNeg, Int.le_refl, Int.reduceMod]
  have e7 : tl (h.wr 35 2 p) = tl h := by unfold tl; rw [e6]; rfl
  have C1 : ScC (h.wr 35 2 p) p f E b := by
    obtain ⟨a1, a2, a3, a4, a5, a6, a7, a8, a9, a10, a11⟩ := C
    exact ⟨XW, by rw [e67]; exact a2, a3, a4, a5, by rw [e6]; exact a6, a7, a8, a9, by rw [e7]; exact a10, by rw [e7]; exact a11⟩
  have T1 : TbOk (h.wr 35 2 p) E b (fun _ _ => True) := by
    intro q g a0 a1 a2 a3 c' i' x0 x1 x2 x3
    rw [e6]
    exact T q g a0 a1 a2 a3 c' i' x0 x1 x2 x3
  have k2 : ∀ q ∈ [((35 : Int), (3 : Int)), (35, 4), (35, 5)], 35 ≤ q.1 ∧ q.1 ≤ 47 := by decide
  have N1 : NA [] [(35, 3), (35, 4), (35, 5)] lyR h (h.wr 35 2 p) := ⟨rfl, rfl, rfl, rfl, fun _ _ _ _ => rfl, fun c k m => by rw [xr_wr, if_neg (fun z => m (by unfold lyR; rw [z.1, z.2]; exact List.mem_cons_self))]⟩
  exact H _ (NA_trans N1 (NA_fr F (fun x m => m) (fun x m => m))) ⟨ScC_fr F (fun x m => absurd m List.not_mem_nil) k2 C1, TbOk_fr F C1.1.2.2.1 (fun x m => absurd m List.not_mem_nil) k2 T1, by simp only [true_and, and_true, false_and, and_false, forall_eq, forall_eq', xi_wi, xr_wi, xt_wi, xl_wi, xn_wi, xs_wi, xi_wr, xr_wr, xt_wr, xl_wr, xn_wr, xs_wr, if_true, if_false, and_self, Int.reduceEq, Int.reduceLT, Int.reduceLE, Int.reduceNeg, Int.le_refl, Int.reduceMod], by simp only [true_and, and_true, false_and, and_false, forall_eq, forall_eq', xi_wi, xr_wi, xt_wi, xl_wi, xn_wi, xs_wi, xi_wr, xr_wr, xt_wr, xl_wr, xn_wr, xs_wr, if_true, if_false, and_self, Int.reduceEq, Int.reduceLT, Int.reduceLE, Int.reduceNeg, Int.le_refl, Int.reduceMod], by simp only [true_and, and_true, false_and, and_false, forall_eq, forall_eq', xi_wi, xr_wi, xt_wi, xl_wi, xn_wi, xs_wi, xi_wr, xr_wr, xt_wr, xl_wr, xn_wr, xs_wr, if_true, if_false, and_self, Int.reduceEq, Int.reduceLT, Int.reduceLE, Int.reduceNeg, Int.le_refl, Int.reduceMod]; rfl, by simp only [true_and, and_true, false_and, and_false, forall_eq, forall_eq', xi_wi, xr_wi, xt_wi, xl_wi, xn_wi, xs_wi, xi_wr, xr_wr, xt_wr, xl_wr, xn_wr, xs_wr, if_true, if_false, and_self, Int.reduceEq, Int.reduceLT, Int.reduceLE, Int.reduceNeg, Int.le_refl, Int.reduceMod]; rfl⟩
theorem NA_mono {l m : List Int} {l2 m2 lr mr : List (Int × Int)} {h h' : xH} (F : NA l l2 lr h h') (a : ∀ c ∈ l, c ∈ m) (b : ∀ c ∈ l2, c ∈ m2) (c : ∀ c ∈ lr, c ∈ mr) : NA m m2 mr h h' := ⟨F.1, F.2.1, F.2.2.1, F.2.2.2.1, fun x k u v => F.2.2.2.2.1 x k (fun z => u (a _ z)) (fun z => v (b _ z)), fun x k u => F.2.2.2.2.2 x k (fun z => u (c _ z))⟩
theorem NA_row {l : List Int} {l2 lr : List (Int × Int)} {h h' : xH} (F : NA l l2 lr h h') {c : Int} (hc : c ∉ l) (h2 : ∀ x ∈ l2, x.1 ≠ c) : h'.i c = h.i c := funext (fun k => F.2.2.2.2.1 c k hc (fun z => h2 _ z rfl))
theorem QOk_na {l : List Int} {l2 : List (Int × Int)} {h h' : xH} (F : NA l l2 lyR h h') (hp : p ≠ 35) (K : QOk h p q) : QOk h' p q := by
  have r : ∀ c k, c ≠ 35 → h'.r c k = h.r c k := fun c k n => F.2.2.2.2.2 c k (fun m => by
    unfold lyR at m
    rw [List.mem_singleton] at m
    exact n (Prod.mk.inj m).1)
  unfold QOk at K ⊢
  rw [F.1, F.2.2.1, r 28 _ (by decide), r p _ hp, r p _ hp, r p _ hp]
  refine ⟨K.1, K.2.1, K.2.2.imp id (fun z => ⟨z.1, z.2.1, z.2.2.1, z.2.2.2.1, z.2.2.2.2.1, z.2.2.2.2.2.1, fun g g0 g1 => ?_⟩)⟩
  rw [r 23 g (by decide)]
  exact z.2.2.2.2.2.2 g g0 g1
theorem RdX_st {h h' : xH} {B B' c r : Int} {y : Rd} (k1 : ∀ k, k ≤ r → h'.i 42 k = h.i 42 k) (k2 : ∀ k, k < r → h'.i 43 k = h.i 43 k) (k3 : ∀ k, k < B → h'.i q k = h.i q k) (hc : c < r) (hB : B ≤ B') (A : RdX h q B c y) : RdX h' q B' c y := by
  obtain ⟨a1, a2, a3, a4, a5⟩ := A
  refine ⟨by rw [k1 c (by omega)]; exact a1, by rw [k1 c (by omega), k1 (c + 1) (by omega)]; exact a2, by rw [k1 (c + 1) (by omega)]; omega, by rw [k2 c hc]; exact a4, fun t ht => ?_⟩
  rw [k1 c (by omega), k3 _ (by omega)]
  exact a5 t ht
theorem c_lo_36 {n : Nat} {Q : Int → xH → Prop} {h0 : xH} (hn : n = (rd E st0).length) (n200 : n ≤ 200) (tq : h0.tag q = 20) (lq : h0.len q ≤ 100000) (ln : (n : Int) * E 0 0 ≤ h0.len q) (H : ∀ h' P', NA (lyL q) lyS lyR h0 h' → OrdX h' q (h'.i 42 n) n P' → P'.length = n → 0 ≤ h'.i 42 n → h'.i 42 n ≤ (n : Int) * E 0 0 → P'.Perm (rd E st0) → P'.Pairwise rlt → h'.i 42 0 = 0 → SX h' → Q (n : Int) h') : ∀ (m r : Nat) (h : xH) (P : List Rd) (u4 : xV), r + m = n → NA (lyL q) lyS lyR h0 h → ScC h p f E true → TbOk h E true (fun _ _ => True) → QOk h p q → h.r 40 3 = q → OrdX h q (h.i 42 r) r P → P.length = r → 0 ≤ h.i 42 r → h.i 42 r ≤ (r : Int) * E 0 0 → P.Perm ((rd E st0).take r) → P.Pairwise rlt → h.i 42 0 = 0 → xT (d + 6) M_Readings_layOut 36 [(1, 40), (1, p), (0, f), (0, (n : Int)), u4, (0, (r : Int))] [] h (xqi Q) := by
  intro m
  induction m with
  | zero =>
    intro r h P u4 hr N C T K e3 O lp s0 s1 pm pw z0
    apply L_Readings_layOut_36
    rw [if_neg (by omega)]
    have e : r = n := by omega
    subst e
    rw [List.take_of_length_le (by omega)] at pm
    exact H h P N O lp s0 s1 pm pw z0 C.1.1
  | succ m ih =>
    intro r h P u4 hr N C T K e3 O lp s0 s1 pm pw z0
    have SX_ := C.1.1
    have ok := C.1.2.2.2.1
    have n40 := ok.2.1
    have n1 := ok.1
    have hr' : r < (rd E st0).length := by omega
    have pf := C.1.2.2.2.2.1.2.2.2.2.2.2.2.2.1.1
    have kq := K.2.2
    obtain ⟨x, hx⟩ : ∃ x, x = (rd E st0).getD r [] := ⟨_, rfl⟩
    have xm : x ∈ rd E st0 := by rw [hx]; exact getD_mem [] hr'
    have G := rd_G ok xm
    have G1 := G.1
    have rn : ((r : Int) + 1) * E 0 0 = (r : Int) * E 0 0 + E 0 0 := by rw [Int.add_mul, Int.one_mul]
    have rn2 : ((r : Int) + 1) * E 0 0 ≤ (n : Int) * E 0 0 := Int.mul_le_mul_of_nonneg_right (by omega) (by omega)
    have cm : ∀ y ∈ P, pcm x y := fun y hy => by
      have hy := pm.mem_iff.mp hy
      obtain ⟨j, hj, e⟩ := List.mem_iff_getElem.mp hy
      rw [List.length_take] at hj
      rw [List.getElem_take] at e
      have := pw_get (z := []) (rd_cmp ok 41 st0 (by decide) st0_ok) (i := j) (j := r) (by omega) hr'
      rw [← hx, List.getD_eq_getElem?_getD, List.getElem?_eq_getElem (by omega)] at this
      rw [← e]
      exact this.symm
    apply L_Readings_layOut_36
    have g0 : h.r 40 2 = 35 := by simp only [sxt SX_, sxl SX_, sxf SX_, true_and, and_true, false_and, and_false, forall_eq, forall_eq', xi_wi, xr_wi, xt_wi, xl_wi, xn_wi, xs_wi, xi_wr, xr_wr, xt_wr, xl_wr, xn_wr, xs_wr, if_true, if_false, and_self, Int.reduceEq, Int.reduceLT, Int.reduceLE, Int.reduceNeg, Int.le_refl, Int.reduceMod]
    rw [if_pos (show (r : Int) < (n : Int) by omega), g0]
    refine ⟨t40_ SX_, t35_ SX_, ?_⟩
    refine c_X_wbegN (d := d + 5) C T (fun h1 N1 W1 => ?_)
    have r1 : ∀ c k, c ≠ 35 → h1.r c k = h.r c k := fun c k n => N1.2.2.2.2.2 c k (fun m => by
      unfold lyR at m
      rw [List.mem_singleton] at m
      exact n (Prod.mk.inj m).1)
    have e31 : h1.r 40 3 = q := by rw [r1 40 3 (by decide)]; exact e3
    have ro1 : ∀ c, c ≠ 35 → h1.i c = h.i c := fun c n => NA_row N1 List.not_mem_nil (fun x m e => by
      have : ∀ y ∈ [((35 : Int), (3 : Int)), (35, 4), (35, 5)], y.1 = 35 := by decide
      exact n (by rw [← e]; exact this x m))
    have K1 := QOk_na N1 (by omega) K
    have SX_ := W1.1.1.1
    have l1 : h1.len q = h0.len q := by rw [N1.2.1, N.2.1]
    have t1 : h1.tag q = 20 := K1.1
    have g1 : h1.r 40 4 = 42 ∧ h1.r 40 2 = 35 ∧ h1.tag 42 = 20 ∧ h1.len 42 = 201 := by simp only [sxt SX_, sxl SX_, sxf SX_, true_and, and_true, false_and, and_false, forall_eq, forall_eq', xi_wi, xr_wi, xt_wi, xl_wi, xn_wi, xs_wi, xi_wr, xr_wr, xt_wr, xl_wr, xn_wr, xs_wr, if_true, if_false, and_self, Int.reduceEq, Int.reduceLT, Int.reduceLE, Int.reduceNeg, Int.le_refl, Int.reduceMod]
    rw [g1.1, g1.2.1, e31, ro1 42 (by decide)]
    refine ⟨t40_ SX_, ⟨g1.2.2.1, by omega, by omega⟩, ⟨g1.2.2.1, by omega, by omega⟩, t35_ SX_, ?_⟩
    refine c_X_takeR (d := d) (rest := r) W1 st0_ok K1 (by omega) hr' s0 (by rw [← hx, l1]; omega) (by rw [l1]; exact lq) (fun h2 F2 q1 q2 => ?_)
    rw [← hx] at q1 q2 ⊢
    have kk1 : ∀ x ∈ q :: mvL, x = q ∨ (35 ≤ x ∧ x ≤ 47) := fun y m => by
      rw [List.mem_cons] at m
      rcases m with m | m
      · exact Or.inl m
      · have : ∀ y ∈ mvL, 35 ≤ y ∧ y ≤ 47 := by decide
        exact Or.inr (this y m)
    obtain ⟨C2, T2⟩ := ScT_q K1 F2 kk1 (by decide) W1.1 W1.2.1
    have fs2 := fr_same F2
    have ro2 : ∀ c, c = 40 ∨ c = 42 ∨ c = 43 ∨ c = 44 → h2.i c = h.i c := fun c hc => by
      rw [Fr_row F2 (fun m => by
        rw [List.mem_cons] at m
        rcases m with m | m
        · omega
        · have : ∀ y ∈ mvL, y < 40 := by decide
          have := this c m
          omega) (fun y m e => by
        have : ∀ y ∈ wkS, y.1 = 35 := by decide
        have := this y m
        omega), ro1 c (by omega)]
    have q2' : ∀ k, k < h.i 42 r → h2.i q k = h.i q k := fun k hk => by
      rw [q2 k (Or.inl hk), ro1 q (by omega)]
    have SX_ := C2.1.1
    have t42 : h2.tag 42 = 20 ∧ h2.len 42 = 201 := by simp only [sxt SX_, sxl SX_, sxf SX_, true_and, and_true, false_and, and_false, forall_eq, forall_eq', xi_wi, xr_wi, xt_wi, xl_wi, xn_wi, xs_wi, xi_wr, xr_wr, xt_wr, xl_wr, xn_wr, xs_wr, if_true, if_false, and_self, Int.reduceEq, Int.reduceLT, Int.reduceLE, Int.reduceNeg, Int.le_refl, Int.reduceMod]
    rw [xw_id (a := (r : Int) + 1) (by omega) (by omega), xw_id (a := h.i 42 (r : Int) + ((x.length : Nat) : Int)) (by omega) (by omega)]
    refine ⟨⟨t42.1, by omega, by omega⟩, ?_⟩
    intro h3 e3'
    have F3 : Fr [42] [] h2 h3 := by rw [e3']; exact Fr_cell (Fr_refl _ _ _) _ _ (by decide)
    have v3 : ∀ k, h3.i 42 k = if k = (r : Int) + 1 then h.i 42 (r : Int) + ((x.length : Nat) : Int) else h.i 42 k := fun k => by
      rw [e3', xi_wi, ro2 42 (by omega)]
      by_cases c : k = (r : Int) + 1
      · rw [if_pos ⟨rfl, c⟩, if_pos c]
      · rw [if_neg (fun z => c z.2), if_neg c]
    have C3 := ScC_fr F3 (fun y m => Or.inr (Or.inr (by rw [List.mem_singleton] at m; omega))) (fun x m => absurd m List.not_mem_nil) C2
    have T3 := TbOk_fr F3 C2.1.2.2.1 (by decide) (fun x m => absurd m List.not_mem_nil) T2
    clear e3'
    have fs3 := fr_same F3
    have SX_ := C3.1.1
    have e33 : h3.r 40 3 = q := by rw [fs3.1, fs2.1]; exact e31
    have t3 : h3.tag q = 20 := by rw [fs3.2.1, fs2.2.1]; exact t1
    have l3 : h3.len q = h0.len q := by rw [fs3.2.2.1, fs2.2.2.1]; exact l1
    have g3 : h3.r 40 4 = 42 ∧ h3.r 40 5 = 43 ∧ h3.tag 42 = 20 ∧ h3.len 42 = 201 ∧ h3.tag 43 = 20 ∧ h3.len 43 = 200 := by simp only [sxt SX_, sxl SX_, sxf SX_, true_and, and_true, false_and, and_false, forall_eq, forall_eq', xi_wi, xr_wi, xt_wi, xl_wi, xn_wi, xs_wi, xi_wr, xr_wr, xt_wr, xl_wr, xn_wr, xs_wr, if_true, if_false, and_self, Int.reduceEq, Int.reduceLT, Int.reduceLE, Int.reduceNeg, Int.le_refl, Int.reduceMod]
    have q42 : q ≠ 42 ∧ q ≠ 43 ∧ q ≠ 44 ∧ q ≠ 40 := by omega
    have rq3 : h3.i q = h2.i q := Fr_row F3 (by rw [List.mem_singleton]; exact q42.1) (fun x m => absurd m List.not_mem_nil)
    rw [g3.1, g3.2.1]
    refine ⟨t40_ SX_, ⟨g3.2.2.1, by omega, by omega⟩, ⟨g3.2.2.1, by omega, by omega⟩, ?_⟩
    have s3 : h3.i 42 (r : Int) = h.i 42 (r : Int) := by rw [v3, if_neg (by omega)]
    have s3' : h3.i 42 ((r : Int) + 1) = h.i 42 (r : Int) + ((x.length : Nat) : Int) := by rw [v3, if_pos rfl]
    rw [s3, s3']
    refine c_X_pos (d := d + 3) C3.1 e33 t3 (by rw [l3]; exact lq) G s0 rfl (by rw [l3]; omega) (fun t ht => by rw [rq3]; exact q1 t ht) ?_
    refine ⟨⟨g3.2.2.2.2.1, by omega, by omega⟩, ?_⟩
    intro h5 e5
    have F5 : Fr [43] [] h3 h5 := by rw [e5]; exact Fr_cell (Fr_refl _ _ _) _ _ (by decide)
    have v5 : ∀ k, h5.i 43 k = if k = (r : Int) then prR x else h.i 43 k := fun k => by
      rw [e5, xi_wi, Fr_row F3 (c := 43) (by decide) (by decide), ro2 43 (by omega)]
      by_cases c : k = (r : Int)
      · rw [if_pos ⟨rfl, c⟩, if_pos c]
      · rw [if_neg (fun z => c z.2), if_neg c]
    have C5 := ScC_fr F5 (fun y m => Or.inr (Or.inr (by rw [List.mem_singleton] at m; omega))) (fun x m => absurd m List.not_mem_nil) C3
    have T5 := TbOk_fr F5 C3.1.2.2.1 (by decide) (fun x m => absurd m List.not_mem_nil) T3
    clear e5
    have fs5 := fr_same F5
    refine ⟨t40_ C5.1.1, ?_⟩
    have w42 : h5.i 42 = h3.i 42 := Fr_row F5 (by decide) (by decide)
    have w44 : h5.i 44 = h.i 44 := by rw [Fr_row F5 (c := 44) (by decide) (by decide), Fr_row F3 (c := 44) (by decide) (by decide), ro2 44 (by omega)]
    have w40 : h5.i 40 = h.i 40 := by rw [Fr_row F5 (c := 40) (by decide) (by decide), Fr_row F3 (c := 40) (by decide) (by decide), ro2 40 (by omega)]
    have wq : h5.i q = h2.i q := by rw [Fr_row F5 (by rw [List.mem_singleton]; exact q42.2.1) (fun x m => absurd m List.not_mem_nil), rq3]
    have O5 : OrdX h5 q (h.i 42 (r : Int) + ((x.length : Nat) : Int)) r P := by
      refine ⟨by rw [w40]; exact O.1, O.2.1, fun j hj => ?_⟩
      have o := O.2.2 j hj
      rw [w44]
      refine ⟨o.1, o.2.1, RdX_st (r := (r : Int)) (fun k hk => by rw [w42, v3, if_neg (by omega)]) (fun k hk => by rw [v5, if_neg (by omega)]) (fun k hk => by rw [wq]; exact q2' k hk) o.2.1 (by omega) o.2.2⟩
    have A5 : RdX h5 q (h.i 42 (r : Int) + ((x.length : Nat) : Int)) (r : Int) x := by
      refine ⟨by rw [w42, s3]; exact s0, by rw [w42, s3, s3'], by rw [w42, s3']; exact Int.le_refl _, by rw [v5, if_pos rfl], fun t ht => ?_⟩
      rw [w42, s3, wq]; exact q1 t ht
    refine c_X_putIn (d := d + 3) C5.1.1 (by rw [fs5.1]; exact e33) (by rw [fs5.2.1]; exact t3) ⟨q42.2.2.1, q42.2.2.2⟩ (by rw [fs5.2.2.1, l3]; omega) (by rw [fs5.2.2.1, l3]; exact lq) O5 A5 (by omega) pw cm (fun h6 P6 F6 O6 pm6 lp6 pw6 => ?_)
    have fs6 := fr_same F6
    have u42 : h6.i 42 = h3.i 42 := by rw [Fr_row F6 (by decide) (by decide), w42]
    have s6 : h6.i 42 ((r + 1 : Nat) : Int) = h.i 42 (r : Int) + ((x.length : Nat) : Int) := by rw [u42, show ((r + 1 : Nat) : Int) = (r : Int) + 1 by push_cast; rfl]; exact s3'
    have NN : NA (lyL q) lyS lyR h h6 := by
      have b2 : NA (lyL q) lyS lyR h1 h2 := NA_fr F2 (fun c m => by
        rw [List.mem_cons] at m
        unfold lyL
        rcases m with m | m
        · rw [m]; exact List.mem_cons_self
        · have : ∀ y ∈ mvL, y ∈ [(36 : Int), 37, 38, 39, 42, 43, 44] := by decide
          exact List.mem_cons_of_mem _ (this c m)) (by decide)
      have m1 : ∀ {y : Int}, y ∈ [(36 : Int), 37, 38, 39, 42, 43, 44] → y ∈ lyL q := fun z => List.mem_cons_of_mem _ z
      have sg : ∀ {y : Int}, y ∈ [(36 : Int), 37, 38, 39, 42, 43, 44] → ∀ z ∈ [y], z ∈ lyL q := fun hy z m => by
        rw [List.mem_singleton] at m
        rw [m]; exact m1 hy
      have b3 : NA (lyL q) lyS lyR h2 h3 := NA_fr F3 (sg (by decide)) (fun x m => absurd m List.not_mem_nil)
      have b5 : NA (lyL q) lyS lyR h3 h5 := NA_fr F5 (sg (by decide)) (fun x m => absurd m List.not_mem_nil)
      have b6 : NA (lyL q) lyS lyR h5 h6 := NA_fr F6 (sg (by decide)) (by decide)
      exact NA_trans (NA_mono N1 (fun c m => absurd m List.not_mem_nil) (by decide) (fun c m => m)) (NA_trans b2 (NA_trans b3 (NA_trans b5 b6)))
    have K6 : QOk h6 p q := QOk_fr F6 (QOk_fr F5 (QOk_fr F3 (QOk_fr F2 K1)))
    intro x1 ex1
    rw [show (r : Int) + 1 = ((r + 1 : Nat) : Int) by push_cast; rfl] at ex1
    subst ex1
    refine ih (r + 1) h6 P6 _ (by omega) (NA_trans N NN) (ScC_fr F6 (fun y m => Or.inr (Or.inr (by rw [List.mem_singleton] at m; omega))) (by decide) C5) (TbOk_fr F6 C5.1.2.2.1 (by decide) (by decide) T5) K6 (by rw [fs6.1, fs5.1]; exact e33) (by rw [s6]; exact O6) (by omega) (by rw [s6]; omega) (by rw [s6]; push_cast; omega) ?_ pw6 (by rw [u42, v3, if_neg (by omega)]; exact z0)
    refine pm6.trans ?_
    rw [List.take_add_one, List.getElem?_eq_getElem hr']
    have ee : x = (rd E st0)[r] := by rw [hx, List.getD_eq_getElem?_getD, List.getElem?_eq_getElem hr']; rfl
    rw [← ee]
    exact pm.append_right _
end XP
