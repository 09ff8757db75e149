/-! line: the loops over the bytes, both sides -/
theorem flat_ne {ws : List Wd} (ok : LnOk ws) : (flat ws).length = 0 ↔ ws.length = 0 := by
  constructor
  · intro e
    by_cases c : ws.length = 0
    · exact c
    · have := (flatF_last ws 0 ok.2.2 (by omega)).1
      unfold flat at e
      omega
  · intro e
    have : ws = [] := List.length_eq_zero_iff.mp e
    rw [this]; rfl
def lxS : List (Int × Int) := [(16, 6), (15, 3), (15, 4)]
section XLL
variable {d : Nat} {h0 : xH}
theorem LX_fr {h h' : xH} {ws : List Wd} {l2 : List (Int × Int)} (n0 : 130 ≤ h.nx) (ht : I_tab h) (L : LX h0 h ws) (F : Fr [] [(15, 3), (15, 4)] h h') : LX h0 h' ws := by
  obtain ⟨SX_, iB, bk, Dr_, ok⟩ := L
  have F' : Fr drL [(15, 3), (15, 4)] h h' := Fr_mono F (fun c m => absurd m List.not_mem_nil) (fun c m => m)
  refine ⟨SX_2 F.1 SX_, book_fr n0 ht iB F' (by decide), BkEq_fr bk F' (by decide), ?_, ok⟩
  have e : XV h' 16 = XV h 16 := by
    have fs := fr_same F
    have g : h.r 16 0 = 17 ∧ h.r 16 1 = 18 ∧ h.r 16 2 = 19 ∧ h.r 16 3 = 20 ∧ h.r 16 4 = 21 ∧ h.r 16 5 = 0 := by
      have a : h.r 16 0 = 17 ∧ h.r 16 1 = 18 ∧ h.r 16 2 = 19 ∧ h.r 16 3 = 20 ∧ h.r 16 4 = 21 := by simp only [sxt SX_, sxl SX_, sxf SX_, true_and, and_true, false_and, and_false, forall_eq, forall_eq', xi_wi, xr_wi, xt_wi, xl_wi, xn_wi, xs_wi, xi_wr, xr_wr, xt_wr, xl_wr, xn_wr, xs_wr, if_true, if_false, and_self, Int.reduceEq, Int.reduceLT, Int.reduceLE, Int.reduceNeg, Int.le_refl, Int.reduceMod]
      have b : h.r 16 5 = 0 := by simp only [sxt SX_, sxl SX_, sxf SX_, true_and, and_true, false_and, and_false, forall_eq, forall_eq', xi_wi, xr_wi, xt_wi, xl_wi, xn_wi, xs_wi, xi_wr, xr_wr, xt_wr, xl_wr, xn_wr, xs_wr, if_true, if_false, and_self, Int.reduceEq, Int.reduceLT, Int.reduceLE, Int.reduceNeg, Int.le_refl, Int.reduceMod]
      exact ⟨a.1, a.2.1, a.2.2.1, a.2.2.2.1, a.2.2.2.2, b⟩
    have row : ∀ c : Int, c ≠ 15 → h'.i c = h.i c := fun c hc => Fr_row F List.not_mem_nil (fun q m e => by
      have := (by decide : ∀ q ∈ [((15 : Int), (3 : Int)), (15, 4)], q.1 = 15) q m
      omega)
    funext f k
    match f with
    | 0 => show h'.i 16 _ = h.i 16 _; rw [row 16 (by decide)]
    | 1 => show h'.i (h'.r 16 _) _ = h.i (h.r 16 _) _; rw [fs.1, g.1, row 17 (by decide)]
    | 2 => show h'.i (h'.r 16 _) _ = h.i (h.r 16 _) _; rw [fs.1, g.2.1, row 18 (by decide)]
    | 3 => show h'.i (h'.r 16 _) _ = h.i (h.r 16 _) _; rw [fs.1, g.2.2.1, row 19 (by decide)]
    | 4 => show h'.i (h'.r 16 _) _ = h.i (h.r 16 _) _; rw [fs.1, g.2.2.2.1, row 20 (by decide)]
    | 5 => show h'.i (h'.r 16 _) _ = h.i (h.r 16 _) _; rw [fs.1, g.2.2.2.2.1, row 21 (by decide)]
    | 6 => show h'.i (h'.r 16 _) _ = h.i (h.r 16 _) _; rw [fs.1, g.2.2.2.2.2, row 0 (by decide)]
    | _ + 7 => show h'.len (h'.r 16 _) = h.len (h.r 16 _); rw [fs.1, fs.2.2.1]
  unfold Dr
  rw [e]; exact Dr_
theorem c_X_setF {h : xH} {Q : xH → Prop} {f p : Int} (SX_ : SX h) (f0 : f ≠ 0) (H : ∀ h', Fr [] [(15, 3), (15, 4)] h h' → h'.i 15 3 = f → h'.i 15 4 = p → Q h') : xCv (d + 1) M_LineReader_setFault [(1, 15), (0, f), (0, p)] h Q := by
  have g : h.tag 15 = 3 := by simp only [sxt SX_, sxl SX_, sxf SX_, true_and, and_true, false_and, and_false, forall_eq, forall_eq', xi_wi, xr_wi, xt_wi, xl_wi, xn_wi, xs_wi, xi_wr, xr_wr, xt_wr, xl_wr, xn_wr, xs_wr, if_true, if_false, and_self, Int.reduceEq, Int.reduceLT, Int.reduceLE, Int.reduceNeg, Int.le_refl, Int.reduceMod]
  apply L_LineReader_setFault
  rw [if_neg f0]
  refine ⟨g, fun h1 e1 => ⟨by rw [e1]; exact g, fun h2 e2 => ?_⟩⟩
  refine H h2 (by rw [e2, e1]; exact Fr_slot (Fr_slot (Fr_refl _ _ _) _ (by decide)) _ (by decide)) ?_ ?_
  · rw [e2, e1, xi_wi, if_neg (fun z => absurd z.2 (by decide)), xi_wi, if_pos ⟨rfl, rfl⟩]
  · rw [e2, xi_wi, if_pos ⟨rfl, rfl⟩]
theorem c_X_rl13f {h : xH} {Q : Int → xH → Prop} {n l3 i f : Int} {u5 : xV} (SX_ : SX h) (hf : h.i 15 3 = f) (f0 : f ≠ 0) (H : Q 0 h) : xT (d + 9) M_LineReader_readLine 13 [(1, 15), (1, 3), (0, n), (0, l3), (0, i), u5] [] h (xqi Q) := by
  have g : h.tag 15 = 3 := by simp only [sxt SX_, sxl SX_, sxf SX_, true_and, and_true, false_and, and_false, forall_eq, forall_eq', xi_wi, xr_wi, xt_wi, xl_wi, xn_wi, xs_wi, xi_wr, xr_wr, xt_wr, xl_wr, xn_wr, xs_wr, if_true, if_false, and_self, Int.reduceEq, Int.reduceLT, Int.reduceLE, Int.reduceNeg, Int.le_refl, Int.reduceMod]
  have p68 : xT (d + 9) M_LineReader_readLine 68 [(1, 15), (1, 3), (0, n), (0, l3), (0, i), u5] [] h (xqi Q) := by
    apply L_LineReader_readLine_68
    rw [hf, if_neg f0, if_neg f0]
    exact ⟨g, H⟩
  apply L_LineReader_readLine_13
  by_cases c : n < i
  · rw [if_pos c]; exact p68
  · rw [if_neg c, hf, if_neg f0]
    exact ⟨g, p68⟩
theorem c_X_rl68 {h : xH} {Q : Int → xH → Prop} {n : Int} {ws : List Wd} {u3 u4 u5 : xV} (L : LX h0 h ws) (hf : h.i 15 3 = 0) (H1 : 1 ≤ ws.length → Q 1 h) (H0 : ws.length = 0 → ∀ h', Fr [] [(15, 3), (15, 4)] h h' → h'.i 15 3 = 5 → h'.i 15 4 = n → Q 0 h') : xT (d + 9) M_LineReader_readLine 68 [(1, 15), (1, 3), (0, n), u3, u4, u5] [] h (xqi Q) := by
  have SX_ := L.1
  have g : h.tag 15 = 3 ∧ h.r 15 2 = 16 ∧ h.tag 16 = 9 := by simp only [sxt SX_, sxl SX_, sxf SX_, true_and, and_true, false_and, and_false, forall_eq, forall_eq', xi_wi, xr_wi, xt_wi, xl_wi, xn_wi, xs_wi, xi_wr, xr_wr, xt_wr, xl_wr, xn_wr, xs_wr, if_true, if_false, and_self, Int.reduceEq, Int.reduceLT, Int.reduceLE, Int.reduceNeg, Int.le_refl, Int.reduceMod]
  have sz : h.i 16 6 = (((flat ws).length : Nat) : Int) := L.2.2.2.1.1.1
  have fe := flat_ne L.2.2.2.2
  apply L_LineReader_readLine_68
  rw [hf, if_pos rfl, g.2.1, sz]
  refine ⟨g.1, g.2.2, ?_⟩
  by_cases c : ws.length = 0
  · rw [if_pos (by omega)]
    refine c_X_setF (d := d + 8) SX_ (by decide) (fun h' F a b => ?_)
    have g' : h'.tag 15 = 3 := by rw [(fr_same F).2.1]; exact g.1
    rw [a, if_neg (by decide)]
    exact ⟨g', H0 c h' F a b⟩
  · rw [if_neg (by omega), if_pos rfl]
    exact H1 (by omega)
theorem c_X_rl13 {Q : Int → xH → Prop} {T : Int → Int} {n : Int} (hV : bits26 (h0.i 5)) (iB0 : I_book h0) (n240 : n ≤ 240) : ∀ (r : List Int) (ws : List Wd) (cur : List Int) (h : xH) (u5 : xV), 130 ≤ h.nx → I_tab h → LX h0 h ws → h.i 3 = T → h.i 15 3 = 0 → h.i 15 4 = -1 → (∀ k : Nat, k < r.length → T (n - ((r.length : Nat) : Int) + k) = r.getD k 0) → (∀ k : Nat, k < cur.length → T (n - ((r.length : Nat) : Int) - ((cur.length : Nat) : Int) + k) = cur.getD k 0) → 0 ≤ n - ((r.length : Nat) : Int) - ((cur.length : Nat) : Int) → (∀ c ∈ cur, 97 ≤ c ∧ c ≤ 122) → ((lnF h0 r (n - ((r.length : Nat) : Int)) ws cur).1.1 = 0 → ∀ h', Fr drL lxS h h' → LX h0 h' (lnF h0 r (n - ((r.length : Nat) : Int)) ws cur).2 → 1 ≤ (lnF h0 r (n - ((r.length : Nat) : Int)) ws cur).2.length → h'.i 15 3 = 0 → h'.i 15 4 = -1 → Q 1 h') → ((lnF h0 r (n - ((r.length : Nat) : Int)) ws cur).1.1 ≠ 0 → ∀ h', Fr drL lxS h h' → h'.i 15 3 = (lnF h0 r (n - ((r.length : Nat) : Int)) ws cur).1.1 → h'.i 15 4 = (lnF h0 r (n - ((r.length : Nat) : Int)) ws cur).1.2 → h'.i 18 0 = 0 → Q 0 h') → xT (d + 9) M_LineReader_readLine 13 [(1, 15), (1, 3), (0, n), (0, if cur.length = 0 then -1 else n - ((r.length : Nat) : Int) - ((cur.length : Nat) : Int)), (0, n - ((r.length : Nat) : Int)), u5] [] h (xqi Q) := by
  intro r
  induction r with
  | nil =>
    intro ws cur h u5 n0 ht L eT f0 p0 tr tc b0 lc H1 H0
    have e0 : (([] : List Int).length : Int) = 0 := rfl
    rw [e0, Int.sub_zero] at H1 H0 tc b0 ⊢
    rw [lnF] at H1 H0
    have SX_ := L.1
    have z18 := dr_18 SX_ L.2.2.2.1
    have g : h.tag 15 = 3 ∧ h.tag 3 = 20 ∧ h.len 3 = 240 := by simp only [sxt SX_, sxl SX_, sxf SX_, true_and, and_true, false_and, and_false, forall_eq, forall_eq', xi_wi, xr_wi, xt_wi, xl_wi, xn_wi, xs_wi, xi_wr, xr_wr, xt_wr, xl_wr, xn_wr, xs_wr, if_true, if_false, and_self, Int.reduceEq, Int.reduceLT, Int.reduceLE, Int.reduceNeg, Int.le_refl, Int.reduceMod]
    -- the last step: nothing is left
    have p14 : ∀ (h1 : xH) (ws1 : List Wd) (l3 : Int) (u5 : xV), Fr drL lxS h h1 → LX h0 h1 ws1 → h1.i 15 3 = 0 → h1.i 15 4 = -1 → (1 ≤ ws1.length → Q 1 h1) → (ws1.length = 0 → ∀ h', Fr drL lxS h h' → h'.i 15 3 = 5 → h'.i 15 4 = n → h'.i 18 0 = 0 → Q 0 h') → ∀ x : Int, x = xw (n + 1) → xT (d + 9) M_LineReader_readLine 13 [(1, 15), (1, 3), (0, n), (0, l3), (0, x), u5] [] h1 (xqi Q) := fun h1 ws1 l3 u5 F1 L1 f1 p1 K1 K0 x ex => by
      rw [xw_id (by omega) (by omega)] at ex
      apply L_LineReader_readLine_13
      rw [if_pos (by omega)]
      refine c_X_rl68 (d := d) L1 f1 K1 (fun e h' F a b => ?_)
      refine K0 e h' (Fr_trans F1 (Fr_mono F (fun c m => absurd m List.not_mem_nil) (by decide))) a b ?_
      rw [F.2 18 0 List.not_mem_nil (by decide)]
      exact dr_18 L1.1 L1.2.2.2.1
    apply L_LineReader_readLine_13
    rw [if_neg (by omega), f0, if_pos rfl, if_neg (by omega)]
    refine ⟨g.1, ?_⟩
    apply L_LineReader_readLine_31
    refine c_X_isLet ?_
    rw [if_neg (show ¬ ((97 : Int) ≤ 32 ∧ (32 : Int) ≤ 122) by decide), if_pos rfl]
    by_cases c : cur.length = 0
    · rw [if_pos c, if_pos rfl, f0, if_pos rfl, if_pos rfl]
      rw [if_pos c] at H1 H0
      refine ⟨g.1, ?_⟩
      refine p14 h ws (-1) _ (Fr_refl _ _ _) L f0 p0 (fun w1 => ?_) (fun w0 h' F a b z => ?_)
      · rw [if_neg (by omega)] at H1
        exact H1 rfl h (Fr_refl _ _ _) L w1 f0 p0
      · rw [if_pos w0] at H0
        exact H0 (by show (5 : Int) ≠ 0; decide) h' F a b z
    · rw [if_neg c]
      rw [if_neg c] at H1 H0
      rw [if_neg (by omega)]
      refine ⟨g.1, ?_⟩
      have Z : Src h 3 (n - ((cur.length : Nat) : Int)) cur := ⟨g.2.1, by rw [g.2.2]; omega, fun k hk => by rw [eT]; exact tc k hk⟩
      have := c_X_lnWord (d := d + 2) (h0 := h0) (h := h) (b := n - ((cur.length : Nat) : Int)) (D := cur) (ws := ws) (Q := fun r2 h3 => h3.tag 15 = 3 ∧ (xCv (d + 9) M_LineReader_setFault [(1, 15), (0, r2), (0, n - ((cur.length : Nat) : Int))] h3 (fun h4 => h4.tag 15 = 3 ∧ (if h4.i 15 3 = 0 then (if (32 : Int) = 32 then (∀ x4 : Int, x4 = xw (n + 1) → xT (d + 9) M_LineReader_readLine 13 [(1, 15), (1, 3), (0, n), (0, (-1)), (0, x4), (0, 32)] [] h4 (xqi Q)) else xCv (d + 9) M_LineReader_setFault [(1, 15), (0, 1), (0, n)] h4 (fun h5 => ∀ x5 : Int, x5 = xw (n + 1) → xT (d + 9) M_LineReader_readLine 13 [(1, 15), (1, 3), (0, n), (0, (-1)), (0, x5), (0, 32)] [] h5 (xqi Q))) else (∀ x6 : Int, x6 = xw (n + 1) → xT (d + 9) M_LineReader_readLine 13 [(1, 15), (1, 3), (0, n), (0, (-1)), (0, x6), (0, 32)] [] h4 (xqi Q)))))) L hV iB0 n0 ht Z (by omega) (by omega) lc (fun w0 h1 F1 L1 => ?_) (fun w0 h1 F1 z1 => ?_)
      · rw [show n - ((cur.length : Nat) : Int) + ((cur.length : Nat) : Int) = n by omega] at this
        exact this
      · have g1 : h1.tag 15 = 3 := by rw [(fr_same F1).2.1]; exact g.1
        refine ⟨g1, ?_⟩
        apply L_LineReader_setFault
        have f1 : h1.i 15 3 = 0 := by rw [F1.2 15 3 (by decide) (by decide)]; exact f0
        have p1 : h1.i 15 4 = -1 := by rw [F1.2 15 4 (by decide) (by decide)]; exact p0
        have F1' : Fr drL lxS h h1 := Fr_mono F1 (fun c m => m) (by decide)
        rw [if_pos rfl, f1, if_pos rfl, if_pos rfl]
        refine ⟨g1, ?_⟩
        rw [if_pos w0] at H1
        exact p14 h1 _ (-1) _ F1' L1 f1 p1 (fun w1 => H1 rfl h1 F1' L1 w1 f1 p1) (fun w1 => by rw [List.length_append] at w1; exact absurd w1 (by show ¬ ws.length + 1 = 0; omega))
      · have g1 : h1.tag 15 = 3 := by rw [(fr_same F1).2.1]; exact g.1
        have SX1 := SX_2 F1.1 SX_
        refine ⟨g1, ?_⟩
        refine c_X_setF (d := d + 8) SX1 w0 (fun h2 F2 a b => ?_)
        rw [a, if_neg w0]
        refine ⟨by rw [(fr_same F2).2.1]; exact g1, fun x6 _ => ?_⟩
        rw [if_neg w0] at H0
        refine c_X_rl13f (d := d) (SX_2 F2.1 SX1) a w0 (H0 w0 h2 (Fr_trans (Fr_mono F1 (fun c m => m) (by decide)) (Fr_mono F2 (fun c m => absurd m List.not_mem_nil) (by decide))) a b ?_)
        rw [F2.2 18 0 List.not_mem_nil (by decide)]; exact z1
  | cons c r ih =>
    intro ws cur h u5 n0 ht L eT f0 p0 tr tc b0 lc H1 H0
    have ec : (((c :: r).length : Nat) : Int) = ((r.length : Nat) : Int) + 1 := by rw [List.length_cons]; push_cast; rfl
    have t0 : T (n - (((r.length : Nat) : Int) + 1)) = c := by
      have := tr 0 (by rw [List.length_cons]; omega)
      rw [ec] at this
      rw [show n - (((r.length : Nat) : Int) + 1) + ((0 : Nat) : Int) = n - (((r.length : Nat) : Int) + 1) by omega] at this
      exact this
    rw [ec] at tc b0 H1 H0 ⊢
    rw [lnF] at H1 H0
    have ei : n - (((r.length : Nat) : Int) + 1) + 1 = n - ((r.length : Nat) : Int) := by omega
    rw [ei] at H1 H0
    have tr' : ∀ k : Nat, k < r.length → T (n - ((r.length : Nat) : Int) + k) = r.getD k 0 := fun k hk => by
      have := tr (k + 1) (by rw [List.length_cons]; omega)
      rw [ec] at this
      rw [show n - ((r.length : Nat) : Int) + (k : Int) = n - (((r.length : Nat) : Int) + 1) + ((k + 1 : Nat) : Int) by push_cast; omega, this]
      rfl
    have SX_ := L.1
    have z18 := dr_18 SX_ L.2.2.2.1
    have g : h.tag 15 = 3 ∧ h.tag 3 = 20 ∧ h.len 3 = 240 := by simp only [sxt SX_, sxl SX_, sxf SX_, true_and, and_true, false_and, and_false, forall_eq, forall_eq', xi_wi, xr_wi, xt_wi, xl_wi, xn_wi, xs_wi, xi_wr, xr_wr, xt_wr, xl_wr, xn_wr, xs_wr, if_true, if_false, and_self, Int.reduceEq, Int.reduceLT, Int.reduceLE, Int.reduceNeg, Int.le_refl, Int.reduceMod]
    have nx : ∀ x : Int, x = xw (n - (((r.length : Nat) : Int) + 1) + 1) → x = n - ((r.length : Nat) : Int) := fun x e => by rw [e, xw_id (by omega) (by omega)]; omega
    have empty : ∀ (h1 : xH) (ws1 : List Wd) (u5 : xV), Fr drL lxS h h1 → LX h0 h1 ws1 → h1.i 15 3 = 0 → h1.i 15 4 = -1 → ((lnF h0 r (n - ((r.length : Nat) : Int)) ws1 []).1.1 = 0 → ∀ h', Fr drL lxS h h' → LX h0 h' (lnF h0 r (n - ((r.length : Nat) : Int)) ws1 []).2 → 1 ≤ (lnF h0 r (n - ((r.length : Nat) : Int)) ws1 []).2.length → h'.i 15 3 = 0 → h'.i 15 4 = -1 → Q 1 h') → ((lnF h0 r (n - ((r.length : Nat) : Int)) ws1 []).1.1 ≠ 0 → ∀ h', Fr drL lxS h h' → h'.i 15 3 = (lnF h0 r (n - ((r.length : Nat) : Int)) ws1 []).1.1 → h'.i 15 4 = (lnF h0 r (n - ((r.length : Nat) : Int)) ws1 []).1.2 → h'.i 18 0 = 0 → Q 0 h') → ∀ x : Int, x = xw (n - (((r.length : Nat) : Int) + 1) + 1) → xT (d + 9) M_LineReader_readLine 13 [(1, 15), (1, 3), (0, n), (0, -1), (0, x), u5] [] h1 (xqi Q) := fun h1 ws1 u5 F1 L1 f1 p1 K1 K0 x ex => by
      have fs := fr_same F1
      have z := ih ws1 [] h1 u5 (by rw [fs.2.2.2.1]; exact n0) (by unfold I_tab at ht ⊢; rw [fs.1]; exact ht) L1 (by rw [Fr_row F1 (by decide) (by decide)]; exact eT) f1 p1 tr' (fun k hk => absurd hk (Nat.not_lt_zero _)) (by show 0 ≤ n - ((r.length : Nat) : Int) - 0; omega) (fun x m => absurd m List.not_mem_nil) (fun a h' F => K1 a h' (Fr_trans F1 F)) (fun a h' F => K0 a h' (Fr_trans F1 F))
      rw [nx x ex]
      exact z
    -- a byte that is neither
    have bad : ∀ (h1 : xH) (l3 : Int) (u5 : xV), Fr drL lxS h h1 → SX h1 → h1.i 18 0 = 0 → (∀ h', Fr drL lxS h h' → h'.i 15 3 = 1 → h'.i 15 4 = n - (((r.length : Nat) : Int) + 1) → h'.i 18 0 = 0 → Q 0 h') → xCv (d + 9) M_LineReader_setFault [(1, 15), (0, 1), (0, n - (((r.length : Nat) : Int) + 1))] h1 (fun h2 => ∀ x2 : Int, x2 = xw (n - (((r.length : Nat) : Int) + 1) + 1) → xT (d + 9) M_LineReader_readLine 13 [(1, 15), (1, 3), (0, n), (0, l3), (0, x2), u5] [] h2 (xqi Q)) := fun h1 l3 u5 F1 SX1 z1 K => by
      refine c_X_setF (d := d + 8) SX1 (by decide) (fun h2 F2 a b x2 _ => ?_)
      refine c_X_rl13f (d := d) (SX_2 F2.1 SX1) a (by decide) (K h2 (Fr_trans F1 (Fr_mono F2 (fun c m => absurd m List.not_mem_nil) (by decide))) a b ?_)
      rw [F2.2 18 0 List.not_mem_nil (by decide)]; exact z1
    apply L_LineReader_readLine_13
    rw [if_neg (by omega), f0, if_pos rfl, if_pos (by omega), g.2.2, if_pos (by omega), eT, t0]
    refine ⟨g.1, g.2.1, ⟨g.2.1, by omega, by omega⟩, ?_⟩
    apply L_LineReader_readLine_31
    refine c_X_isLet ?_
    by_cases c1 : 97 ≤ c ∧ c ≤ 122
    · rw [if_pos c1, if_neg (by decide)]
      rw [if_pos c1] at H1 H0
      have lcur : (((cur ++ [c]).length : Nat) : Int) = ((cur.length : Nat) : Int) + 1 := by rw [List.length_append]; push_cast; rfl
      have go : ∀ (l3 x : Int) (u5 : xV), l3 = n - (((r.length : Nat) : Int) + 1) - ((cur.length : Nat) : Int) → x = xw (n - (((r.length : Nat) : Int) + 1) + 1) → xT (d + 9) M_LineReader_readLine 13 [(1, 15), (1, 3), (0, n), (0, l3), (0, x), u5] [] h (xqi Q) := fun l3 x u5 e3 ex => by
        have z := ih ws (cur ++ [c]) h u5 n0 ht L eT f0 p0 tr' (fun k hk => by
          rw [lcur]
          rw [List.length_append] at hk
          have hk : k < cur.length + 1 := hk
          by_cases ck : k = cur.length
          · rw [ck, getD_app_r 0 (Nat.le_refl _), Nat.sub_self, show n - ((r.length : Nat) : Int) - (((cur.length : Nat) : Int) + 1) + ((cur.length : Nat) : Int) = n - (((r.length : Nat) : Int) + 1) by omega, t0]; rfl
          · rw [getD_app_l 0 (by omega), ← tc k (by omega)]
            congr 1; omega) (by rw [lcur]; omega) (fun x m => by
          rw [List.mem_append, List.mem_singleton] at m
          rcases m with m | m
          · exact lc x m
          · rw [m]; exact c1) H1 H0
        rw [if_neg (show ¬ (cur ++ [c]).length = 0 by rw [List.length_append]; show ¬ cur.length + 1 = 0; omega), lcur] at z
        rw [nx x ex, e3, show n - (((r.length : Nat) : Int) + 1) - ((cur.length : Nat) : Int) = n - ((r.length : Nat) : Int) - (((cur.length : Nat) : Int) + 1) by omega]
        exact z
      by_cases c2 : cur.length = 0
      · rw [if_pos c2, if_pos rfl]
        intro x7 e7
        exact go _ x7 _ (by omega) e7
      · rw [if_neg c2, if_neg (by omega)]
        intro x8 e8
        exact go _ x8 _ rfl e8
    · rw [if_neg c1, if_pos rfl]
      rw [if_neg c1] at H1 H0
      by_cases c2 : cur.length = 0
      · rw [if_pos c2, if_pos rfl, f0, if_pos rfl]
        rw [if_pos c2] at H1 H0
        refine ⟨g.1, ?_⟩
        by_cases c3 : c = 32
        · rw [if_pos c3]
          rw [if_pos c3] at H1 H0
          exact empty h ws _ (Fr_refl _ _ _) L f0 p0 H1 H0
        · rw [if_neg c3]
          rw [if_neg c3] at H0
          exact bad h _ _ (Fr_refl _ _ _) SX_ z18 (fun h' F a b z => H0 (by show (1 : Int) ≠ 0; decide) h' F a b z)
      · rw [if_neg c2, if_neg (by omega)]
        rw [if_neg c2] at H1 H0
        refine ⟨g.1, ?_⟩
        have Z : Src h 3 (n - (((r.length : Nat) : Int) + 1) - ((cur.length : Nat) : Int)) cur := ⟨g.2.1, by rw [g.2.2]; omega, fun k hk => by rw [eT]; exact tc k hk⟩
        have := c_X_lnWord (d := d + 2) (h0 := h0) (h := h) (b := n - (((r.length : Nat) : Int) + 1) - ((cur.length : Nat) : Int)) (D := cur) (ws := ws) (Q := fun r2 h3 => h3.tag 15 = 3 ∧ (xCv (d + 9) M_LineReader_setFault [(1, 15), (0, r2), (0, n - (((r.length : Nat) : Int) + 1) - ((cur.length : Nat) : Int))] h3 (fun h4 => h4.tag 15 = 3 ∧ (if h4.i 15 3 = 0 then (if c = 32 then (∀ x4 : Int, x4 = xw (n - (((r.length : Nat) : Int) + 1) + 1) → xT (d + 9) M_LineReader_readLine 13 [(1, 15), (1, 3), (0, n), (0, (-1)), (0, x4), (0, c)] [] h4 (xqi Q)) else xCv (d + 9) M_LineReader_setFault [(1, 15), (0, 1), (0, n - (((r.length : Nat) : Int) + 1))] h4 (fun h5 => ∀ x5 : Int, x5 = xw (n - (((r.length : Nat) : Int) + 1) + 1) → xT (d + 9) M_LineReader_readLine 13 [(1, 15), (1, 3), (0, n), (0, (-1)), (0, x5), (0, c)] [] h5 (xqi Q))) else (∀ x6 : Int, x6 = xw (n - (((r.length : Nat) : Int) + 1) + 1) → xT (d + 9) M_LineReader_readLine 13 [(1, 15), (1, 3), (0, n), (0, (-1)), (0, x6), (0, c)] [] h4 (xqi Q)))))) L hV iB0 n0 ht Z b0 (by omega) lc (fun w0 h1 F1 L1 => ?_) (fun w0 h1 F1 z1 => ?_)
        · rw [show n - (((r.length : Nat) : Int) + 1) - ((cur.length : Nat) : Int) + ((cur.length : Nat) : Int) = n - (((r.length : Nat) : Int) + 1) by omega] at this
          exact this
        · have g1 : h1.tag 15 = 3 := by rw [(fr_same F1).2.1]; exact g.1
          have f1 : h1.i 15 3 = 0 := by rw [F1.2 15 3 (by decide) (by decide)]; exact f0
          have p1 : h1.i 15 4 = -1 := by rw [F1.2 15 4 (by decide) (by decide)]; exact p0
          have F1' : Fr drL lxS h h1 := Fr_mono F1 (fun c m => m) (by decide)
          refine ⟨g1, ?_⟩
          apply L_LineReader_setFault
          rw [if_pos rfl, f1, if_pos rfl]
          refine ⟨g1, ?_⟩
          rw [if_pos w0] at H1 H0
          by_cases c3 : c = 32
          · rw [if_pos c3]
            rw [if_pos c3] at H1 H0
            exact empty h1 _ _ F1' L1 f1 p1 H1 H0
          · rw [if_neg c3]
            rw [if_neg c3] at H0
            exact bad h1 _ _ F1' L1.1 (dr_18 L1.1 L1.2.2.2.1) (fun h' F a b z => H0 (by show (1 : Int) ≠ 0; decide) h' F a b z)
        · have g1 : h1.tag 15 = 3 := by rw [(fr_same F1).2.1]; exact g.1
          have SX1 := SX_2 F1.1 SX_
          refine ⟨g1, ?_⟩
          refine c_X_setF (d := d + 8) SX1 w0 (fun h2 F2 a b => ?_)
          rw [a, if_neg w0]
          refine ⟨by rw [(fr_same F2).2.1]; exact g1, fun x6 _ => ?_⟩
          rw [if_neg w0] at H0
          refine c_X_rl13f (d := d) (SX_2 F2.1 SX1) a w0 (H0 w0 h2 (Fr_trans (Fr_mono F1 (fun c m => m) (by decide)) (Fr_mono F2 (fun c m => absurd m List.not_mem_nil) (by decide))) a b ?_)
          rw [F2.2 18 0 List.not_mem_nil (by decide)]; exact z1
end XLL
