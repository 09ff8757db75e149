/-! line: the reference reads -/
def lrL : List Int := [65, 66, 67, 74, 75, 77, 78, 79, 80, 81, 82, 83, 84, 85, 86, 87, 88]
def lrS : List (Int × Int) := [(59, 10), (59, 34), (59, 35)]
section RLN
variable {d : Nat} {h0 : xH}
theorem lnF_run : ∀ (D r : List Int) (i : Int) (ws : List Wd) (cur : List Int), (∀ c ∈ D, 97 ≤ c ∧ c ≤ 122) → lnF h0 (D ++ r) i ws cur = lnF h0 r (i + ((D.length : Nat) : Int)) ws (cur ++ D) := by
  intro D
  induction D with
  | nil => intro r i ws cur _; rw [List.nil_append, List.append_nil]; show _ = lnF h0 r (i + 0) ws cur; rw [Int.add_zero]
  | cons c D ih =>
    intro r i ws cur lc
    rw [List.cons_append, lnF, if_pos (lc c List.mem_cons_self), ih r (i + 1) ws (cur ++ [c]) (fun x m => lc x (List.mem_cons_of_mem _ m)), List.append_assoc, List.length_cons]
    congr 1
    push_cast; omega
theorem lnF_0 {r : List Int} {i : Int} {ws : List Wd} {D : List Int} (d1 : D.length ≠ 0) (hr : ∀ c r', r = c :: r' → ¬ (97 ≤ c ∧ c ≤ 122)) (w : wfl h0 ws D = 0) : lnF h0 r i ws D = lnF h0 r i (ws ++ [wordV h0 D]) [] := by
  cases r with
  | nil =>
    rw [lnF, lnF, if_neg d1, if_pos w, if_pos (show ([] : List Int).length = 0 from rfl), if_neg]
    rw [List.length_append]
    show ¬ ws.length + 1 = 0
    omega
  | cons c r =>
    have := hr c r rfl
    rw [lnF, lnF, if_neg this, if_neg this, if_neg d1, if_pos w, if_pos (show ([] : List Int).length = 0 from rfl)]
theorem lnF_1 {r : List Int} {i : Int} {ws : List Wd} {D : List Int} (d1 : D.length ≠ 0) (hr : ∀ c r', r = c :: r' → ¬ (97 ≤ c ∧ c ≤ 122)) (w : wfl h0 ws D ≠ 0) : lnF h0 r i ws D = ((wfl h0 ws D, i - ((D.length : Nat) : Int)), ws) := by
  cases r with
  | nil => rw [lnF, if_neg d1, if_neg w]
  | cons c r =>
    have := hr c r rfl
    rw [lnF, if_neg this, if_neg d1, if_neg w]
/-- what the reference's reading needs and keeps -/
def LR_ (h0 h : xH) (ws : List Wd) : Prop := SR h ∧ BkEq h0 h ∧ RLang h (h0.i 6) (h0.i 5) ∧ RLn (RV h 14) ws ∧ LnOk ws
theorem BkEq_r {h h' : xH} {l : List Int} {l2 : List (Int × Int)} (E : BkEq h0 h) (F : Fr l l2 h h') (k : (l.all (fun c => decide (72 < c ∨ (65 ≤ c ∧ c ≤ 67))) && l2.all (fun q => decide (q.1 = 59 ∧ q.2 ≠ 16))) = true) : BkEq h0 h' := by
  simp only [Bool.and_eq_true, List.all_eq_true, decide_eq_true_eq] at k
  have row : ∀ c : Int, c < 65 ∨ (68 ≤ c ∧ c ≤ 72) → c ≠ 59 → h'.i c = h.i c := fun c hc n => Fr_row F (fun m => by have := k.1 c m; omega) (fun q m e => by have := (k.2 q m).1; omega)
  obtain ⟨e1, e2, e3, e4, e5, e6, e7, e8⟩ := E
  unfold BkEq
  rw [row 6 (by decide) (by decide), row 5 (by decide) (by decide), row 68 (by decide) (by decide), row 69 (by decide) (by decide), row 70 (by decide) (by decide), row 71 (by decide) (by decide), row 72 (by decide) (by decide), F.2 59 16 (fun m => by have := k.1 _ m; omega) (fun m => (k.2 _ m).2 rfl)]
  exact ⟨e1, e2, e3, e4, e5, e6, e7, e8⟩
theorem lrLang {h h' : xH} {P V : Int → Int} (F : Fr lrL lrS h h') (R : RLang h P V) : RLang h' P V := RLang_row (Fr_row F (by decide) (by decide)) (Fr_row F (by decide) (by decide)) (Fr_row F (by decide) (by decide)) (Fr_row F (by decide) (by decide)) (F.2 59 6 (by decide) (by decide)) R
theorem c_R_wrong {h : xH} {Q : Int → xH → Prop} {f p : Int} (S : SR h) (H : ∀ h', Fr [] [(59, 34), (59, 35)] h h' → h'.i 59 34 = f → h'.i 59 35 = p → Q 0 h') : xCi (d + 1) M_R_wrong [(1, 59), (0, f), (0, p)] h Q := by
  apply L_R_wrong
  refine ⟨(srt S).1, fun h1 e1 => ⟨by rw [e1]; exact (srt S).1, fun h2 e2 => ?_⟩⟩
  refine H h2 (by rw [e2, e1]; exact Fr_slot (Fr_slot (Fr_refl _ _ _) _ (by decide)) _ (by decide)) ?_ ?_
  · rw [e2, e1, xi_wi, if_neg (fun z => absurd z.2 (by decide)), xi_wi, if_pos ⟨rfl, rfl⟩]
  · rw [e2, xi_wi, if_pos ⟨rfl, rfl⟩]
theorem c_R_rl38 {h : xH} {Q : Int → xH → Prop} {T : Int → Int} {n : Int} {l2 l3 : Int} {u5 u6 u7 u8 u9 u10 : xV} (S : SR h) (eT : h.i 60 = T) (n240 : n ≤ 240) : ∀ (D r : List Int), (∀ c ∈ D, 97 ≤ c ∧ c ≤ 122) → (∀ c r', r = c :: r' → ¬ (97 ≤ c ∧ c ≤ 122)) → 0 ≤ n - (((D ++ r).length : Nat) : Int) → (∀ k : Nat, k < (D ++ r).length → T (n - (((D ++ r).length : Nat) : Int) + k) % 256 = (D ++ r).getD k 0 ∧ -128 ≤ T (n - (((D ++ r).length : Nat) : Int) + k) ∧ T (n - (((D ++ r).length : Nat) : Int) + k) < 128) → xT (d + 1) M_R_readLine 49 [(1, 59), (0, n), (0, l2), (0, l3), (0, n - ((r.length : Nat) : Int)), u5, u6, u7, u8, u9, u10] [] h (xqi Q) → xT (d + 1) M_R_readLine 38 [(1, 59), (0, n), (0, l2), (0, l3), (0, n - (((D ++ r).length : Nat) : Int)), u5, u6, u7, u8, u9, u10] [] h (xqi Q) := by
  have g : h.tag 59 = 12 ∧ h.r 59 0 = 60 ∧ h.tag 60 = 21 ∧ h.len 60 = 240 := by simp only [srt S, srl S, srf S, true_and, and_true, false_and, and_false, forall_eq, forall_eq', xi_wi, xr_wi, xt_wi, xl_wi, xn_wi, xs_wi, xi_wr, xr_wr, xt_wr, xl_wr, xn_wr, xs_wr, if_true, if_false, and_self, Int.reduceEq, Int.reduceLT, Int.reduceLE, Int.reduceNeg, Int.le_refl, Int.reduceMod]
  intro D
  induction D with
  | nil =>
    intro r lc hr n0 tr K
    rw [List.nil_append] at n0 tr ⊢
    apply L_R_readLine_38
    cases r with
    | nil =>
      rw [if_neg (by show ¬ n - 0 < n; omega)]
      exact K
    | cons c r =>
      have t0 := tr 0 (by rw [List.length_cons]; omega)
      rw [show n - (((c :: r).length : Nat) : Int) + ((0 : Nat) : Int) = n - (((c :: r).length : Nat) : Int) by omega, show (c :: r).getD 0 0 = c from rfl] at t0
      have nl := hr c r rfl
      rw [if_pos (by rw [List.length_cons]; push_cast; omega), g.2.1, g.2.2.2, eT]
      refine ⟨g.1, ⟨g.2.2.1, by omega, by rw [List.length_cons]; push_cast; omega⟩, ?_⟩
      refine c_R_isLet ?_
      rw [if_neg (show ¬ (97 ≤ T (n - (((c :: r).length : Nat) : Int)) ∧ T (n - (((c :: r).length : Nat) : Int)) ≤ 122) by omega), if_pos rfl]
      exact K
  | cons c D ih =>
    intro r lc hr n0 tr K
    have ec : (((c :: D ++ r).length : Nat) : Int) = (((D ++ r).length : Nat) : Int) + 1 := by rw [List.cons_append, List.length_cons]; push_cast; rfl
    have t0 := tr 0 (by rw [List.cons_append, List.length_cons]; omega)
    rw [ec] at t0 n0 ⊢
    rw [show n - ((((D ++ r).length : Nat) : Int) + 1) + ((0 : Nat) : Int) = n - ((((D ++ r).length : Nat) : Int) + 1) by omega, show (c :: D ++ r).getD 0 0 = c from rfl] at t0
    have l := lc c List.mem_cons_self
    apply L_R_readLine_38
    rw [if_pos (by omega), g.2.1, g.2.2.2, eT]
    refine ⟨g.1, ⟨g.2.2.1, by omega, by omega⟩, ?_⟩
    refine c_R_isLet ?_
    rw [if_pos (show 97 ≤ T (n - ((((D ++ r).length : Nat) : Int) + 1)) ∧ T (n - ((((D ++ r).length : Nat) : Int) + 1)) ≤ 122 by omega), if_neg (by decide)]
    intro x1 e1
    rw [xw_id (by omega) (by omega)] at e1
    rw [e1, show n - ((((D ++ r).length : Nat) : Int) + 1) + 1 = n - (((D ++ r).length : Nat) : Int) by omega]
    refine ih r (fun x m => lc x (List.mem_cons_of_mem _ m)) hr (by omega) (fun k hk => ?_) K
    have := tr (k + 1) (by rw [List.cons_append, List.length_cons]; omega)
    rw [ec] at this
    rw [show n - (((D ++ r).length : Nat) : Int) + (k : Int) = n - ((((D ++ r).length : Nat) : Int) + 1) + ((k + 1 : Nat) : Int) by push_cast; omega]
    exact this
theorem span_ex : ∀ r : List Int, ∃ D r', r = D ++ r' ∧ (∀ c ∈ D, 97 ≤ c ∧ c ≤ 122) ∧ ∀ c r'', r' = c :: r'' → ¬ (97 ≤ c ∧ c ≤ 122) := by
  intro r
  induction r with
  | nil => exact ⟨[], [], rfl, fun c m => absurd m List.not_mem_nil, fun c r e => by cases e⟩
  | cons c r ih =>
    by_cases l : 97 ≤ c ∧ c ≤ 122
    · obtain ⟨D, r', e, a, b⟩ := ih
      refine ⟨c :: D, r', by rw [e]; rfl, fun x m => ?_, b⟩
      rw [List.mem_cons] at m
      rcases m with m | m
      · rw [m]; exact l
      · exact a x m
    · exact ⟨[], c :: r, rfl, fun c m => absurd m List.not_mem_nil, fun x r' e => by rw [← (List.cons.inj e).1]; exact l⟩
theorem RV_lr {h h' : xH} {l : List Int} {l2 : List (Int × Int)} (F : Fr l l2 h h') (k1 : (l.all (fun c => decide (c < 76)) && l2.all (fun q => decide (q.1 = 59))) = true) (k : Int) : RV h' k = RV h k := by
  simp only [Bool.and_eq_true, List.all_eq_true, decide_eq_true_eq] at k1
  have row : ∀ c : Int, 77 ≤ c → h'.i c = h.i c := fun c hc => Fr_row F (fun m => by have := k1.1 c m; omega) (fun q m e => by have := k1.2 q m; omega)
  exact RV_row (by rw [row 77 (by decide)]) (by rw [row 81 (by decide)]) (fun _ _ _ => by rw [row 82 (by decide)]) (fun _ _ _ => by rw [row 83 (by decide)]) (fun _ _ _ => by rw [row 84 (by decide)]) (fun _ _ _ => by rw [row 85 (by decide)]) (fun _ _ _ => by rw [row 87 (by decide)]) (fun _ _ _ => by rw [row 88 (by decide)]) (fun _ _ _ => by rw [row 86 (by decide)]) (fun _ _ _ => by rw [row 79 (by decide)]) (fun _ _ _ => by rw [row 80 (by decide)]) (fun _ _ _ => by rw [row 78 (by decide)])
theorem c_R_rl14 {Q : Int → xH → Prop} {T : Int → Int} {n : Int} (hV : bits26 (h0.i 5)) (iB0 : I_book h0) (n240 : n ≤ 240) : ∀ (N : Nat) (r : List Int) (ws : List Wd) (h : xH) (u4 u5 u6 u7 u8 u9 u10 : xV), r.length ≤ N → LR_ h0 h ws → h.i 60 = T → 0 ≤ n - ((r.length : Nat) : Int) → (∀ k : Nat, k < r.length → T (n - ((r.length : Nat) : Int) + k) % 256 = r.getD k 0 ∧ -128 ≤ T (n - ((r.length : Nat) : Int) + k) ∧ T (n - ((r.length : Nat) : Int) + k) < 128) → ((lnF h0 r (n - ((r.length : Nat) : Int)) ws []).1.1 = 0 → ∀ h', Fr lrL [(59, 10)] h h' → LR_ h0 h' (lnF h0 r (n - ((r.length : Nat) : Int)) ws []).2 → (∀ k, k ≠ 14 → RV h' k = RV h k) → Q 1 h') → ((lnF h0 r (n - ((r.length : Nat) : Int)) ws []).1.1 ≠ 0 → ∀ h', Fr lrL lrS h h' → SR h' → (∀ k, k ≠ 14 → RV h' k = RV h k) → h'.i 59 34 = (lnF h0 r (n - ((r.length : Nat) : Int)) ws []).1.1 → h'.i 59 35 = (lnF h0 r (n - ((r.length : Nat) : Int)) ws []).1.2 → Q 0 h') → xT (d + 6) M_R_readLine 14 [(1, 59), (0, n), (0, 14), (0, n - ((r.length : Nat) : Int)), u4, u5, u6, u7, u8, u9, u10] [] h (xqi Q) := by
  intro N
  induction N with
  | zero =>
    intro r ws h u4 u5 u6 u7 u8 u9 u10 hN L eT n0 tr H1 H0
    have er : r = [] := List.length_eq_zero_iff.mp (by omega)
    subst er
    have S := L.1
    have w77 : h.i 77 14 = ((ws.length : Nat) : Int) := L.2.2.2.1.2.1
    rw [lnF, if_pos (show ([] : List Int).length = 0 from rfl)] at H1 H0
    apply L_R_readLine_14
    rw [if_neg (by show ¬ n - 0 < n; omega)]
    simp only [srt S, srl S, srf S, w77, true_and, and_true, false_and, and_false, forall_eq, forall_eq', xi_wi, xr_wi, xt_wi, xl_wi, xn_wi, xs_wi, xi_wr, xr_wr, xt_wr, xl_wr, xn_wr, xs_wr, if_true, if_false, and_self, Int.reduceEq, Int.reduceLT, Int.reduceLE, Int.reduceNeg, Int.le_refl, Int.reduceMod]
    by_cases c : ws.length = 0
    · rw [if_pos c] at H1 H0
      rw [if_neg (by omega)]
      refine c_R_wrong (d := d + 5) S (fun h' F a b => ?_)
      rw [if_pos rfl]
      exact H0 (by show (5 : Int) ≠ 0; decide) h' (Fr_mono F (fun c m => absurd m List.not_mem_nil) (by decide)) (SR_2 F.1 S) (fun k _ => RV_lr F (by decide) k) a (by rw [b]; show n = n - 0; omega)
    · rw [if_neg c] at H1
      rw [if_pos (by omega)]
      exact H1 rfl h (Fr_refl _ _ _) L (fun k _ => rfl)
  | succ N ih =>
    intro r ws h u4 u5 u6 u7 u8 u9 u10 hN L eT n0 tr H1 H0
    have L' := L
    obtain ⟨S, bk, RL_, RR, ok⟩ := L'
    have w77 : h.i 77 14 = ((ws.length : Nat) : Int) := RR.2.1
    have y81 : h.i 81 14 = (((flat ws).length : Nat) : Int) := RR.1
    have g : h.tag 59 = 12 ∧ h.r 59 0 = 60 ∧ h.tag 60 = 21 ∧ h.len 60 = 240 ∧ h.r 59 22 = 77 ∧ h.tag 77 = 20 ∧ h.len 77 = 15 ∧ h.r 59 26 = 81 ∧ h.tag 81 = 20 ∧ h.len 81 = 15 ∧ h.r 59 13 = 70 ∧ h.tag 70 = 20 ∧ h.len 70 = 40 := by simp only [srt S, srl S, srf S, true_and, and_true, false_and, and_false, forall_eq, forall_eq', xi_wi, xr_wi, xt_wi, xl_wi, xn_wi, xs_wi, xi_wr, xr_wr, xt_wr, xl_wr, xn_wr, xs_wr, if_true, if_false, and_self, Int.reduceEq, Int.reduceLT, Int.reduceLE, Int.reduceNeg, Int.le_refl, Int.reduceMod]
    obtain ⟨g1, g2, g3, g4, g5, g6, g7, g8, g9, g10, g11, g12, g13⟩ := g
    have o1 := ok.1
    have o2 := ok.2.1
    cases r with
    | nil =>
      rw [lnF, if_pos (show ([] : List Int).length = 0 from rfl)] at H1 H0
      apply L_R_readLine_14
      rw [if_neg (by show ¬ n - 0 < n; omega)]
      simp only [srt S, srl S, srf S, w77, true_and, and_true, false_and, and_false, forall_eq, forall_eq', xi_wi, xr_wi, xt_wi, xl_wi, xn_wi, xs_wi, xi_wr, xr_wr, xt_wr, xl_wr, xn_wr, xs_wr, if_true, if_false, and_self, Int.reduceEq, Int.reduceLT, Int.reduceLE, Int.reduceNeg, Int.le_refl, Int.reduceMod]
      by_cases c : ws.length = 0
      · rw [if_pos c] at H1 H0
        rw [if_neg (by omega)]
        refine c_R_wrong (d := d + 5) S (fun h' F a b => ?_)
        rw [if_pos rfl]
        exact H0 (by show (5 : Int) ≠ 0; decide) h' (Fr_mono F (fun c m => absurd m List.not_mem_nil) (by decide)) (SR_2 F.1 S) (fun k _ => RV_lr F (by decide) k) a (by rw [b]; show n = n - 0; omega)
      · rw [if_neg c] at H1
        rw [if_pos (by omega)]
        exact H1 rfl h (Fr_refl _ _ _) L (fun k _ => rfl)
    | cons c r =>
      have ec : (((c :: r).length : Nat) : Int) = ((r.length : Nat) : Int) + 1 := by rw [List.length_cons]; push_cast; rfl
      have t0 := tr 0 (by rw [List.length_cons]; omega)
      rw [ec] at t0
      rw [show n - (((r.length : Nat) : Int) + 1) + ((0 : Nat) : Int) = n - (((r.length : Nat) : Int) + 1) by omega, show (c :: r).getD 0 0 = c from rfl] at t0
      rw [List.length_cons] at hN
      by_cases lt : 97 ≤ c ∧ c ≤ 122
      · -- a word
        obtain ⟨D, r', er, lc, hr⟩ := span_ex (c :: r)
        have d1 : D.length ≠ 0 := fun z => by
          have : D = [] := List.length_eq_zero_iff.mp z
          rw [this, List.nil_append] at er
          exact hr c r er.symm lt
        have lD : (((c :: r).length : Nat) : Int) = ((D.length : Nat) : Int) + ((r'.length : Nat) : Int) := by rw [er, List.length_append]; push_cast; rfl
        have eL : lnF h0 (c :: r) (n - (((c :: r).length : Nat) : Int)) ws [] = lnF h0 r' (n - ((r'.length : Nat) : Int)) ws D := by
          rw [lD, er, lnF_run D r' _ ws [] lc, List.nil_append]
          congr 1; omega
        rw [eL] at H1 H0
        have tpD : ∀ k : Nat, k < D.length → h.i 60 (n - (((c :: r).length : Nat) : Int) + k) = D.getD k 0 := fun k hk => by
          have := tr k (by have := congrArg List.length er; rw [List.length_append] at this; omega)
          have l := lc _ (getD_mem (0 : Int) hk)
          rw [er, getD_app_l 0 hk] at this
          rw [← er] at this
          rw [eT]; omega
        have trr : ∀ k : Nat, k < r'.length → T (n - ((r'.length : Nat) : Int) + k) % 256 = r'.getD k 0 ∧ -128 ≤ T (n - ((r'.length : Nat) : Int) + k) ∧ T (n - ((r'.length : Nat) : Int) + k) < 128 := fun k hk => by
          have := tr (D.length + k) (by have := congrArg List.length er; rw [List.length_append] at this; omega)
          rw [lD] at this
          rw [er, getD_app_r 0 (by omega), Nat.add_sub_cancel_left] at this
          rw [show n - ((r'.length : Nat) : Int) + (k : Int) = n - (((D.length : Nat) : Int) + ((r'.length : Nat) : Int)) + ((D.length + k : Nat) : Int) by push_cast; omega]
          exact this
        have px : xw (n - ((r'.length : Nat) : Int) - (n - (((c :: r).length : Nat) : Int))) = ((D.length : Nat) : Int) := by rw [xw_id (by omega) (by omega)]; omega
        -- a fault of the word
        have bad : wfl h0 ws D ≠ 0 → ∀ h1 : xH, Fr lrL [(59, 10)] h h1 → SR h1 → (∀ k, k ≠ 14 → RV h1 k = RV h k) → ∀ f, f = wfl h0 ws D → xCi (d + 6) M_R_wrong [(1, 59), (0, f), (0, n - (((c :: r).length : Nat) : Int))] h1 (fun r2 h2 => (r2 = 0 ∨ r2 = 1) ∧ Q r2 h2) := fun w h1 F1 S1 rv f ef => by
          rw [ef]
          refine c_R_wrong (d := d + 5) S1 (fun h2 F2 a b => ⟨Or.inl rfl, ?_⟩)
          have e := lnF_1 (h0 := h0) (i := n - ((r'.length : Nat) : Int)) d1 hr w
          rw [e] at H0
          refine H0 w h2 (Fr_trans (Fr_mono F1 (fun c m => m) (by decide)) (Fr_mono F2 (fun c m => absurd m List.not_mem_nil) (by decide))) (SR_2 F2.1 S1) (fun k hk => (RV_lr F2 (by decide) k).trans (rv k hk)) a ?_
          rw [b]
          show _ = n - ((r'.length : Nat) : Int) - ((D.length : Nat) : Int)
          omega
        have fin80 : ∀ (h1 : xH) (l6 s0 : Int) (u7 u8 u9 u10 : xV), Fr [65, 66, 67, 74, 75] [(59, 10)] h h1 → LR_ h0 h1 ws → D.length ≤ 16 → ((l6 = -1 ∧ bkF h0 D = -1 ∧ ((s0 = 0 ∧ noV (h0.i 6) (h0.i 5) D) ∨ (¬ noV (h0.i 6) (h0.i 5) D ∧ s0 = (((wordP h0 D).length : Nat) : Int) ∧ RWl h1 (wordP h0 D)))) ∨ (0 ≤ l6 ∧ l6 < h0.i 59 16 ∧ bkF h0 D = l6 ∧ WM h0 (gD D) ((D.length : Nat) : Int) l6 ∧ s0 = (((wordP h0 D).length : Nat) : Int))) → xT (d + 6) M_R_readLine 80 [(1, 59), (0, n), (0, 14), (0, n - (((c :: r).length : Nat) : Int)), (0, n - ((r'.length : Nat) : Int)), (0, ((D.length : Nat) : Int)), (0, l6), u7, u8, u9, u10] [(0, s0)] h1 (xqi Q) := fun h1 l6 s0 u7 u8 u9 u10 F1 L1 d16 P => by
          have L1' := L1
          obtain ⟨S1, bk1, RL1, RR1, _⟩ := L1'
          have F1' : Fr lrL [(59, 10)] h h1 := Fr_mono F1 (by decide) (fun c m => m)
          have rv1 : ∀ k, k ≠ 14 → RV h1 k = RV h k := fun k _ => RV_lr F1 (by decide) k
          have w77' : h1.i 77 14 = ((ws.length : Nat) : Int) := RR1.2.1
          have y81' : h1.i 81 14 = (((flat ws).length : Nat) : Int) := RR1.1
          have e60 : h1.i 60 = T := by rw [Fr_row F1 (by decide) (by decide)]; exact eT
          have q1 : h1.tag 59 = 12 ∧ h1.r 59 22 = 77 ∧ h1.tag 77 = 20 ∧ h1.len 77 = 15 ∧ h1.r 59 26 = 81 ∧ h1.tag 81 = 20 ∧ h1.len 81 = 15 := by have S := S1; simp only [srt S, srl S, srf S, true_and, and_true, false_and, and_false, forall_eq, forall_eq', xi_wi, xr_wi, xt_wi, xl_wi, xn_wi, xs_wi, xi_wr, xr_wr, xt_wr, xl_wr, xn_wr, xs_wr, if_true, if_false, and_self, Int.reduceEq, Int.reduceLT, Int.reduceLE, Int.reduceNeg, Int.le_refl, Int.reduceMod]
          apply L_R_readLine_80
          by_cases z0 : s0 = 0
          · rw [if_pos z0]
            have e3 : wfl h0 ws D = 3 := by
              unfold wfl
              rw [if_neg (by omega), if_pos]
              rcases P with ⟨p1, p2, p3⟩ | ⟨p1, p2, p3, p4, p5⟩
              · rcases p3 with ⟨_, nv⟩ | ⟨nv, es, _⟩
                · exact ⟨p2, nvB_iff.mpr nv⟩
                · exfalso
                  have : 1 ≤ (wordP h0 D).length := by unfold wordP; rw [if_pos p2]; exact rulS_len _ _ _ _ _ _
                  omega
              · exfalso
                have wv := WdOk_wordV iB0 hV lc (by omega) d16 (fun z => by omega)
                have := wv.2.2.2
                omega
            exact ⟨q1.1, bad (by rw [e3]; decide) h1 F1' S1 rv1 3 e3.symm⟩
          · rw [if_neg z0]
            have nf : ¬ (bkF h0 D = -1 ∧ nvB (h0.i 6) (h0.i 5) D = true) := fun z => by
              rcases P with ⟨p1, p2, p3⟩ | ⟨p1, p2, p3, p4, p5⟩
              · rcases p3 with ⟨y, _⟩ | ⟨nv, _⟩
                · exact z0 y
                · exact nv (nvB_iff.mp z.2)
              · omega
            have es : s0 = (((wordP h0 D).length : Nat) : Int) := by
              rcases P with ⟨p1, p2, p3⟩ | ⟨p1, p2, p3, p4, p5⟩
              · rcases p3 with ⟨y, _⟩ | ⟨_, y, _⟩
                · exact absurd y z0
                · exact y
              · exact p5
            have wv := WdOk_wordV iB0 hV lc (by omega) d16 nf
            rw [q1.2.1, q1.2.2.2.1, w77']
            refine ⟨q1.1, ⟨q1.2.2.1, by decide, by decide⟩, ?_⟩
            by_cases c12 : ws.length = 12
            · rw [if_pos (by omega)]
              have e4 : wfl h0 ws D = 4 := by unfold wfl; rw [if_neg (by omega), if_neg nf, if_pos (Or.inl c12)]
              exact bad (by rw [e4]; decide) h1 F1' S1 rv1 4 e4.symm
            · rw [if_neg (by omega), q1.2.2.2.2.1, q1.2.2.2.2.2.2, y81', es, xw_id (a := (((flat ws).length : Nat) : Int) + (((wordP h0 D).length : Nat) : Int)) (by omega) (by omega)]
              refine ⟨⟨q1.2.2.2.2.2.1, by decide, by decide⟩, ?_⟩
              by_cases c40 : 40 < (flat ws).length + (wordP h0 D).length
              · rw [if_pos (by omega)]
                have e4 : wfl h0 ws D = 4 := by unfold wfl; rw [if_neg (by omega), if_neg nf, if_pos (Or.inr c40)]
                exact bad (by rw [e4]; decide) h1 F1' S1 rv1 4 e4.symm
              · rw [if_neg (by omega)]
                have e0 : wfl h0 ws D = 0 := by unfold wfl; rw [if_neg (by omega), if_neg nf, if_neg (by omega)]
                have okm := (LnOk_more iB0 hV lc (by omega) ok e0).1
                have eN := lnF_0 (h0 := h0) (i := n - ((r'.length : Nat) : Int)) d1 hr e0
                rw [eN] at H1 H0
                -- behind the word
                have next : ∀ (h2 : xH) (u4 u5 u6 u7 u8 u9 u10 : xV), Fr lwL asS h1 h2 → RLn (RV h2 14) (ws ++ [wordV h0 D]) → (∀ k, k ≠ 14 → RV h2 k = RV h1 k) → xT (d + 6) M_R_readLine 14 [(1, 59), (0, n), (0, 14), (0, n - ((r'.length : Nat) : Int)), u4, u5, u6, u7, u8, u9, u10] [] h2 (xqi Q) := fun h2 u4 u5 u6 u7 u8 u9 u10 F2 R2 rv2 => by
                  have F12 : Fr lrL [(59, 10)] h h2 := Fr_trans F1' (Fr_mono F2 (by decide) (by decide))
                  have S2 := SR_2 F2.1 S1
                  have L2 : LR_ h0 h2 (ws ++ [wordV h0 D]) := ⟨S2, BkEq_r bk1 F2 (by decide), lrLang (Fr_mono F12 (fun c m => m) (by decide)) RL_, R2, okm⟩
                  refine ih r' _ h2 u4 u5 u6 u7 u8 u9 u10 (by have := congrArg List.length er; rw [List.length_append, List.length_cons] at this; omega) L2 (by rw [Fr_row F12 (by decide) (by decide)]; exact eT) (by omega) trr (fun a h' F L3 rv3 => H1 a h' (Fr_trans F12 F) L3 (fun k hk => (rv3 k hk).trans ((rv2 k hk).trans (rv1 k hk)))) (fun a h' F S3 rv3 x y => H0 a h' (Fr_trans (Fr_mono F12 (fun c m => m) (by decide)) F) S3 (fun k hk => (rv3 k hk).trans ((rv2 k hk).trans (rv1 k hk))) x y)
                rcases P with ⟨p1, p2, p3⟩ | ⟨p1, p2, p3, p4, p5⟩
                · rcases p3 with ⟨y, _⟩ | ⟨nv, _, Wl⟩
                  · exact absurd y z0
                  · rw [if_pos p1, xw_id (a := 12 * 14) (by omega) (by omega), xw_id (a := 12 * 14 + ((ws.length : Nat) : Int)) (by omega) (by omega), p1]
                    refine ⟨⟨q1.2.2.1, by decide, by decide⟩, fun x1 e1 => ?_⟩
                    rw [e1]
                    refine c_R_rl127 (D := D) (n7 := (((wordP h0 D).length : Nat) : Int)) (at_ := 12 * 14 + ((ws.length : Nat) : Int)) (by decide) (by decide) (by omega) (by omega) (by omega) (by omega) lc d16 D.length 0 h1 h1 _ (Nat.zero_add _) S1 (fun j hj => by rw [e60, ← eT]; exact tpD j hj) (Fr_refl _ _ _) (fun j hj => absurd hj (Nat.not_lt_zero _)) (fun j _ => rfl) (fun h2 Tx => ?_)
                    have Z1 := ASt_of (P := h0.i 6) (V := h0.i 5) (D := D) (l := 14) S1 RL1 ok.2.2 rfl RR1 Tx
                    refine c_R_rl160 (d := d + 3) (L := wordP h0 D) (D := D) (by decide) (by decide) (by omega) (by omega) hV lc d16 wv.2.2.1 wv.2.1 (wordP h0 D).length 0 (flat ws) h2 _ (Nat.zero_add _) Z1 (by omega) (by unfold RWl; rw [Fr_row Tx.1 (c := 74) (by decide) (by decide), Fr_row Tx.1 (c := 75) (by decide) (by decide)]; exact Wl) (fun h3 u8 u9 u10 F3 Z3 rv3 => ?_)
                    have z := word_more (bk := 0) ok.2.2 (by omega) rfl d16 RR1 Tx F3 Z3 rv3 (by decide) (by decide)
                    refine next _ _ _ _ _ _ _ _ (Fr_cell (Fr_trans (Fr_mono Tx.1 (by decide) (fun c m => absurd m List.not_mem_nil)) (Fr_mono F3 (fun c m => List.mem_append_right _ m) (fun c m => m))) _ _ (by decide)) ?_ z.2
                    unfold wordV
                    rw [if_pos p2]
                    exact z.1
                · rw [if_neg (by omega)]
                  have B1 : h0.i 59 16 ≤ 40 := iB0.2.2.1
                  have eL : wordP h0 D = bkL h0 l6 := by unfold wordP; rw [if_neg (by omega), p3]
                  obtain ⟨jj, _, _, Bw⟩ := iB0.2.2.2.2.1 l6 p1 p2
                  have bw := Bw.2
                  refine c_R_addWord (d := d + 2) (P := h0.i 6) (V := h0.i 5) (D := D) (L := wordP h0 D) S1 RL1 hV (by decide) (by decide) p1 (by omega) RR1 ok.2.2 (by omega) lc d16 wv.2.2.1 wv.2.1 (by rw [bk1.2.2.2.1]; exact p4.1) ?_ (fun j hj => ?_) (fun j hj => ?_) (by omega) (fun h2 F2 R2 rv2 => ?_)
                  · rw [bk1.2.2.2.2.1, eL, bkL_len]; omega
                  · rw [bk1.2.2.1, p4.2 (j : Int) (by omega) (by omega), gD_i D rfl]
                  · rw [bk1.2.2.2.2.2.1, bk1.2.2.2.2.2.2.1]
                    rw [eL] at hj ⊢
                    rw [bkL_get hj]
                    exact ⟨rfl, rfl⟩
                  · refine next h2 _ _ _ _ _ _ _ F2 ?_ rv2
                    unfold wordV
                    rw [if_neg (show ¬ bkF h0 D = -1 by omega)]
                    exact R2
        apply L_R_readLine_14
        rw [if_pos (by omega), g2, g4, eT, ec]
        refine ⟨g1, ⟨g3, by omega, by omega⟩, ?_⟩
        rw [if_neg (show ¬ T (n - (((r.length : Nat) : Int) + 1)) = 32 by omega)]
        refine ⟨⟨g3, by omega, by omega⟩, ?_⟩
        refine c_R_isLet ?_
        rw [if_pos (show 97 ≤ T (n - (((r.length : Nat) : Int) + 1)) ∧ T (n - (((r.length : Nat) : Int) + 1)) ≤ 122 by omega), if_neg (by decide), ← ec]
        have p38 := c_R_rl38 (d := d + 5) (h := h) (Q := Q) (T := T) (n := n) (l2 := 14) (l3 := n - (((c :: r).length : Nat) : Int)) (u5 := u5) (u6 := u6) (u7 := u7) (u8 := u8) (u9 := u9) (u10 := u10) S eT n240 D r' lc hr (by rw [← er]; exact n0) (by rw [← er]; exact tr)
        rw [← er] at p38
        refine p38 ?_
        apply L_R_readLine_49
        intro x1 e1
        rw [px] at e1
        rw [e1]
        by_cases c16 : 16 < D.length
        · rw [if_pos (by omega)]
          have e2 : wfl h0 ws D = 2 := by unfold wfl; rw [if_pos c16]
          exact ⟨g1, bad (by rw [e2]; decide) h (Fr_refl _ _ _) S (fun k _ => rfl) 2 e2.symm⟩
        · rw [if_neg (by omega), g2]
          refine ⟨g1, ?_⟩
          have b59 : h.i 59 16 = h0.i 59 16 := bk.2.2.2.2.2.2.2
          have mat : ∀ w, RMat h w 60 (n - (((c :: r).length : Nat) : Int)) ((D.length : Nat) : Int) ↔ WM h0 (gD D) ((D.length : Nat) : Int) w := fun w => by
            rw [← BkEq_WM bk]
            unfold RMat WM
            refine and_congr Iff.rfl ⟨fun H k k0 k1 => ?_, fun H k k0 k1 => ?_⟩
            · obtain ⟨i, rfl⟩ : ∃ i : Nat, k = (i : Int) := ⟨k.toNat, by omega⟩
              rw [H _ k0 k1, tpD i (by omega), gD_i D rfl]
            · obtain ⟨i, rfl⟩ : ∃ i : Nat, k = (i : Int) := ⟨k.toNat, by omega⟩
              rw [H _ k0 k1, tpD i (by omega), gD_i D rfl]
          have sizes : ∀ w, 0 ≤ w → w < h.i 59 16 → h.i 69 w ≤ 16 := fun w w0 w1 => by
            rw [b59] at w1
            obtain ⟨i, _, _, Bw⟩ := iB0.2.2.2.2.1 w w0 w1
            rw [bk.2.2.2.1]; exact Bw.2.2.2.2.1
          refine c_R_find (d := d + 4) S g3 n0 (by omega) (by rw [g4]; omega) (by omega) (by rw [b59]; exact iB0.2.1) (by rw [b59]; exact iB0.2.2.1) sizes (fun w w0 w1 M => ?_) (fun no => ?_)
          · have Mw := (mat w).mp M
            rw [b59] at w1
            have ew := bkF_yes iB0 w0 w1 Mw
            have w40 := iB0.2.2.1
            have eL : wordP h0 D = bkL h0 w := by unfold wordP; rw [if_neg (by omega), ew]
            obtain ⟨i, _, _, Bw⟩ := iB0.2.2.2.2.1 w w0 w1
            have bw := Bw.2
            rw [if_neg (by omega), g11, g13]
            refine ⟨g1, ⟨g12, w0, by omega⟩, ?_⟩
            exact fin80 h w _ _ _ _ _ (Fr_refl _ _ _) L (by omega) (Or.inr ⟨w0, w1, ew, Mw, by rw [eL, bkL_len, bk.2.2.2.2.1]; omega⟩)
          · have ew := bkF_no (h := h0) (D := D) (fun w w0 w1 M => no w w0 (by rw [b59]; exact w1) ((mat w).mpr M))
            have eL : wordP h0 D = rulL (h0.i 6) (h0.i 5) D := by unfold wordP; rw [if_pos ew]
            rw [if_pos rfl]
            refine ⟨g1, ?_⟩
            refine c_R_byRules (d := d + 3) (D := D) S RL_ hV n0 (by omega) (by omega) lc tpD (fun nv h1 F1 => ?_) (fun nv h1 F1 Wl => ?_)
            · have L1 : LR_ h0 h1 ws := ⟨SR_2 F1.1 S, BkEq_r bk F1 (by decide), lrLang (Fr_mono F1 (by decide) (by decide)) RL_, by rw [RV_lr F1 (by decide)]; exact RR, ok⟩
              exact fin80 h1 (-1) 0 _ _ _ _ F1 L1 (by omega) (Or.inl ⟨rfl, ew, Or.inl ⟨rfl, nv⟩⟩)
            · have L1 : LR_ h0 h1 ws := ⟨SR_2 F1.1 S, BkEq_r bk F1 (by decide), lrLang (Fr_mono F1 (by decide) (by decide)) RL_, by rw [RV_lr F1 (by decide)]; exact RR, ok⟩
              exact fin80 h1 (-1) _ _ _ _ _ F1 L1 (by omega) (Or.inl ⟨rfl, ew, Or.inr ⟨nv, by rw [eL], by rw [eL]; exact Wl⟩⟩)
      · rw [lnF, if_neg lt, if_pos (show ([] : List Int).length = 0 from rfl)] at H1 H0
        apply L_R_readLine_14
        rw [if_pos (by omega), g2, g4, eT, ec]
        rw [ec] at H1 H0
        refine ⟨g1, ⟨g3, by omega, by omega⟩, ?_⟩
        by_cases c3 : c = 32
        · rw [if_pos (show T (n - (((r.length : Nat) : Int) + 1)) = 32 by omega)]
          rw [if_pos c3, show n - (((r.length : Nat) : Int) + 1) + 1 = n - ((r.length : Nat) : Int) by omega] at H1 H0
          intro x1 e1
          rw [xw_id (by omega) (by omega)] at e1
          rw [e1, show n - (((r.length : Nat) : Int) + 1) + 1 = n - ((r.length : Nat) : Int) by omega]
          refine ih r ws h u4 u5 u6 u7 u8 u9 u10 (by omega) L eT (by omega) (fun k hk => ?_) H1 H0
          have := tr (k + 1) (by rw [List.length_cons]; omega)
          rw [ec] at this
          rw [show n - ((r.length : Nat) : Int) + (k : Int) = n - (((r.length : Nat) : Int) + 1) + ((k + 1 : Nat) : Int) by push_cast; omega]
          exact this
        · rw [if_neg (show ¬ T (n - (((r.length : Nat) : Int) + 1)) = 32 by omega)]
          rw [if_neg c3] at H0
          refine ⟨⟨g3, by omega, by omega⟩, ?_⟩
          refine c_R_isLet ?_
          rw [if_neg (show ¬ (97 ≤ T (n - (((r.length : Nat) : Int) + 1)) ∧ T (n - (((r.length : Nat) : Int) + 1)) ≤ 122) by omega), if_pos rfl]
          refine ⟨g1, ?_⟩
          refine c_R_wrong (d := d + 5) S (fun h' F a b => ⟨Or.inl rfl, ?_⟩)
          exact H0 (by show (1 : Int) ≠ 0; decide) h' (Fr_mono F (fun c m => absurd m List.not_mem_nil) (by decide)) (SR_2 F.1 S) (fun k _ => RV_lr F (by decide) k) a b
end RLN
