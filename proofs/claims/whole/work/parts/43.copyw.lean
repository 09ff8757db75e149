/-! the reference's copies of words and lines -/
theorem fsyl_w {w b : Int} : ∀ (L : List Sy) (f : Int) (q : FS), q ∈ fsyl w b f L → q.w = w := by
  intro L
  induction L with
  | nil => intro f q h; exact absurd h List.not_mem_nil
  | cons s r ih =>
    intro f q h
    rw [fsyl] at h
    rcases List.mem_cons.mp h with z | z
    · rw [z]; rfl
    · exact ih _ q z
theorem flatF_w : ∀ (ws : List Wd) (w : Int) (q : FS), q ∈ flatF w ws → w ≤ q.w := by
  intro ws
  induction ws with
  | nil => intro w q h; exact absurd h List.not_mem_nil
  | cons d r ih =>
    intro w q h
    rw [flatF] at h
    rcases List.mem_append.mp h with z | z
    · have := fsyl_w _ _ _ z; omega
    · have := ih _ _ z; omega
theorem fsyl_map {w b v : Int} : ∀ (L : List Sy) (f : Int), (fsyl w b f L).map (fun r => ((v, r.f, r.n, r.m, r.s, r.b) : FS)) = fsyl v b f L := by
  intro L
  induction L with
  | nil => intro f; rfl
  | cons s r ih => intro f; rw [fsyl, fsyl, List.map_cons, ih]; rfl
theorem ofW_flatF : ∀ (ws : List Wd) (w : Int) (j : Nat) (v : Int), j < ws.length → ofW (flatF w ws) (w + j) v = fsyl v (ws.getD j wd0).2.1 0 (ws.getD j wd0).2.2 := by
  intro ws
  induction ws with
  | nil => intro w j v h; exact absurd h (Nat.not_lt_zero _)
  | cons d r ih =>
    intro w j v h
    rw [flatF]
    unfold ofW
    rw [List.filter_append, List.map_append]
    cases j with
    | zero =>
      have e1 : (fsyl w d.2.1 0 d.2.2).filter (fun r => decide (r.w = w + ((0 : Nat) : Int))) = fsyl w d.2.1 0 d.2.2 := by
        rw [List.filter_eq_self]
        intro q hq
        have := fsyl_w _ _ _ hq
        exact decide_eq_true (by omega)
      have e2 : (flatF (w + 1) r).filter (fun r => decide (r.w = w + ((0 : Nat) : Int))) = [] := by
        rw [List.filter_eq_nil_iff]
        intro q hq z
        have := flatF_w _ _ _ hq
        have := of_decide_eq_true z
        omega
      rw [e1, e2, List.map_nil, List.append_nil, fsyl_map]
      rfl
    | succ j =>
      have e1 : (fsyl w d.2.1 0 d.2.2).filter (fun r => decide (r.w = w + ((j + 1 : Nat) : Int))) = [] := by
        rw [List.filter_eq_nil_iff]
        intro q hq z
        have := fsyl_w _ _ _ hq
        have := of_decide_eq_true z
        omega
      have z := ih (w + 1) j v (by rw [List.length_cons] at h; omega)
      unfold ofW at z
      rw [e1, List.map_nil, List.nil_append, show w + ((j + 1 : Nat) : Int) = w + 1 + (j : Int) by omega, z]
      rfl
theorem flatF_app : ∀ (A : List Wd) (w : Int) (d : Wd), flatF w (A ++ [d]) = flatF w A ++ fsyl (w + ((A.length : Nat) : Int)) d.2.1 0 d.2.2 := by
  intro A
  induction A with
  | nil => intro w d; show fsyl w d.2.1 0 d.2.2 ++ [] = [] ++ fsyl (w + 0) d.2.1 0 d.2.2; rw [List.append_nil, Int.add_zero, List.nil_append]
  | cons a A ih =>
    intro w d
    show flatF w (a :: (A ++ [d])) = flatF w (a :: A) ++ _
    rw [flatF, flatF, ih, List.append_assoc, List.length_cons, show w + 1 + ((A.length : Nat) : Int) = w + ((A.length + 1 : Nat) : Int) by omega]
theorem flat_app (A : List Wd) (d : Wd) : flat (A ++ [d]) = flat A ++ fsyl ((A.length : Nat) : Int) d.2.1 0 d.2.2 := by
  unfold flat
  rw [flatF_app, Int.zero_add]
theorem flat_s16 {ws : List Wd} (ok : ∀ d ∈ ws, WdOk d) : ∀ q ∈ flat ws, q.s.length ≤ 16 := by
  intro q hq
  obtain ⟨i, hi, e⟩ := List.getElem_of_mem hq
  obtain ⟨j, -, -, -, -, -, so, -⟩ := flatF_get ws 0 i ok hi
  have e2 : (flat ws).getD i fs0 = q := by
    rw [List.getD_eq_getElem?_getD, List.getElem?_eq_getElem hi]
    exact e
  rw [show flatF 0 ws = flat ws from rfl, e2] at so
  exact so.2.2.2.2.1
theorem RS_row {h h' : xH} {l : Int} {L : List FS} (e81 : h'.i 81 l = h.i 81 l) (e82 : h'.i 82 = h.i 82) (e83 : h'.i 83 = h.i 83) (e84 : h'.i 84 = h.i 84) (e85 : h'.i 85 = h.i 85) (e86 : h'.i 86 = h.i 86) (e87 : h'.i 87 = h.i 87) (e88 : h'.i 88 = h.i 88) (R : RS (RV h l) L) : RS (RV h' l) L := by
  have f0 : RV h' l 0 = RV h l 0 := funext (fun _ => e81)
  have f2 : RV h' l 2 = RV h l 2 := funext (fun k => by show cl 40 (fun k => h'.i 82 (40 * l + k)) k = cl 40 (fun k => h.i 82 (40 * l + k)) k; rw [e82])
  have f3 : RV h' l 3 = RV h l 3 := funext (fun k => by show cl 40 (fun k => h'.i 83 (40 * l + k)) k = cl 40 (fun k => h.i 83 (40 * l + k)) k; rw [e83])
  have f4 : RV h' l 4 = RV h l 4 := funext (fun k => by show cl 40 (fun k => h'.i 84 (40 * l + k)) k = cl 40 (fun k => h.i 84 (40 * l + k)) k; rw [e84])
  have f5 : RV h' l 5 = RV h l 5 := funext (fun k => by show cl 40 (fun k => h'.i 85 (40 * l + k)) k = cl 40 (fun k => h.i 85 (40 * l + k)) k; rw [e85])
  have f6 : RV h' l 6 = RV h l 6 := funext (fun k => by show cl 40 (fun k => h'.i 87 (40 * l + k)) k = cl 40 (fun k => h.i 87 (40 * l + k)) k; rw [e87])
  have f7 : RV h' l 7 = RV h l 7 := funext (fun k => by show cl 40 (fun k => h'.i 88 (40 * l + k)) k = cl 40 (fun k => h.i 88 (40 * l + k)) k; rw [e88])
  have f8 : RV h' l 8 = RV h l 8 := funext (fun k => by show cl 640 (fun k => h'.i 86 (640 * l + k)) k = cl 640 (fun k => h.i 86 (640 * l + k)) k; rw [e86])
  unfold RS at R ⊢
  rw [f0, f2, f3, f4, f5, f6, f7, f8]
  exact R
/-- word d stands behind the words A -/
theorem RW_app {h h' : xH} {l : Int} {A : List Wd} {d : Wd} (hA : A.length < 12) (okA : ∀ x ∈ A, x.1.length ≤ 16) (okd : d.1.length ≤ 16) (R : RW (RV h l) A) (q1 : ∀ j : Nat, j < d.1.length → h'.i 78 (16 * (12 * l + (A.length : Nat)) + j) = d.1.getD j 0) (q2 : ∀ j, (j < 16 * (12 * l + (A.length : Nat)) ∨ 16 * (12 * l + (A.length : Nat)) + 16 ≤ j) → h'.i 78 j = h.i 78 j) (q3 : ∀ j, h'.i 79 j = if j = 12 * l + (A.length : Nat) then ((d.1.length : Nat) : Int) else h.i 79 j) (q4 : ∀ j, h'.i 80 j = if j = 12 * l + (A.length : Nat) then d.2.1 else h.i 80 j) : RW (RV h' l) (A ++ [d]) := by
  intro w hw
  rw [List.length_append, List.length_singleton] at hw
  have q := rv9 (h := h') (l := l) (k := w) (by omega) (by omega)
  rw [q.1, q.2, q3, q4]
  by_cases c : w < A.length
  · have z := R w c
    have p := rv9 (h := h) (l := l) (k := w) (by omega) (by omega)
    rw [p.1, p.2] at z
    have ne : ¬ (12 * l + (w : Int) = 12 * l + ((A.length : Nat) : Int)) := by omega
    rw [getD_app_l wd0 c]
    simp only [if_neg ne]
    have sl := okA _ (getD_mem wd0 c)
    refine ⟨z.1, z.2.1, fun k hk => ?_⟩
    have y := z.2.2 k hk
    rw [rv11 (by omega) (by omega)] at y ⊢
    rw [q2 _ (by omega)]
    exact y
  · have e : w = A.length := by omega
    subst e
    rw [getD_app_r wd0 (Nat.le_refl _), Nat.sub_self]
    simp only [if_pos]
    refine ⟨rfl, rfl, fun k hk => ?_⟩
    have hk : k < d.1.length := hk
    rw [rv11 (by omega) (by omega)]
    have y := q1 k hk
    rw [show 192 * l + (16 * ((A.length : Nat) : Int) + (k : Int)) = 16 * (12 * l + ((A.length : Nat) : Int)) + k by omega]
    exact y
theorem c_R_copyWord {d : Nat} {h : xH} {Q : xH → Prop} {l m : Int} {ws A : List Wd} {w : Nat} (S : SR h) (l0 : 0 ≤ l) (l1 : l < 15) (m0 : 0 ≤ m) (m1 : m < 15) (hlm : l ≠ m) (ok : LnOk ws) (R1 : RLn (RV h m) ws) (okA : ∀ x ∈ A, WdOk x) (hA : A.length < 12) (R2 : RLn (RV h l) A) (hw : w < ws.length) (hf : (flat (A ++ [ws.getD w wd0])).length ≤ 40) (H : ∀ h', Fr [77, 78, 79, 80, 81, 82, 83, 84, 85, 86, 87, 88] [] h h' → RLn (RV h' l) (A ++ [ws.getD w wd0]) → (∀ k, k ≠ l → RV h' k = RV h k) → Q h') : xCv (d + 2) M_R_copyWord [(1, 59), (0, l), (0, m), (0, (w : Int))] h Q := by
  have okw := ok.2.2 _ (getD_mem wd0 hw)
  have wm : h.i 77 l = (A.length : Nat) := R2.2.1
  have RS1 := (RLn_iff.mp R1).1
  have RS2 := (RLn_iff.mp R2).1
  have RW2 := (RLn_iff.mp R2).2.2
  obtain ⟨t1, t2, t3⟩ := rln_wd ok R1 hw
  have o1 := ok.1
  have gl : (0 : Int) ≤ l ∧ l < 15 := ⟨l0, l1⟩
  apply L_R_copyWord
  rw [xw_id (a := 12 * l) (by omega) (by omega), xw_id (a := 12 * m) (by omega) (by omega), xw_id (a := 12 * m + (w : Int)) (by omega) (by omega)]
  simp only [srt S, srl S, srf S, wm, true_and, and_true, false_and, and_false, forall_eq, forall_eq', xi_wi, xr_wi, xt_wi, xl_wi, xn_wi, xs_wi, xi_wr, xr_wr, xt_wr, xl_wr, xn_wr, xs_wr, if_true, if_false, and_self, Int.reduceEq, Int.reduceLT, Int.reduceLE, Int.reduceNeg, Int.le_refl, Int.reduceMod]
  rw [xw_id (a := 12 * l + ((A.length : Nat) : Int)) (by omega) (by omega)]
  refine ⟨gl, ?_⟩
  refine c_copyWord_17 (D := (ws.getD w wd0).1) (bk := (ws.getD w wd0).2.1) l0 l1 m0 m1 (by omega) (by omega) (by omega) (by omega) (by omega) okw.2.1 okw.2.2.1 okw.2.2.2.1 (ws.getD w wd0).1.length h 0 S t1 t2 (fun j hj => ?_) (by omega) (fun j hj => absurd hj (Nat.not_lt_zero _)) ?_
  · have y := t3 j hj
    rw [show 16 * (12 * m + (w : Int)) + (j : Int) = 192 * m + (16 * (w : Int) + j) by omega]
    exact y
  · intro h1 F1 q1 q2 q3 q4
    have r := fun (c : Int) (hc : c ∉ [78, 79, 80]) => Fr_row F1 (c := c) hc (by intro p hp; exact absurd hp List.not_mem_nil)
    have r77 := r 77 (by decide)
    have rv1 : ∀ k, k ≠ l → RV h1 k = RV h k := fun k hk => RV_row (by rw [r77]) (by rw [r 81 (by decide)]) (fun _ _ _ => by rw [r 82 (by decide)]) (fun _ _ _ => by rw [r 83 (by decide)]) (fun _ _ _ => by rw [r 84 (by decide)]) (fun _ _ _ => by rw [r 85 (by decide)]) (fun _ _ _ => by rw [r 87 (by decide)]) (fun _ _ _ => by rw [r 88 (by decide)]) (fun _ _ _ => by rw [r 86 (by decide)]) (fun j _ _ => by rw [q3, if_neg (by omega)]) (fun j _ _ => by rw [q4, if_neg (by omega)]) (fun j _ _ => q2 _ (by omega))
    have RS2' : RS (RV h1 l) (flat A) := RS_row (by rw [r 81 (by decide)]) (r 82 (by decide)) (r 83 (by decide)) (r 84 (by decide)) (r 85 (by decide)) (r 86 (by decide)) (r 87 (by decide)) (r 88 (by decide)) RS2
    have eo : ofW ((flat ws).drop 0) (w : Int) (h1.i 77 l) = fsyl ((A.length : Nat) : Int) (ws.getD w wd0).2.1 0 (ws.getD w wd0).2.2 := by
      rw [List.drop_zero, r77, wm]
      have z := ofW_flatF ws 0 w ((A.length : Nat) : Int) hw
      rw [Int.zero_add] at z
      exact z
    rw [flat_app, List.length_append] at hf
    have s40 : (40 : Int) * m = 40 * m + ((0 : Nat) : Int) := by omega
    rw [s40]
    refine c_copyWord_61 l0 l1 m0 m1 hlm ok.2.1 (flat_s16 ok.2.2) (flat ws).length h1 0 _ _ (flat A) (SR_2 F1.1 S) (by rw [rv1 m (fun q => hlm q.symm)]; exact RS1) (by omega) RS2' (flat_s16 okA) (by rw [eo]; exact hf) (by rw [r77, wm]; omega) (by rw [r77, wm]; omega) ?_
    intro h2 F2 R' rv2
    rw [eo] at R'
    have F3 : Fr [77, 78, 79, 80, 81, 82, 83, 84, 85, 86, 87, 88] [] h (h2.wi 77 l (h1.i 77 l + 1)) := Fr_cell (Fr_trans (Fr_mono F1 (by decide) (by decide)) (Fr_mono F2 (by decide) (by decide))) _ _ (by decide)
    refine H _ F3 ?_ (fun k hk => ?_)
    · refine RLn_iff.mpr ⟨?_, ?_, ?_⟩
      · rw [flat_app]
        exact RS_row (h := h2) (by simp only [true_and, and_true, false_and, and_false, forall_eq, forall_eq', xi_wi, xr_wi, xt_wi, xl_wi, xn_wi, xs_wi, xi_wr, xr_wr, xt_wr, xl_wr, xn_wr, xs_wr, if_true, if_false, and_self, Int.reduceEq, Int.reduceLT, Int.reduceLE, Int.reduceNeg, Int.le_refl, Int.reduceMod]) (by funext j; simp only [true_and, and_true, false_and, and_false, forall_eq, forall_eq', xi_wi, xr_wi, xt_wi, xl_wi, xn_wi, xs_wi, xi_wr, xr_wr, xt_wr, xl_wr, xn_wr, xs_wr, if_true, if_false, and_self, Int.reduceEq, Int.reduceLT, Int.reduceLE, Int.reduceNeg, Int.le_refl, Int.reduceMod]) (by funext j; simp only [true_and, and_true, false_and, and_false, forall_eq, forall_eq', xi_wi, xr_wi, xt_wi, xl_wi, xn_wi, xs_wi, xi_wr, xr_wr, xt_wr, xl_wr, xn_wr, xs_wr, if_true, if_false, and_self, Int.reduceEq, Int.reduceLT, Int.reduceLE, Int.reduceNeg, Int.le_refl, Int.reduceMod]) (by funext j; simp only [true_and, and_true, false_and, and_false, forall_eq, forall_eq', xi_wi, xr_wi, xt_wi, xl_wi, xn_wi, xs_wi, xi_wr, xr_wr, xt_wr, xl_wr, xn_wr, xs_wr, if_true, if_false, and_self, Int.reduceEq, Int.reduceLT, Int.reduceLE, Int.reduceNeg, Int.le_refl, Int.reduceMod]) (by funext j; simp only [true_and, and_true, false_and, and_false, forall_eq, forall_eq', xi_wi, xr_wi, xt_wi, xl_wi, xn_wi, xs_wi, xi_wr, xr_wr, xt_wr, xl_wr, xn_wr, xs_wr, if_true, if_false, and_self, Int.reduceEq, Int.reduceLT, Int.reduceLE, Int.reduceNeg, Int.le_refl, Int.reduceMod]) (by funext j; simp only [true_and, and_true, false_and, and_false, forall_eq, forall_eq', xi_wi, xr_wi, xt_wi, xl_wi, xn_wi, xs_wi, xi_wr, xr_wr, xt_wr, xl_wr, xn_wr, xs_wr, if_true, if_false, and_self, Int.reduceEq, Int.reduceLT, Int.reduceLE, Int.reduceNeg, Int.le_refl, Int.reduceMod]) (by funext j; simp only [true_and, and_true, false_and, and_false, forall_eq, forall_eq', xi_wi, xr_wi, xt_wi, xl_wi, xn_wi, xs_wi, xi_wr, xr_wr, xt_wr, xl_wr, xn_wr, xs_wr, if_true, if_false, and_self, Int.reduceEq, Int.reduceLT, Int.reduceLE, Int.reduceNeg, Int.le_refl, Int.reduceMod]) (by funext j; simp only [true_and, and_true, false_and, and_false, forall_eq, forall_eq', xi_wi, xr_wi, xt_wi, xl_wi, xn_wi, xs_wi, xi_wr, xr_wr, xt_wr, xl_wr, xn_wr, xs_wr, if_true, if_false, and_self, Int.reduceEq, Int.reduceLT, Int.reduceLE, Int.reduceNeg, Int.le_refl, Int.reduceMod]) R'
      · show (h2.wi 77 l (h1.i 77 l + 1)).i 77 l = _
        rw [r77, wm, List.length_append]
        simp only [true_and, and_true, false_and, and_false, forall_eq, forall_eq', xi_wi, xr_wi, xt_wi, xl_wi, xn_wi, xs_wi, xi_wr, xr_wr, xt_wr, xl_wr, xn_wr, xs_wr, if_true, if_false, and_self, Int.reduceEq, Int.reduceLT, Int.reduceLE, Int.reduceNeg, Int.le_refl, Int.reduceMod]
        rfl
      · have s78 : (h2.wi 77 l (h1.i 77 l + 1)).i 78 = h1.i 78 := by funext j; simp only [true_and, and_true, false_and, and_false, forall_eq, forall_eq', xi_wi, xr_wi, xt_wi, xl_wi, xn_wi, xs_wi, xi_wr, xr_wr, xt_wr, xl_wr, xn_wr, xs_wr, if_true, if_false, and_self, Int.reduceEq, Int.reduceLT, Int.reduceLE, Int.reduceNeg, Int.le_refl, Int.reduceMod]; rw [Fr_row F2 (c := 78) (by decide) (by decide)]
        have s79 : (h2.wi 77 l (h1.i 77 l + 1)).i 79 = h1.i 79 := by funext j; simp only [true_and, and_true, false_and, and_false, forall_eq, forall_eq', xi_wi, xr_wi, xt_wi, xl_wi, xn_wi, xs_wi, xi_wr, xr_wr, xt_wr, xl_wr, xn_wr, xs_wr, if_true, if_false, and_self, Int.reduceEq, Int.reduceLT, Int.reduceLE, Int.reduceNeg, Int.le_refl, Int.reduceMod]; rw [Fr_row F2 (c := 79) (by decide) (by decide)]
        have s80 : (h2.wi 77 l (h1.i 77 l + 1)).i 80 = h1.i 80 := by funext j; simp only [true_and, and_true, false_and, and_false, forall_eq, forall_eq', xi_wi, xr_wi, xt_wi, xl_wi, xn_wi, xs_wi, xi_wr, xr_wr, xt_wr, xl_wr, xn_wr, xs_wr, if_true, if_false, and_self, Int.reduceEq, Int.reduceLT, Int.reduceLE, Int.reduceNeg, Int.le_refl, Int.reduceMod]; rw [Fr_row F2 (c := 80) (by decide) (by decide)]
        refine RW_app hA (fun x hx => (okA x hx).2.1) okw.2.1 RW2 ?_ ?_ ?_ ?_
        · rw [s78]; exact q1
        · rw [s78]; exact q2
        · rw [s79]; exact q3
        · rw [s80]; exact q4
    · have e : RV (h2.wi 77 l (h1.i 77 l + 1)) k = RV h2 k := RV_row (by simp only [true_and, and_true, false_and, and_false, forall_eq, forall_eq', xi_wi, xr_wi, xt_wi, xl_wi, xn_wi, xs_wi, xi_wr, xr_wr, xt_wr, xl_wr, xn_wr, xs_wr, if_true, if_false, and_self, Int.reduceEq, Int.reduceLT, Int.reduceLE, Int.reduceNeg, Int.le_refl, Int.reduceMod]; rw [if_neg hk]) (by simp only [true_and, and_true, false_and, and_false, forall_eq, forall_eq', xi_wi, xr_wi, xt_wi, xl_wi, xn_wi, xs_wi, xi_wr, xr_wr, xt_wr, xl_wr, xn_wr, xs_wr, if_true, if_false, and_self, Int.reduceEq, Int.reduceLT, Int.reduceLE, Int.reduceNeg, Int.le_refl, Int.reduceMod]) (fun _ _ _ => by simp only [true_and, and_true, false_and, and_false, forall_eq, forall_eq', xi_wi, xr_wi, xt_wi, xl_wi, xn_wi, xs_wi, xi_wr, xr_wr, xt_wr, xl_wr, xn_wr, xs_wr, if_true, if_false, and_self, Int.reduceEq, Int.reduceLT, Int.reduceLE, Int.reduceNeg, Int.le_refl, Int.reduceMod]) (fun _ _ _ => by simp only [true_and, and_true, false_and, and_false, forall_eq, forall_eq', xi_wi, xr_wi, xt_wi, xl_wi, xn_wi, xs_wi, xi_wr, xr_wr, xt_wr, xl_wr, xn_wr, xs_wr, if_true, if_false, and_self, Int.reduceEq, Int.reduceLT, Int.reduceLE, Int.reduceNeg, Int.le_refl, Int.reduceMod]) (fun _ _ _ => by simp only [true_and, and_true, false_and, and_false, forall_eq, forall_eq', xi_wi, xr_wi, xt_wi, xl_wi, xn_wi, xs_wi, xi_wr, xr_wr, xt_wr, xl_wr, xn_wr, xs_wr, if_true, if_false, and_self, Int.reduceEq, Int.reduceLT, Int.reduceLE, Int.reduceNeg, Int.le_refl, Int.reduceMod]) (fun _ _ _ => by simp only [true_and, and_true, false_and, and_false, forall_eq, forall_eq', xi_wi, xr_wi, xt_wi, xl_wi, xn_wi, xs_wi, xi_wr, xr_wr, xt_wr, xl_wr, xn_wr, xs_wr, if_true, if_false, and_self, Int.reduceEq, Int.reduceLT, Int.reduceLE, Int.reduceNeg, Int.le_refl, Int.reduceMod]) (fun _ _ _ => by simp only [true_and, and_true, false_and, and_false, forall_eq, forall_eq', xi_wi, xr_wi, xt_wi, xl_wi, xn_wi, xs_wi, xi_wr, xr_wr, xt_wr, xl_wr, xn_wr, xs_wr, if_true, if_false, and_self, Int.reduceEq, Int.reduceLT, Int.reduceLE, Int.reduceNeg, Int.le_refl, Int.reduceMod]) (fun _ _ _ => by simp only [true_and, and_true, false_and, and_false, forall_eq, forall_eq', xi_wi, xr_wi, xt_wi, xl_wi, xn_wi, xs_wi, xi_wr, xr_wr, xt_wr, xl_wr, xn_wr, xs_wr, if_true, if_false, and_self, Int.reduceEq, Int.reduceLT, Int.reduceLE, Int.reduceNeg, Int.le_refl, Int.reduceMod]) (fun _ _ _ => by simp only [true_and, and_true, false_and, and_false, forall_eq, forall_eq', xi_wi, xr_wi, xt_wi, xl_wi, xn_wi, xs_wi, xi_wr, xr_wr, xt_wr, xl_wr, xn_wr, xs_wr, if_true, if_false, and_self, Int.reduceEq, Int.reduceLT, Int.reduceLE, Int.reduceNeg, Int.le_refl, Int.reduceMod]) (fun _ _ _ => by simp only [true_and, and_true, false_and, and_false, forall_eq, forall_eq', xi_wi, xr_wi, xt_wi, xl_wi, xn_wi, xs_wi, xi_wr, xr_wr, xt_wr, xl_wr, xn_wr, xs_wr, if_true, if_false, and_self, Int.reduceEq, Int.reduceLT, Int.reduceLE, Int.reduceNeg, Int.le_refl, Int.reduceMod]) (fun _ _ _ => by simp only [true_and, and_true, false_and, and_false, forall_eq, forall_eq', xi_wi, xr_wi, xt_wi, xl_wi, xn_wi, xs_wi, xi_wr, xr_wr, xt_wr, xl_wr, xn_wr, xs_wr, if_true, if_false, and_self, Int.reduceEq, Int.reduceLT, Int.reduceLE, Int.reduceNeg, Int.le_refl, Int.reduceMod]) (fun _ _ _ => by simp only [true_and, and_true, false_and, and_false, forall_eq, forall_eq', xi_wi, xr_wi, xt_wi, xl_wi, xn_wi, xs_wi, xi_wr, xr_wr, xt_wr, xl_wr, xn_wr, xs_wr, if_true, if_false, and_self, Int.reduceEq, Int.reduceLT, Int.reduceLE, Int.reduceNeg, Int.le_refl, Int.reduceMod])
      rw [e, rv2 k hk, rv1 k hk]
