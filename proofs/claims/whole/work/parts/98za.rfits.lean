/-! fits: the reference's changed line, its loop -/
def tpL : List Int := [77, 78, 79, 80, 81, 82, 83, 84, 85, 86, 87, 88, 65, 66, 67]
def ctW (L : List FS) (W : Int) (i : Nat) : Int := ((((L.take i).filter (fun r => decide (r.w = W))).length : Nat) : Int)
theorem ctW_s {L : List FS} {W : Int} {i : Nat} (hi : i < L.length) : ctW L W (i + 1) = ctW L W i + (if (L.getD i fs0).w = W then 1 else 0) := by
  have eg : L.getD i fs0 = L[i] := by rw [List.getD_eq_getElem?_getD, List.getElem?_eq_getElem hi]; rfl
  unfold ctW
  rw [List.take_succ_eq_append_getElem hi, List.filter_append, List.length_append, ← eg, List.filter_cons]
  by_cases c : (L.getD i fs0).w = W
  · rw [if_pos (decide_eq_true c), if_pos c]; push_cast; rfl
  · rw [if_neg (by rw [decide_eq_false c]; decide), if_neg c]; push_cast; rfl
theorem ctW_le (L : List FS) (W : Int) (i : Nat) : 0 ≤ ctW L W i ∧ ctW L W i ≤ ((L.length : Nat) : Int) := by
  unfold ctW
  have a := List.length_filter_le (fun r : FS => decide (r.w = W)) (L.take i)
  rw [List.length_take] at a
  omega
theorem ctW_all {ws : List Wd} {W : Nat} (hW : W < ws.length) : ctW (flat ws) (W : Int) (flat ws).length = (((ws.getD W wd0).2.2.length : Nat) : Int) := by
  have z := ofW_flatF ws 0 W 0 hW
  rw [Int.zero_add] at z
  have a := congrArg List.length z
  unfold ofW at a
  rw [List.length_map, fsyl_len] at a
  unfold ctW
  rw [List.take_length]
  exact congrArg (fun n : Nat => (n : Int)) a
section TP
variable {d : Nat} {Q : Int → xH → Prop} {ws : List Wd} {W : Nat} {P V : Int → Int} {D : List Int} {Lp : List (Int × Int)} {v : Int}
def BkRow (h : xH) (v : Int) (D : List Int) (Lp : List (Int × Int)) : Prop := h.i 69 v = (((D.length : Nat)) : Int) ∧ h.i 70 v = ((Lp.length : Nat) : Int) ∧ (∀ j : Nat, j < D.length → h.i 68 (16 * v + j) = D.getD j 0) ∧ ∀ j : Nat, j < Lp.length → h.i 71 (16 * v + j) = (Lp.getD j (0, 0)).1 ∧ h.i 72 (16 * v + j) = (Lp.getD j (0, 0)).2
theorem BkRow_fr {h h' : xH} (F : Fr tpL asS h h') (B : BkRow h v D Lp) : BkRow h' v D Lp := by
  unfold BkRow
  rw [Fr_row F (c := 69) (by decide) (by decide), Fr_row F (c := 70) (by decide) (by decide), Fr_row F (c := 68) (by decide) (by decide), Fr_row F (c := 71) (by decide) (by decide), Fr_row F (c := 72) (by decide) (by decide)]
  exact B
theorem set_take {w : Wd} (hW : W < ws.length) {j : Nat} (hj : j < ws.length) : (ws.set W w).take (j + 1) = (ws.set W w).take j ++ [if j = W then w else ws.getD j wd0] := by
  have hj' : j < (ws.set W w).length := by rw [List.length_set]; exact hj
  rw [List.take_succ_eq_append_getElem hj', List.getElem_set]
  by_cases c : W = j
  · rw [if_pos c, if_pos c.symm]
  · rw [if_neg c, if_neg (fun z => c z.symm), List.getD_eq_getElem?_getD, List.getElem?_eq_getElem hj]; rfl
theorem c_R_tp51 (hV : bits26 V) (lc : ∀ c ∈ D, 97 ≤ c ∧ c ≤ 122) (d16 : D.length ≤ 16) (l16 : Lp.length ≤ 16) (pt : PtOk D 0 Lp) (v0 : 0 ≤ v) (v1 : v < 40) (ok : LnOk ws) (hW : W < ws.length) (okS : LnOk (ws.set W (D, 1, mkSy P V D 0 Lp))) : ∀ (m j : Nat) (h : xH) (u3 u5 : xV), j + m = ws.length → SR h → RLang h P V → BkRow h v D Lp → RLn (RV h 0) ws → RLn (RV h 13) ((ws.set W (D, 1, mkSy P V D 0 Lp)).take j) → (∀ h', Fr tpL asS h h' → RLn (RV h' 13) (ws.set W (D, 1, mkSy P V D 0 Lp)) → (∀ k, k ≠ 13 → RV h' k = RV h k) → Q 1 h') → xT (d + 4) M_R_takesPlace 51 [(1, 59), (0, (W : Int)), (0, v), u3, (0, (j : Int)), u5] [] h (xqi Q) := by
  intro m
  induction m with
  | zero =>
    intro j h u3 u5 hj S RL_ B R0 R13 H
    have g : h.tag 59 = 12 ∧ h.r 59 22 = 77 ∧ h.tag 77 = 20 ∧ h.len 77 = 15 := by simp only [srt S, srl S, srf S, true_and, and_true, false_and, and_false, forall_eq, forall_eq', xi_wi, xr_wi, xt_wi, xl_wi, xn_wi, xs_wi, xi_wr, xr_wr, xt_wr, xl_wr, xn_wr, xs_wr, if_true, if_false, and_self, Int.reduceEq, Int.reduceLT, Int.reduceLE, Int.reduceNeg, Int.le_refl, Int.reduceMod]
    have e77 : h.i 77 0 = ((ws.length : Nat) : Int) := R0.2.1
    apply L_R_takesPlace_51
    rw [g.2.1, g.2.2.2, e77]
    refine ⟨g.1, ⟨g.2.2.1, by decide, by decide⟩, ?_⟩
    rw [if_neg (by omega)]
    refine H h (Fr_refl _ _ _) ?_ (fun k _ => rfl)
    rw [List.take_of_length_le (by rw [List.length_set]; omega)] at R13
    exact R13
  | succ m ih =>
    intro j h u3 u5 hj S RL_ B R0 R13 H
    have hjl : j < ws.length := by omega
    have o1 := ok.1
    have g : h.tag 59 = 12 ∧ h.r 59 22 = 77 ∧ h.tag 77 = 20 ∧ h.len 77 = 15 := by simp only [srt S, srl S, srf S, true_and, and_true, false_and, and_false, forall_eq, forall_eq', xi_wi, xr_wi, xt_wi, xl_wi, xn_wi, xs_wi, xi_wr, xr_wr, xt_wr, xl_wr, xn_wr, xs_wr, if_true, if_false, and_self, Int.reduceEq, Int.reduceLT, Int.reduceLE, Int.reduceNeg, Int.le_refl, Int.reduceMod]
    have e77 : h.i 77 0 = ((ws.length : Nat) : Int) := R0.2.1
    have sT := set_take (w := (D, 1, mkSy P V D 0 Lp)) hW hjl
    have okA : ∀ x ∈ (ws.set W (D, 1, mkSy P V D 0 Lp)).take j, WdOk x := fun x m => okS.2.2 x (List.mem_of_mem_take m)
    have lA : ((ws.set W (D, 1, mkSy P V D 0 Lp)).take j).length = j := by rw [List.length_take, List.length_set]; omega
    have f40 := flat_take_le (ws.set W (D, 1, mkSy P V D 0 Lp)) (j + 1)
    have oS := okS.2.1
    apply L_R_takesPlace_51
    rw [g.2.1, g.2.2.2, e77]
    refine ⟨g.1, ⟨g.2.2.1, by decide, by decide⟩, ?_⟩
    rw [if_pos (by omega)]
    have nx : ∀ x : Int, x = xw ((j : Int) + 1) → x = ((j + 1 : Nat) : Int) := fun x e => by rw [e, xw_id (by omega) (by omega)]; push_cast; rfl
    by_cases c : j = W
    · rw [if_pos (by omega)]
      rw [if_pos c] at sT
      rw [sT] at f40
      have fl : (flat ((ws.set W (D, 1, mkSy P V D 0 Lp)).take j)).length + Lp.length ≤ 40 := by
        rw [flat_app, List.length_append, fsyl_len, mkSy_len] at f40
        omega
      refine c_R_addWord (d := d) S RL_ hV (by decide) (by decide) v0 v1 R13 okA (by rw [lA]; omega) lc d16 l16 pt B.1 B.2.1 B.2.2.1 B.2.2.2 fl (fun h1 F1 R1 rv1 x1 e1 => ?_)
      rw [nx x1 e1]
      have F1' : Fr tpL asS h h1 := Fr_mono F1 (by decide) (fun c m => m)
      refine ih (j + 1) h1 _ _ (by omega) (SR_2 F1.1 S) (RLang_row (Fr_row F1' (by decide) (by decide)) (Fr_row F1' (by decide) (by decide)) (Fr_row F1' (by decide) (by decide)) (Fr_row F1' (by decide) (by decide)) (F1'.2 59 6 (by decide) (by decide)) RL_) (BkRow_fr F1' B) (by rw [rv1 0 (by decide)]; exact R0) (by rw [sT]; exact R1) (fun h' F R rv => H h' (Fr_trans F1' F) R (fun k hk => (rv k hk).trans (rv1 k hk)))
    · rw [if_neg (by omega)]
      rw [if_neg c] at sT
      rw [sT] at f40
      refine c_R_copyWord (d := d + 2) S (by decide) (by decide) (by decide) (by decide) (by decide) ok R0 okA (by rw [lA]; omega) R13 hjl (by omega) (fun h1 F1 R1 rv1 x1 e1 => ?_)
      rw [nx x1 e1]
      have F1' : Fr tpL asS h h1 := Fr_mono F1 (by decide) (fun c m => absurd m List.not_mem_nil)
      refine ih (j + 1) h1 _ _ (by omega) (SR_2 F1.1 S) (RLang_row (Fr_row F1' (by decide) (by decide)) (Fr_row F1' (by decide) (by decide)) (Fr_row F1' (by decide) (by decide)) (Fr_row F1' (by decide) (by decide)) (F1'.2 59 6 (by decide) (by decide)) RL_) (BkRow_fr F1' B) (by rw [rv1 0 (by decide)]; exact R0) (by rw [sT]; exact R1) (fun h' F R rv => H h' (Fr_trans F1' F) R (fun k hk => (rv k hk).trans (rv1 k hk)))
theorem c_R_tp14 {u5 : xV} {h : xH} {mn : Int} (S : SR h) (ok : LnOk ws) (hW : W < ws.length) (R0 : RLn (RV h 0) ws) (v0 : 0 ≤ v) (v1 : v < 40) (em : h.i 70 v = mn) (m0 : 0 ≤ mn) (m1 : mn ≤ 16) (H1 : ((flat ws).length : Int) - (((ws.getD W wd0).2.2.length : Nat) : Int) + mn ≤ 40 → ∀ u3 u5, xT (d + 4) M_R_takesPlace 51 [(1, 59), (0, (W : Int)), (0, v), u3, (0, 0), u5] [] h (xqi Q)) (H0 : 40 < ((flat ws).length : Int) - (((ws.getD W wd0).2.2.length : Nat) : Int) + mn → Q 0 h) : ∀ (m i : Nat) , i + m = (flat ws).length → xT (d + 4) M_R_takesPlace 14 [(1, 59), (0, (W : Int)), (0, v), (0, ctW (flat ws) (W : Int) i), (0, (i : Int)), u5] [] h (xqi Q) := by
  have g : h.tag 59 = 12 ∧ h.r 59 26 = 81 ∧ h.tag 81 = 20 ∧ h.len 81 = 15 ∧ h.r 59 27 = 82 ∧ h.tag 82 = 20 ∧ h.len 82 = 600 ∧ h.r 59 13 = 70 ∧ h.tag 70 = 20 ∧ h.len 70 = 40 := by simp only [srt S, srl S, srf S, true_and, and_true, false_and, and_false, forall_eq, forall_eq', xi_wi, xr_wi, xt_wi, xl_wi, xn_wi, xs_wi, xi_wr, xr_wr, xt_wr, xl_wr, xn_wr, xs_wr, if_true, if_false, and_self, Int.reduceEq, Int.reduceLT, Int.reduceLE, Int.reduceNeg, Int.le_refl, Int.reduceMod]
  obtain ⟨g1, g2, g3, g4, g5, g6, g7, g8, g9, g10⟩ := g
  have e81 : h.i 81 0 = (((flat ws).length : Nat) : Int) := R0.1
  have o2 := ok.2.1
  intro m
  induction m with
  | zero =>
    intro i hi
    have ei : i = (flat ws).length := by omega
    subst ei
    have cl := ctW_le (flat ws) (W : Int) (flat ws).length
    rw [ctW_all hW] at cl ⊢
    apply L_R_takesPlace_14
    rw [g2, g4, e81, g8, g10, em]
    refine ⟨g1, ⟨g3, by decide, by decide⟩, ?_⟩
    rw [if_neg (by omega)]
    refine ⟨⟨g3, by decide, by decide⟩, ⟨g9, v0, v1⟩, ?_⟩
    rw [xw_id (a := (((flat ws).length : Nat) : Int) - (((ws.getD W wd0).2.2.length : Nat) : Int)) (by omega) (by omega), xw_id (by omega) (by omega)]
    by_cases c : 40 < (((flat ws).length : Nat) : Int) - (((ws.getD W wd0).2.2.length : Nat) : Int) + mn
    · rw [if_pos c]; exact H0 c
    · rw [if_neg c]; exact H1 (by omega) _ _
  | succ m ih =>
    intro i hi
    have il : i < (flat ws).length := by omega
    have cl := ctW_le (flat ws) (W : Int) i
    have z := (rln_syl ok R0 il).1
    rw [show 40 * (0 : Int) + (i : Int) = (i : Int) by omega] at z
    have n := ih (i + 1) (by omega)
    rw [ctW_s il] at n
    apply L_R_takesPlace_14
    rw [g2, g4, e81, g5, g7, z]
    refine ⟨g1, ⟨g3, by decide, by decide⟩, ?_⟩
    rw [if_pos (by omega)]
    refine ⟨⟨g6, by omega, by omega⟩, ?_⟩
    by_cases c : ((flat ws).getD i fs0).w = (W : Int)
    · rw [if_pos c]
      rw [if_pos c] at n
      intro x1 e1 x2 e2
      rw [xw_id (by omega) (by omega)] at e1 e2
      rw [e1, e2]
      push_cast at n
      exact n
    · rw [if_neg c]
      rw [if_neg c] at n
      intro x1 e1 x2 e2
      rw [xw_id (by omega) (by omega)] at e1 e2
      rw [e1, e2]
      push_cast at n
      exact n
theorem c_R_takesPlace {h : xH} (S : SR h) (RL_ : RLang h P V) (hV : bits26 V) (lc : ∀ c ∈ D, 97 ≤ c ∧ c ≤ 122) (d16 : D.length ≤ 16) (l16 : Lp.length ≤ 16) (pt : PtOk D 0 Lp) (v0 : 0 ≤ v) (v1 : v < 40) (ok : LnOk ws) (hW : W < ws.length) (B : BkRow h v D Lp) (R0 : RLn (RV h 0) ws) (okS : (flat (ws.set W (D, 1, mkSy P V D 0 Lp))).length ≤ 40 → LnOk (ws.set W (D, 1, mkSy P V D 0 Lp))) (H1 : (flat (ws.set W (D, 1, mkSy P V D 0 Lp))).length ≤ 40 → ∀ h', Fr tpL asS h h' → RLn (RV h' 13) (ws.set W (D, 1, mkSy P V D 0 Lp)) → (∀ k, k ≠ 13 → RV h' k = RV h k) → Q 1 h') (H0 : 40 < (flat (ws.set W (D, 1, mkSy P V D 0 Lp))).length → ∀ h', Fr tpL asS h h' → (∀ k, k ≠ 13 → RV h' k = RV h k) → Q 0 h') : xCi (d + 5) M_R_takesPlace [(1, 59), (0, (W : Int)), (0, v)] h Q := by
  have g : h.tag 59 = 12 ∧ h.r 59 22 = 77 ∧ h.tag 77 = 20 ∧ h.len 77 = 15 ∧ h.r 59 26 = 81 ∧ h.tag 81 = 20 ∧ h.len 81 = 15 := by simp only [srt S, srl S, srf S, true_and, and_true, false_and, and_false, forall_eq, forall_eq', xi_wi, xr_wi, xt_wi, xl_wi, xn_wi, xs_wi, xi_wr, xr_wr, xt_wr, xl_wr, xn_wr, xs_wr, if_true, if_false, and_self, Int.reduceEq, Int.reduceLT, Int.reduceLE, Int.reduceNeg, Int.le_refl, Int.reduceMod]
  have sp := ws_splitW ok.2.2 hW (D, 1, mkSy P V D 0 Lp)
  have eN : (((flat (ws.set W (D, 1, mkSy P V D 0 Lp))).length : Nat) : Int) = ((flat ws).length : Int) - (((ws.getD W wd0).2.2.length : Nat) : Int) + ((Lp.length : Nat) : Int) := by
    have a := congrArg List.length sp.1
    have b := congrArg List.length sp.2.2.1
    rw [List.length_append, List.length_append, fsyl_len] at a b
    have c : ((D, (1 : Int), mkSy P V D 0 Lp) : Wd).2.2.length = Lp.length := mkSy_len _ _ _ _ _
    rw [c] at b
    omega
  apply L_R_takesPlace
  rw [g.2.1, g.2.2.2.1]
  refine ⟨g.1, ⟨g.2.2.1, by decide, by decide⟩, fun h1 e1 => ?_⟩
  have q : h1.tag = h.tag ∧ h1.r = h.r ∧ h1.len = h.len := by rw [e1]; exact ⟨rfl, rfl, rfl⟩
  rw [q.1, q.2.1, q.2.2, g.2.2.2.2.1, g.2.2.2.2.2.2]
  refine ⟨g.1, ⟨g.2.2.2.2.2.1, by decide, by decide⟩, fun h2 e2 => ?_⟩
  have F2 : Fr tpL asS h h2 := by rw [e2, e1]; exact Fr_cell (Fr_cell (Fr_refl _ _ _) _ _ (by decide)) _ _ (by decide)
  have S2 := SR_2 F2.1 S
  have rv2 : ∀ k, k ≠ 13 → RV h2 k = RV h k := fun k hk => by
    rw [e2, e1]
    exact RV_row (by simp only [true_and, and_true, false_and, and_false, forall_eq, forall_eq', xi_wi, xr_wi, xt_wi, xl_wi, xn_wi, xs_wi, xi_wr, xr_wr, xt_wr, xl_wr, xn_wr, xs_wr, if_true, if_false, and_self, Int.reduceEq, Int.reduceLT, Int.reduceLE, Int.reduceNeg, Int.le_refl, Int.reduceMod]; rw [if_neg hk]) (by simp only [true_and, and_true, false_and, and_false, forall_eq, forall_eq', xi_wi, xr_wi, xt_wi, xl_wi, xn_wi, xs_wi, xi_wr, xr_wr, xt_wr, xl_wr, xn_wr, xs_wr, if_true, if_false, and_self, Int.reduceEq, Int.reduceLT, Int.reduceLE, Int.reduceNeg, Int.le_refl, Int.reduceMod]; rw [if_neg hk]) (fun _ _ _ => by simp only [true_and, and_true, false_and, and_false, forall_eq, forall_eq', xi_wi, xr_wi, xt_wi, xl_wi, xn_wi, xs_wi, xi_wr, xr_wr, xt_wr, xl_wr, xn_wr, xs_wr, if_true, if_false, and_self, Int.reduceEq, Int.reduceLT, Int.reduceLE, Int.reduceNeg, Int.le_refl, Int.reduceMod]) (fun _ _ _ => by simp only [true_and, and_true, false_and, and_false, forall_eq, forall_eq', xi_wi, xr_wi, xt_wi, xl_wi, xn_wi, xs_wi, xi_wr, xr_wr, xt_wr, xl_wr, xn_wr, xs_wr, if_true, if_false, and_self, Int.reduceEq, Int.reduceLT, Int.reduceLE, Int.reduceNeg, Int.le_refl, Int.reduceMod]) (fun _ _ _ => by simp only [true_and, and_true, false_and, and_false, forall_eq, forall_eq', xi_wi, xr_wi, xt_wi, xl_wi, xn_wi, xs_wi, xi_wr, xr_wr, xt_wr, xl_wr, xn_wr, xs_wr, if_true, if_false, and_self, Int.reduceEq, Int.reduceLT, Int.reduceLE, Int.reduceNeg, Int.le_refl, Int.reduceMod]) (fun _ _ _ => by simp only [true_and, and_true, false_and, and_false, forall_eq, forall_eq', xi_wi, xr_wi, xt_wi, xl_wi, xn_wi, xs_wi, xi_wr, xr_wr, xt_wr, xl_wr, xn_wr, xs_wr, if_true, if_false, and_self, Int.reduceEq, Int.reduceLT, Int.reduceLE, Int.reduceNeg, Int.le_refl, Int.reduceMod]) (fun _ _ _ => by simp only [true_and, and_true, false_and, and_false, forall_eq, forall_eq', xi_wi, xr_wi, xt_wi, xl_wi, xn_wi, xs_wi, xi_wr, xr_wr, xt_wr, xl_wr, xn_wr, xs_wr, if_true, if_false, and_self, Int.reduceEq, Int.reduceLT, Int.reduceLE, Int.reduceNeg, Int.le_refl, Int.reduceMod]) (fun _ _ _ => by simp only [true_and, and_true, false_and, and_false, forall_eq, forall_eq', xi_wi, xr_wi, xt_wi, xl_wi, xn_wi, xs_wi, xi_wr, xr_wr, xt_wr, xl_wr, xn_wr, xs_wr, if_true, if_false, and_self, Int.reduceEq, Int.reduceLT, Int.reduceLE, Int.reduceNeg, Int.le_refl, Int.reduceMod]) (fun _ _ _ => by simp only [true_and, and_true, false_and, and_false, forall_eq, forall_eq', xi_wi, xr_wi, xt_wi, xl_wi, xn_wi, xs_wi, xi_wr, xr_wr, xt_wr, xl_wr, xn_wr, xs_wr, if_true, if_false, and_self, Int.reduceEq, Int.reduceLT, Int.reduceLE, Int.reduceNeg, Int.le_refl, Int.reduceMod]) (fun _ _ _ => by simp only [true_and, and_true, false_and, and_false, forall_eq, forall_eq', xi_wi, xr_wi, xt_wi, xl_wi, xn_wi, xs_wi, xi_wr, xr_wr, xt_wr, xl_wr, xn_wr, xs_wr, if_true, if_false, and_self, Int.reduceEq, Int.reduceLT, Int.reduceLE, Int.reduceNeg, Int.le_refl, Int.reduceMod]) (fun _ _ _ => by simp only [true_and, and_true, false_and, and_false, forall_eq, forall_eq', xi_wi, xr_wi, xt_wi, xl_wi, xn_wi, xs_wi, xi_wr, xr_wr, xt_wr, xl_wr, xn_wr, xs_wr, if_true, if_false, and_self, Int.reduceEq, Int.reduceLT, Int.reduceLE, Int.reduceNeg, Int.le_refl, Int.reduceMod]) (fun _ _ _ => by simp only [true_and, and_true, false_and, and_false, forall_eq, forall_eq', xi_wi, xr_wi, xt_wi, xl_wi, xn_wi, xs_wi, xi_wr, xr_wr, xt_wr, xl_wr, xn_wr, xs_wr, if_true, if_false, and_self, Int.reduceEq, Int.reduceLT, Int.reduceLE, Int.reduceNeg, Int.le_refl, Int.reduceMod])
  have m77 : h2.i 77 13 = 0 := by rw [e2, e1]; simp only [true_and, and_true, false_and, and_false, forall_eq, forall_eq', xi_wi, xr_wi, xt_wi, xl_wi, xn_wi, xs_wi, xi_wr, xr_wr, xt_wr, xl_wr, xn_wr, xs_wr, if_true, if_false, and_self, Int.reduceEq, Int.reduceLT, Int.reduceLE, Int.reduceNeg, Int.le_refl, Int.reduceMod]
  have m81 : h2.i 81 13 = 0 := by rw [e2]; simp only [true_and, and_true, false_and, and_false, forall_eq, forall_eq', xi_wi, xr_wi, xt_wi, xl_wi, xn_wi, xs_wi, xi_wr, xr_wr, xt_wr, xl_wr, xn_wr, xs_wr, if_true, if_false, and_self, Int.reduceEq, Int.reduceLT, Int.reduceLE, Int.reduceNeg, Int.le_refl, Int.reduceMod]
  have R13 : RLn (RV h2 13) [] := ⟨m81, m77, fun i hi => absurd hi (Nat.not_lt_zero _), fun i hi => absurd hi (Nat.not_lt_zero _)⟩
  clear e2 e1 q
  have R02 : RLn (RV h2 0) ws := by rw [rv2 0 (by decide)]; exact R0
  have B2 := BkRow_fr F2 B
  have RL2 := RLang_row (h' := h2) (Fr_row F2 (by decide) (by decide)) (Fr_row F2 (by decide) (by decide)) (Fr_row F2 (by decide) (by decide)) (Fr_row F2 (by decide) (by decide)) (F2.2 59 6 (by decide) (by decide)) RL_
  have key := c_R_tp14 (d := d) (Q := Q) (W := W) (v := v) (u5 := (9, 0)) S2 ok hW R02 v0 v1 B2.2.1 (by omega) (by omega) (fun le u3 u5 => ?_) (fun gt => H0 (by omega) h2 F2 rv2) (flat ws).length 0 (Nat.zero_add _)
  · exact key
  · have le : (flat (ws.set W (D, 1, mkSy P V D 0 Lp))).length ≤ 40 := by omega
    exact c_R_tp51 (d := d) hV lc d16 l16 pt v0 v1 ok hW (okS le) ws.length 0 h2 u3 u5 (Nat.zero_add _) S2 RL2 B2 R02 (by rw [List.take_zero]; exact R13) (fun h' F R rv => H1 le h' (Fr_trans F2 F) R (fun k hk => (rv k hk).trans (rv2 k hk)))
end TP
