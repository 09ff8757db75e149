/-! judge: the class weighs a line on a place -/
theorem fJ_snoc (D : JD) {on : List Int} {v x : Int} : ∀ (n j : Nat), j + n = on.length → fJ D (on ++ [v]) x (n + 1) j = if fJ D on x n j ≠ -1 then fJ D on x n j else if v ≠ -1 ∧ D.L on.length = x then v else -1 := by
  intro n
  induction n with
  | zero =>
    intro j hj
    have e : j = on.length := by omega
    subst e
    have g : (on ++ [v]).getD on.length (-1) = v := by
      rw [getD_app_r _ (Nat.le_refl _), Nat.sub_self]; rfl
    rw [fJ, fJ, g, if_neg (show ¬ ((-1 : Int) ≠ -1) from fun y => y rfl)]
    rfl
  | succ n ih =>
    intro j hj
    have g : (on ++ [v]).getD j (-1) = on.getD j (-1) := getD_app_l _ (by omega)
    rw [fJ, g, ih (j + 1) (by omega)]
    have e : fJ D on x (n + 1) j = if on.getD j (-1) ≠ -1 ∧ D.L j = x then on.getD j (-1) else fJ D on x n (j + 1) := by rw [fJ]
    rw [e]
    by_cases c : on.getD j (-1) ≠ -1 ∧ D.L j = x
    · rw [if_pos c, if_pos c, if_pos c.1]
    · rw [if_neg c, if_neg c]
/-- what may lie on a place -/
def onV (t : Nat → Bool) (x : Int) : Prop := x = -1 ∨ (0 ≤ x ∧ x < 12 ∧ t x.toNat = true)
theorem fJ_on (D : JD) {t : Nat → Bool} {on : List Int} {x : Int} (b : ∀ j, onV t (on.getD j (-1))) : ∀ (n j : Nat), onV t (fJ D on x n j) := by
  intro n
  induction n with
  | zero => intro j; rw [fJ]; exact Or.inl rfl
  | succ n ih =>
    intro j
    rw [fJ]
    split
    · exact b j
    · exact ih (j + 1)
theorem onV_get {t : Nat → Bool} {on : List Int} (b : ∀ x ∈ on, onV t x) (j : Nat) : onV t (on.getD j (-1)) := by
  by_cases c : j < on.length
  · exact b _ (getD_mem _ c)
  · rw [List.getD_eq_getElem?_getD, List.getElem?_eq_none (by omega)]
    exact Or.inl rfl
/-- the poem form, both sides -/
def PlI (h0 : xH) (P m : Nat) : Prop := h0.i 48 9 = (P : Int) ∧ h0.i 59 74 = (P : Int) ∧ P ≤ 12 ∧ (∀ i : Nat, i < P → h0.i 50 (i : Int) = h0.i 118 (i : Int) ∧ 0 ≤ h0.i 118 (i : Int) ∧ h0.i 118 (i : Int) < 8 ∧ h0.i 51 (i : Int) = h0.i 119 (i : Int) ∧ -1 ≤ h0.i 119 (i : Int) ∧ h0.i 119 (i : Int) ≤ 5 ∧ h0.i 52 (i : Int) = h0.i 120 (i : Int) ∧ -1 ≤ h0.i 120 (i : Int) ∧ h0.i 120 (i : Int) < (i : Int) ∧ 0 ≤ h0.i 121 (i : Int) ∧ h0.i 121 (i : Int) ≤ 1) ∧ h0.i 48 8 = (m : Int) ∧ m < 4096 ∧ (∀ k : Nat, k < 12 → (m : Int) / 2 ^ k % 2 = if k < P then h0.i 121 (k : Int) else 0) ∧ sumN (fun k => (m : Int) / 2 ^ k.toNat % 2) 12 ≤ 6
theorem PlI_of {h0 : xH} (I : I_place h0) : ∃ P m, PlI h0 P m := by
  obtain ⟨a1, a2, a3, a4, a5, a6, a7, a8⟩ := I
  refine ⟨(h0.i 59 74).toNat, (h0.i 48 8).toNat, ?_⟩
  have eP : ((h0.i 59 74).toNat : Int) = h0.i 59 74 := Int.toNat_of_nonneg a2
  have eM : ((h0.i 48 8).toNat : Int) = h0.i 48 8 := Int.toNat_of_nonneg a5
  refine ⟨by rw [eP]; exact a1, eP.symm, by omega, fun i hi => ?_, eM.symm, by omega, fun k hk => ?_, by rw [eM]; exact a8⟩
  · have := a4 (i : Int) (by omega) (by omega)
    exact this
  · rw [eM, a7 k hk]
    by_cases c : k < (h0.i 59 74).toNat
    · rw [if_pos c, if_pos (by omega)]
    · rw [if_neg c, if_neg (by omega)]
section JW
variable {n0 : Nat} {h0 : xH} {t : Nat → Bool} {W : Nat → List Wd} {d : Nat} {Q : xH → Prop} {m P : Nat}
theorem LO_k {h : xH} (P' : XPo h t W) {k : Nat} (hk : k < 12) (tk : t k = true) : h.r 49 (k : Int) ≠ 0 ∧ LnOk (W k) ∧ 1 ≤ (W k).length ∧ LineO h (h.r 49 (k : Int)) (W k) := by
  have p := P' k hk
  have q := p.2 tk
  exact ⟨p.1.mp tk, q.1, q.2.1, q.2.2.1, q.2.2.2.1, q.2.2.2.2.1⟩
theorem c_X_w71 (n130 : 130 ≤ h0.nx) (ht0 : I_tab h0) (P0 : XPo h0 t W) (PL : PlI h0 P m) {h : xH} {i k : Nat} {on : List Int} (J : JI h0 h) (hi : i < P) (hk : k < 12) (tk : t k = true) (rows : ∀ j : Nat, j < i → h.i 54 (j : Int) = on.getD j (-1)) (onb : ∀ j, onV t (on.getD j (-1))) (f0 : 0 ≤ h.i 48 12) (f1 : h.i 48 12 ≤ 1000) (H : ∀ h', Fr [] [(48, 12)] h h' → h'.i 48 12 = h.i 48 12 + agV (jD h0 t W) on i k → Q h') {u3 u4 u5 u6 u7 : xV} : xT (d + 4) M_Poem_weighLine 71 [(1, 48), (0, (i : Int)), (0, (k : Int)), u3, u4, u5, u6, u7] [] h (xqv Q) := by
  have SX_ := J.2.2.2.1
  have g : h.tag 48 = 6 ∧ h.r 48 7 = 52 ∧ h.tag 52 = 20 ∧ h.len 52 = 12 ∧ h.r 48 11 = 54 ∧ h.tag 54 = 20 ∧ h.len 54 = 12 := by simp only [sxt SX_, sxl SX_, sxf SX_, true_and, and_true, false_and, and_false, forall_eq, forall_eq', xi_wi, xr_wi, xt_wi, xl_wi, xn_wi, xs_wi, xi_wr, xr_wr, xt_wr, xl_wr, xn_wr, xs_wr, if_true, if_false, and_self, Int.reduceEq, Int.reduceLT, Int.reduceLE, Int.reduceNeg, Int.le_refl, Int.reduceMod]
  obtain ⟨g1, g2, g3, g4, g5, g6, g7⟩ := g
  have P12 := PL.2.2.1
  have pl := PL.2.2.2.1 i hi
  have Ph := XPo_j J n130 P0
  have r52 : h.i 52 (i : Int) = h0.i 120 (i : Int) := by
    rw [jrow J n130 ht0 (c := 52) (by decide) (by decide) (by decide) (by decide)]; exact pl.2.2.2.2.2.2.1
  have eA : (jD h0 t W).A i = h0.i 120 (i : Int) := rfl
  have a0 := pl.2.2.2.2.2.2.2.1
  have a1 := pl.2.2.2.2.2.2.2.2.1
  generalize eAv : h0.i 120 (i : Int) = A at r52 eA a0 a1
  have yes : agV (jD h0 t W) on i k = 1 → ∀ h1, h1 = h.wi 48 12 (xw (h.i 48 12 + 1)) → Q h1 := fun e h1 e1 => by
    rw [xw_id (by omega) (by omega)] at e1
    refine H h1 (by rw [e1]; exact Fr_slot (Fr_refl _ _ _) _ (by decide)) ?_
    rw [e1, xi_wi, if_pos ⟨rfl, rfl⟩, e]
  apply L_Poem_weighLine_71
  rw [g2, g4, r52]
  refine ⟨g1, ⟨g3, by omega, by omega⟩, fun x1 ex => ?_⟩
  rw [ex]
  by_cases c : A < 0
  · rw [if_pos c]
    refine H h (Fr_refl _ _ _) ?_
    have no : ¬ (A ≠ -1 ∧ (on.getD A.toNat (-1) = -1 ∨ (jD h0 t W).sw (on.getD A.toNat (-1)).toNat k = false)) := fun z => z.1 (by omega)
    unfold agV
    rw [eA, if_neg no, Int.add_zero]
  · rw [if_neg c, if_pos a1]
    refine c_X_lineK (d := d + 3) SX_ hk ?_
    have eR := rows A.toNat (by omega)
    rw [show ((A.toNat : Nat) : Int) = A by omega] at eR
    rw [g5, g7, eR]
    refine ⟨g1, ⟨g6, by omega, by omega⟩, ?_⟩
    have ob := onb A.toNat
    have eG : agV (jD h0 t W) on i k = if A ≠ -1 ∧ (on.getD A.toNat (-1) = -1 ∨ (jD h0 t W).sw (on.getD A.toNat (-1)).toNat k = false) then 1 else 0 := by
      unfold agV
      rw [eA]
    generalize on.getD A.toNat (-1) = v at ob eG ⊢
    have lk := LO_k Ph hk tk
    refine c_X_lineAt (d := d + 3) SX_ ?_
    refine ⟨g1, ?_⟩
    rcases ob with ob | ob
    · rw [if_neg (show ¬ (0 ≤ v ∧ v ≤ 11) by omega), if_pos rfl]
      exact yes (by rw [eG, if_pos ⟨by omega, Or.inl ob⟩])
    · obtain ⟨o0, o1, o2⟩ := ob
      have hv : ((v.toNat : Nat) : Int) = v := by omega
      have lv := LO_k Ph (k := v.toNat) (by omega) o2
      rw [hv] at lv
      rw [if_pos (show 0 ≤ v ∧ v ≤ 11 by omega), if_neg lv.1, if_neg lk.1]
      have eS : (jD h0 t W).sw v.toNat k = decide ((W v.toNat).map (fun d => d.1) = (W k).map (fun d => d.1)) := rfl
      refine ⟨lk.2.2.2.1.2.2.1, ?_⟩
      refine c_X_sameWords (d := d + 1) lk.2.1 lv.2.1 lk.2.2.2 lv.2.2.2 (fun e => ?_) (fun e => ?_)
      · rw [if_neg (by decide)]
        refine ⟨g1, fun h7 e7 => ?_⟩
        rw [xw_id (a := h.i 48 12 + 0) (by omega) (by omega), Int.add_zero] at e7
        refine H h7 (by rw [e7]; exact Fr_slot (Fr_refl _ _ _) _ (by decide)) ?_
        have e' : (W v.toNat).map (fun d => d.1) = (W k).map (fun d => d.1) := Eq.symm e
        have no : ¬ (A ≠ -1 ∧ (v = -1 ∨ (jD h0 t W).sw v.toNat k = false)) := fun z => by
          rcases z.2 with y | y
          · omega
          · rw [eS, decide_eq_true e'] at y; exact absurd y (by decide)
        rw [e7, xi_wi, if_pos ⟨rfl, rfl⟩, eG, if_neg no, Int.add_zero]
      · rw [if_pos rfl]
        refine ⟨g1, ?_⟩
        refine yes ?_
        have no : (jD h0 t W).sw v.toNat k = false := by
          rw [eS]
          exact decide_eq_false (fun z => e (Eq.symm z))
        rw [eG, if_pos ⟨by omega, Or.inr no⟩]
theorem c_X_w32 (n130 : 130 ≤ h0.nx) (ht0 : I_tab h0) (P0 : XPo h0 t W) (PL : PlI h0 P m) {h : xH} {i k : Nat} {s2 : Int} {on : List Int} (J : JI h0 h) (hi : i < P) (lo : on.length = i) (hk : k < 12) (tk : t k = true) (rows : ∀ j : Nat, j < i → h.i 54 (j : Int) = on.getD j (-1)) (onb : ∀ j, onV t (on.getD j (-1))) (fst : ∀ x : Int, 0 ≤ x → x < 6 → h.i 56 x = fJ (jD h0 t W) on x i 0) (f0 : 0 ≤ h.i 48 12) (f1 : h.i 48 12 ≤ 900) (p0 : 0 ≤ h.i 48 13) (p1 : h.i 48 13 ≤ 100000) (s0 : 0 ≤ s2) (s1 : s2 ≤ 3000) (H : ∀ h', Fr [56] [(48, 12), (48, 13)] h h' → h'.i 48 12 = h.i 48 12 + offV (jD h0 t W) on i k + agV (jD h0 t W) on i k → h'.i 48 13 = h.i 48 13 + s2 → (∀ x : Int, 0 ≤ x → x < 6 → h'.i 56 x = fJ (jD h0 t W) (on ++ [(k : Int)]) x (i + 1) 0) → Q h') {u3 u4 u5 u6 u7 : xV} : xT (d + 4) M_Poem_weighLine 32 [(1, 48), (0, (i : Int)), (0, (k : Int)), u3, u4, u5, u6, u7] [(0, s2), (0, h.i 48 13), (1, 48)] h (xqv Q) := by
  have SX_ := J.2.2.2.1
  have g0 : h.tag 48 = 6 := by simp only [sxt SX_, sxl SX_, sxf SX_, true_and, and_true, false_and, and_false, forall_eq, forall_eq', xi_wi, xr_wi, xt_wi, xl_wi, xn_wi, xs_wi, xi_wr, xr_wr, xt_wr, xl_wr, xn_wr, xs_wr, if_true, if_false, and_self, Int.reduceEq, Int.reduceLT, Int.reduceLE, Int.reduceNeg, Int.le_refl, Int.reduceMod]
  have P12 := PL.2.2.1
  have pl := PL.2.2.2.1 i hi
  have eL : (jD h0 t W).L i = h0.i 119 (i : Int) := rfl
  have l0 := pl.2.2.2.2.1
  have l1 := pl.2.2.2.2.2.1
  have sn : ∀ x, fJ (jD h0 t W) (on ++ [(k : Int)]) x (i + 1) 0 = if fJ (jD h0 t W) on x i 0 ≠ -1 then fJ (jD h0 t W) on x i 0 else if (k : Int) ≠ -1 ∧ (jD h0 t W).L i = x then (k : Int) else -1 := fun x => by
    have := fJ_snoc (jD h0 t W) (on := on) (v := (k : Int)) (x := x) i 0 (by omega)
    rw [lo] at this
    exact this
  apply L_Poem_weighLine_32
  refine ⟨g0, fun h1 e1 => ?_⟩
  rw [xw_id (a := h.i 48 13 + s2) (by omega) (by omega)] at e1
  have F1 : Fr [56] [(48, 12), (48, 13)] h h1 := by rw [e1]; exact Fr_slot (Fr_refl _ _ _) _ (by decide)
  have J1 : JI h0 h1 := JI_fr J F1 (by decide) (by decide)
  have SX_ := J1.2.2.2.1
  have g : h1.tag 48 = 6 ∧ h1.r 48 6 = 51 ∧ h1.tag 51 = 20 ∧ h1.len 51 = 12 ∧ h1.r 48 18 = 56 ∧ h1.tag 56 = 20 ∧ h1.len 56 = 6 := by simp only [sxt SX_, sxl SX_, sxf SX_, true_and, and_true, false_and, and_false, forall_eq, forall_eq', xi_wi, xr_wi, xt_wi, xl_wi, xn_wi, xs_wi, xi_wr, xr_wr, xt_wr, xl_wr, xn_wr, xs_wr, if_true, if_false, and_self, Int.reduceEq, Int.reduceLT, Int.reduceLE, Int.reduceNeg, Int.le_refl, Int.reduceMod]
  obtain ⟨g1, g2, g3, g4, g5, g6, g7⟩ := g
  have Ph := XPo_j J1 n130 P0
  have r51 : h1.i 51 (i : Int) = h0.i 119 (i : Int) := by
    rw [jrow J1 n130 ht0 (c := 51) (by decide) (by decide) (by decide) (by decide)]; exact pl.2.2.2.1
  have r54 : h1.i 54 = h.i 54 := Fr_row F1 (by decide) (by decide)
  have e12 : h1.i 48 12 = h.i 48 12 := by rw [e1, xi_wi, if_neg (fun z => absurd z.2 (by decide))]
  have e13 : h1.i 48 13 = h.i 48 13 + s2 := by rw [e1, xi_wi, if_pos ⟨rfl, rfl⟩]
  have fs1 : ∀ x : Int, h1.i 56 x = h.i 56 x := fun x => by rw [e1, xi_wi, if_neg (fun z => absurd z.1 (by decide))]
  generalize eLv : h0.i 119 (i : Int) = L at r51 eL l0 l1
  have go : ∀ (h2 : xH) (u3 u4 u5 u6 u7 : xV), Fr [56] [(48, 12)] h1 h2 → h2.i 48 12 = h.i 48 12 + offV (jD h0 t W) on i k → (∀ x : Int, 0 ≤ x → x < 6 → h2.i 56 x = fJ (jD h0 t W) (on ++ [(k : Int)]) x (i + 1) 0) → xT (d + 4) M_Poem_weighLine 71 [(1, 48), (0, (i : Int)), (0, (k : Int)), u3, u4, u5, u6, u7] [] h2 (xqv Q) := fun h2 u3 u4 u5 u6 u7 F2 e2 fs2 => by
    have ob : 0 ≤ offV (jD h0 t W) on i k ∧ offV (jD h0 t W) on i k ≤ 1 := by
      unfold offV
      split <;> decide
    refine c_X_w71 (d := d) (on := on) n130 ht0 P0 PL (JI_fr J1 F2 (by decide) (by decide)) hi hk tk (fun j hj => ?_) onb (by omega) (by omega) (fun h' F' e' => ?_)
    · rw [Fr_row F2 (c := 54) (by decide) (by decide), r54]; exact rows j hj
    · refine H h' (Fr_trans F1 (Fr_trans (Fr_mono F2 (by decide) (by decide)) (Fr_mono F' (fun c mm => absurd mm List.not_mem_nil) (by decide)))) (by rw [e', e2]) ?_ (fun x x0 x1 => ?_)
      · rw [F'.2 48 13 (by decide) (by decide), F2.2 48 13 (by decide) (by decide), e13]
      · rw [Fr_row F' (c := 56) (by decide) (by decide)]; exact fs2 x x0 x1
  have noL : ∀ x : Int, L ≠ x → fJ (jD h0 t W) (on ++ [(k : Int)]) x (i + 1) 0 = fJ (jD h0 t W) on x i 0 := fun x hx => by
    rw [sn, eL]
    by_cases c : fJ (jD h0 t W) on x i 0 ≠ -1
    · rw [if_pos c]
    · rw [if_neg c, if_neg (fun z => hx z.2)]
      exact (Classical.not_not.mp c).symm
  refine ⟨g1, ?_⟩
  rw [g2, g4, r51]
  refine ⟨⟨g3, by omega, by omega⟩, fun x1 ex => ?_⟩
  rw [ex]
  have eO : offV (jD h0 t W) on i k = if L ≠ -1 ∧ fJ (jD h0 t W) on L i 0 ≠ -1 ∧ (jD h0 t W).rh (fJ (jD h0 t W) on L i 0).toNat k = false then 1 else 0 := by
    unfold offV
    rw [eL]
  by_cases c : L < 0
  · rw [if_pos c]
    have no : ¬ (L ≠ -1 ∧ fJ (jD h0 t W) on L i 0 ≠ -1 ∧ (jD h0 t W).rh (fJ (jD h0 t W) on L i 0).toNat k = false) := fun z => z.1 (by omega)
    exact go h1 _ _ _ _ _ (Fr_refl _ _ _) (by rw [e12, eO, if_neg no, Int.add_zero]) (fun x x0 x1 => by rw [noL x (by omega), fs1]; exact fst x x0 x1)
  · rw [if_neg c, if_pos (show L < 6 by omega), g5, g7, fs1, fst L (by omega) (by omega)]
    refine ⟨⟨g6, by omega, by omega⟩, ?_⟩
    have fo := fJ_on (jD h0 t W) (x := L) onb i 0
    by_cases c2 : fJ (jD h0 t W) on L i 0 = -1
    · rw [if_pos c2]
      refine ⟨⟨g6, by omega, by omega⟩, fun h2 e2 => ?_⟩
      have no : ¬ (L ≠ -1 ∧ fJ (jD h0 t W) on L i 0 ≠ -1 ∧ (jD h0 t W).rh (fJ (jD h0 t W) on L i 0).toNat k = false) := fun z => z.2.1 c2
      have F2 : Fr [56] [(48, 12)] h1 h2 := by rw [e2]; exact Fr_cell (Fr_refl _ _ _) _ _ (by decide)
      refine go h2 _ _ _ _ _ F2 (by rw [e2, xi_wi, if_neg (fun z => absurd z.1 (by decide)), e12, eO, if_neg no, Int.add_zero]) (fun x x0 x1 => ?_)
      rw [e2, xi_wi]
      by_cases z : x = L
      · rw [if_pos ⟨rfl, z⟩, sn, z, if_neg (fun y => y c2), eL, if_pos ⟨by omega, rfl⟩]
      · rw [if_neg (fun y => z y.2), noL x (fun y => z y.symm), fs1]; exact fst x x0 x1
    · rw [if_neg c2]
      refine ⟨⟨g6, by omega, by omega⟩, ?_⟩
      have same : ∀ x : Int, 0 ≤ x → x < 6 → h1.i 56 x = fJ (jD h0 t W) (on ++ [(k : Int)]) x (i + 1) 0 := fun x x0 x1 => by
        rw [fs1, fst x x0 x1]
        by_cases z : x = L
        · rw [sn, z, if_pos c2]
        · rw [noL x (fun y => z y.symm)]
      generalize fJ (jD h0 t W) on L i 0 = v at fo c2 eO ⊢
      rcases fo with fo | fo
      · exact absurd fo c2
      · obtain ⟨o0, o1, o2⟩ := fo
        have hv : ((v.toNat : Nat) : Int) = v := by omega
        have a := (Ph v.toNat (by omega))
        have b := (Ph k hk)
        rw [hv] at a
        have az := a.2 o2
        have bz := b.2 tk
        have eR : (jD h0 t W).rh v.toNat k = samF (endL (flat (W v.toNat))) (endL (flat (W k))) := rfl
        refine c_X_rhymeOf (d := d) SX_ o0 (by omega) (by omega) (by omega) (a.1.mp o2) (b.1.mp tk) az.2.2.1 az.2.2.2.1 bz.2.2.1 bz.2.2.2.1 az.1 az.2.1 az.2.2.2.2.1 az.2.2.2.2.2 bz.1 bz.2.1 bz.2.2.2.2.1 bz.2.2.2.2.2 ?_
        by_cases c3 : rhyV (W v.toNat) (W k) = 3
        · rw [if_pos c3]
          have no : ¬ (L ≠ -1 ∧ v ≠ -1 ∧ (jD h0 t W).rh v.toNat k = false) := fun z => by
            have y := z.2.2
            rw [eR, rhyV_3.mp c3] at y
            exact absurd y (by decide)
          exact go h1 _ _ _ _ _ (Fr_refl _ _ _) (by rw [e12, eO, if_neg no, Int.add_zero]) same
        · rw [if_neg c3]
          refine ⟨g1, fun h4 e4 => ?_⟩
          rw [xw_id (a := h1.i 48 12 + 1) (by omega) (by omega)] at e4
          have F4 : Fr [56] [(48, 12)] h1 h4 := by rw [e4]; exact Fr_slot (Fr_refl _ _ _) _ (by decide)
          have fl : (jD h0 t W).rh v.toNat k = false := by
            rw [eR]
            exact Bool.eq_false_iff.mpr (fun z => c3 (rhyV_3.mpr z))
          refine go h4 _ _ _ _ _ F4 (by rw [e4, xi_wi, if_pos ⟨rfl, rfl⟩, e12, eO, if_pos ⟨by omega, c2, fl⟩]) (fun x x0 x1 => ?_)
          rw [e4, xi_wi, if_neg (fun z => absurd z.1 (by decide))]
          exact same x x0 x1
theorem c_X_weigh (n130 : 130 ≤ h0.nx) (ht0 : I_tab h0) (P0 : XPo h0 t W) (PL : PlI h0 P m) {h : xH} {i k : Nat} {v : Int} {on : List Int} (J : JI h0 h) (hi : i < P) (lo : on.length = i) (hk : k < 12) (tk : t k = true) (rows : ∀ j : Nat, j < i → h.i 54 (j : Int) = on.getD j (-1)) (onb : ∀ j, onV t (on.getD j (-1))) (fst : ∀ x : Int, 0 ≤ x → x < 6 → h.i 56 x = fJ (jD h0 t W) on x i 0) (f0 : 0 ≤ h.i 48 12) (f1 : h.i 48 12 ≤ 800) (p0 : 0 ≤ h.i 48 13) (p1 : h.i 48 13 ≤ 100000) (ev : h.i 53 (8 * (k : Int) + (jD h0 t W).F i) = v) (v0 : -1 ≤ v) (v1 : v ≤ 2100) (H : ∀ h', Fr [56] [(48, 12), (48, 13)] h h' → h'.i 48 12 = h.i 48 12 + (if v = -1 then 1 else 0) + offV (jD h0 t W) on i k + agV (jD h0 t W) on i k → h'.i 48 13 = h.i 48 13 + (if v = -1 then 0 else v) → (∀ x : Int, 0 ≤ x → x < 6 → h'.i 56 x = fJ (jD h0 t W) (on ++ [(k : Int)]) x (i + 1) 0) → Q h') : xCv (d + 5) M_Poem_weighLine [(1, 48), (0, (i : Int)), (0, (k : Int))] h Q := by
  have SX_ := J.2.2.2.1
  have g : h.tag 48 = 6 ∧ h.r 48 5 = 50 ∧ h.tag 50 = 20 ∧ h.len 50 = 12 ∧ h.r 48 10 = 53 ∧ h.tag 53 = 20 ∧ h.len 53 = 96 := by simp only [sxt SX_, sxl SX_, sxf SX_, true_and, and_true, false_and, and_false, forall_eq, forall_eq', xi_wi, xr_wi, xt_wi, xl_wi, xn_wi, xs_wi, xi_wr, xr_wr, xt_wr, xl_wr, xn_wr, xs_wr, if_true, if_false, and_self, Int.reduceEq, Int.reduceLT, Int.reduceLE, Int.reduceNeg, Int.le_refl, Int.reduceMod]
  obtain ⟨g1, g2, g3, g4, g5, g6, g7⟩ := g
  have P12 := PL.2.2.1
  have pl := PL.2.2.2.1 i hi
  have eF : (jD h0 t W).F i = h0.i 118 (i : Int) := rfl
  have r50 : h.i 50 (i : Int) = h0.i 118 (i : Int) := by
    rw [jrow J n130 ht0 (c := 50) (by decide) (by decide) (by decide) (by decide)]; exact pl.1
  have q0 := pl.2.1
  have q1 := pl.2.2.1
  rw [eF] at ev
  generalize eFv : h0.i 118 (i : Int) = f at r50 ev q0 q1
  have go : ∀ (h1 : xH) (a s : Int) (u3 u4 u5 u6 u7 : xV), a = (if v = -1 then 1 else 0) → s = (if v = -1 then 0 else v) → h1 = h.wi 48 12 (xw (h.i 48 12 + a)) → xT (d + 4) M_Poem_weighLine 32 [(1, 48), (0, (i : Int)), (0, (k : Int)), u3, u4, u5, u6, u7] [(0, s), (0, h1.i 48 13), (1, 48)] h1 (xqv Q) := fun h1 a s u3 u4 u5 u6 u7 ea es e1 => by
    have ab : 0 ≤ a ∧ a ≤ 1 := by rw [ea]; split <;> decide
    have sb : 0 ≤ s ∧ s ≤ 2100 := by rw [es]; split <;> omega
    rw [xw_id (by omega) (by omega)] at e1
    have F1 : Fr [56] [(48, 12), (48, 13)] h h1 := by rw [e1]; exact Fr_slot (Fr_refl _ _ _) _ (by decide)
    have e12 : h1.i 48 12 = h.i 48 12 + a := by rw [e1, xi_wi, if_pos ⟨rfl, rfl⟩]
    have e13 : h1.i 48 13 = h.i 48 13 := by rw [e1, xi_wi, if_neg (fun z => absurd z.2 (by decide))]
    refine c_X_w32 (d := d) (on := on) (s2 := s) n130 ht0 P0 PL (JI_fr J F1 (by decide) (by decide)) hi lo hk tk (fun j hj => ?_) onb (fun x x0 x1 => ?_) (by omega) (by omega) (by omega) (by omega) sb.1 (by omega) (fun h' F' e2 e3 fs => ?_)
    · rw [Fr_row F1 (c := 54) (by decide) (by decide)]; exact rows j hj
    · rw [e1, xi_wi, if_neg (fun z => absurd z.1 (by decide))]; exact fst x x0 x1
    · exact H h' (Fr_trans F1 F') (by rw [e2, e12, ea]) (by rw [e3, e13, es]) fs
  apply L_Poem_weighLine
  rw [g2, g4, r50, jxA (by omega) (by omega) q0 q1, g5, g7, ev]
  refine ⟨g1, ⟨g3, by omega, by omega⟩, ⟨g6, by omega, by omega⟩, fun x1 ex => ?_⟩
  rw [ex]
  have tg : ∀ (h1 : xH) (x : Int), h1 = h.wi 48 12 x → h1.tag 48 = 6 := fun h1 x e => by rw [e, xt_wi]; exact g1
  by_cases c : v = -1
  · rw [if_pos c]
    intro h1 e1
    rw [if_pos c]
    exact ⟨tg h1 _ e1, go h1 1 0 _ _ _ _ _ (by rw [if_pos c]) (by rw [if_pos c]) e1⟩
  · rw [if_neg c]
    intro h1 e1
    rw [if_neg c]
    exact ⟨tg h1 _ e1, go h1 0 v _ _ _ _ _ (by rw [if_neg c]) (by rw [if_neg c]) e1⟩
end JW
