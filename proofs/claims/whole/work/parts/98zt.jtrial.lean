/-! judge: the class' trial -/
theorem jbit {o i : Nat} (ho : o < 4096) (hi : i < 12) : xand (xshr (o : Int) (i : Int)) 1 = if o.testBit i = true then 1 else 0 := by
  rw [xbit (by omega) (by omega) (by omega) (by omega), Int.toNat_natCast, ibit]
  cases o.testBit i <;> rfl
theorem jnx {i : Nat} (hi : i < 100000) : xw ((i : Int) + 1) = ((i + 1 : Nat) : Int) := by
  rw [xw_id (by omega) (by omega)]; push_cast; rfl
section JT
variable {n0 : Nat} {h0 : xH} {t : Nat → Bool} {W : Nat → List Wd} {d : Nat} {Q : xH → Prop} {m P : Nat}
theorem c_X_lw65 (n130 : 130 ≤ h0.nx) (ht0 : I_tab h0) (P0 : XPo h0 t W) : ∀ (n i k : Nat) (h : xH) (u1 : xV), i + n = 12 → i ≤ k → k ≤ 12 → (k < 12 → t k = true) → JI h0 h → 0 ≤ h.i 48 12 → h.i 48 12 ≤ 900 + (i : Int) → (∀ h', Fr [] [(48, 12)] h h' → h'.i 48 12 = h.i 48 12 + ctL t k → Q h') → xT (d + 1) M_Poem_layWithout 65 [(1, 48), u1, (0, (k : Int)), (0, (i : Int))] [] h (xqv Q) := by
  intro n
  induction n with
  | zero =>
    intro i k h u1 hi ik k12 tk J f0 f1 H
    have e : k = 12 := by omega
    subst e
    apply L_Poem_layWithout_65
    rw [if_neg (by omega)]
    exact H h (Fr_refl _ _ _) (by rw [ctL_12, Int.add_zero])
  | succ n ih =>
    intro i k h u1 hi ik k12 tk J f0 f1 H
    have SX_ := J.2.2.2.1
    have g : h.tag 48 = 6 := by simp only [sxt SX_, sxl SX_, sxf SX_, true_and, and_true, false_and, and_false, forall_eq, forall_eq', xi_wi, xr_wi, xt_wi, xl_wi, xn_wi, xs_wi, xi_wr, xr_wr, xt_wr, xl_wr, xn_wr, xs_wr, if_true, if_false, and_self, Int.reduceEq, Int.reduceLT, Int.reduceLE, Int.reduceNeg, Int.le_refl, Int.reduceMod]
    apply L_Poem_layWithout_65
    rw [if_pos (by omega)]
    by_cases c : k < 12
    · rw [if_pos (by omega)]
      refine ⟨g, fun h1 e1 => ?_⟩
      rw [xw_id (a := h.i 48 12 + 1) (by omega) (by omega)] at e1
      have F1 : Fr [] [(48, 12)] h h1 := by rw [e1]; exact Fr_slot (Fr_refl _ _ _) _ (by decide)
      have J1 : JI h0 h1 := JI_fr J F1 (fun x mm => absurd mm List.not_mem_nil) (by decide)
      have SX_ := J1.2.2.2.1
      have g1 : h1.tag 48 = 6 := by simp only [sxt SX_, sxl SX_, sxf SX_, true_and, and_true, false_and, and_false, forall_eq, forall_eq', xi_wi, xr_wi, xt_wi, xl_wi, xn_wi, xs_wi, xi_wr, xr_wr, xt_wr, xl_wr, xn_wr, xs_wr, if_true, if_false, and_self, Int.reduceEq, Int.reduceLT, Int.reduceLE, Int.reduceNeg, Int.le_refl, Int.reduceMod]
      have e12 : h1.i 48 12 = h.i 48 12 + 1 := by rw [e1, xi_wi, if_pos ⟨rfl, rfl⟩]
      refine ⟨g1, ?_⟩
      rw [xw_id (a := (k : Int) + 1) (by omega) (by omega)]
      have P1 := XPo_j J1 n130 P0
      have nb := nxL_bd (t := t) (k := k + 1) (by omega)
      have z := c_X_nextLine (d := d) (k := k + 1) (Q := fun r1 h2 => ∀ x1 : Int, x1 = xw ((i : Int) + 1) → xT (d + 1) M_Poem_layWithout 65 [(1, 48), (xkl u1), (0, r1), (0, x1)] [] h2 (xqv Q)) SX_ P1 (by omega) (fun x1 ex => by
        rw [ex, xw_id (a := (i : Int) + 1) (by omega) (by omega)]
        have := ih (i + 1) (nxL t (k + 1)) h1 (xkl u1) (by omega) (by omega) nb.2.1 nb.2.2 J1 (by omega) (by push_cast; omega) (fun h' F' e' => H h' (Fr_trans F1 F') (by rw [e', e12, ctL_s c (tk c), ctL_nx (k := k + 1) (by omega)]; omega))
        push_cast at this
        exact this)
      push_cast at z
      exact z
    · rw [if_neg (by omega)]
      have e : k = 12 := by omega
      exact H h (Fr_refl _ _ _) (by rw [e, ctL_12, Int.add_zero])
theorem c_X_lwT {o k : Nat} (P12 : P ≤ 12) (H' : h0.i 48 9 = (P : Int)) (n130 : 130 ≤ h0.nx) (ht0 : I_tab h0) {hb : xH} (H : ∀ h', Fr [54, 56] [(48, 12), (48, 13)] hb h' → JI h0 h' → (∀ j : Nat, P ≤ j → j < 12 → h'.i 54 (j : Int) = -1) → (∀ j : Int, j < (P : Int) → h'.i 54 j = hb.i 54 j) → (h'.i 48 12 = hb.i 48 12 ∧ h'.i 48 13 = hb.i 48 13) → xT (d + 5) M_Poem_layWithout 65 [(1, 48), (0, (o : Int)), (0, (k : Int)), (0, 0)] [] h' (xqv Q)) : ∀ (n i : Nat) (h : xH), i + n = 12 → P ≤ i → JI h0 h → Fr [54] [] hb h → (∀ j : Nat, P ≤ j → j < i → h.i 54 (j : Int) = -1) → (∀ j : Int, j < (P : Int) → h.i 54 j = hb.i 54 j) → xT (d + 5) M_Poem_layWithout 16 [(1, 48), (0, (o : Int)), (0, (k : Int)), (0, (i : Int))] [] h (xqv Q) := by
  intro n
  induction n with
  | zero =>
    intro i h hi pi J F a b
    have e : i = 12 := by omega
    subst e
    apply L_Poem_layWithout_16
    rw [if_neg (by omega)]
    exact H h (Fr_mono F (by decide) (fun c mm => absurd mm List.not_mem_nil)) J a b ⟨F.2 48 12 (by decide) (fun mm => absurd mm List.not_mem_nil), F.2 48 13 (by decide) (fun mm => absurd mm List.not_mem_nil)⟩
  | succ n ih =>
    intro i h hi pi J F a b
    have SX_ := J.2.2.2.1
    have g : h.tag 48 = 6 ∧ h.r 48 11 = 54 ∧ h.tag 54 = 20 ∧ h.len 54 = 12 := by simp only [sxt SX_, sxl SX_, sxf SX_, true_and, and_true, false_and, and_false, forall_eq, forall_eq', xi_wi, xr_wi, xt_wi, xl_wi, xn_wi, xs_wi, xi_wr, xr_wr, xt_wr, xl_wr, xn_wr, xs_wr, if_true, if_false, and_self, Int.reduceEq, Int.reduceLT, Int.reduceLE, Int.reduceNeg, Int.le_refl, Int.reduceMod]
    obtain ⟨g1, g2, g3, g4⟩ := g
    apply L_Poem_layWithout_16
    rw [if_pos (by omega), g2, g4]
    refine ⟨g1, ⟨g3, by omega, by omega⟩, fun h1 e1 => ?_⟩
    have F1 : Fr [54] [] h h1 := by rw [e1]; exact Fr_cell (Fr_refl _ _ _) _ _ (by decide)
    have J1 : JI h0 h1 := JI_fr J F1 (by decide) (fun x mm => absurd mm List.not_mem_nil)
    have SX_ := J1.2.2.2.1
    have y : h1.tag 48 = 6 := by simp only [sxt SX_, sxl SX_, sxf SX_, true_and, and_true, false_and, and_false, forall_eq, forall_eq', xi_wi, xr_wi, xt_wi, xl_wi, xn_wi, xs_wi, xi_wr, xr_wr, xt_wr, xl_wr, xn_wr, xs_wr, if_true, if_false, and_self, Int.reduceEq, Int.reduceLT, Int.reduceLE, Int.reduceNeg, Int.le_refl, Int.reduceMod]
    have e9 : h1.i 48 9 = (P : Int) := by rw [jslot J1 n130 ht0 (by decide) (by decide) (by decide) (by decide)]; exact H'
    refine ⟨y, ?_⟩
    rw [e9, if_neg (by omega)]
    intro x4 ex
    rw [ex, xw_id (a := (i : Int) + 1) (by omega) (by omega)]
    have := ih (i + 1) h1 (by omega) (by omega) J1 (Fr_trans F F1) (fun j j0 j1 => by
      rw [e1, xi_wi]
      by_cases z : j = i
      · rw [if_pos ⟨rfl, by omega⟩]
      · rw [if_neg (fun y => z (by omega))]
        exact a j j0 (by omega)) (fun j j1 => by
      rw [e1, xi_wi, if_neg (fun y => by omega)]
      exact b j j1)
    push_cast at this
    exact this
theorem c_X_lw16 (I : INV n0 h0) (P0 : XPo h0 t W) (PL : PlI h0 P m) {o : Nat} (ho : o < 4096) {hb : xH} (Jb : JI h0 hb) (CC : ∀ i : Nat, i < P → o.testBit i = false → nxL t (layJ (jD h0 t W) o.testBit i).1 < 12 → hb.i 53 (8 * ((nxL t (layJ (jD h0 t W) o.testBit i).1 : Nat) : Int) + (jD h0 t W).F i) = (jD h0 t W).C (nxL t (layJ (jD h0 t W) o.testBit i).1) ((jD h0 t W).F i)) (H : ∀ h', Fr [54, 56] [(48, 12), (48, 13)] hb h' → h'.i 48 12 = jFa (jD h0 t W) o.testBit P → h'.i 48 13 = jPr (jD h0 t W) o.testBit P → (∀ j : Nat, j < 12 → h'.i 54 (j : Int) = (jOn (jD h0 t W) o.testBit P).getD j (-1)) → Q h') : ∀ (n i : Nat) (h : xH), i + n = P → Fr [54, 56] [(48, 12), (48, 13)] hb h → (∀ j : Nat, j < i → h.i 54 (j : Int) = (layJ (jD h0 t W) o.testBit i).2.2.2.getD j (-1)) → h.i 48 12 = (layJ (jD h0 t W) o.testBit i).2.1 → h.i 48 13 = (layJ (jD h0 t W) o.testBit i).2.2.1 → (∀ x : Int, 0 ≤ x → x < 6 → h.i 56 x = fJ (jD h0 t W) (layJ (jD h0 t W) o.testBit i).2.2.2 x i 0) → xT (d + 5) M_Poem_layWithout 16 [(1, 48), (0, (o : Int)), (0, ((nxL t (layJ (jD h0 t W) o.testBit i).1 : Nat) : Int)), (0, (i : Int))] [] h (xqv Q) := by
  have n130 := I.2.2.1
  have ht0 := I.2.2.2.1
  have P12 := PL.2.2.1
  have cb := jD_C I P0
  intro n
  induction n with
  | zero =>
    intro i h hi F rows ef ep fst
    have e : i = P := by omega
    subst e
    have J : JI h0 h := JI_fr Jb F (by decide) (by decide)
    have bd := layJ_bd (D := jD h0 t W) (out := o.testBit) cb i
    have nb := nxL_bd (t := t) (k := (layJ (jD h0 t W) o.testBit i).1) bd.1
    refine c_X_lwT (d := d) (hb := h) P12 PL.1 n130 ht0 (fun h1 F1 J1 a b c => ?_) (12 - i) i h (by omega) (Nat.le_refl _) J (Fr_refl _ _ _) (fun j j0 j1 => by omega) (fun j _ => rfl)
    have z := c_X_lw65 (d := d + 4) (Q := Q) n130 ht0 P0 12 0 (nxL t (layJ (jD h0 t W) o.testBit i).1) h1 (0, (o : Int)) (by omega) (by omega) nb.2.1 nb.2.2 J1 (by rw [c.1, ef]; exact bd.2.1) (by rw [c.1, ef]; have := bd.2.2.1; omega) (fun h2 F2 e2 => ?_)
    · exact z
    · refine H h2 (Fr_trans F (Fr_trans F1 (Fr_mono F2 (fun x mm => absurd mm List.not_mem_nil) (by decide)))) ?_ ?_ (fun j hj => ?_)
      · rw [e2, c.1, ef, ← ctL_nx (k := (layJ (jD h0 t W) o.testBit i).1) bd.1]; rfl
      · rw [F2.2 48 13 (by decide) (by decide), c.2, ep]; rfl
      · rw [Fr_row F2 (c := 54) (by decide) (by decide)]
        show _ = (layJ (jD h0 t W) o.testBit i).2.2.2.getD j (-1)
        by_cases z : j < i
        · rw [b (j : Int) (by omega)]; exact rows j z
        · rw [a j (by omega) hj, List.getD_eq_getElem?_getD, List.getElem?_eq_none (by rw [bd.2.2.2.2.2.1]; omega)]; rfl
  | succ n ih =>
    intro i h hi F rows ef ep fst
    have iP : i < P := by omega
    have J : JI h0 h := JI_fr Jb F (by decide) (by decide)
    have SX_ := J.2.2.2.1
    have g : h.tag 48 = 6 ∧ h.r 48 11 = 54 ∧ h.tag 54 = 20 ∧ h.len 54 = 12 := by simp only [sxt SX_, sxl SX_, sxf SX_, true_and, and_true, false_and, and_false, forall_eq, forall_eq', xi_wi, xr_wi, xt_wi, xl_wi, xn_wi, xs_wi, xi_wr, xr_wr, xt_wr, xl_wr, xn_wr, xs_wr, if_true, if_false, and_self, Int.reduceEq, Int.reduceLT, Int.reduceLE, Int.reduceNeg, Int.le_refl, Int.reduceMod]
    obtain ⟨g1, g2, g3, g4⟩ := g
    have bd := layJ_bd (D := jD h0 t W) (out := o.testBit) cb i
    have nb := nxL_bd (t := t) (k := (layJ (jD h0 t W) o.testBit i).1) bd.1
    have lo : (layJ (jD h0 t W) o.testBit i).2.2.2.length = i := bd.2.2.2.2.2.1
    have eS : layJ (jD h0 t W) o.testBit (i + 1) = stJ (jD h0 t W) o.testBit i (layJ (jD h0 t W) o.testBit i) := rfl
    have onb := onV_get (t := t) (on := (layJ (jD h0 t W) o.testBit i).2.2.2) bd.2.2.2.2.2.2
    have CCi := CC i iP
    have eT : (jD h0 t W).t = t := rfl
    have hP : (P : Int) ≤ 12 := by omega
    generalize layJ (jD h0 t W) o.testBit i = s at *
    obtain ⟨s1, s2, s3, on⟩ := s
    have lo : on.length = i := lo
    have ef : h.i 48 12 = s2 := ef
    have ep : h.i 48 13 = s3 := ep
    have nb : s1 ≤ nxL t s1 ∧ nxL t s1 ≤ 12 ∧ (nxL t s1 < 12 → t (nxL t s1) = true) := nb
    have b2 : 0 ≤ s2 := bd.2.1
    have b3 : s2 ≤ 3 * (i : Int) := bd.2.2.1
    have b4 : 0 ≤ s3 := bd.2.2.2.1
    have b5 : s3 ≤ 2100 * (i : Int) := bd.2.2.2.2.1
    have fst : ∀ x : Int, 0 ≤ x → x < 6 → h.i 56 x = fJ (jD h0 t W) on x i 0 := fst
    have rows : ∀ j : Nat, j < i → h.i 54 (j : Int) = on.getD j (-1) := rows
    have sm1 : ∀ x : Int, fJ (jD h0 t W) (on ++ [-1]) x (i + 1) 0 = fJ (jD h0 t W) on x i 0 := fun x => by
      have := fJ_snoc (jD h0 t W) (on := on) (v := -1) (x := x) i 0 (by omega)
      rw [this]
      by_cases c : fJ (jD h0 t W) on x i 0 ≠ -1
      · rw [if_pos c]
      · rw [if_neg c, if_neg (fun z => z.1 rfl)]
        exact (Classical.not_not.mp c).symm
    have gd : ∀ (v : Int) (j : Nat), (on ++ [v]).getD j (-1) = if j = i then v else on.getD j (-1) := fun v j => by
      by_cases c : j = i
      · rw [if_pos c, c, getD_app_r _ (by omega), lo, Nat.sub_self]; rfl
      · rw [if_neg c]
        by_cases c2 : j < i
        · rw [getD_app_l _ (by omega)]
        · rw [List.getD_eq_getElem?_getD, List.getElem?_eq_none (by rw [List.length_append, lo]; show i + 1 ≤ j; omega), List.getD_eq_getElem?_getD, List.getElem?_eq_none (by omega)]
    apply L_Poem_layWithout_16
    rw [if_pos (by omega), g2, g4]
    refine ⟨g1, ⟨g3, by omega, by omega⟩, fun h1 e1 => ?_⟩
    have F1 : Fr [54, 56] [(48, 12), (48, 13)] h h1 := by rw [e1]; exact Fr_cell (Fr_refl _ _ _) _ _ (by decide)
    have J1 : JI h0 h1 := JI_fr J F1 (by decide) (by decide)
    have SX_ := J1.2.2.2.1
    have y : h1.tag 48 = 6 ∧ h1.r 48 11 = 54 ∧ h1.tag 54 = 20 ∧ h1.len 54 = 12 := by simp only [sxt SX_, sxl SX_, sxf SX_, true_and, and_true, false_and, and_false, forall_eq, forall_eq', xi_wi, xr_wi, xt_wi, xl_wi, xn_wi, xs_wi, xi_wr, xr_wr, xt_wr, xl_wr, xn_wr, xs_wr, if_true, if_false, and_self, Int.reduceEq, Int.reduceLT, Int.reduceLE, Int.reduceNeg, Int.le_refl, Int.reduceMod]
    obtain ⟨y1, y2, y3, y4⟩ := y
    have e9 : h1.i 48 9 = (P : Int) := by rw [jslot J1 n130 ht0 (by decide) (by decide) (by decide) (by decide)]; exact PL.1
    have e54 : ∀ j : Nat, j < i + 1 → h1.i 54 (j : Int) = (on ++ [-1]).getD j (-1) := fun j hj => by
      rw [e1, xi_wi, gd]
      by_cases z : j = i
      · rw [if_pos ⟨rfl, by omega⟩, if_pos z]
      · rw [if_neg (fun y => z (by omega)), if_neg z]; exact rows j (by omega)
    have e56 : ∀ x : Int, h1.i 56 x = h.i 56 x := fun x => by rw [e1, xi_wi, if_neg (fun z => absurd z.1 (by decide))]
    have e12 : h1.i 48 12 = s2 := by rw [e1, xi_wi, if_neg (fun z => absurd z.1 (by decide))]; exact ef
    have e13 : h1.i 48 13 = s3 := by rw [e1, xi_wi, if_neg (fun z => absurd z.1 (by decide))]; exact ep
    refine ⟨y1, ?_⟩
    rw [e9, if_pos (by omega), jbit ho (by omega)]
    by_cases c1 : o.testBit i = true
    · rw [if_pos c1, if_pos rfl]
      intro x1 ex
      rw [ex, jnx (show i < 100000 by omega)]
      have eS' : layJ (jD h0 t W) o.testBit (i + 1) = (s1, s2, s3, on ++ [-1]) := by rw [eS]; unfold stJ; rw [if_pos c1]
      have key := ih (i + 1) h1 (by omega) (Fr_trans F F1)
      rw [eS'] at key
      exact key e54 e12 e13 (fun x x0 x1 => by rw [e56, fst x x0 x1]; exact (sm1 x).symm)
    · rw [if_neg c1, if_neg (by decide)]
      have CCi : nxL t s1 < 12 → hb.i 53 (8 * ((nxL t s1 : Nat) : Int) + (jD h0 t W).F i) = (jD h0 t W).C (nxL t s1) ((jD h0 t W).F i) := CCi (Bool.eq_false_iff.mpr c1)
      by_cases c2 : nxL t s1 = 12
      · show if ((nxL t s1 : Nat) : Int) < 12 then _ else _
        rw [if_neg (by omega)]
        intro h5 e5 x3 ex
        rw [ex, jnx (show i < 100000 by omega)]
        rw [xw_id (a := h1.i 48 12 + 1) (by omega) (by omega)] at e5
        have F5 : Fr [54, 56] [(48, 12), (48, 13)] h1 h5 := by rw [e5]; exact Fr_slot (Fr_refl _ _ _) _ (by decide)
        have eS' : layJ (jD h0 t W) o.testBit (i + 1) = (12, s2 + 1, s3, on ++ [-1]) := by
          rw [eS]; unfold stJ; rw [if_neg c1, if_pos (show nxL (jD h0 t W).t s1 = 12 from c2)]
        have key := ih (i + 1) h5 (by omega) (Fr_trans F (Fr_trans F1 F5))
        rw [eS', nxL_12] at key
        show xT (d + 5) M_Poem_layWithout 16 [(1, 48), (0, (o : Int)), (0, ((nxL t s1 : Nat) : Int)), (0, ((i + 1 : Nat) : Int))] [] h5 (xqv Q)
        rw [c2]
        exact key (fun j hj => by rw [e5, xi_wi, if_neg (fun z => absurd z.1 (by decide))]; exact e54 j hj) (by rw [e5, xi_wi, if_pos ⟨rfl, rfl⟩, e12]) (by rw [e5, xi_wi, if_neg (fun z => absurd z.2 (by decide))]; exact e13) (fun x x0 x1 => by rw [e5, xi_wi, if_neg (fun z => absurd z.1 (by decide)), e56, fst x x0 x1]; exact (sm1 x).symm)
      · have lt : nxL t s1 < 12 := by omega
        show if ((nxL t s1 : Nat) : Int) < 12 then _ else _
        rw [if_pos (by omega), y2, y4]
        refine ⟨⟨y3, by omega, by omega⟩, fun h2 e2 => ?_⟩
        have F2 : Fr [54, 56] [(48, 12), (48, 13)] h1 h2 := by rw [e2]; exact Fr_cell (Fr_refl _ _ _) _ _ (by decide)
        have J2 : JI h0 h2 := JI_fr J1 F2 (by decide) (by decide)
        have SX_ := J2.2.2.2.1
        have w1 : h2.tag 48 = 6 := by simp only [sxt SX_, sxl SX_, sxf SX_, true_and, and_true, false_and, and_false, forall_eq, forall_eq', xi_wi, xr_wi, xt_wi, xl_wi, xn_wi, xs_wi, xi_wr, xr_wr, xt_wr, xl_wr, xn_wr, xs_wr, if_true, if_false, and_self, Int.reduceEq, Int.reduceLT, Int.reduceLE, Int.reduceNeg, Int.le_refl, Int.reduceMod]
        have k54 : ∀ j : Nat, j < i + 1 → h2.i 54 (j : Int) = (on ++ [((nxL t s1 : Nat) : Int)]).getD j (-1) := fun j hj => by
          rw [e2, xi_wi, gd]
          by_cases z : j = i
          · rw [if_pos ⟨rfl, by omega⟩, if_pos z]
          · rw [if_neg (fun y => z (by omega)), if_neg z, e54 j hj, gd, if_neg z]
        have k12 : h2.i 48 12 = s2 := by rw [e2, xi_wi, if_neg (fun z => absurd z.1 (by decide))]; exact e12
        have k13 : h2.i 48 13 = s3 := by rw [e2, xi_wi, if_neg (fun z => absurd z.1 (by decide))]; exact e13
        have k53 : h2.i 53 = hb.i 53 := by rw [Fr_row F2 (by decide) (by decide), Fr_row F1 (by decide) (by decide), Fr_row F (by decide) (by decide)]
        have cc := cb (nxL t s1) ((jD h0 t W).F i)
        have eS' : layJ (jD h0 t W) o.testBit (i + 1) = (nxL t s1 + 1, s2 + (if (jD h0 t W).C (nxL t s1) ((jD h0 t W).F i) = -1 then 1 else 0) + offV (jD h0 t W) on i (nxL t s1) + agV (jD h0 t W) on i (nxL t s1), s3 + (if (jD h0 t W).C (nxL t s1) ((jD h0 t W).F i) = -1 then 0 else (jD h0 t W).C (nxL t s1) ((jD h0 t W).F i)), on ++ [((nxL t s1 : Nat) : Int)]) := by
          rw [eS]; unfold stJ; rw [if_neg c1, if_neg (show ¬ nxL (jD h0 t W).t s1 = 12 from c2)]; rfl
        refine ⟨w1, ?_⟩
        refine c_X_weigh (d := d) (on := on) (v := (jD h0 t W).C (nxL t s1) ((jD h0 t W).F i)) n130 ht0 P0 PL J2 iP lo lt (nb.2.2 lt) (fun j hj => ?_) onb (fun x x0 x1 => ?_) (by omega) (by omega) (by omega) (by omega) (by rw [k53]; exact CCi lt) cc.1 cc.2 (fun h3 F3 q12 q13 q56 => ?_)
        · rw [k54 j (by omega), gd, if_neg (by omega)]
        · rw [e2, xi_wi, if_neg (fun z => absurd z.1 (by decide)), e56]; exact fst x x0 x1
        · have J3 : JI h0 h3 := JI_fr J2 F3 (by decide) (by decide)
          have SX_ := J3.2.2.2.1
          have w3 : h3.tag 48 = 6 := by simp only [sxt SX_, sxl SX_, sxf SX_, true_and, and_true, false_and, and_false, forall_eq, forall_eq', xi_wi, xr_wi, xt_wi, xl_wi, xn_wi, xs_wi, xi_wr, xr_wr, xt_wr, xl_wr, xn_wr, xs_wr, if_true, if_false, and_self, Int.reduceEq, Int.reduceLT, Int.reduceLE, Int.reduceNeg, Int.le_refl, Int.reduceMod]
          have P3 := XPo_j J3 n130 P0
          refine ⟨w3, ?_⟩
          show xCi (d + 5) M_Poem_nextLine [(1, 48), (0, xw (((nxL t s1 : Nat) : Int) + 1))] h3 _
          rw [xw_id (a := ((nxL t s1 : Nat) : Int) + 1) (by omega) (by omega)]
          have z := c_X_nextLine (d := d + 4) (k := nxL t s1 + 1) (Q := fun r1 h4 => ∀ x2 : Int, x2 = xw ((i : Int) + 1) → xT (d + 5) M_Poem_layWithout 16 [(1, 48), (0, (o : Int)), (0, r1), (0, x2)] [] h4 (xqv Q)) SX_ P3 (by omega) (fun x2 ex => by
            rw [ex, jnx (show i < 100000 by omega)]
            have key := ih (i + 1) h3 (by omega) (Fr_trans F (Fr_trans F1 (Fr_trans F2 (Fr_mono F3 (by decide) (fun c mm => mm)))))
            rw [eS'] at key
            exact key (fun j hj => by rw [Fr_row F3 (c := 54) (by decide) (by decide)]; exact k54 j hj) (by rw [q12, k12]) (by rw [q13, k13]) q56)
          push_cast at z
          exact z
theorem c_X_jlay (I : INV n0 h0) (P0 : XPo h0 t W) (PL : PlI h0 P m) {o : Nat} (ho : o < 4096) {h : xH} (J : JI h0 h) (CC : ∀ i : Nat, i < P → o.testBit i = false → nxL t (layJ (jD h0 t W) o.testBit i).1 < 12 → h.i 53 (8 * ((nxL t (layJ (jD h0 t W) o.testBit i).1 : Nat) : Int) + (jD h0 t W).F i) = (jD h0 t W).C (nxL t (layJ (jD h0 t W) o.testBit i).1) ((jD h0 t W).F i)) (H : ∀ h', Fr [54, 56] [(48, 12), (48, 13)] h h' → h'.i 48 12 = jFa (jD h0 t W) o.testBit P → h'.i 48 13 = jPr (jD h0 t W) o.testBit P → (∀ j : Nat, j < 12 → h'.i 54 (j : Int) = (jOn (jD h0 t W) o.testBit P).getD j (-1)) → Q h') : xCv (d + 6) M_Poem_layWithout [(1, 48), (0, (o : Int))] h Q := by
  have n130 := I.2.2.1
  have ht0 := I.2.2.2.1
  have SX_ := J.2.2.2.1
  have g : h.tag 48 = 6 := by simp only [sxt SX_, sxl SX_, sxf SX_, true_and, and_true, false_and, and_false, forall_eq, forall_eq', xi_wi, xr_wi, xt_wi, xl_wi, xn_wi, xs_wi, xi_wr, xr_wr, xt_wr, xl_wr, xn_wr, xs_wr, if_true, if_false, and_self, Int.reduceEq, Int.reduceLT, Int.reduceLE, Int.reduceNeg, Int.le_refl, Int.reduceMod]
  have P1 := XPo_j J n130 P0
  apply L_Poem_layWithout
  refine ⟨g, ?_⟩
  refine c_X_nextLine (d := d + 4) (k := 0) SX_ P1 (by omega) ?_
  refine ⟨g, fun h2 e2 => ?_⟩
  have F2 : Fr [54, 56] [(48, 12), (48, 13)] h h2 := by rw [e2]; exact Fr_slot (Fr_refl _ _ _) _ (by decide)
  have J2 : JI h0 h2 := JI_fr J F2 (by decide) (by decide)
  have SX_ := J2.2.2.2.1
  have g2 : h2.tag 48 = 6 := by simp only [sxt SX_, sxl SX_, sxf SX_, true_and, and_true, false_and, and_false, forall_eq, forall_eq', xi_wi, xr_wi, xt_wi, xl_wi, xn_wi, xs_wi, xi_wr, xr_wr, xt_wr, xl_wr, xn_wr, xs_wr, if_true, if_false, and_self, Int.reduceEq, Int.reduceLT, Int.reduceLE, Int.reduceNeg, Int.le_refl, Int.reduceMod]
  refine ⟨g2, fun h3 e3 => ?_⟩
  have F3 : Fr [54, 56] [(48, 12), (48, 13)] h2 h3 := by rw [e3]; exact Fr_slot (Fr_refl _ _ _) _ (by decide)
  have J3 : JI h0 h3 := JI_fr J2 F3 (by decide) (by decide)
  have SX_ := J3.2.2.2.1
  have g3 : h3.tag 48 = 6 ∧ h3.r 48 18 = 56 ∧ h3.tag 56 = 20 ∧ h3.len 56 = 6 := by simp only [sxt SX_, sxl SX_, sxf SX_, true_and, and_true, false_and, and_false, forall_eq, forall_eq', xi_wi, xr_wi, xt_wi, xl_wi, xn_wi, xs_wi, xi_wr, xr_wr, xt_wr, xl_wr, xn_wr, xs_wr, if_true, if_false, and_self, Int.reduceEq, Int.reduceLT, Int.reduceLE, Int.reduceNeg, Int.le_refl, Int.reduceMod]
  obtain ⟨k1, k2, k3, k4⟩ := g3
  refine ⟨k1, ?_⟩
  rw [k2]
  apply L_Arrays_fill
  refine ⟨k3, fun x1 ex => ?_⟩
  rw [ex]
  refine c_fill_5 6 h3 0 k3 (by omega) (by decide) (by omega) (fun h4 F4 a4 b4 => ?_)
  have F4' : Fr [54, 56] [(48, 12), (48, 13)] h3 h4 := Fr_mono F4 (by decide) (fun c mm => absurd mm List.not_mem_nil)
  have FF := Fr_trans F2 (Fr_trans F3 F4')
  have e12 : h4.i 48 12 = 0 := by rw [F4.2 48 12 (by decide) (fun mm => absurd mm List.not_mem_nil), e3, xi_wi, if_neg (fun z => absurd z.2 (by decide)), e2, xi_wi, if_pos ⟨rfl, rfl⟩]
  have e13 : h4.i 48 13 = 0 := by rw [F4.2 48 13 (by decide) (fun mm => absurd mm List.not_mem_nil), e3, xi_wi, if_pos ⟨rfl, rfl⟩]
  have key := c_X_lw16 (d := d) (Q := Q) I P0 PL ho J CC H P 0 h4 (by omega) FF (fun j hj => absurd hj (Nat.not_lt_zero _)) e12 e13 (fun x x0 x1 => by rw [a4 x x0 (by omega)]; rfl)
  exact key
end JT
