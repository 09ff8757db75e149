/-! judge: the class' loop over the parts -/
theorem rk_z : ∀ k m o : Nat, m < 2 ^ k → sbM o m → rkN k m o = 0 → o = 0 := by
  intro k
  induction k with
  | zero =>
    intro m o hm h _
    have hm : m < 1 := hm
    have := sb_le h
    omega
  | succ k ih =>
    intro m o hm h e
    have le := sb_le h
    have p : 2 ^ (k + 1) = 2 * 2 ^ k := by rw [Nat.pow_succ]; omega
    have em : m = 2 * (m / 2) + m % 2 := by omega
    have eo : o = 2 * (o / 2) + o % 2 := by omega
    have h' := h
    rw [em, eo] at h'
    have s := (sb_2 (by omega) (by omega)).mp h'
    have s2 := s.2
    rw [rkN] at e
    by_cases c : m % 2 = 1
    · rw [if_pos c] at e
      have := ih (m / 2) (o / 2) (by omega) s.1 (by omega)
      omega
    · rw [if_neg c] at e
      have := ih (m / 2) (o / 2) (by omega) s.1 e
      omega
theorem sb_bit {o m : Nat} (h : sbM o m) (j : Nat) (b : o.testBit j = true) : m.testBit j = true := by
  unfold sbM at h
  rw [← h, Nat.testBit_and, Bool.and_eq_true] at b
  exact b.2
theorem Fr_cp {l : List Int} {l2 : List (Int × Int)} {h h1 : xH} (a : Fr l l2 h h1) (s sp : Int) {c : Int} (dp n : Int) (hc : c ∈ l) : Fr l l2 h (h1.cp s sp c dp n) := by
  refine ⟨a.1, fun x k hx hk => ?_⟩
  rw [xi_cp, if_neg (fun z => hx (by rw [z]; exact hc))]
  exact a.2 x k hx hk
def jwL : List Int := [54, 55, 56]
def jwS : List (Int × Int) := [(48, 12), (48, 13), (48, 15), (48, 16), (48, 17)]
/-- the best trial so far, as the class holds it -/
def bstX (h : xH) (b : Tr) : Prop := h.i 48 15 = b.1 ∧ h.i 48 16 = b.2.1 ∧ h.i 48 17 = ((b.2.2.1 : Nat) : Int) ∧ ∀ j : Nat, j < 12 → h.i 55 (j : Int) = b.2.2.2.getD j (-1)
section JO
variable {n0 : Nat} {h0 : xH} {t : Nat → Bool} {W : Nat → List Wd} {d : Nat} {Q : Int → xH → Prop} {m P : Nat}
theorem c_X_jl93 {o r : Nat} {u1 u4 : xV} {h : xH} (J : JI h0 h) (hr : (r : Int) < 64) {on : List Int} (rows : ∀ j : Nat, j < 12 → h.i 54 (j : Int) = on.getD j (-1)) (H : ∀ h', Fr jwL jwS h h' → bstX h' (h.i 48 12, h.i 48 13, o, on) → xT (d + 6) M_Poem_layLines 112 [(1, 48), u1, (0, (o : Int)), (0, (r : Int)), u4] [] h' (xqi Q)) : xT (d + 6) M_Poem_layLines 93 [(1, 48), u1, (0, (o : Int)), (0, (r : Int)), u4] [] h (xqi Q) := by
  have SX_ := J.2.2.2.1
  have g : h.tag 48 = 6 := by simp only [sxt SX_, sxl SX_, sxf SX_, true_and, and_true, false_and, and_false, forall_eq, forall_eq', xi_wi, xr_wi, xt_wi, xl_wi, xn_wi, xs_wi, xi_wr, xr_wr, xt_wr, xl_wr, xn_wr, xs_wr, if_true, if_false, and_self, Int.reduceEq, Int.reduceLT, Int.reduceLE, Int.reduceNeg, Int.le_refl, Int.reduceMod]
  apply L_Poem_layLines_93
  refine ⟨g, fun h1 e1 => ?_⟩
  have F1 : Fr jwL jwS h h1 := by rw [e1]; exact Fr_slot (Fr_refl _ _ _) _ (by decide)
  have y1 : h1.tag 48 = 6 := by rw [e1, xt_wi]; exact g
  refine ⟨y1, fun h2 e2 => ?_⟩
  have F2 : Fr jwL jwS h h2 := by rw [e2]; exact Fr_slot F1 _ (by decide)
  have y2 : h2.tag 48 = 6 := by rw [e2, xt_wi]; exact y1
  refine ⟨y2, fun h3 e3 => ?_⟩
  have F3 : Fr jwL jwS h h3 := by rw [e3]; exact Fr_slot F2 _ (by decide)
  have J3 : JI h0 h3 := JI_fr J F3 (by decide) (by decide)
  have SX_ := J3.2.2.2.1
  have y : h3.tag 48 = 6 ∧ h3.r 48 11 = 54 ∧ h3.tag 54 = 20 ∧ h3.len 54 = 12 ∧ h3.r 48 14 = 55 ∧ h3.tag 55 = 20 ∧ h3.len 55 = 12 := by simp only [sxt SX_, sxl SX_, sxf SX_, true_and, and_true, false_and, and_false, forall_eq, forall_eq', xi_wi, xr_wi, xt_wi, xl_wi, xn_wi, xs_wi, xi_wr, xr_wr, xt_wr, xl_wr, xn_wr, xs_wr, if_true, if_false, and_self, Int.reduceEq, Int.reduceLT, Int.reduceLE, Int.reduceNeg, Int.le_refl, Int.reduceMod]
  obtain ⟨z1, z2, z3, z4, z5, z6, z7⟩ := y
  refine ⟨z1, ?_⟩
  rw [z2, z4, z5, z7]
  refine ⟨⟨z3, z6, by decide, by decide, by decide, by decide, by decide⟩, fun h4 e4 => ?_⟩
  have F4 : Fr jwL jwS h h4 := by rw [e4]; exact Fr_cp F3 _ _ _ _ (by decide)
  have c : ∀ j, h4.i 48 j = h3.i 48 j := fun j => by rw [e4, xi_cp, if_neg (by decide)]
  have r54 : ∀ j, h3.i 54 j = h.i 54 j := fun j => by
    rw [e3, xi_wi, if_neg (fun z => absurd z.1 (by decide)), e2, xi_wi, if_neg (fun z => absurd z.1 (by decide)), e1, xi_wi, if_neg (fun z => absurd z.1 (by decide))]
  have e13 : h1.i 48 13 = h.i 48 13 := by rw [e1, xi_wi, if_neg (fun z => absurd z.2 (by decide))]
  refine H h4 F4 ⟨?_, ?_, ?_, fun j hj => ?_⟩
  · rw [c, e3, xi_wi, if_neg (fun z => absurd z.2 (by decide)), e2, xi_wi, if_neg (fun z => absurd z.2 (by decide)), e1, xi_wi, if_pos ⟨rfl, rfl⟩]
  · rw [c, e3, xi_wi, if_neg (fun z => absurd z.2 (by decide)), e2, xi_wi, if_pos ⟨rfl, rfl⟩, e13]
  · rw [c, e3, xi_wi, if_pos ⟨rfl, rfl⟩]
  · rw [e4, xi_cp, if_pos rfl]
    have zz := rows j hj
    rw [← r54] at zz
    unfold xcp
    rw [if_pos (by omega), show (0 : Int) + ((j : Int) - 0) = (j : Int) by omega]
    exact zz
theorem c_X_jl70 (I : INV n0 h0) (P0 : XPo h0 t W) (PL : PlI h0 P m) {hb : xH} (Jb : JI h0 hb) (CC : ∀ o : Nat, sbM o m → ∀ i : Nat, i < P → o.testBit i = false → nxL t (layJ (jD h0 t W) o.testBit i).1 < 12 → hb.i 53 (8 * ((nxL t (layJ (jD h0 t W) o.testBit i).1 : Nat) : Int) + (jD h0 t W).F i) = (jD h0 t W).C (nxL t (layJ (jD h0 t W) o.testBit i).1) ((jD h0 t W).F i)) (H : ∀ h', JI h0 h' → bstX h' (bsT (jD h0 t W) P m (m + 1)) → Q (bsT (jD h0 t W) P m (m + 1)).1 h') : ∀ (n o : Nat) (h : xH) (u1 u4 : xV), m < o + n → sbM o m → Fr jwL jwS hb h → (0 < o → bstX h (bsT (jD h0 t W) P m o)) → xT (d + 6) M_Poem_layLines 70 [(1, 48), u1, (0, (o : Int)), (0, ((rkN 12 m o : Nat) : Int)), u4] [] h (xqi Q) := by
  have n130 := I.2.2.1
  have ht0 := I.2.2.2.1
  have hm : m < 2 ^ 12 := PL.2.2.2.2.2.1
  have hm' : m < 4096 := PL.2.2.2.2.2.1
  intro n
  induction n with
  | zero =>
    intro o h u1 u4 hn sb F B
    have := sb_le sb
    omega
  | succ n ih =>
    intro o h u1 u4 hn sb F B
    have le := sb_le sb
    have r64 : rkN 12 m o < 64 := rk_64 PL.2.2.2.2.2.2.2
    have J : JI h0 h := JI_fr Jb F (by decide) (by decide)
    have SX_ := J.2.2.2.1
    have g : h.tag 48 = 6 := by simp only [sxt SX_, sxl SX_, sxf SX_, true_and, and_true, false_and, and_false, forall_eq, forall_eq', xi_wi, xr_wi, xt_wi, xl_wi, xn_wi, xs_wi, xi_wr, xr_wr, xt_wr, xl_wr, xn_wr, xs_wr, if_true, if_false, and_self, Int.reduceEq, Int.reduceLT, Int.reduceLE, Int.reduceNeg, Int.le_refl, Int.reduceMod]
    -- behind the trial
    have go : ∀ (h2 : xH) (u1 : xV), Fr jwL jwS hb h2 → bstX h2 (bsT (jD h0 t W) P m (o + 1)) → xT (d + 6) M_Poem_layLines 112 [(1, 48), u1, (0, (o : Int)), (0, ((rkN 12 m o : Nat) : Int)), u4] [] h2 (xqi Q) := fun h2 u1 F2 B2 => by
      have J2 : JI h0 h2 := JI_fr Jb F2 (by decide) (by decide)
      have SX_ := J2.2.2.2.1
      have g2 : h2.tag 48 = 6 := by simp only [sxt SX_, sxl SX_, sxf SX_, true_and, and_true, false_and, and_false, forall_eq, forall_eq', xi_wi, xr_wi, xt_wi, xl_wi, xn_wi, xs_wi, xi_wr, xr_wr, xt_wr, xl_wr, xn_wr, xs_wr, if_true, if_false, and_self, Int.reduceEq, Int.reduceLT, Int.reduceLE, Int.reduceNeg, Int.le_refl, Int.reduceMod]
      have e8 : h2.i 48 8 = (m : Int) := by rw [jslot J2 n130 ht0 (by decide) (by decide) (by decide) (by decide)]; exact PL.2.2.2.2.1
      apply L_Poem_layLines_112
      refine ⟨g2, ?_⟩
      rw [e8, xand_next hm' sb]
      have nl := nxS_least 12 m o hm sb
      intro x1 e1
      rw [e1]
      by_cases c : o = m
      · rw [nl.1 c, if_pos (show ((0 : Nat) : Int) = 0 from rfl), B2.1]
        rw [c] at B2 ⊢
        exact H h2 J2 B2
      · have nl2 := nl.2.1 c
        rw [if_neg (by omega)]
        intro x2 e2
        rw [e2, xw_id (a := ((rkN 12 m o : Nat) : Int) + 1) (by omega) (by omega)]
        have key := ih (nxS 12 m o) h2 (xkl u1) u4 (by omega) nl2.1 F2 (fun _ => by
          rw [bsT_skip (D := jD h0 t W) (P := P) (m := m) (a := o + 1) (nxS 12 m o) (by omega) (fun s s0 s1 y => by
            have := (nl.2.2 s y (by omega)).2
            omega)]
          exact B2)
        rw [rk_nx 12 m o hm sb c] at key
        push_cast at key
        exact key
    apply L_Poem_layLines_70
    rw [if_pos (by omega)]
    refine ⟨g, ?_⟩
    refine c_X_jlay (d := d) I P0 PL (o := o) (by omega) J (fun i hi b lt => ?_) (fun h1 F1 f1 p1 r1 => ?_)
    · rw [Fr_row F (c := 53) (by decide) (by decide)]; exact CC o sb i hi b lt
    · have F1' : Fr jwL jwS h h1 := Fr_mono F1 (by decide) (by decide)
      have J1 : JI h0 h1 := JI_fr J F1' (by decide) (by decide)
      have SX_ := J1.2.2.2.1
      have g1 : h1.tag 48 = 6 := by simp only [sxt SX_, sxl SX_, sxf SX_, true_and, and_true, false_and, and_false, forall_eq, forall_eq', xi_wi, xr_wi, xt_wi, xl_wi, xn_wi, xs_wi, xi_wr, xr_wr, xt_wr, xl_wr, xn_wr, xs_wr, if_true, if_false, and_self, Int.reduceEq, Int.reduceLT, Int.reduceLE, Int.reduceNeg, Int.le_refl, Int.reduceMod]
      have eT : trJ (jD h0 t W) P o = (h1.i 48 12, h1.i 48 13, o, jOn (jD h0 t W) o.testBit P) := by rw [f1, p1]; rfl
      have new : bsT (jD h0 t W) P m (o + 1) = trJ (jD h0 t W) P o → xT (d + 6) M_Poem_layLines 93 [(1, 48), u1, (0, (o : Int)), (0, ((rkN 12 m o : Nat) : Int)), u4] [] h1 (xqi Q) := fun e => by
        refine c_X_jl93 (d := d) J1 (by omega) r1 (fun h2 F2 B2 => go h2 u1 (Fr_trans F (Fr_trans F1' F2)) ?_)
        rw [e, eT]; exact B2
      by_cases c0 : o = 0
      · have z0 : ((rkN 12 m o : Nat) : Int) = 0 := by rw [c0, rk_0]; rfl
        rw [if_pos z0]
        exact new (by rw [c0]; exact bsT_1 _ _ _)
      · have z0 : ¬ ((rkN 12 m o : Nat) : Int) = 0 := fun z => c0 (rk_z 12 m o hm sb (by omega))
        rw [if_neg z0]
        have Bo := B (by omega)
        have B1 : bstX h1 (bsT (jD h0 t W) P m o) := by
          refine ⟨?_, ?_, ?_, fun j hj => ?_⟩
          · rw [F1.2 48 15 (by decide) (by decide)]; exact Bo.1
          · rw [F1.2 48 16 (by decide) (by decide)]; exact Bo.2.1
          · rw [F1.2 48 17 (by decide) (by decide)]; exact Bo.2.2.1
          · rw [Fr_row F1 (c := 55) (by decide) (by decide)]; exact Bo.2.2.2 j hj
        have old : trB (trJ (jD h0 t W) P o) (bsT (jD h0 t W) P m o) = false → xT (d + 6) M_Poem_layLines 112 [(1, 48), u1, (0, (o : Int)), (0, ((rkN 12 m o : Nat) : Int)), u4] [] h1 (xqi Q) := fun e => by
          refine go h1 u1 (Fr_trans F F1') ?_
          rw [bsT_n (fun z => by rw [e] at z; exact absurd z.2 (by decide))]
          exact B1
        have tb : trB (trJ (jD h0 t W) P o) (bsT (jD h0 t W) P m o) = true ↔ h1.i 48 12 < h1.i 48 15 ∨ (h1.i 48 12 = h1.i 48 15 ∧ h1.i 48 13 < h1.i 48 16) := by
          rw [trB_iff, eT, B1.1, B1.2.1]
        refine ⟨g1, ?_⟩
        by_cases c1 : h1.i 48 12 < h1.i 48 15
        · rw [if_pos c1]
          exact new (bsT_y sb (tb.mpr (Or.inl c1)))
        · rw [if_neg c1]
          by_cases c2 : h1.i 48 12 = h1.i 48 15
          · rw [if_pos c2]
            by_cases c3 : h1.i 48 13 < h1.i 48 16
            · rw [if_pos c3]
              exact new (bsT_y sb (tb.mpr (Or.inr ⟨c2, c3⟩)))
            · rw [if_neg c3]
              exact old (Bool.eq_false_iff.mpr (fun z => by rcases tb.mp z with y | y <;> omega))
          · rw [if_neg c2]
            exact old (Bool.eq_false_iff.mpr (fun z => by rcases tb.mp z with y | y <;> omega))
theorem c_X_layLines (I : INV n0 h0) (P0 : XPo h0 t W) (PL : PlI h0 P m) (p1 : 1 ≤ P) (H : ∀ h', JI h0 h' → bstX h' (bsT (jD h0 t W) P m (m + 1)) → Q (bsT (jD h0 t W) P m (m + 1)).1 h') : xCi (d + 8) M_Poem_layLines [(1, 48)] h0 Q := by
  have SX_ := I.1
  have S0 := XS_of I
  have P12 := PL.2.2.1
  have g : h0.tag 48 = 6 := by
    have := sxt SX_
    exact (sxt SX_).2.2.2.2.2.2.2.2.2.2.2.2.2.2.2.2.2.2.2.2.2.2.2.2.2.2.2.2.2.2.2.2.2.2.2.2.2.2.2.2.2.2.2.2.2.2.1
  have hm : m < 4096 := PL.2.2.2.2.2.1
  have cb := jD_C I P0
  apply L_Poem_layLines
  refine ⟨g, ?_⟩
  rw [PL.1, if_neg (by omega)]
  refine c_X_jl9 (d := d) (P := P) (m := m) I P0 PL.2.2.2.2.1 hm PL.1 P12 (fun i hi => (PL.2.2.2.1 i hi).1) (fun h1 u1 u4 J1 C1 => ?_) 12 0 h0 _ _ rfl (JI_refl S0) (fun k f hk hf lt => absurd lt (by omega))
  have key := c_X_jl70 (d := d + 1) (Q := Q) I P0 PL J1 (fun o sb i hi b lt => ?_) H (m + 1) 0 h1 u1 u4 (by omega) (by unfold sbM; exact Nat.zero_and m) (Fr_refl _ _ _) (fun z => absurd z (by decide))
  · rw [rk_0] at key
    exact key
  · have tk := (nxL_bd (t := t) (k := (layJ (jD h0 t W) o.testBit i).1) (layJ_bd (D := jD h0 t W) (out := o.testBit) cb i).1).2.2 lt
    have oce := layJ_oc (D := jD h0 t W) (out := o.testBit) cb i lt
    have ole := oc_le (out := o.testBit) (m := m) (i := i) (by omega) (fun j bj => sb_bit sb j bj)
    have pl := PL.2.2.2.1 i hi
    have eF : (jD h0 t W).F i = h0.i 118 (i : Int) := rfl
    have oce : ahN t (nxL t (layJ (jD h0 t W) o.testBit i).1) + oc o.testBit i = i := oce
    generalize nxL t (layJ (jD h0 t W) o.testBit i).1 = k at *
    obtain ⟨f, hf⟩ : ∃ f : Nat, (jD h0 t W).F i = (f : Int) := ⟨(h0.i 118 (i : Int)).toNat, by rw [eF]; omega⟩
    have ok := C1 k f lt (by omega) (by omega) tk
    rw [hf]
    rcases ok with ok | ok
    · push_cast at ok
      exact ok
    · exact absurd (by omega) (ok i (by omega) hi hf)
end JO
