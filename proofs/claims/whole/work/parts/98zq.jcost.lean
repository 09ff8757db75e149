/-! judge: the class' costs -/
def jL : List Int := 53 :: 54 :: 55 :: 56 :: scXL
def jS : List (Int × Int) := (48, 12) :: (48, 13) :: (48, 15) :: (48, 16) :: (48, 17) :: scXS
/-- how the class' heap stands against the one before the call -/
def JI (h0 h : xH) : Prop := FA jL jS [] scXR h0 h ∧ Tok h0 h ∧ Gro h0 h ∧ XS h
theorem j_low : low jL jS [] scXR = true := by decide
theorem j_okc : (jL.all okc && jS.all (fun q => okc q.1) && ([] : List Int).all okc && scXR.all (fun q => okc q.1)) = true := by decide
theorem JI_refl {h : xH} (S : XS h) : JI h h := ⟨FA_refl _ _ _ _ _, ⟨Or.inl rfl, Or.inl rfl⟩, Gro_refl h, S⟩
theorem JI_sc {h0 h h' : xH} (S0 : XS h0) (J : JI h0 h) (A : ScX h h') : JI h0 h' := by
  obtain ⟨a1, a2, a3, a4⟩ := J
  obtain ⟨b1, b2, b3, b4⟩ := A
  have n1 := a1.1
  have z2 := a2
  have y2 := b2
  unfold Tok at z2 y2
  exact ⟨FA_trans a1 a2.1 (FA_mono b1 (by decide) (by decide) (fun c m => absurd m List.not_mem_nil) (fun c m => m)), by unfold Tok; omega, Gro_trans S0.2.2.2.2.2.2.1 a3 b3, b4⟩
theorem JI_fr {h0 h h' : xH} {c : List Int} {c2 : List (Int × Int)} (J : JI h0 h) (G : Fr c c2 h h') (k1 : ∀ x ∈ c, x ∈ jL) (k2 : ∀ q ∈ c2, q ∈ jS) : JI h0 h' := by
  obtain ⟨a1, a2, a3, a4⟩ := J
  have n0 := a4.2.1
  exact ⟨FA_fq a1 G (fun x m => Or.inl (k1 x m)) k2, Tok_fq a2 G, Gro_fq a3 G, XS_q a4 G (fun x m => by have := (by decide : ∀ x ∈ jL, x < 130) x (k1 x m); omega) (fun q m => by have := (by decide : ∀ q ∈ jS, q.1 < 130) q (k2 q m); omega)⟩
theorem XPo_j {h0 h : xH} {t : Nat → Bool} {W : Nat → List Wd} (J : JI h0 h) (n : 130 ≤ h0.nx) (P : XPo h0 t W) : XPo h t W := by
  have r49 : h.r 49 = h0.r 49 := FA_rrow J.1 (by omega) (by decide)
  intro k hk
  obtain ⟨a, b⟩ := P k hk
  rw [r49]
  refine ⟨a, fun tk => ?_⟩
  obtain ⟨b1, b2, b3, b4, b5, b6⟩ := b tk
  have z := LineX_fa J.1 j_low J.2.1 b3 b4
  exact ⟨b1, b2, z.1, z.2.1, by rw [z.2.2]; exact b5, by rw [z.2.2]; exact b6⟩
theorem jrow {h0 h : xH} (J : JI h0 h) (n : 130 ≤ h0.nx) (ht : I_tab h0) {c : Int} (hc : c < 130) (n34 : c ≠ 34) (a : c ∉ jL) (b : ∀ q ∈ jS, q.1 ≠ c) : h.i c = h0.i c := FA_row J.1 (by omega) a b (by unfold I_tab at ht; omega)
theorem jslot {h0 h : xH} (J : JI h0 h) (n : 130 ≤ h0.nx) (ht : I_tab h0) {c k : Int} (hc : c < 130) (n34 : c ≠ 34) (a : c ∉ jL) (b : (c, k) ∉ jS) : h.i c k = h0.i c k := J.1.2.2.1 c k (by omega) a b (by unfold I_tab at ht; omega)
/-- the data of the poem form and of the poem -/
def jD (h0 : xH) (t : Nat → Bool) (W : Nat → List Wd) : JD := (t, fun i => h0.i 118 (i : Int), fun i => h0.i 119 (i : Int), fun i => h0.i 120 (i : Int), fun k f => if (t k = true ∧ k < 12 ∧ 0 ≤ f ∧ f ≤ 7) ∧ 0 < h0.i 95 f then chp (envR h0 ((k : Int) + 1) f) else -1, fw W, fun a b => decide ((W a).map (fun d => d.1) = (W b).map (fun d => d.1)))
def ahN (t : Nat → Bool) : Nat → Nat
  | 0 => 0
  | k + 1 => ahN t k + (if t k = true then 1 else 0)
theorem ahN_le (t : Nat → Bool) : ∀ k, ahN t k ≤ k := by
  intro k
  induction k with
  | zero => exact Nat.le_refl _
  | succ k ih => rw [ahN]; split <;> omega
def cM (m : Nat) (i : Nat) : Int := sumN (fun k => ((m % 2 ^ i : Nat) : Int) / 2 ^ k.toNat % 2) 12
theorem low_mask : ∀ i : Fin 12, xw (xshl 1 (i.val : Int) - 1) = ((2 ^ i.val - 1 : Nat) : Int) := by decide
theorem xand_mod {m i : Nat} (hi : i < 12) : xand (m : Int) (xw (xshl 1 (i : Int) - 1)) = ((m % 2 ^ i : Nat) : Int) := by
  have e := low_mask ⟨i, hi⟩
  simp only at e
  have lt : 2 ^ i ≤ 2 ^ 12 := Nat.pow_le_pow_right (by decide) (by omega)
  rw [e, xand_nn (by omega) (by omega) (by omega), Int.toNat_natCast, Int.toNat_natCast, Nat.and_two_pow_sub_one_eq_mod]
theorem jxA {k f : Int} (k0 : 0 ≤ k) (k1 : k < 12) (f0 : 0 ≤ f) (f1 : f < 8) : xw (xw (k * 8) + f) = 8 * k + f := by
  rw [xw_id (a := k * 8) (by omega) (by omega), xw_id (by omega) (by omega)]; omega
theorem jxB {k f : Int} (k0 : 0 ≤ k) (k1 : k < 12) (f0 : 0 ≤ f) (f1 : f < 8) : xw (xw (8 * k) + f) = 8 * k + f := by
  rw [xw_id (a := 8 * k) (by omega) (by omega), xw_id (by omega) (by omega)]
section JC
variable {n0 : Nat} {h0 : xH} {t : Nat → Bool} {W : Nat → List Wd} {d : Nat} {Q : Int → xH → Prop} {m P : Nat}
theorem c_X_mayLie2 {h : xH} {a : Nat} {f : Int} (SX_ : SX h) (em : h.i 48 8 = (m : Int)) (hm : m < 4096) (eP : h.i 48 9 = (P : Int)) (P12 : P ≤ 12) (H1 : Q 1 h) (H0 : (∀ i : Nat, a ≤ i → i < P → h.i 50 (i : Int) = f → ¬ ((i : Int) - (a : Int) ≤ cM m i)) → Q 0 h) : ∀ (n i : Nat) (u4 : xV), i + n = 12 → a ≤ i → (∀ j : Nat, a ≤ j → j < i → j < P → h.i 50 (j : Int) = f → ¬ ((j : Int) - (a : Int) ≤ cM m j)) → xT (d + 1) M_Poem_mayLieOn 2 [(1, 48), (0, (a : Int)), (0, f), (0, (i : Int)), u4] [] h (xqi Q) := by
  have g : h.tag 48 = 6 ∧ h.r 48 5 = 50 ∧ h.tag 50 = 20 ∧ h.len 50 = 12 := by simp only [sxt SX_, sxl SX_, sxf SX_, true_and, and_true, false_and, and_false, forall_eq, forall_eq', xi_wi, xr_wi, xt_wi, xl_wi, xn_wi, xs_wi, xi_wr, xr_wr, xt_wr, xl_wr, xn_wr, xs_wr, if_true, if_false, and_self, Int.reduceEq, Int.reduceLT, Int.reduceLE, Int.reduceNeg, Int.le_refl, Int.reduceMod]
  obtain ⟨g1, g2, g3, g4⟩ := g
  intro n
  induction n with
  | zero =>
    intro i u4 hi ha pre
    apply L_Poem_mayLieOn_2
    rw [if_neg (by omega)]
    refine ⟨g1, ?_⟩
    rw [eP, if_neg (by omega)]
    exact H0 (fun j j0 j1 => pre j j0 (by omega) j1)
  | succ n ih =>
    intro i u4 hi ha pre
    apply L_Poem_mayLieOn_2
    rw [if_neg (by omega)]
    refine ⟨g1, ?_⟩
    rw [eP]
    by_cases c : (i : Int) < (P : Int)
    · rw [if_pos c, if_pos (by omega), em, xand_mod (by omega)]
      refine c_bitCount (d := d) (m := m % 2 ^ i) (Nat.lt_of_le_of_lt (Nat.mod_le _ _) hm) ?_
      rw [g2, g4]
      refine ⟨g1, ⟨g3, by omega, by omega⟩, ?_⟩
      rw [xw_id (a := (i : Int) - (a : Int)) (by omega) (by omega), xw_id (a := (i : Int) + 1) (by omega) (by omega)]
      have nxt : ∀ u : xV, (h.i 50 (i : Int) = f → ¬ ((i : Int) - (a : Int) ≤ cM m i)) → xT (d + 1) M_Poem_mayLieOn 2 [(1, 48), (0, (a : Int)), (0, f), (0, (i : Int) + 1), u] [] h (xqi Q) := fun u no => by
        have := ih (i + 1) u (by omega) (by omega) (fun j j0 j1 j2 => by
          by_cases z : j = i
          · rw [z]; exact no
          · exact pre j j0 (by omega) j2)
        push_cast at this
        exact this
      by_cases c1 : h.i 50 (i : Int) = f
      · rw [if_pos c1]
        by_cases c2 : sumN (fun k => ((m % 2 ^ i : Nat) : Int) / 2 ^ k.toNat % 2) 12 < (i : Int) - (a : Int)
        · rw [if_pos c2]
          intro x1 e1
          rw [e1]
          exact nxt _ (fun _ y => by unfold cM at y; omega)
        · rw [if_neg c2]
          exact H1
      · rw [if_neg c1]
        intro x1 e1
        rw [e1]
        exact nxt _ (fun y => absurd y c1)
    · rw [if_neg c]
      exact H0 (fun j j0 j1 => pre j j0 (by omega) j1)
theorem c_X_mayLie {h : xH} {a : Nat} {f : Int} (SX_ : SX h) (em : h.i 48 8 = (m : Int)) (hm : m < 4096) (eP : h.i 48 9 = (P : Int)) (P12 : P ≤ 12) (a12 : a ≤ 12) (H1 : Q 1 h) (H0 : (∀ i : Nat, a ≤ i → i < P → h.i 50 (i : Int) = f → ¬ ((i : Int) - (a : Int) ≤ cM m i)) → Q 0 h) : xCi (d + 2) M_Poem_mayLieOn [(1, 48), (0, (a : Int)), (0, f)] h Q := by
  apply L_Poem_mayLieOn
  exact c_X_mayLie2 SX_ em hm eP P12 H1 H0 (12 - a) a _ (by omega) (Nat.le_refl _) (fun j j0 j1 => by omega)
theorem c_X_cost (I : INV n0 h0) (P0 : XPo h0 t W) {h : xH} {k f : Nat} (hk : k < 12) (hf : f < 8) (tk : t k = true) (J : JI h0 h) (H : ∀ h', JI h0 h' → h'.i 53 = h.i 53 → Q ((jD h0 t W).C k (f : Int)) h') : xCi (d + 7) M_Scanner_cheapest [(1, 28), (1, h0.r 49 (k : Int)), (0, (f : Int))] h Q := by
  have n130 := I.2.2.1
  have ht0 := I.2.2.2.1
  have S0 := XS_of I
  have nz := ((P0 k hk).1).mp tk
  have i4 := I.2.2.2.2.2.2.2.2.2.1
  have pf := i4.1 (f : Int) (by omega) (by omega)
  have eC : (jD h0 t W).C k (f : Int) = if (t k = true ∧ k < 12 ∧ (0 : Int) ≤ (f : Int) ∧ (f : Int) ≤ 7) ∧ 0 < h0.i 95 (f : Int) then chp (envR h0 ((k : Int) + 1) (f : Int)) else -1 := rfl
  by_cases np : 0 < h0.i 95 (f : Int)
  · rw [eC, if_pos ⟨⟨tk, hk, by omega, by omega⟩, np⟩] at H
    have X := XEn_g J.1 J.2.1 J.2.2.2 j_low j_okc (lnE_ok I (by omega) (by omega) np (k := (k : Int)) (by omega) (by omega) nz).2.2
    refine c_X_cheapest (d := d) J.2.2.2 X (fun h1 A1 _ _ => H h1 (JI_sc S0 J A1) ?_)
    have t1 := J.2.2.2.2.2.1
    have n1 := J.2.2.2.2.1
    exact FA_row A1.1 (by omega) (by decide) (by decide) (by unfold I_tab at t1; omega)
  · rw [eC, if_neg (fun z => np z.2)] at H
    have r25 : h.i 25 (f : Int) = h0.i 25 (f : Int) := by rw [jrow J n130 ht0 (c := 25) (by decide) (by decide) (by decide) (by decide)]
    have Pk := (XPo_j J n130 P0 k hk).2 tk
    have r49 : h.r 49 = h0.r 49 := FA_rrow J.1 (by omega) (by decide)
    rw [r49] at Pk
    obtain ⟨ok, w1, B, E, X, _⟩ := Pk
    have l6 : h.i (h0.r 49 (k : Int)) 6 = (((flat (W k)).length : Nat) : Int) := X.1
    have l1 : 1 ≤ (flat (W k)).length := (flatF_last (W k) 0 ok.2.2 w1).1
    have l40 := ok.2.1
    refine c_X_cheap_no (d := d + 4) J.2.2.2.1 B.2.2.1 nz (by omega) (by omega) (fun z => np ?_) (H h J rfl)
    have := z.2.2
    omega
theorem jD_C (I : INV n0 h0) (P0 : XPo h0 t W) (k : Nat) (f : Int) : -1 ≤ (jD h0 t W).C k f ∧ (jD h0 t W).C k f ≤ 2100 := by
  have eC : (jD h0 t W).C k f = if (t k = true ∧ k < 12 ∧ 0 ≤ f ∧ f ≤ 7) ∧ 0 < h0.i 95 f then chp (envR h0 ((k : Int) + 1) f) else -1 := rfl
  rw [eC]
  by_cases c : (t k = true ∧ k < 12 ∧ 0 ≤ f ∧ f ≤ 7) ∧ 0 < h0.i 95 f
  · rw [if_pos c]
    obtain ⟨⟨c1, c2, c3, c4⟩, c5⟩ := c
    exact chp_eq (lnE_ok I c3 c4 c5 (k := (k : Int)) (by omega) (by omega) (((P0 k c2).1).mp c1)).2.1.2.2.2.2.2.2.1
  · rw [if_neg c]; decide
def okC (h0 : xH) (t : Nat → Bool) (W : Nat → List Wd) (m P : Nat) (v : Int) (k f : Nat) : Prop := v = (jD h0 t W).C k (f : Int) ∨ ∀ i : Nat, ahN t k ≤ i → i < P → (jD h0 t W).F i = (f : Int) → ¬ ((i : Int) - ((ahN t k : Nat) : Int) ≤ cM m i)
def cInv (h0 : xH) (t : Nat → Bool) (W : Nat → List Wd) (m P : Nat) (g : Int → Int) (N : Nat) : Prop := ∀ k f : Nat, k < 12 → f < 8 → 8 * k + f < N → t k = true → okC h0 t W m P (g ((8 * k + f : Nat) : Int)) k f
theorem cInv_s {g g' : Int → Int} {k f : Nat} {v : Int} (hf : f < 8) (C : cInv h0 t W m P g (8 * k + f)) (e : ∀ j : Int, g' j = if j = ((8 * k + f : Nat) : Int) then v else g j) (o : t k = true → okC h0 t W m P v k f) : cInv h0 t W m P g' (8 * k + (f + 1)) := by
  intro k1 f1 hk1 hf1 lt tk
  rw [e]
  by_cases c : k1 = k ∧ f1 = f
  · rw [c.1, c.2, if_pos rfl]
    rw [c.1] at tk
    exact o tk
  · rw [if_neg (by omega)]
    exact C k1 f1 hk1 hf1 (by omega) tk
theorem c_X_jl9 (I : INV n0 h0) (P0 : XPo h0 t W) (em : h0.i 48 8 = (m : Int)) (hm : m < 4096) (eP : h0.i 48 9 = (P : Int)) (P12 : P ≤ 12) (eF : ∀ i : Nat, i < P → h0.i 50 (i : Int) = h0.i 118 (i : Int)) (H : ∀ h u1 u4, JI h0 h → cInv h0 t W m P (h.i 53) 96 → xT (d + 7) M_Poem_layLines 70 [(1, 48), u1, (0, 0), (0, 0), u4] [] h (xqi Q)) : ∀ (n k : Nat) (h : xH) (u3 u4 : xV), k + n = 12 → JI h0 h → cInv h0 t W m P (h.i 53) (8 * k) → xT (d + 7) M_Poem_layLines 9 [(1, 48), (0, ((ahN t k : Nat) : Int)), (0, (k : Int)), u3, u4] [] h (xqi Q) := by
  have n130 := I.2.2.1
  have ht0 := I.2.2.2.1
  intro n
  induction n with
  | zero =>
    intro k h u3 u4 hk J C
    have e12 : k = 12 := by omega
    subst e12
    apply L_Poem_layLines_9
    rw [if_neg (by decide)]
    exact H h _ _ J C
  | succ n ih =>
    intro k h u3 u4 hk J C
    have inner : ∀ (n2 f : Nat) (h : xH) (u4 : xV), f + n2 = 8 → JI h0 h → cInv h0 t W m P (h.i 53) (8 * k + f) → xT (d + 7) M_Poem_layLines 14 [(1, 48), (0, ((ahN t k : Nat) : Int)), (0, (k : Int)), (0, (f : Int)), u4] [] h (xqi Q) := by
      intro n2
      induction n2 with
      | zero =>
        intro f h u4 hf J C
        have SX_ := J.2.2.2.1
        have g : h.tag 48 = 6 ∧ h.r 48 3 = 49 ∧ h.tag 49 = 23 ∧ h.len 49 = 12 := by simp only [sxt SX_, sxl SX_, sxf SX_, true_and, and_true, false_and, and_false, forall_eq, forall_eq', xi_wi, xr_wi, xt_wi, xl_wi, xn_wi, xs_wi, xi_wr, xr_wr, xt_wr, xl_wr, xn_wr, xs_wr, if_true, if_false, and_self, Int.reduceEq, Int.reduceLT, Int.reduceLE, Int.reduceNeg, Int.le_refl, Int.reduceMod]
        obtain ⟨g1, g2, g3, g4⟩ := g
        have r49 : h.r 49 = h0.r 49 := FA_rrow J.1 (by omega) (by decide)
        have al := ahN_le t k
        have C' : cInv h0 t W m P (h.i 53) (8 * (k + 1)) := by
          rw [show 8 * (k + 1) = 8 * k + f by omega]; exact C
        apply L_Poem_layLines_14
        rw [if_neg (by omega), g2, g4, r49]
        refine ⟨g1, ⟨g3, by omega, by omega⟩, ?_⟩
        have key := ih (k + 1) h (0, (f : Int)) u4 (by omega) J C'
        rw [xw_id (a := ((ahN t k : Nat) : Int) + 0) (by omega) (by omega), xw_id (a := ((ahN t k : Nat) : Int) + 1) (by omega) (by omega), xw_id (a := (k : Int) + 1) (by omega) (by omega)]
        by_cases c : h0.r 49 (k : Int) = 0
        · have tk : ¬ t k = true := fun z => ((P0 k (by omega)).1.mp z) c
          rw [if_pos c]
          intro x1 e1 x2 e2
          rw [e1, e2]
          rw [ahN, if_neg tk, Nat.add_zero] at key
          rw [Int.add_zero]
          push_cast at key
          exact key
        · have tk : t k = true := (P0 k (by omega)).1.mpr c
          rw [if_neg c]
          intro x1 e1 x2 e2
          rw [e1, e2]
          rw [ahN, if_pos tk] at key
          push_cast at key
          exact key
      | succ n2 ih2 =>
        intro f h u4 hf J C
        have SX_ := J.2.2.2.1
        have g : h.tag 48 = 6 ∧ h.r 48 3 = 49 ∧ h.tag 49 = 23 ∧ h.len 49 = 12 ∧ h.r 48 10 = 53 ∧ h.tag 53 = 20 ∧ h.len 53 = 96 ∧ h.r 48 1 = 28 ∧ h.tag 28 = 8 := by simp only [sxt SX_, sxl SX_, sxf SX_, true_and, and_true, false_and, and_false, forall_eq, forall_eq', xi_wi, xr_wi, xt_wi, xl_wi, xn_wi, xs_wi, xi_wr, xr_wr, xt_wr, xl_wr, xn_wr, xs_wr, if_true, if_false, and_self, Int.reduceEq, Int.reduceLT, Int.reduceLE, Int.reduceNeg, Int.le_refl, Int.reduceMod]
        obtain ⟨g1, g2, g3, g4, g5, g6, g7, g8, g9⟩ := g
        have r49 : h.r 49 = h0.r 49 := FA_rrow J.1 (by omega) (by decide)
        have al := ahN_le t k
        have kb : (0 : Int) ≤ (k : Int) ∧ (k : Int) < 12 ∧ (0 : Int) ≤ (f : Int) ∧ (f : Int) < 8 := by omega
        have nx : ∀ (h1 h2 : xH) (v : Int) (u : xV), JI h0 h1 → h1.i 53 = h.i 53 → (t k = true → okC h0 t W m P v k f) → h2 = h1.wi 53 (xw (xw ((k : Int) * 8) + (f : Int))) v → xT (d + 7) M_Poem_layLines 14 [(1, 48), (0, ((ahN t k : Nat) : Int)), (0, (k : Int)), (0, xw ((f : Int) + 1)), u] [] h2 (xqi Q) := fun h1 h2 v u J1 e53 o e2 => by
          rw [jxA kb.1 kb.2.1 kb.2.2.1 kb.2.2.2] at e2
          have G : Fr [53] [] h1 h2 := by rw [e2]; exact Fr_cell (Fr_refl _ _ _) _ _ (by decide)
          have := ih2 (f + 1) h2 u (by omega) (JI_fr J1 G (by decide) (by decide)) (cInv_s (v := v) (by omega) (g := h1.i 53) (by rw [e53]; exact C) (fun j => by
            rw [e2, xi_wi]
            by_cases z : j = ((8 * k + f : Nat) : Int)
            · rw [if_pos z, if_pos ⟨rfl, by omega⟩]
            · rw [if_neg z, if_neg (fun y => z (by omega))]) o)
          rw [xw_id (a := (f : Int) + 1) (by omega) (by omega)]
          push_cast at this
          exact this
        have no30 : (t k = true → okC h0 t W m P (-1) k f) → xT (d + 7) M_Poem_layLines 30 [(1, 48), (0, ((ahN t k : Nat) : Int)), (0, (k : Int)), (0, (f : Int)), u4] [(0, 0)] h (xqi Q) := fun o => by
          apply L_Poem_layLines_30
          refine ⟨g1, ?_⟩
          rw [if_pos rfl, g5, g7]
          refine ⟨⟨g6, by rw [jxA kb.1 kb.2.1 kb.2.2.1 kb.2.2.2]; omega, by rw [jxA kb.1 kb.2.1 kb.2.2.1 kb.2.2.2]; omega⟩, fun h1 e1 x1 ex => ?_⟩
          rw [ex]
          exact nx h h1 (-1) _ J rfl o e1
        apply L_Poem_layLines_14
        rw [if_pos (by omega), g2, g4, r49]
        refine ⟨g1, ⟨g3, by omega, by omega⟩, ?_⟩
        by_cases c : h0.r 49 (k : Int) = 0
        · rw [if_pos c]
          exact no30 (fun tk => absurd c ((P0 k (by omega)).1.mp tk))
        · have tk : t k = true := (P0 k (by omega)).1.mpr c
          rw [if_neg c]
          have r50 := jrow J n130 ht0 (c := 50) (by decide) (by decide) (by decide) (by decide)
          refine c_X_mayLie (d := d + 5) (m := m) (P := P) SX_ (by rw [jslot J n130 ht0 (by decide) (by decide) (by decide) (by decide)]; exact em) hm (by rw [jslot J n130 ht0 (by decide) (by decide) (by decide) (by decide)]; exact eP) P12 (by omega) ?_ (fun no => ?_)
          · rw [if_neg (by decide)]
            apply L_Poem_layLines_30
            refine ⟨g1, ?_⟩
            rw [if_neg (by decide), g2, g4, g5, g8, r49]
            refine ⟨⟨g3, by omega, by omega⟩, g9, ?_⟩
            refine c_X_cost (d := d) I P0 (by omega) (by omega) tk J (fun h1 J1 e53 => ?_)
            have SX_ := J1.2.2.2.1
            have y : h1.tag 53 = 20 ∧ h1.len 53 = 96 := by simp only [sxt SX_, sxl SX_, sxf SX_, true_and, and_true, false_and, and_false, forall_eq, forall_eq', xi_wi, xr_wi, xt_wi, xl_wi, xn_wi, xs_wi, xi_wr, xr_wr, xt_wr, xl_wr, xn_wr, xs_wr, if_true, if_false, and_self, Int.reduceEq, Int.reduceLT, Int.reduceLE, Int.reduceNeg, Int.le_refl, Int.reduceMod]
            rw [y.2]
            refine ⟨⟨y.1, by rw [jxA kb.1 kb.2.1 kb.2.2.1 kb.2.2.2]; omega, by rw [jxA kb.1 kb.2.1 kb.2.2.1 kb.2.2.2]; omega⟩, fun h2 e2 x2 ex => ?_⟩
            rw [ex]
            exact nx h1 h2 _ _ J1 e53 (fun _ => Or.inl rfl) e2
          · rw [if_pos rfl]
            refine no30 (fun _ => Or.inr (fun i i0 i1 iF => no i i0 i1 ?_))
            rw [r50, eF i i1]
            exact iF
    apply L_Poem_layLines_9
    rw [if_pos (by omega)]
    exact inner 8 0 h _ (by omega) J C
end JC
