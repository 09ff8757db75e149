/-! scanning: the reference's ways, kept by state -/
def Val (h : xH) (E : SEn) (s : Stt) : Prop := h.i 106 (scEnc E s) = scW E true s ∧ h.i 107 (scEnc E s) = (if scW E true s = 0 then 100000000 else scW E false s) ∧ (scFin E s = true ∨ ∀ o ∈ scOps E s, h.i 106 (scEnc E o.2.2) ≠ -1)
def MW (h : xH) (E : SEn) : Prop := ∀ s, scOk E s → h.i 106 (scEnc E s) = -1 ∨ Val h E s
def Mono (h h' : xH) : Prop := ∀ k, h.i 106 k ≠ -1 → h'.i 106 k ≠ -1
def FrW (v : Int) (h h' : xH) : Prop := Fr [98, 99, 100, 101, 102, 103, 104, 105, 106, 107] [(59, 55)] h h' ∧ (∀ c k, 98 ≤ c → c ≤ 104 → k < 64 * v → h'.i c k = h.i c k) ∧ ∀ k, k < v → h'.i 105 k = h.i 105 k
theorem FrW_refl (v : Int) (h : xH) : FrW v h h := ⟨Fr_refl _ _ _, fun _ _ _ _ _ => rfl, fun _ _ => rfl⟩
theorem FrW_trans {v : Int} {h h1 h2 : xH} (a : FrW v h h1) (b : FrW v h1 h2) : FrW v h h2 := ⟨Fr_trans a.1 b.1, fun c k u w x => (b.2.1 c k u w x).trans (a.2.1 c k u w x), fun k x => (b.2.2 k x).trans (a.2.2 k x)⟩
theorem FrW_mono {v w : Int} {h h' : xH} (hw : w ≤ v) (a : FrW v h h') : FrW w h h' := ⟨a.1, fun c k u x y => a.2.1 c k u x (by omega), fun k x => a.2.2 k (by omega)⟩
theorem FrW_L {v : Int} {h h' : xH} (a : FrL v h h') : FrW v h h' := ⟨Fr_mono a.1 (by decide) (fun _ q => q), fun c k u x y => a.2.1 c k u x (Or.inl y), fun k x => a.2.2 k (by omega)⟩
section RZ
variable {l f : Int} {E : SEn} {d : Nat}
theorem REn_w {v : Int} {h h' : xH} (F : FrW v h h') (R : REn h l f E) : REn h' l f E := REn_fr F.1 (by decide) R
theorem REn_l {v : Int} {h h' : xH} (F : FrL v h h') (R : REn h l f E) : REn h' l f E := REn_fr F.1 (by decide) R
theorem ORow_w {v w : Int} {h h' : xH} {L : List Op_} (F : FrW w h h') (hw : v < w) (O : ORow h E v L) : ORow h' E v L := by
  obtain ⟨a, b, c⟩ := O
  refine ⟨by rw [F.2.2 v hw]; exact a, b, fun j hj => ?_⟩
  have z := c j hj
  have e : ∀ x : Int, 98 ≤ x → x ≤ 104 → h'.i x (64 * v + (j : Int)) = h.i x (64 * v + (j : Int)) := fun x x0 x1 => F.2.1 x _ x0 x1 (by omega)
  unfold OCell at z ⊢
  rw [e 98 (by decide) (by decide), e 99 (by decide) (by decide), e 100 (by decide) (by decide), e 101 (by decide) (by decide), e 102 (by decide) (by decide), e 103 (by decide) (by decide), e 104 (by decide) (by decide)]
  exact z
theorem MW_L {v : Int} {h h' : xH} (F : FrL v h h') (M : MW h E) : MW h' E := by
  have e1 : h'.i 106 = h.i 106 := Fr_row F.1 (by decide) (by decide)
  have e2 : h'.i 107 = h.i 107 := Fr_row F.1 (by decide) (by decide)
  unfold MW Val at *
  rw [e1, e2]; exact M
theorem Mono_L {v : Int} {h h' : xH} (F : FrL v h h') : Mono h h' := fun k z => by
  rw [show h'.i 106 = h.i 106 from Fr_row F.1 (by decide) (by decide)]; exact z
theorem Val_ne {h : xH} {s : Stt} (ok : EOk E) (k : scOk E s) (V : Val h E s) : h.i 106 (scEnc E s) ≠ -1 := by
  have := scOk_i ok k
  have := ok.2.1
  rw [V.1]
  have := (scW_t ok (s := s) (by omega)).1
  omega
theorem c_R_mayEnd {s : Stt} {h : xH} {Q : Int → xH → Prop} (R : REn h l f E) (k : scOk E s) (H : Q (b2i (scFin E s)) h) : xCi (d + 2) M_R_mayEnd [(1, 59), (0, scEnc E s)] h Q := by
  have S := R.1
  have ok := reo R
  have n40 := ok.2.1
  have n1 := ok.1
  have hl := rel R
  have hf := ref R
  have p1 := ok.2.2.2.1
  have p8 := ok.2.2.2.2.1
  have eb := enc_bd ok k
  apply L_R_mayEnd
  rw [xdiv_eq (a := scEnc E s) eb.1 (by omega) (b := 192) (by decide) (by decide), xdiv_eq (a := scEnc E s) eb.1 (by omega) (b := 1728) (by decide) (by decide), xdiv_eq (a := scEnc E s) eb.1 (by omega) (b := 16) (by decide) (by decide), xdiv_eq (a := scEnc E s) eb.1 (by omega) (b := 4) (by decide) (by decide), xrem_eq (a := scEnc E s) eb.1 (by omega) (by decide) (by decide), xrem_eq (a := scEnc E s / 192) (by omega) (by omega) (by decide) (by decide), xrem_eq (a := scEnc E s / 16) (by omega) (by omega) (by decide) (by decide), xrem_eq (a := scEnc E s / 4) (by omega) (by omega) (by decide) (by decide), xw_id (a := scEnc E s / 192 % 9 - 1) (by omega) (by omega)]
  simp only [srt S, srl S, srf S, reL R, reF R, true_and, and_true, false_and, and_false, forall_eq, forall_eq', xi_wi, xr_wi, xt_wi, xl_wi, xn_wi, xs_wi, xi_wr, xr_wr, xt_wr, xl_wr, xn_wr, xs_wr, if_true, if_false, and_self, Int.reduceEq, Int.reduceLT, Int.reduceLE, Int.reduceNeg, Int.le_refl, Int.reduceMod]
  rw [re0 R, re5 R, xw_id (a := E 5 0 - 1) (by omega) (by omega)]
  obtain ⟨i, q, g, c⟩ := s
  unfold scFin at H
  simp only at H
  rcases k with k | k | k
  · have k1 := k.1
    simp only at k1
    have e : scEnc E (i, q, g, c) = 70848 := by unfold scEnc; rw [if_pos k1]
    rw [decide_eq_true k1, Bool.true_or] at H
    rw [e, if_pos rfl]; exact H
  · obtain ⟨a1, a2, a3, a4⟩ := k
    simp only at a1 a2 a3 a4
    subst a1 a2 a3 a4
    have e : scEnc E (0, -1, 0, 0) = 0 := rfl
    rw [e, if_neg (by decide), show (0 : Int) / 1728 = 0 by decide, if_neg (by omega)]
    rw [decide_eq_false (by decide : ¬ ((-1 : Int) = -2)), decide_eq_false (by omega : ¬ ((0 : Int) = E 0 0))] at H
    exact ⟨⟨by omega, by omega⟩, H⟩
  · obtain ⟨q0, q1, i0, i1, g0, g1, st, co⟩ := k
    simp only at q0 q1 i0 i1 g0 g1 st co
    have a := enc_dec ok q0 q1 (by omega) i1 g0 g1 st co
    have F := sc_stand ok g0 g1 st
    rw [if_neg (by omega), a.2.2.2.2, a.2.2.2.1, a.2.2.1, a.2.1, a.1, show q + 1 - 1 = q by omega]
    rw [decide_eq_false (by omega : ¬ (q = -2)), Bool.false_or, decide_eq_true q0, Bool.true_and] at H
    refine ⟨⟨by omega, by omega⟩, ?_⟩
    by_cases c1 : i = E 0 0
    · rw [if_pos c1, if_neg (by omega)]
      rw [decide_eq_true c1, Bool.true_and] at H
      refine ⟨⟨by omega, by omega⟩, ?_⟩
      by_cases c2 : q = E 5 0 - 1
      · rw [if_pos c2]
        rw [decide_eq_true c2, Bool.true_and] at H
        refine c_R_isOver R g0 g1 F co ?_
        cases z : scEnd E g c
        · rw [z] at H; rw [b2i_0, if_pos rfl]; exact H
        · rw [z] at H; rw [b2i_1, if_neg (by decide)]; exact H
      · rw [if_neg c2]
        rw [decide_eq_false c2, Bool.false_and] at H
        exact H
    · rw [if_neg c1]
      rw [decide_eq_false c1, Bool.false_and] at H
      exact H
theorem getD_mem' {L : List Op_} {j : Nat} (hj : j < L.length) : L.getD j op0 ∈ L := getD_mem op0 hj
theorem take_s {L : List Op_} {j : Nat} (hj : j < L.length) : L.take (j + 1) = L.take j ++ [L.getD j op0] := by
  rw [List.take_add_one, List.getD_eq_getElem?_getD, List.getElem?_eq_getElem hj]; rfl
/-- the best price so far -/
def bstV (E : SEn) (L : List Op_) : Int := if scF E true 0 L = 0 then 100000000 else scF E false 268435456 L
theorem c_ways_49 {s : Stt} {Q : Int → xH → Prop} {L : List Op_} {d' : Nat} (ok : EOk E) (k : scOk E s) (nf : scFin E s = false) (p : L.Perm (scOps E s)) (ih : ∀ (s' : Stt) (h : xH) (Q : Int → xH → Prop), s.1 < s'.1 → scOk E s' → REn h l f E → MW h E → (∀ h', FrW s'.1 h h' → MW h' E → Mono h h' → h'.i 106 (scEnc E s') ≠ -1 → Q (scW E true s') h') → xCi d' M_R_waysFrom [(1, 59), (0, scEnc E s')] h Q) : ∀ (m j : Nat) (h : xH) (u7 u8 u9 : xV), j + m = L.length → REn h l f E → MW h E → ORow h E s.1 L → (∀ o ∈ L.take j, h.i 106 (scEnc E o.2.2) ≠ -1) → (∀ h', FrW s.1 h h' → MW h' E → Mono h h' → h'.i 106 (scEnc E s) ≠ -1 → Q (scW E true s) h') → xT d' M_R_waysFrom 49 [(1, 59), (0, scEnc E s), (0, s.1), (0, (L.length : Nat)), (0, scF E true 0 (L.take j)), (0, bstV E (L.take j)), (0, (j : Int)), u7, u8, u9] [] h (xqi Q) := by
  have si := scOk_i ok k
  have n40 := ok.2.1
  have eb := enc_bd ok k
  have mem : ∀ o ∈ L, s.1 < o.2.2.1 ∧ o.2.2.1 ≤ E 0 0 ∧ 0 ≤ o.2.1 ∧ o.2.1 ≤ 50 ∧ scOk E o.2.2 := fun o m => by
    have a := p.mem_iff.mp m
    have b := scOps_nx a
    have c := scOps_ok ok k a
    exact ⟨b.2.1, b.2.2.1, b.2.2.2, c.2, c.1⟩
  have bd : ∀ j, 0 ≤ scF E true 0 (L.take j) ∧ scF E true 0 (L.take j) ≤ 1000000000 := fun j => scF_t _ _ (by decide) (by decide) (fun o m => (scW_t ok (by have := mem o (List.mem_of_mem_take m); omega)).1)
  have rl : ∀ j, scRel E (50 * (42 - s.1)) (scF E true 0 (L.take j)) (scF E false 268435456 (L.take j)) := fun j => scRel_F _ _ _ (by decide) (by decide) (by decide) (by decide) ⟨fun _ => rfl, fun z => absurd z (by decide)⟩ (fun o m => by
    have q := mem o (List.mem_of_mem_take m)
    have r := scW_rel ok (41 - o.2.2.1).toNat o.2.2 (by omega) q.2.2.2.2
    unfold scRel at r ⊢
    refine ⟨q.2.2.1, ⟨(scW_t ok (by omega)).1, (scW_f ok (by omega)).1⟩, r.1, fun w => ?_⟩
    have := r.2 w
    omega)
  intro m
  induction m with
  | zero =>
    intro j h u7 u8 u9 hj R M O set H
    have S := R.1
    have e : L.take j = L := List.take_of_length_le (by omega)
    apply L_R_waysFrom_49
    rw [if_neg (by omega)]
    simp only [srt S, srl S, srf S, true_and, and_true, false_and, and_false, forall_eq, forall_eq', xi_wi, xr_wi, xt_wi, xl_wi, xn_wi, xs_wi, xi_wr, xr_wr, xt_wr, xl_wr, xn_wr, xs_wr, if_true, if_false, and_self, Int.reduceEq, Int.reduceLT, Int.reduceLE, Int.reduceNeg, Int.le_refl, Int.reduceMod]
    have b : 0 ≤ scEnc E s ∧ scEnc E s < 70849 := by omega
    rw [e] at set ⊢
    have eW : scF E true 0 L = scW E true s := by
      rw [scW_eq ok true (by omega), nf, if_neg (by decide)]
      exact scF_perm true p 0 (fun o m => ⟨(mem o m).2.2.1, (scW_t ok (by have := mem o m; omega)).1⟩)
    have eL : scF E false 268435456 L = scW E false s := by
      rw [scW_eq ok false (by omega), nf, if_neg (by decide)]
      exact scF_perm false p _ (fun o m => ⟨(mem o m).2.2.1, (scW_f ok (by have := mem o m; omega)).1⟩)
    have eB : bstV E L = if scW E true s = 0 then 100000000 else scW E false s := by unfold bstV; rw [eW, eL]
    rw [eB, eW]
    refine ⟨b, b, ?_⟩
    have wn := (scW_t ok (s := s) (by omega)).1
    have F : FrW s.1 h ((h.wi 106 (scEnc E s) (scW E true s)).wi 107 (scEnc E s) (if scW E true s = 0 then 100000000 else scW E false s)) := by
      refine ⟨Fr_cell (Fr_cell (Fr_refl _ _ _) _ _ (by decide)) _ _ (by decide), fun c k x0 x1 _ => ?_, fun k _ => by simp only [true_and, and_true, false_and, and_false, forall_eq, forall_eq', xi_wi, xr_wi, xt_wi, xl_wi, xn_wi, xs_wi, xi_wr, xr_wr, xt_wr, xl_wr, xn_wr, xs_wr, if_true, if_false, and_self, Int.reduceEq, Int.reduceLT, Int.reduceLE, Int.reduceNeg, Int.le_refl, Int.reduceMod]⟩
      rw [xi_wi, if_neg (by omega), xi_wi, if_neg (by omega)]
    have Mo : Mono h ((h.wi 106 (scEnc E s) (scW E true s)).wi 107 (scEnc E s) (if scW E true s = 0 then 100000000 else scW E false s)) := by
      intro k hk
      simp only [true_and, and_true, false_and, and_false, forall_eq, forall_eq', xi_wi, xr_wi, xt_wi, xl_wi, xn_wi, xs_wi, xi_wr, xr_wr, xt_wr, xl_wr, xn_wr, xs_wr, if_true, if_false, and_self, Int.reduceEq, Int.reduceLT, Int.reduceLE, Int.reduceNeg, Int.le_refl, Int.reduceMod]
      by_cases c : k = scEnc E s
      · rw [if_pos c]; omega
      · rw [if_neg c]; exact hk
    refine H _ F ?_ Mo (by simp only [true_and, and_true, false_and, and_false, forall_eq, forall_eq', xi_wi, xr_wi, xt_wi, xl_wi, xn_wi, xs_wi, xi_wr, xr_wr, xt_wr, xl_wr, xn_wr, xs_wr, if_true, if_false, and_self, Int.reduceEq, Int.reduceLT, Int.reduceLE, Int.reduceNeg, Int.le_refl, Int.reduceMod]; omega)
    intro t ht
    by_cases c : t = s
    · subst c
      refine Or.inr ⟨by simp only [true_and, and_true, false_and, and_false, forall_eq, forall_eq', xi_wi, xr_wi, xt_wi, xl_wi, xn_wi, xs_wi, xi_wr, xr_wr, xt_wr, xl_wr, xn_wr, xs_wr, if_true, if_false, and_self, Int.reduceEq, Int.reduceLT, Int.reduceLE, Int.reduceNeg, Int.le_refl, Int.reduceMod], by simp only [true_and, and_true, false_and, and_false, forall_eq, forall_eq', xi_wi, xr_wi, xt_wi, xl_wi, xn_wi, xs_wi, xi_wr, xr_wr, xt_wr, xl_wr, xn_wr, xs_wr, if_true, if_false, and_self, Int.reduceEq, Int.reduceLT, Int.reduceLE, Int.reduceNeg, Int.le_refl, Int.reduceMod], Or.inr (fun o ho => Mo _ (set o (p.mem_iff.mpr ho)))⟩
    · have ne : ¬ (scEnc E t = scEnc E s) := fun z => c (enc_inj ok ht k z)
      rcases M t ht with y | y
      · refine Or.inl ?_
        simp only [true_and, and_true, false_and, and_false, forall_eq, forall_eq', xi_wi, xr_wi, xt_wi, xl_wi, xn_wi, xs_wi, xi_wr, xr_wr, xt_wr, xl_wr, xn_wr, xs_wr, if_true, if_false, and_self, Int.reduceEq, Int.reduceLT, Int.reduceLE, Int.reduceNeg, Int.le_refl, Int.reduceMod]
        rw [if_neg ne]; exact y
      · obtain ⟨y1, y2, y3⟩ := y
        refine Or.inr ⟨?_, ?_, y3.imp id (fun z o ho => Mo _ (z o ho))⟩
        · simp only [true_and, and_true, false_and, and_false, forall_eq, forall_eq', xi_wi, xr_wi, xt_wi, xl_wi, xn_wi, xs_wi, xi_wr, xr_wr, xt_wr, xl_wr, xn_wr, xs_wr, if_true, if_false, and_self, Int.reduceEq, Int.reduceLT, Int.reduceLE, Int.reduceNeg, Int.le_refl, Int.reduceMod]
          rw [if_neg ne]; exact y1
        · simp only [true_and, and_true, false_and, and_false, forall_eq, forall_eq', xi_wi, xr_wi, xt_wi, xl_wi, xn_wi, xs_wi, xi_wr, xr_wr, xt_wr, xl_wr, xn_wr, xs_wr, if_true, if_false, and_self, Int.reduceEq, Int.reduceLT, Int.reduceLE, Int.reduceNeg, Int.le_refl, Int.reduceMod]
          rw [if_neg ne]; exact y2
  | succ m ihm =>
    intro j h u7 u8 u9 hj R M O set H
    have S := R.1
    have jl : j < L.length := by omega
    have l64 := O.2.1
    have mo := mem _ (getD_mem' jl)
    have cell := O.2.2 j jl
    unfold OCell at cell
    have ts := take_s jl
    apply L_R_waysFrom_49
    rw [if_pos (by omega)]
    simp only [srt S, srl S, srf S, true_and, and_true, false_and, and_false, forall_eq, forall_eq', xi_wi, xr_wi, xt_wi, xl_wi, xn_wi, xs_wi, xi_wr, xr_wr, xt_wr, xl_wr, xn_wr, xs_wr, if_true, if_false, and_self, Int.reduceEq, Int.reduceLT, Int.reduceLE, Int.reduceNeg, Int.le_refl, Int.reduceMod]
    rw [xw_id (a := 64 * s.1) (by omega) (by omega), xw_id (a := 64 * s.1 + (j : Int)) (by omega) (by omega), cell.2.2.2.2.2.1, cell.2.2.2.2.2.2]
    refine ⟨⟨by omega, by omega⟩, ⟨by omega, by omega⟩, ?_⟩
    refine ih (L.getD j op0).2.2 h _ mo.1 mo.2.2.2.2 R M (fun h1 F1 M1 Mo1 st1 => ?_)
    have R1 := REn_w F1 R
    have S1 := R1.1
    have O1 := ORow_w F1 mo.1 O
    have F1' := FrW_mono (w := s.1) (by omega) F1
    have w0 := scW_t ok (s := (L.getD j op0).2.2) (by omega)
    have f0 := scW_f ok (s := (L.getD j op0).2.2) (by omega)
    have V := (M1 _ mo.2.2.2.2).resolve_left st1
    have b0 := bd j
    have r0 := rl j
    have en := enc_bd ok mo.2.2.2.2
    have r1 := scW_rel ok (41 - (L.getD j op0).2.2.1).toNat (L.getD j op0).2.2 (by omega) mo.2.2.2.2
    unfold scRel at r0 r1
    have eT : scF E true 0 (L.take (j + 1)) = min 1000000000 (scF E true 0 (L.take j) + scW E true (L.getD j op0).2.2) := by
      rw [ts, scF_app]; rfl
    have eP : scF E false 268435456 (L.take (j + 1)) = min (scF E false 268435456 (L.take j)) ((L.getD j op0).2.1 + scW E false (L.getD j op0).2.2) := by
      rw [ts, scF_app]; rfl
    have go : ∀ (T B : Int) (u7 u8 u9 : xV), T = scF E true 0 (L.take (j + 1)) → B = bstV E (L.take (j + 1)) → ∀ x : Int, x = xw ((j : Int) + 1) → xT d' M_R_waysFrom 49 [(1, 59), (0, scEnc E s), (0, s.1), (0, (L.length : Nat)), (0, T), (0, B), (0, x), u7, u8, u9] [] h1 (xqi Q) := by
      intro T B u7 u8 u9 hT hB x hx
      have hx' : x = ((j + 1 : Nat) : Int) := by rw [hx, xw_id (by omega) (by omega)]; push_cast; rfl
      rw [hT, hB, hx']
      refine ihm (j + 1) h1 u7 u8 u9 (by omega) R1 M1 O1 (fun o ho => ?_) (fun h2 F2 M2 Mo2 st2 => H h2 (FrW_trans F1' F2) M2 (fun k z => Mo2 k (Mo1 k z)) st2)
      rw [ts, List.mem_append, List.mem_singleton] at ho
      rcases ho with ho | ho
      · exact Mo1 _ (set o ho)
      · rw [ho]; exact st1
    have big : ∀ T, T = scF E true 0 (L.take (j + 1)) → xT d' M_R_waysFrom 84 [(1, 59), (0, scEnc E s), (0, s.1), (0, (L.length : Nat)), (0, scF E true 0 (L.take j)), (0, bstV E (L.take j)), (0, (j : Int)), (0, scEnc E (L.getD j op0).2.2), (0, (L.getD j op0).2.1), (0, scW E true (L.getD j op0).2.2)] [(0, T)] h1 (xqi Q) := by
      intro T hT
      have S := S1
      apply L_R_waysFrom_84
      by_cases c : 0 < scW E true (L.getD j op0).2.2
      · rw [if_pos c]
        simp only [srt S, srl S, srf S, true_and, and_true, false_and, and_false, forall_eq, forall_eq', xi_wi, xr_wi, xt_wi, xl_wi, xn_wi, xs_wi, xi_wr, xr_wr, xt_wr, xl_wr, xn_wr, xs_wr, if_true, if_false, and_self, Int.reduceEq, Int.reduceLT, Int.reduceLE, Int.reduceNeg, Int.le_refl, Int.reduceMod]
        have e107 : h1.i 107 (scEnc E (L.getD j op0).2.2) = scW E false (L.getD j op0).2.2 := by rw [V.2.1, if_neg (by omega)]
        have r2 := r1.2 c
        rw [e107, xw_id (a := scW E false (L.getD j op0).2.2 + (L.getD j op0).2.1) (by omega) (by omega)]
        refine ⟨⟨by omega, by omega⟩, ?_⟩
        have nb : bstV E (L.take (j + 1)) = if scW E false (L.getD j op0).2.2 + (L.getD j op0).2.1 < bstV E (L.take j) then scW E false (L.getD j op0).2.2 + (L.getD j op0).2.1 else bstV E (L.take j) := by
          unfold bstV
          rw [eT, eP, if_neg (by omega)]
          by_cases z : scF E true 0 (L.take j) = 0
          · have := r0.1 z
            rw [if_pos z, if_pos (by omega)]; omega
          · rw [if_neg z]
            by_cases y : scW E false (L.getD j op0).2.2 + (L.getD j op0).2.1 < scF E false 268435456 (L.take j)
            · rw [if_pos y]; omega
            · rw [if_neg y]; omega
        by_cases c2 : scW E false (L.getD j op0).2.2 + (L.getD j op0).2.1 < bstV E (L.take j)
        · rw [if_pos c2] at nb
          rw [if_pos c2]
          exact ⟨⟨by omega, by omega⟩, go T _ _ _ _ hT nb.symm _ rfl⟩
        · rw [if_neg c2] at nb
          rw [if_neg c2]
          exact go T _ _ _ _ hT nb.symm _ rfl
      · rw [if_neg c]
        refine go T _ _ _ _ hT ?_
        have z0 : scW E true (L.getD j op0).2.2 = 0 := by omega
        have := r1.1 z0
        have p1 : scF E false 268435456 (L.take j) ≤ 268435456 := (scF_f _ _ (by decide) (by decide) (fun o m => ⟨(mem o (List.mem_of_mem_take m)).2.2.1, (scW_f ok (by have := mem o (List.mem_of_mem_take m); omega)).1⟩)).2
        unfold bstV
        rw [eT, eP, z0, show min 1000000000 (scF E true 0 (L.take j) + 0) = scF E true 0 (L.take j) by omega]
        by_cases z : scF E true 0 (L.take j) = 0
        · rw [if_pos z, if_pos z]
        · rw [if_neg z, if_neg z]; omega
    rw [xw_id (a := scF E true 0 (L.take j) + scW E true (L.getD j op0).2.2) (by omega) (by omega)]
    by_cases c : 1000000000 < scF E true 0 (L.take j) + scW E true (L.getD j op0).2.2
    · rw [if_pos c]; exact big _ (by rw [eT]; omega)
    · rw [if_neg c]; exact big _ (by rw [eT]; omega)
theorem c_R_waysFrom : ∀ (n : Nat) (s : Stt) (h : xH) (Q : Int → xH → Prop), 42 - s.1 ≤ n → scOk E s → REn h l f E → MW h E → (∀ h', FrW s.1 h h' → MW h' E → Mono h h' → h'.i 106 (scEnc E s) ≠ -1 → Q (scW E true s) h') → xCi (d + n + 8) M_R_waysFrom [(1, 59), (0, scEnc E s)] h Q := by
  intro n
  induction n with
  | zero =>
    intro s h Q hn k R M H
    have := scOk_i (reo R) k
    have := (reo R).2.1
    omega
  | succ n ih =>
    intro s h Q hn k R M H
    have S := R.1
    have ok := reo R
    have si := scOk_i ok k
    have n40 := ok.2.1
    have eb := enc_bd ok k
    apply L_R_waysFrom
    simp only [srt S, srl S, srf S, true_and, and_true, false_and, and_false, forall_eq, forall_eq', xi_wi, xr_wi, xt_wi, xl_wi, xn_wi, xs_wi, xi_wr, xr_wr, xt_wr, xl_wr, xn_wr, xs_wr, if_true, if_false, and_self, Int.reduceEq, Int.reduceLT, Int.reduceLE, Int.reduceNeg, Int.le_refl, Int.reduceMod]
    refine ⟨⟨by omega, by omega⟩, ?_⟩
    by_cases c : h.i 106 (scEnc E s) = -1
    · rw [if_pos c]
      refine c_R_mayEnd R k ?_
      cases nf : scFin E s
      · rw [b2i_0, if_pos rfl]
        refine ⟨(srt S).1, ?_⟩
        have ndone : s.2.1 ≠ -2 := fun z => by
          have : scFin E s = true := by unfold scFin; rw [decide_eq_true z, Bool.true_or]
          rw [nf] at this; exact absurd this (by decide)
        have lv : lvS s = s.1 := by unfold lvS; rw [if_neg ndone]
        refine c_R_list (d := d + n + 1) R k (fun h1 F1 l1 P1 => ?_)
        rw [lv] at F1 l1 P1
        obtain ⟨L, O, sr, p⟩ := P1
        have R1 := REn_l F1 R
        have S := R1.1
        simp only [srt S, srl S, srf S, l1, true_and, and_true, false_and, and_false, forall_eq, forall_eq', xi_wi, xr_wi, xt_wi, xl_wi, xn_wi, xs_wi, xi_wr, xr_wr, xt_wr, xl_wr, xn_wr, xs_wr, if_true, if_false, and_self, Int.reduceEq, Int.reduceLT, Int.reduceLE, Int.reduceNeg, Int.le_refl, Int.reduceMod]
        have en : ¬ (scEnc E s = 70848) := by
          intro z
          have kd : scOk E (E 0 0, -2, 0, 0) := Or.inl ⟨rfl, rfl, rfl, rfl⟩
          have := enc_inj ok k kd (by rw [z]; rfl)
          rw [this] at ndone
          exact ndone rfl
        rw [if_neg en, O.1]
        refine ⟨⟨by omega, by omega⟩, ?_⟩
        have := c_ways_49 (Q := Q) (d' := d + n + 8) ok k nf p (fun s' h' Q' hs ks Rs Ms Hs => ih s' h' Q' (by omega) ks Rs Ms Hs) L.length 0 h1 (9, 0) (9, 0) (9, 0) (by omega) R1 (MW_L F1 M) O (fun o ho => absurd ho List.not_mem_nil) (fun h2 F2 M2 Mo2 st2 => H h2 (FrW_trans (FrW_L F1) F2) M2 (fun k z => Mo2 k (Mono_L F1 k z)) st2)
        exact this
      · rw [b2i_1, if_neg (by decide)]
        simp only [srt S, srl S, srf S, true_and, and_true, false_and, and_false, forall_eq, forall_eq', xi_wi, xr_wi, xt_wi, xl_wi, xn_wi, xs_wi, xi_wr, xr_wr, xt_wr, xl_wr, xn_wr, xs_wr, if_true, if_false, and_self, Int.reduceEq, Int.reduceLT, Int.reduceLE, Int.reduceNeg, Int.le_refl, Int.reduceMod]
        refine ⟨⟨by omega, by omega⟩, ⟨by omega, by omega⟩, ?_⟩
        have wT : scW E true s = 1 := by rw [scW_eq ok true (by omega), nf, if_pos rfl]; rfl
        have wF : scW E false s = 0 := by rw [scW_eq ok false (by omega), nf, if_pos rfl]; rfl
        have Mo : Mono h ((h.wi 106 (scEnc E s) 1).wi 107 (scEnc E s) 0) := by
          intro k hk
          simp only [true_and, and_true, false_and, and_false, forall_eq, forall_eq', xi_wi, xr_wi, xt_wi, xl_wi, xn_wi, xs_wi, xi_wr, xr_wr, xt_wr, xl_wr, xn_wr, xs_wr, if_true, if_false, and_self, Int.reduceEq, Int.reduceLT, Int.reduceLE, Int.reduceNeg, Int.le_refl, Int.reduceMod]
          by_cases c : k = scEnc E s
          · rw [if_pos c]; decide
          · rw [if_neg c]; exact hk
        have F : FrW s.1 h ((h.wi 106 (scEnc E s) 1).wi 107 (scEnc E s) 0) := by
          refine ⟨Fr_cell (Fr_cell (Fr_refl _ _ _) _ _ (by decide)) _ _ (by decide), fun c k x0 x1 _ => ?_, fun k _ => by simp only [true_and, and_true, false_and, and_false, forall_eq, forall_eq', xi_wi, xr_wi, xt_wi, xl_wi, xn_wi, xs_wi, xi_wr, xr_wr, xt_wr, xl_wr, xn_wr, xs_wr, if_true, if_false, and_self, Int.reduceEq, Int.reduceLT, Int.reduceLE, Int.reduceNeg, Int.le_refl, Int.reduceMod]⟩
          rw [xi_wi, if_neg (by omega), xi_wi, if_neg (by omega)]
        rw [wT] at H
        refine H _ F ?_ Mo (by simp only [true_and, and_true, false_and, and_false, forall_eq, forall_eq', xi_wi, xr_wi, xt_wi, xl_wi, xn_wi, xs_wi, xi_wr, xr_wr, xt_wr, xl_wr, xn_wr, xs_wr, if_true, if_false, and_self, Int.reduceEq, Int.reduceLT, Int.reduceLE, Int.reduceNeg, Int.le_refl, Int.reduceMod]; decide)
        intro t ht
        by_cases c : t = s
        · subst c
          refine Or.inr ⟨by rw [wT]; simp only [true_and, and_true, false_and, and_false, forall_eq, forall_eq', xi_wi, xr_wi, xt_wi, xl_wi, xn_wi, xs_wi, xi_wr, xr_wr, xt_wr, xl_wr, xn_wr, xs_wr, if_true, if_false, and_self, Int.reduceEq, Int.reduceLT, Int.reduceLE, Int.reduceNeg, Int.le_refl, Int.reduceMod], by rw [wT, wF]; simp only [true_and, and_true, false_and, and_false, forall_eq, forall_eq', xi_wi, xr_wi, xt_wi, xl_wi, xn_wi, xs_wi, xi_wr, xr_wr, xt_wr, xl_wr, xn_wr, xs_wr, if_true, if_false, and_self, Int.reduceEq, Int.reduceLT, Int.reduceLE, Int.reduceNeg, Int.le_refl, Int.reduceMod], Or.inl nf⟩
        · have ne : ¬ (scEnc E t = scEnc E s) := fun z => c (enc_inj ok ht k z)
          rcases M t ht with y | y
          · refine Or.inl ?_
            simp only [true_and, and_true, false_and, and_false, forall_eq, forall_eq', xi_wi, xr_wi, xt_wi, xl_wi, xn_wi, xs_wi, xi_wr, xr_wr, xt_wr, xl_wr, xn_wr, xs_wr, if_true, if_false, and_self, Int.reduceEq, Int.reduceLT, Int.reduceLE, Int.reduceNeg, Int.le_refl, Int.reduceMod]
            rw [if_neg ne]; exact y
          · obtain ⟨y1, y2, y3⟩ := y
            refine Or.inr ⟨?_, ?_, y3.imp id (fun z o ho => Mo _ (z o ho))⟩
            · simp only [true_and, and_true, false_and, and_false, forall_eq, forall_eq', xi_wi, xr_wi, xt_wi, xl_wi, xn_wi, xs_wi, xi_wr, xr_wr, xt_wr, xl_wr, xn_wr, xs_wr, if_true, if_false, and_self, Int.reduceEq, Int.reduceLT, Int.reduceLE, Int.reduceNeg, Int.le_refl, Int.reduceMod]
              rw [if_neg ne]; exact y1
            · simp only [true_and, and_true, false_and, and_false, forall_eq, forall_eq', xi_wi, xr_wi, xt_wi, xl_wi, xn_wi, xs_wi, xi_wr, xr_wr, xt_wr, xl_wr, xn_wr, xs_wr, if_true, if_false, and_self, Int.reduceEq, Int.reduceLT, Int.reduceLE, Int.reduceNeg, Int.le_refl, Int.reduceMod]
              rw [if_neg ne]; exact y2
    · rw [if_neg c]
      have V := (M s k).resolve_left c
      rw [V.1]
      exact ⟨⟨by omega, by omega⟩, H h (FrW_refl _ _) M (fun _ z => z) c⟩
end RZ
