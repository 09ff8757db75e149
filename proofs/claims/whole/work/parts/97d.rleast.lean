/-! learn: the reference goes along the first of the cheapest readings -/
noncomputable def bsO (E : SEn) (s : Stt) : Op_ := @Classical.epsilon Op_ ⟨op0⟩ (Best E s)
noncomputable def pth (E : SEn) : Nat → Stt → List Int
  | 0, _ => []
  | n + 1, s => if E 0 0 ≤ s.1 then [] else (bsO E s).1.1 :: pth E n (bsO E s).2.2
section RU
variable {l f : Int} {E : SEn} {d : Nat}
theorem bsO_eq (ok : EOk E) {s : Stt} (k : scOk E s) {o : Op_} (b : Best E s o) : bsO E s = o := best_one ok k (@Classical.epsilon_spec Op_ (Best E s) ⟨o, b⟩) b
theorem pth_eq (ok : EOk E) : ∀ (n : Nat) (s : Stt) (L : List Int), scOk E s → Pth E n s L → L = pth E n s := by
  intro n
  induction n with
  | zero => intro s L _ P; exact False.elim P
  | succ n ih =>
    intro s L k P
    rcases P with ⟨c, e⟩ | ⟨c, o, L', b, e, P⟩
    · show L = if E 0 0 ≤ s.1 then [] else _
      rw [if_pos c]; exact e
    · show L = if E 0 0 ≤ s.1 then [] else _
      rw [if_neg (by omega), bsO_eq ok k b, e, ← ih o.2.2 L' (scOps_ok ok k b.1).1 P]
theorem Pth_len (ok : EOk E) : ∀ (n : Nat) (s : Stt) (L : List Int), scOk E s → Pth E n s L → ((L.length : Nat) : Int) ≤ E 0 0 - s.1 ∧ (s.1 < E 0 0 → 1 ≤ L.length) ∧ ∀ w ∈ L, 0 ≤ w ∧ w ≤ 5 := by
  intro n
  induction n with
  | zero => intro s L _ P; exact False.elim P
  | succ n ih =>
    intro s L k P
    have si := scOk_i ok k
    rcases P with ⟨c, e⟩ | ⟨c, o, L', b, e, P⟩
    · rw [e]
      exact ⟨by show (0 : Int) ≤ _; omega, fun z => by omega, fun w m => absurd m List.not_mem_nil⟩
    · have no := scOps_ok ok k b.1
      have nx := scOps_nx b.1
      have z := ih o.2.2 L' no.1 P
      have ko := key_ok ok k b.1
      rw [e]
      refine ⟨by rw [List.length_cons]; push_cast; omega, fun _ => by rw [List.length_cons]; omega, fun w m => ?_⟩
      rw [List.mem_cons] at m
      rcases m with m | m
      · rw [m]; rcases ko with q | q <;> omega
      · exact z.2.2 w m
def cntW (w : Int) (L : List Int) : Int := ((L.countP (fun x => decide (x = w)) : Nat) : Int)
theorem cntW_c (w x : Int) (L : List Int) : cntW w (x :: L) = (if x = w then 1 else 0) + cntW w L := by
  unfold cntW
  rw [List.countP_cons]
  by_cases c : x = w
  · rw [if_pos c, if_pos (decide_eq_true c)]; push_cast; omega
  · rw [if_neg c, if_neg (by rw [decide_eq_false c]; decide)]; push_cast; omega
theorem cntW_bd (w : Int) (L : List Int) : 0 ≤ cntW w L ∧ cntW w L ≤ ((L.length : Nat) : Int) := by
  unfold cntW
  have := List.countP_le_length (p := fun x => decide (x = w)) (l := L)
  omega
def rlL : List Int := [98, 99, 100, 101, 102, 103, 104, 105, 106, 107, 129]
theorem REn_ln {h h' : xH} (F : Fr rlL [(59, 55)] h h') (R : REn h l f E) : REn h' l f E := REn_fr F (by decide) R
theorem fin_W (ok : EOk E) {s : Stt} (k : scOk E s) (w : 0 < scW E true s) : scFin E s = true ↔ E 0 0 ≤ s.1 := by
  have si := scOk_i ok k
  have n40 := ok.2.1
  constructor
  · intro z
    unfold scFin at z
    simp only [Bool.or_eq_true, Bool.and_eq_true, decide_eq_true_eq] at z
    rcases z with z | z
    · rcases k with q | q | q <;> omega
    · omega
  · intro z
    cases c : scFin E s
    · exfalso
      rw [scW_eq ok true (by omega), c, if_neg (by decide)] at w
      have e : scOps E s = [] := by unfold scOps; rw [if_pos z]
      rw [e] at w
      exact absurd w (by show ¬ (0 < (0 : Int)); decide)
    · rfl
theorem c_R_learn_55 {h : xH} {Q : Int → xH → Prop} {s : Stt} {L : List Op_} {u1 : Int} {l2 l3 l4 v : Int} {u7 : xV} (R : REn h l f E) (M : MW h E) (k : scOk E s) (hv : v = s.1) (s1 : s.1 < E 0 0) (w : 0 < scW E true s) (st : h.i 106 (scEnc E s) ≠ -1) (O : ORow h E v L) (sr : Srt L) (pm : L.Perm (scOps E s)) (H : ∀ (o : Op_) (a : Int), Best E s o → 0 < scW E true o.2.2 → h.i 106 (scEnc E o.2.2) ≠ -1 → 0 ≤ a → a < 2688 → h.i 98 a = o.1.1 → h.i 103 a = scEnc E o.2.2 → ((0 : Int) ≤ o.1.1 ∧ o.1.1 < 6) ∧ (∀ h1 : xH, h1 = h.wi 129 o.1.1 (xw (h.i 129 o.1.1 + 1)) → ∀ x1 : Int, x1 = xw (l3 + 1) → xT d M_R_learn 43 [(1, 59), (0, u1), (0, l2), (0, x1), (0, l4), (0, scEnc E o.2.2), (0, a), u7] [] h1 (xqi Q))) : ∀ (m j : Nat), j + m = L.length → (∀ j' : Nat, j' < j → ¬ (0 < scW E true (L.getD j' op0).2.2 ∧ vO E (L.getD j' op0) = scW E false s)) → xT d M_R_learn 55 [(1, 59), (0, u1), (0, l2), (0, l3), (0, l4), (0, scEnc E s), (0, 64 * v + (j : Int)), u7] [] h (xqi Q) := by
  have S := R.1
  have ok := reo R
  have n40 := ok.2.1
  have l64 := O.2.1
  have si := scOk_i ok k
  have V := (M s k).resolve_left st
  have set := set_ops R M k st
  have es := enc_bd ok k
  have nf : scFin E s = false := by
    cases z : scFin E s
    · rfl
    · have := (fin_W ok k w).mp z; omega
  -- there is a cheapest one
  have rel := scW_rel ok (41 - s.1).toNat s (by omega) k
  have lt : scW E false s ≤ 50 * (42 - s.1) := rel.2 w
  have we := scW_eq ok false (s := s) (by omega)
  rw [nf, if_neg (by decide)] at we
  have mn := scF_min (E := E) (scOps E s) 268435456
  rw [show (268435456 : Int) = scZ false from rfl, ← we] at mn
  have z0 : scZ false = 268435456 := rfl
  obtain ⟨ob, mob, eob⟩ := mn.2.2.resolve_left (by omega)
  have nxt_w : ∀ o ∈ scOps E s, vO E o = scW E false s → 0 < scW E true o.2.2 := fun o mo eo => by
    have no := scOps_ok ok k mo
    have nx := scOps_nx mo
    have r2 := scW_rel ok (41 - o.2.2.1).toNat o.2.2 (by omega) no.1
    have wt := scW_t ok (s := o.2.2) (by omega)
    by_cases c : scW E true o.2.2 = 0
    · have := r2.1 c
      unfold vO at eo
      omega
    · omega
  intro m
  induction m with
  | zero =>
    intro j hj no
    exfalso
    obtain ⟨i, hi, ei⟩ := List.mem_iff_getElem.mp (pm.mem_iff.mpr mob)
    have := no i (by omega)
    rw [List.getD_eq_getElem?_getD, List.getElem?_eq_getElem hi] at this
    have e : (some L[i]).getD op0 = ob := ei
    rw [e] at this
    exact this ⟨nxt_w ob mob eob.symm, eob.symm⟩
  | succ m ih =>
    intro j hj no
    have jl : j < L.length := by omega
    have mem := getD_mem' jl
    have mo := pm.mem_iff.mp mem
    have cell := O.2.2 j jl
    have n1 := scOps_ok ok k mo
    have nx := scOps_nx mo
    have eb := enc_bd ok n1.1
    have Vn := (M _ n1.1).resolve_left (set _ mo)
    have wt := scW_t ok (s := (L.getD j op0).2.2) (by omega)
    have wf := scW_f ok (s := (L.getD j op0).2.2) (by omega)
    have ko := key_ok ok k mo
    have kw : 0 ≤ (L.getD j op0).1.1 ∧ (L.getD j op0).1.1 < 6 := by rcases ko with q | q <;> omega
    have nxs : ∀ x : Int, x = xw (64 * v + (j : Int) + 1) → x = 64 * v + ((j + 1 : Nat) : Int) := fun x hx => by rw [hx, xw_id (by omega) (by omega)]; push_cast; omega
    have skip : ¬ (0 < scW E true (L.getD j op0).2.2 ∧ vO E (L.getD j op0) = scW E false s) → ∀ x : Int, x = xw (64 * v + (j : Int) + 1) → xT d M_R_learn 55 [(1, 59), (0, u1), (0, l2), (0, l3), (0, l4), (0, scEnc E s), (0, x), u7] [] h (xqi Q) := fun c x hx => by
      rw [nxs x hx]
      clear hx
      refine ih (j + 1) (by omega) (fun j' a => ?_)
      by_cases z : j' = j
      · rw [z]; exact c
      · exact no j' (by omega)
    apply L_R_learn_55
    simp only [srt S, srl S, srf S, true_and, and_true, false_and, and_false, forall_eq, forall_eq', xi_wi, xr_wi, xt_wi, xl_wi, xn_wi, xs_wi, xi_wr, xr_wr, xt_wr, xl_wr, xn_wr, xs_wr, if_true, if_false, and_self, Int.reduceEq, Int.reduceLT, Int.reduceLE, Int.reduceNeg, Int.le_refl, Int.reduceMod]
    rw [cell.2.2.2.2.2.1, Vn.1]
    refine ⟨⟨by omega, by omega⟩, ⟨by omega, by omega⟩, ?_⟩
    by_cases c : 0 < scW E true (L.getD j op0).2.2
    · rw [if_pos c, cell.2.2.2.2.2.2, Vn.2.1, V.2.1, if_neg (show ¬ scW E true (L.getD j op0).2.2 = 0 by omega), if_neg (show ¬ scW E true s = 0 by omega), xw_id (a := (L.getD j op0).2.1 + scW E false (L.getD j op0).2.2) (by omega) (by omega), cell.1]
      refine ⟨⟨by omega, by omega⟩, ⟨by omega, by omega⟩, ⟨by omega, by omega⟩, ⟨by omega, by omega⟩, ?_⟩
      by_cases c2 : (L.getD j op0).2.1 + scW E false (L.getD j op0).2.2 = scW E false s
      · rw [if_pos c2]
        have B : Best E s (L.getD j op0) := by
          refine ⟨mo, c2, fun o' mo' eo' => ?_⟩
          obtain ⟨i, hi, ei⟩ := List.mem_iff_getElem.mp (pm.mem_iff.mpr mo')
          have gi : L.getD i op0 = o' := by rw [List.getD_eq_getElem?_getD, List.getElem?_eq_getElem hi]; exact ei
          have ij : ¬ i < j := fun z => by
            have := no i z
            rw [gi] at this
            exact this ⟨nxt_w o' mo' eo', eo'⟩
          by_cases z : i = j
          · rw [z] at gi; rw [gi]; exact Int.le_refl _
          · have kl := sr j i (by omega) hi
            rw [gi] at kl
            by_cases ek : (L.getD j op0).1 = o'.1
            · rw [ek]; exact Int.le_refl _
            · exact Int.le_of_lt (kk_lt ko (key_ok ok k mo') kl ek)
        have K := H (L.getD j op0) (64 * v + (j : Int)) B c (set _ mo) (by omega) (by omega) cell.1 cell.2.2.2.2.2.1
        refine ⟨⟨by omega, by omega⟩, ⟨by omega, by omega⟩, ⟨by omega, by omega⟩, ⟨by omega, by omega⟩, ?_⟩
        exact K.2 _ rfl _ rfl
      · rw [if_neg c2]
        exact skip (fun z => c2 z.2) _ rfl
    · rw [if_neg c]
      exact skip (fun z => c z.1) _ rfl
theorem c_R_learn_43 : ∀ (n : Nat) (s : Stt) (h : xH) (l2 l3 l4 : Int) (u1 : Int) (u6 u7 : xV) (Q : Int → xH → Prop), 42 - s.1 ≤ n → REn h l f E → MW h E → scOk E s → h.i 106 (scEnc E s) ≠ -1 → 0 < scW E true s → 0 ≤ l3 → l3 ≤ 1000 + s.1 → (∀ w, 0 ≤ w → w < 6 → 0 ≤ h.i 129 w ∧ h.i 129 w ≤ 1000 + s.1) → (∀ h' L u5 u6, Pth E n s L → Fr rlL [(59, 55)] h h' → REn h' l f E → (∀ w, 0 ≤ w → w < 6 → h'.i 129 w = h.i 129 w + cntW w L) → ∀ x, x = xw (l4 + 1) → xT (d + 8) M_R_learn 24 [(1, 59), (0, u1), (0, l2), (0, l3 + ((L.length : Nat) : Int)), (0, x), u5, u6, u7] [] h' (xqi Q)) → xT (d + 8) M_R_learn 43 [(1, 59), (0, u1), (0, l2), (0, l3), (0, l4), (0, scEnc E s), u6, u7] [] h (xqi Q) := by
  intro n
  induction n with
  | zero =>
    intro s h l2 l3 l4 u1 u6 u7 Q hn R M k
    have := scOk_i (reo R) k
    have := (reo R).2.1
    omega
  | succ n ih =>
    intro s h l2 l3 l4 u1 u6 u7 Q hn R M k st w c0 c1 ub H
    have S := R.1
    have ok := reo R
    have n40 := ok.2.1
    have si := scOk_i ok k
    have fw := fin_W ok k w
    apply L_R_learn_43
    refine ⟨(srt S).1, ?_⟩
    refine c_R_mayEnd R k ?_
    cases z : scFin E s
    · have s1 : s.1 < E 0 0 := by
        by_cases c : s.1 < E 0 0
        · exact c
        · have := fw.mpr (by omega); rw [z] at this; exact absurd this (by decide)
      rw [b2i_0, if_pos rfl]
      refine ⟨(srt S).1, ?_⟩
      refine c_R_list (d := d + 1) R k (fun h1 F1 l1 P1 => ?_)
      obtain ⟨L, O, sr, pm⟩ := P1
      have R1 := REn_l F1 R
      have M1 := MW_L F1 M
      have lv : lvS s = s.1 := by
        unfold lvS
        rw [if_neg (fun y => by rcases k with q | q | q <;> omega)]
      have e106 : h1.i 106 = h.i 106 := Fr_row F1.1 (by decide) (by decide)
      have e107 : h1.i 107 = h.i 107 := Fr_row F1.1 (by decide) (by decide)
      have e129 : h1.i 129 = h.i 129 := Fr_row F1.1 (by decide) (by decide)
      rw [lv] at O l1
      refine ⟨(srt R1.1).1, fun x1 e1 => ?_⟩
      rw [l1, xw_id (a := 64 * s.1) (by omega) (by omega)] at e1
      subst e1
      have := c_R_learn_55 (d := d + 8) (Q := Q) (u1 := u1) (l2 := l2) (l3 := l3) (l4 := l4) (u7 := u7) R1 M1 k rfl s1 w (by rw [e106]; exact st) O sr pm (fun o a B wo so a0 a1 ea en => ?_) L.length 0 (by omega) (fun j' a => absurd a (Nat.not_lt_zero _))
      · rw [show 64 * s.1 + ((0 : Nat) : Int) = 64 * s.1 by omega] at this
        exact this
      · have ko := key_ok ok k B.1
        have kw : 0 ≤ o.1.1 ∧ o.1.1 < 6 := by rcases ko with q | q <;> omega
        have no := scOps_ok ok k B.1
        have nx := scOps_nx B.1
        have u := ub _ kw.1 kw.2
        refine ⟨kw, fun h2 e2 x3 e3 => ?_⟩
        rw [e129, xw_id (a := h.i 129 o.1.1 + 1) (by omega) (by omega)] at e2
        rw [xw_id (by omega) (by omega)] at e3
        subst e3
        have F2 : Fr [129] [] h1 h2 := by rw [e2]; exact Fr_cell (Fr_refl _ _ _) _ _ (by decide)
        have v2 : ∀ x, h2.i 129 x = h.i 129 x + if o.1.1 = x then 1 else 0 := fun x => by
          rw [e2, xi_wi, e129]
          by_cases y : x = o.1.1
          · rw [if_pos ⟨rfl, y⟩, if_pos y.symm, y]
          · rw [if_neg (fun t => y t.2), if_neg (fun t => y t.symm)]; omega
        have F12 : Fr rlL [(59, 55)] h h2 := Fr_trans (Fr_mono F1.1 (by decide) (by decide)) (Fr_mono F2 (by decide) (fun c m => absurd m List.not_mem_nil))
        have e2' : h2.i 106 = h1.i 106 := Fr_row F2 (by decide) (by decide)
        have e7' : h2.i 107 = h1.i 107 := Fr_row F2 (by decide) (by decide)
        have M2 : MW h2 E := by
          intro t kt
          have := M1 t kt
          unfold Val at this ⊢
          rw [e2', e7']; exact this
        refine ih o.2.2 h2 l2 (l3 + 1) l4 u1 _ u7 Q (by push_cast at hn; omega) (REn_ln F12 R) M2 no.1 (by rw [e2']; exact so) wo (by omega) (by omega) (fun x x0 x1 => ?_) (fun h' L' u5 u6 P F RR q x ex => ?_)
        · have := ub x x0 x1
          rw [v2]
          by_cases y : o.1.1 = x
          · rw [if_pos y]; omega
          · rw [if_neg y]; omega
        · have := H h' (o.1.1 :: L') u5 u6 (Or.inr ⟨s1, o, L', B, rfl, P⟩) (Fr_trans F12 F) RR (fun x x0 x1 => by rw [q x x0 x1, v2, cntW_c]; omega) x ex
          rw [show l3 + 1 + ((L'.length : Nat) : Int) = l3 + (((o.1.1 :: L').length : Nat) : Int) by rw [List.length_cons]; push_cast; omega]
          exact this
    · rw [b2i_1, if_neg (by decide)]
      intro x2 e2
      have := H h [] (0, scEnc E s) u6 (Or.inl ⟨fw.mp z, rfl⟩) (Fr_refl _ _ _) R (fun x _ _ => by show _ = _ + (0 : Int); omega) x2 e2
      rw [show l3 + ((([] : List Int).length : Nat) : Int) = l3 by show l3 + (0 : Int) = l3; omega] at this
      exact this
end RU
