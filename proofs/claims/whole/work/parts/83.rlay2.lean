/-! lay: the reference's readings, all of them -/
section YM
variable {l f : Int} {E : SEn} {d : Nat}
theorem REn_y {v i : Int} {h h' : xH} (F : FrY v i h h') (R : REn h l f E) : REn h' l f E := REn_fr F.1 (by decide) R
theorem ORow_y {v w i : Int} {h h' : xH} {L : List Op_} (F : FrY w i h h') (hw : v < w) (O : ORow h E v L) : ORow h' E v L := by
  obtain ⟨a, b, c⟩ := O
  refine ⟨by rw [F.2.2.1 v hw]; exact a, b, fun j hj => ?_⟩
  have z := c j hj
  have e : ∀ x : Int, 98 ≤ x → x ≤ 104 → h'.i x (64 * v + (j : Int)) = h.i x (64 * v + (j : Int)) := fun x x0 x1 => F.2.1 x _ x0 x1 (by omega)
  unfold OCell at z ⊢
  rw [e 98 (by decide) (by decide), e 99 (by decide) (by decide), e 100 (by decide) (by decide), e 101 (by decide) (by decide), e 102 (by decide) (by decide), e 103 (by decide) (by decide), e 104 (by decide) (by decide)]
  exact z
theorem MW_y {v i : Int} {h h' : xH} (F : FrY v i h h') (M : MW h E) : MW h' E := by
  have e1 : h'.i 106 = h.i 106 := Fr_row F.1 (by decide) (by decide)
  have e2 : h'.i 107 = h.i 107 := Fr_row F.1 (by decide) (by decide)
  unfold MW Val at *
  rw [e1, e2]; exact M
theorem StepR_y {v i : Int} {h h' : xH} {x : Rd} (F : FrY v i h h') (hi : (x.length : Int) ≤ i) (S : StepR h x) : StepR h' x := fun j hj w w0 w1 => by
  rw [F.2.2.2 _ (by omega)]
  exact S j hj w w0 w1
theorem prR_app (x : Rd) (a : Int × Op_) : prR (x ++ [a]) = prR x + a.2.2.1 := by
  unfold prR
  rw [List.map_append, List.sum_append]
  show _ + (a.2.2.1 + 0) = _
  omega
theorem c_R_write {h : xH} {Q : xH → Prop} {x : Rd} {a v : Int} {o : Op_} (S : SR h) (C : OCell h E a o) (a0 : 0 ≤ a) (a1 : a < 2688) (lx : x.length ≤ 40) (St : StepR h x) (H : ∀ h', Fr [111] [] h h' → (∀ k, k < 6 * (x.length : Int) → h'.i 111 k = h.i 111 k) → StepR h' (x ++ [(v, o)]) → Q h') : xCv (d + 1) M_R_write [(1, 59), (0, (x.length : Nat)), (0, a), (0, v)] h Q := by
  obtain ⟨e1, e2, e3, e4, e5, -, -⟩ := C
  apply L_R_write
  rw [xw_id (a := 6 * ((x.length : Nat) : Int)) (by omega) (by omega), xw_id (a := 6 * ((x.length : Nat) : Int) + 1) (by omega) (by omega), xw_id (a := 6 * ((x.length : Nat) : Int) + 2) (by omega) (by omega), xw_id (a := 6 * ((x.length : Nat) : Int) + 3) (by omega) (by omega), xw_id (a := 6 * ((x.length : Nat) : Int) + 4) (by omega) (by omega), xw_id (a := 6 * ((x.length : Nat) : Int) + 5) (by omega) (by omega)]
  simp only [srt S, srl S, srf S, e1, e2, e3, e4, e5, true_and, and_true, false_and, and_false, forall_eq, forall_eq', xi_wi, xr_wi, xt_wi, xl_wi, xn_wi, xs_wi, xi_wr, xr_wr, xt_wr, xl_wr, xn_wr, xs_wr, if_true, if_false, and_self, Int.reduceEq, Int.reduceLT, Int.reduceLE, Int.reduceNeg, Int.le_refl, Int.reduceMod]
  have b : 0 ≤ a ∧ a < 2688 := ⟨a0, a1⟩
  refine ⟨⟨by omega, by omega⟩, b, ⟨by omega, by omega⟩, b, ⟨by omega, by omega⟩, b, ⟨by omega, by omega⟩, b, ⟨by omega, by omega⟩, b, ⟨by omega, by omega⟩, ?_⟩
  refine H _ (Fr_cell (Fr_cell (Fr_cell (Fr_cell (Fr_cell (Fr_cell (Fr_refl _ _ _) _ _ (by decide)) _ _ (by decide)) _ _ (by decide)) _ _ (by decide)) _ _ (by decide)) _ _ (by decide)) (fun k hk => ?_) (fun j hj w w0 w1 => ?_)
  · simp only [true_and, and_true, false_and, and_false, forall_eq, forall_eq', xi_wi, xr_wi, xt_wi, xl_wi, xn_wi, xs_wi, xi_wr, xr_wr, xt_wr, xl_wr, xn_wr, xs_wr, if_true, if_false, and_self, Int.reduceEq, Int.reduceLT, Int.reduceLE, Int.reduceNeg, Int.le_refl, Int.reduceMod]
    rw [if_neg (by omega), if_neg (by omega), if_neg (by omega), if_neg (by omega), if_neg (by omega), if_neg (by omega)]
  · rw [List.length_append] at hj
    have hj' : j < x.length + 1 := hj
    by_cases c : j = x.length
    · subst c
      rw [getD_app_r rc0 (Nat.le_refl _), Nat.sub_self]
      show _ = kcomp v o.1 w
      unfold kcomp
      have e : w = 0 ∨ w = 1 ∨ w = 2 ∨ w = 3 ∨ w = 4 ∨ w = 5 := by omega
      rcases e with e | e | e | e | e | e <;> subst e
      · simp only [true_and, and_true, false_and, and_false, forall_eq, forall_eq', xi_wi, xr_wi, xt_wi, xl_wi, xn_wi, xs_wi, xi_wr, xr_wr, xt_wr, xl_wr, xn_wr, xs_wr, if_true, if_false, and_self, Int.reduceEq, Int.reduceLT, Int.reduceLE, Int.reduceNeg, Int.le_refl, Int.reduceMod]
        rw [if_neg (by omega), if_neg (by omega), if_neg (by omega), if_neg (by omega), if_neg (by omega), if_pos (by omega)]
      · simp only [true_and, and_true, false_and, and_false, forall_eq, forall_eq', xi_wi, xr_wi, xt_wi, xl_wi, xn_wi, xs_wi, xi_wr, xr_wr, xt_wr, xl_wr, xn_wr, xs_wr, if_true, if_false, and_self, Int.reduceEq, Int.reduceLT, Int.reduceLE, Int.reduceNeg, Int.le_refl, Int.reduceMod]
        rw [if_neg (by omega), if_neg (by omega), if_neg (by omega), if_neg (by omega)]
      · simp only [true_and, and_true, false_and, and_false, forall_eq, forall_eq', xi_wi, xr_wi, xt_wi, xl_wi, xn_wi, xs_wi, xi_wr, xr_wr, xt_wr, xl_wr, xn_wr, xs_wr, if_true, if_false, and_self, Int.reduceEq, Int.reduceLT, Int.reduceLE, Int.reduceNeg, Int.le_refl, Int.reduceMod]
        rw [if_neg (by omega), if_neg (by omega), if_neg (by omega)]
      · simp only [true_and, and_true, false_and, and_false, forall_eq, forall_eq', xi_wi, xr_wi, xt_wi, xl_wi, xn_wi, xs_wi, xi_wr, xr_wr, xt_wr, xl_wr, xn_wr, xs_wr, if_true, if_false, and_self, Int.reduceEq, Int.reduceLT, Int.reduceLE, Int.reduceNeg, Int.le_refl, Int.reduceMod]
        rw [if_neg (by omega), if_neg (by omega)]
      · simp only [true_and, and_true, false_and, and_false, forall_eq, forall_eq', xi_wi, xr_wi, xt_wi, xl_wi, xn_wi, xs_wi, xi_wr, xr_wr, xt_wr, xl_wr, xn_wr, xs_wr, if_true, if_false, and_self, Int.reduceEq, Int.reduceLT, Int.reduceLE, Int.reduceNeg, Int.le_refl, Int.reduceMod]
        rw [if_neg (by omega)]
      · simp only [true_and, and_true, false_and, and_false, forall_eq, forall_eq', xi_wi, xr_wi, xt_wi, xl_wi, xn_wi, xs_wi, xi_wr, xr_wr, xt_wr, xl_wr, xn_wr, xs_wr, if_true, if_false, and_self, Int.reduceEq, Int.reduceLT, Int.reduceLE, Int.reduceNeg, Int.le_refl, Int.reduceMod]
    · rw [getD_app_l rc0 (by omega)]
      simp only [true_and, and_true, false_and, and_false, forall_eq, forall_eq', xi_wi, xr_wi, xt_wi, xl_wi, xn_wi, xs_wi, xi_wr, xr_wr, xt_wr, xl_wr, xn_wr, xs_wr, if_true, if_false, and_self, Int.reduceEq, Int.reduceLT, Int.reduceLE, Int.reduceNeg, Int.le_refl, Int.reduceMod]
      rw [if_neg (by omega), if_neg (by omega), if_neg (by omega), if_neg (by omega), if_neg (by omega), if_neg (by omega)]
      exact St j (by omega) w w0 w1
theorem pkR_app (x y : Rd) : pkR (x ++ y) = pkR x ++ pkR y := by unfold pkR; rw [List.map_append]
/-- what the readings behind one option add -/
def beh (E : SEn) (i : Int) (x : Rd) (o : Op_) : List Rd := (rd E o.2.2).map (fun r => x ++ (i, o) :: r)
theorem app_c (x r : Rd) (a : Int × Op_) : (x ++ [a]) ++ r = x ++ a :: r := by rw [List.append_assoc]; rfl
theorem c_lf_113 {s : Stt} {Q : xH → Prop} {L : List Op_} {x : Rd} {P0 : List Rd} {d' : Nat} (ok : EOk E) (k : scOk E s) (pm : L.Perm (scOps E s)) (sr : Srt L) (lx : (x.length : Int) ≤ s.1) (tot : P0.length + (L.flatMap (beh E s.1 x)).length ≤ 200) (pb : 0 ≤ prR x ∧ prR x ≤ 50 * (x.length : Int)) (ih : ∀ (s' : Stt) (h : xH) (x' : Rd) (P : List Rd) (Q : xH → Prop), s.1 < s'.1 → scOk E s' → REn h l f E → MW h E → h.i 106 (scEnc E s') ≠ -1 → StepR h x' → (x'.length : Int) ≤ s'.1 → (0 ≤ prR x' ∧ prR x' ≤ 50 * (x'.length : Int)) → RdR h P → (∀ y ∈ P, y.length ≤ 41) → P.Pairwise rlt → P.length + (rd E s').length ≤ 200 → (∀ y ∈ P, ∀ r ∈ rd E s', plt (pkR y) (pkR (x' ++ r))) → (∀ h' P', FrY s'.1 (x'.length : Nat) h h' → RdR h' P' → (∀ y ∈ P', y.length ≤ 41) → P'.Pairwise rlt → P'.Perm (P ++ (rd E s').map (fun r => x' ++ r)) → Q h') → xCv (d' + 1) M_R_layFrom [(1, 59), (0, scEnc E s'), (0, (x'.length : Nat)), (0, prR x')] h Q) : ∀ (m j : Nat) (h : xH) (P : List Rd) (u7 u8 u9 : xV), j + m = L.length → REn h l f E → MW h E → (∀ o ∈ L, h.i 106 (scEnc E o.2.2) ≠ -1) → ORow h E s.1 L → StepR h x → RdR h P → (∀ y ∈ P, y.length ≤ 41) → P.Pairwise rlt → P.Perm (P0 ++ (L.take j).flatMap (beh E s.1 x)) → (∀ y ∈ P, ∀ j' : Nat, j ≤ j' → j' < L.length → ∀ r ∈ rd E (L.getD j' op0).2.2, plt (pkR y) (pkR (x ++ (s.1, L.getD j' op0) :: r))) → (∀ h' P', FrY s.1 (x.length : Nat) h h' → RdR h' P' → (∀ y ∈ P', y.length ≤ 41) → P'.Pairwise rlt → P'.Perm (P0 ++ L.flatMap (beh E s.1 x)) → Q h') → xT (d' + 1) M_R_layFrom 113 [(1, 59), (0, scEnc E s), (0, (x.length : Nat)), (0, prR x), (0, s.1), (0, (L.length : Nat)), (0, (j : Int)), u7, u8, u9] [] h (xqv Q) := by
  have si := scOk_i ok k
  have n40 := ok.2.1
  have ndL : L.Pairwise (fun a b => a.1 ≠ b.1) := (nd_ops ok k).perm pm.symm (fun h e => h e.symm)
  intro m
  induction m with
  | zero =>
    intro j h P u7 u8 u9 hj R M st O St Rd_ ly pw pmP od H
    apply L_R_layFrom_113
    rw [if_neg (by omega)]
    rw [List.take_of_length_le (by omega)] at pmP
    exact H h P (FrY_refl _ _ _) Rd_ ly pw pmP
  | succ m ihm =>
    intro j h P u7 u8 u9 hj R M st O St Rd_ ly pw pmP od H
    have S := R.1
    have jl : j < L.length := by omega
    have l64 := O.2.1
    have mem := getD_mem' jl
    have mo := pm.mem_iff.mp mem
    have cell := O.2.2 j jl
    have cell' := cell
    unfold OCell at cell
    have nx := scOps_nx mo
    have no := scOps_ok ok k mo
    have V := (M _ no.1).resolve_left (st _ mem)
    have w0 := scW_t ok (s := (L.getD j op0).2.2) (by omega)
    have en := enc_bd ok no.1
    have rw_ := rd_W ok (s := (L.getD j op0).2.2) (by omega)
    have tk : L.take (j + 1) = L.take j ++ [L.getD j op0] := take_s jl
    have fk : (L.take (j + 1)).flatMap (beh E s.1 x) = (L.take j).flatMap (beh E s.1 x) ++ beh E s.1 x (L.getD j op0) := by
      rw [tk, List.flatMap_append, List.flatMap_cons, List.flatMap_nil, List.append_nil]
    apply L_R_layFrom_113
    rw [if_pos (by omega)]
    intro x1 e1
    rw [xw_id (a := 64 * s.1) (by omega) (by omega), xw_id (a := 64 * s.1 + (j : Int)) (by omega) (by omega)] at e1
    subst e1
    simp only [srt S, srl S, srf S, true_and, and_true, false_and, and_false, forall_eq, forall_eq', xi_wi, xr_wi, xt_wi, xl_wi, xn_wi, xs_wi, xi_wr, xr_wr, xt_wr, xl_wr, xn_wr, xs_wr, if_true, if_false, and_self, Int.reduceEq, Int.reduceLT, Int.reduceLE, Int.reduceNeg, Int.le_refl, Int.reduceMod]
    rw [cell.2.2.2.2.2.1, cell.2.2.2.2.2.2, V.1]
    refine ⟨⟨by omega, by omega⟩, ⟨by omega, by omega⟩, ⟨by omega, by omega⟩, ?_⟩
    rw [if_neg (by omega)]
    refine ⟨⟨by omega, by omega⟩, ?_⟩
    have e6 : ∀ x6 : Int, x6 = xw ((j : Int) + 1) → x6 = ((j + 1 : Nat) : Int) := fun x6 h6 => by rw [h6, xw_id (by omega) (by omega)]; push_cast; rfl
    by_cases c : scW E true (L.getD j op0).2.2 = 0
    · rw [if_pos c, e6 _ rfl]
      have r0 : rd E (L.getD j op0).2.2 = [] := List.eq_nil_of_length_eq_zero (by omega)
      refine ihm (j + 1) h P _ _ _ (by omega) R M st O St Rd_ ly pw ?_ (fun y hy j' h1 h2 => od y hy j' (by omega) h2) H
      rw [fk]
      unfold beh at pmP ⊢
      rw [r0]
      show P.Perm (P0 ++ (_ ++ []))
      rw [List.append_nil]; exact pmP
    · rw [if_neg c]
      refine c_R_write (v := s.1) S cell' (by omega) (by omega) (by omega) St (fun h1 F1 k1 St1 => ?_)
      have G1 : FrY s.1 (x.length : Nat) h h1 := ⟨Fr_mono F1 (by decide) (fun q m => absurd m List.not_mem_nil), fun c k x0 x1 _ => by rw [Fr_row F1 (by rw [List.mem_singleton]; omega) (fun q m => absurd m List.not_mem_nil)], fun k _ => by rw [Fr_row F1 (by decide) (fun q m => absurd m List.not_mem_nil)], k1⟩
      have R1 := REn_y G1 R
      have M1 := MW_y G1 M
      have e106 : h1.i 106 = h.i 106 := Fr_row F1 (by decide) (fun q m => absurd m List.not_mem_nil)
      have O1 : ORow h1 E s.1 L := by
        unfold ORow OCell at O ⊢
        rw [Fr_row F1 (c := 98) (by decide) (fun q m => absurd m List.not_mem_nil), Fr_row F1 (c := 99) (by decide) (fun q m => absurd m List.not_mem_nil), Fr_row F1 (c := 100) (by decide) (fun q m => absurd m List.not_mem_nil), Fr_row F1 (c := 101) (by decide) (fun q m => absurd m List.not_mem_nil), Fr_row F1 (c := 102) (by decide) (fun q m => absurd m List.not_mem_nil), Fr_row F1 (c := 103) (by decide) (fun q m => absurd m List.not_mem_nil), Fr_row F1 (c := 104) (by decide) (fun q m => absurd m List.not_mem_nil), Fr_row F1 (c := 105) (by decide) (fun q m => absurd m List.not_mem_nil)]
        exact O
      have Rd1 : RdR h1 P := by
        unfold RdR RdC at Rd_ ⊢
        rw [Fr_row F1 (c := 59) (by decide) (fun q m => absurd m List.not_mem_nil), Fr_row F1 (c := 108) (by decide) (fun q m => absurd m List.not_mem_nil), Fr_row F1 (c := 109) (by decide) (fun q m => absurd m List.not_mem_nil), Fr_row F1 (c := 110) (by decide) (fun q m => absurd m List.not_mem_nil)]
        exact Rd_
      refine ⟨(srt R1.1).1, ?_⟩
      have len : (x ++ [(s.1, L.getD j op0)]).length = x.length + 1 := by rw [List.length_append]; rfl
      have pa := prR_app x (s.1, L.getD j op0)
      rw [xw_id (a := ((x.length : Nat) : Int) + 1) (by omega) (by omega), xw_id (a := prR x + (L.getD j op0).2.1) (by omega) (by omega)]
      have goal := ih (L.getD j op0).2.2 h1 (x ++ [(s.1, L.getD j op0)]) P (fun h2 => ∀ x6 : Int, x6 = xw ((j : Int) + 1) → xT (d' + 1) M_R_layFrom 113 [(1, 59), (0, scEnc E s), (0, (x.length : Nat)), (0, prR x), (0, s.1), (0, (L.length : Nat)), (0, x6), (0, 64 * s.1 + (j : Int)), (0, scEnc E (L.getD j op0).2.2), (0, (L.getD j op0).2.1)] [] h2 (xqv Q)) nx.2.1 no.1 R1 M1 (by rw [e106]; exact st _ mem) St1 (by rw [len]; push_cast; omega) (by rw [pa, len]; push_cast; show 0 ≤ prR x + (L.getD j op0).2.1 ∧ prR x + (L.getD j op0).2.1 ≤ _; omega) Rd1 ly pw ?_ (fun y hy r hr => by rw [app_c]; exact od y hy j (Nat.le_refl _) jl r hr) (fun h2 P2 F2 R2 ly2 pw2 pm2 => ?_)
      · rw [len, pa] at goal
        have e : ((x.length + 1 : Nat) : Int) = ((x.length : Nat) : Int) + 1 := by push_cast; rfl
        rw [e] at goal
        first | exact goal | (refine xCv_mono (fun h2 z => ?_) goal; exact z _ rfl)
      · have lp := pmP.length_eq
        rw [List.length_append] at lp
        have lt : (L.flatMap (beh E s.1 x)).length = ((L.take (j + 1)).flatMap (beh E s.1 x)).length + ((L.drop (j + 1)).flatMap (beh E s.1 x)).length := by
          rw [← List.length_append, ← List.flatMap_append, List.take_append_drop]
        rw [fk, List.length_append] at lt
        have lb : (beh E s.1 x (L.getD j op0)).length = (rd E (L.getD j op0).2.2).length := by unfold beh; rw [List.length_map]
        omega
      · intro x6 h6
        rw [e6 x6 h6]
        have G2 : FrY s.1 (x.length : Nat) h1 h2 := FrY_mono (by omega) (by rw [len]; push_cast; omega) F2
        have eb : (rd E (L.getD j op0).2.2).map (fun r => (x ++ [(s.1, L.getD j op0)]) ++ r) = beh E s.1 x (L.getD j op0) := by
          unfold beh
          congr 1
          funext r
          exact app_c x r _
        rw [eb] at pm2
        refine ihm (j + 1) h2 P2 _ _ _ (by omega) (REn_y F2 R1) (MW_y F2 M1) (fun o ho => by rw [Fr_row F2.1 (c := 106) (by decide) (by decide), e106]; exact st o ho) (ORow_y F2 nx.2.1 O1) (StepR_y G2 (Int.le_refl _) (StepR_y G1 (Int.le_refl _) St)) R2 ly2 pw2 ?_ (fun y hy j' h1' h2' r hr => ?_) (fun h3 P3 F3 => H h3 P3 (FrY_trans (FrY_trans G1 G2) F3))
        · rw [fk, ← List.append_assoc]
          exact pm2.trans (pmP.append_right _)
        · have hy' := pm2.mem_iff.mp hy
          rw [List.mem_append] at hy'
          rcases hy' with hy' | hy'
          · exact od y hy' j' (by omega) h2' r hr
          · unfold beh at hy'
            rw [List.mem_map] at hy'
            obtain ⟨r', hr', e⟩ := hy'
            rw [← e, pkR_app, pkR_app]
            refine plt_app (Or.inl ?_)
            have mj' := pm.mem_iff.mp (getD_mem' h2')
            exact kk_lt (key_ok ok k mo) (key_ok ok k mj') (sr j j' (by omega) h2') (pw_get (z := op0) ndL (by omega) h2')
theorem c_R_layFrom : ∀ (n : Nat) (s : Stt) (h : xH) (x : Rd) (P : List Rd) (Q : xH → Prop), 42 - s.1 ≤ n → scOk E s → REn h l f E → MW h E → h.i 106 (scEnc E s) ≠ -1 → StepR h x → (x.length : Int) ≤ s.1 → (0 ≤ prR x ∧ prR x ≤ 50 * (x.length : Int)) → RdR h P → (∀ y ∈ P, y.length ≤ 41) → P.Pairwise rlt → P.length + (rd E s).length ≤ 200 → (∀ y ∈ P, ∀ r ∈ rd E s, plt (pkR y) (pkR (x ++ r))) → (∀ h' P', FrY s.1 (x.length : Nat) h h' → RdR h' P' → (∀ y ∈ P', y.length ≤ 41) → P'.Pairwise rlt → P'.Perm (P ++ (rd E s).map (fun r => x ++ r)) → Q h') → xCv (d + n + 8) M_R_layFrom [(1, 59), (0, scEnc E s), (0, (x.length : Nat)), (0, prR x)] h Q := by
  intro n
  induction n with
  | zero =>
    intro s h x P Q hn k R
    have := scOk_i (reo R) k
    have := (reo R).2.1
    omega
  | succ n ih =>
    intro s h x P Q hn k R M st St lx pb Rd_ ly pw tot od H
    have S := R.1
    have ok := reo R
    have si := scOk_i ok k
    have n40 := ok.2.1
    apply L_R_layFrom
    refine ⟨(srt S).1, ?_⟩
    refine c_R_mayEnd R k ?_
    have re := rd_eq ok (s := s) (by omega)
    cases nf : scFin E s
    · rw [nf, if_neg (by decide)] at re
      rw [b2i_0, if_pos rfl]
      refine ⟨(srt S).1, ?_⟩
      have ndone : s.2.1 ≠ -2 := fun z => by
        have : scFin E s = true := by unfold scFin; rw [decide_eq_true z, Bool.true_or]
        rw [nf] at this; exact absurd this (by decide)
      have lv : lvS s = s.1 := by unfold lvS; rw [if_neg ndone]
      refine c_R_list (d := d + n + 1) R k (fun h1 F1 l1 P1 => ?_)
      rw [lv] at F1 l1 P1
      obtain ⟨L, O, sr, pm⟩ := P1
      have R1 := REn_l F1 R
      have S := R1.1
      have set := set_ops R M k st
      have e106 : h1.i 106 = h.i 106 := Fr_row F1.1 (by decide) (by decide)
      have em : (rd E s).map (fun r => x ++ r) = (scOps E s).flatMap (beh E s.1 x) := by
        rw [re, List.map_flatMap]
        refine flatMap_cg _ (fun o _ => ?_)
        rw [List.map_map]; rfl
      have pf : (L.flatMap (beh E s.1 x)).Perm ((scOps E s).flatMap (beh E s.1 x)) := pm.flatMap_right _
      simp only [srt S, srl S, srf S, l1, true_and, and_true, false_and, and_false, forall_eq, forall_eq', xi_wi, xr_wi, xt_wi, xl_wi, xn_wi, xs_wi, xi_wr, xr_wr, xt_wr, xl_wr, xn_wr, xs_wr, if_true, if_false, and_self, Int.reduceEq, Int.reduceLT, Int.reduceLE, Int.reduceNeg, Int.le_refl, Int.reduceMod]
      rw [O.1]
      refine ⟨⟨by omega, by omega⟩, ?_⟩
      have Rd1 : RdR h1 P := by
        unfold RdR RdC at Rd_ ⊢
        rw [F1.1.2 59 61 (by decide) (by decide), Fr_row F1.1 (c := 108) (by decide) (by decide), Fr_row F1.1 (c := 109) (by decide) (by decide), Fr_row F1.1 (c := 110) (by decide) (by decide)]
        exact Rd_
      have := c_lf_113 (Q := Q) (P0 := P) (d' := d + n + 7) ok k pm sr lx (by rw [pf.length_eq, ← em, List.length_map]; exact tot) pb (fun s' h' x' P' Q' hs => ih s' h' x' P' Q' (by omega)) L.length 0 h1 P (9, 0) (9, 0) (9, 0) (by omega) R1 (MW_L F1 M) (fun o ho => by rw [e106]; exact set o (pm.mem_iff.mp ho)) O (StepR_y (FrY_L (i := (x.length : Nat)) F1) (Int.le_refl _) St) Rd1 ly pw (by show P.Perm (P ++ []); rw [List.append_nil]) (fun y hy j' _ hj' r hr => od y hy _ (by rw [re, List.mem_flatMap]; exact ⟨_, pm.mem_iff.mp (getD_mem' hj'), List.mem_map.mpr ⟨r, hr, rfl⟩⟩)) (fun h2 P2 F2 R2 ly2 pw2 pm2 => H h2 P2 (FrY_trans (FrY_L F1) F2) R2 ly2 pw2 (by rw [em]; exact pm2.trans (pf.append_left P)))
      exact this
    · rw [nf, if_pos rfl] at re
      rw [b2i_1, if_neg (by decide)]
      refine ⟨(srt S).1, ?_⟩
      rw [Rd_.1]
      rw [re] at tot od H
      have lx41 : x.length ≤ 41 := by omega
      intro x3 e3
      subst e3
      refine c_lf_7 (P := P) (x := x) (by have : P.length + 1 ≤ 200 := tot; omega) lx41 P.length h _ _ _ _ _ _ S St Rd_.1 ly (Nat.le_refl _) Rd_.2 (fun j a b => by omega) (fun j a b => by omega) (fun h2 t a1 F2 R2 a4 a5 => H h2 _ (FrY_of F2) R2 (fun y hy => ?_) (insRlt a1 pw a4 a5 (fun y hy => by have := od y hy [] List.mem_cons_self; rw [List.append_nil] at this; exact this)) ?_)
      · have := gInsPerm.mem_iff.mp hy
        rw [List.mem_append, List.mem_singleton] at this
        rcases this with q | q
        · exact ly y q
        · rw [q]; exact lx41
      · refine gInsPerm.trans ?_
        show (P ++ [x]).Perm (P ++ [x ++ []])
        rw [List.append_nil]
end YM
