/-! learn: the class' loop over the lines, its body -/
section LQ
variable {n0 : Nat} {h0 : xH} {f : Int} {d : Nat} {q : Int}
theorem lnE_ok (I : INV n0 h0) (f0 : 0 ≤ f) (f1 : f ≤ 7) (np : 0 < h0.i 95 f) {k : Int} (k0 : 0 ≤ k) (k1 : k < 12) (c : h0.r 49 k ≠ 0) : h0.i 76 (k + 1) ≠ 0 ∧ RPre h0 (k + 1) f (envR h0 (k + 1) f) ∧ XEn h0 (h0.r 49 k) f (envR h0 (k + 1) f) := by
  have ip := I.2.2.2.2.2.2.2.2.2.2.2.2.2.2.2.2.2.1
  rcases ip.2 k k0 k1 with z | z
  · exact absurd z.1 c
  · have L := LR_env I (by omega) (by omega) z.2.2 f0 f1 np
    exact ⟨by rw [z.2.1]; decide, L.1, L.2⟩
theorem c_X_learn_9 (I : INV n0 h0) (f0 : 0 ≤ f) (f1 : f ≤ 7) (np : 0 < h0.i 95 f) (hq : q = h0.nx) {Q : Int → xH → Prop} (H : ∀ h, LnI h0 q h → (∀ l, 0 ≤ l → l < 5 → h.i q l = lnU h0 f 12 l) → (∀ j : Nat, j < 12 → lnB h0 f j = true → PthOk (lnP h0 f j)) → if lnR h0 f 12 = 0 then Q (-1) h else xCv (d + 7) M_Metre_setByUse [(1, 22), (1, q), (0, lnS h0 f 12)] h (fun h4 => Q (lnR h0 f 12) h4)) : ∀ (m k : Nat) (h : xH), k + m = 12 → LnI h0 q h → (∀ l, 0 ≤ l → l < 5 → h.i q l = lnU h0 f k l) → (∀ j : Nat, j < k → lnB h0 f j = true → PthOk (lnP h0 f j)) → xT (d + 7) M_Poem_learnPrices 9 [(1, 48), (0, f), (1, q), (0, lnS h0 f k), (0, lnR h0 f k), (0, (k : Int))] [] h (xqi Q) := by
  have t0 : 0 ≤ tl (h0.al 20 5) := by
    have S := XS_of I
    unfold tl
    rw [xr_al, xl_al, if_neg (by have := S.2.2.2.2.2.1; omega)]
    exact S.2.2.2.2.2.2.1
  have n130 := I.2.2.1
  intro m
  induction m with
  | zero =>
    intro k h hk L U P
    have e12 : k = 12 := by omega
    subst e12
    have SX_ := L.2.2.1.1
    have K := H h L U P
    apply L_Poem_learnPrices_9
    rw [if_neg (by decide)]
    by_cases c : lnR h0 f 12 = 0
    · rw [if_pos c] at K ⊢; exact K
    · rw [if_neg c] at K ⊢
      simp only [sxt SX_, sxl SX_, sxf SX_, true_and, and_true, false_and, and_false, forall_eq, forall_eq', xi_wi, xr_wi, xt_wi, xl_wi, xn_wi, xs_wi, xi_wr, xr_wr, xt_wr, xl_wr, xn_wr, xs_wr, if_true, if_false, and_self, Int.reduceEq, Int.reduceLT, Int.reduceLE, Int.reduceNeg, Int.le_refl, Int.reduceMod]
      exact K
  | succ m ih =>
    intro k h hk L U P
    have SX_ := L.2.2.1.1
    have S := L.2.2.1
    have F0 := L.1
    have r49 : h.r 49 = h0.r 49 := FA_rrow F0 (by omega) (by decide)
    have pbd : ∀ j : Int, 0 ≤ j → j < k → (0 ≤ (if lnB h0 f j = true then (((lnP h0 f j).length : Nat) : Int) else 0) ∧ (if lnB h0 f j = true then (((lnP h0 f j).length : Nat) : Int) else 0) ≤ 40) ∧ ∀ l, 0 ≤ (if lnB h0 f j = true then cntL l (lnP h0 f j) else 0) ∧ (if lnB h0 f j = true then cntL l (lnP h0 f j) else 0) ≤ 40 := by
      intro j j0 j1
      obtain ⟨i, rfl⟩ : ∃ i : Nat, j = (i : Int) := ⟨j.toNat, by omega⟩
      by_cases c : lnB h0 f i = true
      · have := P i (by omega) c
        rw [if_pos c]
        refine ⟨⟨by omega, by have := this.1; omega⟩, fun l => ?_⟩
        rw [if_pos c]
        have b := cntL_bd l (lnP h0 f i)
        have := this.1
        omega
      · rw [if_neg c]
        exact ⟨by decide, fun l => by rw [if_neg c]; decide⟩
    have bS : 0 ≤ lnS h0 f k ∧ lnS h0 f k ≤ 40 * k := sumN_bd (by decide) k (fun j j0 j1 => (pbd j j0 j1).1)
    have bR : 0 ≤ lnR h0 f k ∧ lnR h0 f k ≤ 1 * k := sumN_bd (by decide) k (fun j j0 j1 => by
      by_cases c : lnB h0 f j = true
      · rw [if_pos c]; decide
      · rw [if_neg c]; decide)
    have bU : ∀ l, 0 ≤ lnU h0 f k l ∧ lnU h0 f k l ≤ 40 * k := fun l => sumN_bd (by decide) k (fun j j0 j1 => (pbd j j0 j1).2 l)
    have sS : lnS h0 f (k + 1) = lnS h0 f k + (if lnB h0 f k = true then (((lnP h0 f k).length : Nat) : Int) else 0) := rfl
    have sR : lnR h0 f (k + 1) = lnR h0 f k + (if lnB h0 f k = true then 1 else 0) := rfl
    have sU : ∀ l, lnU h0 f (k + 1) l = lnU h0 f k l + (if lnB h0 f k = true then cntL l (lnP h0 f k) else 0) := fun l => rfl
    have nxk : ∀ x : Int, x = xw ((k : Int) + 1) → x = ((k + 1 : Nat) : Int) := fun x e => by rw [e, xw_id (by omega) (by omega)]; push_cast; rfl
    have skip : lnB h0 f k = false → ∀ h1, LnI h0 q h1 → h1.i q = h.i q → ∀ x : Int, x = xw ((k : Int) + 1) → xT (d + 7) M_Poem_learnPrices 9 [(1, 48), (0, f), (1, q), (0, lnS h0 f k), (0, lnR h0 f k), (0, x)] [] h1 (xqi Q) := fun no h1 L1 e1 x ex => by
      have nt : ¬ lnB h0 f k = true := by rw [no]; decide
      have := ih (k + 1) h1 (by omega) L1 (fun l l0 l1 => by rw [e1, U l l0 l1, sU, if_neg nt]; omega) (fun j hj b => by
        by_cases z : j = k
        · rw [z] at b; exact absurd b nt
        · exact P j (by omega) b)
      rw [sS, sR, if_neg nt, if_neg nt, Int.add_zero, Int.add_zero] at this
      rw [nxk x ex]
      exact this
    apply L_Poem_learnPrices_9
    rw [if_pos (by omega)]
    simp only [sxt SX_, sxl SX_, sxf SX_, r49, true_and, and_true, false_and, and_false, forall_eq, forall_eq', xi_wi, xr_wi, xt_wi, xl_wi, xn_wi, xs_wi, xi_wr, xr_wr, xt_wr, xl_wr, xn_wr, xs_wr, if_true, if_false, and_self, Int.reduceEq, Int.reduceLT, Int.reduceLE, Int.reduceNeg, Int.le_refl, Int.reduceMod]
    refine ⟨⟨by omega, by omega⟩, ?_⟩
    by_cases c : h0.r 49 (k : Int) = 0
    · rw [if_pos c]
      have no : lnB h0 f k = false := by
        have ip := I.2.2.2.2.2.2.2.2.2.2.2.2.2.2.2.2.2.1
        rcases ip.2 (k : Int) (by omega) (by omega) with z | z
        · unfold lnB; rw [z.2]; rfl
        · exact absurd c z.1
      exact skip no h L rfl _ rfl
    · rw [if_neg c]
      have lk := lnE_ok I f0 f1 np (k := (k : Int)) (by omega) (by omega) c
      have ok := lk.2.1.2.2.2.2.2.2.1
      refine ⟨⟨by omega, by omega⟩, ?_⟩
      have X := XEn_g F0 L.2.1 S (by decide) wk_okc lk.2.2
      refine c_X_cheapest (d := d) S X (fun h1 A1 C1 T1 => ?_)
      have L1 := LnI_wk n130 hq t0 L (WkX_of A1)
      by_cases c2 : chp (envR h0 ((k : Int) + 1) f) = -1
      · rw [if_pos c2]
        exact skip (by unfold lnB; rw [decide_eq_false (show ¬ (chp (envR h0 ((k : Int) + 1) f) ≠ -1) from fun z => z c2), Bool.and_false]) h1 L1.1 L1.2 _ rfl
      · rw [if_neg c2]
        have yes : lnB h0 f k = true := by unfold lnB; rw [decide_eq_true lk.1, decide_eq_true c2]; rfl
        have ce := chp_ne ok c2
        have SX_ := A1.2.2.2.1
        have r49' : h1.r 49 = h0.r 49 := FA_rrow L1.1.1 (by omega) (by decide)
        simp only [sxt SX_, sxl SX_, sxf SX_, r49', true_and, and_true, false_and, and_false, forall_eq, forall_eq', xi_wi, xr_wi, xt_wi, xl_wi, xn_wi, xs_wi, xi_wr, xr_wr, xt_wr, xl_wr, xn_wr, xs_wr, if_true, if_false, and_self, Int.reduceEq, Int.reduceLT, Int.reduceLE, Int.reduceNeg, Int.le_refl, Int.reduceMod]
        refine ⟨⟨by omega, by omega⟩, ?_⟩
        refine c_X_wbegin (d := d + 6) A1.2.2.2 C1 T1 (fun h2 A2 W2 => ?_)
        have L2 := LnI_wk n130 hq t0 L1.1 A2
        have SX_ := A2.2.2.2.1
        refine ⟨(sxt SX_).2.2.2.2.2.2.2.2.2.2.2.2.2.2.2.2.2.2.2.2.2.2.2.2.2.2.2.2.2.2.2.2.2.2.2.2.2.2.2.2.2.2.2.2.2.2.1, ?_⟩
        apply L_Poem_countUses
        have K2 : QOk h2 (h0.r 49 (k : Int)) q := by
          have x5 := lk.2.2.2.2.2.2.1
          have x6 := lk.2.2.2.2.2.2.2
          unfold XLe XFar at x5
          have rp : h2.r (h0.r 49 (k : Int)) = h0.r (h0.r 49 (k : Int)) := (XFar_g L2.1.1 L2.1.2.1 wk_okc (x := h0.r 49 (k : Int)) (by unfold XFar; omega)).2.1
          have r23 : h2.r 23 = h0.r 23 := FA_rrow L2.1.1 (by omega) (by decide)
          refine ⟨L2.1.2.2.2.2.1, L2.1.2.2.2.2.2.2.2, Or.inr ?_⟩
          rw [rp, r23]
          refine ⟨by omega, fun e => L2.1.2.2.2.2.2.2.1 e.symm, by omega, by omega, by omega, by omega, fun g g0 g1 => ?_⟩
          rcases x6.2.2.2.2.2.2 g g0 g1 with z | z
          · exact Or.inl z.1
          · have := z.2.2.2.1
            exact Or.inr (Or.inr (by omega))
        have U2 : ∀ l, 0 ≤ l → l < 5 → h2.i q l = lnU h0 f k l := fun l l0 l1 => by rw [L2.2, L1.2]; exact U l l0 l1
        have e0 : st0.1 = 0 := rfl
        refine c_cu_4 (d := d) (B := 1000) (by decide) 42 st0 h2 0 0 _ _ _ (by rw [e0]; decide) W2 st0_ok ce.2.2 K2 L2.1.2.2.2.2.2.1 (by decide) (by decide) (by decide) (by rw [e0]; decide) (fun l l0 l1 => ?_) (fun h3 Lp Pp F3 v3 => ?_)
        · have := bU l
          rw [U2 l l0 l1, e0]; omega
        · have ep : Lp = lnP h0 f k := pth_eq ok 42 st0 Lp st0_ok Pp
          have pl := Pth_len ok 42 st0 Lp st0_ok Pp
          have n40 := ok.2.1
          have n1 := ok.1
          rw [e0] at pl
          have po : PthOk (lnP h0 f k) := by rw [← ep]; exact ⟨by omega, pl.2.1 (by omega), pl.2.2⟩
          have pl40 := po.1
          rw [ep, xw_id (a := lnS h0 f k + (0 + (((lnP h0 f k).length : Nat) : Int))) (by omega) (by omega), xw_id (a := lnR h0 f k + 1) (by omega) (by omega)]
          have := ih (k + 1) h3 (by omega) (LnI_q hq L2.1 F3) (fun l l0 l1 => by rw [v3 l l0 l1, U2 l l0 l1, sU, if_pos yes, ep]) (fun j hj b => by
            by_cases z : j = k
            · rw [z]; exact po
            · exact P j (by omega) b)
          rw [sS, sR, if_pos yes, if_pos yes] at this
          rw [nxk _ rfl, show lnS h0 f k + (0 + (((lnP h0 f k).length : Nat) : Int)) = lnS h0 f k + (((lnP h0 f k).length : Nat) : Int) by omega]
          exact this
end LQ
