/-! scheme: the reference -/
theorem RV_le {h h' : xH} {l : List Int} (F : Fr l [] h h') (hl : ∀ c ∈ D_rv, c ∉ l) (k : Int) : RV h' k = RV h k := by
  have r := fun (c : Int) (hc : c ∈ D_rv) => Fr_row F (c := c) (hl c hc) (by intro p hp; exact absurd hp List.not_mem_nil)
  exact RV_row (by rw [r 77 (by decide)]) (by rw [r 81 (by decide)]) (fun _ _ _ => by rw [r 82 (by decide)]) (fun _ _ _ => by rw [r 83 (by decide)]) (fun _ _ _ => by rw [r 84 (by decide)]) (fun _ _ _ => by rw [r 85 (by decide)]) (fun _ _ _ => by rw [r 87 (by decide)]) (fun _ _ _ => by rw [r 88 (by decide)]) (fun _ _ _ => by rw [r 86 (by decide)]) (fun _ _ _ => by rw [r 79 (by decide)]) (fun _ _ _ => by rw [r 80 (by decide)]) (fun _ _ _ => by rw [r 78 (by decide)])
theorem RPo_fr {h h' : xH} {l : List Int} {t : Nat → Bool} {W : Nat → List Wd} (F : Fr l [] h h') (hl : ∀ c ∈ 76 :: D_rv, c ∉ l) (P : RPo h t W) : RPo h' t W := by
  intro k hk
  have p := P k hk
  rw [Fr_row F (c := 76) (hl 76 List.mem_cons_self) (by intro p hp; exact absurd hp List.not_mem_nil), RV_le F (fun c hc => hl c (List.mem_cons_of_mem _ hc))]
  exact p
theorem rhyV_3 {ws vs : List Wd} : rhyV ws vs = 3 ↔ samF (endL (flat ws)) (endL (flat vs)) = true := by
  unfold rhyV
  by_cases c : samF (endL (flat ws)) (endL (flat vs)) = true
  · rw [if_pos c]; exact ⟨fun _ => c, fun _ => rfl⟩
  · rw [if_neg c]
    refine ⟨fun q => ?_, fun q => absurd q c⟩
    exfalso
    revert q
    unfold eyeV
    split <;> (try split) <;> (try split) <;> (try split) <;> (try split) <;> decide
section RSC
variable {d : Nat} {Q : Int → xH → Prop} {t : Nat → Bool} {W : Nat → List Wd}
theorem c_R_hasK {h : xH} {k : Nat} (S : SR h) (P : RPo h t W) (hk : k < 12) (H : Q (b2i (t k)) h) : xCi (d + 2) M_R_hasLine [(1, 59), (0, (k : Int))] h Q := by
  refine c_R_hasLine S ?_
  have p := (P k hk).1
  cases e : t k with
  | true =>
    rw [e] at H
    rw [if_pos ⟨by omega, by omega, p.mp e⟩]
    exact H
  | false =>
    rw [e] at H
    rw [if_neg (fun q => by have := p.mpr q.2.2; rw [e] at this; exact absurd this (by decide))]
    exact H
/-- from i on to the first that rhymes with j -/
theorem c_R_sch_20 {k j : Nat} {nx : Int} (hj : j < 12) (tj : t j = true) : ∀ (n : Nat) (h : xH) (i : Nat), SR h → RPo h t W → i + n = j → (∀ h', Fr [114, 115, 116] [] h h' → h'.tag 59 = 12 ∧ (if fstF t (fw W) j n i = j then (∀ u4, xT (d + 4) M_R_scheme 10 [(1, 59), (0, (k : Int)), (0, nx + 1), (0, ((j + 1 : Nat) : Int)), u4] [] (h'.wi 117 j nx) (xqi Q)) else (∀ u4, xT (d + 4) M_R_scheme 10 [(1, 59), (0, (k : Int)), (0, nx), (0, ((j + 1 : Nat) : Int)), u4] [] (h'.wi 117 j (h'.i 117 (fstF t (fw W) j n i : Nat))) (xqi Q)))) → 0 ≤ nx → nx < 100 → xT (d + 4) M_R_scheme 20 [(1, 59), (0, (k : Int)), (0, nx), (0, (j : Int)), (0, (i : Int))] [] h (xqi Q) := by
  -- what happens at the first one
  have found : ∀ (h' : xH) (m : Nat), SR h' → m ≤ j → (if m = j then (∀ u4, xT (d + 4) M_R_scheme 10 [(1, 59), (0, (k : Int)), (0, nx + 1), (0, ((j + 1 : Nat) : Int)), u4] [] (h'.wi 117 j nx) (xqi Q)) else (∀ u4, xT (d + 4) M_R_scheme 10 [(1, 59), (0, (k : Int)), (0, nx), (0, ((j + 1 : Nat) : Int)), u4] [] (h'.wi 117 j (h'.i 117 (m : Nat))) (xqi Q))) → 0 ≤ nx → nx < 100 → (if (m : Int) = (j : Int) then (h'.tag 59 = 12 ∧ ((h'.tag (h'.r 59 69) = 20 ∧ (0 : Int) ≤ (j : Int) ∧ (j : Int) < h'.len (h'.r 59 69)) ∧ ∀ h3 : xH, h3 = h'.wi (h'.r 59 69) (j : Int) nx → ∀ x2 : Int, x2 = xw (nx + 1) → ∀ x3 : Int, x3 = xw ((j : Int) + 1) → xT (d + 4) M_R_scheme 10 [(1, 59), (0, (k : Int)), (0, x2), (0, x3), (0, (m : Int))] [] h3 (xqi Q))) else (h'.tag 59 = 12 ∧ ((h'.tag (h'.r 59 69) = 20 ∧ (0 : Int) ≤ (m : Int) ∧ (m : Int) < h'.len (h'.r 59 69)) ∧ ((h'.tag (h'.r 59 69) = 20 ∧ (0 : Int) ≤ (j : Int) ∧ (j : Int) < h'.len (h'.r 59 69)) ∧ ∀ h4 : xH, h4 = h'.wi (h'.r 59 69) (j : Int) (h'.i (h'.r 59 69) (m : Int)) → ∀ x4 : Int, x4 = xw ((j : Int) + 1) → xT (d + 4) M_R_scheme 10 [(1, 59), (0, (k : Int)), (0, nx), (0, x4), (0, (m : Int))] [] h4 (xqi Q))))) := by
    intro h' m S hm G n0 n1
    rw [xw_id (a := nx + 1) (by omega) (by omega), xw_id (a := (j : Int) + 1) (by omega) (by omega), show (j : Int) + 1 = ((j + 1 : Nat) : Int) by omega]
    simp only [srt S, srl S, srf S, true_and, and_true, false_and, and_false, forall_eq, forall_eq', xi_wi, xr_wi, xt_wi, xl_wi, xn_wi, xs_wi, xi_wr, xr_wr, xt_wr, xl_wr, xn_wr, xs_wr, if_true, if_false, and_self, Int.reduceEq, Int.reduceLT, Int.reduceLE, Int.reduceNeg, Int.le_refl, Int.reduceMod]
    by_cases c : m = j
    · rw [if_pos c] at G
      rw [if_pos (by omega)]
      exact ⟨⟨by omega, by omega⟩, G _⟩
    · rw [if_neg c] at G
      rw [if_neg (by omega)]
      exact ⟨⟨by omega, by omega⟩, ⟨by omega, by omega⟩, G _⟩
  intro n
  induction n with
  | zero =>
    intro h i S P e H n0 n1
    have e : i = j := by omega
    subst e
    have p := P i hj
    obtain ⟨a, w, r⟩ := p.2 tj
    apply L_R_scheme_20
    refine ⟨(srt S).1, c_R_hasK S P hj ?_⟩
    rw [tj, if_neg (by decide)]
    refine ⟨(srt S).1, c_R_rhyme S (by omega) (by omega) (by omega) (by omega) (p.1.mp tj) (p.1.mp tj) a w r a w r ?_⟩
    intro h' F
    rw [if_pos (rhyV_3.mpr (samF_refl _))]
    have G := (H h' F).2
    exact found h' i (SR_2 F.1 S) (Nat.le_refl _) G n0 n1
  | succ n ih =>
    intro h i S P e H n0 n1
    have hi : i < 12 := by omega
    apply L_R_scheme_20
    rw [xw_id (a := (i : Int) + 1) (by omega) (by omega), show (i : Int) + 1 = ((i + 1 : Nat) : Int) by omega]
    refine ⟨(srt S).1, c_R_hasK S P hi ?_⟩
    rw [fstF] at H
    cases ti : t i with
    | false =>
      rw [show b2i false = 0 from rfl, if_pos rfl]
      intro x1 e1
      rw [e1]
      refine ih h (i + 1) S P (by omega) ?_ n0 n1
      rw [if_neg (by rw [ti, Bool.false_and]; decide)] at H
      exact H
    | true =>
      rw [show b2i true = 1 from rfl, if_neg (by decide)]
      have p := P i hi
      have q := P j hj
      obtain ⟨a, w, r⟩ := p.2 ti
      obtain ⟨a', w', r'⟩ := q.2 tj
      refine ⟨(srt S).1, c_R_rhyme S (by omega) (by omega) (by omega) (by omega) (p.1.mp ti) (q.1.mp tj) a w r a' w' r' ?_⟩
      intro h' F
      have S' := SR_2 F.1 S
      by_cases c : samF (endL (flat (W i))) (endL (flat (W j))) = true
      · rw [if_pos (by rw [ti]; exact c)] at H
        rw [if_pos (rhyV_3.mpr c)]
        exact found h' i S' (by omega) (H h' F).2 n0 n1
      · rw [if_neg (by rw [ti]; exact c)] at H
        rw [if_neg (fun z => c (rhyV_3.mp z))]
        intro x1 e1
        rw [e1]
        refine ih h' (i + 1) S' (RPo_fr F (by decide) P) (by omega) ?_ n0 n1
        intro h2 F2
        exact H h2 (Fr_trans F F2)
theorem c_R_sch_10 {k : Nat} (hk : k < 12) (tk : t k = true) : ∀ (n : Nat) (h : xH) (j : Nat) (u4 : xV), SR h → RPo h t W → j + n = k + 1 → (∀ i : Nat, i < j → t i = true → h.i 117 (i : Int) = (cntF t (fw W) (fst_ t (fw W) i) : Nat)) → (∀ h', Fr [114, 115, 116, 117] [] h h' → Q (cntF t (fw W) (fst_ t (fw W) k) : Nat) h') → xT (d + 4) M_R_scheme 10 [(1, 59), (0, (k : Int)), (0, (cntF t (fw W) j : Nat)), (0, (j : Int)), u4] [] h (xqi Q) := by
  intro n
  induction n with
  | zero =>
    intro h j u4 S P e L H
    have z := L k (by omega) tk
    apply L_R_scheme_10
    rw [if_pos (by omega)]
    simp only [srt S, srl S, srf S, z, true_and, and_true, false_and, and_false, forall_eq, forall_eq', xi_wi, xr_wi, xt_wi, xl_wi, xn_wi, xs_wi, xi_wr, xr_wr, xt_wr, xl_wr, xn_wr, xs_wr, if_true, if_false, and_self, Int.reduceEq, Int.reduceLT, Int.reduceLE, Int.reduceNeg, Int.le_refl, Int.reduceMod]
    exact ⟨⟨by omega, by omega⟩, H h (Fr_refl _ _ _)⟩
  | succ n ih =>
    intro h j u4 S P e L H
    have hj : j < 12 := by omega
    have cl := cntF_le (t := t) (f := fw W) j
    apply L_R_scheme_10
    rw [if_neg (by omega), xw_id (a := (j : Int) + 1) (by omega) (by omega), show (j : Int) + 1 = ((j + 1 : Nat) : Int) by omega]
    refine ⟨(srt S).1, c_R_hasK S P hj ?_⟩
    cases tj : t j with
    | false =>
      rw [show b2i false = 0 from rfl, if_pos rfl]
      have z := ih h (j + 1) u4 S P (by omega) (fun i hi ti => L i (by
        by_cases q : i = j
        · rw [q, tj] at ti; exact absurd ti (by decide)
        · omega) ti) H
      rw [cntF, if_neg (by rw [tj, Bool.false_and]; decide), Nat.add_zero] at z
      intro x1 e1
      rw [e1]
      exact z
    | true =>
      rw [show b2i true = 1 from rfl, if_neg (by decide)]
      refine c_R_sch_20 hj tj j h 0 S P (by omega) ?_ (by omega) (by omega)
      intro h' F
      have S' := SR_2 F.1 S
      have P' := RPo_fr F (by decide) P
      have r117 : h'.i 117 = h.i 117 := Fr_row F (by decide) (by decide)
      have sp := fstF_spec (t := t) (f := fw W) (k := j) j 0 (by omega)
      refine ⟨(srt S').1, ?_⟩
      by_cases c : fstF t (fw W) j j 0 = j
      · rw [if_pos c]
        intro u
        have z := ih (h'.wi 117 j (cntF t (fw W) j : Nat)) (j + 1) u (SR_2 (h := h') rfl S') ?_ (by omega) ?_ ?_
        · rw [cntF, if_pos (by rw [tj]; exact decide_eq_true c)] at z
          rw [show ((cntF t (fw W) j : Nat) : Int) + 1 = ((cntF t (fw W) j + 1 : Nat) : Int) by omega]
          exact z
        · exact RPo_fr (l := [117]) (Fr_cell (Fr_refl _ _ _) _ _ (by decide)) (by decide) P'
        · intro i hi ti
          simp only [true_and, and_true, false_and, and_false, forall_eq, forall_eq', xi_wi, xr_wi, xt_wi, xl_wi, xn_wi, xs_wi, xi_wr, xr_wr, xt_wr, xl_wr, xn_wr, xs_wr, if_true, if_false, and_self, Int.reduceEq, Int.reduceLT, Int.reduceLE, Int.reduceNeg, Int.le_refl, Int.reduceMod]
          by_cases q : i = j
          · rw [if_pos (by omega), q, show fst_ t (fw W) j = j from c]
          · rw [if_neg (by omega), r117]
            exact L i (by omega) ti
        · intro h2 F2
          exact H h2 (Fr_trans (Fr_cell (Fr_mono F (by decide) (by decide)) _ _ (by decide)) F2)
      · rw [if_neg c]
        intro u
        have lt : fstF t (fw W) j j 0 < j := by omega
        have tt := sp.2.1 lt
        rw [Bool.and_eq_true] at tt
        have fix : fst_ t (fw W) (fst_ t (fw W) j) = fst_ t (fw W) j := fst_fst (t := t) (f := fw W) (k := j) (fun i => by unfold fw; exact samF_refl _) (fun a b c x y => by unfold fw at x y ⊢; exact samF_trans x y)
        have lf := L (fstF t (fw W) j j 0) lt tt.1
        have z := ih (h'.wi 117 j (h'.i 117 ((fstF t (fw W) j j 0 : Nat) : Int))) (j + 1) u (SR_2 (h := h') rfl S') ?_ (by omega) ?_ ?_
        · rw [cntF, if_neg (by rw [tj]; exact fun q => c (of_decide_eq_true q)), Nat.add_zero] at z
          exact z
        · exact RPo_fr (l := [117]) (Fr_cell (Fr_refl _ _ _) _ _ (by decide)) (by decide) P'
        · intro i hi ti
          simp only [true_and, and_true, false_and, and_false, forall_eq, forall_eq', xi_wi, xr_wi, xt_wi, xl_wi, xn_wi, xs_wi, xi_wr, xr_wr, xt_wr, xl_wr, xn_wr, xs_wr, if_true, if_false, and_self, Int.reduceEq, Int.reduceLT, Int.reduceLE, Int.reduceNeg, Int.le_refl, Int.reduceMod]
          by_cases q : i = j
          · rw [if_pos (by omega), q, r117, lf]
            rw [show fst_ t (fw W) (fstF t (fw W) j j 0) = fst_ t (fw W) j from fix]
          · rw [if_neg (by omega), r117]
            exact L i (by omega) ti
        · intro h2 F2
          exact H h2 (Fr_trans (Fr_cell (Fr_mono F (by decide) (by decide)) _ _ (by decide)) F2)
end RSC
theorem j_scheme (n : Nat) (hn : n < 512) (a : Int) (ha : xrg a) : JJ INV n M_X_scheme M_R_scheme [(0, a)] := by
  refine jj_fr [114, 115, 116, 117] [] (by decide) (fun h I => ?_)
  have S := I.2.1
  have SX_ := I.1
  have i12 := I.2.2.2.2.2.2.2.2.2.2.2.2.2.2.2.2.2.1
  have tp := (sxt SX_).2.2.2.2.2.2.2.2.2.2.2.2.2.2.2.2.2.2.2.2.2.2.2.2.2.2.2.2.2.2.2.2.2.2.2.2.2.2.2.2.2.2.2.2.2.2.1
  obtain ⟨t, W, P, R⟩ := po_of i12
  apply L_X_scheme
  refine ⟨(sxt SX_).1, by simp only [sxt SX_, sxl SX_, sxf SX_, true_and, and_true, false_and, and_false, forall_eq, forall_eq', xi_wi, xr_wi, xt_wi, xl_wi, xn_wi, xs_wi, xi_wr, xr_wr, xt_wr, xl_wr, xn_wr, xs_wr, if_true, if_false, and_self, Int.reduceEq, Int.reduceLT, Int.reduceLE, Int.reduceNeg, Int.le_refl, Int.reduceMod], ?_⟩
  simp only [sxt SX_, sxl SX_, sxf SX_, true_and, and_true, false_and, and_false, forall_eq, forall_eq', xi_wi, xr_wi, xt_wi, xl_wi, xn_wi, xs_wi, xi_wr, xr_wr, xt_wr, xl_wr, xn_wr, xs_wr, if_true, if_false, and_self, Int.reduceEq, Int.reduceLT, Int.reduceLE, Int.reduceNeg, Int.le_refl, Int.reduceMod]
  by_cases c : 0 ≤ a ∧ a ≤ 11 ∧ t a.toNat = true
  · obtain ⟨k, rfl⟩ : ∃ k : Nat, a = (k : Int) := ⟨a.toNat, by omega⟩
    rw [Int.toNat_natCast] at c
    refine c_X_letterOf SX_ P (by omega) c.2.2 ?_
    refine ⟨Fr_refl _ _ _, ?_⟩
    apply L_R_scheme
    refine ⟨(srt S).1, c_R_hasK S R (by omega) ?_⟩
    rw [c.2.2, if_neg (by decide)]
    refine c_R_sch_10 (by omega) c.2.2 (k + 1) h 0 _ S R (by omega) (fun i hi => absurd hi (Nat.not_lt_zero _)) ?_
    intro h' F
    exact ⟨rfl, F, INV_fr I F (by decide) (Or.inl (by decide)) (Or.inl (by decide)) (Or.inl (by decide)) (Or.inl (by decide)) (Or.inl (by decide)) (Or.inl (by decide)) (Or.inl (by decide)) (Or.inl (by decide)) (Or.inl (by decide)) (Or.inl (by decide)) (Or.inl (by decide)) (Or.inl (by decide)) (Or.inl (by decide)) (Or.inl (by decide)) (Or.inl (by decide))⟩
  · apply L_Poem_letterOf
    refine ⟨tp, c_X_lineAt SX_ ?_⟩
    have z : (if 0 ≤ a ∧ a ≤ 11 then h.r 49 a else 0) = 0 := by
      by_cases q : 0 ≤ a ∧ a ≤ 11
      · rw [if_pos q]
        have p := (P a.toNat (by omega)).1
        rw [show ((a.toNat : Nat) : Int) = a by omega] at p
        by_cases w : h.r 49 a = 0
        · exact w
        · exact absurd ⟨q.1, q.2, p.mpr w⟩ c
      · rw [if_neg q]
    rw [if_pos z]
    refine ⟨Fr_refl _ _ _, ?_⟩
    apply L_R_scheme
    refine ⟨(srt S).1, c_R_hasLine S ?_⟩
    have z2 : ¬ (0 ≤ a ∧ a ≤ 11 ∧ h.i 76 (a + 1) ≠ 0) := by
      intro q
      have p := (R a.toNat (by omega)).1
      rw [show ((a.toNat : Nat) : Int) = a by omega] at p
      exact c ⟨q.1, q.2.1, p.mpr q.2.2⟩
    rw [if_neg z2, if_pos rfl]
    exact ⟨rfl, Fr_refl _ _ _, INV_mono I⟩
