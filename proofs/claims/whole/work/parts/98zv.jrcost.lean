/-! judge: the reference's costs and trial -/
def jrL : List Int := [98, 99, 100, 101, 102, 103, 104, 105, 106, 107, 114, 115, 116, 122, 123, 124]
def jrS : List (Int × Int) := [(59, 55), (59, 45), (59, 46), (59, 78), (59, 79), (59, 80)]
/-- what the reference reads of its heap in judge -/
def RCx (h0 h : xH) (t : Nat → Bool) (W : Nat → List Wd) : Prop := SR h ∧ RPo h t W ∧ h.i 95 = h0.i 95 ∧ h.i 118 = h0.i 118 ∧ h.i 119 = h0.i 119 ∧ h.i 120 = h0.i 120 ∧ h.i 121 = h0.i 121 ∧ h.i 59 74 = h0.i 59 74 ∧ ∀ k f : Nat, k < 12 → f < 8 → t k = true → 0 < h0.i 95 (f : Int) → RPre h ((k : Int) + 1) (f : Int) (envR h0 ((k : Int) + 1) (f : Int))
theorem RV_jr {h h' : xH} (F : Fr jrL jrS h h') (k : Int) : RV h' k = RV h k := by
  have r := fun (c : Int) (h1 : c ∉ jrL) (h2 : ∀ q ∈ jrS, q.1 ≠ c) => Fr_row F (c := c) h1 h2
  exact RV_row (by rw [r 77 (by decide) (by decide)]) (by rw [r 81 (by decide) (by decide)]) (fun _ _ _ => by rw [r 82 (by decide) (by decide)]) (fun _ _ _ => by rw [r 83 (by decide) (by decide)]) (fun _ _ _ => by rw [r 84 (by decide) (by decide)]) (fun _ _ _ => by rw [r 85 (by decide) (by decide)]) (fun _ _ _ => by rw [r 87 (by decide) (by decide)]) (fun _ _ _ => by rw [r 88 (by decide) (by decide)]) (fun _ _ _ => by rw [r 86 (by decide) (by decide)]) (fun _ _ _ => by rw [r 79 (by decide) (by decide)]) (fun _ _ _ => by rw [r 80 (by decide) (by decide)]) (fun _ _ _ => by rw [r 78 (by decide) (by decide)])
theorem RCx_fr {h0 h h' : xH} {t : Nat → Bool} {W : Nat → List Wd} (C : RCx h0 h t W) (F : Fr jrL jrS h h') : RCx h0 h' t W := by
  obtain ⟨c1, c2, c3, c4, c5, c6, c7, c8, c9⟩ := C
  have r := fun (c : Int) (h1 : c ∉ jrL) (h2 : ∀ q ∈ jrS, q.1 ≠ c) => Fr_row F (c := c) h1 h2
  refine ⟨SR_2 F.1 c1, fun k hk => ?_, by rw [r 95 (by decide) (by decide)]; exact c3, by rw [r 118 (by decide) (by decide)]; exact c4, by rw [r 119 (by decide) (by decide)]; exact c5, by rw [r 120 (by decide) (by decide)]; exact c6, by rw [r 121 (by decide) (by decide)]; exact c7, by rw [F.2 59 74 (by decide) (by decide)]; exact c8, fun k f hk hf tk np => RPre_s F (by decide) (c9 k f hk hf tk np)⟩
  have p := c2 k hk
  rw [r 76 (by decide) (by decide), RV_jr F]
  exact p
section JR
variable {n0 : Nat} {h0 : xH} {t : Nat → Bool} {W : Nat → List Wd} {d : Nat} {m P : Nat}
theorem c_R_j7 {Q : Int → xH → Prop} {hb : xH} (Cb : RCx h0 hb t W) (H : ∀ h u3 u4 u5 u6 u7, Fr jrL jrS hb h → (∀ k f : Nat, k < 12 → f < 8 → h.i 122 ((8 * k + f : Nat) : Int) = (jD h0 t W).C k (f : Int)) → xT (d + 61) M_R_judge 43 [(1, 59), (0, 0), (0, 0), u3, u4, u5, u6, u7] [] h (xqi Q)) : ∀ (n k : Nat) (h : xH) (u2 u3 u4 u5 u6 u7 : xV), k + n = 12 → Fr jrL jrS hb h → (∀ k' f : Nat, k' < 12 → f < 8 → 8 * k' + f < 8 * k → h.i 122 ((8 * k' + f : Nat) : Int) = (jD h0 t W).C k' (f : Int)) → xT (d + 61) M_R_judge 7 [(1, 59), (0, (k : Int)), u2, u3, u4, u5, u6, u7] [] h (xqi Q) := by
  intro n
  induction n with
  | zero =>
    intro k h u2 u3 u4 u5 u6 u7 hk F C
    have e : k = 12 := by omega
    subst e
    apply L_R_judge_7
    rw [if_neg (by decide)]
    exact H h _ _ _ _ _ F (fun k' f hk' hf => C k' f hk' hf (by omega))
  | succ n ih =>
    intro k h u2 u3 u4 u5 u6 u7 hk F C
    have inner : ∀ (n2 f : Nat) (h : xH), f + n2 = 8 → Fr jrL jrS hb h → (∀ k' f' : Nat, k' < 12 → f' < 8 → 8 * k' + f' < 8 * k + f → h.i 122 ((8 * k' + f' : Nat) : Int) = (jD h0 t W).C k' (f' : Int)) → xT (d + 61) M_R_judge 12 [(1, 59), (0, (k : Int)), (0, (f : Int)), u3, u4, u5, u6, u7] [] h (xqi Q) := by
      intro n2
      induction n2 with
      | zero =>
        intro f h hf F C
        apply L_R_judge_12
        rw [if_neg (by omega)]
        intro x3 ex
        rw [ex, xw_id (a := (k : Int) + 1) (by omega) (by omega)]
        have := ih (k + 1) h (0, (f : Int)) u3 u4 u5 u6 u7 (by omega) F (fun k' f' a b c => C k' f' a b (by omega))
        push_cast at this
        exact this
      | succ n2 ih2 =>
        intro f h hf F C
        have Ch := RCx_fr Cb F
        have S := Ch.1
        have g : h.tag 59 = 12 ∧ h.r 59 75 = 122 ∧ h.tag 122 = 20 ∧ h.len 122 = 96 := by simp only [srt S, srl S, srf S, true_and, and_true, false_and, and_false, forall_eq, forall_eq', xi_wi, xr_wi, xt_wi, xl_wi, xn_wi, xs_wi, xi_wr, xr_wr, xt_wr, xl_wr, xn_wr, xs_wr, if_true, if_false, and_self, Int.reduceEq, Int.reduceLT, Int.reduceLE, Int.reduceNeg, Int.le_refl, Int.reduceMod]
        obtain ⟨g1, g2, g3, g4⟩ := g
        have kb : (0 : Int) ≤ (k : Int) ∧ (k : Int) < 12 ∧ (0 : Int) ≤ (f : Int) ∧ (f : Int) < 8 := by omega
        have nx : ∀ (h1 h2 : xH) (v : Int), Fr jrL jrS hb h1 → h1.i 122 = h.i 122 → v = (jD h0 t W).C k (f : Int) → h2 = h1.wi 122 (xw (xw (8 * (k : Int)) + (f : Int))) v → xT (d + 61) M_R_judge 12 [(1, 59), (0, (k : Int)), (0, xw ((f : Int) + 1)), u3, u4, u5, u6, u7] [] h2 (xqi Q) := fun h1 h2 v F1 e122 ev e2 => by
          rw [jxB kb.1 kb.2.1 kb.2.2.1 kb.2.2.2] at e2
          have := ih2 (f + 1) h2 (by omega) (by rw [e2]; exact Fr_cell F1 _ _ (by decide)) (fun k' f' a b c => by
            rw [e2, xi_wi]
            by_cases z : k' = k ∧ f' = f
            · rw [if_pos ⟨rfl, by omega⟩, z.1, z.2]; exact ev
            · rw [if_neg (fun y => z (by omega)), e122]
              exact C k' f' a b (by omega))
          rw [xw_id (a := (f : Int) + 1) (by omega) (by omega)]
          push_cast at this
          exact this
        have eC : (jD h0 t W).C k (f : Int) = if (t k = true ∧ k < 12 ∧ (0 : Int) ≤ (f : Int) ∧ (f : Int) ≤ 7) ∧ 0 < h0.i 95 (f : Int) then chp (envR h0 ((k : Int) + 1) (f : Int)) else -1 := rfl
        apply L_R_judge_12
        rw [if_pos (by omega)]
        refine ⟨g1, ?_⟩
        refine c_R_hasK (d := d + 59) S Ch.2.1 (by omega) ?_
        rw [g2]
        cases tk : t k with
        | false =>
          rw [if_pos (show b2i false = 0 from rfl), g4]
          refine ⟨⟨g3, by rw [jxB kb.1 kb.2.1 kb.2.2.1 kb.2.2.2]; omega, by rw [jxB kb.1 kb.2.1 kb.2.2.1 kb.2.2.2]; omega⟩, fun h2 e2 x1 ex => ?_⟩
          rw [ex]
          exact nx h h2 _ F rfl (by rw [eC, if_neg (fun z => by have := z.1.1; rw [tk] at this; exact absurd this (by decide))]) e2
        | true =>
          rw [if_neg (show ¬ b2i true = 0 by decide), xw_id (a := (k : Int) + 1) (by omega) (by omega)]
          refine ⟨g1, ?_⟩
          by_cases np : 0 < h0.i 95 (f : Int)
          · refine c_R_cheapest (d := d) (Ch.2.2.2.2.2.2.2.2 k f (by omega) (by omega) tk np) (fun h3 F3 _ _ _ => ?_)
            have F3' : Fr jrL jrS h h3 := Fr_mono F3 (by decide) (by decide)
            have S3 := SR_2 F3.1 S
            have y : h3.tag 122 = 20 ∧ h3.len 122 = 96 := by
              have S := S3
              simp only [srt S, srl S, srf S, true_and, and_true, false_and, and_false, forall_eq, forall_eq', xi_wi, xr_wi, xt_wi, xl_wi, xn_wi, xs_wi, xi_wr, xr_wr, xt_wr, xl_wr, xn_wr, xs_wr, if_true, if_false, and_self, Int.reduceEq, Int.reduceLT, Int.reduceLE, Int.reduceNeg, Int.le_refl, Int.reduceMod]
            rw [y.2]
            refine ⟨⟨y.1, by rw [jxB kb.1 kb.2.1 kb.2.2.1 kb.2.2.2]; omega, by rw [jxB kb.1 kb.2.1 kb.2.2.1 kb.2.2.2]; omega⟩, fun h4 e4 x2 ex => ?_⟩
            rw [ex]
            exact nx h3 h4 _ (Fr_trans F F3') (Fr_row F3 (by decide) (by decide)) (by rw [eC, if_pos ⟨⟨tk, by omega, by omega, by omega⟩, np⟩]) e4
          · refine c_R_cheap_no (d := d) S (fun z => np (by rw [← Ch.2.2.1]; exact z.2.2)) ?_
            rw [g4]
            refine ⟨⟨g3, by rw [jxB kb.1 kb.2.1 kb.2.2.1 kb.2.2.2]; omega, by rw [jxB kb.1 kb.2.1 kb.2.2.1 kb.2.2.2]; omega⟩, fun h4 e4 x2 ex => ?_⟩
            rw [ex]
            exact nx h h4 _ F rfl (by rw [eC, if_neg (fun z => np z.2)]) e4
    apply L_R_judge_7
    rw [if_pos (by omega)]
    exact inner 8 0 h (by omega) F (fun k' f a b c => C k' f a b (by omega))
theorem c_R_off10 {Q : Int → xH → Prop} {h : xH} {i k : Nat} {on : List Int} (C : RCx h0 h t W) (PL : PlI h0 P m) (hi : i < P) (hk : k < 12) (tk : t k = true) (rows : ∀ j : Nat, j < i → h.i 123 (j : Int) = on.getD j (-1)) (ek : h.i 123 (i : Int) = (k : Int)) (onb : ∀ j, onV t (on.getD j (-1))) (hL : h0.i 119 (i : Int) ≠ -1) (H : ∀ h', Fr [114, 115, 116] [] h h' → Q (offV (jD h0 t W) on i k) h') : ∀ (n j : Nat), j + n = i → fJ (jD h0 t W) on (h0.i 119 (i : Int)) i 0 = fJ (jD h0 t W) on (h0.i 119 (i : Int)) n j → xT (d + 3) M_R_isOffRhyme 10 [(1, 59), (0, (i : Int)), (0, (j : Int))] [] h (xqi Q) := by
  have S := C.1
  have g : h.tag 59 = 12 ∧ h.r 59 76 = 123 ∧ h.tag 123 = 20 ∧ h.len 123 = 12 ∧ h.r 59 71 = 119 ∧ h.tag 119 = 20 ∧ h.len 119 = 12 := by simp only [srt S, srl S, srf S, true_and, and_true, false_and, and_false, forall_eq, forall_eq', xi_wi, xr_wi, xt_wi, xl_wi, xn_wi, xs_wi, xi_wr, xr_wr, xt_wr, xl_wr, xn_wr, xs_wr, if_true, if_false, and_self, Int.reduceEq, Int.reduceLT, Int.reduceLE, Int.reduceNeg, Int.le_refl, Int.reduceMod]
  obtain ⟨g1, g2, g3, g4, g5, g6, g7⟩ := g
  have P12 := PL.2.2.1
  have eO : offV (jD h0 t W) on i k = if h0.i 119 (i : Int) ≠ -1 ∧ fJ (jD h0 t W) on (h0.i 119 (i : Int)) i 0 ≠ -1 ∧ (jD h0 t W).rh (fJ (jD h0 t W) on (h0.i 119 (i : Int)) i 0).toNat k = false then 1 else 0 := rfl
  intro n
  induction n with
  | zero =>
    intro j hj e
    apply L_R_isOffRhyme_10
    rw [if_neg (by omega)]
    have z := H h (Fr_refl _ _ _)
    have e0 : fJ (jD h0 t W) on (h0.i 119 (i : Int)) i 0 = -1 := e
    rw [eO, e0, if_neg (fun y => y.2.1 rfl)] at z
    exact z
  | succ n ih =>
    intro j hj e
    have ob := onb j
    have eL : (jD h0 t W).L j = h0.i 119 (j : Int) := rfl
    have e' : fJ (jD h0 t W) on (h0.i 119 (i : Int)) (n + 1) j = if on.getD j (-1) ≠ -1 ∧ (jD h0 t W).L j = h0.i 119 (i : Int) then on.getD j (-1) else fJ (jD h0 t W) on (h0.i 119 (i : Int)) n (j + 1) := by rw [fJ]
    rw [e', eL] at e
    have eR := rows j (by omega)
    have nx : ¬ (on.getD j (-1) ≠ -1 ∧ h0.i 119 (j : Int) = h0.i 119 (i : Int)) → xT (d + 3) M_R_isOffRhyme 10 [(1, 59), (0, (i : Int)), (0, xw ((j : Int) + 1))] [] h (xqi Q) := fun no => by
      rw [if_neg no] at e
      have := ih (j + 1) (by omega) e
      rw [xw_id (a := (j : Int) + 1) (by omega) (by omega)]
      push_cast at this
      exact this
    apply L_R_isOffRhyme_10
    rw [if_pos (by omega), g2, g4, eR]
    refine ⟨g1, ⟨g3, by omega, by omega⟩, ?_⟩
    by_cases c1 : on.getD j (-1) = -1
    · rw [if_pos c1]
      intro x1 ex
      rw [ex]
      exact nx (fun z => z.1 c1)
    · rw [if_neg c1, g5, g7, C.2.2.2.2.1]
      refine ⟨⟨g6, by omega, by omega⟩, ⟨g6, by omega, by omega⟩, ?_⟩
      by_cases c2 : h0.i 119 (j : Int) = h0.i 119 (i : Int)
      · rw [if_pos c2, ek]
        rw [if_pos ⟨c1, c2⟩] at e
        rw [e] at eO
        generalize on.getD j (-1) = v at ob c1 e eO ⊢
        refine ⟨⟨g3, by omega, by omega⟩, ⟨g3, by omega, by omega⟩, ?_⟩
        rcases ob with ob | ob
        · exact absurd ob c1
        · obtain ⟨o0, o1, o2⟩ := ob
          have hv : ((v.toNat : Nat) : Int) = v := by omega
          have a := C.2.1 v.toNat (by omega)
          have b := C.2.1 k hk
          rw [hv] at a
          have az := a.2 o2
          have bz := b.2 tk
          have er : (jD h0 t W).rh v.toNat k = samF (endL (flat (W v.toNat))) (endL (flat (W k))) := rfl
          refine c_R_rhyme (d := d) S o0 (by omega) (by omega) (by omega) (a.1.mp o2) (b.1.mp tk) az.1 az.2.1 az.2.2 bz.1 bz.2.1 bz.2.2 (fun h' F' => ?_)
          have z := H h' F'
          rw [eO] at z
          by_cases c3 : rhyV (W v.toNat) (W k) = 3
          · rw [if_pos c3]
            rw [if_neg (fun y => by
              have y3 := y.2.2
              rw [er, rhyV_3.mp c3] at y3
              exact absurd y3 (by decide))] at z
            exact z
          · rw [if_neg c3]
            rw [if_pos ⟨hL, c1, by rw [er]; exact Bool.eq_false_iff.mpr (fun y => c3 (rhyV_3.mpr y))⟩] at z
            exact z
      · rw [if_neg c2]
        intro x2 ex
        rw [ex]
        exact nx (fun z => c2 z.2)
theorem c_R_off {Q : Int → xH → Prop} {h : xH} {i k : Nat} {on : List Int} (C : RCx h0 h t W) (PL : PlI h0 P m) (hi : i < P) (hk : k < 12) (tk : t k = true) (rows : ∀ j : Nat, j < i → h.i 123 (j : Int) = on.getD j (-1)) (ek : h.i 123 (i : Int) = (k : Int)) (onb : ∀ j, onV t (on.getD j (-1))) (H : ∀ h', Fr [114, 115, 116] [] h h' → Q (offV (jD h0 t W) on i k) h') : xCi (d + 4) M_R_isOffRhyme [(1, 59), (0, (i : Int))] h Q := by
  have S := C.1
  have g : h.tag 59 = 12 ∧ h.r 59 71 = 119 ∧ h.tag 119 = 20 ∧ h.len 119 = 12 := by simp only [srt S, srl S, srf S, true_and, and_true, false_and, and_false, forall_eq, forall_eq', xi_wi, xr_wi, xt_wi, xl_wi, xn_wi, xs_wi, xi_wr, xr_wr, xt_wr, xl_wr, xn_wr, xs_wr, if_true, if_false, and_self, Int.reduceEq, Int.reduceLT, Int.reduceLE, Int.reduceNeg, Int.le_refl, Int.reduceMod]
  obtain ⟨g1, g2, g3, g4⟩ := g
  have P12 := PL.2.2.1
  apply L_R_isOffRhyme
  rw [g2, g4, C.2.2.2.2.1]
  refine ⟨g1, ⟨g3, by omega, by omega⟩, ?_⟩
  by_cases c : h0.i 119 (i : Int) = -1
  · rw [if_pos c]
    have z := H h (Fr_refl _ _ _)
    have eO : offV (jD h0 t W) on i k = if h0.i 119 (i : Int) ≠ -1 ∧ fJ (jD h0 t W) on (h0.i 119 (i : Int)) i 0 ≠ -1 ∧ (jD h0 t W).rh (fJ (jD h0 t W) on (h0.i 119 (i : Int)) i 0).toNat k = false then 1 else 0 := rfl
    rw [eO, if_neg (fun y => y.1 c)] at z
    exact z
  · rw [if_neg c]
    have key := c_R_off10 (d := d) C PL hi hk tk rows ek onb c H i 0 (Nat.zero_add i) rfl
    exact key
theorem c_R_lo25 {Q : Int → xH → Prop} {o : Nat} {h : xH} {l2 l3 l5 : Int} {u6 u7 : xV} (C : RCx h0 h t W) : ∀ (n k : Nat), k + n = 12 → xT (d + 4) M_R_layOn 34 [(1, 59), (0, (o : Int)), (0, l2), (0, l3), (0, ((nxF t n k : Nat) : Int)), (0, l5), u6, u7] [] h (xql Q) → xT (d + 4) M_R_layOn 25 [(1, 59), (0, (o : Int)), (0, l2), (0, l3), (0, (k : Int)), (0, l5), u6, u7] [] h (xql Q) := by
  have S := C.1
  have g : h.tag 59 = 12 := (srt S).1
  intro n
  induction n with
  | zero =>
    intro k hk H
    apply L_R_layOn_25
    rw [if_neg (by omega)]
    rw [nxF] at H
    exact H
  | succ n ih =>
    intro k hk H
    rw [nxF] at H
    apply L_R_layOn_25
    rw [if_pos (by omega)]
    refine ⟨g, ?_⟩
    refine c_R_hasK (d := d + 2) S C.2.1 (by omega) ?_
    cases tk : t k with
    | true =>
      rw [if_neg (show ¬ b2i true = 0 by decide)]
      rw [if_pos tk] at H
      exact H
    | false =>
      rw [if_pos (show b2i false = 0 from rfl)]
      rw [if_neg (by rw [tk]; decide)] at H
      intro x1 ex
      rw [ex, xw_id (a := (k : Int) + 1) (by omega) (by omega)]
      have := ih (k + 1) (by omega) H
      push_cast at this
      exact this
theorem c_R_lo105 {Q : Int → xH → Prop} {o : Nat} {h : xH} {l3 : Int} {u5 u6 u7 : xV} (C : RCx h0 h t W) (l30 : 0 ≤ l3) (l31 : l3 ≤ 100000) : ∀ (n k : Nat) (l2 : Int) (u1 : xV), k + n = 12 → 0 ≤ l2 → l2 ≤ 60 + (k : Int) → Q (1000000 * (l2 + ctL t k) + l3) h → xT (d + 4) M_R_layOn 105 [(1, 59), u1, (0, l2), (0, l3), (0, (k : Int)), u5, u6, u7] [] h (xql Q) := by
  have S := C.1
  have g : h.tag 59 = 12 := (srt S).1
  intro n
  induction n with
  | zero =>
    intro k l2 u1 hk l20 l21 H
    have e : k = 12 := by omega
    subst e
    apply L_R_layOn_105
    rw [if_neg (by decide), xl_key l20 (by omega) l30 l31]
    rw [ctL_12, Int.add_zero] at H
    exact H
  | succ n ih =>
    intro k l2 u1 hk l20 l21 H
    apply L_R_layOn_105
    rw [if_pos (by omega)]
    refine ⟨g, ?_⟩
    refine c_R_hasK (d := d + 2) S C.2.1 (by omega) ?_
    cases tk : t k with
    | true =>
      rw [if_neg (show ¬ b2i true = 0 by decide)]
      intro x3 e3 x4 e4
      rw [e3, e4, xw_id (a := l2 + 1) (by omega) (by omega), xw_id (a := (k : Int) + 1) (by omega) (by omega)]
      have := ih (k + 1) (l2 + 1) (xkl u1) (by omega) (by omega) (by push_cast; omega) (by rw [ctL_s (by omega) tk] at H; rw [show l2 + 1 + ctL t (k + 1) = l2 + (1 + ctL t (k + 1)) by omega]; exact H)
      push_cast at this
      exact this
    | false =>
      rw [if_pos (show b2i false = 0 from rfl)]
      intro x1 e1 x2 e2
      rw [e1, e2, xw_id (a := l2 + 0) (by omega) (by omega), xw_id (a := (k : Int) + 1) (by omega) (by omega), Int.add_zero]
      have ec : ctL t k = ctL t (k + 1) := by
        unfold ctL
        rw [show 12 - k = (12 - (k + 1)) + 1 by omega, ctF, if_neg (by rw [tk]; decide), Int.zero_add]
      have := ih (k + 1) l2 (xkl u1) (by omega) l20 (by push_cast; omega) (by rw [← ec]; exact H)
      push_cast at this
      exact this
end JR
