/-! learn: the reference's loop over the lines -/
section RLP
variable {n0 : Nat} {h0 : xH} {f : Int} {d : Nat}
noncomputable def lnW (h0 : xH) (f : Int) (m : Nat) (w : Int) : Int := sumN (fun k => if lnB h0 f k = true then cntW w (lnP h0 f k) else 0) m
def rlS : List (Int × Int) := [(59, 55), (59, 45), (59, 46)]
theorem RPre_s {h h' : xH} {l f : Int} {E : SEn} {c : List Int} {c2 : List (Int × Int)} (F : Fr c c2 h h') (d : (c.all (fun x => decide (97 < x)) && c2.all (fun p => decide (p.1 = 59))) = true) (P : RPre h l f E) : RPre h' l f E := by
  simp only [Bool.and_eq_true, List.all_eq_true, decide_eq_true_eq] at d
  have row : ∀ x : Int, 59 < x → x ≤ 97 → h'.i x = h.i x := fun x x0 x1 => Fr_row F (fun m => by have := d.1 x m; omega) (fun q m e => by have := d.2 q m; omega)
  obtain ⟨p1, p2, p3, p4, p5, p6, p7, p8⟩ := P
  refine ⟨SR_2 F.1 p1, p2, p3, p4, p5, ?_, p7, ?_⟩
  · rw [← p6]
    funext k i
    unfold envR
    rw [row 81 (by decide) (by decide), row 85 (by decide) (by decide), row 82 (by decide) (by decide), row 88 (by decide) (by decide), row 87 (by decide) (by decide), row 95 (by decide) (by decide), row 94 (by decide) (by decide), row 96 (by decide) (by decide), row 89 (by decide) (by decide), row 91 (by decide) (by decide), row 92 (by decide) (by decide), row 93 (by decide) (by decide), row 90 (by decide) (by decide), row 97 (by decide) (by decide)]
  · rw [row 88 (by decide) (by decide), row 87 (by decide) (by decide)]
    exact p8
theorem enc_st0 (E : SEn) : scEnc E st0 = 0 := by
  unfold scEnc st0
  rw [if_neg (by decide), if_pos rfl]
theorem c_R_learn_24 {Q : Int → xH → Prop} {h1 : xH} (RP : ∀ k : Int, 0 ≤ k → k < 12 → h0.i 76 (k + 1) ≠ 0 → RPre h1 (k + 1) f (envR h0 (k + 1) f)) (e76 : h1.i 76 = h0.i 76) (PO : ∀ j : Nat, j < 12 → lnB h0 f j = true → PthOk (lnP h0 f j)) (H : ∀ h u5 u6 u7, Fr rlL rlS h1 h → SR h → (∀ w, 0 ≤ w → w < 6 → h.i 129 w = lnW h0 f 12 w) → if lnR h0 f 12 = 0 then Q (-1) h else xT (d + 61) M_R_learn 108 [(1, 59), (0, f), (0, lnR h0 f 12), (0, lnS h0 f 12), (0, 0), u5, u6, u7] [] h (xqi Q)) : ∀ (m k : Nat) (h : xH) (u5 u6 u7 : xV), k + m = 12 → Fr rlL rlS h1 h → SR h → (∀ w, 0 ≤ w → w < 6 → h.i 129 w = lnW h0 f k w) → xT (d + 61) M_R_learn 24 [(1, 59), (0, f), (0, lnR h0 f k), (0, lnS h0 f k), (0, (k : Int)), u5, u6, u7] [] h (xqi Q) := by
  have okE : ∀ k : Int, 0 ≤ k → k < 12 → h0.i 76 (k + 1) ≠ 0 → EOk (envR h0 (k + 1) f) := fun k a b c => (RP k a b c).2.2.2.2.2.2.1
  intro m
  induction m with
  | zero =>
    intro k h u5 u6 u7 hk F S U
    have e12 : k = 12 := by omega
    subst e12
    have K := H h u5 u6 u7 F S U
    apply L_R_learn_24
    rw [if_neg (by decide)]
    exact K
  | succ m ih =>
    intro k h u5 u6 u7 hk F S U
    have r76 : h.i 76 = h0.i 76 := by rw [Fr_row F (by decide) (by decide)]; exact e76
    have pbd : ∀ j : Int, 0 ≤ j → j < k → (0 ≤ (if lnB h0 f j = true then (((lnP h0 f j).length : Nat) : Int) else 0) ∧ (if lnB h0 f j = true then (((lnP h0 f j).length : Nat) : Int) else 0) ≤ 40) ∧ ∀ l, 0 ≤ (if lnB h0 f j = true then cntW l (lnP h0 f j) else 0) ∧ (if lnB h0 f j = true then cntW l (lnP h0 f j) else 0) ≤ 40 := by
      intro j j0 j1
      obtain ⟨i, rfl⟩ : ∃ i : Nat, j = (i : Int) := ⟨j.toNat, by omega⟩
      by_cases c : lnB h0 f i = true
      · have := PO i (by omega) c
        rw [if_pos c]
        refine ⟨⟨by omega, by have := this.1; omega⟩, fun l => ?_⟩
        rw [if_pos c]
        have b := cntW_bd l (lnP h0 f i)
        have := this.1
        omega
      · rw [if_neg c]
        exact ⟨by decide, fun l => by rw [if_neg c]; decide⟩
    have bS : 0 ≤ lnS h0 f k ∧ lnS h0 f k ≤ 40 * k := sumN_bd (by decide) k (fun j j0 j1 => (pbd j j0 j1).1)
    have bR : 0 ≤ lnR h0 f k ∧ lnR h0 f k ≤ 1 * k := sumN_bd (by decide) k (fun j j0 j1 => by
      by_cases c : lnB h0 f j = true
      · rw [if_pos c]; decide
      · rw [if_neg c]; decide)
    have bW : ∀ w, 0 ≤ lnW h0 f k w ∧ lnW h0 f k w ≤ 40 * k := fun w => sumN_bd (by decide) k (fun j j0 j1 => (pbd j j0 j1).2 w)
    have sS : lnS h0 f (k + 1) = lnS h0 f k + (if lnB h0 f k = true then (((lnP h0 f k).length : Nat) : Int) else 0) := rfl
    have sR : lnR h0 f (k + 1) = lnR h0 f k + (if lnB h0 f k = true then 1 else 0) := rfl
    have sW : ∀ w, lnW h0 f (k + 1) w = lnW h0 f k w + (if lnB h0 f k = true then cntW w (lnP h0 f k) else 0) := fun w => rfl
    have nxk : ∀ x : Int, x = xw ((k : Int) + 1) → x = ((k + 1 : Nat) : Int) := fun x e => by rw [e, xw_id (by omega) (by omega)]; push_cast; rfl
    have skip : lnB h0 f k = false → ∀ h2 u5 u6 u7, Fr rlL rlS h1 h2 → SR h2 → h2.i 129 = h.i 129 → ∀ x : Int, x = xw ((k : Int) + 1) → xT (d + 61) M_R_learn 24 [(1, 59), (0, f), (0, lnR h0 f k), (0, lnS h0 f k), (0, x), u5, u6, u7] [] h2 (xqi Q) := fun no h2 u5 u6 u7 F2 S2 e2 x ex => by
      have nt : ¬ lnB h0 f k = true := by rw [no]; decide
      have := ih (k + 1) h2 u5 u6 u7 (by omega) F2 S2 (fun w w0 w1 => by rw [e2, U w w0 w1, sW, if_neg nt]; omega)
      rw [sS, sR, if_neg nt, if_neg nt, Int.add_zero, Int.add_zero] at this
      rw [nxk x ex]
      exact this
    apply L_R_learn_24
    rw [if_pos (by omega)]
    refine ⟨(srt S).1, ?_⟩
    refine c_R_hasLine (d := d + 59) S ?_
    rw [r76]
    by_cases c : h0.i 76 ((k : Int) + 1) = 0
    · rw [if_neg (show ¬ (0 ≤ (k : Int) ∧ (k : Int) ≤ 11 ∧ h0.i 76 ((k : Int) + 1) ≠ 0) from fun z => z.2.2 c), if_pos rfl]
      exact skip (by unfold lnB; rw [decide_eq_false (fun z => z c), Bool.false_and]) h u5 u6 u7 F S rfl
    · rw [if_pos (show 0 ≤ (k : Int) ∧ (k : Int) ≤ 11 ∧ h0.i 76 ((k : Int) + 1) ≠ 0 from ⟨by omega, by omega, c⟩), if_neg (by decide), xw_id (a := (k : Int) + 1) (by omega) (by omega)]
      refine ⟨(srt S).1, ?_⟩
      have ok := okE (k : Int) (by omega) (by omega) c
      have P := RPre_s F (by decide) (RP (k : Int) (by omega) (by omega) c)
      refine c_R_cheapest (d := d) P (fun h2 F2 R2 M2 st2 => ?_)
      have F12 : Fr rlL rlS h1 h2 := Fr_trans F (Fr_mono F2 (by decide) (by decide))
      have e129 : h2.i 129 = h.i 129 := Fr_row F2 (by decide) (by decide)
      by_cases c2 : chp (envR h0 ((k : Int) + 1) f) = -1
      · rw [if_pos c2]
        have hb : lnB h0 f k = false := by
          unfold lnB
          rw [decide_eq_false (show ¬ (chp (envR h0 ((k : Int) + 1) f) ≠ -1) from fun z => z c2), Bool.and_false]
        have S2 : SR h2 := R2.1
        intro x2 e2
        exact skip hb h2 u5 u6 u7 F12 S2 e129 x2 (by rw [xw_id (by omega) (by omega)]; exact e2)
      · rw [if_neg c2]
        have yes : lnB h0 f k = true := by unfold lnB; rw [decide_eq_true c, decide_eq_true c2]; rfl
        have ce := chp_ne ok c2
        have po := PO k (by omega) yes
        intro x3 e3
        rw [xw_id (by omega) (by omega)] at e3
        subst e3
        have e0 : st0.1 = 0 := rfl
        have := c_R_learn_43 (d := d + 53) 42 st0 h2 (lnR h0 f k + 1) (lnS h0 f k) (k : Int) f u6 u7 Q (by rw [e0]; decide) R2 M2 st0_ok (by rw [enc_st0]; exact st2) ce.1 bS.1 (by rw [e0]; omega) (fun w w0 w1 => by rw [e129, U w w0 w1, e0]; have := bW w; omega) (fun h3 Lp u5 u6 Pp F3 R3 v3 x ex => ?_)
        · rw [enc_st0] at this
          exact this
        · have ep : Lp = lnP h0 f k := pth_eq ok 42 st0 Lp st0_ok Pp
          have := ih (k + 1) h3 u5 u6 u7 (by omega) (Fr_trans F12 (Fr_mono F3 (fun c m => m) (by decide))) R3.1 (fun w w0 w1 => by rw [v3 w w0 w1, e129, U w w0 w1, sW, if_pos yes, ep])
          rw [sS, sR, if_pos yes, if_pos yes] at this
          rw [nxk x ex, ep]
          exact this
end RLP
