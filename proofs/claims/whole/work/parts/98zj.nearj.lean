/-! near: the gates; both sides together -/
section XN3
variable {p f : Int} {E : SEn} {d : Nat} {Q : xH → Prop}
theorem gix {q i : Int} (q0 : 0 ≤ q) (q1 : q < 9) (i0 : 0 ≤ i) (i1 : i ≤ 40) : xw (xw (q * 41) + i) = 41 * q + i := by
  rw [xw_id (a := q * 41) (by omega) (by omega), xw_id (by omega) (by omega)]; omega
/-- the gates of position q behind k feet -/
def GpI (h : xH) (E : SEn) (q : Int) (k : Nat) : Prop := ∀ i, 0 ≤ i → i ≤ E 0 0 → 0 ≤ h.i 46 (41 * q + i) ∧ h.i 46 (41 * q + i) ≤ 1048576 ∧ min (h.i 46 (41 * q + i)) 1048576 = min (nPs E (nN E) i q k) 1048576
theorem GaI_w {h h' : xH} {q i v : Int} (q0 : 0 ≤ q) (i0 : 0 ≤ i) (i1 : i ≤ 40) (n40 : E 0 0 ≤ 40) (e : h' = h.wi 46 (41 * q + i) v) (G : GaI h E (q + 1)) : GaI h' E (q + 1) := by
  intro p' j a b c d
  rw [e, xi_wi, if_neg (fun z => by omega)]
  exact G p' j a b c d
theorem c_X_fg2 {q : Int} {u3 u4 : xV} (q0 : 0 ≤ q) (q1 : q < E 5 0) : ∀ (n m : Nat) (h : xH), ((m + n : Nat) : Int) = E 0 0 + 1 → NC h p f E → GaI h E (q + 1) → (∀ i : Int, 0 ≤ i → i < (m : Int) → h.i 46 (41 * q + i) = 1048576) → (∀ h', Fr [46] [] h h' → GaI h' E (q + 1) → GpI h' E q 0 → xT d M_Near_fillGate 20 [(1, 45), (0, q), (0, 0), u3, u4] [] h' (xqv Q)) → xT d M_Near_fillGate 2 [(1, 45), (0, q), (0, (m : Int)), u3, u4] [] h (xqv Q) := by
  intro n
  induction n with
  | zero =>
    intro m h hm N G ms H
    obtain ⟨t45, t2, t3, t4, t5, t6, t7, t8, t9, t10, t11⟩ := nc_g N
    apply L_Near_fillGate_2
    rw [N.2.1, t11]
    refine ⟨t45, t10, ?_⟩
    rw [if_pos (by omega)]
    refine H h (Fr_refl _ _ _) G (fun i i0 i1 => ?_)
    rw [ms i i0 (by omega), nPs]
    decide
  | succ n ih =>
    intro m h hm N G ms H
    have ok := N.1.2.2.2.1
    have n40 := ok.2.1
    have p8 := ok.2.2.2.2.1
    obtain ⟨t45, t2, t3, t4, t5, t6, t7, t8, t9, t10, t11⟩ := nc_g N
    apply L_Near_fillGate_2
    rw [N.2.1, t11]
    refine ⟨t45, t10, ?_⟩
    rw [if_neg (by omega), t4, t6, gix q0 (by omega) (by omega) (by omega)]
    refine ⟨⟨t5, by omega, by omega⟩, fun h1 e1 x1 ex => ?_⟩
    rw [xw_id (by omega) (by omega)] at ex
    rw [ex]
    have F1 : Fr [46] [] h h1 := by rw [e1]; exact Fr_cell (Fr_refl _ _ _) _ _ (by decide)
    have key := ih (m + 1) h1 (by omega) (NC_fr (Fr_mono F1 (by decide) (fun c m => m)) N) (GaI_w q0 (by omega) (by omega) n40 e1 G) (fun i i0 i1 => ?_) (fun h' F' G' P' => H h' (Fr_trans F1 F') G' P')
    · push_cast at key; exact key
    · rw [e1, xi_wi]
      by_cases z : i = (m : Int)
      · rw [if_pos ⟨rfl, by omega⟩]
      · rw [if_neg (fun y => by omega)]; exact ms i i0 (by push_cast at i1; omega)
theorem c_X_fg39 {q : Int} {k : Nat} (q0 : 0 ≤ q) (q1 : q < E 5 0) (k1 : k < 12) (st : scStand E q (k : Int) = true) (hr : xH) : ∀ (n m : Nat) (h : xH), ((m + n : Nat) : Int) = E 0 0 + 1 → NC h p f E → GaI h E (q + 1) → h.r 23 (k : Int) = hr.r 23 (k : Int) → CeI h E q (k : Int) (-1) (fcE E (k : Int) - 1) → (∀ i, 0 ≤ i → i ≤ E 0 0 → 0 ≤ h.i 46 (41 * q + i) ∧ h.i 46 (41 * q + i) ≤ 1048576 ∧ min (h.i 46 (41 * q + i)) 1048576 = min (nPs E (nN E) i q (if i < (m : Int) then k + 1 else k)) 1048576) → (∀ h' u3 u4, Fr [46] [] h h' → GaI h' E (q + 1) → GpI h' E q (k + 1) → xT (d + 3) M_Near_fillGate 20 [(1, 45), (0, q), (0, (k : Int) + 1), u3, u4] [] h' (xqv Q)) → xT (d + 3) M_Near_fillGate 39 [(1, 45), (0, q), (0, (k : Int)), (1, hr.r 23 (k : Int)), (0, (m : Int))] [] h (xqv Q) := by
  intro n
  induction n with
  | zero =>
    intro m h hm N G er C P H
    obtain ⟨t45, t2, t3, t4, t5, t6, t7, t8, t9, t10, t11⟩ := nc_g N
    apply L_Near_fillGate_39
    rw [N.2.1, t11]
    refine ⟨t45, t10, ?_⟩
    rw [if_pos (by omega)]
    intro x1 e1
    rw [xw_id (by omega) (by omega)] at e1
    rw [e1]
    refine H h _ _ (Fr_refl _ _ _) G (fun i i0 i1 => ?_)
    have := P i i0 i1
    rw [if_pos (by omega)] at this
    exact this
  | succ n ih =>
    intro m h hm N G er C P H
    have ok := N.1.2.2.2.1
    have n40 := ok.2.1
    have p8 := ok.2.2.2.2.1
    obtain ⟨t45, t2, t3, t4, t5, t6, t7, t8, t9, t10, t11⟩ := nc_g N
    have cf : ∀ c' b, 0 ≤ c' → c' < fcE E (k : Int) → (((16 : Int) = 16 ∨ (16 : Int) < c') → CeV h E q (k : Int) c' (m : Int) b) ∧ ((m : Int) < E 0 0 → CeV h E q (k : Int) c' ((m : Int) + 1) b) := fun c' b a1 a2 => ⟨fun _ => C _ c' b (by omega) (by omega) a1 a2 (Or.inl (by omega)), fun a3 => C _ c' b (by omega) (by omega) a1 a2 (Or.inl (by omega))⟩
    apply L_Near_fillGate_39
    rw [N.2.1, t11]
    refine ⟨t45, t10, ?_⟩
    rw [if_neg (by omega), t4, t6, gix q0 (by omega) (by omega) (by omega), ← er]
    refine ⟨⟨t5, by omega, by omega⟩, ?_⟩
    refine c_X_least (d := d) N q0 q1 (by omega) (by omega) st (by decide) (by decide) (by omega) (by omega) cf (fun v v0 v1 v2 => ?_)
    rw [t6]
    refine ⟨⟨t5, by omega, by omega⟩, fun h2 e2 x2 ex => ?_⟩
    rw [xw_id (by omega) (by omega)] at ex
    rw [ex, er]
    have F2 : Fr [46] [] h h2 := by rw [e2]; exact Fr_cell (Fr_refl _ _ _) _ _ (by decide)
    have key := ih (m + 1) h2 (by omega) (NC_fr (Fr_mono F2 (by decide) (fun c m => m)) N) (GaI_w q0 (by omega) (by omega) n40 e2 G) (by rw [(fr_same F2).1]; exact er) (CeI_46 (Fr_row F2 (by decide) (by decide)) C) (fun i i0 i1 => ?_) (fun h' u3 u4 F' G' P' => H h' u3 u4 (Fr_trans F2 F') G' P')
    · push_cast at key; exact key
    · rw [e2, xi_wi]
      have a := P i i0 i1
      by_cases z : i = (m : Int)
      · subst z
        rw [if_pos ⟨rfl, rfl⟩, if_pos (show (m : Int) < ((m + 1 : Nat) : Int) by push_cast; omega)]
        rw [if_neg (show ¬ (m : Int) < (m : Int) by omega)] at a
        have nS : nPs E (nN E) (m : Int) q (k + 1) = min (nPs E (nN E) (m : Int) q k) (nCh E (nN E) (m : Int) q (k : Int) 16) := by
          show min _ (if scStand E q (k : Int) = true then _ else _) = _
          rw [if_pos st]
        rw [nS]
        have a1 := a.1
        have a2 := a.2.1
        have a3 := a.2.2
        generalize h.i 46 (41 * q + (m : Int)) = g at a1 a2 a3 ⊢
        generalize nPs E (nN E) (m : Int) q k = z1 at a3 ⊢
        generalize nCh E (nN E) (m : Int) q (k : Int) 16 = z2 at v2 ⊢
        clear ih H C P cf G a
        by_cases w : v < g
        · rw [if_pos w]; omega
        · rw [if_neg w]; omega
      · rw [if_neg (fun y => by omega)]
        by_cases w : i < (m : Int)
        · rw [if_pos w] at a
          rw [if_pos (show i < ((m + 1 : Nat) : Int) by push_cast; omega)]; exact a
        · rw [if_neg w] at a
          rw [if_neg (show ¬ i < ((m + 1 : Nat) : Int) by push_cast; omega)]; exact a
theorem c_X_fg76 {q : Int} {u3 u4 : xV} (q0 : 0 ≤ q) (q1 : q < E 5 0) (hb : xH) (H : ∀ h', Fr [46] [] hb h' → NC h' p f E → GaI h' E q → (Q h')) : ∀ (n : Nat) (h : xH), (n : Int) ≤ E 0 0 → Fr [46] [] hb h → NC h p f E → GaI h E (q + 1) → (∀ i, 0 ≤ i → i ≤ E 0 0 → 0 ≤ h.i 46 (41 * q + i) ∧ h.i 46 (41 * q + i) ≤ 1048576 ∧ min (h.i 46 (41 * q + i)) 1048576 = min (if i < (n : Int) then nPs E (nN E) i q 12 else nGt E q (E 0 0 - i).toNat) 1048576) → xT d M_Near_fillGate 76 [(1, 45), (0, q), (0, (n : Int) - 1), u3, u4] [] h (xqv Q) := by
  intro n
  induction n with
  | zero =>
    intro h hn F0 N G P
    apply L_Near_fillGate_76
    rw [if_pos (by decide)]
    refine H h F0 N (fun p' i a b c d => ?_)
    by_cases z : p' = q
    · subst z
      have := P i c d
      rw [if_neg (by omega)] at this
      exact this
    · exact G p' i (by omega) b c d
  | succ n ih =>
    intro h hn F0 N G P
    have ok := N.1.2.2.2.1
    have n40 := ok.2.1
    have p8 := ok.2.2.2.2.1
    obtain ⟨t45, t2, t3, t4, t5, t6, t7, t8, t9, t10, t11⟩ := nc_g N
    push_cast at hn
    rw [show (((n + 1 : Nat) : Int) - 1) = (n : Int) by push_cast; omega]
    have a := P (n : Int) (by omega) (by omega)
    have b := P ((n : Int) + 1) (by omega) (by omega)
    rw [if_pos (show (n : Int) < ((n + 1 : Nat) : Int) by push_cast; omega)] at a
    rw [if_neg (show ¬ (n : Int) + 1 < ((n + 1 : Nat) : Int) by push_cast; omega)] at b
    apply L_Near_fillGate_76
    rw [if_neg (by omega), t4, t6, gix q0 (by omega) (by omega) (by omega), xw_id (a := 41 * q + (n : Int) + 1) (by omega) (by omega), show 41 * q + (n : Int) + 1 = 41 * q + ((n : Int) + 1) by omega]
    have b0 := b.1
    have b1 := b.2.1
    rw [xw_id (a := 1 + h.i 46 (41 * q + ((n : Int) + 1))) (by omega) (by omega)]
    refine ⟨t45, ⟨t5, by omega, by omega⟩, ⟨t5, by omega, by omega⟩, ⟨t5, by omega, by omega⟩, fun h1 e1 x1 ex => ?_⟩
    rw [xw_id (by omega) (by omega)] at ex
    rw [ex, show (n : Int) + -1 = (n : Int) - 1 by omega]
    have F1 : Fr [46] [] h h1 := by rw [e1]; exact Fr_cell (Fr_refl _ _ _) _ _ (by decide)
    refine ih h1 (by omega) (Fr_trans F0 F1) (NC_fr (Fr_mono F1 (by decide) (fun c m => m)) N) (GaI_w q0 (by omega) (by omega) n40 e1 G) (fun i i0 i1 => ?_)
    rw [e1, xi_wi]
    by_cases z : i = (n : Int)
    · subst z
      rw [if_pos ⟨rfl, rfl⟩, if_neg (show ¬ (n : Int) < (n : Int) by omega)]
      obtain ⟨m, hm⟩ : ∃ m : Nat, (E 0 0 - (n : Int)).toNat = m + 1 := ⟨(E 0 0 - (n : Int)).toNat - 1, by omega⟩
      have hm2 : (E 0 0 - ((n : Int) + 1)).toNat = m := by omega
      rw [hm]
      rw [hm2] at b
      have b2 := b.2.2
      have a0 := a.1
      have a1 := a.2.1
      have a2 := a.2.2
      rw [nGt, if_neg (show ¬ q = E 5 0 by omega), show E 0 0 - ((m + 1 : Nat) : Int) = (n : Int) by omega]
      generalize h.i 46 (41 * q + (n : Int)) = x at a0 a1 a2 ⊢
      generalize h.i 46 (41 * q + ((n : Int) + 1)) = y at b0 b1 b2 ⊢
      generalize nPs E (nN E) (n : Int) q 12 = z1 at a2 ⊢
      have gb := nGt_bd ok (p := q) q0 (by omega) m (by omega)
      generalize nGt E q m = z2 at b2 gb ⊢
      clear ih H P G a b
      by_cases w : 1 + y < x
      · rw [if_pos w]; omega
      · rw [if_neg w]; omega
    · rw [if_neg (fun y => by omega)]
      have c := P i i0 i1
      by_cases w : i < (n : Int)
      · rw [if_pos (show i < ((n + 1 : Nat) : Int) by push_cast; omega)] at c
        rw [if_pos w]; exact c
      · rw [if_neg (show ¬ i < ((n + 1 : Nat) : Int) by push_cast; omega)] at c
        rw [if_neg w]; exact c
theorem c_X_fg20 {q : Int} (q0 : 0 ≤ q) (q1 : q < E 5 0) (h0 : xH) (H : ∀ h', Fr [46, 47] [] h0 h' → NC h' p f E → GaI h' E q → Q h') : ∀ (n k : Nat) (h : xH) (u3 u4 : xV), k + n = 12 → Fr [46, 47] [] h0 h → NC h p f E → GaI h E (q + 1) → GpI h E q k → xT (d + 8) M_Near_fillGate 20 [(1, 45), (0, q), (0, (k : Int)), u3, u4] [] h (xqv Q) := by
  intro n
  induction n with
  | zero =>
    intro k h u3 u4 hk F0 N G P
    have ok := N.1.2.2.2.1
    have n40 := ok.2.1
    have n1 := ok.1
    have e : k = 12 := by omega
    subst e
    obtain ⟨t45, t2, t3, t4, t5, t6, t7, t8, t9, t10, t11⟩ := nc_g N
    apply L_Near_fillGate_20
    rw [if_neg (by decide), N.2.1, t11]
    refine ⟨t45, t10, fun x2 e2 => ?_⟩
    rw [xw_id (by omega) (by omega)] at e2
    rw [e2]
    have key := c_X_fg76 (d := d + 8) (p := p) (f := f) (E := E) (Q := Q) (u3 := u3) (u4 := u4) q0 q1 h (fun h' F' N' G' => H h' (Fr_trans F0 (Fr_mono F' (by decide) (fun c m => m))) N' G') (E 0 0).toNat h (by omega) (Fr_refl _ _ _) N G (fun i i0 i1 => ?_)
    · rw [show (((E 0 0).toNat : Nat) : Int) - 1 = E 0 0 - 1 by omega] at key
      exact key
    · have a := P i i0 i1
      by_cases w : i < (((E 0 0).toNat : Nat) : Int)
      · rw [if_pos w]; exact a
      · rw [if_neg w, show (E 0 0 - i).toNat = 0 by omega, nGt, if_neg (show ¬ q = E 5 0 by omega)]
        rw [show i = E 0 0 by omega] at a ⊢
        exact a
  | succ n ih =>
    intro k h u3 u4 hk F0 N G P
    have ok := N.1.2.2.2.1
    have n40 := ok.2.1
    have n1 := ok.1
    have p8 := ok.2.2.2.2.1
    have X := N.1
    obtain ⟨t45, t2, t3, t4, t5, t6, t7, t8, t9, t10, t11⟩ := nc_g N
    apply L_Near_fillGate_20
    rw [if_pos (by omega), t2, N.2.2]
    refine ⟨t45, t3, ?_⟩
    refine c_X_footAt (d := d + 5) X q0 (by omega) (by omega) (by omega) ?_
    by_cases st : scStand E q (k : Int) = true
    · have ft := ft_of X (by omega) (by omega) st
      rw [if_pos (show q < E 5 0 ∧ scStand E q (k : Int) = true from ⟨q1, st⟩), if_neg ft.2]
      refine ⟨t45, ?_⟩
      refine c_X_fillFoot (d := d + 1) N q0 q1 (by omega) (by omega) st G (fun h2 F2 C2 => ?_)
      have N2 := NC_fr (Fr_mono F2 (by decide) (fun c m => m) : Fr [46, 47] [] h h2) N
      have e46 : h2.i 46 = h.i 46 := Fr_row F2 (by decide) (by decide)
      have key := c_X_fg39 (d := d + 5) (Q := Q) (k := k) q0 q1 (by omega) st h (E 0 0 + 1).toNat 0 h2 (by omega) N2 (GaI_47 e46 G) (by rw [(fr_same F2).1]) C2 (fun i i0 i1 => by rw [e46, if_neg (show ¬ i < ((0 : Nat) : Int) by omega)]; exact P i i0 i1) (fun h3 u3 u4 F3 G3 P3 => ?_)
      · exact key
      · have F23 : Fr [46, 47] [] h h3 := Fr_trans (Fr_mono F2 (by decide) (fun c m => m)) (Fr_mono F3 (by decide) (fun c m => m))
        have := ih (k + 1) h3 u3 u4 (by omega) (Fr_trans F0 F23) (NC_fr F23 N) G3 P3
        push_cast at this
        exact this
    · rw [if_neg (show ¬ (q < E 5 0 ∧ scStand E q (k : Int) = true) from fun z => st z.2), if_pos rfl]
      intro x1 e1
      rw [xw_id (by omega) (by omega)] at e1
      rw [e1]
      have := ih (k + 1) h (1, 0) u4 (by omega) F0 N G (fun i i0 i1 => by
        have a := P i i0 i1
        have nS : nPs E (nN E) i q (k + 1) = min (nPs E (nN E) i q k) 100000000 := by
          show min _ (if scStand E q (k : Int) = true then _ else _) = _
          rw [if_neg st]
        have b := (nPs_b2 ok i0 i1 q0 q1 k (by omega)).2
        rw [nS, show min (nPs E (nN E) i q k) 100000000 = nPs E (nN E) i q k by omega]
        exact a)
      push_cast at this
      exact this
theorem c_X_fillGate {h : xH} {q : Int} (N : NC h p f E) (q0 : 0 ≤ q) (q1 : q < E 5 0) (G : GaI h E (q + 1)) (H : ∀ h', Fr [46, 47] [] h h' → NC h' p f E → GaI h' E q → Q h') : xCv (d + 9) M_Near_fillGate [(1, 45), (0, q)] h Q := by
  have ok := N.1.2.2.2.1
  have n1 := ok.1
  apply L_Near_fillGate
  have key := c_X_fg2 (d := d + 8) (p := p) (f := f) (E := E) (Q := Q) (u3 := (9, 0)) (u4 := (9, 0)) q0 q1 (E 0 0 + 1).toNat 0 h (by omega) N G (fun i i0 i1 => by omega) (fun h1 F1 G1 P1 => ?_)
  · exact key
  · have F1' : Fr [46, 47] [] h h1 := Fr_mono F1 (by decide) (fun c m => m)
    exact c_X_fg20 (d := d) q0 q1 h H 12 0 h1 _ _ rfl F1' (NC_fr F1' N) G1 P1
end XN3
section XN4
variable {p f : Int} {E : SEn} {d : Nat} {Q : Int → xH → Prop}
theorem c_X_ch28 {u1 u2 : xV} (h0 : xH) (H : ∀ h', Fr [46, 47] [] h0 h' → NC h' p f E → GaI h' E (E 5 0) → xT d M_Near_changes 52 [(1, 45), u1, u2, (0, E 5 0), (0, E 5 0 - 1)] [] h' (xqi Q)) : ∀ (n m : Nat) (h : xH), ((m + n : Nat) : Int) = E 0 0 + 1 → Fr [46, 47] [] h0 h → NC h p f E → (∀ i : Int, 0 ≤ i → i < (m : Int) → h.i 46 (41 * E 5 0 + i) = E 0 0 - i) → xT d M_Near_changes 28 [(1, 45), u1, u2, (0, E 5 0), (0, (m : Int))] [] h (xqi Q) := by
  intro n
  induction n with
  | zero =>
    intro m h hm F0 N ms
    have ok := N.1.2.2.2.1
    have p1 := ok.2.2.2.1
    have p8 := ok.2.2.2.2.1
    have n40 := ok.2.1
    obtain ⟨t45, t2, t3, t4, t5, t6, t7, t8, t9, t10, t11⟩ := nc_g N
    apply L_Near_changes_28
    rw [N.2.1, t11]
    refine ⟨t45, t10, ?_⟩
    rw [if_pos (by omega)]
    intro x1 e1
    rw [xw_id (by omega) (by omega)] at e1
    rw [e1]
    refine H h F0 N (fun p' i a b c d => ?_)
    have e : p' = E 5 0 := by omega
    subst e
    have g : nGt E (E 5 0) (E 0 0 - i).toNat = E 0 0 - i := by
      cases z : (E 0 0 - i).toNat with
      | zero => rw [nGt, if_pos rfl]; omega
      | succ m => rw [nGt, if_pos rfl]; omega
    rw [ms i c (by omega), g]
    omega
  | succ n ih =>
    intro m h hm F0 N ms
    have ok := N.1.2.2.2.1
    have n40 := ok.2.1
    have p8 := ok.2.2.2.2.1
    have p1 := ok.2.2.2.1
    obtain ⟨t45, t2, t3, t4, t5, t6, t7, t8, t9, t10, t11⟩ := nc_g N
    apply L_Near_changes_28
    rw [N.2.1, t11]
    refine ⟨t45, t10, ?_⟩
    rw [if_neg (by omega), t4, t6, gix (by omega) (by omega) (by omega) (by omega)]
    refine ⟨⟨t5, by omega, by omega⟩, fun h1 e1 x2 ex => ?_⟩
    rw [xw_id (a := E 0 0 - (m : Int)) (by omega) (by omega)] at e1
    rw [xw_id (by omega) (by omega)] at ex
    rw [ex]
    have F1 : Fr [46, 47] [] h h1 := by rw [e1]; exact Fr_cell (Fr_refl _ _ _) _ _ (by decide)
    have key := ih (m + 1) h1 (by omega) (Fr_trans F0 F1) (NC_fr F1 N) (fun i i0 i1 => ?_)
    · push_cast at key; exact key
    · rw [e1, xi_wi]
      by_cases z : i = (m : Int)
      · rw [if_pos ⟨rfl, by omega⟩, z]
      · rw [if_neg (fun y => by omega)]; exact ms i i0 (by push_cast at i1; omega)
theorem c_X_ch52 {u1 u2 : xV} (h0 : xH) (H : ∀ h', Fr [46, 47] [] h0 h' → NC h' p f E → Q (if nN E 0 (-1) 0 0 false < 100000000 then nN E 0 (-1) 0 0 false else -1) h') : ∀ (n : Nat) (h : xH) (u3 : xV), (n : Int) ≤ E 5 0 → Fr [46, 47] [] h0 h → NC h p f E → GaI h E (n : Int) → xT (d + 9) M_Near_changes 52 [(1, 45), u1, u2, u3, (0, (n : Int) - 1)] [] h (xqi Q) := by
  intro n
  induction n with
  | zero =>
    intro h u3 hn F0 N G
    have ok := N.1.2.2.2.1
    have n1 := ok.1
    have n40 := ok.2.1
    obtain ⟨t45, t2, t3, t4, t5, t6, t7, t8, t9, t10, t11⟩ := nc_g N
    have k' : nOk E 0 (-1) 0 0 := ⟨Int.le_refl _, by omega, Or.inl ⟨rfl, rfl, rfl⟩⟩
    have v := nN_bd ok (b := false) k'
    have g := G 0 0 (Int.le_refl _) (by omega) (Int.le_refl _) (by omega)
    have e := nN_g0 ok (E 0 0).toNat (by omega)
    rw [show E 0 0 - (((E 0 0).toNat : Nat) : Int) = 0 by omega] at e
    rw [show (41 : Int) * 0 + 0 = 0 from rfl, show (E 0 0 - 0).toNat = (E 0 0).toNat by congr 1; omega, ← e] at g
    apply L_Near_changes_52
    rw [if_pos (by decide), t4, t6]
    refine ⟨t45, ⟨t5, by decide, by decide⟩, ?_⟩
    have K := H h F0 N
    have g0 := g.1
    have g1 := g.2.1
    have g2 := g.2.2
    generalize nN E 0 (-1) 0 0 false = w at v g2 K
    by_cases c : h.i 46 0 < 1048576
    · rw [if_pos c]
      refine ⟨⟨t5, by decide, by decide⟩, ?_⟩
      rw [if_pos (by omega), show w = h.i 46 0 by omega] at K
      exact K
    · rw [if_neg c]
      rw [if_neg (by omega)] at K
      exact K
  | succ n ih =>
    intro h u3 hn F0 N G
    have ok := N.1.2.2.2.1
    have p8 := ok.2.2.2.2.1
    have t45 := (nc_g N).1
    push_cast at hn
    rw [show (((n + 1 : Nat) : Int) - 1) = (n : Int) by push_cast; omega]
    apply L_Near_changes_52
    rw [if_neg (by omega)]
    refine ⟨t45, ?_⟩
    refine c_X_fillGate (d := d) N (by omega) (by omega) (by push_cast at G; exact G) (fun h1 F1 N1 G1 => ?_)
    intro x1 e1
    rw [xw_id (by omega) (by omega)] at e1
    rw [e1, show (n : Int) + -1 = (n : Int) - 1 by omega]
    exact ih h1 _ (by omega) (Fr_trans F0 F1) N1 G1
theorem XEn_wrN {h : xH} {v : Int} (X : XEn h p f E) : XEn (h.wr 45 3 v) p f E := by
  obtain ⟨a1, a2, a3, a4, a5, a6⟩ := X
  have e6 : (h.wr 45 3 v).r 28 6 = h.r 28 6 := by simp only [true_and, and_true, false_and, and_false, forall_eq, forall_eq', xi_wi, xr_wi, xt_wi, xl_wi, xn_wi, xs_wi, xi_wr, xr_wr, xt_wr, xl_wr, xn_wr, xs_wr, if_true, if_false, and_self, Int.reduceEq, Int.reduceLT, Int.reduceLE, Int.reduceNeg, Int.le_refl, Int.reduceMod]
  have ro : ∀ x k, x ≠ 45 → (h.wr 45 3 v).r x k = h.r x k := fun x k n => by rw [xr_wr, if_neg (fun z => n z.1)]
  refine ⟨SX_wrNL a1, a2, by unfold I_tab at a3 ⊢; rw [e6]; exact a3, a4, ?_, ?_⟩
  · have np : p ≠ 45 := by have := a5.2.2.2.2.2.2.2.2.1.1; omega
    unfold XLe XFar at a5 ⊢
    rw [ro p _ np, ro p _ np, ro p _ np, e6]
    exact a5
  · obtain ⟨f0, f1, b1, b2, b3, b4, b5⟩ := a6
    refine ⟨f0, f1, b1, b2, b3, b4, fun g g0 g1 => ?_⟩
    rw [ro 23 g (by decide)]
    refine (b5 g g0 g1).imp id (fun z => ⟨z.1, z.2.1, ?_⟩)
    have y := z.2.2
    have t0 : 130 ≤ h.r 23 g := y.1
    unfold FTab aprt at y ⊢
    rw [ro _ _ (by omega), ro _ _ (by omega), ro _ _ (by omega), ro _ _ (by omega), e6, ro 40 3 (by decide)]
    exact y
end XN4
