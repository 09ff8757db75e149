/-! lay: the reference's call; what both sides hold behind it -/
def lyRL : List Int := scanL ++ [108, 109, 110, 111]
def lyRS : List (Int × Int) := scanS ++ [(59, 61)]
section RL
variable {f : Int} {E : SEn} {d : Nat}
theorem c_R_lay {h : xH} {Q : Int → xH → Prop} (P : RPre h 0 f E) (ne : h.i 76 0 ≠ 0) (isf : 0 ≤ f ∧ f ≤ 7 ∧ 0 < h.i 95 f) (H1 : 200 < (rd E st0).length → ∀ h', Fr lyRL lyRS h h' → SR h' → h'.i 59 61 = 0 → Q (-3) h') (H2 : (rd E st0).length ≤ 200 → ∀ h' P', Fr lyRL lyRS h h' → SR h' → RdR h' P' → P'.Pairwise rlt → P'.Perm (rd E st0) → Q (((rd E st0).length : Nat) : Int) h') : xCi (d + 61) M_R_lay [(1, 59), (0, f)] h Q := by
  have S := P.1
  have ok := P.2.2.2.2.2.2.1
  have w := rd_W ok (s := st0) (by decide)
  apply L_R_lay
  simp only [srt S, srl S, srf S, true_and, and_true, false_and, and_false, forall_eq, forall_eq', xi_wi, xr_wi, xt_wi, xl_wi, xn_wi, xs_wi, xi_wr, xr_wr, xt_wr, xl_wr, xn_wr, xs_wr, if_true, if_false, and_self, Int.reduceEq, Int.reduceLT, Int.reduceLE, Int.reduceNeg, Int.le_refl, Int.reduceMod]
  rw [if_neg ne]
  refine c_R_isForm S ?_
  rw [if_pos isf, if_neg (by decide)]
  refine ⟨(srt S).1, ?_⟩
  refine c_R_ways0 (d := d) P (fun h3 F3 R3 M3 st3 => ?_)
  refine ⟨(srt R3.1).1, ?_⟩
  have t3 : h3.tag 59 = 12 := (srt R3.1).1
  have F4 : Fr [] [(59, 61)] h3 (h3.wi 59 61 0) := Fr_slot (Fr_refl _ _ _) _ (by decide)
  have v4 : (h3.wi 59 61 0).i 59 61 = 0 := by simp only [true_and, and_true, false_and, and_false, forall_eq, forall_eq', xi_wi, xr_wi, xt_wi, xl_wi, xn_wi, xs_wi, xi_wr, xr_wr, xt_wr, xl_wr, xn_wr, xs_wr, if_true, if_false, and_self, Int.reduceEq, Int.reduceLT, Int.reduceLE, Int.reduceNeg, Int.le_refl, Int.reduceMod]
  generalize h3.wi 59 61 0 = h4 at *
  have R4 := REn_fr F4 (by decide) R3
  have M4 : MW h4 E := MW_y (v := 42) (i := 0) (FrY_of (Fr_mono F4 (fun c m => absurd m List.not_mem_nil) (fun c m => m))) M3
  have G4 : Fr lyRL lyRS h h4 := Fr_trans (Fr_mono F3 (fun c m => List.mem_append_left _ m) (fun c m => List.mem_append_left _ m)) (Fr_mono F4 (fun c m => absurd m List.not_mem_nil) (fun c m => List.mem_append_right _ m))
  have st4 : h4.i 106 0 ≠ -1 := by rw [Fr_row F4 (c := 106) (by decide) (by decide)]; exact st3
  by_cases c : 200 < (rd E st0).length
  · rw [if_pos (by omega)]
    exact H1 c h4 G4 R4.1 v4
  · rw [if_neg (by omega)]
    have e : scW E true st0 = (((rd E st0).length : Nat) : Int) := by omega
    rw [e]
    have em : ([] ++ (rd E st0).map (fun r : Rd => [] ++ r)) = rd E st0 := by
      rw [List.nil_append, show (fun r : Rd => [] ++ r) = id from rfl, List.map_id]
    by_cases c0 : 0 < (rd E st0).length
    · rw [if_pos (by omega)]
      refine ⟨t3, ?_⟩
      have := c_R_layFrom (l := 0) (f := f) (E := E) (d := d + 10) 42 st0 h4 [] [] (fun h' => Q (((rd E st0).length : Nat) : Int) h') (by decide) st0_ok R4 M4 st4 (fun j hj => absurd hj (Nat.not_lt_zero _)) (Int.le_refl _) ⟨Int.le_refl _, Int.le_refl _⟩ ⟨v4, fun r hr => absurd hr (Nat.not_lt_zero _)⟩ (fun y m => absurd m List.not_mem_nil) List.Pairwise.nil (by show 0 + _ ≤ 200; omega) (fun y m => absurd m List.not_mem_nil) (fun h5 P5 F5 R5 ly5 pw5 pm5 => ?_)
      · exact this
      · rw [em] at pm5
        exact H2 (by omega) h5 P5 (Fr_trans G4 (Fr_mono F5.1 (by decide) (by decide))) (SR_2 F5.1.1 R4.1) R5 pw5 pm5
    · rw [if_neg (by omega)]
      have e0 : rd E st0 = [] := List.eq_nil_of_length_eq_zero (by omega)
      exact H2 (by omega) h4 [] G4 R4.1 ⟨v4, fun r hr => absurd hr (Nat.not_lt_zero _)⟩ List.Pairwise.nil (by rw [e0])
theorem read_of {h : xH} {P : List Rd} {q B : Int} (ok : EOk E) (e3 : h.r 40 3 = q) (tq : h.tag q = 20) (qd : q = 41 ∨ (130 ≤ q ∧ q < h.nx)) (qt : q ≠ h.r 28 6) (lq : h.len q ≤ 16000) (lB : B ≤ h.len q) (p2 : P.length ≤ 200) (O : OrdX h q B P.length P) (R : RdR h P) (G : ∀ y ∈ P, RdG E y) : I_read h := by
  have n40 := ok.2.1
  unfold I_read
  rw [e3, R.1]
  refine ⟨O.1, by omega, by omega, tq, qd, qt, fun a a0 a1 => ?_⟩
  obtain ⟨j, hj⟩ : ∃ j : Nat, a = (j : Int) := ⟨a.toNat, by omega⟩
  subst hj
  have jl : j < P.length := by omega
  obtain ⟨o1, o2, x1, x2, x3, x4, x5⟩ := O.2.2 j jl
  obtain ⟨r1, r2, r3⟩ := R.2 j jl
  have g := G _ (getD_mem [] jl)
  have g1 := g.1
  rw [r2, r1]
  refine ⟨o1, o2, x4, x1, x2, by omega, by omega, by omega, lq, fun i w i0 i1 w0 w1 => ?_⟩
  obtain ⟨t, ht⟩ : ∃ t : Nat, i = (t : Int) := ⟨i.toNat, by omega⟩
  subst ht
  have tl : t < (P.getD j []).length := by omega
  have y := g.2 _ (getD_mem rc0 tl)
  have b := pk_bd y.1 y.2.1 (by omega)
  rw [x5 t tl, r3 t tl w w0 w1]
  exact ⟨b.1, b.2, spart_pk y.1 y.2.1 (by omega) w0 w1⟩
theorem same_P {P P' L : List Rd} (a : P.Perm L) (b : P'.Perm L) (x : P.Pairwise rlt) (y : P'.Pairwise rlt) : P = P' :=
  List.Perm.eq_of_pairwise (fun u v _ _ h1 h2 => absurd h2 (fun h2 => rlt_as h1 h2)) x y (a.trans b.symm)
end RL
