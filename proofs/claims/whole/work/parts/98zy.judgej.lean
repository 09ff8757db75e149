/-! judge -/
theorem SR_j {h h' : xH} (S : SR h) (J : JI h h') (n130 : 130 ≤ h.nx) : SR h' := by
  have G3x := J.1
  have lo : ∀ x, x < 130 → h'.tag x = h.tag x ∧ h'.len x = h.len x := fun x hx => G3x.2.1 x (by omega)
  have e : ∀ k, h'.r 59 k = h.r 59 k := fun k => G3x.2.2.2 59 k (by omega) (by decide) (by
    intro m
    have := (by decide : ∀ q ∈ scXR, q.1 ≠ 59) _ m
    exact this rfl)
  obtain ⟨a, b, cc⟩ := S
  refine ⟨?_, ?_, ?_⟩
  · unfold SRT at a ⊢
    simp (disch := decide) only [(lo _ _).1]
    exact a
  · unfold SRL at b ⊢
    simp (disch := decide) only [(lo _ _).2]
    exact b
  · unfold SRF at cc ⊢
    simp only [e]
    exact cc
def jjL : List Int := jL ++ jrL
def jjS : List (Int × Int) := jS ++ jrS
theorem j_judge (n : Nat) (hn : n < 512) : JJ INV n M_X_judge M_R_judge [] := by
  refine jj_fa (fun h I => ?_)
  have S := I.2.1
  have SX_ := I.1
  have sm := same_J I
  have hS := XS_of I
  have n130 := I.2.2.1
  have ht0 := I.2.2.2.1
  have ip := I.2.2.2.2.2.2.2.2.2.2.2.2.1
  obtain ⟨P, m, PL⟩ := PlI_of ip
  obtain ⟨t, W, P0, R0⟩ := po_of I.2.2.2.2.2.2.2.2.2.2.2.2.2.2.2.2.2.1
  have g : h.tag 2 = 11 ∧ h.r 2 10 = 48 ∧ h.tag 48 = 6 := by simp only [sxt SX_, sxl SX_, sxf SX_, true_and, and_true, false_and, and_false, forall_eq, forall_eq', xi_wi, xr_wi, xt_wi, xl_wi, xn_wi, xs_wi, xi_wr, xr_wr, xt_wr, xl_wr, xn_wr, xs_wr, if_true, if_false, and_self, Int.reduceEq, Int.reduceLT, Int.reduceLE, Int.reduceNeg, Int.le_refl, Int.reduceMod]
  obtain ⟨g1, g2, g3⟩ := g
  apply L_X_judge
  rw [g2]
  refine ⟨g1, g3, ?_⟩
  by_cases c : P = 0
  · subst c
    apply L_Poem_layLines
    refine ⟨g3, ?_⟩
    rw [PL.1, if_pos (show ((0 : Nat) : Int) = 0 from rfl)]
    refine ⟨sm.1, ?_⟩
    apply L_R_judge
    refine ⟨(srt S).1, ?_⟩
    rw [PL.2.1, if_pos (show ((0 : Nat) : Int) = 0 from rfl)]
    exact ⟨rfl, sm⟩
  · refine c_X_layLines (d := 2037) I P0 PL (by omega) (fun h1 J1 B1 => ?_)
    refine ⟨SCk_x hS S J1.1 (by decide), ?_⟩
    have S1 := SR_j S J1 n130
    have tb := ht0
    unfold I_tab at tb
    have rv : ∀ k, RV h1 k = RV h k := fun k => RV_fa J1.1 n130 ht0 (by decide) k
    have r76 := jrow J1 n130 ht0 (c := 76) (by decide) (by decide) (by decide) (by decide)
    have C1 : RCx h h1 t W := by
      refine ⟨S1, fun k hk => ?_, jrow J1 n130 ht0 (by decide) (by decide) (by decide) (by decide), jrow J1 n130 ht0 (by decide) (by decide) (by decide) (by decide), jrow J1 n130 ht0 (by decide) (by decide) (by decide) (by decide), jrow J1 n130 ht0 (by decide) (by decide) (by decide) (by decide), jrow J1 n130 ht0 (by decide) (by decide) (by decide) (by decide), jslot J1 n130 ht0 (by decide) (by decide) (by decide) (by decide), fun k f hk hf tk np => ?_⟩
      · have p := R0 k hk
        rw [r76, rv]
        exact p
      · exact RPre_x hS J1.1 (by decide) (lnE_ok I (by omega) (by omega) np (k := (k : Int)) (by omega) (by omega) ((P0 k hk).1.mp tk)).2.1
    apply L_R_judge
    refine ⟨(srt S1).1, ?_⟩
    rw [C1.2.2.2.2.2.2.2.1, PL.2.1, if_neg (by omega)]
    refine c_R_j7 (d := 1984) C1 (fun h2 u3 u4 u5 u6 u7 F2 K2 => ?_) 12 0 h1 _ _ _ _ _ _ rfl (Fr_refl _ _ _) (fun k f a b lt => absurd lt (by omega))
    have C2 := RCx_fr C1 F2
    have k43 := c_R_j43 (d := 2044) (Q := fun r2 h2 => (bsT (jD h t W) P m (m + 1)).1 = r2 ∧ SCk h h2 ∧ INV (n + 1) h2) C2 PL (fun u3 u4 u5 u6 u7 => ?_) P 0 u3 u4 u5 u6 u7 (by omega)
    · rw [Nat.pow_zero, Nat.mod_one] at k43
      exact k43
    · refine c_R_j66 (d := 2040) I P0 PL C2 K2 (fun hf F3 q78 q79 B3 => ?_) (2 ^ P) 0 h2 9223372036854775807 _ _ _ _ (by omega) (Fr_refl _ _ _) (fun _ => rfl) (fun z => absurd z (by decide))
      have GX : Fr jrL jrS h1 hf := Fr_trans F2 F3
      have F : FA jjL jjS [] scXR h hf := FA_fq (FA_mono J1.1 (by decide) (by decide) (by decide) (by decide)) GX (fun x mm => Or.inl ((by decide : ∀ x ∈ jrL, x ∈ jjL) x mm)) (by decide)
      have hT : Tok h hf := Tok_fq J1.2.1 GX
      have hX : SX hf := SX_2 GX.1 J1.2.2.2.1
      have hTab : I_tab hf := by have := J1.2.2.2.2.2.1; unfold I_tab at this ⊢; rw [(fr_same GX).1]; exact this
      have hNew : I_new hf := I_new_f J1.2.2.2.2.2.2.1 GX (by decide) J1.2.2.2.2.1
      have hR : SR hf := SR_2 GX.1 S1
      have hRoom : I_room (n + 1) hf := room_w I J1 GX
      refine ⟨rfl, SCk_x hS S F (by decide), INV_fa I F (by decide) hT hX hR hTab hNew hRoom (Or.inl (by decide)) (Or.inl (by decide)) (Or.inl (by decide)) (Or.inl (by decide)) (Or.inl (by decide)) (Or.inl (by decide)) (Or.inl (by decide)) (Or.inr ?_) (Or.inl (by decide)) (Or.inl (by decide)) (Or.inl (by decide)) (Or.inl (by decide)) (Or.inl (by decide)) (Or.inl (by decide)) (Or.inl (by decide))⟩
      have bd := bsT_bd (D := jD h t W) (jD_C I P0) (P := P) (m := m) (s := m + 1) PL.2.2.1
      refine Or.inr ⟨by rw [q78]; omega, ?_, ?_, ?_, fun k k0 k1 => ?_⟩
      · rw [q78, GX.2 48 15 (by decide) (by decide)]; exact B1.1
      · rw [q79, GX.2 48 16 (by decide) (by decide)]; exact B1.2.1
      · rw [B3.1, GX.2 48 17 (by decide) (by decide)]; exact B1.2.2.1
      · obtain ⟨j, rfl⟩ : ∃ j : Nat, k = (j : Int) := ⟨k.toNat, by omega⟩
        rw [B3.2 j (by omega), Fr_row GX (c := 55) (by decide) (by decide)]
        exact B1.2.2.2 j (by omega)
