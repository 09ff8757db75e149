/-! near -/
def neL : List Int := [46, 47, 113]
def neS : List (Int × Int) := [(45, 4), (59, 45), (59, 46)]
set_option maxHeartbeats 1000000 in
theorem j_near (n : Nat) (hn : n < 512) (f : Int) (hf : xrg f) : JJ INV n M_X_near M_R_near [(0, f)] := by
  refine jj_fa (fun h I => ?_)
  have S := I.2.1
  have SX_ := I.1
  have sm := same_J I
  have n130 := I.2.2.1
  have tb := I.2.2.2.1
  unfold I_tab at tb
  have g : h.tag 2 = 11 ∧ h.r 2 9 = 45 ∧ h.tag 45 = 5 ∧ h.r 45 0 = 22 ∧ h.tag 22 = 4 := by simp only [sxt SX_, sxl SX_, sxf SX_, true_and, and_true, false_and, and_false, forall_eq, forall_eq', xi_wi, xr_wi, xt_wi, xl_wi, xn_wi, xs_wi, xi_wr, xr_wr, xt_wr, xl_wr, xn_wr, xs_wr, if_true, if_false, and_self, Int.reduceEq, Int.reduceLT, Int.reduceLE, Int.reduceNeg, Int.le_refl, Int.reduceMod]
  apply L_X_near
  refine ⟨g.1, ?_⟩
  refine c_X_cannot (d := 2043) SX_ ?_
  by_cases c : h.r 2 13 ≠ 0 ∧ (0 ≤ f ∧ f ≤ 7 ∧ 0 < h.i 25 f)
  · have cr := (can_eq I).mp c
    have L := LR_env I (by decide) (by decide) (line_of I cr.1) cr.2.1 cr.2.2.1 cr.2.2.2
    have X := L.2
    have ok := X.2.2.2.1
    have X5 := X.2.2.2.2.1
    have n1 := ok.1
    have n40 := ok.2.1
    have p1 := ok.2.2.2.1
    have p8 := ok.2.2.2.2.1
    rw [if_pos c, if_pos rfl, g.2.1]
    refine ⟨g.1, g.2.2.1, ?_⟩
    apply L_Near_changes
    rw [g.2.2.2.1]
    refine ⟨g.2.2.1, g.2.2.2.2, ?_⟩
    refine c_X_positions (d := 2042) X ?_
    rw [if_neg c.1, X5.2.1]
    refine ⟨X5.1, ?_⟩
    rw [if_neg (by omega), if_neg (by omega), if_neg (by omega)]
    refine ⟨g.2.2.1, fun h2 e2 => ⟨by rw [e2]; exact g.2.2.1, fun h3 e3 => ?_⟩⟩
    have X2 := XEn_wrN (v := h.r 2 13) X
    rw [← e2] at X2
    have F3 : Fr [] [(45, 4)] h2 h3 := by rw [e3]; exact Fr_slot (Fr_refl _ _ _) _ (by decide)
    have X3 : XEn h3 (h.r 2 13) f (envR h 0 f) := XEn_fr F3 ⟨fun x m => absurd m List.not_mem_nil, fun q m => by rw [List.mem_singleton] at m; rw [m]; decide⟩ X2
    have N3 : NC h3 (h.r 2 13) f (envR h 0 f) := ⟨X3, by rw [(fr_same F3).1, e2, xr_wr, if_pos ⟨rfl, rfl⟩], by rw [e3, xi_wi, if_pos ⟨rfl, rfl⟩]⟩
    have key := c_X_ch28 (d := 2044) (p := h.r 2 13) (f := f) (E := envR h 0 f) (Q := fun r1 h1 => SCk h h1 ∧ xCi 2046 M_R_near [(1, 59), (0, f)] h1 (fun r2 h2 => r1 = r2 ∧ SCk h h2 ∧ INV (n + 1) h2)) (u1 := (1, h.r 2 13)) (u2 := (0, f)) h3 (fun h4 F4 N4 G4 => ?_) (envR h 0 f 0 0 + 1).toNat 0 h3 (by omega) (Fr_refl _ _ _) N3 (fun i i0 i1 => by omega)
    · exact key
    have k52 := c_X_ch52 (d := 2035) (p := h.r 2 13) (f := f) (E := envR h 0 f) (Q := fun r1 h1 => SCk h h1 ∧ xCi 2046 M_R_near [(1, 59), (0, f)] h1 (fun r2 h2 => r1 = r2 ∧ SCk h h2 ∧ INV (n + 1) h2)) (u1 := (1, h.r 2 13)) (u2 := (0, f)) h3 (fun h5 F5 N5 => ?_) (envR h 0 f 5 0).toNat h4 (0, envR h 0 f 5 0) (by omega) F4 N4 (by rw [show (((envR h 0 f 5 0).toNat : Nat) : Int) = envR h 0 f 5 0 by omega]; exact G4)
    · rw [show (((envR h 0 f 5 0).toNat : Nat) : Int) - 1 = envR h 0 f 5 0 - 1 by omega] at k52
      exact k52
    -- the reference
    have fs3 := fr_same F3
    have fs5 := fr_same F5
    have d2 : h2.i = h.i ∧ h2.tag = h.tag ∧ h2.len = h.len ∧ h2.nx = h.nx ∧ h2.us = h.us ∧ ∀ x k, ¬ (x = 45 ∧ k = 3) → h2.r x k = h.r x k := by rw [e2]; exact ⟨by rw [xi_wr], rfl, rfl, rfl, rfl, fun x k z => by rw [xr_wr, if_neg z]⟩
    have F35 : Fr [46, 47] [(45, 4)] h2 h5 := Fr_trans (Fr_mono F3 (fun c m => absurd m List.not_mem_nil) (fun c m => m)) (Fr_mono F5 (fun c m => m) (fun c m => absurd m List.not_mem_nil))
    have fs := fr_same F35
    have A : FA [46, 47] [(45, 4)] [] [(45, 3)] h h5 := by
      refine ⟨by rw [fs.2.2.2.1, d2.2.2.2.1]; exact Int.le_refl _, fun x _ => by rw [fs.2.1, fs.2.2.1, d2.2.1, d2.2.2.1]; exact ⟨rfl, rfl⟩, fun x k _ a b _ => by rw [F35.2 x k a b, d2.1], fun x k _ _ b => by rw [fs.1]; exact d2.2.2.2.2.2 x k (fun z => b (by rw [z.1, z.2]; exact List.mem_singleton.mpr rfl))⟩
    have hS := XS_of I
    refine ⟨SCk_x hS S A (by decide), ?_⟩
    have P5 := RPre_x hS A (by decide) L.1
    have S5 := P5.1
    have r76 : h5.i 76 = h.i 76 := FA_row A (by omega) (by decide) (by decide) (by omega)
    have r95 : h5.i 95 = h.i 95 := FA_row A (by omega) (by decide) (by decide) (by omega)
    have q : h5.tag 59 = 12 ∧ h5.r 59 21 = 76 ∧ h5.tag 76 = 22 ∧ h5.len 76 = 15 := by have S := S5; simp only [srt S, srl S, srf S, true_and, and_true, false_and, and_false, forall_eq, forall_eq', xi_wi, xr_wi, xt_wi, xl_wi, xn_wi, xs_wi, xi_wr, xr_wr, xt_wr, xl_wr, xn_wr, xs_wr, if_true, if_false, and_self, Int.reduceEq, Int.reduceLT, Int.reduceLE, Int.reduceNeg, Int.le_refl, Int.reduceMod]
    apply L_R_near
    rw [q.2.1, q.2.2.2, r76]
    refine ⟨q.1, ⟨q.2.2.1, by decide, by decide⟩, ?_⟩
    rw [if_neg cr.1]
    refine c_R_isForm (d := 2043) S5 ?_
    rw [r95, if_pos cr.2, if_neg (by decide)]
    refine ⟨q.1, fun h6 e6 => ⟨by rw [e6]; exact q.1, fun h7 e7 => ?_⟩⟩
    have F7 : Fr [] nrS h5 h7 := by rw [e7, e6]; exact Fr_slot (Fr_slot (Fr_refl _ _ _) _ (by decide)) _ (by decide)
    have P7 := RPre_s F7 (by decide) P5
    have R7 : REn h7 0 f (envR h 0 f) := by
      obtain ⟨a1, a2, a3, a4, a5, a6, a7, a8⟩ := P7
      refine ⟨a1, ?_, ?_, a2, a3, a4, a5, a6, a7, a8⟩
      · rw [e7, xi_wi, if_neg (fun z => absurd z.2 (by decide)), e6, xi_wi, if_pos ⟨rfl, rfl⟩]
      · rw [e7, xi_wi, if_pos ⟨rfl, rfl⟩]
    refine c_R_near19 (d := 2045) (by decide) 141696 0 h7 _ (Int.le_refl _) (by decide) R7 (fun j j0 j1 => by omega) (fun hf G => ?_)
    have GX : Fr [113] nrS h5 hf := Fr_trans (Fr_mono F7 (fun c m => absurd m List.not_mem_nil) (fun c m => m)) (Fr_mono G (fun c m => m) (fun c m => absurd m List.not_mem_nil))
    have fsG := fr_same GX
    have F : FA neL neS [] [(45, 3)] h hf := FA_fq (FA_mono A (by decide) (by decide) (fun c m => m) (fun c m => m)) GX (fun x m => Or.inl ((by decide : ∀ x ∈ ([113] : List Int), x ∈ neL) x m)) (by decide)
    have N2 : I_new h2 := by rw [e2]; exact I_new_wr I.2.2.2.2.1 _ _ (by omega)
    have hR : SR hf := SR_2 GX.1 S5
    have hX : SX hf := SX_2 GX.1 N5.1.1
    have hNew : I_new hf := I_new_f (I_new_f N2 F35 (by decide) (by rw [d2.2.2.2.1]; exact n130)) GX (by decide) (by rw [fs.2.2.2.1, d2.2.2.2.1]; exact n130)
    obtain ⟨hT, hTab, hRoom⟩ := noal (n := n) (h' := hf) I (by rw [fsG.2.1, fs.2.1, d2.2.1]) (by rw [fsG.2.2.1, fs.2.2.1, d2.2.2.1]) (by rw [fsG.2.2.2.1, fs.2.2.2.1, d2.2.2.2.1]) (by rw [fsG.2.2.2.2, fs.2.2.2.2, d2.2.2.2.2.1]) (by rw [fsG.1, fs.1]; exact d2.2.2.2.2.2 28 6 (by decide)) (by rw [fsG.1, fs.1]; exact d2.2.2.2.2.2 40 3 (by decide))
    exact ⟨rfl, SCk_x hS S F (by decide), INV_fa I F (by decide) hT hX hR hTab hNew hRoom (Or.inl (by decide)) (Or.inl (by decide)) (Or.inl (by decide)) (Or.inl (by decide)) (Or.inl (by decide)) (Or.inl (by decide)) (Or.inl (by decide)) (Or.inl (by decide)) (Or.inl (by decide)) (Or.inl (by decide)) (Or.inl (by decide)) (Or.inl (by decide)) (Or.inl (by decide)) (Or.inl (by decide)) (Or.inl (by decide))⟩
  · have cr : ¬ (h.i 76 0 ≠ 0 ∧ (0 ≤ f ∧ f ≤ 7 ∧ 0 < h.i 95 f)) := fun z => c ((can_eq I).mpr z)
    rw [if_neg c, if_neg (by decide)]
    refine ⟨sm.1, ?_⟩
    have q : h.tag 59 = 12 ∧ h.r 59 21 = 76 ∧ h.tag 76 = 22 ∧ h.len 76 = 15 := by simp only [srt S, srl S, srf S, true_and, and_true, false_and, and_false, forall_eq, forall_eq', xi_wi, xr_wi, xt_wi, xl_wi, xn_wi, xs_wi, xi_wr, xr_wr, xt_wr, xl_wr, xn_wr, xs_wr, if_true, if_false, and_self, Int.reduceEq, Int.reduceLT, Int.reduceLE, Int.reduceNeg, Int.le_refl, Int.reduceMod]
    apply L_R_near
    rw [q.2.1, q.2.2.2]
    refine ⟨q.1, ⟨q.2.2.1, by decide, by decide⟩, ?_⟩
    by_cases c1 : h.i 76 0 = 0
    · rw [if_pos c1]; exact ⟨rfl, sm⟩
    · rw [if_neg c1]
      refine c_R_isForm (d := 2043) S ?_
      rw [if_neg (fun z => cr ⟨c1, z⟩), if_pos rfl]
      exact ⟨rfl, sm⟩
