/-! fits -/
def fjL : List Int := fzL ++ (128 :: rzL)
def fjS : List (Int × Int) := fzS ++ rzS
theorem BkS_rw {h h' : xH} {nb : Nat} (e8 : h'.i 68 = h.i 68) (e9 : h'.i 69 = h.i 69) (B : BkS h nb) : BkS h' nb := ⟨B.1, fun v v0 v1 => by rw [e9]; exact B.2.1 v v0 v1, fun x y a b c d n A => (AhdR_fr e8 e9).mpr (B.2.2 x y a b c d n (fun z => A ((AhdR_fr e8 e9).mpr z)))⟩
set_option maxHeartbeats 2000000 in
theorem j_fits (n : Nat) (hn : n < 512) (f w pr : Int) (hf : xrg f) (hw : xrg w) (hp : xrg pr) : JJ INV n M_X_fits M_R_fits [(0, f), (0, w), (0, pr)] := by
  refine jj_fa (fun h I => ?_)
  have S := I.2.1
  have SX_ := I.1
  have sm := same_J I
  have hS := XS_of I
  have n130 := I.2.2.1
  have tb := I.2.2.2.1
  unfold I_tab at tb
  have g : h.tag 2 = 11 := (sxt SX_).1
  -- both refuse
  have refuse : ¬ ((h.i 76 0 ≠ 0 ∧ (0 ≤ f ∧ f ≤ 7 ∧ 0 < h.i 95 f)) ∧ 0 ≤ w ∧ w < h.i 77 0) → (h.i 76 0 ≠ 0 → 0 ≤ h.i 77 0 ∧ h.i 77 0 ≤ 12) → SCk h h ∧ xCi 2046 M_R_fits [(1, 59), (0, f), (0, w), (0, pr)] h (fun r2 h2 => -2 = r2 ∧ SCk h h2 ∧ INV (n + 1) h2) := fun no b77 => by
    have q : h.tag 59 = 12 ∧ h.r 59 21 = 76 ∧ h.tag 76 = 22 ∧ h.len 76 = 15 ∧ h.r 59 22 = 77 ∧ h.tag 77 = 20 ∧ h.len 77 = 15 := by simp only [srt S, srl S, srf S, true_and, and_true, false_and, and_false, forall_eq, forall_eq', xi_wi, xr_wi, xt_wi, xl_wi, xn_wi, xs_wi, xi_wr, xr_wr, xt_wr, xl_wr, xn_wr, xs_wr, if_true, if_false, and_self, Int.reduceEq, Int.reduceLT, Int.reduceLE, Int.reduceNeg, Int.le_refl, Int.reduceMod]
    obtain ⟨q1, q2, q3, q4, q5, q6, q7⟩ := q
    refine ⟨sm.1, ?_⟩
    apply L_R_fits
    rw [q2, q4]
    refine ⟨q1, ⟨q3, by decide, by decide⟩, ?_⟩
    by_cases c1 : h.i 76 0 = 0
    · rw [if_pos c1]; exact ⟨rfl, sm⟩
    · rw [if_neg c1]
      refine c_R_isForm (d := 2043) S ?_
      by_cases c2 : 0 ≤ f ∧ f ≤ 7 ∧ 0 < h.i 95 f
      · have b := b77 c1
        rw [if_pos c2, if_neg (by decide), q5, q7]
        refine ⟨q1, ⟨q6, by decide, by decide⟩, ?_⟩
        rw [xw_id (a := h.i 77 0 - 1) (by omega) (by omega)]
        refine c_R_in_f (fun z => no ⟨⟨c1, c2⟩, z.1, by omega⟩) ?_
        rw [if_pos rfl]
        exact ⟨rfl, sm⟩
      · rw [if_neg c2, if_pos rfl]; exact ⟨rfl, sm⟩
  apply L_X_fits
  refine ⟨g, ?_⟩
  refine c_X_cannot (d := 2043) SX_ ?_
  by_cases c : h.r 2 13 ≠ 0 ∧ (0 ≤ f ∧ f ≤ 7 ∧ 0 < h.i 25 f)
  · have cr := (can_eq I).mp c
    have LR := line_of I cr.1
    have L := LR_env I (by decide) (by decide) LR cr.2.1 cr.2.2.1 cr.2.2.2
    obtain ⟨sb, se, ws, ok, w1, XL, RL_, EL⟩ := LR
    have e77 : h.i 77 0 = ((ws.length : Nat) : Int) := RL_.2.1
    have o1 := ok.1
    rw [if_pos c, if_pos rfl]
    by_cases c1 : w < 0
    · rw [if_pos c1]
      exact refuse (fun z => by omega) (fun _ => by omega)
    · rw [if_neg c1]
      refine ⟨g, sb.2.2.1, ?_⟩
      refine c_X_wordCount (d := 2044) ok XL (XSh_B sb ok XL) ?_
      by_cases c2 : w < ((ws.length : Nat) : Int)
      · rw [if_pos c2]
        refine ⟨g, fun h3 e3 => ?_⟩
        obtain ⟨W, rfl⟩ : ∃ W : Nat, w = (W : Int) := ⟨w.toNat, by omega⟩
        have hW : W < ws.length := by omega
        have iB := I.2.2.2.2.2.2.2.2.2.2.2.2.2.2.1
        have iD := I.2.2.2.2.2.2.2.2.2.2.2.2.2.2.2.2.2.2.2.2
        have RL0 : RLang h (h.i 6) (h.i 5) := RLang_of I.2.2.2.2.2.2.2.2.1 I.2.2.2.2.2.2.2.1
        have hV : bits26 (h.i 5) := fun k k0 k1 => (RL0.2 k k0 k1).2
        have K : EOk (envR h 0 f) := L.1.2.2.2.2.2.2.1
        have bn0 := iB.2.1
        have b40 := iB.2.2.1
        have F3 : Fr [] [(2, 15)] h h3 := by rw [e3]; exact Fr_slot (Fr_refl _ _ _) _ (by decide)
        have J3 : FtI h h3 := ⟨FA_of [58] scXR (Fr_mono F3 (fun c m => absurd m List.not_mem_nil) (by decide)), Tok_fr F3, Gro_fr F3, XS_fr hS F3 (by decide), by rw [F3.2 18 0 (by decide) (by decide)]; exact iD.1⟩
        have f3 : h3.i 2 15 = 0 := by rw [e3, xi_wi, if_pos ⟨rfl, rfl⟩]
        refine c_X_fits18 (d := 2038) (h0 := h) (ws := ws) (W := W) (f := f) (pr := pr) I cr.2.1 cr.2.2.1 K ok hW ⟨sb, se, XL⟩ (fun hX J fs fd pf => ?_) (h.i 59 16).toNat 0 h3 _ _ (by omega) J3 (by rw [f3]; rfl) (fun a ha => absurd ha (Nat.not_lt_zero _)) (fun c hc => absurd hc (Nat.not_lt_zero _))
        have F := J.1
        have nlo : ∀ c : Int, c < 130 → c < h.nx := fun c hc => by omega
        have ntb : ∀ c : Int, c < 130 → c ≠ 34 → c ≠ h.r 28 6 := fun c hc n => by omega
        have rwX : ∀ c : Int, c < 130 → c ≠ 34 → c ∉ fzL → (∀ q ∈ fzS, q.1 ≠ c) → hX.i c = h.i c := fun c hc n a b => FA_row F (nlo c hc) a b (ntb c hc n)
        have hiX : ∀ c : Int, 59 ≤ c → c < 130 → hX.i c = h.i c := fun c c0 c1 => rwX c c1 (by omega) (fun m => by have := (by decide : ∀ x ∈ fzL, x < 59) c m; omega) (fun q m => by have := (by decide : ∀ q ∈ fzS, q.1 < 59) q m; omega)
        have SRX : SR hX := SR_rel (fun c hc => F.2.1 c (nlo c hc)) (fun k => F.2.2.2 59 k (nlo 59 (by decide)) (by decide) (by
          intro m
          exact (by decide : ∀ q ∈ scXR, q.1 ≠ 59) _ m rfl)) S
        have XSX := J.2.2.2.1
        refine ⟨SCk_x hS S F (by decide), ?_⟩
        have q : hX.tag 59 = 12 ∧ hX.r 59 21 = 76 ∧ hX.tag 76 = 22 ∧ hX.len 76 = 15 ∧ hX.r 59 22 = 77 ∧ hX.tag 77 = 20 ∧ hX.len 77 = 15 := by have S := SRX; simp only [srt S, srl S, srf S, true_and, and_true, false_and, and_false, forall_eq, forall_eq', xi_wi, xr_wi, xt_wi, xl_wi, xn_wi, xs_wi, xi_wr, xr_wr, xt_wr, xl_wr, xn_wr, xs_wr, if_true, if_false, and_self, Int.reduceEq, Int.reduceLT, Int.reduceLE, Int.reduceNeg, Int.le_refl, Int.reduceMod]
        obtain ⟨q1, q2, q3, q4, q5, q6, q7⟩ := q
        apply L_R_fits
        rw [q2, q4, hiX 76 (by decide) (by decide)]
        refine ⟨q1, ⟨q3, by decide, by decide⟩, ?_⟩
        rw [if_neg cr.1]
        refine c_R_isForm (d := 2043) SRX ?_
        rw [hiX 95 (by decide) (by decide), if_pos cr.2, if_neg (by decide), q5, q7, hiX 77 (by decide) (by decide), e77, xw_id (a := ((ws.length : Nat) : Int) - 1) (by omega) (by omega)]
        refine ⟨q1, ⟨q6, by decide, by decide⟩, ?_⟩
        refine c_R_in_t ⟨by omega, by omega⟩ ?_
        rw [if_neg (by decide)]
        have BX : BkS hX (h.i 59 16).toNat := BkS_rw (hiX 68 (by decide) (by decide)) (hiX 69 (by decide) (by decide)) (BkS_of iB)
        refine c_R_fits23 (d := 2043) (nb := (h.i 59 16).toNat) (h.i 59 16).toNat 0 hX [] _ (Nat.zero_add _) SRX BX (by rw [hiX 59 (by decide) (by decide)]; omega) ⟨rfl, fun x => ⟨fun m => absurd m List.not_mem_nil, fun z => by omega⟩, List.Pairwise.nil, fun i hi => absurd hi (Nat.not_lt_zero _)⟩ (fun hY u5 O FY z84 OI => ?_)
        have fsY := fr_same FY
        have SRY := SR_2 FY.1 SRX
        have hiY : ∀ c : Int, 60 ≤ c → c < 128 → hY.i c = h.i c := fun c c0 c1 => by
          rw [Fr_row FY (fun m => by rw [List.mem_singleton] at m; omega) (fun q m => by rw [List.mem_singleton] at m; rw [m]; show (59 : Int) ≠ c; omega)]
          exact hiX c (by omega) (by omega)
        have eO : O = ordL h (h.i 59 16).toNat := ordL_eq iB OI.2.1 (OI.2.2.1.imp (fun {a b} z => (AhdR_fr (hiY 68 (by decide) (by decide)) (hiY 69 (by decide) (by decide))).mp z))
        have rvX : ∀ k, RV hX k = RV h k := fun k => RV_fa F n130 I.2.2.2.1 (by decide) k
        have nX : 130 ≤ hX.nx := XSX.2.1
        have rvY : ∀ k, RV hY k = RV h k := fun k => (RV_fa (FA_of [] [] FY) nX XSX.2.2.1 (by decide) k).trans (rvX k)
        have e16 : hY.i 59 16 = h.i 59 16 := by rw [FY.2 59 16 (by decide) (by decide), hiX 59 (by decide) (by decide)]
        have RLY : RLang hY (h.i 6) (h.i 5) := RLang_row (hiY 61 (by decide) (by decide)) (hiY 62 (by decide) (by decide)) (hiY 63 (by decide) (by decide)) (hiY 64 (by decide) (by decide)) (by rw [FY.2 59 6 (by decide) (by decide), hiX 59 (by decide) (by decide)]) RL0
        refine c_R_fits65 (d := 1984) (h0 := h) (hY := hY) (ws := ws) (W := W) (f := f) (pr := pr) iB hV cr.2.1 cr.2.2.1 K ok hW (by rw [fsY.2.2.2.1]; exact nX) (by have := XSX.2.2.1; unfold I_tab at this ⊢; rw [fsY.1]; exact this) RLY (by rw [rvY 0]; exact RL_) (fun c c0 c1 => hiY c (by omega) (by omega)) (fun c c0 c1 => hiY c (by omega) (by omega)) e16 (fun i hi => ?_) pf (fun hf G SRf rvf e84 Rf => ?_) (h.i 59 16).toNat 0 hY _ _ _ (by omega) (Fr_refl _ _ _) SRY (fun k _ => rfl) (by rw [z84]; rfl) (fun a ha => absurd ha (Nat.not_lt_zero _))
        · rw [OI.2.2.2 i (by omega), eO]
          unfold ordL
          rw [map_gd (z := 0) (by rw [List.length_range]; omega), List.getD_eq_getElem?_getD, List.getElem?_range (by omega)]
          rfl
        · -- all stands
          have GX : Fr (128 :: rzL) rzS hX hf := Fr_trans (Fr_mono FY (fun c m => by rw [List.mem_singleton] at m; rw [m]; exact List.mem_cons_self) (by decide)) (Fr_mono G (fun c m => List.mem_cons_of_mem _ m) (fun c m => m))
          have fsf := fr_same GX
          have FF : FA fjL fjS [58] scXR h hf := FA_fq (FA_mono F (fun c m => List.mem_append_left _ m) (fun c m => List.mem_append_left _ m) (fun c m => m) (fun c m => m)) GX (fun x m => Or.inl (List.mem_append_right _ m)) (fun q m => List.mem_append_right _ m)
          have hT : Tok h hf := Tok_fq J.2.1 GX
          have hX_ : SX hf := SX_2 GX.1 XSX.1
          have hR : SR hf := SRf
          have hTab : I_tab hf := by have := XSX.2.2.1; unfold I_tab at this ⊢; rw [fsf.1]; exact this
          have hNew : I_new hf := I_new_f XSX.2.2.2.1 GX (by decide) XSX.2.1
          have hRoom : I_room (n + 1) hf := room_w I ⟨J.1, J.2.1, J.2.2.1, J.2.2.2.1⟩ GX
          have rvk : ∀ k, k ≠ 13 → RV hf k = RV h k := fun k hk => (rvf k hk).trans (rvY k)
          have e76 : hf.i 76 = h.i 76 := FA_row FF (nlo 76 (by decide)) (by decide) (by decide) (ntb 76 (by decide) (by decide))
          have ehX := hX_
          have hX := hX_
          have F := FF
          refine ⟨rfl, SCk_x hS S FF (by decide), INV_fa I F (by decide) hT hX hR hTab hNew hRoom (Or.inl (by decide)) (Or.inl (by decide)) (Or.inl (by decide)) (Or.inl (by decide)) (Or.inl (by decide)) (Or.inl (by decide)) (Or.inl (by decide)) (Or.inl (by decide)) (Or.inl (by decide)) (Or.inl (by decide)) (Or.inr ?_) (Or.inr ?_) (Or.inl (by decide)) (Or.inr ?_) (Or.inr ?_)⟩
          · have i11 := I.2.2.2.2.2.2.2.2.2.2.2.2.2.2.2.2.1
            have r213 : hf.r 2 13 = h.r 2 13 := FA_rslot FF (nlo 2 (by decide)) (by decide)
            unfold I_line at i11 ⊢
            rw [r213, e76]
            exact i11.imp id (fun y => ⟨y.1, y.2.1, LineRel_fa FF (by decide) hT (rvk _ (by decide)) y.2.2⟩)
          · have iPo := I.2.2.2.2.2.2.2.2.2.2.2.2.2.2.2.2.2.1
            have q48 : hf.i 48 4 = h.i 48 4 := FF.2.2.1 48 4 (nlo 48 (by decide)) (by decide) (by decide) (ntb 48 (by decide) (by decide))
            have r49 : hf.r 49 = h.r 49 := FA_rrow FF (nlo 49 (by decide)) (by decide)
            refine ⟨by rw [q48, e76]; exact iPo.1, fun k k0 k1 => ?_⟩
            rw [r49, e76]
            exact (iPo.2 k k0 k1).imp id (fun y => ⟨y.1, y.2.1, LineRel_fa FF (by decide) hT (rvk _ (by omega)) y.2.2⟩)
          · have fl := fndL_len (h := h) (ws := ws) (W := W) (f := f) (pr := pr) (h.i 59 16).toNat
            have e215 : hf.i 2 15 = (((fndL h ws W f pr (h.i 59 16).toNat).length : Nat) : Int) := by rw [GX.2 2 15 (by decide) (by decide)]; exact fs
            have r58 : ∀ k, hf.r 58 k = _ := fun k => congrFun (congrFun fsf.1 58) k
            refine ⟨by rw [e215, e84], by rw [e84]; omega, by rw [e84]; omega, fun a a0 a1 => ?_⟩
            rw [e84] at a1
            obtain ⟨k, rfl⟩ : ∃ k : Nat, a = (k : Int) := ⟨a.toNat, by omega⟩
            have hk : k < (fndL h ws W f pr (h.i 59 16).toNat).length := by omega
            have ms := fl.2 _ (getD_mem 0 hk)
            have Bw := bkW_s iB (j := (fndL h ws W f pr (h.i 59 16).toNat).getD k 0) ms.1 (by omega)
            have R := Rf k hk
            rw [r58, fd k hk]
            have i68 : hf.i 68 = h.i 68 := FA_row FF (nlo 68 (by decide)) (by decide) (by decide) (ntb 68 (by decide) (by decide))
            have i69 : hf.i 69 = h.i 69 := FA_row FF (nlo 69 (by decide)) (by decide) (by decide) (ntb 69 (by decide) (by decide))
            have i70 : hf.i 70 = h.i 70 := FA_row FF (nlo 70 (by decide)) (by decide) (by decide) (ntb 70 (by decide) (by decide))
            have i71 : hf.i 71 = h.i 71 := FA_row FF (nlo 71 (by decide)) (by decide) (by decide) (ntb 71 (by decide) (by decide))
            have i72 : hf.i 72 = h.i 72 := FA_row FF (nlo 72 (by decide)) (by decide) (by decide) (ntb 72 (by decide) (by decide))
            have B2 := BookRel_fa FF (by decide) hT i68 i69 i70 i71 i72 Bw.2.2
            have XL2 := XLet_book B2
            obtain ⟨y1, y2, y3, y4, y5, y6, y7, y8, y9⟩ := B2
            rw [i69] at y5 y7 y9
            rw [i70] at y2 y3 y4 y7
            rw [i68] at y9
            have s0 : 0 ≤ h.i 69 (bkW h ((fndL h ws W f pr (h.i 59 16).toNat).getD k 0)) := by rw [← i69]; exact XL2.1.2.2.2.1
            rw [R.1, R.2.1]
            refine ⟨by have := y1.1; omega, y1, y2, y7, y3, y4, s0, y5, fun j j0 j1 => ?_⟩
            rw [R.2.2 j j0 j1]
            exact (y9 j j0 j1).1
          · exact ⟨by rw [GX.2 18 0 (by decide) (by decide)]; exact J.2.2.2.2, by rw [FF.2.2.1 11 0 (nlo 11 (by decide)) (by decide) (by decide) (ntb 11 (by decide) (by decide))]; exact iD.2.1, by rw [FF.2.2.1 42 0 (nlo 42 (by decide)) (by decide) (by decide) (ntb 42 (by decide) (by decide))]; exact iD.2.2⟩
      · rw [if_neg c2]
        exact refuse (fun z => by omega) (fun _ => by omega)
  · have cr : ¬ (h.i 76 0 ≠ 0 ∧ (0 ≤ f ∧ f ≤ 7 ∧ 0 < h.i 95 f)) := fun z => c ((can_eq I).mpr z)
    rw [if_neg c, if_neg (by decide)]
    refine refuse (fun z => cr z.1) (fun z => ?_)
    obtain ⟨_, _, ws, ok, _, _, RL_, _⟩ := line_of I z
    have e77 : h.i 77 0 = ((ws.length : Nat) : Int) := RL_.2.1
    have := ok.1
    omega
