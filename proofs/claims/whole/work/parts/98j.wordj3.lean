/-! word: both sides together -/
set_option maxHeartbeats 2000000 in
theorem j_word (n : Nat) (hn : n < 512) : JJ INV n M_X_word M_R_word [] := by
  refine jj_fa (fun h I => ?_)
  have I' := I
  obtain ⟨SX_, S, n0, ht, iN, iRo, iT, iV, iP, -, -, -, -, -, iB, -, -, -, iRd, -, iD⟩ := I'
  have tb := ht
  unfold I_tab at tb
  have j := iT
  obtain ⟨j1, j2, j3, j4⟩ := iT
  have RL0 : RLang h (h.i 6) (h.i 5) := RLang_of iP iV
  have hV : bits26 (h.i 5) := fun k k0 k1 => (RL0.2 k k0 k1).2
  have hn' : h.i 59 1 = (((tapL h).length : Nat) : Int) := by rw [tapL_len]; omega
  have F1 : Fr [] [(2, 1)] h (h.wi 2 1 0) := Fr_slot (Fr_refl _ _ _) _ (by decide)
  have X1 : SX (h.wi 2 1 0) := SX_2 (h := h) rfl SX_
  apply L_X_word
  refine ⟨(sxt SX_).1, ?_⟩
  apply L_X_takeTape
  refine ⟨(sxt SX_).1, ?_⟩
  intro x1 e1 h1 eh
  subst eh
  rw [e1, j1]
  simp only [sxt SX_, sxl SX_, sxf SX_, true_and, and_true, false_and, and_false, forall_eq, forall_eq', xi_wi, xr_wi, xt_wi, xl_wi, xn_wi, xs_wi, xi_wr, xr_wr, xt_wr, xl_wr, xn_wr, xs_wr, if_true, if_false, and_self, Int.reduceEq, Int.reduceLT, Int.reduceLE, Int.reduceNeg, Int.le_refl, Int.reduceMod]
  apply L_Book_learnWord
  refine ⟨(sxt X1).2.2.2.2.2.1, ?_⟩
  refine c_X_readTold (d := 2040) (P := h.i 6) (V := h.i 5) (r := tapL h) X1 (by funext j; simp only [true_and, and_true, false_and, and_false, forall_eq, forall_eq', xi_wi, xr_wi, xt_wi, xl_wi, xn_wi, xs_wi, xi_wr, xr_wr, xt_wr, xl_wr, xn_wr, xs_wr, if_true, if_false, and_self, Int.reduceEq, Int.reduceLT, Int.reduceLE, Int.reduceNeg, Int.le_refl, Int.reduceMod]) (by funext j; simp only [true_and, and_true, false_and, and_false, forall_eq, forall_eq', xi_wi, xr_wi, xt_wi, xl_wi, xn_wi, xs_wi, xi_wr, xr_wr, xt_wr, xl_wr, xn_wr, xs_wr, if_true, if_false, and_self, Int.reduceEq, Int.reduceLT, Int.reduceLE, Int.reduceNeg, Int.le_refl, Int.reduceMod]) hV (by simp only [true_and, and_true, false_and, and_false, forall_eq, forall_eq', xi_wi, xr_wi, xt_wi, xl_wi, xn_wi, xs_wi, xi_wr, xr_wr, xt_wr, xl_wr, xn_wr, xs_wr, if_true, if_false, and_self, Int.reduceEq, Int.reduceLT, Int.reduceLE, Int.reduceNeg, Int.le_refl, Int.reduceMod]; exact iD.2.1) hn' j3 (fun k hk => by rw [tapL_get hk]; simp only [true_and, and_true, false_and, and_false, forall_eq, forall_eq', xi_wi, xr_wi, xt_wi, xl_wi, xn_wi, xs_wi, xi_wr, xr_wr, xt_wr, xl_wr, xn_wr, xs_wr, if_true, if_false, and_self, Int.reduceEq, Int.reduceLT, Int.reduceLE, Int.reduceNeg, Int.le_refl, Int.reduceMod]) (fun h2 B F2 eR gd ok D => ?_) (fun h2 F2 z11 no => ?_)
  · rw [if_neg (by decide)]
    intro p ep h3 e3
    have F02 : Fr rtL [(2, 1), (9, 6)] h h2 := Fr_trans (Fr_mono F1 (fun c m => absurd m List.not_mem_nil) (by decide)) (Fr_mono F2 (fun c m => m) (by decide))
    have fs2 := fr_same F02
    have ep' : p = h.nx := by rw [ep, fs2.2.2.2.1]
    have T3 : ∀ c, c < h.nx → h3.tag c = h.tag c ∧ h3.len c = h.len c := fun c hc => by rw [e3, xt_al, xl_al, if_neg (by omega), if_neg (by omega), fs2.2.1, fs2.2.2.1]; exact ⟨rfl, rfl⟩
    have tp3 : h3.tag p = 9 := by rw [e3, xt_al, if_pos ep]
    have r3 : h3.r = h.r := by rw [e3, xr_al, fs2.1]
    have i3 : h3.i = h2.i := by rw [e3, xi_al]
    have nx3 : h3.nx = h.nx + 1 := by rw [e3, xn_al, fs2.2.2.2.1]
    have us3 : h3.us = h.us + 7 := by rw [e3, xs_al, fs2.2.2.2.2]
    have pl := pcs_len ok
    have l16 := gd.2
    have b1 := rdW_pos _ _ _ _ eR
    have g9 : h.tag 7 = 0 ∧ h.r 7 3 = 9 ∧ h.tag 9 = 9 ∧ (h.r 9 0 = 10 ∧ h.r 9 1 = 11 ∧ h.r 9 2 = 12 ∧ h.r 9 3 = 13 ∧ h.r 9 4 = 14) ∧ (h.tag 10 = 20 ∧ h.tag 11 = 20 ∧ h.tag 12 = 20 ∧ h.tag 13 = 20 ∧ h.tag 14 = 20) ∧ h.len 10 = 16 ∧ h.len 11 = 17 ∧ h.len 12 = 16 ∧ h.len 13 = 16 ∧ h.len 14 = 16 := by simp only [sxt SX_, sxl SX_, sxf SX_, true_and, and_true, false_and, and_false, forall_eq, forall_eq', xi_wi, xr_wi, xt_wi, xl_wi, xn_wi, xs_wi, xi_wr, xr_wr, xt_wr, xl_wr, xn_wr, xs_wr, if_true, if_false, and_self, Int.reduceEq, Int.reduceLT, Int.reduceLE, Int.reduceNeg, Int.le_refl, Int.reduceMod]
    obtain ⟨ga, gb, gc, ⟨gd0, gd1, gd2, gd3, gd4⟩, ⟨ge0, ge1, ge2, ge3, ge4⟩, gf0, gf1, gf2, gf3, gf4⟩ := g9
    have fr0 : ∀ i : Nat, i ≤ B.length → h2.i 11 i = (((ptx (B.take i)).length : Nat) : Int) := D.2.1
    have frL : h2.i 11 ((B.length : Nat) : Int) = (((ptx B).length : Nat) : Int) := by
      have := fr0 B.length (Nat.le_refl _)
      rw [List.take_length] at this
      exact this
    have Z : SrcO h3 p 9 ((B.length : Nat) : Int) (((ptx B).length : Nat) : Int) := by
      refine ⟨tp3, by omega, by omega, by rw [(T3 9 (by omega)).1]; exact gc, by omega, by omega, by rw [i3]; exact D.1, by omega, by omega, by omega, by omega, ?_, ?_, ?_, ?_⟩
      · rw [r3, gd1, i3]; exact frL
      · rw [r3, gd0, gd1, gd2, gd3, gd4]; omega
      · rw [r3, gd0, gd1, gd2, gd3, gd4, (T3 10 (by omega)).1, (T3 11 (by omega)).1, (T3 12 (by omega)).1, (T3 13 (by omega)).1, (T3 14 (by omega)).1]
        exact ⟨ge0, ge1, ge2, ge3, ge4⟩
      · rw [r3, gd0, gd1, gd2, gd3, gd4, (T3 10 (by omega)).2, (T3 11 (by omega)).2, (T3 12 (by omega)).2, (T3 13 (by omega)).2, (T3 14 (by omega)).2]
        omega
    refine ⟨by rw [(T3 7 (by omega)).1]; exact ga, tp3, ?_⟩
    rw [r3, gb]
    refine c_X_init2 (d := 2042) Z (fun h4 K => ?_)
    obtain ⟨K1, K2, K3, K4, K5, K6, K7, K8, K9, K10, K11, K12, K13, K14⟩ := K
    rw [nx3] at K1 K2 K3 K4 K5 K7 K9 K10 K11 K12 K13 K14
    rw [r3, gd0] at K9
    rw [r3, gd1] at K10
    rw [r3, gd3] at K12
    rw [i3] at K9 K10 K12
    clear K11 K13
    rw [us3] at K8
    have hp1 : h.nx + 1 = p + 1 := by omega
    rw [hp1] at K1 K2 K3 K4 K5 K7 K9 K10 K12 K14
    have a2 : p + 1 + 1 = p + 2 := by omega
    have a3 : p + 1 + 2 = p + 3 := by omega
    have a4 : p + 1 + 3 = p + 4 := by omega
    have a5 : p + 1 + 4 = p + 5 := by omega
    have a6 : p + 1 + 5 = p + 6 := by omega
    rw [a2, a3, a4, a5] at K2 K3 K4
    rw [a2] at K10
    rw [a4] at K12
    rw [a6] at K7 K14
    have k0 : ∀ c, c < h.nx → h4.tag c = h.tag c ∧ h4.len c = h.len c := fun c hc => by
      have a := K1 c (by omega)
      have b := T3 c hc
      exact ⟨a.1.trans b.1, a.2.trans b.2⟩
    have kr : ∀ c, c < h.nx → h4.r c = h.r c := fun c hc => by rw [(K5 c (by omega) (by omega)).1, r3]
    have ki : ∀ c, c < h.nx → h4.i c = h2.i c := fun c hc => by rw [(K5 c (by omega) (by omega)).2, i3]
    have tp4 : h4.tag p = 9 := by rw [(K1 p (by omega)).1]; exact tp3
    have F04s : FA rtL [(2, 1), (9, 6)] [] [] h h4 := by
      refine ⟨by omega, k0, fun c k hc u v _ => ?_, fun c k hc _ _ => by rw [kr c hc]⟩
      rw [ki c hc]
      exact F02.2 c k u v
    have F04 : FA rtL wX2 [8] [] h h4 := FA_mono F04s (fun c m => m) (by decide) (fun c m => absurd m List.not_mem_nil) (fun c m => m)
    have T4 : Tok h h4 := ⟨Or.inl (by rw [kr 28 (by omega)]), Or.inl (by rw [kr 40 (by omega)])⟩
    have SX4 : SX h4 := SX_rel (fun c hc => k0 c (by omega)) (fun c k hc => by rw [kr c (by omega)]) SX_
    have S4 : SR h4 := SR_rel (fun c hc => k0 c (by omega)) (fun k => by rw [kr 59 (by omega)]) S
    have N4 : I_new h4 := fun c k hc => by
      have q := K14 c (by omega)
      have z := iN c k (by omega)
      rw [q.1, q.2, i3, r3]
      refine ⟨?_, z.2⟩
      rw [F02.2 c k (fun m => by have := (by decide : ∀ x ∈ rtL, x < 130) c m; omega) (fun m => by have := (by decide : ∀ q ∈ [((2 : Int), (1 : Int)), (9, 6)], q.1 < 130) _ m; simp only at this; omega)]
      exact z.1
    have let4 : ∀ k : Nat, k < (ptx B).length → h4.i (p + 1) k = (ptx B).getD k 0 := fun k hk => by
      rw [K9 (k : Int) (by omega) (by omega)]
      exact D.2.2.1 k hk
    have frm4 : ∀ i : Nat, i ≤ B.length → h4.i (p + 2) i = (((ptx (B.take i)).length : Nat) : Int) := fun i hi => by
      rw [K10 (i : Int) (by omega) (by omega)]
      exact fr0 i hi
    have mk4 : ∀ i : Nat, i < B.length → h4.i (p + 4) i = (B.getD i pc0).2 := fun i hi => by
      rw [K12 (i : Int) (by omega) (by omega)]
      exact D.2.2.2 i hi
    have lc : h4.i (p + 2) ((B.length : Nat) : Int) = (((ptx B).length : Nat) : Int) := by
      have := frm4 B.length (Nat.le_refl _)
      rw [List.take_length] at this
      exact this
    have rd5 := iRd.2.2.2.2.1
    have tabN : h.r 28 6 < h.nx := by unfold I_room at iRo; omega
    have NE : NewE h4 p B := by
      refine ⟨⟨by omega, by omega, tp4, K4.1, K4.2.1, K4.2.2.1, K4.2.2.2.1, K4.2.2.2.2.1, K2.1, K2.2.1, K2.2.2.1, K2.2.2.2.1, K2.2.2.2.2, ?_, ?_, ?_, ?_, ?_, ?_⟩, K6, frm4, let4, mk4⟩
      · rw [K6, lc]; exact K3.1
      · rw [K6]; exact K3.2.1
      · rw [K6]; exact K3.2.2.1
      · rw [K6]; exact K3.2.2.2.1
      · rw [K6]; exact K3.2.2.2.2
      · unfold aprt
        rw [kr 28 (by omega), kr 40 (by omega)]
        omega
    have B4 : I_book h4 := I_book_fa F04s (by decide) T4 n0 ht (by decide) (fun k => by rw [kr 8 (by omega)]) iB
    have e16 : h4.i 59 16 = h.i 59 16 := F04.2.2.1 59 16 (by omega) (by decide) (by decide) (by omega)
    have z21 : h4.i 2 1 = 0 := by
      rw [ki 2 (by omega), F2.2 2 1 (by decide) (by decide)]; simp only [true_and, and_true, false_and, and_false, forall_eq, forall_eq', xi_wi, xr_wi, xt_wi, xl_wi, xn_wi, xs_wi, xi_wr, xr_wr, xt_wr, xl_wr, xn_wr, xs_wr, if_true, if_false, and_self, Int.reduceEq, Int.reduceLT, Int.reduceLE, Int.reduceNeg, Int.le_refl, Int.reduceMod]
    have z11 : h4.i 11 0 = 0 := by
      rw [ki 11 (by omega)]
      exact fr0 0 (Nat.zero_le _)
    have W4 : WX n h h4 p (((ptx B).length : Nat) : Int) B := ⟨F04, T4, SX4, S4, N4, by omega, by omega, by rw [kr 28 (by omega)], by rw [kr 40 (by omega)], NE, K3.1, z21, z11⟩
    have gl : ∀ k, 0 ≤ k → k < (((ptx B).length : Nat) : Int) → h4.i (p + 1) k = gD (ptx B) k ∧ 97 ≤ gD (ptx B) k ∧ gD (ptx B) k ≤ 122 := fun k k0 k1 => by
      obtain ⟨i, rfl⟩ : ∃ i : Nat, k = (i : Int) := ⟨k.toNat, by omega⟩
      unfold gD
      rw [Int.toNat_natCast]
      exact ⟨let4 i (by omega), ptx_let ok (by omega)⟩
    have wm4 : ∀ v, WM h4 (h4.i (p + 1)) (((ptx B).length : Nat) : Int) v ↔ WM h (h4.i (p + 1)) (((ptx B).length : Nat) : Int) v := fun v => by
      unfold WM
      rw [FA_row F04 (c := 69) (by omega) (by decide) (by decide) (by omega), FA_row F04 (c := 68) (by omega) (by decide) (by decide) (by omega)]
    have r8 : h4.r 8 = h.r 8 := kr 8 (by omega)
    have t7 : h4.tag 7 = 0 := by rw [(k0 7 (by omega)).1]; exact ga
    have ltc : ∀ Q' : Int → xH → Prop, Q' (((ptx B).length : Nat) : Int) h4 → xCi 2044 M_Syllables_letterCount [(1, p)] h4 Q' := fun Q' HQ => by
      apply L_Syllables_letterCount
      rw [K4.2.1, K6, lc]
      exact ⟨tp4, ⟨K2.2.1, by omega, by rw [K3.2.1]; omega⟩, HQ⟩
    refine ⟨tp4, ltc _ ⟨t7, ?_⟩⟩
    rw [K4.1]
    have hg : ∀ i, h4.i (p + 1) i = h4.i (p + 1) (0 + i) := fun i => by rw [show (0 : Int) + i = i by omega]
    have gr : ∀ i, 0 ≤ i → i < (((ptx B).length : Nat) : Int) - 0 → -1000 ≤ h4.i (p + 1) i ∧ h4.i (p + 1) i ≤ 1000 := fun i i0 i1 => by have := gl i i0 (by omega); omega
    have et0 : (((ptx B).length : Nat) : Int) - 0 = (((ptx B).length : Nat) : Int) := by omega
    refine c_X_placeFor (d := 2041) SX4 B4 K2.1 (Int.le_refl _) (by omega) (by rw [K3.1]; exact Int.le_refl _) (by omega) hg gr (fun a a0 a1 pre post => ?_)
    rw [e16] at a1 post
    rw [r8] at pre post
    rw [et0] at pre post
    refine ⟨tp4, ltc _ ⟨t7, ?_⟩⟩
    rw [K4.1]
    have ent : ∀ i, 0 ≤ i → i < h.i 59 16 → h4.i (h.r 8 i + 1) = h.i (h.r 8 i + 1) ∧ h4.len (h.r 8 i + 1) = h.len (h.r 8 i + 1) := fun i i0 i1 => by
      obtain ⟨v, _, _, Bv⟩ := iB.2.2.2.1 i i0 i1
      exact ent_row F04 (by decide) Bv
    have pre' : ∀ i, 0 ≤ i → i < a → lexl (h.i (h.r 8 i + 1)) (h4.i (p + 1)) (h.len (h.r 8 i + 1)) (((ptx B).length : Nat) : Int) := fun i i0 i1 => by
      have := pre i i0 i1
      rw [(ent i i0 (by omega)).1, (ent i i0 (by omega)).2] at this
      exact this
    have b40 := iB.2.2.1
    have bn0 := iB.2.1
    -- the reference, whatever the class has done with its entries
    have refn : ∀ hX : xH, WX n h hX p (((ptx B).length : Nat) : Int) B → (∀ c k, c ≠ 7 → hX.i c k = h4.i c k) → (∀ w, 0 ≤ w → w < h.i 59 16 → WM h (h4.i (p + 1)) (((ptx B).length : Nat) : Int) w → ∀ hf, Fr wdL wR2 hX hf → hf.i 59 16 = h.i 59 16 → hf.i 59 1 = 0 → RowsW h hf w → WM hf (h4.i (p + 1)) (((ptx B).length : Nat) : Int) w → BookRel hf p w → I_book hf) → ((∀ w, 0 ≤ w → w < h.i 59 16 → ¬ WM h (h4.i (p + 1)) (((ptx B).length : Nat) : Int) w) → (h.i 59 16 = 40 ∧ hX = h4) ∨ (h.i 59 16 < 40 ∧ ∀ hf, Fr wdL wR2 hX hf → hf.i 59 16 = h.i 59 16 + 1 → hf.i 59 1 = 0 → RowsW h hf (h.i 59 16) → WM hf (h4.i (p + 1)) (((ptx B).length : Nat) : Int) (h.i 59 16) → BookRel hf p (h.i 59 16) → I_book hf)) → ∀ ans : Int, ((∃ w, 0 ≤ w ∧ w < h.i 59 16 ∧ WM h (h4.i (p + 1)) (((ptx B).length : Nat) : Int) w) ∨ h.i 59 16 < 40 → ans = ((B.length : Nat) : Int)) → ((∀ w, 0 ≤ w → w < h.i 59 16 → ¬ WM h (h4.i (p + 1)) (((ptx B).length : Nat) : Int) w) → h.i 59 16 = 40 → ans = -3) → SCk h hX ∧ xCi 2046 M_R_word [(1, 59)] hX (fun r2 h2 => ans = r2 ∧ SCk h h2 ∧ INV (n + 1) h2) := by
      intro hX W eI C1 C2 ans A1 A2
      have W' := W
      obtain ⟨w1, w2, w3, w4, w5, w6, w7, w8, w9, w10, w11, w12, w13⟩ := W'
      refine ⟨⟨(w1.2.1 1 (by omega)).1, (w1.2.1 1 (by omega)).2, FA_row w1 (by omega) (by decide) (by decide) (by omega), by rw [(w1.2.1 59 (by omega)).1]; exact (srt S).1⟩, ?_⟩
      have rX : ∀ c : Int, c < 130 → c ∉ rtL → c ≠ 2 → c ≠ 9 → c ≠ 7 → c ≠ 34 → hX.i c = h.i c := fun c hc m a1 a2 a3 a4 => FA_row w1 (by omega) m (fun q mq e => by
        have := (by decide : ∀ q ∈ wX2, q.1 = 2 ∨ q.1 = 9 ∨ q.1 = 7) q mq
        omega) (by omega)
      have RLX : RLang hX (h.i 6) (h.i 5) := RLang_row (rX 61 (by decide) (by decide) (by decide) (by decide) (by decide) (by decide)) (rX 62 (by decide) (by decide) (by decide) (by decide) (by decide) (by decide)) (rX 63 (by decide) (by decide) (by decide) (by decide) (by decide) (by decide)) (rX 64 (by decide) (by decide) (by decide) (by decide) (by decide) (by decide)) (by rw [rX 59 (by decide) (by decide) (by decide) (by decide) (by decide) (by decide)]) RL0
      refine c_R_word1 j RLX hV w4 (by rw [rX 59 (by decide) (by decide) (by decide) (by decide) (by decide) (by decide)]) (rX 60 (by decide) (by decide) (by decide) (by decide) (by decide) (by decide)) (fun no => absurd gd (no B eR)) (fun B' eR' _ _ h7 F7 t7 W7 tt => ?_)
      have eB : B' = B := (Option.some.inj (eR.symm.trans eR')).symm
      subst eB
      have S7 := SR_2 F7.1 w4
      have e69 : h7.i 69 = h.i 69 := by rw [Fr_row F7 (by decide) (by decide)]; exact rX 69 (by decide) (by decide) (by decide) (by decide) (by decide) (by decide)
      have e68 : h7.i 68 = h.i 68 := by rw [Fr_row F7 (by decide) (by decide)]; exact rX 68 (by decide) (by decide) (by decide) (by decide) (by decide) (by decide)
      have e70 : h7.i 70 = h.i 70 := by rw [Fr_row F7 (by decide) (by decide)]; exact rX 70 (by decide) (by decide) (by decide) (by decide) (by decide) (by decide)
      have e71 : h7.i 71 = h.i 71 := by rw [Fr_row F7 (by decide) (by decide)]; exact rX 71 (by decide) (by decide) (by decide) (by decide) (by decide) (by decide)
      have e72 : h7.i 72 = h.i 72 := by rw [Fr_row F7 (by decide) (by decide)]; exact rX 72 (by decide) (by decide) (by decide) (by decide) (by decide) (by decide)
      have e716 : h7.i 59 16 = h.i 59 16 := by rw [F7.2 59 16 (by decide) (by decide), rX 59 (by decide) (by decide) (by decide) (by decide) (by decide) (by decide)]
      have e73 : ∀ k, 0 ≤ k → k < (((ptx B').length : Nat) : Int) → h7.i 73 k = h4.i (p + 1) k := fun k k0 k1 => by
        obtain ⟨i, rfl⟩ : ∃ i : Nat, k = (i : Int) := ⟨k.toNat, by omega⟩
        rw [W7.1 i (by omega), let4 i (by omega)]
      have mat := word_mat (h := h) e69 e68 e73
      have sizes : ∀ w, 0 ≤ w → w < h7.i 59 16 → h7.i 69 w ≤ 16 := fun w w0 w1 => by
        rw [e716] at w1
        obtain ⟨i, _, _, Bw⟩ := iB.2.2.2.2.1 w w0 w1
        rw [e69]; exact Bw.2.2.2.2.1
      have F7' : Fr wdL wR2 hX h7 := Fr_mono F7 (fun c m => List.mem_append_left _ m) (by decide)
      have tg73 : h7.tag 73 = 21 ∧ h7.len 73 = 240 := by have S := S7; simp only [srt S, srl S, srf S, true_and, and_true, false_and, and_false, forall_eq, forall_eq', xi_wi, xr_wi, xt_wi, xl_wi, xn_wi, xs_wi, xi_wr, xr_wr, xt_wr, xl_wr, xn_wr, xs_wr, if_true, if_false, and_self, Int.reduceEq, Int.reduceLT, Int.reduceLE, Int.reduceNeg, Int.le_refl, Int.reduceMod]
      -- what is written at word w
      have fin : ∀ w h0 h8, 0 ≤ w → w < 40 → Fr [] [(59, 16)] h7 h0 → WrW h0 h8 w B' → Fr wdL wR2 hX h8 ∧ h8.i 59 1 = 0 ∧ h8.i 59 16 = h0.i 59 16 ∧ RowsW h h8 w ∧ WM h8 (h4.i (p + 1)) (((ptx B').length : Nat) : Int) w ∧ BookRel h8 p w := fun w h0 h8 w0 w1 F0 Wr => by
        obtain ⟨x1, x2, x3, x4, x5, x6⟩ := Wr
        have G : Fr wdL wR2 hX h8 := Fr_trans F7' (Fr_trans (Fr_mono F0 (fun c m => absurd m List.not_mem_nil) (by decide)) (Fr_mono x1 (by decide) (fun c m => absurd m List.not_mem_nil)))
        have G78 : Fr [68, 69, 70, 71, 72] [(59, 16)] h7 h8 := Fr_trans (Fr_mono F0 (fun c m => absurd m List.not_mem_nil) (fun c m => m)) (Fr_mono x1 (fun c m => m) (fun c m => absurd m List.not_mem_nil))
        have r0 : ∀ c : Int, c ≠ 59 → h0.i c = h7.i c := fun c nc => Fr_row F0 List.not_mem_nil (fun q m e => by rw [List.mem_singleton] at m; rw [m] at e; exact nc e.symm)
        refine ⟨G, by rw [x1.2 59 1 (by decide) (by decide), F0.2 59 1 (by decide) (by decide)]; exact t7, x1.2 59 16 (by decide) (by decide), ⟨fun v ne => ?_, fun k hk => ?_⟩, ⟨by rw [x2, if_pos rfl], fun k k0 k1 => ?_⟩, ?_⟩
        · rw [x2, x3, if_neg ne, if_neg ne, r0 69 (by decide), r0 70 (by decide), e69, e70]; exact ⟨rfl, rfl⟩
        · have := x6 k hk
          rw [this.1, this.2.1, this.2.2, r0 68 (by decide), r0 71 (by decide), r0 72 (by decide), e68, e71, e72]; exact ⟨rfl, rfl, rfl⟩
        · obtain ⟨i, rfl⟩ : ∃ i : Nat, k = (i : Int) := ⟨k.toNat, by omega⟩
          rw [x4 i (by omega), let4 i (by omega)]
        · have NE8 : NewE h8 p B' := NewE_fa (FA_of [] [] G) (by decide) (Tok_fr G) w10
          exact BookRel_new NE8 ok l16 b1 (by rw [x2, if_pos rfl]) (by rw [x3, if_pos rfl]) x4 x5
      refine ⟨(srt S7).1, ?_⟩
      refine c_R_find (d := 2043) S7 tg73.1 (Int.le_refl _) (by omega) (by rw [tg73.2]; omega) (by omega) (by rw [e716]; exact bn0) (by rw [e716]; exact b40) sizes (fun w w0 w1 M => ?_) (fun no => ?_)
      · rw [e716] at w1
        have Mw := (mat w).mp M
        rw [if_neg (by omega)]
        refine c_R_word32 S7 W7 tt l16 ok w0 (by omega) (fun h8 Wr => ?_)
        obtain ⟨f1, f2, f3, f4, f5, f6⟩ := fin w h7 h8 w0 (by omega) (Fr_refl _ _ _) Wr
        have ib := C1 w w0 w1 Mw h8 f1 (by rw [f3, e716]) f2 f4 f5 f6
        exact ⟨A1 (Or.inl ⟨w, w0, w1, Mw⟩), word_fin I W f1 ib f2⟩
      · have no' : ∀ w, 0 ≤ w → w < h.i 59 16 → ¬ WM h (h4.i (p + 1)) (((ptx B').length : Nat) : Int) w := fun w w0 w1 Mw => no w w0 (by rw [e716]; exact w1) ((mat w).mpr Mw)
        rw [if_pos rfl, e716]
        refine ⟨(srt S7).1, ?_⟩
        rcases C2 no' with ⟨c, eX⟩ | ⟨c, C⟩
        · rw [if_pos c]
          have ib7 : I_book h7 := by
            have F := word_FA W F7'
            have T := word_tok W F7'
            have FF : FA (rtL ++ rwL2) (wX2 ++ rwS) [] [] h h7 := by
              rw [eX] at F7
              have F04' : FA rtL wX2 [] [] h h4 := ⟨F04.1, F04.2.1, F04.2.2.1, fun c k hc _ _ => by rw [kr c hc]⟩
              exact FA_fq (FA_mono F04' (fun c m => List.mem_append_left _ m) (fun c m => List.mem_append_left _ m) (fun c m => m) (fun c m => m)) F7 (fun x m => Or.inl (List.mem_append_right _ m)) (fun q m => List.mem_append_right _ m)
            have T' : Tok h h7 := T
            have b72 : h7.i 7 2 = h.i 7 2 := by
              rw [F7.2 7 2 (by decide) (by decide), eX, ki 7 (by omega), F02.2 7 2 (by decide) (by decide)]
            have FF2 : FA (rtL ++ rwL2) ([(2, 1), (9, 6)] ++ rwS) [] [] h h7 := by
              refine ⟨FF.1, FF.2.1, fun c k hc u v y => ?_, FF.2.2.2⟩
              by_cases q : c = 7 ∧ k = 2
              · rw [q.1, q.2]; exact b72
              · refine FF.2.2.1 c k hc u (fun m => v ?_) y
                rw [List.mem_append] at m ⊢
                rcases m with m | m
                · left
                  unfold wX2 at m
                  simp only [List.mem_cons, Prod.mk.injEq, List.not_mem_nil, or_false] at m ⊢
                  omega
                · exact Or.inr m
            exact I_book_fa FF2 (by decide) T' n0 ht (by decide) (fun k => by rw [(fr_same F7).1, eX, kr 8 (by omega)]) iB
          exact ⟨A2 no' c, word_fin I W F7' ib7 t7⟩
        · rw [if_neg (by omega)]
          refine c_R_word32n (m := h.i 59 16) S7 W7 tt l16 ok e716 bn0 c (fun h8 Wr => ?_)
          obtain ⟨f1, f2, f3, f4, f5, f6⟩ := fin (h.i 59 16) (h7.wi 59 16 (h.i 59 16 + 1)) h8 bn0 c (Fr_slot (Fr_refl _ _ _) _ (by decide)) Wr
          have ib := C h8 f1 (by rw [f3, xi_wi, if_pos ⟨rfl, rfl⟩]) f2 f4 f5 f6
          exact ⟨A1 (Or.inr c), word_fin I W f1 ib f2⟩
    refine c_X_isAt (d := 2041) SX4 B4 K2.1 (Int.le_refl _) (by omega) (by rw [K3.1]; exact Int.le_refl _) (by omega) hg gr a0 (fun c E => ?_) (fun ne => ?_)
    · rw [e16] at c
      rw [r8, (ent a a0 c).1, (ent a a0 c).2, et0] at E
      obtain ⟨va, va0, va1, Ba⟩ := iB.2.2.2.1 a a0 c
      have Ma := (WM_iff Ba).mp E
      have g8 : h4.r 7 1 = 8 ∧ h4.tag 8 = 23 ∧ h4.len 8 = 40 := by have SX_ := SX4; simp only [sxt SX_, sxl SX_, sxf SX_, true_and, and_true, false_and, and_false, forall_eq, forall_eq', xi_wi, xr_wi, xt_wi, xl_wi, xn_wi, xs_wi, xi_wr, xr_wr, xt_wr, xl_wr, xn_wr, xs_wr, if_true, if_false, and_self, Int.reduceEq, Int.reduceLT, Int.reduceLE, Int.reduceNeg, Int.le_refl, Int.reduceMod]
      rw [if_neg (by decide), g8.1]
      refine ⟨t7, ⟨g8.2.1, a0, by rw [g8.2.2]; omega, Or.inr tp4⟩, fun h8 e8 => ⟨by rw [e8]; exact tp4, ?_⟩⟩
      have FA8 : FA [] [] [8] [] h4 h8 := by rw [e8]; exact FA_wr (FA_refl _ _ _ _ _) _ _ (Or.inl (by decide))
      have r8' : ∀ c k, c ≠ 8 → h8.r c k = h4.r c k := fun c k hc => by rw [e8, xr_wr, if_neg (fun z => hc z.1)]
      have T48 : Tok h4 h8 := ⟨Or.inl (r8' 28 6 (by decide)), Or.inl (r8' 40 3 (by decide))⟩
      have i8 : h8.i = h4.i := by rw [e8, xi_wr]
      have d8 : h8.tag = h4.tag ∧ h8.len = h4.len ∧ h8.nx = h4.nx ∧ h8.us = h4.us := by rw [e8]; exact ⟨rfl, rfl, rfl, rfl⟩
      have W8 : WX n h h8 p (((ptx B).length : Nat) : Int) B := by
        obtain ⟨w1, w2, w3, w4, w5, w6, w7, w8, w9, w10, w11, w12, w13⟩ := W4
        refine ⟨by rw [e8]; exact FA_wr w1 _ _ (Or.inl (by decide)), ?_, by rw [e8]; exact SX_wr8 w3, by rw [e8]; exact SR_wr (by decide) w4, by rw [e8]; exact I_new_wr w5 _ _ (by omega), by rw [d8.2.2.1]; exact w6, by rw [d8.2.2.2]; exact w7, by rw [r8' 28 6 (by decide)]; exact w8, by rw [r8' 40 3 (by decide)]; exact w9, NewE_fa FA8 (by decide) T48 w10, by rw [d8.2.1]; exact w11, by rw [i8]; exact w12, by rw [i8]; exact w13⟩
        unfold Tok
        rw [r8' 28 6 (by decide), r8' 40 3 (by decide)]
        exact w2
      rw [show h8.i p 6 = ((B.length : Nat) : Int) by rw [i8]; exact K6]
      refine refn h8 W8 (fun c k _ => by rw [i8]) (fun w w0 w1 Mw hf G ef t0 Rw M' Bn => ?_) (fun no => absurd Ma (no va va0 va1)) _ (fun _ => rfl) (fun no => absurd Ma (no va va0 va1))
      have ew : va = w := WM_one iB va0 va1 w0 w1 Ma Mw
      subst ew
      refine I_book_repl (a := a) (p := p) iB (word_FA W8 G) (by decide) (word_tok W8 G) a0 c va0 va1 Ba Ma Rw Bn (by rw [(fr_same G).2.2.1]; exact W8.2.2.2.2.2.2.2.2.2.2.1) (fun k k0 k1 => ?_) M' (fun i => ?_) ?_ ef
      · rw [Fr_row G (c := p + 1) (fun m => by have := (by decide : ∀ x ∈ wdL, x < 130) _ m; omega) (fun q m e => by have := (by decide : ∀ q ∈ wR2, q.1 < 130) q m; omega), i8]
      · rw [(fr_same G).1, e8, xr_wr]
        by_cases z : i = a
        · rw [if_pos ⟨rfl, z⟩, if_pos z]
        · rw [if_neg (fun y => z y.2), if_neg z, r8]
      · rw [G.2 7 2 (by decide) (by decide), i8, ki 7 (by omega), F02.2 7 2 (by decide) (by decide)]
        exact iB.1
    · rw [e16] at ne
      have ne' : ¬ (a < h.i 59 16 ∧ eqP (h.i (h.r 8 a + 1)) (h4.i (p + 1)) (h.len (h.r 8 a + 1)) (((ptx B).length : Nat) : Int)) := fun z => ne ⟨z.1, by rw [r8, (ent a a0 z.1).1, (ent a a0 z.1).2, et0]; exact z.2⟩
      have post' : a < h.i 59 16 → ¬ lexl (h.i (h.r 8 a + 1)) (h4.i (p + 1)) (h.len (h.r 8 a + 1)) (((ptx B).length : Nat) : Int) := fun z => by
        have := post z
        rw [(ent a a0 z).1, (ent a a0 z).2] at this
        exact this
      have noW : ∀ w, 0 ≤ w → w < h.i 59 16 → ¬ WM h (h4.i (p + 1)) (((ptx B).length : Nat) : Int) w := fun w w0 w1 Mw => by
        obtain ⟨m, m0, m1, Bm⟩ := iB.2.2.2.2.1 w w0 w1
        have Em := (WM_iff Bm).mpr Mw
        have am := book_at (g := h4.i (p + 1)) (b := 0) (e := (((ptx B).length : Nat) : Int)) iB m0 m1 (by rw [et0]; exact Em) a0 (fun i i0 i1 => by rw [et0]; exact pre' i i0 i1) (fun z => by rw [et0]; exact post' z)
        subst am
        exact ne' ⟨m1, Em⟩
      have len0 : ∀ i, 0 ≤ i → i < h.i 59 16 → 0 ≤ h.len (h.r 8 i + 1) := fun i i0 i1 => by
        obtain ⟨v, _, _, Bv⟩ := iB.2.2.2.1 i i0 i1
        have XL := XLet_book Bv
        rw [XL.2]; exact XL.1.2.2.2.1
      have postA : ∀ i, a ≤ i → i < h.i 59 16 → lexl (h4.i (p + 1)) (h.i (h.r 8 i + 1)) (((ptx B).length : Nat) : Int) (h.len (h.r 8 i + 1)) := fun i i0 i1 => by
        have A := lexl_tot (len0 a a0 (by omega)) (by omega) (post' (by omega)) (fun z => ne' ⟨by omega, z⟩)
        by_cases z : i = a
        · rw [z]; exact A
        · exact lexl_tr A (iB.2.2.2.2.2.1 a i a0 (by omega) i1)
      have e72 : h4.i 7 2 = h.i 59 16 := by
        rw [ki 7 (by omega), F02.2 7 2 (by decide) (by decide)]; exact iB.1
      rw [if_pos rfl, e72]
      refine ⟨t7, ?_⟩
      by_cases n40 : h.i 59 16 < 40
      · rw [if_pos n40]
        intro y1 ey
        subst ey
        refine c_X_learn_39 (sz := h.i 59 16) n40 a0 a1 (by omega) (h.i 59 16 - a).toNat h4 (h.i 59 16) SX4 e72 (by omega) (Int.le_refl _) tp4 (fun i i0 i1 => ?_) (fun h8 q1 q2 q3 q4 q5 q6 q7 q8 q9 => ?_)
        · obtain ⟨v, _, _, Bv⟩ := B4.2.2.2.1 i i0 (by rw [e16]; exact i1)
          exact Bv.1.2.2.1
        · have FA8 : FA [] [(7, 2)] [8] [] h4 h8 := ⟨by rw [q4]; exact Int.le_refl _, fun c _ => by rw [q2, q3]; exact ⟨rfl, rfl⟩, fun c k _ _ v _ => q6 c k (fun z => v (by rw [z.1, z.2]; decide)), fun c k _ u _ => q8 c k (fun z => u (by rw [z]; decide))⟩
          have T48 : Tok h4 h8 := ⟨Or.inl (q8 28 6 (by decide)), Or.inl (q8 40 3 (by decide))⟩
          have W8 : WX n h h8 p (((ptx B).length : Nat) : Int) B := by
            obtain ⟨w1, w2, w3, w4, w5, w6, w7, w8, w9, w10, w11, w12, w13⟩ := W4
            refine ⟨FA_trans w1 w2.1 (FA_mono FA8 (fun c m => absurd m List.not_mem_nil) (by decide) (fun c m => m) (fun c m => m)), ?_, q1, SR_rel (fun c _ => by rw [q2, q3]; exact ⟨rfl, rfl⟩) (fun k => q8 59 k (by decide)) w4, fun c k hc => ?_, by rw [q4]; exact w6, by rw [q5]; exact w7, by rw [q8 28 6 (by decide)]; exact w8, by rw [q8 40 3 (by decide)]; exact w9, NewE_fa FA8 (by decide) T48 w10, by rw [q3]; exact w11, by rw [q6 2 1 (by decide)]; exact w12, by rw [q6 11 0 (by decide)]; exact w13⟩
            · unfold Tok
              rw [q8 28 6 (by decide), q8 40 3 (by decide)]
              exact w2
            · rw [q4] at hc
              rw [q6 c k (by omega), q8 c k (by omega)]
              exact w5 c k hc
          rw [K6]
          refine refn h8 W8 (fun c k hc => q6 c k (fun z => hc z.1)) (fun w w0 w1 Mw => absurd Mw (noW w w0 w1)) (fun _ => Or.inr ⟨n40, fun hf G ef t0 Rw M' Bn => ?_⟩) _ (fun _ => rfl) (fun _ z => by omega)
          refine I_book_ins (a := a) (p := p) iB (word_FA W8 G) (by decide) (word_tok W8 G) a0 a1 n40 noW pre' postA Rw Bn (by rw [(fr_same G).2.2.1]; exact W8.2.2.2.2.2.2.2.2.2.2.1) (fun k k0 k1 => ?_) M' (fun i => ?_) ?_ ef
          · rw [Fr_row G (c := p + 1) (fun m => by have := (by decide : ∀ x ∈ wdL, x < 130) _ m; omega) (fun q m e => by have := (by decide : ∀ q ∈ wR2, q.1 < 130) q m; omega), q6 (p + 1) k (by omega)]
          · rw [(fr_same G).1, q9, r8]
          · rw [G.2 7 2 (by decide) (by decide)]; exact q7
      · rw [if_neg n40]
        exact refn h4 W4 (fun c k _ => rfl) (fun w w0 w1 Mw => absurd Mw (noW w w0 w1)) (fun _ => Or.inl ⟨by omega, rfl⟩) _ (fun z => by
          rcases z with ⟨w, w0, w1, Mw⟩ | z
          · exact absurd Mw (noW w w0 w1)
          · exact absurd z n40) (fun _ _ => rfl)
  · rw [if_pos rfl]
    have F02 : Fr rtL [(2, 1), (9, 6)] h h2 := Fr_trans (Fr_mono F1 (fun c m => absurd m List.not_mem_nil) (by decide)) (Fr_mono F2 (fun c m => m) (by decide))
    have S2 := SR_2 F02.1 S
    refine ⟨SCk_of (fr_same F02).2.1 (fr_same F02).2.2.1 (Fr_row F02 (by decide) (by decide)) S, ?_⟩
    have RL2 := RLang_row (h' := h2) (Fr_row F02 (by decide) (by decide)) (Fr_row F02 (by decide) (by decide)) (Fr_row F02 (by decide) (by decide)) (Fr_row F02 (by decide) (by decide)) (F02.2 59 6 (by decide) (by decide)) RL0
    refine c_R_word1 j RL2 hV S2 (F02.2 59 1 (by decide) (by decide)) (Fr_row F02 (by decide) (by decide)) (fun no' h3 F3 t3 => ?_) (fun B eR gd => absurd gd (no B eR))
    have F : Fr (rtL ++ rwL2) ([(2, 1), (9, 6)] ++ rwS) h h3 := Fr_trans (Fr_mono F02 (fun c m => List.mem_append_left _ m) (fun c m => List.mem_append_left _ m)) (Fr_mono F3 (fun c m => List.mem_append_right _ m) (fun c m => List.mem_append_right _ m))
    refine ⟨rfl, SCk_of (fr_same F).2.1 (fr_same F).2.2.1 (Fr_row F (by decide) (by decide)) S, INV_fr I F (by decide) (Or.inr ?_) (Or.inl (by decide)) (Or.inl (by decide)) (Or.inl (by decide)) (Or.inl (by decide)) (Or.inl (by decide)) (Or.inl (by decide)) (Or.inl (by decide)) (Or.inl (by decide)) (Or.inl (by decide)) (Or.inl (by decide)) (Or.inl (by decide)) (Or.inl (by decide)) (Or.inl (by decide)) (Or.inr ?_)⟩
    · have t2 : h3.i 2 1 = 0 := by rw [F3.2 2 1 (by decide) (by decide), F2.2 2 1 (by decide) (by decide)]; simp only [true_and, and_true, false_and, and_false, forall_eq, forall_eq', xi_wi, xr_wi, xt_wi, xl_wi, xn_wi, xs_wi, xi_wr, xr_wr, xt_wr, xl_wr, xn_wr, xs_wr, if_true, if_false, and_self, Int.reduceEq, Int.reduceLT, Int.reduceLE, Int.reduceNeg, Int.le_refl, Int.reduceMod]
      exact ⟨by rw [t2, t3], by rw [t3]; decide, by rw [t3]; decide, fun k k0 k1 => by rw [t3] at k1; omega⟩
    · exact ⟨by rw [F.2 18 0 (by decide) (by decide)]; exact iD.1, by rw [F3.2 11 0 (by decide) (by decide)]; exact z11, by rw [F.2 42 0 (by decide) (by decide)]; exact iD.2.2⟩
