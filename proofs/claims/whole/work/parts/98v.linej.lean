/-! line: both sides together -/
def lnXS : List (Int × Int) := [(2, 1), (16, 6), (15, 3), (15, 4)]
def lnXR : List (Int × Int) := [(2, 1), (16, 6), (15, 3), (15, 4), (59, 1), (59, 10), (59, 34), (59, 35)]
set_option maxHeartbeats 2000000 in
theorem j_line (n : Nat) (hn : n < 512) : JJ INV n M_X_line M_R_line [] := by
  refine jj_fa (fun h I => ?_)
  have I' := I
  obtain ⟨SX_, S, n0, ht, iN, iRo, iT, iV, iP, -, -, -, -, -, iB, -, -, iPo, iRd, -, iD⟩ := I'
  have RL0 : RLang h (h.i 6) (h.i 5) := RLang_of iP iV
  have hV : bits26 (h.i 5) := fun k k0 k1 => (RL0.2 k k0 k1).2
  have j := iT
  obtain ⟨j1, j2, j3, j4⟩ := iT
  have hn' : h.i 59 1 = (((tapL h).length : Nat) : Int) := by rw [tapL_len]; omega
  have t28 : h.r 28 6 < h.nx := by unfold I_room at iRo; omega
  have t40 : h.r 40 3 < h.nx := by have := iRd.2.2.2.2.1; omega
  have g : h.tag 2 = 11 ∧ h.r 2 4 = 15 ∧ h.r 2 0 = 3 ∧ h.tag 15 = 3 ∧ h.r 15 2 = 16 ∧ h.tag 16 = 9 ∧ h.r 16 1 = 18 := by simp only [sxt SX_, sxl SX_, sxf SX_, true_and, and_true, false_and, and_false, forall_eq, forall_eq', xi_wi, xr_wi, xt_wi, xl_wi, xn_wi, xs_wi, xi_wr, xr_wr, xt_wr, xl_wr, xn_wr, xs_wr, if_true, if_false, and_self, Int.reduceEq, Int.reduceLT, Int.reduceLE, Int.reduceNeg, Int.le_refl, Int.reduceMod]
  obtain ⟨g1, g2, g3, g4, g5, g6, g7⟩ := g
  have bk0 : ∀ h', Fr drL lnXS h h' → BkEq h h' := fun h' F => by
    unfold BkEq
    rw [Fr_row F (c := 6) (by decide) (by decide), Fr_row F (c := 5) (by decide) (by decide), Fr_row F (c := 68) (by decide) (by decide), Fr_row F (c := 69) (by decide) (by decide), Fr_row F (c := 70) (by decide) (by decide), Fr_row F (c := 71) (by decide) (by decide), Fr_row F (c := 72) (by decide) (by decide), F.2 59 16 (by decide) (by decide)]
    exact ⟨rfl, rfl, rfl, rfl, rfl, rfl, rfl, rfl⟩
  apply L_X_line
  refine ⟨g1, ?_⟩
  apply L_X_takeTape
  refine ⟨g1, fun x1 ex h1 e1 => ?_⟩
  have r1 : h1.r = h.r ∧ h1.tag = h.tag := by rw [e1]; exact ⟨rfl, rfl⟩
  rw [j1, hn'] at ex
  subst ex
  rw [r1.2, g2, g3]
  refine ⟨g4, ?_⟩
  apply L_LineReader_readLine
  rw [r1.1, r1.2, g5]
  refine ⟨g4, g6, ?_⟩
  apply L_Syllables_empty
  refine ⟨by rw [r1.2]; exact g6, fun h2 e2 => ?_⟩
  have r2 : h2.r = h.r ∧ h2.tag = h.tag := by rw [e2]; exact r1
  rw [r2.2]
  refine ⟨g4, fun h3 e3 => ?_⟩
  have r3 : h3.tag = h.tag := by rw [e3]; exact r2.2
  rw [r3]
  refine ⟨g4, fun h4 e4 => ?_⟩
  have F4 : Fr [] lnXS h h4 := by rw [e4, e3, e2, e1]; exact Fr_slot (Fr_slot (Fr_slot (Fr_slot (Fr_refl _ _ _) _ (by decide)) _ (by decide)) _ (by decide)) _ (by decide)
  have F4' : Fr drL lnXS h h4 := Fr_mono F4 (fun c m => absurd m List.not_mem_nil) (fun c m => m)
  have v21 : h4.i 2 1 = 0 := by rw [e4, e3, e2, e1]; simp only [true_and, and_true, false_and, and_false, forall_eq, forall_eq', xi_wi, xr_wi, xt_wi, xl_wi, xn_wi, xs_wi, xi_wr, xr_wr, xt_wr, xl_wr, xn_wr, xs_wr, if_true, if_false, and_self, Int.reduceEq, Int.reduceLT, Int.reduceLE, Int.reduceNeg, Int.le_refl, Int.reduceMod]
  have v16 : h4.i 16 6 = 0 := by rw [e4, e3, e2, e1]; simp only [true_and, and_true, false_and, and_false, forall_eq, forall_eq', xi_wi, xr_wi, xt_wi, xl_wi, xn_wi, xs_wi, xi_wr, xr_wr, xt_wr, xl_wr, xn_wr, xs_wr, if_true, if_false, and_self, Int.reduceEq, Int.reduceLT, Int.reduceLE, Int.reduceNeg, Int.le_refl, Int.reduceMod]
  have v153 : h4.i 15 3 = 0 := by rw [e4, e3, e2, e1]; simp only [true_and, and_true, false_and, and_false, forall_eq, forall_eq', xi_wi, xr_wi, xt_wi, xl_wi, xn_wi, xs_wi, xi_wr, xr_wr, xt_wr, xl_wr, xn_wr, xs_wr, if_true, if_false, and_self, Int.reduceEq, Int.reduceLT, Int.reduceLE, Int.reduceNeg, Int.le_refl, Int.reduceMod]
  have v154 : h4.i 15 4 = -1 := by rw [e4, e3, e2, e1]; simp only [true_and, and_true, false_and, and_false, forall_eq, forall_eq', xi_wi, xr_wi, xt_wi, xl_wi, xn_wi, xs_wi, xi_wr, xr_wr, xt_wr, xl_wr, xn_wr, xs_wr, if_true, if_false, and_self, Int.reduceEq, Int.reduceLT, Int.reduceLE, Int.reduceNeg, Int.le_refl, Int.reduceMod]
  clear e1 e2 e3 e4 r1 r2 r3
  have fs4 := fr_same F4
  have L4 : LX h h4 [] := by
    refine ⟨SX_2 F4.1 SX_, book_fr n0 ht iB F4' (by decide), bk0 h4 F4', ⟨⟨v16, fun i hi => absurd hi (Nat.not_lt_zero _), fun i hi => ?_, fun k hk => absurd hk (Nat.not_lt_zero _)⟩, rfl⟩, ⟨Nat.zero_le _, Nat.zero_le _, fun d m => absurd m List.not_mem_nil⟩⟩
    have : i = 0 := Nat.le_zero.mp hi
    rw [this]
    show h4.i (h4.r 16 1) 0 = 0
    rw [fs4.1, g7, F4.2 18 0 (by decide) (by decide)]
    exact iD.1
  have z0 : (((tapL h).length : Nat) : Int) - (((tapL h).length : Nat) : Int) = 0 := by omega
  have key := fun (Q : Int → xH → Prop) => c_X_rl13 (d := 2035) (h0 := h) (Q := Q) (T := h.i 3) (n := (((tapL h).length : Nat) : Int)) hV iB (by omega) (tapL h) [] [] h4 (9, 0) (by rw [fs4.2.2.2.1]; exact n0) (by unfold I_tab at ht ⊢; rw [fs4.1]; exact ht) L4 (Fr_row F4 (by decide) (by decide)) v153 v154 (fun k hk => by rw [tapL_get hk, z0, Int.zero_add]) (fun k hk => absurd hk (Nat.not_lt_zero _)) (by rw [z0]; exact Int.le_refl _) (fun c m => absurd m List.not_mem_nil)
  rw [z0] at key
  refine key _ (fun e0 h5 F5 L5 l5 k5 p5 => ?_) (fun e0 h5 F5 k5 p5 z5 => ?_)
  · -- the line is right
    rw [if_neg (by decide)]
    obtain ⟨SX5, iB5, bk5, Dr5, ok5⟩ := L5
    have F5' : Fr drL lnXS h h5 := Fr_trans F4' (Fr_mono F5 (fun c m => m) (by decide))
    have fs5 := fr_same F5'
    have wv := lnF_wv hV iB (tapL h) 0 [] [] (fun d m => absurd m List.not_mem_nil) ⟨Nat.zero_le _, Nat.zero_le _, fun d m => absurd m List.not_mem_nil⟩ (fun c m => absurd m List.not_mem_nil) e0
    have sg : SgF (h5.i 6) (h5.i 5) (gD (txt (lnF h (tapL h) 0 [] []).2)) (flat (lnF h (tapL h) 0 [] []).2) := by
      rw [bk5.1, bk5.2.1]
      refine flatF_sg _ 0 ok5.2.2 (fun d m => ⟨wordP h d.1, ?_⟩)
      have := (wv d m).2.2
      rw [show d.2.2 = (wordV h d.1).2.2 by rw [← this]]
      rfl
    rw [fs5.2.1, fs5.1, g2]
    refine ⟨g1, g4, ?_⟩
    refine c_X_lineRead (d := 2040) SX5 (by rw [fs5.2.2.2.1]; exact n0) Dr5 ok5 l5 (by rw [bk5.2.1]; exact hV) sg (by rw [fs5.1, fs5.2.2.2.1]; exact t28) (by rw [fs5.1, fs5.2.2.2.1]; exact t40) (fun h6 M => ?_)
    generalize ew : (lnF h (tapL h) 0 [] []).2 = ws at *
    obtain ⟨m1, m2, m3, m4, m5, m6, m7, m8, m9, m10⟩ := M
    have z18 : h5.i 18 0 = 0 := by
      have := Dr5.1.2.2.1 0 (Nat.zero_le _)
      rw [show XV h5 16 2 ((0 : Nat) : Int) = h5.i (h5.r 16 1) 0 from rfl, fs5.1, g7] at this
      exact this
    rw [fs5.2.2.2.1] at m1 m2 m3 m4 m6 m7 m8 m9 m10
    rw [fs5.2.1, fs5.2.2.1] at m1
    rw [fs5.1] at m2 m3
    rw [fs5.2.2.2.2] at m5
    rw [fs5.2.2.2.1]
    have y21 : h5.i 2 1 = 0 := by rw [F5.2 2 1 (by decide) (by decide)]; exact v21
    clear sg L4 key iB5 F5 F4 F4' wv
    have p130 : ¬ h.nx = 0 := by omega
    have c130 : ∀ c : Int, c < 130 → c < h.nx := fun c hc => by omega
    refine ⟨by rw [(m1 2 (c130 2 (by decide))).1]; exact g1, fun h7 e7 => ?_⟩
    have d7 : h7.tag = h6.tag ∧ h7.len = h6.len ∧ h7.i = h6.i ∧ h7.nx = h6.nx ∧ h7.us = h6.us ∧ ∀ c k, h7.r c k = if c = 2 ∧ k = 13 then h.nx else h6.r c k := by rw [e7]; exact ⟨rfl, rfl, rfl, rfl, rfl, fun c k => by rw [xr_wr]⟩
    have SX6 : SX h6 := SX_rel (h := h) (fun c hc => m1 c (c130 c hc)) (fun c k hc => by rw [(m2 c (c130 c hc)).2]) SX_
    have SX7 : SX h7 := by rw [e7]; exact SX_wrL SX6
    have SR6 : SR h6 := SR_rel (h := h) (fun c hc => m1 c (c130 c hc)) (fun k => by rw [(m2 59 (c130 59 (by decide))).2]) S
    have SR7 : SR h7 := by rw [e7]; exact SR_wr (by decide) SR6
    clear e7
    obtain ⟨q1, q2, q3, q4, q5, q6⟩ := d7
    have r13 : h7.r 2 13 = h.nx := by rw [q6, if_pos ⟨rfl, rfl⟩]
    have k0 : ∀ c, c < h.nx → h7.tag c = h.tag c ∧ h7.len c = h.len c := fun c hc => by rw [q1, q2]; exact m1 c hc
    have ki : ∀ c, c < h.nx → h7.i c = h5.i c := fun c hc => by rw [q3]; exact (m2 c hc).1
    have kr : ∀ c k, c < h.nx → ¬ (c = 2 ∧ k = 13) → h7.r c k = h.r c k := fun c k hc hk => by rw [q6, if_neg hk, (m2 c hc).2]
    have F07 : FA drL lnXS [] [(2, 13)] h h7 := by
      refine ⟨by rw [q4, m4]; omega, k0, fun c k hc u v _ => ?_, fun c k hc _ v => kr c k hc (fun y => v (by rw [y.1, y.2]; exact List.mem_singleton.mpr rfl))⟩
      rw [ki c hc]
      exact F5'.2 c k u v
    have T7 : Tok h h7 := ⟨Or.inl (kr 28 6 (c130 28 (by decide)) (by decide)), Or.inl (kr 40 3 (c130 40 (by decide)) (by decide))⟩
    have N7 : I_new h7 := fun c k hc => by
      rw [q4, m4] at hc
      have a := m3 c hc
      have z := iN c k (by omega)
      have cg : ∀ x : Int, x < 130 → x ≠ c := fun x hx => by omega
      rw [q3, q6, if_neg (fun y => cg 2 (by decide) y.1.symm), a.1, a.2, F5'.2 c k (fun m => cg c ((by decide : ∀ x ∈ drL, x < 130) c m) rfl) (fun m => cg c ((by decide : ∀ q ∈ lnXS, q.1 < 130) _ m) rfl)]
      exact z
    have rX : ∀ c : Int, c < 130 → c ∉ drL → c ≠ 2 → c ≠ 16 → c ≠ 15 → c ≠ 34 → h7.i c = h.i c := fun c hc m a1 a2 a3 a4 => by
      rw [ki c (c130 c hc)]
      exact Fr_row F5' m (fun q mq e => by
        have := (by decide : ∀ q ∈ lnXS, q.1 = 2 ∨ q.1 = 16 ∨ q.1 = 15) q mq
        rw [e] at this
        rcases this with y | y | y
        · exact a1 y
        · exact a2 y
        · exact a3 y)
    have RL7 : RLang h7 (h.i 6) (h.i 5) := RLang_row (rX 61 (by decide) (by decide) (by decide) (by decide) (by decide) (by decide)) (rX 62 (by decide) (by decide) (by decide) (by decide) (by decide) (by decide)) (rX 63 (by decide) (by decide) (by decide) (by decide) (by decide) (by decide)) (rX 64 (by decide) (by decide) (by decide) (by decide) (by decide) (by decide)) (by rw [rX 59 (by decide) (by decide) (by decide) (by decide) (by decide) (by decide)]) RL0
    have bk7 : BkEq h h7 := by
      unfold BkEq
      rw [ki 6 (c130 6 (by decide)), ki 5 (c130 5 (by decide)), ki 68 (c130 68 (by decide)), ki 69 (c130 69 (by decide)), ki 70 (c130 70 (by decide)), ki 71 (c130 71 (by decide)), ki 72 (c130 72 (by decide)), ki 59 (c130 59 (by decide))]
      exact bk5
    have i06 : h7.i h.nx 6 = (((flat ws).length : Nat) : Int) := by rw [q3]; exact m9.1
    have e28 : h7.r 28 6 = h6.r 28 6 := by rw [q6, if_neg (by decide)]
    have e40 : h7.r 40 3 = h6.r 40 3 := by rw [q6, if_neg (by decide)]
    have er : h7.r h.nx = h6.r h.nx := by funext k; rw [q6, if_neg (fun y => by omega)]
    have sb7 : SylB h7 h.nx := by
      have z := m7
      unfold SylB aprt at z ⊢
      rw [q1, q2, q3, q4, e28, e40, er]; exact z
    have se7 : SylE h7 h.nx := by
      have z := m8
      unfold SylE aprt at z ⊢
      rw [q1, q4, e28, e40, er]; exact z
    have xv7 : XV h7 h.nx = XV h6 h.nx := by
      funext a b
      unfold XV
      rw [q2, q3, er]
    have us7 : h7.us ≤ h.us + 3000 := by omega
    have nx7 : h7.nx = h.nx + 8 := by rw [q4, m4]
    have z21 : h7.i 2 1 = 0 := by rw [ki 2 (c130 2 (by decide))]; exact y21
    have z153 : h7.i 15 3 = 0 := by rw [ki 15 (c130 15 (by decide))]; exact k5
    have z154 : h7.i 15 4 = -1 := by rw [ki 15 (c130 15 (by decide))]; exact p5
    have z180 : h7.i 18 0 = 0 := by rw [ki 18 (c130 18 (by decide))]; exact z18
    rw [r13, i06]
    refine ⟨by rw [(k0 2 (c130 2 (by decide))).1]; exact g1, by rw [q1]; exact m6, ⟨(k0 1 (c130 1 (by decide))).1, (k0 1 (c130 1 (by decide))).2, rX 1 (by decide) (by decide) (by decide) (by decide) (by decide) (by decide), (srt SR7).1⟩, ?_⟩
    refine c_R_line1 j hV iB SR7 bk7 RL7 (rX 60 (by decide) (by decide) (by decide) (by decide) (by decide) (by decide)) (by rw [rX 59 (by decide) (by decide) (by decide) (by decide) (by decide) (by decide)]) (fun _ _ hf G t0 kk pp R0 rv e76 => ?_) (fun ne => absurd e0 ne)
    rw [ew] at R0 ⊢
    have fsG := fr_same G
    have F : FA (drL ++ lnLr) lnXR [] [(2, 13)] h hf := FA_fq (FA_mono F07 (fun c m => List.mem_append_left _ m) (by decide) (fun c m => m) (fun c m => m)) G (fun x m => Or.inl (List.mem_append_right _ m)) (by decide)
    have hT := Tok_fq T7 G
    have hX := SX_2 G.1 SX7
    have hR := SR_2 G.1 SR7
    have r28 : hf.r 28 6 = h.r 28 6 := by rw [fsG.1]; exact kr 28 6 (c130 28 (by decide)) (by decide)
    have r40 : hf.r 40 3 = h.r 40 3 := by rw [fsG.1]; exact kr 40 3 (c130 40 (by decide)) (by decide)
    have hTab : I_tab hf := by unfold I_tab at ht ⊢; rw [r28]; exact ht
    have hNew : I_new hf := I_new_f N7 G (by decide) (by rw [nx7]; omega)
    have hRoom : I_room (n + 1) hf := room_g I F (by rw [fsG.2.2.2.1, nx7]; omega) (by rw [fsG.2.2.2.2]; exact us7) r28 r40
    obtain ⟨sbf, sef, xvf⟩ := LineX_fa (FA_of [] [] G) (by decide) (Tok_fr G) sb7 se7
    have rvk : ∀ k : Int, k ≠ 0 → k ≠ 14 → RV hf k = RV h k := fun k a b => (rv k b a).trans (RV_fa F07 n0 ht (by decide) k)
    have row76 : ∀ k : Int, k ≠ 0 → hf.i 76 k = h.i 76 k := fun k hk => by
      rw [e76, if_neg hk, rX 76 (by decide) (by decide) (by decide) (by decide) (by decide) (by decide)]
    refine ⟨rfl, ⟨(F.2.1 1 (c130 1 (by decide))).1, (F.2.1 1 (c130 1 (by decide))).2, FA_row F (c130 1 (by decide)) (by decide) (by decide) (by unfold I_tab at ht; omega), (srt hR).1⟩, INV_fa I F (by decide) hT hX hR hTab hNew hRoom (Or.inr ?_) (Or.inl (by decide)) (Or.inl (by decide)) (Or.inl (by decide)) (Or.inl (by decide)) (Or.inr ?_) (Or.inl (by decide)) (Or.inl (by decide)) (Or.inl (by decide)) (Or.inl (by decide)) (Or.inr ?_) (Or.inr ?_) (Or.inl (by decide)) (Or.inl (by decide)) (Or.inr ?_)⟩
    · have t2 : hf.i 2 1 = 0 := by rw [G.2 2 1 (by decide) (by decide)]; exact z21
      refine ⟨by rw [t2, t0], by rw [t0]; decide, by rw [t0]; decide, fun k k0 k1 => ?_⟩
      rw [t0] at k1; omega
    · exact ⟨by rw [kk, G.2 15 3 (by decide) (by decide)]; exact z153, by rw [pp, G.2 15 4 (by decide) (by decide)]; exact z154⟩
    · right
      have f13 : hf.r 2 13 = h.nx := by rw [fsG.1]; exact r13
      rw [f13]
      refine ⟨p130, by rw [e76, if_pos rfl], sbf, sef, ws, ok5, l5, by rw [xvf, xv7]; exact m9, R0, by rw [xvf, xv7]; exact m10⟩
    · have q48 : hf.i 48 4 = h.i 48 4 := by
        rw [G.2 48 4 (by decide) (by decide), rX 48 (by decide) (by decide) (by decide) (by decide) (by decide) (by decide)]
      refine ⟨by rw [q48, iPo.1]; exact sumN_congr 12 (fun k k0 _ => (row76 (k + 1) (by omega)).symm), fun k k0 k1 => ?_⟩
      have e49 : hf.r 49 k = h.r 49 k := by rw [fsG.1]; exact kr 49 k (c130 49 (by decide)) (fun y => absurd y.1 (by decide))
      rw [e49, row76 (k + 1) (by omega)]
      exact (iPo.2 k k0 k1).imp id (fun y => ⟨y.1, y.2.1, LineRel_fa F (by decide) hT (rvk _ (by omega) (by omega)) y.2.2⟩)
    · exact ⟨by rw [G.2 18 0 (by decide) (by decide)]; exact z180, by rw [G.2 11 0 (by decide) (by decide), rX 11 (by decide) (by decide) (by decide) (by decide) (by decide) (by decide)]; exact iD.2.1, by rw [G.2 42 0 (by decide) (by decide), rX 42 (by decide) (by decide) (by decide) (by decide) (by decide) (by decide)]; exact iD.2.2⟩
  · -- the line is wrong
    rw [if_pos rfl]
    have F5' : Fr drL lnXS h h5 := Fr_trans F4' (Fr_mono F5 (fun c m => m) (by decide))
    have fs5 := fr_same F5'
    have y21 : h5.i 2 1 = 0 := by rw [F5.2 2 1 (by decide) (by decide)]; exact v21
    have S5 := SR_2 F5'.1 S
    refine ⟨SCk_of fs5.2.1 fs5.2.2.1 (Fr_row F5' (by decide) (by decide)) S, ?_⟩
    refine c_R_line1 j hV iB S5 (bk0 h5 F5') (RLang_row (Fr_row F5' (by decide) (by decide)) (Fr_row F5' (by decide) (by decide)) (Fr_row F5' (by decide) (by decide)) (Fr_row F5' (by decide) (by decide)) (F5'.2 59 6 (by decide) (by decide)) RL0) (Fr_row F5' (by decide) (by decide)) (F5'.2 59 1 (by decide) (by decide)) (fun e _ => absurd e e0) (fun _ hf G t0 kk pp rv => ?_)
    have F : Fr (drL ++ lrL) lnXR h hf := Fr_trans (Fr_mono F5' (fun c m => List.mem_append_left _ m) (by decide)) (Fr_mono G (fun c m => List.mem_append_right _ m) (by decide))
    have fs := fr_same F
    have hT := Tok_fr F
    have rvk : ∀ k : Int, k ≠ 14 → RV hf k = RV h k := fun k b => (rv k b).trans (RV_fa (FA_of [] [] F5') n0 ht (by decide) k)
    have e76 : hf.i 76 = h.i 76 := Fr_row F (by decide) (by decide)
    refine ⟨rfl, SCk_of fs.2.1 fs.2.2.1 (Fr_row F (by decide) (by decide)) S, INV_fr I F (by decide) (Or.inr ?_) (Or.inl (by decide)) (Or.inl (by decide)) (Or.inl (by decide)) (Or.inl (by decide)) (Or.inr ?_) (Or.inl (by decide)) (Or.inl (by decide)) (Or.inl (by decide)) (Or.inl (by decide)) (Or.inr ?_) (Or.inr ?_) (Or.inl (by decide)) (Or.inl (by decide)) (Or.inr ?_)⟩
    · have t2 : hf.i 2 1 = 0 := by rw [G.2 2 1 (by decide) (by decide)]; exact y21
      refine ⟨by rw [t2, t0], by rw [t0]; decide, by rw [t0]; decide, fun k k0 k1 => ?_⟩
      rw [t0] at k1; omega
    · exact ⟨by rw [kk, G.2 15 3 (by decide) (by decide)]; exact k5, by rw [pp, G.2 15 4 (by decide) (by decide)]; exact p5⟩
    · have i11 := I.2.2.2.2.2.2.2.2.2.2.2.2.2.2.2.2.1
      unfold I_line at i11 ⊢
      rw [fs.1, e76]
      exact i11.imp id (fun y => ⟨y.1, y.2.1, LineRel_fa (FA_of [] [] F) (by decide) hT (rvk _ (by decide)) y.2.2⟩)
    · have q48 : hf.i 48 4 = h.i 48 4 := F.2 48 4 (by decide) (by decide)
      refine ⟨by rw [q48, e76]; exact iPo.1, fun k k0 k1 => ?_⟩
      rw [fs.1, e76]
      exact (iPo.2 k k0 k1).imp id (fun y => ⟨y.1, y.2.1, LineRel_fa (FA_of [] [] F) (by decide) hT (rvk _ (by omega)) y.2.2⟩)
    · exact ⟨by rw [G.2 18 0 (by decide) (by decide)]; exact z5, by rw [F.2 11 0 (by decide) (by decide)]; exact iD.2.1, by rw [F.2 42 0 (by decide) (by decide)]; exact iD.2.2⟩
