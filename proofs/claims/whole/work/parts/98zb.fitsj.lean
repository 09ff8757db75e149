/-! fits: the reference's loop; both sides together -/
theorem envR_form {h0 h : xH} {l f : Int} (e : ∀ c : Int, 89 ≤ c → c ≤ 97 → h.i c = h0.i c) : ∀ j, 5 ≤ j → envR h l f j = envR h0 0 f j := by
  intro j hj
  rcases (by omega : j = 5 ∨ j = 6 ∨ j = 7 ∨ j = 8 ∨ j = 9 ∨ j = 10 ∨ j = 11 ∨ j = 12 ∨ 13 ≤ j) with q | q | q | q | q | q | q | q | q
  · subst q; funext k; show h.i 95 f = h0.i 95 f; rw [e 95 (by decide) (by decide)]
  · subst q; funext k; show h.i 94 (8 * f + k) = h0.i 94 (8 * f + k); rw [e 94 (by decide) (by decide)]
  · subst q; funext k; show h.i 96 f = h0.i 96 f; rw [e 96 (by decide) (by decide)]
  · subst q; funext k; show h.i 89 k = h0.i 89 k; rw [e 89 (by decide) (by decide)]
  · subst q; funext k; show h.i 91 k = h0.i 91 k; rw [e 91 (by decide) (by decide)]
  · subst q; funext k; show h.i 92 k = h0.i 92 k; rw [e 92 (by decide) (by decide)]
  · subst q; funext k; show h.i 93 k = h0.i 93 k; rw [e 93 (by decide) (by decide)]
  · subst q; funext k; show h.i 90 k = h0.i 90 k; rw [e 90 (by decide) (by decide)]
  · obtain ⟨m, rfl⟩ : ∃ m, j = m + 13 := ⟨j - 13, by omega⟩
    funext k; show h.i 97 k = h0.i 97 k; rw [e 97 (by decide) (by decide)]
theorem env_R13 {h0 h : xH} {ws : List Wd} {f : Int} (S : SR h) (ok : LnOk ws) (w1 : 1 ≤ ws.length) (R : RLn (RV h 13) ws) (f0 : 0 ≤ f) (f1 : f ≤ 7) (e : ∀ c : Int, 89 ≤ c → c ≤ 97 → h.i c = h0.i c) (K : EOk (envR h0 0 f)) : RPre h 13 f (envR h 13 f) ∧ AgW h0 ws f (envR h 13 f) := by
  have e0 : envR h 13 f 0 0 = ((flat ws).length : Nat) := R.1
  have syl : ∀ i : Nat, i < (flat ws).length → (envR h 13 f 1 i = ((flat ws).getD i fs0).m ∧ envR h 13 f 2 i = ((flat ws).getD i fs0).w ∧ envR h 13 f 3 i = cls ((flat ws).getD i fs0).s ∧ envR h 13 f 4 i = opn ((flat ws).getD i fs0).s) ∧ 0 ≤ h.i 88 (40 * 13 + i) ∧ h.i 88 (40 * 13 + i) < 65536 ∧ 1 ≤ h.i 87 (40 * 13 + i) ∧ h.i 87 (40 * 13 + i) ≤ 16 := by
    intro i hi
    have z := rln_syl ok R hi
    obtain ⟨j, -, -, -, -, -, so, -⟩ := flat_get ok hi
    obtain ⟨s1, s2, s3, s4, s5, s6⟩ := so
    simp only at s1 s2 s3 s4 s5 s6
    have vb := vb_bd _ s6
    have p16 : (2 : Int) ^ ((flat ws).getD i fs0).s.length ≤ 2 ^ 16 := by
      have : (2 : Nat) ^ ((flat ws).getD i fs0).s.length ≤ 2 ^ 16 := Nat.pow_le_pow_right (by decide) s5
      have q : ((2 ^ ((flat ws).getD i fs0).s.length : Nat) : Int) ≤ ((2 ^ 16 : Nat) : Int) := Int.ofNat_le.mpr this
      rw [Int.natCast_pow, Int.natCast_pow] at q
      exact q
    have e65 : (2 : Int) ^ 16 = 65536 := by decide
    refine ⟨⟨z.2.2.2.1, z.1, ?_, ?_⟩, by rw [z.2.2.2.2.2.1]; exact vb.1, by rw [z.2.2.2.2.2.1]; omega, by rw [z.2.2.2.2.1]; omega, by rw [z.2.2.2.2.1]; omega⟩
    · show h.i 88 (40 * 13 + i) / 2 ^ (h.i 87 (40 * 13 + i) - 1).toNat % 2 = _
      rw [z.2.2.2.2.2.1, z.2.2.2.2.1]
      revert s4 s6
      generalize ((flat ws).getD i fs0).s = s
      intro s4 s6
      cases s with
      | nil => exact absurd s4 (by decide)
      | cons p r =>
        rw [show (((p :: r).length : Nat) : Int) - 1 = ((r.length : Nat) : Int) by rw [List.length_cons]; push_cast; omega, Int.toNat_natCast]
        exact vb_hi r p s6
    · show h.i 88 (40 * 13 + i) % 2 = _
      rw [z.2.2.2.2.2.1]
      exact vb_lo s6
  have A : AgW h0 ws f (envR h 13 f) := ⟨e0, fun i hi => (syl i hi).1, envR_form e⟩
  refine ⟨⟨S, by decide, by decide, f0, by omega, rfl, EOk_W ok w1 A K, fun i i0 i1 => ?_⟩, A⟩
  rw [e0] at i1
  obtain ⟨j, rfl⟩ : ∃ j : Nat, i = (j : Int) := ⟨i.toNat, by omega⟩
  exact (syl j (by omega)).2
def RFd (h0 h : xH) (F : List Int) : Prop := ∀ a : Nat, a < F.length → h.i 126 (a : Int) = h0.i 69 (bkW h0 (F.getD a 0)) ∧ h.i 127 (a : Int) = h0.i 70 (bkW h0 (F.getD a 0)) ∧ ∀ k, 0 ≤ k → k < h0.i 69 (bkW h0 (F.getD a 0)) → h.i 125 (16 * (a : Int) + k) = h0.i 68 (16 * bkW h0 (F.getD a 0) + k)
section RF
variable {d : Nat} {Q : Int → xH → Prop}
theorem c_R_fits94 {l1 l2 l3 i w c s : Int} {hb : xH} (w0 : 0 ≤ w) (w1 : w < 40) (c0 : 0 ≤ c) (c1 : c < 40) (i0 : 0 ≤ i) (i1 : i < 40) (es : hb.i 69 w = s) (s1 : s ≤ 16) (lt : ∀ k, 0 ≤ k → k < s → -128 ≤ hb.i 68 (16 * w + k) ∧ hb.i 68 (16 * w + k) < 128) (ec : hb.i 59 84 = c) (H : ∀ h' u6 u7, Fr [125, 126, 127] [(59, 84)] hb h' → (∀ j, 0 ≤ j → j < s → h'.i 125 (16 * c + j) = hb.i 68 (16 * w + j)) → (∀ j, (j < 16 * c ∨ 16 * c + 16 ≤ j) → h'.i 125 j = hb.i 125 j) → (∀ j, h'.i 126 j = if j = c then s else hb.i 126 j) → (∀ j, h'.i 127 j = if j = c then hb.i 70 w else hb.i 127 j) → h'.i 59 84 = c + 1 → xT d M_R_fits 65 [(1, 59), (0, l1), (0, l2), (0, l3), (0, i + 1), (0, w), u6, u7] [] h' (xqi Q)) : ∀ (m : Nat) (k : Int) (h : xH) (u6 : xV), 0 ≤ k → k ≤ s → s - k ≤ m → SR h → Fr [125] [] hb h → (∀ j, 0 ≤ j → j < k → h.i 125 (16 * c + j) = hb.i 68 (16 * w + j)) → (∀ j, (j < 16 * c ∨ 16 * c + 16 ≤ j) → h.i 125 j = hb.i 125 j) → xT d M_R_fits 94 [(1, 59), (0, l1), (0, l2), (0, l3), (0, i), (0, w), u6, (0, k)] [] h (xqi Q) := by
  have fin : ∀ (h : xH) (u6 : xV) (k : Int), k = s → SR h → Fr [125] [] hb h → (∀ j, 0 ≤ j → j < k → h.i 125 (16 * c + j) = hb.i 68 (16 * w + j)) → (∀ j, (j < 16 * c ∨ 16 * c + 16 ≤ j) → h.i 125 j = hb.i 125 j) → xT d M_R_fits 94 [(1, 59), (0, l1), (0, l2), (0, l3), (0, i), (0, w), u6, (0, k)] [] h (xqi Q) := by
    intro h u6 k ek S F lo ot
    subst ek
    have g : h.tag 59 = 12 ∧ h.r 59 12 = 69 ∧ h.tag 69 = 20 ∧ h.len 69 = 40 ∧ h.r 59 82 = 126 ∧ h.tag 126 = 20 ∧ h.len 126 = 40 ∧ h.r 59 13 = 70 ∧ h.tag 70 = 20 ∧ h.len 70 = 40 ∧ h.r 59 83 = 127 ∧ h.tag 127 = 20 ∧ h.len 127 = 40 := by simp only [srt S, srl S, srf S, true_and, and_true, false_and, and_false, forall_eq, forall_eq', xi_wi, xr_wi, xt_wi, xl_wi, xn_wi, xs_wi, xi_wr, xr_wr, xt_wr, xl_wr, xn_wr, xs_wr, if_true, if_false, and_self, Int.reduceEq, Int.reduceLT, Int.reduceLE, Int.reduceNeg, Int.le_refl, Int.reduceMod]
    obtain ⟨g1, g2, g3, g4, g5, g6, g7, g8, g9, g10, g11, g12, g13⟩ := g
    have e84 : h.i 59 84 = c := by rw [F.2 59 84 (by decide) (by decide)]; exact ec
    have e69 : h.i 69 w = k := by rw [Fr_row F (c := 69) (by decide) (by decide)]; exact es
    apply L_R_fits_94
    rw [g2, g4, g5, g7, e84, e69]
    refine ⟨g1, ⟨g3, w0, w1⟩, ?_⟩
    rw [if_neg (by omega)]
    refine ⟨⟨g3, w0, w1⟩, ⟨g6, c0, c1⟩, fun h2 e2 => ?_⟩
    have q2 : h2.tag = h.tag ∧ h2.r = h.r ∧ h2.len = h.len := by rw [e2]; exact ⟨rfl, rfl, rfl⟩
    have e842 : h2.i 59 84 = c := by rw [e2, xi_wi, if_neg (fun z => absurd z.1 (by decide))]; exact e84
    rw [q2.1, q2.2.1, q2.2.2, g8, g10, g11, g13, e842]
    refine ⟨g1, ⟨g9, w0, w1⟩, ⟨g12, c0, c1⟩, fun h3 e3 => ?_⟩
    have q3 : h3.tag = h.tag := by rw [e3]; exact q2.1
    have e843 : h3.i 59 84 = c := by rw [e3, xi_wi, if_neg (fun z => absurd z.1 (by decide))]; exact e842
    rw [q3, e843, xw_id (a := c + 1) (by omega) (by omega)]
    refine ⟨g1, fun h4 e4 x2 ex => ?_⟩
    rw [xw_id (by omega) (by omega)] at ex
    rw [ex]
    have F4 : Fr [125, 126, 127] [(59, 84)] hb h4 := by
      rw [e4, e3, e2]
      exact Fr_slot (Fr_cell (Fr_cell (Fr_mono F (by decide) (fun c m => absurd m List.not_mem_nil)) _ _ (by decide)) _ _ (by decide)) _ (by decide)
    have e125 : ∀ j, h4.i 125 j = h.i 125 j := fun j => by
      rw [e4, xi_wi, if_neg (fun z => absurd z.1 (by decide)), e3, xi_wi, if_neg (fun z => absurd z.1 (by decide)), e2, xi_wi, if_neg (fun z => absurd z.1 (by decide))]
    refine H h4 _ _ F4 (fun j j0 j1 => by rw [e125]; exact lo j j0 j1) (fun j hj => by rw [e125]; exact ot j hj) (fun j => ?_) (fun j => ?_) (by rw [e4, xi_wi, if_pos ⟨rfl, rfl⟩])
    · rw [e4, xi_wi, if_neg (fun z => absurd z.1 (by decide)), e3, xi_wi, if_neg (fun z => absurd z.1 (by decide)), e2, xi_wi]
      by_cases z : j = c
      · rw [if_pos ⟨rfl, z⟩, if_pos z]
      · rw [if_neg (fun y => z y.2), if_neg z, Fr_row F (c := 126) (by decide) (by decide)]
    · rw [e4, xi_wi, if_neg (fun z => absurd z.1 (by decide)), e3, xi_wi]
      by_cases z : j = c
      · rw [if_pos ⟨rfl, z⟩, if_pos z, e2, xi_wi, if_neg (fun z => absurd z.1 (by decide)), Fr_row F (c := 70) (by decide) (by decide)]
      · rw [if_neg (fun y => z y.2), if_neg z, e2, xi_wi, if_neg (fun z => absurd z.1 (by decide)), Fr_row F (c := 127) (by decide) (by decide)]
  intro m
  induction m with
  | zero =>
    intro k h u6 k0 k1 hm S F lo ot
    exact fin h u6 k (by omega) S F lo ot
  | succ m ih =>
    intro k h u6 k0 k1 hm S F lo ot
    by_cases z : k = s
    · exact fin h u6 k z S F lo ot
    · have g : h.tag 59 = 12 ∧ h.r 59 12 = 69 ∧ h.tag 69 = 20 ∧ h.len 69 = 40 ∧ h.r 59 11 = 68 ∧ h.tag 68 = 21 ∧ h.len 68 = 640 ∧ h.r 59 81 = 125 ∧ h.tag 125 = 21 ∧ h.len 125 = 640 := by simp only [srt S, srl S, srf S, true_and, and_true, false_and, and_false, forall_eq, forall_eq', xi_wi, xr_wi, xt_wi, xl_wi, xn_wi, xs_wi, xi_wr, xr_wr, xt_wr, xl_wr, xn_wr, xs_wr, if_true, if_false, and_self, Int.reduceEq, Int.reduceLT, Int.reduceLE, Int.reduceNeg, Int.le_refl, Int.reduceMod]
      obtain ⟨g1, g2, g3, g4, g5, g6, g7, g8, g9, g10⟩ := g
      have e84 : h.i 59 84 = c := by rw [F.2 59 84 (by decide) (by decide)]; exact ec
      have e69 : h.i 69 w = s := by rw [Fr_row F (c := 69) (by decide) (by decide)]; exact es
      have e68 : h.i 68 (16 * w + k) = hb.i 68 (16 * w + k) := by rw [Fr_row F (c := 68) (by decide) (by decide)]
      have l := lt k k0 (by omega)
      apply L_R_fits_94
      rw [g2, g4, g5, g7, g8, g10, e84, e69]
      refine ⟨g1, ⟨g3, w0, w1⟩, ?_⟩
      rw [if_pos (by omega), xw_id (a := 16 * w) (by omega) (by omega), xw_id (a := 16 * w + k) (by omega) (by omega), xw_id (a := 16 * c) (by omega) (by omega), xw_id (a := 16 * c + k) (by omega) (by omega), e68, show xw8 (hb.i 68 (16 * w + k)) = hb.i 68 (16 * w + k) by unfold xw8; omega]
      refine ⟨⟨g6, by omega, by omega⟩, ⟨g9, by omega, by omega⟩, fun h1 e1 x1 ex => ?_⟩
      rw [xw_id (by omega) (by omega)] at ex
      rw [ex]
      have F1 : Fr [125] [] hb h1 := by rw [e1]; exact Fr_cell F _ _ (by decide)
      refine ih (k + 1) h1 _ (by omega) (by omega) (by push_cast at hm; omega) (by rw [e1]; exact SR_2 (h := h) rfl S) F1 (fun j j0 j1 => ?_) (fun j hj => ?_)
      · rw [e1, xi_wi]
        by_cases y : j = k
        · rw [if_pos ⟨rfl, by omega⟩, y]
        · rw [if_neg (fun q => by omega)]; exact lo j j0 (by omega)
      · rw [e1, xi_wi, if_neg (fun q => by omega)]; exact ot j hj
def rzL : List Int := tpL ++ (scanL ++ [125, 126, 127])
def rzS : List (Int × Int) := (59, 84) :: (asS ++ scanS)
set_option maxHeartbeats 1000000 in
theorem c_R_fits65 {h0 hY : xH} {ws : List Wd} {W : Nat} {f pr : Int} (iB : I_book h0) (hV : bits26 (h0.i 5)) (f0 : 0 ≤ f) (f1 : f ≤ 7) (K : EOk (envR h0 0 f)) (ok : LnOk ws) (hW : W < ws.length) (n130 : 130 ≤ hY.nx) (htY : I_tab hY) (RLY : RLang hY (h0.i 6) (h0.i 5)) (R0Y : RLn (RV hY 0) ws) (eY : ∀ c : Int, 68 ≤ c → c ≤ 72 → hY.i c = h0.i c) (eF : ∀ c : Int, 89 ≤ c → c ≤ 97 → hY.i c = h0.i c) (e16 : hY.i 59 16 = h0.i 59 16) (e128 : ∀ i : Nat, (i : Int) < h0.i 59 16 → hY.i 128 (i : Int) = bkW h0 (i : Int)) (pf : ∀ b : Nat, (b : Int) < h0.i 59 16 → (flat (rpW h0 ws W (bkW h0 (b : Int)))).length ≤ 40 → ∀ E, AgW h0 (rpW h0 ws W (bkW h0 (b : Int))) f E → chp E = chp (envW h0 (rpW h0 ws W (bkW h0 (b : Int))) f)) (H : ∀ h', Fr rzL rzS hY h' → SR h' → (∀ k, k ≠ 13 → RV h' k = RV hY k) → h'.i 59 84 = (((fndL h0 ws W f pr (h0.i 59 16).toNat).length : Nat) : Int) → RFd h0 h' (fndL h0 ws W f pr (h0.i 59 16).toNat) → Q (((fndL h0 ws W f pr (h0.i 59 16).toNat).length : Nat) : Int) h') : ∀ (m i : Nat) (h : xH) (u5 u6 u7 : xV), ((i + m : Nat) : Int) = h0.i 59 16 → Fr rzL rzS hY h → SR h → (∀ k, k ≠ 13 → RV h k = RV hY k) → h.i 59 84 = (((fndL h0 ws W f pr i).length : Nat) : Int) → RFd h0 h (fndL h0 ws W f pr i) → xT (d + 61) M_R_fits 65 [(1, 59), (0, f), (0, (W : Int)), (0, pr), (0, (i : Int)), u5, u6, u7] [] h (xqi Q) := by
  have b40 := iB.2.2.1
  intro m
  induction m with
  | zero =>
    intro i h u5 u6 u7 hi F S rv e84 Rf
    have ei : (h0.i 59 16).toNat = i := by omega
    rw [ei] at H
    apply L_R_fits_65
    refine ⟨(srt S).1, ?_⟩
    rw [F.2 59 16 (by decide) (by decide), e16, if_neg (by omega), e84]
    exact H h F S rv e84 Rf
  | succ m ih =>
    intro i h u5 u6 u7 hi F S rv e84 Rf
    have hin : (i : Int) < h0.i 59 16 := by omega
    have g : h.tag 59 = 12 ∧ h.r 59 85 = 128 ∧ h.tag 128 = 20 ∧ h.len 128 = 40 := by simp only [srt S, srl S, srf S, true_and, and_true, false_and, and_false, forall_eq, forall_eq', xi_wi, xr_wi, xt_wi, xl_wi, xn_wi, xs_wi, xi_wr, xr_wr, xt_wr, xl_wr, xn_wr, xs_wr, if_true, if_false, and_self, Int.reduceEq, Int.reduceLT, Int.reduceLE, Int.reduceNeg, Int.le_refl, Int.reduceMod]
    have Bw := bkW_s iB (j := (i : Int)) (by omega) hin
    obtain ⟨E, lc, d1, d16, l1, l16, s1, s2⟩ := bkD_ok Bw.2.2
    have fl := (fndL_len (h := h0) (ws := ws) (W := W) (f := f) (pr := pr) i).1
    have row : ∀ c : Int, 68 ≤ c → c ≤ 72 → h.i c = h0.i c := fun c c0 c1 => by
      rw [← eY c c0 c1]
      exact Fr_row F (fun m => by have := (by decide : ∀ x ∈ rzL, x < 68 ∨ 72 < x) c m; omega) (fun q m => by have := (by decide : ∀ q ∈ rzS, q.1 = 59) q m; omega)
    have BR : BkRow h (bkW h0 (i : Int)) (bkD h0 (bkW h0 (i : Int))) (bkL h0 (bkW h0 (i : Int))) := by
      unfold BkRow
      rw [row 69 (by decide) (by decide), row 70 (by decide) (by decide), row 68 (by decide) (by decide), row 71 (by decide) (by decide), row 72 (by decide) (by decide)]
      refine ⟨s1, s2, fun j hj => (bkD_get hj).symm, fun j hj => ?_⟩
      rw [bkL_get hj]; exact ⟨rfl, rfl⟩
    have nx : ∀ x : Int, x = xw ((i : Int) + 1) → x = ((i + 1 : Nat) : Int) := fun x e => by rw [e, xw_id (by omega) (by omega)]; push_cast; rfl
    have fS : fndL h0 ws W f pr (i + 1) = fndL h0 ws W f pr i ++ (if yesW h0 ws W f pr (bkW h0 (i : Int)) = true then [(i : Int)] else []) := rfl
    have rfx : ∀ h1, Fr (tpL ++ scanL) (asS ++ scanS) h h1 → ∀ L, RFd h0 h L → RFd h0 h1 L := fun h1 F1 L R a ha => by
      rw [Fr_row F1 (c := 126) (by decide) (by decide), Fr_row F1 (c := 127) (by decide) (by decide), Fr_row F1 (c := 125) (by decide) (by decide)]
      exact R a ha
    have skip : yesW h0 ws W f pr (bkW h0 (i : Int)) = false → ∀ (h1 : xH) (u5 u6 u7 : xV), Fr (tpL ++ scanL) (asS ++ scanS) h h1 → SR h1 → (∀ k, k ≠ 13 → RV h1 k = RV h k) → ∀ x : Int, x = xw ((i : Int) + 1) → xT (d + 61) M_R_fits 65 [(1, 59), (0, f), (0, (W : Int)), (0, pr), (0, x), u5, u6, u7] [] h1 (xqi Q) := fun no h1 u5 u6 u7 F1 S1 rv1 x ex => by
      rw [nx x ex]
      have eN : fndL h0 ws W f pr (i + 1) = fndL h0 ws W f pr i := by rw [fS, no, if_neg (by decide), List.append_nil]
      refine ih (i + 1) h1 u5 u6 u7 (by push_cast at hi ⊢; omega) (Fr_trans F (Fr_mono F1 (by decide) (by decide))) S1 (fun k hk => (rv1 k hk).trans (rv k hk)) ?_ ?_
      · rw [eN, F1.2 59 84 (by decide) (by decide)]; exact e84
      · rw [eN]; exact rfx h1 F1 _ Rf
    apply L_R_fits_65
    rw [g.2.1, g.2.2.2, F.2 59 16 (by decide) (by decide), e16]
    refine ⟨g.1, ?_⟩
    rw [if_pos hin]
    refine ⟨⟨g.2.2.1, by omega, by omega⟩, fun x1 ex1 => ?_⟩
    rw [Fr_row F (c := 128) (by decide) (by decide), e128 i hin] at ex1
    subst ex1
    have RLh : RLang h (h0.i 6) (h0.i 5) := RLang_row (Fr_row F (by decide) (by decide)) (Fr_row F (by decide) (by decide)) (Fr_row F (by decide) (by decide)) (Fr_row F (by decide) (by decide)) (F.2 59 6 (by decide) (by decide)) RLY
    have R0h : RLn (RV h 0) ws := by rw [rv 0 (by decide)]; exact R0Y
    refine c_R_takesPlace (d := d + 56) S RLh hV lc d16 l16 E.2.2.2.2.2.2.2.2.2 Bw.1 (by omega) ok hW BR R0h (fun le => (rpW_ok (W := W) Bw.2.2 hV ok le).1) (fun le h1 F1 R1 rv1 => ?_) (fun gt h1 F1 rv1 => ?_)
    · have le : (flat (rpW h0 ws W (bkW h0 (i : Int)))).length ≤ 40 := le
      have R1 : RLn (RV h1 13) (rpW h0 ws W (bkW h0 (i : Int))) := R1
      have rp := rpW_ok (W := W) Bw.2.2 hV ok le
      have S1 := SR_2 F1.1 S
      have eF1 : ∀ c : Int, 89 ≤ c → c ≤ 97 → h1.i c = h0.i c := fun c c0 c1 => by
        rw [← eF c c0 c1, Fr_row F1 (fun m => by have := (by decide : ∀ x ∈ tpL, x < 89) c m; omega) (fun q m => by have := (by decide : ∀ q ∈ asS, q.1 = 59) q m; omega)]
        exact Fr_row F (fun m => by have := (by decide : ∀ x ∈ rzL, x < 89 ∨ 97 < x) c m; omega) (fun q m => by have := (by decide : ∀ q ∈ rzS, q.1 = 59) q m; omega)
      have P := env_R13 S1 rp.1 (by rw [rp.2]; omega) R1 f0 f1 eF1 K
      rw [if_neg (by decide)]
      refine ⟨(srt S1).1, ?_⟩
      refine c_R_cheapest (d := d) P.1 (fun h2 F2 RE2 _ _ => ?_)
      have S2 := RE2.1
      have F12 : Fr (tpL ++ scanL) (asS ++ scanS) h h2 := Fr_trans (Fr_mono F1 (fun c m => List.mem_append_left _ m) (fun c m => List.mem_append_left _ m)) (Fr_mono F2 (fun c m => List.mem_append_right _ m) (fun c m => List.mem_append_right _ m))
      have fs1 := fr_same (Fr_trans F (Fr_mono F1 (by decide) (by decide)) : Fr rzL rzS hY h1)
      have rv2 : ∀ k, k ≠ 13 → RV h2 k = RV h k := fun k hk => (RV_fa (FA_of [] [] F2) (by rw [fs1.2.2.2.1]; exact n130) (by unfold I_tab at htY ⊢; rw [fs1.1]; exact htY) (by decide) k).trans (rv1 k hk)
      rw [pf i hin le _ P.2]
      by_cases c1 : chp (envW h0 (rpW h0 ws W (bkW h0 (i : Int))) f) = -1
      · rw [if_pos c1]
        intro x3 e3
        exact skip (by unfold yesW; rw [decide_eq_false (show ¬ (chp (envW h0 (rpW h0 ws W (bkW h0 (i : Int))) f) ≠ -1) from fun z => z c1), Bool.false_and, Bool.and_false]) h2 _ _ _ F12 S2 rv2 x3 e3
      · rw [if_neg c1]
        by_cases c2 : pr < chp (envW h0 (rpW h0 ws W (bkW h0 (i : Int))) f)
        · rw [if_pos c2]
          intro x3 e3
          exact skip (by unfold yesW; rw [decide_eq_false (show ¬ (chp (envW h0 (rpW h0 ws W (bkW h0 (i : Int))) f) ≤ pr) by omega), Bool.and_false, Bool.and_false]) h2 _ _ _ F12 S2 rv2 x3 e3
        · rw [if_neg c2]
          have yes : yesW h0 ws W f pr (bkW h0 (i : Int)) = true := by
            unfold yesW
            rw [decide_eq_true le, decide_eq_true (show chp (envW h0 (rpW h0 ws W (bkW h0 (i : Int))) f) ≠ -1 from c1), decide_eq_true (show chp (envW h0 (rpW h0 ws W (bkW h0 (i : Int))) f) ≤ pr by omega)]
            rfl
          have row2 : ∀ c : Int, 68 ≤ c → c ≤ 72 → h2.i c = h0.i c := fun c c0 c1 => by
            rw [← row c c0 c1]
            exact Fr_row F12 (fun m => by have := (by decide : ∀ x ∈ tpL ++ scanL, x < 68 ∨ 72 < x) c m; omega) (fun q m => by have := (by decide : ∀ q ∈ asS ++ scanS, q.1 = 59) q m; omega)
          have e842 : h2.i 59 84 = (((fndL h0 ws W f pr i).length : Nat) : Int) := by rw [F12.2 59 84 (by decide) (by decide)]; exact e84
          have Rf2 := rfx h2 F12 _ Rf
          have eY' : fndL h0 ws W f pr (i + 1) = fndL h0 ws W f pr i ++ [(i : Int)] := by rw [fS, if_pos yes]
          refine c_R_fits94 (hb := h2) (s := h0.i 69 (bkW h0 (i : Int))) (c := (((fndL h0 ws W f pr i).length : Nat) : Int)) Bw.1 (by omega) (by omega) (by omega) (by omega) (by omega) (by rw [row2 69 (by decide) (by decide)]) (by omega) (fun k k0 k1 => ?_) e842 (fun h3 u6 u7 F3 a3 b3 c3 d3 e843 => ?_) 16 0 h2 _ (Int.le_refl _) (by omega) (by omega) S2 (Fr_refl _ _ _) (fun j j0 j1 => by omega) (fun j _ => rfl)
          · rw [row2 68 (by decide) (by decide)]
            have := (Bw.2.2.2.2.2.2.2.2.2.2 k k0 k1).2
            omega
          · have F23 : Fr rzL rzS hY h3 := Fr_trans (Fr_trans F (Fr_mono F12 (by decide) (by decide))) (Fr_mono F3 (by decide) (by decide))
            have fs2 := fr_same (Fr_trans F (Fr_mono F12 (by decide) (by decide)) : Fr rzL rzS hY h2)
            have key := ih (i + 1) h3 (0, bkW h0 (i : Int)) u6 u7 (by push_cast at hi ⊢; omega) F23 (SR_2 F3.1 S2) (fun k hk => ((RV_fa (FA_of [] [] F3) (by rw [fs2.2.2.2.1]; exact n130) (by unfold I_tab at htY ⊢; rw [fs2.1]; exact htY) (by decide) k).trans (rv2 k hk)).trans (rv k hk)) (by rw [e843, eY', List.length_append]; push_cast; rfl) (fun a ha => ?_)
            · push_cast at key; exact key
            · rw [eY', List.length_append] at ha
              have ha : a < (fndL h0 ws W f pr i).length + 1 := ha
              rw [eY', c3, d3]
              by_cases z : a = (fndL h0 ws W f pr i).length
              · rw [if_pos (by omega), if_pos (by omega), z, getD_app_r 0 (Nat.le_refl _), Nat.sub_self, row2 70 (by decide) (by decide)]
                refine ⟨rfl, rfl, fun k k0 k1 => ?_⟩
                have := a3 k k0 k1
                rw [row2 68 (by decide) (by decide)] at this
                exact this
              · rw [if_neg (by omega), if_neg (by omega), getD_app_l 0 (by omega)]
                have R := Rf2 a (by omega)
                have ms := (fndL_len (h := h0) (ws := ws) (W := W) (f := f) (pr := pr) i).2 _ (getD_mem 0 (show a < (fndL h0 ws W f pr i).length by omega))
                have B' := bkW_s iB (j := (fndL h0 ws W f pr i).getD a 0) ms.1 (by omega)
                have s16 := B'.2.2.2.2.2.2.1
                refine ⟨R.1, R.2.1, fun k k0 k1 => ?_⟩
                rw [b3 (16 * (a : Int) + k) (by omega)]
                exact R.2.2 k k0 k1
    · have gt : 40 < (flat (rpW h0 ws W (bkW h0 (i : Int)))).length := gt
      rw [if_pos rfl]
      intro x2 e2
      exact skip (by unfold yesW; rw [decide_eq_false (show ¬ ((flat (rpW h0 ws W (bkW h0 (i : Int)))).length ≤ 40) by omega), Bool.false_and]) h1 _ _ _ (Fr_mono F1 (fun c m => List.mem_append_left _ m) (fun c m => List.mem_append_left _ m)) (SR_2 F1.1 S) rv1 x2 e2
end RF
