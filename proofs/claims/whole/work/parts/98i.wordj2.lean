/-! word: the call -/
theorem ptx_let {B : Pcs} (ok : PcsOk B) {j : Nat} (hj : j < (ptx B).length) : 97 ≤ (ptx B).getD j 0 ∧ (ptx B).getD j 0 ≤ 122 := by
  have mm := getD_mem (0 : Int) hj
  generalize (ptx B).getD j 0 = x at mm
  unfold ptx at mm
  rw [List.mem_flatten] at mm
  obtain ⟨D, mD, mc⟩ := mm
  rw [List.mem_map] at mD
  obtain ⟨pp, mp, ep⟩ := mD
  rw [← ep] at mc
  exact (ok pp mp).2.1 _ mc
theorem rdW_pos : ∀ (r : List Int) (B : Pcs) (cur : List Int) (B' : Pcs), rdW r B cur = some B' → 0 < B'.length := by
  intro r
  induction r with
  | nil =>
    intro B cur B' e
    unfold rdW at e
    by_cases c : 0 < B.length ∧ cur.length = 0
    · rw [if_pos c] at e
      rw [← Option.some.inj e]; exact c.1
    · rw [if_neg c] at e; cases e
  | cons c r ih =>
    intro B cur B' e
    unfold rdW at e
    by_cases c1 : 97 ≤ c ∧ c ≤ 122
    · rw [if_pos c1] at e; exact ih _ _ _ e
    · rw [if_neg c1] at e
      by_cases c2 : mkB c = -1
      · rw [if_pos c2] at e; cases e
      · rw [if_neg c2] at e
        by_cases c3 : cur.length = 0
        · rw [if_pos c3] at e; cases e
        · rw [if_neg c3] at e; exact ih _ _ _ e
def wX2 : List (Int × Int) := [(2, 1), (9, 6), (7, 2)]
def wR2 : List (Int × Int) := [(59, 1), (59, 10), (59, 20), (59, 16)]
/-- what the class' side leaves -/
def WX (n : Nat) (h hX : xH) (p t : Int) (B : Pcs) : Prop := FA rtL wX2 [8] [] h hX ∧ Tok h hX ∧ SX hX ∧ SR hX ∧ I_new hX ∧ hX.nx ≤ h.nx + 20 ∧ hX.us ≤ h.us + 3000 ∧ hX.r 28 6 = h.r 28 6 ∧ hX.r 40 3 = h.r 40 3 ∧ NewE hX p B ∧ hX.len (p + 1) = t ∧ hX.i 2 1 = 0 ∧ hX.i 11 0 = 0
section WJ
variable {n : Nat} {h hX hf : xH} {p t : Int} {B : Pcs}
theorem word_FA (W : WX n h hX p t B) (G : Fr wdL wR2 hX hf) : FA (rtL ++ wdL) (wX2 ++ wR2) [8] [] h hf := FA_fq (FA_mono W.1 (by decide) (by decide) (fun c m => m) (fun c m => m)) G (fun x m => Or.inl (List.mem_append_right _ m)) (fun q m => List.mem_append_right _ m)
theorem word_tok (W : WX n h hX p t B) (G : Fr wdL wR2 hX hf) : Tok h hf := Tok_fq W.2.1 G
theorem word_fin (I : INV n h) (W : WX n h hX p t B) (G : Fr wdL wR2 hX hf) (ib : I_book hf) (t0 : hf.i 59 1 = 0) : SCk h hf ∧ INV (n + 1) hf := by
  have F := word_FA W G
  have hT := word_tok W G
  obtain ⟨w1, w2, w3, w4, w5, w6, w7, w8, w9, w10, w11, w12, w13⟩ := W
  have fs := fr_same G
  have hX := SX_2 G.1 w3
  have hR := SR_2 G.1 w4
  have n0 := I.2.2.1
  have tb := I.2.2.2.1
  unfold I_tab at tb
  have hTab : I_tab hf := by unfold I_tab; rw [fs.1, w8]; exact tb
  have hNew : I_new hf := I_new_f w5 G (by decide) (by have := w1.1; omega)
  have hRoom : I_room (n + 1) hf := room_g I F (by rw [fs.2.2.2.1]; exact w6) (by rw [fs.2.2.2.2]; exact w7) (by rw [fs.1]; exact w8) (by rw [fs.1]; exact w9)
  refine ⟨⟨(F.2.1 1 (by omega)).1, (F.2.1 1 (by omega)).2, FA_row F (by omega) (by decide) (by decide) (by omega), by rw [(F.2.1 59 (by omega)).1]; exact (srt I.2.1).1⟩, INV_fa I F (by decide) hT hX hR hTab hNew hRoom (Or.inr ?_) (Or.inl (by decide)) (Or.inl (by decide)) (Or.inl (by decide)) (Or.inl (by decide)) (Or.inl (by decide)) (Or.inl (by decide)) (Or.inl (by decide)) (Or.inr ?_) (Or.inl (by decide)) (Or.inl (by decide)) (Or.inl (by decide)) (Or.inl (by decide)) (Or.inl (by decide)) (Or.inr ?_)⟩
  · have t2 : hf.i 2 1 = 0 := by rw [G.2 2 1 (by decide) (by decide)]; exact w12
    refine ⟨by rw [t2, t0], by rw [t0]; decide, by rw [t0]; decide, fun k k0 k1 => ?_⟩
    rw [t0] at k1; omega
  · exact ib
  · have d := I.2.2.2.2.2.2.2.2.2.2.2.2.2.2.2.2.2.2.2.2
    exact ⟨by rw [F.2.2.1 18 0 (by omega) (by decide) (by decide) (by omega)]; exact d.1, by rw [G.2 11 0 (by decide) (by decide)]; exact w13, by rw [F.2.2.1 42 0 (by omega) (by decide) (by decide) (by omega)]; exact d.2.2⟩
/-- the reference looks its letters up -/
theorem word_mat {h7 : xH} {G : Int → Int} (e69 : h7.i 69 = h.i 69) (e68 : h7.i 68 = h.i 68) (e73 : ∀ k, 0 ≤ k → k < t → h7.i 73 k = G k) (v : Int) : RMat h7 v 73 0 t ↔ WM h G t v := by
  unfold RMat WM
  rw [e69, e68]
  refine and_congr Iff.rfl ⟨fun H k k0 k1 => ?_, fun H k k0 k1 => ?_⟩
  · rw [H k k0 k1, show (0 : Int) + k = k by omega]; exact e73 k k0 k1
  · rw [H k k0 k1, show (0 : Int) + k = k by omega]; exact (e73 k k0 k1).symm
theorem c_R_word32 {h7 : xH} {w : Int} {Q : Int → xH → Prop} {u1 u4 : xV} (S : SR h7) (W : RWd h7 B) (tt : h7.i 59 20 = (((ptx B).length : Nat) : Int)) (l16 : (ptx B).length ≤ 16) (ok : PcsOk B) (w0 : 0 ≤ w) (w1 : w < 40) (H : ∀ h8, WrW h7 h8 w B → Q ((B.length : Nat) : Int) h8) : xT 2045 M_R_word 32 [(1, 59), u1, (0, ((B.length : Nat) : Int)), (0, w), u4] [] h7 (xqi Q) := by
  apply L_R_word_32
  rw [if_neg (by omega)]
  simp only [srt S, srl S, srf S, tt, true_and, and_true, false_and, and_false, forall_eq, forall_eq', xi_wi, xr_wi, xt_wi, xl_wi, xn_wi, xs_wi, xi_wr, xr_wr, xt_wr, xl_wr, xn_wr, xs_wr, if_true, if_false, and_self, Int.reduceEq, Int.reduceLT, Int.reduceLE, Int.reduceNeg, Int.le_refl, Int.reduceMod]
  refine ⟨⟨by omega, by omega⟩, ⟨by omega, by omega⟩, ?_⟩
  have F2 : Fr [69, 70] [] h7 ((h7.wi 69 w (((ptx B).length : Nat) : Int)).wi 70 w ((B.length : Nat) : Int)) := Fr_cell (Fr_cell (Fr_refl _ _ _) _ _ (by decide)) _ _ (by decide)
  refine c_R_word57' (h0 := h7) w0 w1 l16 ok (SR_2 F2.1 S) ?_ (by rw [F2.2 59 20 (by decide) (by decide)]; exact tt) rfl H
  unfold RWd
  rw [Fr_row F2 (c := 73) (by decide) (by decide), Fr_row F2 (c := 74) (by decide) (by decide), Fr_row F2 (c := 75) (by decide) (by decide)]
  exact W
theorem c_R_word32n {h7 : xH} {m : Int} {Q : Int → xH → Prop} {u1 u4 : xV} (S : SR h7) (W : RWd h7 B) (tt : h7.i 59 20 = (((ptx B).length : Nat) : Int)) (l16 : (ptx B).length ≤ 16) (ok : PcsOk B) (em : h7.i 59 16 = m) (m0 : 0 ≤ m) (m1 : m < 40) (H : ∀ h8, WrW (h7.wi 59 16 (m + 1)) h8 m B → Q ((B.length : Nat) : Int) h8) : xT 2045 M_R_word 32 [(1, 59), u1, (0, ((B.length : Nat) : Int)), (0, -1), u4] [] h7 (xqi Q) := by
  apply L_R_word_32
  rw [if_pos rfl]
  simp only [srt S, srl S, srf S, em, tt, true_and, and_true, false_and, and_false, forall_eq, forall_eq', xi_wi, xr_wi, xt_wi, xl_wi, xn_wi, xs_wi, xi_wr, xr_wr, xt_wr, xl_wr, xn_wr, xs_wr, if_true, if_false, and_self, Int.reduceEq, Int.reduceLT, Int.reduceLE, Int.reduceNeg, Int.le_refl, Int.reduceMod]
  rw [xw_id (a := m + 1) (by omega) (by omega)]
  refine ⟨⟨by omega, by omega⟩, ⟨by omega, by omega⟩, ?_⟩
  have F2 : Fr [69, 70] [(59, 16)] h7 (((h7.wi 59 16 (m + 1)).wi 69 m (((ptx B).length : Nat) : Int)).wi 70 m ((B.length : Nat) : Int)) := Fr_cell (Fr_cell (Fr_slot (Fr_refl _ _ _) _ (by decide)) _ _ (by decide)) _ _ (by decide)
  refine c_R_word57' (h0 := h7.wi 59 16 (m + 1)) m0 m1 l16 ok (SR_2 F2.1 S) ?_ (by rw [F2.2 59 20 (by decide) (by decide)]; exact tt) rfl H
  unfold RWd
  rw [Fr_row F2 (c := 73) (by decide) (by decide), Fr_row F2 (c := 74) (by decide) (by decide), Fr_row F2 (c := 75) (by decide) (by decide)]
  exact W
end WJ
