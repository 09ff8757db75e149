/-! word -/
section REL
variable {h h' : xH}
theorem SX_rel (t : ∀ c, c < 130 → h'.tag c = h.tag c ∧ h'.len c = h.len c) (r : ∀ c k, c < 130 → h'.r c k = h.r c k) (S : SX h) : SX h' := by
  obtain ⟨a, b, c⟩ := S
  refine ⟨?_, ?_, ?_⟩
  · unfold SXT at a ⊢
    simp (disch := decide) only [(t _ _).1]
    exact a
  · unfold SXL at b ⊢
    simp (disch := decide) only [(t _ _).2]
    exact b
  · unfold SXF at c ⊢
    simp (disch := decide) only [r]
    exact c
theorem SR_rel (t : ∀ c, c < 130 → h'.tag c = h.tag c ∧ h'.len c = h.len c) (r : ∀ k, h'.r 59 k = h.r 59 k) (S : SR h) : SR h' := by
  obtain ⟨a, b, c⟩ := S
  refine ⟨?_, ?_, ?_⟩
  · unfold SRT at a ⊢
    simp (disch := decide) only [(t _ _).1]
    exact a
  · unfold SRL at b ⊢
    simp (disch := decide) only [(t _ _).2]
    exact b
  · unfold SRF at c ⊢
    simp only [r]
    exact c
theorem room_g {n : Nat} {l lR : List Int} {l2 lr : List (Int × Int)} (I : INV n h) (F : FA l l2 lR lr h h') (en : h'.nx ≤ h.nx + 20) (eu : h'.us ≤ h.us + 3000) (e1 : h'.r 28 6 = h.r 28 6) (e2 : h'.r 40 3 = h.r 40 3) : I_room (n + 1) h' := by
  have a6 := I.2.2.2.2.2.1
  have i13 := I.2.2.2.2.2.2.2.2.2.2.2.2.2.2.2.2.2.2.1
  have n0 := I.2.2.1
  have fn := F.1
  unfold I_room at a6 ⊢
  have t1 := F.2.1 (h.r 28 6) a6.2.2.2.2.2.2.2
  have t2 := F.2.1 (h.r 40 3) (by have := i13.2.2.2.2.1; omega)
  rw [e1, e2, t1.1, t1.2, t2.2]
  push_cast
  omega
end REL
/-- the new entry -/
def NewE (h : xH) (p : Int) (B : Pcs) : Prop := SylB h p ∧ h.i p 6 = ((B.length : Nat) : Int) ∧ (∀ j : Nat, j ≤ B.length → h.i (p + 2) j = (((ptx (B.take j)).length : Nat) : Int)) ∧ (∀ k : Nat, k < (ptx B).length → h.i (p + 1) k = (ptx B).getD k 0) ∧ (∀ j : Nat, j < B.length → h.i (p + 4) j = (B.getD j pc0).2)
theorem NewE_fa {h h' : xH} {l lR : List Int} {l2 lr : List (Int × Int)} {p : Int} {B : Pcs} (F : FA l l2 lR lr h h') (w : low l l2 lR lr = true) (hT : Tok h h') (N : NewE h p B) : NewE h' p B := by
  obtain ⟨n1, n2, n3, n4, n5⟩ := N
  have r := SylB_rows F w n1
  refine ⟨SylB_fa F w hT n1, ?_, ?_, ?_, ?_⟩
  · rw [r.1]; exact n2
  · rw [r.2.2.2.1]; exact n3
  · rw [r.2.2.1]; exact n4
  · rw [r.2.2.2.2.2.1]; exact n5
theorem BookRel_new {h : xH} {p w : Int} {B : Pcs} (N : NewE h p B) (ok : PcsOk B) (l16 : (ptx B).length ≤ 16) (b1 : 0 < B.length) (m : h.i 69 w = (((ptx B).length : Nat) : Int)) (m2 : h.i 70 w = ((B.length : Nat) : Int)) (m3 : ∀ k : Nat, k < (ptx B).length → h.i 68 (16 * w + k) = (ptx B).getD k 0) (m4 : ∀ j : Nat, j < B.length → h.i 71 (16 * w + j) = (((B.getD j pc0).1.length : Nat) : Int) ∧ h.i 72 (16 * w + j) = (B.getD j pc0).2) : BookRel h p w := by
  obtain ⟨n1, n2, n3, n4, n5⟩ := N
  have pl := pcs_len ok
  refine ⟨n1, by rw [m2]; exact n2, by rw [m2]; omega, by rw [m2]; omega, by rw [m]; omega, ?_, ?_, fun s s0 s1 => ?_, fun k k0 k1 => ?_⟩
  · exact n3 0 (Nat.zero_le _)
  · rw [m2, m]
    have := n3 B.length (Nat.le_refl _)
    rw [List.take_length] at this
    exact this
  · rw [m2] at s1
    obtain ⟨j, rfl⟩ : ∃ j : Nat, s = (j : Int) := ⟨s.toNat, by omega⟩
    have hj : j < B.length := by omega
    have q := m4 j hj
    have a := n3 (j + 1) hj
    have b := n3 j (by omega)
    have po := ok _ (getD_mem pc0 hj)
    rw [show ((j + 1 : Nat) : Int) = (j : Int) + 1 by push_cast; rfl] at a
    rw [a, b, q.1, q.2, n5 j hj, ptx_take_s hj]
    exact ⟨by push_cast; rfl, by omega, rfl, po.2.2.1, po.2.2.2⟩
  · rw [m] at k1
    obtain ⟨j, rfl⟩ : ∃ j : Nat, k = (j : Int) := ⟨k.toNat, by omega⟩
    have hj : j < (ptx B).length := by omega
    rw [n4 j hj, m3 j hj]
    refine ⟨rfl, ?_⟩
    have mm := getD_mem (0 : Int) hj
    generalize (ptx B).getD j 0 = x at mm
    unfold ptx at mm
    rw [List.mem_flatten] at mm
    obtain ⟨D, mD, mc⟩ := mm
    rw [List.mem_map] at mD
    obtain ⟨pp, mp, ep⟩ := mD
    rw [← ep] at mc
    exact (ok pp mp).2.1 _ mc
def wdL : List Int := rwL2 ++ [68, 69, 70, 71, 72]
def wdS : List (Int × Int) := [(7, 2), (59, 1), (59, 10), (59, 20), (59, 16)]
/-- the tape as a list -/
def tapL (h : xH) : List Int := (List.range (h.i 59 1).toNat).map (fun k : Nat => h.i 3 (k : Int))
theorem tapL_len (h : xH) : (tapL h).length = (h.i 59 1).toNat := by unfold tapL; rw [List.length_map, List.length_range]
theorem tapL_get {h : xH} {k : Nat} (hk : k < (tapL h).length) : (tapL h).getD k 0 = h.i 3 (k : Int) := by
  rw [tapL_len] at hk
  unfold tapL
  rw [map_gd (z := 0) (by rw [List.length_range]; exact hk), List.getD_eq_getElem?_getD, List.getElem?_range hk]
  rfl
def rwS : List (Int × Int) := [(59, 1), (59, 10), (59, 20)]
/-- the reference's call up to what it has read -/
theorem c_R_word1 {h hX : xH} {Q : Int → xH → Prop} (j : I_tape h) (RL_ : RLang hX (h.i 6) (h.i 5)) (hV : bits26 (h.i 5)) (S : SR hX) (e1 : hX.i 59 1 = h.i 59 1) (e60 : hX.i 60 = h.i 60) (H0 : (∀ B, rdW (tapL h) [] [] = some B → ¬ gdB (h.i 6) (h.i 5) B) → ∀ h', Fr rwL2 rwS hX h' → h'.i 59 1 = 0 → Q (-1) h') (H1 : ∀ B, rdW (tapL h) [] [] = some B → gdB (h.i 6) (h.i 5) B → PcsOk B → ∀ h', Fr rwL2 rwS hX h' → h'.i 59 1 = 0 → RWd h' B → h'.i 59 20 = (((ptx B).length : Nat) : Int) → h'.tag 59 = 12 ∧ xCi 2045 M_R_find [(1, 59), (1, 73), (0, 0), (0, (((ptx B).length : Nat) : Int))] h' (fun r2 h3 => if r2 = (-1) then (h3.tag 59 = 12 ∧ (if h3.i 59 16 = 40 then Q (-3) h3 else xT 2045 M_R_word 32 [(1, 59), (0, h.i 59 1), (0, ((B.length : Nat) : Int)), (0, r2), (9, 0)] [] h3 (xqi Q))) else xT 2045 M_R_word 32 [(1, 59), (0, h.i 59 1), (0, ((B.length : Nat) : Int)), (0, r2), (9, 0)] [] h3 (xqi Q))) : xCi 2046 M_R_word [(1, 59)] hX Q := by
  obtain ⟨j1, j2, j3, j4⟩ := j
  apply L_R_word
  refine ⟨(srt S).1, fun x1 ex h1 eh => ?_⟩
  rw [e1] at ex
  subst ex
  have F1 : Fr [] [(59, 1)] hX h1 := by rw [eh]; exact Fr_slot (Fr_refl _ _ _) _ (by decide)
  have S1 := SR_2 F1.1 S
  have t1 : h1.i 59 1 = 0 := by rw [eh, xi_wi, if_pos ⟨rfl, rfl⟩]
  have RL1 : RLang h1 (h.i 6) (h.i 5) := RLang_row (Fr_row F1 (by decide) (by decide)) (Fr_row F1 (by decide) (by decide)) (Fr_row F1 (by decide) (by decide)) (Fr_row F1 (by decide) (by decide)) (F1.2 59 6 (by decide) (by decide)) RL_
  have hn : h.i 59 1 = (((tapL h).length : Nat) : Int) := by rw [tapL_len]; omega
  refine ⟨(srt S1).1, ?_⟩
  refine c_R_readWord (d := 2042) (T := h.i 60) S1 RL1 hV (by rw [Fr_row F1 (by decide) (by decide)]; exact e60) hn j3 (fun k hk => ?_) (fun h2 B F2 eR gd ok W t2 => ?_) (fun h2 F2 no => ?_)
  · rw [tapL_get hk]
    rw [tapL_len] at hk
    have := j4 (k : Int) (by omega) (by omega)
    exact ⟨this.1.symm, this.2.1, this.2.2⟩
  · rw [if_neg (by omega)]
    have S2 := SR_2 F2.1 S1
    have K := H1 B eR gd ok h2 (Fr_trans (Fr_mono F1 (fun c m => absurd m List.not_mem_nil) (by decide)) (Fr_mono F2 (fun c m => m) (by decide))) (by rw [F2.2 59 1 (by decide) (by decide)]; exact t1) W t2
    rw [show h2.r 59 17 = 73 by have S := S2; simp only [srt S, srl S, srf S, true_and, and_true, false_and, and_false, forall_eq, forall_eq', xi_wi, xr_wi, xt_wi, xl_wi, xn_wi, xs_wi, xi_wr, xr_wr, xt_wr, xl_wr, xn_wr, xs_wr, if_true, if_false, and_self, Int.reduceEq, Int.reduceLT, Int.reduceLE, Int.reduceNeg, Int.le_refl, Int.reduceMod], t2]
    exact K
  · rw [if_pos rfl]
    exact H0 no h2 (Fr_trans (Fr_mono F1 (fun c m => absurd m List.not_mem_nil) (by decide)) (Fr_mono F2 (fun c m => m) (by decide))) (by rw [F2.2 59 1 (by decide) (by decide)]; exact t1)
/-- the book's word v has just these letters -/
def WM (h : xH) (g : Int → Int) (t v : Int) : Prop := h.i 69 v = t ∧ ∀ k, 0 ≤ k → k < t → h.i 68 (16 * v + k) = g k
theorem WM_iff {h : xH} {p v t : Int} {g : Int → Int} (B : BookRel h p v) : eqP (h.i (p + 1)) g (h.len (p + 1)) t ↔ WM h g t v := by
  obtain ⟨X, XL⟩ := XLet_book B
  obtain ⟨sb, a1, a2, a3, a4, a5, a6, a7, a8⟩ := B
  rw [XL]
  constructor
  · intro E
    refine ⟨E.1, fun k k0 k1 => ?_⟩
    have z := E.2 k k0 (by have := E.1; omega)
    rw [← z]
    exact ((a8 k k0 (by have := E.1; omega)).1).symm
  · intro M
    refine ⟨M.1, fun k k0 k1 => ?_⟩
    rw [(a8 k k0 k1).1]
    exact M.2 k k0 (by have := M.1; omega)
