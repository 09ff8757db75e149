/-! line: the reference adds a word -/
def awL : List Int := asL
section RWA
variable {d : Nat} {P V : Int → Int} {D : List Int} {l w : Int} {L : List (Int × Int)}
/-- what stands beside a line while a word is added -/
theorem asRow {h h' : xH} (F : Fr asL asS h h') : h'.i 77 = h.i 77 ∧ h'.i 78 = h.i 78 ∧ h'.i 79 = h.i 79 ∧ h'.i 80 = h.i 80 ∧ h'.i 71 = h.i 71 ∧ h'.i 72 = h.i 72 ∧ h'.i 74 = h.i 74 ∧ h'.i 75 = h.i 75 ∧ h'.i 70 = h.i 70 ∧ h'.i 69 = h.i 69 := ⟨Fr_row F (by decide) (by decide), Fr_row F (by decide) (by decide), Fr_row F (by decide) (by decide), Fr_row F (by decide) (by decide), Fr_row F (by decide) (by decide), Fr_row F (by decide) (by decide), Fr_row F (by decide) (by decide), Fr_row F (by decide) (by decide), Fr_row F (by decide) (by decide), Fr_row F (by decide) (by decide)⟩
theorem asLang {h h' : xH} (F : Fr asL asS h h') (R : RLang h P V) : RLang h' P V := RLang_row (Fr_row F (by decide) (by decide)) (Fr_row F (by decide) (by decide)) (Fr_row F (by decide) (by decide)) (Fr_row F (by decide) (by decide)) (F.2 59 6 (by decide) (by decide)) R
/-- what both loops over the parts of a word need and keep -/
def ASt (P V : Int → Int) (D : List Int) (l w : Int) (h : xH) (A : List FS) : Prop := SR h ∧ RLang h P V ∧ RS (RV h l) A ∧ h.i 77 l = w ∧ (∀ k : Nat, k < D.length → h.i 78 (16 * (12 * l + w) + k) = D.getD k 0) ∧ (∀ q ∈ A, q.s.length ≤ 16)
theorem ASt_step {h h' : xH} {A : List FS} {f len m bk : Int} (F : Fr asL asS h h') (W : SylW h h' l ((A.length : Nat) : Int) (rsy P V D w f len m bk)) (a40 : A.length < 40) (f0 : 0 ≤ f) (len0 : 0 ≤ len) (fl : f + len ≤ ((D.length : Nat) : Int)) (d16 : D.length ≤ 16) (Z : ASt P V D l w h A) : ASt P V D l w h' (A ++ [rsy P V D w f len m bk]) := by
  obtain ⟨z1, z2, z3, z4, z5, z6⟩ := Z
  have r := asRow F
  have sl := sgs_len (P := P) (V := V) (g := gD D) (a := f) (e := f + len) (by omega)
  have s16 : (rsy P V D w f len m bk).s.length ≤ 16 := by show (sgs P V (gD D) f (f + len)).length ≤ 16; omega
  refine ⟨SR_2 F.1 z1, asLang F z2, SylW_RS W a40 s16 z6 z3, by rw [r.1]; exact z4, by rw [r.2.1]; exact z5, fun q mq => ?_⟩
  rw [List.mem_append, List.mem_singleton] at mq
  rcases mq with mq | mq
  · exact z6 q mq
  · rw [mq]; exact s16
theorem c_R_aw65 {Q : Int → xH → Prop} {v : Int} (l0 : 0 ≤ l) (l1 : l < 15) (w0 : 0 ≤ w) (w1 : w < 12) (v0 : 0 ≤ v) (v1 : v < 40) (hV : bits26 V) (lc : ∀ c ∈ D, 97 ≤ c ∧ c ≤ 122) (d16 : D.length ≤ 16) (l16 : L.length ≤ 16) (ok : PtOk D 0 L) : ∀ (m i : Nat) (A : List FS) (h : xH) (u3 : xV), i + m = L.length → ASt P V D l w h A → A.length + m ≤ 40 → h.i 70 v = ((L.length : Nat) : Int) → (∀ j : Nat, j < L.length → h.i 71 (16 * v + j) = (L.getD j (0, 0)).1 ∧ h.i 72 (16 * v + j) = (L.getD j (0, 0)).2) → (∀ h', Fr asL asS h h' → ASt P V D l w h' (A ++ fsyl w 1 (off L i) (mkSy P V D (off L i) (L.drop i))) → (∀ k, k ≠ l → RV h' k = RV h k) → Q 1 (h'.wi 77 l (w + 1))) → xT (d + 3) M_R_addWord 65 [(1, 59), (0, l), (0, v), u3, (0, off L i), (0, (i : Int))] [] h (xqi Q) := by
  intro m
  induction m with
  | zero =>
    intro i A h u3 hi Z a40 hm hb H
    have ei : i = L.length := by omega
    subst ei
    have S := Z.1
    have w77 := Z.2.2.2.1
    have K := H h (Fr_refl _ _ _) (by rw [List.drop_length, mkSy, fsyl, List.append_nil]; exact Z) (fun k _ => rfl)
    apply L_R_addWord_65
    simp only [srt S, srl S, srf S, hm, w77, true_and, and_true, false_and, and_false, forall_eq, forall_eq', xi_wi, xr_wi, xt_wi, xl_wi, xn_wi, xs_wi, xi_wr, xr_wr, xt_wr, xl_wr, xn_wr, xs_wr, if_true, if_false, and_self, Int.reduceEq, Int.reduceLT, Int.reduceLE, Int.reduceNeg, Int.le_refl, Int.reduceMod]
    rw [if_neg (show ¬ ((L.length : Nat) : Int) < ((L.length : Nat) : Int) by omega), xw_id (a := w + 1) (by omega) (by omega)]
    exact ⟨⟨v0, v1⟩, ⟨l0, l1⟩, ⟨l0, l1⟩, K⟩
  | succ m ih =>
    intro i A h u3 hi Z a40 hm hb H
    have hil : i < L.length := by omega
    have os := off_s hil
    have pi := ok.1 _ (getD_mem ((0 : Int), (0 : Int)) hil)
    have ol := off_le ok i (by omega)
    have ol2 := off_le ok (i + 1) (by omega)
    have b := hb i hil
    have S := Z.1
    have n0 : h.i 81 l = ((A.length : Nat) : Int) := Z.2.2.1.1
    apply L_R_addWord_65
    rw [xw_id (a := 16 * v) (by omega) (by omega), xw_id (a := 16 * v + (i : Int)) (by omega) (by omega)]
    simp only [srt S, srl S, srf S, hm, b.1, b.2, true_and, and_true, false_and, and_false, forall_eq, forall_eq', xi_wi, xr_wi, xt_wi, xl_wi, xn_wi, xs_wi, xi_wr, xr_wr, xt_wr, xl_wr, xn_wr, xs_wr, if_true, if_false, and_self, Int.reduceEq, Int.reduceLT, Int.reduceLE, Int.reduceNeg, Int.le_refl, Int.reduceMod]
    rw [if_pos (by omega)]
    refine ⟨⟨v0, v1⟩, ⟨by omega, by omega⟩, ⟨by omega, by omega⟩, ?_⟩
    refine c_R_addSyl (d := d) (D := D) S Z.2.1 hV l0 l1 n0 (by omega) (by omega) Z.2.2.2.1 w0 w1 lc d16 Z.2.2.2.2.1 (by omega) (by omega) (by omega) 1 (fun h1 F1 W => ?_)
    have r := asRow F1
    have Z1 := ASt_step (bk := 1) F1 W (by omega) (by omega) (by omega) (by omega) d16 Z
    have b1 := r.2.2.2.2.1
    have S := Z1.1
    simp only [srt S, srl S, srf S, b1, b.1, true_and, and_true, false_and, and_false, forall_eq, forall_eq', xi_wi, xr_wi, xt_wi, xl_wi, xn_wi, xs_wi, xi_wr, xr_wr, xt_wr, xl_wr, xn_wr, xs_wr, if_true, if_false, and_self, Int.reduceEq, Int.reduceLT, Int.reduceLE, Int.reduceNeg, Int.le_refl, Int.reduceMod]
    rw [xw_id (a := off L i + (L.getD i (0, 0)).1) (by omega) (by omega), xw_id (a := (i : Int) + 1) (by omega) (by omega), ← os]
    refine ⟨⟨by omega, by omega⟩, ?_⟩
    have z := ih (i + 1) _ h1 (xkl u3) (by omega) Z1 (by rw [List.length_append]; show A.length + 1 + m ≤ 40; omega) (by rw [r.2.2.2.2.2.2.2.2.1]; exact hm) (by rw [b1, r.2.2.2.2.2.1]; exact hb) (fun h' F Z' rv => ?_)
    · rw [show (i : Int) + 1 = ((i + 1 : Nat) : Int) by push_cast; rfl]; exact z
    · refine H h' (Fr_trans F1 F) ?_ (fun k hk => (rv k hk).trans (SylW_RV W r.1 r.2.1 r.2.2.1 r.2.2.2.1 (by omega) (by omega) hk))
      rw [drop_off hil, fsyl]
      rw [List.append_assoc] at Z'
      unfold rsy at Z'
      rw [← os] at Z'
      rw [show off L i + ((L.getD i (0, 0)).1, (L.getD i (0, 0)).2, sgs P V (gD D) (off L i) (off L i + (L.getD i (0, 0)).1)).1 = off L (i + 1) from os.symm]
      exact Z'
theorem c_R_rl160 {Q : Int → xH → Prop} {l1_ l4 : Int} {u3 u5 u6 : xV} (l0 : 0 ≤ l) (l1 : l < 15) (w0 : 0 ≤ w) (w1 : w < 12) (hV : bits26 V) (lc : ∀ c ∈ D, 97 ≤ c ∧ c ≤ 122) (d16 : D.length ≤ 16) (l16 : L.length ≤ 16) (ok : PtOk D 0 L) : ∀ (m i : Nat) (A : List FS) (h : xH) (u8 : xV), i + m = L.length → ASt P V D l w h A → A.length + m ≤ 40 → RWl h L → (∀ h' u8 u9 u10, Fr asL asS h h' → ASt P V D l w h' (A ++ fsyl w 0 (off L i) (mkSy P V D (off L i) (L.drop i))) → (∀ k, k ≠ l → RV h' k = RV h k) → xT (d + 3) M_R_readLine 14 [(1, 59), (0, l1_), (0, l), (0, l4), (0, l4), u5, u6, (0, ((L.length : Nat) : Int)), u8, u9, u10] [] (h'.wi 77 l (w + 1)) (xqi Q)) → xT (d + 3) M_R_readLine 160 [(1, 59), (0, l1_), (0, l), u3, (0, l4), u5, u6, (0, ((L.length : Nat) : Int)), u8, (0, off L i), (0, (i : Int))] [] h (xqi Q) := by
  intro m
  induction m with
  | zero =>
    intro i A h u8 hi Z a40 hb H
    have ei : i = L.length := by omega
    subst ei
    have S := Z.1
    have w77 := Z.2.2.2.1
    have K := H h u8 (0, off L L.length) (0, ((L.length : Nat) : Int)) (Fr_refl _ _ _) (by rw [List.drop_length, mkSy, fsyl, List.append_nil]; exact Z) (fun k _ => rfl)
    apply L_R_readLine_160
    rw [if_neg (show ¬ ((L.length : Nat) : Int) < ((L.length : Nat) : Int) by omega)]
    simp only [srt S, srl S, srf S, w77, true_and, and_true, false_and, and_false, forall_eq, forall_eq', xi_wi, xr_wi, xt_wi, xl_wi, xn_wi, xs_wi, xi_wr, xr_wr, xt_wr, xl_wr, xn_wr, xs_wr, if_true, if_false, and_self, Int.reduceEq, Int.reduceLT, Int.reduceLE, Int.reduceNeg, Int.le_refl, Int.reduceMod]
    rw [xw_id (a := w + 1) (by omega) (by omega)]
    exact ⟨⟨l0, l1⟩, ⟨l0, l1⟩, K⟩
  | succ m ih =>
    intro i A h u8 hi Z a40 hb H
    have hil : i < L.length := by omega
    have os := off_s hil
    have pi := ok.1 _ (getD_mem ((0 : Int), (0 : Int)) hil)
    have ol := off_le ok i (by omega)
    have ol2 := off_le ok (i + 1) (by omega)
    have b := hb i hil
    have S := Z.1
    have n0 : h.i 81 l = ((A.length : Nat) : Int) := Z.2.2.1.1
    apply L_R_readLine_160
    rw [if_pos (by omega)]
    simp only [srt S, srl S, srf S, b.1, b.2, true_and, and_true, false_and, and_false, forall_eq, forall_eq', xi_wi, xr_wi, xt_wi, xl_wi, xn_wi, xs_wi, xi_wr, xr_wr, xt_wr, xl_wr, xn_wr, xs_wr, if_true, if_false, and_self, Int.reduceEq, Int.reduceLT, Int.reduceLE, Int.reduceNeg, Int.le_refl, Int.reduceMod]
    refine ⟨⟨by omega, by omega⟩, ⟨by omega, by omega⟩, ?_⟩
    refine c_R_addSyl (d := d) (D := D) S Z.2.1 hV l0 l1 n0 (by omega) (by omega) Z.2.2.2.1 w0 w1 lc d16 Z.2.2.2.2.1 (by omega) (by omega) (by omega) 0 (fun h1 F1 W => ?_)
    have r := asRow F1
    have Z1 := ASt_step (bk := 0) F1 W (by omega) (by omega) (by omega) (by omega) d16 Z
    have b1 := r.2.2.2.2.2.2.1
    have S := Z1.1
    simp only [srt S, srl S, srf S, b1, b.1, true_and, and_true, false_and, and_false, forall_eq, forall_eq', xi_wi, xr_wi, xt_wi, xl_wi, xn_wi, xs_wi, xi_wr, xr_wr, xt_wr, xl_wr, xn_wr, xs_wr, if_true, if_false, and_self, Int.reduceEq, Int.reduceLT, Int.reduceLE, Int.reduceNeg, Int.le_refl, Int.reduceMod]
    rw [xw_id (a := off L i + (L.getD i (0, 0)).1) (by omega) (by omega), xw_id (a := (i : Int) + 1) (by omega) (by omega), ← os]
    refine ⟨⟨by omega, by omega⟩, ?_⟩
    have z := ih (i + 1) _ h1 (xkl u8) (by omega) Z1 (by rw [List.length_append]; show A.length + 1 + m ≤ 40; omega) (by unfold RWl; rw [b1, r.2.2.2.2.2.2.2.1]; exact hb) (fun h' u8 u9 u10 F Z' rv => ?_)
    · rw [show (i : Int) + 1 = ((i + 1 : Nat) : Int) by push_cast; rfl]; exact z
    · refine H h' u8 u9 u10 (Fr_trans F1 F) ?_ (fun k hk => (rv k hk).trans (SylW_RV W r.1 r.2.1 r.2.2.1 r.2.2.2.1 (by omega) (by omega) hk))
      rw [drop_off hil, fsyl]
      rw [List.append_assoc] at Z'
      unfold rsy at Z'
      rw [← os] at Z'
      rw [show off L i + ((L.getD i (0, 0)).1, (L.getD i (0, 0)).2, sgs P V (gD D) (off L i) (off L i + (L.getD i (0, 0)).1)).1 = off L (i + 1) from os.symm]
      exact Z'
/-- the text of a word is written, with its size and whether it is of the book -/
def TxW (h h' : xH) (at_ : Int) (D : List Int) (bk : Int) : Prop := Fr [78, 79, 80] [] h h' ∧ (∀ j : Nat, j < D.length → h'.i 78 (16 * at_ + j) = D.getD j 0) ∧ (∀ j, (j < 16 * at_ ∨ 16 * at_ + 16 ≤ j) → h'.i 78 j = h.i 78 j) ∧ (∀ j, h'.i 79 j = if j = at_ then ((D.length : Nat) : Int) else h.i 79 j) ∧ (∀ j, h'.i 80 j = if j = at_ then bk else h.i 80 j)
theorem c_R_aw24 {Q : Int → xH → Prop} {v at_ : Int} (l0 : 0 ≤ l) (l1 : l < 15) (v0 : 0 ≤ v) (v1 : v < 40) (a0 : 0 ≤ at_) (a1 : at_ < 180) (lc : ∀ c ∈ D, 97 ≤ c ∧ c ≤ 122) (d16 : D.length ≤ 16) : ∀ (m k : Nat) (h0 h : xH) (u5 : xV), k + m = D.length → SR h → h.i 69 v = ((D.length : Nat) : Int) → (∀ j : Nat, j < D.length → h.i 68 (16 * v + j) = D.getD j 0) → Fr [78] [] h0 h → (∀ j : Nat, j < k → h.i 78 (16 * at_ + j) = D.getD j 0) → (∀ j, (j < 16 * at_ ∨ 16 * at_ + 16 ≤ j) → h.i 78 j = h0.i 78 j) → (∀ h', TxW h0 h' at_ D 1 → xT d M_R_addWord 65 [(1, 59), (0, l), (0, v), (0, at_), (0, 0), (0, 0)] [] h' (xqi Q)) → xT d M_R_addWord 24 [(1, 59), (0, l), (0, v), (0, at_), (0, (k : Int)), u5] [] h (xqi Q) := by
  intro m
  induction m with
  | zero =>
    intro k h0 h u5 hk S bs bt F0 a2 a3 H
    apply L_R_addWord_24
    simp only [srt S, srl S, srf S, bs, true_and, and_true, false_and, and_false, forall_eq, forall_eq', xi_wi, xr_wi, xt_wi, xl_wi, xn_wi, xs_wi, xi_wr, xr_wr, xt_wr, xl_wr, xn_wr, xs_wr, if_true, if_false, and_self, Int.reduceEq, Int.reduceLT, Int.reduceLE, Int.reduceNeg, Int.le_refl, Int.reduceMod]
    rw [if_neg (by omega)]
    refine ⟨⟨v0, v1⟩, ⟨v0, v1⟩, ⟨a0, a1⟩, ⟨a0, a1⟩, H _ ⟨?_, fun j hj => ?_, fun j hj => ?_, fun j => ?_, fun j => ?_⟩⟩
    · exact Fr_cell (Fr_cell (Fr_mono F0 (by decide) (fun c m => m)) _ _ (by decide)) _ _ (by decide)
    · simp only [true_and, and_true, false_and, and_false, forall_eq, forall_eq', xi_wi, xr_wi, xt_wi, xl_wi, xn_wi, xs_wi, xi_wr, xr_wr, xt_wr, xl_wr, xn_wr, xs_wr, if_true, if_false, and_self, Int.reduceEq, Int.reduceLT, Int.reduceLE, Int.reduceNeg, Int.le_refl, Int.reduceMod]; exact a2 j (by omega)
    · simp only [true_and, and_true, false_and, and_false, forall_eq, forall_eq', xi_wi, xr_wi, xt_wi, xl_wi, xn_wi, xs_wi, xi_wr, xr_wr, xt_wr, xl_wr, xn_wr, xs_wr, if_true, if_false, and_self, Int.reduceEq, Int.reduceLT, Int.reduceLE, Int.reduceNeg, Int.le_refl, Int.reduceMod]; exact a3 j hj
    · simp only [true_and, and_true, false_and, and_false, forall_eq, forall_eq', xi_wi, xr_wi, xt_wi, xl_wi, xn_wi, xs_wi, xi_wr, xr_wr, xt_wr, xl_wr, xn_wr, xs_wr, if_true, if_false, and_self, Int.reduceEq, Int.reduceLT, Int.reduceLE, Int.reduceNeg, Int.le_refl, Int.reduceMod]
      rw [Fr_row F0 (c := 79) (by decide) (by decide)]
    · simp only [true_and, and_true, false_and, and_false, forall_eq, forall_eq', xi_wi, xr_wi, xt_wi, xl_wi, xn_wi, xs_wi, xi_wr, xr_wr, xt_wr, xl_wr, xn_wr, xs_wr, if_true, if_false, and_self, Int.reduceEq, Int.reduceLT, Int.reduceLE, Int.reduceNeg, Int.le_refl, Int.reduceMod]
      rw [Fr_row F0 (c := 80) (by decide) (by decide)]
  | succ m ih =>
    intro k h0 h u5 hk S bs bt F0 a2 a3 H
    have c := lc _ (getD_mem (0 : Int) (show k < D.length by omega))
    have b := bt k (by omega)
    apply L_R_addWord_24
    rw [xw_id (a := 16 * v) (by omega) (by omega), xw_id (a := 16 * v + (k : Int)) (by omega) (by omega), xw_id (a := 16 * at_) (by omega) (by omega), xw_id (a := 16 * at_ + (k : Int)) (by omega) (by omega), xw_id (a := (k : Int) + 1) (by omega) (by omega)]
    simp only [srt S, srl S, srf S, bs, b, true_and, and_true, false_and, and_false, forall_eq, forall_eq', xi_wi, xr_wi, xt_wi, xl_wi, xn_wi, xs_wi, xi_wr, xr_wr, xt_wr, xl_wr, xn_wr, xs_wr, if_true, if_false, and_self, Int.reduceEq, Int.reduceLT, Int.reduceLE, Int.reduceNeg, Int.le_refl, Int.reduceMod]
    rw [if_pos (by omega), show xw8 (D.getD k 0) = D.getD k 0 by unfold xw8; omega]
    refine ⟨⟨v0, v1⟩, ⟨by omega, by omega⟩, ⟨by omega, by omega⟩, ?_⟩
    have F1 : Fr [78] [] h (h.wi 78 (16 * at_ + (k : Int)) (D.getD k 0)) := Fr_cell (Fr_refl _ _ _) _ _ (by decide)
    rw [show (k : Int) + 1 = ((k + 1 : Nat) : Int) by push_cast; rfl]
    refine ih (k + 1) h0 _ u5 (by omega) (SR_2 F1.1 S) (by simp only [true_and, and_true, false_and, and_false, forall_eq, forall_eq', xi_wi, xr_wi, xt_wi, xl_wi, xn_wi, xs_wi, xi_wr, xr_wr, xt_wr, xl_wr, xn_wr, xs_wr, if_true, if_false, and_self, Int.reduceEq, Int.reduceLT, Int.reduceLE, Int.reduceNeg, Int.le_refl, Int.reduceMod]; exact bs) (fun j hj => by simp only [true_and, and_true, false_and, and_false, forall_eq, forall_eq', xi_wi, xr_wi, xt_wi, xl_wi, xn_wi, xs_wi, xi_wr, xr_wr, xt_wr, xl_wr, xn_wr, xs_wr, if_true, if_false, and_self, Int.reduceEq, Int.reduceLT, Int.reduceLE, Int.reduceNeg, Int.le_refl, Int.reduceMod]; exact bt j hj) (Fr_trans F0 F1) (fun j hj => ?_) (fun j hj => ?_) H
    · simp only [true_and, and_true, false_and, and_false, forall_eq, forall_eq', xi_wi, xr_wi, xt_wi, xl_wi, xn_wi, xs_wi, xi_wr, xr_wr, xt_wr, xl_wr, xn_wr, xs_wr, if_true, if_false, and_self, Int.reduceEq, Int.reduceLT, Int.reduceLE, Int.reduceNeg, Int.le_refl, Int.reduceMod]
      by_cases z : j = k
      · rw [if_pos (by omega), z]
      · rw [if_neg (by omega)]; exact a2 j (by omega)
    · simp only [true_and, and_true, false_and, and_false, forall_eq, forall_eq', xi_wi, xr_wi, xt_wi, xl_wi, xn_wi, xs_wi, xi_wr, xr_wr, xt_wr, xl_wr, xn_wr, xs_wr, if_true, if_false, and_self, Int.reduceEq, Int.reduceLT, Int.reduceLE, Int.reduceNeg, Int.le_refl, Int.reduceMod]
      rw [if_neg (by omega)]; exact a3 j hj
theorem c_R_rl127 {Q : Int → xH → Prop} {l1_ l3 l4 at_ : Int} {u6 : xV} {n7 : Int} (l0 : 0 ≤ l) (l1 : l < 15) (a0 : 0 ≤ at_) (a1 : at_ < 180) (f0 : 0 ≤ l3) (fl : l3 + ((D.length : Nat) : Int) ≤ 240) (lc : ∀ c ∈ D, 97 ≤ c ∧ c ≤ 122) (d16 : D.length ≤ 16) : ∀ (m k : Nat) (h0 h : xH) (u10 : xV), k + m = D.length → SR h → (∀ j : Nat, j < D.length → h.i 60 (l3 + j) = D.getD j 0) → Fr [78] [] h0 h → (∀ j : Nat, j < k → h.i 78 (16 * at_ + j) = D.getD j 0) → (∀ j, (j < 16 * at_ ∨ 16 * at_ + 16 ≤ j) → h.i 78 j = h0.i 78 j) → (∀ h', TxW h0 h' at_ D 0 → xT d M_R_readLine 160 [(1, 59), (0, l1_), (0, l), (0, l3), (0, l4), (0, ((D.length : Nat) : Int)), u6, (0, n7), (0, at_), (0, 0), (0, 0)] [] h' (xqi Q)) → xT d M_R_readLine 127 [(1, 59), (0, l1_), (0, l), (0, l3), (0, l4), (0, ((D.length : Nat) : Int)), u6, (0, n7), (0, at_), (0, (k : Int)), u10] [] h (xqi Q) := by
  intro m
  induction m with
  | zero =>
    intro k h0 h u10 hk S bt F0 a2 a3 H
    apply L_R_readLine_127
    rw [if_neg (by omega)]
    simp only [srt S, srl S, srf S, true_and, and_true, false_and, and_false, forall_eq, forall_eq', xi_wi, xr_wi, xt_wi, xl_wi, xn_wi, xs_wi, xi_wr, xr_wr, xt_wr, xl_wr, xn_wr, xs_wr, if_true, if_false, and_self, Int.reduceEq, Int.reduceLT, Int.reduceLE, Int.reduceNeg, Int.le_refl, Int.reduceMod]
    refine ⟨⟨a0, a1⟩, ⟨a0, a1⟩, H _ ⟨?_, fun j hj => ?_, fun j hj => ?_, fun j => ?_, fun j => ?_⟩⟩
    · exact Fr_cell (Fr_cell (Fr_mono F0 (by decide) (fun c m => m)) _ _ (by decide)) _ _ (by decide)
    · simp only [true_and, and_true, false_and, and_false, forall_eq, forall_eq', xi_wi, xr_wi, xt_wi, xl_wi, xn_wi, xs_wi, xi_wr, xr_wr, xt_wr, xl_wr, xn_wr, xs_wr, if_true, if_false, and_self, Int.reduceEq, Int.reduceLT, Int.reduceLE, Int.reduceNeg, Int.le_refl, Int.reduceMod]; exact a2 j (by omega)
    · simp only [true_and, and_true, false_and, and_false, forall_eq, forall_eq', xi_wi, xr_wi, xt_wi, xl_wi, xn_wi, xs_wi, xi_wr, xr_wr, xt_wr, xl_wr, xn_wr, xs_wr, if_true, if_false, and_self, Int.reduceEq, Int.reduceLT, Int.reduceLE, Int.reduceNeg, Int.le_refl, Int.reduceMod]; exact a3 j hj
    · simp only [true_and, and_true, false_and, and_false, forall_eq, forall_eq', xi_wi, xr_wi, xt_wi, xl_wi, xn_wi, xs_wi, xi_wr, xr_wr, xt_wr, xl_wr, xn_wr, xs_wr, if_true, if_false, and_self, Int.reduceEq, Int.reduceLT, Int.reduceLE, Int.reduceNeg, Int.le_refl, Int.reduceMod]
      rw [Fr_row F0 (c := 79) (by decide) (by decide)]
    · simp only [true_and, and_true, false_and, and_false, forall_eq, forall_eq', xi_wi, xr_wi, xt_wi, xl_wi, xn_wi, xs_wi, xi_wr, xr_wr, xt_wr, xl_wr, xn_wr, xs_wr, if_true, if_false, and_self, Int.reduceEq, Int.reduceLT, Int.reduceLE, Int.reduceNeg, Int.le_refl, Int.reduceMod]
      rw [Fr_row F0 (c := 80) (by decide) (by decide)]
  | succ m ih =>
    intro k h0 h u10 hk S bt F0 a2 a3 H
    have c := lc _ (getD_mem (0 : Int) (show k < D.length by omega))
    have b := bt k (by omega)
    apply L_R_readLine_127
    rw [if_pos (by omega), xw_id (a := l3 + (k : Int)) (by omega) (by omega), xw_id (a := 16 * at_) (by omega) (by omega), xw_id (a := 16 * at_ + (k : Int)) (by omega) (by omega), xw_id (a := (k : Int) + 1) (by omega) (by omega)]
    simp only [srt S, srl S, srf S, b, true_and, and_true, false_and, and_false, forall_eq, forall_eq', xi_wi, xr_wi, xt_wi, xl_wi, xn_wi, xs_wi, xi_wr, xr_wr, xt_wr, xl_wr, xn_wr, xs_wr, if_true, if_false, and_self, Int.reduceEq, Int.reduceLT, Int.reduceLE, Int.reduceNeg, Int.le_refl, Int.reduceMod]
    rw [show xw8 (D.getD k 0) = D.getD k 0 by unfold xw8; omega]
    refine ⟨⟨by omega, by omega⟩, ⟨by omega, by omega⟩, ?_⟩
    have F1 : Fr [78] [] h (h.wi 78 (16 * at_ + (k : Int)) (D.getD k 0)) := Fr_cell (Fr_refl _ _ _) _ _ (by decide)
    rw [show (k : Int) + 1 = ((k + 1 : Nat) : Int) by push_cast; rfl]
    refine ih (k + 1) h0 _ u10 (by omega) (SR_2 F1.1 S) (fun j hj => by simp only [true_and, and_true, false_and, and_false, forall_eq, forall_eq', xi_wi, xr_wi, xt_wi, xl_wi, xn_wi, xs_wi, xi_wr, xr_wr, xt_wr, xl_wr, xn_wr, xs_wr, if_true, if_false, and_self, Int.reduceEq, Int.reduceLT, Int.reduceLE, Int.reduceNeg, Int.le_refl, Int.reduceMod]; exact bt j hj) (Fr_trans F0 F1) (fun j hj => ?_) (fun j hj => ?_) H
    · simp only [true_and, and_true, false_and, and_false, forall_eq, forall_eq', xi_wi, xr_wi, xt_wi, xl_wi, xn_wi, xs_wi, xi_wr, xr_wr, xt_wr, xl_wr, xn_wr, xs_wr, if_true, if_false, and_self, Int.reduceEq, Int.reduceLT, Int.reduceLE, Int.reduceNeg, Int.le_refl, Int.reduceMod]
      by_cases z : j = k
      · rw [if_pos (by omega), z]
      · rw [if_neg (by omega)]; exact a2 j (by omega)
    · simp only [true_and, and_true, false_and, and_false, forall_eq, forall_eq', xi_wi, xr_wi, xt_wi, xl_wi, xn_wi, xs_wi, xi_wr, xr_wr, xt_wr, xl_wr, xn_wr, xs_wr, if_true, if_false, and_self, Int.reduceEq, Int.reduceLT, Int.reduceLE, Int.reduceNeg, Int.le_refl, Int.reduceMod]
      rw [if_neg (by omega)]; exact a3 j hj
def lwL : List Int := [77, 78, 79, 80] ++ asL
/-- a word more, from its text and its syllables -/
theorem word_more {h h1 h2 : xH} {ws : List Wd} {bk : Int} (okA : ∀ x ∈ ws, WdOk x) (w12 : ws.length < 12) (ew : w = ((ws.length : Nat) : Int)) (d16 : D.length ≤ 16) (R : RLn (RV h l) ws) (T : TxW h h1 (12 * l + w) D bk) (F : Fr asL asS h1 h2) (Z : ASt P V D l w h2 (flat ws ++ fsyl w bk 0 (mkSy P V D 0 L))) (rv : ∀ k, k ≠ l → RV h2 k = RV h1 k) (l0 : 0 ≤ l) (l1 : l < 15) : RLn (RV (h2.wi 77 l (w + 1)) l) (ws ++ [(D, bk, mkSy P V D 0 L)]) ∧ ∀ k, k ≠ l → RV (h2.wi 77 l (w + 1)) k = RV h k := by
  obtain ⟨t1, t2, t3, t4, t5⟩ := T
  have r := asRow F
  have R' := RLn_iff.mp R
  refine ⟨RLn_iff.mpr ⟨?_, ?_, ?_⟩, fun k hk => ?_⟩
  · rw [flat_app, ← ew]
    exact RS_row (h := h2) (by simp only [true_and, and_true, false_and, and_false, forall_eq, forall_eq', xi_wi, xr_wi, xt_wi, xl_wi, xn_wi, xs_wi, xi_wr, xr_wr, xt_wr, xl_wr, xn_wr, xs_wr, if_true, if_false, and_self, Int.reduceEq, Int.reduceLT, Int.reduceLE, Int.reduceNeg, Int.le_refl, Int.reduceMod]) (by funext j; simp only [true_and, and_true, false_and, and_false, forall_eq, forall_eq', xi_wi, xr_wi, xt_wi, xl_wi, xn_wi, xs_wi, xi_wr, xr_wr, xt_wr, xl_wr, xn_wr, xs_wr, if_true, if_false, and_self, Int.reduceEq, Int.reduceLT, Int.reduceLE, Int.reduceNeg, Int.le_refl, Int.reduceMod]) (by funext j; simp only [true_and, and_true, false_and, and_false, forall_eq, forall_eq', xi_wi, xr_wi, xt_wi, xl_wi, xn_wi, xs_wi, xi_wr, xr_wr, xt_wr, xl_wr, xn_wr, xs_wr, if_true, if_false, and_self, Int.reduceEq, Int.reduceLT, Int.reduceLE, Int.reduceNeg, Int.le_refl, Int.reduceMod]) (by funext j; simp only [true_and, and_true, false_and, and_false, forall_eq, forall_eq', xi_wi, xr_wi, xt_wi, xl_wi, xn_wi, xs_wi, xi_wr, xr_wr, xt_wr, xl_wr, xn_wr, xs_wr, if_true, if_false, and_self, Int.reduceEq, Int.reduceLT, Int.reduceLE, Int.reduceNeg, Int.le_refl, Int.reduceMod]) (by funext j; simp only [true_and, and_true, false_and, and_false, forall_eq, forall_eq', xi_wi, xr_wi, xt_wi, xl_wi, xn_wi, xs_wi, xi_wr, xr_wr, xt_wr, xl_wr, xn_wr, xs_wr, if_true, if_false, and_self, Int.reduceEq, Int.reduceLT, Int.reduceLE, Int.reduceNeg, Int.le_refl, Int.reduceMod]) (by funext j; simp only [true_and, and_true, false_and, and_false, forall_eq, forall_eq', xi_wi, xr_wi, xt_wi, xl_wi, xn_wi, xs_wi, xi_wr, xr_wr, xt_wr, xl_wr, xn_wr, xs_wr, if_true, if_false, and_self, Int.reduceEq, Int.reduceLT, Int.reduceLE, Int.reduceNeg, Int.le_refl, Int.reduceMod]) (by funext j; simp only [true_and, and_true, false_and, and_false, forall_eq, forall_eq', xi_wi, xr_wi, xt_wi, xl_wi, xn_wi, xs_wi, xi_wr, xr_wr, xt_wr, xl_wr, xn_wr, xs_wr, if_true, if_false, and_self, Int.reduceEq, Int.reduceLT, Int.reduceLE, Int.reduceNeg, Int.le_refl, Int.reduceMod]) (by funext j; simp only [true_and, and_true, false_and, and_false, forall_eq, forall_eq', xi_wi, xr_wi, xt_wi, xl_wi, xn_wi, xs_wi, xi_wr, xr_wr, xt_wr, xl_wr, xn_wr, xs_wr, if_true, if_false, and_self, Int.reduceEq, Int.reduceLT, Int.reduceLE, Int.reduceNeg, Int.le_refl, Int.reduceMod]) Z.2.2.1
  · show (h2.wi 77 l (w + 1)).i 77 l = _
    simp only [true_and, and_true, false_and, and_false, forall_eq, forall_eq', xi_wi, xr_wi, xt_wi, xl_wi, xn_wi, xs_wi, xi_wr, xr_wr, xt_wr, xl_wr, xn_wr, xs_wr, if_true, if_false, and_self, Int.reduceEq, Int.reduceLT, Int.reduceLE, Int.reduceNeg, Int.le_refl, Int.reduceMod]
    rw [List.length_append, ew]; push_cast; rfl
  · have s78 : (h2.wi 77 l (w + 1)).i 78 = h1.i 78 := by funext j; simp only [true_and, and_true, false_and, and_false, forall_eq, forall_eq', xi_wi, xr_wi, xt_wi, xl_wi, xn_wi, xs_wi, xi_wr, xr_wr, xt_wr, xl_wr, xn_wr, xs_wr, if_true, if_false, and_self, Int.reduceEq, Int.reduceLT, Int.reduceLE, Int.reduceNeg, Int.le_refl, Int.reduceMod]; rw [r.2.1]
    have s79 : (h2.wi 77 l (w + 1)).i 79 = h1.i 79 := by funext j; simp only [true_and, and_true, false_and, and_false, forall_eq, forall_eq', xi_wi, xr_wi, xt_wi, xl_wi, xn_wi, xs_wi, xi_wr, xr_wr, xt_wr, xl_wr, xn_wr, xs_wr, if_true, if_false, and_self, Int.reduceEq, Int.reduceLT, Int.reduceLE, Int.reduceNeg, Int.le_refl, Int.reduceMod]; rw [r.2.2.1]
    have s80 : (h2.wi 77 l (w + 1)).i 80 = h1.i 80 := by funext j; simp only [true_and, and_true, false_and, and_false, forall_eq, forall_eq', xi_wi, xr_wi, xt_wi, xl_wi, xn_wi, xs_wi, xi_wr, xr_wr, xt_wr, xl_wr, xn_wr, xs_wr, if_true, if_false, and_self, Int.reduceEq, Int.reduceLT, Int.reduceLE, Int.reduceNeg, Int.le_refl, Int.reduceMod]; rw [r.2.2.2.1]
    refine RW_app w12 (fun x hx => (okA x hx).2.1) d16 R'.2.2 ?_ ?_ ?_ ?_
    · rw [s78, ← ew]; exact t2
    · rw [s78, ← ew]; exact t3
    · rw [s79, ← ew]; exact t4
    · rw [s80, ← ew]; exact t5
  · have e : RV (h2.wi 77 l (w + 1)) k = RV h2 k := RV_row (by simp only [true_and, and_true, false_and, and_false, forall_eq, forall_eq', xi_wi, xr_wi, xt_wi, xl_wi, xn_wi, xs_wi, xi_wr, xr_wr, xt_wr, xl_wr, xn_wr, xs_wr, if_true, if_false, and_self, Int.reduceEq, Int.reduceLT, Int.reduceLE, Int.reduceNeg, Int.le_refl, Int.reduceMod]; rw [if_neg hk]) (by simp only [true_and, and_true, false_and, and_false, forall_eq, forall_eq', xi_wi, xr_wi, xt_wi, xl_wi, xn_wi, xs_wi, xi_wr, xr_wr, xt_wr, xl_wr, xn_wr, xs_wr, if_true, if_false, and_self, Int.reduceEq, Int.reduceLT, Int.reduceLE, Int.reduceNeg, Int.le_refl, Int.reduceMod]) (fun _ _ _ => by simp only [true_and, and_true, false_and, and_false, forall_eq, forall_eq', xi_wi, xr_wi, xt_wi, xl_wi, xn_wi, xs_wi, xi_wr, xr_wr, xt_wr, xl_wr, xn_wr, xs_wr, if_true, if_false, and_self, Int.reduceEq, Int.reduceLT, Int.reduceLE, Int.reduceNeg, Int.le_refl, Int.reduceMod]) (fun _ _ _ => by simp only [true_and, and_true, false_and, and_false, forall_eq, forall_eq', xi_wi, xr_wi, xt_wi, xl_wi, xn_wi, xs_wi, xi_wr, xr_wr, xt_wr, xl_wr, xn_wr, xs_wr, if_true, if_false, and_self, Int.reduceEq, Int.reduceLT, Int.reduceLE, Int.reduceNeg, Int.le_refl, Int.reduceMod]) (fun _ _ _ => by simp only [true_and, and_true, false_and, and_false, forall_eq, forall_eq', xi_wi, xr_wi, xt_wi, xl_wi, xn_wi, xs_wi, xi_wr, xr_wr, xt_wr, xl_wr, xn_wr, xs_wr, if_true, if_false, and_self, Int.reduceEq, Int.reduceLT, Int.reduceLE, Int.reduceNeg, Int.le_refl, Int.reduceMod]) (fun _ _ _ => by simp only [true_and, and_true, false_and, and_false, forall_eq, forall_eq', xi_wi, xr_wi, xt_wi, xl_wi, xn_wi, xs_wi, xi_wr, xr_wr, xt_wr, xl_wr, xn_wr, xs_wr, if_true, if_false, and_self, Int.reduceEq, Int.reduceLT, Int.reduceLE, Int.reduceNeg, Int.le_refl, Int.reduceMod]) (fun _ _ _ => by simp only [true_and, and_true, false_and, and_false, forall_eq, forall_eq', xi_wi, xr_wi, xt_wi, xl_wi, xn_wi, xs_wi, xi_wr, xr_wr, xt_wr, xl_wr, xn_wr, xs_wr, if_true, if_false, and_self, Int.reduceEq, Int.reduceLT, Int.reduceLE, Int.reduceNeg, Int.le_refl, Int.reduceMod]) (fun _ _ _ => by simp only [true_and, and_true, false_and, and_false, forall_eq, forall_eq', xi_wi, xr_wi, xt_wi, xl_wi, xn_wi, xs_wi, xi_wr, xr_wr, xt_wr, xl_wr, xn_wr, xs_wr, if_true, if_false, and_self, Int.reduceEq, Int.reduceLT, Int.reduceLE, Int.reduceNeg, Int.le_refl, Int.reduceMod]) (fun _ _ _ => by simp only [true_and, and_true, false_and, and_false, forall_eq, forall_eq', xi_wi, xr_wi, xt_wi, xl_wi, xn_wi, xs_wi, xi_wr, xr_wr, xt_wr, xl_wr, xn_wr, xs_wr, if_true, if_false, and_self, Int.reduceEq, Int.reduceLT, Int.reduceLE, Int.reduceNeg, Int.le_refl, Int.reduceMod]) (fun _ _ _ => by simp only [true_and, and_true, false_and, and_false, forall_eq, forall_eq', xi_wi, xr_wi, xt_wi, xl_wi, xn_wi, xs_wi, xi_wr, xr_wr, xt_wr, xl_wr, xn_wr, xs_wr, if_true, if_false, and_self, Int.reduceEq, Int.reduceLT, Int.reduceLE, Int.reduceNeg, Int.le_refl, Int.reduceMod]) (fun _ _ _ => by simp only [true_and, and_true, false_and, and_false, forall_eq, forall_eq', xi_wi, xr_wi, xt_wi, xl_wi, xn_wi, xs_wi, xi_wr, xr_wr, xt_wr, xl_wr, xn_wr, xs_wr, if_true, if_false, and_self, Int.reduceEq, Int.reduceLT, Int.reduceLE, Int.reduceNeg, Int.le_refl, Int.reduceMod]) (fun _ _ _ => by simp only [true_and, and_true, false_and, and_false, forall_eq, forall_eq', xi_wi, xr_wi, xt_wi, xl_wi, xn_wi, xs_wi, xi_wr, xr_wr, xt_wr, xl_wr, xn_wr, xs_wr, if_true, if_false, and_self, Int.reduceEq, Int.reduceLT, Int.reduceLE, Int.reduceNeg, Int.le_refl, Int.reduceMod])
    have row := fun (c : Int) (hc : c ∉ [(78 : Int), 79, 80]) => Fr_row t1 (c := c) hc (by intro p hp; exact absurd hp List.not_mem_nil)
    rw [e, rv k hk]
    exact RV_row (by rw [row 77 (by decide)]) (by rw [row 81 (by decide)]) (fun _ _ _ => by rw [row 82 (by decide)]) (fun _ _ _ => by rw [row 83 (by decide)]) (fun _ _ _ => by rw [row 84 (by decide)]) (fun _ _ _ => by rw [row 85 (by decide)]) (fun _ _ _ => by rw [row 87 (by decide)]) (fun _ _ _ => by rw [row 88 (by decide)]) (fun _ _ _ => by rw [row 86 (by decide)]) (fun j j0 j1 => by rw [t4, if_neg (by omega)]) (fun j j0 j1 => by rw [t5, if_neg (by omega)]) (fun j j0 j1 => t3 _ (by omega))
theorem ASt_of {h h1 : xH} {ws : List Wd} {bk : Int} (S : SR h) (RL_ : RLang h P V) (okA : ∀ x ∈ ws, WdOk x) (ew : w = ((ws.length : Nat) : Int)) (R : RLn (RV h l) ws) (T : TxW h h1 (12 * l + w) D bk) : ASt P V D l w h1 (flat ws) := by
  obtain ⟨t1, t2, t3, t4, t5⟩ := T
  have row := fun (c : Int) (hc : c ∉ [(78 : Int), 79, 80]) => Fr_row t1 (c := c) hc (by intro p hp; exact absurd hp List.not_mem_nil)
  have R' := RLn_iff.mp R
  exact ⟨SR_2 t1.1 S, RLang_row (row 61 (by decide)) (row 62 (by decide)) (row 63 (by decide)) (row 64 (by decide)) (t1.2 59 6 (by decide) (by decide)) RL_, RS_row (by rw [row 81 (by decide)]) (row 82 (by decide)) (row 83 (by decide)) (row 84 (by decide)) (row 85 (by decide)) (row 86 (by decide)) (row 87 (by decide)) (row 88 (by decide)) R'.1, by rw [row 77 (by decide), ew]; exact R'.2.1, t2, flat_s16 okA⟩
theorem c_R_addWord {h : xH} {Q : Int → xH → Prop} {v : Int} {ws : List Wd} (S : SR h) (RL_ : RLang h P V) (hV : bits26 V) (l0 : 0 ≤ l) (l1 : l < 15) (v0 : 0 ≤ v) (v1 : v < 40) (R : RLn (RV h l) ws) (okA : ∀ x ∈ ws, WdOk x) (w12 : ws.length < 12) (lc : ∀ c ∈ D, 97 ≤ c ∧ c ≤ 122) (d16 : D.length ≤ 16) (l16 : L.length ≤ 16) (ok : PtOk D 0 L) (bs : h.i 69 v = ((D.length : Nat) : Int)) (bm : h.i 70 v = ((L.length : Nat) : Int)) (bt : ∀ j : Nat, j < D.length → h.i 68 (16 * v + j) = D.getD j 0) (bl : ∀ j : Nat, j < L.length → h.i 71 (16 * v + j) = (L.getD j (0, 0)).1 ∧ h.i 72 (16 * v + j) = (L.getD j (0, 0)).2) (f40 : (flat ws).length + L.length ≤ 40) (H : ∀ h', Fr lwL asS h h' → RLn (RV h' l) (ws ++ [(D, 1, mkSy P V D 0 L)]) → (∀ k, k ≠ l → RV h' k = RV h k) → Q 1 h') : xCi (d + 4) M_R_addWord [(1, 59), (0, l), (0, v)] h Q := by
  have y81 : h.i 81 l = (((flat ws).length : Nat) : Int) := R.1
  have w77 : h.i 77 l = ((ws.length : Nat) : Int) := R.2.1
  apply L_R_addWord
  rw [xw_id (a := 12 * l) (by omega) (by omega)]
  simp only [srt S, srl S, srf S, y81, bm, w77, true_and, and_true, false_and, and_false, forall_eq, forall_eq', xi_wi, xr_wi, xt_wi, xl_wi, xn_wi, xs_wi, xi_wr, xr_wr, xt_wr, xl_wr, xn_wr, xs_wr, if_true, if_false, and_self, Int.reduceEq, Int.reduceLT, Int.reduceLE, Int.reduceNeg, Int.le_refl, Int.reduceMod]
  rw [xw_id (a := (((flat ws).length : Nat) : Int) + ((L.length : Nat) : Int)) (by omega) (by omega), if_neg (by omega), xw_id (a := 12 * l + ((ws.length : Nat) : Int)) (by omega) (by omega)]
  refine ⟨⟨l0, l1⟩, ⟨v0, v1⟩, ⟨l0, l1⟩, ?_⟩
  refine c_R_aw24 (D := D) (at_ := 12 * l + ((ws.length : Nat) : Int)) l0 l1 v0 v1 (by omega) (by omega) lc d16 D.length 0 h h _ (Nat.zero_add _) S bs bt (Fr_refl _ _ _) (fun j hj => absurd hj (Nat.not_lt_zero _)) (fun j _ => rfl) (fun h1 T => ?_)
  have Z1 := ASt_of (P := P) (V := V) S RL_ okA rfl R T
  have row := fun (c : Int) (hc : c ∉ [(78 : Int), 79, 80]) => Fr_row T.1 (c := c) hc (by intro p hp; exact absurd hp List.not_mem_nil)
  refine c_R_aw65 (d := d) (L := L) (D := D) l0 l1 (by omega) (by omega) v0 v1 hV lc d16 l16 ok L.length 0 (flat ws) h1 _ (Nat.zero_add _) Z1 f40 (by rw [row 70 (by decide)]; exact bm) (by rw [row 71 (by decide), row 72 (by decide)]; exact bl) (fun h2 F2 Z2 rv => ?_)
  have z := word_more (bk := 1) okA w12 rfl d16 R T F2 Z2 rv l0 l1
  exact H _ (Fr_cell (Fr_trans (Fr_mono T.1 (by decide) (fun c m => absurd m List.not_mem_nil)) (Fr_mono F2 (fun c m => List.mem_append_right _ m) (fun c m => m))) _ _ (by decide)) z.1 z.2
end RWA
