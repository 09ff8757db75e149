/-! a line of the class: its methods that only read; syllable -/
theorem xand_4 : ∀ k : Fin 8, xand (k.val : Int) 4 = if k.val < 4 then 0 else 4 := by decide +kernel
theorem xand_4' {t : Int} (h0 : 0 ≤ t) (h1 : t < 8) : xand t 4 = if t < 4 then 0 else 4 := by
  have z := xand_4 ⟨t.toNat, by omega⟩
  simp only [show ((t.toNat : Nat) : Int) = t by omega] at z
  rw [z]
  by_cases c : t < 4
  · rw [if_pos c, if_pos (by omega)]
  · rw [if_neg c, if_neg (by omega)]
theorem opn_01 {s : List (Int × Int)} (h : ∀ p ∈ s, SnOk p) : opn s = 0 ∨ opn s = 1 := by
  unfold opn
  cases s with
  | nil => exact Or.inl rfl
  | cons p r => exact (h p List.mem_cons_self).1
theorem cls_01 {s : List (Int × Int)} (h : ∀ p ∈ s, SnOk p) : cls s = 0 ∨ cls s = 1 := by
  unfold cls
  rw [List.getLastD_eq_getLast?]
  cases e : s.getLast? with
  | none => exact Or.inl rfl
  | some p => exact (h p (List.mem_of_getLast? e)).1
theorem psm_all : ∀ (ws : List Wd) (w : Int), (∀ d ∈ ws, WdOk d) → psm (flatF w ws) (flatF w ws).length = ((txt ws).length : Nat) := by
  intro ws
  induction ws with
  | nil => intro w _; rfl
  | cons d r ih =>
    intro w ok
    have okd := ok d List.mem_cons_self
    have z := ih (w + 1) (fun x hx => ok x (List.mem_cons_of_mem _ hx))
    have et : txt (d :: r) = d.1 ++ txt r := by unfold txt; rw [List.map_cons, List.flatten_cons]
    rw [flatF, List.length_append, psm_app_r (by omega), fsyl_n, okd.2.2.2.2.2.2, Nat.add_sub_cancel_left, z, et, List.length_append]
    push_cast; rfl
theorem txt_le : ∀ L : List Wd, (∀ d ∈ L, WdOk d) → (txt L).length ≤ 16 * L.length := by
  intro L
  induction L with
  | nil => intro _; exact Nat.le_refl _
  | cons d r ih =>
    intro o
    have a := (o d List.mem_cons_self).2.1
    have b := ih (fun x hx => o x (List.mem_cons_of_mem _ hx))
    have et : txt (d :: r) = d.1 ++ txt r := by unfold txt; rw [List.map_cons, List.flatten_cons]
    rw [et, List.length_append, List.length_cons]; omega
/-- a row of syllables of the class with room for n of them, of t letters -/
def XSh (h : xH) (p n t : Int) : Prop := h.tag p = 9 ∧ h.tag (h.r p 0) = 20 ∧ h.tag (h.r p 1) = 20 ∧ h.tag (h.r p 2) = 20 ∧ h.tag (h.r p 3) = 20 ∧ h.tag (h.r p 4) = 20 ∧ t ≤ h.len (h.r p 0) ∧ n + 1 ≤ h.len (h.r p 1) ∧ n ≤ h.len (h.r p 2) ∧ n ≤ h.len (h.r p 3) ∧ n ≤ h.len (h.r p 4)
theorem XSh_B {h : xH} {p : Int} {ws : List Wd} (B : SylB h p) (ok : LnOk ws) (X : XLn (XV h p) ws) : XSh h p ((flat ws).length : Nat) ((txt ws).length : Nat) := by
  obtain ⟨b1, b2, b3, b4, b5, b6, b7, b8, b9, b10, b11, b12, b13, b14, b15, b16, b17, b18, b19⟩ := B
  have x0 : h.i p 6 = ((flat ws).length : Nat) := X.1
  have x2 : h.i (h.r p 1) ((flat ws).length : Nat) = psm (flat ws) (flat ws).length := X.2.2.1 _ (Nat.le_refl _)
  rw [show psm (flat ws) (flat ws).length = ((txt ws).length : Nat) from psm_all ws 0 ok.2.2, b5] at x2
  unfold XSh
  rw [b4, b5, b6, b7, b8, b14, b15, b16, b17, b18, x0, x2]
  exact ⟨b3, b9, b10, b11, b12, b13, Int.le_refl _, Int.le_refl _, Int.le_refl _, Int.le_refl _, Int.le_refl _⟩
section XLC
variable {d : Nat} {h : xH} {Q : Int → xH → Prop} {p : Int} {ws : List Wd}
theorem c_X_letterCount (ok : LnOk ws) (X : XLn (XV h p) ws) (Z : XSh h p ((flat ws).length : Nat) ((txt ws).length : Nat)) (H : Q ((txt ws).length : Nat) h) : xCi (d + 1) M_Syllables_letterCount [(1, p)] h Q := by
  apply L_Syllables_letterCount
  have x0 : h.i p 6 = ((flat ws).length : Nat) := X.1
  have x2 : h.i (h.r p 1) ((flat ws).length : Nat) = psm (flat ws) (flat ws).length := X.2.2.1 _ (Nat.le_refl _)
  rw [show psm (flat ws) (flat ws).length = ((txt ws).length : Nat) from psm_all ws 0 ok.2.2] at x2
  rw [x0, x2]
  exact ⟨Z.1, ⟨Z.2.2.1, Int.natCast_nonneg _, by have := Z.2.2.2.2.2.2.2.1; omega⟩, H⟩
theorem c_X_lettersIn {i : Nat} (ok : LnOk ws) (X : XLn (XV h p) ws) (Z : XSh h p ((flat ws).length : Nat) ((txt ws).length : Nat)) (hi : i < (flat ws).length) (H : Q ((flat ws).getD i fs0).n h) : xCi (d + 1) M_Syllables_lettersIn [(1, p), (0, (i : Int))] h Q := by
  apply L_Syllables_lettersIn
  have x0 : h.i p 6 = ((flat ws).length : Nat) := X.1
  have xa : h.i (h.r p 1) (i : Int) = psm (flat ws) i := X.2.2.1 _ (by omega)
  have xb : h.i (h.r p 1) ((i + 1 : Nat) : Int) = psm (flat ws) (i + 1) := X.2.2.1 (i + 1) (by omega)
  rw [psm_succ hi] at xb
  obtain ⟨j, j1, j2, j3, j4, j5, j6, j7⟩ := flat_get ok hi
  have wl := (ok.2.2 _ (getD_mem wd0 j1)).2.1
  have n1 : 1 ≤ ((flat ws).getD i fs0).n := j6.1
  have o := ok.2.1
  have zl := Z.2.2.2.2.2.2.2.1
  have e3 : psm (flat ws) i + ((flat ws).getD i fs0).n - psm (flat ws) i = ((flat ws).getD i fs0).n := by omega
  have i0 : ¬ ((i : Int) < 0) := by omega
  have i1 : (i : Int) < (((flat ws).length : Nat) : Int) := by omega
  have g1 : (0 : Int) ≤ ((i + 1 : Nat) : Int) ∧ ((i + 1 : Nat) : Int) < h.len (h.r p 1) := by omega
  have g2 : (0 : Int) ≤ (i : Int) ∧ (i : Int) < h.len (h.r p 1) := by omega
  rw [if_neg i0, x0, if_pos i1, show xw ((i : Int) + 1) = ((i + 1 : Nat) : Int) from by rw [xw_id (by omega) (by omega)]; omega, xb, xa, e3, xw_id (by omega) (by omega)]
  exact ⟨Z.1, ⟨Z.2.2.1, g1⟩, ⟨Z.2.2.1, g2⟩, H⟩
theorem c_X_letterAt {k : Nat} (ok : LnOk ws) (X : XLn (XV h p) ws) (Z : XSh h p ((flat ws).length : Nat) ((txt ws).length : Nat)) (hk : k < (txt ws).length) (H : Q ((txt ws).getD k 0) h) : xCi (d + 2) M_Syllables_letterAt [(1, p), (0, (k : Int))] h Q := by
  apply L_Syllables_letterAt
  have xl : h.i (h.r p 0) (k : Int) = (txt ws).getD k 0 := X.2.2.2 k hk
  have zl := Z.2.2.2.2.2.2.1
  rw [if_neg (by omega)]
  refine ⟨Z.1, c_X_letterCount ok X Z ?_⟩
  rw [if_pos (by omega), xl]
  exact ⟨Z.1, ⟨Z.2.1, by omega, by omega⟩, H⟩
theorem c_X_letterIn {i : Nat} {v : Int} (ok : LnOk ws) (X : XLn (XV h p) ws) (Z : XSh h p ((flat ws).length : Nat) ((txt ws).length : Nat)) (hi : i < (flat ws).length) (H : Q (if 0 ≤ v ∧ v < ((flat ws).getD i fs0).n then (ws.getD ((flat ws).getD i fs0).w.toNat wd0).1.getD (((flat ws).getD i fs0).f + v).toNat 0 else -1) h) : xCi (d + 3) M_Syllables_letterIn [(1, p), (0, (i : Int)), (0, v)] h Q := by
  apply L_Syllables_letterIn
  refine x_if (fun c => by rw [if_neg (by omega)] at H; exact H) (fun c => ⟨Z.1, c_X_lettersIn ok X Z hi ?_⟩)
  refine x_if (fun c2 => ?_) (fun c2 => by rw [if_neg (by omega)] at H; exact H)
  rw [if_pos (by omega)] at H
  have xa : h.i (h.r p 1) (i : Int) = psm (flat ws) i := X.2.2.1 _ (by omega)
  have zl := Z.2.2.2.2.2.2.2.1
  obtain ⟨j, j1, j2, j3, j4, j5, j6, j7⟩ := flat_get ok hi
  rw [j2, Int.toNat_natCast] at H
  have t := txt_get ws j (((flat ws).getD i fs0).f + v).toNat j1 (by omega)
  have tl := txt_le ws ok.2.2
  have o := ok.1
  rw [xa, j7]
  have e : (tsm ws j : Nat) + ((flat ws).getD i fs0).f + v = ((tsm ws j + (((flat ws).getD i fs0).f + v).toNat : Nat) : Int) := by omega
  rw [e, xw_id (by omega) (by omega)]
  refine ⟨Z.1, ⟨Z.2.2.1, by omega, by omega⟩, c_X_letterAt ok X Z t.1 ?_⟩
  rw [t.2]
  exact H
/-- the words that it has -/
theorem c_X_wordCount (ok : LnOk ws) (X : XLn (XV h p) ws) (Z : XSh h p ((flat ws).length : Nat) ((txt ws).length : Nat)) (H : Q (ws.length : Nat) h) : xCi (d + 1) M_Syllables_wordCount [(1, p)] h Q := by
  apply L_Syllables_wordCount
  have x0 : h.i p 6 = ((flat ws).length : Nat) := X.1
  have zl := Z.2.2.2.2.2.2.2.2.1
  rw [x0]
  refine ⟨Z.1, x_if (fun c => ?_) (fun c => ?_)⟩
  · cases ws with
    | nil => exact H
    | cons d r =>
      have q := (flatF_last (d :: r) 0 ok.2.2 (by rw [List.length_cons]; omega)).1
      unfold flat at c
      omega
  · have w1 : 1 ≤ ws.length := by
      cases ws with
      | nil => exact absurd rfl c
      | cons d r => rw [List.length_cons]; omega
    have q := flatF_last ws 0 ok.2.2 w1
    have o := ok.2.1
    have o1 := ok.1
    have g1 : (0 : Int) ≤ (((flat ws).length - 1 : Nat) : Int) ∧ (((flat ws).length - 1 : Nat) : Int) < h.len (h.r p 2) := by omega
    have x3 : h.i (h.r p 2) (((flat ws).length - 1 : Nat) : Int) = ((flat ws).getD ((flat ws).length - 1) fs0).w := (X.2.1 _ (by omega)).1
    have q2 : ((flat ws).getD ((flat ws).length - 1) fs0).w = (ws.length : Nat) - 1 := by have := q.2; unfold flat; omega
    rw [show xw ((((flat ws).length : Nat) : Int) - 1) = (((flat ws).length - 1 : Nat) : Int) from by rw [xw_id (by omega) (by omega)]; omega, x3, q2]
    rw [show xw (((ws.length : Nat) : Int) - 1 + 1) = (ws.length : Nat) from by rw [xw_id (by omega) (by omega)]; omega]
    exact ⟨⟨Z.2.2.2.1, g1⟩, H⟩
end XLC
