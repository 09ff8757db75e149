/-! rhymes of the class: full and half -/
def enOk (E : List (Int × Int)) : Prop := ∀ p ∈ E, SnOk p
def XEnd (h : xH) (p : Int) (E : List (Int × Int)) : Prop := h.tag p = 9 ∧ h.r p 5 ≠ 0 ∧ h.tag (h.r p 5) = 20 ∧ h.len (h.r p 5) = (E.length : Nat) ∧ ∀ k : Nat, k < E.length → h.i (h.r p 5) k = 2 * scode (E.getD k (0, 0)).1 + (E.getD k (0, 0)).2
theorem scode_rg {p : Int × Int} (h : SnOk p) : 1 ≤ scode p.1 ∧ scode p.1 < 1000 := by
  unfold scode
  obtain ⟨-, q⟩ := h
  split <;> omega
theorem scode_inj {p q : Int × Int} (hp : SnOk p) (hq : SnOk q) (e : scode p.1 = scode q.1) : p.1 = q.1 := by
  obtain ⟨-, a⟩ := hp
  obtain ⟨-, b⟩ := hq
  unfold scode at e
  by_cases c : p.1 < 100
  · rw [if_pos c] at e
    by_cases c2 : q.1 < 100
    · rw [if_pos c2] at e; omega
    · rw [if_neg c2] at e; omega
  · rw [if_neg c] at e
    by_cases c2 : q.1 < 100
    · rw [if_pos c2] at e; omega
    · rw [if_neg c2] at e; omega
theorem drop_at {α : Type} (d : α) {E : List α} {k : Nat} (hk : k < E.length) : E.drop k = E.getD k d :: E.drop (k + 1) := by
  rw [List.drop_eq_getElem_cons hk, List.getD_eq_getElem?_getD, List.getElem?_eq_getElem hk]; rfl
theorem xend_sh {h : xH} {p : Int} {E : List (Int × Int)} (X : XEnd h p E) (ok : enOk E) {k : Nat} (hk : k < E.length) : xshr (h.i (h.r p 5) k) 1 = scode (E.getD k (0, 0)).1 := by
  have s := ok _ (getD_mem (0, 0) hk)
  have r := scode_rg s
  have v := s.1
  rw [X.2.2.2.2 k hk]
  have z := sp_sh (s := 2 * scode (E.getD k (0, 0)).1 + (E.getD k (0, 0)).2) 1 (by omega) (by omega) (by decide)
  rw [show ((1 : Nat) : Int) = 1 from rfl] at z
  rw [z]
  omega
def samF (E F : List (Int × Int)) : Bool := decide (E.map (fun p => p.1) = F.map (fun p => p.1))
theorem c_X_full_17 {d : Nat} {h : xH} {Q : Int → xH → Prop} {p q : Int} {E F : List (Int × Int)} (XE : XEnd h p E) (XF : XEnd h q F) (oE : enOk E) (oF : enOk F) (hl : E.length = F.length) (l6 : E.length < 1000) : ∀ (n k : Nat), k + n = E.length → Q (if samF (E.drop k) (F.drop k) = true then 1 else 0) h → xT d M_Syllables_fullRhyme 17 [(1, p), (1, q), (0, (k : Int))] [] h (xqi Q) := by
  intro n
  induction n with
  | zero =>
    intro k e H
    apply L_Syllables_fullRhyme_17
    rw [XE.2.2.2.1, if_neg (by omega)]
    rw [List.drop_of_length_le (by omega), List.drop_of_length_le (by omega), if_pos (by unfold samF; rfl)] at H
    exact ⟨XE.1, XE.2.2.1, H⟩
  | succ n ih =>
    intro k e H
    have k1 : k < E.length := by omega
    have k2 : k < F.length := by omega
    apply L_Syllables_fullRhyme_17
    rw [XE.2.2.2.1, XF.2.2.2.1, if_pos (by omega), if_pos (by omega), xend_sh XE oE k1, xend_sh XF oF k2, xw_id (by omega) (by omega)]
    refine ⟨XE.1, XE.2.2.1, XF.1, XF.2.2.1, ⟨XE.2.2.1, by omega, by omega⟩, ⟨XF.2.2.1, by omega, by omega⟩, ?_⟩
    rw [drop_at (0, 0) k1, drop_at (0, 0) k2] at H
    unfold samF at H
    rw [List.map_cons, List.map_cons] at H
    refine x_if (fun c => ?_) (fun c => ?_)
    · have e1 := scode_inj (oE _ (getD_mem (0, 0) k1)) (oF _ (getD_mem (0, 0) k2)) c
      intro x1 q1
      rw [q1, show (k : Int) + 1 = ((k + 1 : Nat) : Int) by omega]
      refine ih (k + 1) (by omega) ?_
      unfold samF
      simp only [e1, List.cons.injEq, true_and] at H
      exact H
    · have ne : (E.getD k (0, 0)).1 ≠ (F.getD k (0, 0)).1 := fun q => c (by rw [q])
      simp only [List.cons.injEq, ne, false_and, decide_false, Bool.false_eq_true, if_false] at H
      exact H
theorem c_X_fullRhyme {d : Nat} {h : xH} {Q : Int → xH → Prop} {p q : Int} {E F : List (Int × Int)} (XE : XEnd h p E) (XF : XEnd h q F) (oE : enOk E) (oF : enOk F) (l6 : E.length < 1000) (H : Q (if samF E F = true then 1 else 0) h) : xCi (d + 1) M_Syllables_fullRhyme [(1, p), (1, q)] h Q := by
  apply L_Syllables_fullRhyme
  rw [if_neg XE.2.1, if_neg XF.2.1, XE.2.2.2.1, XF.2.2.2.1]
  refine ⟨XE.1, XF.1, XE.2.2.1, XF.2.2.1, x_if (fun c => ?_) (fun c => ?_)⟩
  · exact c_X_full_17 XE XF oE oF (by omega) l6 E.length 0 (by omega) (by rw [List.drop_zero, List.drop_zero]; exact H)
  · have : samF E F = false := by
      unfold samF
      refine decide_eq_false (fun q => c ?_)
      have z := congrArg List.length q
      rw [List.length_map, List.length_map] at z
      omega
    rw [this] at H
    exact H
/-- the first vowel from k on, or the length -/
def nv (E : List (Int × Int)) (k : Nat) : Nat := k + (E.drop k).findIdx (fun p => decide (p.2 = 1))
theorem nv_le {E : List (Int × Int)} {k : Nat} (hk : k ≤ E.length) : k ≤ nv E k ∧ nv E k ≤ E.length := by
  have z := List.findIdx_le_length (p := fun p : Int × Int => decide (p.2 = 1)) (xs := E.drop k)
  rw [List.length_drop] at z
  unfold nv
  omega
theorem nv_step {E : List (Int × Int)} {k : Nat} (hk : k < E.length) : nv E k = if (E.getD k (0, 0)).2 = 1 then k else nv E (k + 1) := by
  unfold nv
  rw [drop_at (0, 0) hk, List.findIdx_cons]
  by_cases c : (E.getD k (0, 0)).2 = 1
  · rw [if_pos c, decide_eq_true c]; rfl
  · rw [if_neg c, decide_eq_false c]
    show k + (_ + 1) = _
    omega
theorem c_X_vowelFrom_2 {d : Nat} {h : xH} {Q : Int → xH → Prop} {p : Int} {E : List (Int × Int)} (XE : XEnd h p E) (oE : enOk E) (l6 : E.length < 1000) : ∀ (n k : Nat) (u : xV), k + n = E.length → Q (nv E k : Nat) h → xT d M_Syllables_vowelFrom 2 [(1, p), u, (0, (k : Int))] [] h (xqi Q) := by
  intro n
  induction n with
  | zero =>
    intro k u e H
    apply L_Syllables_vowelFrom_2
    have z := nv_le (E := E) (k := k) (by omega)
    rw [if_neg XE.2.1, XE.2.2.2.1, if_neg (by omega), if_neg XE.2.1]
    rw [show nv E k = E.length by omega] at H
    exact ⟨XE.1, XE.2.2.1, H⟩
  | succ n ih =>
    intro k u e H
    have k1 : k < E.length := by omega
    have s := oE _ (getD_mem (0, 0) k1)
    have r := scode_rg s
    have v := s.1
    apply L_Syllables_vowelFrom_2
    rw [if_neg XE.2.1, XE.2.2.2.1, if_pos (by omega), XE.2.2.2.2 k k1, xand_1 (by omega), xw_id (by omega) (by omega)]
    refine ⟨XE.1, XE.2.2.1, ⟨XE.2.2.1, by omega, by omega⟩, ?_⟩
    rw [nv_step k1] at H
    refine x_if (fun c => ?_) (fun c => ?_)
    · rw [if_pos (by omega)] at H
      exact H
    · rw [if_neg (by omega)] at H
      intro x1 q1
      rw [q1, show (k : Int) + 1 = ((k + 1 : Nat) : Int) by omega]
      exact ih (k + 1) (xkl u) (by omega) H
theorem c_X_vowelFrom {d : Nat} {h : xH} {Q : Int → xH → Prop} {p : Int} {E : List (Int × Int)} {k : Nat} (XE : XEnd h p E) (oE : enOk E) (l6 : E.length < 1000) (hk : k ≤ E.length) (H : Q (nv E k : Nat) h) : xCi (d + 1) M_Syllables_vowelFrom [(1, p), (0, (k : Int))] h Q := by
  apply L_Syllables_vowelFrom
  exact c_X_vowelFrom_2 XE oE l6 (E.length - k) k _ (by omega) H
def vws (E : List (Int × Int)) : List (Int × Int) := E.filter (fun p => decide (p.2 = 1))
theorem nv_vws {E : List (Int × Int)} : ∀ (n k : Nat), k + n = E.length → (nv E k = E.length ∧ vws (E.drop k) = []) ∨ (nv E k < E.length ∧ (E.getD (nv E k) (0, 0)).2 = 1 ∧ vws (E.drop k) = E.getD (nv E k) (0, 0) :: vws (E.drop (nv E k + 1))) := by
  intro n
  induction n with
  | zero =>
    intro k e
    left
    have z := nv_le (E := E) (k := k) (by omega)
    rw [List.drop_of_length_le (by omega)]
    exact ⟨by omega, rfl⟩
  | succ n ih =>
    intro k e
    have k1 : k < E.length := by omega
    rw [nv_step k1]
    by_cases c : (E.getD k (0, 0)).2 = 1
    · rw [if_pos c]
      right
      refine ⟨k1, c, ?_⟩
      rw [drop_at (0, 0) k1]
      unfold vws
      rw [List.filter_cons_of_pos (by exact decide_eq_true c)]
    · rw [if_neg c]
      have ed : vws (E.drop k) = vws (E.drop (k + 1)) := by
        rw [drop_at (0, 0) k1]
        unfold vws
        rw [List.filter_cons_of_neg (by intro z; exact c (of_decide_eq_true z))]
      rw [ed]
      exact ih (k + 1) (by omega)
