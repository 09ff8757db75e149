/-! the book of the class: letters held against others, the place of a word -/
def eqP (f g : Int → Int) (m n : Int) : Prop := m = n ∧ ∀ j, 0 ≤ j → j < m → f j = g j
/-- object p of the class holds m letters f -/
def XLet (h : xH) (p : Int) (f : Int → Int) (m : Int) : Prop := h.tag p = 9 ∧ h.tag (h.r p 0) = 20 ∧ h.tag (h.r p 1) = 20 ∧ 0 ≤ m ∧ m ≤ 192 ∧ m ≤ h.len (h.r p 0) ∧ 0 ≤ h.i p 6 ∧ h.i p 6 < h.len (h.r p 1) ∧ h.i (h.r p 1) (h.i p 6) = m ∧ h.i (h.r p 0) = f ∧ ∀ j, 0 ≤ j → j < m → 97 ≤ f j ∧ f j ≤ 122
section CMP
variable {d : Nat} {h : xH} {Q : Int → xH → Prop} {p q b e m : Int} {f g : Int → Int}
theorem c_cmp_5 (X : XLet h p f m) (tq : h.tag q = 20) (b0 : 0 ≤ b) (be : b ≤ e) (el : e ≤ h.len q) (e1 : e ≤ 1000) (hg : ∀ j, g j = h.i q (b + j)) (gr : ∀ j, 0 ≤ j → j < e - b → -1000 ≤ g j ∧ g j ≤ 1000) (H : ∀ v, (v = 0 ↔ eqP f g m (e - b)) → (v < 0 ↔ lexl f g m (e - b)) → Q v h) : ∀ (n : Nat) (i : Int) (u6 : xV), 0 ≤ i → i + n = m → i ≤ e - b → (∀ j, 0 ≤ j → j < i → f j = g j) → xT d M_Syllables_compareLetters 5 [(1, p), (1, q), (0, b), (0, e), (0, m), (0, i), u6] [] h (xqi Q) := by
  obtain ⟨x1, x2, x3, x4, x5, x6, x7, x8, x9, x10, x11⟩ := X
  intro n
  induction n with
  | zero =>
    intro i u6 i0 im ie pre
    apply L_Syllables_compareLetters_5
    rw [if_neg (by omega), xw_id (by omega) (by omega)]
    refine x_if (fun c => H (-1) ⟨fun z => absurd z (by decide), fun z => ?_⟩ ⟨fun _ => ?_, fun _ => by decide⟩) (fun c => H 0 ⟨fun _ => ?_, fun _ => rfl⟩ ⟨fun z => absurd z (by decide), fun z => ?_⟩)
    · have := z.1; omega
    · exact ⟨m, x4, Int.le_refl _, by omega, fun j j0 j1 => pre j j0 (by omega), Or.inl ⟨rfl, by omega⟩⟩
    · exact ⟨by omega, fun j j0 j1 => pre j j0 (by omega)⟩
    · obtain ⟨k, k0, k1, k2, k3, k4⟩ := z
      rcases k4 with w | w
      · omega
      · have := pre k k0 (by omega); omega
  | succ n ih =>
    intro i u6 i0 im ie pre
    have fi := x11 i i0 (by omega)
    apply L_Syllables_compareLetters_5
    rw [if_pos (by omega), x10, if_pos (by omega), xw_id (a := b + i) (by omega) (by omega), xw_id (a := i + 1) (by omega) (by omega)]
    refine ⟨x1, x2, ?_⟩
    intro y1 ye
    rw [ye, if_neg (by omega)]
    refine x_if (fun c => ?_) (fun c => H 1 ⟨fun z => absurd z (by decide), fun z => ?_⟩ ⟨fun z => absurd z (by decide), fun z => ?_⟩)
    · have gi := gr i i0 (by omega)
      rw [← hg i, if_pos (by omega)]
      refine ⟨tq, ⟨x2, i0, by omega⟩, ⟨tq, by omega, by omega⟩, x_if (fun c2 => ?_) (fun c2 => ?_)⟩
      · intro z1 ze
        rw [ze]
        refine ih (i + 1) _ (by omega) (by omega) (by omega) (fun j j0 j1 => ?_)
        by_cases w : j = i
        · rw [w]; exact c2
        · exact pre j j0 (by omega)
      · rw [xw_id (by omega) (by omega)]
        refine ⟨⟨x2, i0, by omega⟩, ⟨tq, by omega, by omega⟩, H _ ⟨fun z => absurd (by omega) c2, fun z => absurd (z.2 i i0 (by omega)) c2⟩ ⟨fun z => ?_, fun z => ?_⟩⟩
        · exact ⟨i, i0, by omega, by omega, pre, Or.inr ⟨by omega, by omega, by omega⟩⟩
        · obtain ⟨k, k0, k1, k2, k3, k4⟩ := z
          by_cases w : k < i
          · rcases k4 with y | y
            · omega
            · have := pre k k0 w; omega
          · by_cases w2 : k = i
            · subst w2
              rcases k4 with y | y
              · omega
              · omega
            · exact absurd (k3 i i0 (by omega)) c2
    · have := z.1; omega
    · obtain ⟨k, k0, k1, k2, k3, k4⟩ := z
      rcases k4 with w | w
      · omega
      · have := pre k k0 (by omega); omega
theorem c_cmp (X : XLet h p f m) (tq : h.tag q = 20) (b0 : 0 ≤ b) (be : b ≤ e) (el : e ≤ h.len q) (e1 : e ≤ 1000) (hg : ∀ j, g j = h.i q (b + j)) (gr : ∀ j, 0 ≤ j → j < e - b → -1000 ≤ g j ∧ g j ≤ 1000) (H : ∀ v, (v = 0 ↔ eqP f g m (e - b)) → (v < 0 ↔ lexl f g m (e - b)) → Q v h) : xCi (d + 2) M_Syllables_compareLetters [(1, p), (1, q), (0, b), (0, e)] h Q := by
  have X0 := X
  obtain ⟨x1, x2, x3, x4, x5, x6, x7, x8, x9, x10, x11⟩ := X
  apply L_Syllables_compareLetters
  refine ⟨x1, ?_⟩
  apply L_Syllables_letterCount
  rw [x9]
  refine ⟨x1, ⟨x3, x7, x8⟩, ?_⟩
  exact c_cmp_5 X0 tq b0 be el e1 hg gr H m.toNat 0 _ (by omega) (by omega) (by omega) (fun j j0 j1 => by omega)
end CMP
theorem XLet_book {h : xH} {p v : Int} (B : BookRel h p v) : XLet h p (h.i (p + 1)) (h.i 69 v) ∧ h.len (p + 1) = h.i 69 v := by
  obtain ⟨sb, a1, a2, a3, a4, a5, a6, a7, a8⟩ := B
  obtain ⟨b1, b2, b3, b4, b5, b6, b7, b8, b9, b10, b11, b12, b13, b14, b15, b16, b17, b18, b19⟩ := sb
  have up : ∀ s : Nat, (s : Int) ≤ h.i 70 v → 0 ≤ h.i (p + 2) s := by
    intro s
    induction s with
    | zero => intro _; show 0 ≤ h.i (p + 2) 0; omega
    | succ s ih =>
      intro hs
      have z := a7 s (by omega) (by omega)
      have y := ih (by omega)
      rw [show ((s + 1 : Nat) : Int) = (s : Int) + 1 by omega]
      omega
  have z0 := up (h.i 70 v).toNat (by omega)
  rw [show (((h.i 70 v).toNat : Nat) : Int) = h.i 70 v by omega, a6] at z0
  refine ⟨⟨b3, by rw [b4]; exact b9, by rw [b5]; exact b10, z0, by omega, ?_, by omega, ?_, ?_, by rw [b4], fun j j0 j1 => ?_⟩, ?_⟩
  · rw [b4, b14, a1, a6]; exact Int.le_refl _
  · rw [b5, b15]; omega
  · rw [b5, a1, a6]
  · have := a8 j j0 j1; omega
  · rw [b14, a1, a6]
