/-! word: the book stands, where a word is told anew and where one is new -/
section BKW
variable {h hf : xH} {l : List Int} {l2 : List (Int × Int)} {a p t w : Int} {G : Int → Int}
theorem bk_dist (iB : I_book h) : ∀ x y, 0 ≤ x → x < h.i 59 16 → 0 ≤ y → y < h.i 59 16 → x ≠ y → h.i 69 x = h.i 69 y → (∀ k, 0 ≤ k → k < h.i 69 x → h.i 68 (16 * x + k) = h.i 68 (16 * y + k)) → False := by
  intro x y x0 x1 y0 y1 ne e1 e2
  by_cases q : x < y
  · exact iB.2.2.2.2.2.2 x y x0 q y1 ⟨e1, e2⟩
  · exact iB.2.2.2.2.2.2 y x y0 (by omega) x1 ⟨e1.symm, fun k k0 k1 => (e2 k k0 (by omega)).symm⟩
theorem WM_one (iB : I_book h) {x y : Int} (x0 : 0 ≤ x) (x1 : x < h.i 59 16) (y0 : 0 ≤ y) (y1 : y < h.i 59 16) (A : WM h G t x) (B : WM h G t y) : x = y := by
  by_cases q : x = y
  · exact q
  · exact (bk_dist iB x y x0 x1 y0 y1 q (by rw [A.1, B.1]) (fun k k0 k1 => by rw [A.1] at k1; rw [A.2 k k0 k1, B.2 k k0 k1])).elim
theorem ent_one (iB : I_book h) {x y v u : Int} (x0 : 0 ≤ x) (x1 : x < h.i 59 16) (y0 : 0 ≤ y) (y1 : y < h.i 59 16) (Bx : BookRel h (h.r 8 x) v) (By : BookRel h (h.r 8 y) u) (A : WM h G t v) (C : WM h G t u) : x = y := by
  have E := (WM_iff Bx).mpr A
  have Em := (WM_iff By).mpr C
  by_cases q : x < y
  · exact absurd (lexl_eq Em (iB.2.2.2.2.2.1 x y x0 q y1)) (lexl_irr E)
  · by_cases q2 : y < x
    · exact absurd (lexl_eq E (iB.2.2.2.2.2.1 y x y0 q2 x1)) (lexl_irr Em)
    · omega
/-- rows that are as they were but at word w -/
def RowsW (h hf : xH) (w : Int) : Prop := (∀ v, v ≠ w → hf.i 69 v = h.i 69 v ∧ hf.i 70 v = h.i 70 v) ∧ ∀ k, (k < 16 * w ∨ 16 * w + 16 ≤ k) → hf.i 68 k = h.i 68 k ∧ hf.i 71 k = h.i 71 k ∧ hf.i 72 k = h.i 72 k
theorem BookRel_rw (F : FA l l2 [8] [] h hf) (lw : low l l2 [8] [] = true) (hT : Tok h hf) (Rw : RowsW h hf w) {q v : Int} (ne : v ≠ w) (B : BookRel h q v) : BookRel hf q v := by
  refine BookRel_mv F lw hT (Rw.1 v ne).1 (Rw.1 v ne).2 (fun j j0 j1 => ?_) B
  have r := Rw.2 (16 * v + j) (by omega)
  exact ⟨Or.inl r.1, r.2.1, r.2.2⟩
theorem ent_row (F : FA l l2 [8] [] h hf) (lw : low l l2 [8] [] = true) {q v : Int} (B : BookRel h q v) : hf.i (q + 1) = h.i (q + 1) ∧ hf.len (q + 1) = h.len (q + 1) := by
  have s1 := SylB_rows F lw B.1
  exact ⟨s1.2.2.1, s1.2.2.2.2.2.2.2⟩
theorem I_book_repl (iB : I_book h) (F : FA l l2 [8] [] h hf) (lw : low l l2 [8] [] = true) (hT : Tok h hf) (a0 : 0 ≤ a) (a1 : a < h.i 59 16) (w0 : 0 ≤ w) (w1 : w < h.i 59 16) (Ba : BookRel h (h.r 8 a) w) (M : WM h G t w) (Rw : RowsW h hf w) (N : BookRel hf p w) (np : hf.len (p + 1) = t) (ng : ∀ k, 0 ≤ k → k < t → hf.i (p + 1) k = G k) (M' : WM hf G t w) (r8 : ∀ j, hf.r 8 j = if j = a then p else h.r 8 j) (s1 : hf.i 7 2 = h.i 59 16) (s2 : hf.i 59 16 = h.i 59 16) : I_book hf := by
  have dist := bk_dist iB
  have Ea := (WM_iff Ba).mpr M
  refine ⟨by rw [s1, s2], by rw [s2]; exact iB.2.1, by rw [s2]; exact iB.2.2.1, fun j k0 k1 => ?_, fun u u0 u1 => ?_, fun j k k0 k1 k2 => ?_, fun u v u0 uv v1 => ?_⟩
  · rw [s2] at k1 ⊢
    rw [r8]
    by_cases c : j = a
    · rw [if_pos c]; exact ⟨w, w0, w1, N⟩
    · rw [if_neg c]
      obtain ⟨v, v0, v1, B⟩ := iB.2.2.2.1 j k0 k1
      have ne : v ≠ w := fun z => c (ent_one iB k0 k1 a0 a1 B Ba (by rw [z]; exact M) M)
      exact ⟨v, v0, v1, BookRel_rw F lw hT Rw ne B⟩
  · rw [s2] at u1 ⊢
    by_cases c : u = w
    · exact ⟨a, a0, a1, by rw [r8, if_pos rfl, c]; exact N⟩
    · obtain ⟨m, m0, m1, B⟩ := iB.2.2.2.2.1 u u0 u1
      have ma : m ≠ a := fun z => by
        rw [z] at B
        exact c (WM_one iB u0 u1 w0 w1 ((WM_iff B).mp Ea) M)
      exact ⟨m, m0, m1, by rw [r8, if_neg ma]; exact BookRel_rw F lw hT Rw c B⟩
  · rw [s2] at k2
    have srt0 := iB.2.2.2.2.2.1 j k k0 k1 k2
    obtain ⟨v, _, _, B⟩ := iB.2.2.2.1 j k0 (by omega)
    obtain ⟨v', _, _, B'⟩ := iB.2.2.2.1 k (by omega) k2
    have e1 := ent_row F lw B
    have e2 := ent_row F lw B'
    have En : eqP (h.i (h.r 8 a + 1)) (hf.i (p + 1)) (h.len (h.r 8 a + 1)) (hf.len (p + 1)) := ⟨by rw [np]; exact Ea.1, fun i i0 i1 => by rw [Ea.2 i i0 i1, ng i i0 (by have := Ea.1; omega)]⟩
    rw [r8, r8]
    by_cases c : j = a
    · rw [if_pos c, if_neg (by omega), e2.1, e2.2]
      rw [c] at srt0
      exact lexl_eqL En srt0
    · rw [if_neg c, e1.1, e1.2]
      by_cases c2 : k = a
      · rw [if_pos c2]
        rw [c2] at srt0
        exact lexl_eq En srt0
      · rw [if_neg c2, e2.1, e2.2]; exact srt0
  · rw [s2] at v1
    intro z
    have sz : ∀ x, hf.i 69 x = h.i 69 x := fun x => by
      by_cases c : x = w
      · rw [c, M'.1, M.1]
      · exact (Rw.1 x c).1
    have tx : ∀ x k, 0 ≤ k → k < h.i 69 x → h.i 69 x ≤ 16 → hf.i 68 (16 * x + k) = h.i 68 (16 * x + k) := fun x k k0 k1 k2 => by
      by_cases c : x = w
      · rw [c] at k1 ⊢
        rw [M.1] at k1
        rw [M'.2 k k0 k1, M.2 k k0 k1]
      · exact (Rw.2 _ (by omega)).1
    have le : ∀ x, 0 ≤ x → x < h.i 59 16 → h.i 69 x ≤ 16 := fun x x0 x1 => by
      obtain ⟨j, _, _, B⟩ := iB.2.2.2.2.1 x x0 x1
      exact B.2.2.2.2.1
    refine dist u v u0 (by omega) (by omega) v1 (by omega) (by rw [← sz, ← sz]; exact z.1) (fun k k0 k1 => ?_)
    have y := z.2 k k0 (by rw [sz]; exact k1)
    have zz := z.1
    rw [sz, sz] at zz
    rw [tx u k k0 k1 (le u u0 (by omega)), tx v k k0 (by rw [← zz]; exact k1) (le v (by omega) v1)] at y
    exact y
theorem I_book_ins (iB : I_book h) (F : FA l l2 [8] [] h hf) (lw : low l l2 [8] [] = true) (hT : Tok h hf) (a0 : 0 ≤ a) (a1 : a ≤ h.i 59 16) (n40 : h.i 59 16 < 40) (no : ∀ v, 0 ≤ v → v < h.i 59 16 → ¬ WM h G t v) (pre : ∀ j, 0 ≤ j → j < a → lexl (h.i (h.r 8 j + 1)) G (h.len (h.r 8 j + 1)) t) (post : ∀ j, a ≤ j → j < h.i 59 16 → lexl G (h.i (h.r 8 j + 1)) t (h.len (h.r 8 j + 1))) (Rw : RowsW h hf (h.i 59 16)) (N : BookRel hf p (h.i 59 16)) (np : hf.len (p + 1) = t) (ng : ∀ k, 0 ≤ k → k < t → hf.i (p + 1) k = G k) (M' : WM hf G t (h.i 59 16)) (r8 : ∀ j, hf.r 8 j = if j = a then p else if a < j ∧ j ≤ h.i 59 16 then h.r 8 (j - 1) else h.r 8 j) (s1 : hf.i 7 2 = h.i 59 16 + 1) (s2 : hf.i 59 16 = h.i 59 16 + 1) : I_book hf := by
  have dist := bk_dist iB
  have n0 := iB.2.1
  have En : eqP G (hf.i (p + 1)) t (hf.len (p + 1)) := ⟨np.symm, fun i i0 i1 => (ng i i0 i1).symm⟩
  have old : ∀ j, 0 ≤ j → j < h.i 59 16 + 1 → j ≠ a → ∃ m, 0 ≤ m ∧ m < h.i 59 16 ∧ hf.r 8 j = h.r 8 m ∧ ((j < a ∧ m = j) ∨ (a < j ∧ m = j - 1)) := by
    intro j k0 k1 ne
    rw [r8, if_neg ne]
    by_cases q : a < j
    · rw [if_pos ⟨q, by omega⟩]; exact ⟨j - 1, by omega, by omega, rfl, Or.inr ⟨q, rfl⟩⟩
    · rw [if_neg (fun z => q z.1)]; exact ⟨j, k0, by omega, rfl, Or.inl ⟨by omega, rfl⟩⟩
  refine ⟨by rw [s1, s2], by rw [s2]; omega, by rw [s2]; omega, fun j k0 k1 => ?_, fun u u0 u1 => ?_, fun j k k0 k1 k2 => ?_, fun u v u0 uv v1 => ?_⟩
  · rw [s2] at k1 ⊢
    by_cases c : j = a
    · rw [r8, if_pos c]; exact ⟨_, n0, by omega, N⟩
    · obtain ⟨m, m0, m1, em, _⟩ := old j k0 k1 c
      obtain ⟨v, v0, v1, B⟩ := iB.2.2.2.1 m m0 m1
      rw [em]
      exact ⟨v, v0, by omega, BookRel_rw F lw hT Rw (by omega) B⟩
  · rw [s2] at u1 ⊢
    by_cases c : u = h.i 59 16
    · exact ⟨a, a0, by omega, by rw [r8, if_pos rfl, c]; exact N⟩
    · obtain ⟨m, m0, m1, B⟩ := iB.2.2.2.2.1 u u0 (by omega)
      have B' := BookRel_rw F lw hT Rw c B
      by_cases q : m < a
      · exact ⟨m, m0, by omega, by rw [r8, if_neg (by omega), if_neg (by omega)]; exact B'⟩
      · exact ⟨m + 1, by omega, by omega, by rw [r8, if_neg (by omega), if_pos (by omega), show m + 1 - 1 = m by omega]; exact B'⟩
  · rw [s2] at k2
    by_cases c : j = a
    · obtain ⟨m, m0, m1, em, om⟩ := old k (by omega) k2 (by omega)
      obtain ⟨v, _, _, B⟩ := iB.2.2.2.1 m m0 m1
      have e2 := ent_row F lw B
      rw [r8 j, if_pos c, em, e2.1, e2.2]
      exact lexl_eqL En (post m (by omega) m1)
    · obtain ⟨m, m0, m1, em, om⟩ := old j k0 (by omega) c
      obtain ⟨v, _, _, B⟩ := iB.2.2.2.1 m m0 m1
      have e1 := ent_row F lw B
      by_cases c2 : k = a
      · rw [em, r8 k, if_pos c2, e1.1, e1.2]
        exact lexl_eq En (pre m m0 (by omega))
      · obtain ⟨m', m0', m1', em', om'⟩ := old k (by omega) k2 c2
        obtain ⟨v', _, _, B'⟩ := iB.2.2.2.1 m' m0' m1'
        have e2 := ent_row F lw B'
        rw [em, em', e1.1, e1.2, e2.1, e2.2]
        exact iB.2.2.2.2.2.1 m m' m0 (by omega) m1'
  · rw [s2] at v1
    intro z
    have le : ∀ x, 0 ≤ x → x < h.i 59 16 → h.i 69 x ≤ 16 := fun x x0 x1 => by
      obtain ⟨j, _, _, B⟩ := iB.2.2.2.2.1 x x0 x1
      exact B.2.2.2.2.1
    have sz : ∀ x, x ≠ h.i 59 16 → hf.i 69 x = h.i 69 x := fun x c => (Rw.1 x c).1
    have tx : ∀ x k, 0 ≤ x → x < h.i 59 16 → 0 ≤ k → k < h.i 69 x → hf.i 68 (16 * x + k) = h.i 68 (16 * x + k) := fun x k x0 x1 k0 k1 => by
      have := le x x0 x1
      exact (Rw.2 _ (by omega)).1
    have su := sz u (by omega)
    by_cases c : v = h.i 59 16
    · refine no u u0 (by omega) ⟨?_, fun k k0 k1 => ?_⟩
      · rw [← su, z.1, c]; exact M'.1
      · have z1 := z.1
        rw [c, M'.1] at z1
        have y := z.2 k k0 (by rw [z1]; exact k1)
        rw [tx u k u0 (by omega) k0 (by rw [← su, z1]; exact k1), c, M'.2 k k0 k1] at y
        exact y
    · have sv := sz v c
      refine dist u v u0 (by omega) (by omega) (by omega) (by omega) (by rw [← su, ← sv]; exact z.1) (fun k k0 k1 => ?_)
      have y := z.2 k k0 (by rw [su]; exact k1)
      have zz := z.1
      rw [su, sv] at zz
      rw [tx u k u0 (by omega) k0 k1, tx v k (by omega) (by omega) k0 (by rw [← zz]; exact k1)] at y
      exact y
end BKW
