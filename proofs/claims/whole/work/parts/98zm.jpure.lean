/-! judge: laying lines on places, as a value -/
/-- the next line from k on, 12 when there is none -/
def nxF (t : Nat → Bool) : Nat → Nat → Nat
  | 0, k => k
  | n + 1, k => if t k = true then k else nxF t n (k + 1)
def nxL (t : Nat → Bool) (k : Nat) : Nat := nxF t (12 - k) k
/-- how many lines there are from k on -/
def ctF (t : Nat → Bool) : Nat → Nat → Int
  | 0, _ => 0
  | n + 1, k => (if t k = true then 1 else 0) + ctF t n (k + 1)
def ctL (t : Nat → Bool) (k : Nat) : Int := ctF t (12 - k) k
/-- the data of a poem form and its lines: lines, forms, letters, agains, costs, full rhymes, same words -/
abbrev JD : Type := (Nat → Bool) × (Nat → Int) × (Nat → Int) × (Nat → Int) × (Nat → Int → Int) × (Nat → Nat → Bool) × (Nat → Nat → Bool)
def JD.t (D : JD) : Nat → Bool := D.1
def JD.F (D : JD) : Nat → Int := D.2.1
def JD.L (D : JD) : Nat → Int := D.2.2.1
def JD.A (D : JD) : Nat → Int := D.2.2.2.1
def JD.C (D : JD) : Nat → Int → Int := D.2.2.2.2.1
def JD.rh (D : JD) : Nat → Nat → Bool := D.2.2.2.2.2.1
def JD.sw (D : JD) : Nat → Nat → Bool := D.2.2.2.2.2.2
section JP
variable (D : JD)
/-- the first line laid on a place j on with letter x, or -1 -/
def fJ (on : List Int) (x : Int) : Nat → Nat → Int
  | 0, _ => -1
  | n + 1, j => if on.getD j (-1) ≠ -1 ∧ D.L j = x then on.getD j (-1) else fJ on x n (j + 1)
def offV (on : List Int) (i k : Nat) : Int := if D.L i ≠ -1 ∧ fJ D on (D.L i) i 0 ≠ -1 ∧ D.rh (fJ D on (D.L i) i 0).toNat k = false then 1 else 0
def agV (on : List Int) (i k : Nat) : Int := if D.A i ≠ -1 ∧ (on.getD (D.A i).toNat (-1) = -1 ∨ D.sw (on.getD (D.A i).toNat (-1)).toNat k = false) then 1 else 0
/-- how a trial stands: the next line (from it on), faults, price, the lines on the places so far -/
abbrev JS : Type := Nat × Int × Int × List Int
def stJ (out : Nat → Bool) (i : Nat) (s : JS) : JS :=
  if out i = true then (s.1, s.2.1, s.2.2.1, s.2.2.2 ++ [-1])
  else if nxL D.t s.1 = 12 then (12, s.2.1 + 1, s.2.2.1, s.2.2.2 ++ [-1])
  else (nxL D.t s.1 + 1, s.2.1 + (if D.C (nxL D.t s.1) (D.F i) = -1 then 1 else 0) + offV D s.2.2.2 i (nxL D.t s.1) + agV D s.2.2.2 i (nxL D.t s.1), s.2.2.1 + (if D.C (nxL D.t s.1) (D.F i) = -1 then 0 else D.C (nxL D.t s.1) (D.F i)), s.2.2.2 ++ [((nxL D.t s.1 : Nat) : Int)])
def layJ (out : Nat → Bool) : Nat → JS
  | 0 => (0, 0, 0, [])
  | i + 1 => stJ D out i (layJ out i)
def jFa (out : Nat → Bool) (P : Nat) : Int := (layJ D out P).2.1 + ctL D.t (layJ D out P).1
def jPr (out : Nat → Bool) (P : Nat) : Int := (layJ D out P).2.2.1
def jOn (out : Nat → Bool) (P : Nat) : List Int := (layJ D out P).2.2.2
end JP
theorem nxF_bd {t : Nat → Bool} : ∀ (n k : Nat), k ≤ nxF t n k ∧ nxF t n k ≤ k + n ∧ (nxF t n k < k + n → t (nxF t n k) = true) := by
  intro n
  induction n with
  | zero => intro k; rw [nxF]; exact ⟨Nat.le_refl _, by omega, fun h => absurd h (by omega)⟩
  | succ n ih =>
    intro k
    rw [nxF]
    by_cases c : t k = true
    · rw [if_pos c]; exact ⟨Nat.le_refl _, by omega, fun _ => c⟩
    · rw [if_neg c]
      have := ih (k + 1)
      exact ⟨by omega, by omega, fun h => this.2.2 (by omega)⟩
theorem nxL_bd {t : Nat → Bool} {k : Nat} (hk : k ≤ 12) : k ≤ nxL t k ∧ nxL t k ≤ 12 ∧ (nxL t k < 12 → t (nxL t k) = true) := by
  have := nxF_bd (t := t) (12 - k) k
  unfold nxL
  exact ⟨this.1, by omega, fun h => this.2.2 (by omega)⟩
theorem ctF_bd {t : Nat → Bool} : ∀ (n k : Nat), 0 ≤ ctF t n k ∧ ctF t n k ≤ (n : Int) := by
  intro n
  induction n with
  | zero => intro k; rw [ctF]; decide
  | succ n ih =>
    intro k
    have := ih (k + 1)
    rw [ctF]
    by_cases c : t k = true
    · rw [if_pos c]; push_cast; omega
    · rw [if_neg c]; push_cast; omega
theorem ctF_nx {t : Nat → Bool} : ∀ (n k : Nat), ctF t n k = ctF t (k + n - nxF t n k) (nxF t n k) := by
  intro n
  induction n with
  | zero => intro k; rw [nxF, show k + 0 - k = 0 by omega]
  | succ n ih =>
    intro k
    by_cases c : t k = true
    · rw [nxF, if_pos c, show k + (n + 1) - k = n + 1 by omega]
    · rw [nxF, if_neg c, ctF, if_neg c, ih (k + 1), Int.zero_add, show k + 1 + n = k + (n + 1) by omega]
theorem ctL_nx {t : Nat → Bool} {k : Nat} (hk : k ≤ 12) : ctL t k = ctL t (nxL t k) := by
  unfold ctL nxL
  rw [ctF_nx (12 - k) k, show k + (12 - k) = 12 by omega]
theorem layJ_bd {D : JD} {out : Nat → Bool} (cb : ∀ k f, -1 ≤ D.C k f ∧ D.C k f ≤ 2100) : ∀ i : Nat, (layJ D out i).1 ≤ 12 ∧ 0 ≤ (layJ D out i).2.1 ∧ (layJ D out i).2.1 ≤ 3 * i ∧ 0 ≤ (layJ D out i).2.2.1 ∧ (layJ D out i).2.2.1 ≤ 2100 * i ∧ (layJ D out i).2.2.2.length = i ∧ ∀ x ∈ (layJ D out i).2.2.2, x = -1 ∨ (0 ≤ x ∧ x < 12 ∧ D.t x.toNat = true) := by
  intro i
  induction i with
  | zero => exact ⟨Nat.zero_le _, Int.le_refl _, Int.le_refl _, Int.le_refl _, Int.le_refl _, rfl, fun x m => absurd m List.not_mem_nil⟩
  | succ i ih =>
    obtain ⟨a1, a2, a3, a4, a5, a6, a7⟩ := ih
    have nb := nxL_bd (t := D.t) a1
    show (stJ D out i (layJ D out i)).1 ≤ 12 ∧ _
    have e : layJ D out (i + 1) = stJ D out i (layJ D out i) := rfl
    rw [e]
    unfold stJ
    by_cases c1 : out i = true
    · rw [if_pos c1]
      refine ⟨a1, a2, by show _ ≤ _; push_cast; omega, a4, by show _ ≤ _; push_cast; omega, by show (_ ++ [-1]).length = _; rw [List.length_append, a6]; rfl, fun x m => ?_⟩
      have m : x ∈ (layJ D out i).2.2.2 ++ [-1] := m
      rw [List.mem_append, List.mem_singleton] at m
      exact m.elim (a7 x) Or.inl
    · rw [if_neg c1]
      by_cases c2 : nxL D.t (layJ D out i).1 = 12
      · rw [if_pos c2]
        refine ⟨Nat.le_refl _, by show 0 ≤ _ + 1; omega, by show _ + 1 ≤ _; push_cast; omega, a4, by show _ ≤ _; push_cast; omega, by show (_ ++ [-1]).length = _; rw [List.length_append, a6]; rfl, fun x m => ?_⟩
        have m : x ∈ (layJ D out i).2.2.2 ++ [-1] := m
        rw [List.mem_append, List.mem_singleton] at m
        exact m.elim (a7 x) Or.inl
      · rw [if_neg c2]
        have cc := cb (nxL D.t (layJ D out i).1) (D.F i)
        have o1 : 0 ≤ offV D (layJ D out i).2.2.2 i (nxL D.t (layJ D out i).1) ∧ offV D (layJ D out i).2.2.2 i (nxL D.t (layJ D out i).1) ≤ 1 := by
          unfold offV
          split <;> decide
        have g1 : 0 ≤ agV D (layJ D out i).2.2.2 i (nxL D.t (layJ D out i).1) ∧ agV D (layJ D out i).2.2.2 i (nxL D.t (layJ D out i).1) ≤ 1 := by
          unfold agV
          split <;> decide
        have f1 : 0 ≤ (if D.C (nxL D.t (layJ D out i).1) (D.F i) = -1 then (1 : Int) else 0) ∧ (if D.C (nxL D.t (layJ D out i).1) (D.F i) = -1 then (1 : Int) else 0) ≤ 1 := by
          split <;> decide
        have p1 : 0 ≤ (if D.C (nxL D.t (layJ D out i).1) (D.F i) = -1 then (0 : Int) else D.C (nxL D.t (layJ D out i).1) (D.F i)) ∧ (if D.C (nxL D.t (layJ D out i).1) (D.F i) = -1 then (0 : Int) else D.C (nxL D.t (layJ D out i).1) (D.F i)) ≤ 2100 := by
          split <;> omega
        refine ⟨by show _ + 1 ≤ 12; omega, by show 0 ≤ _ + _ + _ + _; omega, by show _ + _ + _ + _ ≤ _; push_cast; omega, by show 0 ≤ _ + _; omega, by show _ + _ ≤ _; push_cast; omega, by show (_ ++ [_]).length = _; rw [List.length_append, a6]; rfl, fun x m => ?_⟩
        have m : x ∈ (layJ D out i).2.2.2 ++ [((nxL D.t (layJ D out i).1 : Nat) : Int)] := m
        rw [List.mem_append, List.mem_singleton] at m
        rcases m with m | m
        · exact a7 x m
        · right
          rw [m]
          exact ⟨by omega, by omega, by rw [Int.toNat_natCast]; exact nb.2.2 (by omega)⟩
