/-! judge: the parts of a set, one after another -/
/-- o is a part of m -/
def sbM (o m : Nat) : Prop := o &&& m = o
theorem and_2 (a b x y : Nat) (hx : x < 2) (hy : y < 2) : (2 * a + x) &&& (2 * b + y) = 2 * (a &&& b) + (x &&& y) := by
  refine Nat.eq_of_testBit_eq (fun i => ?_)
  have xy : x &&& y < 2 := Nat.lt_of_le_of_lt Nat.and_le_left hx
  cases i with
  | zero =>
    rw [Nat.testBit_and, Nat.testBit_zero, Nat.testBit_zero, Nat.testBit_zero]
    rcases (by omega : x = 0 ∨ x = 1) with rfl | rfl <;> rcases (by omega : y = 0 ∨ y = 1) with rfl | rfl <;> simp <;> omega
  | succ i =>
    rw [Nat.testBit_and, Nat.testBit_succ, Nat.testBit_succ, Nat.testBit_succ, show (2 * a + x) / 2 = a by omega, show (2 * b + y) / 2 = b by omega, show (2 * (a &&& b) + (x &&& y)) / 2 = a &&& b by omega, Nat.testBit_and]
theorem and_b : ∀ x y : Nat, x < 2 → y < 2 → (x &&& y = x ↔ x ≤ y) ∧ (x &&& y = if x = 1 ∧ y = 1 then 1 else 0) := by
  intro x y hx hy
  rcases (by omega : x = 0 ∨ x = 1) with rfl | rfl <;> rcases (by omega : y = 0 ∨ y = 1) with rfl | rfl <;> decide
theorem sb_2 {a b x y : Nat} (hx : x < 2) (hy : y < 2) : sbM (2 * a + x) (2 * b + y) ↔ sbM a b ∧ x ≤ y := by
  unfold sbM
  rw [and_2 a b x y hx hy]
  have z := (and_b x y hx hy).1
  have w : x &&& y < 2 := Nat.lt_of_le_of_lt Nat.and_le_left hx
  constructor
  · intro e
    have e1 : a &&& b = a := by omega
    exact ⟨e1, z.mp (by omega)⟩
  · intro ⟨e1, e2⟩
    rw [e1, z.mpr e2]
theorem sb_le {o m : Nat} (h : sbM o m) : o ≤ m := by unfold sbM at h; rw [← h]; exact Nat.and_le_right
/-- the part behind o, 0 behind the last -/
def nxS : Nat → Nat → Nat → Nat
  | 0, _, _ => 0
  | k + 1, m, o => if m % 2 = 1 ∧ o % 2 = 0 then 2 * (o / 2) + 1 else 2 * nxS k (m / 2) (o / 2)
theorem and_cp : ∀ (k m o : Nat), m < 2 ^ k → sbM o m → (o + (2 ^ k - 1 - m)) &&& m = o := by
  intro k
  induction k with
  | zero =>
    intro m o hm h
    have := sb_le h
    have hm : m < 1 := hm
    have e : m = 0 := by omega
    subst e
    rw [Nat.and_zero]; omega
  | succ k ih =>
    intro m o hm h
    have le := sb_le h
    have p : 2 ^ (k + 1) = 2 * 2 ^ k := by rw [Nat.pow_succ]; omega
    have em : m = 2 * (m / 2) + m % 2 := by omega
    have eo : o = 2 * (o / 2) + o % 2 := by omega
    have h' := h
    rw [em, eo] at h'
    have s := (sb_2 (by omega) (by omega)).mp h'
    have r := ih (m / 2) (o / 2) (by omega) s.1
    have ml := sb_le s.1
    rw [show o + (2 ^ (k + 1) - 1 - m) = 2 * (o / 2 + (2 ^ k - 1 - m / 2)) + (o % 2 + (1 - m % 2)) by omega]
    have lt : o % 2 + (1 - m % 2) < 2 := by omega
    have key := and_2 (o / 2 + (2 ^ k - 1 - m / 2)) (m / 2) (o % 2 + (1 - m % 2)) (m % 2) lt (by omega)
    rw [← em, r, (and_b _ _ lt (by omega)).2] at key
    rw [key]
    by_cases c : o % 2 + (1 - m % 2) = 1 ∧ m % 2 = 1
    · rw [if_pos c]; omega
    · rw [if_neg c]; omega
theorem nxS_eq : ∀ (k m o : Nat), m < 2 ^ k → sbM o m → (o + (2 ^ k - m)) &&& m = nxS k m o := by
  intro k
  induction k with
  | zero =>
    intro m o hm h
    have hm : m < 1 := hm
    have e : m = 0 := by omega
    subst e
    rw [Nat.and_zero]; rfl
  | succ k ih =>
    intro m o hm h
    have le := sb_le h
    have p : 2 ^ (k + 1) = 2 * 2 ^ k := by rw [Nat.pow_succ]; omega
    have em : m = 2 * (m / 2) + m % 2 := by omega
    have eo : o = 2 * (o / 2) + o % 2 := by omega
    have h' := h
    rw [em, eo] at h'
    have s := (sb_2 (by omega) (by omega)).mp h'
    have ml := sb_le s.1
    rw [nxS]
    by_cases c : m % 2 = 1 ∧ o % 2 = 0
    · rw [if_pos c, show o + (2 ^ (k + 1) - m) = 2 * (o / 2 + (2 ^ k - 1 - m / 2)) + 1 by omega]
      have key := and_2 (o / 2 + (2 ^ k - 1 - m / 2)) (m / 2) 1 (m % 2) (by decide) (by omega)
      rw [← em, and_cp k (m / 2) (o / 2) (by omega) s.1, c.1] at key
      rw [key]; rfl
    · rw [if_neg c, show o + (2 ^ (k + 1) - m) = 2 * (o / 2 + (2 ^ k - m / 2)) + 0 by omega]
      have key := and_2 (o / 2 + (2 ^ k - m / 2)) (m / 2) 0 (m % 2) (by decide) (by omega)
      rw [← em, ih (m / 2) (o / 2) (by omega) s.1, Nat.zero_and] at key
      rw [key]; rfl
theorem nxS_least : ∀ (k m o : Nat), m < 2 ^ k → sbM o m → (o = m → nxS k m o = 0) ∧ (o ≠ m → sbM (nxS k m o) m ∧ o < nxS k m o) ∧ ∀ s, sbM s m → o < s → 0 < nxS k m o ∧ nxS k m o ≤ s := by
  intro k
  induction k with
  | zero =>
    intro m o hm h
    have hm : m < 1 := hm
    have le := sb_le h
    refine ⟨fun _ => rfl, fun n => absurd (by omega) n, fun s hs lt => ?_⟩
    have := sb_le hs
    omega
  | succ k ih =>
    intro m o hm h
    have le := sb_le h
    have p : 2 ^ (k + 1) = 2 * 2 ^ k := by rw [Nat.pow_succ]; omega
    have em : m = 2 * (m / 2) + m % 2 := by omega
    have eo : o = 2 * (o / 2) + o % 2 := by omega
    have h' := h
    rw [em, eo] at h'
    have s := (sb_2 (by omega) (by omega)).mp h'
    obtain ⟨r1, r2, r3⟩ := ih (m / 2) (o / 2) (by omega) s.1
    have part : ∀ t : Nat, sbM t m → sbM (t / 2) (m / 2) ∧ t % 2 ≤ m % 2 := fun t ht => by
      rw [em, show t = 2 * (t / 2) + t % 2 by omega] at ht
      exact (sb_2 (by omega) (by omega)).mp ht
    have back : ∀ a x : Nat, sbM a (m / 2) → x < 2 → x ≤ m % 2 → sbM (2 * a + x) m := fun a x ha hx hl => by
      rw [em]
      exact (sb_2 hx (by omega)).mpr ⟨ha, hl⟩
    rw [nxS]
    by_cases c : m % 2 = 1 ∧ o % 2 = 0
    · rw [if_pos c]
      refine ⟨fun e => by omega, fun _ => ⟨back _ 1 s.1 (by decide) (by omega), by omega⟩, fun t ht lt => ⟨by omega, by omega⟩⟩
    · rw [if_neg c]
      refine ⟨fun e => by rw [r1 (by omega)], fun ne => ?_, fun t ht lt => ?_⟩
      · have ne' : o / 2 ≠ m / 2 := fun z => by have := s.2; omega
        have z := r2 ne'
        refine ⟨?_, by omega⟩
        have := back _ 0 z.1 (by decide) (by omega)
        exact this
      · have pt := part t ht
        have lt' : o / 2 < t / 2 := by
          have := pt.2
          have := s.2
          omega
        have z := r3 (t / 2) pt.1 lt'
        omega
