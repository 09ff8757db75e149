/-! judge: the best trial, as a value -/
theorem ctL_s {t : Nat → Bool} {k : Nat} (hk : k < 12) (tk : t k = true) : ctL t k = 1 + ctL t (k + 1) := by
  unfold ctL
  rw [show 12 - k = (12 - (k + 1)) + 1 by omega, ctF, if_pos tk]
theorem ctL_12 (t : Nat → Bool) : ctL t 12 = 0 := rfl
theorem ctL_bd {t : Nat → Bool} {k : Nat} (hk : k ≤ 12) : 0 ≤ ctL t k ∧ ctL t k ≤ 12 := by
  have := ctF_bd (t := t) (12 - k) k
  unfold ctL
  omega
theorem nxL_12 (t : Nat → Bool) : nxL t 12 = 12 := rfl
theorem nxL_t {t : Nat → Bool} {k : Nat} (hk : k < 12) (tk : t k = true) : nxL t k = k := by
  unfold nxL
  rw [show 12 - k = (12 - (k + 1)) + 1 by omega, nxF, if_pos tk]
theorem ahN_nx {t : Nat → Bool} : ∀ n k : Nat, ahN t (nxF t n k) = ahN t k := by
  intro n
  induction n with
  | zero => intro k; rw [nxF]
  | succ n ih =>
    intro k
    rw [nxF]
    by_cases c : t k = true
    · rw [if_pos c]
    · rw [if_neg c, ih, ahN, if_neg c, Nat.add_zero]
def oc (out : Nat → Bool) : Nat → Nat
  | 0 => 0
  | i + 1 => oc out i + (if out i = true then 1 else 0)
theorem layJ_oc {D : JD} {out : Nat → Bool} (cb : ∀ k f, -1 ≤ D.C k f ∧ D.C k f ≤ 2100) : ∀ i : Nat, nxL D.t (layJ D out i).1 < 12 → ahN D.t (nxL D.t (layJ D out i).1) + oc out i = i := by
  intro i
  induction i with
  | zero =>
    intro _
    show ahN D.t (nxF D.t 12 0) + 0 = 0
    rw [ahN_nx]; rfl
  | succ i ih =>
    have a1 := (layJ_bd (out := out) cb i).1
    have nb := nxL_bd (t := D.t) a1
    have e : layJ D out (i + 1) = stJ D out i (layJ D out i) := rfl
    rw [e, oc]
    unfold stJ
    by_cases c1 : out i = true
    · rw [if_pos c1, if_pos c1]
      intro lt
      have := ih lt
      show ahN D.t (nxL D.t (layJ D out i).1) + (oc out i + 1) = i + 1
      omega
    · rw [if_neg c1, if_neg c1]
      by_cases c2 : nxL D.t (layJ D out i).1 = 12
      · rw [if_pos c2]
        intro lt
        rw [show ((12, (layJ D out i).2.1 + 1, (layJ D out i).2.2.1, (layJ D out i).2.2.2 ++ [-1]) : JS).1 = 12 from rfl, nxL_12] at lt
        exact absurd lt (by decide)
      · rw [if_neg c2]
        intro lt
        have lt' : nxL D.t (nxL D.t (layJ D out i).1 + 1) < 12 := lt
        show ahN D.t (nxL D.t (nxL D.t (layJ D out i).1 + 1)) + (oc out i + 0) = i + 1
        have z := ih (by omega)
        have tk := nb.2.2 (by omega)
        have e2 : ahN D.t (nxL D.t (nxL D.t (layJ D out i).1 + 1)) = ahN D.t (nxL D.t (layJ D out i).1 + 1) := ahN_nx _ _
        rw [e2, ahN, if_pos tk]
        omega
theorem oc_le {out : Nat → Bool} {m i : Nat} (hi : i ≤ 12) (H : ∀ j, out j = true → m.testBit j = true) : ((oc out i : Nat) : Int) ≤ cM m i := by
  have G : ∀ k : Nat, ((m % 2 ^ i : Nat) : Int) / 2 ^ ((k : Int)).toNat % 2 = (((decide (k < i) && m.testBit k).toNat : Nat) : Int) := fun k => by
    rw [Int.toNat_natCast, ibit, Nat.testBit_mod_two_pow]
  unfold cM
  have a : ∀ n, n ≤ i → ((oc out n : Nat) : Int) ≤ sumN (fun k => ((m % 2 ^ i : Nat) : Int) / 2 ^ k.toNat % 2) n := by
    intro n
    induction n with
    | zero => intro _; exact Int.le_refl _
    | succ n ih =>
      intro hn
      have z := ih (by omega)
      have g := G n
      rw [oc, sumN, g, decide_eq_true (show n < i by omega), Bool.true_and]
      by_cases c : out n = true
      · rw [if_pos c, H n c]
        show ((oc out n + 1 : Nat) : Int) ≤ _ + ((1 : Nat) : Int)
        omega
      · rw [if_neg c]
        have : (0 : Int) ≤ (((m.testBit n).toNat : Nat) : Int) := by omega
        omega
  have b : ∀ n, i ≤ n → sumN (fun k => ((m % 2 ^ i : Nat) : Int) / 2 ^ k.toNat % 2) i ≤ sumN (fun k => ((m % 2 ^ i : Nat) : Int) / 2 ^ k.toNat % 2) n := by
    intro n
    induction n with
    | zero => intro h; rw [show i = 0 by omega]; exact Int.le_refl _
    | succ n ih =>
      intro hn
      by_cases c : i = n + 1
      · rw [← c]; exact Int.le_refl _
      · have z := ih (by omega)
        have g := G n
        rw [sumN, g]
        omega
  exact Int.le_trans (a i (Nat.le_refl _)) (b 12 hi)
/-- a trial: faults, price, the set left out, the lines on places -/
abbrev Tr : Type := Int × Int × Nat × List Int
def trJ (D : JD) (P s : Nat) : Tr := (jFa D s.testBit P, jPr D s.testBit P, s, jOn D s.testBit P)
def trB (a b : Tr) : Bool := decide (a.1 < b.1) || (decide (a.1 = b.1) && decide (a.2.1 < b.2.1))
theorem trB_iff {a b : Tr} : trB a b = true ↔ a.1 < b.1 ∨ (a.1 = b.1 ∧ a.2.1 < b.2.1) := by
  unfold trB
  simp only [Bool.or_eq_true, Bool.and_eq_true, decide_eq_true_eq]
def bsT (D : JD) (P m : Nat) : Nat → Tr
  | 0 => trJ D P 0
  | s + 1 => if (decide (s &&& m = s) && trB (trJ D P s) (bsT D P m s)) = true then trJ D P s else bsT D P m s
theorem bsT_1 (D : JD) (P m : Nat) : bsT D P m 1 = trJ D P 0 := by
  rw [bsT]
  split
  · rfl
  · rfl
theorem bsT_y {D : JD} {P m s : Nat} (p : sbM s m) (b : trB (trJ D P s) (bsT D P m s) = true) : bsT D P m (s + 1) = trJ D P s := by
  rw [bsT, if_pos (by rw [decide_eq_true (show s &&& m = s from p), b]; rfl)]
theorem bsT_n {D : JD} {P m s : Nat} (b : ¬ (sbM s m ∧ trB (trJ D P s) (bsT D P m s) = true)) : bsT D P m (s + 1) = bsT D P m s := by
  rw [bsT, if_neg (fun z => b ?_)]
  rw [Bool.and_eq_true, decide_eq_true_eq] at z
  exact z
theorem bsT_skip {D : JD} {P m a : Nat} : ∀ b : Nat, a ≤ b → (∀ s, a ≤ s → s < b → ¬ sbM s m) → bsT D P m b = bsT D P m a := by
  intro b
  induction b with
  | zero => intro h _; rw [show a = 0 by omega]
  | succ b ih =>
    intro h no
    by_cases c : a = b + 1
    · rw [c]
    · rw [bsT_n (fun z => no b (by omega) (by omega) z.1)]
      exact ih (by omega) (fun s s0 s1 => no s s0 (by omega))
theorem trJ_bd {D : JD} (cb : ∀ k f, -1 ≤ D.C k f ∧ D.C k f ≤ 2100) {P s : Nat} (hP : P ≤ 12) : 0 ≤ (trJ D P s).1 ∧ (trJ D P s).1 ≤ 48 ∧ 0 ≤ (trJ D P s).2.1 ∧ (trJ D P s).2.1 ≤ 25200 := by
  have l := layJ_bd (out := s.testBit) cb P
  have c := ctL_bd (t := D.t) l.1
  show 0 ≤ _ + _ ∧ _ + _ ≤ 48 ∧ 0 ≤ (layJ D s.testBit P).2.2.1 ∧ (layJ D s.testBit P).2.2.1 ≤ 25200
  have hp : (P : Int) ≤ 12 := by omega
  omega
theorem bsT_is (D : JD) (P m : Nat) : ∀ s, ∃ s', bsT D P m s = trJ D P s' ∧ (s' < s ∨ s' = 0) := by
  intro s
  induction s with
  | zero => exact ⟨0, rfl, Or.inr rfl⟩
  | succ s ih =>
    rw [bsT]
    split
    · exact ⟨s, rfl, Or.inl (by omega)⟩
    · obtain ⟨s', e, h⟩ := ih
      exact ⟨s', e, by omega⟩
theorem bsT_bd {D : JD} (cb : ∀ k f, -1 ≤ D.C k f ∧ D.C k f ≤ 2100) {P m s : Nat} (hP : P ≤ 12) : 0 ≤ (bsT D P m s).1 ∧ (bsT D P m s).1 ≤ 48 ∧ 0 ≤ (bsT D P m s).2.1 ∧ (bsT D P m s).2.1 ≤ 25200 := by
  obtain ⟨s', e, _⟩ := bsT_is D P m s
  rw [e]
  exact trJ_bd cb hP
/-! how many parts a set has -/
def popN : Nat → Nat → Nat
  | 0, _ => 0
  | k + 1, m => m % 2 + popN k (m / 2)
def rkN : Nat → Nat → Nat → Nat
  | 0, _, _ => 0
  | k + 1, m, o => if m % 2 = 1 then 2 * rkN k (m / 2) (o / 2) + o % 2 else rkN k (m / 2) (o / 2)
theorem rk_lt : ∀ k m o : Nat, rkN k m o < 2 ^ popN k m := by
  intro k
  induction k with
  | zero => intro m o; rw [rkN, popN]; decide
  | succ k ih =>
    intro m o
    have := ih (m / 2) (o / 2)
    rw [rkN, popN]
    by_cases c : m % 2 = 1
    · rw [if_pos c, c, Nat.add_comm 1, Nat.pow_succ]
      omega
    · rw [if_neg c, show m % 2 = 0 by omega, Nat.zero_add]
      exact this
theorem rk_0 : ∀ k m : Nat, rkN k m 0 = 0 := by
  intro k
  induction k with
  | zero => intro m; rfl
  | succ k ih =>
    intro m
    rw [rkN, Nat.zero_div, ih]
    split <;> rfl
theorem rk_nx : ∀ k m o : Nat, m < 2 ^ k → sbM o m → o ≠ m → rkN k m (nxS k m o) = rkN k m o + 1 := by
  intro k
  induction k with
  | zero =>
    intro m o hm h ne
    have hm : m < 1 := hm
    have := sb_le h
    omega
  | succ k ih =>
    intro m o hm h ne
    have le := sb_le h
    have p : 2 ^ (k + 1) = 2 * 2 ^ k := by rw [Nat.pow_succ]; omega
    have em : m = 2 * (m / 2) + m % 2 := by omega
    have eo : o = 2 * (o / 2) + o % 2 := by omega
    have h' := h
    rw [em, eo] at h'
    have s := (sb_2 (by omega) (by omega)).mp h'
    rw [nxS, rkN, rkN]
    by_cases c : m % 2 = 1 ∧ o % 2 = 0
    · rw [if_pos c, if_pos c.1, if_pos c.1, show (2 * (o / 2) + 1) / 2 = o / 2 by omega, show (2 * (o / 2) + 1) % 2 = 1 by omega, c.2]
    · have s2 := s.2
      have z := ih (m / 2) (o / 2) (by omega) s.1 (fun y => ne (by omega))
      rw [if_neg c, show 2 * nxS k (m / 2) (o / 2) / 2 = nxS k (m / 2) (o / 2) by omega, show 2 * nxS k (m / 2) (o / 2) % 2 = 0 by omega, z]
      by_cases c2 : m % 2 = 1
      · rw [if_pos c2, if_pos c2]; omega
      · rw [if_neg c2, if_neg c2]
theorem sumN_front (f : Int → Int) : ∀ n : Nat, sumN f (n + 1) = f 0 + sumN (fun j => f (j + 1)) n := by
  intro n
  induction n with
  | zero => rw [sumN, sumN, sumN]; show 0 + f 0 = f 0 + 0; omega
  | succ n ih =>
    rw [sumN, ih, sumN]
    have e : (((n + 1 : Nat) : Int)) = (n : Int) + 1 := by push_cast; rfl
    rw [e]
    omega
theorem pop_sum : ∀ k m : Nat, sumN (fun k => (m : Int) / 2 ^ k.toNat % 2) k = ((popN k m : Nat) : Int) := by
  intro k
  induction k with
  | zero => intro m; rfl
  | succ k ih =>
    intro m
    rw [sumN_front, popN]
    have e : sumN (fun j => (m : Int) / 2 ^ (j + 1).toNat % 2) k = sumN (fun j => ((m / 2 : Nat) : Int) / 2 ^ j.toNat % 2) k := sumN_congr k (fun j j0 j1 => by
      obtain ⟨i, rfl⟩ : ∃ i : Nat, j = (i : Int) := ⟨j.toNat, by omega⟩
      rw [show ((i : Int) + 1).toNat = i + 1 by omega, Int.toNat_natCast, ibit, ibit, Nat.testBit_succ])
    rw [e, ih]
    show (m : Int) / 2 ^ 0 % 2 + _ = _
    rw [Int.pow_zero]
    omega
theorem rk_64 {m o : Nat} (p6 : sumN (fun k => (m : Int) / 2 ^ k.toNat % 2) 12 ≤ 6) : rkN 12 m o < 64 := by
  rw [pop_sum 12 m] at p6
  have a := rk_lt 12 m o
  have b : 2 ^ popN 12 m ≤ 2 ^ 6 := Nat.pow_le_pow_right (by decide) (by omega)
  omega
/-! the numbers of 64 bits -/
theorem i64 {a : Int} (h0 : -9223372036854775808 ≤ a) (h1 : a < 9223372036854775808) : (Int64.ofInt a).toInt = a := by
  rw [Int64.toInt_ofInt, Int.bmod_def, show ((Int64.size : Nat) : Int) = 18446744073709551616 from rfl]; split <;> omega
theorem bm64 {a : Int} (h0 : -9223372036854775808 ≤ a) (h1 : a < 9223372036854775808) : a.bmod (2 ^ 64) = a := by
  rw [Int.bmod_def, show ((2 ^ 64 : Nat) : Int) = 18446744073709551616 from rfl]; split <;> omega
theorem xl_key {f p : Int} (f0 : 0 ≤ f) (f1 : f ≤ 100) (p0 : 0 ≤ p) (p1 : p ≤ 100000) : xladd (xlmul 1000000 f) p = 1000000 * f + p := by
  have e : xlmul 1000000 f = 1000000 * f := by
    unfold xlmul
    rw [Int64.toInt_mul, i64 (by decide) (by decide), i64 (by omega) (by omega), bm64 (by omega) (by omega)]
  rw [e]
  unfold xladd
  rw [Int64.toInt_add, i64 (by omega) (by omega), i64 (by omega) (by omega), bm64 (by omega) (by omega)]
theorem xl_div {f p : Int} (f0 : 0 ≤ f) (f1 : f ≤ 100) (p0 : 0 ≤ p) (p1 : p ≤ 100000) : xl2i (xldiv (1000000 * f + p) 1000000) = f := by
  have e : xldiv (1000000 * f + p) 1000000 = f := by
    unfold xldiv
    rw [Int64.toInt_div, i64 (by omega) (by omega), i64 (by decide) (by decide), Int.tdiv_eq_ediv_of_nonneg (by omega), show (1000000 * f + p) / 1000000 = f by omega, bm64 (by omega) (by omega)]
  rw [e]
  unfold xl2i
  rw [Int64.toInt_toInt32, i64 (by omega) (by omega), Int.bmod_def, show ((2 ^ 32 : Nat) : Int) = 4294967296 from rfl]; split <;> omega
theorem xl_rem {f p : Int} (f0 : 0 ≤ f) (f1 : f ≤ 100) (p0 : 0 ≤ p) (p1 : p ≤ 100000) : xl2i (xlrem (1000000 * f + p) 1000000) = p := by
  have e : xlrem (1000000 * f + p) 1000000 = p := by
    unfold xlrem
    rw [Int64.toInt_sub, Int64.toInt_mul, Int64.toInt_div, i64 (by omega) (by omega), i64 (by decide) (by decide), Int.tdiv_eq_ediv_of_nonneg (by omega), show (1000000 * f + p) / 1000000 = f by omega, bm64 (a := f) (by omega) (by omega), bm64 (a := f * 1000000) (by omega) (by omega), bm64 (by omega) (by omega)]
    omega
  rw [e]
  unfold xl2i
  rw [Int64.toInt_toInt32, i64 (by omega) (by omega), Int.bmod_def, show ((2 ^ 32 : Nat) : Int) = 4294967296 from rfl]; split <;> omega
/-! parts as the reference finds them -/
theorem xand_part {o m : Nat} (ho : o < 4096) (hm : m < 4096) : xand (o : Int) (xxor (m : Int) (-1)) = 0 ↔ sbM o m := by
  have ex : (Int32.ofInt (xxor (m : Int) (-1))).toBitVec = BitVec.ofNat 32 m ^^^ BitVec.allOnes 32 := by
    unfold xxor
    rw [Int32.ofInt_toInt, Int32.toBitVec_xor]
    rfl
  have eo : (Int32.ofInt (o : Int)).toBitVec = BitVec.ofNat 32 o := by
    show BitVec.ofInt 32 (o : Int) = _
    exact BitVec.ofInt_natCast 32 o
  have key : (BitVec.ofNat 32 o &&& (BitVec.ofNat 32 m ^^^ BitVec.allOnes 32)) = 0#32 ↔ sbM o m := by
    unfold sbM
    constructor
    · intro h
      refine Nat.eq_of_testBit_eq (fun i => ?_)
      rw [Nat.testBit_and]
      by_cases c : i < 32
      · have z := congrArg (fun x => BitVec.getLsbD x i) h
        simp only [BitVec.getLsbD_and, BitVec.getLsbD_xor, BitVec.getLsbD_ofNat, BitVec.getLsbD_allOnes, BitVec.getLsbD_zero, decide_eq_true c, Bool.true_and] at z
        revert z
        cases o.testBit i <;> cases m.testBit i <;> simp
      · rw [Nat.testBit_lt_two_pow (Nat.lt_of_lt_of_le (show o < 2 ^ 12 from ho) (Nat.pow_le_pow_right (by decide) (by omega)))]
        rfl
    · intro h
      refine BitVec.eq_of_getLsbD_eq (fun i hi => ?_)
      have z := congrArg (fun x => Nat.testBit x i) h
      simp only [Nat.testBit_and] at z
      simp only [BitVec.getLsbD_and, BitVec.getLsbD_xor, BitVec.getLsbD_ofNat, BitVec.getLsbD_allOnes, BitVec.getLsbD_zero, decide_eq_true hi, Bool.true_and]
      revert z
      cases o.testBit i <;> cases m.testBit i <;> simp
  unfold xand
  rw [← key, ← ex, ← eo]
  constructor
  · intro h
    have : (Int32.ofInt (o : Int) &&& Int32.ofInt (xxor (m : Int) (-1))) = 0 := Int32.toInt.inj (by rw [h]; rfl)
    have := congrArg Int32.toBitVec this
    rw [Int32.toBitVec_and] at this
    exact this
  · intro h
    have : (Int32.ofInt (o : Int) &&& Int32.ofInt (xxor (m : Int) (-1))) = 0 := Int32.toBitVec_inj.1 (by rw [Int32.toBitVec_and]; exact h)
    rw [this]; rfl
