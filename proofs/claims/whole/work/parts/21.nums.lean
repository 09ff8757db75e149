/-! numbers: what the 32-bit operations are on plain whole numbers -/
theorem xw_id {a : Int} (h0 : -2147483648 ≤ a) (h1 : a < 2147483648) : xw a = a := by unfold xw; omega
theorem ofI_nat {a : Int} (h : 0 ≤ a) : Int32.ofInt a = nI a.toNat := by
  obtain ⟨n, rfl⟩ : ∃ n : Nat, a = n := ⟨a.toNat, by omega⟩
  rw [Int.toNat_natCast]; exact Int32.ofInt_eq_ofNat
theorem nI_and_ (a b : Nat) : nI a &&& nI b = nI (a &&& b) := by
  apply Int32.toBitVec_inj.mp
  show BitVec.ofNat 32 a &&& BitVec.ofNat 32 b = BitVec.ofNat 32 (a &&& b)
  apply BitVec.eq_of_toNat_eq
  simp [Nat.and_mod_two_pow]
theorem nI_or_ (a b : Nat) : nI a ||| nI b = nI (a ||| b) := by
  apply Int32.toBitVec_inj.mp
  show BitVec.ofNat 32 a ||| BitVec.ofNat 32 b = BitVec.ofNat 32 (a ||| b)
  apply BitVec.eq_of_toNat_eq
  simp [Nat.or_mod_two_pow]
theorem xand_nn {a b : Int} (ha : 0 ≤ a) (hb : 0 ≤ b) (hb1 : b < 2147483648) : xand a b = ((a.toNat &&& b.toNat : Nat) : Int) := by
  unfold xand
  rw [ofI_nat ha, ofI_nat hb, nI_and_, nI_toInt]
  exact Nat.lt_of_le_of_lt Nat.and_le_right (by omega)
theorem xor_nn {a b : Int} (ha : 0 ≤ a) (hb : 0 ≤ b) (ha1 : a < 2147483648) (hb1 : b < 2147483648) : xor_ a b = ((a.toNat ||| b.toNat : Nat) : Int) := by
  unfold xor_
  rw [ofI_nat ha, ofI_nat hb, nI_or_, nI_toInt]
  exact Nat.or_lt_two_pow (n := 31) (by omega) (by omega)
theorem sh_31 : ∀ k : Fin 32, ((Int32.ofInt (k.val : Int) &&& 31).toBitVec.smod 32).toNat = k.val := by decide +kernel
theorem sh_31' {k : Int} (h0 : 0 ≤ k) (h1 : k < 32) : ((Int32.ofInt k &&& 31).toBitVec.smod 32).toNat = k.toNat := by
  have z := sh_31 ⟨k.toNat, by omega⟩
  simp only [show ((k.toNat : Nat) : Int) = k by omega] at z
  exact z
theorem xshr_eq {a k : Int} (ha : xrg a) (h0 : 0 ≤ k) (h1 : k < 32) : xshr a k = a / 2 ^ k.toNat := by
  unfold xshr
  rw [pk_shr _ _ _ (sh_31' h0 h1), n_toInt ha, Int.shiftRight_eq_div_pow]
  norm_cast
theorem xshl_eq {a k : Int} (ha : 0 ≤ a) (h0 : 0 ≤ k) (h1 : k < 32) (h2 : a * 2 ^ k.toNat < 2147483648) : xshl a k = a * 2 ^ k.toNat := by
  unfold xshl
  obtain ⟨n, rfl⟩ : ∃ n : Nat, a = n := ⟨a.toNat, by omega⟩
  have h3 : n * 2 ^ k.toNat < 2147483648 := by
    have : ((n * 2 ^ k.toNat : Nat) : Int) < 2147483648 := by push_cast; exact h2
    omega
  rw [ofI_nat (by omega), Int.toNat_natCast, pk_shlN _ _ (sh_31' h0 h1) (by omega), nI_toInt (by omega)]
  push_cast; rfl
theorem xdiv_eq {a b : Int} (ha : 0 ≤ a) (ha1 : a < 2147483648) (hb : 0 < b) (hb1 : b < 2147483648) : xdiv a b = a / b := by
  unfold xdiv
  rw [ofI_nat ha, ofI_nat (by omega : 0 ≤ b), pk_div (by omega) (by omega) (by omega), nI_toInt (by have := Nat.div_le_self a.toNat b.toNat; omega)]
  have e1 : a = ((a.toNat : Nat) : Int) := by omega
  have e2 : b = ((b.toNat : Nat) : Int) := by omega
  rw [e1, e2, Int.toNat_natCast, Int.toNat_natCast]; norm_cast
theorem xrem_eq {a b : Int} (ha : 0 ≤ a) (ha1 : a < 2147483648) (hb : 0 < b) (hb1 : b < 2147483648) : xrem a b = a % b := by
  unfold xrem
  rw [ofI_nat ha, ofI_nat (by omega : 0 ≤ b), pk_rem (by omega) (by omega) (by omega), nI_toInt (by have := Nat.mod_le a.toNat b.toNat; omega)]
  have e1 : a = ((a.toNat : Nat) : Int) := by omega
  have e2 : b = ((b.toNat : Nat) : Int) := by omega
  rw [e1, e2, Int.toNat_natCast, Int.toNat_natCast]; norm_cast
theorem xand_1 {a : Int} (ha : 0 ≤ a) : xand a 1 = a % 2 := by
  rw [xand_nn ha (by decide) (by decide), show (1 : Int).toNat = 1 from rfl, Nat.and_one_is_mod]; omega
/-- the bit of a set -/
theorem xbit {s k : Int} (hs : 0 ≤ s) (hs1 : s < 2147483648) (h0 : 0 ≤ k) (h1 : k < 32) : xand (xshr s k) 1 = s / 2 ^ k.toNat % 2 := by
  have e := xshr_eq (a := s) ⟨by omega, hs1⟩ h0 h1
  rw [e, xand_1 (Int.ediv_nonneg hs (by exact Int.le_of_lt (Int.pow_pos (by decide))))]
