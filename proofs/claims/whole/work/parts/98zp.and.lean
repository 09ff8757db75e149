/-! judge: the class' step to the next part -/
theorem and_low {a m : Nat} (hm : m < 4096) : a &&& m = (a % 4096) &&& m := by
  refine Nat.eq_of_testBit_eq (fun i => ?_)
  rw [Nat.testBit_and, Nat.testBit_and, show (4096 : Nat) = 2 ^ 12 from rfl, Nat.testBit_mod_two_pow]
  by_cases c : i < 12
  · rw [decide_eq_true c, Bool.true_and]
  · have : m.testBit i = false := Nat.testBit_lt_two_pow (Nat.lt_of_lt_of_le hm (show 4096 ≤ 2 ^ i from Nat.pow_le_pow_right (n := 2) (by decide : 2 > 0) (by omega : 12 ≤ i)))
    rw [this, Bool.and_false, Bool.and_false]
theorem xand_next {o m : Nat} (hm : m < 4096) (h : sbM o m) : xand (xw ((o : Int) - (m : Int))) (m : Int) = ((nxS 12 m o : Nat) : Int) := by
  have le := sb_le h
  rw [xw_id (by omega) (by omega), ← nxS_eq 12 m o hm h]
  have lt : (o + (2 ^ 12 - m)) &&& m < 4096 := Nat.lt_of_le_of_lt Nat.and_le_right hm
  unfold xand
  have e : (Int32.ofInt ((o : Int) - (m : Int)) &&& Int32.ofInt (m : Int)).toBitVec.toNat = (o + (2 ^ 12 - m)) &&& m := by
    rw [Int32.toBitVec_and, BitVec.toNat_and]
    have a : (Int32.ofInt (m : Int)).toBitVec.toNat = m := by
      show (BitVec.ofInt 32 (m : Int)).toNat = m
      rw [BitVec.toNat_ofInt]; omega
    have b : (Int32.ofInt ((o : Int) - (m : Int))).toBitVec.toNat % 4096 = (o + (2 ^ 12 - m)) % 4096 := by
      show (BitVec.ofInt 32 ((o : Int) - (m : Int))).toNat % 4096 = _
      rw [BitVec.toNat_ofInt]; omega
    rw [a, and_low hm, b, ← and_low hm]
  show (Int32.ofInt ((o : Int) - (m : Int)) &&& Int32.ofInt (m : Int)).toBitVec.toInt = _
  rw [BitVec.toInt_eq_toNat_cond, e]
  rw [if_pos (by omega)]
