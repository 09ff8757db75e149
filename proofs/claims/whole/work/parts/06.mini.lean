def xrg (x : Int) : Prop := -2147483648 ≤ x ∧ x < 2147483648
theorem n_toInt {x : Int} (h : xrg x) : (Int32.ofInt x).toInt = x := by
  obtain ⟨h0, h1⟩ := h
  rw [Int32.toInt_ofInt, Int.bmod_def, show ((Int32.size : Nat) : Int) = 4294967296 from rfl]; split <;> omega
