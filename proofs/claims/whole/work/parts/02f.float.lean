/-! learn: the price that is computed with floats -/
theorem uf_fu (a : UInt32) : xuf (xfu a) = a := by
  unfold xuf xfu
  rw [Int.toNat_natCast]
  exact UInt32.ofNat_toNat
theorem xn_of {a : UInt32} (h : Jvm.FP.Core.fIsNaN a = false) : xn32 a = true := by
  have h2 := (Jvm.FP.Core.notNaN_iff32 a).mp h
  rw [Jvm.FP.Core.ne_nan32] at h2
  unfold xn32
  rw [decide_eq_true_eq, UInt32.le_iff_toNat_le, UInt32.toNat_and]
  show a.toNat &&& 2147483647 ≤ 2139095040
  rw [show 2147483647 = 2 ^ 31 - 1 from rfl, Nat.and_two_pow_sub_one_eq_mod]
  exact h2
/-- not below nothing: no sign -/
def ND (d : Jvm.FP.Core.Datum) : Prop := d ≠ .nan ∧ Jvm.FP.Core.sgn d = false
theorem nd_round {d : Jvm.FP.Core.Datum} (h : ND d) : ND (Jvm.FP.Core.round Jvm.FP.Core.b32 d) := by
  cases d with
  | nan => exact absurd rfl h.1
  | inf s => exact h
  | fin s c q =>
    have e : s = false := h.2
    subst e
    exact ⟨Jvm.FP.Core.roundRatio_ne_nan _ _ _ _ _, Jvm.FP.Core.sgn_roundRatio _ _ _ _ _⟩
theorem nd_quot {c d : Nat} {q r : Int} (h : d ≠ 0) : ND (Jvm.FP.Core.quotient Jvm.FP.Core.b32 (.fin false c q) (.fin false d r)) := by
  have e : Jvm.FP.Core.quotient Jvm.FP.Core.b32 (.fin false c q) (.fin false d r) = if d = 0 then (if c = 0 then .nan else .inf (false != false)) else Jvm.FP.Core.roundRatio Jvm.FP.Core.b32 (false != false) c d (q - r) := rfl
  rw [e, if_neg h]
  exact ⟨Jvm.FP.Core.roundRatio_ne_nan _ _ _ _ _, Jvm.FP.Core.sgn_roundRatio _ _ _ _ _⟩
theorem nd_prod {c : Nat} {q : Int} (h : c ≠ 0) {d : Jvm.FP.Core.Datum} (n : ND d) : ND (Jvm.FP.Core.exactProduct (.fin false c q) d) := by
  cases d with
  | nan => exact absurd rfl n.1
  | inf s =>
    have e : s = false := n.2
    subst e
    have e : Jvm.FP.Core.exactProduct (.fin false c q) (.inf false) = if c = 0 then .nan else .inf (false != false) := rfl
    rw [e, if_neg h]
    exact ⟨Jvm.FP.Core.Datum.noConfusion, rfl⟩
  | fin s d r =>
    have e : s = false := n.2
    subst e
    exact ⟨Jvm.FP.Core.Datum.noConfusion, rfl⟩
theorem f2i_nd {a : UInt32} (h : ND (Jvm.FP.Core.val32 a)) : 0 ≤ (Jvm.FP.f2i a).toInt := by
  rw [Jvm.FP.Core.f2i_val h.1, h.2]
  generalize Jvm.FP.Core.zmag Jvm.FP.Core.b32 (Jvm.FP.Core.val32 a) / Jvm.FP.Core.one32 = m
  show 0 ≤ max _ (min _ (m : Int))
  omega
theorem i2f_nd (v : Int32) (h : 0 ≤ v.toInt) : ∃ c q, Jvm.FP.Core.val32 (Jvm.FP.i2f v) = .fin false c q := by
  obtain ⟨s, c, q, e⟩ := Jvm.FP.Core.i2f_fin v
  have n : ND (Jvm.FP.Core.val32 (Jvm.FP.i2f v)) := by
    rw [Jvm.FP.Core.val32_i2f]
    refine nd_round ⟨Jvm.FP.Core.Datum.noConfusion, ?_⟩
    show decide (v.toInt < 0) = false
    rw [decide_eq_false_iff_not]; omega
  rw [e] at n
  have es : s = false := n.2
  subst es
  exact ⟨c, q, e⟩
theorem fl_ok {u s : Int32} (hu : 0 ≤ u.toInt) (hs : 1 ≤ s.toInt) : Jvm.FP.Core.fIsNaN (Jvm.FP.fdiv (Jvm.FP.i2f u) (Jvm.FP.i2f s)) = false ∧ Jvm.FP.Core.fIsNaN (Jvm.FP.fmul 1112014848 (Jvm.FP.fdiv (Jvm.FP.i2f u) (Jvm.FP.i2f s))) = false ∧ 0 ≤ (Jvm.FP.f2i (Jvm.FP.fmul 1112014848 (Jvm.FP.fdiv (Jvm.FP.i2f u) (Jvm.FP.i2f s)))).toInt := by
  obtain ⟨c, q, eu⟩ := i2f_nd u hu
  obtain ⟨d, r, es⟩ := i2f_nd s (by omega)
  have sz : s ≠ 0 := fun z => by rw [z] at hs; exact absurd hs (by decide)
  have d0 : d ≠ 0 := fun z => by
    have z1 : Jvm.FP.Core.FZero (Jvm.FP.i2f s) := ⟨false, r, by rw [es, z]⟩
    exact Jvm.FP.Core.i2f_ne_zero sz ((Jvm.FP.Core.zero_bits232 _).mp z1)
  have n1 : ND (Jvm.FP.Core.val32 (Jvm.FP.fdiv (Jvm.FP.i2f u) (Jvm.FP.i2f s))) := by rw [Jvm.FP.Core.val32_fdiv, eu, es]; exact nd_quot d0
  obtain ⟨c5, q5, e5, z5⟩ : ∃ c q, Jvm.FP.Core.val32 1112014848 = .fin false c q ∧ c ≠ 0 := ⟨_, _, rfl, by decide +kernel⟩
  have n2 : ND (Jvm.FP.Core.val32 (Jvm.FP.fmul 1112014848 (Jvm.FP.fdiv (Jvm.FP.i2f u) (Jvm.FP.i2f s)))) := by
    rw [Jvm.FP.Core.val32_fmul, e5]
    exact nd_round (nd_prod z5 n1)
  exact ⟨(Jvm.FP.Core.notNaN_iff32 _).mpr n1.1, (Jvm.FP.Core.notNaN_iff32 _).mpr n2.1, f2i_nd n2⟩
theorem xfl_ok {u s : Int} (u0 : 0 ≤ u) (u1 : u < 2147483648) (s0 : 1 ≤ s) (s1 : s < 2147483648) : xn32 (Jvm.FP.fdiv (xuf (xi2f u)) (xuf (xi2f s))) = true ∧ xn32 (Jvm.FP.fmul (xuf 1112014848) (xuf (xfdiv (xi2f u) (xi2f s)))) = true ∧ 0 ≤ xf2i (xfmul 1112014848 (xfdiv (xi2f u) (xi2f s))) ∧ xf2i (xfmul 1112014848 (xfdiv (xi2f u) (xi2f s))) < 2147483648 := by
  unfold xf2i xfmul xfdiv xi2f
  rw [uf_fu, uf_fu, uf_fu, uf_fu, show xuf 1112014848 = 1112014848 from rfl]
  have f := fl_ok (u := Int32.ofInt u) (s := Int32.ofInt s) (by rw [Int32.toInt_ofInt_of_le (by omega) (by omega)]; exact u0) (by rw [Int32.toInt_ofInt_of_le (by omega) (by omega)]; exact s0)
  exact ⟨xn_of f.1, xn_of f.2.1, f.2.2, Int.lt_of_lt_of_le (Int32.toInt_lt _) (by decide)⟩
