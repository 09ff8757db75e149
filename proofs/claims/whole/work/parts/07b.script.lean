/-! the script is never written -/
section S1
variable {sw : Nat → List Int} {o : xOp} {k k' : Nat} {ls ls' st st' : List xV} {h h' : xH}
abbrev xR1 (h h' : xH) : Prop := h'.len 1 = h.len 1 ∧ h'.i 1 = h.i 1
theorem r1_wi {p k v : Int} (hp : 2 ≤ p) : xR1 h (h.wi p k v) := ⟨rfl, by funext j; rw [xi_wi, if_neg (by omega)]⟩
theorem s1_1 (hc : o.1 = 1) (ho : xopok o = true) (G : xG h) (hs : xstp sw o k ls st h = some (k', ls', st', h')) : xR1 h h' := by
  unfold xstp at hs
  simp only [hc, if_true, if_false, Nat.reduceEqDiff] at hs
  repeat' split at hs
  all_goals first | (cases hs; done) | (cases hs; exact ⟨rfl, rfl⟩)
theorem s1_2 (hc : o.1 = 2) (ho : xopok o = true) (G : xG h) (hs : xstp sw o k ls st h = some (k', ls', st', h')) : xR1 h h' := by
  unfold xstp at hs
  simp only [hc, if_true, if_false, Nat.reduceEqDiff] at hs
  repeat' split at hs
  all_goals first | (cases hs; done) | (cases hs; exact ⟨rfl, rfl⟩)
theorem s1_3 (hc : o.1 = 3) (ho : xopok o = true) (G : xG h) (hs : xstp sw o k ls st h = some (k', ls', st', h')) : xR1 h h' := by
  unfold xstp at hs
  simp only [hc, if_true, if_false, Nat.reduceEqDiff] at hs
  repeat' split at hs
  all_goals first | (cases hs; done) | (cases hs; exact ⟨rfl, rfl⟩)
theorem s1_4 (hc : o.1 = 4) (ho : xopok o = true) (G : xG h) (hs : xstp sw o k ls st h = some (k', ls', st', h')) : xR1 h h' := by
  unfold xstp at hs
  simp only [hc, if_true, if_false, Nat.reduceEqDiff] at hs
  repeat' split at hs
  all_goals first | (cases hs; done) | (cases hs; exact ⟨rfl, rfl⟩)
theorem s1_50 (hc : o.1 = 50) (ho : xopok o = true) (G : xG h) (hs : xstp sw o k ls st h = some (k', ls', st', h')) : xR1 h h' := by
  unfold xstp at hs
  simp only [hc, if_true, if_false, Nat.reduceEqDiff] at hs
  repeat' split at hs
  all_goals first | (cases hs; done) | (cases hs; exact ⟨rfl, rfl⟩)
theorem s1_51 (hc : o.1 = 51) (ho : xopok o = true) (G : xG h) (hs : xstp sw o k ls st h = some (k', ls', st', h')) : xR1 h h' := by
  unfold xstp at hs
  simp only [hc, if_true, if_false, Nat.reduceEqDiff] at hs
  repeat' split at hs
  all_goals first | (cases hs; done) | (cases hs; exact ⟨rfl, rfl⟩)
theorem s1_52 (hc : o.1 = 52) (ho : xopok o = true) (G : xG h) (hs : xstp sw o k ls st h = some (k', ls', st', h')) : xR1 h h' := by
  unfold xstp at hs
  simp only [hc, if_true, if_false, Nat.reduceEqDiff] at hs
  repeat' split at hs
  all_goals first | (cases hs; done) | (cases hs; exact ⟨rfl, rfl⟩)
theorem s1_53 (hc : o.1 = 53) (ho : xopok o = true) (G : xG h) (hs : xstp sw o k ls st h = some (k', ls', st', h')) : xR1 h h' := by
  unfold xstp at hs
  simp only [hc, if_true, if_false, Nat.reduceEqDiff] at hs
  repeat' split at hs
  all_goals first | (cases hs; done) | (cases hs; exact ⟨rfl, rfl⟩)
theorem s1_54 (hc : o.1 = 54) (ho : xopok o = true) (G : xG h) (hs : xstp sw o k ls st h = some (k', ls', st', h')) : xR1 h h' := by
  unfold xstp at hs
  simp only [hc, if_true, if_false, Nat.reduceEqDiff] at hs
  repeat' split at hs
  all_goals first | (cases hs; done) | (cases hs; exact ⟨rfl, rfl⟩)
theorem s1_55 (hc : o.1 = 55) (ho : xopok o = true) (G : xG h) (hs : xstp sw o k ls st h = some (k', ls', st', h')) : xR1 h h' := by
  unfold xstp at hs
  simp only [hc, if_true, if_false, Nat.reduceEqDiff] at hs
  repeat' split at hs
  all_goals first | (cases hs; done) | (cases hs; exact ⟨rfl, rfl⟩)
theorem s1_56 (hc : o.1 = 56) (ho : xopok o = true) (G : xG h) (hs : xstp sw o k ls st h = some (k', ls', st', h')) : xR1 h h' := by
  unfold xstp at hs
  simp only [hc, if_true, if_false, Nat.reduceEqDiff] at hs
  repeat' split at hs
  all_goals first | (cases hs; done) | (cases hs; exact ⟨rfl, rfl⟩)
theorem s1_57 (hc : o.1 = 57) (ho : xopok o = true) (G : xG h) (hs : xstp sw o k ls st h = some (k', ls', st', h')) : xR1 h h' := by
  unfold xstp at hs
  simp only [hc, if_true, if_false, Nat.reduceEqDiff] at hs
  repeat' split at hs
  all_goals first | (cases hs; done) | (cases hs; exact ⟨rfl, rfl⟩)
theorem s1_58 (hc : o.1 = 58) (ho : xopok o = true) (G : xG h) (hs : xstp sw o k ls st h = some (k', ls', st', h')) : xR1 h h' := by
  unfold xstp at hs
  simp only [hc, if_true, if_false, Nat.reduceEqDiff] at hs
  repeat' split at hs
  all_goals first | (cases hs; done) | (cases hs; exact ⟨rfl, rfl⟩)
theorem s1_59 (hc : o.1 = 59) (ho : xopok o = true) (G : xG h) (hs : xstp sw o k ls st h = some (k', ls', st', h')) : xR1 h h' := by
  unfold xstp at hs
  simp only [hc, if_true, if_false, Nat.reduceEqDiff] at hs
  repeat' split at hs
  all_goals first | (cases hs; done) | (cases hs; exact ⟨rfl, rfl⟩)
theorem s1_60 (hc : o.1 = 60) (ho : xopok o = true) (G : xG h) (hs : xstp sw o k ls st h = some (k', ls', st', h')) : xR1 h h' := by
  unfold xstp at hs
  simp only [hc, if_true, if_false, Nat.reduceEqDiff] at hs
  repeat' split at hs
  all_goals first | (cases hs; done) | (cases hs; exact ⟨rfl, rfl⟩)
theorem s1_61 (hc : o.1 = 61) (ho : xopok o = true) (G : xG h) (hs : xstp sw o k ls st h = some (k', ls', st', h')) : xR1 h h' := by
  unfold xstp at hs
  simp only [hc, if_true, if_false, Nat.reduceEqDiff] at hs
  repeat' split at hs
  all_goals first | (cases hs; done) | (cases hs; exact ⟨rfl, rfl⟩)
theorem s1_70 (hc : o.1 = 70) (ho : xopok o = true) (G : xG h) (hs : xstp sw o k ls st h = some (k', ls', st', h')) : xR1 h h' := by
  unfold xstp at hs
  simp only [hc, if_true, if_false, Nat.reduceEqDiff] at hs
  repeat' split at hs
  all_goals first | (cases hs; done) | (cases hs; exact ⟨rfl, rfl⟩)
theorem s1_71 (hc : o.1 = 71) (ho : xopok o = true) (G : xG h) (hs : xstp sw o k ls st h = some (k', ls', st', h')) : xR1 h h' := by
  unfold xstp at hs
  simp only [hc, if_true, if_false, Nat.reduceEqDiff] at hs
  repeat' split at hs
  all_goals first | (cases hs; done) | (cases hs; exact ⟨rfl, rfl⟩)
theorem s1_72 (hc : o.1 = 72) (ho : xopok o = true) (G : xG h) (hs : xstp sw o k ls st h = some (k', ls', st', h')) : xR1 h h' := by
  unfold xstp at hs
  simp only [hc, if_true, if_false, Nat.reduceEqDiff] at hs
  repeat' split at hs
  all_goals first | (cases hs; done) | (cases hs; exact ⟨rfl, rfl⟩)
theorem s1_73 (hc : o.1 = 73) (ho : xopok o = true) (G : xG h) (hs : xstp sw o k ls st h = some (k', ls', st', h')) : xR1 h h' := by
  unfold xstp at hs
  simp only [hc, if_true, if_false, Nat.reduceEqDiff] at hs
  repeat' split at hs
  all_goals first | (cases hs; done) | (cases hs; exact ⟨rfl, rfl⟩)
theorem s1_130 (hc : o.1 = 130) (ho : xopok o = true) (G : xG h) (hs : xstp sw o k ls st h = some (k', ls', st', h')) : xR1 h h' := by
  unfold xstp at hs
  simp only [hc, if_true, if_false, Nat.reduceEqDiff] at hs
  repeat' split at hs
  all_goals first | (cases hs; done) | (cases hs; exact ⟨rfl, rfl⟩)
theorem s1_131 (hc : o.1 = 131) (ho : xopok o = true) (G : xG h) (hs : xstp sw o k ls st h = some (k', ls', st', h')) : xR1 h h' := by
  unfold xstp at hs
  simp only [hc, if_true, if_false, Nat.reduceEqDiff] at hs
  repeat' split at hs
  all_goals first | (cases hs; done) | (cases hs; exact ⟨rfl, rfl⟩)
theorem s1_132 (hc : o.1 = 132) (ho : xopok o = true) (G : xG h) (hs : xstp sw o k ls st h = some (k', ls', st', h')) : xR1 h h' := by
  unfold xstp at hs
  simp only [hc, if_true, if_false, Nat.reduceEqDiff] at hs
  repeat' split at hs
  all_goals first | (cases hs; done) | (cases hs; exact ⟨rfl, rfl⟩)
theorem s1_133 (hc : o.1 = 133) (ho : xopok o = true) (G : xG h) (hs : xstp sw o k ls st h = some (k', ls', st', h')) : xR1 h h' := by
  unfold xstp at hs
  simp only [hc, if_true, if_false, Nat.reduceEqDiff] at hs
  repeat' split at hs
  all_goals first | (cases hs; done) | (cases hs; exact ⟨rfl, rfl⟩)
theorem s1_134 (hc : o.1 = 134) (ho : xopok o = true) (G : xG h) (hs : xstp sw o k ls st h = some (k', ls', st', h')) : xR1 h h' := by
  unfold xstp at hs
  simp only [hc, if_true, if_false, Nat.reduceEqDiff] at hs
  repeat' split at hs
  all_goals first | (cases hs; done) | (cases hs; exact ⟨rfl, rfl⟩)
theorem s1_135 (hc : o.1 = 135) (ho : xopok o = true) (G : xG h) (hs : xstp sw o k ls st h = some (k', ls', st', h')) : xR1 h h' := by
  unfold xstp at hs
  simp only [hc, if_true, if_false, Nat.reduceEqDiff] at hs
  repeat' split at hs
  all_goals first | (cases hs; done) | (cases hs; exact ⟨rfl, rfl⟩)
theorem s1_140 (hc : o.1 = 140) (ho : xopok o = true) (G : xG h) (hs : xstp sw o k ls st h = some (k', ls', st', h')) : xR1 h h' := by
  unfold xstp at hs
  simp only [hc, if_true, if_false, Nat.reduceEqDiff] at hs
  repeat' split at hs
  all_goals first | (cases hs; done) | (cases hs; exact ⟨rfl, rfl⟩)
theorem s1_141 (hc : o.1 = 141) (ho : xopok o = true) (G : xG h) (hs : xstp sw o k ls st h = some (k', ls', st', h')) : xR1 h h' := by
  unfold xstp at hs
  simp only [hc, if_true, if_false, Nat.reduceEqDiff] at hs
  repeat' split at hs
  all_goals first | (cases hs; done) | (cases hs; exact ⟨rfl, rfl⟩)
theorem s1_142 (hc : o.1 = 142) (ho : xopok o = true) (G : xG h) (hs : xstp sw o k ls st h = some (k', ls', st', h')) : xR1 h h' := by
  unfold xstp at hs
  simp only [hc, if_true, if_false, Nat.reduceEqDiff] at hs
  repeat' split at hs
  all_goals first | (cases hs; done) | (cases hs; exact ⟨rfl, rfl⟩)
theorem s1_143 (hc : o.1 = 143) (ho : xopok o = true) (G : xG h) (hs : xstp sw o k ls st h = some (k', ls', st', h')) : xR1 h h' := by
  unfold xstp at hs
  simp only [hc, if_true, if_false, Nat.reduceEqDiff] at hs
  repeat' split at hs
  all_goals first | (cases hs; done) | (cases hs; exact ⟨rfl, rfl⟩)
theorem s1_144 (hc : o.1 = 144) (ho : xopok o = true) (G : xG h) (hs : xstp sw o k ls st h = some (k', ls', st', h')) : xR1 h h' := by
  unfold xstp at hs
  simp only [hc, if_true, if_false, Nat.reduceEqDiff] at hs
  repeat' split at hs
  all_goals first | (cases hs; done) | (cases hs; exact ⟨rfl, rfl⟩)
theorem s1_145 (hc : o.1 = 145) (ho : xopok o = true) (G : xG h) (hs : xstp sw o k ls st h = some (k', ls', st', h')) : xR1 h h' := by
  unfold xstp at hs
  simp only [hc, if_true, if_false, Nat.reduceEqDiff] at hs
  repeat' split at hs
  all_goals first | (cases hs; done) | (cases hs; exact ⟨rfl, rfl⟩)
theorem s1_15 (hc : o.1 = 15) (ho : xopok o = true) (G : xG h) (hs : xstp sw o k ls st h = some (k', ls', st', h')) : xR1 h h' := by
  unfold xstp at hs
  simp only [hc, if_true, if_false, Nat.reduceEqDiff] at hs
  repeat' split at hs
  all_goals first | (cases hs; done) | (cases hs; exact ⟨rfl, rfl⟩)
theorem s1_16 (hc : o.1 = 16) (ho : xopok o = true) (G : xG h) (hs : xstp sw o k ls st h = some (k', ls', st', h')) : xR1 h h' := by
  unfold xstp at hs
  simp only [hc, if_true, if_false, Nat.reduceEqDiff] at hs
  repeat' split at hs
  all_goals first | (cases hs; done) | (cases hs; exact ⟨rfl, rfl⟩)
theorem s1_17 (hc : o.1 = 17) (ho : xopok o = true) (G : xG h) (hs : xstp sw o k ls st h = some (k', ls', st', h')) : xR1 h h' := by
  unfold xstp at hs
  simp only [hc, if_true, if_false, Nat.reduceEqDiff] at hs
  repeat' split at hs
  all_goals first | (cases hs; done) | (cases hs; exact ⟨rfl, rfl⟩)
theorem s1_18 (hc : o.1 = 18) (ho : xopok o = true) (G : xG h) (hs : xstp sw o k ls st h = some (k', ls', st', h')) : xR1 h h' := by
  unfold xstp at hs
  simp only [hc, if_true, if_false, Nat.reduceEqDiff] at hs
  repeat' split at hs
  all_goals first | (cases hs; done) | (cases hs; exact ⟨rfl, rfl⟩)
theorem s1_19 (hc : o.1 = 19) (ho : xopok o = true) (G : xG h) (hs : xstp sw o k ls st h = some (k', ls', st', h')) : xR1 h h' := by
  unfold xstp at hs
  simp only [hc, if_true, if_false, Nat.reduceEqDiff] at hs
  repeat' split at hs
  all_goals first | (cases hs; done) | (cases hs; exact ⟨rfl, rfl⟩)
theorem s1_20 (hc : o.1 = 20) (ho : xopok o = true) (G : xG h) (hs : xstp sw o k ls st h = some (k', ls', st', h')) : xR1 h h' := by
  unfold xstp at hs
  simp only [hc, if_true, if_false, Nat.reduceEqDiff] at hs
  repeat' split at hs
  all_goals first | (cases hs; done) | (cases hs; exact ⟨rfl, rfl⟩)
theorem s1_21 (hc : o.1 = 21) (ho : xopok o = true) (G : xG h) (hs : xstp sw o k ls st h = some (k', ls', st', h')) : xR1 h h' := by
  unfold xstp at hs
  simp only [hc, if_true, if_false, Nat.reduceEqDiff] at hs
  split at hs
  · rename_i v p st
    by_cases q : h.tag p = o.2.1 ∧ v.1 = (if o.2.2.2 = 1 then 1 else 0) ∧ (o.2.2.2 = 2 → v.2 = 0 ∨ v.2 = 1)
    · rw [if_pos q] at hs
      simp only [Option.some.injEq, Prod.mk.injEq] at hs
      obtain ⟨rfl, rfl, rfl, rfl⟩ := hs
      have ho : 0 ≤ o.2.1 ∧ o.2.1 < 13 := by unfold xopok at ho; simp [hc] at ho; exact ho
      have hp := xG_at G q.1 (Or.inl ho)
      split
      · exact ⟨rfl, rfl⟩
      · exact r1_wi hp.1
    · rw [if_neg q] at hs; cases hs
  · cases hs
theorem s1_22 (hc : o.1 = 22) (ho : xopok o = true) (G : xG h) (hs : xstp sw o k ls st h = some (k', ls', st', h')) : xR1 h h' := by
  unfold xstp at hs
  simp only [hc, if_true, if_false, Nat.reduceEqDiff] at hs
  repeat' split at hs
  all_goals first | (cases hs; done) | (cases hs; exact ⟨rfl, rfl⟩)
theorem s1_23 (hc : o.1 = 23) (ho : xopok o = true) (G : xG h) (hs : xstp sw o k ls st h = some (k', ls', st', h')) : xR1 h h' := by
  unfold xstp at hs
  simp only [hc, if_true, if_false, Nat.reduceEqDiff] at hs
  split at hs
  · split at hs
    · rename_i q
      simp only [Option.some.injEq, Prod.mk.injEq] at hs
      obtain ⟨rfl, rfl, rfl, rfl⟩ := hs
      have ho : o.2.1 = 20 ∨ o.2.1 = 21 ∨ o.2.1 = 22 := by unfold xopok at ho; simp [hc] at ho; exact ho
      exact r1_wi (xG_at G q.1 (Or.inr (by omega))).1
    · cases hs
  · cases hs
theorem s1_24 (hc : o.1 = 24) (ho : xopok o = true) (G : xG h) (hs : xstp sw o k ls st h = some (k', ls', st', h')) : xR1 h h' := by
  unfold xstp at hs
  simp only [hc, if_true, if_false, Nat.reduceEqDiff] at hs
  repeat' split at hs
  all_goals first | (cases hs; done) | (cases hs; exact ⟨rfl, rfl⟩)
theorem s1_25 (hc : o.1 = 25) (ho : xopok o = true) (G : xG h) (hs : xstp sw o k ls st h = some (k', ls', st', h')) : xR1 h h' := by
  unfold xstp at hs
  simp only [hc, if_true, if_false, Nat.reduceEqDiff] at hs
  repeat' split at hs
  all_goals first | (cases hs; done) | (cases hs; exact ⟨rfl, rfl⟩)
theorem s1_26 (hc : o.1 = 26) (ho : xopok o = true) (G : xG h) (hs : xstp sw o k ls st h = some (k', ls', st', h')) : xR1 h h' := by
  unfold xstp at hs
  simp only [hc, if_true, if_false, Nat.reduceEqDiff] at hs
  repeat' split at hs
  all_goals first | (cases hs; done) | (cases hs; exact ⟨rfl, rfl⟩)
theorem s1_27 (hc : o.1 = 27) (ho : xopok o = true) (G : xG h) (hs : xstp sw o k ls st h = some (k', ls', st', h')) : xR1 h h' := by
  unfold xstp at hs
  simp only [hc, if_true, if_false, Nat.reduceEqDiff] at hs
  split at hs
  · split at hs
    · simp only [Option.some.injEq, Prod.mk.injEq] at hs
      obtain ⟨rfl, rfl, rfl, rfl⟩ := hs
      have g1 := G.1
      refine ⟨?_, ?_⟩
      · rw [xl_al, if_neg (by omega)]
      · rfl
    · cases hs
  · cases hs
theorem s1_29 (hc : o.1 = 29) (ho : xopok o = true) (G : xG h) (hs : xstp sw o k ls st h = some (k', ls', st', h')) : xR1 h h' := by
  unfold xstp at hs
  simp only [hc, if_true, if_false, Nat.reduceEqDiff] at hs
  simp only [Option.some.injEq, Prod.mk.injEq] at hs
  obtain ⟨rfl, rfl, rfl, rfl⟩ := hs
  have g1 := G.1
  refine ⟨?_, ?_⟩
  · rw [xl_al, if_neg (by omega)]
  · rfl
theorem s1_30 (hc : o.1 = 30) (ho : xopok o = true) (G : xG h) (hs : xstp sw o k ls st h = some (k', ls', st', h')) : xR1 h h' := by
  unfold xstp at hs
  simp only [hc, if_true, if_false, Nat.reduceEqDiff] at hs
  repeat' split at hs
  all_goals first | (cases hs; done) | (cases hs; exact ⟨rfl, rfl⟩)
theorem s1_34 (hc : o.1 = 34) (ho : xopok o = true) (G : xG h) (hs : xstp sw o k ls st h = some (k', ls', st', h')) : xR1 h h' := by
  unfold xstp at hs
  simp only [hc, if_true, if_false, Nat.reduceEqDiff] at hs
  repeat' split at hs
  all_goals first | (cases hs; done) | (cases hs; exact ⟨rfl, rfl⟩)
theorem s1_35 (hc : o.1 = 35) (ho : xopok o = true) (G : xG h) (hs : xstp sw o k ls st h = some (k', ls', st', h')) : xR1 h h' := by
  unfold xstp at hs
  simp only [hc, if_true, if_false, Nat.reduceEqDiff] at hs
  repeat' split at hs
  all_goals first | (cases hs; done) | (cases hs; exact ⟨rfl, rfl⟩)
theorem s1_36 (hc : o.1 = 36) (ho : xopok o = true) (G : xG h) (hs : xstp sw o k ls st h = some (k', ls', st', h')) : xR1 h h' := by
  unfold xstp at hs
  simp only [hc, if_true, if_false, Nat.reduceEqDiff] at hs
  split at hs
  · split at hs
    · rename_i q
      simp only [Option.some.injEq, Prod.mk.injEq] at hs
      obtain ⟨rfl, rfl, rfl, rfl⟩ := hs
      have hp := xG_at G q.2.1 (Or.inr (by omega))
      exact ⟨rfl, by funext j; rw [xi_cp, if_neg (by omega)]⟩
    · cases hs
  · cases hs
theorem s1_37 (hc : o.1 = 37) (ho : xopok o = true) (G : xG h) (hs : xstp sw o k ls st h = some (k', ls', st', h')) : xR1 h h' := by
  unfold xstp at hs
  simp only [hc, if_true, if_false, Nat.reduceEqDiff] at hs
  split at hs
  · split at hs
    · simp only [Option.some.injEq, Prod.mk.injEq] at hs
      obtain ⟨rfl, rfl, rfl, rfl⟩ := hs
      have g1 := G.1
      refine ⟨?_, ?_⟩
      · rw [xl_cp, xl_al, if_neg (by omega)]
      · funext j; rw [xi_cp, if_neg (by omega), xi_al]
    · cases hs
  · cases hs
theorem s1_38 (hc : o.1 = 38) (ho : xopok o = true) (G : xG h) (hs : xstp sw o k ls st h = some (k', ls', st', h')) : xR1 h h' := by
  unfold xstp at hs
  simp only [hc, if_true, if_false, Nat.reduceEqDiff] at hs
  repeat' split at hs
  all_goals first | (cases hs; done) | (cases hs; exact ⟨rfl, rfl⟩)
theorem s1_40 (hc : o.1 = 40) (ho : xopok o = true) (G : xG h) (hs : xstp sw o k ls st h = some (k', ls', st', h')) : xR1 h h' := by
  unfold xstp at hs
  simp only [hc, if_true, if_false, Nat.reduceEqDiff] at hs
  repeat' split at hs
  all_goals first | (cases hs; done) | (cases hs; exact ⟨rfl, rfl⟩)
theorem s1_41 (hc : o.1 = 41) (ho : xopok o = true) (G : xG h) (hs : xstp sw o k ls st h = some (k', ls', st', h')) : xR1 h h' := by
  unfold xstp at hs
  simp only [hc, if_true, if_false, Nat.reduceEqDiff] at hs
  repeat' split at hs
  all_goals first | (cases hs; done) | (cases hs; exact ⟨rfl, rfl⟩)
theorem s1_42 (hc : o.1 = 42) (ho : xopok o = true) (G : xG h) (hs : xstp sw o k ls st h = some (k', ls', st', h')) : xR1 h h' := by
  unfold xstp at hs
  simp only [hc, if_true, if_false, Nat.reduceEqDiff] at hs
  repeat' split at hs
  all_goals first | (cases hs; done) | (cases hs; exact ⟨rfl, rfl⟩)
theorem s1_43 (hc : o.1 = 43) (ho : xopok o = true) (G : xG h) (hs : xstp sw o k ls st h = some (k', ls', st', h')) : xR1 h h' := by
  unfold xstp at hs
  simp only [hc, if_true, if_false, Nat.reduceEqDiff] at hs
  repeat' split at hs
  all_goals first | (cases hs; done) | (cases hs; exact ⟨rfl, rfl⟩)
theorem s1_44 (hc : o.1 = 44) (ho : xopok o = true) (G : xG h) (hs : xstp sw o k ls st h = some (k', ls', st', h')) : xR1 h h' := by
  unfold xstp at hs
  simp only [hc, if_true, if_false, Nat.reduceEqDiff] at hs
  repeat' split at hs
  all_goals first | (cases hs; done) | (cases hs; exact ⟨rfl, rfl⟩)
theorem s1_45 (hc : o.1 = 45) (ho : xopok o = true) (G : xG h) (hs : xstp sw o k ls st h = some (k', ls', st', h')) : xR1 h h' := by
  unfold xstp at hs
  simp only [hc, if_true, if_false, Nat.reduceEqDiff] at hs
  repeat' split at hs
  all_goals first | (cases hs; done) | (cases hs; exact ⟨rfl, rfl⟩)
theorem s1_46 (hc : o.1 = 46) (ho : xopok o = true) (G : xG h) (hs : xstp sw o k ls st h = some (k', ls', st', h')) : xR1 h h' := by
  unfold xstp at hs
  simp only [hc, if_true, if_false, Nat.reduceEqDiff] at hs
  repeat' split at hs
  all_goals first | (cases hs; done) | (cases hs; exact ⟨rfl, rfl⟩)
theorem s1_47 (hc : o.1 = 47) (ho : xopok o = true) (G : xG h) (hs : xstp sw o k ls st h = some (k', ls', st', h')) : xR1 h h' := by
  unfold xstp at hs
  simp only [hc, if_true, if_false, Nat.reduceEqDiff] at hs
  repeat' split at hs
  all_goals first | (cases hs; done) | (cases hs; exact ⟨rfl, rfl⟩)
theorem s1_48 (hc : o.1 = 48) (ho : xopok o = true) (G : xG h) (hs : xstp sw o k ls st h = some (k', ls', st', h')) : xR1 h h' := by
  unfold xstp at hs
  simp only [hc, if_true, if_false, Nat.reduceEqDiff] at hs
  repeat' split at hs
  all_goals first | (cases hs; done) | (cases hs; exact ⟨rfl, rfl⟩)
theorem s1_80 (hc : o.1 = 80) (ho : xopok o = true) (G : xG h) (hs : xstp sw o k ls st h = some (k', ls', st', h')) : xR1 h h' := by
  unfold xstp at hs
  simp only [hc, if_true, if_false, Nat.reduceEqDiff] at hs
  repeat' split at hs
  all_goals first | (cases hs; done) | (cases hs; exact ⟨rfl, rfl⟩)
theorem s1_81 (hc : o.1 = 81) (ho : xopok o = true) (G : xG h) (hs : xstp sw o k ls st h = some (k', ls', st', h')) : xR1 h h' := by
  unfold xstp at hs
  simp only [hc, if_true, if_false, Nat.reduceEqDiff] at hs
  repeat' split at hs
  all_goals first | (cases hs; done) | (cases hs; exact ⟨rfl, rfl⟩)
theorem s1_82 (hc : o.1 = 82) (ho : xopok o = true) (G : xG h) (hs : xstp sw o k ls st h = some (k', ls', st', h')) : xR1 h h' := by
  unfold xstp at hs
  simp only [hc, if_true, if_false, Nat.reduceEqDiff] at hs
  repeat' split at hs
  all_goals first | (cases hs; done) | (cases hs; exact ⟨rfl, rfl⟩)
theorem s1_83 (hc : o.1 = 83) (ho : xopok o = true) (G : xG h) (hs : xstp sw o k ls st h = some (k', ls', st', h')) : xR1 h h' := by
  unfold xstp at hs
  simp only [hc, if_true, if_false, Nat.reduceEqDiff] at hs
  repeat' split at hs
  all_goals first | (cases hs; done) | (cases hs; exact ⟨rfl, rfl⟩)
theorem s1_84 (hc : o.1 = 84) (ho : xopok o = true) (G : xG h) (hs : xstp sw o k ls st h = some (k', ls', st', h')) : xR1 h h' := by
  unfold xstp at hs
  simp only [hc, if_true, if_false, Nat.reduceEqDiff] at hs
  repeat' split at hs
  all_goals first | (cases hs; done) | (cases hs; exact ⟨rfl, rfl⟩)
theorem stp_1 (ho : xopok o = true) (G : xG h) (hs : xstp sw o k ls st h = some (k', ls', st', h')) : xR1 h h' := by
  by_cases c1 : o.1 = 1
  · exact s1_1 c1 ho G hs
  by_cases c2 : o.1 = 2
  · exact s1_2 c2 ho G hs
  by_cases c3 : o.1 = 3
  · exact s1_3 c3 ho G hs
  by_cases c4 : o.1 = 4
  · exact s1_4 c4 ho G hs
  by_cases c50 : o.1 = 50
  · exact s1_50 c50 ho G hs
  by_cases c51 : o.1 = 51
  · exact s1_51 c51 ho G hs
  by_cases c52 : o.1 = 52
  · exact s1_52 c52 ho G hs
  by_cases c53 : o.1 = 53
  · exact s1_53 c53 ho G hs
  by_cases c54 : o.1 = 54
  · exact s1_54 c54 ho G hs
  by_cases c55 : o.1 = 55
  · exact s1_55 c55 ho G hs
  by_cases c56 : o.1 = 56
  · exact s1_56 c56 ho G hs
  by_cases c57 : o.1 = 57
  · exact s1_57 c57 ho G hs
  by_cases c58 : o.1 = 58
  · exact s1_58 c58 ho G hs
  by_cases c59 : o.1 = 59
  · exact s1_59 c59 ho G hs
  by_cases c60 : o.1 = 60
  · exact s1_60 c60 ho G hs
  by_cases c61 : o.1 = 61
  · exact s1_61 c61 ho G hs
  by_cases c70 : o.1 = 70
  · exact s1_70 c70 ho G hs
  by_cases c71 : o.1 = 71
  · exact s1_71 c71 ho G hs
  by_cases c72 : o.1 = 72
  · exact s1_72 c72 ho G hs
  by_cases c73 : o.1 = 73
  · exact s1_73 c73 ho G hs
  by_cases c130 : o.1 = 130
  · exact s1_130 c130 ho G hs
  by_cases c131 : o.1 = 131
  · exact s1_131 c131 ho G hs
  by_cases c132 : o.1 = 132
  · exact s1_132 c132 ho G hs
  by_cases c133 : o.1 = 133
  · exact s1_133 c133 ho G hs
  by_cases c134 : o.1 = 134
  · exact s1_134 c134 ho G hs
  by_cases c135 : o.1 = 135
  · exact s1_135 c135 ho G hs
  by_cases c140 : o.1 = 140
  · exact s1_140 c140 ho G hs
  by_cases c141 : o.1 = 141
  · exact s1_141 c141 ho G hs
  by_cases c142 : o.1 = 142
  · exact s1_142 c142 ho G hs
  by_cases c143 : o.1 = 143
  · exact s1_143 c143 ho G hs
  by_cases c144 : o.1 = 144
  · exact s1_144 c144 ho G hs
  by_cases c145 : o.1 = 145
  · exact s1_145 c145 ho G hs
  by_cases c15 : o.1 = 15
  · exact s1_15 c15 ho G hs
  by_cases c16 : o.1 = 16
  · exact s1_16 c16 ho G hs
  by_cases c17 : o.1 = 17
  · exact s1_17 c17 ho G hs
  by_cases c18 : o.1 = 18
  · exact s1_18 c18 ho G hs
  by_cases c19 : o.1 = 19
  · exact s1_19 c19 ho G hs
  by_cases c20 : o.1 = 20
  · exact s1_20 c20 ho G hs
  by_cases c21 : o.1 = 21
  · exact s1_21 c21 ho G hs
  by_cases c22 : o.1 = 22
  · exact s1_22 c22 ho G hs
  by_cases c23 : o.1 = 23
  · exact s1_23 c23 ho G hs
  by_cases c24 : o.1 = 24
  · exact s1_24 c24 ho G hs
  by_cases c25 : o.1 = 25
  · exact s1_25 c25 ho G hs
  by_cases c26 : o.1 = 26
  · exact s1_26 c26 ho G hs
  by_cases c27 : o.1 = 27
  · exact s1_27 c27 ho G hs
  by_cases c29 : o.1 = 29
  · exact s1_29 c29 ho G hs
  by_cases c30 : o.1 = 30
  · exact s1_30 c30 ho G hs
  by_cases c34 : o.1 = 34
  · exact s1_34 c34 ho G hs
  by_cases c35 : o.1 = 35
  · exact s1_35 c35 ho G hs
  by_cases c36 : o.1 = 36
  · exact s1_36 c36 ho G hs
  by_cases c37 : o.1 = 37
  · exact s1_37 c37 ho G hs
  by_cases c38 : o.1 = 38
  · exact s1_38 c38 ho G hs
  by_cases c40 : o.1 = 40
  · exact s1_40 c40 ho G hs
  by_cases c41 : o.1 = 41
  · exact s1_41 c41 ho G hs
  by_cases c42 : o.1 = 42
  · exact s1_42 c42 ho G hs
  by_cases c43 : o.1 = 43
  · exact s1_43 c43 ho G hs
  by_cases c44 : o.1 = 44
  · exact s1_44 c44 ho G hs
  by_cases c45 : o.1 = 45
  · exact s1_45 c45 ho G hs
  by_cases c46 : o.1 = 46
  · exact s1_46 c46 ho G hs
  by_cases c47 : o.1 = 47
  · exact s1_47 c47 ho G hs
  by_cases c48 : o.1 = 48
  · exact s1_48 c48 ho G hs
  by_cases c80 : o.1 = 80
  · exact s1_80 c80 ho G hs
  by_cases c81 : o.1 = 81
  · exact s1_81 c81 ho G hs
  by_cases c82 : o.1 = 82
  · exact s1_82 c82 ho G hs
  by_cases c83 : o.1 = 83
  · exact s1_83 c83 ho G hs
  by_cases c84 : o.1 = 84
  · exact s1_84 c84 ho G hs
  unfold xstp at hs
  simp only [c1, c2, c3, c4, c50, c51, c52, c53, c54, c55, c56, c57, c58, c59, c60, c61, c70, c71, c72, c73, c130, c131, c132, c133, c134, c135, c140, c141, c142, c143, c144, c145, c15, c16, c17, c18, c19, c20, c21, c22, c23, c24, c25, c26, c27, c29, c30, c34, c35, c36, c37, c38, c40, c41, c42, c43, c44, c45, c46, c47, c48, c80, c81, c82, c83, c84, if_false] at hs
  cases hs
end S1
theorem run_1 : ∀ (n d m k : Nat) (ls st : List xV) (h : xH) (v : xV) (h' : xH), xI h ls st → xrun xsw xcd xmi n d m k ls st h = some (v, h') → xR1 h h' := by
  intro n
  induction n with
  | zero => intro d m k ls st h v h' I e; exact absurd e (by rw [xrun]; exact fun q => nomatch q)
  | succ n ih =>
    intro d m k ls st h v h' I e
    rw [xrun_s] at e
    by_cases h31 : (xcd m k).1 = 31
    · rw [if_pos h31] at e
      split at e
      · cases e
      split at e
      · split at e
        · cases e
        · rename_i v1 h1 e1
          have hc : xI h ((st.take (xmi (xcd m k).2.1.toNat).2).reverse ++ List.replicate ((xmi (xcd m k).2.1.toNat).1 - (xmi (xcd m k).2.1.toNat).2) (9, 0)) [] :=
            ⟨I.1, fun w hw => (List.mem_append.mp hw).elim (fun q => I.2.2 w (List.mem_of_mem_take (List.mem_reverse.mp q))) (ok_rep w), fun w hw => absurd hw List.not_mem_nil⟩
          obtain ⟨a1, a2, a3, a4⟩ := run_ok _ _ _ _ _ _ _ _ _ hc e1
          have hd : ∀ w ∈ st.drop (xmi (xcd m k).2.1.toNat).2, xok h1.nx w := fun w hw => ok_up (I.2.2 w (List.mem_of_mem_drop hw)) a3
          have hI : xI h1 ls (if v1.1 = 9 then st.drop (xmi (xcd m k).2.1.toNat).2 else v1 :: st.drop (xmi (xcd m k).2.1.toNat).2) := by
            refine ⟨a1, ok_ups I.2.1 a3, ?_⟩
            split
            · exact hd
            · exact ok_c a2 hd
          have b1 := ih _ _ _ _ _ _ _ _ hc e1
          have b2 := ih _ _ _ _ _ _ _ _ hI e
          exact ⟨b2.1.trans b1.1, b2.2.trans b1.2⟩
      · cases e
    · rw [if_neg h31] at e
      split at e
      · split at e
        · cases e; exact ⟨rfl, rfl⟩
        · cases e
      split at e
      · split at e
        · split at e
          · cases e; exact ⟨rfl, rfl⟩
          · cases e
        · cases e
      split at e
      · cases e
      · rename_i k1 ls1 st1 h1 e1
        have b1 := stp_1 (xop_ok m k) I.1 e1
        have b2 := ih _ _ _ _ _ _ _ _ (stp_ok (xop_ok m k) I e1).1 e
        exact ⟨b2.1.trans b1.1, b2.2.trans b1.2⟩
