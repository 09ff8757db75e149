/-! syllable, the class -/
/-- the class' line, where there is one -/
theorem line_open {n : Nat} {h : xH} (I : INV n h) : (h.r 2 13 = 0 ∧ h.i 76 0 = 0) ∨ (h.r 2 13 ≠ 0 ∧ h.i 76 0 = 1 ∧ LineRel h (h.r 2 13) 0) := I.2.2.2.2.2.2.2.2.2.2.2.2.2.2.2.2.1
/-- what syllable answers of a syllable -/
def sylA (ws : List Wd) (r : FS) (b : Int) : Int := if b = 0 then r.w else if b = 1 then r.m else if b = 2 then r.n else if b = 3 then r.b else if 10 ≤ b ∧ b < 10 + r.n then (ws.getD r.w.toNat wd0).1.getD (r.f + (b - 10)).toNat 0 else -1
theorem c_X_syllable {h : xH} {Q : Int → xH → Prop} {ws : List Wd} {i : Nat} {b : Int} (SX_ : SX h) (hp : h.r 2 13 ≠ 0) (ok : LnOk ws) (X : XLn (XV h (h.r 2 13)) ws) (Z : XSh h (h.r 2 13) ((flat ws).length : Nat) ((txt ws).length : Nat)) (hi : i < (flat ws).length) (hb : xrg b) (H : Q (sylA ws ((flat ws).getD i fs0) b) h) : xCi 2046 M_X_syllable [(1, 2), (0, (i : Int)), (0, b)] h Q := by
  apply L_X_syllable
  have x0 : h.i (h.r 2 13) 6 = ((flat ws).length : Nat) := X.1
  obtain ⟨x3, x4, x5⟩ := X.2.1 i hi
  have x3 : h.i (h.r (h.r 2 13) 2) (i : Int) = ((flat ws).getD i fs0).w := x3
  have x4 : h.i (h.r (h.r 2 13) 3) (i : Int) = ((flat ws).getD i fs0).m := x4
  have x5 : h.i (h.r (h.r 2 13) 4) (i : Int) = opn ((flat ws).getD i fs0).s + 2 * cls ((flat ws).getD i fs0).s + 4 * ((flat ws).getD i fs0).b := x5
  obtain ⟨j, j1, j2, j3, j4, j5, j6, j7⟩ := flat_get ok hi
  have b01 := (ok.2.2 _ (getD_mem wd0 j1)).2.2.2.1
  rw [← j5] at b01
  have i1 : 0 ≤ (i : Int) ∧ (i : Int) < ((flat ws).length : Nat) := by omega
  obtain ⟨Z1, Z2, Z3, Z4, Z5, Z6, Z7, Z8, Z9, Z10, Z11⟩ := Z
  have Z : XSh h (h.r 2 13) ((flat ws).length : Nat) ((txt ws).length : Nat) := ⟨Z1, Z2, Z3, Z4, Z5, Z6, Z7, Z8, Z9, Z10, Z11⟩
  unfold sylA at H
  refine ⟨(sxt SX_).1, ?_⟩
  rw [if_neg hp, if_neg (by omega), x0, if_pos i1.2]
  refine ⟨Z1, x_if (fun c1 => ?_) (fun c1 => x_if (fun c2 => ?_) (fun c2 => x_if (fun c3 => ?_) (fun c3 => x_if (fun c4 => ?_) (fun c4 => ?_))))⟩
  · rw [if_pos c1] at H
    rw [x3]
    exact ⟨⟨Z4, i1.1, by omega⟩, H⟩
  · rw [if_neg c1, if_pos c2] at H
    rw [x4]
    exact ⟨⟨Z5, i1.1, by omega⟩, H⟩
  · rw [if_neg c1, if_neg c2, if_pos c3] at H
    exact c_X_lettersIn ok X Z hi H
  · rw [if_neg c1, if_neg c2, if_neg c3, if_pos c4] at H
    have o := opn_01 j6.2.2.2.2.2
    have k := cls_01 j6.2.2.2.2.2
    have o : opn ((flat ws).getD i fs0).s = 0 ∨ opn ((flat ws).getD i fs0).s = 1 := o
    have k : cls ((flat ws).getD i fs0).s = 0 ∨ cls ((flat ws).getD i fs0).s = 1 := k
    rw [x5]
    clear x0 x3 x4 x5 X Z Z7 Z8 Z9 Z10 j3 j4 j7 hb
    generalize ((flat ws).getD i fs0).b = bb at *
    generalize opn ((flat ws).getD i fs0).s = oo at *
    generalize cls ((flat ws).getD i fs0).s = kk at *
    rw [xand_4' (by omega) (by omega)]
    refine ⟨⟨Z6, i1.1, by omega⟩, ?_⟩
    rcases b01 with z | z
    · rw [if_pos (by omega)]
      rw [z] at H; exact H
    · rw [if_neg (by omega)]
      rw [z] at H; exact H
  · rw [if_neg c1, if_neg c2, if_neg c3, if_neg c4] at H
    refine c_X_letterIn ok X Z hi ?_
    have eb : (0 ≤ xw (b - 10) ∧ xw (b - 10) < ((flat ws).getD i fs0).n ↔ 10 ≤ b ∧ b < 10 + ((flat ws).getD i fs0).n) ∧ (10 ≤ b → xw (b - 10) = b - 10) := by
      have n1 : 1 ≤ ((flat ws).getD i fs0).n := j6.1
      have n2 : ((flat ws).getD i fs0).n ≤ 16 := by have := (ok.2.2 _ (getD_mem wd0 j1)).2.1; omega
      clear x0 x3 x4 x5 X Z Z7 Z8 Z9 Z10 Z11 j3 j4 j7 H b01 i1
      generalize ((flat ws).getD i fs0).n = nn at *
      unfold xrg at hb; unfold xw; omega
    by_cases q : 10 ≤ b ∧ b < 10 + ((flat ws).getD i fs0).n
    · rw [if_pos q] at H
      rw [if_pos (eb.1.mpr q), eb.2 q.1]
      exact H
    · rw [if_neg q] at H
      rw [if_neg (fun y => q (eb.1.mp y))]
      exact H
