/-! the reference's endings -/
theorem vbits_rg : ∀ S : List (Int × Int), enOk S → 0 ≤ vbits S ∧ vbits S < 2 ^ S.length := by
  intro S
  induction S with
  | nil => intro _; exact ⟨Int.le_refl _, by decide⟩
  | cons p r ih =>
    intro ok
    have z := ih (fun x hx => ok x (List.mem_cons_of_mem _ hx))
    have v := (ok p List.mem_cons_self).1
    rw [vbits, List.length_cons, Int.pow_succ]
    omega
theorem vbits_bit : ∀ (S : List (Int × Int)) (k : Nat), enOk S → k < S.length → vbits S / 2 ^ k % 2 = (S.getD k (0, 0)).2 := by
  intro S
  induction S with
  | nil => intro k _ h; exact absurd h (Nat.not_lt_zero _)
  | cons p r ih =>
    intro k ok hk
    have v := (ok p List.mem_cons_self).1
    rw [vbits]
    cases k with
    | zero =>
      show (p.2 + 2 * vbits r) / 1 % 2 = p.2
      omega
    | succ k =>
      rw [List.getD_cons_succ, ← ih k (fun x hx => ok x (List.mem_cons_of_mem _ hx)) (by rw [List.length_cons] at hk; omega), Int.pow_succ, Int.mul_comm (2 ^ k) 2, ← Int.ediv_ediv_of_nonneg (by decide : (0 : Int) ≤ 2)]
      rw [show (p.2 + 2 * vbits r) / 2 = vbits r by omega]
theorem pow16 {n : Nat} (h : n ≤ 16) : (2 : Int) ^ n ≤ 65536 := by
  have : (2 : Nat) ^ n ≤ 2 ^ 16 := Nat.pow_le_pow_right (by decide) h
  have e : ((2 ^ n : Nat) : Int) = (2 : Int) ^ n := Int.natCast_pow 2 n
  rw [← e]
  have z : (2 : Nat) ^ 16 = 65536 := rfl
  rw [z] at this
  exact Int.ofNat_le.mpr this
def outp (b : Bool) (S : List (Int × Int)) : List (Int × Int) := if b = true then S else S.dropWhile (fun p => decide (p.2 = 0))
def anyv (S : List (Int × Int)) : Bool := S.any (fun p => decide (p.2 = 1))
theorem outp_cons (b : Bool) (p : Int × Int) (r : List (Int × Int)) (h : p.2 = 0 ∨ p.2 = 1) : outp b (p :: r) = if (b || decide (p.2 = 1)) = true then p :: outp true r else outp false r := by
  unfold outp
  cases b with
  | true => rfl
  | false =>
    rcases h with z | z
    · rw [if_neg (by decide), List.dropWhile_cons_of_pos (by exact decide_eq_true z), if_neg (by rw [z]; decide)]
      rfl
    · rw [if_neg (by decide), List.dropWhile_cons_of_neg (by rw [z]; decide), if_pos (by rw [z]; decide)]
      rfl
theorem outp_app (b : Bool) : ∀ (A B : List (Int × Int)), enOk A → outp b (A ++ B) = outp b A ++ outp (b || anyv A) B := by
  intro A
  induction A generalizing b with
  | nil => intro B _; cases b <;> rfl
  | cons p r ih =>
    intro B ok
    have v := (ok p List.mem_cons_self).1
    rw [List.cons_append, outp_cons b p (r ++ B) v, outp_cons b p r v]
    have ea : anyv (p :: r) = (decide (p.2 = 1) || anyv r) := rfl
    rw [ea]
    have okr : enOk r := fun x hx => ok x (List.mem_cons_of_mem _ hx)
    by_cases c : (b || decide (p.2 = 1)) = true
    · rw [if_pos c, if_pos c, ih true B okr, List.cons_append, ← Bool.or_assoc, c]
    · have c' : (b || decide (p.2 = 1)) = false := by
        cases q : (b || decide (p.2 = 1)) with
        | true => exact absurd q c
        | false => rfl
      rw [if_neg c, if_neg c, ih false B okr, ← Bool.or_assoc, c']
def b2i (b : Bool) : Int := if b = true then 1 else 0
/-- E stands from m on in ending number o, all else of the rows is as it was -/
def enW (h h' : xH) (o m : Int) (E : List (Int × Int)) : Prop := (∀ j, h'.i 116 j = if j = o then m + (E.length : Nat) else h.i 116 j) ∧ (∀ j : Nat, j < E.length → h'.i 114 (640 * o + m + j) = (E.getD j (0, 0)).1 ∧ h'.i 115 (640 * o + m + j) = (E.getD j (0, 0)).2) ∧ (∀ j, (j < 640 * o + m ∨ 640 * o + 640 ≤ j) → h'.i 114 j = h.i 114 j ∧ h'.i 115 j = h.i 115 j)
theorem c_end_62 {d : Nat} {Q : xH → Prop} {l o at_ y : Int} {S_ : List (Int × Int)} (okS : enOk S_) (lS : S_.length ≤ 16) (a0 : 0 ≤ at_) (a1 : at_ < 600) (o0 : o = 0 ∨ o = 1) (y0 : 0 ≤ y) (y1 : y < 1000) : ∀ (n : Nat) (h : xH) (k : Nat) (b : Bool) (m : Int) (u7 : xV), SR h → h.i 87 at_ = (S_.length : Nat) → h.i 88 at_ = vbits S_ → (∀ k : Nat, k < S_.length → h.i 86 (16 * at_ + k) = (S_.getD k (0, 0)).1) → k + n = S_.length → h.i 116 o = m → 0 ≤ m → m + n ≤ 640 → (∀ h' u5 u6 u7, Fr [114, 115, 116] [] h h' → enW h h' o m (outp b (S_.drop k)) → xT d M_R_ending 48 [(1, 59), (0, l), (0, o), (0, y + 1), (0, b2i (b || anyv (S_.drop k))), u5, u6, u7] [] h' (xqv Q)) → xT d M_R_ending 62 [(1, 59), (0, l), (0, o), (0, y), (0, b2i b), (0, at_), (0, (k : Int)), u7] [] h (xqv Q) := by
  have vr := vbits_rg S_ okS
  have p16 := pow16 lS
  intro n
  induction n with
  | zero =>
    intro h k b m u7 SS z1 z2 z3 e z4 m0 m1 H
    have ed : S_.drop k = [] := List.drop_of_length_le (by omega)
    have eo : outp b ([] : List (Int × Int)) = [] := by cases b <;> rfl
    rw [ed] at H
    have z := H h (0, at_) (0, (k : Int)) u7 (Fr_refl _ _ _) (by
      rw [eo]
      refine ⟨fun j => ?_, fun j hj => absurd hj (Nat.not_lt_zero _), fun j _ => ⟨rfl, rfl⟩⟩
      by_cases c : j = o
      · rw [if_pos c, c, z4]; exact (Int.add_zero m).symm
      · rw [if_neg c])
    rw [show anyv ([] : List (Int × Int)) = false from rfl, Bool.or_false] at z
    apply L_R_ending_62
    have S := SS
    simp only [srt S, srl S, srf S, z1, true_and, and_true, false_and, and_false, forall_eq, forall_eq', xi_wi, xr_wi, xt_wi, xl_wi, xn_wi, xs_wi, xi_wr, xr_wr, xt_wr, xl_wr, xn_wr, xs_wr, if_true, if_false, and_self, Int.reduceEq, Int.reduceLT, Int.reduceLE, Int.reduceNeg, Int.le_refl, Int.reduceMod]
    rw [if_neg (by omega), xw_id (by omega) (by omega)]
    exact ⟨⟨a0, a1⟩, z⟩
  | succ n ih =>
    intro h k b m u7 SS z1 z2 z3 e z4 m0 m1 H
    have hk : k < S_.length := by omega
    have ed := drop_at (0, 0) hk
    have v := (okS _ (getD_mem (0, 0) hk)).1
    have bt := vbits_bit S_ k okS hk
    have zs := z3 k hk
    have sh : xand (xshr (vbits S_) (k : Int)) 1 = (S_.getD k (0, 0)).2 := by
      rw [sp_sh k vr.1 (by omega) (by omega), xand_1 (Int.ediv_nonneg vr.1 (Int.le_of_lt (Int.pow_pos (by decide)))), bt]
    have ek : (k : Int) + 1 = ((k + 1 : Nat) : Int) := by omega
    rw [ed, outp_cons b _ _ v, show anyv (S_.getD k (0, 0) :: S_.drop (k + 1)) = (decide ((S_.getD k (0, 0)).2 = 1) || anyv (S_.drop (k + 1))) from rfl, ← Bool.or_assoc] at H
    -- one sound: skipped or written
    have one : ∀ (c : Bool) (w : Int), c = (b || decide ((S_.getD k (0, 0)).2 = 1)) → w = (S_.getD k (0, 0)).2 → ∀ u4 : xV, xT d M_R_ending 89 [(1, 59), (0, l), (0, o), (0, y), u4, (0, at_), (0, (k : Int)), (0, w)] [(0, b2i c)] h (xqv Q) := by
      intro c w ec ew u4
      rw [← ec] at H
      apply L_R_ending_89
      cases c with
      | false =>
        rw [show b2i false = 0 from rfl, if_pos rfl, xw_id (by omega) (by omega), ek]
        intro x1 e1
        rw [e1]
        rw [if_neg (by decide)] at H
        exact ih h (k + 1) false m (0, w) SS z1 z2 z3 (by omega) z4 m0 (by omega) H
      | true =>
        rw [show b2i true = 1 from rfl, if_neg (by decide)]
        rw [if_pos rfl] at H
        have w2 : w % 2 = w := by omega
        have S0 := SS
        have S := SS
        rw [xw_id (a := 16 * at_) (by omega) (by omega), xw_id (a := 16 * at_ + (k : Int)) (by omega) (by omega), xw_id (a := 640 * o) (by omega) (by omega), xw_id (a := (k : Int) + 1) (by omega) (by omega), ek]
        simp only [srt S, srl S, srf S, z4, w2, zs, true_and, and_true, false_and, and_false, forall_eq, forall_eq', xi_wi, xr_wi, xt_wi, xl_wi, xn_wi, xs_wi, xi_wr, xr_wr, xt_wr, xl_wr, xn_wr, xs_wr, if_true, if_false, and_self, Int.reduceEq, Int.reduceLT, Int.reduceLE, Int.reduceNeg, Int.le_refl, Int.reduceMod]
        rw [xw_id (a := 640 * o + m) (by omega) (by omega), xw_id (a := m + 1) (by omega) (by omega)]
        refine ⟨⟨by omega, by omega⟩, ⟨by omega, by omega⟩, ⟨by omega, by omega⟩, ⟨by omega, by omega⟩, ⟨by omega, by omega⟩, ⟨by omega, by omega⟩, ⟨by omega, by omega⟩, ?_⟩
        have F0 : Fr [114, 115, 116] [] h (((h.wi 114 (640 * o + m) (S_.getD k (0, 0)).1).wi 115 (640 * o + m) w).wi 116 o (m + 1)) := Fr_cell (Fr_cell (Fr_cell (Fr_refl _ _ _) _ _ (by decide)) _ _ (by decide)) _ _ (by decide)
        refine ih _ (k + 1) true (m + 1) (0, w) (SR_2 (h := h) rfl S0) (by simp only [true_and, and_true, false_and, and_false, forall_eq, forall_eq', xi_wi, xr_wi, xt_wi, xl_wi, xn_wi, xs_wi, xi_wr, xr_wr, xt_wr, xl_wr, xn_wr, xs_wr, if_true, if_false, and_self, Int.reduceEq, Int.reduceLT, Int.reduceLE, Int.reduceNeg, Int.le_refl, Int.reduceMod]; exact z1) (by simp only [true_and, and_true, false_and, and_false, forall_eq, forall_eq', xi_wi, xr_wi, xt_wi, xl_wi, xn_wi, xs_wi, xi_wr, xr_wr, xt_wr, xl_wr, xn_wr, xs_wr, if_true, if_false, and_self, Int.reduceEq, Int.reduceLT, Int.reduceLE, Int.reduceNeg, Int.le_refl, Int.reduceMod]; exact z2) (fun j hj => by simp only [true_and, and_true, false_and, and_false, forall_eq, forall_eq', xi_wi, xr_wi, xt_wi, xl_wi, xn_wi, xs_wi, xi_wr, xr_wr, xt_wr, xl_wr, xn_wr, xs_wr, if_true, if_false, and_self, Int.reduceEq, Int.reduceLT, Int.reduceLE, Int.reduceNeg, Int.le_refl, Int.reduceMod]; exact z3 j hj) (by omega) (by simp only [true_and, and_true, false_and, and_false, forall_eq, forall_eq', xi_wi, xr_wi, xt_wi, xl_wi, xn_wi, xs_wi, xi_wr, xr_wr, xt_wr, xl_wr, xn_wr, xs_wr, if_true, if_false, and_self, Int.reduceEq, Int.reduceLT, Int.reduceLE, Int.reduceNeg, Int.le_refl, Int.reduceMod]) (by omega) (by omega) ?_
        intro h' u5 u6 u7 F W
        refine H h' u5 u6 u7 (Fr_trans F0 F) ?_
        obtain ⟨w1, w3, w4⟩ := W
        refine ⟨fun j => ?_, fun j hj => ?_, fun j hj => ?_⟩
        · rw [w1 j]
          simp only [true_and, and_true, false_and, and_false, forall_eq, forall_eq', xi_wi, xr_wi, xt_wi, xl_wi, xn_wi, xs_wi, xi_wr, xr_wr, xt_wr, xl_wr, xn_wr, xs_wr, if_true, if_false, and_self, Int.reduceEq, Int.reduceLT, Int.reduceLE, Int.reduceNeg, Int.le_refl, Int.reduceMod]
          by_cases c : j = o
          · rw [if_pos c, if_pos c, List.length_cons]; push_cast; omega
          · rw [if_neg c, if_neg c, if_neg c]
        · cases j with
          | zero =>
            have y := w4 (640 * o + m) (by omega)
            rw [show 640 * o + m + ((0 : Nat) : Int) = 640 * o + m by omega, y.1, y.2]
            simp only [true_and, and_true, false_and, and_false, forall_eq, forall_eq', xi_wi, xr_wi, xt_wi, xl_wi, xn_wi, xs_wi, xi_wr, xr_wr, xt_wr, xl_wr, xn_wr, xs_wr, if_true, if_false, and_self, Int.reduceEq, Int.reduceLT, Int.reduceLE, Int.reduceNeg, Int.le_refl, Int.reduceMod]
            exact ⟨rfl, ew⟩
          | succ j =>
            have y := w3 j (by rw [List.length_cons] at hj; omega)
            rw [show 640 * o + m + ((j + 1 : Nat) : Int) = 640 * o + (m + 1) + j by omega]
            exact y
        · have y := w4 j (by omega)
          rw [y.1, y.2]
          simp only [true_and, and_true, false_and, and_false, forall_eq, forall_eq', xi_wi, xr_wi, xt_wi, xl_wi, xn_wi, xs_wi, xi_wr, xr_wr, xt_wr, xl_wr, xn_wr, xs_wr, if_true, if_false, and_self, Int.reduceEq, Int.reduceLT, Int.reduceLE, Int.reduceNeg, Int.le_refl, Int.reduceMod]
          rw [if_neg (by omega), if_neg (by omega)]
          exact ⟨rfl, rfl⟩
    apply L_R_ending_62
    have S0 := SS
    have S := SS
    simp only [srt S, srl S, srf S, z1, z2, sh, true_and, and_true, false_and, and_false, forall_eq, forall_eq', xi_wi, xr_wi, xt_wi, xl_wi, xn_wi, xs_wi, xi_wr, xr_wr, xt_wr, xl_wr, xn_wr, xs_wr, if_true, if_false, and_self, Int.reduceEq, Int.reduceLT, Int.reduceLE, Int.reduceNeg, Int.le_refl, Int.reduceMod]
    rw [if_pos (by omega)]
    refine ⟨⟨a0, a1⟩, ⟨a0, a1⟩, x_if (fun c => x_if (fun c2 => ?_) (fun c2 => ?_)) (fun c => x_if (fun c2 => ?_) (fun c2 => ?_))⟩
    · exact one true 1 (by rw [decide_eq_true c, Bool.or_true]) c.symm _
    · exact one true 1 (by rw [decide_eq_true c, Bool.or_true]) c.symm _
    · have eb : b = false := by
        cases b with
        | true => exact absurd c2 (by decide)
        | false => rfl
      exact one false 0 (by rw [decide_eq_false c, eb]; rfl) (by omega) _
    · have eb : b = true := by
        cases b with
        | true => rfl
        | false => exact absurd rfl c2
      exact one true 0 (by rw [eb]; rfl) (by omega) _
