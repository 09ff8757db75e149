/-! place -/
theorem bit_clr0 : ∀ i : Fin 12, ∀ a b : Fin 64, xand ((64 * a.val + b.val : Nat) : Int) (xxor (xshl 1 (i.val : Int)) (-1)) = (((64 * a.val + b.val) &&& (4095 ^^^ 2 ^ i.val) : Nat) : Int) := by decide +kernel
theorem bit_clr {i m : Nat} (hi : i < 12) (hm : m < 4096) : xand (m : Int) (xxor (xshl 1 (i : Int)) (-1)) = ((m &&& (4095 ^^^ 2 ^ i) : Nat) : Int) := by
  have z := bit_clr0 ⟨i, hi⟩ ⟨m / 64, by omega⟩ ⟨m % 64, by omega⟩
  simp only [show 64 * (m / 64) + m % 64 = m by omega] at z
  exact z
def bcE (a : Int) : Int :=
  let x1 := xw (a - (xand (xushr a 1) 1431655765))
  let x2 := xw ((xand x1 858993459) + (xand (xushr x1 2) 858993459))
  let x3 := xand (xw (x2 + (xushr x2 4))) 252645135
  let x4 := xw (x3 + (xushr x3 8))
  let x5 := xw (x4 + (xushr x4 16))
  xand x5 63
theorem bcE_eq0 : ∀ a b : Fin 64, bcE ((64 * a.val + b.val : Nat) : Int) = sumN (fun k => ((64 * a.val + b.val : Nat) : Int) / 2 ^ k.toNat % 2) 12 := by decide +kernel
theorem bcE_eq {m : Nat} (hm : m < 4096) : bcE (m : Int) = sumN (fun k => (m : Int) / 2 ^ k.toNat % 2) 12 := by
  have z := bcE_eq0 ⟨m / 64, by omega⟩ ⟨m % 64, by omega⟩
  simp only [show 64 * (m / 64) + m % 64 = m by omega] at z
  exact z
theorem c_bitCount {d : Nat} {h : xH} {Q : Int → xH → Prop} {m : Nat} (hm : m < 4096) (H : Q (sumN (fun k => (m : Int) / 2 ^ k.toNat % 2) 12) h) : xCi (d + 1) M_Integer_bitCount [(0, (m : Int))] h Q := by
  apply L_Integer_bitCount
  intro x1 e1 x2 e2 x3 e3 x4 e4 x5 e5
  have z := bcE_eq hm
  subst e1
  subst e2
  subst e3
  subst e4
  subst e5
  rw [← z] at H
  exact H
theorem ibit (m k : Nat) : (m : Int) / 2 ^ k % 2 = ((m.testBit k).toNat : Nat) := by
  rw [Nat.toNat_testBit]; norm_cast
theorem bit_of_clr {m i k : Nat} (hk : k < 12) : ((m &&& (4095 ^^^ 2 ^ i) : Nat) : Int) / 2 ^ k % 2 = if k = i then 0 else (m : Int) / 2 ^ k % 2 := by
  rw [ibit, ibit, Nat.testBit_and, Nat.testBit_xor, show (4095 : Nat) = 2 ^ 12 - 1 from rfl, Nat.testBit_two_pow_sub_one, Nat.testBit_two_pow]
  by_cases c : k = i
  · subst c
    simp [hk]
  · have c' : ¬ i = k := fun q => c q.symm
    simp [hk, c, c']
theorem bit_of_set {m i k : Nat} : ((m ||| 2 ^ i : Nat) : Int) / 2 ^ k % 2 = if k = i then 1 else (m : Int) / 2 ^ k % 2 := by
  rw [ibit, ibit, Nat.testBit_or, Nat.testBit_two_pow]
  by_cases c : k = i
  · subst c
    simp
  · have c' : ¬ i = k := fun q => c q.symm
    simp [c, c']
theorem sumN_ext {f : Int → Int} : ∀ (m n : Nat), n ≤ m → (∀ k : Int, n ≤ k → k < m → f k = 0) → sumN f m = sumN f n := by
  intro m
  induction m with
  | zero => intro n h _; rw [show n = 0 by omega]
  | succ m ih =>
    intro n h z
    by_cases c : n = m + 1
    · rw [c]
    · rw [sumN, ih n (by omega) (fun k k0 k1 => z k k0 (by omega)), z m (by omega) (by omega), Int.add_zero]
theorem c_R_place_36 {d : Nat} {h : xH} {Q : Int → xH → Prop} {i f l a m : Int} (S : SR h) (p0 : 0 ≤ h.i 59 74) (p1 : h.i 59 74 ≤ 12) (hm : m = 0 ∨ m = 1) (hb : ∀ k, 0 ≤ k → k < h.i 59 74 → 0 ≤ h.i 121 k ∧ h.i 121 k ≤ 1) (H : ∀ u v : Int, if m = 1 ∧ 6 ≤ sumN (fun k => if k = i then 0 else h.i 121 k) (h.i 59 74).toNat then Q (-2) h else xT d M_R_place 63 [(1, 59), (0, i), (0, f), (0, l), (0, a), (0, m), (0, u), (0, v)] [] h (xqi Q)) : ∀ (n k : Nat), (k : Int) + n = h.i 59 74 → xT d M_R_place 36 [(1, 59), (0, i), (0, f), (0, l), (0, a), (0, m), (0, m + sumN (fun k => if k = i then 0 else h.i 121 k) k), (0, (k : Int))] [] h (xqi Q) := by
  have hs : ∀ k : Nat, (k : Int) ≤ h.i 59 74 → 0 ≤ sumN (fun k => if k = i then 0 else h.i 121 k) k ∧ sumN (fun k => if k = i then 0 else h.i 121 k) k ≤ k := by
    intro k hk
    refine sumN_bits k (fun j j0 j1 => ?_)
    show 0 ≤ (if j = i then 0 else h.i 121 j) ∧ (if j = i then 0 else h.i 121 j) ≤ 1
    split
    · decide
    · exact hb j j0 (by omega)
  intro n
  induction n with
  | zero =>
    intro k e
    apply L_R_place_36
    have ek : k = (h.i 59 74).toNat := by omega
    have sk := hs k (by omega)
    have z := H (m + sumN (fun k => if k = i then 0 else h.i 121 k) k) k
    refine ⟨(srt S).1, ?_⟩
    rw [if_neg (by omega)]
    rw [← ek] at z
    rcases hm with q | q
    · subst q
      rw [if_neg (by omega)] at z
      exact x_if (fun _ => x_if (fun _ => z) (fun c => absurd rfl c)) (fun _ => z)
    · subst q
      refine x_if (fun c => ?_) (fun c => ?_)
      · rw [if_pos (by omega)] at z
        rw [if_neg (by decide)]
        exact z
      · rw [if_neg (by omega)] at z
        exact z
  | succ n ih =>
    intro k e
    apply L_R_place_36
    have sk := hs k (by omega)
    have z := ih (k + 1) (by omega)
    rw [sumN] at z
    refine ⟨(srt S).1, ?_⟩
    rw [if_pos (by omega)]
    have ek : xw ((k : Int) + 1) = ((k + 1 : Nat) : Int) := by rw [xw_id (by omega) (by omega)]; omega
    rw [ek]
    refine x_if (fun c => ?_) (fun c => ?_)
    · rw [if_pos c, Int.add_zero] at z
      have e0 : xw (m + sumN (fun k => if k = i then 0 else h.i 121 k) k + 0) = m + sumN (fun k => if k = i then 0 else h.i 121 k) k := by clear ek; rw [xw_id (by omega) (by omega)]; omega
      rw [e0]
      intro x1 q1 x2 q2
      rw [q1, q2]
      exact z
    · have bk := hb k (by omega) (by omega)
      rw [if_neg c] at z
      have e0 : xw (m + sumN (fun k => if k = i then 0 else h.i 121 k) k + 0) = m + sumN (fun k => if k = i then 0 else h.i 121 k) k := by clear ek; rw [xw_id (by omega) (by omega)]; omega
      have e1 : xw (m + sumN (fun k => if k = i then 0 else h.i 121 k) k + 1) = m + (sumN (fun k => if k = i then 0 else h.i 121 k) k + 1) := by clear ek e0; rw [xw_id (by omega) (by omega)]; omega
      have g : (0 : Int) ≤ (k : Int) ∧ (k : Int) < 12 := by clear ek e0 e1; omega
      rw [e0, e1]
      clear ek e0 e1
      simp only [srt S, srl S, srf S, true_and, and_true, false_and, and_false, forall_eq, forall_eq', xi_wi, xr_wi, xt_wi, xl_wi, xn_wi, xs_wi, xi_wr, xr_wr, xt_wr, xl_wr, xn_wr, xs_wr, if_true, if_false, and_self, Int.reduceEq, Int.reduceLT, Int.reduceLE, Int.reduceNeg, Int.le_refl, Int.reduceMod]
      refine ⟨g, x_if (fun c2 => ?_) (fun c2 => ?_)⟩
      · rw [c2, Int.add_zero] at z
        exact z
      · rw [show h.i 121 (k : Int) = 1 by omega] at z
        exact z
theorem j_place (n : Nat) (hn : n < 512) (i f l a m : Int) (hi : xrg i) (hf : xrg f) (hl : xrg l) (ha : xrg a) (hm : m = 0 ∨ m = 1) : JJ INV n M_X_place M_R_place [(0, i), (0, f), (0, l), (0, a), (0, m)] := by
  refine jj_fr [50, 51, 52, 118, 119, 120, 121] [(48, 9), (48, 8), (59, 74)] (by decide) (fun h I => ?_)
  have S := I.2.1
  have SX_ := I.1
  have i7 := I.2.2.2.2.2.2.2.2.2.2.2.2.1
  obtain ⟨y1, y2, y3, y4, y5, y6, y7, y8⟩ := i7
  apply L_X_place
  simp only [sxt SX_, sxl SX_, sxf SX_, true_and, and_true, false_and, and_false, forall_eq, forall_eq', xi_wi, xr_wi, xt_wi, xl_wi, xn_wi, xs_wi, xi_wr, xr_wr, xt_wr, xl_wr, xn_wr, xs_wr, if_true, if_false, and_self, Int.reduceEq, Int.reduceLT, Int.reduceLE, Int.reduceNeg, Int.le_refl, Int.reduceMod]
  apply L_Poem_setPlace
  have same : Fr [50, 51, 52, 118, 119, 120, 121] [(48, 9), (48, 8), (59, 74)] h h := Fr_refl _ _ _
  have out : ¬ (0 ≤ i ∧ i ≤ 11 ∧ i ≤ h.i 59 74 ∧ 0 ≤ f ∧ f ≤ 7 ∧ -1 ≤ l ∧ l ≤ 5 ∧ -1 ≤ a ∧ a < i) → xCi 2046 M_R_place [(1, 59), (0, i), (0, f), (0, l), (0, a), (0, m)] h (fun r2 h2 => -2 = r2 ∧ Fr [50, 51, 52, 118, 119, 120, 121] [(48, 9), (48, 8), (59, 74)] h h2 ∧ INV (n + 1) h2) := by
    intro z
    apply L_R_place
    by_cases z1 : 0 ≤ i ∧ i ≤ 11
    · refine c_R_in_t z1 ?_
      rw [if_neg (by decide)]
      refine ⟨(srt S).1, x_if (fun _ => ⟨rfl, same, INV_mono I⟩) (fun c => ?_)⟩
      by_cases z2 : 0 ≤ f ∧ f ≤ 7
      · refine c_R_in_t z2 ?_
        rw [if_neg (by decide)]
        by_cases z3 : -1 ≤ l ∧ l ≤ 5
        · refine c_R_in_t z3 ?_
          rw [if_neg (by decide), xw_id (by omega) (by omega)]
          refine c_R_in_f (by omega) ?_
          rw [if_pos rfl]
          exact ⟨rfl, same, INV_mono I⟩
        · refine c_R_in_f z3 ?_
          rw [if_pos rfl]
          exact ⟨rfl, same, INV_mono I⟩
      · refine c_R_in_f z2 ?_
        rw [if_pos rfl]
        exact ⟨rfl, same, INV_mono I⟩
    · refine c_R_in_f z1 ?_
      rw [if_pos rfl]
      exact ⟨rfl, same, INV_mono I⟩
  refine x_if (fun _ => ⟨same, out (by omega)⟩) (fun z1 => x_if (fun z2 => ?_) (fun _ => ⟨same, out (by omega)⟩))
  refine ⟨(sxt SX_).2.2.2.2.2.2.2.2.2.2.2.2.2.2.2.2.2.2.2.2.2.2.2.2.2.2.2.2.2.2.2.2.2.2.2.2.2.2.2.2.2.2.2.2.2.2.1, x_if (fun _ => ⟨same, out (by omega)⟩) (fun z3 => x_if (fun _ => ⟨same, out (by omega)⟩) (fun z4 => x_if (fun z5 => x_if (fun _ => ⟨same, out (by omega)⟩) (fun z6 => x_if (fun z7 => x_if (fun _ => ⟨same, out (by omega)⟩) (fun z8 => x_if (fun z9 => ?_) (fun _ => ⟨same, out (by omega)⟩))) (fun _ => ⟨same, out (by omega)⟩))) (fun _ => ⟨same, out (by omega)⟩)))⟩
  obtain ⟨M, eM⟩ : ∃ M : Nat, h.i 48 8 = (M : Int) := ⟨(h.i 48 8).toNat, by omega⟩
  obtain ⟨j, rfl⟩ : ∃ j : Nat, i = (j : Int) := ⟨i.toNat, by omega⟩
  rw [eM] at y5 y6 y7 y8
  have hM : M < 4096 := by omega
  have hj : j < 12 := by omega
  rw [eM, bit_clr hj hM]
  have hO : (M &&& (4095 ^^^ 2 ^ j)) < 4096 := Nat.lt_of_le_of_lt Nat.and_le_left hM
  intro x1 q1
  subst q1
  have y3' : ∀ k, 0 ≤ k → k < h.i 59 74 → 0 ≤ h.i 121 k ∧ h.i 121 k ≤ 1 := fun k k0 k1 => by have := y4 k k0 k1; omega
  -- the number of the others
  have cnt : sumN (fun k => ((M &&& (4095 ^^^ 2 ^ j) : Nat) : Int) / 2 ^ k.toNat % 2) 12 = sumN (fun k => if k = (j : Int) then 0 else h.i 121 k) (h.i 59 74).toNat := by
    rw [← sumN_ext (f := fun k => if k < h.i 59 74 then (if k = (j : Int) then 0 else h.i 121 k) else 0) 12 (h.i 59 74).toNat (by omega) (fun k k0 k1 => if_neg (by omega)) |>.trans (sumN_congr _ (fun k k0 k1 => if_pos (by omega)))]
    refine sumN_congr 12 (fun k k0 k1 => ?_)
    obtain ⟨kk, rfl⟩ : ∃ kk : Nat, k = (kk : Int) := ⟨k.toNat, by omega⟩
    rw [Int.toNat_natCast, bit_of_clr (by omega), y7 kk (by omega)]
    by_cases c : kk = j
    · subst c
      rw [if_pos rfl, if_pos rfl]
      split <;> rfl
    · rw [if_neg c, if_neg (show ¬ ((kk : Int) = (j : Int)) by omega)]
  have eor : xor_ ((M &&& (4095 ^^^ 2 ^ j) : Nat) : Int) (xshl 1 (j : Int)) = ((M &&& (4095 ^^^ 2 ^ j) ||| 2 ^ j : Nat) : Int) := by
    have p : (2 : Int) ^ j ≤ 2 ^ 11 := by exact_mod_cast Nat.pow_le_pow_right (by decide) (by omega : j ≤ 11)
    have p0 : (0 : Int) < 2 ^ j := Int.pow_pos (by decide)
    rw [xshl_eq (by decide) (by omega) (by omega) (by rw [Int.toNat_natCast]; omega), Int.toNat_natCast, Int.one_mul, xor_nn (by omega) (by omega) (by omega) (by omega), Int.toNat_natCast]
    congr 2
  have hOr : (M &&& (4095 ^^^ 2 ^ j) ||| 2 ^ j) < 4096 := Nat.or_lt_two_pow (n := 12) hO (Nat.pow_lt_pow_right (by decide) (by omega))
  -- what both sides write
  have go : ∀ N : Nat, N < 4096 → (∀ k : Nat, k < 12 → (N : Int) / 2 ^ k % 2 = if k = j then m else (M : Int) / 2 ^ k % 2) → ¬ (m = 1 ∧ 6 ≤ sumN (fun k => if k = (j : Int) then 0 else h.i 121 k) (h.i 59 74).toNat) → xT 2044 M_Poem_setPlace 57 [(1, 48), (0, (j : Int)), (0, f), (0, l), (0, a), (0, m), (0, ((M &&& (4095 ^^^ 2 ^ j) : Nat) : Int))] [(0, (N : Int)), (1, 48)] h (xqi (fun r1 h1 => Fr [50, 51, 52, 118, 119, 120, 121] [(48, 9), (48, 8), (59, 74)] h h1 ∧ xCi 2046 M_R_place [(1, 59), (0, (j : Int)), (0, f), (0, l), (0, a), (0, m)] h1 (fun r2 h2 => r1 = r2 ∧ Fr [50, 51, 52, 118, 119, 120, 121] [(48, 9), (48, 8), (59, 74)] h h2 ∧ INV (n + 1) h2))) := by
    intro N hN bits nf
    apply L_Poem_setPlace_57
    have ew : xw ((j : Int) + 1) = (j : Int) + 1 := xw_id (by omega) (by omega)
    have gj : (0 : Int) ≤ (j : Int) ∧ (j : Int) < 12 := by clear ew; omega
    rw [ew]
    clear ew
    simp only [sxt SX_, sxl SX_, sxf SX_, true_and, and_true, false_and, and_false, forall_eq, forall_eq', xi_wi, xr_wi, xt_wi, xl_wi, xn_wi, xs_wi, xi_wr, xr_wr, xt_wr, xl_wr, xn_wr, xs_wr, if_true, if_false, and_self, Int.reduceEq, Int.reduceLT, Int.reduceLE, Int.reduceNeg, Int.le_refl, Int.reduceMod]
    refine ⟨gj, gj, gj, ?_⟩
    have F1 : Fr [50, 51, 52, 118, 119, 120, 121] [(48, 9), (48, 8), (59, 74)] h (((((h.wi 48 8 (N : Int)).wi 50 (j : Int) f).wi 51 (j : Int) l).wi 52 (j : Int) a).wi 48 9 (if h.i 48 9 < (j : Int) + 1 then (j : Int) + 1 else h.i 48 9)) := Fr_slot (Fr_cell (Fr_cell (Fr_cell (Fr_slot (Fr_refl _ _ _) _ (by decide)) _ _ (by decide)) _ _ (by decide)) _ _ (by decide)) _ (by decide)
    refine ⟨F1, ?_⟩
    have q1 : (((((h.wi 48 8 (N : Int)).wi 50 (j : Int) f).wi 51 (j : Int) l).wi 52 (j : Int) a).wi 48 9 (if h.i 48 9 < (j : Int) + 1 then (j : Int) + 1 else h.i 48 9)).i 59 = h.i 59 := by funext k; simp only [true_and, and_true, false_and, and_false, forall_eq, forall_eq', xi_wi, xr_wi, xt_wi, xl_wi, xn_wi, xs_wi, xi_wr, xr_wr, xt_wr, xl_wr, xn_wr, xs_wr, if_true, if_false, and_self, Int.reduceEq, Int.reduceLT, Int.reduceLE, Int.reduceNeg, Int.le_refl, Int.reduceMod]
    have q2 : (((((h.wi 48 8 (N : Int)).wi 50 (j : Int) f).wi 51 (j : Int) l).wi 52 (j : Int) a).wi 48 9 (if h.i 48 9 < (j : Int) + 1 then (j : Int) + 1 else h.i 48 9)).i 121 = h.i 121 := by funext k; simp only [true_and, and_true, false_and, and_false, forall_eq, forall_eq', xi_wi, xr_wi, xt_wi, xl_wi, xn_wi, xs_wi, xi_wr, xr_wr, xt_wr, xl_wr, xn_wr, xs_wr, if_true, if_false, and_self, Int.reduceEq, Int.reduceLT, Int.reduceLE, Int.reduceNeg, Int.le_refl, Int.reduceMod]
    have q3 : (((((h.wi 48 8 (N : Int)).wi 50 (j : Int) f).wi 51 (j : Int) l).wi 52 (j : Int) a).wi 48 9 (if h.i 48 9 < (j : Int) + 1 then (j : Int) + 1 else h.i 48 9)).i 118 = h.i 118 ∧ (((((h.wi 48 8 (N : Int)).wi 50 (j : Int) f).wi 51 (j : Int) l).wi 52 (j : Int) a).wi 48 9 (if h.i 48 9 < (j : Int) + 1 then (j : Int) + 1 else h.i 48 9)).i 119 = h.i 119 ∧ (((((h.wi 48 8 (N : Int)).wi 50 (j : Int) f).wi 51 (j : Int) l).wi 52 (j : Int) a).wi 48 9 (if h.i 48 9 < (j : Int) + 1 then (j : Int) + 1 else h.i 48 9)).i 120 = h.i 120 := ⟨by funext k; simp only [true_and, and_true, false_and, and_false, forall_eq, forall_eq', xi_wi, xr_wi, xt_wi, xl_wi, xn_wi, xs_wi, xi_wr, xr_wr, xt_wr, xl_wr, xn_wr, xs_wr, if_true, if_false, and_self, Int.reduceEq, Int.reduceLT, Int.reduceLE, Int.reduceNeg, Int.le_refl, Int.reduceMod], by funext k; simp only [true_and, and_true, false_and, and_false, forall_eq, forall_eq', xi_wi, xr_wi, xt_wi, xl_wi, xn_wi, xs_wi, xi_wr, xr_wr, xt_wr, xl_wr, xn_wr, xs_wr, if_true, if_false, and_self, Int.reduceEq, Int.reduceLT, Int.reduceLE, Int.reduceNeg, Int.le_refl, Int.reduceMod], by funext k; simp only [true_and, and_true, false_and, and_false, forall_eq, forall_eq', xi_wi, xr_wi, xt_wi, xl_wi, xn_wi, xs_wi, xi_wr, xr_wr, xt_wr, xl_wr, xn_wr, xs_wr, if_true, if_false, and_self, Int.reduceEq, Int.reduceLT, Int.reduceLE, Int.reduceNeg, Int.le_refl, Int.reduceMod]⟩
    have q4 : ∀ k, (((((h.wi 48 8 (N : Int)).wi 50 (j : Int) f).wi 51 (j : Int) l).wi 52 (j : Int) a).wi 48 9 (if h.i 48 9 < (j : Int) + 1 then (j : Int) + 1 else h.i 48 9)).i 50 k = (if k = (j : Int) then f else h.i 50 k) ∧ (((((h.wi 48 8 (N : Int)).wi 50 (j : Int) f).wi 51 (j : Int) l).wi 52 (j : Int) a).wi 48 9 (if h.i 48 9 < (j : Int) + 1 then (j : Int) + 1 else h.i 48 9)).i 51 k = (if k = (j : Int) then l else h.i 51 k) ∧ (((((h.wi 48 8 (N : Int)).wi 50 (j : Int) f).wi 51 (j : Int) l).wi 52 (j : Int) a).wi 48 9 (if h.i 48 9 < (j : Int) + 1 then (j : Int) + 1 else h.i 48 9)).i 52 k = (if k = (j : Int) then a else h.i 52 k) := fun k => ⟨by simp only [true_and, and_true, false_and, and_false, forall_eq, forall_eq', xi_wi, xr_wi, xt_wi, xl_wi, xn_wi, xs_wi, xi_wr, xr_wr, xt_wr, xl_wr, xn_wr, xs_wr, if_true, if_false, and_self, Int.reduceEq, Int.reduceLT, Int.reduceLE, Int.reduceNeg, Int.le_refl, Int.reduceMod], by simp only [true_and, and_true, false_and, and_false, forall_eq, forall_eq', xi_wi, xr_wi, xt_wi, xl_wi, xn_wi, xs_wi, xi_wr, xr_wr, xt_wr, xl_wr, xn_wr, xs_wr, if_true, if_false, and_self, Int.reduceEq, Int.reduceLT, Int.reduceLE, Int.reduceNeg, Int.le_refl, Int.reduceMod], by simp only [true_and, and_true, false_and, and_false, forall_eq, forall_eq', xi_wi, xr_wi, xt_wi, xl_wi, xn_wi, xs_wi, xi_wr, xr_wr, xt_wr, xl_wr, xn_wr, xs_wr, if_true, if_false, and_self, Int.reduceEq, Int.reduceLT, Int.reduceLE, Int.reduceNeg, Int.le_refl, Int.reduceMod]⟩
    have q5 : (((((h.wi 48 8 (N : Int)).wi 50 (j : Int) f).wi 51 (j : Int) l).wi 52 (j : Int) a).wi 48 9 (if h.i 48 9 < (j : Int) + 1 then (j : Int) + 1 else h.i 48 9)).i 48 9 = (if h.i 48 9 < (j : Int) + 1 then (j : Int) + 1 else h.i 48 9) ∧ (((((h.wi 48 8 (N : Int)).wi 50 (j : Int) f).wi 51 (j : Int) l).wi 52 (j : Int) a).wi 48 9 (if h.i 48 9 < (j : Int) + 1 then (j : Int) + 1 else h.i 48 9)).i 48 8 = (N : Int) := ⟨by simp only [true_and, and_true, false_and, and_false, forall_eq, forall_eq', xi_wi, xr_wi, xt_wi, xl_wi, xn_wi, xs_wi, xi_wr, xr_wr, xt_wr, xl_wr, xn_wr, xs_wr, if_true, if_false, and_self, Int.reduceEq, Int.reduceLT, Int.reduceLE, Int.reduceNeg, Int.le_refl, Int.reduceMod], by simp only [true_and, and_true, false_and, and_false, forall_eq, forall_eq', xi_wi, xr_wi, xt_wi, xl_wi, xn_wi, xs_wi, xi_wr, xr_wr, xt_wr, xl_wr, xn_wr, xs_wr, if_true, if_false, and_self, Int.reduceEq, Int.reduceLT, Int.reduceLE, Int.reduceNeg, Int.le_refl, Int.reduceMod]⟩
    generalize (((((h.wi 48 8 (N : Int)).wi 50 (j : Int) f).wi 51 (j : Int) l).wi 52 (j : Int) a).wi 48 9 (if h.i 48 9 < (j : Int) + 1 then (j : Int) + 1 else h.i 48 9)) = h1 at *
    have S0 := S
    have S := SR_2 F1.1 S0
    have p59 : h1.i 59 74 = h.i 59 74 := by rw [q1]
    apply L_R_place
    refine c_R_in_t (by omega) ?_
    rw [if_neg (by decide)]
    refine ⟨(srt S).1, ?_⟩
    rw [if_neg (by omega)]
    refine c_R_in_t (by omega) ?_
    rw [if_neg (by decide)]
    refine c_R_in_t (by omega) ?_
    rw [if_neg (by decide), xw_id (by omega) (by omega)]
    refine c_R_in_t (by omega) ?_
    rw [if_neg (by decide)]
    have fin : ∀ u v : Int, xT 2045 M_R_place 63 [(1, 59), (0, (j : Int)), (0, f), (0, l), (0, a), (0, m), (0, u), (0, v)] [] h1 (xqi (fun r2 h2 => (if h.i 48 9 < (j : Int) + 1 then (j : Int) + 1 else h.i 48 9) = r2 ∧ Fr [50, 51, 52, 118, 119, 120, 121] [(48, 9), (48, 8), (59, 74)] h h2 ∧ INV (n + 1) h2)) := by
      intro u v
      have m2 : m % 2 = m := by omega
      have FR1 : ∀ w : Int, Fr [50, 51, 52, 118, 119, 120, 121] [(48, 9), (48, 8), (59, 74)] h ((((h1.wi 118 (j : Int) f).wi 119 (j : Int) l).wi 120 (j : Int) a).wi 121 (j : Int) m) := fun w => Fr_cell (Fr_cell (Fr_cell (Fr_cell F1 _ _ (by decide)) _ _ (by decide)) _ _ (by decide)) _ _ (by decide)
      have inv : ∀ h2 : xH, Fr [50, 51, 52, 118, 119, 120, 121] [(48, 9), (48, 8), (59, 74)] h h2 → h2.i 48 = h1.i 48 → h2.i 50 = h1.i 50 → h2.i 51 = h1.i 51 → h2.i 52 = h1.i 52 → (∀ k, h2.i 118 k = (if k = (j : Int) then f else h.i 118 k) ∧ h2.i 119 k = (if k = (j : Int) then l else h.i 119 k) ∧ h2.i 120 k = (if k = (j : Int) then a else h.i 120 k) ∧ h2.i 121 k = (if k = (j : Int) then m else h.i 121 k)) → h2.i 59 74 = (if h.i 48 9 < (j : Int) + 1 then (j : Int) + 1 else h.i 48 9) → INV (n + 1) h2 := by
        intro h2 F e48 e50 e51 e52 er e59
        have e59' : h2.i 59 74 = if (j : Int) = h.i 59 74 then (j : Int) + 1 else h.i 59 74 := by
          rw [e59, y1]
          by_cases c : (j : Int) = h.i 59 74
          · rw [if_pos c, if_pos (by omega)]
          · rw [if_neg c, if_neg (by omega)]
        refine INV_fr I F (by decide) (Or.inl (by decide)) (Or.inl (by decide)) (Or.inl (by decide)) (Or.inl (by decide)) (Or.inl (by decide)) (Or.inl (by decide)) (Or.inr ?_) (Or.inl (by decide)) (Or.inl (by decide)) (Or.inl (by decide)) (Or.inl (by decide)) (Or.inl (by decide)) (Or.inl (by decide)) (Or.inl (by decide)) (Or.inl (by decide))
        refine ⟨by rw [e48, q5.1, e59], ?_, ?_, fun k k0 k1 => ?_, by rw [e48, q5.2]; omega, by rw [e48, q5.2]; omega, fun k k0 => ?_, ?_⟩
        · rw [e59']; split <;> omega
        · rw [e59']; split <;> omega
        · rw [e50, e51, e52, (q4 k).1, (q4 k).2.1, (q4 k).2.2, (er k).1, (er k).2.1, (er k).2.2.1, (er k).2.2.2]
          by_cases c : k = (j : Int)
          · simp only [if_pos c]
            exact ⟨trivial, by omega, by omega, trivial, by omega, by omega, trivial, by omega, by omega, by omega, by omega⟩
          · simp only [if_neg c]
            rw [e59'] at k1
            exact y4 k k0 (by revert k1; split <;> omega)
        · rw [e48, q5.2, bits k k0, e59', (er k).2.2.2]
          by_cases c : k = j
          · subst c
            rw [if_pos rfl, if_pos rfl]
            by_cases c2 : (k : Int) = h.i 59 74
            · rw [if_pos c2, if_pos (by omega)]
            · rw [if_neg c2, if_pos (by omega)]
          · rw [if_neg c, if_neg (show ¬ ((k : Int) = (j : Int)) by omega), y7 k k0]
            by_cases c2 : (j : Int) = h.i 59 74
            · rw [if_pos c2]
              by_cases c3 : (k : Int) < h.i 59 74
              · rw [if_pos c3, if_pos (by omega)]
              · rw [if_neg c3, if_neg (by omega)]
            · rw [if_neg c2]
        · rw [e48, q5.2]
          have e1 : sumN (fun k => (N : Int) / 2 ^ k.toNat % 2) 12 = sumN (fun k => if k = (j : Int) then m else (M : Int) / 2 ^ k.toNat % 2) 12 := sumN_congr 12 (fun k k0 k1 => by
            obtain ⟨kk, rfl⟩ : ∃ kk : Nat, k = (kk : Int) := ⟨k.toNat, by omega⟩
            rw [Int.toNat_natCast, bits kk (by omega)]
            by_cases c : kk = j
            · rw [if_pos c, if_pos (by omega)]
            · rw [if_neg c, if_neg (by omega)])
          have e2 : sumN (fun k => if k = (j : Int) then 0 else (M : Int) / 2 ^ k.toNat % 2) 12 = sumN (fun k => ((M &&& (4095 ^^^ 2 ^ j) : Nat) : Int) / 2 ^ k.toNat % 2) 12 := sumN_congr 12 (fun k k0 k1 => by
            obtain ⟨kk, rfl⟩ : ∃ kk : Nat, k = (kk : Int) := ⟨k.toNat, by omega⟩
            rw [Int.toNat_natCast, bit_of_clr (by omega)]
            by_cases c : kk = j
            · rw [if_pos c, if_pos (by omega)]
            · rw [if_neg c, if_neg (by omega)])
          have u1 := sumN_upd (f := fun k => (M : Int) / 2 ^ k.toNat % 2) (a := (j : Int)) (v := m) 12
          have u2 := sumN_upd (f := fun k => (M : Int) / 2 ^ k.toNat % 2) (a := (j : Int)) (v := 0) 12
          rw [if_pos (by omega)] at u1 u2
          have b0 := Int.emod_nonneg ((M : Int) / 2 ^ ((j : Int)).toNat) (by decide : (2 : Int) ≠ 0)
          have b1 := Int.emod_lt_of_pos ((M : Int) / 2 ^ ((j : Int)).toNat) (by decide : (0 : Int) < 2)
          rw [e2, cnt] at u2
          rw [e1, u1]
          generalize (M : Int) / 2 ^ ((j : Int)).toNat % 2 = bj at b0 b1 u2 ⊢
          generalize sumN (fun k => (M : Int) / 2 ^ k.toNat % 2) 12 = s at y8 u2 ⊢
          generalize sumN (fun k => if k = (j : Int) then 0 else h.i 121 k) (h.i 59 74).toNat = z at nf u2
          omega
      apply L_R_place_63
      simp only [srt S, srl S, srf S, m2, p59, true_and, and_true, false_and, and_false, forall_eq, forall_eq', xi_wi, xr_wi, xt_wi, xl_wi, xn_wi, xs_wi, xi_wr, xr_wr, xt_wr, xl_wr, xn_wr, xs_wr, if_true, if_false, and_self, Int.reduceEq, Int.reduceLT, Int.reduceLE, Int.reduceNeg, Int.le_refl, Int.reduceMod]
      refine ⟨gj, gj, gj, gj, x_if (fun c => ?_) (fun c => ?_)⟩
      · have F2 := Fr_slot (FR1 0) (c := 59) (k := 74) ((j : Int) + 1) (by decide)
        rw [show xw (h.i 59 74 + 1) = (j : Int) + 1 from by rw [xw_id (by omega) (by omega)]; omega]
        refine ⟨by rw [if_pos (by omega)], F2, inv _ F2 (by funext k; simp only [true_and, and_true, false_and, and_false, forall_eq, forall_eq', xi_wi, xr_wi, xt_wi, xl_wi, xn_wi, xs_wi, xi_wr, xr_wr, xt_wr, xl_wr, xn_wr, xs_wr, if_true, if_false, and_self, Int.reduceEq, Int.reduceLT, Int.reduceLE, Int.reduceNeg, Int.le_refl, Int.reduceMod]) (by funext k; simp only [true_and, and_true, false_and, and_false, forall_eq, forall_eq', xi_wi, xr_wi, xt_wi, xl_wi, xn_wi, xs_wi, xi_wr, xr_wr, xt_wr, xl_wr, xn_wr, xs_wr, if_true, if_false, and_self, Int.reduceEq, Int.reduceLT, Int.reduceLE, Int.reduceNeg, Int.le_refl, Int.reduceMod]) (by funext k; simp only [true_and, and_true, false_and, and_false, forall_eq, forall_eq', xi_wi, xr_wi, xt_wi, xl_wi, xn_wi, xs_wi, xi_wr, xr_wr, xt_wr, xl_wr, xn_wr, xs_wr, if_true, if_false, and_self, Int.reduceEq, Int.reduceLT, Int.reduceLE, Int.reduceNeg, Int.le_refl, Int.reduceMod]) (by funext k; simp only [true_and, and_true, false_and, and_false, forall_eq, forall_eq', xi_wi, xr_wi, xt_wi, xl_wi, xn_wi, xs_wi, xi_wr, xr_wr, xt_wr, xl_wr, xn_wr, xs_wr, if_true, if_false, and_self, Int.reduceEq, Int.reduceLT, Int.reduceLE, Int.reduceNeg, Int.le_refl, Int.reduceMod]) (fun k => ?_) ?_⟩
        · simp only [q3.1, q3.2.1, q3.2.2, q2, true_and, and_true, false_and, and_false, forall_eq, forall_eq', xi_wi, xr_wi, xt_wi, xl_wi, xn_wi, xs_wi, xi_wr, xr_wr, xt_wr, xl_wr, xn_wr, xs_wr, if_true, if_false, and_self, Int.reduceEq, Int.reduceLT, Int.reduceLE, Int.reduceNeg, Int.le_refl, Int.reduceMod]
        · simp only [true_and, and_true, false_and, and_false, forall_eq, forall_eq', xi_wi, xr_wi, xt_wi, xl_wi, xn_wi, xs_wi, xi_wr, xr_wr, xt_wr, xl_wr, xn_wr, xs_wr, if_true, if_false, and_self, Int.reduceEq, Int.reduceLT, Int.reduceLE, Int.reduceNeg, Int.le_refl, Int.reduceMod]
          rw [if_pos (by omega)]
      · refine ⟨by rw [if_neg (by omega)]; exact y1, FR1 0, inv _ (FR1 0) (by funext k; simp only [true_and, and_true, false_and, and_false, forall_eq, forall_eq', xi_wi, xr_wi, xt_wi, xl_wi, xn_wi, xs_wi, xi_wr, xr_wr, xt_wr, xl_wr, xn_wr, xs_wr, if_true, if_false, and_self, Int.reduceEq, Int.reduceLT, Int.reduceLE, Int.reduceNeg, Int.le_refl, Int.reduceMod]) (by funext k; simp only [true_and, and_true, false_and, and_false, forall_eq, forall_eq', xi_wi, xr_wi, xt_wi, xl_wi, xn_wi, xs_wi, xi_wr, xr_wr, xt_wr, xl_wr, xn_wr, xs_wr, if_true, if_false, and_self, Int.reduceEq, Int.reduceLT, Int.reduceLE, Int.reduceNeg, Int.le_refl, Int.reduceMod]) (by funext k; simp only [true_and, and_true, false_and, and_false, forall_eq, forall_eq', xi_wi, xr_wi, xt_wi, xl_wi, xn_wi, xs_wi, xi_wr, xr_wr, xt_wr, xl_wr, xn_wr, xs_wr, if_true, if_false, and_self, Int.reduceEq, Int.reduceLT, Int.reduceLE, Int.reduceNeg, Int.le_refl, Int.reduceMod]) (by funext k; simp only [true_and, and_true, false_and, and_false, forall_eq, forall_eq', xi_wi, xr_wi, xt_wi, xl_wi, xn_wi, xs_wi, xi_wr, xr_wr, xt_wr, xl_wr, xn_wr, xs_wr, if_true, if_false, and_self, Int.reduceEq, Int.reduceLT, Int.reduceLE, Int.reduceNeg, Int.le_refl, Int.reduceMod]) (fun k => ?_) ?_⟩
        · simp only [q3.1, q3.2.1, q3.2.2, q2, true_and, and_true, false_and, and_false, forall_eq, forall_eq', xi_wi, xr_wi, xt_wi, xl_wi, xn_wi, xs_wi, xi_wr, xr_wr, xt_wr, xl_wr, xn_wr, xs_wr, if_true, if_false, and_self, Int.reduceEq, Int.reduceLT, Int.reduceLE, Int.reduceNeg, Int.le_refl, Int.reduceMod]
        · simp only [p59, true_and, and_true, false_and, and_false, forall_eq, forall_eq', xi_wi, xr_wi, xt_wi, xl_wi, xn_wi, xs_wi, xi_wr, xr_wr, xt_wr, xl_wr, xn_wr, xs_wr, if_true, if_false, and_self, Int.reduceEq, Int.reduceLT, Int.reduceLE, Int.reduceNeg, Int.le_refl, Int.reduceMod]
          rw [if_neg (by omega)]; exact y1.symm
    have loop := c_R_place_36 (d := 2045) (i := (j : Int)) (f := f) (l := l) (a := a) (m := m) (Q := fun r2 h2 => (if h.i 48 9 < (j : Int) + 1 then (j : Int) + 1 else h.i 48 9) = r2 ∧ Fr [50, 51, 52, 118, 119, 120, 121] [(48, 9), (48, 8), (59, 74)] h h2 ∧ INV (n + 1) h2) S (by omega) (by omega) hm (fun k k0 k1 => by rw [q2]; exact y3' k k0 (by omega)) (fun u v => by rw [q2, p59, if_neg nf]; exact fin u v) (h.i 59 74).toNat 0 (by rw [p59]; omega)
    rw [sumN, Int.add_zero] at loop
    rcases hm with q | q
    · rw [if_pos q]
      rw [q] at loop ⊢
      exact loop
    · rw [if_neg (by omega)]
      rw [q] at loop ⊢
      exact loop
  rcases hm with q | q
  · rw [if_pos q, if_pos q]
    refine go _ hO (fun k k0 => ?_) (by omega)
    rw [bit_of_clr k0, q]
  · rw [if_neg (by omega)]
    refine c_bitCount hO ?_
    rw [cnt]
    refine x_if (fun c => ?_) (fun c => ?_)
    · rw [if_neg (by omega), eor]
      refine go _ hOr (fun k k0 => ?_) (by omega)
      rw [bit_of_set, bit_of_clr k0, q]
      by_cases c2 : k = j
      · simp only [if_pos c2]
      · simp only [if_neg c2]
    · refine ⟨same, ?_⟩
      apply L_R_place
      refine c_R_in_t (by omega) ?_
      rw [if_neg (by decide)]
      refine ⟨(srt S).1, ?_⟩
      rw [if_neg (by omega)]
      refine c_R_in_t (by omega) ?_
      rw [if_neg (by decide)]
      refine c_R_in_t (by omega) ?_
      rw [if_neg (by decide), xw_id (by omega) (by omega)]
      refine c_R_in_t (by omega) ?_
      rw [if_neg (by decide), if_neg (by omega)]
      have loop := c_R_place_36 (d := 2045) (i := (j : Int)) (f := f) (l := l) (a := a) (m := m) (Q := fun r2 h2 => -2 = r2 ∧ Fr [50, 51, 52, 118, 119, 120, 121] [(48, 9), (48, 8), (59, 74)] h h2 ∧ INV (n + 1) h2) S y2 y3 (Or.inr q) y3' (fun u v => by rw [if_pos ⟨q, by omega⟩]; exact ⟨rfl, same, INV_mono I⟩) (h.i 59 74).toNat 0 (by omega)
      rw [sumN, Int.add_zero] at loop
      rw [q] at loop ⊢
      exact loop
