/-! feed -/
theorem ush_31 : ∀ k : Fin 32, (((Int32.ofInt (k.val : Int)).toUInt32 &&& Int32.toUInt32 31).toBitVec % 32).toNat = k.val := by decide +kernel
theorem ush_31' {k : Int} (h0 : 0 ≤ k) (h1 : k < 32) : (((Int32.ofInt k).toUInt32 &&& Int32.toUInt32 31).toBitVec % 32).toNat = k.toNat := by
  have z := ush_31 ⟨k.toNat, by omega⟩
  simp only [show ((k.toNat : Nat) : Int) = k by omega] at z
  exact z
theorem ofI_mod (v : Int) : Int32.ofInt v = nI (v % 4294967296).toNat := by
  rw [← ofI_nat (by omega : 0 ≤ v % 4294967296)]
  apply Int32.toBitVec_inj.mp
  apply BitVec.eq_of_toNat_eq
  rw [Int32.toBitVec_ofInt, Int32.toBitVec_ofInt, BitVec.toNat_ofInt, BitVec.toNat_ofInt]
  omega
theorem xbyte0 {v k : Int} (h0 : 0 ≤ k) (h1 : k < 32) : xand (xushr v k) 255 = (((v % 4294967296).toNat / 2 ^ k.toNat % 256 : Nat) : Int) := by
  unfold xand xushr
  rw [Int32.ofInt_toInt, ofI_mod v, pk_ushrN (by omega) _ _ (ush_31' h0 h1), ofI_nat (by decide : (0 : Int) ≤ 255), nI_and_, show (255 : Int).toNat = 2 ^ 8 - 1 from rfl, Nat.and_two_pow_sub_one_eq_mod, nI_toInt]
  · have := Nat.mod_lt ((v % 4294967296).toNat / 2 ^ k.toNat) (show 0 < 2 ^ 8 by decide)
    omega
def sh8 (v : Int) : Nat → Int
  | 0 => v % 256
  | 1 => v / 256 % 256
  | 2 => v / 65536 % 256
  | _ => v / 16777216 % 256
theorem xbyte {v : Int} (n : Nat) (hn : n < 4) : xand (xushr v (8 * (n : Int))) 255 = sh8 v n := by
  rw [xbyte0 (by omega) (by omega)]
  match n, hn with
  | 0, _ => show (((v % 4294967296).toNat / 2 ^ 0 % 256 : Nat) : Int) = v % 256; omega
  | 1, _ => show (((v % 4294967296).toNat / 2 ^ 8 % 256 : Nat) : Int) = v / 256 % 256; omega
  | 2, _ => show (((v % 4294967296).toNat / 2 ^ 16 % 256 : Nat) : Int) = v / 65536 % 256; omega
  | 3, _ => show (((v % 4294967296).toNat / 2 ^ 24 % 256 : Nat) : Int) = v / 16777216 % 256; omega
theorem rbyte {v : Int} (hv : xrg v) (n : Nat) (hn : n < 4) : xw8 (xw8 (xshr v (8 * (n : Int)))) % 256 = sh8 v n ∧ -128 ≤ xw8 (xw8 (xshr v (8 * (n : Int)))) ∧ xw8 (xw8 (xshr v (8 * (n : Int)))) < 128 := by
  rw [xshr_eq hv (by omega) (by omega)]
  refine ⟨?_, by unfold xw8; omega, by unfold xw8; omega⟩
  match n, hn with
  | 0, _ => show xw8 (xw8 (v / 2 ^ 0)) % 256 = v % 256; unfold xw8; omega
  | 1, _ => show xw8 (xw8 (v / 2 ^ 8)) % 256 = v / 256 % 256; unfold xw8; omega
  | 2, _ => show xw8 (xw8 (v / 2 ^ 16)) % 256 = v / 65536 % 256; unfold xw8; omega
  | 3, _ => show xw8 (xw8 (v / 2 ^ 24)) % 256 = v / 16777216 % 256; unfold xw8; omega
/-- the last n bytes of v stand from t on -/
def grpX (f : Int → Int) (t v : Int) (n : Nat) : Prop := ∀ j : Nat, j < n → f (t + j) = sh8 v (n - 1 - j)
def grpR (f : Int → Int) (t v : Int) (n : Nat) : Prop := ∀ j : Nat, j < n → f (t + j) % 256 = sh8 v (n - 1 - j) ∧ -128 ≤ f (t + j) ∧ f (t + j) < 128
theorem c_X_putBytes_2 {d : Nat} {Q : xH → Prop} {v : Int} : ∀ (n : Nat) (h : xH) (t : Int), n ≤ 4 → SX h → h.i 2 1 = t → 0 ≤ t → t + n ≤ 240 → (∀ h', Fr [3] [(2, 1)] h h' → h'.i 2 1 = t + n → (∀ k, k < t → h'.i 3 k = h.i 3 k) → grpX (h'.i 3) t v n → Q h') → xT d M_X_putBytes 2 [(1, 2), (0, v), (0, 8 * (n : Int) - 8)] [] h (xqv Q) := by
  intro n
  induction n with
  | zero =>
    intro h t hn SX_ ht t0 t1 H
    apply L_X_putBytes_2
    rw [if_pos (by omega)]
    exact H h (Fr_refl _ _ _) (by omega) (fun _ _ => rfl) (fun j hj => absurd hj (Nat.not_lt_zero _))
  | succ n ih =>
    intro h t hn SX_ ht t0 t1 H
    have S1 := SX_
    apply L_X_putBytes_2
    have e1 : xw (t + 1) = t + 1 := by unfold xw; omega
    have e2 : 8 * ((n + 1 : Nat) : Int) - 8 = 8 * (n : Int) := by omega
    have e3 : xw (8 * (n : Int) + -8) = 8 * (n : Int) - 8 := by unfold xw; omega
    rw [e2, if_neg (by omega), ht, if_pos (by omega), e1]
    have eb := xbyte (v := v) n (by omega)
    simp only [sxt SX_, sxl SX_, sxf SX_, e3, eb, true_and, and_true, false_and, and_false, forall_eq, forall_eq', xi_wi, xr_wi, xt_wi, xl_wi, xn_wi, xs_wi, xi_wr, xr_wr, xt_wr, xl_wr, xn_wr, xs_wr, if_true, if_false, and_self, Int.reduceEq, Int.reduceLT, Int.reduceLE, Int.reduceNeg, Int.le_refl, Int.reduceMod]
    refine ⟨⟨by omega, by omega⟩, ?_⟩
    refine ih _ (t + 1) (by omega) (SX_2 rfl S1) (by simp only [true_and, and_true, false_and, and_false, forall_eq, forall_eq', xi_wi, xr_wi, xt_wi, xl_wi, xn_wi, xs_wi, xi_wr, xr_wr, xt_wr, xl_wr, xn_wr, xs_wr, if_true, if_false, and_self, Int.reduceEq, Int.reduceLT, Int.reduceLE, Int.reduceNeg, Int.le_refl, Int.reduceMod]) (by omega) (by omega) ?_
    intro h' F q1 q2 q3
    have F0 : Fr [3] [(2, 1)] h ((h.wi 2 1 (t + 1)).wi 3 t (sh8 v n)) := Fr_cell (Fr_slot (Fr_refl _ _ _) _ (by decide)) _ _ (by decide)
    refine H h' (Fr_trans F0 F) (by omega) (fun k hk => ?_) (fun j hj => ?_)
    · rw [q2 k (by omega)]
      simp only [(show ¬ k = t by omega), true_and, and_true, false_and, and_false, forall_eq, forall_eq', xi_wi, xr_wi, xt_wi, xl_wi, xn_wi, xs_wi, xi_wr, xr_wr, xt_wr, xl_wr, xn_wr, xs_wr, if_true, if_false, and_self, Int.reduceEq, Int.reduceLT, Int.reduceLE, Int.reduceNeg, Int.le_refl, Int.reduceMod]
    · cases j with
      | zero =>
        have z := q2 t (by omega)
        rw [show t + ((0 : Nat) : Int) = t by omega, z]
        simp only [true_and, and_true, false_and, and_false, forall_eq, forall_eq', xi_wi, xr_wi, xt_wi, xl_wi, xn_wi, xs_wi, xi_wr, xr_wr, xt_wr, xl_wr, xn_wr, xs_wr, if_true, if_false, and_self, Int.reduceEq, Int.reduceLT, Int.reduceLE, Int.reduceNeg, Int.le_refl, Int.reduceMod]
        rfl
      | succ j =>
        have z := q3 j (by omega)
        rw [show t + ((j + 1 : Nat) : Int) = t + 1 + j by omega, z]
        congr 1; omega
theorem c_X_putBytes {d : Nat} {h : xH} {Q : xH → Prop} {v t : Int} (SX_ : SX h) (ht : h.i 2 1 = t) (t0 : 0 ≤ t) (t1 : t + 4 ≤ 240) (H : ∀ h', Fr [3] [(2, 1)] h h' → h'.i 2 1 = t + 4 → (∀ k, k < t → h'.i 3 k = h.i 3 k) → grpX (h'.i 3) t v 4 → Q h') : xCv (d + 1) M_X_putBytes [(1, 2), (0, v)] h Q := by
  apply L_X_putBytes
  exact c_X_putBytes_2 4 h t (Nat.le_refl _) SX_ ht t0 t1 H
theorem c_R_feed_36 {d : Nat} {Q : Int → xH → Prop} {v a1 a2 a3 a4 a5 c : Int} (hv : xrg v) (c0 : 0 ≤ c) (c1 : c < 5) : ∀ (n : Nat) (h : xH) (t : Int), n ≤ 4 → SR h → h.i 59 1 = t → 0 ≤ t → t + n ≤ 240 → (∀ h' u7 u8, Fr [60] [(59, 1)] h h' → h'.i 59 1 = t + n → (∀ k, k < t → h'.i 60 k = h.i 60 k) → grpR (h'.i 60) t v n → xT d M_R_feed 10 [(1, 59), (0, a1), (0, a2), (0, a3), (0, a4), (0, a5), (0, c + 1), u7, u8] [] h' (xqi Q)) → xT d M_R_feed 36 [(1, 59), (0, a1), (0, a2), (0, a3), (0, a4), (0, a5), (0, c), (0, v), (0, 8 * (n : Int) - 8)] [] h (xqi Q) := by
  intro n
  induction n with
  | zero =>
    intro h t hn S ht t0 t1 H
    apply L_R_feed_36
    rw [if_pos (by omega)]
    intro x1 e1
    have e : x1 = c + 1 := by rw [e1]; unfold xw; omega
    subst e
    exact H h _ _ (Fr_refl _ _ _) (by omega) (fun _ _ => rfl) (fun j hj => absurd hj (Nat.not_lt_zero _))
  | succ n ih =>
    intro h t hn S ht t0 t1 H
    have S1 := S
    apply L_R_feed_36
    have e1 : xw (t + 1) = t + 1 := by unfold xw; omega
    have e2 : 8 * ((n + 1 : Nat) : Int) - 8 = 8 * (n : Int) := by omega
    have e3 : xw (8 * (n : Int) + -8) = 8 * (n : Int) - 8 := by unfold xw; omega
    have eb := rbyte hv n (by omega)
    rw [e2, if_neg (by omega), ht]
    simp only [srt S, srl S, srf S, e1, e3, ht, true_and, and_true, false_and, and_false, forall_eq, forall_eq', xi_wi, xr_wi, xt_wi, xl_wi, xn_wi, xs_wi, xi_wr, xr_wr, xt_wr, xl_wr, xn_wr, xs_wr, if_true, if_false, and_self, Int.reduceEq, Int.reduceLT, Int.reduceLE, Int.reduceNeg, Int.le_refl, Int.reduceMod]
    refine ⟨⟨by omega, by omega⟩, ?_⟩
    refine ih _ (t + 1) (by omega) (SR_2 rfl S1) (by simp only [true_and, and_true, false_and, and_false, forall_eq, forall_eq', xi_wi, xr_wi, xt_wi, xl_wi, xn_wi, xs_wi, xi_wr, xr_wr, xt_wr, xl_wr, xn_wr, xs_wr, if_true, if_false, and_self, Int.reduceEq, Int.reduceLT, Int.reduceLE, Int.reduceNeg, Int.le_refl, Int.reduceMod]) (by omega) (by omega) ?_
    intro h' u7 u8 F q1 q2 q3
    have F0 : Fr [60] [(59, 1)] h ((h.wi 60 t (xw8 (xw8 (xshr v (8 * (n : Int)))))).wi 59 1 (t + 1)) := Fr_slot (Fr_cell (Fr_refl _ _ _) _ _ (by decide)) _ (by decide)
    refine H h' u7 u8 (Fr_trans F0 F) (by omega) (fun k hk => ?_) (fun j hj => ?_)
    · rw [q2 k (by omega)]
      simp only [(show ¬ k = t by omega), true_and, and_true, false_and, and_false, forall_eq, forall_eq', xi_wi, xr_wi, xt_wi, xl_wi, xn_wi, xs_wi, xi_wr, xr_wr, xt_wr, xl_wr, xn_wr, xs_wr, if_true, if_false, and_self, Int.reduceEq, Int.reduceLT, Int.reduceLE, Int.reduceNeg, Int.le_refl, Int.reduceMod]
    · cases j with
      | zero =>
        have z := q2 t (by omega)
        rw [show t + ((0 : Nat) : Int) = t by omega, z]
        simp only [true_and, and_true, false_and, and_false, forall_eq, forall_eq', xi_wi, xr_wi, xt_wi, xl_wi, xn_wi, xs_wi, xi_wr, xr_wr, xt_wr, xl_wr, xn_wr, xs_wr, if_true, if_false, and_self, Int.reduceEq, Int.reduceLT, Int.reduceLE, Int.reduceNeg, Int.le_refl, Int.reduceMod]
        exact eb
      | succ j =>
        have z := q3 j (by omega)
        rw [show t + ((j + 1 : Nat) : Int) = t + 1 + j by omega, show n + 1 - 1 - (j + 1) = n - 1 - j by omega]
        exact z
theorem c_R_feed {d : Nat} {h : xH} {Q : Int → xH → Prop} {a1 a2 a3 a4 a5 t : Int} (S : SR h) (v1 : xrg a1) (v2 : xrg a2) (v3 : xrg a3) (v4 : xrg a4) (v5 : xrg a5) (ht : h.i 59 1 = t) (t0 : 0 ≤ t) (t1 : t + 20 ≤ 240) (H : ∀ h', Fr [60] [(59, 1)] h h' → h'.i 59 1 = t + 20 → (∀ k, k < t → h'.i 60 k = h.i 60 k) → grpR (h'.i 60) t a1 4 → grpR (h'.i 60) (t + 4) a2 4 → grpR (h'.i 60) (t + 8) a3 4 → grpR (h'.i 60) (t + 12) a4 4 → grpR (h'.i 60) (t + 16) a5 4 → Q (t + 20) h') : xCi (d + 1) M_R_feed [(1, 59), (0, a1), (0, a2), (0, a3), (0, a4), (0, a5)] h Q := by
  apply L_R_feed
  refine ⟨S.1.1, ?_⟩
  rw [if_neg (by rw [ht]; unfold xw; omega)]
  apply L_R_feed_10
  rw [if_pos (by decide), if_pos rfl]
  refine c_R_feed_36 v1 (by decide) (by decide) 4 h t (Nat.le_refl _) S ht t0 (by omega) ?_
  intro h1 u1 w1 F1 p1 q1 g1
  apply L_R_feed_10
  rw [if_pos (by decide), if_neg (by decide), if_pos (by decide)]
  refine c_R_feed_36 v2 (by decide) (by decide) 4 h1 (t + 4) (Nat.le_refl _) (SR_2 F1.1 S) p1 (by omega) (by omega) ?_
  intro h2 u2 w2 F2 p2 q2 g2
  have F2 := Fr_trans F1 F2
  apply L_R_feed_10
  rw [if_pos (by decide), if_neg (by decide), if_neg (by decide), if_pos (by decide)]
  refine c_R_feed_36 v3 (by decide) (by decide) 4 h2 (t + 8) (Nat.le_refl _) (SR_2 F2.1 S) (by omega) (by omega) (by omega) ?_
  intro h3 u3 w3 F3 p3 q3 g3
  have F3 := Fr_trans F2 F3
  apply L_R_feed_10
  rw [if_pos (by decide), if_neg (by decide), if_neg (by decide), if_neg (by decide), if_pos (by decide)]
  refine c_R_feed_36 v4 (by decide) (by decide) 4 h3 (t + 12) (Nat.le_refl _) (SR_2 F3.1 S) (by omega) (by omega) (by omega) ?_
  intro h4 u4 w4 F4 p4 q4 g4
  have F4 := Fr_trans F3 F4
  apply L_R_feed_10
  rw [if_pos (by decide), if_neg (by decide), if_neg (by decide), if_neg (by decide), if_neg (by decide)]
  refine c_R_feed_36 v5 (by decide) (by decide) 4 h4 (t + 16) (Nat.le_refl _) (SR_2 F4.1 S) (by omega) (by omega) (by omega) ?_
  intro h5 u5 w5 F5 p5 q5 g5
  have F5 := Fr_trans F4 F5
  apply L_R_feed_10
  rw [if_neg (by decide)]
  refine ⟨(SR_2 F5.1 S).1.1, ?_⟩
  rw [show h5.i 59 1 = t + 20 by omega]
  refine H h5 F5 (by omega) (fun k hk => ?_) (fun j hj => ?_) (fun j hj => ?_) (fun j hj => ?_) (fun j hj => ?_) ?_
  · rw [q5 k (by omega), q4 k (by omega), q3 k (by omega), q2 k (by omega), q1 k (by omega)]
  · rw [q5 _ (by omega), q4 _ (by omega), q3 _ (by omega), q2 _ (by omega)]; exact g1 j hj
  · rw [q5 _ (by omega), q4 _ (by omega), q3 _ (by omega)]; exact g2 j hj
  · rw [q5 _ (by omega), q4 _ (by omega)]; exact g3 j hj
  · rw [q5 _ (by omega)]; exact g4 j hj
  · exact g5
theorem c_X_feed {d : Nat} {h : xH} {Q : Int → xH → Prop} {a1 a2 a3 a4 a5 t : Int} (SX_ : SX h) (ht : h.i 2 1 = t) (t0 : 0 ≤ t) (t1 : t + 20 ≤ 240) (H : ∀ h', Fr [3] [(2, 1)] h h' → h'.i 2 1 = t + 20 → (∀ k, k < t → h'.i 3 k = h.i 3 k) → grpX (h'.i 3) t a1 4 → grpX (h'.i 3) (t + 4) a2 4 → grpX (h'.i 3) (t + 8) a3 4 → grpX (h'.i 3) (t + 12) a4 4 → grpX (h'.i 3) (t + 16) a5 4 → Q (t + 20) h') : xCi (d + 2) M_X_feed [(1, 2), (0, a1), (0, a2), (0, a3), (0, a4), (0, a5)] h Q := by
  apply L_X_feed
  refine ⟨SX_.1.1, ?_⟩
  rw [if_neg (by rw [ht]; unfold xw; omega)]
  refine c_X_putBytes SX_ ht t0 (by omega) ?_
  intro h1 F1 p1 q1 g1
  have S1 := SX_2 F1.1 SX_
  refine ⟨S1.1.1, c_X_putBytes S1 p1 (by omega) (by omega) ?_⟩
  intro h2 F2 p2 q2 g2
  have F2 := Fr_trans F1 F2
  have S2 := SX_2 F2.1 SX_
  refine ⟨S2.1.1, c_X_putBytes S2 p2 (by omega) (by omega) ?_⟩
  intro h3 F3 p3 q3 g3
  have F3 := Fr_trans F2 F3
  have S3 := SX_2 F3.1 SX_
  refine ⟨S3.1.1, c_X_putBytes S3 p3 (by omega) (by omega) ?_⟩
  intro h4 F4 p4 q4 g4
  have F4 := Fr_trans F3 F4
  have S4 := SX_2 F4.1 SX_
  refine ⟨S4.1.1, c_X_putBytes S4 p4 (by omega) (by omega) ?_⟩
  intro h5 F5 p5 q5 g5
  have F5 := Fr_trans F4 F5
  have S5 := SX_2 F5.1 SX_
  refine ⟨S5.1.1, ?_⟩
  rw [show h5.i 2 1 = t + 20 by omega]
  rw [show t + 4 + 4 = t + 8 by omega] at *
  rw [show t + 8 + 4 = t + 12 by omega] at *
  rw [show t + 12 + 4 = t + 16 by omega] at *
  refine H h5 F5 (by omega) (fun k hk => ?_) (fun j hj => ?_) (fun j hj => ?_) (fun j hj => ?_) (fun j hj => ?_) g5
  · rw [q5 k (by omega), q4 k (by omega), q3 k (by omega), q2 k (by omega), q1 k (by omega)]
  · rw [q5 _ (by omega), q4 _ (by omega), q3 _ (by omega), q2 _ (by omega)]; exact g1 j hj
  · rw [q5 _ (by omega), q4 _ (by omega), q3 _ (by omega)]; exact g2 j hj
  · rw [q5 _ (by omega), q4 _ (by omega)]; exact g3 j hj
  · rw [q5 _ (by omega)]; exact g4 j hj
theorem grp_eq {f g : Int → Int} {t v : Int} (a : grpX f t v 4) (b : grpR g t v 4) {k : Int} (k0 : t ≤ k) (k1 : k < t + 4) : f k = g k % 256 ∧ -128 ≤ g k ∧ g k < 128 := by
  have x := a (k - t).toNat (by omega)
  have y := b (k - t).toNat (by omega)
  rw [show t + (((k - t).toNat : Nat) : Int) = k by omega] at x y
  exact ⟨by rw [x, y.1], y.2⟩
theorem j_feed (n : Nat) (hn : n < 512) (a1 a2 a3 a4 a5 : Int) (v1 : xrg a1) (v2 : xrg a2) (v3 : xrg a3) (v4 : xrg a4) (v5 : xrg a5) : JJ INV n M_X_feed M_R_feed [(0, a1), (0, a2), (0, a3), (0, a4), (0, a5)] := by
  refine jj_fr [3, 60] [(2, 1), (59, 1)] (by decide) (fun h I => ?_)
  have S := I.2.1
  have SX_ := I.1
  have i1 := I.2.2.2.2.2.2.1
  obtain ⟨j1, j2, j3, j4⟩ := i1
  by_cases c : h.i 59 1 + 20 ≤ 240
  · refine c_X_feed SX_ j1 j2 c ?_
    intro h1 F1 p1 old1 x1 x2 x3 x4 x5
    have F1' : Fr [3, 60] [(2, 1), (59, 1)] h h1 := Fr_mono F1 (by decide) (by decide)
    refine ⟨F1', c_R_feed (SR_2 F1.1 S) v1 v2 v3 v4 v5 (F1.2 59 1 (by decide) (by decide)) j2 c ?_⟩
    intro h2 F2 p2 old2 y1 y2 y3 y4 y5
    have F : Fr [3, 60] [(2, 1), (59, 1)] h h2 := Fr_trans F1' (Fr_mono F2 (by decide) (by decide))
    have r3 : h2.i 3 = h1.i 3 := Fr_row F2 (by decide) (by decide)
    have r2 : h2.i 2 = h1.i 2 := Fr_row F2 (by decide) (by decide)
    have r60 : h1.i 60 = h.i 60 := Fr_row F1 (by decide) (by decide)
    refine ⟨rfl, F, INV_fr I F (by decide) (Or.inr ?_) (Or.inl (by decide)) (Or.inl (by decide)) (Or.inl (by decide)) (Or.inl (by decide)) (Or.inl (by decide)) (Or.inl (by decide)) (Or.inl (by decide)) (Or.inl (by decide)) (Or.inl (by decide)) (Or.inl (by decide)) (Or.inl (by decide)) (Or.inl (by decide)) (Or.inl (by decide)) (Or.inl (by decide))⟩
    refine ⟨by rw [r2]; omega, by omega, by omega, fun k k0 k1 => ?_⟩
    rw [r3]
    by_cases z : k < h.i 59 1
    · rw [old1 k z, old2 k z, r60]; exact j4 k k0 z
    · by_cases z1 : k < h.i 59 1 + 4
      · exact grp_eq x1 y1 (by omega) (by omega)
      by_cases z2 : k < h.i 59 1 + 8
      · exact grp_eq x2 y2 (by omega) (by omega)
      by_cases z3 : k < h.i 59 1 + 12
      · exact grp_eq x3 y3 (by omega) (by omega)
      by_cases z4 : k < h.i 59 1 + 16
      · exact grp_eq x4 y4 (by omega) (by omega)
      · exact grp_eq x5 y5 (by omega) (by omega)
  · apply L_X_feed
    refine ⟨SX_.1.1, ?_⟩
    rw [if_pos (by rw [j1]; unfold xw; omega)]
    refine ⟨Fr_refl _ _ _, ?_⟩
    apply L_R_feed
    refine ⟨S.1.1, ?_⟩
    rw [if_pos (by unfold xw; omega)]
    exact ⟨rfl, Fr_refl _ _ _, INV_mono I⟩
