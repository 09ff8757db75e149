/-! judge: the reference's loops over the places and the sets -/
theorem mod_or {m i : Nat} (b : m.testBit i = true) : m % 2 ^ i ||| 2 ^ i = m % 2 ^ (i + 1) := by
  refine Nat.eq_of_testBit_eq (fun k => ?_)
  rw [Nat.testBit_or, Nat.testBit_mod_two_pow, Nat.testBit_mod_two_pow, Nat.testBit_two_pow]
  by_cases c : k < i
  · rw [decide_eq_true c, decide_eq_false (show ¬ i = k by omega), decide_eq_true (show k < i + 1 by omega), Bool.or_false]
  · by_cases c2 : i = k
    · rw [decide_eq_true c2, Bool.or_true, decide_eq_true (show k < i + 1 by omega), ← c2, b]; rfl
    · rw [decide_eq_false c, decide_eq_false c2, decide_eq_false (show ¬ k < i + 1 by omega)]; rfl
theorem mod_nb {m i : Nat} (b : m.testBit i = false) : m % 2 ^ i = m % 2 ^ (i + 1) := by
  refine Nat.eq_of_testBit_eq (fun k => ?_)
  rw [Nat.testBit_mod_two_pow, Nat.testBit_mod_two_pow]
  by_cases c : k < i
  · rw [decide_eq_true c, decide_eq_true (show k < i + 1 by omega)]
  · by_cases c2 : i = k
    · rw [decide_eq_false c, ← c2, b, Bool.and_false, Bool.and_false]
    · rw [decide_eq_false c, decide_eq_false (show ¬ k < i + 1 by omega)]
theorem shl_2 : ∀ i : Fin 13, xshl 1 (i.val : Int) = ((2 ^ i.val : Nat) : Int) := by decide
theorem xlcmp_lt {a b : Int} : xlcmp a b < 0 ↔ a < b := by
  unfold xlcmp
  by_cases c : a < b
  · rw [if_pos c]; exact ⟨fun _ => c, fun _ => by decide⟩
  · rw [if_neg c]
    by_cases c2 : b < a
    · rw [if_pos c2]; exact ⟨fun z => absurd z (by decide), fun z => absurd z c⟩
    · rw [if_neg c2]; exact ⟨fun z => absurd z (by decide), fun z => absurd z c⟩
def kyT (b : Tr) : Int := 1000000 * b.1 + b.2.1
def bstR (h : xH) (b : Tr) : Prop := h.i 59 80 = ((b.2.2.1 : Nat) : Int) ∧ ∀ j : Nat, j < 12 → h.i 124 (j : Int) = b.2.2.2.getD j (-1)
section JX
variable {n0 : Nat} {h0 : xH} {t : Nat → Bool} {W : Nat → List Wd} {d : Nat} {m P : Nat}
theorem PL_bit (PL : PlI h0 P m) {i : Nat} (hi : i < P) : (m.testBit i = true ↔ h0.i 121 (i : Int) ≠ 0) := by
  have z := PL.2.2.2.2.2.2.1 i (by have := PL.2.2.1; omega)
  rw [ibit, if_pos hi] at z
  rw [← z]
  cases m.testBit i <;> simp
theorem PL_lt (PL : PlI h0 P m) : m < 2 ^ P := by
  refine Nat.lt_pow_two_of_testBit m (fun i hi => ?_)
  by_cases c : i < 12
  · have z := PL.2.2.2.2.2.2.1 i c
    rw [ibit, if_neg (by omega)] at z
    revert z
    cases m.testBit i <;> simp
  · exact Nat.testBit_lt_two_pow (Nat.lt_of_lt_of_le PL.2.2.2.2.2.1 (show 2 ^ 12 ≤ 2 ^ i from Nat.pow_le_pow_right (by decide) (by omega)))
theorem c_R_j43 {Q : Int → xH → Prop} {h : xH} (C : RCx h0 h t W) (PL : PlI h0 P m) (H : ∀ u3 u4 u5 u6 u7 : xV, xT (d + 1) M_R_judge 66 [(1, 59), (0, (m : Int)), (3, 9223372036854775807), (9, 0), (0, 0), u5, u6, u7] [] h (xqi Q)) : ∀ (n i : Nat) (u3 u4 u5 u6 u7 : xV), i + n = P → xT (d + 1) M_R_judge 43 [(1, 59), (0, ((m % 2 ^ i : Nat) : Int)), (0, (i : Int)), u3, u4, u5, u6, u7] [] h (xqi Q) := by
  have S := C.1
  have g : h.tag 59 = 12 ∧ h.r 59 73 = 121 ∧ h.tag 121 = 22 ∧ h.len 121 = 12 := by simp only [srt S, srl S, srf S, true_and, and_true, false_and, and_false, forall_eq, forall_eq', xi_wi, xr_wi, xt_wi, xl_wi, xn_wi, xs_wi, xi_wr, xr_wr, xt_wr, xl_wr, xn_wr, xs_wr, if_true, if_false, and_self, Int.reduceEq, Int.reduceLT, Int.reduceLE, Int.reduceNeg, Int.le_refl, Int.reduceMod]
  obtain ⟨g1, g2, g3, g4⟩ := g
  have P12 := PL.2.2.1
  have m12 := PL.2.2.2.2.2.1
  intro n
  induction n with
  | zero =>
    intro i u3 u4 u5 u6 u7 hi
    have e : i = P := by omega
    subst e
    apply L_R_judge_43
    refine ⟨g1, ?_⟩
    rw [C.2.2.2.2.2.2.2.1, PL.2.1, if_neg (by omega), Nat.mod_eq_of_lt (PL_lt PL)]
    exact H u3 u4 u5 u6 u7
  | succ n ih =>
    intro i u3 u4 u5 u6 u7 hi
    have key := ih (i + 1) u3 u4 u5 u6 u7 (by omega)
    have lm : m % 2 ^ i ≤ m := Nat.mod_le _ _
    have sh := shl_2 ⟨i, by omega⟩
    simp only at sh
    have p2 : 2 ^ i ≤ 2 ^ 12 := Nat.pow_le_pow_right (by decide) (by omega)
    have bi := PL_bit PL (i := i) (by omega)
    apply L_R_judge_43
    refine ⟨g1, ?_⟩
    rw [C.2.2.2.2.2.2.2.1, PL.2.1, if_pos (by omega), g2, g4, C.2.2.2.2.2.2.1]
    refine ⟨⟨g3, by omega, by omega⟩, ?_⟩
    rw [xw_id (a := (i : Int) + 1) (by omega) (by omega)]
    by_cases c : h0.i 121 (i : Int) = 0
    · rw [if_pos c]
      intro x1 e1 x2 e2
      rw [e1, e2, xor_nn (by omega) (by decide) (by omega) (by decide), Int.toNat_natCast, show (0 : Int).toNat = 0 from rfl, Nat.or_zero]
      rw [mod_nb (Bool.eq_false_iff.mpr (fun z => bi.mp z c))]
      push_cast at key ⊢
      exact key
    · rw [if_neg c]
      intro x3 e3 x4 e4
      rw [e3, e4, sh, xor_nn (by omega) (by omega) (by omega) (by omega), Int.toNat_natCast, Int.toNat_natCast, mod_or (bi.mpr c)]
      push_cast at key ⊢
      exact key
theorem c_R_j95 {Q : Int → xH → Prop} {hb : xH} {on : List Int} {l1 l2 l4 : Int} {u3 u5 : xV} (Cb : RCx h0 hb t W) (PL : PlI h0 P m) (lo : on.length = P) (rows : ∀ j : Nat, j < P → hb.i 123 (j : Int) = on.getD j (-1)) (H : ∀ h' u6 u7, Fr [124] [] hb h' → (∀ j : Nat, j < 12 → h'.i 124 (j : Int) = on.getD j (-1)) → xT (d + 1) M_R_judge 66 [(1, 59), (0, l1), (3, l2), (xkl u3), (0, xw (l4 + 1)), u5, u6, u7] [] h' (xqi Q)) : ∀ (n j : Nat) (h : xH) (u6 : xV), j + n = 12 → Fr [124] [] hb h → (∀ k : Nat, k < j → h.i 124 (k : Int) = on.getD k (-1)) → xT (d + 1) M_R_judge 95 [(1, 59), (0, l1), (3, l2), u3, (0, l4), u5, u6, (0, (j : Int))] [] h (xqi Q) := by
  have P12 := PL.2.2.1
  intro n
  induction n with
  | zero =>
    intro j h u6 hj F C
    have e : j = 12 := by omega
    subst e
    apply L_R_judge_95
    rw [if_neg (by decide)]
    intro x3 e3
    rw [e3]
    exact H h u6 _ F C
  | succ n ih =>
    intro j h u6 hj F A
    have C := RCx_fr Cb (Fr_mono F (by decide) (fun c mm => absurd mm List.not_mem_nil))
    have S := C.1
    have g : h.tag 59 = 12 ∧ h.r 59 76 = 123 ∧ h.tag 123 = 20 ∧ h.len 123 = 12 ∧ h.r 59 77 = 124 ∧ h.tag 124 = 20 ∧ h.len 124 = 12 := by simp only [srt S, srl S, srf S, true_and, and_true, false_and, and_false, forall_eq, forall_eq', xi_wi, xr_wi, xt_wi, xl_wi, xn_wi, xs_wi, xi_wr, xr_wr, xt_wr, xl_wr, xn_wr, xs_wr, if_true, if_false, and_self, Int.reduceEq, Int.reduceLT, Int.reduceLE, Int.reduceNeg, Int.le_refl, Int.reduceMod]
    obtain ⟨g1, g2, g3, g4, g5, g6, g7⟩ := g
    have nx : ∀ (h1 : xH) (u6 : xV) (v : Int), v = on.getD j (-1) → h1 = h.wi 124 (j : Int) v → ∀ x1 : Int, x1 = xw ((j : Int) + 1) → xT (d + 1) M_R_judge 95 [(1, 59), (0, l1), (3, l2), u3, (0, l4), u5, u6, (0, x1)] [] h1 (xqi Q) := fun h1 u6 v ev e1 x1 ex => by
      have := ih (j + 1) h1 u6 (by omega) (by rw [e1]; exact Fr_cell F _ _ (by decide)) (fun k hk => by
        rw [e1, xi_wi]
        by_cases z : k = j
        · rw [if_pos ⟨rfl, by omega⟩, z]; exact ev
        · rw [if_neg (fun y => z (by omega))]; exact A k (by omega))
      rw [ex, xw_id (a := (j : Int) + 1) (by omega) (by omega)]
      push_cast at this
      exact this
    apply L_R_judge_95
    rw [if_pos (by omega), C.2.2.2.2.2.2.2.1, PL.2.1, g2, g4, g5, g7]
    refine ⟨g1, ?_⟩
    by_cases c : j < P
    · rw [if_pos (by omega)]
      refine ⟨⟨g3, by omega, by omega⟩, ⟨g6, by omega, by omega⟩, fun h1 e1 => ?_⟩
      refine nx h1 _ _ ?_ e1
      rw [Fr_row F (by decide) (fun c mm => absurd mm List.not_mem_nil)]
      exact rows j c
    · rw [if_neg (by omega)]
      refine ⟨⟨g6, by omega, by omega⟩, fun h2 e2 => ?_⟩
      refine nx h2 _ _ ?_ e2
      rw [List.getD_eq_getElem?_getD, List.getElem?_eq_none (by omega)]; rfl
def jqL : List Int := [114, 115, 116, 123, 124]
def jqS : List (Int × Int) := [(59, 80)]
theorem c_R_j66 {Q : Int → xH → Prop} (I : INV n0 h0) (P0 : XPo h0 t W) (PL : PlI h0 P m) {hb : xH} (Cb : RCx h0 hb t W) (CC : ∀ k f : Nat, k < 12 → f < 8 → hb.i 122 ((8 * k + f : Nat) : Int) = (jD h0 t W).C k (f : Int)) (H : ∀ h', Fr jrL jrS hb h' → h'.i 59 78 = (bsT (jD h0 t W) P m (m + 1)).1 → h'.i 59 79 = (bsT (jD h0 t W) P m (m + 1)).2.1 → bstR h' (bsT (jD h0 t W) P m (m + 1)) → Q (bsT (jD h0 t W) P m (m + 1)).1 h') : ∀ (n s : Nat) (h : xH) (l2 : Int) (u3 u5 u6 u7 : xV), s + n = 2 ^ P → Fr jqL jqS hb h → (s = 0 → l2 = 9223372036854775807) → (0 < s → l2 = kyT (bsT (jD h0 t W) P m s) ∧ bstR h (bsT (jD h0 t W) P m s)) → xT (d + 5) M_R_judge 66 [(1, 59), (0, (m : Int)), (3, l2), u3, (0, (s : Int)), u5, u6, u7] [] h (xqi Q) := by
  have P12 := PL.2.2.1
  have m12 : m < 4096 := PL.2.2.2.2.2.1
  have ml := PL_lt PL
  have cb := jD_C I P0
  have p12 : 2 ^ P ≤ 2 ^ 12 := Nat.pow_le_pow_right (by decide) P12
  have sh := shl_2 ⟨P, by omega⟩
  simp only at sh
  have p0 : 0 < 2 ^ P := Nat.pow_pos (by decide)
  generalize 2 ^ P = N at ml p12 sh p0 ⊢
  have p12 : N ≤ 4096 := p12
  intro n
  induction n with
  | zero =>
    intro s h l2 u3 u5 u6 u7 hs F B0 B
    have C := RCx_fr Cb (Fr_mono F (by decide) (by decide))
    have g : h.tag 59 = 12 := (srt C.1).1
    have Bs := B (by omega)
    have es : bsT (jD h0 t W) P m s = bsT (jD h0 t W) P m (m + 1) := bsT_skip s (by omega) (fun k k0 k1 y => by have := sb_le y; omega)
    rw [es] at Bs
    have bd := bsT_bd (D := jD h0 t W) cb (P := P) (m := m) (s := m + 1) P12
    generalize bsT (jD h0 t W) P m (m + 1) = b at *
    have e78 : xl2i (xldiv l2 1000000) = b.1 := by rw [Bs.1]; exact xl_div bd.1 (by omega) bd.2.2.1 (by omega)
    have e79 : xl2i (xlrem l2 1000000) = b.2.1 := by rw [Bs.1]; exact xl_rem bd.1 (by omega) bd.2.2.1 (by omega)
    apply L_R_judge_66
    refine ⟨g, ?_⟩
    rw [C.2.2.2.2.2.2.2.1, PL.2.1, sh, if_neg (by omega), e78, e79]
    intro h3 e3
    have g3 : h3.tag 59 = 12 := by rw [e3, xt_wi]; exact g
    refine ⟨g3, fun h4 e4 => ?_⟩
    have g4 : h4.tag 59 = 12 := by rw [e4, xt_wi]; exact g3
    have F3 : Fr jrL jrS hb h3 := by rw [e3]; exact Fr_slot (Fr_mono F (by decide) (by decide)) _ (by decide)
    have F4 : Fr jrL jrS hb h4 := by rw [e4]; exact Fr_slot F3 _ (by decide)
    have q78 : h4.i 59 78 = b.1 := by rw [e4, xi_wi, if_neg (fun z => absurd z.2 (by decide)), e3, xi_wi, if_pos ⟨rfl, rfl⟩]
    refine ⟨g4, ?_⟩
    rw [q78]
    refine H h4 F4 q78 (by rw [e4, xi_wi, if_pos ⟨rfl, rfl⟩]) ⟨?_, fun j hj => ?_⟩
    · rw [e4, xi_wi, if_neg (fun z => absurd z.2 (by decide)), e3, xi_wi, if_neg (fun z => absurd z.2 (by decide))]; exact Bs.2.1
    · rw [e4, xi_wi, if_neg (fun z => absurd z.1 (by decide)), e3, xi_wi, if_neg (fun z => absurd z.1 (by decide))]; exact Bs.2.2 j hj
  | succ n ih =>
    intro s h l2 u3 u5 u6 u7 hs F B0 B
    have C := RCx_fr Cb (Fr_mono F (by decide) (by decide))
    have g : h.tag 59 = 12 := (srt C.1).1
    have s5 : s < 100000 := by omega
    apply L_R_judge_66
    refine ⟨g, ?_⟩
    rw [C.2.2.2.2.2.2.2.1, PL.2.1, sh, if_pos (by omega)]
    by_cases c : sbM s m
    · rw [if_pos ((xand_part (by omega) m12).mpr c)]
      refine c_R_jlay (d := d) I P0 PL (o := s) (by omega) C (fun k f hk hf => by rw [Fr_row F (by decide) (by decide)]; exact CC k f hk hf) (fun h1 F1 r1 => ?_)
      have F1' : Fr jqL jqS h h1 := Fr_mono F1 (by decide) (fun c mm => absurd mm List.not_mem_nil)
      have C1 := RCx_fr C (Fr_mono F1 (by decide) (fun c mm => absurd mm List.not_mem_nil))
      have g1 : h1.tag 59 = 12 := (srt C1.1).1
      have bd := trJ_bd (D := jD h0 t W) cb (P := P) (s := s) P12
      have eK : 1000000 * jFa (jD h0 t W) s.testBit P + jPr (jD h0 t W) s.testBit P = kyT (trJ (jD h0 t W) P s) := rfl
      have lo : (jOn (jD h0 t W) s.testBit P).length = P := (layJ_bd (D := jD h0 t W) (out := s.testBit) cb P).2.2.2.2.2.1
      rw [eK]
      -- better
      have yes : bsT (jD h0 t W) P m (s + 1) = trJ (jD h0 t W) P s → ∀ h2 : xH, h2 = h1.wi 59 80 (s : Int) → xT (d + 5) M_R_judge 95 [(1, 59), (0, (m : Int)), (3, kyT (trJ (jD h0 t W) P s)), (9, 0), (0, (s : Int)), (3, kyT (trJ (jD h0 t W) P s)), (9, 0), (0, 0)] [] h2 (xqi Q) := fun e h2 e2 => by
        have F2 : Fr jqL jqS h1 h2 := by rw [e2]; exact Fr_slot (Fr_refl _ _ _) _ (by decide)
        have C2 := RCx_fr C1 (Fr_mono F2 (by decide) (by decide))
        have key := c_R_j95 (d := d + 4) (Q := Q) (hb := h2) (on := jOn (jD h0 t W) s.testBit P) (l1 := (m : Int)) (l2 := kyT (trJ (jD h0 t W) P s)) (l4 := (s : Int)) (u3 := (9, 0)) (u5 := (3, kyT (trJ (jD h0 t W) P s))) C2 PL lo (fun j hj => by rw [e2, xi_wi, if_neg (fun z => absurd z.1 (by decide))]; exact r1 j hj) (fun h3 u6 u7 F3 r3 => by
          rw [jnx s5]
          refine ih (s + 1) h3 _ _ _ _ _ (by omega) (Fr_trans F (Fr_trans F1' (Fr_trans F2 (Fr_mono F3 (by decide) (fun c mm => absurd mm List.not_mem_nil))))) (fun z => absurd z (by omega)) (fun _ => ?_)
          rw [e]
          refine ⟨rfl, ?_, fun j hj => r3 j hj⟩
          rw [F3.2 59 80 (by decide) (fun mm => absurd mm List.not_mem_nil), e2, xi_wi, if_pos ⟨rfl, rfl⟩]
          rfl) 12 0 h2 (9, 0) (by omega) (Fr_refl _ _ _) (fun k hk => absurd hk (Nat.not_lt_zero _))
        exact key
      by_cases c0 : s = 0
      · have l2e := B0 c0
        have ky : kyT (trJ (jD h0 t W) P s) < l2 := by rw [l2e]; unfold kyT; omega
        rw [if_pos (xlcmp_lt.mpr ky)]
        exact ⟨g1, yes (by rw [c0]; exact bsT_1 _ _ _)⟩
      · have Bs := B (by omega)
        have bb := bsT_bd (D := jD h0 t W) cb (P := P) (m := m) (s := s) P12
        have tb : kyT (trJ (jD h0 t W) P s) < l2 ↔ trB (trJ (jD h0 t W) P s) (bsT (jD h0 t W) P m s) = true := by
          rw [trB_iff, Bs.1]
          unfold kyT
          omega
        by_cases c1 : kyT (trJ (jD h0 t W) P s) < l2
        · rw [if_pos (xlcmp_lt.mpr c1)]
          exact ⟨g1, yes (bsT_y c (tb.mp c1))⟩
        · rw [if_neg (fun z => c1 (xlcmp_lt.mp z))]
          intro x1 ex
          rw [ex, jnx s5]
          refine ih (s + 1) h1 l2 _ _ _ _ (by omega) (Fr_trans F F1') (fun z => absurd z (by omega)) (fun _ => ?_)
          rw [bsT_n (fun z => c1 (tb.mpr z.2))]
          refine ⟨Bs.1, ?_, fun j hj => ?_⟩
          · rw [F1.2 59 80 (by decide) (fun mm => absurd mm List.not_mem_nil)]; exact Bs.2.1
          · rw [F1.2 124 _ (by decide) (fun mm => absurd mm List.not_mem_nil)]; exact Bs.2.2 j hj
    · rw [if_neg (fun z => c ((xand_part (by omega) m12).mp z))]
      intro x2 ex
      rw [ex, jnx s5]
      have s0 : 0 < s := by
        rcases Nat.eq_zero_or_pos s with z | z
        · rw [z] at c; exact absurd (Nat.zero_and m) c
        · exact z
      refine ih (s + 1) h l2 _ _ _ _ (by omega) F (fun z => absurd z (by omega)) (fun _ => ?_)
      rw [bsT_n (fun z => c z.1)]
      exact B s0
end JX
