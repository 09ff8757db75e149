/-! the class' walker: the steps that may come next -/
theorem orI {a b : Int} (k : Nat) (a0 : 0 ≤ a) (a1 : a < 2147483648) (b0 : 0 ≤ b) (hb : b < ((2 ^ k : Nat) : Int)) (hd : a % ((2 ^ k : Nat) : Int) = 0) (b1 : b < 2147483648) : xor_ a b = a + b := by
  rw [xor_nn a0 b0 a1 b1]
  obtain ⟨x, rfl⟩ : ∃ x : Nat, a = x := ⟨a.toNat, by omega⟩
  obtain ⟨y, rfl⟩ : ∃ y : Nat, b = y := ⟨b.toNat, by omega⟩
  rw [Int.toNat_natCast, Int.toNat_natCast]
  have hb' : y < 2 ^ k := by omega
  have hd' : x % 2 ^ k = 0 := by omega
  have e : x = 2 ^ k * (x / 2 ^ k) := by have := Nat.div_add_mod x (2 ^ k); omega
  have z := Nat.two_pow_add_eq_or_of_lt hb' (x / 2 ^ k)
  rw [← e] at z
  rw [← z]; push_cast; rfl
theorem orW {A P V : Int} (A0 : 0 ≤ A) (A1 : A < 1000000000) (hA : A % 65536 = 0) (P0 : 0 ≤ P) (P1 : P < 4096) (V0 : 0 ≤ V) (V1 : V < 65536) (hV : V % 4096 = 0) : xor_ (A + P) V = A + V + P := by
  have e1 : xor_ A P = A + P := orI 12 A0 (by omega) P0 (by show P < 4096; exact P1) (by show A % 4096 = 0; omega) (by omega)
  have e2 : xor_ A V = A + V := orI 16 A0 (by omega) V0 (by show V < 65536; exact V1) (by show A % 65536 = 0; exact hA) (by omega)
  have e3 : xor_ (A + V) P = A + V + P := orI 12 (by omega) (by omega) P0 (by show P < 4096; exact P1) (by show (A + V) % 4096 = 0; omega) (by omega)
  rw [xor_nn (by omega) (by omega) (by omega) (by omega)] at e1 e2 e3 ⊢
  have f1 : (A + P).toNat = A.toNat ||| P.toNat := by omega
  have f2 : (A + V).toNat = A.toNat ||| V.toNat := by omega
  rw [f2] at e3
  rw [f1, Nat.or_assoc, Nat.or_comm P.toNat, ← Nat.or_assoc]
  exact e3
def xstS (s : Stt) : Int := if s.2.1 = -2 then 1537 else if s.2.1 = -1 then 1536 else (s.2.1 * 12 + s.2.2.1) * 16 + s.2.2.2
def pk (i : Int) (k : Key) : Int := if 4 ≤ k.1 then i * 65536 + k.1 * 4096 else i * 65536 + k.1 * 4096 + k.2.1 * 256 + k.2.2.1 * 16 + k.2.2.2.1 * 4 + k.2.2.2.2
def WkA (h : xH) (p f : Int) (E : SEn) (b : Bool) (s : Stt) : Prop := ScC h p f E b ∧ TbOk h E b (fun _ _ => True) ∧ h.r 35 2 = p ∧ h.i 35 3 = f ∧ h.i 35 4 = s.1 ∧ h.i 35 5 = xstS s
def MvP (h : xH) (A : List Op_) (i : Int) : Prop := h.i 35 10 = (A.length : Nat) ∧ A.length ≤ 64 ∧ ∀ j : Nat, j < A.length → h.i 36 j = pk i (A.getD j op0).1 ∧ h.i 37 j = xstS (A.getD j op0).2.2 ∧ h.i 38 j = (A.getD j op0).2.2.1 - i ∧ h.i 39 j = (A.getD j op0).2.1
def mvL : List Int := [36, 37, 38, 39]
def mvS : List (Int × Int) := [(35, 10)]
section WK
variable {p f : Int} {E : SEn} {b : Bool} {d : Nat} {s : Stt}
theorem TbOk_fr {h h' : xH} {c : List Int} {c2 : List (Int × Int)} {P : Nat → Nat → Prop} (F : Fr c c2 h h') (ht : I_tab h) (k1 : ∀ x ∈ c, 35 ≤ x ∧ x ≤ 47) (k2 : ∀ q ∈ c2, 35 ≤ q.1 ∧ q.1 ≤ 47) (T : TbOk h E b P) : TbOk h' E b P := by
  unfold I_tab at ht
  have eT : h'.r 28 6 = h.r 28 6 := by rw [(fr_same F).1]
  intro q g a0 a1 a2 a3 c' i' x0 x1 x2 x3
  rw [eT, Fr_row F (c := h.r 28 6) (fun m => by have := k1 _ m; omega) (fun q m e => by have := k2 q m; omega)]
  exact T q g a0 a1 a2 a3 c' i' x0 x1 x2 x3
theorem WkA_fr {h h' : xH} {c : List Int} {c2 : List (Int × Int)} (F : Fr c c2 h h') (k : (c.all (fun x => decide (36 ≤ x ∧ x ≤ 47)) && c2.all (fun q => decide (q.1 = 35 ∧ 5 < q.2))) = true) (W : WkA h p f E b s) : WkA h' p f E b s := by
  rw [Bool.and_eq_true, List.all_eq_true, List.all_eq_true] at k
  have k1 : ∀ x ∈ c, 36 ≤ x ∧ x ≤ 47 := fun x m => of_decide_eq_true (k.1 x m)
  have k2 : ∀ q ∈ c2, q.1 = 35 ∧ 5 < q.2 := fun q m => of_decide_eq_true (k.2 q m)
  obtain ⟨a1, a2, a3, a4, a5, a6⟩ := W
  have s35 : ∀ j, j ≤ 5 → h'.i 35 j = h.i 35 j := fun j hj => F.2 35 j (fun m => by have := k1 _ m; omega) (fun m => by have := k2 _ m; simp only at this; omega)
  refine ⟨ScC_fr F (fun x m => by have := k1 x m; omega) (fun q m => by have := k2 q m; omega) a1, TbOk_fr F a1.1.2.2.1 (fun x m => by have := k1 x m; omega) (fun q m => by have := k2 q m; omega) a2, by rw [(fr_same F).1]; exact a3, by rw [s35 3 (by decide)]; exact a4, by rw [s35 4 (by decide)]; exact a5, by rw [s35 5 (by decide)]; exact a6⟩
theorem WkA_m {h h' : xH} (F : Fr mvL mvS h h') (W : WkA h p f E b s) : WkA h' p f E b s := WkA_fr F (by decide) W
theorem c_X_addMove {h : xH} {Q : xH → Prop} {A : List Op_} {o : Op_} {i st nx sp pr : Int} (SX_ : SX h) (M : MvP h A i) (ln : A.length < 64) (e1 : st = pk i o.1) (e2 : nx = xstS o.2.2) (e3 : sp = o.2.2.1 - i) (e4 : pr = o.2.1) (H : ∀ h', Fr mvL mvS h h' → MvP h' (A ++ [o]) i → Q h') : xCv (d + 1) M_Walker_addMove [(1, 35), (0, st), (0, nx), (0, sp), (0, pr)] h Q := by
  obtain ⟨m1, m2, m3⟩ := M
  apply L_Walker_addMove
  simp only [sxt SX_, sxl SX_, sxf SX_, m1, true_and, and_true, false_and, and_false, forall_eq, forall_eq', xi_wi, xr_wi, xt_wi, xl_wi, xn_wi, xs_wi, xi_wr, xr_wr, xt_wr, xl_wr, xn_wr, xs_wr, if_true, if_false, and_self, Int.reduceEq, Int.reduceLT, Int.reduceLE, Int.reduceNeg, Int.le_refl, Int.reduceMod]
  have bd : (0 : Int) ≤ ((A.length : Nat) : Int) ∧ ((A.length : Nat) : Int) < 64 := by omega
  rw [if_pos bd.2, xw_id (a := ((A.length : Nat) : Int) + 1) (by omega) (by omega)]
  refine ⟨bd, bd, bd, bd, ?_⟩
  refine H _ (Fr_slot (Fr_cell (Fr_cell (Fr_cell (Fr_cell (Fr_refl _ _ _) _ _ (by decide)) _ _ (by decide)) _ _ (by decide)) _ _ (by decide)) _ (by decide)) ⟨?_, ?_, fun j hj => ?_⟩
  · simp only [true_and, and_true, false_and, and_false, forall_eq, forall_eq', xi_wi, xr_wi, xt_wi, xl_wi, xn_wi, xs_wi, xi_wr, xr_wr, xt_wr, xl_wr, xn_wr, xs_wr, if_true, if_false, and_self, Int.reduceEq, Int.reduceLT, Int.reduceLE, Int.reduceNeg, Int.le_refl, Int.reduceMod]
    rw [List.length_append]; push_cast; rfl
  · rw [List.length_append]; show A.length + 1 ≤ 64; omega
  · rw [List.length_append] at hj
    have hj' : j < A.length + 1 := hj
    simp only [true_and, and_true, false_and, and_false, forall_eq, forall_eq', xi_wi, xr_wi, xt_wi, xl_wi, xn_wi, xs_wi, xi_wr, xr_wr, xt_wr, xl_wr, xn_wr, xs_wr, if_true, if_false, and_self, Int.reduceEq, Int.reduceLT, Int.reduceLE, Int.reduceNeg, Int.le_refl, Int.reduceMod]
    by_cases c : j = A.length
    · subst c
      simp only [if_true]
      rw [getD_app_r op0 (Nat.le_refl _), Nat.sub_self]
      exact ⟨e1, e2, e3, e4⟩
    · have ne : ¬ ((j : Int) = ((A.length : Nat) : Int)) := by omega
      simp only [ne, if_false]
      rw [getD_app_l op0 (by omega)]
      exact m3 j (by omega)
theorem c_X_wOver {h : xH} {Q : Int → xH → Prop} (W : WkA h p f E b s) (H : Q (if s.1 < E 0 0 then 0 else 1) h) : xCi (d + 1) M_Walker_isOver [(1, 35)] h Q := by
  have SX_ := W.1.1.1
  have L := W.1.1.2.2.2.2.1
  unfold XLe at L
  have tp := L.1
  have pn : ¬ p = 0 := by have := L.2.2.2.2.2.2.2.2.1.1; omega
  apply L_Walker_isOver
  simp only [sxt SX_, sxl SX_, sxf SX_, W.2.2.1, tp, W.2.2.2.2.1, true_and, and_true, false_and, and_false, forall_eq, forall_eq', xi_wi, xr_wi, xt_wi, xl_wi, xn_wi, xs_wi, xi_wr, xr_wr, xt_wr, xl_wr, xn_wr, xs_wr, if_true, if_false, and_self, Int.reduceEq, Int.reduceLT, Int.reduceLE, Int.reduceNeg, Int.le_refl, Int.reduceMod]
  rw [if_neg pn, L.2.1]
  by_cases c : s.1 < E 0 0
  · rw [if_pos c]; rw [if_pos c] at H; exact H
  · rw [if_neg c]; rw [if_neg c] at H; exact H
/-- the packed steps of a choice -/
theorem pk_own {i q g c w m : Int} (i0 : 0 ≤ i) (i1 : i ≤ 40) (q0 : 0 ≤ q) (q1 : q < 8) (g0 : 0 ≤ g) (g1 : g < 12) (c0 : 0 ≤ c) (c1 : c < 16) (w0 : 0 ≤ w) (w1 : w ≤ 3) (m0 : 1 ≤ m) (m1 : m ≤ 3) : xor_ (xor_ (xor_ (xor_ (xor_ (xor_ (xshl i 16) (xshl 0 12)) (xshl q 8)) (xshl g 4)) (xshl (xdiv c 4) 2)) (xshl w 12)) m = pk i (w, q, g, c / 4, m) := by
  rw [xdiv_eq (by omega) (by omega) (by decide) (by decide)]
  rw [xshl_eq (a := i) (k := 16) (by omega) (by decide) (by decide) (by show i * 65536 < _; omega), xshl_eq (a := 0) (k := 12) (by decide) (by decide) (by decide) (by decide), xshl_eq (a := q) (k := 8) (by omega) (by decide) (by decide) (by show q * 256 < _; omega), xshl_eq (a := g) (k := 4) (by omega) (by decide) (by decide) (by show g * 16 < _; omega), xshl_eq (a := c / 4) (k := 2) (by omega) (by decide) (by decide) (by show c / 4 * 4 < _; omega), xshl_eq (a := w) (k := 12) (by omega) (by decide) (by decide) (by show w * 4096 < _; omega)]
  show xor_ (xor_ (xor_ (xor_ (xor_ (xor_ (i * 65536) (0 * 4096)) (q * 256)) (g * 16)) (c / 4 * 4)) (w * 4096)) m = _
  rw [orI (a := i * 65536) (b := 0 * 4096) 12 (by omega) (by omega) (by decide) (by decide) (by show i * 65536 % 4096 = 0; omega) (by decide)]
  rw [orI (a := i * 65536 + 0 * 4096) (b := q * 256) 16 (by omega) (by omega) (by omega) (by show q * 256 < 65536; omega) (by show (i * 65536 + 0 * 4096) % 65536 = 0; omega) (by omega)]
  rw [orI (a := i * 65536 + 0 * 4096 + q * 256) (b := g * 16) 8 (by omega) (by omega) (by omega) (by show g * 16 < 256; omega) (by show (i * 65536 + 0 * 4096 + q * 256) % 256 = 0; omega) (by omega)]
  rw [orI (a := i * 65536 + 0 * 4096 + q * 256 + g * 16) (b := c / 4 * 4) 4 (by omega) (by omega) (by omega) (by show c / 4 * 4 < 16; omega) (by show (i * 65536 + 0 * 4096 + q * 256 + g * 16) % 16 = 0; omega) (by omega)]
  rw [show i * 65536 + 0 * 4096 + q * 256 + g * 16 + c / 4 * 4 = i * 65536 + (q * 256 + g * 16 + c / 4 * 4) by omega]
  rw [orW (A := i * 65536) (P := q * 256 + g * 16 + c / 4 * 4) (V := w * 4096) (by omega) (by omega) (by omega) (by omega) (by omega) (by omega) (by omega) (by omega)]
  rw [orI (a := i * 65536 + w * 4096 + (q * 256 + g * 16 + c / 4 * 4)) (b := m) 2 (by omega) (by omega) (by omega) (by show m < 4; omega) (by show (i * 65536 + w * 4096 + (q * 256 + g * 16 + c / 4 * 4)) % 4 = 0; omega) (by omega)]
  unfold pk
  rw [if_neg (by show ¬ 4 ≤ w; omega)]
  show _ = i * 65536 + w * 4096 + q * 256 + g * 16 + c / 4 * 4 + m
  omega
theorem pk_far {i w : Int} (i0 : 0 ≤ i) (i1 : i ≤ 40) (w0 : 4 ≤ w) (w1 : w ≤ 5) (k : Int × Int × Int × Int) : xor_ (xshl i 16) (xshl w 12) = pk i (w, k) := by
  rw [xshl_eq (a := i) (k := 16) (by omega) (by decide) (by decide) (by show i * 65536 < _; omega), xshl_eq (a := w) (k := 12) (by omega) (by decide) (by decide) (by show w * 4096 < _; omega)]
  show xor_ (i * 65536) (w * 4096) = _
  rw [orI (a := i * 65536) (b := w * 4096) 16 (by omega) (by omega) (by omega) (by show w * 4096 < 65536; omega) (by show i * 65536 % 65536 = 0; omega) (by omega)]
  unfold pk
  rw [if_pos w0]
theorem scWay_bd {w i : Int} (w0 : 1 ≤ w) (w1 : w ≤ 3) : (0 ≤ scWay E w i ∧ scWay E w i ≤ 2) ∧ 1 ≤ scAs E w i ∧ scAs E w i ≤ 2 ∨ w = 3 ∧ False := by
  left
  have a : 1 ≤ scAs E w i ∧ scAs E w i ≤ 2 ∨ w = 3 := by
    unfold scAs
    by_cases c : w = 3
    · exact Or.inr c
    · rw [if_neg c]; left; omega
  have b : 1 ≤ scAs E w i ∧ scAs E w i ≤ 2 := by
    rcases a with a | a
    · exact a
    · unfold scAs
      rw [if_pos a]
      by_cases c : E 1 i = 2
      · rw [if_pos c]; decide
      · rw [if_neg c]; decide
  refine ⟨?_, b⟩
  unfold scWay
  by_cases c : E 1 i = 3 ∨ E 1 i = scAs E w i
  · rw [if_pos c]; decide
  · rw [if_neg c]
    by_cases c2 : scAs E w i = 1
    · rw [if_pos c2]; decide
    · rw [if_neg c2]; decide
theorem c_X_ownWay {h : xH} {Q : Int → xH → Prop} {w i : Int} (H : Q (scWay E w i) h) : xCi (d + 1) M_Walker_ownWay [(0, E 1 i), (0, scAs E w i)] h Q := by
  apply L_Walker_ownWay
  unfold scWay at H
  by_cases c : E 1 i = 3
  · rw [if_pos c]; rw [if_pos (Or.inl c)] at H; exact H
  · rw [if_neg c]
    by_cases c2 : E 1 i = scAs E w i
    · rw [if_pos c2]; rw [if_pos (Or.inr c2)] at H; exact H
    · rw [if_neg c2]
      rw [if_neg (fun z => z.elim c c2)] at H
      by_cases c3 : scAs E w i = 1
      · rw [if_pos c3]; rw [if_pos c3] at H; exact H
      · rw [if_neg c3]; rw [if_neg c3] at H; exact H
theorem c_lc_16 {Q : xH → Prop} {ft q g c : Int} {A : List Op_} (F : FOk (E 8 g) (E 9 g) (E 10 g) (E 11 g) (fun k => E 12 (4 * g + k))) (q0 : 0 ≤ q) (q1 : q < E 5 0) (g0 : 0 ≤ g) (g1 : g < 12) (c0 : 0 ≤ c) (c1 : c ≤ 16) (s0 : 0 ≤ s.1) (s1 : s.1 < E 0 0) (ln : A.length + 4 ≤ 64) : ∀ (n j : Nat) (h : xH) (u7 u8 u9 u10 u11 u12 u13 : xV), j + n = 2 → WkA h p f E b s → FTab h ft (E 8 g) (E 9 g) (E 10 g) (E 11 g) (fun k => E 12 (4 * g + k)) → MvP h (A ++ ((scCh E g c).take j).flatMap (scC1 E s.1 q g)) s.1 → (∀ h', Fr mvL mvS h h' → MvP h' (A ++ scCs E s.1 q g c) s.1 → Q h') → xT (d + 2) M_Walker_listChoices 16 [(1, 35), (1, ft), (0, c), (0, q), (0, g), (0, E 1 s.1), (0, (j : Int)), u7, u8, u9, u10, u11, u12, u13] [] h (xqv Q) := by
  have len := ch_len (E := E) (g := g) (c := c)
  intro n
  induction n with
  | zero =>
    intro j h u7 u8 u9 u10 u11 u12 u13 hj W B M H
    apply L_Walker_listChoices_16
    rw [if_neg (by omega)]
    rw [List.take_of_length_le (by omega)] at M
    exact H h (Fr_refl _ _ _) M
  | succ n ih =>
    intro j h u7 u8 u9 u10 u11 u12 u13 hj W B M H
    have SX_ := W.1.1.1
    have ok := W.1.1.2.2.2.1
    have n40 := ok.2.1
    have p8 := ok.2.2.2.2.1
    have tft := B.2.2.1
    have t35 : h.tag 35 = 10 := (sxt SX_).2.2.2.2.2.2.2.2.2.2.2.2.2.2.2.2.2.2.2.2.2.2.2.2.2.2.2.2.2.2.2.2.2.1
    apply L_Walker_listChoices_16
    rw [if_pos (by omega)]
    refine ⟨tft, ?_⟩
    refine c_X_need B c0 c1 (by omega) ?_
    refine ⟨tft, ?_⟩
    refine c_X_next B c0 c1 (by omega) ?_
    intro x1 e1
    refine ⟨t35, ?_⟩
    apply L_Walker_stepOf
    refine ⟨t35, ?_⟩
    intro x2 e2
    rw [W.2.2.2.2.1] at e2
    have er : fch (E 8 g) (E 9 g) (E 10 g) (E 11 g) (fun k => E 12 (4 * g + k)) c = scCh E g c := rfl
    rw [er] at e1 e2 ⊢
    simp only [sxt SX_, sxl SX_, sxf SX_, W.2.2.2.2.1, true_and, and_true, false_and, and_false, forall_eq, forall_eq', xi_wi, xr_wi, xt_wi, xl_wi, xn_wi, xs_wi, xi_wr, xr_wr, xt_wr, xl_wr, xn_wr, xs_wr, if_true, if_false, and_self, Int.reduceEq, Int.reduceLT, Int.reduceLE, Int.reduceNeg, Int.le_refl, Int.reduceMod]
    -- to the next choice
    have nxt : ∀ (h1 : xH) (w1 w2 x1 x2 : Int) (u11 u12 u13 : xV), Fr mvL mvS h h1 → MvP h1 (A ++ ((scCh E g c).take (j + 1)).flatMap (scC1 E s.1 q g)) s.1 → ∀ x : Int, x = xw ((j : Int) + 1) → xT (d + 2) M_Walker_listChoices 16 [(1, 35), (1, ft), (0, c), (0, q), (0, g), (0, E 1 s.1), (0, x), (0, w1), (0, w2), (0, x1), (0, x2), u11, u12, u13] [] h1 (xqv Q) := by
      intro h1 w1 w2 x1 x2 u11 u12 u13 F1 M1 x hx
      rw [xw_id (by omega) (by omega)] at hx
      rw [hx, show ((j : Int) + 1) = ((j + 1 : Nat) : Int) by push_cast; rfl]
      exact ih (j + 1) h1 _ _ _ _ _ _ _ (by omega) (WkA_m F1 W) (FTab_fr F1 (sok_low (by decide)) B) M1 (fun h2 F2 M2 => H h2 (Fr_trans F1 F2) M2)
    by_cases hl : j < (scCh E g c).length
    · have mem : (scCh E g c).getD j (-1, 0) ∈ scCh E g c := getD_mem _ hl
      have ko := ch_ok F (ch_some F c0 mem) mem
      have kl := cOk_lt F ko.1
      have eL : ((scCh E g c).take (j + 1)).flatMap (scC1 E s.1 q g) = ((scCh E g c).take j).flatMap (scC1 E s.1 q g) ++ scC1 E s.1 q g ((scCh E g c).getD j (-1, 0)) := by
        rw [take_s2 (w0 := (-1, 0)) hl, List.flatMap_append, List.flatMap_cons, List.flatMap_nil, List.append_nil]
      rw [eL] at nxt
      have lnA : (A ++ ((scCh E g c).take j).flatMap (scC1 E s.1 q g)).length + 2 ≤ 64 := by
        have := flat_len (E := E) (i := s.1) (q := q) (g := g) ((scCh E g c).take j)
        rw [List.length_take] at this
        rw [List.length_append]; omega
      generalize ((scCh E g c).take j).flatMap (scC1 E s.1 q g) = T at *
      generalize (scCh E g c).getD j (-1, 0) = w at *
      have m4 := F.2.2.2.1
      have kc := ko.1
      unfold cOk at kc
      have c16 : w.2 < 16 := by omega
      have e1' : x1 = xstS (s.1 + 1, q, g, w.2) := by
        rw [e1, xw_id (a := q * 12) (by omega) (by omega), xw_id (a := q * 12 + g) (by omega) (by omega), xw_id (a := (q * 12 + g) * 16) (by omega) (by omega), xw_id (by omega) (by omega)]
        unfold xstS
        rw [if_neg (by show ¬ q = -2; omega), if_neg (by show ¬ q = -1; omega)]
      refine c_X_own W.1 (by omega) ko.2.2 s0 (by omega) ?_
      have wb := (scWay_bd (E := E) (i := s.1) ko.2.1 ko.2.2).resolve_right (fun z => z.2)
      -- melting
      have melt : ∀ (h1 : xH) (X : List Op_) (u11 u12 u13 : xV), Fr mvL mvS h h1 → MvP h1 (A ++ (T ++ X)) s.1 → X = (if 0 ≤ scOwn E w.1 s.1 then [((scWay E w.1 s.1, q, g, w.2 / 4, scAs E w.1 s.1), scOwn E w.1 s.1, (s.1 + 1, q, g, w.2))] else []) → xT (d + 2) M_Walker_listChoices 94 [(1, 35), (1, ft), (0, c), (0, q), (0, g), (0, E 1 s.1), (0, (j : Int)), (0, w.1), (0, w.2), (0, x1), (0, x2), u11, u12, u13] [] h1 (xqv Q) := by
        intro h1 X u11 u12 u13 F1 M1 hX
        have W1 := WkA_m F1 W
        have SX_ := W1.1.1.1
        have P := (W1.1.2.2.2.2.2.2.1 s.1 s0 (by omega)).2.2.2.1
        have lX : X.length ≤ 1 := by
          rw [hX]
          by_cases z : 0 ≤ scOwn E w.1 s.1
          · rw [if_pos z]; exact Nat.le_refl _
          · rw [if_neg z]; exact Nat.zero_le _
        have ec : scC1 E s.1 q g w = X ++ (if (w.1 = 1 ∨ w.1 = 3) ∧ 0 ≤ scMl E s.1 then [((3, q, g, w.2 / 4, 1), scMl E s.1, (s.1 + 2, q, g, w.2))] else []) := by rw [hX]; rfl
        have no : ¬ ((w.1 = 1 ∨ w.1 = 3) ∧ 0 ≤ scMl E s.1) → ∀ x : Int, x = xw ((j : Int) + 1) → ∀ u11 u12 u13 : xV, xT (d + 2) M_Walker_listChoices 16 [(1, 35), (1, ft), (0, c), (0, q), (0, g), (0, E 1 s.1), (0, x), (0, w.1), (0, w.2), (0, x1), (0, x2), u11, u12, u13] [] h1 (xqv Q) := fun z x hx u11 u12 u13 => by
          rw [if_neg z, List.append_nil] at ec
          exact nxt h1 _ _ _ _ _ _ _ F1 (by rw [ec]; exact M1) x hx
        have mp : ∀ (Q' : Int → xH → Prop), Q' (scMl E s.1) h1 → xCi (d + 2) M_Scanner_meltPrice [(1, 28), (0, s.1)] h1 Q' := fun Q' hq => by
          apply L_Scanner_meltPrice
          simp only [sxt SX_, sxl SX_, sxf SX_, P, true_and, and_true, false_and, and_false, forall_eq, forall_eq', xi_wi, xr_wi, xt_wi, xl_wi, xn_wi, xs_wi, xi_wr, xr_wr, xt_wr, xl_wr, xn_wr, xs_wr, if_true, if_false, and_self, Int.reduceEq, Int.reduceLT, Int.reduceLE, Int.reduceNeg, Int.le_refl, Int.reduceMod]
          rw [if_neg (by omega), if_pos (by omega)]
          exact ⟨⟨s0, by omega⟩, hq⟩
        have yes : (w.1 = 1 ∨ w.1 = 3) → xCi (d + 2) M_Scanner_meltPrice [(1, 28), (0, s.1)] h1 (fun r1 h1 => if r1 < 0 then xT (d + 2) M_Walker_listChoices 16 [(1, 35), (1, ft), (0, c), (0, q), (0, g), (0, E 1 s.1), (0, xw ((j : Int) + 1)), (0, w.1), (0, w.2), (0, x1), (0, x2), u11, u12, u13] [] h1 (xqv Q) else h1.tag 35 = 10 ∧ h1.tag (h1.r 35 1) = 8 ∧ xCi (d + 2) M_Scanner_meltPrice [(1, h1.r 35 1), (0, h1.i 35 4)] h1 (fun r2 h2 => h2.tag 35 = 10 ∧ xCv (d + 2) M_Walker_addMove [(1, 35), (0, xor_ (xor_ x2 12288) 1), (0, x1), (0, 2), (0, r2)] h2 (fun h3 => xT (d + 2) M_Walker_listChoices 16 [(1, 35), (1, ft), (0, c), (0, q), (0, g), (0, E 1 s.1), (0, xw ((j : Int) + 1)), (0, w.1), (0, w.2), (0, x1), (0, x2), u11, u12, u13] [] h3 (xqv Q)))) := by
          intro hw
          refine mp _ ?_
          by_cases z : scMl E s.1 < 0
          · rw [if_pos z]; exact no (by omega) _ rfl _ _ _
          · rw [if_neg z]
            simp only [sxt SX_, sxl SX_, sxf SX_, W1.2.2.2.2.1, true_and, and_true, false_and, and_false, forall_eq, forall_eq', xi_wi, xr_wi, xt_wi, xl_wi, xn_wi, xs_wi, xi_wr, xr_wr, xt_wr, xl_wr, xn_wr, xs_wr, if_true, if_false, and_self, Int.reduceEq, Int.reduceLT, Int.reduceLE, Int.reduceNeg, Int.le_refl, Int.reduceMod]
            refine mp _ ?_
            simp only [sxt SX_, sxl SX_, sxf SX_, true_and, and_true, false_and, and_false, forall_eq, forall_eq', xi_wi, xr_wi, xt_wi, xl_wi, xn_wi, xs_wi, xi_wr, xr_wr, xt_wr, xl_wr, xn_wr, xs_wr, if_true, if_false, and_self, Int.reduceEq, Int.reduceLT, Int.reduceLE, Int.reduceNeg, Int.le_refl, Int.reduceMod]
            have pm := pk_own (i := s.1) (q := q) (g := g) (c := w.2) (w := 3) (m := 1) s0 (by omega) q0 (by omega) g0 g1 kl.1 c16 (by decide) (by decide) (by decide) (by decide)
            rw [if_pos ⟨hw, by omega⟩] at ec
            refine c_X_addMove (o := ((3, q, g, w.2 / 4, 1), scMl E s.1, (s.1 + 2, q, g, w.2))) SX_ M1 (by rw [List.length_append] at lnA ⊢; rw [List.length_append]; omega) (by rw [← pm, e2]; rfl) (by rw [e1']; rfl) (by show (2 : Int) = s.1 + 2 - s.1; omega) rfl (fun h3 F3 M3 => ?_)
            refine nxt h3 _ _ _ _ _ _ _ (Fr_trans F1 F3) ?_ _ rfl
            rw [ec, ← List.append_assoc T, ← List.append_assoc A]
            exact M3
        apply L_Walker_listChoices_94
        simp only [sxt SX_, sxl SX_, sxf SX_, W1.2.2.2.2.1, true_and, and_true, false_and, and_false, forall_eq, forall_eq', xi_wi, xr_wi, xt_wi, xl_wi, xn_wi, xs_wi, xi_wr, xr_wr, xt_wr, xl_wr, xn_wr, xs_wr, if_true, if_false, and_self, Int.reduceEq, Int.reduceLT, Int.reduceLE, Int.reduceNeg, Int.le_refl, Int.reduceMod]
        by_cases w1 : w.1 = 1
        · rw [if_pos w1]
          exact yes (Or.inl w1)
        · rw [if_neg w1]
          by_cases w3 : w.1 = 3
          · rw [if_pos w3]
            exact yes (Or.inr w3)
          · rw [if_neg w3]
            exact no (by omega) _ rfl _ _ _
      by_cases z : scOwn E w.1 s.1 < 0
      · rw [if_pos z]
        exact melt h [] _ _ _ (Fr_refl _ _ _) (by rw [List.append_nil]; exact M) (by rw [if_neg (by omega)])
      · rw [if_neg z]
        have go72 : ∀ e : Int, e = (if E 1 s.1 = 2 then 2 else 1) → xT (d + 2) M_Walker_listChoices 72 [(1, 35), (1, ft), (0, c), (0, q), (0, g), (0, E 1 s.1), (0, (j : Int)), (0, w.1), (0, w.2), (0, x1), (0, x2), (0, scOwn E w.1 s.1), u12, u13] [(0, e)] h (xqv Q) := by
          intro e he
          have fin : ∀ a : Int, a = scAs E w.1 s.1 → ∀ u13 : xV, xCi (d + 2) M_Walker_ownWay [(0, E 1 s.1), (0, a)] h (fun r1 h1 => h1.tag 35 = 10 ∧ xCv (d + 2) M_Walker_addMove [(1, 35), (0, xor_ (xor_ x2 (xshl r1 12)) a), (0, x1), (0, 1), (0, scOwn E w.1 s.1)] h1 (fun h2 => xT (d + 2) M_Walker_listChoices 94 [(1, 35), (1, ft), (0, c), (0, q), (0, g), (0, E 1 s.1), (0, (j : Int)), (0, w.1), (0, w.2), (0, x1), (0, x2), (0, scOwn E w.1 s.1), (0, e), u13] [] h2 (xqv Q))) := by
            intro a ha u13
            subst ha
            refine c_X_ownWay ?_
            refine ⟨t35, ?_⟩
            have pm := pk_own (i := s.1) (q := q) (g := g) (c := w.2) (w := scWay E w.1 s.1) (m := scAs E w.1 s.1) s0 (by omega) q0 (by omega) g0 g1 kl.1 c16 (by omega) (by omega) (by omega) (by omega)
            refine c_X_addMove (o := ((scWay E w.1 s.1, q, g, w.2 / 4, scAs E w.1 s.1), scOwn E w.1 s.1, (s.1 + 1, q, g, w.2))) SX_ M (by omega) (by rw [← pm, e2]) e1' (by show (1 : Int) = s.1 + 1 - s.1; omega) rfl (fun h2 F2 M2 => ?_)
            exact melt h2 _ _ _ _ F2 (by rw [← List.append_assoc]; exact M2) (by rw [if_pos (by omega)])
          apply L_Walker_listChoices_72
          by_cases w3 : w.1 = 3
          · rw [if_pos w3]
            exact fin e (by unfold scAs; rw [if_pos w3, he]) _
          · rw [if_neg w3]
            exact fin w.1 (by unfold scAs; rw [if_neg w3]) _
        by_cases e : E 1 s.1 = 2
        · rw [if_pos e]; exact go72 2 (by rw [if_pos e])
        · rw [if_neg e]; exact go72 1 (by rw [if_neg e])
    · have eg : (scCh E g c).getD j (-1, 0) = (-1, 0) := getD_ge (by omega)
      have eL : ((scCh E g c).take (j + 1)).flatMap (scC1 E s.1 q g) = ((scCh E g c).take j).flatMap (scC1 E s.1 q g) := by
        rw [List.take_of_length_le (by omega), List.take_of_length_le (by omega)]
      rw [eg]
      refine c_X_own W.1 (by decide) (by decide) s0 (by omega) ?_
      have e : scOwn E (-1) s.1 = -1 := by
        unfold scOwn
        by_cases z : s.1 < 0 ∨ E 0 0 ≤ s.1
        · rw [if_pos z]
        · rw [if_neg z, if_neg (by decide), if_neg (by decide), if_neg (by decide)]
      rw [e, if_pos (by decide)]
      apply L_Walker_listChoices_94
      rw [if_neg (by decide), if_neg (by decide)]
      intro x5 e5
      exact nxt h _ _ _ _ _ _ _ (Fr_refl _ _ _) (by rw [eL]; exact M) _ e5
end WK
