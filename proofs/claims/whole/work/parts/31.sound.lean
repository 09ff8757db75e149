/-! sounds: where they begin, which are vowels -/
def prs (P g : Int → Int) (e a : Int) : Int := if a + 1 < e then P (26 * (g a - 97) + (g (a + 1) - 97)) else 0
def vwl (P V g : Int → Int) (e a : Int) : Int := if prs P g e a = 0 then V (g a - 97) else if prs P g e a = 1 then 1 else 0
def nxt (P g : Int → Int) (e a : Int) : Int := if prs P g e a = 0 then a + 1 else a + 2
def snds (P g : Int → Int) (e : Int) : Nat → Int → List Int
  | 0, _ => []
  | n + 1, a => if a < e then a :: snds P g e n (nxt P g e a) else []
def lets (g : Int → Int) (a e : Int) : Prop := ∀ k, a ≤ k → k < e → 97 ≤ g k ∧ g k ≤ 122
theorem nxt_gt (P g : Int → Int) (e a : Int) : a < nxt P g e a := by unfold nxt; split <;> omega
theorem nxt_le {P g : Int → Int} {e a : Int} (h : a < e) : nxt P g e a ≤ e := by
  unfold nxt prs
  by_cases c : a + 1 < e
  · split <;> omega
  · rw [if_neg c, if_pos rfl]; omega
/-- the reference's list of pairs is the table P -/
def RPair (h : xH) (P : Int → Int) : Prop := 0 ≤ h.i 59 6 ∧ h.i 59 6 ≤ 12 ∧ (∀ k, 0 ≤ k → k < h.i 59 6 → 1 ≤ h.i 64 k ∧ h.i 64 k ≤ 2 ∧ P (26 * h.i 62 k + h.i 63 k) = h.i 64 k) ∧ (∀ a b, 0 ≤ a → a < 26 → 0 ≤ b → b < 26 → P (26 * a + b) ≠ 0 → ∃ k, 0 ≤ k ∧ k < h.i 59 6 ∧ h.i 62 k = a ∧ h.i 63 k = b)
def RLang (h : xH) (P V : Int → Int) : Prop := RPair h P ∧ ∀ k, 0 ≤ k → k < 26 → h.i 61 k = V k ∧ 0 ≤ V k ∧ V k ≤ 1
theorem RPair_of {h : xH} (I : I_pair h) : RPair h (h.i 6) := by
  obtain ⟨_, i2, i3, _, i5, _, i7⟩ := I
  exact ⟨i2, i3, fun k h0 h1 => by have := i5 k h0 h1; exact ⟨this.2.2.2.2.1, this.2.2.2.2.2.1, this.2.2.2.2.2.2⟩, i7⟩
theorem RLang_of {h : xH} (I : I_pair h) (J : I_vow h) : RLang h (h.i 6) (h.i 5) := by
  refine ⟨RPair_of I, fun k h0 h1 => ?_⟩
  have := J.1 k h0 h1
  exact ⟨this.1.symm, by omega, by omega⟩
theorem RLang_row {h h' : xH} {P V : Int → Int} (r1 : h'.i 61 = h.i 61) (r2 : h'.i 62 = h.i 62) (r3 : h'.i 63 = h.i 63) (r4 : h'.i 64 = h.i 64) (r5 : h'.i 59 6 = h.i 59 6) (I : RLang h P V) : RLang h' P V := by
  unfold RLang RPair at I ⊢
  rw [r1, r2, r3, r4, r5]; exact I
section PO
variable {d : Nat} {h : xH} {Q : Int → xH → Prop} {a b : Int}
theorem c_R_pairOf_2 (S : SR h) (p0 : 0 ≤ h.i 59 6) (p1 : h.i 59 6 ≤ 12) (H1 : ∀ k, 0 ≤ k → k < h.i 59 6 → h.i 62 k = a → h.i 63 k = b → Q k h) (H2 : (∀ k, 0 ≤ k → k < h.i 59 6 → ¬ (h.i 62 k = a ∧ h.i 63 k = b)) → Q (-1) h) : ∀ (n : Nat) (k : Int), 0 ≤ k → k + n = h.i 59 6 → (∀ j, 0 ≤ j → j < k → ¬ (h.i 62 j = a ∧ h.i 63 j = b)) → xT d M_R_pairOf 2 [(1, 59), (0, a), (0, b), (0, k)] [] h (xqi Q) := by
  intro n
  induction n with
  | zero =>
    intro k k0 kn hk
    apply L_R_pairOf_2
    refine ⟨(srt S).1, ?_⟩
    rw [if_neg (by omega)]
    exact H2 (fun j j0 j1 => hk j j0 (by omega))
  | succ n ih =>
    intro k k0 kn hk
    apply L_R_pairOf_2
    refine ⟨(srt S).1, ?_⟩
    rw [if_pos (by omega)]
    have e : xw (k + 1) = k + 1 := by unfold xw; omega
    simp only [srt S, srl S, srf S, e, true_and, and_true, false_and, and_false, forall_eq, forall_eq', xi_wi, xr_wi, xt_wi, xl_wi, xn_wi, xs_wi, xi_wr, xr_wr, xt_wr, xl_wr, xn_wr, xs_wr, if_true, if_false, and_self, Int.reduceEq, Int.reduceLT, Int.reduceLE, Int.reduceNeg, Int.le_refl, Int.reduceMod]
    refine ⟨⟨k0, by omega⟩, x_if (fun c => ⟨⟨k0, by omega⟩, x_if (fun c2 => H1 k k0 (by omega) c c2) (fun c2 => ?_)⟩) (fun c => ?_)⟩
    · refine ih (k + 1) (by omega) (by omega) (fun j j0 j1 => ?_)
      by_cases z : j = k
      · subst z; exact fun q => c2 q.2
      · exact hk j j0 (by omega)
    · refine ih (k + 1) (by omega) (by omega) (fun j j0 j1 => ?_)
      by_cases z : j = k
      · subst z; exact fun q => c q.1
      · exact hk j j0 (by omega)
theorem c_R_pairOf (S : SR h) (p0 : 0 ≤ h.i 59 6) (p1 : h.i 59 6 ≤ 12) (H1 : ∀ k, 0 ≤ k → k < h.i 59 6 → h.i 62 k = a → h.i 63 k = b → Q k h) (H2 : (∀ k, 0 ≤ k → k < h.i 59 6 → ¬ (h.i 62 k = a ∧ h.i 63 k = b)) → Q (-1) h) : xCi (d + 1) M_R_pairOf [(1, 59), (0, a), (0, b)] h Q := by
  apply L_R_pairOf
  exact c_R_pairOf_2 S p0 p1 H1 H2 (h.i 59 6).toNat 0 (by omega) (by omega) (fun j j0 j1 => by omega)
end PO
section XL
variable {d : Nat} {h : xH} {Q : Int → xH → Prop} {q a e : Int}
theorem c_X_pairAt (SX_ : SX h) (tq : h.tag q = 20) (h0 : 0 ≤ a) (hle : a ≤ e) (he : e ≤ h.len q) (hs : e < 100000) (hl : lets (h.i q) a e) (H : Q (prs (h.i 6) (h.i q) e a) h) : xCi (d + 1) M_Language_pairAt [(1, 4), (1, q), (0, a), (0, e)] h Q := by
  apply L_Language_pairAt
  by_cases hae : a < e
  · have e1 : xw (a + 1) = a + 1 := by unfold xw; omega
    unfold prs at H
    rw [if_neg (by omega), e1]
    apply x_if
    · intro c
      rw [if_pos c] at H
      have l1 := hl a (by omega) (by omega)
      have l2 := hl (a + 1) (by omega) (by omega)
      refine ⟨tq, ?_⟩
      rw [if_neg (by omega)]
      have e2 : xw (h.i q a - 97) = h.i q a - 97 := by unfold xw; omega
      have e3 : xw (h.i q (a + 1) - 97) = h.i q (a + 1) - 97 := by unfold xw; omega
      have e4 : xw (xw ((h.i q a - 97) * 26) + (h.i q (a + 1) - 97)) = 26 * (h.i q a - 97) + (h.i q (a + 1) - 97) := by unfold xw; omega
      refine ⟨⟨tq, h0, by omega⟩, ?_⟩
      intro x1 x1e
      rw [e2] at x1e
      subst x1e
      refine ⟨⟨tq, by omega, by omega⟩, ?_⟩
      intro x2 x2e
      rw [e3] at x2e
      subst x2e
      rw [if_neg (by omega), if_pos (by omega), if_neg (by omega), if_pos (by omega), e4]
      simp only [sxt SX_, sxl SX_, sxf SX_, true_and, and_true, false_and, and_false, forall_eq, forall_eq', xi_wi, xr_wi, xt_wi, xl_wi, xn_wi, xs_wi, xi_wr, xr_wr, xt_wr, xl_wr, xn_wr, xs_wr, if_true, if_false, and_self, Int.reduceEq, Int.reduceLT, Int.reduceLE, Int.reduceNeg, Int.le_refl, Int.reduceMod]
      exact ⟨by omega, H⟩
    · intro c
      rw [if_neg c] at H
      exact H
  · unfold prs at H
    rw [if_neg (by omega)] at H
    rw [if_neg (by omega), if_neg (by unfold xw; omega)]
    exact H
theorem c_X_isPairAt (SX_ : SX h) (tq : h.tag q = 20) (h0 : 0 ≤ a) (hle : a ≤ e) (he : e ≤ h.len q) (hs : e < 100000) (hl : lets (h.i q) a e) (H : Q (if prs (h.i 6) (h.i q) e a = 0 then 0 else 1) h) : xCi (d + 2) M_Language_isPairAt [(1, 4), (1, q), (0, a), (0, e)] h Q := by
  apply L_Language_isPairAt
  refine ⟨SX_.1.2.2.1, c_X_pairAt SX_ tq h0 hle he hs hl ?_⟩
  exact x_if (fun c => by rw [if_pos c] at H; exact H) (fun c => by rw [if_neg c] at H; exact H)
theorem c_X_isVowelAt (SX_ : SX h) (tq : h.tag q = 20) (h0 : 0 ≤ a) (hae : a < e) (he : e ≤ h.len q) (hs : e < 100000) (hl : lets (h.i q) a e) (hV : ∀ k, 0 ≤ k → k < 26 → 0 ≤ h.i 5 k ∧ h.i 5 k ≤ 1) (H : Q (vwl (h.i 6) (h.i 5) (h.i q) e a) h) : xCi (d + 2) M_Language_isVowelAt [(1, 4), (1, q), (0, a), (0, e)] h Q := by
  apply L_Language_isVowelAt
  refine ⟨SX_.1.2.2.1, c_X_pairAt SX_ tq h0 (by omega) he hs hl ?_⟩
  unfold vwl at H
  apply x_if
  · intro c
    rw [if_pos c] at H
    have l1 := hl a (by omega) (by omega)
    have v1 := hV (h.i q a - 97) (by omega) (by omega)
    have e2 : xw (h.i q a - 97) = h.i q a - 97 := by unfold xw; omega
    rw [if_neg (by omega), if_pos (by omega)]
    refine ⟨tq, ?_⟩
    rw [if_neg (by omega)]
    refine ⟨⟨tq, h0, by omega⟩, ?_⟩
    rw [e2]
    intro x1 x1e
    subst x1e
    rw [if_neg (by omega), if_pos (by omega)]
    simp only [sxt SX_, sxl SX_, sxf SX_, true_and, and_true, false_and, and_false, forall_eq, forall_eq', xi_wi, xr_wi, xt_wi, xl_wi, xn_wi, xs_wi, xi_wr, xr_wr, xt_wr, xl_wr, xn_wr, xs_wr, if_true, if_false, and_self, Int.reduceEq, Int.reduceLT, Int.reduceLE, Int.reduceNeg, Int.le_refl, Int.reduceMod]
    refine ⟨⟨by omega, by omega⟩, x_if (fun c2 => by rw [c2] at H; exact H) (fun c2 => ?_)⟩
    have : h.i 5 (h.i q a - 97) = 1 := by omega
    rw [this] at H; exact H
  · intro c
    rw [if_neg c] at H
    exact x_if (fun c => by rw [if_pos c] at H; exact H) (fun c => by rw [if_neg c] at H; exact H)
end XL
/-- the reference's number of a sound -/
def rsn (P g : Int → Int) (e a : Int) : Int := if prs P g e a = 0 then g a - 97 else 100 + 26 * (g a - 97) + (g (a + 1) - 97)
def cutH (h : xH) (s x v i : Int) : xH := (((h.wi 65 s x).wi 66 s v).wi 67 s i).wi 59 10 (s + 1)
section RC
variable {d : Nat} {Q : xH → Prop}
theorem c_cut_82 {h : xH} {q f m i s v k : Int} {u5 : xV} (S : SR h) (s0 : 0 ≤ s) (s1 : s < 18) (hs : h.i 59 10 = s) (v0 : 0 ≤ v) (v1 : v ≤ 1) (i0 : 0 ≤ i) (i1 : i < 1000) (H : xT d M_R_cutSounds 5 [(1, 59), (1, q), (0, f), (0, m), (0, if k = -1 then i + 1 else i + 2), u5, (0, k)] [] (((h.wi 66 s v).wi 67 s i).wi 59 10 (s + 1)) (xqv Q)) : xT d M_R_cutSounds 82 [(1, 59), (1, q), (0, f), (0, m), (0, i), u5, (0, k)] [(0, v), (0, s), (1, 66)] h (xqv Q) := by
  apply L_R_cutSounds_82
  have e1 : xw (i + 1) = i + 1 := by unfold xw; omega
  have e2 : xw (i + 2) = i + 2 := by unfold xw; omega
  have e3 : xw (s + 1) = s + 1 := by unfold xw; omega
  have e4 : v % 2 = v := by omega
  simp only [srt S, srl S, srf S, e1, e2, e3, e4, hs, s0, s1, true_and, and_true, false_and, and_false, forall_eq, forall_eq', xi_wi, xr_wi, xt_wi, xl_wi, xn_wi, xs_wi, xi_wr, xr_wr, xt_wr, xl_wr, xn_wr, xs_wr, if_true, if_false, and_self, Int.reduceEq, Int.reduceLT, Int.reduceLE, Int.reduceNeg, Int.le_refl, Int.reduceMod]
  refine x_if (fun c => ?_) (fun c => ?_)
  · rw [if_pos c] at H; exact H
  · rw [if_neg c] at H; exact H
theorem c_cut_35 {h : xH} {P V g : Int → Int} {q f m i s a k : Int} {u6 : xV} (S : SR h) (RL_ : RLang h P V) (hq : h.tag q = 21) (hf : 0 ≤ f) (hm : m ≤ 16) (i0 : 0 ≤ i) (i1 : i < m) (hl : f + m ≤ h.len q) (hl2 : f + m < 100000) (hg : h.i q = g) (le : lets g (f + i) (f + m)) (ha : a = g (f + i) - 97) (s0 : 0 ≤ s) (s1 : s < 18) (hs : h.i 59 10 = s) (hq5 : q ≠ 65) (hk : (k = -1 ∧ prs P g (f + m) (f + i) = 0) ∨ (0 ≤ k ∧ k < h.i 59 6 ∧ i + 1 < m ∧ h.i 64 k = prs P g (f + m) (f + i) ∧ prs P g (f + m) (f + i) ≠ 0)) (H : ∀ u5 u6, xT d M_R_cutSounds 5 [(1, 59), (1, q), (0, f), (0, m), (0, nxt P g (f + m) (f + i) - f), u5, u6] [] (cutH h s (rsn P g (f + m) (f + i)) (vwl P V g (f + m) (f + i)) i) (xqv Q)) : xT d M_R_cutSounds 35 [(1, 59), (1, q), (0, f), (0, m), (0, i), (0, a), u6] [(0, k)] h (xqv Q) := by
  have S' := S
  have pp := RL_.1
  obtain ⟨p0, p1, p2, p3⟩ := pp
  apply L_R_cutSounds_35
  have l1 := le (f + i) (by omega) (by omega)
  have vv := RL_.2 a (by omega) (by omega)
  refine ⟨(srt S).1, ?_⟩
  by_cases c : k = -1
  · have pz : prs P g (f + m) (f + i) = 0 := by omega
    rw [if_pos c]
    simp only [srt S, srl S, srf S, c, hs, s0, s1, true_and, and_true, false_and, and_false, forall_eq, forall_eq', xi_wi, xr_wi, xt_wi, xl_wi, xn_wi, xs_wi, xi_wr, xr_wr, xt_wr, xl_wr, xn_wr, xs_wr, if_true, if_false, and_self, Int.reduceEq, Int.reduceLT, Int.reduceLE, Int.reduceNeg, Int.le_refl, Int.reduceMod]
    refine ⟨⟨by omega, by omega⟩, ?_⟩
    refine c_cut_82 (SR_2 rfl S') s0 s1 (by simp only [hs, true_and, and_true, false_and, and_false, forall_eq, forall_eq', xi_wi, xr_wi, xt_wi, xl_wi, xn_wi, xs_wi, xi_wr, xr_wr, xt_wr, xl_wr, xn_wr, xs_wr, if_true, if_false, and_self, Int.reduceEq, Int.reduceLT, Int.reduceLE, Int.reduceNeg, Int.le_refl, Int.reduceMod]) (by omega) (by omega) i0 (by omega) ?_
    have z := H (0, a) (0, -1)
    have e1 : nxt P g (f + m) (f + i) - f = i + 1 := by unfold nxt; rw [if_pos pz]; omega
    have e2 : rsn P g (f + m) (f + i) = a := by unfold rsn; rw [if_pos pz, ha]
    have e3 : vwl P V g (f + m) (f + i) = h.i 61 a := by unfold vwl; rw [if_pos pz, ← ha, vv.1]
    rw [e1, e2, e3] at z
    exact z
  · have hk := hk.resolve_left (fun q => c q.1)
    obtain ⟨k0, k1, k2, k3, k4⟩ := hk
    have l2 := le (f + i + 1) (by omega) (by omega)
    have q2 := p2 k k0 k1
    rw [if_neg c]
    have e1 : xw (xw (f + i) + 1) = f + i + 1 := by unfold xw; omega
    have e2 : xw (xw (xw (100 + xw (26 * a)) + g (f + i + 1)) - 97) = rsn P g (f + m) (f + i) := by
      unfold rsn; rw [if_neg k4, ha]; unfold xw; omega
    have e3 : nxt P g (f + m) (f + i) - f = i + 2 := by unfold nxt; rw [if_neg k4]; omega
    rw [e1, hg, e2]
    simp only [srt S, srl S, srf S, hs, s0, s1, hq, c, true_and, and_true, false_and, and_false, forall_eq, forall_eq', xi_wi, xr_wi, xt_wi, xl_wi, xn_wi, xs_wi, xi_wr, xr_wr, xt_wr, xl_wr, xn_wr, xs_wr, if_true, if_false, and_self, Int.reduceEq, Int.reduceLT, Int.reduceLE, Int.reduceNeg, Int.le_refl, Int.reduceMod]
    refine ⟨⟨by omega, by omega⟩, ⟨by omega, by omega⟩, ?_⟩
    refine x_if (fun c2 => ?_) (fun c2 => ?_)
    · refine c_cut_82 (SR_2 rfl S') s0 s1 (by simp only [hs, true_and, and_true, false_and, and_false, forall_eq, forall_eq', xi_wi, xr_wi, xt_wi, xl_wi, xn_wi, xs_wi, xi_wr, xr_wr, xt_wr, xl_wr, xn_wr, xs_wr, if_true, if_false, and_self, Int.reduceEq, Int.reduceLT, Int.reduceLE, Int.reduceNeg, Int.le_refl, Int.reduceMod]) (by omega) (by omega) i0 (by omega) ?_
      have z := H (0, a) (0, k)
      have e4 : vwl P V g (f + m) (f + i) = 1 := by unfold vwl; rw [if_neg k4, if_pos (by omega)]
      rw [e3, e4] at z
      rw [if_neg c]; exact z
    · refine c_cut_82 (SR_2 rfl S') s0 s1 (by simp only [hs, true_and, and_true, false_and, and_false, forall_eq, forall_eq', xi_wi, xr_wi, xt_wi, xl_wi, xn_wi, xs_wi, xi_wr, xr_wr, xt_wr, xl_wr, xn_wr, xs_wr, if_true, if_false, and_self, Int.reduceEq, Int.reduceLT, Int.reduceLE, Int.reduceNeg, Int.le_refl, Int.reduceMod]) (by omega) (by omega) i0 (by omega) ?_
      have z := H (0, a) (0, k)
      have e4 : vwl P V g (f + m) (f + i) = 0 := by unfold vwl; rw [if_neg k4, if_neg (by omega)]
      rw [e3, e4] at z
      rw [if_neg c]; exact z
/-- what the sounds of a piece are, in the rows from s on -/
def cutP (h' : xH) (P V g : Int → Int) (f e s : Int) (L : List Int) : Prop := h'.i 59 10 = s + (L.length : Nat) ∧ ∀ j : Nat, j < L.length → h'.i 65 (s + j) = rsn P g e (L.getD j 0) ∧ h'.i 66 (s + j) = vwl P V g e (L.getD j 0) ∧ h'.i 67 (s + j) = L.getD j 0 - f
theorem c_cut_5 {P V g : Int → Int} {q f m : Int} (hf : 0 ≤ f) (hm : m ≤ 16) (hl2 : f + m < 100000) (le : lets g f (f + m)) (hq4 : q ≠ 59) (hq5 : q ≠ 65) (hq6 : q ≠ 66) (hq7 : q ≠ 67) : ∀ (n : Nat) (h : xH) (i s : Int) (u5 u6 : xV), SR h → RLang h P V → h.tag q = 21 → f + m ≤ h.len q → h.i q = g → 0 ≤ i → m - i ≤ n → h.i 59 10 = s → 0 ≤ s → s ≤ i → (∀ h', Fr [65, 66, 67] [(59, 10)] h h' → (∀ j, j < s → h'.i 65 j = h.i 65 j ∧ h'.i 66 j = h.i 66 j ∧ h'.i 67 j = h.i 67 j) → cutP h' P V g f (f + m) s (snds P g (f + m) n (f + i)) → Q h') → xT (d + 1) M_R_cutSounds 5 [(1, 59), (1, q), (0, f), (0, m), (0, i), u5, u6] [] h (xqv Q) := by
  intro n
  induction n with
  | zero =>
    intro h i s u5 u6 S RL_ tq lq hg i0 hn hs s0 si H
    apply L_R_cutSounds_5
    rw [if_neg (by omega)]
    exact H h (Fr_refl _ _ _) (fun j _ => ⟨rfl, rfl, rfl⟩) ⟨by rw [hs]; exact (Int.add_zero s).symm, fun j hj => absurd hj (Nat.not_lt_zero _)⟩
  | succ n ih =>
    intro h i s u5 u6 S RL_ tq lq hg i0 hn hs s0 si H
    apply L_R_cutSounds_5
    by_cases him : i < m
    · have S' := S
      have pp := RL_.1
      obtain ⟨p0, p1, p2, p3⟩ := pp
      have l1 := le (f + i) (by omega) (by omega)
      have e1 : xw (f + i) = f + i := by unfold xw; omega
      have e2 : xw (i + 1) = i + 1 := by unfold xw; omega
      have e3 : xw (f + i + 1) = f + i + 1 := by unfold xw; omega
      have e4 : xw (g (f + i) - 97) = g (f + i) - 97 := by unfold xw; omega
      have gt := nxt_gt P g (f + m) (f + i)
      have go : ∀ k a' : Int, a' = g (f + i) - 97 → ((k = -1 ∧ prs P g (f + m) (f + i) = 0) ∨ (0 ≤ k ∧ k < h.i 59 6 ∧ i + 1 < m ∧ h.i 64 k = prs P g (f + m) (f + i) ∧ prs P g (f + m) (f + i) ≠ 0)) → xT (d + 1) M_R_cutSounds 35 [(1, 59), (1, q), (0, f), (0, m), (0, i), (0, a'), u6] [(0, k)] h (xqv Q) := by
        intro k a' ea hk
        refine c_cut_35 S RL_ tq hf hm i0 him lq hl2 hg (fun j j0 j1 => le j (by omega) j1) ea s0 (by omega) hs hq5 hk (fun v5 v6 => ?_)
        refine ih _ (nxt P g (f + m) (f + i) - f) (s + 1) v5 v6 (SR_2 rfl S) (RLang_row ?_ ?_ ?_ ?_ ?_ RL_) tq lq ?_ (by omega) (by omega) ?_ (by omega) (by omega) ?_
        · unfold cutH; funext j; simp only [true_and, and_true, false_and, and_false, forall_eq, forall_eq', xi_wi, xr_wi, xt_wi, xl_wi, xn_wi, xs_wi, xi_wr, xr_wr, xt_wr, xl_wr, xn_wr, xs_wr, if_true, if_false, and_self, Int.reduceEq, Int.reduceLT, Int.reduceLE, Int.reduceNeg, Int.le_refl, Int.reduceMod]
        · unfold cutH; funext j; simp only [true_and, and_true, false_and, and_false, forall_eq, forall_eq', xi_wi, xr_wi, xt_wi, xl_wi, xn_wi, xs_wi, xi_wr, xr_wr, xt_wr, xl_wr, xn_wr, xs_wr, if_true, if_false, and_self, Int.reduceEq, Int.reduceLT, Int.reduceLE, Int.reduceNeg, Int.le_refl, Int.reduceMod]
        · unfold cutH; funext j; simp only [true_and, and_true, false_and, and_false, forall_eq, forall_eq', xi_wi, xr_wi, xt_wi, xl_wi, xn_wi, xs_wi, xi_wr, xr_wr, xt_wr, xl_wr, xn_wr, xs_wr, if_true, if_false, and_self, Int.reduceEq, Int.reduceLT, Int.reduceLE, Int.reduceNeg, Int.le_refl, Int.reduceMod]
        · unfold cutH; funext j; simp only [true_and, and_true, false_and, and_false, forall_eq, forall_eq', xi_wi, xr_wi, xt_wi, xl_wi, xn_wi, xs_wi, xi_wr, xr_wr, xt_wr, xl_wr, xn_wr, xs_wr, if_true, if_false, and_self, Int.reduceEq, Int.reduceLT, Int.reduceLE, Int.reduceNeg, Int.le_refl, Int.reduceMod]
        · unfold cutH; simp only [true_and, and_true, false_and, and_false, forall_eq, forall_eq', xi_wi, xr_wi, xt_wi, xl_wi, xn_wi, xs_wi, xi_wr, xr_wr, xt_wr, xl_wr, xn_wr, xs_wr, if_true, if_false, and_self, Int.reduceEq, Int.reduceLT, Int.reduceLE, Int.reduceNeg, Int.le_refl, Int.reduceMod]
        · rw [← hg]; unfold cutH; funext j; simp only [hq4, hq5, hq6, hq7, true_and, and_true, false_and, and_false, forall_eq, forall_eq', xi_wi, xr_wi, xt_wi, xl_wi, xn_wi, xs_wi, xi_wr, xr_wr, xt_wr, xl_wr, xn_wr, xs_wr, if_true, if_false, and_self, Int.reduceEq, Int.reduceLT, Int.reduceLE, Int.reduceNeg, Int.le_refl, Int.reduceMod]
        · unfold cutH; simp only [true_and, and_true, false_and, and_false, forall_eq, forall_eq', xi_wi, xr_wi, xt_wi, xl_wi, xn_wi, xs_wi, xi_wr, xr_wr, xt_wr, xl_wr, xn_wr, xs_wr, if_true, if_false, and_self, Int.reduceEq, Int.reduceLT, Int.reduceLE, Int.reduceNeg, Int.le_refl, Int.reduceMod]
        · intro h' F old C
          have F0 : Fr [65, 66, 67] [(59, 10)] h (cutH h s (rsn P g (f + m) (f + i)) (vwl P V g (f + m) (f + i)) i) := Fr_slot (Fr_cell (Fr_cell (Fr_cell (Fr_refl _ _ _) _ _ (by decide)) _ _ (by decide)) _ _ (by decide)) _ (by decide)
          refine H h' (Fr_trans F0 F) (fun j hj => ?_) ?_
          · have o := old j (by omega)
            rw [o.1, o.2.1, o.2.2]
            unfold cutH
            simp only [(show ¬ j = s by omega), true_and, and_true, false_and, and_false, forall_eq, forall_eq', xi_wi, xr_wi, xt_wi, xl_wi, xn_wi, xs_wi, xi_wr, xr_wr, xt_wr, xl_wr, xn_wr, xs_wr, if_true, if_false, and_self, Int.reduceEq, Int.reduceLT, Int.reduceLE, Int.reduceNeg, Int.le_refl, Int.reduceMod]
          · have e5 : f + (nxt P g (f + m) (f + i) - f) = nxt P g (f + m) (f + i) := by omega
            rw [e5] at C
            have es : snds P g (f + m) (n + 1) (f + i) = (f + i) :: snds P g (f + m) n (nxt P g (f + m) (f + i)) := by
              rw [snds, if_pos (by omega)]
            rw [es]
            refine ⟨by rw [C.1, List.length_cons]; push_cast; omega, fun j hj => ?_⟩
            cases j with
            | zero =>
              have o := old s (by omega)
              simp only [Int.natCast_zero, Int.add_zero, List.getD_cons_zero]
              rw [o.1, o.2.1, o.2.2]
              unfold cutH
              simp only [true_and, and_true, false_and, and_false, forall_eq, forall_eq', xi_wi, xr_wi, xt_wi, xl_wi, xn_wi, xs_wi, xi_wr, xr_wr, xt_wr, xl_wr, xn_wr, xs_wr, if_true, if_false, and_self, Int.reduceEq, Int.reduceLT, Int.reduceLE, Int.reduceNeg, Int.le_refl, Int.reduceMod]
              omega
            | succ j =>
              rw [List.length_cons] at hj
              have o := C.2 j (by omega)
              have e6 : s + ((j + 1 : Nat) : Int) = s + 1 + j := by push_cast; omega
              rw [e6, List.getD_cons_succ]
              exact o
      rw [if_pos him, e1, e2, hg, e3, e4]
      refine ⟨⟨tq, by omega, by omega⟩, ?_⟩
      intro x1 x1e
      refine x_if (fun c => ?_) (fun c => ?_)
      · have l2 := le (f + i + 1) (by omega) (by omega)
        have e7 : xw (g (f + i + 1) - 97) = g (f + i + 1) - 97 := by unfold xw; omega
        have ep : prs P g (f + m) (f + i) = P (26 * (g (f + i) - 97) + (g (f + i + 1) - 97)) := by unfold prs; rw [if_pos (by omega)]
        refine ⟨⟨tq, by omega, by omega⟩, S.1.1, ?_⟩
        rw [e7]
        refine c_R_pairOf S p0 p1 (fun k k0 k1 ka kb => ?_) (fun no => ?_)
        · have z := p2 k k0 k1
          rw [ka, kb, x1e] at z
          exact go k x1 x1e (Or.inr ⟨k0, k1, c, by rw [ep, z.2.2], by rw [ep]; omega⟩)
        · refine go (-1) x1 x1e (Or.inl ⟨rfl, ?_⟩)
          rw [ep]
          by_cases z : P (26 * (g (f + i) - 97) + (g (f + i + 1) - 97)) = 0
          · exact z
          · obtain ⟨k, k0, k1, ka, kb⟩ := p3 (g (f + i) - 97) (g (f + i + 1) - 97) (by omega) (by omega) (by omega) (by omega) z
            exact absurd ⟨by rw [ka, x1e], kb⟩ (no k k0 k1)
      · refine go (-1) x1 x1e (Or.inl ⟨rfl, ?_⟩)
        unfold prs; rw [if_neg (by omega)]
    · rw [if_neg him]
      have es : snds P g (f + m) (n + 1) (f + i) = [] := by rw [snds, if_neg (by omega)]
      exact H h (Fr_refl _ _ _) (fun j _ => ⟨rfl, rfl, rfl⟩) (by rw [es]; exact ⟨by rw [hs]; exact (Int.add_zero s).symm, fun j hj => absurd hj (Nat.not_lt_zero _)⟩)
theorem c_R_cutSounds {P V g : Int → Int} {h : xH} {q f m : Int} (S : SR h) (RL_ : RLang h P V) (hf : 0 ≤ f) (m0 : 0 ≤ m) (hm : m ≤ 16) (hl2 : f + m < 100000) (tq : h.tag q = 21) (lq : f + m ≤ h.len q) (hg : h.i q = g) (le : lets g f (f + m)) (hq4 : q ≠ 59) (hq5 : q ≠ 65) (hq6 : q ≠ 66) (hq7 : q ≠ 67) (H : ∀ h', Fr [65, 66, 67] [(59, 10)] h h' → cutP h' P V g f (f + m) 0 (snds P g (f + m) m.toNat f) → Q h') : xCv (d + 2) M_R_cutSounds [(1, 59), (1, q), (0, f), (0, m)] h Q := by
  apply L_R_cutSounds
  refine ⟨S.1.1, ?_⟩
  intro h1 e1
  subst e1
  refine c_cut_5 hf hm hl2 le hq4 hq5 hq6 hq7 m.toNat _ 0 0 _ _ (SR_2 rfl S) (RLang_row ?_ ?_ ?_ ?_ ?_ RL_) tq lq ?_ (by omega) (by omega) ?_ (by omega) (by omega) ?_
  · funext j; simp only [true_and, and_true, false_and, and_false, forall_eq, forall_eq', xi_wi, xr_wi, xt_wi, xl_wi, xn_wi, xs_wi, xi_wr, xr_wr, xt_wr, xl_wr, xn_wr, xs_wr, if_true, if_false, and_self, Int.reduceEq, Int.reduceLT, Int.reduceLE, Int.reduceNeg, Int.le_refl, Int.reduceMod]
  · funext j; simp only [true_and, and_true, false_and, and_false, forall_eq, forall_eq', xi_wi, xr_wi, xt_wi, xl_wi, xn_wi, xs_wi, xi_wr, xr_wr, xt_wr, xl_wr, xn_wr, xs_wr, if_true, if_false, and_self, Int.reduceEq, Int.reduceLT, Int.reduceLE, Int.reduceNeg, Int.le_refl, Int.reduceMod]
  · funext j; simp only [true_and, and_true, false_and, and_false, forall_eq, forall_eq', xi_wi, xr_wi, xt_wi, xl_wi, xn_wi, xs_wi, xi_wr, xr_wr, xt_wr, xl_wr, xn_wr, xs_wr, if_true, if_false, and_self, Int.reduceEq, Int.reduceLT, Int.reduceLE, Int.reduceNeg, Int.le_refl, Int.reduceMod]
  · funext j; simp only [true_and, and_true, false_and, and_false, forall_eq, forall_eq', xi_wi, xr_wi, xt_wi, xl_wi, xn_wi, xs_wi, xi_wr, xr_wr, xt_wr, xl_wr, xn_wr, xs_wr, if_true, if_false, and_self, Int.reduceEq, Int.reduceLT, Int.reduceLE, Int.reduceNeg, Int.le_refl, Int.reduceMod]
  · simp only [true_and, and_true, false_and, and_false, forall_eq, forall_eq', xi_wi, xr_wi, xt_wi, xl_wi, xn_wi, xs_wi, xi_wr, xr_wr, xt_wr, xl_wr, xn_wr, xs_wr, if_true, if_false, and_self, Int.reduceEq, Int.reduceLT, Int.reduceLE, Int.reduceNeg, Int.le_refl, Int.reduceMod]
  · rw [← hg]; funext j; simp only [hq4, true_and, and_true, false_and, and_false, forall_eq, forall_eq', xi_wi, xr_wi, xt_wi, xl_wi, xn_wi, xs_wi, xi_wr, xr_wr, xt_wr, xl_wr, xn_wr, xs_wr, if_true, if_false, and_self, Int.reduceEq, Int.reduceLT, Int.reduceLE, Int.reduceNeg, Int.le_refl, Int.reduceMod]
  · simp only [true_and, and_true, false_and, and_false, forall_eq, forall_eq', xi_wi, xr_wi, xt_wi, xl_wi, xn_wi, xs_wi, xi_wr, xr_wr, xt_wr, xl_wr, xn_wr, xs_wr, if_true, if_false, and_self, Int.reduceEq, Int.reduceLT, Int.reduceLE, Int.reduceNeg, Int.le_refl, Int.reduceMod]
  · intro h' F _ C
    rw [Int.add_zero] at C
    exact H h' (Fr_trans (Fr_slot (Fr_refl _ _ _) _ (by decide)) F) C
end RC
