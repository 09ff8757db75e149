/-! sounds of the class: how many vowels, the first one, how a piece opens and closes -/
def vsm (P V g : Int → Int) (e : Int) (L : List Int) : Int := (L.map (vwl P V g e)).sum
def lastv (P V g : Int → Int) (e : Int) (L : List Int) (c : Int) : Int := L.foldl (fun _ a => vwl P V g e a) c
def bits26 (V : Int → Int) : Prop := ∀ k, 0 ≤ k → k < 26 → 0 ≤ V k ∧ V k ≤ 1
theorem vwl_01 {P V g : Int → Int} {e a : Int} (hV : bits26 V) (hl : lets g a e) (hae : a < e) : vwl P V g e a = 0 ∨ vwl P V g e a = 1 := by
  unfold vwl
  have l1 := hl a (by omega) (by omega)
  have v := hV (g a - 97) (by omega) (by omega)
  by_cases c : prs P g e a = 0
  · rw [if_pos c]; omega
  · rw [if_neg c]
    by_cases c2 : prs P g e a = 1
    · rw [if_pos c2]; exact Or.inr rfl
    · rw [if_neg c2]; exact Or.inl rfl
theorem lets_nxt {P g : Int → Int} {e a : Int} (hl : lets g a e) : lets g (nxt P g e a) e := fun k k0 k1 => hl k (by have := nxt_gt P g e a; omega) k1
theorem snds_nil {P g : Int → Int} {e : Int} {n : Nat} {a : Int} (h : ¬ a < e) : snds P g e n a = [] := by
  cases n with
  | zero => rfl
  | succ n => rw [snds, if_neg h]
/-- more steps than needed change nothing -/
theorem snds_fuel {P g : Int → Int} {e : Int} : ∀ (n m : Nat) (a : Int), e - a ≤ n → e - a ≤ m → snds P g e n a = snds P g e m a := by
  intro n
  induction n with
  | zero => intro m a h1 _; rw [snds_nil (by omega), snds_nil (by omega)]
  | succ n ih =>
    intro m a h1 h2
    cases m with
    | zero => rw [snds_nil (by omega), snds_nil (by omega)]
    | succ m =>
      rw [snds, snds]
      have := nxt_gt P g e a
      rw [ih m (nxt P g e a) (by omega) (by omega)]
theorem snds_mem {P g : Int → Int} {e : Int} : ∀ (n : Nat) (a x : Int), x ∈ snds P g e n a → a ≤ x ∧ x < e := by
  intro n
  induction n with
  | zero => intro a x h; exact absurd h List.not_mem_nil
  | succ n ih =>
    intro a x h
    rw [snds] at h
    by_cases c : a < e
    · rw [if_pos c] at h
      cases List.mem_cons.mp h with
      | inl q => omega
      | inr q => have := ih _ _ q; have := nxt_gt P g e a; omega
    · rw [if_neg c] at h; exact absurd h List.not_mem_nil
theorem snds_len {P g : Int → Int} {e : Int} : ∀ (n : Nat) (a : Int), a ≤ e → ((snds P g e n a).length : Int) ≤ e - a := by
  intro n
  induction n with
  | zero => intro a h; show (0 : Int) ≤ e - a; omega
  | succ n ih =>
    intro a h
    rw [snds]
    by_cases c : a < e
    · rw [if_pos c, List.length_cons]
      have := ih (nxt P g e a) (nxt_le c)
      have := nxt_gt P g e a
      push_cast; omega
    · rw [if_neg c]; show (0 : Int) ≤ e - a; omega
section XS
variable {d : Nat} {h : xH} {Q : Int → xH → Prop} {q e : Int}
theorem c_X_vowelSounds_4 (SX_ : SX h) (tq : h.tag q = 20) (he : e ≤ h.len q) (hs : e < 100000) (hV : bits26 (h.i 5)) : ∀ (n : Nat) (a c : Int) (u2 : xV), 0 ≤ a → lets (h.i q) a e → e - a ≤ n → 0 ≤ c → c + n < 100000 → Q (c + vsm (h.i 6) (h.i 5) (h.i q) e (snds (h.i 6) (h.i q) e n a)) h → xT (d + 2) M_Language_vowelSounds 4 [(1, 4), (1, q), u2, (0, e), (0, c), (0, a)] [] h (xqi Q) := by
  intro n
  induction n with
  | zero =>
    intro a c u2 a0 hl hn c0 c1 H
    apply L_Language_vowelSounds_4
    rw [if_neg (by omega)]
    have : c + vsm (h.i 6) (h.i 5) (h.i q) e (snds (h.i 6) (h.i q) e 0 a) = c := by show c + 0 = c; omega
    rw [this] at H; exact H
  | succ n ih =>
    intro a c u2 a0 hl hn c0 c1 H
    apply L_Language_vowelSounds_4
    by_cases hae : a < e
    · rw [if_pos hae]
      have tL := SX_.1.2.2.1
      have e1 : xw (a + 1) = a + 1 := by unfold xw; omega
      have e2 : xw (a + 2) = a + 2 := by unfold xw; omega
      have e3 : xw (c + 1) = c + 1 := by unfold xw; omega
      have gt := nxt_gt (h.i 6) (h.i q) e a
      have es : snds (h.i 6) (h.i q) e (n + 1) a = a :: snds (h.i 6) (h.i q) e n (nxt (h.i 6) (h.i q) e a) := by rw [snds, if_pos hae]
      rw [es] at H
      unfold vsm at H
      rw [List.map_cons, List.sum_cons] at H
      have v01 := vwl_01 (P := h.i 6) hV hl hae
      refine ⟨tL, c_X_isVowelAt SX_ tq a0 hae he hs hl hV ?_⟩
      have go : ∀ c', c' = c + vwl (h.i 6) (h.i 5) (h.i q) e a → h.tag 4 = 2 ∧ xCi (d + 2) M_Language_isPairAt [(1, 4), (1, q), (0, a), (0, e)] h (fun r2 h2 => if r2 = 0 then (∀ x1 : Int, x1 = xw (a + 1) → xT (d + 2) M_Language_vowelSounds 4 [(1, 4), (1, q), u2, (0, e), (0, c'), (0, x1)] [] h2 (xqi Q)) else (∀ x2 : Int, x2 = xw (a + 2) → xT (d + 2) M_Language_vowelSounds 4 [(1, 4), (1, q), u2, (0, e), (0, c'), (0, x2)] [] h2 (xqi Q))) := by
        intro c' ec
        refine ⟨tL, c_X_isPairAt SX_ tq a0 (by omega) he hs hl ?_⟩
        have fin : xT (d + 2) M_Language_vowelSounds 4 [(1, 4), (1, q), u2, (0, e), (0, c'), (0, nxt (h.i 6) (h.i q) e a)] [] h (xqi Q) := by
          refine ih _ c' u2 (by omega) (lets_nxt hl) (by omega) (by omega) (by omega) ?_
          unfold vsm
          rw [ec, Int.add_assoc]; exact H
        unfold nxt at fin
        by_cases z : prs (h.i 6) (h.i q) e a = 0
        · rw [if_pos z] at fin
          rw [if_pos z, if_pos rfl, e1]
          intro x1 q1; subst q1; exact fin
        · rw [if_neg z] at fin
          rw [if_neg z, if_neg (by decide), e2]
          intro x1 q1; subst q1; exact fin
      cases v01 with
      | inl z => rw [z, if_pos rfl]; exact go c (by omega)
      | inr z => rw [z, if_neg (by decide), e3]; intro x3 q3; subst q3; exact go (c + 1) (by omega)
    · rw [if_neg hae]
      rw [snds_nil hae] at H
      have : c + vsm (h.i 6) (h.i 5) (h.i q) e [] = c := by show c + 0 = c; omega
      rw [this] at H; exact H
theorem c_X_vowelSounds {a : Int} (SX_ : SX h) (tq : h.tag q = 20) (he : e ≤ h.len q) (hs : e < 1000) (hV : bits26 (h.i 5)) (a0 : 0 ≤ a) (hl : lets (h.i q) a e) (H : Q (vsm (h.i 6) (h.i 5) (h.i q) e (snds (h.i 6) (h.i q) e (e - a).toNat a)) h) : xCi (d + 3) M_Language_vowelSounds [(1, 4), (1, q), (0, a), (0, e)] h Q := by
  apply L_Language_vowelSounds
  refine c_X_vowelSounds_4 SX_ tq he (by omega) hV (e - a).toNat a 0 _ a0 hl (by omega) (by omega) (by omega) ?_
  rw [Int.zero_add]; exact H
theorem c_X_firstVowel_2 {b : Int} (SX_ : SX h) (tq : h.tag q = 20) (he : e ≤ h.len q) (hs : e < 100000) (hV : bits26 (h.i 5)) : ∀ (n : Nat) (a : Int), 0 ≤ a → lets (h.i q) a e → e - a ≤ n → Q (((snds (h.i 6) (h.i q) e n a).find? (fun x => decide (vwl (h.i 6) (h.i 5) (h.i q) e x = 1))).getD b) h → xT (d + 2) M_Language_firstVowel 2 [(1, 4), (1, q), (0, b), (0, e), (0, a)] [] h (xqi Q) := by
  intro n
  induction n with
  | zero =>
    intro a a0 hl hn H
    apply L_Language_firstVowel_2
    rw [if_neg (by omega)]
    exact H
  | succ n ih =>
    intro a a0 hl hn H
    apply L_Language_firstVowel_2
    by_cases hae : a < e
    · rw [if_pos hae]
      have tL := SX_.1.2.2.1
      have e1 : xw (a + 1) = a + 1 := by unfold xw; omega
      have e2 : xw (a + 2) = a + 2 := by unfold xw; omega
      have gt := nxt_gt (h.i 6) (h.i q) e a
      have es : snds (h.i 6) (h.i q) e (n + 1) a = a :: snds (h.i 6) (h.i q) e n (nxt (h.i 6) (h.i q) e a) := by rw [snds, if_pos hae]
      rw [es, List.find?_cons] at H
      have v01 := vwl_01 (P := h.i 6) hV hl hae
      refine ⟨tL, c_X_isVowelAt SX_ tq a0 hae he hs hl hV ?_⟩
      cases v01 with
      | inl z =>
        rw [z, if_pos rfl]
        rw [z] at H
        simp only [show decide ((0 : Int) = 1) = false from rfl] at H
        refine ⟨tL, c_X_isPairAt SX_ tq a0 (by omega) he hs hl ?_⟩
        have fin := ih (nxt (h.i 6) (h.i q) e a) (by omega) (lets_nxt hl) (by omega) H
        unfold nxt at fin
        by_cases z : prs (h.i 6) (h.i q) e a = 0
        · rw [if_pos z] at fin
          rw [if_pos z, if_pos rfl, e1]
          intro x1 q1; subst q1; exact fin
        · rw [if_neg z] at fin
          rw [if_neg z, if_neg (by decide), e2]
          intro x1 q1; subst q1; exact fin
      | inr z =>
        rw [z, if_neg (by decide)]
        rw [z] at H
        simp only [show decide ((1 : Int) = 1) = true from rfl, Option.getD_some] at H
        exact H
    · rw [if_neg hae]
      rw [snds_nil hae] at H
      exact H
theorem c_X_firstVowel {a : Int} (SX_ : SX h) (tq : h.tag q = 20) (he : e ≤ h.len q) (hs : e < 100000) (hV : bits26 (h.i 5)) (a0 : 0 ≤ a) (hl : lets (h.i q) a e) (H : Q (((snds (h.i 6) (h.i q) e (e - a).toNat a).find? (fun x => decide (vwl (h.i 6) (h.i 5) (h.i q) e x = 1))).getD a) h) : xCi (d + 3) M_Language_firstVowel [(1, 4), (1, q), (0, a), (0, e)] h Q := by
  apply L_Language_firstVowel
  exact c_X_firstVowel_2 SX_ tq he hs hV (e - a).toNat a a0 hl (by omega) H
theorem c_X_traitsOf_4 {b : Int} (SX_ : SX h) (tq : h.tag q = 20) (he : e ≤ h.len q) (hs : e < 100000) (hV : bits26 (h.i 5)) (b0 : 0 ≤ b) (hbe : b < e) (hlb : lets (h.i q) b e) : ∀ (n : Nat) (a c : Int), 0 ≤ a → lets (h.i q) a e → e - a ≤ n → (c = 0 ∨ c = 1) → Q (vwl (h.i 6) (h.i 5) (h.i q) e b + 2 * lastv (h.i 6) (h.i 5) (h.i q) e (snds (h.i 6) (h.i q) e n a) c) h → xT (d + 2) M_Language_traitsOf 4 [(1, 4), (1, q), (0, b), (0, e), (0, c), (0, a)] [] h (xqi Q) := by
  have last : ∀ a c : Int, ¬ a < e → (c = 0 ∨ c = 1) → Q (vwl (h.i 6) (h.i 5) (h.i q) e b + 2 * c) h → xT (d + 2) M_Language_traitsOf 4 [(1, 4), (1, q), (0, b), (0, e), (0, c), (0, a)] [] h (xqi Q) := by
    intro a c ha hc H
    apply L_Language_traitsOf_4
    rw [if_neg ha]
    refine ⟨SX_.1.2.2.1, c_X_isVowelAt SX_ tq b0 hbe he hs hlb hV ?_⟩
    have v01 := vwl_01 (P := h.i 6) hV hlb hbe
    cases v01 with
    | inl z =>
      rw [z] at H ⊢
      rw [if_pos rfl]
      cases hc with
      | inl y => rw [y] at H ⊢; rw [if_pos rfl]; exact H
      | inr y => rw [y] at H ⊢; rw [if_neg (by decide)]; exact H
    | inr z =>
      rw [z] at H ⊢
      rw [if_neg (by decide)]
      cases hc with
      | inl y => rw [y] at H ⊢; rw [if_pos rfl]; exact H
      | inr y => rw [y] at H ⊢; rw [if_neg (by decide)]; exact H
  intro n
  induction n with
  | zero =>
    intro a c a0 hl hn hc H
    exact last a c (by omega) hc H
  | succ n ih =>
    intro a c a0 hl hn hc H
    by_cases hae : a < e
    · apply L_Language_traitsOf_4
      rw [if_pos hae]
      have tL := SX_.1.2.2.1
      have e1 : xw (a + 1) = a + 1 := by unfold xw; omega
      have e2 : xw (a + 2) = a + 2 := by unfold xw; omega
      have gt := nxt_gt (h.i 6) (h.i q) e a
      have es : snds (h.i 6) (h.i q) e (n + 1) a = a :: snds (h.i 6) (h.i q) e n (nxt (h.i 6) (h.i q) e a) := by rw [snds, if_pos hae]
      rw [es] at H
      have v01 := vwl_01 (P := h.i 6) hV hl hae
      refine ⟨tL, c_X_isVowelAt SX_ tq a0 hae he hs hl hV ?_⟩
      refine ⟨tL, c_X_isPairAt SX_ tq a0 (by omega) he hs hl ?_⟩
      have fin := ih (nxt (h.i 6) (h.i q) e a) (vwl (h.i 6) (h.i 5) (h.i q) e a) (by omega) (lets_nxt hl) (by omega) v01 H
      unfold nxt at fin
      by_cases z : prs (h.i 6) (h.i q) e a = 0
      · rw [if_pos z] at fin
        rw [if_pos z, if_pos rfl, e1]
        intro x1 q1; subst q1; exact fin
      · rw [if_neg z] at fin
        rw [if_neg z, if_neg (by decide), e2]
        intro x1 q1; subst q1; exact fin
    · rw [snds_nil hae] at H
      exact last a c hae hc H
theorem c_X_traitsOf {b : Int} (SX_ : SX h) (tq : h.tag q = 20) (he : e ≤ h.len q) (hs : e < 100000) (hV : bits26 (h.i 5)) (b0 : 0 ≤ b) (hbe : b < e) (hlb : lets (h.i q) b e) (H : Q (vwl (h.i 6) (h.i 5) (h.i q) e b + 2 * lastv (h.i 6) (h.i 5) (h.i q) e (snds (h.i 6) (h.i q) e (e - b).toNat b) 0) h) : xCi (d + 3) M_Language_traitsOf [(1, 4), (1, q), (0, b), (0, e)] h Q := by
  apply L_Language_traitsOf
  exact c_X_traitsOf_4 SX_ tq he hs hV b0 hbe hlb (e - b).toNat b 0 b0 hlb (by omega) (Or.inl rfl) H
end XS
