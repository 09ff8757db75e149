/-! line: the class parts a word by rules -/
def drL : List Int := [17, 18, 19, 20, 21]
def drS : List (Int × Int) := [(16, 6)]
/-- the draft holds these syllables, these letters -/
def Dr (h : xH) (A : List FS) (T : List Int) : Prop := XF (XV h 16) A T ∧ psm A A.length = ((T.length : Nat) : Int)
theorem gD_i (D : List Int) {k : Int} {i : Nat} (h : k = (i : Int)) : gD D k = D.getD i 0 := by unfold gD; rw [h, Int.toNat_natCast]
section XRU
variable {d : Nat} {P V g : Int → Int} {D T0 : List Int} {q b e w : Int}
/-- the piece of text that the tape (or another row) holds from b on -/
def Src (h : xH) (q b : Int) (D : List Int) : Prop := h.tag q = 20 ∧ b + ((D.length : Nat) : Int) ≤ h.len q ∧ ∀ k : Nat, k < D.length → h.i q (b + k) = D.getD k 0
theorem src_sgs {h : xH} (Z : Src h q b D) {f l : Int} (f0 : 0 ≤ f) (l0 : 0 ≤ l) (fl : f + l ≤ ((D.length : Nat) : Int)) : sgs P V (h.i q) (b + f) (b + f + l) = sgs P V (gD D) f (f + l) := sgs_eq l0 (fun k k0 k1 => by
  obtain ⟨i, hi⟩ : ∃ i : Nat, f + k = (i : Int) := ⟨(f + k).toNat, by omega⟩
  rw [Int.add_assoc, hi, Z.2.2 i (by omega), gD_i D rfl])
theorem src_lets {h : xH} (Z : Src h q b D) (lc : ∀ c ∈ D, 97 ≤ c ∧ c ≤ 122) {x y : Int} (x0 : b ≤ x) (y1 : y ≤ b + ((D.length : Nat) : Int)) : lets (h.i q) x y := fun k k0 k1 => by
  obtain ⟨i, hi⟩ : ∃ i : Nat, k = b + (i : Int) := ⟨(k - b).toNat, by omega⟩
  rw [hi, Z.2.2 i (by omega)]
  exact lc _ (getD_mem 0 (by omega))
/-- one more syllable, out of a row q -/
theorem c_X_add16 {h : xH} {Q : Int → xH → Prop} {A : List FS} {T : List Int} {f l m : Int} {r : FS} {tr : Int} (SX_ : SX h) (Dr_ : Dr h A T) (a40 : A.length ≤ 40) (t192 : ((T.length : Nat) : Int) + l ≤ 192) (Z : Src h q b D) (b0 : 0 ≤ b) (b1 : b ≤ 500) (d500 : D.length ≤ 400) (f0 : 0 ≤ f) (l0 : 0 ≤ l) (fl : f + l ≤ ((D.length : Nat) : Int)) (r1 : r.w = w) (r2 : r.n = l) (r3 : r.m = m) (r4 : opn r.s + 2 * cls r.s + 4 * r.b = tr) (H1 : A.length < 40 → ∀ h', Fr drL drS h h' → Dr h' (A ++ [r]) (T ++ (D.drop f.toNat).take l.toNat) → Q 1 h') (H0 : A.length = 40 → Q 0 h) : xCi (d + 2) M_Syllables_add [(1, 16), (0, w), (1, q), (0, b + f), (0, b + f + l), (0, m), (0, tr)] h Q := by
  have g : h.tag 16 = 9 ∧ h.r 16 0 = 16 + 1 ∧ h.r 16 1 = 16 + 2 ∧ h.r 16 2 = 16 + 3 ∧ h.r 16 3 = 16 + 4 ∧ h.r 16 4 = 16 + 5 := by simp only [sxt SX_, sxl SX_, sxf SX_, true_and, and_true, false_and, and_false, forall_eq, forall_eq', xi_wi, xr_wi, xt_wi, xl_wi, xn_wi, xs_wi, xi_wr, xr_wr, xt_wr, xl_wr, xn_wr, xs_wr, if_true, if_false, and_self, Int.reduceEq, Int.reduceLT, Int.reduceLE, Int.reduceNeg, Int.le_refl, Int.reduceMod]; decide
  have g2 : (h.tag (16 + 1) = 20 ∧ h.tag (16 + 2) = 20 ∧ h.tag (16 + 3) = 20 ∧ h.tag (16 + 4) = 20 ∧ h.tag (16 + 5) = 20) ∧ h.len (16 + 1) = 192 ∧ h.len (16 + 2) = 40 + 1 ∧ h.len (16 + 3) = 40 ∧ h.len (16 + 4) = 40 ∧ h.len (16 + 5) = 40 := by
    show (h.tag 17 = 20 ∧ h.tag 18 = 20 ∧ h.tag 19 = 20 ∧ h.tag 20 = 20 ∧ h.tag 21 = 20) ∧ h.len 17 = 192 ∧ h.len 18 = 41 ∧ h.len 19 = 40 ∧ h.len 20 = 40 ∧ h.len 21 = 40
    simp only [sxt SX_, sxl SX_, sxf SX_, true_and, and_true, false_and, and_false, forall_eq, forall_eq', xi_wi, xr_wi, xt_wi, xl_wi, xn_wi, xs_wi, xi_wr, xr_wr, xt_wr, xl_wr, xn_wr, xs_wr, if_true, if_false, and_self, Int.reduceEq, Int.reduceLT, Int.reduceLE, Int.reduceNeg, Int.le_refl, Int.reduceMod]
  have sz : h.i 16 6 = ((A.length : Nat) : Int) := Dr_.1.1
  have st : h.i (16 + 2) ((A.length : Nat) : Int) = ((T.length : Nat) : Int) := by
    have := Dr_.1.2.2.1 A.length (Nat.le_refl _)
    rw [Dr_.2] at this
    rw [← this]
    show _ = h.i (h.r 16 1) _
    rw [g.2.2.1]
  have zl := Z.2.1
  have ll : (((D.drop f.toNat).take l.toNat).length : Int) = l := by rw [List.length_take, List.length_drop]; omega
  refine c_X_add (d := d) (N := 40) (L := 192) g.1 g.2.1 g.2.2.1 g.2.2.2.1 g.2.2.2.2.1 g.2.2.2.2.2 g2.1 g2.2 sz (by omega) (by omega) (by decide) st (by omega) (by omega) (by decide) Z.1 (by omega) (by omega) (by omega) (by omega) (fun s1 s2 h1 AO => ?_) (fun no => H0 (by omega))
  have X := XF_add (D := (D.drop f.toNat).take l.toNat) (r := r) SX_ Dr_.1 Dr_.2 AO (by rw [ll]; omega) (fun k hk => ?_) r1 (by rw [ll]; exact r2) r3 r4
  · exact H1 (by omega) h1 AO.1 X
  · have hk' : k < l.toNat := by omega
    rw [List.getD_eq_getElem?_getD, List.getElem?_take_of_lt hk', List.getElem?_drop, ← List.getD_eq_getElem?_getD, ← Z.2.2 (f.toNat + k) (by omega)]
    congr 1
    push_cast
    omega
/-- a syllable of a word that is parted by rules -/
def rsy (P V : Int → Int) (D : List Int) (w f l m bk : Int) : FS := (w, f, l, m, sgs P V (gD D) f (f + l), bk)
theorem take_ext {D : List Int} {f l : Int} (f0 : 0 ≤ f) (l0 : 0 ≤ l) : D.take f.toNat ++ (D.drop f.toNat).take l.toNat = D.take (f + l).toNat := by
  rw [show (f + l).toNat = f.toNat + l.toNat by omega, List.take_add]
theorem c_X_addRuled {h : xH} {Q : Int → xH → Prop} {A : List FS} {f l hv : Int} (SX_ : SX h) (eP : h.i 6 = P) (eV : h.i 5 = V) (hV : bits26 V) (lc : ∀ c ∈ D, 97 ≤ c ∧ c ≤ 122) (Dr_ : Dr h A (T0 ++ D.take f.toNat)) (a40 : A.length ≤ 40) (t192 : T0.length + D.length ≤ 192) (Z : Src h q b D) (b0 : 0 ≤ b) (b1 : b ≤ 500) (f0 : 0 ≤ f) (l0 : 1 ≤ l) (fl : f + l ≤ ((D.length : Nat) : Int)) (hh : hv = 0 ∨ hv = 1) (H1 : A.length < 40 → ∀ h', Fr drL drS h h' → Dr h' (A ++ [rsy P V D w f l (if hv = 0 then 2 else 1) 0]) (T0 ++ D.take (f + l).toNat) → Q 1 h') (H0 : A.length = 40 → Q 0 h) : xCi (d + 4) M_LineReader_addRuled [(1, 15), (0, w), (1, q), (0, b + f), (0, b + f + l), (0, hv)] h Q := by
  have g : h.tag 15 = 3 ∧ h.r 15 0 = 4 ∧ h.tag 4 = 2 ∧ h.r 15 2 = 16 ∧ h.tag 16 = 9 := by simp only [sxt SX_, sxl SX_, sxf SX_, true_and, and_true, false_and, and_false, forall_eq, forall_eq', xi_wi, xr_wi, xt_wi, xl_wi, xn_wi, xs_wi, xi_wr, xr_wr, xt_wr, xl_wr, xn_wr, xs_wr, if_true, if_false, and_self, Int.reduceEq, Int.reduceLT, Int.reduceLE, Int.reduceNeg, Int.le_refl, Int.reduceMod]
  have es := src_sgs (P := P) (V := V) Z f0 (by omega) fl
  have zl := Z.2.1
  have main : ∀ mk : Int, mk = (if hv = 0 then 2 else 1) → h.tag 15 = 3 ∧ (h.tag (h.r 15 0) = 2 ∧ (xCi (d + 3) M_Language_traitsOf [(1, h.r 15 0), (1, q), (0, b + f), (0, b + f + l)] h (fun r1 h1 => h1.tag (h.r 15 2) = 9 ∧ (xCi (d + 3) M_Syllables_add [(1, h.r 15 2), (0, w), (1, q), (0, b + f), (0, b + f + l), (0, mk), (0, r1)] h1 (fun r2 h2 => (r2 = 0 ∨ r2 = 1) ∧ Q r2 h2))))) := fun mk emk => by
    rw [g.2.1, g.2.2.2.1]
    refine ⟨g.1, g.2.2.1, ?_⟩
    refine c_X_traits (d := d) SX_ Z.1 (by omega) (by omega) (by rw [eV]; exact hV) (by omega) (by omega) (src_lets Z lc (by omega) (by omega)) ?_
    rw [eP, eV, es]
    refine ⟨g.2.2.2.2, ?_⟩
    have t1 : (((T0 ++ D.take f.toNat).length : Nat) : Int) = ((T0.length : Nat) : Int) + f := by rw [List.length_append, List.length_take]; omega
    refine c_X_add16 (d := d + 1) (r := rsy P V D w f l mk 0) SX_ Dr_ a40 (by omega) Z b0 b1 (by omega) f0 (by omega) fl rfl rfl rfl (by show _ + 2 * _ + 4 * 0 = _; rw [Int.mul_zero, Int.add_zero]; rfl) (fun lt h' F X => ⟨Or.inr rfl, ?_⟩) (fun e40 => ⟨Or.inl rfl, H0 e40⟩)
    refine H1 lt h' F ?_
    rw [← emk]
    rw [List.append_assoc, take_ext f0 (by omega)] at X
    exact X
  apply L_LineReader_addRuled
  by_cases c : hv = 0
  · rw [if_pos c]
    exact main 2 (by rw [if_pos c])
  · rw [if_neg c]
    exact main 1 (by rw [if_neg c])
theorem rulS_len (S : List (Int × Int)) : ∀ (pos start bv lg ls : Int), 1 ≤ (rulS S pos start bv lg ls).length := by
  induction S with
  | nil => intro pos start bv lg ls; exact Nat.le_refl _
  | cons s r ih =>
    intro pos start bv lg ls
    rw [rulS]
    by_cases c : s.2 = 1
    · rw [if_pos c]
      by_cases c2 : bv = -1
      · rw [if_pos c2]; exact ih _ _ _ _ _
      · rw [if_neg c2, List.length_cons]; omega
    · rw [if_neg c]; exact ih _ _ _ _ _
def bvA (b bv : Int) : Int := if bv = -1 then -1 else b + bv
/-- how the loop over the sounds stands -/
def RuI (pos start bv ls : Int) : Prop := 0 ≤ start ∧ start ≤ pos ∧ (bv = -1 ∨ (start < bv ∧ bv ≤ pos ∧ (pos = bv ∨ (bv ≤ ls ∧ ls < pos))))
theorem c_X_rulz {h : xH} {Q : Int → xH → Prop} (SX_ : SX h) (eP : h.i 6 = P) (eV : h.i 5 = V) (hV : bits26 V) (lc : ∀ c ∈ D, 97 ≤ c ∧ c ≤ 122) (Z : Src h q b D) (b0 : 0 ≤ b) (b1 : b ≤ 500) (d16 : D.length ≤ 16) (H : Q 0 h) : ∀ (m : Nat) (at_ l5 l6 l7 l8 : Int) (u3 u11 : xV), b + ((D.length : Nat) : Int) - at_ ≤ m → b ≤ at_ → xT (d + 4) M_LineReader_addByRules 12 [(1, 15), (0, w), (1, q), u3, (0, b + ((D.length : Nat) : Int)), (0, l5), (0, l6), (0, l7), (0, l8), (0, 0), (0, at_), u11] [] h (xqi Q) := by
  have g : h.tag 15 = 3 ∧ h.r 15 0 = 4 ∧ h.tag 4 = 2 := by simp only [sxt SX_, sxl SX_, sxf SX_, true_and, and_true, false_and, and_false, forall_eq, forall_eq', xi_wi, xr_wi, xt_wi, xl_wi, xn_wi, xs_wi, xi_wr, xr_wr, xt_wr, xl_wr, xn_wr, xs_wr, if_true, if_false, and_self, Int.reduceEq, Int.reduceLT, Int.reduceLE, Int.reduceNeg, Int.le_refl, Int.reduceMod]
  have zl := Z.2.1
  intro m
  induction m with
  | zero =>
    intro at_ l5 l6 l7 l8 u3 u11 hm ba
    apply L_LineReader_addByRules_12
    rw [if_neg (by omega), if_pos rfl]
    exact H
  | succ m ih =>
    intro at_ l5 l6 l7 l8 u3 u11 hm ba
    apply L_LineReader_addByRules_12
    by_cases c : at_ < b + ((D.length : Nat) : Int)
    · rw [if_pos c, g.2.1]
      have lt := src_lets Z lc (x := at_) (y := b + ((D.length : Nat) : Int)) ba (Int.le_refl _)
      have nx : ∀ (x l5 l6 l7 l8 : Int) (u11 : xV), (x = xw (at_ + 1) ∨ x = xw (at_ + 2)) → xT (d + 4) M_LineReader_addByRules 12 [(1, 15), (0, w), (1, q), u3, (0, b + ((D.length : Nat) : Int)), (0, l5), (0, l6), (0, l7), (0, l8), (0, 0), (0, x), u11] [] h (xqi Q) := fun x l5 l6 l7 l8 u11 e => by
        rcases e with e | e
        · rw [xw_id (by omega) (by omega)] at e
          exact ih x l5 l6 l7 l8 u3 u11 (by push_cast at hm; omega) (by omega)
        · rw [xw_id (by omega) (by omega)] at e
          exact ih x l5 l6 l7 l8 u3 u11 (by push_cast at hm; omega) (by omega)
      have p55 : ∀ (l5 : Int) (u6 u7 u8 u11 : xV), xT (d + 4) M_LineReader_addByRules 55 [(1, 15), (0, w), (1, q), u3, (0, b + ((D.length : Nat) : Int)), (0, l5), u6, u7, u8, (0, 0), (0, at_), u11] [] h (xqi Q) := fun l5 u6 u7 u8 u11 => by
        apply L_LineReader_addByRules_55
        rw [g.2.1]
        refine ⟨g.1, g.2.2, ?_⟩
        refine c_X_isPairAt (d := d + 2) SX_ Z.1 (by omega) (by omega) (by omega) (by omega) lt ?_
        by_cases z : prs (h.i 6) (h.i q) (b + ((D.length : Nat) : Int)) at_ = 0
        · rw [if_pos z, if_pos rfl]
          intro x1 e1
          refine ⟨g.1, by rw [g.2.1]; exact g.2.2, ?_⟩
          rw [g.2.1]
          refine c_X_isPairAt (d := d + 2) SX_ Z.1 (by omega) (by omega) (by omega) (by omega) lt ?_
          rw [if_pos z, if_pos rfl]
          intro x2 e2
          exact nx x2 _ _ _ _ _ (Or.inl e2)
        · rw [if_neg z, if_neg (by decide)]
          intro x1 e1
          refine ⟨g.1, by rw [g.2.1]; exact g.2.2, ?_⟩
          rw [g.2.1]
          refine c_X_isPairAt (d := d + 2) SX_ Z.1 (by omega) (by omega) (by omega) (by omega) lt ?_
          rw [if_neg z, if_neg (by decide)]
          intro x2 e2
          exact nx x2 _ _ _ _ _ (Or.inr e2)
      have p31 : ∀ (l5 l6 l7 s0 : Int) (u8 u11 : xV), xT (d + 4) M_LineReader_addByRules 31 [(1, 15), (0, w), (1, q), u3, (0, b + ((D.length : Nat) : Int)), (0, l5), (0, l6), (0, l7), u8, (0, 0), (0, at_), u11] [(0, s0)] h (xqi Q) := fun l5 l6 l7 s0 u8 u11 => by
        apply L_LineReader_addByRules_31
        rw [if_pos rfl]
        exact p55 _ _ _ _ _
      refine ⟨g.1, g.2.2, ?_⟩
      refine c_X_isVowelAt (d := d + 2) SX_ Z.1 (by omega) c (by omega) (by omega) lt (by rw [eV]; exact hV) ?_
      by_cases v : vwl (h.i 6) (h.i 5) (h.i q) (b + ((D.length : Nat) : Int)) at_ = 0
      · rw [if_pos v, g.2.1]
        refine ⟨g.1, g.2.2, ?_⟩
        refine c_X_isPairAt (d := d + 2) SX_ Z.1 (by omega) (by omega) (by omega) (by omega) lt ?_
        by_cases z : prs (h.i 6) (h.i q) (b + ((D.length : Nat) : Int)) at_ = 0
        · rw [if_pos z, if_pos rfl]
          intro x1 e1
          exact nx x1 _ _ _ _ _ (Or.inl e1)
        · rw [if_neg z, if_neg (by decide)]
          intro x1 e1
          exact nx x1 _ _ _ _ _ (Or.inr e1)
      · rw [if_neg v]
        by_cases c6 : l6 = -1
        · rw [if_pos c6]; exact p55 _ _ _ _ _
        · rw [if_neg c6]
          by_cases c7 : at_ = l6
          · rw [if_pos c7]; exact p31 _ _ _ _ _ _
          · rw [if_neg c7]; exact p31 _ _ _ _ _ _
    · rw [if_neg c, if_pos rfl]
      exact H
end XRU
