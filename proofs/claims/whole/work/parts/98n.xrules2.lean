/-! line: the class parts a word by rules, the loop -/
section XRV
variable {d : Nat} {P V g : Int → Int} {D T0 : List Int} {q b w : Int}
theorem sgs_head {P V g g' : Int → Int} {a e a' e' : Int} (h : sgs P V g a e = sgs P V g' a' e') (c : a < e) (c' : a' < e') : rsn P g e a = rsn P g' e' a' ∧ vwl P V g e a = vwl P V g' e' a' := by
  rw [sgs_cons c, sgs_cons c'] at h
  have := (List.cons.inj h).1
  exact ⟨congrArg Prod.fst this, congrArg Prod.snd this⟩
theorem letD {D : List Int} (lc : ∀ c ∈ D, 97 ≤ c ∧ c ≤ 122) {x : Int} (x0 : 0 ≤ x) : lets (gD D) x ((D.length : Nat) : Int) := fun k k0 k1 => by
  rw [gD_i D (i := k.toNat) (by omega)]
  exact lc _ (getD_mem 0 (by omega))
theorem rulM_hv (lg bv s : Int) : rulM lg bv s = if (if lg = 1 ∨ bv < s then (1 : Int) else 0) = 0 then 2 else 1 := by
  unfold rulM
  by_cases c : lg = 1 ∨ bv < s
  · rw [if_pos c, if_pos c, if_neg (by decide)]
  · rw [if_neg c, if_neg c, if_pos rfl]
theorem q_dr {q : Int} (h : q < 16 ∨ 22 ≤ q) : q ∉ drL ∧ ∀ y ∈ drS, y.1 ≠ q := by
  refine ⟨fun m => ?_, fun y m e => ?_⟩
  · unfold drL at m
    simp only [List.mem_cons, List.not_mem_nil, or_false] at m
    omega
  · unfold drS at m
    rw [List.mem_singleton] at m
    rw [m] at e
    have : (16 : Int) = q := e
    omega
theorem dr_18 {h : xH} {A : List FS} {T : List Int} (SX_ : SX h) (Dr_ : Dr h A T) : h.i 18 0 = 0 := by
  have := Dr_.1.2.2.1 0 (Nat.zero_le _)
  have e : XV h 16 2 ((0 : Nat) : Int) = h.i (h.r 16 1) 0 := rfl
  rw [e, show h.r 16 1 = 18 by simp only [sxt SX_, sxl SX_, sxf SX_, true_and, and_true, false_and, and_false, forall_eq, forall_eq', xi_wi, xr_wi, xt_wi, xl_wi, xn_wi, xs_wi, xi_wr, xr_wr, xt_wr, xl_wr, xn_wr, xs_wr, if_true, if_false, and_self, Int.reduceEq, Int.reduceLT, Int.reduceLE, Int.reduceNeg, Int.le_refl, Int.reduceMod]] at this
  rw [this]; rfl
theorem c_X_rulend {Q : Int → xH → Prop} (hV : bits26 V) (lc : ∀ c ∈ D, 97 ≤ c ∧ c ≤ 122) (b0 : 0 ≤ b) (b1 : b ≤ 500) (d16 : D.length ≤ 16) (t192 : T0.length + D.length ≤ 192) {A : List FS} {pos start bv lg ls : Int} {h : xH} {u3 u11 : xV} (ep : pos = ((D.length : Nat) : Int)) (bn : bv ≠ -1) (r1 : 0 ≤ start) (hlg : lg = 0 ∨ lg = 1) (SX_ : SX h) (eP : h.i 6 = P) (eV : h.i 5 = V) (Z : Src h q b D) (Dr_ : Dr h A (T0 ++ D.take start.toNat)) (a40 : A.length ≤ 40) (sD : start < ((D.length : Nat) : Int)) (H1 : A.length + 1 ≤ 40 → ∀ h', Fr drL drS h h' → Dr h' (A ++ fsyl w 0 start (mkSy P V D start [(pos - start, rulM lg bv pos)])) (T0 ++ D) → Q 1 h') (H0 : 40 < A.length + 1 → ∀ h', Fr drL drS h h' → h'.i 18 0 = 0 → Q 0 h') : xT (d + 5) M_LineReader_addByRules 12 [(1, 15), (0, w), (1, q), u3, (0, b + ((D.length : Nat) : Int)), (0, b + start), (0, bvA b bv), (0, lg), (0, b + ls), (0, 1), (0, b + pos), u11] [] h (xqi Q) := by
  have z11 := dr_18 SX_ Dr_
  have gg : h.tag 15 = 3 := by simp only [sxt SX_, sxl SX_, sxf SX_, true_and, and_true, false_and, and_false, forall_eq, forall_eq', xi_wi, xr_wi, xt_wi, xl_wi, xn_wi, xs_wi, xi_wr, xr_wr, xt_wr, xl_wr, xn_wr, xs_wr, if_true, if_false, and_self, Int.reduceEq, Int.reduceLT, Int.reduceLE, Int.reduceNeg, Int.le_refl, Int.reduceMod]
  have eb : bvA b bv = b + bv := by unfold bvA; rw [if_neg bn]
  apply L_LineReader_addByRules_12
  rw [if_neg (by omega), if_neg (by decide)]
  have run : ∀ hv : Int, hv = (if lg = 1 ∨ bv < pos then (1 : Int) else 0) → h.tag 15 = 3 ∧ (xCi (d + 5) M_LineReader_addRuled [(1, 15), (0, w), (1, q), (0, b + start), (0, b + ((D.length : Nat) : Int)), (0, hv)] h (fun r3 h3 => if r3 = 0 then Q 0 h3 else Q 1 h3)) := fun hv ehv => by
    have h01 : hv = 0 ∨ hv = 1 := by
      rw [ehv]
      by_cases c : lg = 1 ∨ bv < pos
      · rw [if_pos c]; exact Or.inr rfl
      · rw [if_neg c]; exact Or.inl rfl
    refine ⟨gg, ?_⟩
    have := c_X_addRuled (d := d + 1) (P := P) (V := V) (D := D) (T0 := T0) (q := q) (b := b) (w := w) (h := h) (A := A) (f := start) (l := ((D.length : Nat) : Int) - start) (hv := hv) (Q := fun r3 h3 => if r3 = 0 then Q 0 h3 else Q 1 h3) SX_ eP eV hV lc Dr_ a40 t192 Z b0 b1 r1 (by omega) (by omega) h01 (fun lt h' F X => ?_) (fun e40 => ?_)
    · rw [show b + start + (((D.length : Nat) : Int) - start) = b + ((D.length : Nat) : Int) by omega] at this
      exact this
    · rw [if_neg (by decide)]
      refine H1 (by omega) h' F ?_
      rw [show (start + (((D.length : Nat) : Int) - start)).toNat = D.length by omega, List.take_length] at X
      have e : fsyl w 0 start (mkSy P V D start [(pos - start, rulM lg bv pos)]) = [rsy P V D w start (((D.length : Nat) : Int) - start) (if hv = 0 then 2 else 1) 0] := by
        rw [mkSy, mkSy, fsyl, fsyl]
        unfold rsy
        rw [rulM_hv, ehv, ep]
      rw [e]
      exact X
    · rw [if_pos rfl]
      exact H0 (by omega) h (Fr_refl _ _ _) z11
  by_cases c7 : lg = 0
  · rw [if_pos c7, eb]
    by_cases c6 : b + bv < b + ((D.length : Nat) : Int)
    · rw [if_pos c6]; exact run 1 (by rw [if_pos (Or.inr (by omega))])
    · rw [if_neg c6]; exact run 0 (by rw [if_neg (by omega)])
  · rw [if_neg c7]; exact run 1 (by rw [if_pos (Or.inl (by omega))])
theorem rulM_hv' {lg bv s hv : Int} (e : hv = (if lg = 1 ∨ bv < s then (1 : Int) else 0)) : rulM lg bv s = if hv = 0 then 2 else 1 := by rw [e]; exact rulM_hv lg bv s
theorem c_X_rul12 {Q : Int → xH → Prop} (hV : bits26 V) (lc : ∀ c ∈ D, 97 ≤ c ∧ c ≤ 122) (b0 : 0 ≤ b) (b1 : b ≤ 500) (d16 : D.length ≤ 16) (t192 : T0.length + D.length ≤ 192) (q17 : q < 16 ∨ 22 ≤ q) : ∀ (m : Nat) (A : List FS) (pos start bv lg ls : Int) (h : xH) (u3 u11 : xV), ((D.length : Nat) : Int) - pos ≤ m → pos ≤ ((D.length : Nat) : Int) → (bv = -1 → ∃ p ∈ sgs P V (gD D) pos ((D.length : Nat) : Int), p.2 = 1) → RuI pos start bv ls → (lg = 0 ∨ lg = 1) → 0 ≤ ls → SX h → h.i 6 = P → h.i 5 = V → Src h q b D → Dr h A (T0 ++ D.take start.toNat) → A.length ≤ 40 → start < ((D.length : Nat) : Int) → (A.length + (rulS (sgs P V (gD D) pos ((D.length : Nat) : Int)) pos start bv lg ls).length ≤ 40 → ∀ h', Fr drL drS h h' → Dr h' (A ++ fsyl w 0 start (mkSy P V D start (rulS (sgs P V (gD D) pos ((D.length : Nat) : Int)) pos start bv lg ls))) (T0 ++ D) → Q 1 h') → (40 < A.length + (rulS (sgs P V (gD D) pos ((D.length : Nat) : Int)) pos start bv lg ls).length → ∀ h', Fr drL drS h h' → h'.i 18 0 = 0 → Q 0 h') → xT (d + 5) M_LineReader_addByRules 12 [(1, 15), (0, w), (1, q), u3, (0, b + ((D.length : Nat) : Int)), (0, b + start), (0, bvA b bv), (0, lg), (0, b + ls), (0, 1), (0, b + pos), u11] [] h (xqi Q) := by
  intro m
  induction m with
  | zero =>
    intro A pos start bv lg ls h u3 u11 hm pd pb R hlg ls0 SX_ eP eV Z Dr_ a40 sD H1 H0
    have ep : pos = ((D.length : Nat) : Int) := by omega
    have eS : sgs P V (gD D) pos ((D.length : Nat) : Int) = [] := sgs_nil (by omega)
    have bn : bv ≠ -1 := fun y => by
      obtain ⟨p, mp, _⟩ := pb y
      rw [eS] at mp
      exact absurd mp List.not_mem_nil
    rw [eS, rulS] at H1 H0
    exact c_X_rulend (ls := ls) hV lc b0 b1 d16 t192 ep bn R.1 hlg SX_ eP eV Z Dr_ a40 sD H1 H0
  | succ m ih =>
    intro A pos start bv lg ls h u3 u11 hm pd pb R hlg ls0 SX_ eP eV Z Dr_ a40 sD H1 H0
    have R' := R
    obtain ⟨r1, r2, r3⟩ := R'
    have gg : h.tag 15 = 3 ∧ h.r 15 0 = 4 ∧ h.tag 4 = 2 := by simp only [sxt SX_, sxl SX_, sxf SX_, true_and, and_true, false_and, and_false, forall_eq, forall_eq', xi_wi, xr_wi, xt_wi, xl_wi, xn_wi, xs_wi, xi_wr, xr_wr, xt_wr, xl_wr, xn_wr, xs_wr, if_true, if_false, and_self, Int.reduceEq, Int.reduceLT, Int.reduceLE, Int.reduceNeg, Int.le_refl, Int.reduceMod]
    have z11 := dr_18 SX_ Dr_
    by_cases c : pos < ((D.length : Nat) : Int)
    · have zl := Z.2.1
      have lt := src_lets Z lc (x := b + pos) (y := b + ((D.length : Nat) : Int)) (by omega) (Int.le_refl _)
      have es := src_sgs (P := P) (V := V) Z (f := pos) (l := ((D.length : Nat) : Int) - pos) (by omega) (by omega) (by omega)
      rw [show b + pos + (((D.length : Nat) : Int) - pos) = b + ((D.length : Nat) : Int) by omega, show pos + (((D.length : Nat) : Int) - pos) = ((D.length : Nat) : Int) by omega] at es
      have hd := sgs_head es (by omega) c
      have lD := letD lc (x := pos) (by omega)
      have hS := sgs_cons (P := P) (V := V) (g := gD D) c
      have nl := nxt_sl (P := P) (V := V) lD c
      rw [nl] at hS
      have sl := slen_12 (rsn P (gD D) ((D.length : Nat) : Int) pos, vwl P V (gD D) ((D.length : Nat) : Int) pos)
      have nle := nxt_le (P := P) (g := gD D) c
      rw [nl] at nle
      have nlX := nxt_sl (P := P) (V := V) lt (by omega)
      rw [hd.1, hd.2] at nlX
      have v01 := vwl_01 (P := P) hV lD c
      rw [hS, rulS] at H1 H0
      generalize hs : (rsn P (gD D) ((D.length : Nat) : Int) pos, vwl P V (gD D) ((D.length : Nat) : Int) pos) = s at *
      have s2 : s.2 = vwl P V (gD D) ((D.length : Nat) : Int) pos := by rw [← hs]
      have s1 : s.1 = rsn P (gD D) ((D.length : Nat) : Int) pos := by rw [← hs]
      -- a pair or not
      have pr : (prs P (h.i q) (b + ((D.length : Nat) : Int)) (b + pos) = 0 ↔ slen s = 1) ∧ (prs P (h.i q) (b + ((D.length : Nat) : Int)) (b + pos) = 0 ↔ lgS s = 0) := by
        unfold nxt at nlX
        have l0 := lt (b + pos) (Int.le_refl _) (by omega)
        by_cases z : prs P (h.i q) (b + ((D.length : Nat) : Int)) (b + pos) = 0
        · rw [if_pos z] at nlX
          refine ⟨⟨fun _ => by omega, fun _ => z⟩, ⟨fun _ => ?_, fun _ => z⟩⟩
          unfold lgS
          unfold slen at nlX
          by_cases y : s.1 < 100
          · rw [if_pos y]
          · rw [if_neg y] at nlX; omega
        · rw [if_neg z] at nlX
          refine ⟨⟨fun y => absurd y z, fun y => by omega⟩, ⟨fun y => absurd y z, fun y => ?_⟩⟩
          unfold lgS at y
          unfold slen at nlX
          by_cases y2 : s.1 < 100
          · rw [if_pos y2] at nlX; omega
          · rw [if_neg y2] at y; exact absurd y (by decide)
      apply L_LineReader_addByRules_12
      rw [if_pos (by omega), gg.2.1]
      refine ⟨gg.1, gg.2.2, ?_⟩
      refine c_X_isVowelAt (d := d + 3) SX_ Z.1 (by omega) (by omega) (by omega) (by omega) lt (by rw [eV]; exact hV) ?_
      rw [eP, eV, hd.2]
      by_cases v : vwl P V (gD D) ((D.length : Nat) : Int) pos = 0
      · rw [if_pos v, gg.2.1]
        rw [if_neg (by omega)] at H1 H0
        refine ⟨gg.1, gg.2.2, ?_⟩
        refine c_X_isPairAt (d := d + 3) SX_ Z.1 (by omega) (by omega) (by omega) (by omega) lt ?_
        rw [eP]
        have go : ∀ x : Int, x = b + (pos + slen s) → xT (d + 5) M_LineReader_addByRules 12 [(1, 15), (0, w), (1, q), u3, (0, b + ((D.length : Nat) : Int)), (0, b + start), (0, bvA b bv), (0, lg), (0, b + pos), (0, 1), (0, x), u11] [] h (xqi Q) := fun x ex => by
          rw [ex]
          refine ih A (pos + slen s) start bv lg pos h u3 u11 (by push_cast at hm; omega) nle (fun y => ?_) ⟨r1, by omega, by omega⟩ hlg (by omega) SX_ eP eV Z Dr_ a40 sD H1 H0
          obtain ⟨p, mp, e1⟩ := pb y
          rw [hS, List.mem_cons] at mp
          rcases mp with mp | mp
          · rw [mp] at e1; omega
          · exact ⟨p, mp, e1⟩
        by_cases z : prs P (h.i q) (b + ((D.length : Nat) : Int)) (b + pos) = 0
        · rw [if_pos z, if_pos rfl]
          intro x1 e1
          rw [xw_id (by omega) (by omega)] at e1
          exact go x1 (by have := pr.1.mp z; omega)
        · rw [if_neg z, if_neg (by decide)]
          intro x1 e1
          rw [xw_id (by omega) (by omega)] at e1
          exact go x1 (by have : slen s ≠ 1 := fun y => z (pr.1.mpr y); omega)
      · have v1 : s.2 = 1 := by omega
        rw [if_neg v]
        rw [if_pos v1] at H1 H0
        -- behind the vowel
        have p55 : ∀ (room l5 : Int) (h1 : xH) (u6 u7 u8 u11 : xV), SX h1 → h1.i 6 = P → Src h1 q b D → (∀ u11, xT (d + 5) M_LineReader_addByRules 12 [(1, 15), (0, w), (1, q), u3, (0, b + ((D.length : Nat) : Int)), (0, l5), (0, b + (pos + slen s)), (0, lgS s), (0, b + pos), (0, room), (0, b + (pos + slen s)), u11] [] h1 (xqi Q)) → xT (d + 5) M_LineReader_addByRules 55 [(1, 15), (0, w), (1, q), u3, (0, b + ((D.length : Nat) : Int)), (0, l5), u6, u7, u8, (0, room), (0, b + pos), u11] [] h1 (xqi Q) := fun room l5 h1 u6 u7 u8 u11 SX1 eP1 Z1 K => by
          have g1 : h1.tag 15 = 3 ∧ h1.r 15 0 = 4 ∧ h1.tag 4 = 2 := by have SX_ := SX1; simp only [sxt SX_, sxl SX_, sxf SX_, true_and, and_true, false_and, and_false, forall_eq, forall_eq', xi_wi, xr_wi, xt_wi, xl_wi, xn_wi, xs_wi, xi_wr, xr_wr, xt_wr, xl_wr, xn_wr, xs_wr, if_true, if_false, and_self, Int.reduceEq, Int.reduceLT, Int.reduceLE, Int.reduceNeg, Int.le_refl, Int.reduceMod]
          have lt1 := src_lets Z1 lc (x := b + pos) (y := b + ((D.length : Nat) : Int)) (by omega) (Int.le_refl _)
          have zl1 := Z1.2.1
          have es1 := src_sgs (P := P) (V := V) Z1 (f := pos) (l := ((D.length : Nat) : Int) - pos) (by omega) (by omega) (by omega)
          have pe : prs (h1.i 6) (h1.i q) (b + ((D.length : Nat) : Int)) (b + pos) = prs P (h.i q) (b + ((D.length : Nat) : Int)) (b + pos) := by
            rw [eP1]
            unfold prs
            have i0 := Z.2.2 pos.toNat (by omega)
            have j0 := Z1.2.2 pos.toNat (by omega)
            rw [show b + ((pos.toNat : Nat) : Int) = b + pos by omega] at i0 j0
            by_cases y : b + pos + 1 < b + ((D.length : Nat) : Int)
            · have i1 := Z.2.2 (pos.toNat + 1) (by omega)
              have j1 := Z1.2.2 (pos.toNat + 1) (by omega)
              rw [show b + ((pos.toNat + 1 : Nat) : Int) = b + pos + 1 by omega] at i1 j1
              rw [if_pos y, if_pos y, i0, j0, i1, j1]
            · rw [if_neg y, if_neg y]
          apply L_LineReader_addByRules_55
          rw [g1.2.1]
          refine ⟨g1.1, g1.2.2, ?_⟩
          refine c_X_isPairAt (d := d + 3) SX1 Z1.1 (by omega) (by omega) (by omega) (by omega) lt1 ?_
          rw [pe]
          by_cases z : prs P (h.i q) (b + ((D.length : Nat) : Int)) (b + pos) = 0
          · have z1 := pr.1.mp z
            have z2 := pr.2.mp z
            rw [if_pos z, if_pos rfl]
            intro x1 e1
            rw [xw_id (by omega) (by omega)] at e1
            refine ⟨g1.1, by rw [g1.2.1]; exact g1.2.2, ?_⟩
            rw [g1.2.1]
            refine c_X_isPairAt (d := d + 3) SX1 Z1.1 (by omega) (by omega) (by omega) (by omega) lt1 ?_
            rw [pe, if_pos z, if_pos rfl]
            intro x2 e2
            rw [xw_id (by omega) (by omega)] at e2
            have := K u11
            rw [z2] at this
            rw [show x1 = b + (pos + slen s) by omega, show x2 = b + (pos + slen s) by omega]
            exact this
          · have z1 : slen s = 2 := by have : slen s ≠ 1 := fun y => z (pr.1.mpr y); omega
            have z2 : lgS s = 1 := by
              have : lgS s ≠ 0 := fun y => z (pr.2.mpr y)
              unfold lgS at this ⊢
              by_cases y : s.1 < 100
              · rw [if_pos y] at this; exact absurd rfl this
              · rw [if_neg y]
            rw [if_neg z, if_neg (by decide)]
            intro x1 e1
            rw [xw_id (by omega) (by omega)] at e1
            refine ⟨g1.1, by rw [g1.2.1]; exact g1.2.2, ?_⟩
            rw [g1.2.1]
            refine c_X_isPairAt (d := d + 3) SX1 Z1.1 (by omega) (by omega) (by omega) (by omega) lt1 ?_
            rw [pe, if_neg z, if_neg (by decide)]
            intro x2 e2
            rw [xw_id (by omega) (by omega)] at e2
            have := K u11
            rw [z2] at this
            rw [show x1 = b + (pos + slen s) by omega, show x2 = b + (pos + slen s) by omega]
            exact this
        have bvS : bvA b (pos + slen s) = b + (pos + slen s) := by unfold bvA; rw [if_neg (by omega)]
        have lg01 : lgS s = 0 ∨ lgS s = 1 := by
          unfold lgS
          by_cases y : s.1 < 100
          · rw [if_pos y]; exact Or.inl rfl
          · rw [if_neg y]; exact Or.inr rfl
        by_cases c6 : bv = -1
        · rw [if_pos c6] at H1 H0
          have e6 : bvA b bv = -1 := by unfold bvA; rw [if_pos c6]
          rw [if_pos e6]
          refine p55 1 (b + start) h _ _ _ _ SX_ eP Z (fun u11 => ?_)
          have := ih A (pos + slen s) start (pos + slen s) (lgS s) pos h u3 u11 (by push_cast at hm; omega) nle (fun y => by omega) ⟨r1, by omega, Or.inr ⟨by omega, Int.le_refl _, Or.inl rfl⟩⟩ lg01 (by omega) SX_ eP eV Z Dr_ a40 sD H1 H0
          rw [bvS] at this
          exact this
        · have e6 : bvA b bv = b + bv := by unfold bvA; rw [if_neg c6]
          have rr := r3.resolve_left c6
          rw [if_neg c6] at H1 H0
          rw [if_neg (by omega), e6]
          -- one piece more
          have p31 : ∀ stop : Int, stop = (if pos = bv then pos else ls) → xT (d + 5) M_LineReader_addByRules 31 [(1, 15), (0, w), (1, q), u3, (0, b + ((D.length : Nat) : Int)), (0, b + start), (0, b + bv), (0, lg), (0, b + ls), (0, 1), (0, b + pos), u11] [(0, b + stop)] h (xqi Q) := fun stop est => by
            have sb : start < stop ∧ stop ≤ pos := by
              rw [est]
              by_cases y : pos = bv
              · rw [if_pos y]; omega
              · rw [if_neg y]; omega
            rw [← est] at H1 H0
            rw [List.length_cons] at H1 H0
            rw [mkSy] at H1
            rw [show start + (stop - start, rulM lg bv stop).1 = stop by show start + (stop - start) = stop; omega] at H1
            rw [fsyl] at H1
            rw [show start + (stop - start, rulM lg bv stop, sgs P V (gD D) start stop).1 = stop by show start + (stop - start) = stop; omega] at H1
            have run : ∀ hv : Int, hv = (if lg = 1 ∨ bv < stop then (1 : Int) else 0) → h.tag 15 = 3 ∧ (xCi (d + 5) M_LineReader_addRuled [(1, 15), (0, w), (1, q), (0, b + start), (0, b + stop), (0, hv)] h (fun r1 h1 => if r1 = 0 then xT (d + 5) M_LineReader_addByRules 55 [(1, 15), (0, w), (1, q), u3, (0, b + ((D.length : Nat) : Int)), (0, b + stop), (0, b + bv), (0, lg), (xkl (0, b + ls)), (0, 0), (0, b + pos), (0, b + stop)] [] h1 (xqi Q) else xT (d + 5) M_LineReader_addByRules 55 [(1, 15), (0, w), (1, q), u3, (0, b + ((D.length : Nat) : Int)), (0, b + stop), (0, b + bv), (0, lg), (xkl (0, b + ls)), (0, 1), (0, b + pos), (0, b + stop)] [] h1 (xqi Q))) := fun hv ehv => by
              have h01 : hv = 0 ∨ hv = 1 := by
                rw [ehv]
                by_cases y : lg = 1 ∨ bv < stop
                · rw [if_pos y]; exact Or.inr rfl
                · rw [if_neg y]; exact Or.inl rfl
              refine ⟨gg.1, ?_⟩
              have := c_X_addRuled (d := d + 1) (P := P) (V := V) (D := D) (T0 := T0) (q := q) (b := b) (w := w) (h := h) (A := A) (f := start) (l := stop - start) (hv := hv) (Q := fun r1 h1 => if r1 = 0 then xT (d + 5) M_LineReader_addByRules 55 [(1, 15), (0, w), (1, q), u3, (0, b + ((D.length : Nat) : Int)), (0, b + stop), (0, b + bv), (0, lg), (xkl (0, b + ls)), (0, 0), (0, b + pos), (0, b + stop)] [] h1 (xqi Q) else xT (d + 5) M_LineReader_addByRules 55 [(1, 15), (0, w), (1, q), u3, (0, b + ((D.length : Nat) : Int)), (0, b + stop), (0, b + bv), (0, lg), (xkl (0, b + ls)), (0, 1), (0, b + pos), (0, b + stop)] [] h1 (xqi Q)) SX_ eP eV hV lc Dr_ a40 t192 Z b0 b1 r1 (by omega) (by omega) h01 (fun lt40 h1 F1 X => ?_) (fun e40 => ?_)
              · rw [show b + start + (stop - start) = b + stop by omega] at this
                exact this
              · rw [if_neg (by decide)]
                rw [show start + (stop - start) = stop by omega, ← rulM_hv' ehv] at X
                have SX1 := SX_2 F1.1 SX_
                have eP1 : h1.i 6 = P := by rw [Fr_row F1 (by decide) (by decide)]; exact eP
                have eV1 : h1.i 5 = V := by rw [Fr_row F1 (by decide) (by decide)]; exact eV
                have qr : h1.i q = h.i q := Fr_row F1 (q_dr q17).1 (q_dr q17).2
                have Z1 : Src h1 q b D := ⟨by rw [(fr_same F1).2.1]; exact Z.1, by rw [(fr_same F1).2.2.1]; exact Z.2.1, by rw [qr]; exact Z.2.2⟩
                refine p55 1 (b + stop) h1 _ _ _ _ SX1 eP1 Z1 (fun u11 => ?_)
                have := ih (A ++ [rsy P V D w start (stop - start) (rulM lg bv stop) 0]) (pos + slen s) stop (pos + slen s) (lgS s) pos h1 u3 u11 (by push_cast at hm; omega) nle (fun y => by omega) ⟨by omega, by omega, Or.inr ⟨by omega, Int.le_refl _, Or.inl rfl⟩⟩ lg01 (by omega) SX1 eP1 eV1 Z1 X (by rw [List.length_append]; show A.length + 1 ≤ 40; omega) (by omega) (fun le h' F X' => ?_) (fun gt h' F z => ?_)
                · rw [bvS] at this
                  exact this
                · rw [List.length_append] at le
                  have le : A.length + 1 + _ ≤ 40 := le
                  refine H1 (by omega) h' (Fr_trans F1 F) ?_
                  rw [List.append_assoc] at X'
                  unfold rsy at X'
                  rw [show start + (stop - start) = stop by omega] at X'
                  exact X'
                · rw [List.length_append] at gt
                  have gt : 40 < A.length + 1 + _ := gt
                  exact H0 (by omega) h' (Fr_trans F1 F) z
              · rw [if_pos rfl]
                refine p55 0 (b + stop) h _ _ _ _ SX_ eP Z (fun u11 => ?_)
                refine c_X_rulz (d := d + 1) SX_ eP eV hV lc Z b0 b1 d16 (H0 ?_ h (Fr_refl _ _ _) z11) D.length (b + (pos + slen s)) _ _ _ _ u3 u11 (by omega) (by omega)
                have := rulS_len (sgs P V (gD D) (pos + slen s) ((D.length : Nat) : Int)) (pos + slen s) stop (pos + slen s) (lgS s) pos
                omega
            apply L_LineReader_addByRules_31
            rw [if_neg (by decide)]
            by_cases c7 : lg = 0
            · rw [if_pos c7]
              by_cases c8 : b + bv < b + stop
              · rw [if_pos c8]; exact run 1 (by rw [if_pos (Or.inr (by omega))])
              · rw [if_neg c8]; exact run 0 (by rw [if_neg (by omega)])
            · rw [if_neg c7]; exact run 1 (by rw [if_pos (Or.inl (by omega))])
          by_cases c8 : pos = bv
          · rw [if_pos (show b + pos = b + bv by omega)]
            exact p31 pos (by rw [if_pos c8])
          · rw [if_neg (show ¬ b + pos = b + bv by omega)]
            exact p31 ls (by rw [if_neg c8])
    ·
      have ep : pos = ((D.length : Nat) : Int) := by omega
      have eS : sgs P V (gD D) pos ((D.length : Nat) : Int) = [] := sgs_nil (by omega)
      have bn : bv ≠ -1 := fun y => by
        obtain ⟨p, mp, _⟩ := pb y
        rw [eS] at mp
        exact absurd mp List.not_mem_nil
      rw [eS, rulS] at H1 H0
      exact c_X_rulend (ls := ls) hV lc b0 b1 d16 t192 ep bn R.1 hlg SX_ eP eV Z Dr_ a40 sD H1 H0
end XRV
