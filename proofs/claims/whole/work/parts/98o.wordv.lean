/-! line: words as values -/
theorem rulS_ok {n : Int} : ∀ (S : List (Int × Int)) (pos start bv lg ls : Int), RuI pos start bv ls → 0 ≤ ls → (bv = -1 → ∃ p ∈ S, p.2 = 1) → pos + psn S S.length = n → (∀ p ∈ rulS S pos start bv lg ls, 1 ≤ p.1 ∧ 1 ≤ p.2 ∧ p.2 ≤ 3) ∧ ((rulS S pos start bv lg ls).map (fun p => p.1)).sum = n - start := by
  intro S
  have rm : ∀ a b c, 1 ≤ rulM a b c ∧ rulM a b c ≤ 3 := fun a b c => by
    unfold rulM
    by_cases z : a = 1 ∨ b < c
    · rw [if_pos z]; decide
    · rw [if_neg z]; decide
  induction S with
  | nil =>
    intro pos start bv lg ls R l0 pb hn
    have e : psn ([] : List (Int × Int)) ([] : List (Int × Int)).length = 0 := rfl
    have bn : bv ≠ -1 := fun y => by
      obtain ⟨p, mp, _⟩ := pb y
      exact absurd mp List.not_mem_nil
    obtain ⟨r1, r2, r3⟩ := R
    have r3 := r3.resolve_left bn
    rw [rulS]
    refine ⟨fun p mp => ?_, ?_⟩
    · rw [List.mem_singleton] at mp
      rw [mp]
      exact ⟨by show 1 ≤ pos - start; omega, rm _ _ _⟩
    · show pos - start + 0 = n - start
      omega
  | cons s r ih =>
    intro pos start bv lg ls R l0 pb hn
    have sl := slen_12 s
    rw [List.length_cons, psn_c] at hn
    obtain ⟨r1, r2, r3⟩ := R
    rw [rulS]
    by_cases c : s.2 = 1
    · rw [if_pos c]
      by_cases c2 : bv = -1
      · rw [if_pos c2]
        exact ih _ _ _ _ _ ⟨r1, by omega, Or.inr ⟨by omega, Int.le_refl _, Or.inl rfl⟩⟩ (by omega) (fun y => by omega) (by omega)
      · rw [if_neg c2]
        have r3 := r3.resolve_left c2
        have sb : start < (if pos = bv then pos else ls) ∧ (if pos = bv then pos else ls) ≤ pos := by
          by_cases y : pos = bv
          · rw [if_pos y]; omega
          · rw [if_neg y]; omega
        have z := ih (pos + slen s) (if pos = bv then pos else ls) (pos + slen s) (lgS s) pos ⟨by omega, by omega, Or.inr ⟨by omega, Int.le_refl _, Or.inl rfl⟩⟩ (by omega) (fun y => by omega) (by omega)
        refine ⟨fun p mp => ?_, ?_⟩
        · rw [List.mem_cons] at mp
          rcases mp with mp | mp
          · rw [mp]; exact ⟨by show 1 ≤ (if pos = bv then pos else ls) - start; omega, rm _ _ _⟩
          · exact z.1 p mp
        · rw [List.map_cons, List.sum_cons, z.2]
          show (if pos = bv then pos else ls) - start + _ = _
          omega
    · rw [if_neg c]
      refine ih _ _ _ _ _ ⟨r1, by omega, by omega⟩ (by omega) (fun y => ?_) (by omega)
      obtain ⟨p, mp, e1⟩ := pb y
      rw [List.mem_cons] at mp
      rcases mp with mp | mp
      · rw [mp] at e1; exact absurd e1 c
      · exact ⟨p, mp, e1⟩
theorem noV_ex {P V : Int → Int} {D : List Int} (hV : bits26 V) (lc : ∀ c ∈ D, 97 ≤ c ∧ c ≤ 122) (n : ¬ noV P V D) : ∃ p ∈ sgs P V (gD D) 0 ((D.length : Nat) : Int), p.2 = 1 := by
  refine Classical.byContradiction (fun z => n (fun p mp => ?_))
  have := (sgs_all hV (letD lc (Int.le_refl 0)) p mp).1
  rcases this with y | y
  · exact y
  · exact absurd ⟨p, mp, y⟩ z
theorem rulL_ok {P V : Int → Int} {D : List Int} (hV : bits26 V) (lc : ∀ c ∈ D, 97 ≤ c ∧ c ≤ 122) (n : ¬ noV P V D) : PtOk D 0 (rulL P V D) := by
  have tot := sgs_tot (P := P) (V := V) (g := gD D) (e := ((D.length : Nat) : Int)) D.length 0 (by omega) (by omega) (letD lc (Int.le_refl 0))
  exact rulS_ok _ 0 0 (-1) 0 0 ⟨Int.le_refl _, Int.le_refl _, Or.inl rfl⟩ (Int.le_refl _) (fun _ => noV_ex hV lc n) (by omega)
theorem mkSy_ok {P V : Int → Int} {D : List Int} (hV : bits26 V) (lc : ∀ c ∈ D, 97 ≤ c ∧ c ≤ 122) (d16 : D.length ≤ 16) : ∀ (L : List (Int × Int)) (f : Int), 0 ≤ f → PtOk D f L → (∀ s ∈ mkSy P V D f L, SyOk s) ∧ ((mkSy P V D f L).map (fun s => s.1)).sum = ((D.length : Nat) : Int) - f := by
  intro L
  induction L with
  | nil =>
    intro f f0 ok
    exact ⟨fun s m => absurd m List.not_mem_nil, ok.2⟩
  | cons p r ih =>
    intro f f0 ok
    have p1 := ok.1 p List.mem_cons_self
    have sm := ok.2
    rw [List.map_cons, List.sum_cons] at sm
    have ok' : PtOk D (f + p.1) r := ⟨fun x m => ok.1 x (List.mem_cons_of_mem _ m), by omega⟩
    have z := ih (f + p.1) (by omega) ok'
    have fl : f + p.1 ≤ ((D.length : Nat) : Int) := by
      have : 0 ≤ (r.map (fun p => p.1)).sum := by
        have : ∀ L : List (Int × Int), (∀ x ∈ L, 1 ≤ x.1) → 0 ≤ (L.map (fun p => p.1)).sum := by
          intro L
          induction L with
          | nil => intro _; exact Int.le_refl _
          | cons a L ih =>
            intro H
            have := H a List.mem_cons_self
            have := ih (fun x m => H x (List.mem_cons_of_mem _ m))
            rw [List.map_cons, List.sum_cons]; omega
        exact this r (fun x m => (ok'.1 x m).1)
      omega
    have lD : lets (gD D) f (f + p.1) := fun k k0 k1 => letD lc f0 k k0 (by omega)
    have sl := sgs_len (P := P) (V := V) (g := gD D) (a := f) (e := f + p.1) (by omega)
    rw [mkSy]
    refine ⟨fun s m => ?_, ?_⟩
    · rw [List.mem_cons] at m
      rcases m with m | m
      · rw [m]
        exact ⟨p1.1, p1.2.1, p1.2.2, sgs_ne (by omega), by show (sgs P V (gD D) f (f + p.1)).length ≤ 16; omega, sgs_all hV lD⟩
      · exact z.1 s m
    · rw [List.map_cons, List.sum_cons, z.2]
      show p.1 + _ = _
      omega
theorem wd_ok {P V : Int → Int} {D : List Int} {L : List (Int × Int)} {bk : Int} (hV : bits26 V) (lc : ∀ c ∈ D, 97 ≤ c ∧ c ≤ 122) (d1 : 1 ≤ D.length) (d16 : D.length ≤ 16) (l1 : 1 ≤ L.length) (hb : bk = 0 ∨ bk = 1) (ok : PtOk D 0 L) : WdOk (D, bk, mkSy P V D 0 L) := by
  have z := mkSy_ok (P := P) hV lc d16 L 0 (Int.le_refl _) ok
  exact ⟨d1, d16, lc, hb, by show 1 ≤ (mkSy P V D 0 L).length; rw [mkSy_len]; exact l1, z.1, by show ((mkSy P V D 0 L).map (fun s => s.1)).sum = _; rw [z.2]; show _ = ((D.length : Nat) : Int); omega⟩
/-- the book's word with this text, or -1 -/
noncomputable def bkF (h : xH) (D : List Int) : Int := @ite Int (∃ w, 0 ≤ w ∧ w < h.i 59 16 ∧ WM h (gD D) ((D.length : Nat) : Int) w) (Classical.propDecidable _) (@Classical.epsilon Int ⟨0⟩ (fun w => 0 ≤ w ∧ w < h.i 59 16 ∧ WM h (gD D) ((D.length : Nat) : Int) w)) (-1)
theorem bkF_yes {h : xH} {D : List Int} {w : Int} (iB : I_book h) (w0 : 0 ≤ w) (w1 : w < h.i 59 16) (M : WM h (gD D) ((D.length : Nat) : Int) w) : bkF h D = w := by
  have ex : ∃ w, 0 ≤ w ∧ w < h.i 59 16 ∧ WM h (gD D) ((D.length : Nat) : Int) w := ⟨w, w0, w1, M⟩
  unfold bkF
  rw [if_pos ex]
  have z := @Classical.epsilon_spec Int (fun w => 0 ≤ w ∧ w < h.i 59 16 ∧ WM h (gD D) ((D.length : Nat) : Int) w) ex
  exact WM_one iB z.1 z.2.1 w0 w1 z.2.2 M
theorem bkF_no {h : xH} {D : List Int} (n : ∀ w, 0 ≤ w → w < h.i 59 16 → ¬ WM h (gD D) ((D.length : Nat) : Int) w) : bkF h D = -1 := by
  unfold bkF
  rw [if_neg (fun ⟨w, w0, w1, M⟩ => n w w0 w1 M)]
def bkL (h : xH) (w : Int) : List (Int × Int) := (List.range (h.i 70 w).toNat).map (fun s : Nat => (h.i 71 (16 * w + s), h.i 72 (16 * w + s)))
theorem bkL_len (h : xH) (w : Int) : (bkL h w).length = (h.i 70 w).toNat := by unfold bkL; rw [List.length_map, List.length_range]
theorem bkL_get {h : xH} {w : Int} {s : Nat} (hs : s < (bkL h w).length) : (bkL h w).getD s (0, 0) = (h.i 71 (16 * w + s), h.i 72 (16 * w + s)) := by
  rw [bkL_len] at hs
  unfold bkL
  rw [map_gd (z := 0) (by rw [List.length_range]; exact hs), List.getD_eq_getElem?_getD, List.getElem?_range hs]
  rfl
noncomputable def wordP (h : xH) (D : List Int) : List (Int × Int) := if bkF h D = -1 then rulL (h.i 6) (h.i 5) D else bkL h (bkF h D)
noncomputable def wordV (h : xH) (D : List Int) : Wd := (D, if bkF h D = -1 then 0 else 1, mkSy (h.i 6) (h.i 5) D 0 (wordP h D))
def off (L : List (Int × Int)) (j : Nat) : Int := ((L.take j).map (fun p => p.1)).sum
theorem off_s {L : List (Int × Int)} {j : Nat} (hj : j < L.length) : off L (j + 1) = off L j + (L.getD j (0, 0)).1 := by
  unfold off
  rw [List.take_succ_eq_append_getElem hj, List.map_append, List.sum_append, List.getD_eq_getElem?_getD, List.getElem?_eq_getElem hj]
  simp only [List.map_cons, List.map_nil, List.sum_cons, List.sum_nil, Option.getD_some]
  omega
/-- an entry of the book, as text and parts -/
def EntO (h : xH) (p : Int) (D : List Int) (L : List (Int × Int)) : Prop := 130 ≤ p ∧ h.tag p = 9 ∧ (h.r p 0 = p + 1 ∧ h.r p 1 = p + 2 ∧ h.r p 3 = p + 4) ∧ (h.tag (p + 2) = 20 ∧ h.tag (p + 4) = 20) ∧ (h.len (p + 2) = ((L.length : Nat) : Int) + 1 ∧ h.len (p + 4) = ((L.length : Nat) : Int)) ∧ h.i p 6 = ((L.length : Nat) : Int) ∧ (∀ j : Nat, j ≤ L.length → h.i (p + 2) j = off L j) ∧ (∀ j : Nat, j < L.length → h.i (p + 4) j = (L.getD j (0, 0)).2) ∧ Src h (p + 1) 0 D ∧ PtOk D 0 L
theorem EntO_of {h : xH} {p w : Int} {D : List Int} (B : BookRel h p w) (M : WM h (gD D) ((D.length : Nat) : Int) w) : EntO h p D (bkL h w) := by
  have XL := (XLet_book B).2
  obtain ⟨sb, a1, a2, a3, a4, a5, a6, a7, a8⟩ := B
  obtain ⟨b1, b2, b3, b4, b5, b6, b7, b8, b9, b10, b11, b12, b13, b14, b15, b16, b17, b18, b19⟩ := sb
  have ll : ((((bkL h w).length : Nat) : Int)) = h.i 70 w := by rw [bkL_len]; omega
  have go : ∀ j : Nat, j ≤ (bkL h w).length → h.i (p + 2) j = off (bkL h w) j := by
    intro j
    induction j with
    | zero => intro _; exact a5
    | succ j ih =>
      intro hj
      have z := ih (by omega)
      have y := (a7 (j : Int) (by omega) (by omega)).1
      rw [off_s (by omega), ← z, bkL_get (by omega), show ((j + 1 : Nat) : Int) = (j : Int) + 1 by push_cast; rfl]
      exact y
  refine ⟨b1, b3, ⟨b4, b5, b7⟩, ⟨b10, b12⟩, ⟨by rw [b15, a1, ll], by rw [b17, a1, ll]⟩, by rw [a1, ll], go, fun j hj => ?_, ⟨b9, by rw [XL, M.1]; omega, fun k hk => ?_⟩, fun q mq => ?_, ?_⟩
  · rw [bkL_get hj]
    exact (a7 (j : Int) (by omega) (by omega)).2.2.1
  · rw [show (0 : Int) + (k : Int) = (k : Int) by omega, (a8 (k : Int) (by omega) (by rw [M.1]; omega)).1, M.2 (k : Int) (by omega) (by omega), gD_i D rfl]
  · obtain ⟨i, hi, ei⟩ := List.mem_iff_getElem.mp mq
    have e := bkL_get hi
    rw [List.getD_eq_getElem?_getD, List.getElem?_eq_getElem hi] at e
    have e : (bkL h w)[i] = _ := e
    rw [ei] at e
    rw [e]
    have y := a7 (i : Int) (by omega) (by omega)
    exact ⟨y.2.1, by rw [← y.2.2.1]; exact y.2.2.1 ▸ y.2.2.2.1, y.2.2.2.2⟩
  · have z := go (bkL h w).length (Nat.le_refl _)
    rw [ll, a6, M.1] at z
    unfold off at z
    rw [List.take_length] at z
    omega
section XEN2
variable {d : Nat} {P V : Int → Int} {D T0 : List Int} {p w : Int} {L : List (Int × Int)}
theorem EntO_fr {h h' : xH} (F : Fr drL drS h h') (E : EntO h p D L) : EntO h' p D L := by
  obtain ⟨e1, e2, e3, e4, e5, e6, e7, e8, e9, e10⟩ := E
  have fs := fr_same F
  have row : ∀ c : Int, 130 ≤ c → h'.i c = h.i c := fun c hc => Fr_row F (q_dr (Or.inr (by omega))).1 (q_dr (Or.inr (by omega))).2
  unfold EntO Src
  rw [fs.1, fs.2.1, fs.2.2.1, row p e1, row (p + 2) (by omega), row (p + 4) (by omega), row (p + 1) (by omega)]
  exact ⟨e1, e2, e3, e4, e5, e6, e7, e8, e9, e10⟩
theorem drop_off {L : List (Int × Int)} {i : Nat} (hi : i < L.length) : mkSy P V D (off L i) (L.drop i) = ((L.getD i (0, 0)).1, (L.getD i (0, 0)).2, sgs P V (gD D) (off L i) (off L i + (L.getD i (0, 0)).1)) :: mkSy P V D (off L (i + 1)) (L.drop (i + 1)) := by
  rw [drop_c (z := ((0 : Int), (0 : Int))) hi, mkSy, ← off_s hi]
theorem off_le {L : List (Int × Int)} (ok : PtOk D 0 L) : ∀ j : Nat, j ≤ L.length → 0 ≤ off L j ∧ off L j ≤ ((D.length : Nat) : Int) := by
  have nn : ∀ L : List (Int × Int), (∀ x ∈ L, 1 ≤ x.1) → 0 ≤ (L.map (fun p => p.1)).sum := by
    intro L
    induction L with
    | nil => intro _; exact Int.le_refl _
    | cons a L ih =>
      intro H
      have := H a List.mem_cons_self
      have := ih (fun x m => H x (List.mem_cons_of_mem _ m))
      rw [List.map_cons, List.sum_cons]; omega
  intro j hj
  have a := nn (L.take j) (fun x m => (ok.1 x (List.mem_of_mem_take m)).1)
  have b := nn (L.drop j) (fun x m => (ok.1 x (List.mem_of_mem_drop m)).1)
  have c : (L.map (fun p => p.1)).sum = ((L.take j).map (fun p => p.1)).sum + ((L.drop j).map (fun p => p.1)).sum := by
    rw [← List.sum_append, ← List.map_append, List.take_append_drop]
  have e := ok.2
  unfold off
  omega
theorem c_X_addEnt2 {Q : Int → xH → Prop} (hV : bits26 V) (lc : ∀ c ∈ D, 97 ≤ c ∧ c ≤ 122) (d16 : D.length ≤ 16) (t192 : T0.length + D.length ≤ 192) : ∀ (m i : Nat) (A : List FS) (h : xH), i + m = L.length → SX h → h.i 6 = P → h.i 5 = V → EntO h p D L → L.length ≤ 16 → Dr h A (T0 ++ D.take (off L i).toNat) → A.length ≤ 40 → (A.length + m ≤ 40 → ∀ h', Fr drL drS h h' → Dr h' (A ++ fsyl w 1 (off L i) (mkSy P V D (off L i) (L.drop i))) (T0 ++ D) → Q 1 h') → (40 < A.length + m → ∀ h', Fr drL drS h h' → h'.i 18 0 = 0 → Q 0 h') → xT (d + 5) M_LineReader_addEntry 2 [(1, 15), (0, w), (1, p), (0, (i : Int))] [] h (xqi Q) := by
  intro m
  induction m with
  | zero =>
    intro i A h hi SX_ eP eV E l16 Dr_ a40 H1 H0
    have ei : i = L.length := by omega
    subst ei
    have gg : h.tag p = 9 := E.2.1
    apply L_LineReader_addEntry_2
    rw [E.2.2.2.2.2.1, if_neg (show ¬ ((L.length : Nat) : Int) < ((L.length : Nat) : Int) by omega)]
    refine ⟨gg, H1 (by omega) h (Fr_refl _ _ _) ?_⟩
    have eo : off L L.length = ((D.length : Nat) : Int) := by
      unfold off
      have := E.2.2.2.2.2.2.2.2.2.2
      rw [List.take_length]; omega
    rw [List.drop_length, mkSy, fsyl, List.append_nil]
    rw [eo, Int.toNat_natCast, List.take_length] at Dr_
    exact Dr_
  | succ m ih =>
    intro i A h hi SX_ eP eV E l16 Dr_ a40 H1 H0
    have E' := E
    obtain ⟨e1, e2, ⟨e3, e3b, e3c⟩, e4, e5, e6, e7, e8, e9, e10⟩ := E'
    have hil : i < L.length := by omega
    have os := off_s hil
    have pi := e10.1 _ (getD_mem ((0 : Int), (0 : Int)) hil)
    have ol := off_le e10 i (by omega)
    have ol2 := off_le e10 (i + 1) (by omega)
    have f0 := e7 i (by omega)
    have f1 := e7 (i + 1) (by omega)
    rw [show ((i + 1 : Nat) : Int) = (i : Int) + 1 by push_cast; rfl] at f1
    have mk := e8 i hil
    have gg : h.tag 15 = 3 ∧ h.r 15 0 = 4 ∧ h.tag 4 = 2 ∧ h.r 15 2 = 16 ∧ h.tag 16 = 9 := by simp only [sxt SX_, sxl SX_, sxf SX_, true_and, and_true, false_and, and_false, forall_eq, forall_eq', xi_wi, xr_wi, xt_wi, xl_wi, xn_wi, xs_wi, xi_wr, xr_wr, xt_wr, xl_wr, xn_wr, xs_wr, if_true, if_false, and_self, Int.reduceEq, Int.reduceLT, Int.reduceLE, Int.reduceNeg, Int.le_refl, Int.reduceMod]
    have z9 := e9.2.1
    have es := src_sgs (P := P) (V := V) e9 (f := off L i) (l := (L.getD i (0, 0)).1) (by omega) (by omega) (by omega)
    apply L_LineReader_addEntry_2
    rw [e6, if_pos (by omega), gg.2.2.2.1, gg.2.1]
    refine ⟨e2, gg.1, gg.2.2.2.2, ?_⟩
    apply L_Syllables_addFromBook
    rw [if_neg (by omega), e6, if_pos (by omega), e3, e3b, e5.1, xw_id (a := (i : Int) + 1) (by omega) (by omega), f0, f1, os]
    refine ⟨e2, ⟨e4.1, by omega, by omega⟩, ⟨e4.1, by omega, by omega⟩, gg.2.2.1, ?_⟩
    have lt := src_lets e9 lc (x := 0 + off L i) (y := 0 + off L i + (L.getD i (0, 0)).1) (by omega) (by omega)
    rw [show (0 : Int) + off L i = off L i by omega] at lt es
    refine c_X_traits (d := d + 1) SX_ e9.1 (by omega) (by omega) (by rw [eV]; exact hV) (by omega) (by omega) lt ?_
    rw [eP, eV, es]
    intro x1 ex
    have sok : enOk (sgs P V (gD D) (off L i) (off L i + (L.getD i (0, 0)).1)) := by rw [← es]; exact sgs_all hV lt
    have o1 := opn_01 sok
    have c1 := cls_01 sok
    rw [xw_id (by omega) (by omega)] at ex
    rw [e3b, e3c, e5.1, e5.2, e3, f0, f1, mk, os]
    refine ⟨e2, ⟨e4.1, by omega, by omega⟩, ⟨e4.1, by omega, by omega⟩, ⟨e4.2, by omega, by omega⟩, gg.2.2.2.2, ?_⟩
    have tl : (((T0 ++ D.take (off L i).toNat).length : Nat) : Int) = ((T0.length : Nat) : Int) + off L i := by
      rw [List.length_append, List.length_take]; omega
    have := c_X_add16 (d := d + 2) (D := D) (q := p + 1) (b := 0) (w := w) (h := h) (A := A) (f := off L i) (l := (L.getD i (0, 0)).1) (m := (L.getD i (0, 0)).2) (tr := x1) (r := rsy P V D w (off L i) (L.getD i (0, 0)).1 (L.getD i (0, 0)).2 1) (Q := fun r2 h2 => (r2 = 0 ∨ r2 = 1) ∧ (if r2 = 0 then Q 0 h2 else ∀ x1 : Int, x1 = (i : Int) + 1 → xT (d + 5) M_LineReader_addEntry 2 [(1, 15), (0, w), (1, p), (0, x1)] [] h2 (xqi Q))) SX_ Dr_ a40 (by omega) e9 (Int.le_refl _) (by decide) (by omega) (by omega) (by omega) (by omega) rfl rfl rfl (by rw [ex]; rfl) (fun lt40 h1 F1 X => ⟨Or.inr rfl, ?_⟩) (fun e40 => ⟨Or.inl rfl, ?_⟩)
    · rw [show (0 : Int) + off L i = off L i by omega] at this
      exact this
    · rw [if_neg (by decide)]
      intro x2 ex2
      rw [List.append_assoc, take_ext (by omega) (by omega), ← os] at X
      have z := ih (i + 1) (A ++ [rsy P V D w (off L i) (L.getD i (0, 0)).1 (L.getD i (0, 0)).2 1]) h1 (by omega) (SX_2 F1.1 SX_) (by rw [Fr_row F1 (by decide) (by decide)]; exact eP) (by rw [Fr_row F1 (by decide) (by decide)]; exact eV) (EntO_fr F1 E) l16 X (by rw [List.length_append]; show A.length + 1 ≤ 40; omega) (fun le h' F X' => ?_) (fun gt h' F z' => ?_)
      · rw [ex2, show (i : Int) + 1 = ((i + 1 : Nat) : Int) by push_cast; rfl]; exact z
      · rw [List.length_append] at le
        have le : A.length + 1 + m ≤ 40 := le
        refine H1 (by omega) h' (Fr_trans F1 F) ?_
        rw [drop_off hil, fsyl]
        rw [List.append_assoc] at X'
        unfold rsy at X'
        rw [← os] at X'
        rw [show off L i + ((L.getD i (0, 0)).1, (L.getD i (0, 0)).2, sgs P V (gD D) (off L i) (off L i + (L.getD i (0, 0)).1)).1 = off L (i + 1) from os.symm]
        exact X'
      · rw [List.length_append] at gt
        have gt : 40 < A.length + 1 + m := gt
        exact H0 (by omega) h' (Fr_trans F1 F) z'
    · rw [if_pos rfl]
      exact H0 (by omega) h (Fr_refl _ _ _) (dr_18 SX_ Dr_)
end XEN2
