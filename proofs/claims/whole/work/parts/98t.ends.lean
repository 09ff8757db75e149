/-! line: the sounds that rhyme are kept, the class' side -/
def SgF (P V g : Int → Int) (L : List FS) : Prop := ∀ i : Nat, i < L.length → (L.getD i fs0).s = sgs P V g (psm L i) (psm L (i + 1))
theorem dw_app {α : Type} {q : α → Bool} : ∀ (A B : List α), (∃ p ∈ A, q p = false) → (A ++ B).dropWhile q = A.dropWhile q ++ B := by
  intro A
  induction A with
  | nil =>
    intro B ⟨p, m, _⟩
    exact absurd m List.not_mem_nil
  | cons a r ih =>
    intro B ⟨p, m, e⟩
    rw [List.cons_append, List.dropWhile_cons, List.dropWhile_cons]
    cases c : q a with
    | true =>
      rw [if_pos rfl, if_pos rfl]
      refine ih B ⟨p, ?_, e⟩
      rw [List.mem_cons] at m
      rcases m with m | m
      · rw [m, c] at e; exact absurd e (by decide)
      · exact m
    | false =>
      rw [if_neg (by decide), if_neg (by decide)]
      rfl
def fvp (P V g : Int → Int) (e a : Int) : Int := ((snds P g e (e - a).toNat a).find? (fun x => decide (vwl P V g e x = 1))).getD a
theorem sgs_fv0 {P V g : Int → Int} {e : Int} (hV : bits26 V) : ∀ (n : Nat) (a : Int), e - a ≤ n → lets g a e → ((snds P g e n a).find? (fun x => decide (vwl P V g e x = 1)) = none ∧ ∀ p ∈ sgs P V g a e, p.2 = 0) ∨ (∃ x, (snds P g e n a).find? (fun x => decide (vwl P V g e x = 1)) = some x ∧ a ≤ x ∧ x < e ∧ sgs P V g x e = (sgs P V g a e).dropWhile (fun p => decide (p.2 = 0)) ∧ ∃ p ∈ sgs P V g a e, p.2 = 1) := by
  intro n
  induction n with
  | zero =>
    intro a hn _
    left
    refine ⟨rfl, fun p m => ?_⟩
    rw [sgs_nil (by omega)] at m
    exact absurd m List.not_mem_nil
  | succ n ih =>
    intro a hn hl
    by_cases c : a < e
    · have gt := nxt_gt P g e a
      have v := vwl_01 (P := P) hV hl c
      rw [snds, if_pos c, sgs_cons c, List.find?_cons]
      rcases v with v | v
      · rw [v, decide_eq_false (by decide)]
        rcases ih (nxt P g e a) (by push_cast at hn; omega) (lets_nxt hl) with ⟨a1, a2⟩ | ⟨x, b1, b2, b3, b4, p, b5, b6⟩
        · left
          refine ⟨a1, fun p m => ?_⟩
          rw [List.mem_cons] at m
          rcases m with m | m
          · rw [m]
          · exact a2 p m
        · right
          refine ⟨x, b1, by omega, b3, ?_, p, List.mem_cons_of_mem _ b5, b6⟩
          rw [b4, List.dropWhile_cons, if_pos (by rfl)]
      · right
        rw [v, decide_eq_true rfl]
        refine ⟨a, rfl, Int.le_refl _, c, ?_, (rsn P g e a, 1), List.mem_cons_self, rfl⟩
        rw [sgs_cons c, v, List.dropWhile_cons, if_neg (fun y => absurd (of_decide_eq_true y) (by show ¬ (1 : Int) = 0; decide))]
    · left
      rw [snds_nil c]
      refine ⟨rfl, fun p m => ?_⟩
      rw [sgs_nil c] at m
      exact absurd m List.not_mem_nil
theorem hvy_efst (L : List FS) (l1 : 1 ≤ L.length) : efst L < L.length := by
  have := hvy_lt L L.length
  unfold efst
  by_cases c : hvy L L.length < 0
  · rw [if_pos c]; omega
  · rw [if_neg c]; omega
theorem fvp_rg {P V g : Int → Int} {e a : Int} (hV : bits26 V) (hl : lets g a e) (ae : a ≤ e) : a ≤ fvp P V g e a ∧ fvp P V g e a ≤ e := by
  unfold fvp
  rcases sgs_fv0 (P := P) hV (e - a).toNat a (by omega) hl with ⟨a1, a2⟩ | ⟨x, b1, b2, b3, b4, b5⟩
  · rw [a1]; exact ⟨Int.le_refl _, ae⟩
  · rw [b1]; exact ⟨b2, by show x ≤ e; omega⟩
theorem psm_le {L : List FS} (n1 : ∀ r ∈ L, 1 ≤ r.n) {i : Nat} : ∀ n : Nat, i + n ≤ L.length → psm L i + n ≤ psm L (i + n) := by
  intro n
  induction n with
  | zero => intro _; show psm L i + 0 ≤ psm L i; omega
  | succ n ih =>
    intro h
    have a := ih (by omega)
    have b := psm_succ (L := L) (i := i + n) (by omega)
    have c := n1 _ (getD_mem fs0 (show i + n < L.length by omega))
    rw [show i + (n + 1) = i + n + 1 by omega, b]
    push_cast; omega
theorem psm_mono {L : List FS} (n1 : ∀ r ∈ L, 1 ≤ r.n) {i j : Nat} (ij : i ≤ j) (jl : j ≤ L.length) : psm L i + ((j : Int) - (i : Int)) ≤ psm L j := by
  have := psm_le n1 (i := i) (j - i) (by omega)
  rw [show i + (j - i) = j by omega] at this
  omega
theorem psm_0 (L : List FS) : psm L 0 = 0 := rfl
theorem endL_eq {P V g : Int → Int} {L : List FS} (hV : bits26 V) (l1 : 1 ≤ L.length) (S : SgF P V g L) (n1 : ∀ r ∈ L, 1 ≤ r.n) (hl : lets g 0 (psm L L.length)) : endL L = sgs P V g (fvp P V g (psm L (efst L + 1)) (psm L (efst L))) (psm L (efst L + 1)) ++ ((L.drop (efst L + 1)).map FS.s).flatten := by
  have fl := hvy_efst L l1
  have es := S (efst L) fl
  have m1 := psm_mono n1 (Nat.zero_le (efst L)) (by omega)
  have m2 := psm_mono n1 (show efst L + 1 ≤ L.length by omega) (Nat.le_refl _)
  rw [psm_0] at m1
  have lt : lets g (psm L (efst L)) (psm L (efst L + 1)) := fun k k0 k1 => hl k (by omega) (by omega)
  have ea : eall L = (L.getD (efst L) fs0).s ++ ((L.drop (efst L + 1)).map FS.s).flatten := by
    unfold eall
    rw [List.drop_eq_getElem_cons fl, List.map_cons, List.flatten_cons, List.getD_eq_getElem?_getD, List.getElem?_eq_getElem fl]
    rfl
  unfold endL
  rw [ea, es]
  unfold fvp
  rcases sgs_fv0 (P := P) hV (psm L (efst L + 1) - psm L (efst L)).toNat (psm L (efst L)) (by omega) lt with ⟨a1, a2⟩ | ⟨x, b1, b2, b3, b4, p, b5, b6⟩
  · rw [a1, if_pos (by rw [List.all_eq_true]; exact fun p m => decide_eq_true (a2 p m))]
    rfl
  · rw [b1, if_neg (fun y => by rw [List.all_eq_true] at y; have := y p b5; rw [b6] at this; exact absurd this (by decide)), dw_app _ _ ⟨p, b5, by rw [b6]; decide⟩, ← b4]
    rfl
def ecd (p : Int × Int) : Int := 2 * scode p.1 + p.2
section SE
variable {d : Nat} {h : xH} {p : Int} {L : List FS}
theorem c_X_soundCode {Q : Int → xH → Prop} {q a e : Int} (SX_ : SX h) (tq : h.tag q = 20) (a0 : 0 ≤ a) (ae : a < e) (he : e ≤ h.len q) (hs : e < 100000) (hl : lets (h.i q) a e) (hV : bits26 (h.i 5)) (H : Q (ecd (rsn (h.i 6) (h.i q) e a, vwl (h.i 6) (h.i 5) (h.i q) e a)) h) : xCi (d + 3) M_Language_soundCode [(1, 4), (1, q), (0, a), (0, e)] h Q := by
  have l0 := hl a (Int.le_refl _) ae
  have v01 := vwl_01 (P := h.i 6) hV hl ae
  have t4 : h.tag 4 = 2 := by simp only [sxt SX_, sxl SX_, sxf SX_, true_and, and_true, false_and, and_false, forall_eq, forall_eq', xi_wi, xr_wi, xt_wi, xl_wi, xn_wi, xs_wi, xi_wr, xr_wr, xt_wr, xl_wr, xn_wr, xs_wr, if_true, if_false, and_self, Int.reduceEq, Int.reduceLT, Int.reduceLE, Int.reduceNeg, Int.le_refl, Int.reduceMod]
  apply L_Language_soundCode
  rw [if_neg (by omega), if_pos ae]
  refine ⟨tq, ?_⟩
  rw [if_neg (by omega)]
  refine ⟨⟨tq, a0, by omega⟩, fun x1 e1 => ⟨t4, ?_⟩⟩
  rw [xw_id (a := h.i q a - 97) (by omega) (by omega), xw_id (by omega) (by omega)] at e1
  refine c_X_pairAt (d := d + 1) SX_ tq a0 (by omega) he hs hl ?_
  have fin : ∀ s : Int, 0 ≤ s → s < 100000 → scode (rsn (h.i 6) (h.i q) e a) = s → xCi (d + 2) M_Language_isVowelAt [(1, 4), (1, q), (0, a), (0, e)] h (fun r2 h2 => if r2 = 0 then Q (xw ((xw (s * 2)) + 0)) h2 else Q (xw ((xw (s * 2)) + 1)) h2) := fun s s0 s1 es => by
    refine c_X_isVowelAt (d := d) SX_ tq a0 ae he hs hl hV ?_
    unfold ecd at H
    rw [es] at H
    rw [xw_id (a := s * 2) (by omega) (by omega), xw_id (a := s * 2 + 0) (by omega) (by omega), xw_id (a := s * 2 + 1) (by omega) (by omega)]
    rcases v01 with v | v
    · rw [v] at H ⊢
      rw [if_pos rfl, show s * 2 + 0 = 2 * s + 0 by omega]
      exact H
    · rw [v] at H ⊢
      rw [if_neg (by decide), show s * 2 + 1 = 2 * s + 1 by omega]
      exact H
  by_cases c : prs (h.i 6) (h.i q) e a = 0
  · rw [if_pos c]
    refine ⟨t4, ?_⟩
    refine fin x1 (by omega) (by omega) ?_
    unfold rsn scode
    rw [if_pos c, if_pos (by omega)]; omega
  · rw [if_neg c]
    have a1 : a + 1 < e := by
      by_cases z : a + 1 < e
      · exact z
      · exfalso; unfold prs at c; rw [if_neg z] at c; exact c rfl
    have l1 := hl (a + 1) (by omega) (by omega)
    rw [xw_id (a := a + 1) (by omega) (by omega)]
    refine ⟨⟨tq, by omega, by omega⟩, fun x2 e2 => ⟨t4, ?_⟩⟩
    rw [xw_id (a := x1 * 27) (by omega) (by omega), xw_id (a := x1 * 27 + h.i q (a + 1)) (by omega) (by omega), xw_id (a := x1 * 27 + h.i q (a + 1) - 97) (by omega) (by omega), xw_id (by omega) (by omega)] at e2
    refine fin x2 (by omega) (by omega) ?_
    unfold rsn scode
    rw [if_neg c, if_neg (by omega)]; omega
/-- the row of syllables whose sounds are kept -/
def EO (h : xH) (p : Int) (L : List FS) : Prop := SX h ∧ 130 ≤ p ∧ p + 5 < h.nx ∧ h.tag p = 9 ∧ (h.r p 0 = p + 1 ∧ h.r p 1 = p + 2 ∧ h.r p 3 = p + 4) ∧ (h.tag (p + 1) = 20 ∧ h.tag (p + 2) = 20 ∧ h.tag (p + 4) = 20) ∧ (h.len (p + 1) = psm L L.length ∧ h.len (p + 2) = ((L.length : Nat) : Int) + 1 ∧ h.len (p + 4) = ((L.length : Nat) : Int)) ∧ h.i p 6 = ((L.length : Nat) : Int) ∧ (∀ i : Nat, i ≤ L.length → h.i (p + 2) i = psm L i) ∧ (∀ i : Nat, i < L.length → h.i (p + 4) i = (L.getD i fs0).m) ∧ lets (h.i (p + 1)) 0 (psm L L.length) ∧ (∀ r ∈ L, 1 ≤ r.n) ∧ L.length ≤ 40 ∧ psm L L.length ≤ 1000 ∧ 1 ≤ L.length ∧ bits26 (h.i 5) ∧ SgF (h.i 6) (h.i 5) (h.i (p + 1)) L
/-- C places for codes have been made, A is written -/
def EnL (h g : xH) (C : Int) (A : List (Int × Int)) : Prop := (∀ c, c < h.nx → g.tag c = h.tag c ∧ g.len c = h.len c) ∧ g.tag h.nx = 20 ∧ g.len h.nx = C ∧ (∀ c, c ≠ h.nx → g.i c = h.i c) ∧ g.r = h.r ∧ g.nx = h.nx + 1 ∧ g.us = h.us + C ∧ ∀ k : Nat, k < A.length → g.i h.nx k = ecd (A.getD k (0, 0))
theorem EO_en {g : xH} {C : Int} {A : List (Int × Int)} (E : EO h p L) (N : EnL h g C A) : EO g p L := by
  obtain ⟨e1, e2, e3, e4, e5, e6, e7, e8, e9, e10, e11, e12, e13, e14, e15, e16, e17⟩ := E
  obtain ⟨n1, n2, n3, n4, n5, n6, n7, n8⟩ := N
  have i1 := n4 (p + 1) (by omega)
  have i2 := n4 (p + 2) (by omega)
  have i4 := n4 (p + 4) (by omega)
  have i0 := n4 p (by omega)
  have t0 := n1 p (by omega)
  have t1 := n1 (p + 1) (by omega)
  have t2 := n1 (p + 2) (by omega)
  have t4 := n1 (p + 4) (by omega)
  have x5 := n4 5 (by omega)
  have x6 := n4 6 (by omega)
  refine ⟨SX_rel (fun c hc => n1 c (by omega)) (fun c k _ => by rw [n5]) e1, e2, by omega, by rw [t0.1]; exact e4, by rw [n5]; exact e5, by rw [t1.1, t2.1, t4.1]; exact e6, by rw [t1.2, t2.2, t4.2]; exact e7, by rw [i0]; exact e8, by rw [i2]; exact e9, by rw [i4]; exact e10, by rw [i1]; exact e11, e12, e13, e14, e15, by rw [x5]; exact e16, by rw [x5, x6, i1]; exact e17⟩
theorem EnL_add {g h2 : xH} {C : Int} {A : List (Int × Int)} {x : Int × Int} (N : EnL h g C A) (e : h2 = g.wi h.nx ((A.length : Nat) : Int) (ecd x)) : EnL h h2 C (A ++ [x]) := by
  obtain ⟨n1, n2, n3, n4, n5, n6, n7, n8⟩ := N
  subst e
  refine ⟨n1, n2, n3, fun c hc => ?_, n5, n6, n7, fun k hk => ?_⟩
  · funext j
    rw [xi_wi, if_neg (fun z => hc z.1), n4 c hc]
  · rw [List.length_append] at hk
    have hk : k < A.length + 1 := hk
    rw [xi_wi]
    by_cases c : k = A.length
    · rw [if_pos ⟨rfl, by omega⟩, c, getD_app_r _ (Nat.le_refl _), Nat.sub_self]; rfl
    · rw [if_neg (fun z => by omega), getD_app_l _ (by omega)]
      exact n8 k (by omega)
theorem c_X_en73 {Q : xH → Prop} {l2 i C e : Int} (E : EO h p L) (c1 : C ≤ 1000) (i0 : 0 ≤ i) (i1 : i < 100) (eL : e ≤ psm L L.length) : ∀ (m : Nat) (g : xH) (A : List (Int × Int)) (a : Int) (u7 : xV), EnL h g C A → 0 ≤ a → a ≤ e → e - a ≤ m → ((A.length : Nat) : Int) + (e - a) ≤ C → (∀ g' u6 u7 u8, EnL h g' C (A ++ sgs (h.i 6) (h.i 5) (h.i (p + 1)) a e) → xT (d + 3) M_Syllables_setEnding 40 [(1, p), (1, 4), (0, l2), (1, h.nx), (0, (((A ++ sgs (h.i 6) (h.i 5) (h.i (p + 1)) a e).length : Nat) : Int)), (0, i + 1), u6, u7, u8] [] g' (xqv Q)) → xT (d + 3) M_Syllables_setEnding 73 [(1, p), (1, 4), (0, l2), (1, h.nx), (0, ((A.length : Nat) : Int)), (0, i), (0, e), u7, (0, a)] [] g (xqv Q) := by
  intro m
  induction m with
  | zero =>
    intro g A a u7 N a0 ae hm hC H
    apply L_Syllables_setEnding_73
    rw [if_neg (by omega)]
    intro x6 e6
    rw [xw_id (by omega) (by omega)] at e6
    rw [e6]
    rw [sgs_nil (by omega), List.append_nil] at H
    exact H g _ _ _ N
  | succ m ih =>
    intro g A a u7 N a0 ae hm hC H
    by_cases c : a < e
    · have Eg := EO_en E N
      have N' := N
      obtain ⟨n1, n2, n3, n4, n5, n6, n7, n8⟩ := N'
      obtain ⟨e1, e2, e3, e4, e5, e6, e7, e8, e9, e10, e11, e12, e13, e14, e15, e16, e17⟩ := Eg
      have x1 := n4 (p + 1) (by have := E.2.2.1; omega)
      have x5 := n4 5 (by have := E.2.2.1; omega)
      have x6 := n4 6 (by have := E.2.2.1; omega)
      have gt := nxt_gt (h.i 6) (h.i (p + 1)) e a
      have ne := nxt_le (P := h.i 6) (g := h.i (p + 1)) c
      have lt : lets (g.i (p + 1)) a e := fun k k0 k1 => e11 k (by omega) (by omega)
      have t4 : g.tag 4 = 2 := by have h := g; have SX_ := e1; exact (by simp only [sxt SX_, sxl SX_, sxf SX_, true_and, and_true, false_and, and_false, forall_eq, forall_eq', xi_wi, xr_wi, xt_wi, xl_wi, xn_wi, xs_wi, xi_wr, xr_wr, xt_wr, xl_wr, xn_wr, xs_wr, if_true, if_false, and_self, Int.reduceEq, Int.reduceLT, Int.reduceLE, Int.reduceNeg, Int.le_refl, Int.reduceMod] : g.tag 4 = 2)
      apply L_Syllables_setEnding_73
      rw [if_pos c, n3]
      refine ⟨n2, ?_⟩
      rw [if_pos (by omega), e5.1]
      intro y1 ey1
      rw [xw_id (by omega) (by omega)] at ey1
      subst ey1
      refine ⟨e4, t4, ?_⟩
      refine c_X_soundCode (d := d) e1 e6.1 a0 c (by rw [e7.1]; exact eL) (by omega) lt e16 ?_
      rw [x1, x5, x6]
      refine ⟨⟨n2, by omega, by rw [n3]; omega⟩, fun h2 eh => ?_⟩
      have N2 := EnL_add N eh
      have E2 := EO_en E N2
      obtain ⟨f1, f2, f3, f4, f5, f6, f7, f8, f9, f10, f11, f12, f13, f14, f15, f16, f17⟩ := E2
      have z1 := N2.2.2.2.1 (p + 1) (by have := E.2.2.1; omega)
      have z6 := N2.2.2.2.1 6 (by have := E.2.2.1; omega)
      have t4' : h2.tag 4 = 2 := by rw [(N2.1 4 (by have := E.2.2.1; omega)).1, ← (n1 4 (by have := E.2.2.1; omega)).1]; exact t4
      rw [f5.1]
      refine ⟨f4, t4', ?_⟩
      refine c_X_isPairAt (d := d + 1) f1 f6.1 a0 (by omega) (by rw [f7.1]; exact eL) (by omega) (by rw [z1, ← x1]; exact lt) ?_
      rw [z1, z6]
      have el : ((A.length : Nat) : Int) + 1 = (((A ++ [(rsn (h.i 6) (h.i (p + 1)) e a, vwl (h.i 6) (h.i 5) (h.i (p + 1)) e a)]).length : Nat) : Int) := by rw [List.length_append]; push_cast; rfl
      rw [sgs_cons c] at H
      have go : ∀ (x : Int) (u7 : xV), x = nxt (h.i 6) (h.i (p + 1)) e a → xT (d + 3) M_Syllables_setEnding 73 [(1, p), (1, 4), (0, l2), (1, h.nx), (0, ((A.length : Nat) : Int) + 1), (0, i), (0, e), u7, (0, x)] [] h2 (xqv Q) := fun x u7 ex => by
        rw [el]
        refine ih h2 _ x u7 N2 (by omega) (by omega) (by push_cast at hm; omega) (by rw [← el]; omega) (fun g' u6 u7 u8 N3 => ?_)
        rw [ex, List.append_assoc] at N3 ⊢
        exact H g' u6 u7 u8 N3
      by_cases z : prs (h.i 6) (h.i (p + 1)) e a = 0
      · rw [if_pos z, if_pos rfl]
        intro x2 e2
        rw [xw_id (by omega) (by omega)] at e2
        exact go x2 _ (by rw [e2]; unfold nxt; rw [if_pos z])
      · rw [if_neg z, if_neg (by decide)]
        intro x2 e2
        rw [xw_id (by omega) (by omega)] at e2
        exact go x2 _ (by rw [e2]; unfold nxt; rw [if_neg z])
    · apply L_Syllables_setEnding_73
      rw [if_neg c]
      intro x6 e6
      rw [xw_id (by omega) (by omega)] at e6
      rw [e6]
      rw [sgs_nil c, List.append_nil] at H
      exact H g _ _ _ N
/-- what is there behind it -/
def EndO (h h' : xH) (p C : Int) (F : List (Int × Int)) : Prop := (∀ c, c < h.nx → h'.tag c = h.tag c ∧ h'.len c = h.len c) ∧ h'.tag (h.nx + 1) = 20 ∧ h'.len (h.nx + 1) = ((F.length : Nat) : Int) ∧ (∀ c, (c < h.nx ∨ h.nx + 2 ≤ c) → h'.i c = h.i c) ∧ (∀ c, c ≠ p → h'.r c = h.r c) ∧ (∀ j, j ≠ 5 → h'.r p j = h.r p j) ∧ h'.r p 5 = h.nx + 1 ∧ h'.nx = h.nx + 2 ∧ h'.us = h.us + C + ((F.length : Nat) : Int) ∧ ((F.length : Nat) : Int) ≤ C ∧ ∀ k : Nat, k < F.length → h'.i (h.nx + 1) k = ecd (F.getD k (0, 0))
theorem c_X_en40 {Q : xH → Prop} {f : Nat} {C : Int} (E : EO h p L) (c1 : C ≤ 1000) (F : List (Int × Int)) (H : ∀ h', EndO h h' p C F → Q h') : ∀ (m : Nat) (i : Nat) (g : xH) (A : List (Int × Int)) (u6 u7 u8 : xV), i + m = L.length → f < i → EnL h g C A → ((A.length : Nat) : Int) + (psm L L.length - psm L i) ≤ C → A ++ ((L.drop i).map FS.s).flatten = F → xT (d + 3) M_Syllables_setEnding 40 [(1, p), (1, 4), (0, (f : Int)), (1, h.nx), (0, ((A.length : Nat) : Int)), (0, (i : Int)), u6, u7, u8] [] g (xqv Q) := by
  intro m
  induction m with
  | zero =>
    intro i g A u6 u7 u8 hi fi N hC eF
    have Eg := EO_en E N
    have E3 := E.2.2.1
    have E2 := E.2.1
    rw [List.drop_eq_nil_of_le (by omega)] at eF
    have eF : A = F := by rw [← eF]; exact (List.append_nil A).symm
    subst eF
    rw [show i = L.length by omega] at hC ⊢
    obtain ⟨n1, n2, n3, n4, n5, n6, n7, n8⟩ := N
    obtain ⟨e1, e2, e3, e4, e5, e6, e7, e8, e9, e10, e11, e12, e13, e14, e15, e16, e17⟩ := Eg
    apply L_Syllables_setEnding_40
    rw [if_neg (by omega)]
    refine ⟨e4, ?_⟩
    rw [if_neg (by omega)]
    refine c_copyOf (d := d + 2) n2 (by omega) (by rw [n3]; omega) (by omega) (by omega) (fun h4 K => ?_)
    obtain ⟨k1, k2, k3, k4, k5, k6, k7⟩ := K
    rw [n6] at k1 k2 k4 k6 k7
    refine ⟨by rw [k1, if_neg (by omega)]; exact e4, fun h5 e5' => H h5 ?_⟩
    have q1 : h5.tag = h4.tag ∧ h5.len = h4.len ∧ h5.i = h4.i ∧ h5.nx = h4.nx ∧ h5.us = h4.us ∧ ∀ c k, h5.r c k = if c = p ∧ k = 5 then h.nx + 1 else h4.r c k := by rw [e5', n6]; exact ⟨rfl, rfl, rfl, rfl, rfl, fun c k => by rw [xr_wr]⟩
    obtain ⟨q1, q2, q3, q4, q5, q6⟩ := q1
    refine ⟨fun c hc => ?_, ?_, ?_, fun c hc => ?_, fun c hc => ?_, fun j hj => ?_, ?_, ?_, ?_, by omega, fun k hk => ?_⟩
    · rw [q1, q2, k1, k2, if_neg (by omega), if_neg (by omega)]; exact n1 c hc
    · rw [q1, k1, if_pos rfl]
    · rw [q2, k2, if_pos rfl]
    · rw [q3, k6 c (by omega), n4 c (by omega)]
    · funext k
      rw [q6, if_neg (fun z => hc z.1), k3, n5]
    · rw [q6, if_neg (fun z => hj z.2), k3, n5]
    · rw [q6, if_pos ⟨rfl, rfl⟩]
    · rw [q4, k4]; omega
    · rw [q5, k5, n7]
    · rw [q3, k7 k (by omega) (by omega)]
      exact n8 k hk
  | succ m ih =>
    intro i g A u6 u7 u8 hi fi N hC eF
    have Eg := EO_en E N
    have E3 := E.2.2.1
    have E2 := E.2.1
    have il : i < L.length := by omega
    have x1 := N.2.2.2.1 (p + 1) (by omega)
    have x5 := N.2.2.2.1 5 (by omega)
    have x6 := N.2.2.2.1 6 (by omega)
    obtain ⟨e1, e2, e3, e4, e5, e6, e7, e8, e9, e10, e11, e12, e13, e14, e15, e16, e17⟩ := Eg
    have y0 := e9 i (by omega)
    have y1 := e9 (i + 1) (by omega)
    have es := E.2.2.2.2.2.2.2.2.2.2.2.2.2.2.2.2 i il
    have m0 := psm_mono e12 (Nat.zero_le i) (by omega)
    have m1 := psm_mono e12 (show i ≤ i + 1 by omega) (by omega)
    have m2 := psm_mono e12 (show i + 1 ≤ L.length by omega) (Nat.le_refl _)
    rw [psm_0] at m0
    push_cast at y1 m0 m1 m2
    have sl := sgs_len (P := h.i 6) (V := h.i 5) (g := h.i (p + 1)) (a := psm L i) (e := psm L (i + 1)) (by omega)
    apply L_Syllables_setEnding_40
    rw [if_neg (by omega)]
    refine ⟨e4, ?_⟩
    rw [if_pos (by omega), e5.2.1, xw_id (a := (i : Int) + 1) (by omega) (by omega), y1]
    refine ⟨⟨e6.2.1, by omega, by omega⟩, fun x1 ex => ?_⟩
    subst ex
    rw [if_neg (by omega), y0]
    refine ⟨⟨e6.2.1, by omega, by omega⟩, fun x2 ex => ?_⟩
    subst ex
    refine c_X_en73 (d := d) E c1 (by omega) (by omega) (by omega) (psm L (i + 1) - psm L i).toNat g A (psm L i) _ N (by omega) (by omega) (by omega) (by omega) (fun g' u6 u7 u8 N' => ?_)
    refine ih (i + 1) g' _ u6 u7 u8 (by omega) (by omega) N' (by rw [List.length_append]; push_cast; omega) ?_
    rw [← eF, List.append_assoc, ← es, List.drop_eq_getElem_cons il, List.map_cons, List.flatten_cons, List.getD_eq_getElem?_getD, List.getElem?_eq_getElem il]
    rfl
set_option maxHeartbeats 1000000 in
theorem c_X_setEnding {Q : xH → Prop} (E : EO h p L) (H : ∀ h' C, C ≤ psm L L.length → EndO h h' p C (endL L) → Q h') : xCv (d + 4) M_Syllables_setEnding [(1, p), (1, 4)] h Q := by
  have E' := E
  obtain ⟨e1, e2, e3, e4, e5, e6, e7, e8, e9, e10, e11, e12, e13, e14, e15, e16, e17⟩ := E'
  have t4 : h.tag 4 = 2 := by have SX_ := e1; simp only [sxt SX_, sxl SX_, sxf SX_, true_and, and_true, false_and, and_false, forall_eq, forall_eq', xi_wi, xr_wi, xt_wi, xl_wi, xn_wi, xs_wi, xi_wr, xr_wr, xt_wr, xl_wr, xn_wr, xs_wr, if_true, if_false, and_self, Int.reduceEq, Int.reduceLT, Int.reduceLE, Int.reduceNeg, Int.le_refl, Int.reduceMod]
  have fl := hvy_efst L e15
  have eq := endL_eq e16 e15 e17 e12 e11
  have m0 := psm_mono e12 (Nat.zero_le (efst L)) (by omega)
  have m1 := psm_mono e12 (show efst L ≤ efst L + 1 by omega) (by omega)
  have m2 := psm_mono e12 (show efst L + 1 ≤ L.length by omega) (Nat.le_refl _)
  rw [psm_0] at m0
  push_cast at m0 m1 m2
  have lt : lets (h.i (p + 1)) (psm L (efst L)) (psm L (efst L + 1)) := fun k k0 k1 => e11 k (by omega) (by omega)
  have fr := fvp_rg (P := h.i 6) e16 lt (by omega)
  have y0 := e9 (efst L) (by omega)
  have y1 := e9 (efst L + 1) (by omega)
  push_cast at y1
  -- behind the places that are made
  have go : ∀ u6 u7 u8 : xV, h.tag p = 9 ∧ (xCi (d + 3) M_Syllables_letterCount [(1, p)] h (fun r1 h2 => h2.tag p = 9 ∧ ((h2.tag (h2.r p 1) = 20 ∧ 0 ≤ ((efst L : Nat) : Int) ∧ ((efst L : Nat) : Int) < h2.len (h2.r p 1)) ∧ ((0 ≤ xw (r1 - (h2.i (h2.r p 1) ((efst L : Nat) : Int))) ∧ xw (r1 - (h2.i (h2.r p 1) ((efst L : Nat) : Int))) ≤ 7302250) ∧ ∀ p2 : Int, p2 = h2.nx → ∀ h3 : xH, h3 = h2.al 20 (xw (r1 - (h2.i (h2.r p 1) ((efst L : Nat) : Int)))) → xT (d + 3) M_Syllables_setEnding 40 [(1, p), (1, 4), (0, ((efst L : Nat) : Int)), (1, p2), (0, 0), (0, ((efst L : Nat) : Int)), u6, u7, u8] [] h3 (xqv Q))))) := fun u6 u7 u8 => by
    refine ⟨e4, ?_⟩
    apply L_Syllables_letterCount
    rw [e5.2.1, e8, e9 L.length (Nat.le_refl _), y0, xw_id (by omega) (by omega)]
    refine ⟨e4, ⟨e6.2.1, by omega, by omega⟩, e4, ⟨e6.2.1, by omega, by omega⟩, ⟨by omega, by omega⟩, fun p2 ep g eg => ?_⟩
    subst ep
    have N : EnL h g (psm L L.length - psm L (efst L)) [] := by
      rw [eg]
      refine ⟨fun c hc => ?_, by rw [xt_al, if_pos rfl], by rw [xl_al, if_pos rfl], fun c hc => by rw [xi_al], by rw [xr_al], by rw [xn_al], by rw [xs_al], fun k hk => absurd hk (Nat.not_lt_zero _)⟩
      rw [xt_al, xl_al, if_neg (by omega), if_neg (by omega)]; exact ⟨rfl, rfl⟩
    have Eg := EO_en E N
    have x1 := N.2.2.2.1 (p + 1) (by omega)
    have x5 := N.2.2.2.1 5 (by omega)
    have x6 := N.2.2.2.1 6 (by omega)
    have x2 := N.2.2.2.1 (p + 2) (by omega)
    have x0 := N.2.2.2.1 p (by omega)
    obtain ⟨f1, f2, f3, f4, f5, f6, f7, f8, f9, f10, f11, f12, f13, f14, f15, f16, f17⟩ := Eg
    apply L_Syllables_setEnding_40
    rw [if_neg (by omega)]
    refine ⟨f4, ?_⟩
    rw [if_pos (by omega), f5.2.1, f5.1, xw_id (a := ((efst L : Nat) : Int) + 1) (by omega) (by omega), x2, y0, y1]
    refine ⟨⟨f6.2.1, by omega, by omega⟩, fun z1 ez => ?_⟩
    subst ez
    rw [if_pos rfl]
    refine ⟨⟨f6.2.1, by omega, by omega⟩, by rw [(N.1 4 (by omega)).1]; exact t4, ?_⟩
    refine c_X_firstVowel (d := d) f1 f6.1 (by omega) (by omega) f16 (by omega) (by rw [x1]; exact lt) ?_
    rw [x1, x5, x6]
    have sl := sgs_len (P := h.i 6) (V := h.i 5) (g := h.i (p + 1)) (a := fvp (h.i 6) (h.i 5) (h.i (p + 1)) (psm L (efst L + 1)) (psm L (efst L))) (e := psm L (efst L + 1)) fr.2
    have key := c_X_en73 (d := d) (Q := Q) (l2 := ((efst L : Nat) : Int)) (i := ((efst L : Nat) : Int)) (C := psm L L.length - psm L (efst L)) (e := psm L (efst L + 1)) E (by omega) (by omega) (by omega) (by omega) (psm L (efst L + 1) - fvp (h.i 6) (h.i 5) (h.i (p + 1)) (psm L (efst L + 1)) (psm L (efst L))).toNat g [] (fvp (h.i 6) (h.i 5) (h.i (p + 1)) (psm L (efst L + 1)) (psm L (efst L))) (0, fvp (h.i 6) (h.i 5) (h.i (p + 1)) (psm L (efst L + 1)) (psm L (efst L))) N (by omega) fr.2 (by omega) (by show (0 : Int) + _ ≤ _; omega) (fun g' u6 u7 u8 N' => ?_)
    · exact key
    · rw [List.nil_append] at N' ⊢
      have := c_X_en40 (d := d) (Q := Q) (f := efst L) (C := psm L L.length - psm L (efst L)) E (by omega) (endL L) (fun h' W => H h' _ (by omega) W) (L.length - (efst L + 1)) (efst L + 1) g' _ u6 u7 u8 (by omega) (by omega) N' (by omega) eq.symm
      push_cast at this
      exact this
  apply L_Syllables_setEnding
  rw [e8, xw_id (by omega) (by omega)]
  refine ⟨e4, fun x1 ex1 x2 ex2 => ?_⟩
  subst ex1
  subst ex2
  have lp : ∀ m : Nat, m ≤ L.length → hvy L m = hvy L L.length → ∀ u4 u5 u6 u7 u8 : xV, xT (d + 3) M_Syllables_setEnding 10 [(1, p), (1, 4), (0, ((L.length : Nat) : Int) - 1), (0, (m : Int) - 1), u4, u5, u6, u7, u8] [] h (xqv Q) := by
    intro m
    induction m with
    | zero =>
      intro _ hv u4 u5 u6 u7 u8
      apply L_Syllables_setEnding_10
      rw [if_pos (by omega), if_neg (by omega)]
      have ef : ((efst L : Nat) : Int) = ((L.length : Nat) : Int) - 1 := by
        unfold efst
        rw [← hv, if_pos (show hvy L 0 < 0 by show (-1 : Int) < 0; decide)]; omega
      rw [← ef]
      exact go u6 u7 u8
    | succ m ih =>
      intro hm hv u4 u5 u6 u7 u8
      apply L_Syllables_setEnding_10
      have e1 : (((m + 1 : Nat) : Int) - 1) = (m : Int) := by push_cast; omega
      rw [e1, if_neg (by omega), e5.2.2, e10 m (by omega)]
      refine ⟨e4, ⟨e6.2.2, by omega, by omega⟩, ?_⟩
      by_cases c : (L.getD m fs0).m = 1
      · rw [if_pos c, if_neg (by omega)]
        have hm1 : hvy L (m + 1) = (m : Int) := by show (if (L.getD m fs0).m = 1 then (m : Int) else hvy L m) = _; rw [if_pos c]
        have ef : ((efst L : Nat) : Int) = (m : Int) := by
          unfold efst
          rw [← hv, hm1, if_neg (by omega)]; omega
        rw [← ef]
        exact (go u6 u7 u8).2
      · rw [if_neg c]
        intro x1 ex
        rw [xw_id (by omega) (by omega)] at ex
        rw [ex, show (m : Int) + -1 = (m : Int) - 1 by omega]
        refine ih (by omega) ?_ u4 u5 u6 u7 u8
        rw [← hv]
        show _ = (if (L.getD m fs0).m = 1 then (m : Int) else hvy L m)
        rw [if_neg c]
  exact lp L.length (Nat.le_refl _) rfl _ _ _ _ _
end SE
