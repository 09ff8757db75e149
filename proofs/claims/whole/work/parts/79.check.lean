/-! check -/
def kcomp (i : Int) (k : Key) (w : Int) : Int := if w = 0 then i else if w = 1 then k.1 else if w = 2 then k.2.1 else if w = 3 then k.2.2.1 else if w = 4 then k.2.2.2.1 else k.2.2.2.2
def wkS : List (Int × Int) := [(35, 10), (35, 4), (35, 5)]
theorem pk_bd {i : Int} {k : Key} (K : KOk k) (i0 : 0 ≤ i) (i1 : i ≤ 40) : 0 ≤ pk i k ∧ pk i k < 2147483648 := by
  unfold KOk at K
  unfold pk
  by_cases c : 4 ≤ k.1
  · rw [if_pos c]; omega
  · rw [if_neg c]; omega
theorem spart_pk {i : Int} {k : Key} (K : KOk k) (i0 : 0 ≤ i) (i1 : i ≤ 40) {w : Int} (w0 : 0 ≤ w) (w1 : w ≤ 5) : spart (pk i k) w = kcomp i k w := by
  unfold KOk at K
  unfold spart kcomp
  by_cases c : 4 ≤ k.1
  · have e : pk i k = i * 65536 + k.1 * 4096 := by unfold pk; rw [if_pos c]
    rw [e]
    by_cases a0 : w = 0
    · rw [if_pos a0, if_pos a0]; omega
    rw [if_neg a0, if_neg a0]
    by_cases a1 : w = 1
    · rw [if_pos a1, if_pos a1]; omega
    rw [if_neg a1, if_neg a1, if_pos (by omega)]
    by_cases a2 : w = 2
    · rw [if_pos a2]; omega
    rw [if_neg a2]
    by_cases a3 : w = 3
    · rw [if_pos a3]; omega
    rw [if_neg a3]
    by_cases a4 : w = 4
    · rw [if_pos a4]; omega
    · rw [if_neg a4]; omega
  · have e : pk i k = i * 65536 + k.1 * 4096 + k.2.1 * 256 + k.2.2.1 * 16 + k.2.2.2.1 * 4 + k.2.2.2.2 := by unfold pk; rw [if_neg c]
    have z : ∀ x, x = i * 65536 + k.1 * 4096 + k.2.1 * 256 + k.2.2.1 * 16 + k.2.2.2.1 * 4 + k.2.2.2.2 → x / 65536 = i ∧ x / 4096 % 16 = k.1 ∧ x / 256 % 16 = k.2.1 ∧ x / 16 % 16 = k.2.2.1 ∧ x / 4 % 4 = k.2.2.2.1 ∧ x % 4 = k.2.2.2.2 := fun x hx => ⟨by omega, by omega, by omega, by omega, by omega, by omega⟩
    have z := z _ e
    rw [z.1, z.2.1, z.2.2.1, z.2.2.2.1, z.2.2.2.2.1, z.2.2.2.2.2]
    by_cases a0 : w = 0
    · rw [if_pos a0, if_pos a0]
    rw [if_neg a0, if_neg a0]
    by_cases a1 : w = 1
    · rw [if_pos a1, if_pos a1]
    rw [if_neg a1, if_neg a1, if_neg c]
section CK
variable {p f : Int} {E : SEn} {d : Nat}
theorem tldB_k {T : Int → Int} {k i : Int} {o : Key} : tldB T k i o = true ↔ ∀ w : Int, 0 ≤ w → w < 6 → T (6 * k + w) = kcomp i o w := by
  unfold tldB
  simp only [Bool.and_eq_true, decide_eq_true_eq]
  constructor
  · intro ⟨a0, a1, a2, a3, a4, a5⟩ w w0 w1
    have e : w = 0 ∨ w = 1 ∨ w = 2 ∨ w = 3 ∨ w = 4 ∨ w = 5 := by omega
    rcases e with e | e | e | e | e | e <;> subst e
    · rw [Int.add_zero]; exact a0
    · exact a1
    · exact a2
    · exact a3
    · exact a4
    · exact a5
  · intro H
    have h0 := H 0 (by decide) (by decide)
    rw [Int.add_zero] at h0
    exact ⟨h0, H 1 (by decide) (by decide), H 2 (by decide) (by decide), H 3 (by decide) (by decide), H 4 (by decide) (by decide), H 5 (by decide) (by decide)⟩
theorem c_told_2 {h : xH} {Q : Int → xH → Prop} {i k : Int} {o : Key} (SX_ : SX h) (K : KOk o) (i0 : 0 ≤ i) (i1 : i ≤ 40) (k0 : 0 ≤ k) (k1 : k < 40) (H : Q (b2i (tldB (h.i 57) k i o)) h) : ∀ (n : Nat) (w : Int) (u4 : xV), w + n = 6 → 0 ≤ w → (∀ v, 0 ≤ v → v < w → h.i 57 (6 * k + v) = kcomp i o v) → xT (d + 2) M_Walker_isTold 2 [(0, pk i o), (1, 57), (0, k), (0, w), u4] [] h (xqi Q) := by
  have pb := pk_bd K i0 i1
  intro n
  induction n with
  | zero =>
    intro w u4 hw w0 P
    apply L_Walker_isTold_2
    rw [if_neg (by omega)]
    rw [tldB_k.mpr (fun v v0 v1 => P v v0 (by omega))] at H
    exact H
  | succ n ih =>
    intro w u4 hw w0 P
    apply L_Walker_isTold_2
    rw [if_pos (by omega)]
    intro x1 e1
    rw [xw_id (a := k * 6) (by omega) (by omega), xw_id (a := k * 6 + w) (by omega) (by omega)] at e1
    subst e1
    rw [if_neg (by omega)]
    simp only [sxt SX_, sxl SX_, sxf SX_, true_and, and_true, false_and, and_false, forall_eq, forall_eq', xi_wi, xr_wi, xt_wi, xl_wi, xn_wi, xs_wi, xi_wr, xr_wr, xt_wr, xl_wr, xn_wr, xs_wr, if_true, if_false, and_self, Int.reduceEq, Int.reduceLT, Int.reduceLE, Int.reduceNeg, Int.le_refl, Int.reduceMod]
    rw [if_pos (by omega), xw_id (a := w + 1) (by omega) (by omega)]
    refine ⟨⟨by omega, by omega⟩, ?_⟩
    refine c_X_partOf pb.1 pb.2 w0 (by omega) ?_
    rw [spart_pk K i0 i1 w0 (by omega), show k * 6 + w = 6 * k + w by omega]
    by_cases c : h.i 57 (6 * k + w) = kcomp i o w
    · rw [if_pos c]
      refine ih (w + 1) _ (by omega) (by omega) (fun v v0 v1 => ?_)
      by_cases e : v = w
      · rw [e]; exact c
      · exact P v v0 (by omega)
    · rw [if_neg c]
      have : tldB (h.i 57) k i o = false := by
        cases z : tldB (h.i 57) k i o
        · rfl
        · exact absurd (tldB_k.mp z w w0 (by omega)) c
      rw [this] at H
      exact H
theorem c_X_isTold {h : xH} {Q : Int → xH → Prop} {i k : Int} {o : Key} (SX_ : SX h) (K : KOk o) (i0 : 0 ≤ i) (i1 : i ≤ 40) (k0 : 0 ≤ k) (k1 : k < 40) (H : Q (b2i (tldB (h.i 57) k i o)) h) : xCi (d + 3) M_Walker_isTold [(0, pk i o), (1, 57), (0, k)] h Q := by
  apply L_Walker_isTold
  exact c_told_2 SX_ K i0 i1 k0 k1 H 6 0 _ (by decide) (by decide) (fun v v0 v1 => by omega)
/-- the loop over the listed steps -/
theorem c_fol_15 {h : xH} {Q : Int → xH → Prop} {s : Stt} {k n : Int} {u1 u2 : xV} (W : WkA h p f E true s) (ks : scOk E s) (M : MvP h (scOps E s) s.1) (k0 : 0 ≤ k) (k1 : k < 40) (H0 : (∀ o ∈ scOps E s, mtB E (h.i 57) k s o = false) → Q k h) (H1 : ∀ (j : Nat) (u6 u7 : xV), j < (scOps E s).length → mtB E (h.i 57) k s ((scOps E s).getD j op0) = true → xCi (d + 4) M_Walker_take [(1, 35), (0, (j : Int))] h (fun r3 h3 => xT (d + 4) M_Walker_follow 6 [(1, 35), u1, u2, (1, 57), (0, n), (0, k + 1), u6, u7] [] h3 (xqi Q))) : ∀ (m j : Nat) (l6 : Int), j + m = (scOps E s).length → ((l6 = -1 ∧ ∀ j' : Nat, j' < j → mtB E (h.i 57) k s ((scOps E s).getD j' op0) = false) ∨ (∃ j' : Nat, j' < j ∧ l6 = (j' : Int) ∧ mtB E (h.i 57) k s ((scOps E s).getD j' op0) = true)) → xT (d + 4) M_Walker_follow 15 [(1, 35), u1, u2, (1, 57), (0, n), (0, k), (0, l6), (0, (j : Int))] [] h (xqi Q) := by
  have SX_ := W.1.1.1
  have ok := W.1.1.2.2.2.1
  have n40 := ok.2.1
  have si := scOk_i ok ks
  have l64 := M.2.1
  intro m
  induction m with
  | zero =>
    intro j l6 hj P
    apply L_Walker_follow_15
    simp only [sxt SX_, sxl SX_, sxf SX_, M.1, true_and, and_true, false_and, and_false, forall_eq, forall_eq', xi_wi, xr_wi, xt_wi, xl_wi, xn_wi, xs_wi, xi_wr, xr_wr, xt_wr, xl_wr, xn_wr, xs_wr, if_true, if_false, and_self, Int.reduceEq, Int.reduceLT, Int.reduceLE, Int.reduceNeg, Int.le_refl, Int.reduceMod]
    rw [if_neg (by omega), xw_id (a := k + 1) (by omega) (by omega)]
    rcases P with P | P
    · rw [if_pos P.1]
      refine H0 (fun o ho => ?_)
      obtain ⟨a, ha, hb⟩ := List.mem_iff_getElem.mp ho
      have z := P.2 a (by omega)
      rw [List.getD_eq_getElem?_getD, List.getElem?_eq_getElem ha] at z
      rw [← hb]; exact z
    · obtain ⟨j', a1, a2, a3⟩ := P
      rw [if_neg (by omega), a2]
      exact H1 j' _ _ (by omega) a3
  | succ m ih =>
    intro j l6 hj P
    have jl : j < (scOps E s).length := by omega
    have mem := getD_mem' jl
    have z := M.2.2 j jl
    apply L_Walker_follow_15
    simp only [sxt SX_, sxl SX_, sxf SX_, M.1, true_and, and_true, false_and, and_false, forall_eq, forall_eq', xi_wi, xr_wi, xt_wi, xl_wi, xn_wi, xs_wi, xi_wr, xr_wr, xt_wr, xl_wr, xn_wr, xs_wr, if_true, if_false, and_self, Int.reduceEq, Int.reduceLT, Int.reduceLE, Int.reduceNeg, Int.le_refl, Int.reduceMod]
    rw [if_pos (by omega)]
    refine c_X_valueOf W ks M jl ?_
    have nx : ∀ x : Int, x = xw ((j : Int) + 1) → x = ((j + 1 : Nat) : Int) := fun x hx => by rw [hx, xw_id (by omega) (by omega)]; push_cast; rfl
    have no : mtB E (h.i 57) k s ((scOps E s).getD j op0) = false → ∀ x : Int, x = xw ((j : Int) + 1) → xT (d + 4) M_Walker_follow 15 [(1, 35), u1, u2, (1, 57), (0, n), (0, k), (0, l6), (0, x)] [] h (xqi Q) := fun e x hx => by
      rw [nx x hx]
      clear hx
      refine ih (j + 1) l6 (by omega) ?_
      rcases P with P | P
      · left
        refine ⟨P.1, fun j' a => ?_⟩
        by_cases c : j' = j
        · rw [c]; exact e
        · exact P.2 j' (by omega)
      · right
        obtain ⟨j', a1, a2, a3⟩ := P
        exact ⟨j', by omega, a2, a3⟩
    by_cases c : 0 < scW E true ((scOps E s).getD j op0).2.2
    · rw [if_pos c]
      simp only [sxt SX_, sxl SX_, sxf SX_, true_and, and_true, false_and, and_false, forall_eq, forall_eq', xi_wi, xr_wi, xt_wi, xl_wi, xn_wi, xs_wi, xi_wr, xr_wr, xt_wr, xl_wr, xn_wr, xs_wr, if_true, if_false, and_self, Int.reduceEq, Int.reduceLT, Int.reduceLE, Int.reduceNeg, Int.le_refl, Int.reduceMod]
      rw [z.1]
      refine ⟨⟨by omega, by omega⟩, ?_⟩
      refine c_X_isTold SX_ (key_ok ok ks mem) si.1 (by omega) k0 k1 ?_
      cases t : tldB (h.i 57) k s.1 ((scOps E s).getD j op0).1
      · rw [b2i_0, if_pos rfl]
        exact no (by unfold mtB; rw [t, Bool.and_false]) _ rfl
      · rw [b2i_1, if_neg (by decide), nx _ rfl]
        exact ih (j + 1) _ (by omega) (Or.inr ⟨j, by omega, rfl, by unfold mtB; rw [t, decide_eq_true c]; rfl⟩)
    · rw [if_neg c]
      exact no (by unfold mtB; rw [decide_eq_false c, Bool.false_and]) _ rfl
/-- where a walk of told steps may stand -/
def wlk (E : SEn) (n m : Nat) (s : Stt) : Prop := (s = st0 ∧ m = n) ∨ (0 < scW E true s ∧ m < n)
theorem c_fol_6 {Q : Int → xH → Prop} {u1 u2 : xV} {T : Int → Int} {n : Nat} (hn : n ≤ 40) : ∀ (m : Nat) (h : xH) (s : Stt) (u6 u7 : xV), m ≤ n → wlk E n m s → WkA h p f E true s → scOk E s → h.i 57 = T → (∀ h', Fr mvL wkS h h' → Q (chkF E T n m s) h') → xT (d + 5) M_Walker_follow 6 [(1, 35), u1, u2, (1, 57), (0, (n : Int)), (0, (n : Int) - (m : Int)), u6, u7] [] h (xqi Q) := by
  intro m
  induction m with
  | zero =>
    intro h s u6 u7 hm wl W ks hT H
    have SX_ := W.1.1.1
    have ok := W.1.1.2.2.2.1
    have n1 := ok.1
    have n40 := ok.2.1
    have H := H h (Fr_refl _ _ _)
    have si := scOk_i ok ks
    apply L_Walker_follow_6
    rw [if_neg (by omega)]
    refine ⟨t35_ SX_, ?_⟩
    refine c_X_wOver W ?_
    have e : chkF E T n 0 s = if 0 < n ∧ scFin E s = true then -1 else (n : Int) := rfl
    by_cases c : s.1 < E 0 0
    · have nf : ¬ (scFin E s = true) := by
        unfold scFin
        intro z
        simp only [Bool.or_eq_true, Bool.and_eq_true, decide_eq_true_eq] at z
        rcases z with z | z
        · rcases ks with k | k | k <;> omega
        · omega
      rw [if_pos c, if_pos rfl]
      rw [e, if_neg (fun z => nf z.2)] at H
      exact H
    · rw [if_neg c, if_neg (by decide)]
      have w2 : 0 < scW E true s ∧ 0 < n := by
        rcases wl with wl | wl
        · exfalso
          have : s.1 = 0 := by rw [wl.1]; rfl
          omega
        · exact wl
      have yf : scFin E s = true := by
        cases z : scFin E s
        · exfalso
          have eo : scOps E s = [] := by unfold scOps; rw [if_pos (by omega)]
          have w := w2.1
          rw [scW_eq ok true (by omega), z, eo, if_neg (show ¬ (false = true) by decide)] at w
          exact absurd w (by show ¬ (0 : Int) < 0; decide)
        · rfl
      rw [e, if_pos ⟨w2.2, yf⟩] at H
      exact H
  | succ m ih =>
    intro h s u6 u7 hm wl W ks hT H
    have SX_ := W.1.1.1
    have ok := W.1.1.2.2.2.1
    apply L_Walker_follow_6
    rw [if_pos (by omega)]
    refine ⟨t35_ SX_, ?_⟩
    refine c_X_list (d := d) W ks (fun h1 F1 M1 => ?_)
    have W1 := WkA_m F1 W
    have hT1 : h1.i 57 = T := by rw [Fr_row F1 (by decide) (by decide)]; exact hT
    have F1' : Fr mvL wkS h h1 := Fr_mono F1 (fun _ q => q) (by decide)
    refine c_fol_15 (d := d + 1) W1 ks M1 (by omega) (by omega) (fun no => ?_) (fun j u6 u7 hj mt => ?_) (scOps E s).length 0 (-1) (by omega) (Or.inl ⟨rfl, fun j' a => absurd a (Nat.not_lt_zero _)⟩)
    · rw [hT1] at no
      have := H h1 F1'
      rw [chkF_no no] at this
      exact this
    · rw [hT1] at mt
      have mem := getD_mem' hj
      have mw := mt
      unfold mtB at mw
      rw [Bool.and_eq_true, decide_eq_true_eq] at mw
      refine c_X_take W1 ks M1 hj (fun h2 F2 W2 => ?_)
      rw [show (n : Int) - ((m + 1 : Nat) : Int) + 1 = (n : Int) - (m : Int) by push_cast; omega]
      have F2' : Fr mvL wkS h1 h2 := Fr_mono F2 (fun _ q => absurd q List.not_mem_nil) (by decide)
      refine ih h2 _ _ _ (by omega) (Or.inr ⟨mw.1, by omega⟩) W2 (scOps_ok ok ks mem).1 (by rw [Fr_row F2 (by decide) (by decide)]; exact hT1) (fun h3 F3 => ?_)
      have := H h3 (Fr_trans F1' (Fr_trans F2' F3))
      rw [chkF_yes ok ks mem mt] at this
      exact this
/-! the reference -/
theorem set_ops {l f : Int} {h : xH} {s : Stt} (R : REn h l f E) (M : MW h E) (k : scOk E s) (st : h.i 106 (scEnc E s) ≠ -1) : ∀ o ∈ scOps E s, h.i 106 (scEnc E o.2.2) ≠ -1 := by
  intro o ho
  have V := (M s k).resolve_left st
  rcases V.2.2 with z | z
  · exfalso
    have a := scOps_nx ho
    unfold scFin at z
    simp only [Bool.or_eq_true, Bool.and_eq_true, decide_eq_true_eq] at z
    rcases z with z | z
    · rcases k with k | k | k <;> omega
    · omega
  · exact z o ho
theorem c_R_isTold {h : xH} {Q : Int → xH → Prop} {k a i : Int} {o : Op_} (S : SR h) (k0 : 0 ≤ k) (k1 : k < 40) (a0 : 0 ≤ a) (a1 : a < 2688) (C : OCell h E a o) (H : Q (b2i (tldB (h.i 112) k i o.1)) h) : xCi (d + 1) M_R_isTold [(1, 59), (0, k), (0, a), (0, i)] h Q := by
  obtain ⟨e1, e2, e3, e4, e5, -, -⟩ := C
  unfold tldB at H
  apply L_R_isTold
  intro x1 hx
  rw [xw_id (a := 6 * k) (by omega) (by omega)] at hx
  subst hx
  simp only [srt S, srl S, srf S, e1, e2, e3, e4, e5, true_and, and_true, false_and, and_false, forall_eq, forall_eq', xi_wi, xr_wi, xt_wi, xl_wi, xn_wi, xs_wi, xi_wr, xr_wr, xt_wr, xl_wr, xn_wr, xs_wr, if_true, if_false, and_self, Int.reduceEq, Int.reduceLT, Int.reduceLE, Int.reduceNeg, Int.le_refl, Int.reduceMod]
  rw [xw_id (a := 6 * k + 1) (by omega) (by omega), xw_id (a := 6 * k + 2) (by omega) (by omega), xw_id (a := 6 * k + 3) (by omega) (by omega), xw_id (a := 6 * k + 4) (by omega) (by omega), xw_id (a := 6 * k + 5) (by omega) (by omega)]
  have b : 0 ≤ a ∧ a < 2688 := ⟨a0, a1⟩
  refine ⟨⟨by omega, by omega⟩, x_if (fun c0 => ⟨⟨by omega, by omega⟩, b, ?_⟩) (fun c0 => by rw [decide_eq_false c0] at H; exact H)⟩
  rw [decide_eq_true c0, Bool.true_and] at H
  refine x_if (fun c1 => ⟨⟨by omega, by omega⟩, b, ?_⟩) (fun c1 => by rw [decide_eq_false c1] at H; exact H)
  rw [decide_eq_true c1, Bool.true_and] at H
  refine x_if (fun c2 => ⟨⟨by omega, by omega⟩, b, ?_⟩) (fun c2 => by rw [decide_eq_false c2] at H; exact H)
  rw [decide_eq_true c2, Bool.true_and] at H
  refine x_if (fun c3 => ⟨⟨by omega, by omega⟩, b, ?_⟩) (fun c3 => by rw [decide_eq_false c3] at H; exact H)
  rw [decide_eq_true c3, Bool.true_and] at H
  refine x_if (fun c4 => ⟨⟨by omega, by omega⟩, b, ?_⟩) (fun c4 => by rw [decide_eq_false c4] at H; exact H)
  rw [decide_eq_true c4, Bool.true_and] at H
  exact x_if (fun c5 => by rw [decide_eq_true c5] at H; exact H) (fun c5 => by rw [decide_eq_false c5] at H; exact H)
theorem c_chk_44 {l f : Int} {h : xH} {Q : Int → xH → Prop} {s : Stt} {L : List Op_} {k n v : Int} {u1 u3 u4 : xV} (R : REn h l f E) (M : MW h E) (ks : scOk E s) (v0 : 0 ≤ v) (v1 : v < 42) (hv : v = lvS s) (O : ORow h E v L) (pm : L.Perm (scOps E s)) (st : ∀ o ∈ scOps E s, h.i 106 (scEnc E o.2.2) ≠ -1) (k0 : 0 ≤ k) (k1 : k < 40) (H0 : (∀ o ∈ scOps E s, mtB E (h.i 112) k s o = false) → Q k h) (H1 : ∀ (o : Op_) (u6 u7 u8 : xV), o ∈ scOps E s → mtB E (h.i 112) k s o = true → xT (d + 1) M_R_check 29 [(1, 59), u1, (0, n), xkl u3, (0, scEnc E o.2.2), (0, k + 1), u6, u7, u8] [] h (xqi Q)) : ∀ (m j : Nat) (l7 : Int), j + m = L.length → ((l7 = -1 ∧ ∀ j' : Nat, j' < j → mtB E (h.i 112) k s (L.getD j' op0) = false) ∨ (∃ j' : Nat, j' < j ∧ l7 = scEnc E (L.getD j' op0).2.2 ∧ mtB E (h.i 112) k s (L.getD j' op0) = true)) → xT (d + 1) M_R_check 44 [(1, 59), u1, (0, n), u3, u4, (0, k), (0, v), (0, l7), (0, 64 * v + (j : Int))] [] h (xqi Q) := by
  have S := R.1
  have ok := reo R
  have l64 := O.2.1
  intro m
  induction m with
  | zero =>
    intro j l7 hj P
    apply L_R_check_44
    simp only [srt S, srl S, srf S, true_and, and_true, false_and, and_false, forall_eq, forall_eq', xi_wi, xr_wi, xt_wi, xl_wi, xn_wi, xs_wi, xi_wr, xr_wr, xt_wr, xl_wr, xn_wr, xs_wr, if_true, if_false, and_self, Int.reduceEq, Int.reduceLT, Int.reduceLE, Int.reduceNeg, Int.le_refl, Int.reduceMod]
    rw [O.1, xw_id (a := 64 * v) (by omega) (by omega), xw_id (a := 64 * v + ((L.length : Nat) : Int)) (by omega) (by omega), if_neg (by omega), xw_id (a := k + 1) (by omega) (by omega)]
    refine ⟨⟨v0, v1⟩, ?_⟩
    rcases P with P | P
    · rw [if_pos P.1]
      refine H0 (fun o ho => ?_)
      obtain ⟨a, ha, hb⟩ := List.mem_iff_getElem.mp (pm.mem_iff.mpr ho)
      have z := P.2 a (by omega)
      rw [List.getD_eq_getElem?_getD, List.getElem?_eq_getElem ha] at z
      rw [← hb]; exact z
    · obtain ⟨j', a1, a2, a3⟩ := P
      have mem : L.getD j' op0 ∈ L := getD_mem' (by omega)
      have mo := pm.mem_iff.mp mem
      have eb := enc_bd ok (scOps_ok ok ks mo).1
      rw [if_neg (by omega), a2]
      exact H1 _ _ _ _ mo a3
  | succ m ih =>
    intro j l7 hj P
    have jl : j < L.length := by omega
    have mem := getD_mem' jl
    have mo := pm.mem_iff.mp mem
    have cell := O.2.2 j jl
    have no1 := scOps_ok ok ks mo
    have eb := enc_bd ok no1.1
    have V := (M _ no1.1).resolve_left (st _ mo)
    have sl : s.1 = v := by
      rw [hv]; unfold lvS
      have := scOps_nx mo
      rw [if_neg (fun z => by rcases ks with q | q | q <;> omega)]
    apply L_R_check_44
    simp only [srt S, srl S, srf S, true_and, and_true, false_and, and_false, forall_eq, forall_eq', xi_wi, xr_wi, xt_wi, xl_wi, xn_wi, xs_wi, xi_wr, xr_wr, xt_wr, xl_wr, xn_wr, xs_wr, if_true, if_false, and_self, Int.reduceEq, Int.reduceLT, Int.reduceLE, Int.reduceNeg, Int.le_refl, Int.reduceMod]
    rw [O.1, xw_id (a := 64 * v) (by omega) (by omega), xw_id (a := 64 * v + ((L.length : Nat) : Int)) (by omega) (by omega), if_pos (by omega)]
    refine ⟨⟨v0, v1⟩, ?_⟩
    have nx : ∀ x : Int, x = xw (64 * v + (j : Int) + 1) → x = 64 * v + ((j + 1 : Nat) : Int) := fun x hx => by rw [hx, xw_id (by omega) (by omega)]; push_cast; omega
    refine c_R_isTold S k0 k1 (by omega) (by omega) cell ?_
    have no : mtB E (h.i 112) k s (L.getD j op0) = false → ∀ x : Int, x = xw (64 * v + (j : Int) + 1) → xT (d + 1) M_R_check 44 [(1, 59), u1, (0, n), u3, u4, (0, k), (0, v), (0, l7), (0, x)] [] h (xqi Q) := fun e x hx => by
      rw [nx x hx]
      clear hx
      refine ih (j + 1) l7 (by omega) ?_
      rcases P with P | P
      · left
        refine ⟨P.1, fun j' a => ?_⟩
        by_cases c : j' = j
        · rw [c]; exact e
        · exact P.2 j' (by omega)
      · right
        obtain ⟨j', a1, a2, a3⟩ := P
        exact ⟨j', by omega, a2, a3⟩
    cases t : tldB (h.i 112) k v (L.getD j op0).1
    · rw [b2i_0, if_pos rfl]
      exact no (by unfold mtB; rw [sl, t, Bool.and_false]) _ rfl
    · rw [b2i_1, if_neg (by decide)]
      simp only [srt S, srl S, srf S, true_and, and_true, false_and, and_false, forall_eq, forall_eq', xi_wi, xr_wi, xt_wi, xl_wi, xn_wi, xs_wi, xi_wr, xr_wr, xt_wr, xl_wr, xn_wr, xs_wr, if_true, if_false, and_self, Int.reduceEq, Int.reduceLT, Int.reduceLE, Int.reduceNeg, Int.le_refl, Int.reduceMod]
      rw [cell.2.2.2.2.2.1, V.1]
      refine ⟨⟨by omega, by omega⟩, ⟨by omega, by omega⟩, ?_⟩
      by_cases c : 0 < scW E true (L.getD j op0).2.2
      · rw [if_pos c, nx _ rfl]
        refine ⟨⟨by omega, by omega⟩, ?_⟩
        exact ih (j + 1) _ (by omega) (Or.inr ⟨j, by omega, rfl, by unfold mtB; rw [sl, t, decide_eq_true c]; rfl⟩)
      · rw [if_neg c]
        exact no (by unfold mtB; rw [decide_eq_false c, Bool.false_and]) _ rfl
theorem c_chk_29 {l f : Int} {Q : Int → xH → Prop} {u1 : xV} {T : Int → Int} {n : Nat} (hn : n ≤ 40) : ∀ (m : Nat) (h : xH) (s : Stt) (u3 u6 u7 u8 : xV), m ≤ n → REn h l f E → MW h E → scOk E s → h.i 106 (scEnc E s) ≠ -1 → h.i 112 = T → (∀ h', Fr scanL scanS h h' → SR h' → Q (chkF E T n m s) h') → xT (d + 8) M_R_check 29 [(1, 59), u1, (0, (n : Int)), u3, (0, scEnc E s), (0, (n : Int) - (m : Int)), u6, u7, u8] [] h (xqi Q) := by
  intro m
  induction m with
  | zero =>
    intro h s u3 u6 u7 u8 hm R M ks st hT H
    have S := R.1
    have H := H h (Fr_refl _ _ _) S
    have e : chkF E T n 0 s = if 0 < n ∧ scFin E s = true then -1 else (n : Int) := rfl
    apply L_R_check_29
    rw [if_neg (by omega)]
    by_cases c : 0 < n
    · rw [if_pos (by omega)]
      refine ⟨(srt S).1, ?_⟩
      refine c_R_mayEnd R ks ?_
      cases z : scFin E s
      · rw [b2i_0, if_pos rfl]
        rw [e, if_neg (fun y => by rw [z] at y; exact absurd y.2 (by decide))] at H
        exact H
      · rw [b2i_1, if_neg (by decide)]
        rw [e, if_pos ⟨c, z⟩] at H
        exact H
    · rw [if_neg (by omega)]
      rw [e, if_neg (fun y => c y.1)] at H
      exact H
  | succ m ih =>
    intro h s u3 u6 u7 u8 hm R M ks st hT H
    have S := R.1
    have ok := reo R
    have si := scOk_i ok ks
    have n40 := ok.2.1
    have set := set_ops R M ks st
    apply L_R_check_29
    rw [if_pos (by omega)]
    refine ⟨(srt S).1, ?_⟩
    refine c_R_list (d := d + 1) R ks (fun h1 F1 l1 P1 => ?_)
    obtain ⟨L, O, sr, pm⟩ := P1
    have R1 := REn_l F1 R
    have M1 := MW_L F1 M
    have lv : 0 ≤ lvS s ∧ lvS s < 42 := by
      unfold lvS
      by_cases c : s.2.1 = -2
      · rw [if_pos c]; decide
      · rw [if_neg c]; omega
    have e106 : h1.i 106 = h.i 106 := Fr_row F1.1 (by decide) (by decide)
    have hT1 : h1.i 112 = T := by rw [Fr_row F1.1 (by decide) (by decide)]; exact hT
    have F1' : Fr scanL scanS h h1 := FrW_scan (FrW_L F1)
    refine ⟨(srt R1.1).1, ?_⟩
    rw [l1]
    have := c_chk_44 (d := d + 7) (Q := Q) (k := (n : Int) - ((m + 1 : Nat) : Int)) (n := (n : Int)) (u1 := u1) (u3 := u3) (u4 := (0, scEnc E s)) R1 M1 ks lv.1 lv.2 rfl O pm (by rw [e106]; exact set) (by omega) (by omega) (fun no => ?_) (fun o u6 u7 u8 ho mt => ?_) L.length 0 (-1) (by omega) (Or.inl ⟨rfl, fun j' a => absurd a (Nat.not_lt_zero _)⟩)
    · intro x1 e1 x2 e2
      subst e1
      rw [xw_id (a := 64 * lvS s) (by omega) (by omega)] at e2
      rw [e2]
      rw [show 64 * lvS s + ((0 : Nat) : Int) = 64 * lvS s by omega] at this
      exact this
    · rw [hT1] at no
      have := H h1 F1' R1.1
      rw [chkF_no no] at this
      exact this
    · rw [hT1] at mt
      rw [show (n : Int) - ((m + 1 : Nat) : Int) + 1 = (n : Int) - (m : Int) by push_cast; omega]
      refine ih h1 o.2.2 _ _ _ _ (by omega) R1 M1 (scOps_ok ok ks ho).1 (by rw [e106]; exact set o ho) hT1 (fun h2 F2 S2 => ?_)
      have := H h2 (Fr_trans F1' F2) S2
      rw [chkF_yes ok ks ho mt] at this
      exact this
theorem chkF_cg {T T' : Int → Int} {n : Nat} (H : ∀ j, 0 ≤ j → j < 6 * (n : Int) → T j = T' j) : ∀ (m : Nat) (s : Stt), m ≤ n → chkF E T n m s = chkF E T' n m s := by
  intro m
  induction m with
  | zero => intro s _; rfl
  | succ m ih =>
    intro s hm
    have e : mtB E T ((n : Int) - ((m + 1 : Nat) : Int)) s = mtB E T' ((n : Int) - ((m + 1 : Nat) : Int)) s := by
      funext o
      unfold mtB tldB
      rw [H _ (by omega) (by omega), H _ (by omega) (by omega), H _ (by omega) (by omega), H _ (by omega) (by omega), H _ (by omega) (by omega), H _ (by omega) (by omega)]
    unfold chkF
    rw [e]
    cases (scOps E s).find? (mtB E T' ((n : Int) - ((m + 1 : Nat) : Int)) s) with
    | none => rfl
    | some o => exact ih o.2.2 (by omega)
end CK
