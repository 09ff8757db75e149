/-! scan and best -/
theorem vb_lo {s : List (Int × Int)} (k : ∀ p ∈ s, SnOk p) : vbits s % 2 = opn s := by
  cases s with
  | nil => rfl
  | cons p r =>
    have := (k p List.mem_cons_self).1
    show (p.2 + 2 * vbits r) % 2 = p.2
    omega
theorem vb_bd : ∀ (s : List (Int × Int)), (∀ p ∈ s, SnOk p) → 0 ≤ vbits s ∧ vbits s < 2 ^ s.length := by
  intro s
  induction s with
  | nil => intro _; exact ⟨Int.le_refl _, by decide⟩
  | cons p r ih =>
    intro k
    have a := (k p List.mem_cons_self).1
    have b := ih (fun q m => k q (List.mem_cons_of_mem _ m))
    rw [List.length_cons, Int.pow_succ]
    show 0 ≤ p.2 + 2 * vbits r ∧ p.2 + 2 * vbits r < _
    omega
theorem vb_hi : ∀ (r : List (Int × Int)) (p : Int × Int), (∀ q ∈ p :: r, SnOk q) → vbits (p :: r) / 2 ^ r.length % 2 = cls (p :: r) := by
  intro r
  induction r with
  | nil =>
    intro p k
    have := (k p List.mem_cons_self).1
    show (p.2 + 2 * 0) / 2 ^ 0 % 2 = p.2
    rw [Int.pow_zero]; omega
  | cons q r ih =>
    intro p k
    have a := (k p List.mem_cons_self).1
    have z := ih q (fun x m => k x (List.mem_cons_of_mem _ m))
    have e : cls (p :: q :: r) = cls (q :: r) := by
      unfold cls
      rw [List.getLastD_cons, List.getLastD_cons, List.getLastD_cons]
    rw [e, ← z, List.length_cons, Int.pow_succ, Int.mul_comm, ← Int.ediv_ediv_of_nonneg (by decide)]
    show (p.2 + 2 * vbits (q :: r)) / 2 / 2 ^ r.length % 2 = _
    rw [show (p.2 + 2 * vbits (q :: r)) / 2 = vbits (q :: r) by omega]
section SJ
variable {n : Nat} {h : xH}
theorem env_ok {l f : Int} {ws : List Wd} (I : INV n h) (l0 : 0 ≤ l) (l1 : l < 15) (ok : LnOk ws) (w1 : 1 ≤ ws.length) (R : RLn (RV h l) ws) (f0 : 0 ≤ f) (f1 : f ≤ 7) (np : 0 < h.i 95 f) : RPre h l f (envR h l f) ∧ envR h l f 0 0 = ((flat ws).length : Nat) ∧ ∀ i : Nat, i < (flat ws).length → envR h l f 1 i = ((flat ws).getD i fs0).m ∧ envR h l f 2 i = ((flat ws).getD i fs0).w ∧ envR h l f 3 i = cls ((flat ws).getD i fs0).s ∧ envR h l f 4 i = opn ((flat ws).getD i fs0).s := by
  have S := I.2.1
  have i4 := I.2.2.2.2.2.2.2.2.2.1
  have i10 := I.2.2.2.2.2.2.2.2.2.2.2.2.2.2.2.1
  have fl := flatF_last ws 0 ok.2.2 w1
  have e0 : envR h l f 0 0 = ((flat ws).length : Nat) := R.1
  have n40 := ok.2.1
  have syl : ∀ i : Nat, i < (flat ws).length → (envR h l f 1 i = ((flat ws).getD i fs0).m ∧ envR h l f 2 i = ((flat ws).getD i fs0).w ∧ envR h l f 3 i = cls ((flat ws).getD i fs0).s ∧ envR h l f 4 i = opn ((flat ws).getD i fs0).s) ∧ (1 ≤ ((flat ws).getD i fs0).m ∧ ((flat ws).getD i fs0).m ≤ 3) ∧ 0 ≤ h.i 88 (40 * l + i) ∧ h.i 88 (40 * l + i) < 65536 ∧ 1 ≤ h.i 87 (40 * l + i) ∧ h.i 87 (40 * l + i) ≤ 16 := by
    intro i hi
    have z := rln_syl ok R hi
    obtain ⟨j, -, -, -, -, -, so, -⟩ := flat_get ok hi
    obtain ⟨s1, s2, s3, s4, s5, s6⟩ := so
    simp only at s1 s2 s3 s4 s5 s6
    have vb := vb_bd _ s6
    have p16 : (2 : Int) ^ ((flat ws).getD i fs0).s.length ≤ 2 ^ 16 := by
      have : (2 : Nat) ^ ((flat ws).getD i fs0).s.length ≤ 2 ^ 16 := Nat.pow_le_pow_right (by decide) s5
      have q : ((2 ^ ((flat ws).getD i fs0).s.length : Nat) : Int) ≤ ((2 ^ 16 : Nat) : Int) := Int.ofNat_le.mpr this
      rw [Int.natCast_pow, Int.natCast_pow] at q
      exact q
    have e65 : (2 : Int) ^ 16 = 65536 := by decide
    refine ⟨⟨z.2.2.2.1, z.1, ?_, ?_⟩, ⟨s2, s3⟩, by rw [z.2.2.2.2.2.1]; exact vb.1, by rw [z.2.2.2.2.2.1]; omega, by rw [z.2.2.2.2.1]; omega, by rw [z.2.2.2.2.1]; omega⟩
    · show h.i 88 (40 * l + i) / 2 ^ (h.i 87 (40 * l + i) - 1).toNat % 2 = _
      rw [z.2.2.2.2.2.1, z.2.2.2.2.1]
      revert s4 s6
      generalize ((flat ws).getD i fs0).s = s
      intro s4 s6
      cases s with
      | nil => exact absurd s4 (by decide)
      | cons p r =>
        rw [show (((p :: r).length : Nat) : Int) - 1 = ((r.length : Nat) : Int) by rw [List.length_cons]; push_cast; omega, Int.toNat_natCast]
        exact vb_hi r p s6
    · show h.i 88 (40 * l + i) % 2 = _
      rw [z.2.2.2.2.2.1]
      exact vb_lo s6
  have sylI : ∀ i : Int, 0 ≤ i → i < envR h l f 0 0 → ∃ j : Nat, i = (j : Int) ∧ j < (flat ws).length := fun i i0 i1 => ⟨i.toNat, by omega, by rw [e0] at i1; omega⟩
  have fk := i4.1 f f0 (by omega)
  have eo : EOk (envR h l f) := by
    refine ⟨by rw [e0]; have := fl.1; unfold flat at *; omega, by rw [e0]; omega, fun i i0 i1 => ?_, ?_, ?_, fun q q0 q1 => ?_, ?_, ?_, fun g g0 g1 => ?_, fun p p0 p1 => ?_⟩
    · obtain ⟨j, rfl, hj⟩ := sylI i i0 i1
      have := syl j hj
      rw [this.1.1]; exact this.2.1
    · show 1 ≤ h.i 95 f; omega
    · show h.i 95 f ≤ 8; omega
    · show 0 ≤ h.i 94 (8 * f + q) ∧ h.i 94 (8 * f + q) < 4096
      exact (i4.2.1 (8 * f + q) (by omega) (by omega)).2
    · show 0 ≤ h.i 96 f; omega
    · show h.i 96 f < 256; omega
    · rcases i10 g g0 g1 with z | z
      · exact Or.inl z.2
      · exact Or.inr z.2.1
    · exact ⟨(i4.2.2 p p0 p1).2.1, (i4.2.2 p p0 p1).2.2⟩
  refine ⟨⟨S, l0, l1, f0, by omega, rfl, eo, fun i i0 i1 => ?_⟩, e0, fun i hi => (syl i hi).1⟩
  obtain ⟨j, rfl, hj⟩ := sylI i i0 i1
  exact (syl j hj).2.2
theorem XS_of (I : INV n h) : XS h := by
  obtain ⟨a1, a2, a3, a4, a5, a6, a7⟩ := I
  unfold I_room at a6
  exact ⟨a1, a3, a4, a5, a6.2.2.2.2.2.2.1, a6.2.2.2.2.2.2.2, a6.2.2.1, a6.2.2.2.1⟩
/-- a line of the class against the data -/
theorem XLe_B {p : Int} {ws : List Wd} {E : SEn} (B : SylB h p) (ok : LnOk ws) (X : XLn (XV h p) ws) (e0 : E 0 0 = ((flat ws).length : Nat)) (es : ∀ i : Nat, i < (flat ws).length → E 1 i = ((flat ws).getD i fs0).m ∧ E 2 i = ((flat ws).getD i fs0).w ∧ E 3 i = cls ((flat ws).getD i fs0).s ∧ E 4 i = opn ((flat ws).getD i fs0).s) : XLe h p E := by
  have B' := B
  obtain ⟨b1, b2, b3, b4, b5, b6, b7, b8, b9, b10, b11, b12, b13, b14, b15, b16, b17, b18, b19⟩ := B
  have x0 : h.i p 6 = ((flat ws).length : Nat) := X.1
  unfold aprt at b19
  unfold XLe XFar
  rw [b6, b7, b8, b16, b17, b18, x0, e0]
  refine ⟨b3, rfl, b11, b12, b13, Int.le_refl _, Int.le_refl _, Int.le_refl _, by omega, by omega, by omega, by omega, fun i i0 i1 => ?_⟩
  obtain ⟨j, rfl⟩ : ∃ j : Nat, i = (j : Int) := ⟨i.toNat, by omega⟩
  have hj : j < (flat ws).length := by omega
  have z := X.2.1 j hj
  have y := es j hj
  have x3 : h.i (h.r p 2) j = ((flat ws).getD j fs0).w := z.1
  have x4 : h.i (h.r p 3) j = ((flat ws).getD j fs0).m := z.2.1
  have x5 : h.i (h.r p 4) j = opn ((flat ws).getD j fs0).s + 2 * cls ((flat ws).getD j fs0).s + 4 * ((flat ws).getD j fs0).b := z.2.2
  rw [b6] at x3
  rw [b7] at x4
  rw [b8] at x5
  obtain ⟨k, hk, -, -, -, hb, so, -⟩ := flat_get ok hj
  have bb := (ok.2.2 _ (getD_mem wd0 hk)).2.2.2.1
  rw [← hb] at bb
  have o1 := opn_01 so.2.2.2.2.2
  have c1 := cls_01 so.2.2.2.2.2
  refine ⟨x3.trans y.2.1.symm, x4.trans y.1.symm, ?_, by rw [y.2.2.1]; exact c1, by rw [y.2.2.2]; exact o1⟩
  rw [x5, y.2.2.1, y.2.2.2]
  omega
theorem XFo_of {l f : Int} (I : INV n h) (f0 : 0 ≤ f) (f1 : f ≤ 7) : XFo h f (envR h l f) := by
  have i4 := I.2.2.2.2.2.2.2.2.2.1
  have i10 := I.2.2.2.2.2.2.2.2.2.2.2.2.2.2.2.1
  have fk := i4.1 f f0 (by omega)
  refine ⟨f0, by omega, fk.1, fun q q0 q1 => (i4.2.1 (8 * f + q) (by omega) (by omega)).1, fk.2.2.2.1, fun p p0 p1 => (i4.2.2 p p0 p1).1, fun g g0 g1 => ?_⟩
  rcases i10 g g0 g1 with z | z
  · exact Or.inl z
  · refine Or.inr ⟨z.1, ?_, z.2.2⟩
    have := z.2.1.1
    show h.i 89 g ≠ -1
    omega
theorem LR_env {p l f : Int} (I : INV n h) (l0 : 0 ≤ l) (l1 : l < 15) (LR : LineRel h p l) (f0 : 0 ≤ f) (f1 : f ≤ 7) (np : 0 < h.i 95 f) : RPre h l f (envR h l f) ∧ XEn h p f (envR h l f) := by
  obtain ⟨sb, -, ws, ok, w1, XL, RL_, -⟩ := LR
  have e := env_ok I l0 l1 ok w1 RL_ f0 f1 np
  exact ⟨e.1, I.1, I.2.2.1, I.2.2.2.1, e.1.2.2.2.2.2.2.1, XLe_B sb ok XL e.2.1 e.2.2, XFo_of I f0 f1⟩
/-- behind a scan of the class, the reference's data stand -/
theorem RPre_x {h' : xH} {l f : Int} {E : SEn} {c cR : List Int} {c2 cr : List (Int × Int)} (S : XS h) (F : FA c c2 cR cr h h') (d : (c.all (fun x => decide (x < 59)) && c2.all (fun q => decide (q.1 < 59)) && cR.all (fun x => decide (x < 59)) && cr.all (fun q => decide (q.1 < 59))) = true) (P : RPre h l f E) : RPre h' l f E := by
  simp only [Bool.and_eq_true, List.all_eq_true, decide_eq_true_eq] at d
  obtain ⟨⟨⟨d1, d2⟩, d3⟩, d4⟩ := d
  have hn := S.2.1
  have ht := S.2.2.1
  unfold I_tab at ht
  have row : ∀ x : Int, 59 ≤ x → x < 130 → h'.i x = h.i x := fun x x0 x1 => FA_row F (by omega) (fun m => by have := d1 x m; omega) (fun q m e => by have := d2 q m; omega) (by omega)
  have rr : ∀ x k : Int, 59 ≤ x → x < 130 → h'.r x k = h.r x k := fun x k x0 x1 => F.2.2.2 x k (by omega) (fun m => by have := d3 x m; omega) (fun m => by have := d4 _ m; simp only at this; omega)
  obtain ⟨p1, p2, p3, p4, p5, p6, p7, p8⟩ := P
  refine ⟨?_, p2, p3, p4, p5, ?_, p7, ?_⟩
  · have lo : ∀ x, x < 130 → h'.tag x = h.tag x ∧ h'.len x = h.len x := fun x hx => F.2.1 x (by omega)
    obtain ⟨a, b, c⟩ := p1
    refine ⟨?_, ?_, ?_⟩
    · unfold SRT at a ⊢
      simp (disch := decide) only [(lo _ _).1]
      exact a
    · unfold SRL at b ⊢
      simp (disch := decide) only [(lo _ _).2]
      exact b
    · unfold SRF at c ⊢
      have e : ∀ k, h'.r 59 k = h.r 59 k := fun k => rr 59 k (by decide) (by decide)
      simp only [e]
      exact c
  · rw [← p6]
    funext k i
    unfold envR
    rw [row 81 (by decide) (by decide), row 85 (by decide) (by decide), row 82 (by decide) (by decide), row 88 (by decide) (by decide), row 87 (by decide) (by decide), row 95 (by decide) (by decide), row 94 (by decide) (by decide), row 96 (by decide) (by decide), row 89 (by decide) (by decide), row 91 (by decide) (by decide), row 92 (by decide) (by decide), row 93 (by decide) (by decide), row 90 (by decide) (by decide), row 97 (by decide) (by decide)]
  · rw [row 88 (by decide) (by decide), row 87 (by decide) (by decide)]
    exact p8
theorem SCk_x {h' : xH} {c cR : List Int} {c2 cr : List (Int × Int)} (S : XS h) (R : SR h) (F : FA c c2 cR cr h h') (d : (c.all (fun x => decide (1 < x)) && c2.all (fun q => decide (1 < q.1))) = true) : SCk h h' := by
  rw [Bool.and_eq_true, List.all_eq_true, List.all_eq_true] at d
  have hn := S.2.1
  have ht := S.2.2.1
  unfold I_tab at ht
  refine ⟨(F.2.1 1 (by omega)).1, (F.2.1 1 (by omega)).2, FA_row F (by omega) (fun m => ?_) (fun q m e => ?_) (by omega), ?_⟩
  · have := of_decide_eq_true (d.1 1 m); omega
  · have := of_decide_eq_true (d.2 q m); omega
  · rw [(F.2.1 59 (by omega)).1]; exact (srt R).1
theorem room_x {h1 h2 : xH} {c : List Int} {c2 : List (Int × Int)} (I : INV n h) (A : ScX h h1) (F : Fr c c2 h1 h2) : I_room (n + 1) h2 := by
  have a6 := I.2.2.2.2.2.1
  have i13 := I.2.2.2.2.2.2.2.2.2.2.2.2.2.2.2.2.2.2.1
  have n0 := I.2.2.1
  have fs := fr_same F
  obtain ⟨a1, a2, ⟨a, g1, g2, g3, g4⟩, x1, x2, x3, x4, x5, x6, x7, x8⟩ := A
  unfold I_room at a6 ⊢
  have es : h1.r 40 3 = h.r 40 3 := a1.2.2.2 40 3 (by omega) (by decide) (by decide)
  have ls : h1.len (h.r 40 3) = h.len (h.r 40 3) := (a1.2.1 _ (by have := i13.2.2.2.2.1; omega)).2
  rw [fs.1, fs.2.1, fs.2.2.1, fs.2.2.2.1, fs.2.2.2.2, es, ls]
  unfold tl at g2 g3 g4 x7 x8
  have a12 : a ≤ 12 := by
    rcases g3 with z | z
    · omega
    · by_cases q : a ≤ 12
      · exact q
      · exfalso
        have w : (2 : Nat) ^ 13 ≤ 2 ^ a := Nat.pow_le_pow_right (by decide) (by omega)
        have w2 : ((2 ^ 13 : Nat) : Int) ≤ ((2 ^ a : Nat) : Int) := Int.ofNat_le.mpr w
        rw [Int.natCast_pow, Int.natCast_pow] at w2
        have w3 : (8192 : Int) ≤ 2 ^ a := w2
        omega
  push_cast
  omega
theorem I_new_f {c : List Int} {c2 : List (Int × Int)} {h1 h2 : xH} (N : I_new h1) (F : Fr c c2 h1 h2) (w : low c c2 [] [] = true) (hn : 130 ≤ h1.nx) : I_new h2 := I_new_fr N F w hn
/-- a scan of the class, then the reference's: all stands -/
theorem scan_inv {h1 h2 : xH} (I : INV n h) (A : ScX h h1) (F : Fr scanL scanS h1 h2) (hR : SR h2) : SCk h h2 ∧ INV (n + 1) h2 := by
  have X1 := A.2.2.2
  have n1 := A.1.1
  have fs := fr_same F
  have G : FA (scXL ++ scanL) (scXS ++ scanS) [] scXR h h2 := FA_trans (FA_mono A.1 (fun c m => List.mem_append_left _ m) (fun c m => List.mem_append_left _ m) (fun c m => m) (fun c m => m)) A.2.1.1 (FA_of [] scXR (Fr_mono F (fun c m => List.mem_append_right _ m) (fun c m => List.mem_append_right _ m)))
  have hT : Tok h h2 := by
    have := A.2.1
    unfold Tok at this ⊢
    rw [fs.1]; exact this
  have hX : SX h2 := SX_2 F.1 X1.1
  have hTab : I_tab h2 := by have := X1.2.2.1; unfold I_tab at this ⊢; rw [fs.1]; exact this
  have hNew : I_new h2 := I_new_f X1.2.2.2.1 F (by decide) X1.2.1
  have hRoom := room_x I A F
  exact ⟨SCk_x (XS_of I) I.2.1 G (by decide), INV_fa I G (by decide) hT hX hR hTab hNew hRoom (Or.inl (by decide)) (Or.inl (by decide)) (Or.inl (by decide)) (Or.inl (by decide)) (Or.inl (by decide)) (Or.inl (by decide)) (Or.inl (by decide)) (Or.inl (by decide)) (Or.inl (by decide)) (Or.inl (by decide)) (Or.inl (by decide)) (Or.inl (by decide)) (Or.inl (by decide)) (Or.inl (by decide)) (Or.inl (by decide))⟩
theorem c_X_cannot {d : Nat} {Q : Int → xH → Prop} {f : Int} (SX_ : SX h) (H : Q (if h.r 2 13 ≠ 0 ∧ (0 ≤ f ∧ f ≤ 7 ∧ 0 < h.i 25 f) then 0 else 1) h) : xCi (d + 2) M_X_cannotScan [(1, 2), (0, f)] h Q := by
  apply L_X_cannotScan
  simp only [sxt SX_, sxl SX_, sxf SX_, true_and, and_true, false_and, and_false, forall_eq, forall_eq', xi_wi, xr_wi, xt_wi, xl_wi, xn_wi, xs_wi, xi_wr, xr_wr, xt_wr, xl_wr, xn_wr, xs_wr, if_true, if_false, and_self, Int.reduceEq, Int.reduceLT, Int.reduceLE, Int.reduceNeg, Int.le_refl, Int.reduceMod]
  by_cases c : h.r 2 13 = 0
  · rw [if_pos c]
    rw [if_neg (fun z => z.1 c)] at H; exact H
  · rw [if_neg c]
    refine c_X_isForm0 SX_ ?_
    by_cases c2 : 0 ≤ f ∧ f ≤ 7 ∧ 0 < h.i 25 f
    · rw [if_pos c2, if_neg (by decide)]
      rw [if_pos ⟨c, c2⟩] at H; exact H
    · rw [if_neg c2, if_pos rfl]
      rw [if_neg (fun z => c2 z.2)] at H; exact H
/-- whether both sides can scan -/
theorem can_eq {f : Int} (I : INV n h) : (h.r 2 13 ≠ 0 ∧ (0 ≤ f ∧ f ≤ 7 ∧ 0 < h.i 25 f)) ↔ (h.i 76 0 ≠ 0 ∧ (0 ≤ f ∧ f ≤ 7 ∧ 0 < h.i 95 f)) := by
  have i4 := I.2.2.2.2.2.2.2.2.2.1
  have i11 := I.2.2.2.2.2.2.2.2.2.2.2.2.2.2.2.2.1
  have a : h.r 2 13 ≠ 0 ↔ h.i 76 0 ≠ 0 := by
    rcases i11 with z | z
    · rw [z.1, z.2]
    · have := z.2.1
      exact ⟨fun _ => by omega, fun _ => z.1⟩
  constructor
  · intro ⟨x, y⟩
    exact ⟨a.mp x, y.1, y.2.1, by have := (i4.1 f y.1 (by omega)).1; omega⟩
  · intro ⟨x, y⟩
    exact ⟨a.mpr x, y.1, y.2.1, by have := (i4.1 f y.1 (by omega)).1; omega⟩
theorem line_of (I : INV n h) (c : h.i 76 0 ≠ 0) : LineRel h (h.r 2 13) 0 := by
  have i11 := I.2.2.2.2.2.2.2.2.2.2.2.2.2.2.2.2.1
  rcases i11 with z | z
  · exact absurd z.2 c
  · exact z.2.2
theorem same_J (I : INV n h) : SCk h h ∧ INV (n + 1) h := ⟨⟨rfl, rfl, rfl, (srt I.2.1).1⟩, INV_mono I⟩
end SJ
theorem j_scan (n : Nat) (hn : n < 512) (f : Int) (hf : xrg f) : JJ INV n M_X_scan M_R_scan [(0, f)] := by
  refine jj_fa (fun h I => ?_)
  have S := I.2.1
  have SX_ := I.1
  have sm := same_J I
  apply L_X_scan
  refine ⟨(sxt SX_).1, ?_⟩
  refine c_X_cannot SX_ ?_
  by_cases c : h.r 2 13 ≠ 0 ∧ (0 ≤ f ∧ f ≤ 7 ∧ 0 < h.i 25 f)
  · have cr := (can_eq I).mp c
    have L := LR_env I (by decide) (by decide) (line_of I cr.1) cr.2.1 cr.2.2.1 cr.2.2.2
    rw [if_pos c, if_pos rfl]
    simp only [sxt SX_, sxl SX_, sxf SX_, true_and, and_true, false_and, and_false, forall_eq, forall_eq', xi_wi, xr_wi, xt_wi, xl_wi, xn_wi, xs_wi, xi_wr, xr_wr, xt_wr, xl_wr, xn_wr, xs_wr, if_true, if_false, and_self, Int.reduceEq, Int.reduceLT, Int.reduceLE, Int.reduceNeg, Int.le_refl, Int.reduceMod]
    refine c_X_howMany (XS_of I) L.2 (fun h1 A C T => ?_)
    refine ⟨SCk_x (XS_of I) S A.1 (by decide), ?_⟩
    have P1 := RPre_x (XS_of I) A.1 (by decide) L.1
    have S1 := P1.1
    have r76 : h1.i 76 = h.i 76 := FA_row A.1 (by have := I.2.2.1; omega) (by decide) (by decide) (by have := I.2.2.2.1; unfold I_tab at this; omega)
    have r95 : h1.i 95 = h.i 95 := FA_row A.1 (by have := I.2.2.1; omega) (by decide) (by decide) (by have := I.2.2.2.1; unfold I_tab at this; omega)
    apply L_R_scan
    have S := S1
    simp only [srt S, srl S, srf S, r76, true_and, and_true, false_and, and_false, forall_eq, forall_eq', xi_wi, xr_wi, xt_wi, xl_wi, xn_wi, xs_wi, xi_wr, xr_wr, xt_wr, xl_wr, xn_wr, xs_wr, if_true, if_false, and_self, Int.reduceEq, Int.reduceLT, Int.reduceLE, Int.reduceNeg, Int.le_refl, Int.reduceMod]
    rw [if_neg cr.1]
    refine c_R_isForm S1 ?_
    rw [r95, if_pos cr.2, if_neg (by decide)]
    refine ⟨(srt S1).1, ?_⟩
    refine c_R_ways0 (d := 1985) P1 (fun h2 F R M st => ⟨rfl, scan_inv I A F R.1⟩)
  · have cr : ¬ (h.i 76 0 ≠ 0 ∧ (0 ≤ f ∧ f ≤ 7 ∧ 0 < h.i 95 f)) := fun z => c ((can_eq I).mpr z)
    rw [if_neg c, if_neg (by decide)]
    refine ⟨sm.1, ?_⟩
    apply L_R_scan
    simp only [srt S, srl S, srf S, true_and, and_true, false_and, and_false, forall_eq, forall_eq', xi_wi, xr_wi, xt_wi, xl_wi, xn_wi, xs_wi, xi_wr, xr_wr, xt_wr, xl_wr, xn_wr, xs_wr, if_true, if_false, and_self, Int.reduceEq, Int.reduceLT, Int.reduceLE, Int.reduceNeg, Int.le_refl, Int.reduceMod]
    by_cases c1 : h.i 76 0 = 0
    · rw [if_pos c1]; exact sm
    · rw [if_neg c1]
      refine c_R_isForm S ?_
      rw [if_neg (fun z => cr ⟨c1, z⟩), if_pos rfl]
      exact sm
theorem j_best (n : Nat) (hn : n < 512) (f : Int) (hf : xrg f) : JJ INV n M_X_best M_R_best [(0, f)] := by
  refine jj_fa (fun h I => ?_)
  have S := I.2.1
  have SX_ := I.1
  have sm := same_J I
  apply L_X_best
  refine ⟨(sxt SX_).1, ?_⟩
  refine c_X_cannot SX_ ?_
  by_cases c : h.r 2 13 ≠ 0 ∧ (0 ≤ f ∧ f ≤ 7 ∧ 0 < h.i 25 f)
  · have cr := (can_eq I).mp c
    have L := LR_env I (by decide) (by decide) (line_of I cr.1) cr.2.1 cr.2.2.1 cr.2.2.2
    rw [if_pos c, if_pos rfl]
    simp only [sxt SX_, sxl SX_, sxf SX_, true_and, and_true, false_and, and_false, forall_eq, forall_eq', xi_wi, xr_wi, xt_wi, xl_wi, xn_wi, xs_wi, xi_wr, xr_wr, xt_wr, xl_wr, xn_wr, xs_wr, if_true, if_false, and_self, Int.reduceEq, Int.reduceLT, Int.reduceLE, Int.reduceNeg, Int.le_refl, Int.reduceMod]
    refine c_X_cheapest (XS_of I) L.2 (fun h1 A C T => ?_)
    refine ⟨SCk_x (XS_of I) S A.1 (by decide), ?_⟩
    have P1 := RPre_x (XS_of I) A.1 (by decide) L.1
    have S1 := P1.1
    have r76 : h1.i 76 = h.i 76 := FA_row A.1 (by have := I.2.2.1; omega) (by decide) (by decide) (by have := I.2.2.2.1; unfold I_tab at this; omega)
    have r95 : h1.i 95 = h.i 95 := FA_row A.1 (by have := I.2.2.1; omega) (by decide) (by decide) (by have := I.2.2.2.1; unfold I_tab at this; omega)
    apply L_R_best
    have S := S1
    simp only [srt S, srl S, srf S, r76, true_and, and_true, false_and, and_false, forall_eq, forall_eq', xi_wi, xr_wi, xt_wi, xl_wi, xn_wi, xs_wi, xi_wr, xr_wr, xt_wr, xl_wr, xn_wr, xs_wr, if_true, if_false, and_self, Int.reduceEq, Int.reduceLT, Int.reduceLE, Int.reduceNeg, Int.le_refl, Int.reduceMod]
    rw [if_neg cr.1]
    refine c_R_isForm S1 ?_
    rw [r95, if_pos cr.2, if_neg (by decide)]
    refine ⟨(srt S1).1, ?_⟩
    refine c_R_cheapest (d := 1984) P1 (fun h2 F R M st => ⟨rfl, scan_inv I A F R.1⟩)
  · have cr : ¬ (h.i 76 0 ≠ 0 ∧ (0 ≤ f ∧ f ≤ 7 ∧ 0 < h.i 95 f)) := fun z => c ((can_eq I).mpr z)
    rw [if_neg c, if_neg (by decide)]
    refine ⟨sm.1, ?_⟩
    apply L_R_best
    simp only [srt S, srl S, srf S, true_and, and_true, false_and, and_false, forall_eq, forall_eq', xi_wi, xr_wi, xt_wi, xl_wi, xn_wi, xs_wi, xi_wr, xr_wr, xt_wr, xl_wr, xn_wr, xs_wr, if_true, if_false, and_self, Int.reduceEq, Int.reduceLT, Int.reduceLE, Int.reduceNeg, Int.le_refl, Int.reduceMod]
    by_cases c1 : h.i 76 0 = 0
    · rw [if_pos c1]; exact sm
    · rw [if_neg c1]
      refine c_R_isForm S ?_
      rw [if_neg (fun z => cr ⟨c1, z⟩), if_pos rfl]
      exact sm
