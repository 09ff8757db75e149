/-! what a line's data are behind a walk of the class, whatever cells are new -/
def okc (x : Int) : Bool := decide (x < 16) || (decide (28 ≤ x) && decide (x < 130))
theorem okc_p {x : Int} (k : okc x = true) : (x < 16 ∨ 28 ≤ x) ∧ x < 130 := by
  unfold okc at k
  simp only [Bool.or_eq_true, Bool.and_eq_true, decide_eq_true_eq] at k
  omega
section MV
variable {p f : Int} {E : SEn} {d : Nat} {h0 h h' : xH} {l lR c : List Int} {l2 lr c2 : List (Int × Int)}
theorem XFar_g (F : FA l l2 lR lr h h') (T : Tok h h') (k : (l.all okc && l2.all (fun q => okc q.1) && lR.all okc && lr.all (fun q => okc q.1)) = true) {x : Int} (X : XFar h x) : h'.i x = h.i x ∧ h'.r x = h.r x ∧ h'.tag x = h.tag x ∧ h'.len x = h.len x ∧ XFar h' x := by
  simp only [Bool.and_eq_true, List.all_eq_true] at k
  obtain ⟨⟨⟨k1, k2⟩, k3⟩, k4⟩ := k
  obtain ⟨x1, x2, x3⟩ := X
  have n := F.1
  have T1 := T.1
  refine ⟨funext (fun j => F.2.2.1 x j x3 (fun m => ?_) (fun m => ?_) x2), funext (fun j => F.2.2.2 x j x3 (fun m => ?_) (fun m => ?_)), (F.2.1 x x3).1, (F.2.1 x x3).2, by omega, by omega, by omega⟩
  · have := okc_p (k1 x m); omega
  · have := okc_p (k2 _ m); simp only at this; omega
  · have := okc_p (k3 x m); omega
  · have := okc_p (k4 _ m); simp only at this; omega
theorem XEn_g (F : FA l l2 lR lr h h') (T : Tok h h') (S' : XS h') (w : low l l2 lR lr = true) (k : (l.all okc && l2.all (fun q => okc q.1) && lR.all okc && lr.all (fun q => okc q.1)) = true) (X : XEn h p f E) : XEn h' p f E := by
  have far := fun (x : Int) (q : XFar h x) => XFar_g F T k q
  have k' := k
  simp only [Bool.and_eq_true, List.all_eq_true] at k'
  obtain ⟨⟨⟨k1, k2⟩, k3⟩, k4⟩ := k'
  obtain ⟨a1, a2, a3, a4, a5, a6⟩ := X
  have tb := a3
  unfold I_tab at tb
  have row : ∀ x : Int, 22 ≤ x → x ≤ 27 → h'.i x = h.i x := fun x x0 x1 => FA_row F (by omega) (fun m => by have := okc_p (k1 x m); omega) (fun q m e => by have := okc_p (k2 q m); omega) (by omega)
  refine ⟨S'.1, S'.2.1, S'.2.2.1, a4, ?_, ?_⟩
  · unfold XLe at a5 ⊢
    obtain ⟨b1, b2, b3, b4, b5, b6, b7, b8, b9, b10, b11, b12, b13⟩ := a5
    have fp := far _ b9
    have f2 := far _ b10
    have f3 := far _ b11
    have f4 := far _ b12
    rw [fp.1, fp.2.1, fp.2.2.1, f2.1, f2.2.2.1, f2.2.2.2.1, f3.1, f3.2.2.1, f3.2.2.2.1, f4.1, f4.2.2.1, f4.2.2.2.1]
    exact ⟨b1, b2, b3, b4, b5, b6, b7, b8, fp.2.2.2.2, f2.2.2.2.2, f3.2.2.2.2, f4.2.2.2.2, b13⟩
  · obtain ⟨f0, f1, b1, b2, b3, b4, b5⟩ := a6
    refine ⟨f0, f1, by rw [row 25 (by decide) (by decide)]; exact b1, by rw [row 24 (by decide) (by decide)]; exact b2, by rw [row 26 (by decide) (by decide)]; exact b3, by rw [row 27 (by decide) (by decide)]; exact b4, fun g g0 g1 => ?_⟩
    have rg : h'.r 23 g = h.r 23 g := F.2.2.2 23 g (by omega) (fun m => by have := okc_p (k3 _ m); omega) (fun m => by have := okc_p (k4 _ m); simp only at this; omega)
    rw [rg]
    exact (b5 g g0 g1).imp id (fun z => ⟨z.1, z.2.1, FTab_fa F w T z.2.2⟩)
theorem FA_fq (F : FA l l2 lR lr h0 h) (G : Fr c c2 h h') (k1 : ∀ x ∈ c, x ∈ l ∨ h0.nx ≤ x) (k2 : ∀ q ∈ c2, q ∈ l2) : FA l l2 lR lr h0 h' := by
  have fs := fr_same G
  refine ⟨by rw [fs.2.2.2.1]; exact F.1, fun x hx => by rw [fs.2.1, fs.2.2.1]; exact F.2.1 x hx, fun x k hx u v y => ?_, fun x k hx u v => by rw [fs.1]; exact F.2.2.2 x k hx u v⟩
  rw [G.2 x k (fun m => ?_) (fun m => v (k2 _ m))]
  · exact F.2.2.1 x k hx u v y
  · rcases k1 x m with z | z
    · exact u z
    · omega
theorem Tok_fq (T : Tok h0 h) (G : Fr c c2 h h') : Tok h0 h' := by
  unfold Tok at T ⊢
  rw [(fr_same G).1]; exact T
theorem XS_q (S : XS h) (G : Fr c c2 h h') (k1 : ∀ x ∈ c, x < h.nx) (k2 : ∀ q ∈ c2, q.1 < h.nx) : XS h' := by
  have fs := fr_same G
  obtain ⟨s1, s2, s3, s4, s5, s6, s7, s8⟩ := S
  refine ⟨SX_2 G.1 s1, by rw [fs.2.2.2.1]; exact s2, by unfold I_tab at s3 ⊢; rw [fs.1]; exact s3, fun x k hx => ?_, by rw [fs.1, fs.2.1]; exact s5, by rw [fs.1, fs.2.2.2.1]; exact s6, by unfold tl at s7 ⊢; rw [fs.1, fs.2.2.1]; exact s7, by unfold tl at s8 ⊢; rw [fs.1, fs.2.2.1]; exact s8⟩
  rw [fs.2.2.2.1] at hx
  rw [fs.1, G.2 x k (fun m => by have := k1 x m; omega) (fun m => by have := k2 _ m; simp only at this; omega)]
  exact s4 x k hx
theorem Gro_fq (A : Gro h0 h) (G : Fr c c2 h h') : Gro h0 h' := by
  have fs := fr_same G
  unfold Gro tl at A ⊢
  rw [fs.1, fs.2.2.1, fs.2.2.2.1, fs.2.2.2.2]
  exact A
end MV
/-! learn: the class' loop over the lines -/
def lnB (h0 : xH) (f k : Int) : Bool := decide (h0.i 76 (k + 1) ≠ 0) && decide (chp (envR h0 (k + 1) f) ≠ -1)
noncomputable def lnP (h0 : xH) (f k : Int) : List Int := pth (envR h0 (k + 1) f) 42 st0
noncomputable def lnS (h0 : xH) (f : Int) (m : Nat) : Int := sumN (fun k => if lnB h0 f k = true then (((lnP h0 f k).length : Nat) : Int) else 0) m
def lnR (h0 : xH) (f : Int) (m : Nat) : Int := sumN (fun k => if lnB h0 f k = true then 1 else 0) m
noncomputable def lnU (h0 : xH) (f : Int) (m : Nat) (l : Int) : Int := sumN (fun k => if lnB h0 f k = true then cntL l (lnP h0 f k) else 0) m
def PthOk (L : List Int) : Prop := L.length ≤ 40 ∧ 1 ≤ L.length ∧ ∀ w ∈ L, 0 ≤ w ∧ w ≤ 5
theorem chp_ne {E : SEn} (ok : EOk E) (c : chp E ≠ -1) : 0 < scW E true st0 ∧ chp E = scW E false st0 ∧ scW E false st0 < 268435456 := by
  have n40 := ok.2.1
  have e0 : st0.1 = 0 := rfl
  have wt := scW_t ok (s := st0) (by rw [e0]; decide)
  have r := scW_rel ok 41 st0 (by rw [e0]; decide) st0_ok
  unfold chp at c ⊢
  by_cases z : scW E true st0 = 0
  · rw [if_pos z] at c; exact absurd rfl c
  · rw [if_neg z]
    have := r.2 (by omega)
    rw [e0] at this
    exact ⟨by omega, rfl, by omega⟩
theorem chp_eq {E : SEn} (ok : EOk E) : -1 ≤ chp E ∧ chp E ≤ 2100 := by
  have e0 : st0.1 = 0 := rfl
  have wf := scW_f ok (s := st0) (by rw [e0]; decide)
  by_cases c : chp E = -1
  · omega
  · have z := chp_ne ok c
    have r := scW_rel ok 41 st0 (by rw [e0]; decide) st0_ok
    have := r.2 z.1
    rw [e0] at this
    omega
theorem cntL_bd (l : Int) (L : List Int) : 0 ≤ cntL l L ∧ cntL l L ≤ ((L.length : Nat) : Int) := by
  unfold cntL
  have := List.countP_le_length (p := fun x => decide (lic x = l)) (l := L)
  omega
theorem sumN_bd {g : Int → Int} {B : Int} (B0 : 0 ≤ B) : ∀ n : Nat, (∀ k : Int, 0 ≤ k → k < n → 0 ≤ g k ∧ g k ≤ B) → 0 ≤ sumN g n ∧ sumN g n ≤ B * n := by
  intro n
  induction n with
  | zero => intro _; rw [sumN]; omega
  | succ n ih =>
    intro H
    have a := ih (fun k k0 k1 => H k k0 (by push_cast; omega))
    have b := H n (by omega) (by push_cast; omega)
    rw [sumN, Int.natCast_succ, Int.mul_add]
    omega
section LP
variable {n0 : Nat} {h0 : xH} {f : Int} {d : Nat} {q : Int}
def LnI (h0 : xH) (q : Int) (h : xH) : Prop := FA wkXL wkXS [] wkXR h0 h ∧ Tok h0 h ∧ XS h ∧ Gro (h0.al 20 5) h ∧ h.tag q = 20 ∧ h.len q = 5 ∧ h.r 28 6 ≠ q ∧ q < h.nx
theorem wk_okc : (wkXL.all okc && wkXS.all (fun q => okc q.1) && ([] : List Int).all okc && wkXR.all (fun q => okc q.1)) = true := by decide
theorem LnI_wk {h h' : xH} (hn0 : 130 ≤ h0.nx) (hq : q = h0.nx) (t0 : 0 ≤ tl (h0.al 20 5)) (L : LnI h0 q h) (A : WkX h h') : LnI h0 q h' ∧ h'.i q = h.i q := by
  obtain ⟨a1, a2, a3, a4, a5, a6, a7, a8⟩ := L
  obtain ⟨b1, b2, b3, b4⟩ := A
  have n0 := a1.1
  have n1 := b1.1
  have hn := a3.2.1
  have z2 := a2
  have y2 := b2
  unfold Tok at z2 y2
  refine ⟨⟨FA_trans a1 a2.1 b1, ?_, b4, Gro_trans t0 a4 b3, by rw [(b1.2.1 q a8).1]; exact a5, by rw [(b1.2.1 q a8).2]; exact a6, by omega, by omega⟩, ?_⟩
  · unfold Tok; omega
  · have hw : low wkXL wkXS [] wkXR = true := by decide
    unfold low at hw
    simp only [Bool.and_eq_true, List.all_eq_true, decide_eq_true_eq] at hw
    exact funext (fun k => b1.2.2.1 q k a8 (fun m => by have := hw.1.1.1 q m; omega) (fun m => by have := hw.1.1.2 _ m; simp only at this; omega) (fun e => a7 e.symm))
theorem LnI_q {h h' : xH} (hq : q = h0.nx) (L : LnI h0 q h) (G : Fr (q :: mvL) wkS h h') : LnI h0 q h' := by
  obtain ⟨a1, a2, a3, a4, a5, a6, a7, a8⟩ := L
  have fs := fr_same G
  have hn := a3.2.1
  refine ⟨FA_fq a1 G (fun x m => ?_) (by decide), Tok_fq a2 G, XS_q a3 G (fun x m => ?_) (fun x m => ?_), Gro_fq a4 G, by rw [fs.2.1]; exact a5, by rw [fs.2.2.1]; exact a6, by rw [fs.1]; exact a7, by rw [fs.2.2.2.1]; exact a8⟩
  · rw [List.mem_cons] at m
    rcases m with m | m
    · exact Or.inr (by omega)
    · exact Or.inl ((by decide : ∀ x ∈ mvL, x ∈ wkXL) x m)
  · rw [List.mem_cons] at m
    rcases m with m | m
    · rw [m]; exact a8
    · have := (by decide : ∀ x ∈ mvL, x < 130) x m; omega
  · have := (by decide : ∀ x ∈ wkS, x.1 < 130) x m; omega
end LP
