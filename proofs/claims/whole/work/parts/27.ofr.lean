/-! frames of the objects -/
def low (l : List Int) (l2 : List (Int × Int)) (lR : List Int) (lr : List (Int × Int)) : Bool := l.all (fun c => decide (c < 130)) && l2.all (fun p => decide (p.1 < 130)) && lR.all (fun c => decide (c < 130)) && lr.all (fun p => decide (p.1 < 130))
def Tok (h h' : xH) : Prop := (h'.r 28 6 = h.r 28 6 ∨ h.nx ≤ h'.r 28 6) ∧ (h'.r 40 3 = h.r 40 3 ∨ h.nx ≤ h'.r 40 3)
section OFR
variable {l lR : List Int} {l2 lr : List (Int × Int)} {h h' : xH}
theorem fa_dyn (F : FA l l2 lR lr h h') (w : low l l2 lR lr = true) {c : Int} (h1 : 130 ≤ c) (h2 : c < h.nx) (h3 : c ≠ h.r 28 6) : h'.i c = h.i c ∧ h'.r c = h.r c ∧ h'.tag c = h.tag c ∧ h'.len c = h.len c := by
  unfold low at w
  simp only [Bool.and_eq_true, List.all_eq_true, decide_eq_true_eq] at w
  refine ⟨funext (fun k => F.2.2.1 c k h2 (fun q => ?_) (fun q => ?_) h3), funext (fun k => F.2.2.2 c k h2 (fun q => ?_) (fun q => ?_)), (F.2.1 c h2).1, (F.2.1 c h2).2⟩
  · have := w.1.1.1 c q; omega
  · have := w.1.1.2 _ q; simp only at this; omega
  · have := w.1.2 c q; omega
  · have := w.2 _ q; simp only at this; omega
theorem aprt_fa (hT : Tok h h') {p q : Int} (hq : q < h.nx) (a : aprt h p q) : aprt h' p q := by
  unfold aprt at a ⊢
  unfold Tok at hT
  omega
theorem SylB_fa (F : FA l l2 lR lr h h') (w : low l l2 lR lr = true) (hT : Tok h h') {p : Int} (S : SylB h p) : SylB h' p := by
  unfold SylB at S
  obtain ⟨a1, a2, a3, a4, a5, a6, a7, a8, a9, a10, a11, a12, a13, a14, a15, a16, a17, a18, a19⟩ := S
  have z := a19
  unfold aprt at z
  have b0 := fa_dyn F w (c := p) (by omega) (by omega) (by omega)
  have b1 := fa_dyn F w (c := p + 1) (by omega) (by omega) (by omega)
  have b2 := fa_dyn F w (c := p + 2) (by omega) (by omega) (by omega)
  have b3 := fa_dyn F w (c := p + 3) (by omega) (by omega) (by omega)
  have b4 := fa_dyn F w (c := p + 4) (by omega) (by omega) (by omega)
  have b5 := fa_dyn F w (c := p + 5) (by omega) (by omega) (by omega)
  have n := F.1
  unfold SylB
  rw [b0.1, b0.2.1, b0.2.2.1, b1.2.2.1, b1.2.2.2, b2.1, b2.2.2.1, b2.2.2.2, b3.2.2.1, b3.2.2.2, b4.2.2.1, b4.2.2.2, b5.2.2.1, b5.2.2.2]
  exact ⟨a1, by omega, a3, a4, a5, a6, a7, a8, a9, a10, a11, a12, a13, a14, a15, a16, a17, a18, aprt_fa hT a2 a19⟩
theorem SylB_rows (F : FA l l2 lR lr h h') (w : low l l2 lR lr = true) {p : Int} (S : SylB h p) : h'.i p = h.i p ∧ h'.r p = h.r p ∧ h'.i (p + 1) = h.i (p + 1) ∧ h'.i (p + 2) = h.i (p + 2) ∧ h'.i (p + 3) = h.i (p + 3) ∧ h'.i (p + 4) = h.i (p + 4) ∧ h'.i (p + 5) = h.i (p + 5) ∧ h'.len (p + 1) = h.len (p + 1) := by
  unfold SylB at S
  obtain ⟨a1, a2, a3, a4, a5, a6, a7, a8, a9, a10, a11, a12, a13, a14, a15, a16, a17, a18, a19⟩ := S
  unfold aprt at a19
  have b0 := fa_dyn F w (c := p) (by omega) (by omega) (by omega)
  have b1 := fa_dyn F w (c := p + 1) (by omega) (by omega) (by omega)
  have b2 := fa_dyn F w (c := p + 2) (by omega) (by omega) (by omega)
  have b3 := fa_dyn F w (c := p + 3) (by omega) (by omega) (by omega)
  have b4 := fa_dyn F w (c := p + 4) (by omega) (by omega) (by omega)
  have b5 := fa_dyn F w (c := p + 5) (by omega) (by omega) (by omega)
  exact ⟨b0.1, b0.2.1, b1.1, b2.1, b3.1, b4.1, b5.1, b1.2.2.2⟩
theorem LineRel_fa (F : FA l l2 lR lr h h') (w : low l l2 lR lr = true) (hT : Tok h h') {p k : Int} (hr : RV h' k = RV h k) (S : LineRel h p k) : LineRel h' p k := by
  obtain ⟨s1, s2, s3⟩ := S
  have r := SylB_rows F w s1
  have n := F.1
  have s1' := SylB_fa F w hT s1
  unfold SylE at s2
  obtain ⟨c1, c2, c3, c4⟩ := s2
  have z := c4
  unfold aprt at z
  have hp : 130 ≤ p := s1.1
  have b7 := fa_dyn F w (c := p + 7) (by omega) (by omega) (by omega)
  have s2' : SylE h' p := by
    unfold SylE
    rw [r.2.1, b7.2.2.1]
    exact ⟨by omega, c2, c3, aprt_fa hT c1 c4⟩
  have e : XV h' p = XV h p := by
    have q := s1
    unfold SylB at q
    obtain ⟨a1, a2, a3, a4, a5, a6, a7, a8, a9⟩ := q
    funext f j
    match f with
    | 0 => show h'.i p _ = h.i p _; rw [r.1]
    | 1 => show h'.i (h'.r p _) _ = h.i (h.r p _) _; rw [r.2.1, a4, r.2.2.1]
    | 2 => show h'.i (h'.r p _) _ = h.i (h.r p _) _; rw [r.2.1, a5, r.2.2.2.1]
    | 3 => show h'.i (h'.r p _) _ = h.i (h.r p _) _; rw [r.2.1, a6, r.2.2.2.2.1]
    | 4 => show h'.i (h'.r p _) _ = h.i (h.r p _) _; rw [r.2.1, a7, r.2.2.2.2.2.1]
    | 5 => show h'.i (h'.r p _) _ = h.i (h.r p _) _; rw [r.2.1, a8, r.2.2.2.2.2.2.1]
    | 6 => show h'.i (h'.r p _) _ = h.i (h.r p _) _; rw [r.2.1, c2, b7.1]
    | _ + 7 => show h'.len (h'.r p _) = h.len (h.r p _); rw [r.2.1, c2, b7.2.2.2]
  refine ⟨s1', s2', ?_⟩
  rw [e, hr]; exact s3
def D_line : List Int := [76, 77, 78, 79, 80, 81, 82, 83, 84, 85, 86, 87, 88]
theorem RV_fa (F : FA l l2 lR lr h h') (hn : 130 ≤ h.nx) (ht : I_tab h) (d : dis D_line [] l2 l = true) (k : Int) : RV h' k = RV h k := by
  have r1 := dis_row d F hn ht (c := 77) (by decide)
  have r2 := dis_row d F hn ht (c := 78) (by decide)
  have r3 := dis_row d F hn ht (c := 79) (by decide)
  have r4 := dis_row d F hn ht (c := 80) (by decide)
  have r5 := dis_row d F hn ht (c := 81) (by decide)
  have r6 := dis_row d F hn ht (c := 82) (by decide)
  have r7 := dis_row d F hn ht (c := 83) (by decide)
  have r8 := dis_row d F hn ht (c := 84) (by decide)
  have r9 := dis_row d F hn ht (c := 85) (by decide)
  have r10 := dis_row d F hn ht (c := 86) (by decide)
  have r11 := dis_row d F hn ht (c := 87) (by decide)
  have r12 := dis_row d F hn ht (c := 88) (by decide)
  funext f j
  unfold RV
  rw [r1, r2, r3, r4, r5, r6, r7, r8, r9, r10, r11, r12]
theorem I_line_fa (F : FA l l2 lR lr h h') (w : low l l2 lR lr = true) (hT : Tok h h') (hn : 130 ≤ h.nx) (ht : I_tab h) (d : dis D_line [] l2 l = true) (e : h'.r 2 13 = h.r 2 13) (I : I_line h) : I_line h' := by
  have r0 := dis_row d F hn ht (c := 76) (by decide)
  unfold I_line at I ⊢
  rw [e, r0]
  exact I.imp id (fun q => ⟨q.1, q.2.1, LineRel_fa F w hT (RV_fa F hn ht d 0) q.2.2⟩)
theorem I_poem_fa (F : FA l l2 lR lr h h') (w : low l l2 lR lr = true) (hT : Tok h h') (hn : 130 ≤ h.nx) (ht : I_tab h) (d : dis D_line [(48, 4)] l2 l = true) (e : ∀ k, h'.r 49 k = h.r 49 k) (I : I_poem h) : I_poem h' := by
  have d' : dis D_line [] l2 l = true := by
    unfold dis at d ⊢
    rw [Bool.and_eq_true] at d ⊢
    exact ⟨d.1, rfl⟩
  have r0 := dis_row d F hn ht (c := 76) (by decide)
  have s0 := dis_slot d F hn ht (c := 48) (k := 4) (by decide)
  unfold I_poem at I ⊢
  rw [r0, s0]
  refine ⟨I.1, fun k h0 h1 => ?_⟩
  rw [e k]
  exact (I.2 k h0 h1).imp id (fun q => ⟨q.1, q.2.1, LineRel_fa F w hT (RV_fa F hn ht d' _) q.2.2⟩)
def D_book : List Int := [68, 69, 70, 71, 72]
def S_book : List (Int × Int) := [(7, 2), (59, 16)]
theorem BookRel_fa (F : FA l l2 lR lr h h') (w : low l l2 lR lr = true) (hT : Tok h h') {p v : Int} (r1 : h'.i 68 = h.i 68) (r2 : h'.i 69 = h.i 69) (r3 : h'.i 70 = h.i 70) (r4 : h'.i 71 = h.i 71) (r5 : h'.i 72 = h.i 72) (B : BookRel h p v) : BookRel h' p v := by
  have q := SylB_rows F w B.1
  refine ⟨SylB_fa F w hT B.1, ?_⟩
  rw [q.1, q.2.2.1, q.2.2.2.1, q.2.2.2.2.2.1, r1, r2, r3, r4, r5]
  exact B.2
theorem I_book_fa (F : FA l l2 lR lr h h') (w : low l l2 lR lr = true) (hT : Tok h h') (hn : 130 ≤ h.nx) (ht : I_tab h) (d : dis D_book S_book l2 l = true) (e : ∀ k, h'.r 8 k = h.r 8 k) (I : I_book h) : I_book h' := by
  have r1 := dis_row d F hn ht (c := 68) (by decide)
  have r2 := dis_row d F hn ht (c := 69) (by decide)
  have r3 := dis_row d F hn ht (c := 70) (by decide)
  have r4 := dis_row d F hn ht (c := 71) (by decide)
  have r5 := dis_row d F hn ht (c := 72) (by decide)
  have s1 := dis_slot d F hn ht (c := 7) (k := 2) (by decide)
  have s2 := dis_slot d F hn ht (c := 59) (k := 16) (by decide)
  unfold I_book at I ⊢
  rw [s1, s2, r1, r2]
  obtain ⟨i1, i2, i3, i4, i5, i6, i7⟩ := I
  refine ⟨i1, i2, i3, fun j h0 h1 => ?_, fun v h0 h1 => ?_, fun j k h0 h1 h2 => ?_, i7⟩
  · obtain ⟨v, v0, v1, B⟩ := i4 j h0 h1
    rw [e j]
    exact ⟨v, v0, v1, BookRel_fa F w hT r1 r2 r3 r4 r5 B⟩
  · obtain ⟨j, v0, v1, B⟩ := i5 v h0 h1
    exact ⟨j, v0, v1, by rw [e j]; exact BookRel_fa F w hT r1 r2 r3 r4 r5 B⟩
  · obtain ⟨v, -, -, B⟩ := i4 j h0 (by omega)
    obtain ⟨v', -, -, B'⟩ := i4 k (by omega) h2
    have q := SylB_rows F w B.1
    have q' := SylB_rows F w B'.1
    rw [e j, e k, q.2.2.1, q'.2.2.1, q.2.2.2.2.2.2.2, q'.2.2.2.2.2.2.2]
    exact i6 j k h0 h1 h2
def D_feet : List Int := [89, 90, 91, 92, 93]
theorem FTab_fa (F : FA l l2 lR lr h h') (w : low l l2 lR lr = true) (hT : Tok h h') {p s m x y : Int} {dg : Int → Int} (B : FTab h p s m x y dg) : FTab h' p s m x y dg := by
  unfold FTab at B ⊢
  obtain ⟨a1, a2, a3, a4, a5, a6, a7, a8, a9, a10, a11, a12, a13, a14, a15, a16, a17, a18, a19, a20⟩ := B
  have z := a16
  unfold aprt at z
  have b0 := fa_dyn F w (c := p) (by omega) (by omega) (by omega)
  have b1 := fa_dyn F w (c := p + 1) (by omega) (by omega) (by omega)
  have b2 := fa_dyn F w (c := p + 2) (by omega) (by omega) (by omega)
  have b3 := fa_dyn F w (c := p + 3) (by omega) (by omega) (by omega)
  have b4 := fa_dyn F w (c := p + 4) (by omega) (by omega) (by omega)
  have n := F.1
  rw [b0.1, b0.2.1, b0.2.2.1, b1.1, b1.2.2.1, b1.2.2.2, b2.1, b2.2.2.1, b2.2.2.2, b3.1, b3.2.2.1, b3.2.2.2, b4.1, b4.2.2.1, b4.2.2.2]
  exact ⟨a1, by omega, a3, a4, a5, a6, a7, a8, a9, a10, a11, a12, a13, a14, a15, aprt_fa hT a2 a16, a17, a18, a19, a20⟩
theorem I_feet_fa (F : FA l l2 lR lr h h') (w : low l l2 lR lr = true) (hT : Tok h h') (hn : 130 ≤ h.nx) (ht : I_tab h) (d : dis D_feet [] l2 l = true) (e : ∀ k, h'.r 23 k = h.r 23 k) (I : I_feet h) : I_feet h' := by
  have r1 := dis_row d F hn ht (c := 89) (by decide)
  have r2 := dis_row d F hn ht (c := 90) (by decide)
  have r3 := dis_row d F hn ht (c := 91) (by decide)
  have r4 := dis_row d F hn ht (c := 92) (by decide)
  have r5 := dis_row d F hn ht (c := 93) (by decide)
  unfold I_feet at I ⊢
  intro k h0 h1
  rw [e k, r1]
  refine (I k h0 h1).imp id (fun q => ⟨q.1, ?_⟩)
  have z := q.2
  unfold FootRel at z ⊢
  rw [r1, r2, r3, r4, r5]
  exact ⟨z.1, FTab_fa F w hT z.2⟩
def D_read : List Int := [42, 43, 44, 41, 108, 109, 110]
def S_read : List (Int × Int) := [(40, 7), (59, 61)]
theorem I_read_fa (F : FA l l2 lR lr h h') (w : low l l2 lR lr = true) (hT : Tok h h') (hn : 130 ≤ h.nx) (ht : I_tab h) (d : dis D_read S_read l2 l = true) (e : h'.r 40 3 = h.r 40 3) (I : I_read h) : I_read h' := by
  have r1 := dis_row d F hn ht (c := 42) (by decide)
  have r2 := dis_row d F hn ht (c := 43) (by decide)
  have r3 := dis_row d F hn ht (c := 44) (by decide)
  have r5 := dis_row d F hn ht (c := 108) (by decide)
  have r6 := dis_row d F hn ht (c := 109) (by decide)
  have r7 := dis_row d F hn ht (c := 110) (by decide)
  have s1 := dis_slot d F hn ht (c := 40) (k := 7) (by decide)
  have s2 := dis_slot d F hn ht (c := 59) (k := 61) (by decide)
  have n := F.1
  unfold I_read at I ⊢
  obtain ⟨i1, i2, i3, i4, i5, i6, i7⟩ := I
  have b : h'.i (h.r 40 3) = h.i (h.r 40 3) := by
    cases i5 with
    | inl q => rw [q]; exact dis_row d F hn ht (c := 41) (by decide)
    | inr q => exact (fa_dyn F w q.1 q.2 i6).1
  have hs : h.r 40 3 < h.nx := by omega
  have b2 := F.2.1 _ hs
  have hT := hT.1
  rw [e, r1, r2, r3, r5, r6, r7, s1, s2, b, b2.1, b2.2]
  exact ⟨i1, i2, i3, i4, by omega, by omega, i7⟩
def D_fit : List Int := [125, 126, 127]
def S_fit : List (Int × Int) := [(2, 15), (59, 84)]
theorem I_fit_fa (F : FA l l2 lR lr h h') (w : low l l2 lR lr = true) (hT : Tok h h') (hn : 130 ≤ h.nx) (ht : I_tab h) (d : dis D_fit S_fit l2 l = true) (e : ∀ k, h'.r 58 k = h.r 58 k) (I : I_fit h) : I_fit h' := by
  have r1 := dis_row d F hn ht (c := 125) (by decide)
  have r2 := dis_row d F hn ht (c := 126) (by decide)
  have r3 := dis_row d F hn ht (c := 127) (by decide)
  have s1 := dis_slot d F hn ht (c := 2) (k := 15) (by decide)
  have s2 := dis_slot d F hn ht (c := 59) (k := 84) (by decide)
  unfold I_fit at I ⊢
  obtain ⟨i1, i2, i3, i4⟩ := I
  rw [s1, s2, r1, r2, r3]
  refine ⟨i1, i2, i3, fun a h0 h1 => ?_⟩
  obtain ⟨c1, c2, c3⟩ := i4 a h0 h1
  have q := SylB_rows F w c2
  rw [e a, q.1, q.2.2.1, q.2.2.2.1]
  exact ⟨c1, SylB_fa F w hT c2, c3⟩
def S_dr : List (Int × Int) := [(18, 0), (11, 0), (42, 0)]
theorem I_dr_fa (F : FA l l2 lR lr h h') (hn : 130 ≤ h.nx) (ht : I_tab h) (d : dis [] S_dr l2 l = true) (I : I_dr h) : I_dr h' := by
  have s1 := dis_slot d F hn ht (c := 18) (k := 0) (by decide)
  have s2 := dis_slot d F hn ht (c := 11) (k := 0) (by decide)
  have s3 := dis_slot d F hn ht (c := 42) (k := 0) (by decide)
  unfold I_dr at I ⊢
  rw [s1, s2, s3]; exact I
end OFR
