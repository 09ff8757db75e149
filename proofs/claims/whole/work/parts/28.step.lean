/-! from one call to the next -/
theorem INV_mono {n : Nat} {h : xH} (I : INV n h) : INV (n + 1) h := by
  obtain ⟨a1, a2, a3, a4, a5, a6, a7⟩ := I
  refine ⟨a1, a2, a3, a4, a5, ?_, a7⟩
  unfold I_room at a6 ⊢
  push_cast
  omega
theorem INV_fr {n : Nat} {l : List Int} {l2 : List (Int × Int)} {h h' : xH} (I : INV n h) (F : Fr l l2 h h') (w : low l l2 [] [] = true) (c1 : dis D_tape S_tape l2 l = true ∨ I_tape h') (c2 : dis D_vow S_vow l2 l = true ∨ I_vow h') (c3 : dis D_pair S_pair l2 l = true ∨ I_pair h') (c4 : dis D_form [] l2 l = true ∨ I_form h') (c5 : dis D_told S_told l2 l = true ∨ I_told h') (c6 : dis [] S_fault l2 l = true ∨ I_fault h') (c7 : dis D_place S_place l2 l = true ∨ I_place h') (c8 : dis D_judge S_judge l2 l = true ∨ I_judge h') (c9 : dis D_book S_book l2 l = true ∨ I_book h') (c10 : dis D_feet [] l2 l = true ∨ I_feet h') (c11 : dis D_line [] l2 l = true ∨ I_line h') (c12 : dis D_line [(48, 4)] l2 l = true ∨ I_poem h') (c13 : dis D_read S_read l2 l = true ∨ I_read h') (c14 : dis D_fit S_fit l2 l = true ∨ I_fit h') (c15 : dis [] S_dr l2 l = true ∨ I_dr h') : INV (n + 1) h' := by
  have I' := INV_mono I
  obtain ⟨_, _, _, _, _, a6', _⟩ := I'
  obtain ⟨a1, a2, a3, a4, a5, a6, i1, i2, i3, i4, i5, i6, i7, i8, i9, i10, i11, i12, i13, i14, i15⟩ := I
  have A := FA_of [] [] F
  have T : Tok h h' := by
    obtain ⟨e, f⟩ := F
    obtain ⟨x, b⟩ := h
    obtain ⟨y, b'⟩ := h'
    have e : b' = b := e
    subst e
    exact ⟨Or.inl rfl, Or.inl rfl⟩
  have er : h'.r = h.r := by
    obtain ⟨e, f⟩ := F
    obtain ⟨x, b⟩ := h
    obtain ⟨y, b'⟩ := h'
    have e : b' = b := e
    subst e
    rfl
  have en : h'.nx = h.nx := by
    obtain ⟨e, f⟩ := F
    obtain ⟨x, b⟩ := h
    obtain ⟨y, b'⟩ := h'
    have e : b' = b := e
    subst e
    rfl
  refine ⟨SX_2 F.1 a1, SR_2 F.1 a2, by omega, ?_, ?_, ?_, ?_, ?_, ?_, ?_, ?_, ?_, ?_, ?_, ?_, ?_, ?_, ?_, ?_, ?_, ?_⟩
  · unfold I_tab at a4 ⊢; rw [er]; exact a4
  · intro c k hc
    have z := a5 c k (by omega)
    have w' := w
    unfold low at w'
    simp only [Bool.and_eq_true, List.all_eq_true, decide_eq_true_eq] at w'
    rw [er, F.2 c k (fun q => by have := w'.1.1.1 c q; omega) (fun q => by have := w'.1.1.2 _ q; simp only at this; omega)]
    exact z
  · obtain ⟨e, f⟩ := F
    obtain ⟨x, b⟩ := h
    obtain ⟨y, b'⟩ := h'
    have e : b' = b := e
    subst e
    exact a6'
  · exact c1.elim (fun d => I_tape_fa A a3 a4 d i1) id
  · exact c2.elim (fun d => I_vow_fa A a3 a4 d i2) id
  · exact c3.elim (fun d => I_pair_fa A a3 a4 d i3) id
  · exact c4.elim (fun d => I_form_fa A a3 a4 d i4) id
  · exact c5.elim (fun d => I_told_fa A a3 a4 d i5) id
  · exact c6.elim (fun d => I_fault_fa A a3 a4 d i6) id
  · exact c7.elim (fun d => I_place_fa A a3 a4 d i7) id
  · exact c8.elim (fun d => I_judge_fa A a3 a4 d i8) id
  · exact c9.elim (fun d => I_book_fa A w T a3 a4 d (fun k => by rw [er]) i9) id
  · exact c10.elim (fun d => I_feet_fa A w T a3 a4 d (fun k => by rw [er]) i10) id
  · exact c11.elim (fun d => I_line_fa A w T a3 a4 d (by rw [er]) i11) id
  · exact c12.elim (fun d => I_poem_fa A w T a3 a4 d (fun k => by rw [er]) i12) id
  · exact c13.elim (fun d => I_read_fa A w T a3 a4 d (by rw [er]) i13) id
  · exact c14.elim (fun d => I_fit_fa A w T a3 a4 d (fun k => by rw [er]) i14) id
  · exact c15.elim (fun d => I_dr_fa A a3 a4 d i15) id
theorem jj_fr {n mx mr : Nat} {as : List xV} (l : List Int) (l2 : List (Int × Int)) (d : dis [1] [] l2 l = true) (H : ∀ h, INV n h → xCi 2046 mx ((1, 2) :: as) h (fun r1 h1 => Fr l l2 h h1 ∧ xCi 2046 mr ((1, 59) :: as) h1 (fun r2 h2 => r1 = r2 ∧ Fr l l2 h h2 ∧ INV (n + 1) h2))) : JJ INV n mx mr as := by
  intro h I
  have g : ∀ h', Fr l l2 h h' → h'.tag 1 = h.tag 1 ∧ h'.len 1 = h.len 1 ∧ h'.i 1 = h.i 1 ∧ h'.tag 59 = 12 ∧ h'.tag 2 = 11 := by
    intro h' F
    have r := dis_row d (FA_of [] [] F) I.2.2.1 I.2.2.2.1 (c := 1) (by decide)
    have sr := SR_2 F.1 I.2.1
    have sx := SX_2 F.1 I.1
    have e := F.1
    refine ⟨?_, ?_, r, sr.1.1, sx.1.1⟩
    · obtain ⟨x, b⟩ := h; obtain ⟨y, b'⟩ := h'; have e : b' = b := e; subst e; rfl
    · obtain ⟨x, b⟩ := h; obtain ⟨y, b'⟩ := h'; have e : b' = b := e; subst e; rfl
  refine xCi_mono ?_ (H h I)
  intro r1 h1 ⟨F, K⟩
  have q := g h1 F
  refine ⟨q.1, q.2.1, q.2.2.1, q.2.2.2.1, xCi_mono ?_ K⟩
  intro r2 h2 ⟨e, F2, J⟩
  have q2 := g h2 F2
  exact ⟨e, q2.1.trans q.1.symm, q2.2.1.trans q.2.1.symm, q2.2.2.1.trans q.2.2.1.symm, q2.2.2.2.2, q2.2.2.2.1, J⟩
