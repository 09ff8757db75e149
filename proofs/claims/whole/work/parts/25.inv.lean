/-! which frames leave which parts alone -/
def dis (D : List Int) (S l2 : List (Int × Int)) (l : List Int) : Bool := D.all (fun c => !l.contains c && l2.all (fun p => p.1 != c) && decide (c < 130) && c != 34) && S.all (fun p => !l.contains p.1 && !l2.contains p && decide (p.1 < 130) && p.1 != 34)
theorem dis_row {D : List Int} {S l2 lr : List (Int × Int)} {l lR : List Int} {h h' : xH} (d : dis D S l2 l = true) (F : FA l l2 lR lr h h') (hn : 130 ≤ h.nx) (ht : I_tab h) {c : Int} (hc : c ∈ D) : h'.i c = h.i c := by
  unfold dis at d
  rw [Bool.and_eq_true, List.all_eq_true, List.all_eq_true] at d
  have e := d.1 c hc
  simp only [Bool.and_eq_true, Bool.not_eq_true', List.all_eq_true, bne_iff_ne, decide_eq_true_eq] at e
  refine FA_row F (by omega) ?_ (fun p hp => e.1.1.2 p hp) (by unfold I_tab at ht; omega)
  intro q
  have z : l.contains c = true := List.contains_iff_mem.mpr q
  rw [z] at e
  exact absurd e.1.1.1 (by decide)
theorem dis_slot {D : List Int} {S l2 lr : List (Int × Int)} {l lR : List Int} {h h' : xH} (d : dis D S l2 l = true) (F : FA l l2 lR lr h h') (hn : 130 ≤ h.nx) (ht : I_tab h) {c k : Int} (hc : (c, k) ∈ S) : h'.i c k = h.i c k := by
  unfold dis at d
  rw [Bool.and_eq_true, List.all_eq_true, List.all_eq_true] at d
  have e := d.2 _ hc
  simp only [Bool.and_eq_true, Bool.not_eq_true', bne_iff_ne, decide_eq_true_eq] at e
  refine F.2.2.1 c k (by omega) ?_ ?_ (by unfold I_tab at ht; omega)
  · intro q
    have z : l.contains c = true := List.contains_iff_mem.mpr q
    rw [z] at e
    exact absurd e.1.1.1 (by decide)
  · intro q
    have z : l2.contains (c, k) = true := List.contains_iff_mem.mpr q
    rw [z] at e
    exact absurd e.1.1.2 (by decide)
section FRM
variable {l lR : List Int} {l2 lr : List (Int × Int)} {h h' : xH}
def D_tape : List Int := [3, 60]
def S_tape : List (Int × Int) := [(2, 1), (59, 1)]
theorem I_tape_fa (F : FA l l2 lR lr h h') (hn : 130 ≤ h.nx) (ht : I_tab h) (d : dis D_tape S_tape l2 l = true) (I : I_tape h) : I_tape h' := by
  have r1 := dis_row d F hn ht (c := 3) (by decide)
  have r2 := dis_row d F hn ht (c := 60) (by decide)
  have s1 := dis_slot d F hn ht (c := 2) (k := 1) (by decide)
  have s2 := dis_slot d F hn ht (c := 59) (k := 1) (by decide)
  unfold I_tape at I ⊢
  rw [r1, r2, s1, s2]; exact I
def D_vow : List Int := [5, 61]
def S_vow : List (Int × Int) := [(4, 1)]
theorem I_vow_fa (F : FA l l2 lR lr h h') (hn : 130 ≤ h.nx) (ht : I_tab h) (d : dis D_vow S_vow l2 l = true) (I : I_vow h) : I_vow h' := by
  have r1 := dis_row d F hn ht (c := 5) (by decide)
  have r2 := dis_row d F hn ht (c := 61) (by decide)
  have s1 := dis_slot d F hn ht (c := 4) (k := 1) (by decide)
  unfold I_vow at I ⊢
  rw [r1, r2, s1]; exact I
def D_pair : List Int := [6, 62, 63, 64]
def S_pair : List (Int × Int) := [(4, 3), (59, 6)]
theorem I_pair_fa (F : FA l l2 lR lr h h') (hn : 130 ≤ h.nx) (ht : I_tab h) (d : dis D_pair S_pair l2 l = true) (I : I_pair h) : I_pair h' := by
  have r1 := dis_row d F hn ht (c := 6) (by decide)
  have r2 := dis_row d F hn ht (c := 62) (by decide)
  have r3 := dis_row d F hn ht (c := 63) (by decide)
  have r4 := dis_row d F hn ht (c := 64) (by decide)
  have s1 := dis_slot d F hn ht (c := 4) (k := 3) (by decide)
  have s2 := dis_slot d F hn ht (c := 59) (k := 6) (by decide)
  unfold I_pair at I ⊢
  rw [r1, r2, r3, r4, s1, s2]; exact I
def D_form : List Int := [25, 26, 24, 27, 95, 96, 94, 97]
theorem I_form_fa (F : FA l l2 lR lr h h') (hn : 130 ≤ h.nx) (ht : I_tab h) (d : dis D_form [] l2 l = true) (I : I_form h) : I_form h' := by
  have r1 := dis_row d F hn ht (c := 25) (by decide)
  have r2 := dis_row d F hn ht (c := 26) (by decide)
  have r3 := dis_row d F hn ht (c := 24) (by decide)
  have r4 := dis_row d F hn ht (c := 27) (by decide)
  have r5 := dis_row d F hn ht (c := 95) (by decide)
  have r6 := dis_row d F hn ht (c := 96) (by decide)
  have r7 := dis_row d F hn ht (c := 94) (by decide)
  have r8 := dis_row d F hn ht (c := 97) (by decide)
  unfold I_form at I ⊢
  rw [r1, r2, r3, r4, r5, r6, r7, r8]; exact I
def D_told : List Int := [57, 112]
def S_told : List (Int × Int) := [(2, 12), (59, 64)]
theorem I_told_fa (F : FA l l2 lR lr h h') (hn : 130 ≤ h.nx) (ht : I_tab h) (d : dis D_told S_told l2 l = true) (I : I_told h) : I_told h' := by
  have r1 := dis_row d F hn ht (c := 57) (by decide)
  have r2 := dis_row d F hn ht (c := 112) (by decide)
  have s1 := dis_slot d F hn ht (c := 2) (k := 12) (by decide)
  have s2 := dis_slot d F hn ht (c := 59) (k := 64) (by decide)
  unfold I_told at I ⊢
  rw [r1, r2, s1, s2]; exact I
def S_fault : List (Int × Int) := [(15, 3), (15, 4), (59, 34), (59, 35)]
theorem I_fault_fa (F : FA l l2 lR lr h h') (hn : 130 ≤ h.nx) (ht : I_tab h) (d : dis [] S_fault l2 l = true) (I : I_fault h) : I_fault h' := by
  have s1 := dis_slot d F hn ht (c := 15) (k := 3) (by decide)
  have s2 := dis_slot d F hn ht (c := 15) (k := 4) (by decide)
  have s3 := dis_slot d F hn ht (c := 59) (k := 34) (by decide)
  have s4 := dis_slot d F hn ht (c := 59) (k := 35) (by decide)
  unfold I_fault at I ⊢
  rw [s1, s2, s3, s4]; exact I
def D_place : List Int := [50, 51, 52, 118, 119, 120, 121]
def S_place : List (Int × Int) := [(48, 9), (48, 8), (59, 74)]
theorem I_place_fa (F : FA l l2 lR lr h h') (hn : 130 ≤ h.nx) (ht : I_tab h) (d : dis D_place S_place l2 l = true) (I : I_place h) : I_place h' := by
  have r1 := dis_row d F hn ht (c := 50) (by decide)
  have r2 := dis_row d F hn ht (c := 51) (by decide)
  have r3 := dis_row d F hn ht (c := 52) (by decide)
  have r4 := dis_row d F hn ht (c := 118) (by decide)
  have r5 := dis_row d F hn ht (c := 119) (by decide)
  have r6 := dis_row d F hn ht (c := 120) (by decide)
  have r7 := dis_row d F hn ht (c := 121) (by decide)
  have s1 := dis_slot d F hn ht (c := 48) (k := 9) (by decide)
  have s2 := dis_slot d F hn ht (c := 48) (k := 8) (by decide)
  have s3 := dis_slot d F hn ht (c := 59) (k := 74) (by decide)
  unfold I_place at I ⊢
  rw [r1, r2, r3, r4, r5, r6, r7, s1, s2, s3]; exact I
def D_judge : List Int := [55, 124]
def S_judge : List (Int × Int) := [(48, 15), (48, 16), (48, 17), (59, 78), (59, 79), (59, 80)]
theorem I_judge_fa (F : FA l l2 lR lr h h') (hn : 130 ≤ h.nx) (ht : I_tab h) (d : dis D_judge S_judge l2 l = true) (I : I_judge h) : I_judge h' := by
  have r1 := dis_row d F hn ht (c := 55) (by decide)
  have r2 := dis_row d F hn ht (c := 124) (by decide)
  have s1 := dis_slot d F hn ht (c := 48) (k := 15) (by decide)
  have s2 := dis_slot d F hn ht (c := 48) (k := 16) (by decide)
  have s3 := dis_slot d F hn ht (c := 48) (k := 17) (by decide)
  have s4 := dis_slot d F hn ht (c := 59) (k := 78) (by decide)
  have s5 := dis_slot d F hn ht (c := 59) (k := 79) (by decide)
  have s6 := dis_slot d F hn ht (c := 59) (k := 80) (by decide)
  unfold I_judge at I ⊢
  rw [r1, r2, s1, s2, s3, s4, s5, s6]; exact I
end FRM
