/-! the invariant holds behind the constructors; the law's run -/
def iH (L : Nat) (xs : Nat → Int32) : xH := bld (xH0 L xs) LGR
section IN1
variable {L : Nat} {xs : Nat → Int32}
theorem iH_z {c k : Int} (hc : c ≠ 1) : (xH0 L xs).i c k = 0 := by
  show (if c = 1 ∧ 0 ≤ k ∧ k < (L : Int) then (xs k.toNat).toInt else 0) = 0
  rw [if_neg (fun z => hc z.1)]
theorem g_t {c v : Int} (e : tagE LGR c = some v) : (iH L xs).tag c = v := by
  unfold iH
  rw [bld_tag, e]; rfl
theorem g_l {c v : Int} (e : lenE LGR c = some v) : (iH L xs).len c = v := by
  unfold iH
  rw [bld_len, e]; rfl
theorem g_r {c k v : Int} (e : rV LGR c k = v) : (iH L xs).r c k = v := (bld_r (fun _ _ => rfl)).trans e
theorem g_i {c k v : Int} (hc : c ≠ 1) (e : iV LGR c k = v) : (iH L xs).i c k = v := (bld_i (fun _ => iH_z hc)).trans e
theorem g_z {c : Int} (hc : c ≠ 1) (n : noI LGR c = true) (k : Int) : (iH L xs).i c k = 0 := (noI_o n k).trans (iH_z hc)
theorem rng_all {n : Nat} {p : Int → Bool} (e : (List.range n).all (fun k => p (k : Int)) = true) {k : Int} (k0 : 0 ≤ k) (k1 : k < (n : Int)) : p k = true := by
  obtain ⟨j, rfl⟩ : ∃ j : Nat, k = (j : Int) := ⟨k.toNat, by omega⟩
  exact List.all_eq_true.mp e j (List.mem_range.mpr (by omega))
theorem g_nx : (iH L xs).nx = 130 := (bld_nx rfl).trans (by decide +kernel)
theorem g_us : (iH L xs).us = 381201 := by
  unfold iH
  rw [bld_us, show usE LGR = 381201 by decide +kernel]; rfl
theorem g_row {c v : Int} (hc : c ≠ 1) {n : Nat} (e : (List.range n).all (fun k => decide (iV LGR c (k : Int) = v)) = true) {k : Int} (k0 : 0 ≤ k) (k1 : k < (n : Int)) : (iH L xs).i c k = v := g_i hc (of_decide_eq_true (rng_all (p := fun k => decide (iV LGR c k = v)) e k0 k1))
set_option maxRecDepth 100000 in
theorem g_SXT : SXT (iH L xs) := by
  unfold SXT
  exact ⟨g_t (by decide +kernel), g_t (by decide +kernel), g_t (by decide +kernel), g_t (by decide +kernel), g_t (by decide +kernel), g_t (by decide +kernel), g_t (by decide +kernel), g_t (by decide +kernel), g_t (by decide +kernel), g_t (by decide +kernel), g_t (by decide +kernel), g_t (by decide +kernel), g_t (by decide +kernel), g_t (by decide +kernel), g_t (by decide +kernel), g_t (by decide +kernel), g_t (by decide +kernel), g_t (by decide +kernel), g_t (by decide +kernel), g_t (by decide +kernel), g_t (by decide +kernel), g_t (by decide +kernel), g_t (by decide +kernel), g_t (by decide +kernel), g_t (by decide +kernel), g_t (by decide +kernel), g_t (by decide +kernel), g_t (by decide +kernel), g_t (by decide +kernel), g_t (by decide +kernel), g_t (by decide +kernel), g_t (by decide +kernel), g_t (by decide +kernel), g_t (by decide +kernel), g_t (by decide +kernel), g_t (by decide +kernel), g_t (by decide +kernel), g_t (by decide +kernel), g_t (by decide +kernel), g_t (by decide +kernel), g_t (by decide +kernel), g_t (by decide +kernel), g_t (by decide +kernel), g_t (by decide +kernel), g_t (by decide +kernel), g_t (by decide +kernel), g_t (by decide +kernel), g_t (by decide +kernel), g_t (by decide +kernel), g_t (by decide +kernel), g_t (by decide +kernel), g_t (by decide +kernel), g_t (by decide +kernel), g_t (by decide +kernel), g_t (by decide +kernel), g_t (by decide +kernel), g_t (by decide +kernel)⟩
set_option maxRecDepth 100000 in
theorem g_SXL : SXL (iH L xs) := by
  unfold SXL
  exact ⟨g_l (by decide +kernel), g_l (by decide +kernel), g_l (by decide +kernel), g_l (by decide +kernel), g_l (by decide +kernel), g_l (by decide +kernel), g_l (by decide +kernel), g_l (by decide +kernel), g_l (by decide +kernel), g_l (by decide +kernel), g_l (by decide +kernel), g_l (by decide +kernel), g_l (by decide +kernel), g_l (by decide +kernel), g_l (by decide +kernel), g_l (by decide +kernel), g_l (by decide +kernel), g_l (by decide +kernel), g_l (by decide +kernel), g_l (by decide +kernel), g_l (by decide +kernel), g_l (by decide +kernel), g_l (by decide +kernel), g_l (by decide +kernel), g_l (by decide +kernel), g_l (by decide +kernel), g_l (by decide +kernel), g_l (by decide +kernel), g_l (by decide +kernel), g_l (by decide +kernel), g_l (by decide +kernel), g_l (by decide +kernel), g_l (by decide +kernel), g_l (by decide +kernel), g_l (by decide +kernel), g_l (by decide +kernel), g_l (by decide +kernel), g_l (by decide +kernel), g_l (by decide +kernel), g_l (by decide +kernel), g_l (by decide +kernel), g_l (by decide +kernel), g_l (by decide +kernel), g_l (by decide +kernel), g_l (by decide +kernel)⟩
set_option maxRecDepth 100000 in
theorem g_SXF : SXF (iH L xs) := by
  unfold SXF
  exact ⟨g_r (by decide +kernel), g_r (by decide +kernel), g_r (by decide +kernel), g_r (by decide +kernel), g_r (by decide +kernel), g_r (by decide +kernel), g_r (by decide +kernel), g_r (by decide +kernel), g_r (by decide +kernel), g_r (by decide +kernel), g_r (by decide +kernel), g_r (by decide +kernel), g_r (by decide +kernel), g_r (by decide +kernel), g_r (by decide +kernel), g_r (by decide +kernel), g_r (by decide +kernel), g_r (by decide +kernel), g_r (by decide +kernel), g_r (by decide +kernel), g_r (by decide +kernel), g_r (by decide +kernel), g_r (by decide +kernel), g_r (by decide +kernel), g_r (by decide +kernel), g_r (by decide +kernel), g_r (by decide +kernel), g_r (by decide +kernel), g_r (by decide +kernel), g_r (by decide +kernel), g_r (by decide +kernel), g_r (by decide +kernel), g_r (by decide +kernel), g_r (by decide +kernel), g_r (by decide +kernel), g_r (by decide +kernel), g_r (by decide +kernel), g_r (by decide +kernel), g_r (by decide +kernel), g_r (by decide +kernel), g_r (by decide +kernel), g_r (by decide +kernel), g_r (by decide +kernel), g_r (by decide +kernel), g_r (by decide +kernel), g_r (by decide +kernel), g_r (by decide +kernel), g_r (by decide +kernel), g_r (by decide +kernel), g_r (by decide +kernel), g_r (by decide +kernel), g_r (by decide +kernel), g_r (by decide +kernel), g_r (by decide +kernel), g_r (by decide +kernel), g_r (by decide +kernel), g_r (by decide +kernel), g_r (by decide +kernel), g_r (by decide +kernel), g_r (by decide +kernel), g_r (by decide +kernel), g_r (by decide +kernel), g_r (by decide +kernel), g_r (by decide +kernel), g_r (by decide +kernel), g_r (by decide +kernel), g_r (by decide +kernel), g_r (by decide +kernel), g_r (by decide +kernel)⟩
set_option maxRecDepth 100000 in
theorem g_SRT : SRT (iH L xs) := by
  unfold SRT
  exact ⟨g_t (by decide +kernel), g_t (by decide +kernel), g_t (by decide +kernel), g_t (by decide +kernel), g_t (by decide +kernel), g_t (by decide +kernel), g_t (by decide +kernel), g_t (by decide +kernel), g_t (by decide +kernel), g_t (by decide +kernel), g_t (by decide +kernel), g_t (by decide +kernel), g_t (by decide +kernel), g_t (by decide +kernel), g_t (by decide +kernel), g_t (by decide +kernel), g_t (by decide +kernel), g_t (by decide +kernel), g_t (by decide +kernel), g_t (by decide +kernel), g_t (by decide +kernel), g_t (by decide +kernel), g_t (by decide +kernel), g_t (by decide +kernel), g_t (by decide +kernel), g_t (by decide +kernel), g_t (by decide +kernel), g_t (by decide +kernel), g_t (by decide +kernel), g_t (by decide +kernel), g_t (by decide +kernel), g_t (by decide +kernel), g_t (by decide +kernel), g_t (by decide +kernel), g_t (by decide +kernel), g_t (by decide +kernel), g_t (by decide +kernel), g_t (by decide +kernel), g_t (by decide +kernel), g_t (by decide +kernel), g_t (by decide +kernel), g_t (by decide +kernel), g_t (by decide +kernel), g_t (by decide +kernel), g_t (by decide +kernel), g_t (by decide +kernel), g_t (by decide +kernel), g_t (by decide +kernel), g_t (by decide +kernel), g_t (by decide +kernel), g_t (by decide +kernel), g_t (by decide +kernel), g_t (by decide +kernel), g_t (by decide +kernel), g_t (by decide +kernel), g_t (by decide +kernel), g_t (by decide +kernel), g_t (by decide +kernel), g_t (by decide +kernel), g_t (by decide +kernel), g_t (by decide +kernel), g_t (by decide +kernel), g_t (by decide +kernel), g_t (by decide +kernel), g_t (by decide +kernel), g_t (by decide +kernel), g_t (by decide +kernel), g_t (by decide +kernel), g_t (by decide +kernel), g_t (by decide +kernel), g_t (by decide +kernel)⟩
set_option maxRecDepth 100000 in
theorem g_SRL : SRL (iH L xs) := by
  unfold SRL
  exact ⟨g_l (by decide +kernel), g_l (by decide +kernel), g_l (by decide +kernel), g_l (by decide +kernel), g_l (by decide +kernel), g_l (by decide +kernel), g_l (by decide +kernel), g_l (by decide +kernel), g_l (by decide +kernel), g_l (by decide +kernel), g_l (by decide +kernel), g_l (by decide +kernel), g_l (by decide +kernel), g_l (by decide +kernel), g_l (by decide +kernel), g_l (by decide +kernel), g_l (by decide +kernel), g_l (by decide +kernel), g_l (by decide +kernel), g_l (by decide +kernel), g_l (by decide +kernel), g_l (by decide +kernel), g_l (by decide +kernel), g_l (by decide +kernel), g_l (by decide +kernel), g_l (by decide +kernel), g_l (by decide +kernel), g_l (by decide +kernel), g_l (by decide +kernel), g_l (by decide +kernel), g_l (by decide +kernel), g_l (by decide +kernel), g_l (by decide +kernel), g_l (by decide +kernel), g_l (by decide +kernel), g_l (by decide +kernel), g_l (by decide +kernel), g_l (by decide +kernel), g_l (by decide +kernel), g_l (by decide +kernel), g_l (by decide +kernel), g_l (by decide +kernel), g_l (by decide +kernel), g_l (by decide +kernel), g_l (by decide +kernel), g_l (by decide +kernel), g_l (by decide +kernel), g_l (by decide +kernel), g_l (by decide +kernel), g_l (by decide +kernel), g_l (by decide +kernel), g_l (by decide +kernel), g_l (by decide +kernel), g_l (by decide +kernel), g_l (by decide +kernel), g_l (by decide +kernel), g_l (by decide +kernel), g_l (by decide +kernel), g_l (by decide +kernel), g_l (by decide +kernel), g_l (by decide +kernel), g_l (by decide +kernel), g_l (by decide +kernel), g_l (by decide +kernel), g_l (by decide +kernel), g_l (by decide +kernel), g_l (by decide +kernel), g_l (by decide +kernel), g_l (by decide +kernel), g_l (by decide +kernel)⟩
set_option maxRecDepth 100000 in
theorem g_SRF : SRF (iH L xs) := by
  unfold SRF
  exact ⟨g_r (by decide +kernel), g_r (by decide +kernel), g_r (by decide +kernel), g_r (by decide +kernel), g_r (by decide +kernel), g_r (by decide +kernel), g_r (by decide +kernel), g_r (by decide +kernel), g_r (by decide +kernel), g_r (by decide +kernel), g_r (by decide +kernel), g_r (by decide +kernel), g_r (by decide +kernel), g_r (by decide +kernel), g_r (by decide +kernel), g_r (by decide +kernel), g_r (by decide +kernel), g_r (by decide +kernel), g_r (by decide +kernel), g_r (by decide +kernel), g_r (by decide +kernel), g_r (by decide +kernel), g_r (by decide +kernel), g_r (by decide +kernel), g_r (by decide +kernel), g_r (by decide +kernel), g_r (by decide +kernel), g_r (by decide +kernel), g_r (by decide +kernel), g_r (by decide +kernel), g_r (by decide +kernel), g_r (by decide +kernel), g_r (by decide +kernel), g_r (by decide +kernel), g_r (by decide +kernel), g_r (by decide +kernel), g_r (by decide +kernel), g_r (by decide +kernel), g_r (by decide +kernel), g_r (by decide +kernel), g_r (by decide +kernel), g_r (by decide +kernel), g_r (by decide +kernel), g_r (by decide +kernel), g_r (by decide +kernel), g_r (by decide +kernel), g_r (by decide +kernel), g_r (by decide +kernel), g_r (by decide +kernel), g_r (by decide +kernel), g_r (by decide +kernel), g_r (by decide +kernel), g_r (by decide +kernel), g_r (by decide +kernel), g_r (by decide +kernel), g_r (by decide +kernel), g_r (by decide +kernel), g_r (by decide +kernel), g_r (by decide +kernel), g_r (by decide +kernel), g_r (by decide +kernel), g_r (by decide +kernel), g_r (by decide +kernel), g_r (by decide +kernel), g_r (by decide +kernel), g_r (by decide +kernel), g_r (by decide +kernel), g_r (by decide +kernel), g_r (by decide +kernel), g_r (by decide +kernel)⟩
theorem INV_0 : INV 0 (iH L xs) := by
  have z59 : ∀ k v, iV LGR 59 k = v → (iH L xs).i 59 k = v := fun k v e => g_i (by decide) e
  have z76 : ∀ k, (iH L xs).i 76 k = 0 := g_z (by decide) (by decide +kernel)
  have r28 : (iH L xs).r 28 6 = 34 := g_r (by decide +kernel)
  have r40 : (iH L xs).r 40 3 = 41 := g_r (by decide +kernel)
  have l34 : (iH L xs).len 34 = 0 := g_l (by decide +kernel)
  have l41 : (iH L xs).len 41 = 0 := g_l (by decide +kernel)
  have t34 : (iH L xs).tag 34 = 20 := g_t (by decide +kernel)
  have t41 : (iH L xs).tag 41 = 20 := g_t (by decide +kernel)
  refine ⟨⟨g_SXT, g_SXL, g_SXF⟩, ⟨g_SRT, g_SRL, g_SRF⟩, by rw [g_nx]; exact Int.le_refl _, Or.inl r28, ?_, ?_, ?_, ?_, ?_, ?_, ?_, ?_, ?_, ?_, ?_, ?_, ?_, ?_, ?_, ?_, ?_⟩
  · -- new cells
    intro c k hc
    rw [g_nx] at hc
    have z := lowE (h := xH0 L xs) (l := LGR) (N := 130) (by decide +kernel) hc k
    exact ⟨z.1.trans (iH_z (by omega)), z.2⟩
  · -- room
    unfold I_room
    rw [g_nx, g_us, r28, r40, l34, l41, t34]
    decide
  · -- tape
    have a := z59 1 0 (by decide +kernel)
    unfold I_tape
    rw [a, g_i (c := 2) (k := 1) (v := 0) (by decide) (by decide +kernel)]
    exact ⟨rfl, Int.le_refl _, by decide, fun k k0 k1 => absurd k1 (by omega)⟩
  · -- vowels
    have w : (List.range 26).all (fun k => decide (iV LGR 5 (k : Int) = iV LGR 61 (k : Int) ∧ 0 ≤ iV LGR 61 (k : Int) ∧ iV LGR 61 (k : Int) ≤ 1)) = true := by decide +kernel
    refine ⟨fun k k0 k1 => ?_, ?_⟩
    · have y := of_decide_eq_true (rng_all (n := 26) (p := fun k => decide (iV LGR 5 k = iV LGR 61 k ∧ 0 ≤ iV LGR 61 k ∧ iV LGR 61 k ≤ 1)) w k0 k1)
      rw [g_i (c := 5) (by decide) rfl, g_i (c := 61) (by decide) rfl]
      exact y
    · rw [g_i (c := 4) (k := 1) (v := 5) (by decide) (by decide +kernel), sumN_congr 26 (f := (iH L xs).i 61) (g := iV LGR 61) (fun k _ _ => g_i (by decide) rfl)]
      decide +kernel
  · -- pairs
    have a := z59 6 0 (by decide +kernel)
    have z6 : ∀ k, (iH L xs).i 6 k = 0 := g_z (by decide) (by decide +kernel)
    unfold I_pair
    rw [a, g_i (c := 4) (k := 3) (v := 0) (by decide) (by decide +kernel)]
    refine ⟨rfl, Int.le_refl _, by decide, fun k k0 k1 => by rw [z6]; decide, fun k k0 k1 => absurd k1 (by omega), fun j k j0 j1 k1 => absurd k1 (by omega), fun a b _ _ _ _ z => absurd (z6 _) z⟩
  · -- forms, prices
    refine ⟨fun k k0 k1 => ?_, fun k k0 k1 => ?_, fun k k0 k1 => ?_⟩
    · rw [g_z (c := 25) (by decide) (by decide +kernel), g_z (c := 95) (by decide) (by decide +kernel), g_z (c := 26) (by decide) (by decide +kernel), g_z (c := 96) (by decide) (by decide +kernel)]
      decide
    · rw [g_z (c := 24) (by decide) (by decide +kernel), g_z (c := 94) (by decide) (by decide +kernel)]
      decide
    · rw [g_row (c := 27) (v := -1) (n := 5) (by decide) (by decide +kernel) k0 k1, g_row (c := 97) (v := -1) (n := 5) (by decide) (by decide +kernel) k0 k1]
      decide
  · -- told
    have a := z59 64 0 (by decide +kernel)
    unfold I_told
    rw [a, g_i (c := 2) (k := 12) (v := 0) (by decide) (by decide +kernel)]
    exact ⟨rfl, Int.le_refl _, by decide, fun k k0 k1 => absurd k1 (by omega)⟩
  · -- fault
    unfold I_fault
    rw [z59 34 0 (by decide +kernel), z59 35 (-1) (by decide +kernel), g_i (c := 15) (k := 3) (v := 0) (by decide) (by decide +kernel), g_i (c := 15) (k := 4) (v := -1) (by decide) (by decide +kernel)]
    exact ⟨rfl, rfl⟩
  · -- places
    have a := z59 74 0 (by decide +kernel)
    unfold I_place
    rw [a, g_i (c := 48) (k := 9) (v := 0) (by decide) (by decide +kernel), g_i (c := 48) (k := 8) (v := 0) (by decide) (by decide +kernel)]
    refine ⟨rfl, Int.le_refl _, by decide, fun k k0 k1 => absurd k1 (by omega), by decide, by decide, fun k hk => ?_, by decide⟩
    rw [Int.zero_ediv, if_neg (by omega)]; rfl
  · -- judged
    refine Or.inl ⟨z59 78 (-1) (by decide +kernel), g_i (by decide) (by decide +kernel), g_i (by decide) (by decide +kernel), g_i (by decide) (by decide +kernel), fun k k0 k1 => g_row (n := 12) (by decide) (by decide +kernel) k0 k1⟩
  · -- the book
    have a := z59 16 0 (by decide +kernel)
    unfold I_book
    rw [a, g_i (c := 7) (k := 2) (v := 0) (by decide) (by decide +kernel)]
    exact ⟨rfl, Int.le_refl _, by decide, fun j j0 j1 => absurd j1 (by omega), fun j j0 j1 => absurd j1 (by omega), fun j k j0 j1 k1 => absurd k1 (by omega), fun j k j0 j1 k1 => absurd k1 (by omega)⟩
  · -- feet
    have w : (List.range 12).all (fun k => decide (rV LGR 23 (k : Int) = 0)) = true := by decide +kernel
    exact fun k k0 k1 => Or.inl ⟨g_r (of_decide_eq_true (rng_all (n := 12) (p := fun k => decide (rV LGR 23 k = 0)) w k0 k1)), g_row (n := 12) (by decide) (by decide +kernel) k0 k1⟩
  · -- the line
    exact Or.inl ⟨g_r (by decide +kernel), z76 0⟩
  · -- the poem
    have w : (List.range 12).all (fun k => decide (rV LGR 49 (k : Int) = 0)) = true := by decide +kernel
    refine ⟨?_, fun k k0 k1 => Or.inl ⟨g_r (of_decide_eq_true (rng_all (n := 12) (p := fun k => decide (rV LGR 49 k = 0)) w k0 k1)), z76 _⟩⟩
    rw [g_i (c := 48) (k := 4) (v := 0) (by decide) (by decide +kernel), sumN_congr 12 (g := fun _ => 0) (fun k _ _ => z76 _)]
    decide
  · -- readings
    have a := z59 61 0 (by decide +kernel)
    unfold I_read
    rw [a, g_i (c := 40) (k := 7) (v := 0) (by decide) (by decide +kernel), r40, r28, t41]
    exact ⟨rfl, Int.le_refl _, by decide, rfl, Or.inl rfl, by decide, fun a a0 a1 => absurd a1 (by omega)⟩
  · -- fits
    have a := z59 84 0 (by decide +kernel)
    unfold I_fit
    rw [a, g_i (c := 2) (k := 15) (v := 0) (by decide) (by decide +kernel)]
    exact ⟨rfl, Int.le_refl _, by decide, fun a a0 a1 => absurd a1 (by omega)⟩
  · -- drafts
    exact ⟨g_z (by decide) (by decide +kernel) 0, g_z (by decide) (by decide +kernel) 0, g_z (by decide) (by decide +kernel) 0⟩
theorem Sc_0 : Sc (L : Int) (iH L xs) := by
  refine ⟨?_, ?_, g_t (by decide +kernel), g_t (by decide +kernel), fun k => ?_⟩
  · unfold iH
    rw [bld_tag, show tagE LGR 1 = none by decide +kernel]; rfl
  · unfold iH
    rw [bld_len, show lenE LGR 1 = none by decide +kernel]; rfl
  · have e : (iH L xs).i 1 k = (xH0 L xs).i 1 k := noI_o (by decide +kernel) k
    rw [e]
    show xrg (if (1 : Int) = 1 ∧ 0 ≤ k ∧ k < (L : Int) then (xs k.toNat).toInt else 0)
    split
    · exact rg_32 _
    · unfold xrg; omega
end IN1
theorem all_ops : Ops INV := ⟨j_feed, j_end, fun n hn a _ => j_vowel n hn a 0 (Or.inl rfl), fun n hn a _ => j_vowel n hn a 1 (Or.inr rfl), j_pair, j_word, j_unword, j_foot, j_form, j_cut, j_licence, j_line, j_fault, j_syllable, j_scan, j_best, j_lay, j_reading, j_step, j_near, j_tell, j_check, j_keep, j_drop, j_rhyme, j_scheme, fun n hn i f l a hi hf hl ha => j_place n hn i f l a 0 hi hf hl ha (Or.inl rfl), fun n hn i f l a hi hf hl ha => j_place n hn i f l a 1 hi hf hl ha (Or.inr rfl), j_judge, j_judged, j_fits, j_fit, j_learn, j_count⟩
theorem xGoal_ok : xGoal := by
  intro L xs hL
  have key : xCi 2047 M_Law_law [(1, 1)] (bld (xH0 L xs) []) (fun v h' => v = 1 ∧ ∃ n, n ≤ 512 ∧ INV n h') := by
    apply L_Law_law
    refine ke_al (a := 2) (n' := 16) (by decide) rfl ?_
    refine ke_tag (by decide) ?_
    refine x_init0 ?_
    refine ke_al (a := 59) (n' := 87) (by decide +kernel) rfl ?_
    refine ke_tag (by decide +kernel) ?_
    refine r_init0 ?_
    exact law_loop all_ops (fun n h I => INV_mono I) (L := (L : Int)) (by omega) (by omega) 512 0 (iH L xs) rfl INV_0 Sc_0
  have z : xT 2046 M_Law_law 0 [(1, 1), (9, 0), (9, 0), (9, 0)] [] (xH0 L xs) (xqi (fun v h' => v = 1 ∧ ∃ n, n ≤ 512 ∧ INV n h')) := key.2
  refine xT_mono (fun v h' q => ?_) z
  obtain ⟨x, ev, e1, n, hn, I⟩ := q
  subst ev e1
  have R := I.2.2.2.2.2.1
  unfold I_room at R
  exact ⟨rfl, by omega, by omega⟩
