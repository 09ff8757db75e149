/-! the law's loop over the calls -/
theorem x_if {c : Prop} [Decidable c] {A B : Prop} (f : c → A) (g : ¬ c → B) : if c then A else B := by
  by_cases e : c
  · rw [if_pos e]; exact f e
  · rw [if_neg e]; exact g e
def Sc (L : Int) (h : xH) : Prop := h.tag 1 = 30 ∧ h.len 1 = L ∧ h.tag 2 = 11 ∧ h.tag 59 = 12 ∧ ∀ k, xrg (h.i 1 k)
def JJ (I : Nat → xH → Prop) (n mx mr : Nat) (as : List xV) : Prop := ∀ h, I n h → xCi 2046 mx ((1, 2) :: as) h (fun r1 h1 => h1.tag 1 = h.tag 1 ∧ h1.len 1 = h.len 1 ∧ h1.i 1 = h.i 1 ∧ h1.tag 59 = 12 ∧ xCi 2046 mr ((1, 59) :: as) h1 (fun r2 h2 => r1 = r2 ∧ h2.tag 1 = h1.tag 1 ∧ h2.len 1 = h1.len 1 ∧ h2.i 1 = h1.i 1 ∧ h2.tag 2 = 11 ∧ h2.tag 59 = 12 ∧ I (n + 1) h2))
theorem jj_leaf {I : Nat → xH → Prop} {n mx mr : Nat} {as : List xV} {L : Int} {h : xH} {G : xH → Prop} (J : JJ I n mx mr as) (hI : I n h) (sc : Sc L h) (K : ∀ h2, I (n + 1) h2 → Sc L h2 → G h2) : xCi 2046 mx ((1, 2) :: as) h (fun r1 h1 => h1.tag 1 = 30 ∧ h1.len 1 = L ∧ h1.i 1 = h.i 1 ∧ h1.tag 59 = 12 ∧ xCi 2046 mr ((1, 59) :: as) h1 (fun r2 h2 => r1 = r2 ∧ G h2)) := by
  refine xCi_mono ?_ (J h hI)
  intro r1 h1 ⟨a, b, c, d, H⟩
  refine ⟨a.trans sc.1, b.trans sc.2.1, c, d, xCi_mono ?_ H⟩
  intro r2 h2 ⟨e, a2, b2, c2, d2, f2, g⟩
  exact ⟨e, K h2 g ⟨a2.trans (a.trans sc.1), b2.trans (b.trans sc.2.1), d2, f2, fun k => by rw [c2, c]; exact sc.2.2.2.2 k⟩⟩
def Ops (I : Nat → xH → Prop) : Prop := (∀ n, n < 512 → ∀ a1 a2 a3 a4 a5 : Int, xrg a1 → xrg a2 → xrg a3 → xrg a4 → xrg a5 → JJ I n M_X_feed M_R_feed [(0, a1), (0, a2), (0, a3), (0, a4), (0, a5)]) ∧ (∀ n, n < 512 → ∀ a1 : Int, xrg a1 → JJ I n M_X_end M_R_end [(0, a1)]) ∧ (∀ n, n < 512 → ∀ a1 : Int, xrg a1 → JJ I n M_X_vowel M_R_vowel [(0, a1), (0, 0)]) ∧ (∀ n, n < 512 → ∀ a1 : Int, xrg a1 → JJ I n M_X_vowel M_R_vowel [(0, a1), (0, 1)]) ∧ (∀ n, n < 512 → ∀ a1 a2 a3 : Int, xrg a1 → xrg a2 → xrg a3 → JJ I n M_X_pair M_R_pair [(0, a1), (0, a2), (0, a3)]) ∧ (∀ n, n < 512 → JJ I n M_X_word M_R_word []) ∧ (∀ n, n < 512 → JJ I n M_X_unword M_R_unword []) ∧ (∀ n, n < 512 → ∀ a1 a2 a3 a4 a5 : Int, xrg a1 → xrg a2 → xrg a3 → xrg a4 → xrg a5 → JJ I n M_X_foot M_R_foot [(0, a1), (0, a2), (0, a3), (0, a4), (0, a5)]) ∧ (∀ n, n < 512 → ∀ a1 a2 a3 : Int, xrg a1 → xrg a2 → xrg a3 → JJ I n M_X_form M_R_form [(0, a1), (0, a2), (0, a3)]) ∧ (∀ n, n < 512 → ∀ a1 a2 : Int, xrg a1 → xrg a2 → JJ I n M_X_cut M_R_cut [(0, a1), (0, a2)]) ∧ (∀ n, n < 512 → ∀ a1 a2 : Int, xrg a1 → xrg a2 → JJ I n M_X_licence M_R_licence [(0, a1), (0, a2)]) ∧ (∀ n, n < 512 → JJ I n M_X_line M_R_line []) ∧ (∀ n, n < 512 → ∀ a1 : Int, xrg a1 → JJ I n M_X_fault M_R_fault [(0, a1)]) ∧ (∀ n, n < 512 → ∀ a1 a2 : Int, xrg a1 → xrg a2 → JJ I n M_X_syllable M_R_syllable [(0, a1), (0, a2)]) ∧ (∀ n, n < 512 → ∀ a1 : Int, xrg a1 → JJ I n M_X_scan M_R_scan [(0, a1)]) ∧ (∀ n, n < 512 → ∀ a1 : Int, xrg a1 → JJ I n M_X_best M_R_best [(0, a1)]) ∧ (∀ n, n < 512 → ∀ a1 : Int, xrg a1 → JJ I n M_X_lay M_R_lay [(0, a1)]) ∧ (∀ n, n < 512 → ∀ a1 a2 : Int, xrg a1 → xrg a2 → JJ I n M_X_reading M_R_reading [(0, a1), (0, a2)]) ∧ (∀ n, n < 512 → ∀ a1 a2 a3 : Int, xrg a1 → xrg a2 → xrg a3 → JJ I n M_X_step M_R_step [(0, a1), (0, a2), (0, a3)]) ∧ (∀ n, n < 512 → ∀ a1 : Int, xrg a1 → JJ I n M_X_near M_R_near [(0, a1)]) ∧ (∀ n, n < 512 → ∀ a1 a2 a3 a4 a5 a6 : Int, xrg a1 → xrg a2 → xrg a3 → xrg a4 → xrg a5 → xrg a6 → JJ I n M_X_tell M_R_tell [(0, a1), (0, a2), (0, a3), (0, a4), (0, a5), (0, a6)]) ∧ (∀ n, n < 512 → ∀ a1 : Int, xrg a1 → JJ I n M_X_check M_R_check [(0, a1)]) ∧ (∀ n, n < 512 → ∀ a1 : Int, xrg a1 → JJ I n M_X_keep M_R_keep [(0, a1)]) ∧ (∀ n, n < 512 → ∀ a1 : Int, xrg a1 → JJ I n M_X_drop M_R_drop [(0, a1)]) ∧ (∀ n, n < 512 → ∀ a1 a2 : Int, xrg a1 → xrg a2 → JJ I n M_X_rhyme M_R_rhyme [(0, a1), (0, a2)]) ∧ (∀ n, n < 512 → ∀ a1 : Int, xrg a1 → JJ I n M_X_scheme M_R_scheme [(0, a1)]) ∧ (∀ n, n < 512 → ∀ a1 a2 a3 a4 : Int, xrg a1 → xrg a2 → xrg a3 → xrg a4 → JJ I n M_X_place M_R_place [(0, a1), (0, a2), (0, a3), (0, a4), (0, 0)]) ∧ (∀ n, n < 512 → ∀ a1 a2 a3 a4 : Int, xrg a1 → xrg a2 → xrg a3 → xrg a4 → JJ I n M_X_place M_R_place [(0, a1), (0, a2), (0, a3), (0, a4), (0, 1)]) ∧ (∀ n, n < 512 → JJ I n M_X_judge M_R_judge []) ∧ (∀ n, n < 512 → ∀ a1 : Int, xrg a1 → JJ I n M_X_judged M_R_judged [(0, a1)]) ∧ (∀ n, n < 512 → ∀ a1 a2 a3 : Int, xrg a1 → xrg a2 → xrg a3 → JJ I n M_X_fits M_R_fits [(0, a1), (0, a2), (0, a3)]) ∧ (∀ n, n < 512 → ∀ a1 a2 : Int, xrg a1 → xrg a2 → JJ I n M_X_fit M_R_fit [(0, a1), (0, a2)]) ∧ (∀ n, n < 512 → ∀ a1 : Int, xrg a1 → JJ I n M_X_learn M_R_learn [(0, a1)]) ∧ (∀ n, n < 512 → ∀ a1 : Int, xrg a1 → JJ I n M_X_count M_R_count [(0, a1)])
set_option maxHeartbeats 4000000 in
theorem law_loop {I : Nat → xH → Prop} (O : Ops I) (mono : ∀ n h, I n h → I (n + 1) h) {L : Int} (hL0 : 0 ≤ L) (hL : L ≤ 3584) : ∀ (k m : Nat) (h : xH), m + k = 512 → I m h → Sc L h → xT 2046 M_Law_law 10 [(1, 1), (1, 2), (1, 59), (0, 7 * (m : Int))] [] h (xqi (fun v h' => v = 1 ∧ ∃ n, n ≤ 512 ∧ I n h')) := by
  intro k
  induction k with
  | zero =>
    intro m h hm hI sc
    apply L_Law_law_10
    refine ⟨sc.1, ?_⟩
    rw [sc.2.1, if_pos (by unfold xw; omega)]
    exact ⟨rfl, m, by omega, hI⟩
  | succ k ih =>
    intro m h hm hI sc
    apply L_Law_law_10
    have T1 := sc.1
    have T2 := sc.2.2.1
    have L1 := sc.2.1
    have S1 := sc.2.2.2.2
    rw [L1]
    refine ⟨T1, x_if (fun _ => ⟨rfl, m, by omega, hI⟩) (fun z => ?_)⟩
    have hz : 7 * (m : Int) + 7 ≤ L := by unfold xw at z; omega
    have hm5 : m < 512 := by omega
    have K : ∀ h2, I (m + 1) h2 → Sc L h2 → xT 2046 M_Law_law 862 [(1, 1), (1, 2), (1, 59), (0, 7 * (m : Int))] [] h2 (xqi (fun v h' => v = 1 ∧ ∃ n, n ≤ 512 ∧ I n h')) := by
      intro h2 i2 s2
      apply L_Law_law_862
      intro x1 e
      have z := ih (m + 1) h2 (by omega) i2 s2
      have e' : x1 = 7 * ((m + 1 : Nat) : Int) := by rw [e]; unfold xw; omega
      rw [e']; exact z
    refine ⟨⟨T1, by omega, by omega⟩, ?_⟩
    have e1 : xw (7 * (m : Int) + 1) = 7 * (m : Int) + 1 := by unfold xw; omega
    have b1 : (0 : Int) ≤ 7 * (m : Int) + 1 := by omega
    have c1 : 7 * (m : Int) + 1 < L := by omega
    have e2 : xw (7 * (m : Int) + 2) = 7 * (m : Int) + 2 := by unfold xw; omega
    have b2 : (0 : Int) ≤ 7 * (m : Int) + 2 := by omega
    have c2 : 7 * (m : Int) + 2 < L := by omega
    have e3 : xw (7 * (m : Int) + 3) = 7 * (m : Int) + 3 := by unfold xw; omega
    have b3 : (0 : Int) ≤ 7 * (m : Int) + 3 := by omega
    have c3 : 7 * (m : Int) + 3 < L := by omega
    have e4 : xw (7 * (m : Int) + 4) = 7 * (m : Int) + 4 := by unfold xw; omega
    have b4 : (0 : Int) ≤ 7 * (m : Int) + 4 := by omega
    have c4 : 7 * (m : Int) + 4 < L := by omega
    have e5 : xw (7 * (m : Int) + 5) = 7 * (m : Int) + 5 := by unfold xw; omega
    have b5 : (0 : Int) ≤ 7 * (m : Int) + 5 := by omega
    have c5 : 7 * (m : Int) + 5 < L := by omega
    have e6 : xw (7 * (m : Int) + 6) = 7 * (m : Int) + 6 := by unfold xw; omega
    have b6 : (0 : Int) ≤ 7 * (m : Int) + 6 := by omega
    have c6 : 7 * (m : Int) + 6 < L := by omega
    simp only [e1, e2, e3, e4, e5, e6, T1, T2, L1, b1, b2, b3, b4, b5, b6, c1, c2, c3, c4, c5, c6, true_and, and_true]
    obtain ⟨o_feed, o_end, o_vowel0, o_vowel1, o_pair, o_word, o_unword, o_foot, o_form, o_cut, o_licence, o_line, o_fault, o_syllable, o_scan, o_best, o_lay, o_reading, o_step, o_near, o_tell, o_check, o_keep, o_drop, o_rhyme, o_scheme, o_place0, o_place1, o_judge, o_judged, o_fits, o_fit, o_learn, o_count⟩ := O
    refine x_if (fun _ => ?_) (fun _ => ?_)
    · refine xCi_mono ?_ (jj_leaf (o_feed m hm5 _ _ _ _ _ (S1 _) (S1 _) (S1 _) (S1 _) (S1 _)) hI sc K)
      intro r1 h1 ⟨t1, l1, q1, t59, H⟩
      simp only [t1, l1, q1, t59, e1, e2, e3, e4, e5, e6, b1, b2, b3, b4, b5, b6, c1, c2, c3, c4, c5, c6, true_and, and_true]
      exact xCi_mono (fun r2 h2 g => by rw [if_pos g.1]; exact g.2) H
    refine x_if (fun _ => ?_) (fun _ => ?_)
    · refine xCi_mono ?_ (jj_leaf (o_end m hm5 _ (S1 _)) hI sc K)
      intro r1 h1 ⟨t1, l1, q1, t59, H⟩
      simp only [t1, l1, q1, t59, e1, e2, e3, e4, e5, e6, b1, b2, b3, b4, b5, b6, c1, c2, c3, c4, c5, c6, true_and, and_true]
      exact xCi_mono (fun r2 h2 g => by rw [if_pos g.1]; exact g.2) H
    refine x_if (fun _ => ?_) (fun _ => ?_)
    · refine x_if (fun z => ?_) (fun z => ?_)
      · refine xCi_mono ?_ (jj_leaf (o_vowel0 m hm5 _ (S1 _)) hI sc K)
        intro r1 h1 ⟨t1, l1, q1, t59, H⟩
        simp only [t1, l1, q1, t59, z, e1, e2, e3, e4, e5, e6, b1, b2, b3, b4, b5, b6, c1, c2, c3, c4, c5, c6, true_and, and_true, if_true, if_false]
        exact xCi_mono (fun r2 h2 g => by rw [if_pos g.1]; exact g.2) H
      · refine xCi_mono ?_ (jj_leaf (o_vowel1 m hm5 _ (S1 _)) hI sc K)
        intro r1 h1 ⟨t1, l1, q1, t59, H⟩
        simp only [t1, l1, q1, t59, z, e1, e2, e3, e4, e5, e6, b1, b2, b3, b4, b5, b6, c1, c2, c3, c4, c5, c6, true_and, and_true, if_true, if_false]
        exact xCi_mono (fun r2 h2 g => by rw [if_pos g.1]; exact g.2) H
    refine x_if (fun _ => ?_) (fun _ => ?_)
    · refine xCi_mono ?_ (jj_leaf (o_pair m hm5 _ _ _ (S1 _) (S1 _) (S1 _)) hI sc K)
      intro r1 h1 ⟨t1, l1, q1, t59, H⟩
      simp only [t1, l1, q1, t59, e1, e2, e3, e4, e5, e6, b1, b2, b3, b4, b5, b6, c1, c2, c3, c4, c5, c6, true_and, and_true]
      exact xCi_mono (fun r2 h2 g => by rw [if_pos g.1]; exact g.2) H
    refine x_if (fun _ => ?_) (fun _ => ?_)
    · refine xCi_mono ?_ (jj_leaf (o_word m hm5 ) hI sc K)
      intro r1 h1 ⟨t1, l1, q1, t59, H⟩
      simp only [t1, l1, q1, t59, e1, e2, e3, e4, e5, e6, b1, b2, b3, b4, b5, b6, c1, c2, c3, c4, c5, c6, true_and, and_true]
      exact xCi_mono (fun r2 h2 g => by rw [if_pos g.1]; exact g.2) H
    refine x_if (fun _ => ?_) (fun _ => ?_)
    · refine xCi_mono ?_ (jj_leaf (o_unword m hm5 ) hI sc K)
      intro r1 h1 ⟨t1, l1, q1, t59, H⟩
      simp only [t1, l1, q1, t59, e1, e2, e3, e4, e5, e6, b1, b2, b3, b4, b5, b6, c1, c2, c3, c4, c5, c6, true_and, and_true]
      exact xCi_mono (fun r2 h2 g => by rw [if_pos g.1]; exact g.2) H
    refine x_if (fun _ => ?_) (fun _ => ?_)
    · refine xCi_mono ?_ (jj_leaf (o_foot m hm5 _ _ _ _ _ (S1 _) (S1 _) (S1 _) (S1 _) (S1 _)) hI sc K)
      intro r1 h1 ⟨t1, l1, q1, t59, H⟩
      simp only [t1, l1, q1, t59, e1, e2, e3, e4, e5, e6, b1, b2, b3, b4, b5, b6, c1, c2, c3, c4, c5, c6, true_and, and_true]
      exact xCi_mono (fun r2 h2 g => by rw [if_pos g.1]; exact g.2) H
    refine x_if (fun _ => ?_) (fun _ => ?_)
    · refine xCi_mono ?_ (jj_leaf (o_form m hm5 _ _ _ (S1 _) (S1 _) (S1 _)) hI sc K)
      intro r1 h1 ⟨t1, l1, q1, t59, H⟩
      simp only [t1, l1, q1, t59, e1, e2, e3, e4, e5, e6, b1, b2, b3, b4, b5, b6, c1, c2, c3, c4, c5, c6, true_and, and_true]
      exact xCi_mono (fun r2 h2 g => by rw [if_pos g.1]; exact g.2) H
    refine x_if (fun _ => ?_) (fun _ => ?_)
    · refine xCi_mono ?_ (jj_leaf (o_cut m hm5 _ _ (S1 _) (S1 _)) hI sc K)
      intro r1 h1 ⟨t1, l1, q1, t59, H⟩
      simp only [t1, l1, q1, t59, e1, e2, e3, e4, e5, e6, b1, b2, b3, b4, b5, b6, c1, c2, c3, c4, c5, c6, true_and, and_true]
      exact xCi_mono (fun r2 h2 g => by rw [if_pos g.1]; exact g.2) H
    refine x_if (fun _ => ?_) (fun _ => ?_)
    · refine xCi_mono ?_ (jj_leaf (o_licence m hm5 _ _ (S1 _) (S1 _)) hI sc K)
      intro r1 h1 ⟨t1, l1, q1, t59, H⟩
      simp only [t1, l1, q1, t59, e1, e2, e3, e4, e5, e6, b1, b2, b3, b4, b5, b6, c1, c2, c3, c4, c5, c6, true_and, and_true]
      exact xCi_mono (fun r2 h2 g => by rw [if_pos g.1]; exact g.2) H
    refine x_if (fun _ => ?_) (fun _ => ?_)
    · refine xCi_mono ?_ (jj_leaf (o_line m hm5 ) hI sc K)
      intro r1 h1 ⟨t1, l1, q1, t59, H⟩
      simp only [t1, l1, q1, t59, e1, e2, e3, e4, e5, e6, b1, b2, b3, b4, b5, b6, c1, c2, c3, c4, c5, c6, true_and, and_true]
      exact xCi_mono (fun r2 h2 g => by rw [if_pos g.1]; exact g.2) H
    refine x_if (fun _ => ?_) (fun _ => ?_)
    · refine xCi_mono ?_ (jj_leaf (o_fault m hm5 _ (S1 _)) hI sc K)
      intro r1 h1 ⟨t1, l1, q1, t59, H⟩
      simp only [t1, l1, q1, t59, e1, e2, e3, e4, e5, e6, b1, b2, b3, b4, b5, b6, c1, c2, c3, c4, c5, c6, true_and, and_true]
      exact xCi_mono (fun r2 h2 g => by rw [if_pos g.1]; exact g.2) H
    refine x_if (fun _ => ?_) (fun _ => ?_)
    · refine xCi_mono ?_ (jj_leaf (o_syllable m hm5 _ _ (S1 _) (S1 _)) hI sc K)
      intro r1 h1 ⟨t1, l1, q1, t59, H⟩
      simp only [t1, l1, q1, t59, e1, e2, e3, e4, e5, e6, b1, b2, b3, b4, b5, b6, c1, c2, c3, c4, c5, c6, true_and, and_true]
      exact xCi_mono (fun r2 h2 g => by rw [if_pos g.1]; exact g.2) H
    refine x_if (fun _ => ?_) (fun _ => ?_)
    · refine xCi_mono ?_ (jj_leaf (o_scan m hm5 _ (S1 _)) hI sc K)
      intro r1 h1 ⟨t1, l1, q1, t59, H⟩
      simp only [t1, l1, q1, t59, e1, e2, e3, e4, e5, e6, b1, b2, b3, b4, b5, b6, c1, c2, c3, c4, c5, c6, true_and, and_true]
      exact xCi_mono (fun r2 h2 g => by rw [if_pos g.1]; exact g.2) H
    refine x_if (fun _ => ?_) (fun _ => ?_)
    · refine xCi_mono ?_ (jj_leaf (o_best m hm5 _ (S1 _)) hI sc K)
      intro r1 h1 ⟨t1, l1, q1, t59, H⟩
      simp only [t1, l1, q1, t59, e1, e2, e3, e4, e5, e6, b1, b2, b3, b4, b5, b6, c1, c2, c3, c4, c5, c6, true_and, and_true]
      exact xCi_mono (fun r2 h2 g => by rw [if_pos g.1]; exact g.2) H
    refine x_if (fun _ => ?_) (fun _ => ?_)
    · refine xCi_mono ?_ (jj_leaf (o_lay m hm5 _ (S1 _)) hI sc K)
      intro r1 h1 ⟨t1, l1, q1, t59, H⟩
      simp only [t1, l1, q1, t59, e1, e2, e3, e4, e5, e6, b1, b2, b3, b4, b5, b6, c1, c2, c3, c4, c5, c6, true_and, and_true]
      exact xCi_mono (fun r2 h2 g => by rw [if_pos g.1]; exact g.2) H
    refine x_if (fun _ => ?_) (fun _ => ?_)
    · refine xCi_mono ?_ (jj_leaf (o_reading m hm5 _ _ (S1 _) (S1 _)) hI sc K)
      intro r1 h1 ⟨t1, l1, q1, t59, H⟩
      simp only [t1, l1, q1, t59, e1, e2, e3, e4, e5, e6, b1, b2, b3, b4, b5, b6, c1, c2, c3, c4, c5, c6, true_and, and_true]
      exact xCi_mono (fun r2 h2 g => by rw [if_pos g.1]; exact g.2) H
    refine x_if (fun _ => ?_) (fun _ => ?_)
    · refine xCi_mono ?_ (jj_leaf (o_step m hm5 _ _ _ (S1 _) (S1 _) (S1 _)) hI sc K)
      intro r1 h1 ⟨t1, l1, q1, t59, H⟩
      simp only [t1, l1, q1, t59, e1, e2, e3, e4, e5, e6, b1, b2, b3, b4, b5, b6, c1, c2, c3, c4, c5, c6, true_and, and_true]
      exact xCi_mono (fun r2 h2 g => by rw [if_pos g.1]; exact g.2) H
    refine x_if (fun _ => ?_) (fun _ => ?_)
    · refine xCi_mono ?_ (jj_leaf (o_near m hm5 _ (S1 _)) hI sc K)
      intro r1 h1 ⟨t1, l1, q1, t59, H⟩
      simp only [t1, l1, q1, t59, e1, e2, e3, e4, e5, e6, b1, b2, b3, b4, b5, b6, c1, c2, c3, c4, c5, c6, true_and, and_true]
      exact xCi_mono (fun r2 h2 g => by rw [if_pos g.1]; exact g.2) H
    refine x_if (fun _ => ?_) (fun _ => ?_)
    · refine xCi_mono ?_ (jj_leaf (o_tell m hm5 _ _ _ _ _ _ (S1 _) (S1 _) (S1 _) (S1 _) (S1 _) (S1 _)) hI sc K)
      intro r1 h1 ⟨t1, l1, q1, t59, H⟩
      simp only [t1, l1, q1, t59, e1, e2, e3, e4, e5, e6, b1, b2, b3, b4, b5, b6, c1, c2, c3, c4, c5, c6, true_and, and_true]
      exact xCi_mono (fun r2 h2 g => by rw [if_pos g.1]; exact g.2) H
    refine x_if (fun _ => ?_) (fun _ => ?_)
    · refine xCi_mono ?_ (jj_leaf (o_check m hm5 _ (S1 _)) hI sc K)
      intro r1 h1 ⟨t1, l1, q1, t59, H⟩
      simp only [t1, l1, q1, t59, e1, e2, e3, e4, e5, e6, b1, b2, b3, b4, b5, b6, c1, c2, c3, c4, c5, c6, true_and, and_true]
      exact xCi_mono (fun r2 h2 g => by rw [if_pos g.1]; exact g.2) H
    refine x_if (fun _ => ?_) (fun _ => ?_)
    · refine xCi_mono ?_ (jj_leaf (o_keep m hm5 _ (S1 _)) hI sc K)
      intro r1 h1 ⟨t1, l1, q1, t59, H⟩
      simp only [t1, l1, q1, t59, e1, e2, e3, e4, e5, e6, b1, b2, b3, b4, b5, b6, c1, c2, c3, c4, c5, c6, true_and, and_true]
      exact xCi_mono (fun r2 h2 g => by rw [if_pos g.1]; exact g.2) H
    refine x_if (fun _ => ?_) (fun _ => ?_)
    · refine xCi_mono ?_ (jj_leaf (o_drop m hm5 _ (S1 _)) hI sc K)
      intro r1 h1 ⟨t1, l1, q1, t59, H⟩
      simp only [t1, l1, q1, t59, e1, e2, e3, e4, e5, e6, b1, b2, b3, b4, b5, b6, c1, c2, c3, c4, c5, c6, true_and, and_true]
      exact xCi_mono (fun r2 h2 g => by rw [if_pos g.1]; exact g.2) H
    refine x_if (fun _ => ?_) (fun _ => ?_)
    · refine xCi_mono ?_ (jj_leaf (o_rhyme m hm5 _ _ (S1 _) (S1 _)) hI sc K)
      intro r1 h1 ⟨t1, l1, q1, t59, H⟩
      simp only [t1, l1, q1, t59, e1, e2, e3, e4, e5, e6, b1, b2, b3, b4, b5, b6, c1, c2, c3, c4, c5, c6, true_and, and_true]
      exact xCi_mono (fun r2 h2 g => by rw [if_pos g.1]; exact g.2) H
    refine x_if (fun _ => ?_) (fun _ => ?_)
    · refine xCi_mono ?_ (jj_leaf (o_scheme m hm5 _ (S1 _)) hI sc K)
      intro r1 h1 ⟨t1, l1, q1, t59, H⟩
      simp only [t1, l1, q1, t59, e1, e2, e3, e4, e5, e6, b1, b2, b3, b4, b5, b6, c1, c2, c3, c4, c5, c6, true_and, and_true]
      exact xCi_mono (fun r2 h2 g => by rw [if_pos g.1]; exact g.2) H
    refine x_if (fun _ => ?_) (fun _ => ?_)
    · refine x_if (fun z => ?_) (fun z => ?_)
      · apply L_Law_law_705
        refine ⟨T2, ?_⟩
        refine xCi_mono ?_ (jj_leaf (o_place0 m hm5 _ _ _ _ (S1 _) (S1 _) (S1 _) (S1 _)) hI sc K)
        intro r1 h1 ⟨t1, l1, q1, t59, H⟩
        simp only [t1, l1, q1, t59, z, e1, e2, e3, e4, e5, e6, b1, b2, b3, b4, b5, b6, c1, c2, c3, c4, c5, c6, true_and, and_true, if_true, if_false]
        exact xCi_mono (fun r2 h2 g => by rw [if_pos g.1]; exact g.2) H
      · apply L_Law_law_705
        refine ⟨T2, ?_⟩
        refine xCi_mono ?_ (jj_leaf (o_place1 m hm5 _ _ _ _ (S1 _) (S1 _) (S1 _) (S1 _)) hI sc K)
        intro r1 h1 ⟨t1, l1, q1, t59, H⟩
        simp only [t1, l1, q1, t59, z, e1, e2, e3, e4, e5, e6, b1, b2, b3, b4, b5, b6, c1, c2, c3, c4, c5, c6, true_and, and_true, if_true, if_false]
        exact xCi_mono (fun r2 h2 g => by rw [if_pos g.1]; exact g.2) H
    refine x_if (fun _ => ?_) (fun _ => ?_)
    · refine xCi_mono ?_ (jj_leaf (o_judge m hm5 ) hI sc K)
      intro r1 h1 ⟨t1, l1, q1, t59, H⟩
      simp only [t1, l1, q1, t59, e1, e2, e3, e4, e5, e6, b1, b2, b3, b4, b5, b6, c1, c2, c3, c4, c5, c6, true_and, and_true]
      exact xCi_mono (fun r2 h2 g => by rw [if_pos g.1]; exact g.2) H
    refine x_if (fun _ => ?_) (fun _ => ?_)
    · refine xCi_mono ?_ (jj_leaf (o_judged m hm5 _ (S1 _)) hI sc K)
      intro r1 h1 ⟨t1, l1, q1, t59, H⟩
      simp only [t1, l1, q1, t59, e1, e2, e3, e4, e5, e6, b1, b2, b3, b4, b5, b6, c1, c2, c3, c4, c5, c6, true_and, and_true]
      exact xCi_mono (fun r2 h2 g => by rw [if_pos g.1]; exact g.2) H
    refine x_if (fun _ => ?_) (fun _ => ?_)
    · refine xCi_mono ?_ (jj_leaf (o_fits m hm5 _ _ _ (S1 _) (S1 _) (S1 _)) hI sc K)
      intro r1 h1 ⟨t1, l1, q1, t59, H⟩
      simp only [t1, l1, q1, t59, e1, e2, e3, e4, e5, e6, b1, b2, b3, b4, b5, b6, c1, c2, c3, c4, c5, c6, true_and, and_true]
      exact xCi_mono (fun r2 h2 g => by rw [if_pos g.1]; exact g.2) H
    refine x_if (fun _ => ?_) (fun _ => ?_)
    · refine xCi_mono ?_ (jj_leaf (o_fit m hm5 _ _ (S1 _) (S1 _)) hI sc K)
      intro r1 h1 ⟨t1, l1, q1, t59, H⟩
      simp only [t1, l1, q1, t59, e1, e2, e3, e4, e5, e6, b1, b2, b3, b4, b5, b6, c1, c2, c3, c4, c5, c6, true_and, and_true]
      exact xCi_mono (fun r2 h2 g => by rw [if_pos g.1]; exact g.2) H
    refine x_if (fun _ => ?_) (fun _ => ?_)
    · refine xCi_mono ?_ (jj_leaf (o_learn m hm5 _ (S1 _)) hI sc K)
      intro r1 h1 ⟨t1, l1, q1, t59, H⟩
      simp only [t1, l1, q1, t59, e1, e2, e3, e4, e5, e6, b1, b2, b3, b4, b5, b6, c1, c2, c3, c4, c5, c6, true_and, and_true]
      exact xCi_mono (fun r2 h2 g => by rw [if_pos g.1]; exact g.2) H
    refine x_if (fun _ => ?_) (fun _ => ?_)
    · refine xCi_mono ?_ (jj_leaf (o_count m hm5 _ (S1 _)) hI sc K)
      intro r1 h1 ⟨t1, l1, q1, t59, H⟩
      simp only [t1, l1, q1, t59, e1, e2, e3, e4, e5, e6, b1, b2, b3, b4, b5, b6, c1, c2, c3, c4, c5, c6, true_and, and_true]
      exact xCi_mono (fun r2 h2 g => by rw [if_pos g.1]; exact g.2) H
    exact K h (mono _ _ hI) sc
