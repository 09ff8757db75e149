/-! the sounds of a piece of text as values: wherever the piece lies, they are the same -/
def sgs (P V g : Int → Int) (a e : Int) : List (Int × Int) := (snds P g e (e - a).toNat a).map (fun x => (rsn P g e x, vwl P V g e x))
def P3 (P : Int → Int) : Prop := ∀ k, 0 ≤ k → k < 676 → 0 ≤ P k ∧ P k ≤ 2
section SG
variable {P V g g' : Int → Int} {a e : Int}
theorem sgs_nil (h : ¬ a < e) : sgs P V g a e = [] := by unfold sgs; rw [snds_nil h]; rfl
theorem sgs_cons (h : a < e) : sgs P V g a e = (rsn P g e a, vwl P V g e a) :: sgs P V g (nxt P g e a) e := by
  have gt := nxt_gt P g e a
  unfold sgs
  obtain ⟨n, hn⟩ : ∃ n : Nat, (e - a).toNat = n + 1 := ⟨(e - a).toNat - 1, by omega⟩
  rw [hn, snds, if_pos h, List.map_cons, snds_fuel n (e - nxt P g e a).toNat (nxt P g e a) (by omega) (by omega)]
theorem sgs_shift {a' : Int} : ∀ (m : Nat) (i : Int), 0 ≤ i → (∀ k, i ≤ k → k < i + m → g (a + k) = g' (a' + k)) → sgs P V g (a + i) (a + (i + m)) = sgs P V g' (a' + i) (a' + (i + m)) := by
  intro m
  induction m using Nat.strongRecOn with
  | _ m ih =>
    intro i i0 H
    by_cases c : m = 0
    · rw [sgs_nil (by omega), sgs_nil (by omega)]
    · rw [sgs_cons (g := g) (a := a + i) (e := a + (i + m)) (by omega), sgs_cons (g := g') (a := a' + i) (e := a' + (i + m)) (by omega)]
      have e0 := H i (Int.le_refl _) (by omega)
      have pe : prs P g (a + (i + m)) (a + i) = prs P g' (a' + (i + m)) (a' + i) := by
        unfold prs
        by_cases c2 : (m : Int) = 1
        · rw [if_neg (by omega), if_neg (by omega)]
        · have e1 := H (i + 1) (by omega) (by omega)
          rw [if_pos (by omega), if_pos (by omega), e0, show a + i + 1 = a + (i + 1) by omega, e1, show a' + i + 1 = a' + (i + 1) by omega]
      have re : rsn P g (a + (i + m)) (a + i) = rsn P g' (a' + (i + m)) (a' + i) := by
        unfold rsn
        rw [pe, e0]
        by_cases z : prs P g' (a' + (i + m)) (a' + i) = 0
        · rw [if_pos z, if_pos z]
        · rw [if_neg z, if_neg z]
          have : (m : Int) ≠ 1 := fun y => by
            unfold prs at z
            rw [if_neg (by omega)] at z
            exact z rfl
          have e1 := H (i + 1) (by omega) (by omega)
          rw [show a + i + 1 = a + (i + 1) by omega, e1, show a' + i + 1 = a' + (i + 1) by omega]
      have ve : vwl P V g (a + (i + m)) (a + i) = vwl P V g' (a' + (i + m)) (a' + i) := by
        unfold vwl
        rw [pe, e0]
      rw [re, ve]
      congr 1
      unfold nxt
      rw [pe]
      by_cases z : prs P g' (a' + (i + m)) (a' + i) = 0
      · rw [if_pos z, if_pos z]
        have := ih (m - 1) (by omega) (i + 1) (by omega) (fun k k0 k1 => H k (by omega) (by omega))
        rw [show i + 1 + ((m - 1 : Nat) : Int) = i + m by omega] at this
        rw [show a + i + 1 = a + (i + 1) by omega, show a' + i + 1 = a' + (i + 1) by omega]
        exact this
      · rw [if_neg z, if_neg z]
        have m2 : 2 ≤ m := by
          by_cases y : (m : Int) = 1
          · exfalso
            unfold prs at z
            rw [if_neg (by omega)] at z
            exact z rfl
          · omega
        have := ih (m - 2) (by omega) (i + 2) (by omega) (fun k k0 k1 => H k (by omega) (by omega))
        rw [show i + 2 + ((m - 2 : Nat) : Int) = i + m by omega] at this
        rw [show a + i + 2 = a + (i + 2) by omega, show a' + i + 2 = a' + (i + 2) by omega]
        exact this
theorem sgs_eq {a' m : Int} (m0 : 0 ≤ m) (H : ∀ k, 0 ≤ k → k < m → g (a + k) = g' (a' + k)) : sgs P V g a (a + m) = sgs P V g' a' (a' + m) := by
  obtain ⟨k, rfl⟩ : ∃ k : Nat, m = (k : Int) := ⟨m.toNat, by omega⟩
  have := sgs_shift (P := P) (V := V) (g := g) (g' := g') (a := a) (a' := a') k 0 (Int.le_refl _) (fun j j0 j1 => H j j0 (by omega))
  rw [show a + 0 = a by omega, show a' + 0 = a' by omega, show (0 : Int) + (k : Int) = k by omega] at this
  exact this
theorem sgs_len : a ≤ e → (((sgs P V g a e).length : Nat) : Int) ≤ e - a := by
  intro h
  unfold sgs
  rw [List.length_map]
  exact snds_len _ _ h
theorem sgs_ne (h : a < e) : 1 ≤ (sgs P V g a e).length := by rw [sgs_cons h, List.length_cons]; omega
theorem prs_rg (hP : P3 P) (hl : lets g a e) (hae : a < e) : 0 ≤ prs P g e a ∧ prs P g e a ≤ 2 := by
  unfold prs
  by_cases c : a + 1 < e
  · rw [if_pos c]
    have l0 := hl a (by omega) (by omega)
    have l1 := hl (a + 1) (by omega) (by omega)
    exact hP _ (by omega) (by omega)
  · rw [if_neg c]; decide
theorem snd_okV (hV : bits26 V) (hl : lets g a e) (hae : a < e) : SnOk (rsn P g e a, vwl P V g e a) := by
  refine ⟨vwl_01 hV hl hae, ?_⟩
  have l0 := hl a (by omega) (by omega)
  show (0 ≤ rsn P g e a ∧ rsn P g e a < 26) ∨ (100 ≤ rsn P g e a ∧ rsn P g e a < 776)
  unfold rsn
  by_cases c : prs P g e a = 0
  · rw [if_pos c]; omega
  · rw [if_neg c]
    have : a + 1 < e := by
      by_cases z : a + 1 < e
      · exact z
      · exfalso; unfold prs at c; rw [if_neg z] at c; exact c rfl
    have l1 := hl (a + 1) (by omega) (by omega)
    omega
theorem sgs_ok (hV : bits26 V) : ∀ (n : Nat) (a : Int), e - a ≤ n → lets g a e → ∀ p ∈ sgs P V g a e, SnOk p := by
  intro n
  induction n with
  | zero => intro a hn _ p m; rw [sgs_nil (by omega)] at m; exact absurd m List.not_mem_nil
  | succ n ih =>
    intro a hn hl p m
    by_cases c : a < e
    · rw [sgs_cons c, List.mem_cons] at m
      rcases m with m | m
      · rw [m]; exact snd_okV hV hl c
      · have := nxt_gt P g e a
        exact ih (nxt P g e a) (by push_cast at hn; omega) (lets_nxt hl) p m
    · rw [sgs_nil c] at m; exact absurd m List.not_mem_nil
theorem sgs_all (hV : bits26 V) (hl : lets g a e) : ∀ p ∈ sgs P V g a e, SnOk p := sgs_ok hV (e - a).toNat a (by omega) hl
theorem sgs_vsm : vsm P V g e (snds P g e (e - a).toNat a) = ((sgs P V g a e).map (fun p => p.2)).sum := by
  unfold vsm sgs
  rw [List.map_map]
  rfl
theorem foldl_last {α : Type} {f : α → Int} : ∀ (L : List α) (c : Int), L.foldl (fun _ x => f x) c = (L.map f).getLastD c := by
  intro L
  induction L with
  | nil => intro c; rfl
  | cons x L ih =>
    intro c
    show L.foldl (fun _ x => f x) (f x) = _
    rw [ih, List.map_cons, List.getLastD_cons]
theorem sgs_cls : lastv P V g e (snds P g e (e - a).toNat a) 0 = cls (sgs P V g a e) := by
  unfold lastv cls sgs
  rw [foldl_last]
  generalize snds P g e (e - a).toNat a = L
  have : ∀ (L : List Int) (x : Int × Int), (L.map (vwl P V g e)).getLastD x.2 = ((L.map (fun x => (rsn P g e x, vwl P V g e x))).getLastD x).2 := by
    intro L
    induction L with
    | nil => intro x; rfl
    | cons y L ih =>
      intro x
      rw [List.map_cons, List.map_cons, List.getLastD_cons, List.getLastD_cons]
      exact ih (rsn P g e y, vwl P V g e y)
  exact this L (0, 0)
theorem sgs_opn (h : a < e) : opn (sgs P V g a e) = vwl P V g e a := by rw [sgs_cons h]; rfl
end SG
section SC
variable {d : Nat} {h : xH} {q a e : Int}
theorem c_X_vsum {Q : Int → xH → Prop} (SX_ : SX h) (tq : h.tag q = 20) (he : e ≤ h.len q) (hs : e < 1000) (hV : bits26 (h.i 5)) (a0 : 0 ≤ a) (hl : lets (h.i q) a e) (H : Q (((sgs (h.i 6) (h.i 5) (h.i q) a e).map (fun p => p.2)).sum) h) : xCi (d + 3) M_Language_vowelSounds [(1, 4), (1, q), (0, a), (0, e)] h Q := c_X_vowelSounds SX_ tq he hs hV a0 hl (by rw [sgs_vsm]; exact H)
theorem c_X_traits {Q : Int → xH → Prop} (SX_ : SX h) (tq : h.tag q = 20) (he : e ≤ h.len q) (hs : e < 100000) (hV : bits26 (h.i 5)) (a0 : 0 ≤ a) (ae : a < e) (hl : lets (h.i q) a e) (H : Q (opn (sgs (h.i 6) (h.i 5) (h.i q) a e) + 2 * cls (sgs (h.i 6) (h.i 5) (h.i q) a e)) h) : xCi (d + 3) M_Language_traitsOf [(1, 4), (1, q), (0, a), (0, e)] h Q := c_X_traitsOf SX_ tq he hs hV a0 ae hl (by rw [sgs_cls, ← sgs_opn ae]; exact H)
/-- the reference's rows of sounds -/
def SndR (h : xH) (L : List (Int × Int)) : Prop := h.i 59 10 = (L.length : Nat) ∧ ∀ j : Nat, j < L.length → h.i 65 j = (L.getD j (0, 0)).1 ∧ h.i 66 j = (L.getD j (0, 0)).2
theorem c_R_cutS {P V : Int → Int} {Q : xH → Prop} {q f m : Int} (S : SR h) (RL_ : RLang h P V) (hf : 0 ≤ f) (m0 : 0 ≤ m) (hm : m ≤ 16) (hl2 : f + m < 100000) (tq : h.tag q = 21) (lq : f + m ≤ h.len q) (le : lets (h.i q) f (f + m)) (hq4 : q ≠ 59) (hq5 : q ≠ 65) (hq6 : q ≠ 66) (hq7 : q ≠ 67) (H : ∀ h', Fr [65, 66, 67] [(59, 10)] h h' → SndR h' (sgs P V (h.i q) f (f + m)) → Q h') : xCv (d + 2) M_R_cutSounds [(1, 59), (1, q), (0, f), (0, m)] h Q := by
  refine c_R_cutSounds S RL_ hf m0 hm hl2 tq lq rfl le hq4 hq5 hq6 hq7 (fun h' F C => H h' F ?_)
  obtain ⟨c1, c2⟩ := C
  unfold sgs
  rw [show f + m - f = m by omega]
  refine ⟨by rw [c1, List.length_map]; omega, fun j hj => ?_⟩
  rw [List.length_map] at hj
  have z := c2 j hj
  rw [map_gd (w := ((0 : Int), (0 : Int))) (z := (0 : Int)) hj]
  rw [show (0 : Int) + (j : Int) = (j : Int) by omega] at z
  exact ⟨z.1, z.2.1⟩
end SC
