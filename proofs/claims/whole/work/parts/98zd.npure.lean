/-! near: how far a line is from a form, as a value -/
abbrev NF : Type := Int → Int → Int → Int → Bool → Int
section NP
variable (E : SEn)
def nCost (i w : Int) : Int := if w = 3 ∨ E 1 i = 3 ∨ E 1 i = w then 0 else 1
def nFill (v : NF) (i q g : Int) (p : Int × Int) : Int := min 100000000 (min (1 + v i q g p.2 false) (if i < E 0 0 then nCost E i p.1 + v (i + 1) q g p.2 (scLast E i) else 100000000))
def nLs (v : NF) (i q g : Int) : List (Int × Int) → Int
  | [] => 100000000
  | p :: r => min (nFill E v i q g p) (nLs v i q g r)
def nCh (v : NF) (i q g c : Int) : Int := nLs E v i q g (scCh E g c)
def nPs (v : NF) (i q : Int) : Nat → Int
  | 0 => 100000000
  | m + 1 => min (nPs v i q m) (if scStand E q (m : Int) then nCh E v i q (m : Int) 16 else 100000000)
def nLv (q g c : Int) (b : Bool) : Bool := decide (0 ≤ q) && (scEnd E g c && (b || !scCut E q))
def nWi (v : NF) (i q g c : Int) (b : Bool) : Int := if (b || !scAsk E g c) = true then nCh E v i q g c else 100000000
def nStep (v : NF) (i q g c : Int) (b : Bool) : Int := if i = E 0 0 ∧ nLv E q g c b = true ∧ q = E 5 0 - 1 then 0 else min (min 100000000 (if i < E 0 0 then 1 + v (i + 1) q g c b else 100000000)) (if q = -1 then nPs E v i 0 12 else min (if nLv E q g c b = true ∧ q + 1 < E 5 0 then nPs E v i (q + 1) 12 else 100000000) (nWi E v i q g c b))
def nV : Nat → NF
  | 0 => fun _ _ _ _ _ => 100000000
  | m + 1 => fun i q g c b => nStep E (nV m) i q g c b
def nN : NF := nV E 400
def nOk (i q g c : Int) : Prop := 0 ≤ i ∧ i ≤ E 0 0 ∧ ((q = -1 ∧ g = 0 ∧ c = 0) ∨ (0 ≤ q ∧ q < E 5 0 ∧ 0 ≤ g ∧ g < 12 ∧ scStand E q g = true ∧ cOk E g c))
def nrk (i q c : Int) : Int := (E 0 0 - i) + 17 * (8 - q) + (16 - c)
end NP
section NP2
variable {E : SEn}
theorem ch_gt {g c : Int} {p : Int × Int} (m : p ∈ scCh E g c) : c = 16 ∨ c < p.2 := by
  by_cases c16 : c = 16
  · exact Or.inl c16
  refine Or.inr ?_
  unfold scCh fch at m
  by_cases e : E 8 g = 4
  · rw [if_pos e, if_neg c16] at m
    by_cases z : c / 4 < E 9 g ∧ c % 4 ≤ E 11 g
    · rw [if_pos z, List.mem_append] at m
      rcases m with m | m
      · by_cases y : c % 4 < E 11 g
        · rw [if_pos y, List.mem_singleton] at m
          rw [m]; show c < c + 1; omega
        · rw [if_neg y] at m; exact absurd m List.not_mem_nil
      · by_cases y : E 10 g ≤ c % 4 ∧ c / 4 + 1 < E 9 g
        · rw [if_pos y, List.mem_singleton] at m
          rw [m]; show c < 4 * (c / 4 + 1); omega
        · rw [if_neg y] at m; exact absurd m List.not_mem_nil
    · rw [if_neg z] at m; exact absurd m List.not_mem_nil
  · rw [if_neg e, if_neg c16] at m
    by_cases z : c % 4 = 1 ∧ c / 4 + 1 < E 9 g
    · rw [if_pos z] at m
      unfold fopen at m
      by_cases y : fd (E 8 g) (E 9 g) (fun k => E 12 (4 * g + k)) (c / 4 + 1) = 4
      · rw [if_pos y, List.mem_cons, List.mem_singleton] at m
        rcases m with m | m
        · rw [m]; show c < 4 * (c / 4 + 1) + 1; omega
        · rw [m]; show c < 4 * (c / 4 + 1); omega
      · rw [if_neg y, List.mem_singleton] at m
        rw [m]; show c < 4 * (c / 4 + 1) + 1; omega
    · rw [if_neg z] at m
      by_cases z2 : c % 4 = 0 ∧ c / 4 < E 9 g ∧ fd (E 8 g) (E 9 g) (fun k => E 12 (4 * g + k)) (c / 4) = 4
      · rw [if_pos z2, List.mem_singleton] at m
        rw [m]; show c < c + 1; omega
      · rw [if_neg z2] at m; exact absurd m List.not_mem_nil
theorem cOk_15 {g c : Int} (F : FOk (E 8 g) (E 9 g) (E 10 g) (E 11 g) (fun k => E 12 (4 * g + k))) (k : cOk E g c) : 0 ≤ c ∧ c ≤ 15 := by
  have m4 := F.2.2.2.1
  have f4 := F.2.2.2.2.1
  unfold cOk at k
  by_cases e : E 8 g = 4
  · have := f4 e; omega
  · omega
theorem nOk_rk (ok : EOk E) {i q g c : Int} (k : nOk E i q g c) : 0 ≤ nrk E i q c ∧ nrk E i q c ≤ 230 ∧ 0 ≤ c ∧ c ≤ 15 ∧ -1 ≤ q ∧ q < 8 := by
  obtain ⟨a, b, k⟩ := k
  have n40 := ok.2.1
  have p8 := ok.2.2.2.2.1
  unfold nrk
  rcases k with k | k
  · omega
  · have := cOk_15 (sc_stand ok k.2.2.1 k.2.2.2.1 k.2.2.2.2.1) k.2.2.2.2.2
    omega
/-- the states behind a choice -/
theorem ch_nx (ok : EOk E) {i q g c : Int} {p : Int × Int} (i0 : 0 ≤ i) (i1 : i ≤ E 0 0) (q0 : 0 ≤ q) (q1 : q < E 5 0) (g0 : 0 ≤ g) (g1 : g < 12) (st : scStand E q g = true) (hc : c = 16 ∨ cOk E g c) (m : p ∈ scCh E g c) : nOk E i q g p.2 ∧ (i < E 0 0 → nOk E (i + 1) q g p.2) ∧ 1 ≤ p.1 ∧ p.1 ≤ 3 ∧ (c = 16 ∨ c < p.2) := by
  have F := sc_stand ok g0 g1 st
  have z := ch_ok F hc m
  exact ⟨⟨i0, i1, Or.inr ⟨q0, q1, g0, g1, st, z.1⟩⟩, fun lt => ⟨by omega, by omega, Or.inr ⟨q0, q1, g0, g1, st, z.1⟩⟩, z.2.1, z.2.2, ch_gt m⟩
/-- what two functions agree on is enough -/
theorem nLs_cg {v v' : NF} {i q g : Int} : ∀ L : List (Int × Int), (∀ p ∈ L, v i q g p.2 false = v' i q g p.2 false ∧ (i < E 0 0 → v (i + 1) q g p.2 (scLast E i) = v' (i + 1) q g p.2 (scLast E i))) → nLs E v i q g L = nLs E v' i q g L := by
  intro L
  induction L with
  | nil => intro _; rfl
  | cons p r ih =>
    intro H
    have a := H p List.mem_cons_self
    have b := ih (fun x m => H x (List.mem_cons_of_mem _ m))
    rw [nLs, nLs, b]
    unfold nFill
    rw [a.1]
    by_cases c : i < E 0 0
    · rw [if_pos c, if_pos c, a.2 c]
    · rw [if_neg c, if_neg c]
theorem nCh_cg (ok : EOk E) {v v' : NF} {i q g c : Int} (i0 : 0 ≤ i) (i1 : i ≤ E 0 0) (q0 : 0 ≤ q) (q1 : q < E 5 0) (g0 : 0 ≤ g) (g1 : g < 12) (st : scStand E q g = true) (hc : c = 16 ∨ cOk E g c) (H : ∀ i' c' b', nOk E i' q g c' → (i' = i ∨ i' = i + 1) → (c = 16 ∨ c < c') → v i' q g c' b' = v' i' q g c' b') : nCh E v i q g c = nCh E v' i q g c := by
  refine nLs_cg _ (fun p m => ?_)
  have z := ch_nx ok i0 i1 q0 q1 g0 g1 st hc m
  exact ⟨H i p.2 false z.1 (Or.inl rfl) z.2.2.2.2, fun lt => H (i + 1) p.2 _ (z.2.1 lt) (Or.inr rfl) z.2.2.2.2⟩
theorem nPs_cg (ok : EOk E) {v v' : NF} {i q : Int} (i0 : 0 ≤ i) (i1 : i ≤ E 0 0) (q0 : 0 ≤ q) (q1 : q < E 5 0) (H : ∀ i' g' c' b', nOk E i' q g' c' → (i' = i ∨ i' = i + 1) → v i' q g' c' b' = v' i' q g' c' b') : ∀ m : Nat, m ≤ 12 → nPs E v i q m = nPs E v' i q m := by
  intro m
  induction m with
  | zero => intro _; rfl
  | succ m ih =>
    intro hm
    rw [nPs, nPs, ih (by omega)]
    by_cases c : scStand E q (m : Int) = true
    · rw [if_pos c, if_pos c, nCh_cg ok i0 i1 q0 q1 (by omega) (by omega) c (Or.inl rfl) (fun i' c' b' k hi _ => H i' _ c' b' k hi)]
    · rw [if_neg c, if_neg c]
theorem nStep_cg (ok : EOk E) {v v' : NF} {i q g c : Int} {b : Bool} (k : nOk E i q g c) (H : ∀ i' q' g' c' b', nOk E i' q' g' c' → nrk E i' q' c' < nrk E i q c → v i' q' g' c' b' = v' i' q' g' c' b') : nStep E v i q g c b = nStep E v' i q g c b := by
  have r := nOk_rk ok k
  have p1 := ok.2.2.2.1
  have i0 := k.1
  have i1 := k.2.1
  have pos : ∀ q', q < q' → q' < E 5 0 → 0 ≤ q' → nPs E v i q' 12 = nPs E v' i q' 12 := fun q' lt l5 l0 => nPs_cg ok i0 i1 l0 l5 (fun i' g' c' b' k' hi => H i' q' g' c' b' k' (by
    have := nOk_rk ok k'
    unfold nrk
    omega)) 12 (Nat.le_refl _)
  unfold nStep
  have a : (if i < E 0 0 then 1 + v (i + 1) q g c b else 100000000) = (if i < E 0 0 then 1 + v' (i + 1) q g c b else 100000000) := by
    by_cases lt : i < E 0 0
    · rw [if_pos lt, if_pos lt, H (i + 1) q g c b ⟨by omega, by omega, k.2.2⟩ (by unfold nrk; omega)]
    · rw [if_neg lt, if_neg lt]
  rw [a]
  by_cases c1 : q = -1
  · rw [if_pos c1, if_pos c1, pos 0 (by omega) (by omega) (by decide)]
  · rw [if_neg c1, if_neg c1]
    have kk := k.2.2.resolve_left (fun z => c1 z.1)
    have w : nWi E v i q g c b = nWi E v' i q g c b := by
      unfold nWi
      by_cases z : (b || !scAsk E g c) = true
      · rw [if_pos z, if_pos z]
        refine nCh_cg ok i0 i1 kk.1 kk.2.1 kk.2.2.1 kk.2.2.2.1 kk.2.2.2.2.1 (Or.inr kk.2.2.2.2.2) (fun i' c' b' k' hi hc => H i' q g c' b' k' ?_)
        unfold nrk
        omega
      · rw [if_neg z, if_neg z]
    rw [w]
    by_cases z : nLv E q g c b = true ∧ q + 1 < E 5 0
    · rw [if_pos z, if_pos z, pos (q + 1) (by omega) z.2 (by omega)]
    · rw [if_neg z, if_neg z]
theorem nV_up (ok : EOk E) : ∀ (m : Nat) (i q g c : Int) (b : Bool), nOk E i q g c → nrk E i q c < m → nV E m i q g c b = nV E (m + 1) i q g c b := by
  intro m
  induction m with
  | zero => intro i q g c b k lt; have := nOk_rk ok k; omega
  | succ m ih =>
    intro i q g c b k lt
    show nStep E (nV E m) i q g c b = nStep E (nV E (m + 1)) i q g c b
    exact nStep_cg ok k (fun i' q' g' c' b' k' l => ih i' q' g' c' b' k' (by push_cast at lt; omega))
theorem nN_eq (ok : EOk E) {i q g c : Int} {b : Bool} (k : nOk E i q g c) : nN E i q g c b = nStep E (nN E) i q g c b := by
  have := nOk_rk ok k
  exact nV_up ok 400 i q g c b k (by omega)
/-- how great it may be -/
theorem nLs_bd {v : NF} {i q g B : Int} (B0 : 0 ≤ B) : ∀ L : List (Int × Int), (∀ p ∈ L, (0 ≤ v i q g p.2 false ∧ (v i q g p.2 false = 100000000 ∨ v i q g p.2 false + 1 ≤ B)) ∧ (i < E 0 0 → 0 ≤ v (i + 1) q g p.2 (scLast E i) ∧ (v (i + 1) q g p.2 (scLast E i) = 100000000 ∨ v (i + 1) q g p.2 (scLast E i) + 1 ≤ B))) → 0 ≤ nLs E v i q g L ∧ nLs E v i q g L ≤ 100000000 ∧ (nLs E v i q g L = 100000000 ∨ nLs E v i q g L ≤ B) := by
  intro L
  induction L with
  | nil => intro _; rw [nLs]; omega
  | cons p r ih =>
    intro H
    have a := H p List.mem_cons_self
    have b := ih (fun x m => H x (List.mem_cons_of_mem _ m))
    have nc : 0 ≤ nCost E i p.1 ∧ nCost E i p.1 ≤ 1 := by
      unfold nCost
      by_cases z : p.1 = 3 ∨ E 1 i = 3 ∨ E 1 i = p.1
      · rw [if_pos z]; decide
      · rw [if_neg z]; decide
    rw [nLs]
    unfold nFill
    by_cases c : i < E 0 0
    · rw [if_pos c]
      have a2 := a.2 c
      omega
    · rw [if_neg c]; omega
theorem nCh_bd (ok : EOk E) {v : NF} {i q g c B : Int} (B0 : 0 ≤ B) (i0 : 0 ≤ i) (i1 : i ≤ E 0 0) (q0 : 0 ≤ q) (q1 : q < E 5 0) (g0 : 0 ≤ g) (g1 : g < 12) (st : scStand E q g = true) (hc : c = 16 ∨ cOk E g c) (H : ∀ i' c' b', nOk E i' q g c' → (i' = i ∨ i' = i + 1) → (c = 16 ∨ c < c') → 0 ≤ v i' q g c' b' ∧ (v i' q g c' b' = 100000000 ∨ v i' q g c' b' + 1 ≤ B)) : 0 ≤ nCh E v i q g c ∧ nCh E v i q g c ≤ 100000000 ∧ (nCh E v i q g c = 100000000 ∨ nCh E v i q g c ≤ B) := by
  refine nLs_bd B0 _ (fun p m => ?_)
  have z := ch_nx ok i0 i1 q0 q1 g0 g1 st hc m
  exact ⟨H i p.2 false z.1 (Or.inl rfl) z.2.2.2.2, fun lt => H (i + 1) p.2 _ (z.2.1 lt) (Or.inr rfl) z.2.2.2.2⟩
theorem nPs_bd (ok : EOk E) {v : NF} {i q B : Int} (B0 : 0 ≤ B) (i0 : 0 ≤ i) (i1 : i ≤ E 0 0) (q0 : 0 ≤ q) (q1 : q < E 5 0) (H : ∀ i' g' c' b', nOk E i' q g' c' → (i' = i ∨ i' = i + 1) → 0 ≤ v i' q g' c' b' ∧ (v i' q g' c' b' = 100000000 ∨ v i' q g' c' b' + 1 ≤ B)) : ∀ m : Nat, m ≤ 12 → 0 ≤ nPs E v i q m ∧ nPs E v i q m ≤ 100000000 ∧ (nPs E v i q m = 100000000 ∨ nPs E v i q m ≤ B) := by
  intro m
  induction m with
  | zero => intro _; rw [nPs]; omega
  | succ m ih =>
    intro hm
    have a := ih (by omega)
    rw [nPs]
    by_cases c : scStand E q (m : Int) = true
    · rw [if_pos c]
      have z := nCh_bd ok B0 i0 i1 q0 q1 (by omega) (by omega) c (Or.inl rfl) (fun i' c' b' k hi _ => H i' _ c' b' k hi)
      omega
    · rw [if_neg c]; omega
theorem nV_bd (ok : EOk E) : ∀ (m : Nat) (i q g c : Int) (b : Bool), nOk E i q g c → 0 ≤ nV E m i q g c b ∧ nV E m i q g c b ≤ 100000000 ∧ (nV E m i q g c b = 100000000 ∨ nV E m i q g c b ≤ nrk E i q c) := by
  intro m
  induction m with
  | zero => intro i q g c b k; show (0 : Int) ≤ 100000000 ∧ (100000000 : Int) ≤ 100000000 ∧ ((100000000 : Int) = 100000000 ∨ _); omega
  | succ m ih =>
    intro i q g c b k
    have r := nOk_rk ok k
    have p1 := ok.2.2.2.1
    have i0 := k.1
    have i1 := k.2.1
    show 0 ≤ nStep E (nV E m) i q g c b ∧ nStep E (nV E m) i q g c b ≤ 100000000 ∧ (nStep E (nV E m) i q g c b = 100000000 ∨ nStep E (nV E m) i q g c b ≤ nrk E i q c)
    have pos : ∀ q', q < q' → q' < E 5 0 → 0 ≤ q' → 0 ≤ nPs E (nV E m) i q' 12 ∧ nPs E (nV E m) i q' 12 ≤ 100000000 ∧ (nPs E (nV E m) i q' 12 = 100000000 ∨ nPs E (nV E m) i q' 12 ≤ nrk E i q c) := fun q' lt l5 l0 => nPs_bd ok r.1 i0 i1 l0 l5 (fun i' g' c' b' k' hi => by
      have a := ih i' q' g' c' b' k'
      have e := nOk_rk ok k'
      have u : nrk E i' q' c' + 1 ≤ nrk E i q c := by unfold nrk; omega
      omega) 12 (Nat.le_refl _)
    have a1 : 0 ≤ (if i < E 0 0 then 1 + nV E m (i + 1) q g c b else 100000000) ∧ ((if i < E 0 0 then 1 + nV E m (i + 1) q g c b else 100000000) ≥ 100000000 ∨ (if i < E 0 0 then 1 + nV E m (i + 1) q g c b else 100000000) ≤ nrk E i q c) := by
      by_cases lt : i < E 0 0
      · rw [if_pos lt]
        have a := ih (i + 1) q g c b ⟨by omega, by omega, k.2.2⟩
        have u : nrk E (i + 1) q c + 1 = nrk E i q c := by unfold nrk; omega
        omega
      · rw [if_neg lt]; omega
    unfold nStep
    by_cases c0 : i = E 0 0 ∧ nLv E q g c b = true ∧ q = E 5 0 - 1
    · rw [if_pos c0]; omega
    · rw [if_neg c0]
      by_cases c1 : q = -1
      · rw [if_pos c1]
        have := pos 0 (by omega) (by omega) (by decide)
        omega
      · rw [if_neg c1]
        have kk := k.2.2.resolve_left (fun z => c1 z.1)
        have w : 0 ≤ nWi E (nV E m) i q g c b ∧ nWi E (nV E m) i q g c b ≤ 100000000 ∧ (nWi E (nV E m) i q g c b = 100000000 ∨ nWi E (nV E m) i q g c b ≤ nrk E i q c) := by
          unfold nWi
          by_cases z : (b || !scAsk E g c) = true
          · rw [if_pos z]
            refine nCh_bd ok r.1 i0 i1 kk.1 kk.2.1 kk.2.2.1 kk.2.2.2.1 kk.2.2.2.2.1 (Or.inr kk.2.2.2.2.2) (fun i' c' b' k' hi hc => ?_)
            have a := ih i' q g c' b' k'
            have u : nrk E i' q c' + 1 ≤ nrk E i q c := by unfold nrk; omega
            omega
          · rw [if_neg z]; omega
        by_cases z : nLv E q g c b = true ∧ q + 1 < E 5 0
        · rw [if_pos z]
          have := pos (q + 1) (by omega) z.2 (by omega)
          omega
        · rw [if_neg z]; omega
theorem nN_bd (ok : EOk E) {i q g c : Int} {b : Bool} (k : nOk E i q g c) : 0 ≤ nN E i q g c b ∧ nN E i q g c b ≤ 100000000 ∧ (nN E i q g c b = 100000000 ∨ nN E i q g c b ≤ 230) := by
  have a := nV_bd ok 400 i q g c b k
  have r := nOk_rk ok k
  unfold nN
  omega
theorem nP_bd (ok : EOk E) {i q : Int} (i0 : 0 ≤ i) (i1 : i ≤ E 0 0) (q0 : 0 ≤ q) (q1 : q < E 5 0) : 0 ≤ nPs E (nN E) i q 12 ∧ nPs E (nN E) i q 12 ≤ 100000000 := by
  have := nPs_bd ok (v := nN E) (B := 300) (by decide) i0 i1 q0 q1 (fun i' g' c' b' k' hi => by
    have := nN_bd ok (b := b') k'
    omega) 12 (Nat.le_refl _)
  exact ⟨this.1, this.2.1⟩
theorem nW_bd (ok : EOk E) {i q g c : Int} {b : Bool} (k : nOk E i q g c) (qn : q ≠ -1) : 0 ≤ nWi E (nN E) i q g c b ∧ nWi E (nN E) i q g c b ≤ 100000000 := by
  have kk := k.2.2.resolve_left (fun z => qn z.1)
  unfold nWi
  by_cases z : (b || !scAsk E g c) = true
  · rw [if_pos z]
    have := nCh_bd ok (v := nN E) (B := 300) (by decide) k.1 k.2.1 kk.1 kk.2.1 kk.2.2.1 kk.2.2.2.1 kk.2.2.2.2.1 (Or.inr kk.2.2.2.2.2) (fun i' c' b' k' hi hc => by
      have := nN_bd ok (b := b') k'
      omega)
    exact ⟨this.1, this.2.1⟩
  · rw [if_neg z]; omega
/-! the gates -/
def nGt (E : SEn) (p : Int) : Nat → Int
  | 0 => if p = E 5 0 then 0 else nPs E (nN E) (E 0 0) p 12
  | m + 1 => if p = E 5 0 then ((m + 1 : Nat) : Int) else min (nPs E (nN E) (E 0 0 - ((m + 1 : Nat) : Int)) p 12) (1 + nGt E p m)
theorem nGt_bd (ok : EOk E) {p : Int} (p0 : 0 ≤ p) (p1 : p ≤ E 5 0) : ∀ m : Nat, (m : Int) ≤ E 0 0 → 0 ≤ nGt E p m ∧ nGt E p m ≤ 100000000 := by
  have n40 := ok.2.1
  intro m
  induction m with
  | zero =>
    intro hm
    rw [nGt]
    by_cases c : p = E 5 0
    · rw [if_pos c]; decide
    · rw [if_neg c]; exact nP_bd ok (by omega) (Int.le_refl _) p0 (by omega)
  | succ m ih =>
    intro hm
    have a := ih (by push_cast at hm; omega)
    rw [nGt]
    by_cases c : p = E 5 0
    · rw [if_pos c]; omega
    · rw [if_neg c]
      have := nP_bd ok (i := E 0 0 - ((m + 1 : Nat) : Int)) (q := p) (by omega) (by omega) p0 (by omega)
      omega
/-- where a position may be left, it is no farther than from the gate behind it -/
theorem nN_le (ok : EOk E) {q g c : Int} {b : Bool} (q0 : 0 ≤ q) (L : nLv E q g c b = true) : ∀ m : Nat, nOk E (E 0 0 - (m : Int)) q g c → nN E (E 0 0 - (m : Int)) q g c b ≤ nGt E (q + 1) m := by
  intro m
  induction m with
  | zero =>
    intro k
    have p8 := k.2.2.resolve_left (fun z => by omega)
    rw [nN_eq ok k, nGt]
    unfold nStep
    by_cases c1 : q + 1 = E 5 0
    · rw [if_pos (show E 0 0 - ((0 : Nat) : Int) = E 0 0 ∧ nLv E q g c b = true ∧ q = E 5 0 - 1 from ⟨by omega, L, by omega⟩), if_pos c1]; exact Int.le_refl _
    · rw [if_neg (show ¬ (E 0 0 - ((0 : Nat) : Int) = E 0 0 ∧ nLv E q g c b = true ∧ q = E 5 0 - 1) from fun z => c1 (by have := z.2.2; omega)), if_neg c1, if_neg (show ¬ q = -1 by omega), if_pos (show nLv E q g c b = true ∧ q + 1 < E 5 0 from ⟨L, by omega⟩), if_neg (show ¬ E 0 0 - ((0 : Nat) : Int) < E 0 0 by omega), show E 0 0 - ((0 : Nat) : Int) = E 0 0 by omega]
      omega
  | succ m ih =>
    intro k
    have p8 := k.2.2.resolve_left (fun z => by omega)
    have k' : nOk E (E 0 0 - (m : Int)) q g c := ⟨by have := k.1; push_cast at this; omega, by omega, k.2.2⟩
    have a := ih k'
    have e1 : E 0 0 - ((m + 1 : Nat) : Int) + 1 = E 0 0 - (m : Int) := by push_cast; omega
    rw [nN_eq ok k, nGt]
    unfold nStep
    rw [if_neg (show ¬ (E 0 0 - ((m + 1 : Nat) : Int) = E 0 0 ∧ nLv E q g c b = true ∧ q = E 5 0 - 1) from fun z => by have := z.1; push_cast at this; omega), if_neg (show ¬ q = -1 by omega), if_pos (show E 0 0 - ((m + 1 : Nat) : Int) < E 0 0 by push_cast; omega), e1]
    by_cases c1 : q + 1 = E 5 0
    · rw [if_pos c1]
      have : nGt E (q + 1) m = (m : Int) := by
        cases m with
        | zero => rw [nGt, if_pos c1]; rfl
        | succ m => rw [nGt, if_pos c1]
      rw [this] at a
      push_cast
      omega
    · rw [if_neg c1, if_pos (show nLv E q g c b = true ∧ q + 1 < E 5 0 from ⟨L, by omega⟩)]
      omega
/-- a state as the class has it: the gate behind is asked -/
theorem nN_gt (ok : EOk E) {q g c : Int} {b : Bool} (q0 : 0 ≤ q) (m : Nat) (k : nOk E (E 0 0 - (m : Int)) q g c) : nN E (E 0 0 - (m : Int)) q g c b = min (min 100000000 (if 0 < m then 1 + nN E (E 0 0 - (m : Int) + 1) q g c b else 100000000)) (min (nWi E (nN E) (E 0 0 - (m : Int)) q g c b) (if nLv E q g c b = true then nGt E (q + 1) m else 100000000)) := by
  have p8 := k.2.2.resolve_left (fun z => by omega)
  have w := nW_bd ok (b := b) k (by omega)
  have k0 := k.1
  rw [nN_eq ok k]
  unfold nStep
  rw [if_neg (show ¬ q = -1 by omega)]
  by_cases L : nLv E q g c b = true
  · rw [if_pos L]
    cases m with
    | zero =>
      rw [if_neg (show ¬ 0 < 0 by decide), if_neg (show ¬ E 0 0 - ((0 : Nat) : Int) < E 0 0 by omega), nGt]
      by_cases c1 : q + 1 = E 5 0
      · rw [if_pos (show E 0 0 - ((0 : Nat) : Int) = E 0 0 ∧ nLv E q g c b = true ∧ q = E 5 0 - 1 from ⟨by omega, L, by omega⟩), if_pos c1]
        omega
      · rw [if_neg (show ¬ (E 0 0 - ((0 : Nat) : Int) = E 0 0 ∧ nLv E q g c b = true ∧ q = E 5 0 - 1) from fun z => c1 (by have := z.2.2; omega)), if_neg c1, if_pos (show nLv E q g c b = true ∧ q + 1 < E 5 0 from ⟨L, by omega⟩), show E 0 0 - ((0 : Nat) : Int) = E 0 0 by omega]
        omega
    | succ m =>
      have e1 : E 0 0 - ((m + 1 : Nat) : Int) + 1 = E 0 0 - (m : Int) := by push_cast; omega
      have k' : nOk E (E 0 0 - (m : Int)) q g c := ⟨by push_cast at k0; omega, by omega, k.2.2⟩
      have a := nN_le ok (b := b) q0 L m k'
      have n := nN_bd ok (b := b) k'
      rw [if_neg (show ¬ (E 0 0 - ((m + 1 : Nat) : Int) = E 0 0 ∧ nLv E q g c b = true ∧ q = E 5 0 - 1) from fun z => by have := z.1; push_cast at this; omega), if_pos (show 0 < m + 1 by omega), if_pos (show E 0 0 - ((m + 1 : Nat) : Int) < E 0 0 by push_cast; omega), e1, nGt]
      by_cases c1 : q + 1 = E 5 0
      · rw [if_pos c1, if_neg (show ¬ (nLv E q g c b = true ∧ q + 1 < E 5 0) from fun z => by have := z.2; omega)]
        have : nGt E (q + 1) m = (m : Int) := by
          cases m with
          | zero => rw [nGt, if_pos c1]; rfl
          | succ m => rw [nGt, if_pos c1]
        rw [this] at a
        push_cast
        omega
      · rw [if_neg c1, if_pos (show nLv E q g c b = true ∧ q + 1 < E 5 0 from ⟨L, by omega⟩)]
        omega
  · rw [if_neg L, if_neg (show ¬ (E 0 0 - (m : Int) = E 0 0 ∧ nLv E q g c b = true ∧ q = E 5 0 - 1) from fun z => L z.2.1), if_neg (show ¬ (nLv E q g c b = true ∧ q + 1 < E 5 0) from fun z => L z.1)]
    by_cases c : 0 < m
    · rw [if_pos c, if_pos (show E 0 0 - (m : Int) < E 0 0 by omega)]
      omega
    · rw [if_neg c, if_neg (show ¬ E 0 0 - (m : Int) < E 0 0 by omega)]
      omega
/-- the first gate -/
theorem nN_g0 (ok : EOk E) : ∀ m : Nat, (m : Int) ≤ E 0 0 → nN E (E 0 0 - (m : Int)) (-1) 0 0 false = nGt E 0 m := by
  have p1 := ok.2.2.2.1
  intro m
  induction m with
  | zero =>
    intro hm
    have n1 := ok.1
    have k : nOk E (E 0 0 - ((0 : Nat) : Int)) (-1) 0 0 := ⟨by omega, by omega, Or.inl ⟨rfl, rfl, rfl⟩⟩
    have P := nP_bd ok (i := E 0 0) (q := 0) (by omega) (Int.le_refl _) (by decide) (by omega)
    rw [nN_eq ok k, nGt]
    unfold nStep
    rw [if_neg (show ¬ (E 0 0 - ((0 : Nat) : Int) = E 0 0 ∧ nLv E (-1) 0 0 false = true ∧ (-1 : Int) = E 5 0 - 1) from fun z => by have := z.2.2; omega), if_pos rfl, if_neg (show ¬ E 0 0 - ((0 : Nat) : Int) < E 0 0 by omega), if_neg (show ¬ 0 = E 5 0 by omega), show E 0 0 - ((0 : Nat) : Int) = E 0 0 by omega]
    omega
  | succ m ih =>
    intro hm
    have k : nOk E (E 0 0 - ((m + 1 : Nat) : Int)) (-1) 0 0 := ⟨by omega, by omega, Or.inl ⟨rfl, rfl, rfl⟩⟩
    have P := nP_bd ok (i := E 0 0 - ((m + 1 : Nat) : Int)) (q := 0) (by omega) (by omega) (by decide) (by omega)
    have a := ih (by push_cast at hm; omega)
    rw [nN_eq ok k, nGt]
    unfold nStep
    rw [if_neg (show ¬ (E 0 0 - ((m + 1 : Nat) : Int) = E 0 0 ∧ nLv E (-1) 0 0 false = true ∧ (-1 : Int) = E 5 0 - 1) from fun z => by have := z.2.2; omega), if_pos rfl, if_pos (show E 0 0 - ((m + 1 : Nat) : Int) < E 0 0 by push_cast; omega), if_neg (show ¬ 0 = E 5 0 by omega), show E 0 0 - ((m + 1 : Nat) : Int) + 1 = E 0 0 - (m : Int) by push_cast; omega, a]
    omega
end NP2
