/-! options and their keys; told steps -/
section KY
variable {E : SEn}
theorem ops_cases (ok : EOk E) {s : Stt} (k : scOk E s) {o : Op_} (m : o ∈ scOps E s) : (0 ≤ scLs E s.1 ∧ o = ((4, -1, -1, -1, -1), scLs E s.1, (s.1 + 1, s.2.1, s.2.2.1, s.2.2.2))) ∨ (0 ≤ scEx E s.1 ∧ o = ((5, -1, -1, -1, -1), scEx E s.1, (E 0 0, -2, 0, 0))) ∨ ∃ q g c : Int, ∃ w : Int × Int, 0 ≤ q ∧ q < E 5 0 ∧ 0 ≤ g ∧ g < 12 ∧ scStand E q g = true ∧ (c = 16 ∨ cOk E g c) ∧ w ∈ scCh E g c ∧ o ∈ scC1 E s.1 q g w ∧ ((q = s.2.1 ∧ g = s.2.2.1 ∧ c = s.2.2.2) ∨ (q = s.2.1 + 1 ∧ c = 16)) := by
  have z := scOps_nx m
  have np := ok.2.2.2.1
  have pos : ∀ q, 0 ≤ q → q < E 5 0 → q = s.2.1 + 1 → o ∈ scPosN E s.1 q 12 → ∃ q g c : Int, ∃ w : Int × Int, 0 ≤ q ∧ q < E 5 0 ∧ 0 ≤ g ∧ g < 12 ∧ scStand E q g = true ∧ (c = 16 ∨ cOk E g c) ∧ w ∈ scCh E g c ∧ o ∈ scC1 E s.1 q g w ∧ ((q = s.2.1 ∧ g = s.2.2.1 ∧ c = s.2.2.2) ∨ (q = s.2.1 + 1 ∧ c = 16)) := by
    intro q q0 q1 hq hm
    obtain ⟨g, hg, st, ho⟩ := scPos_mem hm
    obtain ⟨w, hw, ho'⟩ := scCs_mem ho
    exact ⟨q, (g : Int), 16, w, q0, q1, by omega, by omega, st, Or.inl rfl, hw, ho', Or.inr ⟨hq, rfl⟩⟩
  unfold scOps at m
  rw [if_neg (by omega)] at m
  by_cases c : s.2.1 = -1
  · rw [if_pos c] at m
    exact Or.inr (Or.inr (pos 0 (by decide) (by omega) (by omega) m))
  · rw [if_neg c, List.mem_append, List.mem_append] at m
    rcases k with k | k | k
    · exact absurd k.2.1 (by omega)
    · exact absurd k.1 c
    obtain ⟨q0, q1, i0, i1, g0, g1, st, co⟩ := k
    rcases m with m | m | m
    · unfold scLo at m
      by_cases e : 0 ≤ scLs E s.1
      · rw [if_pos e, List.mem_singleton] at m
        exact Or.inl ⟨e, m⟩
      · rw [if_neg e] at m; exact absurd m List.not_mem_nil
    · unfold scIn at m
      by_cases e : (scLast E (s.1 - 1) || !scAsk E s.2.2.1 s.2.2.2) = true
      · rw [if_pos e] at m
        obtain ⟨w, hw, ho'⟩ := scCs_mem m
        exact Or.inr (Or.inr ⟨s.2.1, s.2.2.1, s.2.2.2, w, q0, q1, g0, g1, st, Or.inr co, hw, ho', Or.inl ⟨rfl, rfl, rfl⟩⟩)
      · rw [if_neg e] at m; exact absurd m List.not_mem_nil
    · unfold scLv at m
      by_cases e : (scEnd E s.2.2.1 s.2.2.2 && (scLast E (s.1 - 1) || !scCut E s.2.1)) = true
      · rw [if_pos e] at m
        by_cases e2 : s.2.1 + 1 < E 5 0
        · rw [if_pos e2] at m
          exact Or.inr (Or.inr (pos (s.2.1 + 1) (by omega) e2 rfl m))
        · rw [if_neg e2] at m
          by_cases e3 : 0 ≤ scEx E s.1
          · rw [if_pos e3, List.mem_singleton] at m
            exact Or.inr (Or.inl ⟨e3, m⟩)
          · rw [if_neg e3] at m; exact absurd m List.not_mem_nil
      · rw [if_neg e] at m; exact absurd m List.not_mem_nil
/-- a key as it may be -/
def KOk (k : Key) : Prop := (4 ≤ k.1 ∧ k.1 ≤ 5 ∧ k.2.1 = -1 ∧ k.2.2.1 = -1 ∧ k.2.2.2.1 = -1 ∧ k.2.2.2.2 = -1) ∨ (0 ≤ k.1 ∧ k.1 ≤ 3 ∧ 0 ≤ k.2.1 ∧ k.2.1 < 8 ∧ 0 ≤ k.2.2.1 ∧ k.2.2.1 < 12 ∧ 0 ≤ k.2.2.2.1 ∧ k.2.2.2.1 < 4 ∧ 1 ≤ k.2.2.2.2 ∧ k.2.2.2.2 ≤ 2)
theorem key_ok (ok : EOk E) {s : Stt} (k : scOk E s) {o : Op_} (m : o ∈ scOps E s) : KOk o.1 := by
  have p8 := ok.2.2.2.2.1
  rcases ops_cases ok k m with z | z | z
  · rw [z.2]; left; exact ⟨by show (4 : Int) ≤ 4; decide, by show (4 : Int) ≤ 5; decide, rfl, rfl, rfl, rfl⟩
  · rw [z.2]; left; exact ⟨by show (4 : Int) ≤ 5; decide, by show (5 : Int) ≤ 5; decide, rfl, rfl, rfl, rfl⟩
  · obtain ⟨q, g, c, w, q0, q1, g0, g1, st, hc, hw, ho, -⟩ := z
    have F := sc_stand ok g0 g1 st
    have m4 := F.2.2.2.1
    have ko := ch_ok F hc hw
    have kc := ko.1
    unfold cOk at kc
    have wb := (scWay_bd (E := E) (i := s.1) ko.2.1 ko.2.2).resolve_right (fun z => z.2)
    obtain ⟨-, -, -, a⟩ := sc1_mem ho
    right
    rcases a with a | a
    · rw [a.2.2.2]
      show 0 ≤ scWay E w.1 s.1 ∧ scWay E w.1 s.1 ≤ 3 ∧ 0 ≤ q ∧ q < 8 ∧ 0 ≤ g ∧ g < 12 ∧ 0 ≤ w.2 / 4 ∧ w.2 / 4 < 4 ∧ 1 ≤ scAs E w.1 s.1 ∧ scAs E w.1 s.1 ≤ 2
      omega
    · rw [a.2.2.2.2]
      show (0 : Int) ≤ 3 ∧ (3 : Int) ≤ 3 ∧ 0 ≤ q ∧ q < 8 ∧ 0 ≤ g ∧ g < 12 ∧ 0 ≤ w.2 / 4 ∧ w.2 / 4 < 4 ∧ (1 : Int) ≤ 1 ∧ (1 : Int) ≤ 2
      omega
theorem ch_fst {g c : Int} {w w' : Int × Int} (F : FOk (E 8 g) (E 9 g) (E 10 g) (E 11 g) (fun k => E 12 (4 * g + k))) (m : w ∈ scCh E g c) (m' : w' ∈ scCh E g c) : w = w' ∨ (w.1 ≠ 3 ∧ w'.1 ≠ 3 ∧ w.1 ≠ w'.1) := by
  have op : ∀ k, w ∈ fopen (E 8 g) (E 9 g) (fun k => E 12 (4 * g + k)) k → w' ∈ fopen (E 8 g) (E 9 g) (fun k => E 12 (4 * g + k)) k → w = w' ∨ (w.1 ≠ 3 ∧ w'.1 ≠ 3 ∧ w.1 ≠ w'.1) := by
    intro k h h'
    unfold fopen at h h'
    by_cases c4 : fd (E 8 g) (E 9 g) (fun k => E 12 (4 * g + k)) k = 4
    · rw [if_pos c4, List.mem_cons, List.mem_singleton] at h h'
      rcases h with h | h <;> rcases h' with h' | h'
      · exact Or.inl (h.trans h'.symm)
      · rw [h, h']; exact Or.inr ⟨by show (1 : Int) ≠ 3; decide, by show (2 : Int) ≠ 3; decide, by show (1 : Int) ≠ 2; decide⟩
      · rw [h, h']; exact Or.inr ⟨by show (2 : Int) ≠ 3; decide, by show (1 : Int) ≠ 3; decide, by show (2 : Int) ≠ 1; decide⟩
      · exact Or.inl (h.trans h'.symm)
    · rw [if_neg c4, List.mem_singleton] at h h'
      exact Or.inl (h.trans h'.symm)
  unfold scCh fch at m m'
  by_cases e : E 8 g = 4
  · rw [if_pos e] at m m'
    by_cases c16 : c = 16
    · rw [if_pos c16, List.mem_singleton] at m m'
      exact Or.inl (m.trans m'.symm)
    · rw [if_neg c16] at m m'
      by_cases z : c / 4 < E 9 g ∧ c % 4 ≤ E 11 g
      · rw [if_pos z, List.mem_append] at m m'
        have one : ∀ (P : Prop) (x y : Int × Int) [Decidable P], y ∈ (if P then [x] else []) → y = x := fun P x y _ hy => by
          by_cases u : P
          · rw [if_pos u, List.mem_singleton] at hy; exact hy
          · rw [if_neg u] at hy; exact absurd hy List.not_mem_nil
        rcases m with m | m <;> rcases m' with m' | m'
        · exact Or.inl ((one _ _ _ m).trans (one _ _ _ m').symm)
        · rw [one _ _ _ m, one _ _ _ m']; exact Or.inr ⟨by show (2 : Int) ≠ 3; decide, by show (1 : Int) ≠ 3; decide, by show (2 : Int) ≠ 1; decide⟩
        · rw [one _ _ _ m, one _ _ _ m']; exact Or.inr ⟨by show (1 : Int) ≠ 3; decide, by show (2 : Int) ≠ 3; decide, by show (1 : Int) ≠ 2; decide⟩
        · exact Or.inl ((one _ _ _ m).trans (one _ _ _ m').symm)
      · rw [if_neg z] at m; exact absurd m List.not_mem_nil
  · rw [if_neg e] at m m'
    by_cases c16 : c = 16
    · rw [if_pos c16] at m m'
      exact op 0 m m'
    · rw [if_neg c16] at m m'
      by_cases z : c % 4 = 1 ∧ c / 4 + 1 < E 9 g
      · rw [if_pos z] at m m'
        exact op _ m m'
      · rw [if_neg z] at m m'
        by_cases z2 : c % 4 = 0 ∧ c / 4 < E 9 g ∧ fd (E 8 g) (E 9 g) (fun k => E 12 (4 * g + k)) (c / 4) = 4
        · rw [if_pos z2, List.mem_singleton] at m m'
          exact Or.inl (m.trans m'.symm)
        · rw [if_neg z2] at m; exact absurd m List.not_mem_nil
/-- an option's key tells the option -/
theorem ops_inj (ok : EOk E) {s : Stt} (k : scOk E s) {o o' : Op_} (m : o ∈ scOps E s) (m' : o' ∈ scOps E s) (e : o.1 = o'.1) : o = o' := by
  have way : ∀ {o : Op_} {q g c : Int} {w : Int × Int}, 0 ≤ g → g < 12 → scStand E q g = true → (c = 16 ∨ cOk E g c) → w ∈ scCh E g c → o ∈ scC1 E s.1 q g w → o.1.1 ≤ 3 ∧ o.1.2.1 = q ∧ o.1.2.2.1 = g ∧ (w.1 ≠ 3 → o.1.2.2.2.2 = w.1) := by
    intro o q g c w g0 g1 st hc hw ho
    have F := sc_stand ok g0 g1 st
    have ko := ch_ok F hc hw
    have wb := (scWay_bd (E := E) (i := s.1) ko.2.1 ko.2.2).resolve_right (fun z => z.2)
    obtain ⟨-, -, -, a⟩ := sc1_mem ho
    rcases a with a | a
    · rw [a.2.2.2]
      refine ⟨by show scWay E w.1 s.1 ≤ 3; omega, rfl, rfl, fun n3 => ?_⟩
      show scAs E w.1 s.1 = w.1
      unfold scAs; rw [if_neg n3]
    · rw [a.2.2.2.2]
      refine ⟨by show (3 : Int) ≤ 3; decide, rfl, rfl, fun n3 => ?_⟩
      show (1 : Int) = w.1
      omega
  rcases ops_cases ok k m with z | z | z <;> rcases ops_cases ok k m' with z' | z' | z'
  · exact z.2.trans z'.2.symm
  · rw [z.2, z'.2] at e; exact absurd (congrArg Prod.fst e) (by show ¬ (4 : Int) = 5; decide)
  · obtain ⟨q', g', c', w', q0', q1', g0', g1', st', hc', hw', ho', r'⟩ := z'
    have y := way g0' g1' st' hc' hw' ho'
    rw [← e, z.2] at y
    exact absurd y.1 (by show ¬ (4 : Int) ≤ 3; decide)
  · rw [z.2, z'.2] at e; exact absurd (congrArg Prod.fst e) (by show ¬ (5 : Int) = 4; decide)
  · exact z.2.trans z'.2.symm
  · obtain ⟨q', g', c', w', q0', q1', g0', g1', st', hc', hw', ho', r'⟩ := z'
    have y := way g0' g1' st' hc' hw' ho'
    rw [← e, z.2] at y
    exact absurd y.1 (by show ¬ (5 : Int) ≤ 3; decide)
  · obtain ⟨q, g, c, w, q0, q1, g0, g1, st, hc, hw, ho, r⟩ := z
    have y := way g0 g1 st hc hw ho
    rw [e, z'.2] at y
    exact absurd y.1 (by show ¬ (4 : Int) ≤ 3; decide)
  · obtain ⟨q, g, c, w, q0, q1, g0, g1, st, hc, hw, ho, r⟩ := z
    have y := way g0 g1 st hc hw ho
    rw [e, z'.2] at y
    exact absurd y.1 (by show ¬ (5 : Int) ≤ 3; decide)
  · obtain ⟨q, g, c, w, q0, q1, g0, g1, st, hc, hw, ho, r⟩ := z
    obtain ⟨q', g', c', w', q0', q1', g0', g1', st', hc', hw', ho', r'⟩ := z'
    have y := way g0 g1 st hc hw ho
    have y' := way g0' g1' st' hc' hw' ho'
    have F := sc_stand ok g0 g1 st
    have eq : q = q' := by rw [← y.2.1, ← y'.2.1, e]
    have eg : g = g' := by rw [← y.2.2.1, ← y'.2.2.1, e]
    have ec : c = c' := by omega
    subst eq eg ec
    have ew : w = w' := by
      rcases ch_fst F hw hw' with u | u
      · exact u
      · exfalso
        have a := y.2.2.2 u.1
        have b := y'.2.2.2 u.2.1
        rw [e] at a
        exact u.2.2 (a.symm.trans b)
    subst ew
    obtain ⟨e1, e2, e3, e4⟩ := sc1_mem ho
    obtain ⟨f1, f2, f3, f4⟩ := sc1_mem ho'
    have ko := ch_ok F hc hw
    have wb := (scWay_bd (E := E) (i := s.1) ko.2.1 ko.2.2).resolve_right (fun z => z.2)
    obtain ⟨ok1, op1, oi, oq, og, oc⟩ := o
    obtain ⟨ok2, op2, oi', oq', og', oc'⟩ := o'
    simp only at e e1 e2 e3 e4 f1 f2 f3 f4
    subst e e1 e2 e3 f1 f2 f3
    rcases e4 with e4 | e4 <;> rcases f4 with f4 | f4
    · rw [e4.1, f4.1, e4.2.2.1, f4.2.2.1]
    · exfalso
      have : scWay E w.1 s.1 = 3 := by
        have := congrArg Prod.fst (e4.2.2.2.symm.trans f4.2.2.2.2)
        exact this
      omega
    · exfalso
      have : scWay E w.1 s.1 = 3 := by
        have := congrArg Prod.fst (f4.2.2.2.symm.trans e4.2.2.2.2)
        exact this
      omega
    · rw [e4.1, f4.1, e4.2.2.2.1, f4.2.2.2.1]
/-! told steps -/
def tldB (T : Int → Int) (k i : Int) (o : Key) : Bool := decide (T (6 * k) = i) && (decide (T (6 * k + 1) = o.1) && (decide (T (6 * k + 2) = o.2.1) && (decide (T (6 * k + 3) = o.2.2.1) && (decide (T (6 * k + 4) = o.2.2.2.1) && decide (T (6 * k + 5) = o.2.2.2.2)))))
def mtB (E : SEn) (T : Int → Int) (k : Int) (s : Stt) (o : Op_) : Bool := decide (0 < scW E true o.2.2) && tldB T k s.1 o.1
/-- where the told row leads: n steps told, m of them left, at state s -/
def chkF (E : SEn) (T : Int → Int) (n : Nat) : Nat → Stt → Int
  | 0, s => if 0 < n ∧ scFin E s = true then -1 else n
  | m + 1, s => match (scOps E s).find? (mtB E T ((n : Int) - ((m + 1 : Nat) : Int)) s) with
    | none => (n : Int) - ((m + 1 : Nat) : Int)
    | some o => chkF E T n m o.2.2
theorem chkF_no {T : Int → Int} {n m : Nat} {s : Stt} (H : ∀ o ∈ scOps E s, mtB E T ((n : Int) - ((m + 1 : Nat) : Int)) s o = false) : chkF E T n (m + 1) s = (n : Int) - ((m + 1 : Nat) : Int) := by
  have z : (scOps E s).find? (mtB E T ((n : Int) - ((m + 1 : Nat) : Int)) s) = none := by
    rw [List.find?_eq_none]
    intro o ho
    rw [H o ho]; decide
  unfold chkF
  rw [z]
theorem tldB_inj {T : Int → Int} {k i : Int} {a b : Key} (h1 : tldB T k i a = true) (h2 : tldB T k i b = true) : a = b := by
  unfold tldB at h1 h2
  simp only [Bool.and_eq_true, decide_eq_true_eq] at h1 h2
  obtain ⟨a1, a2, a3, a4, a5⟩ := a
  obtain ⟨b1, b2, b3, b4, b5⟩ := b
  simp only at h1 h2
  rw [show a1 = b1 by omega, show a2 = b2 by omega, show a3 = b3 by omega, show a4 = b4 by omega, show a5 = b5 by omega]
theorem chkF_yes (ok : EOk E) {T : Int → Int} {n m : Nat} {s : Stt} (k : scOk E s) {o : Op_} (ho : o ∈ scOps E s) (H : mtB E T ((n : Int) - ((m + 1 : Nat) : Int)) s o = true) : chkF E T n (m + 1) s = chkF E T n m o.2.2 := by
  cases z : (scOps E s).find? (mtB E T ((n : Int) - ((m + 1 : Nat) : Int)) s) with
  | none =>
    rw [List.find?_eq_none] at z
    exact absurd H (z o ho)
  | some o' =>
    have a := List.mem_of_find?_eq_some z
    have b := List.find?_some z
    unfold mtB at H b
    rw [Bool.and_eq_true] at H b
    have e := ops_inj ok k ho a (tldB_inj H.2 b.2)
    rw [chkF, z, e]
end KY
