/-! scanning: what both sides count, on plain functions -/
/-- 0 syllables, 1 mark, 2 word, 3 ends by a vowel, 4 begins by one; 5 positions, 6 set, 7 cuts; 8 sort, 9 places, 10 x, 11 y, 12 digits; 13 prices -/
abbrev SEn : Type := Nat → Int → Int
abbrev Key : Type := Int × Int × Int × Int × Int
abbrev Stt : Type := Int × Int × Int × Int
/-- an option: (way, position, foot, place, mark), price, what comes next: (syllable, position, foot, code); position -2: all is over -/
abbrev Op_ : Type := Key × Int × Stt
def op0 : Op_ := ((0, 0, 0, 0, 0), 0, (0, 0, 0, 0))
section SC
variable (E : SEn)
def scLast (i : Int) : Bool := decide (0 ≤ i) && (decide (i = E 0 0 - 1) || decide (E 2 (i + 1) ≠ E 2 i))
def scFirst (i : Int) : Bool := decide (i = 0) || decide (E 2 (i - 1) ≠ E 2 i)
def scLose (i : Int) : Bool := decide (i + 1 < E 0 0) && (scLast E i && (!scFirst E i && (decide (E 3 i = 1) && decide (E 4 (i + 1) = 1))))
def scMelt (i : Int) : Bool := decide (i + 1 < E 0 0) && (!scLast E i && (decide (E 3 i = 1) && decide (E 4 (i + 1) = 1)))
def scStand (q g : Int) : Bool := decide (E 6 q / 2 ^ g.toNat % 2 = 1) && (decide (E 8 g ≠ -1) && (decide (E 8 g ≠ 2) || decide (q = E 5 0 - 1)))
def scCut (q : Int) : Bool := decide (E 7 0 / 2 ^ q.toNat % 2 = 1)
def scCh (g c : Int) : List (Int × Int) := fch (E 8 g) (E 9 g) (E 10 g) (E 11 g) (fun k => E 12 (4 * g + k)) c
def scAsk (g c : Int) : Bool := decide (fasks (E 8 g) (E 10 g) c = 1)
def scEnd (g c : Int) : Bool := decide (fends (E 8 g) (E 9 g) (E 10 g) (E 11 g) c = 1)
def scOwn (w i : Int) : Int := if i < 0 ∨ E 0 0 ≤ i then -1 else if w = 3 then 0 else if w = 1 then (if E 1 i = 2 then E 13 2 else 0) else if w = 2 then (if E 1 i = 1 then (if i = 0 then E 13 3 else -1) else 0) else -1
def scMl (i : Int) : Int := if scMelt E i then E 13 1 else -1
def scLs (i : Int) : Int := if scLose E i then E 13 0 else -1
def scEx (i : Int) : Int := if 0 < i ∧ i + 1 = E 0 0 ∧ E 1 i ≠ 1 then E 13 4 else -1
def scAs (w i : Int) : Int := if w = 3 then (if E 1 i = 2 then 2 else 1) else w
def scWay (w i : Int) : Int := if E 1 i = 3 ∨ E 1 i = scAs E w i then 0 else if scAs E w i = 1 then 1 else 2
/-- what a choice (mark, next code) gives -/
def scC1 (i q g : Int) (p : Int × Int) : List Op_ := (if 0 ≤ scOwn E p.1 i then [((scWay E p.1 i, q, g, p.2 / 4, scAs E p.1 i), scOwn E p.1 i, (i + 1, q, g, p.2))] else []) ++ (if (p.1 = 1 ∨ p.1 = 3) ∧ 0 ≤ scMl E i then [((3, q, g, p.2 / 4, 1), scMl E i, (i + 2, q, g, p.2))] else [])
def scCs (i q g c : Int) : List Op_ := (scCh E g c).flatMap (scC1 E i q g)
def scPosN (i q : Int) (m : Nat) : List Op_ := (List.range m).flatMap (fun g : Nat => if scStand E q (g : Int) then scCs E i q (g : Int) 16 else [])
def scLv (i q g c : Int) : List Op_ := if scEnd E g c && (scLast E (i - 1) || !scCut E q) then (if q + 1 < E 5 0 then scPosN E i (q + 1) 12 else if 0 ≤ scEx E i then [((5, -1, -1, -1, -1), scEx E i, (E 0 0, -2, 0, 0))] else []) else []
def scIn (i q g c : Int) : List Op_ := if scLast E (i - 1) || !scAsk E g c then scCs E i q g c else []
def scLo (i q g c : Int) : List Op_ := if 0 ≤ scLs E i then [((4, -1, -1, -1, -1), scLs E i, (i + 1, q, g, c))] else []
/-- the options behind a state -/
def scOps (s : Stt) : List Op_ := if E 0 0 ≤ s.1 then [] else if s.2.1 = -1 then scPosN E s.1 0 12 else scLo E s.1 s.2.1 s.2.2.1 s.2.2.2 ++ (scIn E s.1 s.2.1 s.2.2.1 s.2.2.2 ++ scLv E s.1 s.2.1 s.2.2.1 s.2.2.2)
def scFin (s : Stt) : Bool := decide (s.2.1 = -2) || (decide (s.1 = E 0 0) && (decide (0 ≤ s.2.1) && (decide (s.2.1 = E 5 0 - 1) && scEnd E s.2.2.1 s.2.2.2)))
end SC
/-- true: counts; false: prices -/
def scJ (b : Bool) (t p v : Int) : Int := if b then min 1000000000 (t + v) else min t (p + v)
def scZ (b : Bool) : Int := if b then 0 else 268435456
def sc1 (b : Bool) : Int := if b then 1 else 0
def scV (E : SEn) (b : Bool) : Nat → Stt → Int
  | 0, s => if scFin E s then sc1 b else scZ b
  | n + 1, s => if scFin E s then sc1 b else (scOps E s).foldl (fun t o => scJ b t o.2.1 (scV E b n o.2.2)) (scZ b)
/-- how many readings go on from a state; their least price -/
def scW (E : SEn) (b : Bool) (s : Stt) : Int := scV E b (42 - s.1).toNat s
def scF (E : SEn) (b : Bool) (t : Int) (L : List Op_) : Int := L.foldl (fun t o => scJ b t o.2.1 (scW E b o.2.2)) t
/-- what may stand in the data -/
def EOk (E : SEn) : Prop := 1 ≤ E 0 0 ∧ E 0 0 ≤ 40 ∧ (∀ i, 0 ≤ i → i < E 0 0 → 1 ≤ E 1 i ∧ E 1 i ≤ 3) ∧ 1 ≤ E 5 0 ∧ E 5 0 ≤ 8 ∧ (∀ q, 0 ≤ q → q < 8 → 0 ≤ E 6 q ∧ E 6 q < 4096) ∧ 0 ≤ E 7 0 ∧ E 7 0 < 256 ∧ (∀ g, 0 ≤ g → g < 12 → E 8 g = -1 ∨ FOk (E 8 g) (E 9 g) (E 10 g) (E 11 g) (fun k => E 12 (4 * g + k))) ∧ (∀ l, 0 ≤ l → l < 5 → -1 ≤ E 13 l ∧ E 13 l ≤ 50)
section SC2
variable {E : SEn}
theorem sc_stand (ok : EOk E) {q g : Int} (g0 : 0 ≤ g) (g1 : g < 12) (s : scStand E q g = true) : FOk (E 8 g) (E 9 g) (E 10 g) (E 11 g) (fun k => E 12 (4 * g + k)) := by
  unfold scStand at s
  simp only [Bool.and_eq_true, decide_eq_true_eq] at s
  exact (ok.2.2.2.2.2.2.2.2.1 g g0 g1).resolve_left s.2.1
theorem sc1_mem {i q g : Int} {p : Int × Int} {o : Op_} (m : o ∈ scC1 E i q g p) : o.2.2.2.1 = q ∧ o.2.2.2.2.1 = g ∧ o.2.2.2.2.2 = p.2 ∧ ((o.2.2.1 = i + 1 ∧ 0 ≤ scOwn E p.1 i ∧ o.2.1 = scOwn E p.1 i ∧ o.1 = (scWay E p.1 i, q, g, p.2 / 4, scAs E p.1 i)) ∨ (o.2.2.1 = i + 2 ∧ (p.1 = 1 ∨ p.1 = 3) ∧ 0 ≤ scMl E i ∧ o.2.1 = scMl E i ∧ o.1 = (3, q, g, p.2 / 4, 1))) := by
  unfold scC1 at m
  rw [List.mem_append] at m
  rcases m with m | m
  · by_cases c : 0 ≤ scOwn E p.1 i
    · rw [if_pos c, List.mem_singleton] at m
      subst m
      exact ⟨rfl, rfl, rfl, Or.inl ⟨rfl, c, rfl, rfl⟩⟩
    · rw [if_neg c] at m
      exact absurd m List.not_mem_nil
  · by_cases c : (p.1 = 1 ∨ p.1 = 3) ∧ 0 ≤ scMl E i
    · rw [if_pos c, List.mem_singleton] at m
      subst m
      exact ⟨rfl, rfl, rfl, Or.inr ⟨rfl, c.1, c.2, rfl, rfl⟩⟩
    · rw [if_neg c] at m
      exact absurd m List.not_mem_nil
theorem scOwn_n {w i : Int} (h : 0 ≤ scOwn E w i) : 0 ≤ i ∧ i < E 0 0 := by
  unfold scOwn at h
  by_cases c : i < 0 ∨ E 0 0 ≤ i
  · rw [if_pos c] at h; omega
  · omega
theorem scMl_n {i : Int} (h : 0 ≤ scMl E i) : i + 1 < E 0 0 ∧ scMelt E i = true := by
  unfold scMl at h
  by_cases c : scMelt E i = true
  · refine ⟨?_, c⟩
    unfold scMelt at c
    simp only [Bool.and_eq_true, decide_eq_true_eq] at c
    exact c.1
  · rw [if_neg c] at h; omega
theorem scLs_n {i : Int} (h : 0 ≤ scLs E i) : i + 1 < E 0 0 ∧ scLose E i = true := by
  unfold scLs at h
  by_cases c : scLose E i = true
  · refine ⟨?_, c⟩
    unfold scLose at c
    simp only [Bool.and_eq_true, decide_eq_true_eq] at c
    exact c.1
  · rw [if_neg c] at h; omega
/-- a member of what a position gives -/
theorem scPos_mem {i q : Int} : ∀ {m : Nat} {o : Op_}, o ∈ scPosN E i q m → ∃ g : Nat, g < m ∧ scStand E q g = true ∧ o ∈ scCs E i q g 16 := by
  intro m o h
  unfold scPosN at h
  rw [List.mem_flatMap] at h
  obtain ⟨g, hg, ho⟩ := h
  rw [List.mem_range] at hg
  by_cases c : scStand E q g = true
  · rw [if_pos c] at ho; exact ⟨g, hg, c, ho⟩
  · rw [if_neg c] at ho; exact absurd ho List.not_mem_nil
theorem scCs_mem {i q g c : Int} {o : Op_} (h : o ∈ scCs E i q g c) : ∃ p, p ∈ scCh E g c ∧ o ∈ scC1 E i q g p := by
  unfold scCs at h
  rw [List.mem_flatMap] at h
  exact h
theorem scCs_nx {i q g c : Int} {o : Op_} (h : o ∈ scCs E i q g c) : i < o.2.2.1 ∧ o.2.2.1 ≤ E 0 0 ∧ 0 ≤ o.2.1 := by
  obtain ⟨p, -, hp⟩ := scCs_mem h
  obtain ⟨-, -, -, a | a⟩ := sc1_mem hp
  · have := scOwn_n a.2.1; omega
  · have := scMl_n a.2.2.1; omega
theorem scOps_nx {s : Stt} {o : Op_} (h : o ∈ scOps E s) : s.1 < E 0 0 ∧ s.1 < o.2.2.1 ∧ o.2.2.1 ≤ E 0 0 ∧ 0 ≤ o.2.1 := by
  unfold scOps at h
  by_cases c : E 0 0 ≤ s.1
  · rw [if_pos c] at h; exact absurd h List.not_mem_nil
  · rw [if_neg c] at h
    refine ⟨by omega, ?_⟩
    by_cases c2 : s.2.1 = -1
    · rw [if_pos c2] at h
      obtain ⟨g, -, -, ho⟩ := scPos_mem h
      exact scCs_nx ho
    · rw [if_neg c2, List.mem_append, List.mem_append] at h
      rcases h with h | h | h
      · unfold scLo at h
        by_cases e : 0 ≤ scLs E s.1
        · rw [if_pos e, List.mem_singleton] at h
          subst h
          have := scLs_n e
          show s.1 < s.1 + 1 ∧ s.1 + 1 ≤ E 0 0 ∧ 0 ≤ scLs E s.1
          omega
        · rw [if_neg e] at h; exact absurd h List.not_mem_nil
      · unfold scIn at h
        by_cases e : (scLast E (s.1 - 1) || !scAsk E s.2.2.1 s.2.2.2) = true
        · rw [if_pos e] at h; exact scCs_nx h
        · rw [if_neg e] at h; exact absurd h List.not_mem_nil
      · unfold scLv at h
        by_cases e : (scEnd E s.2.2.1 s.2.2.2 && (scLast E (s.1 - 1) || !scCut E s.2.1)) = true
        · rw [if_pos e] at h
          by_cases e2 : s.2.1 + 1 < E 5 0
          · rw [if_pos e2] at h
            obtain ⟨g, -, -, ho⟩ := scPos_mem h
            exact scCs_nx ho
          · rw [if_neg e2] at h
            by_cases e3 : 0 ≤ scEx E s.1
            · rw [if_pos e3, List.mem_singleton] at h
              subst h
              show s.1 < E 0 0 ∧ E 0 0 ≤ E 0 0 ∧ 0 ≤ scEx E s.1
              omega
            · rw [if_neg e3] at h; exact absurd h List.not_mem_nil
        · rw [if_neg e] at h; exact absurd h List.not_mem_nil
theorem foldl_cg {α : Type} {f g : Int → α → Int} : ∀ (L : List α) (t : Int), (∀ t, ∀ o ∈ L, f t o = g t o) → L.foldl f t = L.foldl g t := by
  intro L
  induction L with
  | nil => intro t _; rfl
  | cons a L ih =>
    intro t H
    rw [List.foldl_cons, List.foldl_cons, H t a List.mem_cons_self]
    exact ih _ (fun t o m => H t o (List.mem_cons_of_mem _ m))
theorem scV_st {b : Bool} : ∀ (n m : Nat) (s : Stt), E 0 0 - s.1 < n → E 0 0 - s.1 < m → scV E b n s = scV E b m s := by
  intro n
  induction n with
  | zero =>
    intro m s h1 h2
    have e : scOps E s = [] := by unfold scOps; rw [if_pos (by omega)]
    cases m with
    | zero => rfl
    | succ m => unfold scV; rw [e]; rfl
  | succ n ih =>
    intro m s h1 h2
    cases m with
    | zero =>
      have e : scOps E s = [] := by unfold scOps; rw [if_pos (by omega)]
      unfold scV; rw [e]; rfl
    | succ m =>
      unfold scV
      by_cases c : scFin E s = true
      · rw [if_pos c, if_pos c]
      · rw [if_neg c, if_neg c]
        refine foldl_cg _ _ (fun t o ho => ?_)
        have z := scOps_nx ho
        rw [ih m o.2.2 (by omega) (by omega)]
theorem scW_eq (ok : EOk E) (b : Bool) {s : Stt} (h1 : s.1 ≤ 40) : scW E b s = if scFin E s then sc1 b else scF E b (scZ b) (scOps E s) := by
  unfold scW
  obtain ⟨n, hn⟩ : ∃ n, (42 - s.1).toNat = n + 1 := ⟨(41 - s.1).toNat, by omega⟩
  rw [hn]
  have k := ok.2.1
  unfold scV
  by_cases c : scFin E s = true
  · rw [if_pos c, if_pos c]
  · rw [if_neg c, if_neg c]
    unfold scF
    refine foldl_cg _ _ (fun t o ho => ?_)
    have z := scOps_nx ho
    unfold scW
    rw [scV_st n (42 - o.2.2.1).toNat o.2.2 (by omega) (by omega)]
/-! the values' bounds -/
theorem scJ_t {t p v : Int} (h : 0 ≤ t + v) : 0 ≤ scJ true t p v ∧ scJ true t p v ≤ 1000000000 := by
  show 0 ≤ min 1000000000 (t + v) ∧ min 1000000000 (t + v) ≤ 1000000000
  omega
theorem scF_t : ∀ (L : List Op_) (t : Int), 0 ≤ t → t ≤ 1000000000 → (∀ o ∈ L, 0 ≤ scW E true o.2.2) → 0 ≤ scF E true t L ∧ scF E true t L ≤ 1000000000 := by
  intro L
  induction L with
  | nil => intro t h1 h2 _; exact ⟨h1, h2⟩
  | cons o L ih =>
    intro t h1 h2 H
    unfold scF
    rw [List.foldl_cons]
    have a := H o List.mem_cons_self
    have z := scJ_t (t := t) (p := o.2.1) (v := scW E true o.2.2) (by omega)
    exact ih _ z.1 z.2 (fun o m => H o (List.mem_cons_of_mem _ m))
theorem scF_f : ∀ (L : List Op_) (t : Int), 0 ≤ t → t ≤ 268435456 → (∀ o ∈ L, 0 ≤ o.2.1 ∧ 0 ≤ scW E false o.2.2) → 0 ≤ scF E false t L ∧ scF E false t L ≤ t := by
  intro L
  induction L with
  | nil => intro t h1 h2 _; exact ⟨h1, Int.le_refl _⟩
  | cons o L ih =>
    intro t h1 h2 H
    unfold scF
    rw [List.foldl_cons]
    have a := H o List.mem_cons_self
    have z : scJ false t o.2.1 (scW E false o.2.2) = min t (o.2.1 + scW E false o.2.2) := rfl
    have y := ih (scJ false t o.2.1 (scW E false o.2.2)) (by omega) (by omega) (fun o m => H o (List.mem_cons_of_mem _ m))
    unfold scF at y
    omega
theorem scW_bd (ok : EOk E) : ∀ (n : Nat) (s : Stt), 41 - s.1 ≤ n → s.1 ≤ 40 → (0 ≤ scW E true s ∧ scW E true s ≤ 1000000000) ∧ (0 ≤ scW E false s ∧ scW E false s ≤ 268435456) := by
  intro n
  induction n with
  | zero => intro s h1 h2; omega
  | succ n ih =>
    intro s h1 h2
    have k := ok.2.1
    rw [scW_eq ok true h2, scW_eq ok false h2]
    by_cases c : scFin E s = true
    · rw [if_pos c, if_pos c]; decide
    · rw [if_neg c, if_neg c]
      have H : ∀ o ∈ scOps E s, (0 ≤ scW E true o.2.2 ∧ scW E true o.2.2 ≤ 1000000000) ∧ (0 ≤ scW E false o.2.2 ∧ scW E false o.2.2 ≤ 268435456) := fun o m => by
        have z := scOps_nx m
        exact ih o.2.2 (by omega) (by omega)
      refine ⟨scF_t _ _ (by decide) (by decide) (fun o m => (H o m).1.1), ?_⟩
      have y := scF_f (scOps E s) (scZ false) (by decide) (by decide) (fun o m => ⟨(scOps_nx m).2.2.2, (H o m).2.1⟩)
      exact ⟨y.1, y.2⟩
theorem scW_t (ok : EOk E) {s : Stt} (h : s.1 ≤ 40) : 0 ≤ scW E true s ∧ scW E true s ≤ 1000000000 := (scW_bd ok (41 - s.1).toNat s (by omega) h).1
theorem scW_f (ok : EOk E) {s : Stt} (h : s.1 ≤ 40) : 0 ≤ scW E false s ∧ scW E false s ≤ 268435456 := (scW_bd ok (41 - s.1).toNat s (by omega) h).2
/-- folding in two pieces -/
theorem scF_app (b : Bool) (t : Int) (L M : List Op_) : scF E b t (L ++ M) = scF E b (scF E b t L) M := by
  unfold scF; rw [List.foldl_append]
theorem scJ_z (b : Bool) {t : Int} (h0 : 0 ≤ t) (h1 : t ≤ if b then 1000000000 else 268435456) : scJ b t 0 (scZ b) = t := by
  cases b
  · show min t (0 + 268435456) = t
    rw [if_neg (by decide)] at h1; omega
  · show min 1000000000 (t + 0) = t
    rw [if_pos rfl] at h1; omega
theorem scJ_as (b : Bool) {t s p v : Int} (h0 : 0 ≤ t) (h1 : 0 ≤ s) (hv : 0 ≤ v) : scJ b t 0 (scJ b s p v) = scJ b (scJ b t 0 s) p v := by
  cases b
  · show min t (0 + min s (p + v)) = min (min t (0 + s)) (p + v)
    omega
  · show min 1000000000 (t + min 1000000000 (s + v)) = min 1000000000 (min 1000000000 (t + s) + v)
    omega
theorem scJ_nn (b : Bool) {t p v : Int} (h0 : 0 ≤ t) (hp : 0 ≤ p) (hv : 0 ≤ v) : 0 ≤ scJ b t p v := by
  cases b
  · show 0 ≤ min t (p + v); omega
  · show 0 ≤ min 1000000000 (t + v); omega
theorem scF_gate (b : Bool) : ∀ (L : List Op_) (t s : Int), 0 ≤ t → 0 ≤ s → (∀ o ∈ L, 0 ≤ o.2.1 ∧ 0 ≤ scW E b o.2.2) → scJ b t 0 (scF E b s L) = scF E b (scJ b t 0 s) L := by
  intro L
  induction L with
  | nil => intro t s _ _ _; rfl
  | cons o L ih =>
    intro t s h0 h1 H
    have a := H o List.mem_cons_self
    unfold scF
    rw [List.foldl_cons, List.foldl_cons, ← scJ_as b h0 h1 a.2]
    exact ih t _ h0 (scJ_nn b h1 a.1 a.2) (fun o m => H o (List.mem_cons_of_mem _ m))
/-- the order of options is nothing to the count -/
theorem scF_perm (b : Bool) {L M : List Op_} (p : L.Perm M) (t : Int) (H : ∀ o ∈ L, 0 ≤ o.2.1 ∧ 0 ≤ scW E b o.2.2) : scF E b t L = scF E b t M := by
  unfold scF
  refine p.foldl_eq' (fun x hx y hy z => ?_) t
  have a := H x hx
  have c := H y hy
  cases b
  · show min (min z (x.2.1 + scW E false x.2.2)) (y.2.1 + scW E false y.2.2) = min (min z (y.2.1 + scW E false y.2.2)) (x.2.1 + scW E false x.2.2)
    omega
  · show min 1000000000 (min 1000000000 (z + scW E true x.2.2) + scW E true y.2.2) = min 1000000000 (min 1000000000 (z + scW E true y.2.2) + scW E true x.2.2)
    omega
end SC2
