/-! readings, as lists of options -/
abbrev Rd : Type := List (Int × Op_)
def rdF (E : SEn) : Nat → Stt → List Rd
  | 0, s => if scFin E s then [[]] else []
  | n + 1, s => if scFin E s then [[]] else (scOps E s).flatMap (fun o => (rdF E n o.2.2).map (fun r => (s.1, o) :: r))
/-- the readings from a state on -/
def rd (E : SEn) (s : Stt) : List Rd := rdF E (42 - s.1).toNat s
def prR (r : Rd) : Int := (r.map (fun a => a.2.2.1)).sum
def pkR (r : Rd) : List Int := r.map (fun a => pk a.1 a.2.1)
def plt : List Int → List Int → Prop
  | a :: x, b :: y => a < b ∨ (a = b ∧ plt x y)
  | _, _ => False
def rlt (x y : Rd) : Prop := prR x < prR y ∨ (prR x = prR y ∧ plt (pkR x) (pkR y))
theorem plt_as : ∀ {x y : List Int}, plt x y → plt y x → False := by
  intro x
  induction x with
  | nil => intro y h _; exact h
  | cons a x ih =>
    intro y h h'
    cases y with
    | nil => exact h
    | cons b y =>
      rcases h with h | h
      · rcases h' with h' | h'
        · omega
        · omega
      · rcases h' with h' | h'
        · omega
        · exact ih h.2 h'.2
theorem rlt_as {x y : Rd} (h : rlt x y) (h' : rlt y x) : False := by
  unfold rlt at h h'
  rcases h with h | h
  · rcases h' with h' | h' <;> omega
  · rcases h' with h' | h'
    · omega
    · exact plt_as h.2 h'.2
theorem plt_app {p x y : List Int} (h : plt x y) : plt (p ++ x) (p ++ y) := by
  induction p with
  | nil => exact h
  | cons a p ih => exact Or.inr ⟨rfl, ih⟩
section RD
variable {E : SEn}
theorem flatMap_cg {α β : Type} {f g : α → List β} : ∀ (L : List α), (∀ o ∈ L, f o = g o) → L.flatMap f = L.flatMap g := by
  intro L
  induction L with
  | nil => intro _; rfl
  | cons a L ih =>
    intro H
    rw [List.flatMap_cons, List.flatMap_cons, H a List.mem_cons_self, ih (fun o m => H o (List.mem_cons_of_mem _ m))]
theorem rdF_st : ∀ (n m : Nat) (s : Stt), E 0 0 - s.1 < n → E 0 0 - s.1 < m → rdF E n s = rdF E m s := by
  intro n
  induction n with
  | zero =>
    intro m s h1 h2
    have e : scOps E s = [] := by unfold scOps; rw [if_pos (by omega)]
    cases m with
    | zero => rfl
    | succ m => unfold rdF; rw [e]; rfl
  | succ n ih =>
    intro m s h1 h2
    cases m with
    | zero =>
      have e : scOps E s = [] := by unfold scOps; rw [if_pos (by omega)]
      unfold rdF; rw [e]; rfl
    | succ m =>
      unfold rdF
      by_cases c : scFin E s = true
      · rw [if_pos c, if_pos c]
      · rw [if_neg c, if_neg c]
        refine flatMap_cg _ (fun o ho => ?_)
        have z := scOps_nx ho
        rw [ih m o.2.2 (by omega) (by omega)]
theorem rd_eq (ok : EOk E) {s : Stt} (h1 : s.1 ≤ 40) : rd E s = if scFin E s then [[]] else (scOps E s).flatMap (fun o => (rd E o.2.2).map (fun r => (s.1, o) :: r)) := by
  obtain ⟨n, hn⟩ : ∃ n, (42 - s.1).toNat = n + 1 := ⟨(41 - s.1).toNat, by omega⟩
  have k := ok.2.1
  have e : rdF E (n + 1) s = if scFin E s then [[]] else (scOps E s).flatMap (fun o => (rdF E n o.2.2).map (fun r => (s.1, o) :: r)) := rfl
  show rdF E (42 - s.1).toNat s = _
  rw [hn, e]
  by_cases c : scFin E s = true
  · rw [if_pos c, if_pos c]
  · rw [if_neg c, if_neg c]
    refine flatMap_cg _ (fun o ho => ?_)
    have z := scOps_nx ho
    show _ = (rdF E (42 - o.2.2.1).toNat o.2.2).map _
    rw [rdF_st n (42 - o.2.2.1).toNat o.2.2 (by omega) (by omega)]
/-- the count is how many there are -/
theorem rd_len (ok : EOk E) : ∀ (n : Nat) (s : Stt), 41 - s.1 ≤ n → s.1 ≤ 40 → scW E true s = min 1000000000 (((rd E s).length : Nat) : Int) := by
  intro n
  induction n with
  | zero => intro s h1 h2; omega
  | succ n ih =>
    intro s h1 h2
    have k := ok.2.1
    rw [scW_eq ok true h2, rd_eq ok h2]
    by_cases c : scFin E s = true
    · rw [if_pos c, if_pos c]; decide
    · rw [if_neg c, if_neg c]
      have H : ∀ o ∈ scOps E s, scW E true o.2.2 = min 1000000000 (((rd E o.2.2).length : Nat) : Int) := fun o m => by
        have z := scOps_nx m
        exact ih o.2.2 (by omega) (by omega)
      have G : ∀ (L : List Op_) (t : Nat), (∀ o ∈ L, scW E true o.2.2 = min 1000000000 (((rd E o.2.2).length : Nat) : Int)) → scF E true (min 1000000000 (t : Int)) L = min 1000000000 (((t + (L.flatMap (fun o => (rd E o.2.2).map (fun r => (s.1, o) :: r))).length : Nat)) : Int) := by
        intro L
        induction L with
        | nil => intro t _; rfl
        | cons o L ihL =>
          intro t hL
          have e := hL o List.mem_cons_self
          rw [List.flatMap_cons, List.length_append, List.length_map]
          have z := ihL (t + (rd E o.2.2).length) (fun o m => hL o (List.mem_cons_of_mem _ m))
          unfold scF at z ⊢
          rw [List.foldl_cons]
          have j : scJ true (min 1000000000 (t : Int)) o.2.1 (scW E true o.2.2) = min 1000000000 ((t + (rd E o.2.2).length : Nat) : Int) := by
            rw [e]
            show min 1000000000 (min 1000000000 (t : Int) + min 1000000000 (((rd E o.2.2).length : Nat) : Int)) = _
            push_cast; omega
          rw [j, z, Nat.add_assoc]
      have := G (scOps E s) 0 H
      rw [Nat.zero_add] at this
      exact this
theorem rd_W (ok : EOk E) {s : Stt} (h : s.1 ≤ 40) : scW E true s = min 1000000000 (((rd E s).length : Nat) : Int) := rd_len ok (41 - s.1).toNat s (by omega) h
/-- a reading: steps of rising syllables -/
theorem rd_ok (ok : EOk E) : ∀ (n : Nat) (s : Stt), 41 - s.1 ≤ n → scOk E s → ∀ r ∈ rd E s, (r.length : Int) ≤ E 0 0 - s.1 ∧ ∀ a ∈ r, KOk a.2.1 ∧ s.1 ≤ a.1 ∧ a.1 < E 0 0 ∧ 0 ≤ a.2.2.1 ∧ a.2.2.1 ≤ 50 := by
  intro n
  induction n with
  | zero => intro s h1 k; have := scOk_i ok k; have := ok.2.1; omega
  | succ n ih =>
    intro s h1 k r hr
    have si := scOk_i ok k
    have n40 := ok.2.1
    rw [rd_eq ok (by omega)] at hr
    by_cases c : scFin E s = true
    · rw [if_pos c, List.mem_singleton] at hr
      subst hr
      exact ⟨by show ((0 : Nat) : Int) ≤ _; omega, fun a m => absurd m List.not_mem_nil⟩
    · rw [if_neg c, List.mem_flatMap] at hr
      obtain ⟨o, ho, hr⟩ := hr
      rw [List.mem_map] at hr
      obtain ⟨r', hr', e⟩ := hr
      have z := scOps_nx ho
      have y := scOps_ok ok k ho
      have q := ih o.2.2 (by omega) y.1 r' hr'
      subst e
      refine ⟨by rw [List.length_cons]; push_cast; omega, fun a m => ?_⟩
      rw [List.mem_cons] at m
      rcases m with m | m
      · rw [m]; exact ⟨key_ok ok k ho, Int.le_refl _, z.1, z.2.2.2, y.2⟩
      · have w := q.2 a m; exact ⟨w.1, by omega, w.2.2⟩
theorem kk_lt {i : Int} {a b : Key} (A : KOk a) (B : KOk b) (h : kle a b) (n : a ≠ b) : pk i a < pk i b := by
  have n' : ¬ (a.1 = b.1 ∧ a.2.1 = b.2.1 ∧ a.2.2.1 = b.2.2.1 ∧ a.2.2.2.1 = b.2.2.2.1 ∧ a.2.2.2.2 = b.2.2.2.2) := by
    intro z
    obtain ⟨a1, a2, a3, a4, a5⟩ := a
    obtain ⟨b1, b2, b3, b4, b5⟩ := b
    simp only at z
    exact n (by rw [z.1, z.2.1, z.2.2.1, z.2.2.2.1, z.2.2.2.2])
  unfold KOk at A B
  unfold kle at h
  unfold pk
  by_cases c : 4 ≤ a.1
  · rw [if_pos c]
    by_cases c2 : 4 ≤ b.1
    · rw [if_pos c2]; omega
    · rw [if_neg c2]; omega
  · rw [if_neg c]
    by_cases c2 : 4 ≤ b.1
    · rw [if_pos c2]; omega
    · rw [if_neg c2]; omega
theorem kk_inj {i : Int} {a b : Key} (A : KOk a) (B : KOk b) (h : pk i a = pk i b) : a = b := by
  by_cases c : a = b
  · exact c
  · exfalso
    by_cases l : kle a b
    · have := kk_lt (i := i) A B l c; omega
    · have := kk_lt (i := i) B A (kle_tot l) (fun z => c z.symm); omega
/-! keys of options differ -/
def nd (L : List Op_) : Prop := L.Pairwise (fun a b => a.1 ≠ b.1)
theorem nd_C1 {i q g : Int} {w : Int × Int} (w0 : 1 ≤ w.1) (w1 : w.1 ≤ 3) : nd (scC1 E i q g w) := by
  have wb := (scWay_bd (E := E) (i := i) w0 w1).resolve_right (fun z => z.2)
  unfold nd scC1
  by_cases c1 : 0 ≤ scOwn E w.1 i
  · rw [if_pos c1]
    by_cases c2 : (w.1 = 1 ∨ w.1 = 3) ∧ 0 ≤ scMl E i
    · rw [if_pos c2]
      refine List.Pairwise.cons (fun b m => ?_) (List.Pairwise.cons (fun b m => absurd m List.not_mem_nil) List.Pairwise.nil)
      have m : b ∈ [((3, q, g, w.2 / 4, 1), scMl E i, (i + 2, q, g, w.2))] := m
      rw [List.mem_singleton] at m
      rw [m]
      intro e
      have : scWay E w.1 i = 3 := congrArg Prod.fst e
      omega
    · rw [if_neg c2]
      exact List.Pairwise.cons (fun b m => absurd m List.not_mem_nil) List.Pairwise.nil
  · rw [if_neg c1]
    by_cases c2 : (w.1 = 1 ∨ w.1 = 3) ∧ 0 ≤ scMl E i
    · rw [if_pos c2]
      exact List.Pairwise.cons (fun b m => absurd m List.not_mem_nil) List.Pairwise.nil
    · rw [if_neg c2]
      exact List.Pairwise.nil
theorem C1_key {i q g : Int} {w : Int × Int} {o : Op_} (w0 : 1 ≤ w.1) (w1 : w.1 ≤ 3) (m : o ∈ scC1 E i q g w) : o.1.1 ≤ 3 ∧ o.1.2.1 = q ∧ o.1.2.2.1 = g ∧ (w.1 ≠ 3 → o.1.2.2.2.2 = w.1) := by
  have wb := (scWay_bd (E := E) (i := i) w0 w1).resolve_right (fun z => z.2)
  obtain ⟨-, -, -, a⟩ := sc1_mem m
  rcases a with a | a
  · rw [a.2.2.2]
    refine ⟨by show scWay E w.1 i ≤ 3; omega, rfl, rfl, fun n3 => ?_⟩
    show scAs E w.1 i = w.1
    unfold scAs; rw [if_neg n3]
  · rw [a.2.2.2.2]
    refine ⟨by show (3 : Int) ≤ 3; decide, rfl, rfl, fun n3 => ?_⟩
    show (1 : Int) = w.1
    omega
theorem nd_Cs {i q g c : Int} (F : FOk (E 8 g) (E 9 g) (E 10 g) (E 11 g) (fun k => E 12 (4 * g + k))) (hc : c = 16 ∨ cOk E g c) : nd (scCs E i q g c) := by
  have P : (scCh E g c).Pairwise (fun a b => a.1 ≠ 3 ∧ b.1 ≠ 3 ∧ a.1 ≠ b.1) := by
    have len := ch_len (E := E) (g := g) (c := c)
    have df : ∀ a b, scCh E g c = [a, b] → a.1 ≠ 3 ∧ b.1 ≠ 3 ∧ a.1 ≠ b.1 := by
      intro a b h
      have ha : a ∈ scCh E g c := by rw [h]; exact List.mem_cons_self
      have hb : b ∈ scCh E g c := by rw [h]; exact List.mem_cons_of_mem _ List.mem_cons_self
      rcases ch_fst F ha hb with z | z
      · exfalso
        -- two equal choices do not occur
        subst z
        have op : ∀ k, fopen (E 8 g) (E 9 g) (fun k => E 12 (4 * g + k)) k ≠ [a, a] := by
          intro k e
          unfold fopen at e
          by_cases c4 : fd (E 8 g) (E 9 g) (fun k => E 12 (4 * g + k)) k = 4
          · rw [if_pos c4] at e
            injection e with e1 e2
            injection e2 with e3 _
            rw [← e1] at e3
            exact absurd (congrArg Prod.fst e3) (by show ¬ (2 : Int) = 1; decide)
          · rw [if_neg c4] at e
            injection e with _ e2
            exact absurd e2 (List.cons_ne_nil _ _).symm
        unfold scCh fch at h
        by_cases e : E 8 g = 4
        · rw [if_pos e] at h
          by_cases c16 : c = 16
          · rw [if_pos c16] at h
            injection h with _ e2
            exact absurd e2 (List.cons_ne_nil _ _).symm
          · rw [if_neg c16] at h
            by_cases z : c / 4 < E 9 g ∧ c % 4 ≤ E 11 g
            · rw [if_pos z] at h
              by_cases u : c % 4 < E 11 g
              · rw [if_pos u] at h
                by_cases v : E 10 g ≤ c % 4 ∧ c / 4 + 1 < E 9 g
                · rw [if_pos v] at h
                  injection h with e1 e2
                  injection e2 with e3 _
                  rw [← e1] at e3
                  exact absurd (congrArg Prod.fst e3) (by show ¬ (1 : Int) = 2; decide)
                · rw [if_neg v] at h
                  injection h with _ e2
                  exact absurd e2 (List.cons_ne_nil _ _).symm
              · rw [if_neg u] at h
                by_cases v : E 10 g ≤ c % 4 ∧ c / 4 + 1 < E 9 g
                · rw [if_pos v] at h
                  injection h with _ e2
                  exact absurd e2 (List.cons_ne_nil _ _).symm
                · rw [if_neg v] at h
                  exact absurd h (List.cons_ne_nil _ _).symm
            · rw [if_neg z] at h
              exact absurd h (List.cons_ne_nil _ _).symm
        · rw [if_neg e] at h
          by_cases c16 : c = 16
          · rw [if_pos c16] at h; exact op 0 h
          · rw [if_neg c16] at h
            by_cases z : c % 4 = 1 ∧ c / 4 + 1 < E 9 g
            · rw [if_pos z] at h; exact op _ h
            · rw [if_neg z] at h
              by_cases z2 : c % 4 = 0 ∧ c / 4 < E 9 g ∧ fd (E 8 g) (E 9 g) (fun k => E 12 (4 * g + k)) (c / 4) = 4
              · rw [if_pos z2] at h
                injection h with _ e2
                exact absurd e2 (List.cons_ne_nil _ _).symm
              · rw [if_neg z2] at h
                exact absurd h (List.cons_ne_nil _ _).symm
      · exact z
    revert len df
    cases scCh E g c with
    | nil => intro _ _; exact List.Pairwise.nil
    | cons a L =>
      cases L with
      | nil => intro _ _; exact List.Pairwise.cons (fun b m => absurd m List.not_mem_nil) List.Pairwise.nil
      | cons b L =>
        cases L with
        | nil =>
          intro _ df
          refine List.Pairwise.cons (fun x m => ?_) (List.Pairwise.cons (fun x m => absurd m List.not_mem_nil) List.Pairwise.nil)
          rw [List.mem_singleton] at m
          rw [m]; exact df a b rfl
        | cons d L => intro len _; exact absurd len (by show ¬ L.length + 1 + 1 + 1 ≤ 2; omega)
  have K : ∀ w ∈ scCh E g c, 1 ≤ w.1 ∧ w.1 ≤ 3 := fun w m => (ch_ok F hc m).2
  unfold nd scCs
  revert P K
  generalize scCh E g c = L
  induction L with
  | nil => intro _ _; exact List.Pairwise.nil
  | cons a L ih =>
    intro P K
    rw [List.flatMap_cons, List.pairwise_append]
    rw [List.pairwise_cons] at P
    have ka := K a List.mem_cons_self
    refine ⟨nd_C1 ka.1 ka.2, ih P.2 (fun w m => K w (List.mem_cons_of_mem _ m)), fun x hx y hy => ?_⟩
    rw [List.mem_flatMap] at hy
    obtain ⟨w, hw, hy⟩ := hy
    have kw := K w (List.mem_cons_of_mem _ hw)
    have pw := P.1 w hw
    have e1 := (C1_key ka.1 ka.2 hx).2.2.2 pw.1
    have e2 := (C1_key kw.1 kw.2 hy).2.2.2 pw.2.1
    intro e
    rw [e] at e1
    exact pw.2.2 (e1.symm.trans e2)
theorem Cs_key {i q g c : Int} {o : Op_} (F : FOk (E 8 g) (E 9 g) (E 10 g) (E 11 g) (fun k => E 12 (4 * g + k))) (hc : c = 16 ∨ cOk E g c) (m : o ∈ scCs E i q g c) : o.1.1 ≤ 3 ∧ o.1.2.1 = q ∧ o.1.2.2.1 = g := by
  obtain ⟨w, hw, ho⟩ := scCs_mem m
  have k := (ch_ok F hc hw).2
  have := C1_key k.1 k.2 ho
  exact ⟨this.1, this.2.1, this.2.2.1⟩
theorem nd_Pos (ok : EOk E) {i q : Int} : ∀ m : Nat, m ≤ 12 → nd (scPosN E i q m) := by
  intro m
  induction m with
  | zero => intro _; exact List.Pairwise.nil
  | succ m ih =>
    intro hm
    unfold nd at *
    rw [scPosN_succ, List.pairwise_append]
    by_cases c : scStand E q (m : Int) = true
    · rw [if_pos c]
      have F := sc_stand ok (by omega) (by omega) c
      refine ⟨ih (by omega), nd_Cs F (Or.inl rfl), fun x hx y hy e => ?_⟩
      obtain ⟨g, hg, st, hx'⟩ := scPos_mem hx
      have F' := sc_stand ok (by omega) (by omega) st
      have a := (Cs_key F' (Or.inl rfl) hx').2.2
      have b := (Cs_key F (Or.inl rfl) hy).2.2
      rw [e] at a
      omega
    · rw [if_neg c]
      exact ⟨ih (by omega), List.Pairwise.nil, fun x _ y hy => absurd hy List.not_mem_nil⟩
theorem nd_ops (ok : EOk E) {s : Stt} (k : scOk E s) : nd (scOps E s) := by
  unfold nd scOps
  by_cases c : E 0 0 ≤ s.1
  · rw [if_pos c]; exact List.Pairwise.nil
  rw [if_neg c]
  by_cases c1 : s.2.1 = -1
  · rw [if_pos c1]; exact nd_Pos ok 12 (Nat.le_refl _)
  rw [if_neg c1]
  rcases k with k | k | k
  · omega
  · exact absurd k.1 c1
  obtain ⟨q0, q1, i0, i1, g0, g1, st, co⟩ := k
  have F := sc_stand ok g0 g1 st
  have kin : ∀ o ∈ scIn E s.1 s.2.1 s.2.2.1 s.2.2.2, o.1.1 ≤ 3 ∧ o.1.2.1 = s.2.1 := fun o m => by
    unfold scIn at m
    by_cases e : (scLast E (s.1 - 1) || !scAsk E s.2.2.1 s.2.2.2) = true
    · rw [if_pos e] at m
      have := Cs_key F (Or.inr co) m
      exact ⟨this.1, this.2.1⟩
    · rw [if_neg e] at m; exact absurd m List.not_mem_nil
  have klv : ∀ o ∈ scLv E s.1 s.2.1 s.2.2.1 s.2.2.2, (o.1.1 ≤ 3 ∧ o.1.2.1 = s.2.1 + 1) ∨ o.1.1 = 5 := fun o m => by
    unfold scLv at m
    by_cases e : (scEnd E s.2.2.1 s.2.2.2 && (scLast E (s.1 - 1) || !scCut E s.2.1)) = true
    · rw [if_pos e] at m
      by_cases e2 : s.2.1 + 1 < E 5 0
      · rw [if_pos e2] at m
        obtain ⟨g, hg, st', hx'⟩ := scPos_mem m
        have F' := sc_stand ok (by omega) (by omega) st'
        have := Cs_key F' (Or.inl rfl) hx'
        exact Or.inl ⟨this.1, this.2.1⟩
      · rw [if_neg e2] at m
        by_cases e3 : 0 ≤ scEx E s.1
        · rw [if_pos e3, List.mem_singleton] at m
          rw [m]; exact Or.inr rfl
        · rw [if_neg e3] at m; exact absurd m List.not_mem_nil
    · rw [if_neg e] at m; exact absurd m List.not_mem_nil
  have klo : ∀ o ∈ scLo E s.1 s.2.1 s.2.2.1 s.2.2.2, o.1.1 = 4 := fun o m => by
    unfold scLo at m
    by_cases e : 0 ≤ scLs E s.1
    · rw [if_pos e, List.mem_singleton] at m
      rw [m]
    · rw [if_neg e] at m; exact absurd m List.not_mem_nil
  rw [List.pairwise_append, List.pairwise_append]
  refine ⟨?_, ⟨?_, ?_, fun x hx y hy e => ?_⟩, fun x hx y hy e => ?_⟩
  · unfold scLo
    by_cases e : 0 ≤ scLs E s.1
    · rw [if_pos e]; exact List.Pairwise.cons (fun b m => absurd m List.not_mem_nil) List.Pairwise.nil
    · rw [if_neg e]; exact List.Pairwise.nil
  · unfold scIn
    by_cases e : (scLast E (s.1 - 1) || !scAsk E s.2.2.1 s.2.2.2) = true
    · rw [if_pos e]; exact nd_Cs F (Or.inr co)
    · rw [if_neg e]; exact List.Pairwise.nil
  · unfold scLv
    by_cases e : (scEnd E s.2.2.1 s.2.2.2 && (scLast E (s.1 - 1) || !scCut E s.2.1)) = true
    · rw [if_pos e]
      by_cases e2 : s.2.1 + 1 < E 5 0
      · rw [if_pos e2]; exact nd_Pos ok 12 (Nat.le_refl _)
      · rw [if_neg e2]
        by_cases e3 : 0 ≤ scEx E s.1
        · rw [if_pos e3]; exact List.Pairwise.cons (fun b m => absurd m List.not_mem_nil) List.Pairwise.nil
        · rw [if_neg e3]; exact List.Pairwise.nil
    · rw [if_neg e]; exact List.Pairwise.nil
  · have a := kin x hx
    have b := klv y hy
    rw [e] at a
    omega
  · have a := klo x hx
    rw [List.mem_append] at hy
    rw [e] at a
    rcases hy with hy | hy
    · have := kin y hy; omega
    · have := klv y hy; omega
end RD
