/-! scanning: states that may be; prices; the numbers of states -/
section RY
variable {l f : Int} {E : SEn} {d : Nat}
theorem l11 : (1 : Int) ≤ 1 := by decide
theorem l13 : (1 : Int) ≤ 3 := by decide
theorem l12 : (1 : Int) ≤ 2 := by decide
theorem l23 : (2 : Int) ≤ 3 := by decide
theorem ch_ok {g c : Int} {p : Int × Int} (F : FOk (E 8 g) (E 9 g) (E 10 g) (E 11 g) (fun k => E 12 (4 * g + k))) (hc : c = 16 ∨ cOk E g c) (m : p ∈ scCh E g c) : cOk E g p.2 ∧ 1 ≤ p.1 ∧ p.1 ≤ 3 := by
  have m4 := F.2.2.2.1
  have m1 := F.2.2.1
  have op : E 8 g ≠ 4 → ∀ k, 0 ≤ k → k < E 9 g → p ∈ fopen (E 8 g) (E 9 g) (fun k => E 12 (4 * g + k)) k → cOk E g p.2 ∧ 1 ≤ p.1 ∧ p.1 ≤ 3 := by
    intro e k k0 k1 hm
    unfold fopen at hm
    have dg := F.2.2.2.2.2.1 e k k0 k1
    simp only at dg
    by_cases c4 : fd (E 8 g) (E 9 g) (fun k => E 12 (4 * g + k)) k = 4
    · rw [if_pos c4, List.mem_cons, List.mem_singleton] at hm
      rcases hm with hm | hm
      · subst hm
        refine ⟨⟨by show 0 ≤ 4 * k + 1; omega, by show (4 * k + 1) / 4 < E 9 g; omega, Or.inr ⟨e, Or.inl (by show (4 * k + 1) % 4 = 1; omega)⟩⟩, l11, l13⟩
      · subst hm
        refine ⟨⟨by show 0 ≤ 4 * k; omega, by show (4 * k) / 4 < E 9 g; omega, Or.inr ⟨e, Or.inr ⟨by show (4 * k) % 4 = 0; omega, ?_⟩⟩⟩, l12, l23⟩
        show fd (E 8 g) (E 9 g) (fun k => E 12 (4 * g + k)) (4 * k / 4) = 4
        rw [show 4 * k / 4 = k by omega]; exact c4
    · rw [if_neg c4, List.mem_singleton] at hm
      subst hm
      have fdv : fd (E 8 g) (E 9 g) (fun j => E 12 (4 * g + j)) k = if E 8 g = 2 ∧ k = E 9 g - 1 then 3 else E 12 (4 * g + k) := rfl
      have b : 1 ≤ fd (E 8 g) (E 9 g) (fun j => E 12 (4 * g + j)) k ∧ fd (E 8 g) (E 9 g) (fun j => E 12 (4 * g + j)) k ≤ 3 := by
        by_cases z : E 8 g = 2 ∧ k = E 9 g - 1
        · rw [fdv, if_pos z]; decide
        · rw [if_neg z] at fdv; omega
      exact ⟨⟨by show 0 ≤ 4 * k + 1; omega, by show (4 * k + 1) / 4 < E 9 g; omega, Or.inr ⟨e, Or.inl (by show (4 * k + 1) % 4 = 1; omega)⟩⟩, b.1, b.2⟩
  unfold scCh fch at m
  by_cases e : E 8 g = 4
  · have F4 := F.2.2.2.2.1 e
    rw [if_pos e] at m
    by_cases c16 : c = 16
    · rw [if_pos c16, List.mem_singleton] at m
      subst m
      exact ⟨⟨by decide, by show (0 : Int) / 4 < E 9 g; omega, Or.inl ⟨e, by show (0 : Int) % 4 ≤ E 11 g; omega⟩⟩, l11, l13⟩
    · have k := hc.resolve_left c16
      unfold cOk at k
      rw [if_neg c16, if_pos (show c / 4 < E 9 g ∧ c % 4 ≤ E 11 g by omega), List.mem_append] at m
      rcases m with m | m
      · by_cases z : c % 4 < E 11 g
        · rw [if_pos z, List.mem_singleton] at m
          subst m
          exact ⟨⟨by show 0 ≤ c + 1; omega, by show (c + 1) / 4 < E 9 g; omega, Or.inl ⟨e, by show (c + 1) % 4 ≤ E 11 g; omega⟩⟩, l12, l23⟩
        · rw [if_neg z] at m; exact absurd m List.not_mem_nil
      · by_cases z : E 10 g ≤ c % 4 ∧ c / 4 + 1 < E 9 g
        · rw [if_pos z, List.mem_singleton] at m
          subst m
          exact ⟨⟨by show 0 ≤ 4 * (c / 4 + 1); omega, by show (4 * (c / 4 + 1)) / 4 < E 9 g; omega, Or.inl ⟨e, by show (4 * (c / 4 + 1)) % 4 ≤ E 11 g; omega⟩⟩, l11, l13⟩
        · rw [if_neg z] at m; exact absurd m List.not_mem_nil
  · rw [if_neg e] at m
    by_cases c16 : c = 16
    · rw [if_pos c16] at m
      exact op e 0 (by decide) (by omega) m
    · have k := hc.resolve_left c16
      unfold cOk at k
      rw [if_neg c16] at m
      by_cases z : c % 4 = 1 ∧ c / 4 + 1 < E 9 g
      · rw [if_pos z] at m
        exact op e (c / 4 + 1) (by omega) z.2 m
      · rw [if_neg z] at m
        by_cases z2 : c % 4 = 0 ∧ c / 4 < E 9 g ∧ fd (E 8 g) (E 9 g) (fun k => E 12 (4 * g + k)) (c / 4) = 4
        · rw [if_pos z2, List.mem_singleton] at m
          subst m
          exact ⟨⟨by show 0 ≤ c + 1; omega, by show (c + 1) / 4 < E 9 g; omega, Or.inr ⟨e, Or.inl (by show (c + 1) % 4 = 1; omega)⟩⟩, l12, l23⟩
        · rw [if_neg z2] at m; exact absurd m List.not_mem_nil
theorem scCs_ok (ok : EOk E) {i q g c : Int} {o : Op_} (i0 : 0 ≤ i) (q0 : 0 ≤ q) (q1 : q < E 5 0) (g0 : 0 ≤ g) (g1 : g < 12) (st : scStand E q g = true) (hc : c = 16 ∨ cOk E g c) (m : o ∈ scCs E i q g c) : scOk E o.2.2 ∧ o.2.1 ≤ 50 := by
  have F := sc_stand ok g0 g1 st
  have z := scCs_nx m
  obtain ⟨p, hp, ho⟩ := scCs_mem m
  have k := ch_ok F hc hp
  obtain ⟨e1, e2, e3, e4⟩ := sc1_mem ho
  have pr := ok.2.2.2.2.2.2.2.2.2
  refine ⟨Or.inr (Or.inr ⟨by omega, by omega, by omega, by omega, by omega, by omega, by rw [e1, e2]; exact st, by rw [e2, e3]; exact k.1⟩), ?_⟩
  rcases e4 with e4 | e4
  · have h0 := e4.2.1
    rw [e4.2.2.1]
    have p2 := pr 2 (by decide) (by decide)
    have p3 := pr 3 (by decide) (by decide)
    unfold scOwn
    by_cases a1 : i < 0 ∨ E 0 0 ≤ i
    · rw [if_pos a1]; decide
    rw [if_neg a1]
    by_cases a2 : p.1 = 3
    · rw [if_pos a2]; decide
    rw [if_neg a2]
    by_cases a3 : p.1 = 1
    · rw [if_pos a3]
      by_cases a4 : E 1 i = 2
      · rw [if_pos a4]; exact p2.2
      · rw [if_neg a4]; decide
    rw [if_neg a3]
    by_cases a5 : p.1 = 2
    · rw [if_pos a5]
      by_cases a6 : E 1 i = 1
      · rw [if_pos a6]
        by_cases a7 : i = 0
        · rw [if_pos a7]; exact p3.2
        · rw [if_neg a7]; decide
      · rw [if_neg a6]; decide
    · rw [if_neg a5]; decide
  · rw [e4.2.2.2.1]
    have p1 := pr 1 (by decide) (by decide)
    unfold scMl
    by_cases a1 : scMelt E i = true
    · rw [if_pos a1]; exact p1.2
    · rw [if_neg a1]; decide
theorem scPos_ok (ok : EOk E) {i q : Int} {o : Op_} (i0 : 0 ≤ i) (q0 : 0 ≤ q) (q1 : q < E 5 0) (m : o ∈ scPosN E i q 12) : scOk E o.2.2 ∧ o.2.1 ≤ 50 := by
  obtain ⟨g, hg, st, ho⟩ := scPos_mem m
  exact scCs_ok ok i0 q0 q1 (by omega) (by omega) st (Or.inl rfl) ho
theorem scOps_ok (ok : EOk E) {s : Stt} {o : Op_} (k : scOk E s) (m : o ∈ scOps E s) : scOk E o.2.2 ∧ o.2.1 ≤ 50 := by
  have z := scOps_nx m
  have pr := ok.2.2.2.2.2.2.2.2.2
  have np := ok.2.2.2.1
  unfold scOps at m
  rw [if_neg (by omega)] at m
  obtain ⟨i, q, g, c⟩ := s
  rcases k with k | k | k
  · exact absurd k.2.1 (by have := z.1; omega)
  · rw [if_pos k.1] at m
    exact scPos_ok ok (by have := k.2.1; omega) (by decide) (by omega) m
  · obtain ⟨q0, q1, i0, i1, g0, g1, st, co⟩ := k
    simp only at q0 q1 i0 i1 g0 g1 st co m z
    rw [if_neg (by omega), List.mem_append, List.mem_append] at m
    rcases m with m | m | m
    · unfold scLo at m
      by_cases e : 0 ≤ scLs E i
      · rw [if_pos e, List.mem_singleton] at m
        subst m
        have y := scLs_n e
        refine ⟨Or.inr (Or.inr ⟨q0, q1, by show 1 ≤ i + 1; omega, by show i + 1 ≤ E 0 0; omega, g0, g1, st, co⟩), ?_⟩
        show scLs E i ≤ 50
        unfold scLs
        rw [if_pos y.2]; exact (pr 0 (by decide) (by decide)).2
      · rw [if_neg e] at m; exact absurd m List.not_mem_nil
    · unfold scIn at m
      by_cases e : (scLast E (i - 1) || !scAsk E g c) = true
      · rw [if_pos e] at m; exact scCs_ok ok (by omega) q0 q1 g0 g1 st (Or.inr co) m
      · rw [if_neg e] at m; exact absurd m List.not_mem_nil
    · unfold scLv at m
      by_cases e : (scEnd E g c && (scLast E (i - 1) || !scCut E q)) = true
      · rw [if_pos e] at m
        by_cases e2 : q + 1 < E 5 0
        · rw [if_pos e2] at m
          exact scPos_ok ok (by omega) (by omega) e2 m
        · rw [if_neg e2] at m
          by_cases e3 : 0 ≤ scEx E i
          · rw [if_pos e3, List.mem_singleton] at m
            subst m
            refine ⟨Or.inl ⟨rfl, rfl, rfl, rfl⟩, ?_⟩
            show scEx E i ≤ 50
            unfold scEx
            by_cases y : 0 < i ∧ i + 1 = E 0 0 ∧ E 1 i ≠ 1
            · rw [if_pos y]; exact (pr 4 (by decide) (by decide)).2
            · rw [if_neg y]; decide
          · rw [if_neg e3] at m; exact absurd m List.not_mem_nil
      · rw [if_neg e] at m; exact absurd m List.not_mem_nil
theorem scOk_i (ok : EOk E) {s : Stt} (k : scOk E s) : 0 ≤ s.1 ∧ s.1 ≤ E 0 0 := by
  have := ok.1
  rcases k with k | k | k
  · omega
  · omega
  · omega
theorem enc_inj (ok : EOk E) {s t : Stt} (k : scOk E s) (k' : scOk E t) (e : scEnc E s = scEnc E t) : s = t := by
  have big : ∀ u : Stt, scOk E u → 0 ≤ u.2.1 → 1728 ≤ scEnc E u ∧ scEnc E u < 70848 := by
    intro u ku u0
    rcases ku with ku | ku | ku
    · omega
    · omega
    · obtain ⟨i, q, g, c⟩ := u
      have a := enc_dec ok ku.1 ku.2.1 (by have := ku.2.2.1; omega) ku.2.2.2.1 ku.2.2.2.2.1 ku.2.2.2.2.2.1 ku.2.2.2.2.2.2.1 ku.2.2.2.2.2.2.2
      have b := ku.2.2.1
      have c' := ku.2.2.2.1
      have n40 := ok.2.1
      simp only at b c' a
      omega
  obtain ⟨i, q, g, c⟩ := s
  obtain ⟨i', q', g', c'⟩ := t
  have done : ∀ i g c : Int, scEnc E (i, -2, g, c) = 70848 := fun _ _ _ => rfl
  have zero : ∀ i g c : Int, scEnc E (i, -1, g, c) = 0 := fun _ _ _ => rfl
  have B1 := big (i, q, g, c) k
  have B2 := big (i', q', g', c') k'
  rcases k with k | k | k
  · obtain ⟨a1, a2, a3, a4⟩ := k
    simp only at a1 a2 a3 a4
    subst a1 a2 a3 a4
    rcases k' with k' | k' | k'
    · obtain ⟨b1, b2, b3, b4⟩ := k'
      simp only at b1 b2 b3 b4
      subst b1 b2 b3 b4
      rfl
    · have b1 := k'.1
      simp only at b1
      subst b1
      rw [done, zero] at e; exact absurd e (by decide)
    · have := B2 k'.1
      rw [done] at e; omega
  · obtain ⟨a1, a2, a3, a4⟩ := k
    simp only at a1 a2 a3 a4
    subst a1 a2 a3 a4
    rcases k' with k' | k' | k'
    · have b1 := k'.1
      simp only at b1
      subst b1
      rw [done, zero] at e; exact absurd e (by decide)
    · obtain ⟨b1, b2, b3, b4⟩ := k'
      simp only at b1 b2 b3 b4
      subst b1 b2 b3 b4
      rfl
    · have := B2 k'.1
      rw [zero] at e; omega
  · have y1 := B1 k.1
    rcases k' with k' | k' | k'
    · have b1 := k'.1
      simp only at b1
      subst b1
      rw [done] at e; omega
    · have b1 := k'.1
      simp only at b1
      subst b1
      rw [zero] at e; omega
    · obtain ⟨q0, q1, i0, i1, g0, g1, st, co⟩ := k
      obtain ⟨q0', q1', i0', i1', g0', g1', st', co'⟩ := k'
      simp only at q0 q1 i0 i1 g0 g1 st co q0' q1' i0' i1' g0' g1' st' co'
      have a := enc_dec ok q0 q1 (by omega) i1 g0 g1 st co
      have b := enc_dec ok q0' q1' (by omega) i1' g0' g1' st' co'
      rw [e] at a
      have eg : g = g' := by omega
      subst eg
      have en : cN E g c = cN E g c' := by omega
      have e4 : c / 4 = c' / 4 := by omega
      have ei : i = i' := by omega
      have eq : q = q' := by omega
      have ec : c = c' := by
        unfold cOk at co co'
        unfold cN at en
        by_cases z : E 8 g = 4
        · rw [if_pos z, if_pos z] at en; omega
        · rw [if_neg z, if_neg z] at en; omega
      subst ei eq ec
      rfl
/-! counts and prices together -/
def scRel (E : SEn) (B t p : Int) : Prop := (t = 0 → p = 268435456) ∧ (0 < t → p ≤ B)
theorem scRel_F {B : Int} : ∀ (L : List Op_) (t p : Int), 0 ≤ t → t ≤ 1000000000 → 0 ≤ p → p ≤ 268435456 → scRel E B t p → (∀ o ∈ L, 0 ≤ o.2.1 ∧ (0 ≤ scW E true o.2.2 ∧ 0 ≤ scW E false o.2.2) ∧ scRel E (B - o.2.1) (scW E true o.2.2) (scW E false o.2.2)) → scRel E B (scF E true t L) (scF E false p L) := by
  intro L
  induction L with
  | nil => intro t p _ _ _ _ r _; exact r
  | cons o L ih =>
    intro t p t0 t1 p0 p1 r H
    obtain ⟨a1, a2, a3⟩ := H o List.mem_cons_self
    unfold scF
    rw [List.foldl_cons, List.foldl_cons]
    have z1 : scJ true t o.2.1 (scW E true o.2.2) = min 1000000000 (t + scW E true o.2.2) := rfl
    have z2 : scJ false p o.2.1 (scW E false o.2.2) = min p (o.2.1 + scW E false o.2.2) := rfl
    unfold scRel at r a3
    by_cases c : scW E true o.2.2 = 0
    · have y := a3.1 c
      have x1 : scJ true t o.2.1 (scW E true o.2.2) = t := by rw [z1]; omega
      have x2 : scJ false p o.2.1 (scW E false o.2.2) = p := by rw [z2]; omega
      rw [x1, x2]
      exact ih t p t0 t1 p0 p1 r (fun o m => H o (List.mem_cons_of_mem _ m))
    · have y := a3.2 (by omega)
      exact ih _ _ (by rw [z1]; omega) (by rw [z1]; omega) (by rw [z2]; omega) (by rw [z2]; omega) (by unfold scRel; rw [z1, z2]; omega) (fun o m => H o (List.mem_cons_of_mem _ m))
theorem scW_rel (ok : EOk E) : ∀ (n : Nat) (s : Stt), 41 - s.1 ≤ n → scOk E s → scRel E (50 * (42 - s.1)) (scW E true s) (scW E false s) := by
  intro n
  induction n with
  | zero => intro s h1 k; have := scOk_i ok k; have := ok.2.1; omega
  | succ n ih =>
    intro s h1 k
    have si := scOk_i ok k
    have n40 := ok.2.1
    rw [scW_eq ok true (by omega), scW_eq ok false (by omega)]
    by_cases c : scFin E s = true
    · rw [if_pos c, if_pos c]
      refine ⟨fun z => absurd z (by decide), fun _ => ?_⟩
      show (0 : Int) ≤ _
      omega
    · rw [if_neg c, if_neg c]
      refine scRel_F (scOps E s) _ _ (by decide) (by decide) (by decide) (by decide) ⟨fun _ => rfl, fun z => absurd z (by decide)⟩ (fun o m => ?_)
      have z := scOps_nx m
      have y := scOps_ok ok k m
      have r := ih o.2.2 (by omega) y.1
      unfold scRel at r ⊢
      refine ⟨z.2.2.2, ⟨(scW_t ok (by omega)).1, (scW_f ok (by omega)).1⟩, r.1, fun w => ?_⟩
      have := r.2 w
      omega
end RY
