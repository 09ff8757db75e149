/-! learn: the class takes the least of the cheapest steps -/
section XC
variable {p f : Int} {E : SEn} {d : Nat} {s : Stt}
def vO (E : SEn) (o : Op_) : Int := o.2.1 + scW E false o.2.2
theorem scF_min : ∀ (L : List Op_) (t : Int), scF E false t L ≤ t ∧ (∀ o ∈ L, scF E false t L ≤ vO E o) ∧ (scF E false t L = t ∨ ∃ o ∈ L, scF E false t L = vO E o) := by
  intro L
  induction L with
  | nil => intro t; exact ⟨Int.le_refl _, fun o m => absurd m List.not_mem_nil, Or.inl rfl⟩
  | cons a L ih =>
    intro t
    have e : scF E false t (a :: L) = scF E false (min t (vO E a)) L := rfl
    rw [e]
    obtain ⟨i1, i2, i3⟩ := ih (min t (vO E a))
    refine ⟨by omega, fun o m => ?_, ?_⟩
    · rw [List.mem_cons] at m
      rcases m with m | m
      · rw [m]; omega
      · exact i2 o m
    · rcases i3 with i3 | ⟨o, m, i3⟩
      · rw [i3]
        by_cases c : t ≤ vO E a
        · exact Or.inl (by omega)
        · exact Or.inr ⟨a, List.mem_cons_self, by omega⟩
      · exact Or.inr ⟨o, List.mem_cons_of_mem _ m, i3⟩
theorem c_tc_6 {h : xH} {Q : Int → xH → Prop} (W : WkA h p f E false s) (k : scOk E s) (M : MvP h (scOps E s) s.1) (H : ∀ c : Nat, c < (scOps E s).length → vO E ((scOps E s).getD c op0) < 268435456 → (∀ j : Nat, j < (scOps E s).length → vO E ((scOps E s).getD c op0) < vO E ((scOps E s).getD j op0) ∨ (vO E ((scOps E s).getD c op0) = vO E ((scOps E s).getD j op0) ∧ pk s.1 ((scOps E s).getD c op0).1 ≤ pk s.1 ((scOps E s).getD j op0).1)) → xCi (d + 2) M_Walker_take [(1, 35), (0, (c : Int))] h Q) (H0 : (∀ j : Nat, j < (scOps E s).length → 268435456 ≤ vO E ((scOps E s).getD j op0)) → Q (-1) h) : ∀ (m j : Nat) (ch le : Int) (u4 : xV), j + m = (scOps E s).length → ((ch = -1 ∧ le = 268435456 ∧ ∀ j' : Nat, j' < j → 268435456 ≤ vO E ((scOps E s).getD j' op0)) ∨ (∃ c : Nat, ch = (c : Int) ∧ c < j ∧ le = vO E ((scOps E s).getD c op0) ∧ le < 268435456 ∧ ∀ j' : Nat, j' < j → vO E ((scOps E s).getD c op0) < vO E ((scOps E s).getD j' op0) ∨ (vO E ((scOps E s).getD c op0) = vO E ((scOps E s).getD j' op0) ∧ pk s.1 ((scOps E s).getD c op0).1 ≤ pk s.1 ((scOps E s).getD j' op0).1))) → xT (d + 2) M_Walker_takeCheapest 6 [(1, 35), (0, ch), (0, le), (0, (j : Int)), u4] [] h (xqi Q) := by
  have SX_ := W.1.1.1
  have ok := W.1.1.2.2.2.1
  have n40 := ok.2.1
  have l64 := M.2.1
  intro m
  induction m with
  | zero =>
    intro j ch le u4 hj inv
    apply L_Walker_takeCheapest_6
    refine ⟨t35_ SX_, ?_⟩
    rw [M.1, if_neg (by omega)]
    rcases inv with ⟨e1, e2, e3⟩ | ⟨c, e1, e2, e3, e4, e5⟩
    · rw [if_pos e1]
      exact H0 (fun j' hj' => e3 j' (by omega))
    · rw [if_neg (by omega), e1]
      exact H c (by omega) (by omega) (fun j' hj' => e5 j' (by omega))
  | succ m ih =>
    intro j ch le u4 hj inv
    have jl : j < (scOps E s).length := by omega
    have mem := getD_mem' jl
    have no := scOps_ok ok k mem
    have nx := scOps_nx mem
    have wf := scW_f ok (s := ((scOps E s).getD j op0).2.2) (by omega)
    obtain ⟨m1, m2, m3, m4⟩ := M.2.2 j jl
    have ev : ((scOps E s).getD j op0).2.1 + scW E false ((scOps E s).getD j op0).2.2 = vO E ((scOps E s).getD j op0) := rfl
    apply L_Walker_takeCheapest_6
    refine ⟨t35_ SX_, ?_⟩
    rw [M.1, if_pos (by omega)]
    have g : h.r 35 9 = 39 ∧ h.r 35 6 = 36 ∧ h.tag 39 = 20 ∧ h.len 39 = 64 ∧ h.tag 36 = 20 ∧ h.len 36 = 64 := by simp only [sxt SX_, sxl SX_, sxf SX_, true_and, and_true, false_and, and_false, forall_eq, forall_eq', xi_wi, xr_wi, xt_wi, xl_wi, xn_wi, xs_wi, xi_wr, xr_wr, xt_wr, xl_wr, xn_wr, xs_wr, if_true, if_false, and_self, Int.reduceEq, Int.reduceLT, Int.reduceLE, Int.reduceNeg, Int.le_refl, Int.reduceMod]
    rw [g.1, m4]
    refine ⟨⟨g.2.2.1, by omega, by omega⟩, ?_⟩
    refine c_X_valueOf W k M jl ?_
    rw [xw_id (a := ((scOps E s).getD j op0).2.1 + scW E false ((scOps E s).getD j op0).2.2) (by omega) (by omega), ev, g.2.1, m1]
    intro x1 ex1
    have nxt : ∀ (ch' le' : Int) (u4 : xV), ((ch' = -1 ∧ le' = 268435456 ∧ ∀ j' : Nat, j' < j + 1 → 268435456 ≤ vO E ((scOps E s).getD j' op0)) ∨ (∃ c : Nat, ch' = (c : Int) ∧ c < j + 1 ∧ le' = vO E ((scOps E s).getD c op0) ∧ le' < 268435456 ∧ ∀ j' : Nat, j' < j + 1 → vO E ((scOps E s).getD c op0) < vO E ((scOps E s).getD j' op0) ∨ (vO E ((scOps E s).getD c op0) = vO E ((scOps E s).getD j' op0) ∧ pk s.1 ((scOps E s).getD c op0).1 ≤ pk s.1 ((scOps E s).getD j' op0).1))) → ∀ x, x = xw ((j : Int) + 1) → xT (d + 2) M_Walker_takeCheapest 6 [(1, 35), (0, ch'), (0, le'), (0, x), u4] [] h (xqi Q) := fun ch' le' u4 inv' x ex => by
      rw [xw_id (by omega) (by omega), show (j : Int) + 1 = ((j + 1 : Nat) : Int) by push_cast; rfl] at ex
      subst ex
      exact ih (j + 1) ch' le' u4 (by omega) inv'
    by_cases c1 : x1 < le
    · rw [if_pos c1]
      refine nxt _ _ _ (Or.inr ⟨j, rfl, by omega, ex1, ?_, fun j' hj' => ?_⟩)
      · rcases inv with ⟨e1, e2, e3⟩ | ⟨c, e1, e2, e3, e4, e5⟩ <;> omega
      · by_cases z : j' = j
        · rw [z]; exact Or.inr ⟨rfl, Int.le_refl _⟩
        · rcases inv with ⟨e1, e2, e3⟩ | ⟨c, e1, e2, e3, e4, e5⟩
          · have := e3 j' (by omega); exact Or.inl (by omega)
          · have := e5 j' (by omega); exact Or.inl (by omega)
    · rw [if_neg c1]
      rcases inv with ⟨e1, e2, e3⟩ | ⟨c, e1, e2, e3, e4, e5⟩
      · rw [if_pos e1]
        refine nxt _ _ _ (Or.inl ⟨e1, e2, fun j' hj' => ?_⟩)
        by_cases z : j' = j
        · rw [z]; omega
        · exact e3 j' (by omega)
      · have mc := (M.2.2 c (by omega)).1
        rw [if_neg (by omega)]
        by_cases c2 : x1 = le
        · rw [if_pos c2, e1, mc]
          refine ⟨t35_ SX_, ⟨g.2.2.2.2.1, by omega, by omega⟩, ⟨g.2.2.2.2.1, by omega, by omega⟩, ?_⟩
          by_cases c3 : pk s.1 ((scOps E s).getD j op0).1 < pk s.1 ((scOps E s).getD c op0).1
          · rw [if_pos c3]
            refine nxt _ _ _ (Or.inr ⟨j, rfl, by omega, ex1, by omega, fun j' hj' => ?_⟩)
            by_cases z : j' = j
            · rw [z]; exact Or.inr ⟨rfl, Int.le_refl _⟩
            · have := e5 j' (by omega); omega
          · rw [if_neg c3]
            refine nxt _ _ _ (Or.inr ⟨c, rfl, by omega, e3, e4, fun j' hj' => ?_⟩)
            by_cases z : j' = j
            · rw [z]; omega
            · exact e5 j' (by omega)
        · rw [if_neg c2]
          refine nxt _ _ _ (Or.inr ⟨c, e1, by omega, e3, e4, fun j' hj' => ?_⟩)
          by_cases z : j' = j
          · rw [z]; omega
          · exact e5 j' (by omega)
/-- the option that both sides take: of the cheapest the one with the least key -/
def Best (E : SEn) (s : Stt) (o : Op_) : Prop := o ∈ scOps E s ∧ vO E o = scW E false s ∧ ∀ o' ∈ scOps E s, vO E o' = scW E false s → pk s.1 o.1 ≤ pk s.1 o'.1
theorem best_one (ok : EOk E) (k : scOk E s) {o o' : Op_} (a : Best E s o) (b : Best E s o') : o = o' := by
  have x := a.2.2 o' b.1 b.2.1
  have y := b.2.2 o a.1 a.2.1
  exact ops_inj ok k a.1 b.1 (kk_inj (key_ok ok k a.1) (key_ok ok k b.1) (by omega : pk s.1 o.1 = pk s.1 o'.1))
theorem c_X_takeC {h : xH} {Q : Int → xH → Prop} (W : WkA h p f E false s) (k : scOk E s) (s1 : s.1 < E 0 0) (lt : scW E false s < 268435456) (M : MvP h (scOps E s) s.1) (H : ∀ (o : Op_) h', Best E s o → Fr [] [(35, 4), (35, 5)] h h' → WkA h' p f E false o.2.2 → Q (pk s.1 o.1) h') : xCi (d + 3) M_Walker_takeCheapest [(1, 35)] h Q := by
  have ok := W.1.1.2.2.2.1
  have n40 := ok.2.1
  have si := scOk_i ok k
  have nf : scFin E s = false := by
    cases z : scFin E s
    · rfl
    · exfalso
      unfold scFin at z
      simp only [Bool.or_eq_true, Bool.and_eq_true, decide_eq_true_eq] at z
      rcases z with z | z
      · rcases k with k | k | k <;> omega
      · omega
  have we := scW_eq ok false (s := s) (by omega)
  rw [nf, if_neg (by decide)] at we
  have mn := scF_min (E := E) (scOps E s) 268435456
  rw [show (268435456 : Int) = scZ false from rfl, ← we] at mn
  have z0 : scZ false = 268435456 := rfl
  obtain ⟨o1, mo1, eo1⟩ := mn.2.2.resolve_left (by omega)
  apply L_Walker_takeCheapest
  refine c_tc_6 (d := d) W k M (fun c cl cv cm => ?_) (fun no => ?_) (scOps E s).length 0 (-1) 268435456 _ (by omega) (Or.inl ⟨rfl, rfl, fun j hj => absurd hj (Nat.not_lt_zero _)⟩)
  · refine c_X_take (d := d + 1) W k M cl (fun h' F W' => H _ h' ⟨getD_mem' cl, ?_, fun o' mo' eo' => ?_⟩ F W')
    · have a := mn.2.1 _ (getD_mem' cl)
      obtain ⟨j, hj, ej⟩ := List.mem_iff_getElem.mp mo1
      have b := cm j hj
      rw [List.getD_eq_getElem?_getD (l := scOps E s) (i := j), List.getElem?_eq_getElem hj] at b
      have e : (some (scOps E s)[j]).getD op0 = o1 := ej
      rw [e] at b
      omega
    · have a := mn.2.1 _ (getD_mem' cl)
      obtain ⟨j, hj, ej⟩ := List.mem_iff_getElem.mp mo'
      have b := cm j hj
      rw [List.getD_eq_getElem?_getD (l := scOps E s) (i := j), List.getElem?_eq_getElem hj] at b
      have e : (some (scOps E s)[j]).getD op0 = o' := ej
      rw [e] at b
      omega
  · exfalso
    obtain ⟨j, hj, ej⟩ := List.mem_iff_getElem.mp mo1
    have b := no j hj
    rw [List.getD_eq_getElem?_getD, List.getElem?_eq_getElem hj] at b
    have e : (some (scOps E s)[j]).getD op0 = o1 := ej
    rw [e] at b
    omega
end XC
