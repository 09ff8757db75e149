/-! scanning: the reference's list of a state, its ends, its ways -/
def scOk (E : SEn) (s : Stt) : Prop := (s.2.1 = -2 ∧ s.1 = E 0 0 ∧ s.2.2.1 = 0 ∧ s.2.2.2 = 0) ∨ (s.2.1 = -1 ∧ s.1 = 0 ∧ s.2.2.1 = 0 ∧ s.2.2.2 = 0) ∨ (0 ≤ s.2.1 ∧ s.2.1 < E 5 0 ∧ 1 ≤ s.1 ∧ s.1 ≤ E 0 0 ∧ 0 ≤ s.2.2.1 ∧ s.2.2.1 < 12 ∧ scStand E s.2.1 s.2.2.1 = true ∧ cOk E s.2.2.1 s.2.2.2)
def lvS (s : Stt) : Int := if s.2.1 = -2 then 41 else s.1
def FrL (v : Int) (h h' : xH) : Prop := Fr [98, 99, 100, 101, 102, 103, 104, 105] [(59, 55)] h h' ∧ (∀ c k, 98 ≤ c → c ≤ 104 → (k < 64 * v ∨ 64 * v + 64 ≤ k) → h'.i c k = h.i c k) ∧ ∀ k, k ≠ v → h'.i 105 k = h.i 105 k
section RW
variable {l f : Int} {E : SEn} {d : Nat}
theorem scPosN_succ {i q : Int} {m : Nat} : scPosN E i q (m + 1) = scPosN E i q m ++ (if scStand E q (m : Int) then scCs E i q (m : Int) 16 else []) := by
  unfold scPosN
  rw [List.range_succ, List.flatMap_append, List.flatMap_cons, List.flatMap_nil, List.append_nil]
theorem scPosN_len {i q : Int} : ∀ m : Nat, (scPosN E i q m).length ≤ 4 * m := by
  intro m
  induction m with
  | zero => exact Nat.le_refl _
  | succ m ih =>
    rw [scPosN_succ, List.length_append]
    by_cases c : scStand E q (m : Int) = true
    · rw [if_pos c]
      have := plL_len (E := E) (i := i) (q := q) (g := (m : Int)) (k := 0)
      rw [plL_0] at this
      omega
    · rw [if_neg c]; show _ + 0 ≤ _; omega
theorem c_addPos_2 {v i q : Int} {Q : xH → Prop} (hv0 : 0 ≤ v) (hv1 : v < 42) (i0 : 0 ≤ i) (i1 : i < E 0 0) (q0 : 0 ≤ q) (q1 : q < 8) : ∀ (n m : Nat) (h : xH) (A : List Op_), m + n = 12 → REn h l f E → h.i 59 55 = v → RowP h E v (A ++ scPosN E i q m) → A.length + 48 ≤ 64 → (∀ h', FrO v h h' → RowP h' E v (A ++ scPosN E i q 12) → Q h') → xT (d + 4) M_R_addPosition 2 [(1, 59), (0, i), (0, q), (0, (m : Int))] [] h (xqv Q) := by
  intro n
  induction n with
  | zero =>
    intro m h A hm R hv P ln H
    have e : m = 12 := by omega
    subst e
    apply L_R_addPosition_2
    rw [if_neg (by decide)]
    exact H h (FrO_refl _ _) P
  | succ n ih =>
    intro m h A hm R hv P ln H
    have S := R.1
    apply L_R_addPosition_2
    rw [if_pos (by omega), reF R]
    refine ⟨(srt S).1, ?_⟩
    refine c_R_mayStand R q0 q1 (by omega) (by omega) ?_
    have e : ∀ x1 : Int, x1 = xw ((m : Int) + 1) → x1 = ((m + 1 : Nat) : Int) := fun x1 h1 => by rw [h1, xw_id (by omega) (by omega)]; push_cast; rfl
    by_cases c : scStand E q (m : Int) = true
    · rw [c, b2i_1, if_neg (by decide)]
      refine ⟨(srt S).1, ?_⟩
      have F := sc_stand (reo R) (by omega) (by omega) c
      have := scPosN_len (E := E) (i := i) (q := q) m
      refine c_R_addPlace ⟨R, hv, hv0, hv1, i0, i1, q0, q1, by omega, by omega⟩ P (by rw [List.length_append]; omega) F (Int.le_refl _) (by have := F.2.2.1; omega) (fun h' Fo P' => ?_)
      intro x1 e1
      rw [e x1 e1]
      refine ih (m + 1) h' A (by omega) (REn_o Fo R) (by rw [FrO_59 Fo]; exact hv) ?_ ln (fun h2 F2 P2 => H h2 (FrO_trans Fo F2) P2)
      rw [scPosN_succ, if_pos c, ← plL_0, ← List.append_assoc]
      exact P'
    · rw [show scStand E q (m : Int) = false from by cases z : scStand E q (m : Int); rfl; exact absurd z c, b2i_0, if_pos rfl]
      intro x1 e1
      rw [e x1 e1]
      refine ih (m + 1) h A (by omega) R hv ?_ ln H
      rw [scPosN_succ, if_neg c, List.append_nil]
      exact P
theorem c_R_addPosition {v i q : Int} {h : xH} {Q : xH → Prop} {A : List Op_} (R : REn h l f E) (hv : h.i 59 55 = v) (v0 : 0 ≤ v) (v1 : v < 42) (i0 : 0 ≤ i) (i1 : i < E 0 0) (q0 : 0 ≤ q) (q1 : q < 8) (P : RowP h E v A) (ln : A.length + 48 ≤ 64) (H : ∀ h', FrO v h h' → RowP h' E v (A ++ scPosN E i q 12) → Q h') : xCv (d + 5) M_R_addPosition [(1, 59), (0, i), (0, q)] h Q := by
  apply L_R_addPosition
  exact c_addPos_2 v0 v1 i0 i1 q0 q1 12 0 h A (by decide) R hv (by show RowP h E v (A ++ []); rw [List.append_nil]; exact P) ln H
/-- what is behind the last of a foot's places so far -/
theorem scIn_pl {i q g c : Int} (F : FOk (E 8 g) (E 9 g) (E 10 g) (E 11 g) (fun k => E 12 (4 * g + k))) (k : cOk E g c) : scIn E i q g c = if E 8 g = 4 then (if c % 4 < E 11 g then scC1 E i q g (2, c + 1) else []) ++ (if c / 4 + 1 < E 9 g ∧ E 10 g ≤ c % 4 then plL E i q g (c / 4 + 1) else []) else if c % 4 = 0 then scC1 E i q g (2, c + 1) else if c / 4 + 1 < E 9 g ∧ ¬ (E 8 g = 3 ∧ c / 4 + 1 = E 10 g ∧ scLast E (i - 1) = false) then plL E i q g (c / 4 + 1) else [] := by
  have k' := k
  unfold cOk at k'
  have m4 := F.2.2.2.1
  have asks : scAsk E g c = true ↔ E 8 g = 3 ∧ c = 4 * (E 10 g - 1) + 1 := by
    unfold scAsk fasks
    rw [decide_eq_true_eq]
    by_cases z : E 8 g = 3 ∧ c = 4 * (E 10 g - 1) + 1
    · rw [if_pos z]; exact ⟨fun _ => z, fun _ => rfl⟩
    · rw [if_neg z]; exact ⟨fun y => absurd y (by decide), fun y => absurd y z⟩
  unfold scIn scCs scCh plL scOpen
  have n16 : ¬ c = 16 := by omega
  by_cases e : E 8 g = 4
  · have na : scAsk E g c = false := by
      cases z : scAsk E g c
      · rfl
      · have := asks.mp z; omega
    have fe : fch (E 8 g) (E 9 g) (E 10 g) (E 11 g) (fun k => E 12 (4 * g + k)) c = (if c % 4 < E 11 g then [(2, c + 1)] else []) ++ (if E 10 g ≤ c % 4 ∧ c / 4 + 1 < E 9 g then [(1, 4 * (c / 4 + 1))] else []) := by
      unfold fch
      rw [if_pos e, if_neg n16, if_pos (show c / 4 < E 9 g ∧ c % 4 ≤ E 11 g by omega)]
    rw [na, Bool.not_false, Bool.or_true, if_pos rfl, if_pos e, if_pos e, fe]
    by_cases c1 : c % 4 < E 11 g
    · rw [if_pos c1, if_pos c1]
      by_cases c2 : E 10 g ≤ c % 4 ∧ c / 4 + 1 < E 9 g
      · rw [if_pos c2, if_pos (show c / 4 + 1 < E 9 g ∧ E 10 g ≤ c % 4 from ⟨c2.2, c2.1⟩)]
        rw [List.flatMap_append, List.flatMap_cons, List.flatMap_nil, List.append_nil]
      · rw [if_neg c2, if_neg (show ¬ (c / 4 + 1 < E 9 g ∧ E 10 g ≤ c % 4) from fun z => c2 ⟨z.2, z.1⟩)]
        rw [List.append_nil, List.append_nil, List.flatMap_cons, List.flatMap_nil, List.append_nil]
    · rw [if_neg c1, if_neg c1]
      by_cases c2 : E 10 g ≤ c % 4 ∧ c / 4 + 1 < E 9 g
      · rw [if_pos c2, if_pos (show c / 4 + 1 < E 9 g ∧ E 10 g ≤ c % 4 from ⟨c2.2, c2.1⟩)]; rfl
      · rw [if_neg c2, if_neg (show ¬ (c / 4 + 1 < E 9 g ∧ E 10 g ≤ c % 4) from fun z => c2 ⟨z.2, z.1⟩)]; rfl
  · rw [if_neg e, if_neg e]
    by_cases c0 : c % 4 = 0
    · have na : scAsk E g c = false := by
        cases z : scAsk E g c
        · rfl
        · have := asks.mp z; omega
      have fe : fch (E 8 g) (E 9 g) (E 10 g) (E 11 g) (fun k => E 12 (4 * g + k)) c = [(2, c + 1)] := by
        unfold fch
        rw [if_neg e, if_neg n16, if_neg (show ¬ (c % 4 = 1 ∧ c / 4 + 1 < E 9 g) by omega), if_pos (show c % 4 = 0 ∧ c / 4 < E 9 g ∧ fd (E 8 g) (E 9 g) (fun k => E 12 (4 * g + k)) (c / 4) = 4 by omega)]
      rw [na, Bool.not_false, Bool.or_true, if_pos rfl, if_pos c0, fe, List.flatMap_cons, List.flatMap_nil, List.append_nil]
    · rw [if_neg c0]
      have c1 : c % 4 = 1 := by omega
      by_cases c2 : c / 4 + 1 < E 9 g
      · have fe : fch (E 8 g) (E 9 g) (E 10 g) (E 11 g) (fun k => E 12 (4 * g + k)) c = fopen (E 8 g) (E 9 g) (fun k => E 12 (4 * g + k)) (c / 4 + 1) := by
          unfold fch
          rw [if_neg e, if_neg n16, if_pos (show c % 4 = 1 ∧ c / 4 + 1 < E 9 g from ⟨c1, c2⟩)]
        rw [fe]
        cases la : scLast E (i - 1)
        · rw [Bool.false_or]
          cases z : scAsk E g c
          · rw [Bool.not_false, if_pos rfl, if_pos ⟨c2, fun y => by have := asks.mpr ⟨y.1, by omega⟩; rw [z] at this; exact absurd this (by decide)⟩]
          · have := asks.mp z
            rw [Bool.not_true, if_neg (by decide), if_neg (fun y => y.2 ⟨this.1, by omega, rfl⟩)]
        · rw [Bool.true_or, if_pos rfl, if_pos ⟨c2, fun y => absurd y.2.2 (by decide)⟩]
      · have fe : fch (E 8 g) (E 9 g) (E 10 g) (E 11 g) (fun k => E 12 (4 * g + k)) c = [] := by
          unfold fch
          rw [if_neg e, if_neg n16, if_neg (show ¬ (c % 4 = 1 ∧ c / 4 + 1 < E 9 g) by omega), if_neg (show ¬ (c % 4 = 0 ∧ c / 4 < E 9 g ∧ fd (E 8 g) (E 9 g) (fun k => E 12 (4 * g + k)) (c / 4) = 4) by omega)]
        rw [fe, if_neg (show ¬ (c / 4 + 1 < E 9 g ∧ ¬ (E 8 g = 3 ∧ c / 4 + 1 = E 10 g ∧ scLast E (i - 1) = false)) from fun y => c2 y.1)]
        by_cases z : (scLast E (i - 1) || !scAsk E g c) = true
        · rw [if_pos z]; rfl
        · rw [if_neg z]
end RW
