/-! foot: the object of a foot is filled -/
def FSh (h : xH) (p : Int) : Prop := h.tag p = 1 ∧ h.r p 2 = p + 1 ∧ h.r p 3 = p + 2 ∧ h.r p 4 = p + 3 ∧ h.r p 5 = p + 4 ∧ h.tag (p + 1) = 20 ∧ h.tag (p + 2) = 20 ∧ h.tag (p + 3) = 22 ∧ h.tag (p + 4) = 22 ∧ h.len (p + 1) = 34 ∧ h.len (p + 2) = 34 ∧ h.len (p + 3) = 17 ∧ h.len (p + 4) = 17
section FT
variable {d : Nat} {p : Int}
theorem FSh_2 {h h' : xH} (F : h'.2 = h.2) (S : FSh h p) : FSh h' p := by
  have e : h'.r = h.r ∧ h'.tag = h.tag ∧ h'.len = h.len := by
    unfold xH.r xH.tag xH.len
    rw [F]; exact ⟨rfl, rfl, rfl⟩
  unfold FSh at S ⊢
  rw [e.1, e.2.1, e.2.2]; exact S
theorem c_addC {h : xH} {Q : xH → Prop} {c w v : Int} (S : FSh h p) (c0 : 0 ≤ c) (c1 : c ≤ 16) (v0 : 0 ≤ v) (v1 : v < 16) (H : ∀ h' a, a = (if h.i (p + 1) (2 * c) = -1 then 2 * c else 2 * c + 1) → Fr [p + 1, p + 2] [(p, 6)] h h' → (∀ k, h'.i (p + 1) k = if k = a then w else h.i (p + 1) k) → (∀ k, h'.i (p + 2) k = if k = a then v else h.i (p + 2) k) → h'.i p 6 = (if h.i p 6 < v + 1 then v + 1 else h.i p 6) → Q h') : xCv (d + 1) M_Foot_addChoice [(1, p), (0, c), (0, w), (0, v)] h Q := by
  obtain ⟨s1, s2, s3, s4, s5, s6, s7, s8, s9, s10, s11, s12, s13⟩ := S
  have fin : ∀ a, a = (if h.i (p + 1) (2 * c) = -1 then 2 * c else 2 * c + 1) → Q (((h.wi (p + 1) a w).wi (p + 2) a v).wi p 6 (if h.i p 6 < v + 1 then v + 1 else h.i p 6)) := fun a ha => by
    refine H _ a ha (Fr_slot (Fr_cell (Fr_cell (Fr_refl _ _ _) _ _ List.mem_cons_self) _ _ (List.mem_cons_of_mem _ List.mem_cons_self)) _ List.mem_cons_self) (fun k => ?_) (fun k => ?_) ?_
    · rw [xi_wi, if_neg (by omega), xi_wi, if_neg (by omega), xi_wi]
      by_cases z : k = a
      · rw [if_pos ⟨rfl, z⟩, if_pos z]
      · rw [if_neg (fun y => z y.2), if_neg z]
    · rw [xi_wi, if_neg (by omega), xi_wi]
      by_cases z : k = a
      · rw [if_pos ⟨rfl, z⟩, if_pos z]
      · rw [if_neg (fun y => z y.2), if_neg z, xi_wi, if_neg (by omega)]
    · rw [xi_wi, if_pos ⟨rfl, rfl⟩]
  apply L_Foot_addChoice
  rw [if_neg (show ¬ c < 0 by omega), if_neg (show ¬ 16 < c by omega), if_neg (show ¬ v < 0 by omega), if_pos v1, s2, s6, s10, xw_id (a := c * 2) (by omega) (by omega), xw_id (a := c * 2 + 1) (by omega) (by omega), xw_id (a := v + 1) (by omega) (by omega), show c * 2 = 2 * c by omega]
  refine ⟨s1, ⟨rfl, by omega, by omega⟩, ?_⟩
  by_cases z : h.i (p + 1) (2 * c) = -1
  · rw [if_pos z]
    have f := fin _ rfl
    rw [if_pos z] at f
    intro x1 e1
    subst e1
    refine ⟨⟨rfl, by omega, by omega⟩, ?_⟩
    intro h1 e1
    have r1 : h1.r = h.r ∧ h1.tag = h.tag ∧ h1.len = h.len := by rw [e1]; exact ⟨rfl, rfl, rfl⟩
    rw [r1.1, r1.2.1, r1.2.2, s3, s7, s11]
    refine ⟨s1, ⟨rfl, by omega, by omega⟩, ?_⟩
    intro h2 e2
    have t2 : h2.tag p = 1 := by rw [e2]; show h1.tag p = 1; rw [r1.2.1]; exact s1
    refine ⟨t2, ?_⟩
    intro h3 e3
    have e6 : h2.i p 6 = h.i p 6 := by rw [e2, xi_wi, if_neg (by omega), e1, xi_wi, if_neg (by omega)]
    rw [e6, e2, e1] at e3
    rw [e3]; exact f
  · rw [if_neg z]
    have f := fin _ rfl
    rw [if_neg z] at f
    intro x1 e1
    subst e1
    refine ⟨⟨rfl, by omega, by omega⟩, ?_⟩
    intro h1 e1
    have r1 : h1.r = h.r ∧ h1.tag = h.tag ∧ h1.len = h.len := by rw [e1]; exact ⟨rfl, rfl, rfl⟩
    rw [r1.1, r1.2.1, r1.2.2, s3, s7, s11]
    refine ⟨s1, ⟨rfl, by omega, by omega⟩, ?_⟩
    intro h2 e2
    have t2 : h2.tag p = 1 := by rw [e2]; show h1.tag p = 1; rw [r1.2.1]; exact s1
    refine ⟨t2, ?_⟩
    intro h3 e3
    have e6 : h2.i p 6 = h.i p 6 := by rw [e2, xi_wi, if_neg (by omega), e1, xi_wi, if_neg (by omega)]
    rw [e6, e2, e1] at e3
    rw [e3]; exact f
/-- the table, as far as it has been filled: A c says whether code c has been -/
def FTJ (h : xH) (p s m x y : Int) (dg : Int → Int) (A : Int → Prop) [DecidablePred A] : Prop := ∀ c, 0 ≤ c → c ≤ 16 → h.i (p + 1) (2 * c) = ((if A c then fch s m x y dg c else []).getD 0 (-1, 0)).1 ∧ h.i (p + 1) (2 * c + 1) = ((if A c then fch s m x y dg c else []).getD 1 (-1, 0)).1 ∧ h.i (p + 2) (2 * c) = ((if A c then fch s m x y dg c else []).getD 0 (-1, 0)).2 ∧ h.i (p + 2) (2 * c + 1) = ((if A c then fch s m x y dg c else []).getD 1 (-1, 0)).2
theorem c_fill_5 {q v : Int} {Q : xH → Prop} : ∀ (n : Nat) (h : xH) (a : Int), h.tag q = 20 → h.len q < 1000 → 0 ≤ a → a + n = h.len q → (∀ h', Fr [q] [] h h' → (∀ k, a ≤ k → k < h.len q → h'.i q k = v) → (∀ k, (k < a ∨ h.len q ≤ k) → h'.i q k = h.i q k) → Q h') → xT d M_Arrays_fill 5 [(1, q), (0, v), (0, a), (0, h.len q)] [] h (xqv Q) := by
  intro n
  induction n with
  | zero =>
    intro h a tq l1 a0 ha H
    apply L_Arrays_fill_5
    rw [if_neg (by omega)]
    exact H h (Fr_refl _ _ _) (fun k k0 k1 => by omega) (fun _ _ => rfl)
  | succ n ih =>
    intro h a tq l1 a0 ha H
    apply L_Arrays_fill_5
    rw [if_pos (by omega), xw_id (a := a + 1) (by omega) (by omega)]
    refine ⟨⟨tq, a0, by omega⟩, ?_⟩
    intro h1 e1 x1 e2
    have r1 : h1.tag = h.tag ∧ h1.len = h.len := by rw [e1]; exact ⟨rfl, rfl⟩
    have i1 : ∀ k, h1.i q k = if k = a then v else h.i q k := fun k => by
      rw [e1, xi_wi]
      by_cases c : k = a
      · rw [if_pos ⟨rfl, c⟩, if_pos c]
      · rw [if_neg (fun z => c z.2), if_neg c]
    have F1 : Fr [q] [] h h1 := by rw [e1]; exact Fr_cell (Fr_refl _ _ _) _ _ List.mem_cons_self
    clear e1
    subst e2
    have := ih h1 (a + 1) (by rw [r1.1]; exact tq) (by rw [r1.2]; exact l1) (by omega) (by rw [r1.2]; push_cast at ha; omega) (fun h' F q1 q2 => H h' (Fr_trans F1 F) (fun k k0 k1 => ?_) (fun k hk => ?_))
    · rw [r1.2] at this; exact this
    · by_cases c : k = a
      · rw [q2 k (by omega), i1, if_pos c]
      · exact q1 k (by omega) (by rw [r1.2]; exact k1)
    · rw [q2 k (by rw [r1.2]; omega), i1, if_neg (by omega)]
end FT
