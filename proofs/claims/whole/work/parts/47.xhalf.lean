/-! rhymes of the class: half and eye -/
theorem samF_nil : samF [] [] = true := rfl
theorem c_X_half_18 {d : Nat} {h : xH} {Q : Int → xH → Prop} {p q : Int} {E F : List (Int × Int)} (XE : XEnd h p E) (XF : XEnd h q F) (oE : enOk E) (oF : enOk F) (l6 : E.length < 1000) (l7 : F.length < 1000) : ∀ (n a b j : Nat), E.length ≤ a + n → a ≤ E.length → b ≤ F.length → j ≤ a → Q (if samF (vws (E.drop a)) (vws (F.drop b)) = true then 1 else 0) h → xT (d + 1) M_Syllables_halfRhyme 18 [(1, p), (1, q), (0, (nv E a : Nat)), (0, (nv F b : Nat)), (0, (j : Int))] [] h (xqi Q) := by
  have fin : ∀ (a b : Nat) (u : xV), a ≤ E.length → b ≤ F.length → (nv E a = E.length ∨ nv F b = F.length) → Q (if samF (vws (E.drop a)) (vws (F.drop b)) = true then 1 else 0) h → xT (d + 1) M_Syllables_halfRhyme 58 [(1, p), (1, q), (0, (nv E a : Nat)), (0, (nv F b : Nat)), u] [] h (xqi Q) := by
    intro a b u ha hb c H
    apply L_Syllables_halfRhyme_58
    rw [XE.2.2.2.1, XF.2.2.2.1]
    refine ⟨XE.1, XE.2.2.1, ?_⟩
    have ne := nv_le (E := E) (k := a) ha
    have nf := nv_le (E := F) (k := b) hb
    rcases nv_vws (E := E) (E.length - a) a (by omega) with x | x
    · rw [if_neg (by omega)]
      rcases nv_vws (E := F) (F.length - b) b (by omega) with y | y
      · rw [if_neg (by omega)]
        rw [x.2, y.2, if_pos samF_nil] at H
        exact ⟨XF.1, XF.2.2.1, H⟩
      · rw [if_pos (by omega)]
        rw [x.2, y.2.2, show samF [] (F.getD (nv F b) (0, 0) :: vws (F.drop (nv F b + 1))) = false from rfl] at H
        exact ⟨XF.1, XF.2.2.1, H⟩
    · rw [if_pos (by omega)]
      rcases nv_vws (E := F) (F.length - b) b (by omega) with y | y
      · rw [x.2.2, y.2, show samF (E.getD (nv E a) (0, 0) :: vws (E.drop (nv E a + 1))) [] = false from rfl] at H
        exact H
      · omega
  intro n
  induction n with
  | zero =>
    intro a b j e ha hb hj H
    apply L_Syllables_halfRhyme_18
    have ne := nv_le (E := E) (k := a) ha
    rw [XE.2.2.2.1]
    refine ⟨XE.1, XE.2.2.1, x_if (fun c => ?_) (fun c => fin a b _ ha hb (Or.inl (by omega)) H)⟩
    rw [if_neg (by omega)]
    exact fin a b _ ha hb (Or.inl (by omega)) H
  | succ n ih =>
    intro a b j e ha hb hj H
    apply L_Syllables_halfRhyme_18
    have ne := nv_le (E := E) (k := a) ha
    have nf := nv_le (E := F) (k := b) hb
    rw [XE.2.2.2.1, XF.2.2.2.1]
    refine ⟨XE.1, XE.2.2.1, x_if (fun c => x_if (fun c2 => ⟨XF.1, XF.2.2.1, x_if (fun c3 => ?_) (fun c3 => fin a b _ ha hb (Or.inr (by omega)) H)⟩) (fun c2 => fin a b _ ha hb (Or.inl (by omega)) H)) (fun c => fin a b _ ha hb (Or.inl (by omega)) H)⟩
    rcases nv_vws (E := E) (E.length - a) a (by omega) with x | x
    · omega
    rcases nv_vws (E := F) (F.length - b) b (by omega) with y | y
    · omega
    have k1 : nv E a < E.length := x.1
    have k2 : nv F b < F.length := y.1
    rw [XE.2.2.2.2 _ k1, XF.2.2.2.2 _ k2, x.2.1, y.2.1, xw_id (a := ((nv E a : Nat) : Int) + 1) (by omega) (by omega), xw_id (a := ((nv F b : Nat) : Int) + 1) (by omega) (by omega), xw_id (a := (j : Int) + 1) (by omega) (by omega)]
    rw [x.2.2, y.2.2] at H
    refine ⟨⟨XE.2.2.1, by omega, by omega⟩, ⟨XF.2.2.1, by omega, by omega⟩, x_if (fun c4 => ?_) (fun c4 => ?_)⟩
    · have e1 := scode_inj (oE _ (getD_mem (0, 0) k1)) (oF _ (getD_mem (0, 0) k2)) (by omega)
      rw [show ((nv E a : Nat) : Int) + 1 = ((nv E a + 1 : Nat) : Int) by omega, show ((nv F b : Nat) : Int) + 1 = ((nv F b + 1 : Nat) : Int) by omega, show (j : Int) + 1 = ((j + 1 : Nat) : Int) by omega]
      refine c_X_vowelFrom XE oE l6 (by omega) ?_
      refine ⟨XF.1, c_X_vowelFrom XF oF l7 (by omega) ?_⟩
      intro x1 q1
      rw [q1]
      refine ih (nv E a + 1) (nv F b + 1) (j + 1) (by omega) (by omega) (by omega) (by omega) ?_
      unfold samF at H ⊢
      rw [List.map_cons, List.map_cons] at H
      simp only [e1, List.cons.injEq, true_and] at H
      exact H
    · have ne2 : (E.getD (nv E a) (0, 0)).1 ≠ (F.getD (nv F b) (0, 0)).1 := fun q => c4 (by rw [q])
      unfold samF at H
      rw [List.map_cons, List.map_cons] at H
      simp only [List.cons.injEq, ne2, false_and, decide_false, Bool.false_eq_true, if_false] at H
      exact H
theorem c_X_halfRhyme {d : Nat} {h : xH} {Q : Int → xH → Prop} {p q : Int} {E F : List (Int × Int)} (XE : XEnd h p E) (XF : XEnd h q F) (oE : enOk E) (oF : enOk F) (l6 : E.length < 1000) (l7 : F.length < 1000) (H : Q (if samF (vws E) (vws F) = true then 1 else 0) h) : xCi (d + 2) M_Syllables_halfRhyme [(1, p), (1, q)] h Q := by
  apply L_Syllables_halfRhyme
  rw [if_neg XE.2.1, if_neg XF.2.1]
  refine ⟨XE.1, XF.1, c_X_vowelFrom (k := 0) XE oE l6 (Nat.zero_le _) ?_⟩
  refine ⟨XF.1, c_X_vowelFrom (k := 0) XF oF l7 (Nat.zero_le _) ?_⟩
  exact c_X_half_18 XE XF oE oF l6 l7 E.length 0 0 0 (by omega) (by omega) (by omega) (by omega) (by rw [List.drop_zero, List.drop_zero]; exact H)
/-- how many letters an eye rhyme looks at -/
def seen (T : List Int) : Nat := if T.length < 2 then T.length else 2
def lastW (ws : List Wd) : List Int := (ws.getD (ws.length - 1) wd0).1
theorem ws_split {ws : List Wd} (h : 1 ≤ ws.length) : ws = ws.take (ws.length - 1) ++ [ws.getD (ws.length - 1) wd0] := by
  rw [take_next (by omega), show ws.length - 1 + 1 = ws.length by omega, List.take_length]
theorem txt_app (A : List Wd) (d : Wd) : txt (A ++ [d]) = txt A ++ d.1 := by
  unfold txt
  rw [List.map_append, List.flatten_append]
  show _ ++ (d.1 ++ []) = _
  rw [List.append_nil]
section SEEN
variable {d : Nat} {h : xH} {Q : Int → xH → Prop} {p : Int} {ws : List Wd}
theorem c_X_seen_8 (ok : LnOk ws) (w1 : 1 ≤ ws.length) (X : XLn (XV h p) ws) (Z : XSh h p ((flat ws).length : Nat) ((txt ws).length : Nat)) (H : Q (seen (lastW ws) : Nat) h) : ∀ (n i : Nat), i = (flat (ws.take (ws.length - 1))).length + n → i ≤ (flat ws).length → xT (d + 1) M_Syllables_seenLength 8 [(1, p), (0, (i : Int)), (0, (i : Int) - 1)] [] h (xqi Q) := by
  have es := ws_split w1
  have ef : flat ws = flat (ws.take (ws.length - 1)) ++ fsyl (((ws.length - 1 : Nat) : Nat) : Int) (ws.getD (ws.length - 1) wd0).2.1 0 (ws.getD (ws.length - 1) wd0).2.2 := by
    have z := flat_app (ws.take (ws.length - 1)) (ws.getD (ws.length - 1) wd0)
    rw [← es, List.length_take, Nat.min_eq_left (by omega)] at z
    exact z
  have okT : ∀ x ∈ ws.take (ws.length - 1), WdOk x := fun x hx => ok.2.2 x (List.mem_of_mem_take hx)
  have okL := ok.2.2 _ (getD_mem wd0 (show ws.length - 1 < ws.length by omega))
  have et : txt ws = txt (ws.take (ws.length - 1)) ++ lastW ws := by
    have z := txt_app (ws.take (ws.length - 1)) (ws.getD (ws.length - 1) wd0)
    rw [← es] at z
    exact z
  have x0 : h.i p 6 = ((flat ws).length : Nat) := X.1
  have o := ok.2.1
  have lT := flat_take_le ws (ws.length - 1)
  have l1 := (flatF_last ws 0 ok.2.2 w1).1
  have l1 : 1 ≤ (flat ws).length := l1
  have psT : psm (flat ws) (flat (ws.take (ws.length - 1))).length = ((txt (ws.take (ws.length - 1))).length : Nat) := by
    rw [ef, psm_app_l (Nat.le_refl _)]
    exact psm_all _ 0 okT
  have tl := txt_le ws ok.2.2
  have o1 := ok.1
  have ll : (txt ws).length = (txt (ws.take (ws.length - 1))).length + (lastW ws).length := by rw [et, List.length_append]
  -- the end of the loop
  have fin : ∀ Z2 : Int, Z2 = psm (flat ws) (flat (ws.take (ws.length - 1))).length → (if xw ((((txt ws).length : Nat) : Int) - Z2) < 2 then xw ((((txt ws).length : Nat) : Int) - Z2) else 2) = ((seen (lastW ws) : Nat) : Int) := by
    intro Z2 e
    rw [e, psT, xw_id (by omega) (by omega)]
    unfold seen
    by_cases c : (lastW ws).length < 2
    · rw [if_pos c, if_pos (by omega)]; omega
    · rw [if_neg c, if_neg (by omega)]; rfl
  have wlast : ∀ k : Nat, (flat (ws.take (ws.length - 1))).length ≤ k → k < (flat ws).length → ((flat ws).getD k fs0).w = ((ws.length - 1 : Nat) : Int) := by
    intro k k0 k1
    rw [ef] at k1 ⊢
    rw [List.length_append] at k1
    rw [getD_app_r fs0 k0]
    exact fsyl_w _ _ _ (getD_mem fs0 (by omega))
  intro n
  induction n with
  | zero =>
    intro i ei hi
    apply L_Syllables_seenLength_8
    have xf : h.i (h.r p 1) (i : Int) = psm (flat ws) i := X.2.2.1 i hi
    have gf : (0 : Int) ≤ (i : Int) ∧ (i : Int) < h.len (h.r p 1) := by have := Z.2.2.2.2.2.2.2.1; omega
    have fi := fin (psm (flat ws) i) (by rw [ei]; rfl)
    have close : xCi (d + 1) M_Syllables_letterCount [(1, p)] h (fun r1 h1 => h1.tag p = 9 ∧ ((h1.tag (h1.r p 1) = 20 ∧ (0 : Int) ≤ (i : Int) ∧ (i : Int) < h1.len (h1.r p 1)) ∧ Q ((if xw (r1 - (h1.i (h1.r p 1) i)) < 2 then xw (r1 - (h1.i (h1.r p 1) i)) else 2)) h1)) := by
      refine c_X_letterCount ok X Z ?_
      refine ⟨Z.1, ⟨Z.2.2.1, gf⟩, ?_⟩
      rw [xf, fi]
      exact H
    refine x_if (fun c => ⟨Z.1, close⟩) (fun c => ?_)
    have i1 : i - 1 < (flat ws).length := by omega
    have xi : h.i (h.r p 2) ((i - 1 : Nat) : Int) = ((flat ws).getD (i - 1) fs0).w := (X.2.1 (i - 1) i1).1
    have xl : h.i (h.r p 2) (((flat ws).length - 1 : Nat) : Int) = ((flat ws).getD ((flat ws).length - 1) fs0).w := (X.2.1 _ (by omega)).1
    have q1 := (flatF_last ws 0 ok.2.2 w1).2
    have q1 : ((flat ws).getD ((flat ws).length - 1) fs0).w = 0 + ((ws.length : Nat) : Int) - 1 := q1
    have q2 : ((flat ws).getD (i - 1) fs0).w < (((ws.length - 1 : Nat) : Nat) : Int) := by
      rw [ef, getD_app_l fs0 (by omega)]
      obtain ⟨j, j1, j2, -⟩ := flatF_get (ws.take (ws.length - 1)) 0 (i - 1) okT (by show i - 1 < (flat (ws.take (ws.length - 1))).length; omega)
      rw [List.length_take] at j1
      have j2 : ((flat (ws.take (ws.length - 1))).getD (i - 1) fs0).w = 0 + (j : Int) := j2
      omega
    have zl := Z.2.2.2.2.2.2.2.2.1
    rw [x0, show xw ((((flat ws).length : Nat) : Int) - 1) = (((flat ws).length - 1 : Nat) : Int) from by rw [xw_id (by omega) (by omega)]; omega, show (i : Int) - 1 = ((i - 1 : Nat) : Int) by omega, xi, xl, if_neg (by omega)]
    exact ⟨Z.1, ⟨Z.2.2.2.1, by omega, by omega⟩, ⟨Z.2.2.2.1, by omega, by omega⟩, close⟩
  | succ n ih =>
    intro i ei hi
    apply L_Syllables_seenLength_8
    have i1 : i - 1 < (flat ws).length := by omega
    have xi : h.i (h.r p 2) ((i - 1 : Nat) : Int) = ((flat ws).getD (i - 1) fs0).w := (X.2.1 (i - 1) i1).1
    have xl : h.i (h.r p 2) (((flat ws).length - 1 : Nat) : Int) = ((flat ws).getD ((flat ws).length - 1) fs0).w := (X.2.1 _ (by omega)).1
    have q1 := wlast (i - 1) (by omega) i1
    have q2 := wlast ((flat ws).length - 1) (by omega) (by omega)
    have zl := Z.2.2.2.2.2.2.2.2.1
    rw [if_neg (by omega), x0, show xw ((((flat ws).length : Nat) : Int) - 1) = (((flat ws).length - 1 : Nat) : Int) from by rw [xw_id (by omega) (by omega)]; omega, show (i : Int) - 1 = ((i - 1 : Nat) : Int) by omega, xi, xl, q1, q2, if_pos rfl, show xw (((i - 1 : Nat) : Int) + -1) = ((i - 1 : Nat) : Int) - 1 from by rw [xw_id (by omega) (by omega)]; omega]
    refine ⟨Z.1, ⟨Z.2.2.2.1, by omega, by omega⟩, ⟨Z.2.2.2.1, by omega, by omega⟩, ?_⟩
    intro x1 e1
    rw [e1]
    exact ih (i - 1) (by omega) (by omega)
theorem c_X_seen (ok : LnOk ws) (w1 : 1 ≤ ws.length) (X : XLn (XV h p) ws) (Z : XSh h p ((flat ws).length : Nat) ((txt ws).length : Nat)) (H : Q (seen (lastW ws) : Nat) h) : xCi (d + 2) M_Syllables_seenLength [(1, p)] h Q := by
  apply L_Syllables_seenLength
  have x0 : h.i p 6 = ((flat ws).length : Nat) := X.1
  have lT := flat_take_le ws (ws.length - 1)
  have o := ok.2.1
  rw [x0, xw_id (by omega) (by omega)]
  refine ⟨Z.1, ?_⟩
  intro x1 e1 x2 e2
  rw [e1, e2]
  exact c_X_seen_8 ok w1 X Z H ((flat ws).length - (flat (ws.take (ws.length - 1))).length) _ (by omega) (Nat.le_refl _)
end SEEN
