/-! fits: the class' line with one word changed -/
theorem flatF_ap : ∀ (A B : List Wd) (w : Int), flatF w (A ++ B) = flatF w A ++ flatF (w + ((A.length : Nat) : Int)) B := by
  intro A
  induction A with
  | nil => intro B w; rw [List.nil_append, flatF, List.nil_append]; show _ = flatF (w + 0) B; rw [Int.add_zero]
  | cons d A ih =>
    intro B w
    rw [List.cons_append, flatF, flatF, ih, List.append_assoc, List.length_cons, show w + 1 + ((A.length : Nat) : Int) = w + ((A.length + 1 : Nat) : Int) by push_cast; omega]
theorem txt_ap (A B : List Wd) : txt (A ++ B) = txt A ++ txt B := by
  unfold txt
  rw [List.map_append, List.flatten_append]
theorem txt_c (d : Wd) (B : List Wd) : txt (d :: B) = d.1 ++ txt B := by unfold txt; rw [List.map_cons, List.flatten_cons]
theorem flatF_hi {ws : List Wd} {w : Int} (ok : ∀ d ∈ ws, WdOk d) : ∀ q ∈ flatF w ws, w ≤ q.w ∧ q.w < w + ((ws.length : Nat) : Int) := fun q m => by
  obtain ⟨i, hi, e⟩ := List.getElem_of_mem m
  obtain ⟨j, j1, j2, _⟩ := flatF_get ws w i ok hi
  have : (flatF w ws).getD i fs0 = q := by rw [List.getD_eq_getElem?_getD, List.getElem?_eq_getElem hi, e]; rfl
  rw [this] at j2
  omega
def sgT (D : List Int) (f l : Int) : List Int := (D.drop f.toNat).take l.toNat
theorem sgT_add {D : List Int} {f l m : Int} (f0 : 0 ≤ f) (l0 : 0 ≤ l) (m0 : 0 ≤ m) : sgT D f l ++ sgT D (f + l) m = sgT D f (l + m) := by
  unfold sgT
  rw [show (l + m).toNat = l.toNat + m.toNat by omega, List.take_add, List.drop_drop, show (f + l).toNat = f.toNat + l.toNat by omega]
def LineO (h : xH) (p : Int) (ws : List Wd) : Prop := SylB h p ∧ SylE h p ∧ XLn (XV h p) ws
theorem LineO_fr {h h' : xH} {p : Int} {ws : List Wd} {c : List Int} {c2 : List (Int × Int)} (F : Fr c c2 h h') (w : low c c2 [] [] = true) (O : LineO h p ws) : LineO h' p ws := by
  have z := LineX_fa (FA_of [] [] F) w (Tok_fr F) O.1 O.2.1
  exact ⟨z.1, z.2.1, by rw [z.2.2]; exact O.2.2⟩
section WW
variable {d : Nat} {Q : Int → xH → Prop} {p W e : Int} {ws : List Wd}
theorem c_X_addFr {h : xH} {Q : Int → xH → Prop} {A : List FS} {T : List Int} {i : Nat} (ok : LnOk ws) (SX_ : SX h) (O : LineO h p ws) (D : Dr h A T) (a40 : A.length ≤ 40) (hi : i < (flat ws).length) (t192 : ((T.length : Nat) : Int) + ((flat ws).getD i fs0).n ≤ 192) (H1 : A.length < 40 → ∀ h', Fr drL drS h h' → Dr h' (A ++ [(flat ws).getD i fs0]) (T ++ sgT (txt ws) (psm (flat ws) i) ((flat ws).getD i fs0).n) → Q 1 h') (H0 : A.length = 40 → Q 0 h) : xCi (d + 3) M_Syllables_addFrom [(1, 16), (1, p), (0, (i : Int))] h Q := by
  obtain ⟨⟨b1, b2, b3, b4, b5, b6, b7, b8, b9, b10, b11, b12, b13, b14, b15, b16, b17, b18, b19⟩, O2, x0, x1, x2, x3⟩ := O
  have x0 : h.i p 6 = (((flat ws).length : Nat) : Int) := x0
  have y2 := (x1 i hi).1
  have y3 := (x1 i hi).2.1
  have y4 := (x1 i hi).2.2
  rw [show XV h p 3 i = h.i (h.r p 2) i from rfl, b6] at y2
  rw [show XV h p 4 i = h.i (h.r p 3) i from rfl, b7] at y3
  rw [show XV h p 5 i = h.i (h.r p 4) i from rfl, b8] at y4
  have z0 := x2 i (by omega)
  have z1 := x2 (i + 1) hi
  have zn := x2 (flat ws).length (Nat.le_refl _)
  rw [show XV h p 2 i = h.i (h.r p 1) i from rfl, b5] at z0
  rw [show XV h p 2 ((i + 1 : Nat) : Int) = h.i (h.r p 1) ((i + 1 : Nat) : Int) from rfl, b5] at z1
  rw [show XV h p 2 (((flat ws).length : Nat) : Int) = h.i (h.r p 1) (((flat ws).length : Nat) : Int) from rfl, b5] at zn
  push_cast at z1
  have ps := psm_succ hi
  have pa : psm (flat ws) (flat ws).length = (((txt ws).length : Nat) : Int) := psm_all ws 0 ok.2.2
  have n1 : ∀ q ∈ flat ws, 1 ≤ q.n := flatF_n1 ok.2.2
  have ni := n1 _ (getD_mem fs0 hi)
  have m0 := psm_mono n1 (Nat.zero_le i) (by omega)
  have m2 := psm_mono n1 (show i + 1 ≤ (flat ws).length by omega) (Nat.le_refl _)
  rw [psm_0] at m0
  push_cast at m0 m2
  have tl := txt_le ws ok.2.2
  have o1 := ok.1
  have o2 := ok.2.1
  have Z : Src h (p + 1) 0 (txt ws) := ⟨b9, by rw [b14, x0, zn, pa]; omega, fun k hk => by
    have := x3 k hk
    rw [show XV h p 1 k = h.i (h.r p 0) k from rfl, b4] at this
    rw [Int.zero_add]; exact this⟩
  apply L_Syllables_addFrom
  rw [if_neg (by omega), x0]
  refine ⟨b3, ?_⟩
  rw [if_pos (by omega), b4, b5, b6, b7, b8, xw_id (a := (i : Int) + 1) (by omega) (by omega), y2, y3, y4, z0, z1, ps]
  refine ⟨⟨b11, by omega, by omega⟩, ⟨b10, by omega, by omega⟩, ⟨b10, by omega, by omega⟩, ⟨b12, by omega, by omega⟩, ⟨b13, by omega, by omega⟩, by simp only [sxt SX_, sxl SX_, sxf SX_, true_and, and_true, false_and, and_false, forall_eq, forall_eq', xi_wi, xr_wi, xt_wi, xl_wi, xn_wi, xs_wi, xi_wr, xr_wr, xt_wr, xl_wr, xn_wr, xs_wr, if_true, if_false, and_self, Int.reduceEq, Int.reduceLT, Int.reduceLE, Int.reduceNeg, Int.le_refl, Int.reduceMod], ?_⟩
  have key := c_X_add16 (d := d) (Q := fun r1 h1 => (r1 = 0 ∨ r1 = 1) ∧ Q r1 h1) (r := (flat ws).getD i fs0) SX_ D a40 t192 Z (Int.le_refl _) (by decide) (by omega) (show 0 ≤ psm (flat ws) i by omega) (by omega) (by omega) rfl rfl rfl rfl (fun lt h' F D' => ⟨Or.inr rfl, H1 lt h' F D'⟩) (fun e40 => ⟨Or.inl rfl, H0 e40⟩)
  rw [Int.zero_add] at key
  exact key
theorem c_X_wwC {u3 : xV} {l5 : Int} (ok : LnOk ws) : ∀ (m i : Nat) (h : xH) (A : List FS) (T : List Int) (u7 : xV), SX h → LineO h p ws → Dr h A T → A.length ≤ 40 → i + m ≤ (flat ws).length → (∀ j, i ≤ j → j < i + m → ((flat ws).getD j fs0).w ≠ W) → ((T.length : Nat) : Int) + (psm (flat ws) (i + m) - psm (flat ws) i) ≤ 192 → (A.length + m ≤ 40 → ∀ h' u7, Fr drL drS h h' → Dr h' (A ++ ((flat ws).drop i).take m) (T ++ sgT (txt ws) (psm (flat ws) i) (psm (flat ws) (i + m) - psm (flat ws) i)) → xT (d + 6) M_LineReader_withWord 16 [(1, 15), (1, p), (0, W), u3, (1, e), (0, l5), (0, (i : Int) + (m : Int)), u7] [] h' (xqr Q)) → (40 < A.length + m → ∀ h', Fr drL drS h h' → h'.i 18 0 = 0 → Q 0 h') → xT (d + 6) M_LineReader_withWord 16 [(1, 15), (1, p), (0, W), u3, (1, e), (0, l5), (0, (i : Int)), u7] [] h (xqr Q) := by
  have n1 : ∀ q ∈ flat ws, 1 ≤ q.n := flatF_n1 ok.2.2
  intro m
  induction m with
  | zero =>
    intro i h A T u7 SX_ O D a40 hi nW t192 H1 H0
    have := H1 a40 h u7 (Fr_refl _ _ _) (by
      rw [List.take_zero, List.append_nil]
      show Dr h A (T ++ sgT (txt ws) (psm (flat ws) i) (psm (flat ws) i - psm (flat ws) i))
      rw [show psm (flat ws) i - psm (flat ws) i = 0 by omega]
      unfold sgT
      rw [show (0 : Int).toNat = 0 from rfl, List.take_zero, List.append_nil]
      exact D)
    rw [show (i : Int) + ((0 : Nat) : Int) = (i : Int) by omega] at this
    exact this
  | succ m ih =>
    intro i h A T u7 SX_ O D a40 hi nW t192 H1 H0
    have il : i < (flat ws).length := by omega
    have g : h.tag 15 = 3 ∧ h.r 15 2 = 16 ∧ h.tag 16 = 9 := by simp only [sxt SX_, sxl SX_, sxf SX_, true_and, and_true, false_and, and_false, forall_eq, forall_eq', xi_wi, xr_wi, xt_wi, xl_wi, xn_wi, xs_wi, xi_wr, xr_wr, xt_wr, xl_wr, xn_wr, xs_wr, if_true, if_false, and_self, Int.reduceEq, Int.reduceLT, Int.reduceLE, Int.reduceNeg, Int.le_refl, Int.reduceMod]
    have O' := O
    obtain ⟨⟨b1, b2, b3, b4, b5, b6, b7, b8, b9, b10, b11, b12, b13, b14, b15, b16, b17, b18, b19⟩, O2, x0, x1, x2, x3⟩ := O'
    have x0 : h.i p 6 = (((flat ws).length : Nat) : Int) := x0
    have y2 := (x1 i il).1
    rw [show XV h p 3 i = h.i (h.r p 2) i from rfl, b6] at y2
    have ps := psm_succ il
    have ni := n1 _ (getD_mem fs0 il)
    have m1 := psm_mono n1 (show i + 1 ≤ i + (m + 1) by omega) hi
    have m0 := psm_mono n1 (Nat.zero_le i) (by omega)
    rw [psm_0] at m0
    push_cast at m0 m1
    have o2 := ok.2.1
    have nw := nW i (Nat.le_refl _) (by omega)
    apply L_LineReader_withWord_16
    rw [x0, b6, y2, g.2.1]
    refine ⟨b3, ?_⟩
    rw [if_pos (by omega), if_neg nw]
    refine ⟨⟨b11, by omega, by omega⟩, g.1, g.2.2, ?_⟩
    refine c_X_addFr (d := d + 3) ok SX_ O D a40 il (by omega) (fun lt h' F D' => ?_) (fun e40 => ?_)
    · rw [if_neg (by decide)]
      intro x3' e3
      rw [xw_id (by omega) (by omega)] at e3
      rw [e3]
      have e1 : i + 1 + m = i + (m + 1) := by omega
      have tl' : (((T ++ sgT (txt ws) (psm (flat ws) i) ((flat ws).getD i fs0).n).length : Nat) : Int) ≤ ((T.length : Nat) : Int) + ((flat ws).getD i fs0).n := by
        unfold sgT
        rw [List.length_append, List.length_take]
        omega
      have := ih (i + 1) h' (A ++ [(flat ws).getD i fs0]) (T ++ sgT (txt ws) (psm (flat ws) i) ((flat ws).getD i fs0).n) (0, 1) (SX_2 F.1 SX_) (LineO_fr F (by decide) O) D' (by rw [List.length_append]; show A.length + 1 ≤ 40; omega) (by omega) (fun j j0 j1 => nW j (by omega) (by omega)) (by rw [e1]; omega) (fun le h2 u7 F2 D2 => ?_) (fun gt h2 F2 z => H0 (by rw [List.length_append] at gt; have gt : 40 < A.length + 1 + m := gt; omega) h2 (Fr_trans F F2) z)
      · push_cast at this
        exact this
      · rw [List.length_append] at le
        have le : A.length + 1 + m ≤ 40 := le
        have K := H1 (by omega) h2 u7 (Fr_trans F F2) (by
          rw [e1] at D2
          rw [List.append_assoc, List.append_assoc, ps] at D2
          rw [sgT_add (by omega) (by omega) (by omega)] at D2
          rw [List.drop_eq_getElem_cons il, List.take_succ_cons]
          rw [show ((flat ws).getD i fs0).n + (psm (flat ws) (i + (m + 1)) - (psm (flat ws) i + ((flat ws).getD i fs0).n)) = psm (flat ws) (i + (m + 1)) - psm (flat ws) i by omega] at D2
          have eg : (flat ws).getD i fs0 = (flat ws)[i] := by rw [List.getD_eq_getElem?_getD, List.getElem?_eq_getElem il]; rfl
          rw [← eg]
          exact D2)
        push_cast at K ⊢
        rw [show (i : Int) + 1 + (m : Int) = (i : Int) + ((m : Int) + 1) by omega]
        exact K
    · rw [if_pos rfl]
      exact H0 (by omega) h (Fr_refl _ _ _) (dr_18 SX_ D)
theorem c_X_wwS {u3 : xV} (ok : LnOk ws) {h : xH} (SX_ : SX h) (O : LineO h p ws) : ∀ (m i : Nat) (u7 : xV), i + m ≤ (flat ws).length → (∀ j, i ≤ j → j < i + m → ((flat ws).getD j fs0).w = W) → (∀ u7, xT (d + 6) M_LineReader_withWord 16 [(1, 15), (1, p), (0, W), u3, (1, e), (0, 1), (0, (i : Int) + (m : Int)), u7] [] h (xqr Q)) → xT (d + 6) M_LineReader_withWord 16 [(1, 15), (1, p), (0, W), u3, (1, e), (0, 1), (0, (i : Int)), u7] [] h (xqr Q) := by
  intro m
  induction m with
  | zero =>
    intro i u7 hi nW H
    have := H u7
    rw [show (i : Int) + ((0 : Nat) : Int) = (i : Int) by omega] at this
    exact this
  | succ m ih =>
    intro i u7 hi nW H
    have il : i < (flat ws).length := by omega
    obtain ⟨⟨b1, b2, b3, b4, b5, b6, b7, b8, b9, b10, b11, b12, b13, b14, b15, b16, b17, b18, b19⟩, O2, x0, x1, x2, x3⟩ := O
    have x0 : h.i p 6 = (((flat ws).length : Nat) : Int) := x0
    have y2 := (x1 i il).1
    rw [show XV h p 3 i = h.i (h.r p 2) i from rfl, b6] at y2
    have o2 := ok.2.1
    apply L_LineReader_withWord_16
    rw [x0, b6, y2]
    refine ⟨b3, ?_⟩
    rw [if_pos (by omega), if_pos (nW i (Nat.le_refl _) (by omega)), if_neg (by decide)]
    refine ⟨⟨b11, by omega, by omega⟩, fun x2 e2 => ?_⟩
    rw [xw_id (by omega) (by omega)] at e2
    rw [e2]
    have := ih (i + 1) (0, 1) (by omega) (fun j j0 j1 => nW j (by omega) (by omega)) (fun u7 => by
      have := H u7
      push_cast at this ⊢
      rw [show (i : Int) + 1 + (m : Int) = (i : Int) + ((m : Int) + 1) by omega]
      exact this)
    push_cast at this
    exact this
end WW
