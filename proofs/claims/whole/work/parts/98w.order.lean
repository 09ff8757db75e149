/-! fits: the order of the book's words, both sides -/
theorem lexl_ir {f : Int → Int} {n : Int} : ¬ lexl f f n n := by
  intro ⟨k, k0, k1, k2, k3, k4⟩
  omega
theorem srt_eq {α : Type} {R : α → α → Prop} (as : ∀ a b, R a b → R b a → False) : ∀ A B : List α, A.Pairwise R → B.Pairwise R → (∀ x, x ∈ A ↔ x ∈ B) → A = B := by
  intro A
  induction A with
  | nil =>
    intro B _ _ H
    cases B with
    | nil => rfl
    | cons b B => exact absurd ((H b).mpr List.mem_cons_self) List.not_mem_nil
  | cons a A ih =>
    intro B PA PB H
    cases B with
    | nil => exact absurd ((H a).mp List.mem_cons_self) List.not_mem_nil
    | cons b B =>
      rw [List.pairwise_cons] at PA PB
      have e : a = b := by
        refine Classical.byContradiction (fun n => ?_)
        have m1 := (H a).mp List.mem_cons_self
        have m2 := (H b).mpr List.mem_cons_self
        rw [List.mem_cons] at m1 m2
        exact as a b (PA.1 b (m2.resolve_left (fun z => n z.symm))) (PB.1 a (m1.resolve_left n))
      subst e
      have e := ih B PA.2 PB.2 (fun x => by
        have h := H x
        rw [List.mem_cons, List.mem_cons] at h
        constructor
        · intro m
          rcases h.mp (Or.inr m) with z | z
          · rw [z] at m; exact (as a a (PA.1 a m) (PA.1 a m)).elim
          · exact z
        · intro m
          rcases h.mpr (Or.inr m) with z | z
          · rw [z] at m; exact (as a a (PB.1 a m) (PB.1 a m)).elim
          · exact z)
      rw [e]
def AhdR (h : xH) (v w : Int) : Prop := lexl (fun k => h.i 68 (16 * v + k)) (fun k => h.i 68 (16 * w + k)) (h.i 69 v) (h.i 69 w)
theorem AhdR_as {h : xH} {v w : Int} (A : AhdR h v w) (B : AhdR h w v) : False := lexl_ir (lexl_tr A B)
theorem AhdR_tr {h : xH} {v w u : Int} (A : AhdR h v w) (B : AhdR h w u) : AhdR h v u := lexl_tr A B
theorem AhdR_fr {h h' : xH} (e8 : h'.i 68 = h.i 68) (e9 : h'.i 69 = h.i 69) {v w : Int} : AhdR h' v w ↔ AhdR h v w := by unfold AhdR; rw [e8, e9]
section AHD
variable {d : Nat} {Q : Int → xH → Prop}
theorem c_R_isAhead_2 {h : xH} {v w : Int} (S : SR h) (v0 : 0 ≤ v) (v1 : v < 40) (w0 : 0 ≤ w) (w1 : w < 40) (sv : 0 ≤ h.i 69 v ∧ h.i 69 v ≤ 16) (sw : 0 ≤ h.i 69 w ∧ h.i 69 w ≤ 16) (H1 : AhdR h v w → Q 1 h) (H0 : ¬ AhdR h v w → Q 0 h) : ∀ (m : Nat) (k : Int), 0 ≤ k → h.i 69 v - k ≤ m → k ≤ h.i 69 v → k ≤ h.i 69 w → (∀ j, 0 ≤ j → j < k → h.i 68 (16 * v + j) = h.i 68 (16 * w + j)) → xT (d + 1) M_R_isAhead 2 [(1, 59), (0, v), (0, w), (0, k)] [] h (xqi Q) := by
  have g : h.tag 59 = 12 ∧ h.r 59 12 = 69 ∧ h.tag 69 = 20 ∧ h.len 69 = 40 ∧ h.r 59 11 = 68 ∧ h.tag 68 = 21 ∧ h.len 68 = 640 := by simp only [srt S, srl S, srf S, true_and, and_true, false_and, and_false, forall_eq, forall_eq', xi_wi, xr_wi, xt_wi, xl_wi, xn_wi, xs_wi, xi_wr, xr_wr, xt_wr, xl_wr, xn_wr, xs_wr, if_true, if_false, and_self, Int.reduceEq, Int.reduceLT, Int.reduceLE, Int.reduceNeg, Int.le_refl, Int.reduceMod]
  obtain ⟨g1, g2, g3, g4, g5, g6, g7⟩ := g
  intro m
  induction m with
  | zero =>
    intro k k0 hm kv kw pre
    have ek : k = h.i 69 v := by omega
    apply L_R_isAhead_2
    rw [g2, g4]
    refine ⟨g1, ⟨g3, v0, v1⟩, ?_⟩
    rw [if_neg (by omega)]
    refine ⟨⟨g3, v0, v1⟩, ⟨g3, w0, w1⟩, ?_⟩
    by_cases c : h.i 69 v < h.i 69 w
    · rw [if_pos c]
      exact H1 ⟨k, k0, by omega, kw, pre, Or.inl ⟨ek, by omega⟩⟩
    · rw [if_neg c]
      refine H0 (fun ⟨i, i0, i1, i2, i3, i4⟩ => ?_)
      rcases i4 with z | z
      · omega
      · have := pre i i0 (by omega)
        have q3 : h.i 68 (16 * v + i) < h.i 68 (16 * w + i) := z.2.2
        omega
  | succ m ih =>
    intro k k0 hm kv kw pre
    apply L_R_isAhead_2
    rw [g2, g4, g5, g7]
    refine ⟨g1, ⟨g3, v0, v1⟩, ?_⟩
    by_cases c1 : k < h.i 69 v
    · rw [if_pos c1]
      refine ⟨⟨g3, w0, w1⟩, ?_⟩
      by_cases c2 : k < h.i 69 w
      · rw [if_pos c2, xw_id (a := 16 * v) (by omega) (by omega), xw_id (a := 16 * v + k) (by omega) (by omega), xw_id (a := 16 * w) (by omega) (by omega), xw_id (a := 16 * w + k) (by omega) (by omega)]
        refine ⟨⟨g6, by omega, by omega⟩, ⟨g6, by omega, by omega⟩, ?_⟩
        by_cases c3 : h.i 68 (16 * v + k) = h.i 68 (16 * w + k)
        · rw [if_pos c3]
          intro x1 e1
          rw [xw_id (by omega) (by omega)] at e1
          rw [e1]
          refine ih (k + 1) (by omega) (by push_cast at hm; omega) (by omega) (by omega) (fun j j0 j1 => ?_)
          by_cases z : j = k
          · rw [z]; exact c3
          · exact pre j j0 (by omega)
        · rw [if_neg c3]
          refine ⟨⟨g6, by omega, by omega⟩, ⟨g6, by omega, by omega⟩, ?_⟩
          by_cases c4 : h.i 68 (16 * v + k) < h.i 68 (16 * w + k)
          · rw [if_pos c4]
            exact H1 ⟨k, k0, kv, kw, pre, Or.inr ⟨c1, c2, c4⟩⟩
          · rw [if_neg c4]
            refine H0 (fun ⟨i, i0, i1, i2, i3, i4⟩ => ?_)
            by_cases z : k < i
            · exact c3 (i3 k k0 z)
            · rcases i4 with y | y
              · omega
              · by_cases q : i = k
                · rw [q] at y; exact c4 y.2.2
                · have := pre i i0 (by omega)
                  have q3 : h.i 68 (16 * v + i) < h.i 68 (16 * w + i) := y.2.2
                  omega
      · rw [if_neg c2]
        refine ⟨⟨g3, v0, v1⟩, ⟨g3, w0, w1⟩, ?_⟩
        rw [if_neg (by omega)]
        refine H0 (fun ⟨i, i0, i1, i2, i3, i4⟩ => ?_)
        rcases i4 with y | y
        · omega
        · have := pre i i0 (by omega)
          have q3 : h.i 68 (16 * v + i) < h.i 68 (16 * w + i) := y.2.2
          omega
    · rw [if_neg c1]
      refine ⟨⟨g3, v0, v1⟩, ⟨g3, w0, w1⟩, ?_⟩
      have ek : k = h.i 69 v := by omega
      by_cases c : h.i 69 v < h.i 69 w
      · rw [if_pos c]
        exact H1 ⟨k, k0, by omega, kw, pre, Or.inl ⟨ek, by omega⟩⟩
      · rw [if_neg c]
        refine H0 (fun ⟨i, i0, i1, i2, i3, i4⟩ => ?_)
        rcases i4 with z | z
        · omega
        · have := pre i i0 (by omega)
          have q3 : h.i 68 (16 * v + i) < h.i 68 (16 * w + i) := z.2.2
          omega
theorem c_R_isAhead {h : xH} {v w : Int} (S : SR h) (v0 : 0 ≤ v) (v1 : v < 40) (w0 : 0 ≤ w) (w1 : w < 40) (sv : 0 ≤ h.i 69 v ∧ h.i 69 v ≤ 16) (sw : 0 ≤ h.i 69 w ∧ h.i 69 w ≤ 16) (H1 : AhdR h v w → Q 1 h) (H0 : ¬ AhdR h v w → Q 0 h) : xCi (d + 2) M_R_isAhead [(1, 59), (0, v), (0, w)] h Q := by
  apply L_R_isAhead
  exact c_R_isAhead_2 S v0 v1 w0 w1 sv sw H1 H0 17 0 (Int.le_refl _) (by omega) sv.1 sw.1 (fun j j0 j1 => by omega)
/-- the first m words of the book in order -/
def OrdI (h : xH) (O : List Int) (m : Nat) : Prop := O.length = m ∧ (∀ x, x ∈ O ↔ 0 ≤ x ∧ x < m) ∧ O.Pairwise (AhdR h) ∧ ∀ i : Nat, i < m → h.i 128 i = O.getD i 0
def BkS (h : xH) (nb : Nat) : Prop := nb ≤ 40 ∧ (∀ v : Int, 0 ≤ v → v < (nb : Int) → 0 ≤ h.i 69 v ∧ h.i 69 v ≤ 16) ∧ ∀ x y : Int, 0 ≤ x → x < (nb : Int) → 0 ≤ y → y < (nb : Int) → x ≠ y → ¬ AhdR h x y → AhdR h y x
theorem getD_take' {O : List Int} {n i : Nat} (hi : i < n) : (O.take n).getD i 0 = O.getD i 0 := by
  rw [List.getD_eq_getElem?_getD, List.getElem?_take_of_lt hi, ← List.getD_eq_getElem?_getD]
theorem getD_drop' {O : List Int} {n i : Nat} : (O.drop n).getD i 0 = O.getD (n + i) 0 := by
  rw [List.getD_eq_getElem?_getD, List.getElem?_drop, ← List.getD_eq_getElem?_getD]
theorem c_R_fits29 {O : List Int} {nb m : Nat} {l1 l2 l3 : Int} {u6 u7 : xV} {h0 : xH} (S0 : SR h0) (B : BkS h0 nb) (mb : m < nb) (OI : OrdI h0 O m) (H : ∀ h' u5, Fr [128] [] h0 h' → ∀ O', OrdI h' O' (m + 1) → xT (d + 2) M_R_fits 23 [(1, 59), (0, l1), (0, l2), (0, l3), (0, (m : Int) + 1), u5, u6, u7] [] h' (xqi Q)) : ∀ (n : Nat) (h : xH), n ≤ m → Fr [128] [] h0 h → (∀ i : Nat, i < n → h.i 128 i = O.getD i 0) → (∀ i : Nat, n ≤ i → i < m → h.i 128 ((i : Int) + 1) = O.getD i 0) → (∀ i : Nat, n ≤ i → i < m → AhdR h0 (m : Int) (O.getD i 0)) → xT (d + 2) M_R_fits 29 [(1, 59), (0, l1), (0, l2), (0, l3), (0, (m : Int)), (0, (n : Int)), u6, u7] [] h (xqi Q) := by
  obtain ⟨o1, o2, o3, o4⟩ := OI
  obtain ⟨b1, b2, b3⟩ := B
  -- the word is put at place n
  have fin : ∀ (n : Nat) (h h' : xH), n ≤ m → Fr [128] [] h0 h → (∀ i : Nat, i < n → h.i 128 i = O.getD i 0) → (∀ i : Nat, n ≤ i → i < m → h.i 128 ((i : Int) + 1) = O.getD i 0) → (∀ i : Nat, n ≤ i → i < m → AhdR h0 (m : Int) (O.getD i 0)) → (∀ x ∈ O.take n, AhdR h0 x (m : Int)) → h' = h.wi 128 (n : Int) (m : Int) → Fr [128] [] h0 h' ∧ OrdI h' (O.take n ++ (m : Int) :: O.drop n) (m + 1) := by
    intro n h h' nm F lo hi ah be e
    have F' : Fr [128] [] h0 h' := by rw [e]; exact Fr_trans F (Fr_cell (Fr_refl _ _ _) _ _ (by decide))
    have lt : (O.take n).length = n := by rw [List.length_take]; omega
    refine ⟨F', ?_, fun x => ?_, ?_, fun i hi' => ?_⟩
    · rw [List.length_append, List.length_cons, lt, List.length_drop]; omega
    · rw [List.mem_append, List.mem_cons]
      have hx := o2 x
      have key : x ∈ O ↔ x ∈ O.take n ∨ x ∈ O.drop n := by rw [← List.mem_append, List.take_append_drop]
      constructor
      · intro z
        rcases z with z | z | z
        · have := hx.mp (key.mpr (Or.inl z)); push_cast; omega
        · push_cast; omega
        · have := hx.mp (key.mpr (Or.inr z)); push_cast; omega
      · intro z
        by_cases c : x = (m : Int)
        · exact Or.inr (Or.inl c)
        · push_cast at z
          rcases key.mp (hx.mpr ⟨z.1, by omega⟩) with y | y
          · exact Or.inl y
          · exact Or.inr (Or.inr y)
    · have P' : (O.take n ++ O.drop n).Pairwise (AhdR h0) := by rw [List.take_append_drop]; exact o3
      rw [List.pairwise_append] at P'
      have ahd : ∀ x ∈ O.drop n, AhdR h0 (m : Int) x := fun x mx => by
        obtain ⟨i, hi, e⟩ := List.getElem_of_mem mx
        rw [List.length_drop] at hi
        have := ah (n + i) (by omega) (by omega)
        rw [← getD_drop', List.getD_eq_getElem?_getD, List.getElem?_eq_getElem (by rw [List.length_drop]; exact hi), e] at this
        exact this
      have R : (O.take n ++ (m : Int) :: O.drop n).Pairwise (AhdR h0) := by
        rw [List.pairwise_append, List.pairwise_cons]
        refine ⟨P'.1, ⟨ahd, P'.2.1⟩, fun a ma b mb => ?_⟩
        rw [List.mem_cons] at mb
        rcases mb with z | z
        · rw [z]; exact be a ma
        · exact P'.2.2 a ma b z
      exact R.imp (fun {a b} z => (AhdR_fr (Fr_row F' (by decide) (by decide)) (Fr_row F' (by decide) (by decide))).mpr z)
    · rw [e, xi_wi]
      by_cases c1 : i < n
      · rw [if_neg (by omega), getD_app_l 0 (by omega), getD_take' c1]
        exact lo i c1
      · by_cases c2 : i = n
        · rw [if_pos ⟨rfl, by omega⟩, getD_app_r 0 (by omega), lt, c2, Nat.sub_self]; rfl
        · rw [if_neg (by omega), getD_app_r 0 (by omega), lt, show i - n = (i - n - 1) + 1 by omega, List.getD_cons_succ, getD_drop', show n + (i - n - 1) = i - 1 by omega]
          have := hi (i - 1) (by omega) (by omega)
          rw [show ((i - 1 : Nat) : Int) + 1 = (i : Int) by omega] at this
          exact this
  intro n
  induction n with
  | zero =>
    intro h nm F lo hi ah
    have S := SR_2 F.1 S0
    have g : h.tag 59 = 12 ∧ h.r 59 85 = 128 ∧ h.tag 128 = 20 ∧ h.len 128 = 40 := by simp only [srt S, srl S, srf S, true_and, and_true, false_and, and_false, forall_eq, forall_eq', xi_wi, xr_wi, xt_wi, xl_wi, xn_wi, xs_wi, xi_wr, xr_wr, xt_wr, xl_wr, xn_wr, xs_wr, if_true, if_false, and_self, Int.reduceEq, Int.reduceLT, Int.reduceLE, Int.reduceNeg, Int.le_refl, Int.reduceMod]
    apply L_R_fits_29
    rw [if_neg (by decide), g.2.1, g.2.2.2]
    refine ⟨g.1, ⟨g.2.2.1, by decide, by decide⟩, fun h4 e4 x3 e3 => ?_⟩
    rw [xw_id (by omega) (by omega)] at e3
    rw [e3]
    have Z := fin 0 h h4 (Nat.zero_le _) F lo hi ah (fun x mx => absurd mx List.not_mem_nil) e4
    exact H h4 _ Z.1 _ Z.2
  | succ n ih =>
    intro h nm F lo hi ah
    have S := SR_2 F.1 S0
    have g : h.tag 59 = 12 ∧ h.r 59 85 = 128 ∧ h.tag 128 = 20 ∧ h.len 128 = 40 := by simp only [srt S, srl S, srf S, true_and, and_true, false_and, and_false, forall_eq, forall_eq', xi_wi, xr_wi, xt_wi, xl_wi, xn_wi, xs_wi, xi_wr, xr_wr, xt_wr, xl_wr, xn_wr, xs_wr, if_true, if_false, and_self, Int.reduceEq, Int.reduceLT, Int.reduceLE, Int.reduceNeg, Int.le_refl, Int.reduceMod]
    have e68 : h.i 68 = h0.i 68 := Fr_row F (by decide) (by decide)
    have e69 : h.i 69 = h0.i 69 := Fr_row F (by decide) (by decide)
    have on : h.i 128 (n : Int) = O.getD n 0 := lo n (by omega)
    have om := (o2 (O.getD n 0)).mp (getD_mem 0 (by omega))
    have zm := b2 (m : Int) (by omega) (by omega)
    have zn := b2 (O.getD n 0) (by omega) (by omega)
    apply L_R_fits_29
    rw [if_pos (by omega), g.2.1, g.2.2.2, xw_id (a := ((n + 1 : Nat) : Int) - 1) (by omega) (by omega), show ((n + 1 : Nat) : Int) - 1 = (n : Int) by omega, on]
    refine ⟨g.1, ⟨g.2.2.1, by omega, by omega⟩, ?_⟩
    refine c_R_isAhead (d := d) S (by omega) (by omega) (by omega) (by omega) (by rw [e69]; exact zm) (by rw [e69]; exact zn) (fun A => ?_) (fun A => ?_)
    · rw [if_neg (by decide), g.2.1, g.2.2.2, on]
      refine ⟨g.1, ⟨g.2.2.1, by omega, by omega⟩, ⟨g.2.2.1, by omega, by omega⟩, fun h3 e3 x2 e2 => ?_⟩
      rw [xw_id (by omega) (by omega)] at e2
      rw [e2, show ((n + 1 : Nat) : Int) + -1 = (n : Int) by omega]
      have F3 : Fr [128] [] h0 h3 := by rw [e3]; exact Fr_trans F (Fr_cell (Fr_refl _ _ _) _ _ (by decide))
      refine ih h3 (by omega) F3 (fun i hi' => ?_) (fun i i0 i1 => ?_) (fun i i0 i1 => ?_)
      · rw [e3, xi_wi, if_neg (by omega)]; exact lo i (by omega)
      · rw [e3, xi_wi]
        by_cases c : i = n
        · rw [if_pos ⟨rfl, by omega⟩, c]
        · rw [if_neg (by omega)]; exact hi i (by omega) i1
      · by_cases c : i = n
        · rw [c]; exact (AhdR_fr e68 e69).mp A
        · exact ah i (by omega) i1
    · rw [if_pos rfl, g.2.1, g.2.2.2]
      refine ⟨g.1, ⟨g.2.2.1, by omega, by omega⟩, fun h2 e2 x1 e1 => ?_⟩
      rw [xw_id (by omega) (by omega)] at e1
      rw [e1]
      have A' : AhdR h0 (O.getD n 0) (m : Int) := b3 _ _ (by omega) (by omega) (by omega) (by omega) (by omega) (fun z => A ((AhdR_fr e68 e69).mpr z))
      have Z := fin (n + 1) h h2 nm F lo hi ah (fun x mx => ?_) e2
      · exact H h2 _ Z.1 _ Z.2
      · have nl : n < O.length := by omega
        have P' : (O.take (n + 1) ++ O.drop (n + 1)).Pairwise (AhdR h0) := by rw [List.take_append_drop]; exact o3
        rw [List.pairwise_append, List.take_succ_eq_append_getElem nl, List.pairwise_append] at P'
        rw [List.take_succ_eq_append_getElem nl, List.mem_append, List.mem_singleton] at mx
        have eg : O.getD n 0 = O[n] := by rw [List.getD_eq_getElem?_getD, List.getElem?_eq_getElem nl]; rfl
        rcases mx with z | z
        · have := P'.1.2.2 x z _ (List.mem_singleton.mpr rfl)
          rw [← eg] at this
          exact AhdR_tr this A'
        · rw [z, ← eg]; exact A'
theorem OrdI_fr {h h' : xH} {O : List Int} {m : Nat} (e8 : h'.i 68 = h.i 68) (e9 : h'.i 69 = h.i 69) (e : h'.i 128 = h.i 128) (I : OrdI h O m) : OrdI h' O m := ⟨I.1, I.2.1, I.2.2.1.imp (fun {a b} z => (AhdR_fr e8 e9).mpr z), fun i hi => by rw [e]; exact I.2.2.2 i hi⟩
theorem BkS_fr {h h' : xH} {nb : Nat} (F : Fr [128] [] h h') (B : BkS h nb) : BkS h' nb := by
  have e8 : h'.i 68 = h.i 68 := Fr_row F (by decide) (by decide)
  have e9 : h'.i 69 = h.i 69 := Fr_row F (by decide) (by decide)
  refine ⟨B.1, fun v v0 v1 => by rw [e9]; exact B.2.1 v v0 v1, fun x y a b c d n A => (AhdR_fr e8 e9).mpr (B.2.2 x y a b c d n (fun z => A ((AhdR_fr e8 e9).mpr z)))⟩
theorem c_R_fits23 {nb : Nat} {l1 l2 l3 : Int} {u6 u7 : xV} : ∀ (k m : Nat) (h : xH) (O : List Int) (u5 : xV), m + k = nb → SR h → BkS h nb → h.i 59 16 = (nb : Int) → OrdI h O m → (∀ h' u5 O', Fr [128] [(59, 84)] h h' → h'.i 59 84 = 0 → OrdI h' O' nb → xT (d + 2) M_R_fits 65 [(1, 59), (0, l1), (0, l2), (0, l3), (0, 0), u5, u6, u7] [] h' (xqi Q)) → xT (d + 2) M_R_fits 23 [(1, 59), (0, l1), (0, l2), (0, l3), (0, (m : Int)), u5, u6, u7] [] h (xqi Q) := by
  intro k
  induction k with
  | zero =>
    intro m h O u5 hk S B eb OI H
    apply L_R_fits_23
    refine ⟨(srt S).1, ?_⟩
    rw [if_neg (by omega)]
    intro h1 e1
    have F : Fr [128] [(59, 84)] h h1 := by rw [e1]; exact Fr_slot (Fr_refl _ _ _) _ (by decide)
    have em : m = nb := by omega
    subst em
    refine H h1 u5 O F (by rw [e1, xi_wi, if_pos ⟨rfl, rfl⟩]) (OrdI_fr ?_ ?_ ?_ OI)
    all_goals
      rw [e1]
      funext j
      rw [xi_wi, if_neg (fun z => absurd z.1 (by decide))]
  | succ k ih =>
    intro m h O u5 hk S B eb OI H
    apply L_R_fits_23
    refine ⟨(srt S).1, ?_⟩
    rw [if_pos (by omega)]
    refine c_R_fits29 (d := d) (h0 := h) S B (by omega) OI (fun h' u5 F O' OI' => ?_) m h (Nat.le_refl _) (Fr_refl _ _ _) OI.2.2.2 (fun i i0 i1 => by omega) (fun i i0 i1 => by omega)
    have := ih (m + 1) h' O' u5 (by omega) (SR_2 F.1 S) (BkS_fr F B) (by rw [F.2 59 16 (by decide) (by decide)]; exact eb) OI' (fun h2 u5 O2 F2 z OI2 => H h2 u5 O2 (Fr_trans (Fr_mono F (fun c m => m) (fun c m => absurd m List.not_mem_nil)) F2) z OI2)
    push_cast at this
    exact this
end AHD
/-! the class' order -/
noncomputable def bkW (h : xH) (j : Int) : Int := @Classical.epsilon Int ⟨0⟩ (fun w => 0 ≤ w ∧ w < h.i 59 16 ∧ BookRel h (h.r 8 j) w)
theorem bkW_s {h : xH} (iB : I_book h) {j : Int} (j0 : 0 ≤ j) (j1 : j < h.i 59 16) : 0 ≤ bkW h j ∧ bkW h j < h.i 59 16 ∧ BookRel h (h.r 8 j) (bkW h j) := @Classical.epsilon_spec Int (fun w => 0 ≤ w ∧ w < h.i 59 16 ∧ BookRel h (h.r 8 j) w) (iB.2.2.2.1 j j0 j1)
noncomputable def ordL (h : xH) (m : Nat) : List Int := (List.range m).map (fun k : Nat => bkW h (k : Int))
theorem eqP_rel {h : xH} {p w : Int} (B : BookRel h p w) : eqP (h.i (p + 1)) (fun k => h.i 68 (16 * w + k)) (h.len (p + 1)) (h.i 69 w) := by
  have XL := XLet_book B
  refine ⟨XL.2, fun j j0 j1 => ?_⟩
  rw [XL.2] at j1
  exact (B.2.2.2.2.2.2.2.2 j j0 j1).1
theorem eqP_sy {f g : Int → Int} {m n : Int} (E : eqP f g m n) : eqP g f n m := ⟨E.1.symm, fun j j0 j1 => (E.2 j j0 (by have := E.1; omega)).symm⟩
theorem lexl_eqR {f g g' : Int → Int} {m n n' : Int} (E : eqP g g' n n') (Z : lexl f g m n) : lexl f g' m n' := by
  obtain ⟨k, k0, k1, k2, k3, k4⟩ := Z
  obtain ⟨e1, e2⟩ := E
  subst e1
  refine ⟨k, k0, k1, k2, fun j j0 j1 => by rw [← e2 j j0 (by omega)]; exact k3 j j0 j1, ?_⟩
  rcases k4 with z | z
  · exact Or.inl z
  · exact Or.inr ⟨z.1, z.2.1, by rw [← e2 k k0 z.2.1]; exact z.2.2⟩
theorem lexl_rel {h : xH} {p q v w : Int} (A : BookRel h p v) (B : BookRel h q w) (Z : lexl (h.i (p + 1)) (h.i (q + 1)) (h.len (p + 1)) (h.len (q + 1))) : AhdR h v w := lexl_eqR (eqP_rel B) (lexl_eqL (eqP_rel A) Z)
theorem BkS_of {h : xH} (iB : I_book h) : BkS h (h.i 59 16).toNat := by
  have b0 := iB.2.1
  have b40 := iB.2.2.1
  refine ⟨by omega, fun v v0 v1 => ?_, fun x y x0 x1 y0 y1 n A => ?_⟩
  · obtain ⟨i, _, _, B⟩ := iB.2.2.2.2.1 v v0 (by omega)
    have XL := XLet_book B
    exact ⟨XL.1.2.2.2.1, B.2.2.2.2.1⟩
  · obtain ⟨i, i0, i1, Bx⟩ := iB.2.2.2.2.1 x x0 (by omega)
    obtain ⟨j, j0, j1, By⟩ := iB.2.2.2.2.1 y y0 (by omega)
    by_cases c : i < j
    · exact absurd (lexl_rel Bx By (iB.2.2.2.2.2.1 i j i0 c j1)) A
    · by_cases c2 : j < i
      · exact lexl_rel By Bx (iB.2.2.2.2.2.1 j i j0 c2 i1)
      · exfalso
        have e : i = j := by omega
        subst e
        have E : eqP (fun k => h.i 68 (16 * x + k)) (fun k => h.i 68 (16 * y + k)) (h.i 69 x) (h.i 69 y) := by
          have a := eqP_sy (eqP_rel Bx)
          have b := eqP_rel By
          refine ⟨a.1.trans b.1, fun k k0 k1 => (a.2 k k0 k1).trans (b.2 k k0 (by have := a.1; omega))⟩
        exact bk_dist iB x y x0 (by omega) y0 (by omega) n E.1 E.2
theorem ordL_eq {h : xH} {O : List Int} (iB : I_book h) (Om : ∀ x, x ∈ O ↔ 0 ≤ x ∧ x < (((h.i 59 16).toNat : Nat) : Int)) (Op : O.Pairwise (AhdR h)) : O = ordL h (h.i 59 16).toNat := by
  have b0 := iB.2.1
  refine srt_eq (fun a b => AhdR_as) O _ Op ?_ (fun x => ?_)
  · unfold ordL
    rw [List.pairwise_map]
    refine (List.pairwise_lt_range).imp_of_mem (fun {a b} ma mb lt => ?_)
    rw [List.mem_range] at ma mb
    have A := bkW_s iB (j := (a : Int)) (by omega) (by omega)
    have B := bkW_s iB (j := (b : Int)) (by omega) (by omega)
    exact lexl_rel A.2.2 B.2.2 (iB.2.2.2.2.2.1 a b (by omega) (by omega) (by omega))
  · rw [Om]
    unfold ordL
    rw [List.mem_map]
    constructor
    · intro z
      obtain ⟨j, j0, j1, B⟩ := iB.2.2.2.2.1 x z.1 (by omega)
      refine ⟨j.toNat, List.mem_range.mpr (by omega), ?_⟩
      rw [show ((j.toNat : Nat) : Int) = j by omega]
      have A := bkW_s iB j0 j1
      refine Classical.byContradiction (fun n => ?_)
      have a := eqP_sy (eqP_rel A.2.2)
      have b := eqP_rel B
      exact bk_dist iB (bkW h j) x A.1 A.2.1 z.1 (by omega) n (a.1.trans b.1) (fun k k0 k1 => (a.2 k k0 k1).trans (b.2 k k0 (by have := a.1; omega)))
    · intro ⟨k, hk, e⟩
      rw [List.mem_range] at hk
      have A := bkW_s iB (j := (k : Int)) (by omega) (by omega)
      rw [← e]; omega
