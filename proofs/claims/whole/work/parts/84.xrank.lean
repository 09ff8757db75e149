/-! lay: the class takes a reading by its number -/
def QOk (h : xH) (p q : Int) : Prop := h.tag q = 20 ∧ q < h.nx ∧ (q = 41 ∨ (130 ≤ q ∧ q ≠ h.r 28 6 ∧ q ≠ p ∧ q ≠ h.r p 2 ∧ q ≠ h.r p 3 ∧ q ≠ h.r p 4 ∧ ∀ g, 0 ≤ g → g < 12 → h.r 23 g = 0 ∨ q < h.r 23 g ∨ h.r 23 g + 4 < q))
/-- frames without new cells -/
def NA (l : List Int) (l2 lr : List (Int × Int)) (h h' : xH) : Prop := h'.tag = h.tag ∧ h'.len = h.len ∧ h'.nx = h.nx ∧ h'.us = h.us ∧ (∀ c k, c ∉ l → (c, k) ∉ l2 → h'.i c k = h.i c k) ∧ ∀ c k, (c, k) ∉ lr → h'.r c k = h.r c k
theorem NA_refl (l : List Int) (l2 lr : List (Int × Int)) (h : xH) : NA l l2 lr h h := ⟨rfl, rfl, rfl, rfl, fun _ _ _ _ => rfl, fun _ _ _ => rfl⟩
theorem NA_trans {l : List Int} {l2 lr : List (Int × Int)} {h h1 h2 : xH} (a : NA l l2 lr h h1) (b : NA l l2 lr h1 h2) : NA l l2 lr h h2 := ⟨b.1.trans a.1, b.2.1.trans a.2.1, b.2.2.1.trans a.2.2.1, b.2.2.2.1.trans a.2.2.2.1, fun c k u v => (b.2.2.2.2.1 c k u v).trans (a.2.2.2.2.1 c k u v), fun c k u => (b.2.2.2.2.2 c k u).trans (a.2.2.2.2.2 c k u)⟩
theorem NA_fr {l c : List Int} {l2 lr c2 : List (Int × Int)} {h h' : xH} (F : Fr c c2 h h') (k1 : ∀ x ∈ c, x ∈ l) (k2 : ∀ q ∈ c2, q ∈ l2) : NA l l2 lr h h' := by
  have fs := fr_same F
  exact ⟨fs.2.1, fs.2.2.1, fs.2.2.2.1, fs.2.2.2.2, fun c k u v => F.2 c k (fun m => u (k1 _ m)) (fun m => v (k2 _ m)), fun c k _ => by rw [fs.1]⟩
section XQ
variable {p f : Int} {E : SEn} {b : Bool} {d : Nat} {s : Stt} {q : Int}
theorem QOk_r {h h' : xH} (e1 : h'.r = h.r) (e2 : h'.tag = h.tag) (e3 : h'.nx = h.nx) (K : QOk h p q) : QOk h' p q := by
  unfold QOk at K ⊢
  rw [e1, e2, e3]; exact K
theorem QOk_fr {h h' : xH} {c : List Int} {c2 : List (Int × Int)} (F : Fr c c2 h h') (K : QOk h p q) : QOk h' p q := by
  have fs := fr_same F
  exact QOk_r fs.1 fs.2.1 fs.2.2.2.1 K
theorem XEn_q {h h' : xH} (K : QOk h p q) (q1 : 130 ≤ q) (F : Fr [q] [] h h') (X : XEn h p f E) : XEn h' p f E := by
  have fs := fr_same F
  obtain ⟨a1, a2, a3, a4, a5, a6⟩ := X
  have K' := K.2.2.resolve_left (by omega)
  have row : ∀ c, c ≠ q → h'.i c = h.i c := fun c n => Fr_row F (by rw [List.mem_singleton]; exact n) (fun q m => absurd m List.not_mem_nil)
  refine ⟨SX_2 F.1 a1, by rw [fs.2.2.2.1]; exact a2, by unfold I_tab at a3 ⊢; rw [fs.1]; exact a3, a4, ?_, ?_⟩
  · unfold XLe XFar at a5 ⊢
    rw [fs.1, fs.2.1, fs.2.2.1, fs.2.2.2.1, row p (fun z => K'.2.2.1 z.symm), row (h.r p 2) (fun z => K'.2.2.2.1 z.symm), row (h.r p 3) (fun z => K'.2.2.2.2.1 z.symm), row (h.r p 4) (fun z => K'.2.2.2.2.2.1 z.symm)]
    exact a5
  · obtain ⟨f0, f1, b1, b2, b3, b4, b5⟩ := a6
    refine ⟨f0, f1, by rw [row 25 (by omega)]; exact b1, by rw [row 24 (by omega)]; exact b2, by rw [row 26 (by omega)]; exact b3, by rw [row 27 (by omega)]; exact b4, fun g g0 g1 => ?_⟩
    rw [fs.1]
    rcases b5 g g0 g1 with z | z
    · exact Or.inl z
    · refine Or.inr ⟨z.1, z.2.1, ?_⟩
      have kg := (K'.2.2.2.2.2.2 g g0 g1).resolve_left z.1
      have y := z.2.2
      unfold FTab aprt at y ⊢
      rw [fs.1, fs.2.1, fs.2.2.1, fs.2.2.2.1, row _ (by omega), row _ (by omega), row _ (by omega), row _ (by omega), row _ (by omega)]
      exact y
theorem WkA_q {h h' : xH} (K : QOk h p q) (F : Fr [q] [] h h') (W : WkA h p f E b s) : WkA h' p f E b s := by
  have fs := fr_same F
  by_cases c : q = 41
  · subst c
    exact WkA_fr F (by decide) W
  · have K' := K.2.2.resolve_left c
    have row : ∀ c, c ≠ q → h'.i c = h.i c := fun c n => Fr_row F (by rw [List.mem_singleton]; exact n) (fun q m => absurd m List.not_mem_nil)
    obtain ⟨⟨a1, a2, a3, a4, a5, a6, a7, a8, a9, a10, a11⟩, w2, w3, w4, w5, w6⟩ := W
    have e7 : tl h' = tl h := by unfold tl; rw [fs.1, fs.2.2.1]
    refine ⟨⟨XEn_q K K'.1 F a1, by rw [fs.1]; exact a2, by rw [row 28 (by omega)]; exact a3, by rw [row 28 (by omega)]; exact a4, by rw [row 28 (by omega)]; exact a5, by rw [fs.1, fs.2.1]; exact a6, fun j j0 j1 => ?_, by rw [row 28 (by omega)]; exact a8, fun j hj => by rw [row 30 (by omega)]; exact a9 j hj, by rw [e7]; exact a10, by rw [e7]; exact a11⟩, ?_, by rw [fs.1]; exact w3, by rw [row 35 (by omega)]; exact w4, by rw [row 35 (by omega)]; exact w5, by rw [row 35 (by omega)]; exact w6⟩
    · have := a7 j j0 j1
      unfold PsI at this ⊢
      rw [row 31 (by omega), row 32 (by omega), row 33 (by omega)]
      exact this
    · intro q' g b0 b1 b2 b3 c' i' x0 x1 x2 x3
      rw [fs.1, row (h.r 28 6) (fun z => K'.2.1 z.symm)]
      exact w2 q' g b0 b1 b2 b3 c' i' x0 x1 x2 x3
/-- the readings behind an option -/
def bho (E : SEn) (i : Int) (o : Op_) : List Rd := (rd E o.2.2).map (fun r => (i, o) :: r)
theorem drop_c {α : Type} {z : α} {L : List α} {j : Nat} (hj : j < L.length) : L.drop j = L.getD j z :: L.drop (j + 1) := by
  rw [List.getD_eq_getElem?_getD, List.getElem?_eq_getElem hj, List.drop_eq_getElem_cons hj]; rfl
theorem map_gd {α β : Type} {f : α → β} {z : α} {w : β} {L : List α} {j : Nat} (hj : j < L.length) : (L.map f).getD j w = f (L.getD j z) := by
  rw [List.getD_eq_getElem?_getD, List.getElem?_map, List.getElem?_eq_getElem hj, List.getD_eq_getElem?_getD, List.getElem?_eq_getElem hj]; rfl
theorem app_gd {α : Type} {A B : List α} {n : Nat} {w : α} (h : A.length ≤ n) : (A ++ B).getD n w = B.getD (n - A.length) w := by
  rw [List.getD_eq_getElem?_getD, List.getD_eq_getElem?_getD, List.getElem?_append_right h]
theorem c_tr_18 {h : xH} {Q : Int → xH → Prop} {a taken i : Int} {u1 : xV} {tot : Nat} (W : WkA h p f E true s) (k : scOk E s) (M : MvP h (scOps E s) s.1) (t200 : ((scOps E s).flatMap (bho E s.1)).length ≤ 200) (H : ∀ (j' r' : Nat) (u8 : xV), j' < (scOps E s).length → r' < (rd E ((scOps E s).getD j' op0).2.2).length → ((scOps E s).flatMap (bho E s.1)).getD tot [] = (s.1, (scOps E s).getD j' op0) :: (rd E ((scOps E s).getD j' op0).2.2).getD r' [] → xT (d + 2) M_Walker_takeRanked 41 [(1, 35), u1, (1, q), (0, a), (0, (r' : Int)), (0, taken), (0, i), (0, (j' : Int)), u8] [] h (xqi Q)) : ∀ (m j rest : Nat), j + m = (scOps E s).length → rest < (((scOps E s).drop j).flatMap (bho E s.1)).length → (((scOps E s).drop j).flatMap (bho E s.1)).getD rest [] = ((scOps E s).flatMap (bho E s.1)).getD tot [] → xT (d + 2) M_Walker_takeRanked 18 [(1, 35), u1, (1, q), (0, a), (0, (rest : Int)), (0, taken), (0, i), (0, -1), (0, (j : Int))] [] h (xqi Q) := by
  have SX_ := W.1.1.1
  have ok := W.1.1.2.2.2.1
  have n40 := ok.2.1
  have l64 := M.2.1
  intro m
  induction m with
  | zero =>
    intro j rest hj hr
    rw [List.drop_of_length_le (by omega)] at hr
    exact absurd hr (Nat.not_lt_zero _)
  | succ m ih =>
    intro j rest hj hr he
    have jl : j < (scOps E s).length := by omega
    have mem := getD_mem' jl
    have no := scOps_ok ok k mem
    have nx := scOps_nx mem
    have rw_ := rd_W ok (s := ((scOps E s).getD j op0).2.2) (by omega)
    rw [drop_c (z := op0) jl, List.flatMap_cons] at hr he
    have lb : (bho E s.1 ((scOps E s).getD j op0)).length = (rd E ((scOps E s).getD j op0).2.2).length := by unfold bho; rw [List.length_map]
    have l200 : (rd E ((scOps E s).getD j op0).2.2).length ≤ 200 ∧ rest < 200 := by
      have : ((scOps E s).flatMap (bho E s.1)).length = (((scOps E s).take j).flatMap (bho E s.1)).length + (((scOps E s).drop j).flatMap (bho E s.1)).length := by
        rw [← List.length_append, ← List.flatMap_append, List.take_append_drop]
      rw [drop_c (z := op0) jl, List.flatMap_cons, List.length_append] at this
      rw [List.length_append] at hr
      omega
    have eW : scW E true ((scOps E s).getD j op0).2.2 = (((rd E ((scOps E s).getD j op0).2.2).length : Nat) : Int) := by omega
    apply L_Walker_takeRanked_18
    simp only [sxt SX_, sxl SX_, sxf SX_, M.1, true_and, and_true, false_and, and_false, forall_eq, forall_eq', xi_wi, xr_wi, xt_wi, xl_wi, xn_wi, xs_wi, xi_wr, xr_wr, xt_wr, xl_wr, xn_wr, xs_wr, if_true, if_false, and_self, Int.reduceEq, Int.reduceLT, Int.reduceLE, Int.reduceNeg, Int.le_refl, Int.reduceMod]
    rw [if_pos (by omega)]
    refine c_X_valueOf W k M jl ?_
    have e1 : xw ((j : Int) + 1) = ((j + 1 : Nat) : Int) ∧ True := ⟨by rw [xw_id (by omega) (by omega)]; push_cast; rfl, trivial⟩
    rw [eW]
    by_cases c : rest < (rd E ((scOps E s).getD j op0).2.2).length
    · rw [if_pos (by omega), e1.1]
      clear e1
      rw [List.getD_eq_getElem?_getD, List.getElem?_append_left (by rw [lb]; exact c), ← List.getD_eq_getElem?_getD] at he
      have eb : (bho E s.1 ((scOps E s).getD j op0)).getD rest [] = (s.1, (scOps E s).getD j op0) :: (rd E ((scOps E s).getD j op0).2.2).getD rest [] := by
        exact map_gd c
      rw [eb] at he
      have fin : ∀ u8 : xV, xT (d + 2) M_Walker_takeRanked 41 [(1, 35), u1, (1, q), (0, a), (0, (rest : Int)), (0, taken), (0, i), (0, (j : Int)), u8] [] h (xqi Q) := fun u8 => H j rest u8 jl c he.symm
      apply L_Walker_takeRanked_18
      refine ⟨t35_ SX_, ?_⟩
      by_cases c2 : ((j + 1 : Nat) : Int) < h.i 35 10
      · rw [if_pos c2, if_neg (show ¬ ((j : Int) = -1) by omega)]; exact fin _
      · rw [if_neg c2]; exact fin _
    · rw [if_neg (by omega)]
      refine ⟨t35_ SX_, ?_⟩
      refine c_X_valueOf W k M jl ?_
      rw [eW, e1.1, xw_id (a := (rest : Int) - (((rd E ((scOps E s).getD j op0).2.2).length : Nat) : Int)) (by omega) (by omega), show (rest : Int) - (((rd E ((scOps E s).getD j op0).2.2).length : Nat) : Int) = ((rest - (rd E ((scOps E s).getD j op0).2.2).length : Nat) : Int) by omega]
      clear e1
      rw [List.length_append, lb] at hr
      have hx := ih (j + 1) (rest - (rd E ((scOps E s).getD j op0).2.2).length) (by omega) (by omega) (by
        rw [← he, app_gd (by rw [lb]; omega), lb])
      first | exact hx | (intro x2 h2 x3 h3; rw [h2, h3]; exact hx)
theorem c_tr_6 : ∀ (n : Nat) (s : Stt) (h : xH) (rest : Nat) (a taken i : Int) (u1 u7 u8 : xV) (Q : Int → xH → Prop), 42 - s.1 ≤ n → WkA h p f E true s → scOk E s → QOk h p q → (rd E s).length ≤ 200 → rest < (rd E s).length → 0 ≤ i → i ≤ s.1 → 0 ≤ a → 0 ≤ taken → a + taken + ((((rd E s).getD rest []).length : Nat) : Int) ≤ h.len q → h.len q ≤ 100000 → (∀ h', Fr (q :: mvL) wkS h h' → (∀ t : Nat, t < ((rd E s).getD rest []).length → h'.i q (a + taken + t) = pk (((rd E s).getD rest []).getD t rc0).1 (((rd E s).getD rest []).getD t rc0).2.1) → (∀ k, (k < a + taken ∨ a + taken + ((((rd E s).getD rest []).length : Nat) : Int) ≤ k) → h'.i q k = h.i q k) → Q (taken + ((((rd E s).getD rest []).length : Nat) : Int)) h') → xT (d + 5) M_Walker_takeRanked 6 [(1, 35), u1, (1, q), (0, a), (0, (rest : Int)), (0, taken), (0, i), u7, u8] [] h (xqi Q) := by
  intro n
  induction n with
  | zero =>
    intro s h rest a taken i u1 u7 u8 Q hn W k
    have := scOk_i W.1.1.2.2.2.1 k
    have := W.1.1.2.2.2.1.2.1
    omega
  | succ n ih =>
    intro s h rest a taken i u1 u7 u8 Q hn W k K t200 hr i0 i1 a0 k0 le l5 H
    have SX_ := W.1.1.1
    have ok := W.1.1.2.2.2.1
    have n40 := ok.2.1
    have si := scOk_i ok k
    have re := rd_eq ok (s := s) (by omega)
    have qm : q ∉ mvL := by
      intro m
      have : ∀ x ∈ mvL, 36 ≤ x ∧ x ≤ 39 := by decide
      have := this q m
      have := K.2.2
      omega
    apply L_Walker_takeRanked_6
    by_cases c : s.1 < E 0 0
    · rw [if_pos (by omega)]
      refine ⟨t35_ SX_, ?_⟩
      refine c_X_wOver W ?_
      rw [if_pos c, if_pos rfl]
      refine ⟨t35_ SX_, ?_⟩
      have nf : scFin E s = false := by
        cases z : scFin E s
        · rfl
        · exfalso
          unfold scFin at z
          simp only [Bool.or_eq_true, Bool.and_eq_true, decide_eq_true_eq] at z
          rcases z with z | z
          · rcases k with k | k | k <;> omega
          · omega
      rw [nf, if_neg (by decide)] at re
      have re' : rd E s = (scOps E s).flatMap (bho E s.1) := re
      refine c_X_list (d := d) W k (fun h1 F1 M1 => ?_)
      have W1 := WkA_m F1 W
      have K1 := QOk_fr F1 K
      rw [re'] at t200 hr H le
      refine c_tr_18 (d := d + 3) (tot := rest) W1 k M1 t200 (fun j' r' u8 hj hr' he => ?_) (scOps E s).length 0 rest (by omega) hr rfl
      rw [he] at H le
      have mem := getD_mem' hj
      have no := scOps_ok ok k mem
      have nx := scOps_nx mem
      rw [List.length_cons] at H le
      have lq1 : h1.len q = h.len q := by rw [(fr_same F1).2.2.1]
      have tq1 := K1.1
      have t200' : (rd E ((scOps E s).getD j' op0).2.2).length ≤ 200 := by
        have : ((scOps E s).flatMap (bho E s.1)).length = (((scOps E s).take j').flatMap (bho E s.1)).length + (((scOps E s).drop j').flatMap (bho E s.1)).length := by
          rw [← List.length_append, ← List.flatMap_append, List.take_append_drop]
        rw [drop_c (z := op0) hj, List.flatMap_cons, List.length_append] at this
        have lb : (bho E s.1 ((scOps E s).getD j' op0)).length = (rd E ((scOps E s).getD j' op0).2.2).length := by unfold bho; rw [List.length_map]
        omega
      apply L_Walker_takeRanked_41
      intro x1 e1
      rw [xw_id (by omega) (by omega)] at e1
      subst e1
      rw [if_neg (by omega), if_neg (by omega), lq1]
      refine ⟨tq1, ?_⟩
      rw [if_pos (by omega)]
      refine ⟨t35_ W1.1.1.1, ?_⟩
      refine c_X_take W1 k M1 hj (fun h2 F2 W2 => ?_)
      have K2 := QOk_fr F2 K1
      have lq2 : h2.len q = h.len q := by rw [(fr_same F2).2.2.1]; exact lq1
      refine ⟨⟨K2.1, by omega, by omega⟩, ?_⟩
      intro h3 e3 x2 e2 x3 e3'
      subst e3
      rw [xw_id (by omega) (by omega)] at e2 e3'
      subst e2 e3'
      have F3 : Fr [q] [] h2 (h2.wi q (a + taken) (pk s.1 ((scOps E s).getD j' op0).1)) := Fr_cell (Fr_refl _ _ _) _ _ (by rw [List.mem_singleton])
      have W3 := WkA_q K2 F3 W2
      have K3 := QOk_fr F3 K2
      have G : Fr (q :: mvL) wkS h (h2.wi q (a + taken) (pk s.1 ((scOps E s).getD j' op0).1)) := Fr_trans (Fr_mono F1 (fun c m => List.mem_cons_of_mem _ m) (by decide)) (Fr_trans (Fr_mono F2 (fun c m => absurd m List.not_mem_nil) (by decide)) (Fr_mono F3 (fun c m => by rw [List.mem_singleton] at m; rw [m]; exact List.mem_cons_self) (fun c m => absurd m List.not_mem_nil)))
      have rq : ∀ k, h2.i q k = h.i q k := fun k => by
        rw [Fr_row F2 (c := q) List.not_mem_nil (fun x m e => by
          simp only [List.mem_cons, List.not_mem_nil, or_false] at m
          have := K.2.2
          rcases m with m | m <;> · rw [m] at e; have : (35 : Int) = q := e; omega)]
        rw [Fr_row F1 (c := q) qm (fun x m e => by
          unfold mvS at m
          rw [List.mem_singleton] at m
          have := K.2.2
          rw [m] at e; have : (35 : Int) = q := e; omega)]
      refine ih ((scOps E s).getD j' op0).2.2 _ r' a (taken + 1) (i + 1) u1 _ _ Q (by omega) W3 no.1 K3 t200' hr' (by omega) (by omega) a0 (by omega) (by show a + (taken + 1) + _ ≤ h2.len q; omega) (by show h2.len q ≤ _; omega) (fun h4 F4 q1 q2 => ?_)
      have e : taken + 1 + ((((rd E ((scOps E s).getD j' op0).2.2).getD r' []).length : Nat) : Int) = taken + ((((rd E ((scOps E s).getD j' op0).2.2).getD r' []).length + 1 : Nat) : Int) := by push_cast; omega
      rw [e]
      refine H h4 (Fr_trans G F4) (fun t ht => ?_) (fun k hk => ?_)
      · cases t with
        | zero =>
          rw [q2 _ (by omega), xi_wi, if_pos ⟨rfl, by omega⟩]; rfl
        | succ t =>
          have := q1 t (by omega)
          rw [show a + taken + ((t + 1 : Nat) : Int) = a + (taken + 1) + (t : Int) by push_cast; omega, this]; rfl
      · rw [q2 k (by push_cast at hk; omega), xi_wi, if_neg (fun z => by have := z.2; push_cast at hk; omega)]
        exact rq k
    · have eo : scOps E s = [] := by unfold scOps; rw [if_pos (by omega)]
      rw [eo] at re
      have r1 : rd E s = [[]] := by
        cases z : scFin E s
        · rw [z, if_neg (by decide)] at re
          rw [re] at hr
          exact absurd hr (Nat.not_lt_zero _)
        · rw [z, if_pos rfl] at re
          exact re
      rw [r1] at hr H
      have r0 : rest = 0 := by have : rest < 1 := hr; omega
      subst r0
      have fin : Q taken h := by
        have := H h (Fr_refl _ _ _) (fun t ht => absurd ht (Nat.not_lt_zero _)) (fun _ _ => rfl)
        have e : taken + (((([[]] : List Rd).getD 0 []).length : Nat) : Int) = taken := by show taken + ((0 : Nat) : Int) = taken; omega
        rw [e] at this
        exact this
      by_cases c2 : i < 40
      · rw [if_pos c2]
        refine ⟨t35_ SX_, ?_⟩
        refine c_X_wOver W ?_
        rw [if_neg c, if_neg (by decide)]
        exact fin
      · rw [if_neg c2]; exact fin
theorem c_X_takeR {h : xH} {Q : Int → xH → Prop} {rest : Nat} {a : Int} (W : WkA h p f E true s) (k : scOk E s) (K : QOk h p q) (t200 : (rd E s).length ≤ 200) (hr : rest < (rd E s).length) (a0 : 0 ≤ a) (le : a + ((((rd E s).getD rest []).length : Nat) : Int) ≤ h.len q) (l5 : h.len q ≤ 100000) (H : ∀ h', Fr (q :: mvL) wkS h h' → (∀ t : Nat, t < ((rd E s).getD rest []).length → h'.i q (a + t) = pk (((rd E s).getD rest []).getD t rc0).1 (((rd E s).getD rest []).getD t rc0).2.1) → (∀ k, (k < a ∨ a + ((((rd E s).getD rest []).length : Nat) : Int) ≤ k) → h'.i q k = h.i q k) → Q ((((rd E s).getD rest []).length : Nat) : Int) h') : xCi (d + 6) M_Walker_takeRanked [(1, 35), (0, (rest : Int)), (1, q), (0, a)] h Q := by
  have si := scOk_i W.1.1.2.2.2.1 k
  apply L_Walker_takeRanked
  refine c_tr_6 42 s h rest a 0 0 _ _ _ Q (by omega) W k K t200 hr (by decide) (by omega) a0 (by decide) (by omega) l5 (fun h' F q1 q2 => ?_)
  rw [Int.zero_add]
  refine H h' F (fun t ht => ?_) (fun k hk => q2 k (by omega))
  have := q1 t ht
  rw [Int.add_zero] at this
  exact this
end XQ
