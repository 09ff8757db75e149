/-! lay: the class puts readings in order -/
theorem plt_tr : ∀ {x y z : List Int}, plt x y → plt y z → plt x z := by
  intro x
  induction x with
  | nil => intro y z h _; exact False.elim h
  | cons a x ih =>
    intro y z h h'
    cases y with
    | nil => exact False.elim h
    | cons b y =>
      cases z with
      | nil => exact False.elim h'
      | cons c z =>
        rcases h with h | h
        · rcases h' with h' | h'
          · exact Or.inl (by omega)
          · exact Or.inl (by omega)
        · rcases h' with h' | h'
          · exact Or.inl (by omega)
          · exact Or.inr ⟨by omega, ih h.2 h'.2⟩
theorem plt_nil {x : List Int} (h : plt x []) : False := by
  cases x with
  | nil => exact h
  | cons a x => exact h
theorem rlt_tr {x y z : Rd} (h : rlt x y) (h' : rlt y z) : rlt x z := by
  unfold rlt at *
  rcases h with h | h
  · rcases h' with h' | h'
    · exact Or.inl (by omega)
    · exact Or.inl (by omega)
  · rcases h' with h' | h'
    · exact Or.inl (by omega)
    · exact Or.inr ⟨by omega, plt_tr h.2 h'.2⟩
def pcm (x y : Rd) : Prop := plt (pkR x) (pkR y) ∨ plt (pkR y) (pkR x)
theorem rlt_tot {x y : Rd} (h : pcm x y) (n : ¬ rlt x y) : rlt y x := by
  unfold rlt at *
  unfold pcm at h
  by_cases c : prR x = prR y
  · rcases h with h | h
    · exact absurd (Or.inr ⟨c, h⟩) n
    · exact Or.inr ⟨c.symm, h⟩
  · by_cases c2 : prR x < prR y
    · exact absurd (Or.inl c2) n
    · exact Or.inl (by omega)
/-- two readings differ at a step -/
theorem rd_cmp {E : SEn} (ok : EOk E) : ∀ (n : Nat) (s : Stt), 41 - s.1 ≤ n → scOk E s → (rd E s).Pairwise pcm := by
  intro n
  induction n with
  | zero => intro s h1 k; have := scOk_i ok k; have := ok.2.1; omega
  | succ n ih =>
    intro s h1 k
    have si := scOk_i ok k
    have n40 := ok.2.1
    rw [rd_eq ok (by omega)]
    by_cases c : scFin E s = true
    · rw [if_pos c]; exact List.Pairwise.cons (fun b m => absurd m List.not_mem_nil) List.Pairwise.nil
    · rw [if_neg c]
      have H : ∀ o ∈ scOps E s, scOk E o.2.2 ∧ s.1 < o.2.2.1 ∧ KOk o.1 := fun o m => ⟨(scOps_ok ok k m).1, (scOps_nx m).2.1, key_ok ok k m⟩
      have N := nd_ops ok k
      unfold nd at N
      revert H N
      generalize scOps E s = L
      induction L with
      | nil => intro _ _; exact List.Pairwise.nil
      | cons o L ihL =>
        intro HL P
        rw [List.pairwise_cons] at P
        have ho := HL o List.mem_cons_self
        rw [List.flatMap_cons, List.pairwise_append]
        refine ⟨?_, ihL (fun o m => HL o (List.mem_cons_of_mem _ m)) P.2, fun x hx y hy => ?_⟩
        · rw [List.pairwise_map]
          refine List.Pairwise.imp (fun {x y} hxy => ?_) (ih o.2.2 (by omega) ho.1)
          exact hxy.imp (fun z => plt_app (p := [pk s.1 o.1]) z) (fun z => plt_app (p := [pk s.1 o.1]) z)
        · rw [List.mem_map] at hx
          obtain ⟨r, -, e⟩ := hx
          rw [List.mem_flatMap] at hy
          obtain ⟨o', ho', hy⟩ := hy
          rw [List.mem_map] at hy
          obtain ⟨r', -, e'⟩ := hy
          have ne := P.1 o' ho'
          have np : pk s.1 o.1 ≠ pk s.1 o'.1 := fun z => ne (kk_inj ho.2.2 (HL o' (List.mem_cons_of_mem _ ho')).2.2 z)
          subst e e'
          by_cases c : pk s.1 o.1 < pk s.1 o'.1
          · exact Or.inl (Or.inl c)
          · exact Or.inr (Or.inl (show pk s.1 o'.1 < pk s.1 o.1 by omega))
/-- into a row in order -/
theorem insX {P : List Rd} {x : Rd} {t : Nat} (ht : t ≤ P.length) (pw : P.Pairwise rlt) (h1 : ∀ j, t ≤ j → j < P.length → rlt x (P.getD j [])) (h0 : t = 0 ∨ ¬ rlt x (P.getD (t - 1) [])) (hp : ∀ y ∈ P, pcm x y) : (P.take t ++ x :: P.drop t).Pairwise rlt := by
  rw [List.pairwise_append, List.pairwise_cons]
  have pw' := pw
  rw [← List.take_append_drop t P, List.pairwise_append] at pw'
  have hlt : ∀ j, j < t → rlt (P.getD j []) x := fun j hj => by
    have z := h0.resolve_left (by omega)
    have y := rlt_tot (hp _ (getD_mem [] (by omega))) z
    by_cases c : j = t - 1
    · rw [c]; exact y
    · exact rlt_tr (pw_get pw (by omega) (by omega)) y
  refine ⟨pw'.1, ⟨fun b hb => ?_, pw'.2.1⟩, fun a ha b hb => ?_⟩
  · obtain ⟨j, hj, e⟩ := List.mem_iff_getElem.mp hb
    rw [List.getElem_drop] at e
    rw [List.length_drop] at hj
    have := h1 (t + j) (by omega) (by omega)
    rw [List.getD_eq_getElem?_getD, List.getElem?_eq_getElem (by omega)] at this
    rw [← e]; exact this
  · rw [List.mem_cons] at hb
    rcases hb with hb | hb
    · rw [hb]
      obtain ⟨j, hj, e⟩ := List.mem_iff_getElem.mp ha
      rw [List.length_take] at hj
      rw [List.getElem_take] at e
      have := hlt j (by omega)
      rw [List.getD_eq_getElem?_getD, List.getElem?_eq_getElem (by omega)] at this
      rw [← e]; exact this
    · exact pw'.2.2 a ha b hb
section XO
variable {p f : Int} {E : SEn} {b : Bool} {d : Nat} {q : Int}
/-- the price of a way; its licence -/
def wp (E : SEn) (w : Int) : Int := if w = 1 then E 13 2 else if w = 2 then E 13 3 else if w = 3 then E 13 1 else if w = 4 then E 13 0 else if w = 5 then E 13 4 else 0
def lic (w : Int) : Int := if w = 1 then 2 else if w = 2 then 3 else if w = 3 then 1 else if w = 4 then 0 else if w = 5 then 4 else -1
theorem lic_wp (w : Int) : (lic w = -1 ∧ wp E w = 0) ∨ (0 ≤ lic w ∧ lic w < 5 ∧ wp E w = E 13 (lic w)) := by
  unfold lic wp
  by_cases c1 : w = 1
  · rw [if_pos c1, if_pos c1]; exact Or.inr ⟨by decide, by decide, rfl⟩
  rw [if_neg c1, if_neg c1]
  by_cases c2 : w = 2
  · rw [if_pos c2, if_pos c2]; exact Or.inr ⟨by decide, by decide, rfl⟩
  rw [if_neg c2, if_neg c2]
  by_cases c3 : w = 3
  · rw [if_pos c3, if_pos c3]; exact Or.inr ⟨by decide, by decide, rfl⟩
  rw [if_neg c3, if_neg c3]
  by_cases c4 : w = 4
  · rw [if_pos c4, if_pos c4]; exact Or.inr ⟨by decide, by decide, rfl⟩
  rw [if_neg c4, if_neg c4]
  by_cases c5 : w = 5
  · rw [if_pos c5, if_pos c5]; exact Or.inr ⟨by decide, by decide, rfl⟩
  rw [if_neg c5, if_neg c5]; exact Or.inl ⟨rfl, rfl⟩
theorem ops_wp (ok : EOk E) {s : Stt} (k : scOk E s) {o : Op_} (m : o ∈ scOps E s) : o.2.1 = wp E o.1.1 := by
  rcases ops_cases ok k m with ⟨h0, e⟩ | ⟨h0, e⟩ | ⟨q, g, c, w, q0, q1, g0, g1, st, hc, hw, ho, -⟩
  · rw [e]
    show scLs E s.1 = E 13 0
    unfold scLs at h0 ⊢
    by_cases z : scLose E s.1 = true
    · rw [if_pos z]
    · rw [if_neg z] at h0; exact absurd h0 (by decide)
  · rw [e]
    show scEx E s.1 = E 13 4
    unfold scEx at h0 ⊢
    by_cases z : 0 < s.1 ∧ s.1 + 1 = E 0 0 ∧ E 1 s.1 ≠ 1
    · rw [if_pos z]
    · rw [if_neg z] at h0; exact absurd h0 (by decide)
  · have kw := (ch_ok (sc_stand ok g0 g1 st) hc hw).2
    rcases sc1_mem ho with ⟨-, -, -, z | z⟩
    · obtain ⟨-, z0, z1, z2⟩ := z
      rw [z1, z2]
      show scOwn E w.1 s.1 = wp E (scWay E w.1 s.1)
      have i := scOwn_n z0
      have em := ok.2.2.1 s.1 i.1 i.2
      unfold scOwn at z0 ⊢
      rw [if_neg (by omega)] at z0 ⊢
      unfold scWay scAs wp
      have e : w.1 = 1 ∨ w.1 = 2 ∨ w.1 = 3 := by omega
      generalize E 1 s.1 = m at *
      have e1 : m = 1 ∨ m = 2 ∨ m = 3 := by omega
      rcases e with e | e | e <;> rcases e1 with e1 | e1 | e1 <;> first | (simp [e, e1]; done) | (by_cases c : s.1 = 0 <;> simp [e, e1, c] at z0 ⊢ <;> omega)
    · obtain ⟨-, -, z0, z1, z2⟩ := z
      rw [z1, z2]
      show scMl E s.1 = E 13 1
      unfold scMl at z0 ⊢
      by_cases z : scMelt E s.1 = true
      · rw [if_pos z]
      · rw [if_neg z] at z0; exact absurd z0 (by decide)
theorem rd_wp (ok : EOk E) : ∀ (n : Nat) (s : Stt), 41 - s.1 ≤ n → scOk E s → ∀ r ∈ rd E s, ∀ a ∈ r, a.2.2.1 = wp E a.2.1.1 := by
  intro n
  induction n with
  | zero => intro s h1 k; have := scOk_i ok k; have := ok.2.1; omega
  | succ n ih =>
    intro s h1 k r hr
    have si := scOk_i ok k
    have n40 := ok.2.1
    rw [rd_eq ok (by omega)] at hr
    by_cases c : scFin E s = true
    · rw [if_pos c, List.mem_singleton] at hr
      subst hr
      exact fun a m => absurd m List.not_mem_nil
    · rw [if_neg c, List.mem_flatMap] at hr
      obtain ⟨o, ho, hr⟩ := hr
      rw [List.mem_map] at hr
      obtain ⟨r', hr', e⟩ := hr
      have z := scOps_nx ho
      have y := scOps_ok ok k ho
      have q := ih o.2.2 (by omega) y.1 r' hr'
      subst e
      intro a m
      rw [List.mem_cons] at m
      rcases m with m | m
      · rw [m]; exact ops_wp ok k ho
      · exact q a m
def RdG (E : SEn) (x : Rd) : Prop := (x.length : Int) ≤ E 0 0 ∧ ∀ a ∈ x, KOk a.2.1 ∧ 0 ≤ a.1 ∧ a.1 < E 0 0 ∧ 0 ≤ a.2.2.1 ∧ a.2.2.1 ≤ 50 ∧ a.2.2.1 = wp E a.2.1.1
theorem rd_G (ok : EOk E) {x : Rd} (m : x ∈ rd E st0) : RdG E x := by
  have a := rd_ok ok 41 st0 (by decide) st0_ok x m
  have w := rd_wp ok 41 st0 (by decide) st0_ok x m
  refine ⟨by have e : st0.1 = 0 := rfl; rw [e] at a; omega, fun y hy => ?_⟩
  have z := a.2 y hy
  exact ⟨z.1, z.2.1, z.2.2.1, z.2.2.2.1, z.2.2.2.2, w y hy⟩
theorem rtake {x : Rd} {j : Nat} (hj : j < x.length) : x.take (j + 1) = x.take j ++ [x.getD j rc0] := by
  rw [List.take_add_one, List.getD_eq_getElem?_getD, List.getElem?_eq_getElem hj]; rfl
theorem prR_bd : ∀ {x : Rd}, (∀ a ∈ x, 0 ≤ a.2.2.1 ∧ a.2.2.1 ≤ 50) → 0 ≤ prR x ∧ prR x ≤ 50 * (x.length : Int) := by
  intro x
  induction x with
  | nil => intro _; exact ⟨Int.le_refl _, Int.le_refl _⟩
  | cons a x ih =>
    intro H
    have i := ih (fun a m => H a (List.mem_cons_of_mem _ m))
    have z := H a List.mem_cons_self
    have e : prR (a :: x) = a.2.2.1 + prR x := by unfold prR; rw [List.map_cons, List.sum_cons]
    rw [e, List.length_cons]
    push_cast
    omega
theorem c_X_lic {h : xH} {Q : Int → xH → Prop} {i : Int} {k : Key} (K : KOk k) (i0 : 0 ≤ i) (i1 : i ≤ 40) (H : Q (lic k.1) h) : xCi (d + 2) M_Walker_licenceOf [(0, pk i k)] h Q := by
  have b := pk_bd K i0 i1
  have s := spart_pk K i0 i1 (w := 1) (by decide) (by decide)
  have e : pk i k / 4096 % 16 = k.1 := s
  apply L_Walker_licenceOf
  refine c_X_wayOf b.1 b.2 ?_
  rw [e]
  unfold lic at H
  by_cases c1 : k.1 = 1
  · rw [if_pos c1] at H ⊢; exact H
  rw [if_neg c1] at H ⊢
  by_cases c2 : k.1 = 2
  · rw [if_pos c2] at H ⊢; exact H
  rw [if_neg c2] at H ⊢
  by_cases c3 : k.1 = 3
  · rw [if_pos c3] at H ⊢; exact H
  rw [if_neg c3] at H ⊢
  by_cases c4 : k.1 = 4
  · rw [if_pos c4] at H ⊢; exact H
  rw [if_neg c4] at H ⊢
  by_cases c5 : k.1 = 5
  · rw [if_pos c5] at H ⊢; exact H
  rw [if_neg c5] at H ⊢
  exact H
theorem t40_ {h : xH} (SX_ : SX h) : h.tag 40 = 7 := by simp only [sxt SX_, sxl SX_, sxf SX_, true_and, and_true, false_and, and_false, forall_eq, forall_eq', xi_wi, xr_wi, xt_wi, xl_wi, xn_wi, xs_wi, xi_wr, xr_wr, xt_wr, xl_wr, xn_wr, xs_wr, if_true, if_false, and_self, Int.reduceEq, Int.reduceLT, Int.reduceLE, Int.reduceNeg, Int.le_refl, Int.reduceMod]
theorem c_po_4 {h : xH} {Q : Int → xH → Prop} {x : Rd} {a : Int} {u1 : xV} (X : XEn h p f E) (e3 : h.r 40 3 = q) (tq : h.tag q = 20) (lq : h.len q ≤ 100000) (G : RdG E x) (a0 : 0 ≤ a) (al : a + ((x.length : Nat) : Int) ≤ h.len q) (St : ∀ t : Nat, t < x.length → h.i q (a + t) = pk (x.getD t rc0).1 (x.getD t rc0).2.1) (H : Q (prR x) h) : ∀ (m j : Nat) (u5 : xV), j + m = x.length → xT (d + 2) M_Readings_priceOfSteps 4 [(1, 40), u1, (0, a + ((x.length : Nat) : Int)), (0, prR (x.take j)), (0, a + (j : Int)), u5] [] h (xqi Q) := by
  have SX_ := X.1
  have n40 := X.2.2.2.1.2.1
  intro m
  induction m with
  | zero =>
    intro j u5 hj
    apply L_Readings_priceOfSteps_4
    rw [if_neg (by omega), if_neg (by omega), List.take_of_length_le (by omega)]
    exact H
  | succ m ih =>
    intro j u5 hj
    have jl : j < x.length := by omega
    have g := G.2 _ (getD_mem rc0 jl)
    have G1 := G.1
    have pb := prR_bd (x := x.take j) (fun a m => by have := (G.2 a (List.mem_of_mem_take m)).2.2.2; exact ⟨this.1, this.2.1⟩)
    have lt := List.length_take_le j x
    have eT : prR (x.take (j + 1)) = prR (x.take j) + wp E (x.getD j rc0).2.1.1 := by rw [rtake jl, prR_app, g.2.2.2.2.2]
    have hL := lic_wp (E := E) (x.getD j rc0).2.1.1
    have gw := g.2.2.2.2.2
    apply L_Readings_priceOfSteps_4
    rw [if_neg (show ¬ (a + (j : Int) < 0) by omega), if_pos (show a + (j : Int) < a + ((x.length : Nat) : Int) by omega)]
    simp only [sxt SX_, sxl SX_, sxf SX_, e3, tq, true_and, and_true, false_and, and_false, forall_eq, forall_eq', xi_wi, xr_wi, xt_wi, xl_wi, xn_wi, xs_wi, xi_wr, xr_wr, xt_wr, xl_wr, xn_wr, xs_wr, if_true, if_false, and_self, Int.reduceEq, Int.reduceLT, Int.reduceLE, Int.reduceNeg, Int.le_refl, Int.reduceMod]
    rw [if_pos (show a + (j : Int) < h.len q by omega)]
    refine ⟨⟨by omega, by omega⟩, ?_⟩
    rw [St j jl]
    refine c_X_lic (d := d) g.1 g.2.1 (by omega) ?_
    have nxt : ∀ (T : Int) (u5 : xV), T = prR (x.take (j + 1)) → xT (d + 2) M_Readings_priceOfSteps 4 [(1, 40), u1, (0, a + ((x.length : Nat) : Int)), (0, T), (0, a + (j : Int) + 1), u5] [] h (xqi Q) := fun T u5 hT => by
      subst hT
      have := ih (j + 1) u5 (by omega)
      rw [show a + ((j + 1 : Nat) : Int) = a + (j : Int) + 1 by push_cast; omega] at this
      exact this
    rw [← gw] at hL eT
    generalize lic (x.getD j rc0).2.1.1 = L at *
    have x2 : ∀ z : Int, z = a + (j : Int) + 1 → xw z = z := fun z hz => xw_id (by omega) (by omega)
    rcases hL with ⟨l0, l1⟩ | ⟨l0, l1, l2⟩
    · rw [if_pos l0, x2 _ rfl, xw_id (a := prR (x.take j) + 0) (by omega) (by omega)]
      exact nxt _ _ (by omega)
    · rw [if_neg (by omega)]
      simp only [sxt SX_, sxl SX_, sxf SX_, true_and, and_true, false_and, and_false, forall_eq, forall_eq', xi_wi, xr_wi, xt_wi, xl_wi, xn_wi, xs_wi, xi_wr, xr_wr, xt_wr, xl_wr, xn_wr, xs_wr, if_true, if_false, and_self, Int.reduceEq, Int.reduceLT, Int.reduceLE, Int.reduceNeg, Int.le_refl, Int.reduceMod]
      refine c_X_price (d := d + 1) X l0 l1 ?_
      rw [x2 _ rfl, ← l2, xw_id (a := prR (x.take j) + (x.getD j rc0).2.2.1) (by omega) (by omega)]
      exact nxt _ _ (by omega)
theorem c_X_pos {h : xH} {Q : Int → xH → Prop} {x : Rd} {a c : Int} (X : XEn h p f E) (e3 : h.r 40 3 = q) (tq : h.tag q = 20) (lq : h.len q ≤ 100000) (G : RdG E x) (a0 : 0 ≤ a) (hc : c = a + ((x.length : Nat) : Int)) (al : c ≤ h.len q) (St : ∀ t : Nat, t < x.length → h.i q (a + t) = pk (x.getD t rc0).1 (x.getD t rc0).2.1) (H : Q (prR x) h) : xCi (d + 3) M_Readings_priceOfSteps [(1, 40), (0, a), (0, c)] h Q := by
  subst hc
  apply L_Readings_priceOfSteps
  have := c_po_4 (d := d) (u1 := (0, a)) X e3 tq lq G a0 al St H x.length 0 (9, 0) (by omega)
  rw [Int.natCast_zero, Int.add_zero] at this
  exact this
/-- reading number a of the class -/
def RdX (h : xH) (q B a : Int) (x : Rd) : Prop := 0 ≤ h.i 42 a ∧ h.i 42 (a + 1) = h.i 42 a + ((x.length : Nat) : Int) ∧ h.i 42 (a + 1) ≤ B ∧ h.i 43 a = prR x ∧ ∀ t : Nat, t < x.length → h.i q (h.i 42 a + t) = pk (x.getD t rc0).1 (x.getD t rc0).2.1
theorem pk_drop {x : Rd} {j : Nat} (hj : j < x.length) : (pkR x).drop j = pk (x.getD j rc0).1 (x.getD j rc0).2.1 :: (pkR x).drop (j + 1) := by
  have l : j < (pkR x).length := by unfold pkR; rw [List.length_map]; exact hj
  rw [drop_c (z := 0) l]
  unfold pkR
  rw [map_gd (z := rc0) hj]
theorem c_ah_48 {h : xH} {Q : Int → xH → Prop} {x y : Rd} {B a c : Int} {N : Nat} (SX_ : SX h) (e3 : h.r 40 3 = q) (tq : h.tag q = 20) (lB : B ≤ h.len q) (lq : h.len q ≤ 100000) (A : RdX h q B a x) (C : RdX h q B c y) (a0 : 0 ≤ a) (a1 : a < 200) (c0 : 0 ≤ c) (c1 : c < 200) (N0 : N ≤ x.length) (N1 : N ≤ y.length) (N2 : N = x.length ∨ N = y.length) : ∀ (m j : Nat) (u5 u6 : xV), j + m = N → (plt ((pkR x).drop j) ((pkR y).drop j) → Q 1 h) → (¬ plt ((pkR x).drop j) ((pkR y).drop j) → Q 0 h) → xT (d + 1) M_Readings_isAhead 48 [(1, 40), (0, a), (0, c), (0, (N : Int)), (0, (j : Int)), u5, u6] [] h (xqi Q) := by
  obtain ⟨A1, A2, A3, A4, A5⟩ := A
  obtain ⟨C1, C2, C3, C4, C5⟩ := C
  intro m
  induction m with
  | zero =>
    intro j u5 u6 hj H1 H0
    apply L_Readings_isAhead_48
    rw [if_neg (by omega)]
    refine H0 (fun z => ?_)
    rcases N2 with e | e
    · rw [List.drop_of_length_le (by unfold pkR; rw [List.length_map]; omega)] at z
      exact z
    · rw [List.drop_of_length_le (l := pkR y) (by unfold pkR; rw [List.length_map]; omega)] at z
      exact plt_nil z
  | succ m ih =>
    intro j u5 u6 hj H1 H0
    have e124 : ∀ z : Int, (z = h.i 42 a + (j : Int) → xw z = z) ∧ (z = h.i 42 c + (j : Int) → xw z = z) ∧ (z = (j : Int) + 1 → xw z = ((j + 1 : Nat) : Int)) := fun z => ⟨fun hz => xw_id (by omega) (by omega), fun hz => xw_id (by omega) (by omega), fun hz => by rw [xw_id (by omega) (by omega), hz]; push_cast; rfl⟩
    rw [pk_drop (x := x) (j := j) (by omega), pk_drop (x := y) (j := j) (by omega)] at H1 H0
    have sa := A5 j (by omega)
    have sc := C5 j (by omega)
    apply L_Readings_isAhead_48
    rw [if_pos (by omega)]
    simp only [sxt SX_, sxl SX_, sxf SX_, e3, tq, (e124 _).1 rfl, (e124 _).2.1 rfl, (e124 _).2.2 rfl, sa, sc, true_and, and_true, false_and, and_false, forall_eq, forall_eq', xi_wi, xr_wi, xt_wi, xl_wi, xn_wi, xs_wi, xi_wr, xr_wr, xt_wr, xl_wr, xn_wr, xs_wr, if_true, if_false, and_self, Int.reduceEq, Int.reduceLT, Int.reduceLE, Int.reduceNeg, Int.le_refl, Int.reduceMod]
    refine ⟨⟨a0, by omega⟩, ⟨c0, by omega⟩, ?_⟩
    rw [if_neg (by omega), if_neg (by omega), if_pos (by omega), if_pos (by omega)]
    refine ⟨⟨by omega, by omega⟩, ⟨by omega, by omega⟩, ?_⟩
    generalize pk (x.getD j rc0).1 (x.getD j rc0).2.1 = u at *
    generalize pk (y.getD j rc0).1 (y.getD j rc0).2.1 = v at *
    by_cases e : u = v
    · rw [if_pos e]
      exact ih (j + 1) _ _ (by omega) (fun z => H1 (Or.inr ⟨e, z⟩)) (fun z => H0 (fun w => by
        rcases w with w | w
        · omega
        · exact z w.2))
    · rw [if_neg e]
      refine ⟨⟨by omega, by omega⟩, ⟨by omega, by omega⟩, ?_⟩
      by_cases l : u < v
      · rw [if_pos l]; exact H1 (Or.inl l)
      · rw [if_neg l]; exact H0 (fun w => by
          rcases w with w | w
          · omega
          · exact e w.1)
theorem c_X_ahead {h : xH} {Q : Int → xH → Prop} {x y : Rd} {B a c : Int} (SX_ : SX h) (e3 : h.r 40 3 = q) (tq : h.tag q = 20) (lB : B ≤ h.len q) (lq : h.len q ≤ 100000) (A : RdX h q B a x) (C : RdX h q B c y) (a0 : 0 ≤ a) (a1 : a < 200) (c0 : 0 ≤ c) (c1 : c < 200) (H1 : rlt x y → Q 1 h) (H0 : ¬ rlt x y → Q 0 h) : xCi (d + 2) M_Readings_isAhead [(1, 40), (0, a), (0, c)] h Q := by
  have A2 := A.2.1
  have A3 := A.2.2.1
  have C2 := C.2.1
  have C3 := C.2.2.1
  have A1 := A.1
  have C1 := C.1
  apply L_Readings_isAhead
  simp only [sxt SX_, sxl SX_, sxf SX_, e3, tq, true_and, and_true, false_and, and_false, forall_eq, forall_eq', xi_wi, xr_wi, xt_wi, xl_wi, xn_wi, xs_wi, xi_wr, xr_wr, xt_wr, xl_wr, xn_wr, xs_wr, if_true, if_false, and_self, Int.reduceEq, Int.reduceLT, Int.reduceLE, Int.reduceNeg, Int.le_refl, Int.reduceMod]
  refine ⟨⟨a0, a1⟩, ⟨c0, c1⟩, ?_⟩
  rw [A.2.2.2.1, C.2.2.2.1]
  unfold rlt at H1 H0
  by_cases e : prR x = prR y
  · rw [if_pos e, xw_id (a := a + 1) (by omega) (by omega), xw_id (a := c + 1) (by omega) (by omega), A2, C2]
    refine ⟨⟨by omega, by omega⟩, ⟨by omega, by omega⟩, ⟨by omega, by omega⟩, ⟨by omega, by omega⟩, ?_⟩
    rw [show h.i 42 a + ((x.length : Nat) : Int) - h.i 42 a = ((x.length : Nat) : Int) by omega, show h.i 42 c + ((y.length : Nat) : Int) - h.i 42 c = ((y.length : Nat) : Int) by omega, xw_id (a := ((x.length : Nat) : Int)) (by omega) (by omega), xw_id (a := ((y.length : Nat) : Int)) (by omega) (by omega)]
    have g := c_ah_48 (d := d) (Q := Q) (N := min x.length y.length) SX_ e3 tq lB lq A C a0 a1 c0 c1 (Nat.min_le_left _ _) (Nat.min_le_right _ _) (by omega) (min x.length y.length) 0 (9, 0) (9, 0) (by omega) (fun z => H1 (Or.inr ⟨e, z⟩)) (fun z => H0 (fun w => by
      rcases w with w | w
      · omega
      · exact z w.2))
    by_cases l : ((y.length : Nat) : Int) < ((x.length : Nat) : Int)
    · rw [if_pos l]
      rw [show min x.length y.length = y.length by omega] at g
      exact g
    · rw [if_neg l]
      rw [show min x.length y.length = x.length by omega] at g
      exact g
  · rw [if_neg e]
    refine ⟨⟨a0, a1⟩, ⟨c0, c1⟩, ?_⟩
    by_cases l : prR x < prR y
    · rw [if_pos l]; exact H1 (Or.inl l)
    · rw [if_neg l]; exact H0 (fun w => by
        rcases w with w | w
        · omega
        · exact e w.1)
theorem c_pio_20 {Q : xH → Prop} {r t : Int} (t0 : 0 ≤ t) : ∀ (m : Nat) (h : xH) (i : Int), SX h → i = t + m → i < 200 → 0 ≤ h.i 40 7 → h.i 40 7 < 1000 → (∀ h', Fr [44] [(40, 7)] h h' → (∀ k, (k < t ∨ i < k) → h'.i 44 k = h.i 44 k) → h'.i 44 t = r → (∀ k, t < k → k ≤ i → h'.i 44 k = h.i 44 (k - 1)) → h'.i 40 7 = h.i 40 7 + 1 → Q h') → xT d M_Readings_putInOrder 20 [(1, 40), (0, r), (0, t), (0, i)] [] h (xqv Q) := by
  intro m
  induction m with
  | zero =>
    intro h i SX_ hi il s0 s1 H
    apply L_Readings_putInOrder_20
    rw [if_neg (by omega)]
    simp only [sxt SX_, sxl SX_, sxf SX_, true_and, and_true, false_and, and_false, forall_eq, forall_eq', xi_wi, xr_wi, xt_wi, xl_wi, xn_wi, xs_wi, xi_wr, xr_wr, xt_wr, xl_wr, xn_wr, xs_wr, if_true, if_false, and_self, Int.reduceEq, Int.reduceLT, Int.reduceLE, Int.reduceNeg, Int.le_refl, Int.reduceMod]
    refine ⟨⟨t0, by omega⟩, ?_⟩
    rw [xw_id (by omega) (by omega)]
    refine H _ (Fr_slot (Fr_cell (Fr_refl _ _ _) _ _ (by decide)) _ (by decide)) (fun k hk => ?_) ?_ (fun k k0 k1 => by omega) ?_
    · simp only [true_and, and_true, false_and, and_false, forall_eq, forall_eq', xi_wi, xr_wi, xt_wi, xl_wi, xn_wi, xs_wi, xi_wr, xr_wr, xt_wr, xl_wr, xn_wr, xs_wr, if_true, if_false, and_self, Int.reduceEq, Int.reduceLT, Int.reduceLE, Int.reduceNeg, Int.le_refl, Int.reduceMod]
      rw [if_neg (by omega)]
    · simp only [true_and, and_true, false_and, and_false, forall_eq, forall_eq', xi_wi, xr_wi, xt_wi, xl_wi, xn_wi, xs_wi, xi_wr, xr_wr, xt_wr, xl_wr, xn_wr, xs_wr, if_true, if_false, and_self, Int.reduceEq, Int.reduceLT, Int.reduceLE, Int.reduceNeg, Int.le_refl, Int.reduceMod]
    · simp only [true_and, and_true, false_and, and_false, forall_eq, forall_eq', xi_wi, xr_wi, xt_wi, xl_wi, xn_wi, xs_wi, xi_wr, xr_wr, xt_wr, xl_wr, xn_wr, xs_wr, if_true, if_false, and_self, Int.reduceEq, Int.reduceLT, Int.reduceLE, Int.reduceNeg, Int.le_refl, Int.reduceMod]
  | succ m ih =>
    intro h i SX_ hi il s0 s1 H
    apply L_Readings_putInOrder_20
    rw [if_pos (by omega), xw_id (a := i - 1) (by omega) (by omega), xw_id (a := i + -1) (by omega) (by omega)]
    simp only [sxt SX_, sxl SX_, sxf SX_, true_and, and_true, false_and, and_false, forall_eq, forall_eq', xi_wi, xr_wi, xt_wi, xl_wi, xn_wi, xs_wi, xi_wr, xr_wr, xt_wr, xl_wr, xn_wr, xs_wr, if_true, if_false, and_self, Int.reduceEq, Int.reduceLT, Int.reduceLE, Int.reduceNeg, Int.le_refl, Int.reduceMod]
    refine ⟨⟨by omega, by omega⟩, ⟨by omega, by omega⟩, ?_⟩
    refine ih _ (i + -1) (SX_2 (h := h) rfl SX_) (by omega) (by omega) s0 s1 (fun h' F q1 q2 q3 q4 => H h' (Fr_trans (Fr_cell (Fr_refl _ _ _) _ _ (by decide)) F) (fun k hk => ?_) q2 (fun k k0 k1 => ?_) ?_)
    · rw [q1 k (by omega)]
      simp only [true_and, and_true, false_and, and_false, forall_eq, forall_eq', xi_wi, xr_wi, xt_wi, xl_wi, xn_wi, xs_wi, xi_wr, xr_wr, xt_wr, xl_wr, xn_wr, xs_wr, if_true, if_false, and_self, Int.reduceEq, Int.reduceLT, Int.reduceLE, Int.reduceNeg, Int.le_refl, Int.reduceMod]
      rw [if_neg (by omega)]
    · by_cases c : k = i
      · rw [q1 k (by omega), c]
        simp only [true_and, and_true, false_and, and_false, forall_eq, forall_eq', xi_wi, xr_wi, xt_wi, xl_wi, xn_wi, xs_wi, xi_wr, xr_wr, xt_wr, xl_wr, xn_wr, xs_wr, if_true, if_false, and_self, Int.reduceEq, Int.reduceLT, Int.reduceLE, Int.reduceNeg, Int.le_refl, Int.reduceMod]
      · rw [q3 k k0 (by omega)]
        simp only [true_and, and_true, false_and, and_false, forall_eq, forall_eq', xi_wi, xr_wi, xt_wi, xl_wi, xn_wi, xs_wi, xi_wr, xr_wr, xt_wr, xl_wr, xn_wr, xs_wr, if_true, if_false, and_self, Int.reduceEq, Int.reduceLT, Int.reduceLE, Int.reduceNeg, Int.le_refl, Int.reduceMod]
        rw [if_neg (by omega)]
    · rw [q4]; simp only [true_and, and_true, false_and, and_false, forall_eq, forall_eq', xi_wi, xr_wi, xt_wi, xl_wi, xn_wi, xs_wi, xi_wr, xr_wr, xt_wr, xl_wr, xn_wr, xs_wr, if_true, if_false, and_self, Int.reduceEq, Int.reduceLT, Int.reduceLE, Int.reduceNeg, Int.le_refl, Int.reduceMod]
/-- the class' readings in their order -/
def OrdX (h : xH) (q B : Int) (n : Nat) (P : List Rd) : Prop := h.i 40 7 = ((P.length : Nat) : Int) ∧ P.length ≤ n ∧ ∀ j : Nat, j < P.length → 0 ≤ h.i 44 j ∧ h.i 44 j < (n : Int) ∧ RdX h q B (h.i 44 j) (P.getD j [])
theorem c_pio_3 {h : xH} {Q : xH → Prop} {B : Int} {P : List Rd} {x : Rd} {n : Nat} (SX_ : SX h) (e3 : h.r 40 3 = q) (tq : h.tag q = 20) (lB : B ≤ h.len q) (lq : h.len q ≤ 100000) (O : OrdX h q B n P) (A : RdX h q B (n : Int) x) (n2 : n < 200) (H : ∀ t : Nat, t ≤ P.length → (∀ j, t ≤ j → j < P.length → rlt x (P.getD j [])) → (t = 0 ∨ ¬ rlt x (P.getD (t - 1) [])) → xT (d + 2) M_Readings_putInOrder 20 [(1, 40), (0, (n : Int)), (0, (t : Int)), (0, ((P.length : Nat) : Int))] [] h (xqv Q)) : ∀ (t : Nat) (u3 : xV), t ≤ P.length → (∀ j, t ≤ j → j < P.length → rlt x (P.getD j [])) → xT (d + 2) M_Readings_putInOrder 3 [(1, 40), (0, (n : Int)), (0, (t : Int)), u3] [] h (xqv Q) := by
  have O1 := O.1
  have O2 := O.2.1
  intro t
  induction t with
  | zero =>
    intro u3 ht hj
    apply L_Readings_putInOrder_3
    rw [if_neg (by decide)]
    simp only [sxt SX_, sxl SX_, sxf SX_, O1, true_and, and_true, false_and, and_false, forall_eq, forall_eq', xi_wi, xr_wi, xt_wi, xl_wi, xn_wi, xs_wi, xi_wr, xr_wr, xt_wr, xl_wr, xn_wr, xs_wr, if_true, if_false, and_self, Int.reduceEq, Int.reduceLT, Int.reduceLE, Int.reduceNeg, Int.le_refl, Int.reduceMod]
    exact H 0 ht hj (Or.inl rfl)
  | succ t ih =>
    intro u3 ht hj
    have o := O.2.2 t (by omega)
    apply L_Readings_putInOrder_3
    rw [if_pos (by push_cast; omega), show ((t + 1 : Nat) : Int) - 1 = (t : Int) by push_cast; omega, xw_id (a := (t : Int)) (by omega) (by omega)]
    simp only [sxt SX_, sxl SX_, sxf SX_, true_and, and_true, false_and, and_false, forall_eq, forall_eq', xi_wi, xr_wi, xt_wi, xl_wi, xn_wi, xs_wi, xi_wr, xr_wr, xt_wr, xl_wr, xn_wr, xs_wr, if_true, if_false, and_self, Int.reduceEq, Int.reduceLT, Int.reduceLE, Int.reduceNeg, Int.le_refl, Int.reduceMod]
    refine ⟨⟨by omega, by omega⟩, ?_⟩
    refine c_X_ahead (d := d) SX_ e3 tq lB lq A o.2.2 (by omega) (by omega) o.1 (by omega) (fun z => ?_) (fun z => ?_)
    · rw [if_neg (by decide), show ((t + 1 : Nat) : Int) + -1 = (t : Int) by push_cast; omega, xw_id (a := (t : Int)) (by omega) (by omega)]
      exact ih u3 (by omega) (fun j j0 j1 => by
        by_cases c : j = t
        · rw [c]; exact z
        · exact hj j (by omega) j1)
    · rw [if_pos rfl]
      simp only [sxt SX_, sxl SX_, sxf SX_, O1, true_and, and_true, false_and, and_false, forall_eq, forall_eq', xi_wi, xr_wi, xt_wi, xl_wi, xn_wi, xs_wi, xi_wr, xr_wr, xt_wr, xl_wr, xn_wr, xs_wr, if_true, if_false, and_self, Int.reduceEq, Int.reduceLT, Int.reduceLE, Int.reduceNeg, Int.le_refl, Int.reduceMod]
      exact H (t + 1) ht hj (Or.inr z)
theorem RdX_fr {h h' : xH} {B c : Int} {x : Rd} (k1 : h'.i 42 = h.i 42) (k2 : h'.i 43 = h.i 43) (k3 : h'.i q = h.i q) (A : RdX h q B c x) : RdX h' q B c x := by
  unfold RdX at A ⊢
  rw [k1, k2, k3]; exact A
theorem c_X_putIn {h : xH} {Q : xH → Prop} {B : Int} {P : List Rd} {x : Rd} {n : Nat} (SX_ : SX h) (e3 : h.r 40 3 = q) (tq : h.tag q = 20) (q4 : q ≠ 44 ∧ q ≠ 40) (lB : B ≤ h.len q) (lq : h.len q ≤ 100000) (O : OrdX h q B n P) (A : RdX h q B (n : Int) x) (n2 : n < 200) (pw : P.Pairwise rlt) (cm : ∀ y ∈ P, pcm x y) (H : ∀ h' P', Fr [44] [(40, 7)] h h' → OrdX h' q B (n + 1) P' → P'.Perm (P ++ [x]) → P'.length = P.length + 1 → P'.Pairwise rlt → Q h') : xCv (d + 3) M_Readings_putInOrder [(1, 40), (0, (n : Int))] h Q := by
  have O1 := O.1
  have O2 := O.2.1
  apply L_Readings_putInOrder
  simp only [sxt SX_, sxl SX_, sxf SX_, O1, true_and, and_true, false_and, and_false, forall_eq, forall_eq', xi_wi, xr_wi, xt_wi, xl_wi, xn_wi, xs_wi, xi_wr, xr_wr, xt_wr, xl_wr, xn_wr, xs_wr, if_true, if_false, and_self, Int.reduceEq, Int.reduceLT, Int.reduceLE, Int.reduceNeg, Int.le_refl, Int.reduceMod]
  refine c_pio_3 (d := d) SX_ e3 tq lB lq O A n2 (fun t ht h1 h0 => ?_) P.length _ (Nat.le_refl _) (fun j j0 j1 => by omega)
  refine c_pio_20 (by omega) (P.length - t) h _ SX_ (by omega) (by omega) (by omega) (by omega) (fun h' F q1 q2 q3 q5 => ?_)
  refine H h' (P.take t ++ x :: P.drop t) F ⟨?_, ?_, fun j hj => ?_⟩ gInsPerm (gInsLen ht) (insX ht pw h1 h0 cm)
  · rw [q5, O1, gInsLen ht]; push_cast; rfl
  · rw [gInsLen ht]; omega
  · have tr : ∀ {c : Int} {y : Rd}, RdX h q B c y → RdX h' q B c y := fun z => RdX_fr (Fr_row F (by decide) (by decide)) (Fr_row F (by decide) (by decide)) (Fr_row F (by rw [List.mem_singleton]; exact q4.1) (fun x m e => by rw [List.mem_singleton] at m; rw [m] at e; exact q4.2 e.symm)) z
    rw [gInsLen ht] at hj
    rw [gInsGet ht]
    by_cases c : j < t
    · have := O.2.2 j (by omega)
      rw [if_pos c, q1 _ (by omega)]
      exact ⟨this.1, by push_cast; omega, tr this.2.2⟩
    · rw [if_neg c]
      by_cases c2 : j = t
      · rw [if_pos c2, c2, q2]
        exact ⟨by omega, by push_cast; omega, tr A⟩
      · have := O.2.2 (j - 1) (by omega)
        rw [if_neg c2, q3 _ (by omega) (by omega), show (j : Int) - 1 = ((j - 1 : Nat) : Int) by omega]
        exact ⟨this.1, by push_cast; omega, tr this.2.2⟩
end XO
