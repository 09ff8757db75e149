/-! learn: the class counts the licences of a reading -/
def Pth (E : SEn) : Nat → Stt → List Int → Prop
  | 0, _, _ => False
  | n + 1, s, L => (E 0 0 ≤ s.1 ∧ L = []) ∨ (s.1 < E 0 0 ∧ ∃ o L', Best E s o ∧ L = o.1.1 :: L' ∧ Pth E n o.2.2 L')
def cntL (l : Int) (L : List Int) : Int := ((L.countP (fun w => decide (lic w = l)) : Nat) : Int)
theorem cntL_c (l w : Int) (L : List Int) : cntL l (w :: L) = (if lic w = l then 1 else 0) + cntL l L := by
  unfold cntL
  rw [List.countP_cons]
  by_cases c : lic w = l
  · rw [if_pos c, if_pos (decide_eq_true c)]; push_cast; omega
  · rw [if_neg c, if_neg (by rw [decide_eq_false c]; decide)]; push_cast; omega
section XU
variable {p f : Int} {E : SEn} {d : Nat} {q : Int}
theorem c_cu_4 {B : Int} (B1 : B ≤ 1000000) : ∀ (n : Nat) (s : Stt) (h : xH) (cnt i : Int) (u4 u5 : xV) (Q : Int → xH → Prop), 42 - s.1 ≤ n → WkA h p f E false s → scOk E s → scW E false s < 268435456 → QOk h p q → h.len q = 5 → 0 ≤ i → i ≤ s.1 → 0 ≤ cnt → cnt ≤ 1000 + s.1 → (∀ l, 0 ≤ l → l < 5 → 0 ≤ h.i q l ∧ h.i q l ≤ B + s.1) → (∀ h' L, Pth E n s L → Fr (q :: mvL) wkS h h' → (∀ l, 0 ≤ l → l < 5 → h'.i q l = h.i q l + cntL l L) → Q (cnt + ((L.length : Nat) : Int)) h') → xT (d + 6) M_Poem_countUses 4 [(1, 48), (1, q), (0, cnt), (0, i), u4, u5] [] h (xqi Q) := by
  intro n
  induction n with
  | zero =>
    intro s h cnt i u4 u5 Q hn W k
    have := scOk_i W.1.1.2.2.2.1 k
    have := W.1.1.2.2.2.1.2.1
    omega
  | succ n ih =>
    intro s h cnt i u4 u5 Q hn W k lt K l5 i0 i1 c0 c1 ub H
    have SX_ := W.1.1.1
    have ok := W.1.1.2.2.2.1
    have n40 := ok.2.1
    have si := scOk_i ok k
    have qm : q ∉ mvL := by
      intro m
      have : ∀ x ∈ mvL, 36 ≤ x ∧ x ≤ 39 := by decide
      have := this q m
      have := K.2.2
      omega
    have g : h.tag 48 = 6 ∧ h.r 48 2 = 35 := by simp only [sxt SX_, sxl SX_, sxf SX_, true_and, and_true, false_and, and_false, forall_eq, forall_eq', xi_wi, xr_wi, xt_wi, xl_wi, xn_wi, xs_wi, xi_wr, xr_wr, xt_wr, xl_wr, xn_wr, xs_wr, if_true, if_false, and_self, Int.reduceEq, Int.reduceLT, Int.reduceLE, Int.reduceNeg, Int.le_refl, Int.reduceMod]
    apply L_Poem_countUses_4
    rw [g.2]
    by_cases c : s.1 < E 0 0
    · rw [if_pos (by omega)]
      refine ⟨g.1, t35_ SX_, ?_⟩
      refine c_X_wOver W ?_
      rw [if_pos c, if_pos rfl, g.2]
      refine ⟨g.1, t35_ SX_, ?_⟩
      refine c_X_list (d := d + 1) W k (fun h1 F1 M1 => ?_)
      have W1 := WkA_m F1 W
      have K1 := QOk_fr F1 K
      have SX_ := W1.1.1.1
      have g1 : h1.tag 48 = 6 ∧ h1.r 48 2 = 35 := by simp only [sxt SX_, sxl SX_, sxf SX_, true_and, and_true, false_and, and_false, forall_eq, forall_eq', xi_wi, xr_wi, xt_wi, xl_wi, xn_wi, xs_wi, xi_wr, xr_wr, xt_wr, xl_wr, xn_wr, xs_wr, if_true, if_false, and_self, Int.reduceEq, Int.reduceLT, Int.reduceLE, Int.reduceNeg, Int.le_refl, Int.reduceMod]
      rw [g1.2]
      refine ⟨g1.1, t35_ SX_, ?_⟩
      refine c_X_takeC (d := d + 3) W1 k c lt M1 (fun o h2 Bo F2 W2 => ?_)
      have K2 := QOk_fr F2 K1
      have ko := key_ok ok k Bo.1
      have no := scOps_ok ok k Bo.1
      have nx := scOps_nx Bo.1
      have bd := pk_bd ko (i := s.1) (by omega) (by omega)
      have wf := scW_f ok (s := o.2.2) (by omega)
      have ev : o.2.1 + scW E false o.2.2 = scW E false s := Bo.2.1
      have fs1 := fr_same F1
      have fs2 := fr_same F2
      have lq2 : h2.len q = 5 := by rw [fs2.2.2.1, fs1.2.2.1]; exact l5
      have rq : ∀ k, h2.i q k = h.i q k := fun k => by
        rw [Fr_row F2 (c := q) List.not_mem_nil (fun x m e => by
          simp only [List.mem_cons, List.not_mem_nil, or_false] at m
          have := K.2.2
          rcases m with m | m <;> · rw [m] at e; have : (35 : Int) = q := e; omega)]
        rw [Fr_row F1 (c := q) qm (fun x m e => by
          unfold mvS at m
          rw [List.mem_singleton] at m
          have := K.2.2
          rw [m] at e; have : (35 : Int) = q := e; omega)]
      have G2 : Fr (q :: mvL) wkS h h2 := Fr_trans (Fr_mono F1 (fun c m => List.mem_cons_of_mem _ m) (by decide)) (Fr_mono F2 (fun c m => absurd m List.not_mem_nil) (by decide))
      rw [if_neg (by omega)]
      refine c_X_lic (d := d + 4) ko (by omega) (by omega) ?_
      have hl := lic_wp (E := E) o.1.1
      have fin : ∀ h3 u4 u5, Fr [q] [] h2 h3 → (∀ l, 0 ≤ l → l < 5 → h3.i q l = h.i q l + if lic o.1.1 = l then 1 else 0) → xT (d + 6) M_Poem_countUses 4 [(1, 48), (1, q), (0, cnt + 1), (0, i + 1), u4, u5] [] h3 (xqi Q) := fun h3 u4 u5 F3 v3 => by
        refine ih o.2.2 h3 (cnt + 1) (i + 1) u4 u5 Q (by push_cast at hn; omega) (WkA_q K2 F3 W2) no.1 (by omega) (QOk_fr F3 K2) (by rw [(fr_same F3).2.2.1]; exact lq2) (by omega) (by omega) (by omega) (by omega) (fun l l0 l1 => ?_) (fun h' L P F q1 => ?_)
        · have := ub l l0 l1
          rw [v3 l l0 l1]
          by_cases z : lic o.1.1 = l
          · rw [if_pos z]; omega
          · rw [if_neg z]; omega
        · have := H h' (o.1.1 :: L) (Or.inr ⟨c, o, L, Bo, rfl, P⟩) (Fr_trans G2 (Fr_trans (Fr_mono F3 (fun c m => by rw [List.mem_singleton] at m; rw [m]; exact List.mem_cons_self) (fun c m => absurd m List.not_mem_nil)) F)) (fun l l0 l1 => by rw [q1 l l0 l1, v3 l l0 l1, cntL_c]; omega)
          rw [List.length_cons] at this
          rw [show cnt + 1 + ((L.length : Nat) : Int) = cnt + ((L.length + 1 : Nat) : Int) by push_cast; omega]
          exact this
      by_cases z : lic o.1.1 < 0
      · rw [if_pos z]
        intro x1 e1 x2 e2
        rw [xw_id (by omega) (by omega)] at e1 e2
        subst e1 e2
        exact fin h2 _ _ (Fr_refl _ _ _) (fun l l0 l1 => by rw [rq, if_neg (by omega)]; omega)
      · have z5 : 0 ≤ lic o.1.1 ∧ lic o.1.1 < 5 := by omega
        have u := ub _ z5.1 z5.2
        rw [if_neg z, lq2, if_pos z5.2, rq, xw_id (a := h.i q (lic o.1.1) + 1) (by omega) (by omega)]
        refine ⟨K2.1, ⟨K2.1, by omega, by omega⟩, ⟨K2.1, by omega, by omega⟩, ?_⟩
        intro h5 e5 x3 e3 x4 e4
        rw [xw_id (by omega) (by omega)] at e3 e4
        subst e3 e4
        refine fin h5 _ _ (by rw [e5]; exact Fr_cell (Fr_refl _ _ _) _ _ (by rw [List.mem_singleton])) (fun l l0 l1 => ?_)
        rw [e5, xi_wi]
        by_cases y : l = lic o.1.1
        · rw [if_pos ⟨rfl, y⟩, if_pos y.symm, y]
        · rw [if_neg (fun t => y t.2), if_neg (fun t => y t.symm), rq]; omega
    · have fin : Q cnt h := by
        have := H h [] (Or.inl ⟨by omega, rfl⟩) (Fr_refl _ _ _) (fun l _ _ => by show _ = _ + (0 : Int); omega)
        have e : cnt + ((([] : List Int).length : Nat) : Int) = cnt := by show cnt + 0 = cnt; omega
        rw [e] at this; exact this
      by_cases c2 : i < 40
      · rw [if_pos c2]
        refine ⟨g.1, t35_ SX_, ?_⟩
        refine c_X_wOver W ?_
        rw [if_neg c, if_neg (by decide)]
        exact fin
      · rw [if_neg c2]; exact fin
end XU
