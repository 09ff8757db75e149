/-! new cells, and what the JDK does itself -/
theorem w_ai : Cond.arrayClass .int ∈ lw_tbl := xat_mem (i := 148) (by decide +kernel)
theorem w_az : Cond.arrayClass .boolean ∈ lw_tbl := xat_mem (i := 149) (by decide +kernel)
theorem w_ab : Cond.arrayClass .byte ∈ lw_tbl := xat_mem (i := 1601) (by decide +kernel)
theorem w_oi : Cond.instanceMethod Lib.objectInit ∈ lw_tbl := xat_mem (i := 127) (by decide +kernel)
theorem w_oc : Cond.code Lib.objectInit ⟨#[0xb1]⟩ 1 none ∈ lw_tbl := xat_mem (i := 128) (by decide +kernel)
theorem w_maxs : Cond.static Lib.Math.max.name ∈ lw_tbl := xat_mem (i := 668) (by decide +kernel)
theorem w_maxc : Cond.code Lib.Math.max.name Lib.Math.max.code 2 (some .int) ∈ lw_tbl := xat_mem (i := 669) (by decide +kernel)
theorem w_mins : Cond.static Lib.Math.min.name ∈ lw_tbl := xat_mem (i := 611) (by decide +kernel)
theorem w_minc : Cond.code Lib.Math.min.name Lib.Math.min.code 2 (some .int) ∈ lw_tbl := xat_mem (i := 612) (by decide +kernel)
theorem w_mi : Cond.initialized "java/lang/Math" ∈ lw_tbl := xat_mem (i := 118) (by decide +kernel)
theorem w_cn : Cond.native arraycopyName ∈ lw_tbl := xat_mem (i := 596) (by decide +kernel)
theorem w_cs : Cond.static arraycopyName ∈ lw_tbl := xat_mem (i := 595) (by decide +kernel)
theorem w_ci : Cond.initialized "java/lang/System" ∈ lw_tbl := xat_mem (i := 117) (by decide +kernel)
theorem w_ksm : Cond.sameMethod "[I" "java/lang/Object" "clone" "()Ljava/lang/Object;" ∈ lw_tbl := xat_mem (i := 604) (by decide +kernel)
theorem w_kn : Cond.native ⟨"java/lang/Object", "clone", "()Ljava/lang/Object;"⟩ ∈ lw_tbl := xat_mem (i := 605) (by decide +kernel)
theorem w_ki : Cond.instanceMethod ⟨"java/lang/Object", "clone", "()Ljava/lang/Object;"⟩ ∈ lw_tbl := xat_mem (i := 606) (by decide +kernel)
theorem w_ksl : Cond.selects "[I" ⟨"[I", "clone", "()Ljava/lang/Object;"⟩ ⟨"java/lang/Object", "clone", "()Ljava/lang/Object;"⟩ ∈ lw_tbl := xat_mem (i := 607) (by decide +kernel)
theorem w_kc : Cond.classLink "java/util/Arrays" 317 "[I" ∈ lw_tbl := xat_mem (i := 609) (by decide +kernel)
theorem xin_all : ((List.range 13).all fun t => xat (([151, 653, 130, 214, 238, 379, 401, 348, 265, 158, 308, 122, 1331] : List Nat).getD t 0) (.instantiable (vwR t) (vwN t)) && xat (([106, 119, 105, 108, 109, 114, 115, 113, 111, 107, 112, 104, 116] : List Nat).getD t 0) (.initialized (vwR t))) = true := by decide +kernel
theorem w_new {t : Nat} (ht : t < 13) : Cond.instantiable (vwR t) (vwN t) ∈ lw_tbl ∧ Cond.initialized (vwR t) ∈ lw_tbl := by
  have h := List.all_eq_true.mp xin_all t (List.mem_range.mpr ht)
  obtain ⟨h1, h2⟩ := (Bool.and_eq_true _ _).mp h
  exact ⟨xat_mem h1, xat_mem h2⟩
theorem cl_word {o i ci : Nat} (h : xhasC o i ci = true) : ci < 13 ∧ Cond.classLink (xown o) i (vwR ci) ∈ lw_tbl := by
  unfold xhasC at h
  obtain ⟨q, hq, h2⟩ := List.any_eq_true.mp h
  simp only [Bool.and_eq_true, beq_iff_eq] at h2
  obtain ⟨a1, a2, a3⟩ := h2
  have h3 := List.all_eq_true.mp xcl_all q hq
  unfold xclok at h3
  rw [a1, a2, a3] at h3
  obtain ⟨h4, h5⟩ := (Bool.and_eq_true _ _).mp h3
  exact ⟨of_decide_eq_true h4, xat_mem h5⟩
theorem ml_word {o i m : Nat} (h : xhasM o i m = true) : Cond.methodLink (xown o) i (xmname m) ∈ lw_tbl := by
  unfold xhasM at h
  obtain ⟨q, hq, h2⟩ := List.any_eq_true.mp h
  simp only [Bool.and_eq_true, beq_iff_eq] at h2
  obtain ⟨a1, a2, a3⟩ := h2
  have h3 := List.all_eq_true.mp xml_all q hq
  unfold xmlok at h3
  rw [a1, a2, a3] at h3
  exact xat_mem ((Bool.and_eq_true _ _).mp h3).1
theorem w_kl : Cond.methodLink (xown 14) 316 ⟨"[I", "clone", "()Ljava/lang/Object;"⟩ ∈ lw_tbl := ml_word (m := 1004) (by decide +kernel)
section AL
variable {D : va_G} {cy : Int → ClassId} {bse b0 L0 : Nat} {xs0 : Nat → Int32} {s : State} {mm : Nat} {c0 u0 : Int} {ad : Int → Nat} {h : xH} {ls st : List xV} {H : Heap} {locs : List Loc} {cells slots : Nat} {la : Array Slot}
def xad (ad : Int → Nat) (n : Int) (q : Nat) : Int → Nat := fun b => if b = n then q else ad b
theorem xad_old {n b : Int} {q : Nat} (hb : b < n) : xad ad n q b = ad b := by unfold xad; rw [if_neg (by omega)]
theorem xLM_up {ad' : Int → Nat} {nx : Int} (ha : ∀ b, 0 ≤ b → b < nx → ad' b = ad b) (hk : ∀ v ∈ ls, xok nx v) (hl : xLM ad ls la) : xLM ad' ls la := ⟨hl.1, hl.2.1, fun j v h1 h2 => by rw [cV_up ha (hk v (List.mem_of_getElem? h1))]; exact hl.2.2 j v h1 h2⟩
/-- behind a new cell -/
theorem xW_al {h' : xH} {t n : Int} {q : Nat} {x : va_E} {st' : List xV} {H1 : Heap} (X : xW D cy bse b0 L0 xs0 s mm c0 u0 ad h ls st H locs cells slots la) (e : h.al t n = h') (n0 : 0 ≤ n) (I : xI h' ls st') (K : ∀ u ∈ st', u.1 < 4) (hx : cE cy (xad ad h.nx q) h' h.nx = x) (hP : va_P D vwCl (wl cy ad h ++ [(q, x)]) H1) (hD : va_D (fun q : Nat => bse ≤ q) (wl cy ad h ++ [(q, x)])) (hS : va_S (fun q : Nat => bse ≤ q) s.heap H1 locs) : xW D cy bse b0 L0 xs0 s mm c0 u0 (xad ad h.nx q) h' ls st' H1 locs (cells + 1) (slots + n.toNat) la := by
  obtain ⟨a1, a2, a3, a4, -, -, -, -, a9, a10, a11, a12⟩ := X
  subst e
  have g := a1.1
  have ha : ∀ b, 0 ≤ b → b < h.nx → xad ad h.nx q b = ad b := fun b _ h1 => xad_old h1
  have hw : wl cy ad h ++ [(q, x)] = wl cy (xad ad h.nx q) (h.al t n) := wl_push g.1 rfl (fun b _ h1 => xad_old h1) (by unfold xad; rw [if_pos rfl]) hx (fun b h0 h1 => cE_up ha (fun k => g.2.2.2.2.2.2.1 b k) (by rw [xt_al, if_neg (by omega)]) (by rw [xl_al, if_neg (by omega)]) rfl rfl)
  rw [hw] at hP hD
  have g1 := g.1
  refine ⟨I, xLM_up ha a1.2.1 a2, a3, a4, K, hP, hD, hS, a9, ⟨by rw [xn_al]; omega, by rw [xs_al]; omega⟩, ⟨by rw [xad_old (by omega)]; exact a11.1, by rw [xl_al, if_neg (by omega)]; exact a11.2.1, a11.2.2⟩, a12⟩
theorem cat_le {st : List xV} (hk : ∀ u ∈ st, u.1 < 4) : ((st.map (cV ad)).map fun v => v.category).sum ≤ xcat st := by
  induction st with
  | nil => exact Nat.le_refl _
  | cons v st ih =>
    have h1 := ih (fun u hu => hk u (List.mem_cons_of_mem _ hu))
    have h2 := hk v List.mem_cons_self
    simp only [List.map_cons, List.sum_cons, xcat] at h1 ⊢
    have h3 : (cV ad v).category ≤ if v.1 = 3 then 2 else 1 := by
      by_cases c : v.1 = 3
      · rw [if_pos c]; unfold Value.category; split <;> omega
      · rw [if_neg c, cV_cat1 h2 c]; exact Nat.le_refl _
    omega
theorem ra_inj {a b : ClassId} {ty : FieldType} (h1 : va_RA s a ty) (h2 : va_RA s b ty) : a = b := by
  cases ty with
  | object C =>
    obtain ⟨-, -, -, -, -, e1⟩ := h1
    obtain ⟨-, -, -, -, -, e2⟩ := h2
    exact Option.some.inj (e1.symm.trans e2)
  | _ => exact Option.some.inj (Eq.trans (Eq.symm h1) h2)
theorem va_P_swap {ws : va_W} {q : Nat} {cA : ClassId} {x x' : vp_A} (h : va_P D vwCl (ws ++ [(q, .inl (cA, x))]) H) (e : vp_cell cA x = vp_cell cA x') : va_P D vwCl (ws ++ [(q, .inl (cA, x'))]) H := by
  intro k y hy
  by_cases c : k < ws.length
  · rw [List.getElem?_append_left c] at hy
    exact h k y (by rw [List.getElem?_append_left c]; exact hy)
  · have hk : k = ws.length := by
      have := (List.getElem?_eq_some_iff.mp hy).1
      rw [List.length_append, List.length_singleton] at this; omega
    subst hk
    rw [List.getElem?_append_right (Nat.le_refl _), Nat.sub_self] at hy
    have hy : y = (q, .inl (cA, x')) := (Option.some.inj hy).symm
    subst hy
    have z := h ws.length (q, .inl (cA, x)) (by rw [List.getElem?_append_right (Nat.le_refl _), Nat.sub_self]; rfl)
    show H[q]? = some (vp_cell cA x')
    rw [← e]; exact z
theorem va_D_swap {A : Nat → Prop} {ws : va_W} {q : Nat} {x x' : va_E} (h : va_D A (ws ++ [(q, x)])) : va_D A (ws ++ [(q, x')]) := by
  have key : ∀ (k : Nat) (y : Nat × va_E), (ws ++ [(q, x')])[k]? = some y → ∃ y0, (ws ++ [(q, x)])[k]? = some y0 ∧ y0.1 = y.1 := by
    intro k y hy
    by_cases c : k < ws.length
    · rw [List.getElem?_append_left c] at hy
      exact ⟨y, by rw [List.getElem?_append_left c]; exact hy, rfl⟩
    · have hk : k = ws.length := by
        have := (List.getElem?_eq_some_iff.mp hy).1
        rw [List.length_append, List.length_singleton] at this; omega
      subst hk
      rw [List.getElem?_append_right (Nat.le_refl _), Nat.sub_self] at hy
      have hy : y = (q, x') := (Option.some.inj hy).symm
      subst hy
      exact ⟨(q, x), by rw [List.getElem?_append_right (Nat.le_refl _), Nat.sub_self]; rfl, rfl⟩
  refine ⟨fun i j u v hu hv e => ?_, fun k y hy => ?_⟩
  · obtain ⟨u0, a1, a2⟩ := key i u hu
    obtain ⟨v0, b1, b2⟩ := key j v hv
    exact h.1 i j u0 v0 a1 b1 (by rw [a2, b2, e])
  · obtain ⟨y0, a1, a2⟩ := key k y hy
    rw [← a2]; exact h.2 k y0 a1
end AL
theorem sd_newarray_int : Sd (.newarray .int) := by
  intro len D cy bse b0 L0 xs0 p l e R s m args below meth c Q mm d k c0 u0 ad h ls st H locs cells slots la k' ls' st' h' M X hd hr hn h31 hs hc hu kk
  obtain ⟨hx, hb, hml, ho, hts, hK, hRf, hRl, hin, hEX⟩ := M
  have I' := (stp_ok (xop_ok mm k) X.1 hs).1
  have hr := (by unfold xrel at hr; exact hr : xe _ _ _ _ _ _ _ = true)
  obtain ⟨hop, rfl⟩ := xe_eq (hr)
  have hc1 : (xcd mm k).1 = 27 := by rw [hop]
  have hp := xnext_pc hn (by rw [hc1]; decide) (by rw [hc1]; decide) (by rw [hc1]; decide) (by rw [hc1]; decide)
  unfold xstp at hs
  simp only [hc1, if_true, if_false, Nat.reduceEqDiff] at hs
  split at hs
  · rename_i n st1
    split at hs
    · rename_i g
      simp only [Option.some.injEq, Prod.mk.injEq] at hs
      obtain ⟨rfl, rfl, rfl, rfl⟩ := hs
      simp only [hop] at I' kk hc hu
      have hrn : xrg n := (ok_h X.1.2.2).1 rfl
      have gG := X.1.1
      have hA : ∀ q : Nat, s.heap.size ≤ q → bse ≤ q := fun q hq => Nat.le_trans X.2.2.2.2.2.2.2.2.2.2.2.2.2 hq
      have hcs := X.2.2.2.2.2.2.2.2.2.1
      rw [xn_al] at hc
      rw [xs_al] at hu
      have hcl := n_clamp hrn
      simp only [List.map_cons, cV0]
      have hby : n.toNat * componentBytes .int ≤ 536870912 := by show n.toNat * 4 ≤ _; omega
      refine va_newa (atype := .int) hx hb (hts _ w_ai rfl) rfl hK X.2.2.2.2.2.1 X.2.2.2.2.2.2.1 X.2.2.2.2.2.2.2.1 hA (a0 := (n.toNat, .inl (fun _ => 0))) (fun _ => rfl) (fun z => by have := (n_lt0 hrn).mp z; omega) hcl hby (by omega) (by omega) hd (fun q cA H1 a0 a1 a2 a3 => ?_)
      have eA : cA = cy 20 := ra_inj (a0.2 5 _ rfl).2 (hK.2 0 _ rfl).2
      subst eA
      have Z := kk (xad ad h.nx q) H1 locs (cells + 1) (slots + n.toNat) la (xW_al X rfl g.1 I' (k_c (of_decide_eq_true rfl) (k_t X.2.2.2.2.1)) ?_ a1 a2 a3) (fun x _ h1 => xad_old h1)
      · rw [hp, List.map_cons, cV1, cRn (by have := gG.1; omega), cVs_up (fun b _ h1 => xad_old h1) (ok_t X.1.2.2)] at Z
        unfold xad at Z
        rw [if_pos rfl] at Z
        exact Z
      · unfold cE
        rw [xt_al, if_pos rfl, if_neg (by decide), if_pos (by decide), xl_al, if_pos rfl]
        congr 4
        funext j
        rw [xi_al, (gG.2.2.2.2.2.2.2 h.nx j (Int.le_refl _)).1]; rfl
    · cases hs
  · cases hs
theorem sd_newarray_byte : Sd (.newarray .byte) := by
  intro len D cy bse b0 L0 xs0 p l e R s m args below meth c Q mm d k c0 u0 ad h ls st H locs cells slots la k' ls' st' h' M X hd hr hn h31 hs hc hu kk
  obtain ⟨hx, hb, hml, ho, hts, hK, hRf, hRl, hin, hEX⟩ := M
  have I' := (stp_ok (xop_ok mm k) X.1 hs).1
  have hr := (by unfold xrel at hr; exact hr : xe _ _ _ _ _ _ _ = true)
  obtain ⟨hop, rfl⟩ := xe_eq (hr)
  have hc1 : (xcd mm k).1 = 27 := by rw [hop]
  have hp := xnext_pc hn (by rw [hc1]; decide) (by rw [hc1]; decide) (by rw [hc1]; decide) (by rw [hc1]; decide)
  unfold xstp at hs
  simp only [hc1, if_true, if_false, Nat.reduceEqDiff] at hs
  split at hs
  · rename_i n st1
    split at hs
    · rename_i g
      simp only [Option.some.injEq, Prod.mk.injEq] at hs
      obtain ⟨rfl, rfl, rfl, rfl⟩ := hs
      simp only [hop] at I' kk hc hu
      have hrn : xrg n := (ok_h X.1.2.2).1 rfl
      have gG := X.1.1
      have hA : ∀ q : Nat, s.heap.size ≤ q → bse ≤ q := fun q hq => Nat.le_trans X.2.2.2.2.2.2.2.2.2.2.2.2.2 hq
      have hcs := X.2.2.2.2.2.2.2.2.2.1
      rw [xn_al] at hc
      rw [xs_al] at hu
      have hcl := n_clamp hrn
      simp only [List.map_cons, cV0]
      have hby : n.toNat * componentBytes .byte ≤ 536870912 := by show n.toNat * 1 ≤ _; omega
      refine va_newa (atype := .byte) hx hb (hts _ w_ab rfl) rfl hK X.2.2.2.2.2.1 X.2.2.2.2.2.2.1 X.2.2.2.2.2.2.2.1 hA (a0 := (n.toNat, .inl (fun _ => 0))) (fun _ => rfl) (fun z => by have := (n_lt0 hrn).mp z; omega) hcl hby (by omega) (by omega) hd (fun q cA H1 a0 a1 a2 a3 => ?_)
      have eA : cA = cy 21 := ra_inj (a0.2 5 _ rfl).2 (hK.2 1 _ rfl).2
      subst eA
      have Z := kk (xad ad h.nx q) H1 locs (cells + 1) (slots + n.toNat) la (xW_al X rfl g.1 I' (k_c (of_decide_eq_true rfl) (k_t X.2.2.2.2.1)) ?_ a1 a2 a3) (fun x _ h1 => xad_old h1)
      · rw [hp, List.map_cons, cV1, cRn (by have := gG.1; omega), cVs_up (fun b _ h1 => xad_old h1) (ok_t X.1.2.2)] at Z
        unfold xad at Z
        rw [if_pos rfl] at Z
        exact Z
      · unfold cE
        rw [xt_al, if_pos rfl, if_neg (by decide), if_pos (by decide), xl_al, if_pos rfl]
        congr 4
        funext j
        rw [xi_al, (gG.2.2.2.2.2.2.2 h.nx j (Int.le_refl _)).1]; rfl
    · cases hs
  · cases hs
theorem sd_newarray_boolean : Sd (.newarray .boolean) := by
  intro len D cy bse b0 L0 xs0 p l e R s m args below meth c Q mm d k c0 u0 ad h ls st H locs cells slots la k' ls' st' h' M X hd hr hn h31 hs hc hu kk
  obtain ⟨hx, hb, hml, ho, hts, hK, hRf, hRl, hin, hEX⟩ := M
  have I' := (stp_ok (xop_ok mm k) X.1 hs).1
  have hr := (by unfold xrel at hr; exact hr : xe _ _ _ _ _ _ _ = true)
  obtain ⟨hop, rfl⟩ := xe_eq (hr)
  have hc1 : (xcd mm k).1 = 27 := by rw [hop]
  have hp := xnext_pc hn (by rw [hc1]; decide) (by rw [hc1]; decide) (by rw [hc1]; decide) (by rw [hc1]; decide)
  unfold xstp at hs
  simp only [hc1, if_true, if_false, Nat.reduceEqDiff] at hs
  split at hs
  · rename_i n st1
    split at hs
    · rename_i g
      simp only [Option.some.injEq, Prod.mk.injEq] at hs
      obtain ⟨rfl, rfl, rfl, rfl⟩ := hs
      simp only [hop] at I' kk hc hu
      have hrn : xrg n := (ok_h X.1.2.2).1 rfl
      have gG := X.1.1
      have hA : ∀ q : Nat, s.heap.size ≤ q → bse ≤ q := fun q hq => Nat.le_trans X.2.2.2.2.2.2.2.2.2.2.2.2.2 hq
      have hcs := X.2.2.2.2.2.2.2.2.2.1
      rw [xn_al] at hc
      rw [xs_al] at hu
      have hcl := n_clamp hrn
      simp only [List.map_cons, cV0]
      have hby : n.toNat * componentBytes .boolean ≤ 536870912 := by show n.toNat * 1 ≤ _; omega
      refine va_newa (atype := .boolean) hx hb (hts _ w_az rfl) rfl hK X.2.2.2.2.2.1 X.2.2.2.2.2.2.1 X.2.2.2.2.2.2.2.1 hA (a0 := (n.toNat, .inl (fun _ => 0))) (fun _ => rfl) (fun z => by have := (n_lt0 hrn).mp z; omega) hcl hby (by omega) (by omega) hd (fun q cA H1 a0 a1 a2 a3 => ?_)
      have eA : cA = cy 22 := ra_inj (a0.2 5 _ rfl).2 (hK.2 2 _ rfl).2
      subst eA
      have Z := kk (xad ad h.nx q) H1 locs (cells + 1) (slots + n.toNat) la (xW_al X rfl g.1 I' (k_c (of_decide_eq_true rfl) (k_t X.2.2.2.2.1)) ?_ a1 a2 a3) (fun x _ h1 => xad_old h1)
      · rw [hp, List.map_cons, cV1, cRn (by have := gG.1; omega), cVs_up (fun b _ h1 => xad_old h1) (ok_t X.1.2.2)] at Z
        unfold xad at Z
        rw [if_pos rfl] at Z
        exact Z
      · unfold cE
        rw [xt_al, if_pos rfl, if_neg (by decide), if_pos (by decide), xl_al, if_pos rfl]
        congr 4
        funext j
        rw [xi_al, (gG.2.2.2.2.2.2.2 h.nx j (Int.le_refl _)).1]; rfl
    · cases hs
  · cases hs
theorem sd_anewarray (i : Nat) : Sd (.anewarray i) := by
  intro len D cy bse b0 L0 xs0 p l e R s m args below meth c Q mm d k c0 u0 ad h ls st H locs cells slots la k' ls' st' h' M X hd hr hn h31 hs hc hu kk
  obtain ⟨hx, hb, hml, ho, hts, hK, hRf, hRl, hin, hEX⟩ := M
  have I' := (stp_ok (xop_ok mm k) X.1 hs).1
  rcases (by unfold xrel at hr; exact (Bool.or_eq_true _ _).mp hr : _ ∨ _) with hr | hr
  · obtain ⟨hr, hq⟩ := (Bool.and_eq_true _ _).mp hr
    obtain ⟨hop, rfl⟩ := xe_eq (hr)
    have hc1 : (xcd mm k).1 = 27 := by rw [hop]
    have hp := xnext_pc hn (by rw [hc1]; decide) (by rw [hc1]; decide) (by rw [hc1]; decide) (by rw [hc1]; decide)
    unfold xstp at hs
    simp only [hc1, if_true, if_false, Nat.reduceEqDiff] at hs
    split at hs
    · rename_i n st1
      split at hs
      · rename_i g
        simp only [Option.some.injEq, Prod.mk.injEq] at hs
        obtain ⟨rfl, rfl, rfl, rfl⟩ := hs
        simp only [hop] at I' kk hc hu
        have hrn : xrg n := (ok_h X.1.2.2).1 rfl
        have gG := X.1.1
        have hA : ∀ q : Nat, s.heap.size ≤ q → bse ≤ q := fun q hq => Nat.le_trans X.2.2.2.2.2.2.2.2.2.2.2.2.2 hq
        have hcs := X.2.2.2.2.2.2.2.2.2.1
        rw [xn_al] at hc
        rw [xs_al] at hu
        have hcl := n_clamp hrn
        simp only [List.map_cons, cV0]
        obtain ⟨-, hw⟩ := cl_word hq
        refine va_newq hx hb ho (hts _ hw rfl) hEX.1 hK X.2.2.2.2.2.1 X.2.2.2.2.2.2.1 X.2.2.2.2.2.2.2.1 hA (fun z => by have := (n_lt0 hrn).mp z; omega) hcl (by omega) (by omega) (by omega) hd (fun q cA H1 a0 a1 a2 a3 => ?_)
        have eA : cA = cy 23 := ra_inj (a0.2 5 _ rfl).2 (hK.2 3 _ rfl).2
        subst eA
        have Z := kk (xad ad h.nx q) H1 locs (cells + 1) (slots + n.toNat) la (xW_al X rfl g.1 I' (k_c (of_decide_eq_true rfl) (k_t X.2.2.2.2.1)) ?_ a1 a2 a3) (fun x _ h1 => xad_old h1)
        · rw [hp, List.map_cons, cV1, cRn (by have := gG.1; omega), cVs_up (fun b _ h1 => xad_old h1) (ok_t X.1.2.2)] at Z
          unfold xad at Z
          rw [if_pos rfl] at Z
          exact Z
        · unfold cE
          rw [xt_al, if_pos rfl, if_neg (by decide), if_neg (by decide), xl_al, if_pos rfl]
          congr 7
          funext j
          rw [xr_al, (gG.2.2.2.2.2.2.2 h.nx j (Int.le_refl _)).2]; rfl
      · cases hs
    · cases hs
  · obtain ⟨hr, hq⟩ := (Bool.and_eq_true _ _).mp hr
    obtain ⟨hop, rfl⟩ := xe_eq (hr)
    have hc1 : (xcd mm k).1 = 27 := by rw [hop]
    have hp := xnext_pc hn (by rw [hc1]; decide) (by rw [hc1]; decide) (by rw [hc1]; decide) (by rw [hc1]; decide)
    unfold xstp at hs
    simp only [hc1, if_true, if_false, Nat.reduceEqDiff] at hs
    split at hs
    · rename_i n st1
      split at hs
      · rename_i g
        simp only [Option.some.injEq, Prod.mk.injEq] at hs
        obtain ⟨rfl, rfl, rfl, rfl⟩ := hs
        simp only [hop] at I' kk hc hu
        have hrn : xrg n := (ok_h X.1.2.2).1 rfl
        have gG := X.1.1
        have hA : ∀ q : Nat, s.heap.size ≤ q → bse ≤ q := fun q hq => Nat.le_trans X.2.2.2.2.2.2.2.2.2.2.2.2.2 hq
        have hcs := X.2.2.2.2.2.2.2.2.2.1
        rw [xn_al] at hc
        rw [xs_al] at hu
        have hcl := n_clamp hrn
        simp only [List.map_cons, cV0]
        obtain ⟨-, hw⟩ := cl_word hq
        refine va_newq hx hb ho (hts _ hw rfl) hEX.2.1 hK X.2.2.2.2.2.1 X.2.2.2.2.2.2.1 X.2.2.2.2.2.2.2.1 hA (fun z => by have := (n_lt0 hrn).mp z; omega) hcl (by omega) (by omega) (by omega) hd (fun q cA H1 a0 a1 a2 a3 => ?_)
        have eA : cA = cy 24 := ra_inj (a0.2 5 _ rfl).2 (hK.2 4 _ rfl).2
        subst eA
        have Z := kk (xad ad h.nx q) H1 locs (cells + 1) (slots + n.toNat) la (xW_al X rfl g.1 I' (k_c (of_decide_eq_true rfl) (k_t X.2.2.2.2.1)) ?_ a1 a2 a3) (fun x _ h1 => xad_old h1)
        · rw [hp, List.map_cons, cV1, cRn (by have := gG.1; omega), cVs_up (fun b _ h1 => xad_old h1) (ok_t X.1.2.2)] at Z
          unfold xad at Z
          rw [if_pos rfl] at Z
          exact Z
        · unfold cE
          rw [xt_al, if_pos rfl, if_neg (by decide), if_neg (by decide), xl_al, if_pos rfl]
          congr 7
          funext j
          rw [xr_al, (gG.2.2.2.2.2.2.2 h.nx j (Int.le_refl _)).2]; rfl
      · cases hs
    · cases hs
