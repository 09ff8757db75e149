/-! new objects; what a call does that is no call here -/
theorem def_ok {t : FieldType} (h : xtyok t = true) : defaultValue t = if xfKt t = 1 then .null else .int 0 := by
  cases t <;> first | rfl | exact absurd h (by decide)
section AL2
variable {D : va_G} {cy : Int → ClassId} {bse b0 L0 : Nat} {xs0 : Nat → Int32} {s : State} {mm : Nat} {c0 u0 : Int} {ad : Int → Nat} {h : xH} {ls st : List xV} {H : Heap} {locs : List Loc} {cells slots : Nat} {la : Array Slot}
/-- behind a clone -/
theorem xW_al2 {h' : xH} {n p : Int} {q : Nat} {x : va_E} {st' : List xV} {H1 : Heap} (X : xW D cy bse b0 L0 xs0 s mm c0 u0 ad h ls st H locs cells slots la) (e : (h.al 20 n).cp p 0 h.nx 0 n = h') (n0 : 0 ≤ n) (I : xI h' ls st') (K : ∀ u ∈ st', u.1 < 4) (hx : cE cy (xad ad h.nx q) h' h.nx = x) (hP : va_P D vwCl (wl cy ad h ++ [(q, x)]) H1) (hD : va_D (fun q : Nat => bse ≤ q) (wl cy ad h ++ [(q, x)])) (hS : va_S (fun q : Nat => bse ≤ q) s.heap H1 locs) : xW D cy bse b0 L0 xs0 s mm c0 u0 (xad ad h.nx q) h' ls st' H1 locs (cells + 1) (slots + n.toNat) la := by
  obtain ⟨a1, a2, a3, a4, -, -, -, -, a9, a10, a11, a12⟩ := X
  subst e
  have g := a1.1
  have ha : ∀ b, 0 ≤ b → b < h.nx → xad ad h.nx q b = ad b := fun b _ h1 => xad_old h1
  have hi : ∀ b, b ≠ h.nx → ((h.al 20 n).cp p 0 h.nx 0 n).i b = h.i b := fun b hb => by funext j; rw [xi_cp, if_neg hb, xi_al]
  have hw : wl cy ad h ++ [(q, x)] = wl cy (xad ad h.nx q) ((h.al 20 n).cp p 0 h.nx 0 n) := wl_push g.1 rfl (fun b _ h1 => xad_old h1) (by unfold xad; rw [if_pos rfl]) hx (fun b h0 h1 => cE_up ha (fun k => g.2.2.2.2.2.2.1 b k) (by rw [xt_cp, xt_al, if_neg (by omega)]) (by rw [xl_cp, xl_al, if_neg (by omega)]) (hi b (by omega)) rfl)
  rw [hw] at hP hD
  have g1 := g.1
  refine ⟨I, xLM_up ha a1.2.1 a2, a3, a4, K, hP, hD, hS, a9, ⟨by rw [xn_cp, xn_al]; omega, by rw [xs_cp, xs_al]; omega⟩, ⟨by rw [xad_old (by omega)]; exact a11.1, by rw [xl_cp, xl_al, if_neg (by omega)]; exact a11.2.1, by rw [hi 1 (by omega)]; exact a11.2.2⟩, a12⟩
end AL2
theorem sd_new (i : Nat) : Sd (.new i) := by
  intro len D cy bse b0 L0 xs0 p l e R s m args below meth c Q mm d k c0 u0 ad h ls st H locs cells slots la k' ls' st' h' M X hd hr hn h31 hs hc hu kk
  obtain ⟨hx, hb, hml, ho, hts, hK, hRf, hRl, hin, hEX⟩ := M
  have I' := (stp_ok (xop_ok mm k) X.1 hs).1
  obtain ⟨hr, hq⟩ := (by unfold xrel at hr; exact Bool.and_eq_true_iff.mp hr : xe _ _ _ _ _ _ _ = true ∧ _)
  simp only [Bool.and_eq_true, decide_eq_true_eq] at hq
  obtain ⟨f0, f1, hq⟩ := hq
  obtain ⟨hop, rfl⟩ := xe_eq hr
  have hc1 : (xcd mm k).1 = 29 := by have z := congrArg Prod.fst hop; exact z
  unfold xstp at hs
  simp only [hc1, if_true, if_false, Nat.reduceEqDiff] at hs
  have hc3 : (xcd mm k).2.2.1 = ((vwN (xcd mm k).2.1.toNat : Nat) : Int) := by have z := congrArg (fun q => q.2.2.1) hop; exact z
  have hp := xnext_pc hn (by rw [hc1]; decide) (by rw [hc1]; decide) (by rw [hc1]; decide) (by rw [hc1]; decide)
  clear hop
  simp only [Option.some.injEq, Prod.mk.injEq] at hs
  obtain ⟨rfl, rfl, rfl, rfl⟩ := hs
  have gG := X.1.1
  have hA : ∀ q : Nat, s.heap.size ≤ q → bse ≤ q := fun q hq => Nat.le_trans X.2.2.2.2.2.2.2.2.2.2.2.2.2 hq
  have hcs := X.2.2.2.2.2.2.2.2.2.1
  rw [xn_al] at hc
  rw [xs_al] at hu
  obtain ⟨w1, w2⟩ := w_new f1
  obtain ⟨-, w3⟩ := cl_word hq
  have hts' : ∀ w ∈ xtL, w.before args s = true := fun w hw => hts w (List.mem_filter.mp hw).1 (List.mem_filter.mp hw).2
  have hfs : ∀ (q : Nat) (j : Nat), j < vwN (xcd mm k).2.1.toNat → defaultValue (tyX (xcd mm k).2.1.toNat j) = vp_V (cF (xad ad h.nx q) (h.al (xcd mm k).2.1 (xcd mm k).2.2.1) (xcd mm k).2.1.toNat h.nx) j := by
    intro q j hj
    unfold vp_V
    rw [List.getD_eq_getElem?_getD, cF_get hj, def_ok (vw_ok _ f1 _ hj), xr_al, xi_al, (gG.2.2.2.2.2.2.2 h.nx j (Int.le_refl _)).1, (gG.2.2.2.2.2.2.2 h.nx j (Int.le_refl _)).2]
    rfl
  have hfs' : ∀ q1 q2 : Nat, cF (xad ad h.nx q1) (h.al (xcd mm k).2.1 (xcd mm k).2.2.1) (xcd mm k).2.1.toNat h.nx = cF (xad ad h.nx q2) (h.al (xcd mm k).2.1 (xcd mm k).2.2.1) (xcd mm k).2.1.toNat h.nx := by
    intro q1 q2
    unfold cF
    refine List.map_congr_left fun j _ => ?_
    rw [xr_al, (gG.2.2.2.2.2.2.2 h.nx j (Int.le_refl _)).2]; rfl
  refine va_new hx hb hts' (vw_lay _ f1) (tyX _) (vw_ty _ f1) ho (hts _ w3 rfl) (hts _ w1 rfl) (hts _ w2 rfl) hK X.2.2.2.2.2.1 X.2.2.2.2.2.2.1 X.2.2.2.2.2.2.2.1 hA (vw_get _ f1) (hfs 0) (by omega) (by omega) hd (fun q H1 a1 a2 a3 => ?_)
  have Z := kk (xad ad h.nx q) H1 locs (cells + 1) (slots + (xcd mm k).2.2.1.toNat) la (xW_al X rfl (by omega) I' (k_c (of_decide_eq_true rfl) X.2.2.2.2.1) ?_ a1 a2 a3) (fun x _ h1 => xad_old h1)
  · rw [hp, List.map_cons, cV1, cRn (by have := gG.1; omega), cVs_up (fun b _ h1 => xad_old h1) X.1.2.2, hc3, Int.toNat_natCast] at Z
    unfold xad at Z
    rw [if_pos rfl] at Z
    exact Z
  · unfold cE
    rw [xt_al, if_pos rfl, if_pos (by omega), hfs' q 0]
theorem sd_invokespecial (i : Nat) : Sd (.invokespecial i) := by
  intro len D cy bse b0 L0 xs0 p l e R s m args below meth c Q mm d k c0 u0 ad h ls st H locs cells slots la k' ls' st' h' M X hd hr hn h31 hs hc hu kk
  obtain ⟨hx, hb, hml, ho, hts, hK, hRf, hRl, hin, hEX⟩ := M
  have I' := (stp_ok (xop_ok mm k) X.1 hs).1
  rcases (by unfold xrel at hr; exact (Bool.or_eq_true _ _).mp hr : _ ∨ _) with hr | hr
  · obtain ⟨hr, hq⟩ := (Bool.and_eq_true _ _).mp hr
    obtain ⟨hop, rfl⟩ := xe_eq (hr)
    have hc1 : (xcd mm k).1 = 30 := by rw [hop]
    have hp := xnext_pc hn (by rw [hc1]; decide) (by rw [hc1]; decide) (by rw [hc1]; decide) (by rw [hc1]; decide)
    unfold xstp at hs
    simp only [hc1, if_true, if_false, Nat.reduceEqDiff] at hs
    split at hs
    · rename_i q st1
      split at hs
      · cases hs
      rename_i g
      simp only [Option.some.injEq, Prod.mk.injEq] at hs
      obtain ⟨rfl, rfl, rfl, rfl⟩ := hs
      have Z := kk ad H locs cells slots la (xW_st X I' (k_t X.2.2.2.2.1)) (fun _ _ _ => rfl)
      have hcat := cat_le (ad := ad) (k_t X.2.2.2.2.1)
      simp only [List.map_cons, cV1]
      rw [cRn (fun z => g (Or.inl z))]
      rw [hp] at Z
      refine W.objInit hx hb ho (hts _ (ml_word hq) rfl) (hts _ w_oi rfl) (hts _ w_oc rfl) rfl (by rw [hml, ← X.2.2.1]; exact X.2.1.1) rfl hd (by omega) ?_ Z
      show 2 * 0 + _ + 12 ≤ _
      omega
    · cases hs
  · exact absurd (by have z := congrArg Prod.fst (xe_eq ((Bool.and_eq_true _ _).mp hr).1).1; exact z) h31
theorem sd_invokestatic (i : Nat) : Sd (.invokestatic i) := by
  intro len D cy bse b0 L0 xs0 p l e R s m args below meth c Q mm d k c0 u0 ad h ls st H locs cells slots la k' ls' st' h' M X hd hr hn h31 hs hc hu kk
  obtain ⟨hx, hb, hml, ho, hts, hK, hRf, hRl, hin, hEX⟩ := M
  have I' := (stp_ok (xop_ok mm k) X.1 hs).1
  have hr := (by unfold xrel at hr; exact hr : (_ || (_ || (_ || _))) = true)
  simp only [Bool.or_eq_true] at hr
  rcases hr with hr | hr | hr | hr
  · obtain ⟨hr, hq⟩ := (Bool.and_eq_true _ _).mp hr
    obtain ⟨hop, rfl⟩ := xe_eq (hr)
    have hc1 : (xcd mm k).1 = 34 := by rw [hop]
    have hp := xnext_pc hn (by rw [hc1]; decide) (by rw [hc1]; decide) (by rw [hc1]; decide) (by rw [hc1]; decide)
    unfold xstp at hs
    simp only [hc1, if_true, if_false, Nat.reduceEqDiff] at hs
    split at hs
    · rename_i y x st1
      split at hs
      · rename_i g
        simp only [Option.some.injEq, Prod.mk.injEq] at hs
        obtain ⟨rfl, rfl, rfl, rfl⟩ := hs
        have hry : xrg y := (ok_h X.1.2.2).1 rfl
        have hrx : xrg x := (ok_h (ok_t X.1.2.2)).1 rfl
        have Z := kk ad H locs cells slots la (xW_st X I' (k_c (of_decide_eq_true rfl) (k_t (k_t X.2.2.2.2.1)))) (fun _ _ _ => rfl)
        have hcat := cat_le (ad := ad) (k_t (k_t X.2.2.2.2.1))
        have hcs := X.2.2.2.2.2.2.2.2.2.1
        simp only [List.map_cons, cV0]
        rw [hp, List.map_cons, cV0] at Z
        refine va_mmax hx hb (by rw [hml, ← X.2.2.1]; exact X.2.1.1.symm) ho (hts _ (ml_word hq) rfl) (hts _ w_maxs rfl) (hts _ w_mi rfl) (hts _ w_maxc rfl) (by omega) (by omega) (by omega) (by omega) hd ?_
        have e : (if Int32.ofInt x < Int32.ofInt y then Int32.ofInt y else Int32.ofInt x) = Int32.ofInt (if x < y then y else x) := by
          by_cases c : x < y
          · rw [if_pos c, if_pos ((n_lt hrx hry).mpr c)]
          · rw [if_neg c, if_neg (fun z => c ((n_lt hrx hry).mp z))]
        rw [e]; exact Z
      · cases hs
    · cases hs
  · obtain ⟨hr, hq⟩ := (Bool.and_eq_true _ _).mp hr
    obtain ⟨hop, rfl⟩ := xe_eq (hr)
    have hc1 : (xcd mm k).1 = 35 := by rw [hop]
    have hp := xnext_pc hn (by rw [hc1]; decide) (by rw [hc1]; decide) (by rw [hc1]; decide) (by rw [hc1]; decide)
    unfold xstp at hs
    simp only [hc1, if_true, if_false, Nat.reduceEqDiff] at hs
    split at hs
    · rename_i y x st1
      split at hs
      · rename_i g
        simp only [Option.some.injEq, Prod.mk.injEq] at hs
        obtain ⟨rfl, rfl, rfl, rfl⟩ := hs
        have hry : xrg y := (ok_h X.1.2.2).1 rfl
        have hrx : xrg x := (ok_h (ok_t X.1.2.2)).1 rfl
        have Z := kk ad H locs cells slots la (xW_st X I' (k_c (of_decide_eq_true rfl) (k_t (k_t X.2.2.2.2.1)))) (fun _ _ _ => rfl)
        have hcat := cat_le (ad := ad) (k_t (k_t X.2.2.2.2.1))
        have hcs := X.2.2.2.2.2.2.2.2.2.1
        simp only [List.map_cons, cV0]
        rw [hp, List.map_cons, cV0] at Z
        refine va_mmin hx hb (by rw [hml, ← X.2.2.1]; exact X.2.1.1.symm) ho (hts _ (ml_word hq) rfl) (hts _ w_mins rfl) (hts _ w_mi rfl) (hts _ w_minc rfl) (by omega) (by omega) (by omega) (by omega) hd ?_
        have e : (if Int32.ofInt y < Int32.ofInt x then Int32.ofInt y else Int32.ofInt x) = Int32.ofInt (if y < x then y else x) := by
          by_cases c : y < x
          · rw [if_pos c, if_pos ((n_lt hry hrx).mpr c)]
          · rw [if_neg c, if_neg (fun z => c ((n_lt hry hrx).mp z))]
        rw [e]; exact Z
      · cases hs
    · cases hs
  · obtain ⟨hr, hq⟩ := (Bool.and_eq_true _ _).mp hr
    obtain ⟨hop, rfl⟩ := xe_eq (hr)
    have hc1 : (xcd mm k).1 = 36 := by rw [hop]
    have hp := xnext_pc hn (by rw [hc1]; decide) (by rw [hc1]; decide) (by rw [hc1]; decide) (by rw [hc1]; decide)
    unfold xstp at hs
    simp only [hc1, if_true, if_false, Nat.reduceEqDiff] at hs
    split at hs
    · rename_i n dp d1 sp s1 st1
      split at hs
      · rename_i g
        simp only [Option.some.injEq, Prod.mk.injEq] at hs
        obtain ⟨rfl, rfl, rfl, rfl⟩ := hs
        obtain ⟨g1, g2, g3, g4, g5, g6, g7, g8⟩ := g
        obtain ⟨he1, hp1, hn1⟩ := he_int (cy := cy) (ad := ad) X.1.1 g1 (by decide) (by decide)
        obtain ⟨he2, hp2, hn2⟩ := he_int (cy := cy) (ad := ad) X.1.1 g2 (by decide) (by decide)
        have l1 := X.1.1.2.2.2.2.1 s1
        have l2 := X.1.1.2.2.2.2.1 d1
        have rs : xrg sp := ⟨by omega, by omega⟩
        have rd : xrg dp := ⟨by omega, by omega⟩
        have rn : xrg n := ⟨by omega, by omega⟩
        have hcat := cat_le (ad := ad) (k_t (k_t (k_t (k_t (k_t X.2.2.2.2.1)))))
        simp only [List.map_cons, cV0, cV1]
        rw [cRn (x := s1) (by omega), cRn (x := d1) (by omega)]
        have e0 : cE cy ad (h.cp s1 sp d1 dp n) d1 = .inl (cy 20, (h.len d1).toNat, .inl (va_cpy (fun k => Int32.ofInt (h.i s1 k)) (fun k => Int32.ofInt (h.i d1 k)) sp.toNat dp.toNat n.toNat)) := by
          unfold cE
          rw [xt_cp, g2, if_neg (by decide), if_pos (by decide), xl_cp]
          congr 4
          funext j
          rw [xi_cp, if_pos rfl]
          unfold xcp va_cpy
          by_cases c : dp.toNat ≤ j ∧ j < dp.toNat + n.toNat
          · rw [if_pos c, if_pos (by omega), show sp + ((j : Int) - dp) = ((sp.toNat + (j - dp.toNat) : Nat) : Int) by omega]
          · rw [if_neg c, if_neg (by omega)]
        have e1 : ∀ b, b ≠ d1 → cE cy ad (h.cp s1 sp d1 dp n) b = cE cy ad h b := by
          intro b hb
          have e2 : (h.cp s1 sp d1 dp n).i b = h.i b := by funext j; rw [xi_cp, if_neg hb]
          unfold cE cF
          rw [xt_cp, xl_cp, e2, xr_cp]
        refine va_copyi hx hb (by rw [hml, ← X.2.2.1]; exact X.2.1.1.symm) ho (hts _ (ml_word hq) rfl) (hts _ w_cn rfl) (hts _ w_cs rfl) (hts _ w_ci rfl) hK X.2.2.2.2.2.1 X.2.2.2.2.2.2.1 X.2.2.2.2.2.2.2.1 _ _ 0 0 he1 he2 rfl rfl rfl (fun z => by have := (n_lt0 rs).mp z; omega) (fun z => by have := (n_lt0 rd).mp z; omega) (fun z => by have := (n_lt0 rn).mp z; omega) (by rw [n_clamp rs, n_clamp rn]; omega) (by rw [n_clamp rd, n_clamp rn]; omega) (fun _ _ => rfl) (by omega) ?_ hd (fun H1 locs1 a1 a2 a3 => ?_)
        · have : nativeFrameWords "java/lang/System" "arraycopy" 5 = 7 := by decide
          omega
        · rw [n_clamp rs, n_clamp rd, n_clamp rn] at a1 a2
          rw [wl_set (cy := cy) (ad := ad) (h := h) (h' := h.cp s1 sp d1 dp n) hp2 rfl e0 e1] at a1 a2
          have Z := kk ad H1 locs1 cells slots la (xW_wr X I' (k_t (k_t (k_t (k_t (k_t X.2.2.2.2.1))))) a1 a2 a3 rfl rfl rfl (by funext j; rw [xi_cp, if_neg (by omega)])) (fun _ _ _ => rfl)
          rw [hp] at Z
          exact Z
      · cases hs
    · cases hs
  · exact absurd (by have z := congrArg Prod.fst (xe_eq ((Bool.and_eq_true _ _).mp hr).1).1; exact z) h31
theorem sd_checkcast (i : Nat) : Sd (.checkcast i) := by
  intro len D cy bse b0 L0 xs0 p l e R s m args below meth c Q mm d k c0 u0 ad h ls st H locs cells slots la k' ls' st' h' M X hd hr hn h31 hs hc hu kk
  obtain ⟨hx, hb, hml, ho, hts, hK, hRf, hRl, hin, hEX⟩ := M
  have I' := (stp_ok (xop_ok mm k) X.1 hs).1
  obtain ⟨hr, hq⟩ := (by unfold xrel at hr; exact Bool.and_eq_true_iff.mp hr : xe _ _ _ _ _ _ _ = true ∧ _)
  obtain ⟨hop, rfl⟩ := xe_eq (hr)
  have hc1 : (xcd mm k).1 = 38 := by rw [hop]
  have hp := xnext_pc hn (by rw [hc1]; decide) (by rw [hc1]; decide) (by rw [hc1]; decide) (by rw [hc1]; decide)
  unfold xstp at hs
  simp only [hc1, if_true, if_false, Nat.reduceEqDiff] at hs
  simp only [Bool.and_eq_true, beq_iff_eq] at hq
  obtain ⟨q1, rfl⟩ := hq
  split at hs
  · rename_i q st1
    split at hs
    · rename_i g
      simp only [Option.some.injEq, Prod.mk.injEq] at hs
      obtain ⟨rfl, rfl, rfl, rfl⟩ := hs
      obtain ⟨he, hp2, hpn⟩ := he_int (cy := cy) (ad := ad) X.1.1 g (by decide) (by decide)
      have Z := kk ad H locs cells slots la (xW_st X I' X.2.2.2.2.1) (fun _ _ _ => rfl)
      simp only [List.map_cons, cV1, hp] at Z
      simp only [List.map_cons, cV1]
      rw [cRn (by omega)] at Z ⊢
      rw [q1] at ho
      exact va_castA hx hb ho (hts _ w_kc rfl) X.2.2.2.2.2.1 _ he (hK.2 0 _ rfl).2 hd Z
    · cases hs
  · cases hs
theorem sd_invokevirtual (i : Nat) : Sd (.invokevirtual i) := by
  intro len D cy bse b0 L0 xs0 p l e R s m args below meth c Q mm d k c0 u0 ad h ls st H locs cells slots la k' ls' st' h' M X hd hr hn h31 hs hc hu kk
  obtain ⟨hx, hb, hml, ho, hts, hK, hRf, hRl, hin, hEX⟩ := M
  have I' := (stp_ok (xop_ok mm k) X.1 hs).1
  rcases (by unfold xrel at hr; exact (Bool.or_eq_true _ _).mp hr : _ ∨ _) with hr | hr
  · obtain ⟨hr, hq⟩ := (Bool.and_eq_true _ _).mp hr
    obtain ⟨hop, rfl⟩ := xe_eq (hr)
    have hc1 : (xcd mm k).1 = 37 := by rw [hop]
    have hp := xnext_pc hn (by rw [hc1]; decide) (by rw [hc1]; decide) (by rw [hc1]; decide) (by rw [hc1]; decide)
    unfold xstp at hs
    simp only [hc1, if_true, if_false, Nat.reduceEqDiff] at hs
    simp only [Bool.and_eq_true, beq_iff_eq] at hq
    obtain ⟨q1, rfl⟩ := hq
    split at hs
    · rename_i q st1
      split at hs
      · rename_i g
        simp only [Option.some.injEq, Prod.mk.injEq] at hs
        obtain ⟨rfl, rfl, rfl, rfl⟩ := hs
        have gG := X.1.1
        have l0 := gG.2.2.2.2.1 q
        obtain ⟨he, hp2, hpn⟩ := he_int (cy := cy) (ad := ad) X.1.1 g.1 (by decide) (by decide)
        have hA : ∀ q : Nat, s.heap.size ≤ q → bse ≤ q := fun q hq => Nat.le_trans X.2.2.2.2.2.2.2.2.2.2.2.2.2 hq
        have hcs := X.2.2.2.2.2.2.2.2.2.1
        have hcat := cat_le (ad := ad) (k_t X.2.2.2.2.1)
        rw [xn_cp, xn_al] at hc
        rw [xs_cp, xs_al] at hu
        simp only [List.map_cons, cV1]
        rw [cRn (by omega)]
        rw [q1] at ho
        refine va_clone hx hb (by rw [hml, ← X.2.2.1]; exact X.2.1.1.symm) ho (hts _ w_kl rfl) (hts _ w_ksm rfl) (hts _ w_kn rfl) (hts _ w_ki rfl) (hts _ w_ksl rfl) hEX.2.2.1 hK X.2.2.2.2.2.1 X.2.2.2.2.2.2.1 X.2.2.2.2.2.2.2.1 hA _ 0 he rfl (hK.2 0 _ rfl).2 (fun j v hv => ?_) (by omega) (by omega) (by omega) (by omega) hd (fun z H1 a0 a1 a2 a3 => ?_)
        · have hv : (arrV (cy 20) (h.len q).toNat (fun j => .int (Int32.ofInt (h.i q j)))).slots[j]? = some v := hv
          unfold arrV at hv
          rw [Array.getElem?_ofFn] at hv
          split at hv
          · rw [← Option.some.inj hv]; rfl
          · cases hv
        · have eC : vp_cell (cy 20) ((h.len q).toNat, .inl (fun k => Int32.ofInt (h.i q k))) = vp_cell (cy 20) ((h.len q).toNat, .inl (fun k => Int32.ofInt (((h.al 20 (h.len q)).cp q 0 h.nx 0 (h.len q)).i h.nx k))) := by
            rw [vp_cell_i, vp_cell_i]
            unfold arrV
            congr 2
            funext j
            have hj := j.isLt
            dsimp only
            rw [xi_cp, if_pos rfl]
            unfold xcp
            rw [if_pos (by omega), xi_al, show (0 : Int) + ((j.val : Int) - 0) = j.val by omega]
          have b1 := va_P_swap a1 eC
          have b2 := va_D_swap (x' := .inl (cy 20, (h.len q).toNat, .inl (fun k => Int32.ofInt (((h.al 20 (h.len q)).cp q 0 h.nx 0 (h.len q)).i h.nx k)))) a2
          have X2 := xW_al2 X rfl l0.1 I' (k_c (of_decide_eq_true rfl) (k_t X.2.2.2.2.1)) (x := .inl (cy 20, (h.len q).toNat, .inl (fun k => Int32.ofInt (((h.al 20 (h.len q)).cp q 0 h.nx 0 (h.len q)).i h.nx k)))) (by
            unfold cE
            rw [xt_cp, xt_al, if_pos rfl, if_neg (by decide), if_pos (by decide), xl_cp, xl_al, if_pos rfl]) b1 b2 a3
          have Z := kk (xad ad h.nx z) H1 locs (cells + 1) (slots + (h.len q).toNat) la X2 (fun x _ h1 => xad_old h1)
          rw [hp, List.map_cons, cV1, cRn (by have := gG.1; omega), cVs_up (fun b _ h1 => xad_old h1) (ok_t X.1.2.2)] at Z
          unfold xad at Z
          rw [if_pos rfl] at Z
          exact Z
      · cases hs
    · cases hs
  · exact absurd (by have z := congrArg Prod.fst (xe_eq ((Bool.and_eq_true _ _).mp hr).1).1; exact z) h31
