/-! more instructions: switch, numbers, stack -/
section
theorem n_i2b {x : Int} (h : xrg x) : (Int32.ofInt x).toInt8.toInt32 = Int32.ofInt (xw8 x) := by
  apply Int32.toInt_inj.mp
  rw [n_toInt (rg_w8 x), Int8.toInt_toInt32, Int32.toInt_toInt8, n_toInt h, Int.bmod_def]
  unfold xw8
  split <;> omega
theorem n_i2l {x : Int} (h : xrg x) : (Int32.ofInt x).toInt64 = Int64.ofInt x := by
  apply Int64.toInt_inj.mp
  rw [Int32.toInt_toInt64, n_toInt h, l_toInt (by unfold xrg at h; unfold xrl; omega)]
theorem l_ofInt (v : Int64) : Int64.ofInt v.toInt = v := Int64.ofInt_toInt v
theorem l_lt {x y : Int} (hx : xrl x) (hy : xrl y) : Int64.ofInt x < Int64.ofInt y ↔ x < y := by rw [Int64.lt_iff_toInt_lt, l_toInt hx, l_toInt hy]
theorem l_inj {x y : Int} (hx : xrl x) (hy : xrl y) : Int64.ofInt x = Int64.ofInt y ↔ x = y := ⟨fun e => by rw [← l_toInt hx, e, l_toInt hy], fun e => by rw [e]⟩
theorem l_cmp {x y : Int} (hx : xrl x) (hy : xrl y) : lg_cmp (Int64.ofInt x) (Int64.ofInt y) = Int32.ofInt (xlcmp x y) := by
  unfold lg_cmp xlcmp
  simp only [gt_iff_lt, l_lt hy hx, l_inj hx hy]
  by_cases a : y < x
  · rw [if_pos a, if_neg (by omega), if_pos a]; rfl
  · rw [if_neg a]
    by_cases b : x = y
    · rw [if_pos b, if_neg (by omega), if_neg (by omega)]; rfl
    · rw [if_neg b, if_pos (by omega)]; rfl
theorem xn32_vf {r : UInt32} (h : xn32 r = true) : vf_n32 r := by unfold xn32 at h; unfold vf_n32; exact of_decide_eq_true h
theorem cV_cat1 {ad : Int → Nat} {v : xV} (h4 : v.1 < 4) (h3 : ¬ v.1 = 3) : (cV ad v).category = 1 := by
  unfold cV
  by_cases c0 : v.1 = 0
  · rw [if_pos c0]; rfl
  · rw [if_neg c0]
    by_cases c1 : v.1 = 1
    · rw [if_pos c1]; unfold cR; split <;> rfl
    · rw [if_neg c1]
      by_cases c2 : v.1 = 2
      · rw [if_pos c2]; rfl
      · omega
theorem sd_i2b : Sd .i2b := by
  intro len D cy bse b0 L0 xs0 p l e R s m args below meth c Q mm d k c0 u0 ad h ls st H locs cells slots la k' ls' st' h' M X hd hr hn h31 hs hc hu kk
  obtain ⟨hx, hb, hml, ho, hts, hK, hRf, hRl, hin, hEX⟩ := M
  have I' := (stp_ok (xop_ok mm k) X.1 hs).1
  obtain ⟨hop, rfl⟩ := xe_eq (by unfold xrel at hr; exact hr)
  have hc1 : (xcd mm k).1 = 61 := by rw [hop]
  have hp := xnext_pc hn (by rw [hc1]; decide) (by rw [hc1]; decide) (by rw [hc1]; decide) (by rw [hc1]; decide)
  unfold xstp at hs
  simp only [hc1, if_true, if_false, Nat.reduceEqDiff] at hs
  split at hs
  · simp only [Option.some.injEq, Prod.mk.injEq] at hs
    obtain ⟨rfl, rfl, rfl, rfl⟩ := hs
    have hrx := (ok_h X.1.2.2).1 rfl
    have Z := kk ad H locs cells slots la (xW_st X I' (k_c (of_decide_eq_true rfl) (k_t X.2.2.2.2.1))) (fun _ _ _ => rfl)
    simp only [List.map_cons, cV0, cV1, cV2, cV3, hp] at Z
    simp only [List.map_cons, cV0, cV1, cV2, cV3]
    exact lv_i2b hx hb hd (n_i2b hrx) Z
  · cases hs
theorem sd_i2l : Sd .i2l := by
  intro len D cy bse b0 L0 xs0 p l e R s m args below meth c Q mm d k c0 u0 ad h ls st H locs cells slots la k' ls' st' h' M X hd hr hn h31 hs hc hu kk
  obtain ⟨hx, hb, hml, ho, hts, hK, hRf, hRl, hin, hEX⟩ := M
  have I' := (stp_ok (xop_ok mm k) X.1 hs).1
  obtain ⟨hop, rfl⟩ := xe_eq (by unfold xrel at hr; exact hr)
  have hc1 : (xcd mm k).1 = 46 := by rw [hop]
  have hp := xnext_pc hn (by rw [hc1]; decide) (by rw [hc1]; decide) (by rw [hc1]; decide) (by rw [hc1]; decide)
  unfold xstp at hs
  simp only [hc1, if_true, if_false, Nat.reduceEqDiff] at hs
  split at hs
  · simp only [Option.some.injEq, Prod.mk.injEq] at hs
    obtain ⟨rfl, rfl, rfl, rfl⟩ := hs
    have hrx := (ok_h X.1.2.2).1 rfl
    have Z := kk ad H locs cells slots la (xW_st X I' (k_c (of_decide_eq_true rfl) (k_t X.2.2.2.2.1))) (fun _ _ _ => rfl)
    simp only [List.map_cons, cV0, cV1, cV2, cV3, hp] at Z
    simp only [List.map_cons, cV0, cV1, cV2, cV3]
    exact lv_i2l hx hb hd (n_i2l hrx) Z
  · cases hs
theorem sd_l2i : Sd .l2i := by
  intro len D cy bse b0 L0 xs0 p l e R s m args below meth c Q mm d k c0 u0 ad h ls st H locs cells slots la k' ls' st' h' M X hd hr hn h31 hs hc hu kk
  obtain ⟨hx, hb, hml, ho, hts, hK, hRf, hRl, hin, hEX⟩ := M
  have I' := (stp_ok (xop_ok mm k) X.1 hs).1
  obtain ⟨hop, rfl⟩ := xe_eq (by unfold xrel at hr; exact hr)
  have hc1 : (xcd mm k).1 = 47 := by rw [hop]
  have hp := xnext_pc hn (by rw [hc1]; decide) (by rw [hc1]; decide) (by rw [hc1]; decide) (by rw [hc1]; decide)
  unfold xstp at hs
  simp only [hc1, if_true, if_false, Nat.reduceEqDiff] at hs
  split at hs
  · simp only [Option.some.injEq, Prod.mk.injEq] at hs
    obtain ⟨rfl, rfl, rfl, rfl⟩ := hs
    have Z := kk ad H locs cells slots la (xW_st X I' (k_c (of_decide_eq_true rfl) (k_t X.2.2.2.2.1))) (fun _ _ _ => rfl)
    simp only [List.map_cons, cV0, cV1, cV2, cV3, hp, xl2i, n_ofInt] at Z
    simp only [List.map_cons, cV0, cV1, cV2, cV3]
    exact lv_l2i hx hb hd rfl Z
  · cases hs
theorem sd_i2f : Sd .i2f := by
  intro len D cy bse b0 L0 xs0 p l e R s m args below meth c Q mm d k c0 u0 ad h ls st H locs cells slots la k' ls' st' h' M X hd hr hn h31 hs hc hu kk
  obtain ⟨hx, hb, hml, ho, hts, hK, hRf, hRl, hin, hEX⟩ := M
  have I' := (stp_ok (xop_ok mm k) X.1 hs).1
  obtain ⟨hop, rfl⟩ := xe_eq (by unfold xrel at hr; exact hr)
  have hc1 : (xcd mm k).1 = 83 := by rw [hop]
  have hp := xnext_pc hn (by rw [hc1]; decide) (by rw [hc1]; decide) (by rw [hc1]; decide) (by rw [hc1]; decide)
  unfold xstp at hs
  simp only [hc1, if_true, if_false, Nat.reduceEqDiff] at hs
  split at hs
  · simp only [Option.some.injEq, Prod.mk.injEq] at hs
    obtain ⟨rfl, rfl, rfl, rfl⟩ := hs
    have Z := kk ad H locs cells slots la (xW_st X I' (k_c (of_decide_eq_true rfl) (k_t X.2.2.2.2.1))) (fun _ _ _ => rfl)
    simp only [List.map_cons, cV0, cV1, cV2, cV3, hp, xi2f, f_fu] at Z
    simp only [List.map_cons, cV0, cV1, cV2, cV3]
    exact lv_i2f hx hb hd Z
  · cases hs
theorem sd_f2i : Sd .f2i := by
  intro len D cy bse b0 L0 xs0 p l e R s m args below meth c Q mm d k c0 u0 ad h ls st H locs cells slots la k' ls' st' h' M X hd hr hn h31 hs hc hu kk
  obtain ⟨hx, hb, hml, ho, hts, hK, hRf, hRl, hin, hEX⟩ := M
  have I' := (stp_ok (xop_ok mm k) X.1 hs).1
  obtain ⟨hop, rfl⟩ := xe_eq (by unfold xrel at hr; exact hr)
  have hc1 : (xcd mm k).1 = 84 := by rw [hop]
  have hp := xnext_pc hn (by rw [hc1]; decide) (by rw [hc1]; decide) (by rw [hc1]; decide) (by rw [hc1]; decide)
  unfold xstp at hs
  simp only [hc1, if_true, if_false, Nat.reduceEqDiff] at hs
  split at hs
  · simp only [Option.some.injEq, Prod.mk.injEq] at hs
    obtain ⟨rfl, rfl, rfl, rfl⟩ := hs
    have Z := kk ad H locs cells slots la (xW_st X I' (k_c (of_decide_eq_true rfl) (k_t X.2.2.2.2.1))) (fun _ _ _ => rfl)
    simp only [List.map_cons, cV0, cV1, cV2, cV3, hp, xf2i, n_ofInt] at Z
    simp only [List.map_cons, cV0, cV1, cV2, cV3]
    exact lv_f2i hx hb hd Z
  · cases hs
theorem sd_ladd : Sd .ladd := by
  intro len D cy bse b0 L0 xs0 p l e R s m args below meth c Q mm d k c0 u0 ad h ls st H locs cells slots la k' ls' st' h' M X hd hr hn h31 hs hc hu kk
  obtain ⟨hx, hb, hml, ho, hts, hK, hRf, hRl, hin, hEX⟩ := M
  have I' := (stp_ok (xop_ok mm k) X.1 hs).1
  obtain ⟨hop, rfl⟩ := xe_eq (by unfold xrel at hr; exact hr)
  have hc1 : (xcd mm k).1 = 41 := by rw [hop]
  have hp := xnext_pc hn (by rw [hc1]; decide) (by rw [hc1]; decide) (by rw [hc1]; decide) (by rw [hc1]; decide)
  unfold xstp at hs
  simp only [hc1, if_true, if_false, Nat.reduceEqDiff] at hs
  split at hs
  · simp only [Option.some.injEq, Prod.mk.injEq] at hs
    obtain ⟨rfl, rfl, rfl, rfl⟩ := hs
    have Z := kk ad H locs cells slots la (xW_st X I' (k_c (of_decide_eq_true rfl) (k_t (k_t X.2.2.2.2.1)))) (fun _ _ _ => rfl)
    simp only [List.map_cons, cV0, cV1, cV2, cV3, hp, xladd, l_ofInt] at Z
    simp only [List.map_cons, cV0, cV1, cV2, cV3]
    exact lv_ladd hx hb hd Z
  · cases hs
theorem sd_lmul : Sd .lmul := by
  intro len D cy bse b0 L0 xs0 p l e R s m args below meth c Q mm d k c0 u0 ad h ls st H locs cells slots la k' ls' st' h' M X hd hr hn h31 hs hc hu kk
  obtain ⟨hx, hb, hml, ho, hts, hK, hRf, hRl, hin, hEX⟩ := M
  have I' := (stp_ok (xop_ok mm k) X.1 hs).1
  obtain ⟨hop, rfl⟩ := xe_eq (by unfold xrel at hr; exact hr)
  have hc1 : (xcd mm k).1 = 42 := by rw [hop]
  have hp := xnext_pc hn (by rw [hc1]; decide) (by rw [hc1]; decide) (by rw [hc1]; decide) (by rw [hc1]; decide)
  unfold xstp at hs
  simp only [hc1, if_true, if_false, Nat.reduceEqDiff] at hs
  split at hs
  · simp only [Option.some.injEq, Prod.mk.injEq] at hs
    obtain ⟨rfl, rfl, rfl, rfl⟩ := hs
    have Z := kk ad H locs cells slots la (xW_st X I' (k_c (of_decide_eq_true rfl) (k_t (k_t X.2.2.2.2.1)))) (fun _ _ _ => rfl)
    simp only [List.map_cons, cV0, cV1, cV2, cV3, hp, xlmul, l_ofInt] at Z
    simp only [List.map_cons, cV0, cV1, cV2, cV3]
    exact lv_lmul hx hb hd Z
  · cases hs
theorem sd_lcmp : Sd .lcmp := by
  intro len D cy bse b0 L0 xs0 p l e R s m args below meth c Q mm d k c0 u0 ad h ls st H locs cells slots la k' ls' st' h' M X hd hr hn h31 hs hc hu kk
  obtain ⟨hx, hb, hml, ho, hts, hK, hRf, hRl, hin, hEX⟩ := M
  have I' := (stp_ok (xop_ok mm k) X.1 hs).1
  obtain ⟨hop, rfl⟩ := xe_eq (by unfold xrel at hr; exact hr)
  have hc1 : (xcd mm k).1 = 45 := by rw [hop]
  have hp := xnext_pc hn (by rw [hc1]; decide) (by rw [hc1]; decide) (by rw [hc1]; decide) (by rw [hc1]; decide)
  unfold xstp at hs
  simp only [hc1, if_true, if_false, Nat.reduceEqDiff] at hs
  split at hs
  · simp only [Option.some.injEq, Prod.mk.injEq] at hs
    obtain ⟨rfl, rfl, rfl, rfl⟩ := hs
    have hry := (ok_h X.1.2.2).2.2.2 rfl
    have hrx := (ok_h (ok_t X.1.2.2)).2.2.2 rfl
    have Z := kk ad H locs cells slots la (xW_st X I' (k_c (of_decide_eq_true rfl) (k_t (k_t X.2.2.2.2.1)))) (fun _ _ _ => rfl)
    simp only [List.map_cons, cV0, cV1, cV2, cV3, hp] at Z
    simp only [List.map_cons, cV0, cV1, cV2, cV3]
    exact W.lcmp hx hb hd (by rw [l_cmp hrx hry]; exact Z)
  · cases hs
theorem sd_ldiv : Sd .ldiv := by
  intro len D cy bse b0 L0 xs0 p l e R s m args below meth c Q mm d k c0 u0 ad h ls st H locs cells slots la k' ls' st' h' M X hd hr hn h31 hs hc hu kk
  obtain ⟨hx, hb, hml, ho, hts, hK, hRf, hRl, hin, hEX⟩ := M
  have I' := (stp_ok (xop_ok mm k) X.1 hs).1
  obtain ⟨hop, rfl⟩ := xe_eq (by unfold xrel at hr; exact hr)
  have hc1 : (xcd mm k).1 = 43 := by rw [hop]
  have hp := xnext_pc hn (by rw [hc1]; decide) (by rw [hc1]; decide) (by rw [hc1]; decide) (by rw [hc1]; decide)
  unfold xstp at hs
  simp only [hc1, if_true, if_false, Nat.reduceEqDiff] at hs
  split at hs
  · split at hs
    · cases hs
    rename_i g
    simp only [Option.some.injEq, Prod.mk.injEq] at hs
    obtain ⟨rfl, rfl, rfl, rfl⟩ := hs
    have Z := kk ad H locs cells slots la (xW_st X I' (k_c (of_decide_eq_true rfl) (k_t (k_t X.2.2.2.2.1)))) (fun _ _ _ => rfl)
    simp only [List.map_cons, cV0, cV1, cV2, cV3, hp, xldiv, l_ofInt] at Z
    simp only [List.map_cons, cV0, cV1, cV2, cV3]
    refine lv_ldiv hx hb hd (fun q => g ((l_inj ((ok_h X.1.2.2).2.2.2 rfl) (y := 0) (by unfold xrl; omega)).mp q)) Z
  · cases hs
theorem sd_lrem : Sd .lrem := by
  intro len D cy bse b0 L0 xs0 p l e R s m args below meth c Q mm d k c0 u0 ad h ls st H locs cells slots la k' ls' st' h' M X hd hr hn h31 hs hc hu kk
  obtain ⟨hx, hb, hml, ho, hts, hK, hRf, hRl, hin, hEX⟩ := M
  have I' := (stp_ok (xop_ok mm k) X.1 hs).1
  obtain ⟨hop, rfl⟩ := xe_eq (by unfold xrel at hr; exact hr)
  have hc1 : (xcd mm k).1 = 44 := by rw [hop]
  have hp := xnext_pc hn (by rw [hc1]; decide) (by rw [hc1]; decide) (by rw [hc1]; decide) (by rw [hc1]; decide)
  unfold xstp at hs
  simp only [hc1, if_true, if_false, Nat.reduceEqDiff] at hs
  split at hs
  · split at hs
    · cases hs
    rename_i g
    simp only [Option.some.injEq, Prod.mk.injEq] at hs
    obtain ⟨rfl, rfl, rfl, rfl⟩ := hs
    have Z := kk ad H locs cells slots la (xW_st X I' (k_c (of_decide_eq_true rfl) (k_t (k_t X.2.2.2.2.1)))) (fun _ _ _ => rfl)
    simp only [List.map_cons, cV0, cV1, cV2, cV3, hp, xlrem, l_ofInt] at Z
    simp only [List.map_cons, cV0, cV1, cV2, cV3]
    refine lv_lrem hx hb hd (fun q => g ((l_inj ((ok_h X.1.2.2).2.2.2 rfl) (y := 0) (by unfold xrl; omega)).mp q)) Z
  · cases hs
theorem sd_fmul : Sd .fmul := by
  intro len D cy bse b0 L0 xs0 p l e R s m args below meth c Q mm d k c0 u0 ad h ls st H locs cells slots la k' ls' st' h' M X hd hr hn h31 hs hc hu kk
  obtain ⟨hx, hb, hml, ho, hts, hK, hRf, hRl, hin, hEX⟩ := M
  have I' := (stp_ok (xop_ok mm k) X.1 hs).1
  obtain ⟨hop, rfl⟩ := xe_eq (by unfold xrel at hr; exact hr)
  have hc1 : (xcd mm k).1 = 81 := by rw [hop]
  have hp := xnext_pc hn (by rw [hc1]; decide) (by rw [hc1]; decide) (by rw [hc1]; decide) (by rw [hc1]; decide)
  unfold xstp at hs
  simp only [hc1, if_true, if_false, Nat.reduceEqDiff] at hs
  split at hs
  · split at hs
    · rename_i g
      simp only [Option.some.injEq, Prod.mk.injEq] at hs
      obtain ⟨rfl, rfl, rfl, rfl⟩ := hs
      have Z := kk ad H locs cells slots la (xW_st X I' (k_c (of_decide_eq_true rfl) (k_t (k_t X.2.2.2.2.1)))) (fun _ _ _ => rfl)
      simp only [List.map_cons, cV0, cV1, cV2, cV3, hp, xfmul, f_fu] at Z
      simp only [List.map_cons, cV0, cV1, cV2, cV3]
      exact lv_fmul hx hb hd (xn32_vf g) Z
    · cases hs
  · cases hs
theorem sd_fdiv : Sd .fdiv := by
  intro len D cy bse b0 L0 xs0 p l e R s m args below meth c Q mm d k c0 u0 ad h ls st H locs cells slots la k' ls' st' h' M X hd hr hn h31 hs hc hu kk
  obtain ⟨hx, hb, hml, ho, hts, hK, hRf, hRl, hin, hEX⟩ := M
  have I' := (stp_ok (xop_ok mm k) X.1 hs).1
  obtain ⟨hop, rfl⟩ := xe_eq (by unfold xrel at hr; exact hr)
  have hc1 : (xcd mm k).1 = 82 := by rw [hop]
  have hp := xnext_pc hn (by rw [hc1]; decide) (by rw [hc1]; decide) (by rw [hc1]; decide) (by rw [hc1]; decide)
  unfold xstp at hs
  simp only [hc1, if_true, if_false, Nat.reduceEqDiff] at hs
  split at hs
  · split at hs
    · rename_i g
      simp only [Option.some.injEq, Prod.mk.injEq] at hs
      obtain ⟨rfl, rfl, rfl, rfl⟩ := hs
      have Z := kk ad H locs cells slots la (xW_st X I' (k_c (of_decide_eq_true rfl) (k_t (k_t X.2.2.2.2.1)))) (fun _ _ _ => rfl)
      simp only [List.map_cons, cV0, cV1, cV2, cV3, hp, xfdiv, f_fu] at Z
      simp only [List.map_cons, cV0, cV1, cV2, cV3]
      exact lv_fdiv hx hb hd (xn32_vf g) Z
    · cases hs
  · cases hs
theorem sd_dup : Sd .dup := by
  intro len D cy bse b0 L0 xs0 p l e R s m args below meth c Q mm d k c0 u0 ad h ls st H locs cells slots la k' ls' st' h' M X hd hr hn h31 hs hc hu kk
  obtain ⟨hx, hb, hml, ho, hts, hK, hRf, hRl, hin, hEX⟩ := M
  have I' := (stp_ok (xop_ok mm k) X.1 hs).1
  obtain ⟨hop, rfl⟩ := xe_eq (by unfold xrel at hr; exact hr)
  have hc1 : (xcd mm k).1 = 70 := by rw [hop]
  have hp := xnext_pc hn (by rw [hc1]; decide) (by rw [hc1]; decide) (by rw [hc1]; decide) (by rw [hc1]; decide)
  unfold xstp at hs
  simp only [hc1, if_true, if_false, Nat.reduceEqDiff] at hs
  split at hs
  · split at hs
    · cases hs
    rename_i g
    simp only [Option.some.injEq, Prod.mk.injEq] at hs
    obtain ⟨rfl, rfl, rfl, rfl⟩ := hs
    have Z := kk ad H locs cells slots la (xW_st X I' (k_c (X.2.2.2.2.1 _ List.mem_cons_self) X.2.2.2.2.1)) (fun _ _ _ => rfl)
    simp only [List.map_cons, cV0, cV1, cV2, cV3, hp] at Z
    simp only [List.map_cons, cV0, cV1, cV2, cV3]
    exact lv_dup hx hb hd (cV_cat1 (X.2.2.2.2.1 _ List.mem_cons_self) g) Z
  · cases hs
theorem sd_dup2 : Sd .dup2 := by
  intro len D cy bse b0 L0 xs0 p l e R s m args below meth c Q mm d k c0 u0 ad h ls st H locs cells slots la k' ls' st' h' M X hd hr hn h31 hs hc hu kk
  obtain ⟨hx, hb, hml, ho, hts, hK, hRf, hRl, hin, hEX⟩ := M
  have I' := (stp_ok (xop_ok mm k) X.1 hs).1
  obtain ⟨hop, rfl⟩ := xe_eq (by unfold xrel at hr; exact hr)
  have hc1 : (xcd mm k).1 = 71 := by rw [hop]
  have hp := xnext_pc hn (by rw [hc1]; decide) (by rw [hc1]; decide) (by rw [hc1]; decide) (by rw [hc1]; decide)
  unfold xstp at hs
  simp only [hc1, if_true, if_false, Nat.reduceEqDiff] at hs
  split at hs
  · split at hs
    · cases hs
    rename_i g
    simp only [Option.some.injEq, Prod.mk.injEq] at hs
    obtain ⟨rfl, rfl, rfl, rfl⟩ := hs
    have Z := kk ad H locs cells slots la (xW_st X I' (k_c (X.2.2.2.2.1 _ List.mem_cons_self) (k_c (X.2.2.2.2.1 _ (List.mem_cons_of_mem _ List.mem_cons_self)) X.2.2.2.2.1))) (fun _ _ _ => rfl)
    simp only [List.map_cons, cV0, cV1, cV2, cV3, hp] at Z
    simp only [List.map_cons, cV0, cV1, cV2, cV3]
    exact lv_dup2_11 hx hb hd (cV_cat1 (X.2.2.2.2.1 _ List.mem_cons_self) (fun q => g (Or.inl q))) (cV_cat1 (X.2.2.2.2.1 _ (List.mem_cons_of_mem _ List.mem_cons_self)) (fun q => g (Or.inr q))) Z
  · cases hs
theorem sd_dup_x1 : Sd .dup_x1 := by
  intro len D cy bse b0 L0 xs0 p l e R s m args below meth c Q mm d k c0 u0 ad h ls st H locs cells slots la k' ls' st' h' M X hd hr hn h31 hs hc hu kk
  obtain ⟨hx, hb, hml, ho, hts, hK, hRf, hRl, hin, hEX⟩ := M
  have I' := (stp_ok (xop_ok mm k) X.1 hs).1
  obtain ⟨hop, rfl⟩ := xe_eq (by unfold xrel at hr; exact hr)
  have hc1 : (xcd mm k).1 = 72 := by rw [hop]
  have hp := xnext_pc hn (by rw [hc1]; decide) (by rw [hc1]; decide) (by rw [hc1]; decide) (by rw [hc1]; decide)
  unfold xstp at hs
  simp only [hc1, if_true, if_false, Nat.reduceEqDiff] at hs
  split at hs
  · split at hs
    · cases hs
    rename_i g
    simp only [Option.some.injEq, Prod.mk.injEq] at hs
    obtain ⟨rfl, rfl, rfl, rfl⟩ := hs
    have Z := kk ad H locs cells slots la (xW_st X I' (k_c (X.2.2.2.2.1 _ List.mem_cons_self) (k_c (X.2.2.2.2.1 _ (List.mem_cons_of_mem _ List.mem_cons_self)) (k_c (X.2.2.2.2.1 _ List.mem_cons_self) (k_t (k_t X.2.2.2.2.1)))))) (fun _ _ _ => rfl)
    simp only [List.map_cons, cV0, cV1, cV2, cV3, hp] at Z
    simp only [List.map_cons, cV0, cV1, cV2, cV3]
    exact lv_dup_x1 hx hb hd (cV_cat1 (X.2.2.2.2.1 _ List.mem_cons_self) (fun q => g (Or.inl q))) (cV_cat1 (X.2.2.2.2.1 _ (List.mem_cons_of_mem _ List.mem_cons_self)) (fun q => g (Or.inr q))) Z
  · cases hs
theorem sd_pop : Sd .pop := by
  intro len D cy bse b0 L0 xs0 p l e R s m args below meth c Q mm d k c0 u0 ad h ls st H locs cells slots la k' ls' st' h' M X hd hr hn h31 hs hc hu kk
  obtain ⟨hx, hb, hml, ho, hts, hK, hRf, hRl, hin, hEX⟩ := M
  have I' := (stp_ok (xop_ok mm k) X.1 hs).1
  obtain ⟨hop, rfl⟩ := xe_eq (by unfold xrel at hr; exact hr)
  have hc1 : (xcd mm k).1 = 73 := by rw [hop]
  have hp := xnext_pc hn (by rw [hc1]; decide) (by rw [hc1]; decide) (by rw [hc1]; decide) (by rw [hc1]; decide)
  unfold xstp at hs
  simp only [hc1, if_true, if_false, Nat.reduceEqDiff] at hs
  split at hs
  · split at hs
    · cases hs
    rename_i g
    simp only [Option.some.injEq, Prod.mk.injEq] at hs
    obtain ⟨rfl, rfl, rfl, rfl⟩ := hs
    have Z := kk ad H locs cells slots la (xW_st X I' (k_t X.2.2.2.2.1)) (fun _ _ _ => rfl)
    simp only [List.map_cons, cV0, cV1, cV2, cV3, hp] at Z
    simp only [List.map_cons, cV0, cV1, cV2, cV3]
    exact lv_pop hx hb hd (cV_cat1 (X.2.2.2.2.1 _ List.mem_cons_self) g) Z
  · cases hs
theorem sd_tableswitch (dflt lo hi : Int) (offs : Array Int) : Sd (.tableswitch dflt lo hi offs) := by
  intro len D cy bse b0 L0 xs0 p l e R s m args below meth c Q mm d k c0 u0 ad h ls st H locs cells slots la k' ls' st' h' M X hd hr hn h31 hs hc hu kk
  obtain ⟨hx, hb, hml, ho, hts, hK, hRf, hRl, hin, hEX⟩ := M
  have I' := (stp_ok (xop_ok mm k) X.1 hs).1
  have hr := (by unfold xrel at hr; exact hr : (_ && _) = true)
  simp only [Bool.and_eq_true, beq_iff_eq, decide_eq_true_eq, List.all_eq_true, List.mem_range] at hr
  obtain ⟨hc1, e1, hq, e2, e3, e4⟩ := hr
  unfold xstp at hs
  simp only [hc1, if_true, if_false, Nat.reduceEqDiff] at hs
  split at hs
  · rename_i x st1
    have hrx := (ok_h X.1.2.2).1 rfl
    split at hs
    · rename_i g
      simp only [Option.some.injEq, Prod.mk.injEq] at hs
      obtain ⟨rfl, rfl, rfl, rfl⟩ := hs
      have Z := kk ad H locs cells slots la (xW_st X I' (k_t X.2.2.2.2.1)) (fun _ _ _ => rfl)
      simp only [List.map_cons, cV0]
      refine lv_tableOut hx hb hd ?_ (xjmp_pc hq) Z
      rw [n_toInt hrx]; omega
    · rename_i g
      simp only [Option.some.injEq, Prod.mk.injEq] at hs
      obtain ⟨rfl, rfl, rfl, rfl⟩ := hs
      have Z := kk ad H locs cells slots la (xW_st X I' (k_t X.2.2.2.2.1)) (fun _ _ _ => rfl)
      simp only [List.map_cons, cV0]
      have hj : (x - lo).toNat < offs.size := by omega
      have e5 := e4 _ hj
      rw [← e1] at hj e5
      have ho2 : offs[(x - (xcd mm k).2.2.1).toNat]? = some (offs.getD (x - (xcd mm k).2.2.1).toNat 0) := by
        rw [Array.getD_eq_getD_getElem?, Array.getElem?_eq_getElem hj]; rfl
      refine lv_tableIn hx hb hd ?_ ?_ (off := offs.getD (x - (xcd mm k).2.2.1).toNat 0) ?_ (xjmp_pc e5) Z
      · rw [n_toInt hrx]; omega
      · rw [n_toInt hrx]; omega
      · rw [n_toInt hrx, ← e1]; exact ho2
  · cases hs
end
