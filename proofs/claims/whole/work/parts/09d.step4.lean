/-! arrays, new cells, what the JDK does itself -/
section AA
variable {D : va_G} {cy : Int → ClassId} {bse b0 L0 : Nat} {xs0 : Nat → Int32} {s : State} {mm : Nat} {c0 u0 : Int} {ad : Int → Nat} {h : xH} {ls st : List xV} {H : Heap} {locs : List Loc} {cells slots : Nat} {la : Array Slot}
theorem x_rg {x n : Int} (h0 : 0 ≤ x) (h1 : x < n) (h2 : n ≤ 7302250) : xrg x := ⟨by omega, by omega⟩
theorem n_inl {x : Int} {p : Int} (g : xG h) (h0 : 0 ≤ x) (h1 : x < h.len p) : vp_in (Int32.ofInt x) (h.len p).toNat := n_in (x_rg h0 h1 (g.2.2.2.2.1 p).2) h0 (by omega)
theorem n_cl {x : Int} {p : Int} (g : xG h) (h0 : 0 ≤ x) (h1 : x < h.len p) : (Int32.ofInt x).toNatClampNeg = x.toNat := n_clamp (x_rg h0 h1 (g.2.2.2.2.1 p).2)
theorem xG_30 {p : Int} (g : xG h) (ht : h.tag p = 30) : p = 1 := by
  obtain ⟨g1, g2, g3, g4, -⟩ := g
  by_cases c : p < 1 ∨ h.nx ≤ p
  · have := g3 p c; omega
  · by_cases c1 : p = 1
    · exact c1
    · have := g2 p (by omega) (by omega); unfold xvt at this; omega
end AA
theorem sd_iaload : Sd .iaload := by
  intro len D cy bse b0 L0 xs0 p l e R s m args below meth c Q mm d k c0 u0 ad h ls st H locs cells slots la k' ls' st' h' M X hd hr hn h31 hs hc hu kk
  obtain ⟨hx, hb, hml, ho, hts, hK, hRf, hRl, hin, hEX⟩ := M
  have I' := (stp_ok (xop_ok mm k) X.1 hs).1
  rcases (by unfold xrel at hr; exact (Bool.or_eq_true _ _).mp hr : _ ∨ _) with hr | hr
  · obtain ⟨hop, rfl⟩ := xe_eq (hr)
    have hc1 : (xcd mm k).1 = 22 := by rw [hop]
    have hp := xnext_pc hn (by rw [hc1]; decide) (by rw [hc1]; decide) (by rw [hc1]; decide) (by rw [hc1]; decide)
    unfold xstp at hs
    simp only [hc1, if_true, if_false, Nat.reduceEqDiff] at hs
    split at hs
    · rename_i x q st1
      split at hs
      · rename_i g
        simp only [Option.some.injEq, Prod.mk.injEq] at hs
        obtain ⟨rfl, rfl, rfl, rfl⟩ := hs
        simp only [hop] at g
        have Z := kk ad H locs cells slots la (xW_st X I' (k_c (of_decide_eq_true rfl) (k_t (k_t X.2.2.2.2.1)))) (fun _ _ _ => rfl)
        simp only [List.map_cons, cV0, cV1, hp] at Z
        simp only [List.map_cons, cV0, cV1]
        obtain ⟨he, hp2, hpn⟩ := he_int (cy := cy) (ad := ad) X.1.1 g.1 (by decide) (by decide)
        rw [cRn (by omega)]
        refine va_iald hx hb hK X.2.2.2.2.2.1 _ 0 he rfl (n_inl X.1.1 g.2.1 g.2.2) hd ?_
        rw [n_cl X.1.1 g.2.1 g.2.2, show ((x.toNat : Nat) : Int) = x by omega]
        exact Z
      · cases hs
    · cases hs
  · obtain ⟨hop, rfl⟩ := xe_eq (hr)
    have hc1 : (xcd mm k).1 = 22 := by rw [hop]
    have hp := xnext_pc hn (by rw [hc1]; decide) (by rw [hc1]; decide) (by rw [hc1]; decide) (by rw [hc1]; decide)
    unfold xstp at hs
    simp only [hc1, if_true, if_false, Nat.reduceEqDiff] at hs
    split at hs
    · rename_i x q st1
      split at hs
      · rename_i g
        simp only [Option.some.injEq, Prod.mk.injEq] at hs
        obtain ⟨rfl, rfl, rfl, rfl⟩ := hs
        simp only [hop] at g
        have Z := kk ad H locs cells slots la (xW_st X I' (k_c (of_decide_eq_true rfl) (k_t (k_t X.2.2.2.2.1)))) (fun _ _ _ => rfl)
        simp only [List.map_cons, cV0, cV1, hp] at Z
        simp only [List.map_cons, cV0, cV1]
        have e1 := xG_30 X.1.1 g.1
        subst e1
        have hsc := X.2.2.2.2.2.2.2.2.2.2
        have hl := hsc.1.2.1
        rw [cRn (by decide), hsc.1.1]
        refine va_sld hx hb X.2.2.2.2.2.2.2.2.1 hsc.2.2.1 (fun z => by have := hsc.2.1; omega) X.2.2.2.2.2.2.2.1 (n_in (x_rg g.2.1 g.2.2 (X.1.1.2.2.2.2.1 1).2) g.2.1 (by omega)) hd ?_
        rw [n_cl X.1.1 g.2.1 g.2.2, ← hsc.1.2.2 _ (by omega), show ((x.toNat : Nat) : Int) = x by omega]
        exact Z
      · cases hs
    · cases hs
theorem sd_baload : Sd .baload := by
  intro len D cy bse b0 L0 xs0 p l e R s m args below meth c Q mm d k c0 u0 ad h ls st H locs cells slots la k' ls' st' h' M X hd hr hn h31 hs hc hu kk
  obtain ⟨hx, hb, hml, ho, hts, hK, hRf, hRl, hin, hEX⟩ := M
  have I' := (stp_ok (xop_ok mm k) X.1 hs).1
  rcases (by unfold xrel at hr; exact (Bool.or_eq_true _ _).mp hr : _ ∨ _) with hr | hr
  · obtain ⟨hop, rfl⟩ := xe_eq (hr)
    have hc1 : (xcd mm k).1 = 22 := by rw [hop]
    have hp := xnext_pc hn (by rw [hc1]; decide) (by rw [hc1]; decide) (by rw [hc1]; decide) (by rw [hc1]; decide)
    unfold xstp at hs
    simp only [hc1, if_true, if_false, Nat.reduceEqDiff] at hs
    split at hs
    · rename_i x q st1
      split at hs
      · rename_i g
        simp only [Option.some.injEq, Prod.mk.injEq] at hs
        obtain ⟨rfl, rfl, rfl, rfl⟩ := hs
        simp only [hop] at g
        have Z := kk ad H locs cells slots la (xW_st X I' (k_c (of_decide_eq_true rfl) (k_t (k_t X.2.2.2.2.1)))) (fun _ _ _ => rfl)
        simp only [List.map_cons, cV0, cV1, hp] at Z
        simp only [List.map_cons, cV0, cV1]
        obtain ⟨he, hp2, hpn⟩ := he_int (cy := cy) (ad := ad) X.1.1 g.1 (by decide) (by decide)
        rw [cRn (by omega)]
        refine va_bald hx hb hK X.2.2.2.2.2.1 _ 1 he rfl (n_inl X.1.1 g.2.1 g.2.2) hd ?_
        rw [n_cl X.1.1 g.2.1 g.2.2, show ((x.toNat : Nat) : Int) = x by omega]
        exact Z
      · cases hs
    · cases hs
  · obtain ⟨hop, rfl⟩ := xe_eq (hr)
    have hc1 : (xcd mm k).1 = 22 := by rw [hop]
    have hp := xnext_pc hn (by rw [hc1]; decide) (by rw [hc1]; decide) (by rw [hc1]; decide) (by rw [hc1]; decide)
    unfold xstp at hs
    simp only [hc1, if_true, if_false, Nat.reduceEqDiff] at hs
    split at hs
    · rename_i x q st1
      split at hs
      · rename_i g
        simp only [Option.some.injEq, Prod.mk.injEq] at hs
        obtain ⟨rfl, rfl, rfl, rfl⟩ := hs
        simp only [hop] at g
        have Z := kk ad H locs cells slots la (xW_st X I' (k_c (of_decide_eq_true rfl) (k_t (k_t X.2.2.2.2.1)))) (fun _ _ _ => rfl)
        simp only [List.map_cons, cV0, cV1, hp] at Z
        simp only [List.map_cons, cV0, cV1]
        obtain ⟨he, hp2, hpn⟩ := he_int (cy := cy) (ad := ad) X.1.1 g.1 (by decide) (by decide)
        rw [cRn (by omega)]
        refine va_zald hx hb hK X.2.2.2.2.2.1 _ 2 he rfl (n_inl X.1.1 g.2.1 g.2.2) hd ?_
        rw [n_cl X.1.1 g.2.1 g.2.2, show ((x.toNat : Nat) : Int) = x by omega]
        exact Z
      · cases hs
    · cases hs
theorem sd_aaload : Sd .aaload := by
  intro len D cy bse b0 L0 xs0 p l e R s m args below meth c Q mm d k c0 u0 ad h ls st H locs cells slots la k' ls' st' h' M X hd hr hn h31 hs hc hu kk
  obtain ⟨hx, hb, hml, ho, hts, hK, hRf, hRl, hin, hEX⟩ := M
  have I' := (stp_ok (xop_ok mm k) X.1 hs).1
  rcases (by unfold xrel at hr; exact (Bool.or_eq_true _ _).mp hr : _ ∨ _) with hr | hr
  · obtain ⟨hop, rfl⟩ := xe_eq (hr)
    have hc1 : (xcd mm k).1 = 24 := by rw [hop]
    have hp := xnext_pc hn (by rw [hc1]; decide) (by rw [hc1]; decide) (by rw [hc1]; decide) (by rw [hc1]; decide)
    unfold xstp at hs
    simp only [hc1, if_true, if_false, Nat.reduceEqDiff] at hs
    split at hs
    · rename_i x q st1
      split at hs
      · rename_i g
        simp only [Option.some.injEq, Prod.mk.injEq] at hs
        obtain ⟨rfl, rfl, rfl, rfl⟩ := hs
        simp only [hop] at g
        have Z := kk ad H locs cells slots la (xW_st X I' (k_c (of_decide_eq_true rfl) (k_t (k_t X.2.2.2.2.1)))) (fun _ _ _ => rfl)
        simp only [List.map_cons, cV0, cV1, hp] at Z
        simp only [List.map_cons, cV0, cV1]
        obtain ⟨he, hp2, hpn⟩ := he_ref (cy := cy) (ad := ad) X.1.1 g.1 (by decide) (by decide)
        rw [cRn (by omega)]
        refine va_aldq hx hb hK X.2.2.2.2.2.1 _ 3 he rfl (n_inl X.1.1 g.2.1 g.2.2) hd ?_
        rw [n_cl X.1.1 g.2.1 g.2.2, show ((x.toNat : Nat) : Int) = x by omega]
        exact Z
      · cases hs
    · cases hs
  · obtain ⟨hop, rfl⟩ := xe_eq (hr)
    have hc1 : (xcd mm k).1 = 24 := by rw [hop]
    have hp := xnext_pc hn (by rw [hc1]; decide) (by rw [hc1]; decide) (by rw [hc1]; decide) (by rw [hc1]; decide)
    unfold xstp at hs
    simp only [hc1, if_true, if_false, Nat.reduceEqDiff] at hs
    split at hs
    · rename_i x q st1
      split at hs
      · rename_i g
        simp only [Option.some.injEq, Prod.mk.injEq] at hs
        obtain ⟨rfl, rfl, rfl, rfl⟩ := hs
        simp only [hop] at g
        have Z := kk ad H locs cells slots la (xW_st X I' (k_c (of_decide_eq_true rfl) (k_t (k_t X.2.2.2.2.1)))) (fun _ _ _ => rfl)
        simp only [List.map_cons, cV0, cV1, hp] at Z
        simp only [List.map_cons, cV0, cV1]
        obtain ⟨he, hp2, hpn⟩ := he_ref (cy := cy) (ad := ad) X.1.1 g.1 (by decide) (by decide)
        rw [cRn (by omega)]
        refine va_aldq hx hb hK X.2.2.2.2.2.1 _ 4 he rfl (n_inl X.1.1 g.2.1 g.2.2) hd ?_
        rw [n_cl X.1.1 g.2.1 g.2.2, show ((x.toNat : Nat) : Int) = x by omega]
        exact Z
      · cases hs
    · cases hs
theorem sd_iastore : Sd .iastore := by
  intro len D cy bse b0 L0 xs0 p l e R s m args below meth c Q mm d k c0 u0 ad h ls st H locs cells slots la k' ls' st' h' M X hd hr hn h31 hs hc hu kk
  obtain ⟨hx, hb, hml, ho, hts, hK, hRf, hRl, hin, hEX⟩ := M
  have I' := (stp_ok (xop_ok mm k) X.1 hs).1
  have hr := (by unfold xrel at hr; exact hr : xe _ _ _ _ _ _ _ = true)
  obtain ⟨hop, rfl⟩ := xe_eq (hr)
  have hc1 : (xcd mm k).1 = 23 := by rw [hop]
  have hp := xnext_pc hn (by rw [hc1]; decide) (by rw [hc1]; decide) (by rw [hc1]; decide) (by rw [hc1]; decide)
  unfold xstp at hs
  simp only [hc1, if_true, if_false, Nat.reduceEqDiff] at hs
  split at hs
  · rename_i v x q st1
    split at hs
    · rename_i g
      simp only [Option.some.injEq, Prod.mk.injEq] at hs
      obtain ⟨rfl, rfl, rfl, rfl⟩ := hs
      simp only [hop, Int.reduceEq, reduceIte] at g I' kk hc hu
      have hrv : xrg v := (ok_h X.1.2.2).1 rfl
      obtain ⟨he, hp2, hpn⟩ := he_int (cy := cy) (ad := ad) X.1.1 g.1 (by decide) (by decide)
      simp only [List.map_cons, cV0, cV1]
      rw [cRn (by omega)]
      refine va_iast hx hb hK X.2.2.2.2.2.1 X.2.2.2.2.2.2.1 X.2.2.2.2.2.2.2.1 _ 0 he rfl (n_inl X.1.1 g.2.1 g.2.2) hd (fun H1 locs1 a1 a2 a3 => ?_)
      rw [n_cl X.1.1 g.2.1 g.2.2] at a1 a2
      rw [wl_set (cy := cy) (ad := ad) (h := h) (h' := h.wi q x v) hp2 rfl (cE_wi_arr g.1 (by decide) (by decide) g.2.1) (fun b hb => cE_wi_ne hb)] at a1 a2
      have Z := kk ad H1 locs1 cells slots la (xW_wr X I' (k_t (k_t (k_t X.2.2.2.2.1))) a1 a2 a3 rfl rfl rfl (i_wi_ne (by omega))) (fun _ _ _ => rfl)
      rw [hp] at Z
      exact Z
    · cases hs
  · cases hs
theorem sd_bastore : Sd .bastore := by
  intro len D cy bse b0 L0 xs0 p l e R s m args below meth c Q mm d k c0 u0 ad h ls st H locs cells slots la k' ls' st' h' M X hd hr hn h31 hs hc hu kk
  obtain ⟨hx, hb, hml, ho, hts, hK, hRf, hRl, hin, hEX⟩ := M
  have I' := (stp_ok (xop_ok mm k) X.1 hs).1
  rcases (by unfold xrel at hr; exact (Bool.or_eq_true _ _).mp hr : _ ∨ _) with hr | hr
  · obtain ⟨hop, rfl⟩ := xe_eq (hr)
    have hc1 : (xcd mm k).1 = 23 := by rw [hop]
    have hp := xnext_pc hn (by rw [hc1]; decide) (by rw [hc1]; decide) (by rw [hc1]; decide) (by rw [hc1]; decide)
    unfold xstp at hs
    simp only [hc1, if_true, if_false, Nat.reduceEqDiff] at hs
    split at hs
    · rename_i v x q st1
      split at hs
      · rename_i g
        simp only [Option.some.injEq, Prod.mk.injEq] at hs
        obtain ⟨rfl, rfl, rfl, rfl⟩ := hs
        simp only [hop, Int.reduceEq, reduceIte] at g I' kk hc hu
        have hrv : xrg v := (ok_h X.1.2.2).1 rfl
        obtain ⟨he, hp2, hpn⟩ := he_int (cy := cy) (ad := ad) X.1.1 g.1 (by decide) (by decide)
        simp only [List.map_cons, cV0, cV1]
        rw [cRn (by omega)]
        refine va_bast hx hb hK X.2.2.2.2.2.1 X.2.2.2.2.2.2.1 X.2.2.2.2.2.2.2.1 _ 1 he rfl (n_inl X.1.1 g.2.1 g.2.2) hd (fun H1 locs1 a1 a2 a3 => ?_)
        rw [n_cl X.1.1 g.2.1 g.2.2, vp_nar_byte, n_i2b hrv] at a1 a2
        rw [wl_set (cy := cy) (ad := ad) (h := h) (h' := h.wi q x (xw8 v)) hp2 rfl (cE_wi_arr g.1 (by decide) (by decide) g.2.1) (fun b hb => cE_wi_ne hb)] at a1 a2
        have Z := kk ad H1 locs1 cells slots la (xW_wr X I' (k_t (k_t (k_t X.2.2.2.2.1))) a1 a2 a3 rfl rfl rfl (i_wi_ne (by omega))) (fun _ _ _ => rfl)
        rw [hp] at Z
        exact Z
      · cases hs
    · cases hs
  · obtain ⟨hop, rfl⟩ := xe_eq (hr)
    have hc1 : (xcd mm k).1 = 23 := by rw [hop]
    have hp := xnext_pc hn (by rw [hc1]; decide) (by rw [hc1]; decide) (by rw [hc1]; decide) (by rw [hc1]; decide)
    unfold xstp at hs
    simp only [hc1, if_true, if_false, Nat.reduceEqDiff] at hs
    split at hs
    · rename_i v x q st1
      split at hs
      · rename_i g
        simp only [Option.some.injEq, Prod.mk.injEq] at hs
        obtain ⟨rfl, rfl, rfl, rfl⟩ := hs
        simp only [hop, Int.reduceEq, reduceIte] at g I' kk hc hu
        have hrv : xrg v := (ok_h X.1.2.2).1 rfl
        obtain ⟨he, hp2, hpn⟩ := he_int (cy := cy) (ad := ad) X.1.1 g.1 (by decide) (by decide)
        simp only [List.map_cons, cV0, cV1]
        rw [cRn (by omega)]
        refine va_zast hx hb hK X.2.2.2.2.2.1 X.2.2.2.2.2.2.1 X.2.2.2.2.2.2.2.1 _ 2 he rfl (n_inl X.1.1 g.2.1 g.2.2) hd (fun H1 locs1 a1 a2 a3 => ?_)
        rw [n_cl X.1.1 g.2.1 g.2.2, n_z hrv] at a1 a2
        rw [wl_set (cy := cy) (ad := ad) (h := h) (h' := h.wi q x (v % 2)) hp2 rfl (cE_wi_arr g.1 (by decide) (by decide) g.2.1) (fun b hb => cE_wi_ne hb)] at a1 a2
        have Z := kk ad H1 locs1 cells slots la (xW_wr X I' (k_t (k_t (k_t X.2.2.2.2.1))) a1 a2 a3 rfl rfl rfl (i_wi_ne (by omega))) (fun _ _ _ => rfl)
        rw [hp] at Z
        exact Z
      · cases hs
    · cases hs
theorem sd_aastore : Sd .aastore := by
  intro len D cy bse b0 L0 xs0 p l e R s m args below meth c Q mm d k c0 u0 ad h ls st H locs cells slots la k' ls' st' h' M X hd hr hn h31 hs hc hu kk
  obtain ⟨hx, hb, hml, ho, hts, hK, hRf, hRl, hin, hEX⟩ := M
  have I' := (stp_ok (xop_ok mm k) X.1 hs).1
  rcases (by unfold xrel at hr; exact (Bool.or_eq_true _ _).mp hr : _ ∨ _) with hr | hr
  · obtain ⟨hop, rfl⟩ := xe_eq (hr)
    have hc1 : (xcd mm k).1 = 25 := by rw [hop]
    have hp := xnext_pc hn (by rw [hc1]; decide) (by rw [hc1]; decide) (by rw [hc1]; decide) (by rw [hc1]; decide)
    unfold xstp at hs
    simp only [hc1, if_true, if_false, Nat.reduceEqDiff] at hs
    split at hs
    · rename_i v x q st1
      split at hs
      · rename_i g
        simp only [Option.some.injEq, Prod.mk.injEq] at hs
        obtain ⟨rfl, rfl, rfl, rfl⟩ := hs
        simp only [hop] at g
        obtain ⟨he, hp2, hpn⟩ := he_ref (cy := cy) (ad := ad) X.1.1 g.1 (by decide) (by decide)
        simp only [List.map_cons, cV0, cV1]
        rw [cRn (x := q) (by omega)]
        have fin2 : ∀ (H1 : Heap) (locs1 : List Loc), va_P D vwCl ((wl cy ad h).set (q - 2).toNat (ad q, .inl (cy 23, (h.len q).toNat, .inr (.inr (.inr (.inr (va_up (fun k => cR ad (h.r q k)) x.toNat (cR ad v)))))))) H1 → va_D (fun q : Nat => bse ≤ q) ((wl cy ad h).set (q - 2).toNat (ad q, .inl (cy 23, (h.len q).toNat, .inr (.inr (.inr (.inr (va_up (fun k => cR ad (h.r q k)) x.toNat (cR ad v)))))))) → va_S (fun q : Nat => bse ≤ q) s.heap H1 locs1 →
            W p l e R s m args below meth c H1 locs1 cells slots Q (F0 m (xpc mm k + 1) la (st1.map (cV ad))) := by
          intro H1 locs1 a1 a2 a3
          rw [wl_set (cy := cy) (ad := ad) (h := h) (h' := h.wr q x v) hp2 rfl (cE_wr_arr g.1 (by decide) (by decide) g.2.1) (fun b hb => cE_wr_ne hb)] at a1 a2
          have Z := kk ad H1 locs1 cells slots la (xW_wr X I' (k_t (k_t (k_t X.2.2.2.2.1))) a1 a2 a3 rfl rfl rfl rfl) (fun _ _ _ => rfl)
          rw [hp] at Z
          exact Z
        by_cases z : v = 0
        · have e0 : cR ad v = none := by rw [z]; rfl
          rw [e0] at fin2
          rw [z, cR0]
          refine va_astqN hx hb hK X.2.2.2.2.2.1 X.2.2.2.2.2.2.1 X.2.2.2.2.2.2.2.1 _ 3 he rfl (n_inl X.1.1 g.2.1 g.2.2.1) hd (fun H1 locs1 a1 a2 a3 => ?_)
          rw [n_cl X.1.1 g.2.1 g.2.2.1] at a1 a2
          exact fin2 H1 locs1 a1 a2 a3
        · have e0 : cR ad v = some (ad v) := by unfold cR; rw [if_neg z]
          rw [e0] at fin2
          rw [cRn z]
          obtain ⟨hv, -, -⟩ := he_obj (cy := cy) (ad := ad) (t := 9) X.1.1 (g.2.2.2.resolve_left z) (by decide) (by decide)
          refine va_astq hx hb hK X.2.2.2.2.2.1 X.2.2.2.2.2.2.1 X.2.2.2.2.2.2.2.1 _ 3 _ 9 he (r := (vwR 9, TX 9, vwN 9)) rfl hv (vw_get 9 (by decide)) (n_inl X.1.1 g.2.1 g.2.2.1) hd (fun H1 locs1 a1 a2 a3 => ?_)
          rw [n_cl X.1.1 g.2.1 g.2.2.1] at a1 a2
          exact fin2 H1 locs1 a1 a2 a3
      · cases hs
    · cases hs
  · obtain ⟨hop, rfl⟩ := xe_eq (hr)
    have hc1 : (xcd mm k).1 = 25 := by rw [hop]
    have hp := xnext_pc hn (by rw [hc1]; decide) (by rw [hc1]; decide) (by rw [hc1]; decide) (by rw [hc1]; decide)
    unfold xstp at hs
    simp only [hc1, if_true, if_false, Nat.reduceEqDiff] at hs
    split at hs
    · rename_i v x q st1
      split at hs
      · rename_i g
        simp only [Option.some.injEq, Prod.mk.injEq] at hs
        obtain ⟨rfl, rfl, rfl, rfl⟩ := hs
        simp only [hop] at g
        obtain ⟨he, hp2, hpn⟩ := he_ref (cy := cy) (ad := ad) X.1.1 g.1 (by decide) (by decide)
        simp only [List.map_cons, cV0, cV1]
        rw [cRn (x := q) (by omega)]
        have fin2 : ∀ (H1 : Heap) (locs1 : List Loc), va_P D vwCl ((wl cy ad h).set (q - 2).toNat (ad q, .inl (cy 24, (h.len q).toNat, .inr (.inr (.inr (.inr (va_up (fun k => cR ad (h.r q k)) x.toNat (cR ad v)))))))) H1 → va_D (fun q : Nat => bse ≤ q) ((wl cy ad h).set (q - 2).toNat (ad q, .inl (cy 24, (h.len q).toNat, .inr (.inr (.inr (.inr (va_up (fun k => cR ad (h.r q k)) x.toNat (cR ad v)))))))) → va_S (fun q : Nat => bse ≤ q) s.heap H1 locs1 →
            W p l e R s m args below meth c H1 locs1 cells slots Q (F0 m (xpc mm k + 1) la (st1.map (cV ad))) := by
          intro H1 locs1 a1 a2 a3
          rw [wl_set (cy := cy) (ad := ad) (h := h) (h' := h.wr q x v) hp2 rfl (cE_wr_arr g.1 (by decide) (by decide) g.2.1) (fun b hb => cE_wr_ne hb)] at a1 a2
          have Z := kk ad H1 locs1 cells slots la (xW_wr X I' (k_t (k_t (k_t X.2.2.2.2.1))) a1 a2 a3 rfl rfl rfl rfl) (fun _ _ _ => rfl)
          rw [hp] at Z
          exact Z
        by_cases z : v = 0
        · have e0 : cR ad v = none := by rw [z]; rfl
          rw [e0] at fin2
          rw [z, cR0]
          refine va_astqN hx hb hK X.2.2.2.2.2.1 X.2.2.2.2.2.2.1 X.2.2.2.2.2.2.2.1 _ 4 he rfl (n_inl X.1.1 g.2.1 g.2.2.1) hd (fun H1 locs1 a1 a2 a3 => ?_)
          rw [n_cl X.1.1 g.2.1 g.2.2.1] at a1 a2
          exact fin2 H1 locs1 a1 a2 a3
        · have e0 : cR ad v = some (ad v) := by unfold cR; rw [if_neg z]
          rw [e0] at fin2
          rw [cRn z]
          obtain ⟨hv, -, -⟩ := he_obj (cy := cy) (ad := ad) (t := 1) X.1.1 (g.2.2.2.resolve_left z) (by decide) (by decide)
          refine va_astq hx hb hK X.2.2.2.2.2.1 X.2.2.2.2.2.2.1 X.2.2.2.2.2.2.2.1 _ 4 _ 1 he (r := (vwR 1, TX 1, vwN 1)) rfl hv (vw_get 1 (by decide)) (n_inl X.1.1 g.2.1 g.2.2.1) hd (fun H1 locs1 a1 a2 a3 => ?_)
          rw [n_cl X.1.1 g.2.1 g.2.2.1] at a1 a2
          exact fin2 H1 locs1 a1 a2 a3
      · cases hs
    · cases hs
theorem sd_arraylength : Sd .arraylength := by
  intro len D cy bse b0 L0 xs0 p l e R s m args below meth c Q mm d k c0 u0 ad h ls st H locs cells slots la k' ls' st' h' M X hd hr hn h31 hs hc hu kk
  obtain ⟨hx, hb, hml, ho, hts, hK, hRf, hRl, hin, hEX⟩ := M
  have I' := (stp_ok (xop_ok mm k) X.1 hs).1
  obtain ⟨hr, hq⟩ := (by unfold xrel at hr; exact Bool.and_eq_true_iff.mp hr : xe _ _ _ _ _ _ _ = true ∧ _)
  obtain ⟨hop, rfl⟩ := xe_eq hr
  have hc1 : (xcd mm k).1 = 26 := by have z := congrArg Prod.fst hop; exact z
  unfold xstp at hs
  simp only [hc1, if_true, if_false, Nat.reduceEqDiff] at hs
  have hp := xnext_pc hn (by rw [hc1]; decide) (by rw [hc1]; decide) (by rw [hc1]; decide) (by rw [hc1]; decide)
  simp only [Bool.or_eq_true, beq_iff_eq] at hq
  split at hs
  · rename_i q st1
    split at hs
    · rename_i g
      simp only [Option.some.injEq, Prod.mk.injEq] at hs
      obtain ⟨rfl, rfl, rfl, rfl⟩ := hs
      have Z := kk ad H locs cells slots la (xW_st X I' (k_c (of_decide_eq_true rfl) (k_t X.2.2.2.2.1))) (fun _ _ _ => rfl)
      simp only [List.map_cons, cV0, cV1, hp] at Z
      simp only [List.map_cons, cV0, cV1]
      have l0 := X.1.1.2.2.2.2.1 q
      rcases hq with ht | ht | ht | ht | ht | ht
      · rw [ht] at g
        obtain ⟨he, hp2, hpn⟩ := he_int (cy := cy) (ad := ad) X.1.1 g (by decide) (by decide)
        rw [cRn (by omega)]
        exact va_alen hx hb hK X.2.2.2.2.2.1 _ 0 he rfl (n_len l0.1) hd Z
      · rw [ht] at g
        obtain ⟨he, hp2, hpn⟩ := he_int (cy := cy) (ad := ad) X.1.1 g (by decide) (by decide)
        rw [cRn (by omega)]
        exact va_alen hx hb hK X.2.2.2.2.2.1 _ 1 he rfl (n_len l0.1) hd Z
      · rw [ht] at g
        obtain ⟨he, hp2, hpn⟩ := he_int (cy := cy) (ad := ad) X.1.1 g (by decide) (by decide)
        rw [cRn (by omega)]
        exact va_alen hx hb hK X.2.2.2.2.2.1 _ 2 he rfl (n_len l0.1) hd Z
      · rw [ht] at g
        obtain ⟨he, hp2, hpn⟩ := he_ref (cy := cy) (ad := ad) X.1.1 g (by decide) (by decide)
        rw [cRn (by omega)]
        exact va_alen hx hb hK X.2.2.2.2.2.1 _ 3 he rfl (n_len l0.1) hd Z
      · rw [ht] at g
        obtain ⟨he, hp2, hpn⟩ := he_ref (cy := cy) (ad := ad) X.1.1 g (by decide) (by decide)
        rw [cRn (by omega)]
        exact va_alen hx hb hK X.2.2.2.2.2.1 _ 4 he rfl (n_len l0.1) hd Z
      · rw [ht] at g
        have e1 := xG_30 X.1.1 g
        subst e1
        have hsc := X.2.2.2.2.2.2.2.2.2.2
        rw [cRn (by decide), hsc.1.1]
        refine va_slen hx hb X.2.2.2.2.2.2.2.2.1 hsc.2.2.1 (fun z => by have := hsc.2.1; omega) X.2.2.2.2.2.2.2.1 hd ?_
        rw [hsc.1.2.1, ← n_len (by omega), Int.toNat_natCast] at Z
        exact Z
    · cases hs
  · cases hs
