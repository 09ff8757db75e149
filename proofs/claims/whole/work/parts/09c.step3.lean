/-! instructions that read and write cells -/
def xfKt (t : FieldType) : Nat := match t with
  | .int => 0
  | .boolean => 2
  | _ => 1
theorem nar_ref {t : FieldType} (h : xtyok t = true) (k : xfKt t = 1) (r : Option Nat) : narrow t (va_rf r) = va_rf r ∧ fits t (va_rf r) = true := by
  cases t <;> first | (cases r <;> exact ⟨rfl, rfl⟩) | exact absurd h (by decide) | exact absurd k (by decide)
theorem nar_int {t : FieldType} (h : xtyok t = true) (k : xfKt t = 0) (x : Int32) : narrow t (.int x) = .int x ∧ fits t (.int x) = true := by
  cases t <;> first | exact ⟨rfl, rfl⟩ | exact absurd h (by decide) | exact absurd k (by decide) | exact absurd k (fun q => by cases q)
theorem nar_boo {t : FieldType} (h : xtyok t = true) (k : xfKt t = 2) {x : Int} (hx : x = 0 ∨ x = 1) : narrow t (.int (Int32.ofInt x)) = .int (Int32.ofInt x) ∧ fits t (.int (Int32.ofInt x)) = true := by
  cases t <;> first | (rcases hx with rfl | rfl <;> exact ⟨rfl, rfl⟩) | exact absurd h (by decide) | exact absurd k (by decide) | exact absurd k (fun q => by cases q)
theorem xfK_of {t : FieldType} : xfKt t = 0 ∨ xfKt t = 1 ∨ xfKt t = 2 := by unfold xfKt; split <;> simp
theorem n_z {x : Int} (h : xrg x) : vp_nar .boolean (Int32.ofInt x) = Int32.ofInt (x % 2) := by
  show Int32.ofInt x &&& 1 = _
  apply Int32.toInt_inj.mp
  rw [n_toInt (by unfold xrg; omega)]
  show (BitVec.ofInt 32 x &&& 1#32).toInt = x % 2
  have e1 : (BitVec.ofInt 32 x &&& 1#32).toNat = (x % 4294967296).toNat % 2 := by
    rw [BitVec.toNat_and, BitVec.toNat_ofInt, show (1#32).toNat = 1 from rfl, Nat.and_one_is_mod]; rfl
  rw [BitVec.toInt_eq_toNat_of_lt (by rw [e1]; omega), e1]; omega
section HH
variable {D : va_G} {cy : Int → ClassId} {bse b0 L0 : Nat} {xs0 : Nat → Int32} {s : State} {mm : Nat} {c0 u0 : Int} {ad : Int → Nat} {h : xH} {ls st : List xV} {H : Heap} {locs : List Loc} {cells slots : Nat} {la : Array Slot}
theorem xW_wr {h' : xH} {st' : List xV} {H1 : Heap} {locs1 : List Loc} (X : xW D cy bse b0 L0 xs0 s mm c0 u0 ad h ls st H locs cells slots la) (I : xI h' ls st') (K : ∀ u ∈ st', u.1 < 4) (hP : va_P D vwCl (wl cy ad h') H1) (hD : va_D (fun q : Nat => bse ≤ q) (wl cy ad h')) (hS : va_S (fun q : Nat => bse ≤ q) s.heap H1 locs1) (hn : h'.nx = h.nx) (hu : h'.us = h.us) (hl : h'.len 1 = h.len 1) (hi : h'.i 1 = h.i 1) : xW D cy bse b0 L0 xs0 s mm c0 u0 ad h' ls st' H1 locs1 cells slots la := by
  obtain ⟨-, a2, a3, a4, -, -, -, -, a9, a10, a11, a12⟩ := X
  refine ⟨I, a2, a3, a4, K, hP, hD, hS, a9, ⟨by rw [hn]; exact a10.1, by rw [hu]; exact a10.2⟩, ⟨a11.1, by rw [hl]; exact a11.2.1, by rw [hi]; exact a11.2.2⟩, a12⟩
theorem he_obj {p t : Int} (g : xG h) (ht : h.tag p = t) (h0 : 0 ≤ t) (h1 : t < 13) : (wl cy ad h)[(p - 2).toNat]? = some (ad p, .inr (t.toNat, cF ad h t.toNat p)) ∧ 2 ≤ p ∧ p < h.nx := by
  have hp := xG_at g ht (Or.inl ⟨h0, h1⟩)
  refine ⟨?_, hp⟩
  rw [wl_get hp.1 hp.2]
  unfold cE
  rw [ht, if_pos h1]
theorem he_int {p t : Int} (g : xG h) (ht : h.tag p = t) (h0 : 20 ≤ t) (h1 : t < 23) : (wl cy ad h)[(p - 2).toNat]? = some (ad p, .inl (cy t, (h.len p).toNat, .inl (fun k => Int32.ofInt (h.i p k)))) ∧ 2 ≤ p ∧ p < h.nx := by
  have hp := xG_at g ht (Or.inr ⟨by omega, by omega⟩)
  refine ⟨?_, hp⟩
  rw [wl_get hp.1 hp.2]
  unfold cE
  rw [ht, if_neg (by omega), if_pos h1]
theorem he_ref {p t : Int} (g : xG h) (ht : h.tag p = t) (h0 : 23 ≤ t) (h1 : t < 25) : (wl cy ad h)[(p - 2).toNat]? = some (ad p, .inl (cy t, (h.len p).toNat, .inr (.inr (.inr (.inr (fun k => cR ad (h.r p k))))))) ∧ 2 ≤ p ∧ p < h.nx := by
  have hp := xG_at g ht (Or.inr ⟨by omega, by omega⟩)
  refine ⟨?_, hp⟩
  rw [wl_get hp.1 hp.2]
  unfold cE
  rw [ht, if_neg (by omega), if_neg (by omega)]
theorem cE_wi_obj {p t k v : Int} (ht : h.tag p = t) (h1 : t < 13) (hk : k.toNat < vwN t.toNat) (h0 : 0 ≤ k) (hf : xfK t.toNat k.toNat ≠ 1) : cE cy ad (h.wi p k v) p = .inr (t.toNat, (cF ad h t.toNat p).set k.toNat (.int (Int32.ofInt v))) := by
  unfold cE
  rw [xt_wi, ht, if_pos h1, cF_seti hk hf]
  rw [show ((k.toNat : Nat) : Int) = k by omega]
theorem cE_wr_obj {p t k v : Int} (ht : h.tag p = t) (h1 : t < 13) (hk : k.toNat < vwN t.toNat) (h0 : 0 ≤ k) (hf : xfK t.toNat k.toNat = 1) : cE cy ad (h.wr p k v) p = .inr (t.toNat, (cF ad h t.toNat p).set k.toNat (va_rf (cR ad v))) := by
  unfold cE
  rw [xt_wr, ht, if_pos h1, cF_setr hk hf]
  rw [show ((k.toNat : Nat) : Int) = k by omega]
theorem i_wi_ne {p k v b : Int} (hb : b ≠ p) : (h.wi p k v).i b = h.i b := by
  funext j; rw [xi_wi, if_neg (fun q => hb q.1)]
theorem r_wr_ne {p k v b : Int} (hb : b ≠ p) : (h.wr p k v).r b = h.r b := by
  funext j; rw [xr_wr, if_neg (fun q => hb q.1)]
theorem cE_wi_ne {p k v b : Int} (hb : b ≠ p) : cE cy ad (h.wi p k v) b = cE cy ad h b := by
  unfold cE cF
  rw [xt_wi, xl_wi, i_wi_ne hb, xr_wi]
theorem cE_wr_ne {p k v b : Int} (hb : b ≠ p) : cE cy ad (h.wr p k v) b = cE cy ad h b := by
  unfold cE cF
  rw [xt_wr, xl_wr, r_wr_ne hb, xi_wr]
theorem cE_wi_arr {p t x v : Int} (ht : h.tag p = t) (h0 : 20 ≤ t) (h1 : t < 23) (hx0 : 0 ≤ x) : cE cy ad (h.wi p x v) p = .inl (cy t, (h.len p).toNat, .inl (upd (fun k => Int32.ofInt (h.i p k)) x.toNat (Int32.ofInt v))) := by
  unfold cE
  rw [xt_wi, ht, if_neg (by omega), if_pos h1, xl_wi]
  congr 4
  funext j
  rw [xi_wi]
  unfold upd
  by_cases c : j = x.toNat
  · rw [if_pos c, if_pos ⟨rfl, by omega⟩]
  · rw [if_neg c, if_neg (fun q => c (by omega))]
theorem cE_wr_arr {p t x v : Int} (ht : h.tag p = t) (h0 : 23 ≤ t) (h1 : t < 25) (hx0 : 0 ≤ x) : cE cy ad (h.wr p x v) p = .inl (cy t, (h.len p).toNat, .inr (.inr (.inr (.inr (va_up (fun k => cR ad (h.r p k)) x.toNat (cR ad v)))))) := by
  unfold cE
  rw [xt_wr, ht, if_neg (by omega), if_neg (by omega), xl_wr]
  congr 7
  funext j
  rw [xr_wr]
  unfold va_up
  by_cases c : j = x.toNat
  · rw [if_pos c, if_pos ⟨rfl, by omega⟩]
  · rw [if_neg c, if_neg (fun q => c (by omega))]
end HH
theorem sd_getfield (i : Nat) : Sd (.getfield i) := by
  intro len D cy bse b0 L0 xs0 p l e R s m args below meth c Q mm d k c0 u0 ad h ls st H locs cells slots la k' ls' st' h' M X hd hr hn h31 hs hc hu kk
  obtain ⟨hx, hb, hml, ho, hts, hK, hRf, hRl, hin, hEX⟩ := M
  have I' := (stp_ok (xop_ok mm k) X.1 hs).1
  obtain ⟨hr, hq⟩ := (by unfold xrel at hr; exact Bool.and_eq_true_iff.mp hr : xe _ _ _ _ _ _ _ = true ∧ _)
  obtain ⟨f0, f1, f2, f3, f4⟩ := fl_word hq
  obtain ⟨hop, rfl⟩ := xe_eq hr
  have hc1 : (xcd mm k).1 = 20 := by have z := congrArg Prod.fst hop; exact z
  have hc4 : (xcd mm k).2.2.2 = if xfK (xcd mm k).2.1.toNat (xcd mm k).2.2.1.toNat = 1 then 1 else 0 := by have z := congrArg (fun q => q.2.2.2) hop; exact z
  have hp := xnext_pc hn (by rw [hc1]; decide) (by rw [hc1]; decide) (by rw [hc1]; decide) (by rw [hc1]; decide)
  clear hop hr
  unfold xstp at hs
  simp only [hc1, if_true, if_false, Nat.reduceEqDiff] at hs
  split at hs
  · rename_i q st1
    split at hs
    · rename_i g
      simp only [Option.some.injEq, Prod.mk.injEq] at hs
      obtain ⟨rfl, rfl, rfl, rfl⟩ := hs
      obtain ⟨he, hp2, hpn⟩ := he_obj (cy := cy) (ad := ad) X.1.1 g f0 (by omega)
      have hv := cF_get (ad := ad) (h := h) (a := q) f3
      rw [show (((xcd mm k).2.2.1.toNat : Nat) : Int) = (xcd mm k).2.2.1 by omega] at hv
      have hk4 : ∀ u ∈ ((if (xcd mm k).2.2.2 = 0 then ((0, h.i q (xcd mm k).2.2.1) : xV) else (1, h.r q (xcd mm k).2.2.1)) :: st1), u.1 < 4 := k_c (by split <;> exact of_decide_eq_true rfl) (k_t X.2.2.2.2.1)
      have Z := kk ad H locs cells slots la (xW_st X I' hk4) (fun _ _ _ => rfl)
      have hv2 : (cF ad h (xcd mm k).2.1.toNat q)[(xcd mm k).2.2.1.toNat]? = some (cV ad (if (xcd mm k).2.2.2 = 0 then ((0, h.i q (xcd mm k).2.2.1) : xV) else (1, h.r q (xcd mm k).2.2.1))) := by
        rw [hv, hc4]
        by_cases c : xfK (xcd mm k).2.1.toNat (xcd mm k).2.2.1.toNat = 1
        · rw [if_pos c, if_pos c, if_neg (by decide)]; rfl
        · rw [if_neg c, if_neg c, if_pos rfl]; rfl
      simp only [List.map_cons, hp] at Z
      simp only [List.map_cons, cV1]
      rw [cRn (by omega)]
      have hts' : ∀ w ∈ xtL, w.before args s = true := fun w hw => hts w (List.mem_filter.mp hw).1 (List.mem_filter.mp hw).2
      rcases f4 with f4 | ⟨n1, n2, n3, n4⟩
      · exact va_get hx hb hts' (vw_lay _ f1) ho hK X.2.2.2.2.2.1 _ he (vw_get _ f1) _ f3 (hts _ f4 rfl) (fun _ z => z) hv2 hd Z
      · subst n2
        refine va_getN (host := "MetreDesk") hx hb hts' (vw_lay _ f1) ho hK X.2.2.2.2.2.1 _ he (vw_get _ f1) _ f3 ?_ (fun _ z => z) hv2 hd Z
        rw [n1, n3, n4]
        exact va_Nw.use rfl hEX.2.2.2
    · cases hs
  · cases hs
theorem sd_putfield (i : Nat) : Sd (.putfield i) := by
  intro len D cy bse b0 L0 xs0 p l e R s m args below meth c Q mm d k c0 u0 ad h ls st H locs cells slots la k' ls' st' h' M X hd hr hn h31 hs hc hu kk
  obtain ⟨hx, hb, hml, ho, hts, hK, hRf, hRl, hin, hEX⟩ := M
  have I' := (stp_ok (xop_ok mm k) X.1 hs).1
  obtain ⟨hr, hq⟩ := (by unfold xrel at hr; exact Bool.and_eq_true_iff.mp hr : xe _ _ _ _ _ _ _ = true ∧ _)
  obtain ⟨hq, hfin⟩ := Bool.and_eq_true_iff.mp hq
  obtain ⟨f0, f1, f2, f3, f4⟩ := fl_word hq
  obtain ⟨hop, rfl⟩ := xe_eq hr
  have hc1 : (xcd mm k).1 = 21 := by have z := congrArg Prod.fst hop; exact z
  have hc4 : (xcd mm k).2.2.2 = ((xfK (xcd mm k).2.1.toNat (xcd mm k).2.2.1.toNat : Nat) : Int) := by have z := congrArg (fun q => q.2.2.2) hop; exact z
  have hp := xnext_pc hn (by rw [hc1]; decide) (by rw [hc1]; decide) (by rw [hc1]; decide) (by rw [hc1]; decide)
  clear hop hr
  unfold xstp at hs
  simp only [hc1, if_true, if_false, Nat.reduceEqDiff] at hs
  split at hs
  · rename_i v q st1
    by_cases g : h.tag q = (xcd mm k).2.1 ∧ v.1 = (if (xcd mm k).2.2.2 = 1 then 1 else 0) ∧ ((xcd mm k).2.2.2 = 2 → v.2 = 0 ∨ v.2 = 1)
    · rw [if_pos g] at hs
      simp only [Option.some.injEq, Prod.mk.injEq] at hs
      obtain ⟨rfl, rfl, rfl, rfl⟩ := hs
      obtain ⟨he, hp2, hpn⟩ := he_obj (cy := cy) (ad := ad) X.1.1 g.1 f0 (by omega)
      have hts' : ∀ w ∈ xtL, w.before args s = true := fun w hw => hts w (List.mem_filter.mp hw).1 (List.mem_filter.mp hw).2
      have hok := vw_ok _ f1 _ f3
      have hl : (xcd mm k).2.2.1.toNat < (cF ad h (xcd mm k).2.1.toNat q).length := by rw [cF_len]; exact f3
      have f4 : Cond.fieldLink (xown (xoo mm)) i (TX (xcd mm k).2.1.toNat (xcd mm k).2.2.1.toNat).1 (TX (xcd mm k).2.1.toNat (xcd mm k).2.2.1.toNat).2.1 (TX (xcd mm k).2.1.toNat (xcd mm k).2.2.1.toNat).2.2.1 ∈ lw_tbl := by
        rcases f4 with f4 | ⟨n1, n2, n3, n4⟩
        · exact f4
        · exfalso
          rw [n3, n4, n1] at hfin
          rcases (Bool.or_eq_true _ _).mp hfin with z | z
          · exact absurd z (by decide +kernel)
          · exact absurd ((Bool.and_eq_true _ _).mp z).2 (by decide +kernel)
      have go : ∀ (h' : xH) (w : Value), (w = cV ad v ∧ narrow (tyX (xcd mm k).2.1.toNat (xcd mm k).2.2.1.toNat) w = w ∧ fits (tyX (xcd mm k).2.1.toNat (xcd mm k).2.2.1.toNat) w = true) →
          cE cy ad h' q = .inr ((xcd mm k).2.1.toNat, (cF ad h (xcd mm k).2.1.toNat q).set (xcd mm k).2.2.1.toNat w) → (∀ b, b ≠ q → cE cy ad h' b = cE cy ad h b) → h'.nx = h.nx → h'.us = h.us → h'.len 1 = h.len 1 → h'.i 1 = h.i 1 →
          (if (xcd mm k).2.2.2 = 1 then h.wr q (xcd mm k).2.2.1 v.2 else h.wi q (xcd mm k).2.2.1 v.2) = h' →
          W p l e R s m args below meth c H locs cells slots Q (F0 m (xpc mm k) la (w :: .ref (ad q) :: st1.map (cV ad))) := by
        intro h' w hw e1 e2 e3 e4 e5 e6 e7
        have fin2 : ∀ (H1 : Heap) (locs1 : List Loc), va_P D vwCl ((wl cy ad h).set (q - 2).toNat (ad q, .inr ((xcd mm k).2.1.toNat, (cF ad h (xcd mm k).2.1.toNat q).set (xcd mm k).2.2.1.toNat w))) H1 → va_D (fun q : Nat => bse ≤ q) ((wl cy ad h).set (q - 2).toNat (ad q, .inr ((xcd mm k).2.1.toNat, (cF ad h (xcd mm k).2.1.toNat q).set (xcd mm k).2.2.1.toNat w))) → va_S (fun q : Nat => bse ≤ q) s.heap H1 locs1 →
            W p l e R s m args below meth c H1 locs1 cells slots Q (F0 m (xpc mm k + 3) la (st1.map (cV ad))) := by
          intro H1 locs1 a1 a2 a3
          rw [wl_set hp2 e3 e1 e2] at a1 a2
          rw [e7] at I' kk
          have Z := kk ad H1 locs1 cells slots la (xW_wr X I' (k_t (k_t X.2.2.2.2.1)) a1 a2 a3 e3 e4 e5 e6) (fun _ _ _ => rfl)
          rw [hp] at Z
          exact Z
        by_cases hf : (TX (xcd mm k).2.1.toNat (xcd mm k).2.2.1.toNat).2.2.2 = false
        · exact va_put hx hb hts' (vw_lay _ f1) (tyX _) (vw_ty _ f1) (vw_nm _ f1) ho hK X.2.2.2.2.2.1 X.2.2.2.2.2.2.1 X.2.2.2.2.2.2.2.1 _ he (vw_get _ f1) _ f3 (hts _ f4 rfl) (fun _ z => z) hf (vw_ty _ f1 _ f3) hw.2.1 hw.2.2 hl hd fin2
        · have hf : (TX (xcd mm k).2.1.toNat (xcd mm k).2.2.1.toNat).2.2.2 = true := by simpa using hf
          rw [hf] at hfin
          simp only [Bool.not_true, Bool.false_or, Bool.and_eq_true, decide_eq_true_eq] at hfin
          exact va_putF hx hb hts' (vw_lay _ f1) (tyX _) (vw_ty _ f1) (vw_nm _ f1) ho hK X.2.2.2.2.2.1 X.2.2.2.2.2.2.1 X.2.2.2.2.2.2.2.1 _ he (vw_get _ f1) _ f3 (hts _ f4 rfl) (fun _ z => z) hf (hin hfin.1) hfin.2 (vw_ty _ f1 _ f3) hw.2.1 hw.2.2 hl hd fin2
      simp only [List.map_cons, cV1]
      rw [cRn (by omega)]
      obtain ⟨vk, vx⟩ := v
      have hq1 : (1 : Int) ≠ q := by omega
      have hkt : xfKt (tyX (xcd mm k).2.1.toNat (xcd mm k).2.2.1.toNat) = xfK (xcd mm k).2.1.toNat (xcd mm k).2.2.1.toNat := rfl
      rcases xfK_of (t := tyX (xcd mm k).2.1.toNat (xcd mm k).2.2.1.toNat) with c | c | c
      · rw [hkt] at c
        have g2 := g.2.1
        rw [hc4, c, if_neg (by decide)] at g2
        have g2 : vk = 0 := g2
        subst g2
        refine go (h.wi q (xcd mm k).2.2.1 vx) _ ⟨rfl, nar_int hok (hkt.trans c) _⟩ (cE_wi_obj g.1 (by omega) f3 f2 (by rw [c]; decide)) (fun b hb => cE_wi_ne hb) rfl rfl rfl (i_wi_ne hq1) (by rw [hc4, c]; rfl)
      · rw [hkt] at c
        have g2 := g.2.1
        rw [hc4, c, if_pos (by decide)] at g2
        have g2 : vk = 1 := g2
        subst g2
        refine go (h.wr q (xcd mm k).2.2.1 vx) _ ⟨rfl, nar_ref hok (hkt.trans c) _⟩ (cE_wr_obj g.1 (by omega) f3 f2 c) (fun b hb => cE_wr_ne hb) rfl rfl rfl rfl (by rw [hc4, c]; rfl)
      · rw [hkt] at c
        have g2 := g.2.1
        rw [hc4, c, if_neg (by decide)] at g2
        have g2 : vk = 0 := g2
        subst g2
        refine go (h.wi q (xcd mm k).2.2.1 vx) _ ⟨rfl, nar_boo hok (hkt.trans c) (g.2.2 (by rw [hc4, c]; rfl))⟩ (cE_wi_obj g.1 (by omega) f3 f2 (by rw [c]; decide)) (fun b hb => cE_wi_ne hb) rfl rfl rfl (i_wi_ne hq1) (by rw [hc4, c]; rfl)
    · rw [if_neg g] at hs; cases hs
  · cases hs
