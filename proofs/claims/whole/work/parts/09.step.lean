/-! one instruction of the kit's machine against one step of the small one -/
def xEX (s : State) : Prop := va_AO "MetreDesk$Syllables" s ∧ va_AO "MetreDesk$Foot" s ∧ va_Nw (.castable "[I" "java/lang/Cloneable") s ∧ va_Nw (.fieldLinkNest "MetreDesk$Book" 39 "MetreDesk$Syllables" "letters" "[I" "MetreDesk") s
/-- what stays through a frame -/
def xM (D : va_G) (cy : Int → ClassId) (p : Program) (R : Room) (s : State) (m : MethodId) (args : Array Value) (meth : Method) (c : Code) (mm d : Nat) : Prop :=
  p.tables.exec = Jvm.exec ∧ c.code = xby mm ∧ c.maxLocals = (xmi mm).1 ∧ s.vm.findClass (xown (xoo mm)) = some m.cls ∧ (∀ w ∈ lw_tbl, goodWord w = true → w.before args s = true) ∧ va_K D vwCl (tysL cy) s ∧ d + 2 ≤ R.frames ∧ 41 * (d + 2) ≤ R.locals ∧ ((xy mm).name = "<init>" → meth.name = "<init>") ∧ xEX s
/-- what holds ahead of an instruction -/
def xW (D : va_G) (cy : Int → ClassId) (bse b0 L0 : Nat) (xs0 : Nat → Int32) (s : State) (mm : Nat) (c0 u0 : Int) (ad : Int → Nat) (h : xH) (ls st : List xV) (H : Heap) (locs : List Loc) (cells slots : Nat) (la : Array Slot) : Prop :=
  xI h ls st ∧ xLM ad ls la ∧ ls.length = (xmi mm).1 ∧ (∀ u ∈ ls, u.1 < 4 ∨ u.1 = 9) ∧ (∀ u ∈ st, u.1 < 4) ∧ va_P D vwCl (wl cy ad h) H ∧ va_D (fun q : Nat => bse ≤ q) (wl cy ad h) ∧ va_S (fun q : Nat => bse ≤ q) s.heap H locs ∧ va_X b0 L0 xs0 s s.heap ∧ ((cells : Int) = c0 + h.nx ∧ (slots : Int) = u0 + h.us) ∧ (ad 1 = b0 ∧ h.len 1 = L0 ∧ (∀ k : Nat, k < L0 → Int32.ofInt (h.i 1 k) = xs0 k)) ∧ b0 < bse ∧ b0 < s.heap.size ∧ bse ≤ s.heap.size
def Sd (ins : Instr) : Prop := ∀ (len : Nat) (D : va_G) (cy : Int → ClassId) (bse b0 L0 : Nat) (xs0 : Nat → Int32) (p : Program) (l : Launch) (e : Env) (R : Room) (s : State) (m : MethodId) (args : Array Value) (below : List Frame) (meth : Method) (c : Code) (Q : State → Prop) (mm d k : Nat) (c0 u0 : Int) (ad : Int → Nat) (h : xH) (ls st : List xV) (H : Heap) (locs : List Loc) (cells slots : Nat) (la : Array Slot) (k' : Nat) (ls' st' : List xV) (h' : xH),
  xM D cy p R s m args meth c mm d → xW D cy bse b0 L0 xs0 s mm c0 u0 ad h ls st H locs cells slots la →
  decode (xby mm) (xpc mm k) = .ok (ins, len) → xrel (xoo mm) mm (xpT.getD mm []) k ins len (xcd mm k) = true → xnext (xpT.getD mm []) k len (xcd mm k) = true →
  (xcd mm k).1 ≠ 31 → xstp xsw (xcd mm k) k ls st h = some (k', ls', st', h') → c0 + h'.nx ≤ R.cells → u0 + h'.us ≤ R.slots →
  (∀ (ad' : Int → Nat) (H' : Heap) (locs' : List Loc) (cells' slots' : Nat) (la' : Array Slot), xW D cy bse b0 L0 xs0 s mm c0 u0 ad' h' ls' st' H' locs' cells' slots' la' → (∀ x, 0 ≤ x → x < h.nx → ad' x = ad x) →
    W p l e R s m args below meth c H' locs' cells' slots' Q (F0 m (xpc mm k') la' (st'.map (cV ad')))) →
  W p l e R s m args below meth c H locs cells slots Q (F0 m (xpc mm k) la (st.map (cV ad)))
theorem xe_eq {q : xOp} {a : Nat} {b c d : Int} {len l : Nat} (h : xe q a b c d len l = true) : q = (a, b, c, d) ∧ len = l := by
  unfold xe at h
  simp only [Bool.and_eq_true, beq_iff_eq] at h
  obtain ⟨h1, h2, h3, h4, h5⟩ := h
  exact ⟨Prod.ext h1 (Prod.ext h2 (Prod.ext h3 h4)), h5⟩
theorem xnext_pc {mm k len : Nat} {q : xOp} (h : xnext (xpT.getD mm []) k len q = true) (n1 : q.1 ≠ 15) (n2 : q.1 ≠ 16) (n3 : q.1 ≠ 32) (n4 : q.1 ≠ 33) : xpc mm (k + 1) = xpc mm k + len := by
  unfold xnext at h
  simp only [Bool.or_eq_true, Bool.and_eq_true, beq_iff_eq] at h
  rcases h with h | h | h | h | h
  · exact absurd h n1
  · exact absurd h n2
  · exact absurd h n3
  · exact absurd h n4
  · exact h.2
theorem xjmp_pc {mm k : Nat} {off t : Int} (h : xjmp (xpT.getD mm []) k off t = true) : ((xpc mm k : Nat) : Int) + off = ((xpc mm t.toNat : Nat) : Int) := by
  unfold xjmp at h
  simp only [Bool.and_eq_true, decide_eq_true_eq] at h
  exact h.2.2
theorem cV0 {ad : Int → Nat} {x : Int} : cV ad (0, x) = .int (Int32.ofInt x) := rfl
theorem cV1 {ad : Int → Nat} {x : Int} : cV ad (1, x) = va_rf (cR ad x) := rfl
theorem cV2 {ad : Int → Nat} {x : Int} : cV ad (2, x) = .float (xuf x) := rfl
theorem cV3 {ad : Int → Nat} {x : Int} : cV ad (3, x) = .long (Int64.ofInt x) := rfl
theorem cR0 {ad : Int → Nat} : va_rf (cR ad 0) = .null := rfl
theorem cRn {ad : Int → Nat} {x : Int} (h : ¬ x = 0) : va_rf (cR ad x) = .ref (ad x) := by unfold cR; rw [if_neg h]; rfl
section SD
variable {D : va_G} {cy : Int → ClassId} {bse b0 L0 : Nat} {xs0 : Nat → Int32} {s : State} {mm : Nat} {c0 u0 : Int} {ad : Int → Nat} {h : xH} {ls st : List xV} {H : Heap} {locs : List Loc} {cells slots : Nat} {la : Array Slot}
theorem xW_st {st' : List xV} (X : xW D cy bse b0 L0 xs0 s mm c0 u0 ad h ls st H locs cells slots la) (I : xI h ls st') (K : ∀ u ∈ st', u.1 < 4) : xW D cy bse b0 L0 xs0 s mm c0 u0 ad h ls st' H locs cells slots la := ⟨I, X.2.1, X.2.2.1, X.2.2.2.1, K, X.2.2.2.2.2⟩
theorem xW_ls {ls' st' : List xV} {la' : Array Slot} (X : xW D cy bse b0 L0 xs0 s mm c0 u0 ad h ls st H locs cells slots la) (I : xI h ls' st') (K : ∀ u ∈ st', u.1 < 4) (hl : xLM ad ls' la') (hn : ls'.length = ls.length) (K2 : ∀ u ∈ ls', u.1 < 4 ∨ u.1 = 9) : xW D cy bse b0 L0 xs0 s mm c0 u0 ad h ls' st' H locs cells slots la' := ⟨I, hl, hn.trans X.2.2.1, K2, K, X.2.2.2.2.2⟩
theorem k_c {v : xV} {st : List xV} (hv : v.1 < 4) (h : ∀ u ∈ st, u.1 < 4) : ∀ u ∈ v :: st, u.1 < 4 := fun u hu => (List.mem_cons.mp hu).elim (fun e => e ▸ hv) (h u)
theorem k_t {v : xV} {st : List xV} (h : ∀ u ∈ v :: st, u.1 < 4) : ∀ u ∈ st, u.1 < 4 := fun u hu => h u (List.mem_cons_of_mem _ hu)
theorem xst_len (ls : List xV) (i : Nat) (v : xV) : (xst ls i v).length = ls.length := by cases i <;> simp [xst]
theorem xst_k {ls : List xV} {i : Nat} {v : xV} (h : ∀ u ∈ ls, u.1 < 4 ∨ u.1 = 9) (hv : v.1 < 4 ∨ v.1 = 9) : ∀ u ∈ xst ls i v, u.1 < 4 ∨ u.1 = 9 := by
  have h9 : ∀ j, (xkl (ls.getD j (9, 0))).1 < 4 ∨ (xkl (ls.getD j (9, 0))).1 = 9 := by
    intro j
    unfold xkl
    split
    · right; rfl
    · rw [List.getD_eq_getElem?_getD]
      cases e : ls[j]? with
      | none => right; rfl
      | some w => exact h w (List.mem_of_getElem? e)
  intro u hu
  cases i with
  | zero => exact (List.mem_or_eq_of_mem_set hu).elim (h u) (fun e => e ▸ hv)
  | succ j =>
    rcases List.mem_or_eq_of_mem_set hu with q | q
    · rcases List.mem_or_eq_of_mem_set q with q | q
      · exact h u q
      · rw [q]; exact h9 j
    · rw [q]; exact hv
end SD
theorem sd_iadd : Sd .iadd := by
  intro len D cy bse b0 L0 xs0 p l e R s m args below meth c Q mm d k c0 u0 ad h ls st H locs cells slots la k' ls' st' h' M X hd hr hn h31 hs hc hu kk
  obtain ⟨hx, hb, hml, ho, hts, hK, hRf, hRl, hin, hEX⟩ := M
  have I' := (stp_ok (xop_ok mm k) X.1 hs).1
  obtain ⟨hop, rfl⟩ := xe_eq (by unfold xrel at hr; exact hr)
  have hc1 : (xcd mm k).1 = 50 := by rw [hop]
  have hp := xnext_pc hn (by rw [hc1]; decide) (by rw [hc1]; decide) (by rw [hc1]; decide) (by rw [hc1]; decide)
  unfold xstp at hs
  simp only [hc1, if_true, if_false, Nat.reduceEqDiff] at hs
  split at hs
  · simp only [Option.some.injEq, Prod.mk.injEq] at hs
    obtain ⟨rfl, rfl, rfl, rfl⟩ := hs
    have Z := kk ad H locs cells slots la (xW_st X I' (k_c (of_decide_eq_true rfl) (k_t (k_t X.2.2.2.2.1)))) (fun _ _ _ => rfl)
    simp only [List.map_cons, cV0, cV1, cV2, cV3, hp] at Z
    simp only [List.map_cons, cV0]
    refine lv_iadd hx hb hd ?_
    rw [n_add]; exact Z
  · cases hs
theorem sd_isub : Sd .isub := by
  intro len D cy bse b0 L0 xs0 p l e R s m args below meth c Q mm d k c0 u0 ad h ls st H locs cells slots la k' ls' st' h' M X hd hr hn h31 hs hc hu kk
  obtain ⟨hx, hb, hml, ho, hts, hK, hRf, hRl, hin, hEX⟩ := M
  have I' := (stp_ok (xop_ok mm k) X.1 hs).1
  obtain ⟨hop, rfl⟩ := xe_eq (by unfold xrel at hr; exact hr)
  have hc1 : (xcd mm k).1 = 51 := by rw [hop]
  have hp := xnext_pc hn (by rw [hc1]; decide) (by rw [hc1]; decide) (by rw [hc1]; decide) (by rw [hc1]; decide)
  unfold xstp at hs
  simp only [hc1, if_true, if_false, Nat.reduceEqDiff] at hs
  split at hs
  · simp only [Option.some.injEq, Prod.mk.injEq] at hs
    obtain ⟨rfl, rfl, rfl, rfl⟩ := hs
    have Z := kk ad H locs cells slots la (xW_st X I' (k_c (of_decide_eq_true rfl) (k_t (k_t X.2.2.2.2.1)))) (fun _ _ _ => rfl)
    simp only [List.map_cons, cV0, cV1, cV2, cV3, hp] at Z
    simp only [List.map_cons, cV0]
    refine lv_isub hx hb hd ?_
    rw [n_sub]; exact Z
  · cases hs
theorem sd_imul : Sd .imul := by
  intro len D cy bse b0 L0 xs0 p l e R s m args below meth c Q mm d k c0 u0 ad h ls st H locs cells slots la k' ls' st' h' M X hd hr hn h31 hs hc hu kk
  obtain ⟨hx, hb, hml, ho, hts, hK, hRf, hRl, hin, hEX⟩ := M
  have I' := (stp_ok (xop_ok mm k) X.1 hs).1
  obtain ⟨hop, rfl⟩ := xe_eq (by unfold xrel at hr; exact hr)
  have hc1 : (xcd mm k).1 = 52 := by rw [hop]
  have hp := xnext_pc hn (by rw [hc1]; decide) (by rw [hc1]; decide) (by rw [hc1]; decide) (by rw [hc1]; decide)
  unfold xstp at hs
  simp only [hc1, if_true, if_false, Nat.reduceEqDiff] at hs
  split at hs
  · simp only [Option.some.injEq, Prod.mk.injEq] at hs
    obtain ⟨rfl, rfl, rfl, rfl⟩ := hs
    have Z := kk ad H locs cells slots la (xW_st X I' (k_c (of_decide_eq_true rfl) (k_t (k_t X.2.2.2.2.1)))) (fun _ _ _ => rfl)
    simp only [List.map_cons, cV0, cV1, cV2, cV3, hp] at Z
    simp only [List.map_cons, cV0]
    refine lv_imul hx hb hd ?_
    rw [n_mul]; exact Z
  · cases hs
theorem sd_iand : Sd .iand := by
  intro len D cy bse b0 L0 xs0 p l e R s m args below meth c Q mm d k c0 u0 ad h ls st H locs cells slots la k' ls' st' h' M X hd hr hn h31 hs hc hu kk
  obtain ⟨hx, hb, hml, ho, hts, hK, hRf, hRl, hin, hEX⟩ := M
  have I' := (stp_ok (xop_ok mm k) X.1 hs).1
  obtain ⟨hop, rfl⟩ := xe_eq (by unfold xrel at hr; exact hr)
  have hc1 : (xcd mm k).1 = 53 := by rw [hop]
  have hp := xnext_pc hn (by rw [hc1]; decide) (by rw [hc1]; decide) (by rw [hc1]; decide) (by rw [hc1]; decide)
  unfold xstp at hs
  simp only [hc1, if_true, if_false, Nat.reduceEqDiff] at hs
  split at hs
  · simp only [Option.some.injEq, Prod.mk.injEq] at hs
    obtain ⟨rfl, rfl, rfl, rfl⟩ := hs
    have Z := kk ad H locs cells slots la (xW_st X I' (k_c (of_decide_eq_true rfl) (k_t (k_t X.2.2.2.2.1)))) (fun _ _ _ => rfl)
    simp only [List.map_cons, cV0, cV1, cV2, cV3, hp, xand, n_ofInt] at Z
    simp only [List.map_cons, cV0]
    exact lv_iand hx hb hd Z
  · cases hs
theorem sd_ior : Sd .ior := by
  intro len D cy bse b0 L0 xs0 p l e R s m args below meth c Q mm d k c0 u0 ad h ls st H locs cells slots la k' ls' st' h' M X hd hr hn h31 hs hc hu kk
  obtain ⟨hx, hb, hml, ho, hts, hK, hRf, hRl, hin, hEX⟩ := M
  have I' := (stp_ok (xop_ok mm k) X.1 hs).1
  obtain ⟨hop, rfl⟩ := xe_eq (by unfold xrel at hr; exact hr)
  have hc1 : (xcd mm k).1 = 54 := by rw [hop]
  have hp := xnext_pc hn (by rw [hc1]; decide) (by rw [hc1]; decide) (by rw [hc1]; decide) (by rw [hc1]; decide)
  unfold xstp at hs
  simp only [hc1, if_true, if_false, Nat.reduceEqDiff] at hs
  split at hs
  · simp only [Option.some.injEq, Prod.mk.injEq] at hs
    obtain ⟨rfl, rfl, rfl, rfl⟩ := hs
    have Z := kk ad H locs cells slots la (xW_st X I' (k_c (of_decide_eq_true rfl) (k_t (k_t X.2.2.2.2.1)))) (fun _ _ _ => rfl)
    simp only [List.map_cons, cV0, cV1, cV2, cV3, hp, xor_, n_ofInt] at Z
    simp only [List.map_cons, cV0]
    exact lv_ior hx hb hd Z
  · cases hs
theorem sd_ixor : Sd .ixor := by
  intro len D cy bse b0 L0 xs0 p l e R s m args below meth c Q mm d k c0 u0 ad h ls st H locs cells slots la k' ls' st' h' M X hd hr hn h31 hs hc hu kk
  obtain ⟨hx, hb, hml, ho, hts, hK, hRf, hRl, hin, hEX⟩ := M
  have I' := (stp_ok (xop_ok mm k) X.1 hs).1
  obtain ⟨hop, rfl⟩ := xe_eq (by unfold xrel at hr; exact hr)
  have hc1 : (xcd mm k).1 = 55 := by rw [hop]
  have hp := xnext_pc hn (by rw [hc1]; decide) (by rw [hc1]; decide) (by rw [hc1]; decide) (by rw [hc1]; decide)
  unfold xstp at hs
  simp only [hc1, if_true, if_false, Nat.reduceEqDiff] at hs
  split at hs
  · simp only [Option.some.injEq, Prod.mk.injEq] at hs
    obtain ⟨rfl, rfl, rfl, rfl⟩ := hs
    have Z := kk ad H locs cells slots la (xW_st X I' (k_c (of_decide_eq_true rfl) (k_t (k_t X.2.2.2.2.1)))) (fun _ _ _ => rfl)
    simp only [List.map_cons, cV0, cV1, cV2, cV3, hp, xxor, n_ofInt] at Z
    simp only [List.map_cons, cV0]
    exact lv_ixor hx hb hd Z
  · cases hs
theorem sd_ishl : Sd .ishl := by
  intro len D cy bse b0 L0 xs0 p l e R s m args below meth c Q mm d k c0 u0 ad h ls st H locs cells slots la k' ls' st' h' M X hd hr hn h31 hs hc hu kk
  obtain ⟨hx, hb, hml, ho, hts, hK, hRf, hRl, hin, hEX⟩ := M
  have I' := (stp_ok (xop_ok mm k) X.1 hs).1
  obtain ⟨hop, rfl⟩ := xe_eq (by unfold xrel at hr; exact hr)
  have hc1 : (xcd mm k).1 = 56 := by rw [hop]
  have hp := xnext_pc hn (by rw [hc1]; decide) (by rw [hc1]; decide) (by rw [hc1]; decide) (by rw [hc1]; decide)
  unfold xstp at hs
  simp only [hc1, if_true, if_false, Nat.reduceEqDiff] at hs
  split at hs
  · simp only [Option.some.injEq, Prod.mk.injEq] at hs
    obtain ⟨rfl, rfl, rfl, rfl⟩ := hs
    have Z := kk ad H locs cells slots la (xW_st X I' (k_c (of_decide_eq_true rfl) (k_t (k_t X.2.2.2.2.1)))) (fun _ _ _ => rfl)
    simp only [List.map_cons, cV0, cV1, cV2, cV3, hp, xshl, n_ofInt] at Z
    simp only [List.map_cons, cV0]
    exact lv_ishl hx hb hd Z
  · cases hs
theorem sd_ishr : Sd .ishr := by
  intro len D cy bse b0 L0 xs0 p l e R s m args below meth c Q mm d k c0 u0 ad h ls st H locs cells slots la k' ls' st' h' M X hd hr hn h31 hs hc hu kk
  obtain ⟨hx, hb, hml, ho, hts, hK, hRf, hRl, hin, hEX⟩ := M
  have I' := (stp_ok (xop_ok mm k) X.1 hs).1
  obtain ⟨hop, rfl⟩ := xe_eq (by unfold xrel at hr; exact hr)
  have hc1 : (xcd mm k).1 = 57 := by rw [hop]
  have hp := xnext_pc hn (by rw [hc1]; decide) (by rw [hc1]; decide) (by rw [hc1]; decide) (by rw [hc1]; decide)
  unfold xstp at hs
  simp only [hc1, if_true, if_false, Nat.reduceEqDiff] at hs
  split at hs
  · simp only [Option.some.injEq, Prod.mk.injEq] at hs
    obtain ⟨rfl, rfl, rfl, rfl⟩ := hs
    have Z := kk ad H locs cells slots la (xW_st X I' (k_c (of_decide_eq_true rfl) (k_t (k_t X.2.2.2.2.1)))) (fun _ _ _ => rfl)
    simp only [List.map_cons, cV0, cV1, cV2, cV3, hp, xshr, n_ofInt] at Z
    simp only [List.map_cons, cV0]
    exact lv_ishr hx hb hd Z
  · cases hs
theorem sd_iushr : Sd .iushr := by
  intro len D cy bse b0 L0 xs0 p l e R s m args below meth c Q mm d k c0 u0 ad h ls st H locs cells slots la k' ls' st' h' M X hd hr hn h31 hs hc hu kk
  obtain ⟨hx, hb, hml, ho, hts, hK, hRf, hRl, hin, hEX⟩ := M
  have I' := (stp_ok (xop_ok mm k) X.1 hs).1
  obtain ⟨hop, rfl⟩ := xe_eq (by unfold xrel at hr; exact hr)
  have hc1 : (xcd mm k).1 = 58 := by rw [hop]
  have hp := xnext_pc hn (by rw [hc1]; decide) (by rw [hc1]; decide) (by rw [hc1]; decide) (by rw [hc1]; decide)
  unfold xstp at hs
  simp only [hc1, if_true, if_false, Nat.reduceEqDiff] at hs
  split at hs
  · simp only [Option.some.injEq, Prod.mk.injEq] at hs
    obtain ⟨rfl, rfl, rfl, rfl⟩ := hs
    have Z := kk ad H locs cells slots la (xW_st X I' (k_c (of_decide_eq_true rfl) (k_t (k_t X.2.2.2.2.1)))) (fun _ _ _ => rfl)
    simp only [List.map_cons, cV0, cV1, cV2, cV3, hp, xushr, n_ofInt] at Z
    simp only [List.map_cons, cV0]
    exact lv_iushr hx hb hd rfl Z
  · cases hs
theorem sd_idiv : Sd .idiv := by
  intro len D cy bse b0 L0 xs0 p l e R s m args below meth c Q mm d k c0 u0 ad h ls st H locs cells slots la k' ls' st' h' M X hd hr hn h31 hs hc hu kk
  obtain ⟨hx, hb, hml, ho, hts, hK, hRf, hRl, hin, hEX⟩ := M
  have I' := (stp_ok (xop_ok mm k) X.1 hs).1
  obtain ⟨hop, rfl⟩ := xe_eq (by unfold xrel at hr; exact hr)
  have hc1 : (xcd mm k).1 = 59 := by rw [hop]
  have hp := xnext_pc hn (by rw [hc1]; decide) (by rw [hc1]; decide) (by rw [hc1]; decide) (by rw [hc1]; decide)
  unfold xstp at hs
  simp only [hc1, if_true, if_false, Nat.reduceEqDiff] at hs
  split at hs
  · split at hs
    · cases hs
    rename_i hy
    simp only [Option.some.injEq, Prod.mk.injEq] at hs
    obtain ⟨rfl, rfl, rfl, rfl⟩ := hs
    have Z := kk ad H locs cells slots la (xW_st X I' (k_c (of_decide_eq_true rfl) (k_t (k_t X.2.2.2.2.1)))) (fun _ _ _ => rfl)
    simp only [List.map_cons, cV0, cV1, cV2, cV3, hp, xdiv, n_ofInt] at Z
    simp only [List.map_cons, cV0]
    refine lv_idiv hx hb hd (fun q => hy ?_) Z
    exact (n_inj ((ok_h X.1.2.2).1 rfl) (by unfold xrg; omega)).mp q
  · cases hs
theorem sd_irem : Sd .irem := by
  intro len D cy bse b0 L0 xs0 p l e R s m args below meth c Q mm d k c0 u0 ad h ls st H locs cells slots la k' ls' st' h' M X hd hr hn h31 hs hc hu kk
  obtain ⟨hx, hb, hml, ho, hts, hK, hRf, hRl, hin, hEX⟩ := M
  have I' := (stp_ok (xop_ok mm k) X.1 hs).1
  obtain ⟨hop, rfl⟩ := xe_eq (by unfold xrel at hr; exact hr)
  have hc1 : (xcd mm k).1 = 60 := by rw [hop]
  have hp := xnext_pc hn (by rw [hc1]; decide) (by rw [hc1]; decide) (by rw [hc1]; decide) (by rw [hc1]; decide)
  unfold xstp at hs
  simp only [hc1, if_true, if_false, Nat.reduceEqDiff] at hs
  split at hs
  · split at hs
    · cases hs
    rename_i hy
    simp only [Option.some.injEq, Prod.mk.injEq] at hs
    obtain ⟨rfl, rfl, rfl, rfl⟩ := hs
    have Z := kk ad H locs cells slots la (xW_st X I' (k_c (of_decide_eq_true rfl) (k_t (k_t X.2.2.2.2.1)))) (fun _ _ _ => rfl)
    simp only [List.map_cons, cV0, cV1, cV2, cV3, hp, xrem, n_ofInt] at Z
    simp only [List.map_cons, cV0]
    refine lv_irem hx hb hd (fun q => hy ?_) Z
    exact (n_inj ((ok_h X.1.2.2).1 rfl) (by unfold xrg; omega)).mp q
  · cases hs
theorem n_b8 {n : Int} (h : -128 ≤ n ∧ n < 128) : (Int8.ofInt n).toInt32 = Int32.ofInt n := by
  apply Int32.toInt_inj.mp
  rw [Int8.toInt_toInt32, Int8.toInt_ofInt, n_toInt ⟨by omega, by omega⟩, Int.bmod_def, show ((Int8.size : Nat) : Int) = 256 from rfl]; split <;> omega
theorem n_b16 {n : Int} (h : -32768 ≤ n ∧ n < 32768) : (Int16.ofInt n).toInt32 = Int32.ofInt n := by
  apply Int32.toInt_inj.mp
  rw [Int16.toInt_toInt32, Int16.toInt_ofInt, n_toInt ⟨by omega, by omega⟩, Int.bmod_def, show ((Int16.size : Nat) : Int) = 65536 from rfl]; split <;> omega
theorem kl_word {o i kd : Nat} {v : Int} (h : xhasK o i kd v = true) : (if kd = 0 then Cond.constant (xown o) i (Int32.ofInt v) else if kd = 2 then .constantFloat (xown o) i (xuf v) else .constantLong (xown o) i (Int64.ofInt v)) ∈ lw_tbl := by
  unfold xhasK at h
  obtain ⟨q, hq, h2⟩ := List.any_eq_true.mp h
  simp only [Bool.and_eq_true, beq_iff_eq] at h2
  obtain ⟨a1, a2, a3, a4⟩ := h2
  have h3 := List.all_eq_true.mp xkl_all q hq
  unfold xklok at h3
  rw [a1, a2, a3, a4] at h3
  exact xat_mem h3
theorem sd_iconst (n : Int) : Sd (.iconst n) := by
  intro len D cy bse b0 L0 xs0 p l e R s m args below meth c Q mm d k c0 u0 ad h ls st H locs cells slots la k' ls' st' h' M X hd hr hn h31 hs hc hu kk
  obtain ⟨hx, hb, hml, ho, hts, hK, hRf, hRl, hin, hEX⟩ := M
  have I' := (stp_ok (xop_ok mm k) X.1 hs).1
  obtain ⟨hop, rfl⟩ := xe_eq (by unfold xrel at hr; exact hr)
  have hc1 : (xcd mm k).1 = 1 := by rw [hop]
  have hp := xnext_pc hn (by rw [hc1]; decide) (by rw [hc1]; decide) (by rw [hc1]; decide) (by rw [hc1]; decide)
  unfold xstp at hs
  simp only [hc1, if_true, if_false, Nat.reduceEqDiff] at hs
  have h2 : (xcd mm k).2.1 = n := by rw [hop]
  simp only [Option.some.injEq, Prod.mk.injEq] at hs
  obtain ⟨rfl, rfl, rfl, rfl⟩ := hs
  have Z := kk ad H locs cells slots la (xW_st X I' (k_c (of_decide_eq_true rfl) X.2.2.2.2.1)) (fun _ _ _ => rfl)
  simp only [List.map_cons, cV0, cV1, cV2, cV3, hp, h2] at Z
  exact lv_iconst hx hb hd rfl Z
theorem sd_bipush (n : Int) : Sd (.bipush n) := by
  intro len D cy bse b0 L0 xs0 p l e R s m args below meth c Q mm d k c0 u0 ad h ls st H locs cells slots la k' ls' st' h' M X hd hr hn h31 hs hc hu kk
  obtain ⟨hx, hb, hml, ho, hts, hK, hRf, hRl, hin, hEX⟩ := M
  have I' := (stp_ok (xop_ok mm k) X.1 hs).1
  obtain ⟨hr, hq⟩ := (by unfold xrel at hr; exact Bool.and_eq_true_iff.mp hr : xe _ _ _ _ _ _ _ = true ∧ _)
  obtain ⟨hop, rfl⟩ := xe_eq (hr)
  have hc1 : (xcd mm k).1 = 1 := by rw [hop]
  have hp := xnext_pc hn (by rw [hc1]; decide) (by rw [hc1]; decide) (by rw [hc1]; decide) (by rw [hc1]; decide)
  unfold xstp at hs
  simp only [hc1, if_true, if_false, Nat.reduceEqDiff] at hs
  have h2 : (xcd mm k).2.1 = n := by rw [hop]
  simp only [Option.some.injEq, Prod.mk.injEq] at hs
  obtain ⟨rfl, rfl, rfl, rfl⟩ := hs
  have Z := kk ad H locs cells slots la (xW_st X I' (k_c (of_decide_eq_true rfl) X.2.2.2.2.1)) (fun _ _ _ => rfl)
  simp only [List.map_cons, cV0, cV1, cV2, cV3, hp, h2] at Z
  exact lv_bipush hx hb hd (n_b8 (of_decide_eq_true hq)) Z
theorem sd_sipush (n : Int) : Sd (.sipush n) := by
  intro len D cy bse b0 L0 xs0 p l e R s m args below meth c Q mm d k c0 u0 ad h ls st H locs cells slots la k' ls' st' h' M X hd hr hn h31 hs hc hu kk
  obtain ⟨hx, hb, hml, ho, hts, hK, hRf, hRl, hin, hEX⟩ := M
  have I' := (stp_ok (xop_ok mm k) X.1 hs).1
  obtain ⟨hr, hq⟩ := (by unfold xrel at hr; exact Bool.and_eq_true_iff.mp hr : xe _ _ _ _ _ _ _ = true ∧ _)
  obtain ⟨hop, rfl⟩ := xe_eq (hr)
  have hc1 : (xcd mm k).1 = 1 := by rw [hop]
  have hp := xnext_pc hn (by rw [hc1]; decide) (by rw [hc1]; decide) (by rw [hc1]; decide) (by rw [hc1]; decide)
  unfold xstp at hs
  simp only [hc1, if_true, if_false, Nat.reduceEqDiff] at hs
  have h2 : (xcd mm k).2.1 = n := by rw [hop]
  simp only [Option.some.injEq, Prod.mk.injEq] at hs
  obtain ⟨rfl, rfl, rfl, rfl⟩ := hs
  have Z := kk ad H locs cells slots la (xW_st X I' (k_c (of_decide_eq_true rfl) X.2.2.2.2.1)) (fun _ _ _ => rfl)
  simp only [List.map_cons, cV0, cV1, cV2, cV3, hp, h2] at Z
  exact lv_sipush hx hb hd (n_b16 (of_decide_eq_true hq)) Z
theorem lv_ldcwf {p : Program} {l : Launch} {e : Env} {R : Room} {s : State} {m : MethodId} {args : Array Value} {below : List Frame} {meth : Method} {c : Code} {H : Heap} {locs : List Loc} {cells slots : Nat} {Q : State → Prop} {cc : ByteArray} {pc : Nat} {ls : Array Slot} {rest : List Value} (hexec : p.tables.exec = Jvm.exec) (hb : c.code = cc) {own : String} {index : Nat} {v : UInt32} (hown : s.vm.findClass own = some m.cls) (hconst : (Jvm.Cond.constantFloat own index v).before args s = true) (hdg : decode cc pc = .ok (.ldc_w index, 3)) (k : W p l e R s m args below meth c H locs cells slots Q (F0 m (pc + 3) ls (.float v :: rest))) : W p l e R s m args below meth c H locs cells slots Q (F0 m pc ls rest) := by
  intro T hT X
  obtain ⟨t, a, b⟩ := k T hT X
  refine ⟨t, ?_, b⟩
  obtain ⟨k, cf, hk, hcf, hcp⟩ := Cond.constantFloat_spec hown hconst
  obtain ⟨k', hk', he⟩ := X.warmed.alike.2.2 _ _ hk
  have hdg' : decode c.code (F0 m pc ls rest).pc = .ok (.ldc_w index, 3) := by rw [hb]; exact hdg
  jvm_step X.here [hexec, hdg', ldc_w.wp_float (s := T) (f := F0 m pc ls rest) X.here.top hk' (by rw [he]; exact hcf) hcp]
  exact a
theorem sd_ldc (i : Nat) : Sd (.ldc i) := by
  intro len D cy bse b0 L0 xs0 p l e R s m args below meth c Q mm d k c0 u0 ad h ls st H locs cells slots la k' ls' st' h' M X hd hr hn h31 hs hc hu kk
  obtain ⟨hx, hb, hml, ho, hts, hK, hRf, hRl, hin, hEX⟩ := M
  have I' := (stp_ok (xop_ok mm k) X.1 hs).1
  have hr := (by unfold xrel at hr; exact (Bool.or_eq_true _ _).mp hr : _ ∨ _)
  rcases hr with hr | hr
  · obtain ⟨hr, hq⟩ := (Bool.and_eq_true _ _).mp hr
    obtain ⟨hop, rfl⟩ := xe_eq (hr)
    have hc1 : (xcd mm k).1 = 1 := by rw [hop]
    have hp := xnext_pc hn (by rw [hc1]; decide) (by rw [hc1]; decide) (by rw [hc1]; decide) (by rw [hc1]; decide)
    unfold xstp at hs
    simp only [hc1, if_true, if_false, Nat.reduceEqDiff] at hs
    simp only [Option.some.injEq, Prod.mk.injEq] at hs
    obtain ⟨rfl, rfl, rfl, rfl⟩ := hs
    have Z := kk ad H locs cells slots la (xW_st X I' (k_c (of_decide_eq_true rfl) X.2.2.2.2.1)) (fun _ _ _ => rfl)
    simp only [List.map_cons, cV0, cV1, cV2, cV3, hp] at Z
    have hw := kl_word hq
    exact lv_ldc hx hb ho (hts _ hw rfl) hd Z
  · obtain ⟨hr, hq⟩ := (Bool.and_eq_true _ _).mp hr
    obtain ⟨hop, rfl⟩ := xe_eq (hr)
    have hc1 : (xcd mm k).1 = 80 := by rw [hop]
    have hp := xnext_pc hn (by rw [hc1]; decide) (by rw [hc1]; decide) (by rw [hc1]; decide) (by rw [hc1]; decide)
    unfold xstp at hs
    simp only [hc1, if_true, if_false, Nat.reduceEqDiff] at hs
    simp only [Option.some.injEq, Prod.mk.injEq] at hs
    obtain ⟨rfl, rfl, rfl, rfl⟩ := hs
    have Z := kk ad H locs cells slots la (xW_st X I' (k_c (of_decide_eq_true rfl) X.2.2.2.2.1)) (fun _ _ _ => rfl)
    simp only [List.map_cons, cV0, cV1, cV2, cV3, hp] at Z
    have hw := kl_word hq
    exact lv_ldcf hx hb ho (hts _ hw rfl) hd Z
theorem sd_ldc_w (i : Nat) : Sd (.ldc_w i) := by
  intro len D cy bse b0 L0 xs0 p l e R s m args below meth c Q mm d k c0 u0 ad h ls st H locs cells slots la k' ls' st' h' M X hd hr hn h31 hs hc hu kk
  obtain ⟨hx, hb, hml, ho, hts, hK, hRf, hRl, hin, hEX⟩ := M
  have I' := (stp_ok (xop_ok mm k) X.1 hs).1
  have hr := (by unfold xrel at hr; exact (Bool.or_eq_true _ _).mp hr : _ ∨ _)
  rcases hr with hr | hr
  · obtain ⟨hr, hq⟩ := (Bool.and_eq_true _ _).mp hr
    obtain ⟨hop, rfl⟩ := xe_eq (hr)
    have hc1 : (xcd mm k).1 = 1 := by rw [hop]
    have hp := xnext_pc hn (by rw [hc1]; decide) (by rw [hc1]; decide) (by rw [hc1]; decide) (by rw [hc1]; decide)
    unfold xstp at hs
    simp only [hc1, if_true, if_false, Nat.reduceEqDiff] at hs
    simp only [Option.some.injEq, Prod.mk.injEq] at hs
    obtain ⟨rfl, rfl, rfl, rfl⟩ := hs
    have Z := kk ad H locs cells slots la (xW_st X I' (k_c (of_decide_eq_true rfl) X.2.2.2.2.1)) (fun _ _ _ => rfl)
    simp only [List.map_cons, cV0, cV1, cV2, cV3, hp] at Z
    have hw := kl_word hq
    exact lv_ldcw hx hb ho (hts _ hw rfl) hd Z
  · obtain ⟨hr, hq⟩ := (Bool.and_eq_true _ _).mp hr
    obtain ⟨hop, rfl⟩ := xe_eq (hr)
    have hc1 : (xcd mm k).1 = 80 := by rw [hop]
    have hp := xnext_pc hn (by rw [hc1]; decide) (by rw [hc1]; decide) (by rw [hc1]; decide) (by rw [hc1]; decide)
    unfold xstp at hs
    simp only [hc1, if_true, if_false, Nat.reduceEqDiff] at hs
    simp only [Option.some.injEq, Prod.mk.injEq] at hs
    obtain ⟨rfl, rfl, rfl, rfl⟩ := hs
    have Z := kk ad H locs cells slots la (xW_st X I' (k_c (of_decide_eq_true rfl) X.2.2.2.2.1)) (fun _ _ _ => rfl)
    simp only [List.map_cons, cV0, cV1, cV2, cV3, hp] at Z
    have hw := kl_word hq
    exact lv_ldcwf hx hb ho (hts _ hw rfl) hd Z
theorem sd_ldc2_w (i : Nat) : Sd (.ldc2_w i) := by
  intro len D cy bse b0 L0 xs0 p l e R s m args below meth c Q mm d k c0 u0 ad h ls st H locs cells slots la k' ls' st' h' M X hd hr hn h31 hs hc hu kk
  obtain ⟨hx, hb, hml, ho, hts, hK, hRf, hRl, hin, hEX⟩ := M
  have I' := (stp_ok (xop_ok mm k) X.1 hs).1
  obtain ⟨hr, hq⟩ := (by unfold xrel at hr; exact Bool.and_eq_true_iff.mp hr : xe _ _ _ _ _ _ _ = true ∧ _)
  obtain ⟨hop, rfl⟩ := xe_eq (hr)
  have hc1 : (xcd mm k).1 = 40 := by rw [hop]
  have hp := xnext_pc hn (by rw [hc1]; decide) (by rw [hc1]; decide) (by rw [hc1]; decide) (by rw [hc1]; decide)
  unfold xstp at hs
  simp only [hc1, if_true, if_false, Nat.reduceEqDiff] at hs
  simp only [Option.some.injEq, Prod.mk.injEq] at hs
  obtain ⟨rfl, rfl, rfl, rfl⟩ := hs
  have Z := kk ad H locs cells slots la (xW_st X I' (k_c (of_decide_eq_true rfl) X.2.2.2.2.1)) (fun _ _ _ => rfl)
  simp only [List.map_cons, cV0, cV1, cV2, cV3, hp] at Z
  have hw := kl_word hq
  exact lv_ldc2 hx hb ho (hts _ hw rfl) hd Z
theorem sd_iload_n (j : Fin 4) : Sd (.iload_n j) := by
  intro len D cy bse b0 L0 xs0 p l e R s m args below meth c Q mm d k c0 u0 ad h ls st H locs cells slots la k' ls' st' h' M X hd hr hn h31 hs hc hu kk
  obtain ⟨hx, hb, hml, ho, hts, hK, hRf, hRl, hin, hEX⟩ := M
  have I' := (stp_ok (xop_ok mm k) X.1 hs).1
  obtain ⟨hop, rfl⟩ := xe_eq (by unfold xrel at hr; exact hr)
  have hc1 : (xcd mm k).1 = 2 := by rw [hop]
  have hp := xnext_pc hn (by rw [hc1]; decide) (by rw [hc1]; decide) (by rw [hc1]; decide) (by rw [hc1]; decide)
  unfold xstp at hs
  simp only [hc1, if_true, if_false, Nat.reduceEqDiff] at hs
  split at hs
  · rename_i v ev
    split at hs
    · rename_i gv
      simp only [Option.some.injEq, Prod.mk.injEq] at hs
      obtain ⟨rfl, rfl, rfl, rfl⟩ := hs
      simp only [hop, Int.toNat_natCast] at ev gv
      obtain ⟨vk, vx⟩ := v
      have gv : vk = 0 := gv
      subst gv
      have hla := X.2.1.2.2 _ _ ev (of_decide_eq_true rfl)
      have Z := kk ad H locs cells slots la (xW_st X I' (k_c (of_decide_eq_true rfl) X.2.2.2.2.1)) (fun _ _ _ => rfl)
      simp only [List.map_cons, cV0, cV1, cV2, cV3, hp] at Z
      simp only [cV0, cV1, cV2, cV3] at hla
      exact lv_iload_n hx hb hd rfl hla Z
    · cases hs
  · cases hs
theorem sd_iload (j : Nat) : Sd (.iload j) := by
  intro len D cy bse b0 L0 xs0 p l e R s m args below meth c Q mm d k c0 u0 ad h ls st H locs cells slots la k' ls' st' h' M X hd hr hn h31 hs hc hu kk
  obtain ⟨hx, hb, hml, ho, hts, hK, hRf, hRl, hin, hEX⟩ := M
  have I' := (stp_ok (xop_ok mm k) X.1 hs).1
  obtain ⟨hop, rfl⟩ := xe_eq (by unfold xrel at hr; exact hr)
  have hc1 : (xcd mm k).1 = 2 := by rw [hop]
  have hp := xnext_pc hn (by rw [hc1]; decide) (by rw [hc1]; decide) (by rw [hc1]; decide) (by rw [hc1]; decide)
  unfold xstp at hs
  simp only [hc1, if_true, if_false, Nat.reduceEqDiff] at hs
  split at hs
  · rename_i v ev
    split at hs
    · rename_i gv
      simp only [Option.some.injEq, Prod.mk.injEq] at hs
      obtain ⟨rfl, rfl, rfl, rfl⟩ := hs
      simp only [hop, Int.toNat_natCast] at ev gv
      obtain ⟨vk, vx⟩ := v
      have gv : vk = 0 := gv
      subst gv
      have hla := X.2.1.2.2 _ _ ev (of_decide_eq_true rfl)
      have Z := kk ad H locs cells slots la (xW_st X I' (k_c (of_decide_eq_true rfl) X.2.2.2.2.1)) (fun _ _ _ => rfl)
      simp only [List.map_cons, cV0, cV1, cV2, cV3, hp] at Z
      simp only [cV0, cV1, cV2, cV3] at hla
      exact lv_iload hx hb hd hla Z
    · cases hs
  · cases hs
theorem sd_aload_n (j : Fin 4) : Sd (.aload_n j) := by
  intro len D cy bse b0 L0 xs0 p l e R s m args below meth c Q mm d k c0 u0 ad h ls st H locs cells slots la k' ls' st' h' M X hd hr hn h31 hs hc hu kk
  obtain ⟨hx, hb, hml, ho, hts, hK, hRf, hRl, hin, hEX⟩ := M
  have I' := (stp_ok (xop_ok mm k) X.1 hs).1
  obtain ⟨hop, rfl⟩ := xe_eq (by unfold xrel at hr; exact hr)
  have hc1 : (xcd mm k).1 = 2 := by rw [hop]
  have hp := xnext_pc hn (by rw [hc1]; decide) (by rw [hc1]; decide) (by rw [hc1]; decide) (by rw [hc1]; decide)
  unfold xstp at hs
  simp only [hc1, if_true, if_false, Nat.reduceEqDiff] at hs
  split at hs
  · rename_i v ev
    split at hs
    · rename_i gv
      simp only [Option.some.injEq, Prod.mk.injEq] at hs
      obtain ⟨rfl, rfl, rfl, rfl⟩ := hs
      simp only [hop, Int.toNat_natCast] at ev gv
      obtain ⟨vk, vx⟩ := v
      have gv : vk = 1 := gv
      subst gv
      have hla := X.2.1.2.2 _ _ ev (of_decide_eq_true rfl)
      have Z := kk ad H locs cells slots la (xW_st X I' (k_c (of_decide_eq_true rfl) X.2.2.2.2.1)) (fun _ _ _ => rfl)
      simp only [List.map_cons, cV0, cV1, cV2, cV3, hp] at Z
      simp only [cV0, cV1, cV2, cV3] at hla
      by_cases z : vx = 0
      · subst z
        rw [cR0] at hla Z
        exact lv_aload_nN hx hb hd rfl hla Z
      · rw [cRn z] at hla Z
        exact lv_aload_n hx hb hd rfl hla Z
    · cases hs
  · cases hs
theorem sd_aload (j : Nat) : Sd (.aload j) := by
  intro len D cy bse b0 L0 xs0 p l e R s m args below meth c Q mm d k c0 u0 ad h ls st H locs cells slots la k' ls' st' h' M X hd hr hn h31 hs hc hu kk
  obtain ⟨hx, hb, hml, ho, hts, hK, hRf, hRl, hin, hEX⟩ := M
  have I' := (stp_ok (xop_ok mm k) X.1 hs).1
  obtain ⟨hop, rfl⟩ := xe_eq (by unfold xrel at hr; exact hr)
  have hc1 : (xcd mm k).1 = 2 := by rw [hop]
  have hp := xnext_pc hn (by rw [hc1]; decide) (by rw [hc1]; decide) (by rw [hc1]; decide) (by rw [hc1]; decide)
  unfold xstp at hs
  simp only [hc1, if_true, if_false, Nat.reduceEqDiff] at hs
  split at hs
  · rename_i v ev
    split at hs
    · rename_i gv
      simp only [Option.some.injEq, Prod.mk.injEq] at hs
      obtain ⟨rfl, rfl, rfl, rfl⟩ := hs
      simp only [hop, Int.toNat_natCast] at ev gv
      obtain ⟨vk, vx⟩ := v
      have gv : vk = 1 := gv
      subst gv
      have hla := X.2.1.2.2 _ _ ev (of_decide_eq_true rfl)
      have Z := kk ad H locs cells slots la (xW_st X I' (k_c (of_decide_eq_true rfl) X.2.2.2.2.1)) (fun _ _ _ => rfl)
      simp only [List.map_cons, cV0, cV1, cV2, cV3, hp] at Z
      simp only [cV0, cV1, cV2, cV3] at hla
      by_cases z : vx = 0
      · subst z
        rw [cR0] at hla Z
        exact lv_aloadN hx hb hd hla Z
      · rw [cRn z] at hla Z
        exact lv_aload hx hb hd hla Z
    · cases hs
  · cases hs
theorem sd_fload (j : Nat) : Sd (.fload j) := by
  intro len D cy bse b0 L0 xs0 p l e R s m args below meth c Q mm d k c0 u0 ad h ls st H locs cells slots la k' ls' st' h' M X hd hr hn h31 hs hc hu kk
  obtain ⟨hx, hb, hml, ho, hts, hK, hRf, hRl, hin, hEX⟩ := M
  have I' := (stp_ok (xop_ok mm k) X.1 hs).1
  obtain ⟨hop, rfl⟩ := xe_eq (by unfold xrel at hr; exact hr)
  have hc1 : (xcd mm k).1 = 2 := by rw [hop]
  have hp := xnext_pc hn (by rw [hc1]; decide) (by rw [hc1]; decide) (by rw [hc1]; decide) (by rw [hc1]; decide)
  unfold xstp at hs
  simp only [hc1, if_true, if_false, Nat.reduceEqDiff] at hs
  split at hs
  · rename_i v ev
    split at hs
    · rename_i gv
      simp only [Option.some.injEq, Prod.mk.injEq] at hs
      obtain ⟨rfl, rfl, rfl, rfl⟩ := hs
      simp only [hop, Int.toNat_natCast] at ev gv
      obtain ⟨vk, vx⟩ := v
      have gv : vk = 2 := gv
      subst gv
      have hla := X.2.1.2.2 _ _ ev (of_decide_eq_true rfl)
      have Z := kk ad H locs cells slots la (xW_st X I' (k_c (of_decide_eq_true rfl) X.2.2.2.2.1)) (fun _ _ _ => rfl)
      simp only [List.map_cons, cV0, cV1, cV2, cV3, hp] at Z
      simp only [cV0, cV1, cV2, cV3] at hla
      exact lv_fload hx hb hd hla Z
    · cases hs
  · cases hs
theorem sd_lload_n (j : Fin 4) : Sd (.lload_n j) := by
  intro len D cy bse b0 L0 xs0 p l e R s m args below meth c Q mm d k c0 u0 ad h ls st H locs cells slots la k' ls' st' h' M X hd hr hn h31 hs hc hu kk
  obtain ⟨hx, hb, hml, ho, hts, hK, hRf, hRl, hin, hEX⟩ := M
  have I' := (stp_ok (xop_ok mm k) X.1 hs).1
  obtain ⟨hop, rfl⟩ := xe_eq (by unfold xrel at hr; exact hr)
  have hc1 : (xcd mm k).1 = 2 := by rw [hop]
  have hp := xnext_pc hn (by rw [hc1]; decide) (by rw [hc1]; decide) (by rw [hc1]; decide) (by rw [hc1]; decide)
  unfold xstp at hs
  simp only [hc1, if_true, if_false, Nat.reduceEqDiff] at hs
  split at hs
  · rename_i v ev
    split at hs
    · rename_i gv
      simp only [Option.some.injEq, Prod.mk.injEq] at hs
      obtain ⟨rfl, rfl, rfl, rfl⟩ := hs
      simp only [hop, Int.toNat_natCast] at ev gv
      obtain ⟨vk, vx⟩ := v
      have gv : vk = 3 := gv
      subst gv
      have hla := X.2.1.2.2 _ _ ev (of_decide_eq_true rfl)
      have Z := kk ad H locs cells slots la (xW_st X I' (k_c (of_decide_eq_true rfl) X.2.2.2.2.1)) (fun _ _ _ => rfl)
      simp only [List.map_cons, cV0, cV1, cV2, cV3, hp] at Z
      simp only [cV0, cV1, cV2, cV3] at hla
      exact lv_lload_n hx hb hd rfl hla Z
    · cases hs
  · cases hs
theorem sd_lload (j : Nat) : Sd (.lload j) := by
  intro len D cy bse b0 L0 xs0 p l e R s m args below meth c Q mm d k c0 u0 ad h ls st H locs cells slots la k' ls' st' h' M X hd hr hn h31 hs hc hu kk
  obtain ⟨hx, hb, hml, ho, hts, hK, hRf, hRl, hin, hEX⟩ := M
  have I' := (stp_ok (xop_ok mm k) X.1 hs).1
  obtain ⟨hop, rfl⟩ := xe_eq (by unfold xrel at hr; exact hr)
  have hc1 : (xcd mm k).1 = 2 := by rw [hop]
  have hp := xnext_pc hn (by rw [hc1]; decide) (by rw [hc1]; decide) (by rw [hc1]; decide) (by rw [hc1]; decide)
  unfold xstp at hs
  simp only [hc1, if_true, if_false, Nat.reduceEqDiff] at hs
  split at hs
  · rename_i v ev
    split at hs
    · rename_i gv
      simp only [Option.some.injEq, Prod.mk.injEq] at hs
      obtain ⟨rfl, rfl, rfl, rfl⟩ := hs
      simp only [hop, Int.toNat_natCast] at ev gv
      obtain ⟨vk, vx⟩ := v
      have gv : vk = 3 := gv
      subst gv
      have hla := X.2.1.2.2 _ _ ev (of_decide_eq_true rfl)
      have Z := kk ad H locs cells slots la (xW_st X I' (k_c (of_decide_eq_true rfl) X.2.2.2.2.1)) (fun _ _ _ => rfl)
      simp only [List.map_cons, cV0, cV1, cV2, cV3, hp] at Z
      simp only [cV0, cV1, cV2, cV3] at hla
      exact lv_lload hx hb hd hla Z
    · cases hs
  · cases hs
theorem sd_istore_n (j : Fin 4) : Sd (.istore_n j) := by
  intro len D cy bse b0 L0 xs0 p l e R s m args below meth c Q mm d k c0 u0 ad h ls st H locs cells slots la k' ls' st' h' M X hd hr hn h31 hs hc hu kk
  obtain ⟨hx, hb, hml, ho, hts, hK, hRf, hRl, hin, hEX⟩ := M
  have I' := (stp_ok (xop_ok mm k) X.1 hs).1
  obtain ⟨hop, rfl⟩ := xe_eq (by unfold xrel at hr; exact hr)
  have hc1 : (xcd mm k).1 = 3 := by rw [hop]
  have hp := xnext_pc hn (by rw [hc1]; decide) (by rw [hc1]; decide) (by rw [hc1]; decide) (by rw [hc1]; decide)
  unfold xstp at hs
  simp only [hc1, if_true, if_false, Nat.reduceEqDiff] at hs
  split at hs
  · rename_i v st1
    split at hs
    · rename_i gv
      obtain ⟨gv, -, hj⟩ := gv
      simp only [Option.some.injEq, Prod.mk.injEq] at hs
      obtain ⟨rfl, rfl, rfl, rfl⟩ := hs
      simp only [hop, Int.toNat_natCast] at gv hj I' kk
      obtain ⟨vk, vx⟩ := v
      have gv : vk = 0 := gv
      subst gv
      simp only [List.map_cons, cV0, cV1, cV2, cV3]
      refine lv_istore_n hx hb hd rfl (xLM_has X.2.1 rfl) hj rfl (fun la1 hla => ?_)
      have Z := kk ad H locs cells slots la1 (xW_ls X I' (k_t X.2.2.2.2.1) (xLM_st X.2.2.2.1 hj rfl hla) (xst_len _ _ _) (xst_k X.2.2.2.1 (Or.inl (of_decide_eq_true rfl)))) (fun _ _ _ => rfl)
      rw [hp] at Z
      exact Z
    · cases hs
  · cases hs
theorem sd_istore (j : Nat) : Sd (.istore j) := by
  intro len D cy bse b0 L0 xs0 p l e R s m args below meth c Q mm d k c0 u0 ad h ls st H locs cells slots la k' ls' st' h' M X hd hr hn h31 hs hc hu kk
  obtain ⟨hx, hb, hml, ho, hts, hK, hRf, hRl, hin, hEX⟩ := M
  have I' := (stp_ok (xop_ok mm k) X.1 hs).1
  obtain ⟨hop, rfl⟩ := xe_eq (by unfold xrel at hr; exact hr)
  have hc1 : (xcd mm k).1 = 3 := by rw [hop]
  have hp := xnext_pc hn (by rw [hc1]; decide) (by rw [hc1]; decide) (by rw [hc1]; decide) (by rw [hc1]; decide)
  unfold xstp at hs
  simp only [hc1, if_true, if_false, Nat.reduceEqDiff] at hs
  split at hs
  · rename_i v st1
    split at hs
    · rename_i gv
      obtain ⟨gv, -, hj⟩ := gv
      simp only [Option.some.injEq, Prod.mk.injEq] at hs
      obtain ⟨rfl, rfl, rfl, rfl⟩ := hs
      simp only [hop, Int.toNat_natCast] at gv hj I' kk
      obtain ⟨vk, vx⟩ := v
      have gv : vk = 0 := gv
      subst gv
      simp only [List.map_cons, cV0, cV1, cV2, cV3]
      refine lv_istore hx hb hd (xLM_has X.2.1 rfl) hj rfl (fun la1 hla => ?_)
      have Z := kk ad H locs cells slots la1 (xW_ls X I' (k_t X.2.2.2.2.1) (xLM_st X.2.2.2.1 hj rfl hla) (xst_len _ _ _) (xst_k X.2.2.2.1 (Or.inl (of_decide_eq_true rfl)))) (fun _ _ _ => rfl)
      rw [hp] at Z
      exact Z
    · cases hs
  · cases hs
theorem sd_astore_n (j : Fin 4) : Sd (.astore_n j) := by
  intro len D cy bse b0 L0 xs0 p l e R s m args below meth c Q mm d k c0 u0 ad h ls st H locs cells slots la k' ls' st' h' M X hd hr hn h31 hs hc hu kk
  obtain ⟨hx, hb, hml, ho, hts, hK, hRf, hRl, hin, hEX⟩ := M
  have I' := (stp_ok (xop_ok mm k) X.1 hs).1
  obtain ⟨hop, rfl⟩ := xe_eq (by unfold xrel at hr; exact hr)
  have hc1 : (xcd mm k).1 = 3 := by rw [hop]
  have hp := xnext_pc hn (by rw [hc1]; decide) (by rw [hc1]; decide) (by rw [hc1]; decide) (by rw [hc1]; decide)
  unfold xstp at hs
  simp only [hc1, if_true, if_false, Nat.reduceEqDiff] at hs
  split at hs
  · rename_i v st1
    split at hs
    · rename_i gv
      obtain ⟨gv, -, hj⟩ := gv
      simp only [Option.some.injEq, Prod.mk.injEq] at hs
      obtain ⟨rfl, rfl, rfl, rfl⟩ := hs
      simp only [hop, Int.toNat_natCast] at gv hj I' kk
      obtain ⟨vk, vx⟩ := v
      have gv : vk = 1 := gv
      subst gv
      simp only [List.map_cons, cV0, cV1, cV2, cV3]
      by_cases z : vx = 0
      · subst z
        rw [cR0]
        refine lv_astore_nN hx hb hd rfl (xLM_has X.2.1 rfl) hj rfl (fun la1 hla => ?_)
        have Z := kk ad H locs cells slots la1 (xW_ls X I' (k_t X.2.2.2.2.1) (xLM_st X.2.2.2.1 hj (cR0 (ad := ad)).symm hla) (xst_len _ _ _) (xst_k X.2.2.2.1 (Or.inl (of_decide_eq_true rfl)))) (fun _ _ _ => rfl)
        rw [hp] at Z
        exact Z

      · rw [cRn z]
        refine lv_astore_n hx hb hd rfl (xLM_has X.2.1 rfl) hj rfl (fun la1 hla => ?_)
        have Z := kk ad H locs cells slots la1 (xW_ls X I' (k_t X.2.2.2.2.1) (xLM_st X.2.2.2.1 hj (cRn z).symm hla) (xst_len _ _ _) (xst_k X.2.2.2.1 (Or.inl (of_decide_eq_true rfl)))) (fun _ _ _ => rfl)
        rw [hp] at Z
        exact Z
    · cases hs
  · cases hs
theorem sd_astore (j : Nat) : Sd (.astore j) := by
  intro len D cy bse b0 L0 xs0 p l e R s m args below meth c Q mm d k c0 u0 ad h ls st H locs cells slots la k' ls' st' h' M X hd hr hn h31 hs hc hu kk
  obtain ⟨hx, hb, hml, ho, hts, hK, hRf, hRl, hin, hEX⟩ := M
  have I' := (stp_ok (xop_ok mm k) X.1 hs).1
  obtain ⟨hop, rfl⟩ := xe_eq (by unfold xrel at hr; exact hr)
  have hc1 : (xcd mm k).1 = 3 := by rw [hop]
  have hp := xnext_pc hn (by rw [hc1]; decide) (by rw [hc1]; decide) (by rw [hc1]; decide) (by rw [hc1]; decide)
  unfold xstp at hs
  simp only [hc1, if_true, if_false, Nat.reduceEqDiff] at hs
  split at hs
  · rename_i v st1
    split at hs
    · rename_i gv
      obtain ⟨gv, -, hj⟩ := gv
      simp only [Option.some.injEq, Prod.mk.injEq] at hs
      obtain ⟨rfl, rfl, rfl, rfl⟩ := hs
      simp only [hop, Int.toNat_natCast] at gv hj I' kk
      obtain ⟨vk, vx⟩ := v
      have gv : vk = 1 := gv
      subst gv
      simp only [List.map_cons, cV0, cV1, cV2, cV3]
      by_cases z : vx = 0
      · subst z
        rw [cR0]
        refine lv_astoreN hx hb hd (xLM_has X.2.1 rfl) hj rfl (fun la1 hla => ?_)
        have Z := kk ad H locs cells slots la1 (xW_ls X I' (k_t X.2.2.2.2.1) (xLM_st X.2.2.2.1 hj (cR0 (ad := ad)).symm hla) (xst_len _ _ _) (xst_k X.2.2.2.1 (Or.inl (of_decide_eq_true rfl)))) (fun _ _ _ => rfl)
        rw [hp] at Z
        exact Z

      · rw [cRn z]
        refine lv_astore hx hb hd (xLM_has X.2.1 rfl) hj rfl (fun la1 hla => ?_)
        have Z := kk ad H locs cells slots la1 (xW_ls X I' (k_t X.2.2.2.2.1) (xLM_st X.2.2.2.1 hj (cRn z).symm hla) (xst_len _ _ _) (xst_k X.2.2.2.1 (Or.inl (of_decide_eq_true rfl)))) (fun _ _ _ => rfl)
        rw [hp] at Z
        exact Z
    · cases hs
  · cases hs
theorem sd_fstore (j : Nat) : Sd (.fstore j) := by
  intro len D cy bse b0 L0 xs0 p l e R s m args below meth c Q mm d k c0 u0 ad h ls st H locs cells slots la k' ls' st' h' M X hd hr hn h31 hs hc hu kk
  obtain ⟨hx, hb, hml, ho, hts, hK, hRf, hRl, hin, hEX⟩ := M
  have I' := (stp_ok (xop_ok mm k) X.1 hs).1
  obtain ⟨hop, rfl⟩ := xe_eq (by unfold xrel at hr; exact hr)
  have hc1 : (xcd mm k).1 = 3 := by rw [hop]
  have hp := xnext_pc hn (by rw [hc1]; decide) (by rw [hc1]; decide) (by rw [hc1]; decide) (by rw [hc1]; decide)
  unfold xstp at hs
  simp only [hc1, if_true, if_false, Nat.reduceEqDiff] at hs
  split at hs
  · rename_i v st1
    split at hs
    · rename_i gv
      obtain ⟨gv, -, hj⟩ := gv
      simp only [Option.some.injEq, Prod.mk.injEq] at hs
      obtain ⟨rfl, rfl, rfl, rfl⟩ := hs
      simp only [hop, Int.toNat_natCast] at gv hj I' kk
      obtain ⟨vk, vx⟩ := v
      have gv : vk = 2 := gv
      subst gv
      simp only [List.map_cons, cV0, cV1, cV2, cV3]
      refine lv_fstore hx hb hd (xLM_has X.2.1 rfl) hj rfl (fun la1 hla => ?_)
      have Z := kk ad H locs cells slots la1 (xW_ls X I' (k_t X.2.2.2.2.1) (xLM_st X.2.2.2.1 hj rfl hla) (xst_len _ _ _) (xst_k X.2.2.2.1 (Or.inl (of_decide_eq_true rfl)))) (fun _ _ _ => rfl)
      rw [hp] at Z
      exact Z
    · cases hs
  · cases hs
theorem sd_iinc (j : Nat) (n : Int) : Sd (.iinc j n) := by
  intro len D cy bse b0 L0 xs0 p l e R s m args below meth c Q mm d k c0 u0 ad h ls st H locs cells slots la k' ls' st' h' M X hd hr hn h31 hs hc hu kk
  obtain ⟨hx, hb, hml, ho, hts, hK, hRf, hRl, hin, hEX⟩ := M
  have I' := (stp_ok (xop_ok mm k) X.1 hs).1
  obtain ⟨hop, rfl⟩ := xe_eq (by unfold xrel at hr; exact hr)
  have hc1 : (xcd mm k).1 = 4 := by rw [hop]
  have hp := xnext_pc hn (by rw [hc1]; decide) (by rw [hc1]; decide) (by rw [hc1]; decide) (by rw [hc1]; decide)
  unfold xstp at hs
  simp only [hc1, if_true, if_false, Nat.reduceEqDiff] at hs
  split at hs
  · rename_i v ev
    split at hs
    · rename_i gv
      simp only [Option.some.injEq, Prod.mk.injEq] at hs
      obtain ⟨rfl, rfl, rfl, rfl⟩ := hs
      simp only [hop, Int.toNat_natCast] at ev gv I' kk
      obtain ⟨vk, vx⟩ := v
      have gv : vk = 0 := gv
      subst gv
      have hj := (List.getElem?_eq_some_iff.mp ev).1
      have hm : (j, Value.int (Int32.ofInt vx)) ∈ xlv ad ls := xlv_mem.mpr ⟨(0, vx), ev, of_decide_eq_true rfl, rfl⟩
      obtain ⟨i, hi⟩ := List.getElem?_of_mem hm
      refine lv_iinc hx hb hd (xLM_has X.2.1 rfl) hi (v := Int32.ofInt (xw (vx + n))) (by rw [n_w, Int32.ofInt_add]) hj rfl (fun la1 hla => ?_)
      have Z := kk ad H locs cells slots la1 (xW_ls X I' X.2.2.2.2.1 (xLM_st X.2.2.2.1 hj rfl hla) (xst_len _ _ _) (xst_k X.2.2.2.1 (Or.inl (of_decide_eq_true rfl)))) (fun _ _ _ => rfl)
      rw [hp] at Z
      exact Z
    · cases hs
  · cases hs
theorem xLM_stL {ad : Int → Nat} {ls : List xV} {la' : Array Slot} {i : Nat} {v : xV} {w : Value} (hk : ∀ u ∈ ls, u.1 < 4 ∨ u.1 = 9) (hi : i + 1 < ls.length) (hw : w = cV ad v)
    (h : lv_has la' ls.length ((i, w) :: (xlv ad ls).filter (fun q => !(q.1 == i) && (!(q.1 == i + 1) && !(q.1 + 1 == i && q.2.category == 2))))) : xLM ad ((xst ls i v).set (i + 1) (9, 0)) la' := by
  have hlen : ((xst ls i v).set (i + 1) (9, 0)).length = ls.length := by rw [List.length_set, xst_len]
  refine ⟨by rw [h.1, hlen], h.2.1, fun j u hj hu => ?_⟩
  have hjl : j < ls.length := by rw [← hlen]; exact (List.getElem?_eq_some_iff.mp hj).1
  rw [List.getElem?_set] at hj
  by_cases c1 : i + 1 = j
  · rw [if_pos c1, if_pos (by rw [xst_len]; omega)] at hj
    rw [← Option.some.inj hj] at hu; exact absurd rfl hu
  rw [if_neg c1] at hj
  by_cases c : j = i
  · subst c
    have e : u = v := by
      cases j with
      | zero => simp only [xst] at hj; rw [List.getElem?_set] at hj; simp [hjl] at hj; exact hj.symm
      | succ j => simp only [xst] at hj; rw [List.getElem?_set] at hj; simp [hjl] at hj; exact hj.symm
    rw [e, ← hw]
    exact h.2.2 _ List.mem_cons_self
  · have hold : ls[j]? = some u ∧ ¬ (j + 1 = i ∧ u.1 = 3) := by
      cases i with
      | zero =>
        simp only [xst] at hj; rw [List.getElem?_set, if_neg (by omega)] at hj
        exact ⟨hj, by omega⟩
      | succ i =>
        simp only [xst] at hj; rw [List.getElem?_set, if_neg (by omega), List.getElem?_set] at hj
        by_cases d : i = j
        · subst d
          rw [if_pos rfl, if_pos hjl] at hj
          have e : ls[i]? = some (ls.getD i (9, 0)) := by rw [List.getD_eq_getElem?_getD, List.getElem?_eq_getElem hjl]; rfl
          have e2 := Option.some.inj hj
          unfold xkl at e2
          split at e2
          · rw [← e2] at hu; exact absurd rfl hu
          · rename_i n3; rw [← e2]; exact ⟨e, fun q => n3 q.2⟩
        · rw [if_neg d] at hj
          exact ⟨hj, by omega⟩
    refine h.2.2 (j, cV ad u) (List.mem_cons_of_mem _ (List.mem_filter.mpr ⟨xlv_mem.mpr ⟨u, hold.1, hu, rfl⟩, ?_⟩))
    simp only [Bool.and_eq_true, Bool.not_eq_true', beq_eq_false_iff_ne, Bool.and_eq_false_iff]
    refine ⟨c, fun e => c1 e.symm, ?_⟩
    by_cases d : j + 1 = i
    · right
      intro q
      have q2 := cV_cat q
      have := hk u (List.mem_of_getElem? hold.1)
      exact hold.2 ⟨d, by omega⟩
    · left; exact d
theorem xset_k {ls : List xV} {i : Nat} {v : xV} (h : ∀ u ∈ ls, u.1 < 4 ∨ u.1 = 9) (hv : v.1 < 4 ∨ v.1 = 9) : ∀ u ∈ ls.set i v, u.1 < 4 ∨ u.1 = 9 := fun u hu => (List.mem_or_eq_of_mem_set hu).elim (h u) (fun e => e ▸ hv)
theorem sd_lstore_n (j : Fin 4) : Sd (.lstore_n j) := by
  intro len D cy bse b0 L0 xs0 p l e R s m args below meth c Q mm d k c0 u0 ad h ls st H locs cells slots la k' ls' st' h' M X hd hr hn h31 hs hc hu kk
  obtain ⟨hx, hb, hml, ho, hts, hK, hRf, hRl, hin, hEX⟩ := M
  have I' := (stp_ok (xop_ok mm k) X.1 hs).1
  obtain ⟨hop, rfl⟩ := xe_eq (by unfold xrel at hr; exact hr)
  have hc1 : (xcd mm k).1 = 48 := by rw [hop]
  have hp := xnext_pc hn (by rw [hc1]; decide) (by rw [hc1]; decide) (by rw [hc1]; decide) (by rw [hc1]; decide)
  unfold xstp at hs
  simp only [hc1, if_true, if_false, Nat.reduceEqDiff] at hs
  split at hs
  · rename_i v st1
    split at hs
    · rename_i gv
      obtain ⟨gv, hj⟩ := gv
      simp only [Option.some.injEq, Prod.mk.injEq] at hs
      obtain ⟨rfl, rfl, rfl, rfl⟩ := hs
      simp only [hop, Int.toNat_natCast] at gv hj I' kk
      obtain ⟨vk, vx⟩ := v
      have gv : vk = 3 := gv
      subst gv
      simp only [List.map_cons, cV0, cV1, cV2, cV3]
      refine lv_lstore_n hx hb hd rfl (xLM_has X.2.1 rfl) hj rfl (fun la1 hla => ?_)
      have Z := kk ad H locs cells slots la1 (xW_ls X I' (k_t X.2.2.2.2.1) (xLM_stL X.2.2.2.1 hj rfl hla) (by rw [List.length_set, xst_len]) (xset_k (xst_k X.2.2.2.1 (Or.inl (of_decide_eq_true rfl))) (Or.inr rfl))) (fun _ _ _ => rfl)
      rw [hp] at Z
      exact Z
    · cases hs
  · cases hs
theorem sd_lstore (j : Nat) : Sd (.lstore j) := by
  intro len D cy bse b0 L0 xs0 p l e R s m args below meth c Q mm d k c0 u0 ad h ls st H locs cells slots la k' ls' st' h' M X hd hr hn h31 hs hc hu kk
  obtain ⟨hx, hb, hml, ho, hts, hK, hRf, hRl, hin, hEX⟩ := M
  have I' := (stp_ok (xop_ok mm k) X.1 hs).1
  obtain ⟨hop, rfl⟩ := xe_eq (by unfold xrel at hr; exact hr)
  have hc1 : (xcd mm k).1 = 48 := by rw [hop]
  have hp := xnext_pc hn (by rw [hc1]; decide) (by rw [hc1]; decide) (by rw [hc1]; decide) (by rw [hc1]; decide)
  unfold xstp at hs
  simp only [hc1, if_true, if_false, Nat.reduceEqDiff] at hs
  split at hs
  · rename_i v st1
    split at hs
    · rename_i gv
      obtain ⟨gv, hj⟩ := gv
      simp only [Option.some.injEq, Prod.mk.injEq] at hs
      obtain ⟨rfl, rfl, rfl, rfl⟩ := hs
      simp only [hop, Int.toNat_natCast] at gv hj I' kk
      obtain ⟨vk, vx⟩ := v
      have gv : vk = 3 := gv
      subst gv
      simp only [List.map_cons, cV0, cV1, cV2, cV3]
      refine lv_lstore hx hb hd (xLM_has X.2.1 rfl) hj rfl (fun la1 hla => ?_)
      have Z := kk ad H locs cells slots la1 (xW_ls X I' (k_t X.2.2.2.2.1) (xLM_stL X.2.2.2.1 hj rfl hla) (by rw [List.length_set, xst_len]) (xset_k (xst_k X.2.2.2.1 (Or.inl (of_decide_eq_true rfl))) (Or.inr rfl))) (fun _ _ _ => rfl)
      rw [hp] at Z
      exact Z
    · cases hs
  · cases hs
theorem n_eq0 {x : Int} (h : xrg x) : Int32.ofInt x = 0 ↔ x = 0 := n_inj (y := 0) h (by unfold xrg; omega)
theorem n_lt0 {x : Int} (h : xrg x) : Int32.ofInt x < 0 ↔ x < 0 := n_lt (y := 0) h (by unfold xrg; omega)
theorem n_0lt {x : Int} (h : xrg x) : 0 < Int32.ofInt x ↔ 0 < x := n_lt (x := 0) (by unfold xrg; omega) h
theorem n_0le {x : Int} (h : xrg x) : 0 ≤ Int32.ofInt x ↔ 0 ≤ x := n_le (x := 0) (by unfold xrg; omega) h
theorem n_le0 {x : Int} (h : xrg x) : Int32.ofInt x ≤ 0 ↔ x ≤ 0 := n_le (y := 0) h (by unfold xrg; omega)
theorem sd_if_eq (off : Int) : Sd (.ifCond .eq off) := by
  intro len D cy bse b0 L0 xs0 p l e R s m args below meth c Q mm d k c0 u0 ad h ls st H locs cells slots la k' ls' st' h' M X hd hr hn h31 hs hc hu kk
  obtain ⟨hx, hb, hml, ho, hts, hK, hRf, hRl, hin, hEX⟩ := M
  have I' := (stp_ok (xop_ok mm k) X.1 hs).1
  obtain ⟨hr, hq⟩ := (by unfold xrel at hr; exact Bool.and_eq_true_iff.mp hr : xe _ _ _ _ _ _ _ = true ∧ _)
  obtain ⟨hop, rfl⟩ := xe_eq hr
  have hc1 : (xcd mm k).1 = 130 := by have z := congrArg Prod.fst hop; exact z
  unfold xstp at hs
  simp only [hc1, if_true, if_false, Nat.reduceEqDiff] at hs
  split at hs
  · rename_i x st1
    simp only [Option.some.injEq, Prod.mk.injEq] at hs
    obtain ⟨rfl, rfl, rfl, rfl⟩ := hs
    have hrx := (ok_h X.1.2.2).1 rfl
    have Z := kk ad H locs cells slots la (xW_st X I' (k_t X.2.2.2.2.1)) (fun _ _ _ => rfl)
    simp only [List.map_cons, cV0]
    refine lv_if_eq hx hb hd (xjmp_pc hq) (fun q => ?_) (fun q => ?_)
    · have q : x = 0 := (n_eq0 hrx).mp q
      simp only [q, if_true] at Z
      exact Z
    · have q : ¬ x = 0 := fun z => q ((n_eq0 hrx).mpr z)
      have hp := xnext_pc hn (by rw [hc1]; decide) (by rw [hc1]; decide) (by rw [hc1]; decide) (by rw [hc1]; decide)
      simp only [q, if_false] at Z
      rw [hp] at Z
      exact Z
  · cases hs
theorem sd_if_ne (off : Int) : Sd (.ifCond .ne off) := by
  intro len D cy bse b0 L0 xs0 p l e R s m args below meth c Q mm d k c0 u0 ad h ls st H locs cells slots la k' ls' st' h' M X hd hr hn h31 hs hc hu kk
  obtain ⟨hx, hb, hml, ho, hts, hK, hRf, hRl, hin, hEX⟩ := M
  have I' := (stp_ok (xop_ok mm k) X.1 hs).1
  obtain ⟨hr, hq⟩ := (by unfold xrel at hr; exact Bool.and_eq_true_iff.mp hr : xe _ _ _ _ _ _ _ = true ∧ _)
  obtain ⟨hop, rfl⟩ := xe_eq hr
  have hc1 : (xcd mm k).1 = 131 := by have z := congrArg Prod.fst hop; exact z
  unfold xstp at hs
  simp only [hc1, if_true, if_false, Nat.reduceEqDiff] at hs
  split at hs
  · rename_i x st1
    simp only [Option.some.injEq, Prod.mk.injEq] at hs
    obtain ⟨rfl, rfl, rfl, rfl⟩ := hs
    have hrx := (ok_h X.1.2.2).1 rfl
    have Z := kk ad H locs cells slots la (xW_st X I' (k_t X.2.2.2.2.1)) (fun _ _ _ => rfl)
    simp only [List.map_cons, cV0]
    refine lv_if_ne hx hb hd (xjmp_pc hq) (fun q => ?_) (fun q => ?_)
    · have q : ¬ x = 0 := fun z => q ((n_eq0 hrx).mpr z)
      simp only [q, if_false] at Z
      exact Z
    · have q : x = 0 := (n_eq0 hrx).mp q
      have hp := xnext_pc hn (by rw [hc1]; decide) (by rw [hc1]; decide) (by rw [hc1]; decide) (by rw [hc1]; decide)
      simp only [q, if_true] at Z
      rw [hp] at Z
      exact Z
  · cases hs
theorem sd_if_lt (off : Int) : Sd (.ifCond .lt off) := by
  intro len D cy bse b0 L0 xs0 p l e R s m args below meth c Q mm d k c0 u0 ad h ls st H locs cells slots la k' ls' st' h' M X hd hr hn h31 hs hc hu kk
  obtain ⟨hx, hb, hml, ho, hts, hK, hRf, hRl, hin, hEX⟩ := M
  have I' := (stp_ok (xop_ok mm k) X.1 hs).1
  obtain ⟨hr, hq⟩ := (by unfold xrel at hr; exact Bool.and_eq_true_iff.mp hr : xe _ _ _ _ _ _ _ = true ∧ _)
  obtain ⟨hop, rfl⟩ := xe_eq hr
  have hc1 : (xcd mm k).1 = 132 := by have z := congrArg Prod.fst hop; exact z
  unfold xstp at hs
  simp only [hc1, if_true, if_false, Nat.reduceEqDiff] at hs
  split at hs
  · rename_i x st1
    simp only [Option.some.injEq, Prod.mk.injEq] at hs
    obtain ⟨rfl, rfl, rfl, rfl⟩ := hs
    have hrx := (ok_h X.1.2.2).1 rfl
    have Z := kk ad H locs cells slots la (xW_st X I' (k_t X.2.2.2.2.1)) (fun _ _ _ => rfl)
    simp only [List.map_cons, cV0]
    refine lv_if_lt hx hb hd (xjmp_pc hq) (fun q => ?_) (fun q => ?_)
    · have q : x < 0 := (n_lt0 hrx).mp q
      simp only [q, if_true] at Z
      exact Z
    · have q : ¬ x < 0 := fun z => q ((n_lt0 hrx).mpr z)
      have hp := xnext_pc hn (by rw [hc1]; decide) (by rw [hc1]; decide) (by rw [hc1]; decide) (by rw [hc1]; decide)
      simp only [q, if_false] at Z
      rw [hp] at Z
      exact Z
  · cases hs
theorem sd_if_ge (off : Int) : Sd (.ifCond .ge off) := by
  intro len D cy bse b0 L0 xs0 p l e R s m args below meth c Q mm d k c0 u0 ad h ls st H locs cells slots la k' ls' st' h' M X hd hr hn h31 hs hc hu kk
  obtain ⟨hx, hb, hml, ho, hts, hK, hRf, hRl, hin, hEX⟩ := M
  have I' := (stp_ok (xop_ok mm k) X.1 hs).1
  obtain ⟨hr, hq⟩ := (by unfold xrel at hr; exact Bool.and_eq_true_iff.mp hr : xe _ _ _ _ _ _ _ = true ∧ _)
  obtain ⟨hop, rfl⟩ := xe_eq hr
  have hc1 : (xcd mm k).1 = 133 := by have z := congrArg Prod.fst hop; exact z
  unfold xstp at hs
  simp only [hc1, if_true, if_false, Nat.reduceEqDiff] at hs
  split at hs
  · rename_i x st1
    simp only [Option.some.injEq, Prod.mk.injEq] at hs
    obtain ⟨rfl, rfl, rfl, rfl⟩ := hs
    have hrx := (ok_h X.1.2.2).1 rfl
    have Z := kk ad H locs cells slots la (xW_st X I' (k_t X.2.2.2.2.1)) (fun _ _ _ => rfl)
    simp only [List.map_cons, cV0]
    refine lv_if_ge hx hb hd (xjmp_pc hq) (fun q => ?_) (fun q => ?_)
    · have q : ¬ x < 0 := Int.not_lt.mpr ((n_0le hrx).mp q)
      simp only [q, if_false] at Z
      exact Z
    · have q : x < 0 := Int.not_le.mp (fun z => q ((n_0le hrx).mpr z))
      have hp := xnext_pc hn (by rw [hc1]; decide) (by rw [hc1]; decide) (by rw [hc1]; decide) (by rw [hc1]; decide)
      simp only [q, if_true] at Z
      rw [hp] at Z
      exact Z
  · cases hs
theorem sd_if_gt (off : Int) : Sd (.ifCond .gt off) := by
  intro len D cy bse b0 L0 xs0 p l e R s m args below meth c Q mm d k c0 u0 ad h ls st H locs cells slots la k' ls' st' h' M X hd hr hn h31 hs hc hu kk
  obtain ⟨hx, hb, hml, ho, hts, hK, hRf, hRl, hin, hEX⟩ := M
  have I' := (stp_ok (xop_ok mm k) X.1 hs).1
  obtain ⟨hr, hq⟩ := (by unfold xrel at hr; exact Bool.and_eq_true_iff.mp hr : xe _ _ _ _ _ _ _ = true ∧ _)
  obtain ⟨hop, rfl⟩ := xe_eq hr
  have hc1 : (xcd mm k).1 = 134 := by have z := congrArg Prod.fst hop; exact z
  unfold xstp at hs
  simp only [hc1, if_true, if_false, Nat.reduceEqDiff] at hs
  split at hs
  · rename_i x st1
    simp only [Option.some.injEq, Prod.mk.injEq] at hs
    obtain ⟨rfl, rfl, rfl, rfl⟩ := hs
    have hrx := (ok_h X.1.2.2).1 rfl
    have Z := kk ad H locs cells slots la (xW_st X I' (k_t X.2.2.2.2.1)) (fun _ _ _ => rfl)
    simp only [List.map_cons, cV0]
    refine lv_if_gt hx hb hd (xjmp_pc hq) (fun q => ?_) (fun q => ?_)
    · have q : 0 < x := (n_0lt hrx).mp q
      simp only [q, if_true] at Z
      exact Z
    · have q : ¬ 0 < x := fun z => q ((n_0lt hrx).mpr z)
      have hp := xnext_pc hn (by rw [hc1]; decide) (by rw [hc1]; decide) (by rw [hc1]; decide) (by rw [hc1]; decide)
      simp only [q, if_false] at Z
      rw [hp] at Z
      exact Z
  · cases hs
theorem sd_if_le (off : Int) : Sd (.ifCond .le off) := by
  intro len D cy bse b0 L0 xs0 p l e R s m args below meth c Q mm d k c0 u0 ad h ls st H locs cells slots la k' ls' st' h' M X hd hr hn h31 hs hc hu kk
  obtain ⟨hx, hb, hml, ho, hts, hK, hRf, hRl, hin, hEX⟩ := M
  have I' := (stp_ok (xop_ok mm k) X.1 hs).1
  obtain ⟨hr, hq⟩ := (by unfold xrel at hr; exact Bool.and_eq_true_iff.mp hr : xe _ _ _ _ _ _ _ = true ∧ _)
  obtain ⟨hop, rfl⟩ := xe_eq hr
  have hc1 : (xcd mm k).1 = 135 := by have z := congrArg Prod.fst hop; exact z
  unfold xstp at hs
  simp only [hc1, if_true, if_false, Nat.reduceEqDiff] at hs
  split at hs
  · rename_i x st1
    simp only [Option.some.injEq, Prod.mk.injEq] at hs
    obtain ⟨rfl, rfl, rfl, rfl⟩ := hs
    have hrx := (ok_h X.1.2.2).1 rfl
    have Z := kk ad H locs cells slots la (xW_st X I' (k_t X.2.2.2.2.1)) (fun _ _ _ => rfl)
    simp only [List.map_cons, cV0]
    refine lv_if_le hx hb hd (xjmp_pc hq) (fun q => ?_) (fun q => ?_)
    · have q : ¬ 0 < x := Int.not_lt.mpr ((n_le0 hrx).mp q)
      simp only [q, if_false] at Z
      exact Z
    · have q : 0 < x := Int.not_le.mp (fun z => q ((n_le0 hrx).mpr z))
      have hp := xnext_pc hn (by rw [hc1]; decide) (by rw [hc1]; decide) (by rw [hc1]; decide) (by rw [hc1]; decide)
      simp only [q, if_true] at Z
      rw [hp] at Z
      exact Z
  · cases hs
theorem sd_icmp_eq (off : Int) : Sd (.if_icmp .eq off) := by
  intro len D cy bse b0 L0 xs0 p l e R s m args below meth c Q mm d k c0 u0 ad h ls st H locs cells slots la k' ls' st' h' M X hd hr hn h31 hs hc hu kk
  obtain ⟨hx, hb, hml, ho, hts, hK, hRf, hRl, hin, hEX⟩ := M
  have I' := (stp_ok (xop_ok mm k) X.1 hs).1
  obtain ⟨hr, hq⟩ := (by unfold xrel at hr; exact Bool.and_eq_true_iff.mp hr : xe _ _ _ _ _ _ _ = true ∧ _)
  obtain ⟨hop, rfl⟩ := xe_eq hr
  have hc1 : (xcd mm k).1 = 140 := by have z := congrArg Prod.fst hop; exact z
  unfold xstp at hs
  simp only [hc1, if_true, if_false, Nat.reduceEqDiff] at hs
  split at hs
  · rename_i y x st1
    simp only [Option.some.injEq, Prod.mk.injEq] at hs
    obtain ⟨rfl, rfl, rfl, rfl⟩ := hs
    have hrx := (ok_h (ok_t X.1.2.2)).1 rfl
    have hry := (ok_h X.1.2.2).1 rfl
    have Z := kk ad H locs cells slots la (xW_st X I' (k_t (k_t X.2.2.2.2.1))) (fun _ _ _ => rfl)
    simp only [List.map_cons, cV0]
    refine lv_icmp_eq hx hb hd (xjmp_pc hq) (fun q => ?_) (fun q => ?_)
    · have q : x = y := (n_inj hrx hry).mp q
      simp only [q, if_true] at Z
      exact Z
    · have q : ¬ x = y := fun z => q ((n_inj hrx hry).mpr z)
      have hp := xnext_pc hn (by rw [hc1]; decide) (by rw [hc1]; decide) (by rw [hc1]; decide) (by rw [hc1]; decide)
      simp only [q, if_false] at Z
      rw [hp] at Z
      exact Z
  · cases hs
theorem sd_icmp_ne (off : Int) : Sd (.if_icmp .ne off) := by
  intro len D cy bse b0 L0 xs0 p l e R s m args below meth c Q mm d k c0 u0 ad h ls st H locs cells slots la k' ls' st' h' M X hd hr hn h31 hs hc hu kk
  obtain ⟨hx, hb, hml, ho, hts, hK, hRf, hRl, hin, hEX⟩ := M
  have I' := (stp_ok (xop_ok mm k) X.1 hs).1
  obtain ⟨hr, hq⟩ := (by unfold xrel at hr; exact Bool.and_eq_true_iff.mp hr : xe _ _ _ _ _ _ _ = true ∧ _)
  obtain ⟨hop, rfl⟩ := xe_eq hr
  have hc1 : (xcd mm k).1 = 141 := by have z := congrArg Prod.fst hop; exact z
  unfold xstp at hs
  simp only [hc1, if_true, if_false, Nat.reduceEqDiff] at hs
  split at hs
  · rename_i y x st1
    simp only [Option.some.injEq, Prod.mk.injEq] at hs
    obtain ⟨rfl, rfl, rfl, rfl⟩ := hs
    have hrx := (ok_h (ok_t X.1.2.2)).1 rfl
    have hry := (ok_h X.1.2.2).1 rfl
    have Z := kk ad H locs cells slots la (xW_st X I' (k_t (k_t X.2.2.2.2.1))) (fun _ _ _ => rfl)
    simp only [List.map_cons, cV0]
    refine lv_icmp_ne hx hb hd (xjmp_pc hq) (fun q => ?_) (fun q => ?_)
    · have q : ¬ x = y := fun z => q ((n_inj hrx hry).mpr z)
      simp only [q, if_false] at Z
      exact Z
    · have q : x = y := (n_inj hrx hry).mp q
      have hp := xnext_pc hn (by rw [hc1]; decide) (by rw [hc1]; decide) (by rw [hc1]; decide) (by rw [hc1]; decide)
      simp only [q, if_true] at Z
      rw [hp] at Z
      exact Z
  · cases hs
theorem sd_icmp_lt (off : Int) : Sd (.if_icmp .lt off) := by
  intro len D cy bse b0 L0 xs0 p l e R s m args below meth c Q mm d k c0 u0 ad h ls st H locs cells slots la k' ls' st' h' M X hd hr hn h31 hs hc hu kk
  obtain ⟨hx, hb, hml, ho, hts, hK, hRf, hRl, hin, hEX⟩ := M
  have I' := (stp_ok (xop_ok mm k) X.1 hs).1
  obtain ⟨hr, hq⟩ := (by unfold xrel at hr; exact Bool.and_eq_true_iff.mp hr : xe _ _ _ _ _ _ _ = true ∧ _)
  obtain ⟨hop, rfl⟩ := xe_eq hr
  have hc1 : (xcd mm k).1 = 142 := by have z := congrArg Prod.fst hop; exact z
  unfold xstp at hs
  simp only [hc1, if_true, if_false, Nat.reduceEqDiff] at hs
  split at hs
  · rename_i y x st1
    simp only [Option.some.injEq, Prod.mk.injEq] at hs
    obtain ⟨rfl, rfl, rfl, rfl⟩ := hs
    have hrx := (ok_h (ok_t X.1.2.2)).1 rfl
    have hry := (ok_h X.1.2.2).1 rfl
    have Z := kk ad H locs cells slots la (xW_st X I' (k_t (k_t X.2.2.2.2.1))) (fun _ _ _ => rfl)
    simp only [List.map_cons, cV0]
    refine lv_icmp_lt hx hb hd (xjmp_pc hq) (fun q => ?_) (fun q => ?_)
    · have q : x < y := (n_lt hrx hry).mp q
      simp only [q, if_true] at Z
      exact Z
    · have q : ¬ x < y := fun z => q ((n_lt hrx hry).mpr z)
      have hp := xnext_pc hn (by rw [hc1]; decide) (by rw [hc1]; decide) (by rw [hc1]; decide) (by rw [hc1]; decide)
      simp only [q, if_false] at Z
      rw [hp] at Z
      exact Z
  · cases hs
theorem sd_icmp_ge (off : Int) : Sd (.if_icmp .ge off) := by
  intro len D cy bse b0 L0 xs0 p l e R s m args below meth c Q mm d k c0 u0 ad h ls st H locs cells slots la k' ls' st' h' M X hd hr hn h31 hs hc hu kk
  obtain ⟨hx, hb, hml, ho, hts, hK, hRf, hRl, hin, hEX⟩ := M
  have I' := (stp_ok (xop_ok mm k) X.1 hs).1
  obtain ⟨hr, hq⟩ := (by unfold xrel at hr; exact Bool.and_eq_true_iff.mp hr : xe _ _ _ _ _ _ _ = true ∧ _)
  obtain ⟨hop, rfl⟩ := xe_eq hr
  have hc1 : (xcd mm k).1 = 143 := by have z := congrArg Prod.fst hop; exact z
  unfold xstp at hs
  simp only [hc1, if_true, if_false, Nat.reduceEqDiff] at hs
  split at hs
  · rename_i y x st1
    simp only [Option.some.injEq, Prod.mk.injEq] at hs
    obtain ⟨rfl, rfl, rfl, rfl⟩ := hs
    have hrx := (ok_h (ok_t X.1.2.2)).1 rfl
    have hry := (ok_h X.1.2.2).1 rfl
    have Z := kk ad H locs cells slots la (xW_st X I' (k_t (k_t X.2.2.2.2.1))) (fun _ _ _ => rfl)
    simp only [List.map_cons, cV0]
    refine lv_icmp_ge hx hb hd (xjmp_pc hq) (fun q => ?_) (fun q => ?_)
    · have q : ¬ x < y := Int.not_lt.mpr ((n_le hry hrx).mp q)
      simp only [q, if_false] at Z
      exact Z
    · have q : x < y := Int.not_le.mp (fun z => q ((n_le hry hrx).mpr z))
      have hp := xnext_pc hn (by rw [hc1]; decide) (by rw [hc1]; decide) (by rw [hc1]; decide) (by rw [hc1]; decide)
      simp only [q, if_true] at Z
      rw [hp] at Z
      exact Z
  · cases hs
theorem sd_icmp_gt (off : Int) : Sd (.if_icmp .gt off) := by
  intro len D cy bse b0 L0 xs0 p l e R s m args below meth c Q mm d k c0 u0 ad h ls st H locs cells slots la k' ls' st' h' M X hd hr hn h31 hs hc hu kk
  obtain ⟨hx, hb, hml, ho, hts, hK, hRf, hRl, hin, hEX⟩ := M
  have I' := (stp_ok (xop_ok mm k) X.1 hs).1
  obtain ⟨hr, hq⟩ := (by unfold xrel at hr; exact Bool.and_eq_true_iff.mp hr : xe _ _ _ _ _ _ _ = true ∧ _)
  obtain ⟨hop, rfl⟩ := xe_eq hr
  have hc1 : (xcd mm k).1 = 144 := by have z := congrArg Prod.fst hop; exact z
  unfold xstp at hs
  simp only [hc1, if_true, if_false, Nat.reduceEqDiff] at hs
  split at hs
  · rename_i y x st1
    simp only [Option.some.injEq, Prod.mk.injEq] at hs
    obtain ⟨rfl, rfl, rfl, rfl⟩ := hs
    have hrx := (ok_h (ok_t X.1.2.2)).1 rfl
    have hry := (ok_h X.1.2.2).1 rfl
    have Z := kk ad H locs cells slots la (xW_st X I' (k_t (k_t X.2.2.2.2.1))) (fun _ _ _ => rfl)
    simp only [List.map_cons, cV0]
    refine lv_icmp_gt hx hb hd (xjmp_pc hq) (fun q => ?_) (fun q => ?_)
    · have q : y < x := (n_lt hry hrx).mp q
      simp only [q, if_true] at Z
      exact Z
    · have q : ¬ y < x := fun z => q ((n_lt hry hrx).mpr z)
      have hp := xnext_pc hn (by rw [hc1]; decide) (by rw [hc1]; decide) (by rw [hc1]; decide) (by rw [hc1]; decide)
      simp only [q, if_false] at Z
      rw [hp] at Z
      exact Z
  · cases hs
theorem sd_icmp_le (off : Int) : Sd (.if_icmp .le off) := by
  intro len D cy bse b0 L0 xs0 p l e R s m args below meth c Q mm d k c0 u0 ad h ls st H locs cells slots la k' ls' st' h' M X hd hr hn h31 hs hc hu kk
  obtain ⟨hx, hb, hml, ho, hts, hK, hRf, hRl, hin, hEX⟩ := M
  have I' := (stp_ok (xop_ok mm k) X.1 hs).1
  obtain ⟨hr, hq⟩ := (by unfold xrel at hr; exact Bool.and_eq_true_iff.mp hr : xe _ _ _ _ _ _ _ = true ∧ _)
  obtain ⟨hop, rfl⟩ := xe_eq hr
  have hc1 : (xcd mm k).1 = 145 := by have z := congrArg Prod.fst hop; exact z
  unfold xstp at hs
  simp only [hc1, if_true, if_false, Nat.reduceEqDiff] at hs
  split at hs
  · rename_i y x st1
    simp only [Option.some.injEq, Prod.mk.injEq] at hs
    obtain ⟨rfl, rfl, rfl, rfl⟩ := hs
    have hrx := (ok_h (ok_t X.1.2.2)).1 rfl
    have hry := (ok_h X.1.2.2).1 rfl
    have Z := kk ad H locs cells slots la (xW_st X I' (k_t (k_t X.2.2.2.2.1))) (fun _ _ _ => rfl)
    simp only [List.map_cons, cV0]
    refine lv_icmp_le hx hb hd (xjmp_pc hq) (fun q => ?_) (fun q => ?_)
    · have q : ¬ y < x := Int.not_lt.mpr ((n_le hrx hry).mp q)
      simp only [q, if_false] at Z
      exact Z
    · have q : y < x := Int.not_le.mp (fun z => q ((n_le hrx hry).mpr z))
      have hp := xnext_pc hn (by rw [hc1]; decide) (by rw [hc1]; decide) (by rw [hc1]; decide) (by rw [hc1]; decide)
      simp only [q, if_true] at Z
      rw [hp] at Z
      exact Z
  · cases hs
theorem sd_goto (off : Int) : Sd (.goto off) := by
  intro len D cy bse b0 L0 xs0 p l e R s m args below meth c Q mm d k c0 u0 ad h ls st H locs cells slots la k' ls' st' h' M X hd hr hn h31 hs hc hu kk
  obtain ⟨hx, hb, hml, ho, hts, hK, hRf, hRl, hin, hEX⟩ := M
  have I' := (stp_ok (xop_ok mm k) X.1 hs).1
  obtain ⟨hr, hq⟩ := (by unfold xrel at hr; exact Bool.and_eq_true_iff.mp hr : xe _ _ _ _ _ _ _ = true ∧ _)
  obtain ⟨hop, rfl⟩ := xe_eq hr
  have hc1 : (xcd mm k).1 = 15 := by have z := congrArg Prod.fst hop; exact z
  unfold xstp at hs
  simp only [hc1, if_true, if_false, Nat.reduceEqDiff] at hs
  simp only [Option.some.injEq, Prod.mk.injEq] at hs
  obtain ⟨rfl, rfl, rfl, rfl⟩ := hs
  have Z := kk ad H locs cells slots la (xW_st X I' (X.2.2.2.2.1)) (fun _ _ _ => rfl)
  exact lv_goto hx hb hd (xjmp_pc hq) Z
theorem sd_ifnull (off : Int) : Sd (.ifnull off) := by
  intro len D cy bse b0 L0 xs0 p l e R s m args below meth c Q mm d k c0 u0 ad h ls st H locs cells slots la k' ls' st' h' M X hd hr hn h31 hs hc hu kk
  obtain ⟨hx, hb, hml, ho, hts, hK, hRf, hRl, hin, hEX⟩ := M
  have I' := (stp_ok (xop_ok mm k) X.1 hs).1
  obtain ⟨hr, hq⟩ := (by unfold xrel at hr; exact Bool.and_eq_true_iff.mp hr : xe _ _ _ _ _ _ _ = true ∧ _)
  obtain ⟨hop, rfl⟩ := xe_eq hr
  have hc1 : (xcd mm k).1 = 17 := by have z := congrArg Prod.fst hop; exact z
  unfold xstp at hs
  simp only [hc1, if_true, if_false, Nat.reduceEqDiff] at hs
  split at hs
  · rename_i x st1
    simp only [Option.some.injEq, Prod.mk.injEq] at hs
    obtain ⟨rfl, rfl, rfl, rfl⟩ := hs
    have hp := xnext_pc hn (by rw [hc1]; decide) (by rw [hc1]; decide) (by rw [hc1]; decide) (by rw [hc1]; decide)
    have Z := kk ad H locs cells slots la (xW_st X I' (k_t X.2.2.2.2.1)) (fun _ _ _ => rfl)
    simp only [List.map_cons, cV1]
    by_cases q : x = 0
    · simp only [q, if_true] at Z
      rw [q, cR0]
      exact lv_ifnullN hx hb hd (xjmp_pc hq) Z
    · simp only [q, if_false, hp] at Z
      rw [cRn q]
      exact lv_ifnull hx hb hd Z
  · cases hs
theorem sd_ifnonnull (off : Int) : Sd (.ifnonnull off) := by
  intro len D cy bse b0 L0 xs0 p l e R s m args below meth c Q mm d k c0 u0 ad h ls st H locs cells slots la k' ls' st' h' M X hd hr hn h31 hs hc hu kk
  obtain ⟨hx, hb, hml, ho, hts, hK, hRf, hRl, hin, hEX⟩ := M
  have I' := (stp_ok (xop_ok mm k) X.1 hs).1
  obtain ⟨hr, hq⟩ := (by unfold xrel at hr; exact Bool.and_eq_true_iff.mp hr : xe _ _ _ _ _ _ _ = true ∧ _)
  obtain ⟨hop, rfl⟩ := xe_eq hr
  have hc1 : (xcd mm k).1 = 18 := by have z := congrArg Prod.fst hop; exact z
  unfold xstp at hs
  simp only [hc1, if_true, if_false, Nat.reduceEqDiff] at hs
  split at hs
  · rename_i x st1
    simp only [Option.some.injEq, Prod.mk.injEq] at hs
    obtain ⟨rfl, rfl, rfl, rfl⟩ := hs
    have hp := xnext_pc hn (by rw [hc1]; decide) (by rw [hc1]; decide) (by rw [hc1]; decide) (by rw [hc1]; decide)
    have Z := kk ad H locs cells slots la (xW_st X I' (k_t X.2.2.2.2.1)) (fun _ _ _ => rfl)
    simp only [List.map_cons, cV1]
    by_cases q : x = 0
    · simp only [q, if_true, hp] at Z
      rw [q, cR0]
      exact lv_ifnonnullN hx hb hd Z
    · simp only [q, if_false] at Z
      rw [cRn q]
      exact lv_ifnonnull hx hb hd (xjmp_pc hq) Z
  · cases hs
theorem sd_aconst_null : Sd .aconst_null := by
  intro len D cy bse b0 L0 xs0 p l e R s m args below meth c Q mm d k c0 u0 ad h ls st H locs cells slots la k' ls' st' h' M X hd hr hn h31 hs hc hu kk
  obtain ⟨hx, hb, hml, ho, hts, hK, hRf, hRl, hin, hEX⟩ := M
  have I' := (stp_ok (xop_ok mm k) X.1 hs).1
  obtain ⟨hop, rfl⟩ := xe_eq (by unfold xrel at hr; exact hr)
  have hc1 : (xcd mm k).1 = 19 := by rw [hop]
  have hp := xnext_pc hn (by rw [hc1]; decide) (by rw [hc1]; decide) (by rw [hc1]; decide) (by rw [hc1]; decide)
  unfold xstp at hs
  simp only [hc1, if_true, if_false, Nat.reduceEqDiff] at hs
  simp only [Option.some.injEq, Prod.mk.injEq] at hs
  obtain ⟨rfl, rfl, rfl, rfl⟩ := hs
  have Z := kk ad H locs cells slots la (xW_st X I' (k_c (of_decide_eq_true rfl) X.2.2.2.2.1)) (fun _ _ _ => rfl)
  simp only [List.map_cons, cV0, cV1, cV2, cV3, hp, cR0] at Z
  exact lv_null hx hb hd Z
