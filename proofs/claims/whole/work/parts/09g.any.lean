/-! any instruction; whole runs; the contracts of all methods at once -/
theorem sd_none {ins : Instr} (hno : ∀ (o mm : Nat) (pcs : List Nat) (k len : Nat) (q : xOp), xrel o mm pcs k ins len q = false) : Sd ins := by
  intro len D cy bse b0 L0 xs0 p l e R s m args below meth c Q mm d k c0 u0 ad h ls st H locs cells slots la k' ls' st' h' M X hd hr hn h31 hs hc hu kk
  rw [hno] at hr; exact absurd hr Bool.false_ne_true
theorem sd_ret {ins : Instr} (n : Nat) (hn : n = 32 ∨ n = 33) (h : ∀ (o mm : Nat) (pcs : List Nat) (k len : Nat) (q : xOp), xrel o mm pcs k ins len q = true → q.1 = n) : Sd ins := by
  intro len D cy bse b0 L0 xs0 p l e R s m args below meth c Q mm d k c0 u0 ad h2 ls st H locs cells slots la k' ls' st' h' M X hd hr hn2 h31 hs hc hu kk
  have h1 := h _ _ _ _ _ _ hr
  exfalso
  unfold xstp at hs
  rcases hn with e | e <;> (rw [e] at h1; simp [h1] at hs)
set_option maxRecDepth 20000 in
theorem sd_any (ins : Instr) : Sd ins := by
  cases ins with
  | iadd => exact sd_iadd
  | isub => exact sd_isub
  | imul => exact sd_imul
  | iand => exact sd_iand
  | ior => exact sd_ior
  | ixor => exact sd_ixor
  | ishl => exact sd_ishl
  | ishr => exact sd_ishr
  | iushr => exact sd_iushr
  | idiv => exact sd_idiv
  | irem => exact sd_irem
  | aconst_null => exact sd_aconst_null
  | i2b => exact sd_i2b
  | i2l => exact sd_i2l
  | l2i => exact sd_l2i
  | i2f => exact sd_i2f
  | f2i => exact sd_f2i
  | ladd => exact sd_ladd
  | lmul => exact sd_lmul
  | lcmp => exact sd_lcmp
  | ldiv => exact sd_ldiv
  | lrem => exact sd_lrem
  | fmul => exact sd_fmul
  | fdiv => exact sd_fdiv
  | dup => exact sd_dup
  | dup2 => exact sd_dup2
  | dup_x1 => exact sd_dup_x1
  | pop => exact sd_pop
  | iaload => exact sd_iaload
  | baload => exact sd_baload
  | aaload => exact sd_aaload
  | iastore => exact sd_iastore
  | bastore => exact sd_bastore
  | aastore => exact sd_aastore
  | arraylength => exact sd_arraylength
  | iconst i => exact sd_iconst i
  | bipush i => exact sd_bipush i
  | sipush i => exact sd_sipush i
  | ldc i => exact sd_ldc i
  | ldc_w i => exact sd_ldc_w i
  | ldc2_w i => exact sd_ldc2_w i
  | iload_n i => exact sd_iload_n i
  | iload i => exact sd_iload i
  | aload_n i => exact sd_aload_n i
  | aload i => exact sd_aload i
  | fload i => exact sd_fload i
  | lload_n i => exact sd_lload_n i
  | lload i => exact sd_lload i
  | istore_n i => exact sd_istore_n i
  | istore i => exact sd_istore i
  | astore_n i => exact sd_astore_n i
  | astore i => exact sd_astore i
  | fstore i => exact sd_fstore i
  | lstore_n i => exact sd_lstore_n i
  | lstore i => exact sd_lstore i
  | goto i => exact sd_goto i
  | ifnull i => exact sd_ifnull i
  | ifnonnull i => exact sd_ifnonnull i
  | getfield i => exact sd_getfield i
  | putfield i => exact sd_putfield i
  | anewarray i => exact sd_anewarray i
  | new i => exact sd_new i
  | invokespecial i => exact sd_invokespecial i
  | invokestatic i => exact sd_invokestatic i
  | invokevirtual i => exact sd_invokevirtual i
  | checkcast i => exact sd_checkcast i
  | iinc i j => exact sd_iinc i j
  | tableswitch a b c d => exact sd_tableswitch a b c d
  | ifCond c off => cases c with
    | eq => exact sd_if_eq off
    | ne => exact sd_if_ne off
    | lt => exact sd_if_lt off
    | ge => exact sd_if_ge off
    | gt => exact sd_if_gt off
    | le => exact sd_if_le off
  | if_icmp c off => cases c with
    | eq => exact sd_icmp_eq off
    | ne => exact sd_icmp_ne off
    | lt => exact sd_icmp_lt off
    | ge => exact sd_icmp_ge off
    | gt => exact sd_icmp_gt off
    | le => exact sd_icmp_le off
  | newarray ty => cases ty with
    | int => exact sd_newarray_int
    | byte => exact sd_newarray_byte
    | boolean => exact sd_newarray_boolean
    | _ => exact sd_none (fun _ _ _ _ _ _ => rfl)
  | return_ => exact sd_ret 32 (Or.inl rfl) (fun o mm pcs k len q h => by unfold xrel at h; rw [(xe_eq ((Bool.and_eq_true _ _).mp h).1).1])
  | ireturn => exact sd_ret 33 (Or.inr rfl) (fun o mm pcs k len q h => by
      unfold xrel at h
      rcases (Bool.or_eq_true _ _).mp h with h | h
      · rw [(xe_eq ((Bool.and_eq_true _ _).mp h).1).1]
      · rw [(xe_eq ((Bool.and_eq_true _ _).mp h).1).1])
  | areturn => exact sd_ret 33 (Or.inr rfl) (fun o mm pcs k len q h => by unfold xrel at h; rw [(xe_eq ((Bool.and_eq_true _ _).mp h).1).1])
  | lreturn => exact sd_ret 33 (Or.inr rfl) (fun o mm pcs k len q h => by unfold xrel at h; rw [(xe_eq ((Bool.and_eq_true _ _).mp h).1).1])
  | _ => exact sd_none (fun _ _ _ _ _ _ => rfl)

def xCK : Prop := ∀ mm k, (xcd mm k).1 ≠ 0 → ∃ (ins : Instr) (len : Nat), decode (xby mm) (xpc mm k) = .ok (ins, len) ∧ xrel (xoo mm) mm (xpT.getD mm []) k ins len (xcd mm k) = true ∧ xnext (xpT.getD mm []) k len (xcd mm k) = true
/-- how a method ends, at its op k -/
def xEnd (mm k : Nat) (v : xV) : Prop :=
  (v = (9, 0) ∧ decode (xby mm) (xpc mm k) = .ok (.return_, 1) ∧ xret mm = none) ∨
  (v.1 = 0 ∧ decode (xby mm) (xpc mm k) = .ok (.ireturn, 1) ∧ (xret mm = some .int ∨ (xret mm = some .boolean ∧ (v.2 = 0 ∨ v.2 = 1)))) ∨
  (v.1 = 1 ∧ decode (xby mm) (xpc mm k) = .ok (.areturn, 1) ∧ xrefty (xret mm) = true) ∨
  (v.1 = 3 ∧ decode (xby mm) (xpc mm k) = .ok (.lreturn, 1) ∧ xret mm = some .long)
def xrv (ad : Int → Nat) (v : xV) : Option Value := if v.1 = 9 then none else some (cV ad v)
def SND (n : Nat) : Prop := ∀ (D : va_G) (cy : Int → ClassId) (bse b0 L0 : Nat) (xs0 : Nat → Int32) (p : Program) (l : Launch) (e : Env) (R : Room) (s : State) (m : MethodId) (args : Array Value) (below : List Frame) (meth : Method) (c : Code) (Q : State → Prop) (mm d k : Nat) (c0 u0 : Int) (ad : Int → Nat) (h : xH) (ls st : List xV) (H : Heap) (locs : List Loc) (cells slots : Nat) (la : Array Slot) (v : xV) (h' : xH),
  xrun xsw xcd xmi n d mm k ls st h = some (v, h') →
  xM D cy p R s m args meth c mm d → xW D cy bse b0 L0 xs0 s mm c0 u0 ad h ls st H locs cells slots la → c0 + h'.nx ≤ R.cells → u0 + h'.us ≤ R.slots →
  (∀ (ad' : Int → Nat) (H' : Heap) (locs' : List Loc) (cells' slots' : Nat) (la' : Array Slot) (k' : Nat), xEnd mm k' v → ((cells' : Int) = c0 + h'.nx ∧ (slots' : Int) = u0 + h'.us) → (∀ x, 0 ≤ x → x < h.nx → ad' x = ad x) → va_P D vwCl (wl cy ad' h') H' → va_D (fun q : Nat => bse ≤ q) (wl cy ad' h') → va_S (fun q : Nat => bse ≤ q) s.heap H' locs' →
    W p l e R s m args below meth c H' locs' cells' slots' Q (F0 m (xpc mm k') la' (xrv ad' v).toList)) →
  W p l e R s m args below meth c H locs cells slots Q (F0 m (xpc mm k) la (st.map (cV ad)))
theorem inv32 {o mm : Nat} {pcs : List Nat} {k len : Nat} {ins : Instr} {q : xOp} (h : xrel o mm pcs k ins len q = true) (h1 : q.1 = 32) : ins = .return_ ∧ len = 1 ∧ xret mm = none := by
  cases ins with
  | return_ => unfold xrel at h; obtain ⟨a, b⟩ := (Bool.and_eq_true _ _).mp h; exact ⟨rfl, (xe_eq a).2, of_decide_eq_true b⟩
  | newarray ty => exfalso; cases ty <;> first | exact absurd h Bool.false_ne_true | (have := congrArg Prod.fst (xe_eq (by unfold xrel at h; exact h)).1; omega)
  | ifCond c off => exfalso; unfold xrel at h; have z := congrArg Prod.fst (xe_eq ((Bool.and_eq_true _ _).mp h).1).1; dsimp only at z; omega
  | if_icmp c off => exfalso; unfold xrel at h; have z := congrArg Prod.fst (xe_eq ((Bool.and_eq_true _ _).mp h).1).1; dsimp only at z; omega
  | _ => exfalso; first | exact absurd h Bool.false_ne_true | (simp [xrel, xe, h1] at h; done)
theorem inv33 {o mm : Nat} {pcs : List Nat} {k len : Nat} {ins : Instr} {q : xOp} (h : xrel o mm pcs k ins len q = true) (h1 : q.1 = 33) :
    (ins = .ireturn ∧ len = 1 ∧ q.2.1 = 0 ∧ ((q.2.2.1 = 0 ∧ xret mm = some .int) ∨ (q.2.2.1 = 1 ∧ xret mm = some .boolean))) ∨ (ins = .areturn ∧ len = 1 ∧ q.2.1 = 1 ∧ xrefty (xret mm) = true) ∨ (ins = .lreturn ∧ len = 1 ∧ q.2.1 = 3 ∧ xret mm = some .long) := by
  cases ins with
  | ireturn =>
    unfold xrel at h
    rcases (Bool.or_eq_true _ _).mp h with h | h
    · obtain ⟨a, b⟩ := (Bool.and_eq_true _ _).mp h
      obtain ⟨a1, a2⟩ := xe_eq a
      exact Or.inl ⟨rfl, a2, by rw [a1], Or.inl ⟨by rw [a1], of_decide_eq_true b⟩⟩
    · obtain ⟨a, b⟩ := (Bool.and_eq_true _ _).mp h
      obtain ⟨a1, a2⟩ := xe_eq a
      exact Or.inl ⟨rfl, a2, by rw [a1], Or.inr ⟨by rw [a1], of_decide_eq_true b⟩⟩
  | areturn => unfold xrel at h; obtain ⟨a, b⟩ := (Bool.and_eq_true _ _).mp h; obtain ⟨a1, a2⟩ := xe_eq a; exact Or.inr (Or.inl ⟨rfl, a2, by rw [a1], b⟩)
  | lreturn => unfold xrel at h; obtain ⟨a, b⟩ := (Bool.and_eq_true _ _).mp h; obtain ⟨a1, a2⟩ := xe_eq a; exact Or.inr (Or.inr ⟨rfl, a2, by rw [a1], of_decide_eq_true b⟩)
  | newarray ty => exfalso; cases ty <;> first | exact absurd h Bool.false_ne_true | (have := congrArg Prod.fst (xe_eq (by unfold xrel at h; exact h)).1; omega)
  | ifCond c off => exfalso; unfold xrel at h; have z := congrArg Prod.fst (xe_eq ((Bool.and_eq_true _ _).mp h).1).1; dsimp only at z; omega
  | if_icmp c off => exfalso; unfold xrel at h; have z := congrArg Prod.fst (xe_eq ((Bool.and_eq_true _ _).mp h).1).1; dsimp only at z; omega
  | _ => exfalso; first | exact absurd h Bool.false_ne_true | (simp [xrel, xe, h1] at h; done)
theorem inv31 {o mm : Nat} {pcs : List Nat} {k len : Nat} {ins : Instr} {q : xOp} (h : xrel o mm pcs k ins len q = true) (h1 : q.1 = 31) :
    ∃ i, len = 3 ∧ xhasM o i q.2.1.toNat = true ∧ ((ins = .invokespecial i ∧ q.2.2.1 = 2 ∧ xmo q.2.1.toNat = 2 ∧ xinst mm q.2.1.toNat q.2.2.2 = true) ∨ (ins = .invokevirtual i ∧ q.2.2.1 = 1 ∧ xmo q.2.1.toNat = 1 ∧ xinst mm q.2.1.toNat q.2.2.2 = true) ∨ (ins = .invokestatic i ∧ q.2.2.1 = 0 ∧ xmo q.2.1.toNat = 0)) := by
  cases ins with
  | invokespecial i =>
    unfold xrel at h
    rcases (Bool.or_eq_true _ _).mp h with h | h
    · exfalso; have z := congrArg Prod.fst (xe_eq ((Bool.and_eq_true _ _).mp h).1).1; dsimp only at z; omega
    · obtain ⟨a, b⟩ := (Bool.and_eq_true _ _).mp h
      obtain ⟨b1, b2⟩ := (Bool.and_eq_true _ _).mp b
      obtain ⟨b2, b3⟩ := (Bool.and_eq_true _ _).mp b2
      have z := congrArg (fun q => q.2.2.1) (xe_eq a).1
      exact ⟨i, (xe_eq a).2, b1, Or.inl ⟨rfl, z, beq_iff_eq.mp b2, b3⟩⟩
  | invokevirtual i =>
    unfold xrel at h
    rcases (Bool.or_eq_true _ _).mp h with h | h
    · exfalso; have z := congrArg Prod.fst (xe_eq ((Bool.and_eq_true _ _).mp h).1).1; dsimp only at z; omega
    · obtain ⟨a, b⟩ := (Bool.and_eq_true _ _).mp h
      obtain ⟨b1, b2⟩ := (Bool.and_eq_true _ _).mp b
      obtain ⟨b2, b3⟩ := (Bool.and_eq_true _ _).mp b2
      have z := congrArg (fun q => q.2.2.1) (xe_eq a).1
      exact ⟨i, (xe_eq a).2, b1, Or.inr (Or.inl ⟨rfl, z, beq_iff_eq.mp b2, b3⟩)⟩
  | invokestatic i =>
    unfold xrel at h
    simp only [Bool.or_eq_true] at h
    rcases h with h | h | h | h
    · exfalso; have z := congrArg Prod.fst (xe_eq ((Bool.and_eq_true _ _).mp h).1).1; dsimp only at z; omega
    · exfalso; have z := congrArg Prod.fst (xe_eq ((Bool.and_eq_true _ _).mp h).1).1; dsimp only at z; omega
    · exfalso; have z := congrArg Prod.fst (xe_eq ((Bool.and_eq_true _ _).mp h).1).1; dsimp only at z; omega
    · obtain ⟨a, b⟩ := (Bool.and_eq_true _ _).mp h
      obtain ⟨b1, b2⟩ := (Bool.and_eq_true _ _).mp b
      have z := congrArg (fun q => q.2.2.1) (xe_eq a).1
      exact ⟨i, (xe_eq a).2, b1, Or.inr (Or.inr ⟨rfl, z, beq_iff_eq.mp b2⟩)⟩
  | newarray ty => exfalso; cases ty <;> first | exact absurd h Bool.false_ne_true | (have := congrArg Prod.fst (xe_eq (by unfold xrel at h; exact h)).1; omega)
  | ifCond c off => exfalso; unfold xrel at h; have z := congrArg Prod.fst (xe_eq ((Bool.and_eq_true _ _).mp h).1).1; dsimp only at z; omega
  | if_icmp c off => exfalso; unfold xrel at h; have z := congrArg Prod.fst (xe_eq ((Bool.and_eq_true _ _).mp h).1).1; dsimp only at z; omega
  | _ => exfalso; first | exact absurd h Bool.false_ne_true | (simp [xrel, xe, h1] at h; done)
