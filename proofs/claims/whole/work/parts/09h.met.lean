/-! the contracts of all methods at once, by induction on the number of steps -/
def xnm (m : Nat) : Bool := decide (plainName (xy m).cls = true) && (decide ((xy m).cls = xown (xoo m)) && decide (xpc m 0 = 0))
theorem xnm_all : ((List.range 282).all xnm) = true := by decide +kernel
def xws (m : Nat) : List Cond := .code (xy m) (xby m) (xmi m).1 (xret m) :: xtL
theorem xcode_in {m : Nat} (h0 : 0 < m) (h1 : m < 282) : Cond.code (xy m) (xby m) (xmi m).1 (xret m) ∈ lw_tbl := by
  have go : ∀ (b n : Nat) (l : List Nat), (List.range n).map (fun j => Cond.code (xy (b + j)) (xby (b + j)) (xmi (b + j)).1 (xret (b + j))) = l.filterMap (fun i => lw_tbl[i]?) → b ≤ m → m < b + n → Cond.code (xy m) (xby m) (xmi m).1 (xret m) ∈ lw_tbl := by
    intro b n l e a1 a2
    have hm : Cond.code (xy m) (xby m) (xmi m).1 (xret m) ∈ (List.range n).map (fun j => Cond.code (xy (b + j)) (xby (b + j)) (xmi (b + j)).1 (xret (b + j))) := List.mem_map.mpr ⟨m - b, List.mem_range.mpr (by omega), by rw [show b + (m - b) = m by omega]⟩
    rw [e] at hm
    obtain ⟨i, -, hi⟩ := List.mem_filterMap.mp hm
    exact List.mem_of_getElem? hi
  by_cases c0 : m < 11
  · exact go 1 10 _ xcode_0 (by omega) (by omega)
  by_cases c1 : m < 21
  · exact go 11 10 _ xcode_1 (by omega) (by omega)
  by_cases c2 : m < 31
  · exact go 21 10 _ xcode_2 (by omega) (by omega)
  by_cases c3 : m < 41
  · exact go 31 10 _ xcode_3 (by omega) (by omega)
  by_cases c4 : m < 51
  · exact go 41 10 _ xcode_4 (by omega) (by omega)
  by_cases c5 : m < 61
  · exact go 51 10 _ xcode_5 (by omega) (by omega)
  by_cases c6 : m < 71
  · exact go 61 10 _ xcode_6 (by omega) (by omega)
  by_cases c7 : m < 81
  · exact go 71 10 _ xcode_7 (by omega) (by omega)
  by_cases c8 : m < 91
  · exact go 81 10 _ xcode_8 (by omega) (by omega)
  by_cases c9 : m < 101
  · exact go 91 10 _ xcode_9 (by omega) (by omega)
  by_cases c10 : m < 111
  · exact go 101 10 _ xcode_10 (by omega) (by omega)
  by_cases c11 : m < 121
  · exact go 111 10 _ xcode_11 (by omega) (by omega)
  by_cases c12 : m < 131
  · exact go 121 10 _ xcode_12 (by omega) (by omega)
  by_cases c13 : m < 141
  · exact go 131 10 _ xcode_13 (by omega) (by omega)
  by_cases c14 : m < 151
  · exact go 141 10 _ xcode_14 (by omega) (by omega)
  by_cases c15 : m < 161
  · exact go 151 10 _ xcode_15 (by omega) (by omega)
  by_cases c16 : m < 171
  · exact go 161 10 _ xcode_16 (by omega) (by omega)
  by_cases c17 : m < 181
  · exact go 171 10 _ xcode_17 (by omega) (by omega)
  by_cases c18 : m < 191
  · exact go 181 10 _ xcode_18 (by omega) (by omega)
  by_cases c19 : m < 201
  · exact go 191 10 _ xcode_19 (by omega) (by omega)
  by_cases c20 : m < 211
  · exact go 201 10 _ xcode_20 (by omega) (by omega)
  by_cases c21 : m < 221
  · exact go 211 10 _ xcode_21 (by omega) (by omega)
  by_cases c22 : m < 231
  · exact go 221 10 _ xcode_22 (by omega) (by omega)
  by_cases c23 : m < 241
  · exact go 231 10 _ xcode_23 (by omega) (by omega)
  by_cases c24 : m < 251
  · exact go 241 10 _ xcode_24 (by omega) (by omega)
  by_cases c25 : m < 261
  · exact go 251 10 _ xcode_25 (by omega) (by omega)
  by_cases c26 : m < 271
  · exact go 261 10 _ xcode_26 (by omega) (by omega)
  by_cases c27 : m < 281
  · exact go 271 10 _ xcode_27 (by omega) (by omega)
  by_cases c28 : m < 282
  · exact go 281 1 _ xcode_28 (by omega) (by omega)
  omega
theorem xmt_in {m : Nat} (h0 : 0 < m) (h1 : m < 282) : xmtok m = true := by
  have go : ∀ (b : Nat), ((List.range 20).all fun j => xmtok (b + j) || decide (281 < b + j)) = true → b ≤ m → m < b + 20 → xmtok m = true := by
    intro b e a1 a2
    have z := List.all_eq_true.mp e (m - b) (List.mem_range.mpr (by omega))
    rw [show b + (m - b) = m by omega] at z
    rcases (Bool.or_eq_true _ _).mp z with z | z
    · exact z
    · have := of_decide_eq_true z; omega
  by_cases c0 : m < 21
  · exact go 1 xmt_all_0 (by omega) (by omega)
  by_cases c1 : m < 41
  · exact go 21 xmt_all_1 (by omega) (by omega)
  by_cases c2 : m < 61
  · exact go 41 xmt_all_2 (by omega) (by omega)
  by_cases c3 : m < 81
  · exact go 61 xmt_all_3 (by omega) (by omega)
  by_cases c4 : m < 101
  · exact go 81 xmt_all_4 (by omega) (by omega)
  by_cases c5 : m < 121
  · exact go 101 xmt_all_5 (by omega) (by omega)
  by_cases c6 : m < 141
  · exact go 121 xmt_all_6 (by omega) (by omega)
  by_cases c7 : m < 161
  · exact go 141 xmt_all_7 (by omega) (by omega)
  by_cases c8 : m < 181
  · exact go 161 xmt_all_8 (by omega) (by omega)
  by_cases c9 : m < 201
  · exact go 181 xmt_all_9 (by omega) (by omega)
  by_cases c10 : m < 221
  · exact go 201 xmt_all_10 (by omega) (by omega)
  by_cases c11 : m < 241
  · exact go 221 xmt_all_11 (by omega) (by omega)
  by_cases c12 : m < 261
  · exact go 241 xmt_all_12 (by omega) (by omega)
  by_cases c13 : m < 281
  · exact go 261 xmt_all_13 (by omega) (by omega)
  by_cases c14 : m < 301
  · exact go 281 xmt_all_14 (by omega) (by omega)
  omega
/-- what the tables say of a method that may be called -/
theorem xmt_facts {m : Nat} (h0 : 0 < m) (h1 : m < 282) : Cond.initialized (xy m).cls ∈ lw_tbl ∧ ((xy m).cls ≠ "java/lang/invoke/MethodHandle" ∧ (xy m).cls ≠ "java/lang/invoke/VarHandle") ∧ (parseMethodDescriptor (xy m).desc).map (fun d => d.parameters.length) = some (if xmo m = 0 then (xmi m).2 else (xmi m).2 - 1) ∧ ((xmi m).1 ≤ 22 ∧ (xmi m).2 ≤ (xmi m).1) ∧
    (xmo m = 0 → Cond.static (xy m) ∈ lw_tbl ∧ xown (xoo m) = (xy m).cls) ∧ (xmo m ≠ 0 → 0 < (xmi m).2 ∧ Cond.instanceMethod (xy m) ∈ lw_tbl) ∧ (xmo m = 1 → Cond.selects (xy m).cls (xy m) (xy m) ∈ lw_tbl) ∧ (xmo m = 2 → (xy m).name = "<init>" ∧ xret m = none) := by
  have z := xmt_in h0 h1
  unfold xmtok at z
  obtain ⟨hc, hi, hs, hsel, hini⟩ := xmtT.getD m (0, 0, 0, 0, 0)
  dsimp only at z
  simp only [Bool.and_eq_true, decide_eq_true_eq] at z
  obtain ⟨a1, a2, a3, a4, a5⟩ := z
  refine ⟨xat_mem a1, a2, a3, a4, fun c => ?_, fun c => ?_, fun c => ?_, fun c => ?_⟩
  · rw [if_pos c] at a5; simp only [Bool.and_eq_true, decide_eq_true_eq] at a5; exact ⟨xat_mem a5.1, a5.2⟩
  · rw [if_neg c] at a5; simp only [Bool.and_eq_true, decide_eq_true_eq] at a5; exact ⟨a5.1, xat_mem a5.2.1⟩
  · rw [if_neg (by omega), if_pos c] at a5; simp only [Bool.and_eq_true] at a5; exact xat_mem a5.2.2
  · rw [if_neg (by omega), if_neg (by omega)] at a5; simp only [Bool.and_eq_true, decide_eq_true_eq] at a5; exact a5.2.2
theorem xws_good {m : Nat} {w : Cond} (hw : w ∈ xws m) : goodWord w = true := by
  rcases List.mem_cons.mp hw with e | e
  · rw [e]; rfl
  · exact (List.mem_filter.mp e).2
theorem xws_in {m : Nat} (h0 : 0 < m) (h1 : m < 282) {w : Cond} (hw : w ∈ xws m) : w ∈ lw_tbl := by
  rcases List.mem_cons.mp hw with e | e
  · rw [e]; exact xcode_in h0 h1
  · exact (List.mem_filter.mp e).1
section CT
variable {D : va_G} {cy : Int → ClassId} {bse b0 L0 : Nat} {xs0 : Nat → Int32}
def xPB (D : va_G) (cy : Int → ClassId) (bse b0 L0 : Nat) (xs0 : Nat → Int32) (ad : Int → Nat) (h : xH) (U : State) : Prop :=
  va_P D vwCl (wl cy ad h) U.heap ∧ va_D (fun q : Nat => bse ≤ q) (wl cy ad h) ∧ va_K D vwCl (tysL cy) U ∧ va_X b0 L0 xs0 U U.heap ∧ xEX U ∧ bse ≤ U.heap.size ∧ b0 < U.heap.size
def xQc (D : va_G) (cy : Int → ClassId) (bse : Nat) (ad : Int → Nat) (h : xH) (v : xV) (h' : xH) : Array Value → State → Outcome → State → Prop := fun _ st oc t =>
  (∃ ad' : Int → Nat, (∀ x, 0 ≤ x → x < h.nx → ad' x = ad x) ∧ oc = .returned (xrv ad' v) ∧ va_P D vwCl (wl cy ad' h') t.heap ∧ va_D (fun q : Nat => bse ≤ q) (wl cy ad' h')) ∧ va_F (fun q : Nat => bse ≤ q) st t
theorem xEX_moved {s U : State} (hW : s.WarmedH U.vm) (h : xEX s) : xEX U := ⟨va_AO.moved hW.alike h.1, va_AO.moved hW.alike h.2.1, va_Nw.warmC hW h.2.2.1, va_Nw.warmF hW h.2.2.2⟩
theorem lv_args_get : ∀ (vs : List Value) (i j : Nat) (v : Value), (∀ w ∈ vs, w.category = 1) → vs[j]? = some v → (i + j, v) ∈ lv_args i vs := by
  intro vs
  induction vs with
  | nil => intro i j v _ h; simp at h
  | cons w vs ih =>
    intro i j v hc h
    have hw := hc w List.mem_cons_self
    have hc' : ∀ w ∈ vs, w.category = 1 := fun u hu => hc u (List.mem_cons_of_mem _ hu)
    cases j with
    | zero =>
      have : w = v := by simpa using h
      subst this
      unfold lv_args
      split <;> simp
    | succ j =>
      have h' : vs[j]? = some v := by simpa using h
      have z := ih (i + 1) j v hc' h'
      rw [show i + 1 + j = i + (j + 1) by omega] at z
      unfold lv_args
      split
      · omega
      · exact List.mem_cons_of_mem _ z
theorem lg_sl_len : ∀ (vs : List Value), (∀ w ∈ vs, w.category = 1) → (lg_sl vs).length = vs.length := by
  intro vs
  induction vs with
  | nil => intro _; rfl
  | cons w vs ih =>
    intro hc
    have hw := hc w List.mem_cons_self
    have z := ih (fun u hu => hc u (List.mem_cons_of_mem _ hu))
    unfold lg_sl at z ⊢
    rw [List.flatMap_cons, if_neg (by omega), List.length_append, z]; simp only [List.length_cons, List.length_nil]; omega
end CT
