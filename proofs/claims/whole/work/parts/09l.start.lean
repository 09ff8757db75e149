def xck (m k : Nat) : Bool := xchk (xoo m) m (xby m) (xpT.getD m []) (xcT.getD m []) k
def xckm (m : Nat) : Prop := ∀ k, k < (xcT.getD m []).length → xck m k = true
/-! the claim's walk out of ONE run of the law in the small machine -/
theorem w_os : Cond.arrayOver (.object "MetreDesk$Syllables") ∈ lw_tbl := xat_mem (i := 157) (by decide +kernel)
theorem w_of : Cond.arrayOver (.object "MetreDesk$Foot") ∈ lw_tbl := xat_mem (i := 244) (by decide +kernel)
theorem w_cst : Cond.castable "[I" "java/lang/Cloneable" ∈ lw_tbl := xat_mem (i := 608) (by decide +kernel)
theorem w_nst : Cond.fieldLinkNest "MetreDesk$Book" 39 "MetreDesk$Syllables" "letters" "[I" "MetreDesk" ∈ lw_tbl := xat_mem (i := 164) (by decide +kernel)
/-- the start: the script alone -/
def xH0 (L : Nat) (xs : Nat → Int32) : xH := (fun a k => if a = 1 ∧ 0 ≤ k ∧ k < L then (xs k.toNat).toInt else 0, fun _ _ => 0, fun a => if a = 1 then 30 else -1, fun a => if a = 1 then L else 0, 2, 0)
theorem xH0_G {L : Nat} {xs : Nat → Int32} (hL : L ≤ 3584) : xG (xH0 L xs) := by
  refine ⟨Int.le_refl _, fun a h1 h2 => ?_, fun a h => ?_, rfl, fun a => ?_, fun a k => ?_, fun a k => ⟨Int.le_refl _, (by decide : (0 : Int) < 2)⟩, fun a k h => ⟨?_, rfl⟩⟩
  · have : (xH0 L xs).nx = 2 := rfl
    omega
  · have : (xH0 L xs).nx = 2 := rfl
    show (if a = 1 then (30 : Int) else -1) = -1
    rw [if_neg (by omega)]
  · show 0 ≤ (if a = 1 then (L : Int) else 0) ∧ (if a = 1 then (L : Int) else 0) ≤ 7302250
    split <;> omega
  · show xrg (if a = 1 ∧ 0 ≤ k ∧ k < L then (xs k.toNat).toInt else 0)
    split
    · exact rg_32 _
    · unfold xrg; omega
  · have : (xH0 L xs).nx = 2 := rfl
    show (if a = 1 ∧ 0 ≤ k ∧ k < L then (xs k.toNat).toInt else 0) = 0
    rw [if_neg (by omega)]
theorem xCK_of (h : ∀ m, m < 282 → xckm m) : xCK := by
  intro mm k hk
  have hm : mm < 282 := by
    rcases Nat.lt_or_ge mm 282 with z | z
    · exact z
    · exfalso
      apply hk
      unfold xcd
      have : xcT.getD mm [] = [] := by rw [List.getD_eq_getElem?_getD, List.getElem?_eq_none (by rw [show xcT.length = 282 from by decide +kernel]; exact z)]; rfl
      rw [this]; rfl
  have hkl : k < (xcT.getD mm []).length := by
    rcases Nat.lt_or_ge k (xcT.getD mm []).length with z | z
    · exact z
    · exfalso
      apply hk
      unfold xcd
      rw [List.getD_eq_getElem?_getD, List.getElem?_eq_none z]; rfl
  have z := h mm hm k hkl
  unfold xck xchk at z
  rcases (Bool.or_eq_true _ _).mp z with z | z
  · exact absurd (beq_iff_eq.mp z) hk
  · have z' : (match decode (xby mm) (xpc mm k) with
      | .ok (ins, len) => xrel (xoo mm) mm (xpT.getD mm []) k ins len (xcd mm k) && xnext (xpT.getD mm []) k len (xcd mm k)
      | .error _ => false) = true := z
    split at z'
    · rename_i ins len e
      obtain ⟨a, b⟩ := (Bool.and_eq_true _ _).mp z'
      exact ⟨ins, len, e, a, b⟩
    · exact absurd z' Bool.false_ne_true
theorem va_K_start {s : State} {av : Array Value} (hts : ∀ w ∈ lw_tbl, w.before av s = true) : ∃ (D : va_G) (cy : Int → ClassId), va_K D vwCl (tysL cy) s := by
  have hts' : ∀ w ∈ xtL, w.before av s = true := fun w hw => hts w (List.mem_filter.mp hw).1
  have h1 : ∀ t : Nat, ∃ cC : ClassId, ∃ iS : Nat → Nat, t < 13 → u_Kn s (vwR t) (TX t) (vwN t) cC iS := by
    intro t
    by_cases c : t < 13
    · obtain ⟨cC, iS, h⟩ := u_known hts' (vw_lay t c) (hts _ (w_new c).1)
      exact ⟨cC, iS, fun _ => h⟩
    · exact ⟨0, fun _ => 0, fun z => absurd z c⟩
  have prim : ∀ ty : FieldType, Cond.arrayClass ty ∈ lw_tbl → (∀ C, ty ≠ .object C) → ∃ cA : ClassId, ArrOfT s cA ty ∧ va_RA s cA ty := by
    intro ty hw hno
    obtain ⟨cA, kA, comp, a1, a2, a3⟩ := Cond.arrayClass_spec (hts _ hw)
    refine ⟨cA, fun n z => ⟨(fun k h => by cases h), kA, a2, comp, a3⟩, ?_⟩
    cases ty with
    | object C => exact absurd rfl (hno C)
    | _ => exact a1
  have objs : ∀ C : String, Cond.arrayOver (.object C) ∈ lw_tbl → ∃ cA : ClassId, ArrOfT s cA (.object C) ∧ va_RA s cA (.object C) := by
    intro C hw
    obtain ⟨comp, cA, kA, a1, a2, a3, a4, a5⟩ := Cond.arrayOver_spec (hts _ hw)
    exact ⟨cA, fun n z => ⟨(fun k h => by cases h), kA, a3, comp, a4⟩, kA, comp, a3, a4, a1, a5⟩
  obtain ⟨y0, z0⟩ := prim .int w_ai (fun C h => by cases h)
  obtain ⟨y1, z1⟩ := prim .byte w_ab (fun C h => by cases h)
  obtain ⟨y2, z2⟩ := prim .boolean w_az (fun C h => by cases h)
  obtain ⟨y3, z3⟩ := objs _ w_os
  obtain ⟨y4, z4⟩ := objs _ w_of
  refine ⟨(fun t => Classical.choose (h1 t), fun t => Classical.choose (Classical.choose_spec (h1 t))), fun t => if t = 20 then y0 else if t = 21 then y1 else if t = 22 then y2 else if t = 23 then y3 else y4, fun t q hq => ?_, fun k q hq => ?_⟩
  · have ht : t < 13 := (List.getElem?_eq_some_iff.mp hq).1
    have e := Option.some.inj ((vw_get t ht).symm.trans hq)
    subst e
    exact Classical.choose_spec (Classical.choose_spec (h1 t)) ht
  · have hk : k < 5 := (List.getElem?_eq_some_iff.mp hq).1
    have : k = 0 ∨ k = 1 ∨ k = 2 ∨ k = 3 ∨ k = 4 := by omega
    rcases this with rfl | rfl | rfl | rfl | rfl <;> (cases hq; assumption)
/-- what is left to be shown: the run of the law in the small machine -/
def xGoal : Prop := ∀ (L : Nat) (xs : Nat → Int32), L ≤ 3584 → xT 2046 M_Law_law 0 [(1, 1), (9, 0), (9, 0), (9, 0)] [] (xH0 L xs) (fun v h' => v = (0, 1) ∧ h'.nx ≤ 600002 ∧ h'.us ≤ 7302250)
theorem start_of (CK : xCK) (GO : xGoal) {p : Program} {e : Env} {s : State} {m : MethodId} {below : List Frame} {meth : Method} {c : Code} (l : Launch) {b L : Nat} {xs : Nat → Int32} (hL : L ≤ 3584) (C0 : lw_At p s m meth c b L xs) : W p l e room_1 s m #[Value.ref b] below meth c s.heap [] 0 0 (lw_Z below #[Value.ref b] s) (entryFrame m ([Value.ref b] : List Value).toArray 4) := by
  obtain ⟨hx, hb, hr, hml, hown, hts, hX, hbl, hlocks, hgv⟩ := C0
  obtain ⟨D, cy, hK⟩ := va_K_start hts
  obtain ⟨n, v, h', er, ev, e1, e2⟩ := GO L xs hL
  subst ev
  have hd0 := Drawn.sameBut.refl s.drawn lw_cs
  have hl := lv_entry ([Value.ref b] : List Value) (n := 4) (Nat.le_of_ble_eq_true rfl)
  rw [lg_entry_eq]
  generalize (lg_sl ([Value.ref b] : List Value) ++ List.replicate (4 - (lg_sl ([Value.ref b] : List Value)).length) Slot.unset).toArray = la at hl ⊢
  have hw0 : wl cy (fun _ => b) (xH0 L xs) = [] := rfl
  have hLM : xLM (fun _ => b) [(1, 1), (9, 0), (9, 0), (9, 0)] la := by
    refine ⟨hl.1, hl.2.1, fun j u hj hu => ?_⟩
    have hj4 : j < 4 := (List.getElem?_eq_some_iff.mp hj).1
    have : j = 0 ∨ j = 1 ∨ j = 2 ∨ j = 3 := by omega
    rcases this with rfl | rfl | rfl | rfl
    · cases hj; exact hl.2.2 (0, .ref b) List.mem_cons_self
    · cases hj; exact absurd rfl hu
    · cases hj; exact absurd rfl hu
    · cases hj; exact absurd rfl hu
  have M : xM D cy p room_1 s m #[Value.ref b] meth c 0 2046 := ⟨hx, hb, hml, hown, fun w hw _ => hts w hw, hK, Nat.le_of_ble_eq_true rfl, Nat.le_of_ble_eq_true rfl, fun z => absurd z (by decide), ⟨va_AO.of (hts _ w_os), va_AO.of (hts _ w_of), va_Nw.of rfl (hts _ w_cst), va_Nw.of rfl (hts _ w_nst)⟩⟩
  have X : xW D cy s.heap.size b L xs s 0 (-2) 0 (fun _ => b) (xH0 L xs) [(1, 1), (9, 0), (9, 0), (9, 0)] [] s.heap [] 0 0 la := by
    refine ⟨⟨xH0_G hL, fun u hu => ?_, fun u hu => absurd hu List.not_mem_nil⟩, hLM, rfl, fun u hu => ?_, fun u hu => absurd hu List.not_mem_nil, ?_, ?_, va_S.rf, hX, ⟨rfl, rfl⟩, ⟨rfl, rfl, fun k hk => ?_⟩, hbl, hbl, Nat.le_refl _⟩
    · rcases List.mem_cons.mp hu with z | z
      · rw [z]; exact ok_1 (by decide) (by decide : (1 : Int) < 2)
      · have : u = (9, 0) := by simpa using z
        rw [this]; exact ok_9
    · rcases List.mem_cons.mp hu with z | z
      · rw [z]; left; exact of_decide_eq_true rfl
      · have : u = (9, 0) := by simpa using z
        rw [this]; right; rfl
    · rw [hw0]; intro k q hq; cases hq
    · rw [hw0]; exact ⟨fun i j p q hi _ _ => absurd hi (by simp), fun k q hq => absurd hq (by simp)⟩
    · show Int32.ofInt (if (1 : Int) = 1 ∧ 0 ≤ (k : Int) ∧ (k : Int) < L then (xs (k : Int).toNat).toInt else 0) = xs k
      rw [if_pos ⟨rfl, by omega, by omega⟩, n_ofInt, Int.toNat_natCast]
  have G := snd_all CK n D cy s.heap.size b L xs p l e room_1 s m #[Value.ref b] below meth c (lw_Z below #[Value.ref b] s) 0 2046 0 (-2) 0 (fun _ => b) (xH0 L xs) _ [] s.heap [] 0 0 la (0, 1) h' er M X (by show -2 + h'.nx ≤ (600000 : Int); omega) (by show 0 + h'.us ≤ (7302250 : Int); omega) ?_
  · exact G
  · intro ad' H' locs' cells' slots' la' k' hend hcs hag hP' hD' hS'
    refine va_forget (fun q hq => hS'.2.2 q hq) ?_
    refine W.widen (k := 600000) (n := 7302250) (by omega) (by omega) ?_
    rcases hend with ⟨z1, -, -⟩ | ⟨z1, z2, z3⟩ | ⟨z1, -, -⟩ | ⟨z1, -, -⟩
    · cases z1
    · exact lw_ret hd0 hx hb hr hlocks z2
    · exact absurd z1 (of_decide_eq_true rfl)
    · exact absurd z1 (of_decide_eq_true rfl)
