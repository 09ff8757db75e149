/-! soundness: a run of the small machine is a run of the kit's -/
theorem xnm_f {m : Nat} (h : m < 282) : plainName (xy m).cls = true ∧ (xy m).cls = xown (xoo m) ∧ xpc m 0 = 0 := by
  have z := List.all_eq_true.mp xnm_all m (List.mem_range.mpr h)
  unfold xnm at z
  simp only [Bool.and_eq_true, decide_eq_true_eq] at z
  exact z
theorem xmo_lt {m : Nat} (h : xmo m ≤ 2) : 0 < m ∧ m < 282 := by
  constructor
  · rcases Nat.eq_zero_or_pos m with e | e
    · subst e; exact absurd h (by decide)
    · exact e
  · rcases Nat.lt_or_ge m 282 with e | e
    · exact e
    · exfalso
      have z : xmo m = 9 := by
        unfold xmo
        rw [List.getD_eq_getElem?_getD, List.getElem?_eq_none (by rw [show xmoT.length = 282 from by decide +kernel]; exact e)]; rfl
      omega
theorem xcat_all {l : List xV} : l.length ≤ xcat l ∧ (xcat l = l.length → ∀ u ∈ l, u.1 ≠ 3) := by
  induction l with
  | nil => exact ⟨Nat.le_refl _, fun _ u hu => absurd hu List.not_mem_nil⟩
  | cons v l ih =>
    have e : xcat (v :: l) = (if v.1 = 3 then 2 else 1) + xcat l := by simp [xcat]
    rw [e]
    by_cases c : v.1 = 3
    · rw [if_pos c]
      exact ⟨by rw [List.length_cons]; have := ih.1; omega, fun z => by rw [List.length_cons] at z; have := ih.1; omega⟩
    · rw [if_neg c]
      refine ⟨by rw [List.length_cons]; have := ih.1; omega, fun z u hu => ?_⟩
      rw [List.length_cons] at z
      rcases List.mem_cons.mp hu with q | q
      · rw [q]; exact c
      · exact ih.2 (by omega) u q
theorem run_kind : ∀ (n d m k : Nat) (ls st : List xV) (h : xH) (v : xV) (h' : xH), xrun xsw xcd xmi n d m k ls st h = some (v, h') → v.1 < 4 ∨ v = (9, 0) := by
  intro n
  induction n with
  | zero => intro d m k ls st h v h' e; exact absurd e (by rw [xrun]; exact fun q => nomatch q)
  | succ n ih =>
    intro d m k ls st h v h' e
    rw [xrun_s] at e
    by_cases h31 : (xcd m k).1 = 31
    · rw [if_pos h31] at e
      split at e
      · cases e
      split at e
      · split at e
        · cases e
        · exact ih _ _ _ _ _ _ _ _ e
      · cases e
    · rw [if_neg h31] at e
      split at e
      · split at e
        · cases e; exact Or.inr rfl
        · cases e
      split at e
      · split at e
        · rename_i w
          split at e
          · rename_i g; cases e; exact Or.inl g.2.1
          · cases e
        · cases e
      split at e
      · cases e
      · exact ih _ _ _ _ _ _ _ _ e
section X1
variable {D : va_G} {cy : Int → ClassId} {bse b0 L0 : Nat} {xs0 : Nat → Int32}
theorem fb_xPc {as : List Value} {ad : Int → Nat} {h : xH} : FrameBlind (va_Pc as (xPB D cy bse b0 L0 xs0 ad h)) := fun a U g mk q => by
  obtain ⟨q0, q1, q2, q3, q4, q5, q6⟩ := q
  exact ⟨q0, q1, q2, va_K.moved (u := U) (U := U.calling g mk a) (Vm.Alike.refl U.vm) q3, va_X.moved (u := U) (U := U.calling g mk a) (Vm.Alike.refl U.vm) q4,
    ⟨va_AO.moved (u := U) (U := U.calling g mk a) (Vm.Alike.refl U.vm) q5.1, va_AO.moved (u := U) (U := U.calling g mk a) (Vm.Alike.refl U.vm) q5.2.1, va_Nw.same (u := U) (U := U.calling g mk a) rfl rfl q5.2.2.1, va_Nw.same (u := U) (U := U.calling g mk a) rfl rfl q5.2.2.2⟩, q6⟩
theorem xrefty_of {t : Option FieldType} (h : xrefty t = true) : ∃ rt, t = some rt ∧ ((∃ n, rt = .object n) ∨ ∃ t, rt = .array t) := by
  unfold xrefty at h
  split at h
  · exact ⟨_, rfl, Or.inl ⟨_, rfl⟩⟩
  · exact ⟨_, rfl, Or.inr ⟨_, rfl⟩⟩
  · exact absurd h Bool.false_ne_true
set_option maxHeartbeats 1000000 in
theorem met_of {n : Nat} (hS : SND n) (l : Launch) {mm d : Nat} (h0 : 0 < mm) (h1 : mm < 282) {as : List xV} {h h' : xH} {v : xV} {ad : Int → Nat}
    (er : xrun xsw xcd xmi n d mm 0 (as ++ List.replicate ((xmi mm).1 - (xmi mm).2) (9, 0)) [] h = some (v, h')) (hlen : as.length = (xmi mm).2) (hk : ∀ u ∈ as, u.1 < 3) (hI : xG h) (hok : ∀ u ∈ as, xok h.nx u)
    (had : ad 1 = b0) (hl1 : h.len 1 = L0) (hxs : ∀ k : Nat, k < L0 → Int32.ofInt (h.i 1 k) = xs0 k) (hbb : b0 < bse) :
    Met l (xy mm) (xws mm) ({ frames := d + 2, cells := (h'.nx - h.nx).toNat, slots := (h'.us - h.us).toNat, locals := 41 * (d + 2) }) (va_Pc (as.map (cV ad)) (xPB D cy bse b0 L0 xs0 ad h)) (xQc D cy bse ad h v h') (h'.nx - h.nx).toNat (h'.us - h.us).toNat (fun q : Nat => bse ≤ q) := by
  obtain ⟨n1, n2, n3⟩ := xnm_f h1
  obtain ⟨f1, f2, f3, f4, f5, f6, f7, f8⟩ := xmt_facts h0 h1
  have hI2 : xI h (as ++ List.replicate ((xmi mm).1 - (xmi mm).2) (9, 0)) [] := ⟨hI, fun w hw => (List.mem_append.mp hw).elim (hok w) (ok_rep w), fun w hw => absurd hw List.not_mem_nil⟩
  obtain ⟨r1, r2, r3, r4⟩ := run_ok _ _ _ _ _ _ _ _ _ hI2 er
  refine Met.ofW (cc := xby mm) (maxL := (xmi mm).1) (ret := xret mm) n1 rfl ?_
  intro p e s m args below meth c s₁ B hml hv
  obtain ⟨rfl, hP, hD, hK, hX, hEX, hsz, hb0⟩ := hv
  have hts := atoms_spec (ws := xws mm) B.pre
  have hlocks := B.notSynchronized
  have hown : s.vm.findClass (xy mm).cls = some m.cls := findClass_of_methodNamed B.named
  rw [n2] at hown
  have hname : meth.name = (xy mm).name := (name_of_methodNamed B.named B.method).1
  have hcat : ∀ w ∈ as.map (cV ad), w.category = 1 := by
    intro w hw
    obtain ⟨u, hu, rfl⟩ := List.mem_map.mp hw
    have := hk u hu
    exact cV_cat1 (by omega) (by omega)
  have hll := lg_sl_len _ hcat
  have hl := lv_entry (as.map (cV ad)) (n := (xmi mm).1) (by rw [hll, List.length_map, hlen]; exact f4.2)
  rw [lg_entry_eq]
  generalize (lg_sl (as.map (cV ad)) ++ List.replicate ((xmi mm).1 - (lg_sl (as.map (cV ad))).length) Slot.unset).toArray = la at hl ⊢
  have hLM : xLM ad (as ++ List.replicate ((xmi mm).1 - (xmi mm).2) (9, 0)) la := by
    refine ⟨by rw [hl.1, List.length_append, List.length_replicate, hlen]; have := f4.2; omega, hl.2.1, fun j u hj hu => ?_⟩
    by_cases c : j < as.length
    · rw [List.getElem?_append_left c] at hj
      have z := lv_args_get (as.map (cV ad)) 0 j (cV ad u) hcat (by rw [List.getElem?_map, hj]; rfl)
      rw [Nat.zero_add] at z
      exact hl.2.2 _ z
    · rw [List.getElem?_append_right (by omega)] at hj
      have z := (List.mem_replicate.mp (List.mem_of_getElem? hj)).2
      rw [z] at hu; exact absurd rfl hu
  have M : xM D cy p ({ frames := d + 2, cells := (h'.nx - h.nx).toNat, slots := (h'.us - h.us).toNat, locals := 41 * (d + 2) } : Room) s m (as.map (cV ad)).toArray meth c mm d :=
    ⟨B.exec, B.bytes, hml, hown, fun w hw hg => hts w (List.mem_cons_of_mem _ (xtL_mem hw hg)), hK, Nat.le_refl _, Nat.le_refl _, fun z => hname.trans z, hEX⟩
  have X : xW D cy bse b0 L0 xs0 s mm (-h.nx) (-h.us) ad h (as ++ List.replicate ((xmi mm).1 - (xmi mm).2) (9, 0)) [] s.heap [] 0 0 la := by
    refine ⟨hI2, hLM, by rw [List.length_append, List.length_replicate, hlen]; have := f4.2; omega, fun u hu => ?_, fun u hu => absurd hu List.not_mem_nil, hP, hD, va_S.rf, hX, ⟨by omega, by omega⟩, ⟨had, hl1, hxs⟩, hbb, hb0, hsz⟩
    rcases List.mem_append.mp hu with z | z
    · left; have := hk u z; omega
    · right; rw [(List.mem_replicate.mp z).2]
  have G := hS D cy bse b0 L0 xs0 p l e _ s m _ below meth c (MQ below (xQc D cy bse ad h v h') (as.map (cV ad)).toArray s (h'.nx - h.nx).toNat (h'.us - h.us).toNat (fun q : Nat => bse ≤ q)) mm d 0 (-h.nx) (-h.us) ad h _ [] s.heap [] 0 0 la v h' er M X (by dsimp only; omega) (by dsimp only; omega) ?_
  · rw [n3] at G; exact G
  · intro ad' H' locs' cells' slots' la' k' hend hcs hag hP' hD' hS'
    have ec : cells' = (h'.nx - h.nx).toNat := by omega
    have es : slots' = (h'.us - h.us).toNat := by omega
    subst ec; subst es
    have hq : ∀ (o : Option Value), o = xrv ad' v → ∀ t : State, t.heap = H' → s.WarmedH t.vm → xQc D cy bse ad h v h' (as.map (cV ad)).toArray s (.returned o) t := fun o ho t ht _ => ⟨⟨ad', hag, by rw [ho], by rw [ht]; exact hP', hD'⟩, hS'.F ht⟩
    have hr := B.returns
    rcases hend with ⟨z1, z2, z3⟩ | ⟨z1, z2, z3⟩ | ⟨z1, z2, z3⟩ | ⟨z1, z2, z3⟩
    · subst z1
      exact W.vret B.exec B.bytes (hr.trans z3) (hq none rfl) hS'.2.2 z2
    · obtain ⟨vk, vx⟩ := v
      have z1 : vk = 0 := z1
      subst z1
      rcases z3 with z3 | ⟨z3, z4⟩
      · exact W.iret B.exec B.bytes (hr.trans z3) (hq _ rfl) hS'.2.2 z2
      · exact W.zret B.exec B.bytes (hr.trans z3) (nar_boo (t := .boolean) rfl rfl z4).1 (hq _ rfl) hS'.2.2 z2
    · obtain ⟨vk, vx⟩ := v
      have z1 : vk = 1 := z1
      subst z1
      obtain ⟨rt, q1, q2⟩ := xrefty_of z3
      refine W.aret B.exec B.bytes (hr.trans q1) q2 ?_ (hq _ rfl) hS'.2.2 z2
      rw [cV1]
      by_cases c : vx = 0
      · left; rw [c]; rfl
      · right; exact ⟨_, cRn c⟩
    · obtain ⟨vk, vx⟩ := v
      have z1 : vk = 3 := z1
      subst z1
      exact W.lret B.exec B.bytes (hr.trans z3) (hq _ rfl) hS'.2.2 z2
end X1
