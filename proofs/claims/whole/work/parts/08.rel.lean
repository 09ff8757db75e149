/-! how a state of the kit's machine is a state of the small one -/
def cR (ad : Int → Nat) (x : Int) : Option Nat := if x = 0 then none else some (ad x)
def cV (ad : Int → Nat) (v : xV) : Value := if v.1 = 0 then .int (Int32.ofInt v.2) else if v.1 = 1 then va_rf (cR ad v.2) else if v.1 = 2 then .float (xuf v.2) else .long (Int64.ofInt v.2)
def vwN (t : Nat) : Nat := (vwCl.getD t ("", TX0, 0)).2.2
def cF (ad : Int → Nat) (h : xH) (t : Nat) (a : Int) : List Value := (List.range (vwN t)).map (fun k => if xfK t k = 1 then va_rf (cR ad (h.r a k)) else .int (Int32.ofInt (h.i a k)))
def cE (cy : Int → ClassId) (ad : Int → Nat) (h : xH) (a : Int) : va_E :=
  if h.tag a < 13 then .inr ((h.tag a).toNat, cF ad h (h.tag a).toNat a) else
  if h.tag a < 23 then .inl (cy (h.tag a), (h.len a).toNat, .inl (fun k => Int32.ofInt (h.i a k))) else
  .inl (cy (h.tag a), (h.len a).toNat, .inr (.inr (.inr (.inr (fun k => cR ad (h.r a k))))))
def wl (cy : Int → ClassId) (ad : Int → Nat) (h : xH) : va_W := (List.range (h.nx - 2).toNat).map (fun (j : Nat) => (ad ((j : Int) + 2), cE cy ad h ((j : Int) + 2)))
def tysL (cy : Int → ClassId) : List (ClassId × FieldType) := [(cy 20, .int), (cy 21, .byte), (cy 22, .boolean), (cy 23, .object "MetreDesk$Syllables"), (cy 24, .object "MetreDesk$Foot")]
theorem wl_get {cy : Int → ClassId} {ad : Int → Nat} {h : xH} {p : Int} (h0 : 2 ≤ p) (h1 : p < h.nx) : (wl cy ad h)[(p - 2).toNat]? = some (ad p, cE cy ad h p) := by
  unfold wl
  rw [List.getElem?_map, List.getElem?_range (by omega)]
  have e : (((p - 2).toNat : Nat) : Int) + 2 = p := by omega
  simp only [Option.map_some, e]
theorem wl_len {cy : Int → ClassId} {ad : Int → Nat} {h : xH} : (wl cy ad h).length = (h.nx - 2).toNat := by unfold wl; simp
theorem wl_some {cy : Int → ClassId} {ad : Int → Nat} {h : xH} {k : Nat} {q : Nat × va_E} (e : (wl cy ad h)[k]? = some q) : (k : Int) + 2 < h.nx ∧ q = (ad ((k : Int) + 2), cE cy ad h ((k : Int) + 2)) := by
  have hl := (List.getElem?_eq_some_iff.mp e).1
  rw [wl_len] at hl
  have h2 : (k : Int) + 2 < h.nx := by omega
  have e2 := wl_get (cy := cy) (ad := ad) (h := h) (p := (k : Int) + 2) (by omega) h2
  rw [show ((k : Int) + 2 - 2).toNat = k by omega] at e2
  exact ⟨h2, Option.some.inj (e.symm.trans e2)⟩
theorem wl_set {cy : Int → ClassId} {ad : Int → Nat} {h h' : xH} {p : Int} {x : va_E} (h0 : 2 ≤ p) (hn : h'.nx = h.nx) (hp : cE cy ad h' p = x) (ho : ∀ b, b ≠ p → cE cy ad h' b = cE cy ad h b) : (wl cy ad h).set (p - 2).toNat (ad p, x) = wl cy ad h' := by
  apply List.ext_getElem?
  intro k
  by_cases c : (k : Int) + 2 < h.nx
  · have e1 := wl_get (cy := cy) (ad := ad) (h := h') (p := (k : Int) + 2) (by omega) (by omega)
    have e2 := wl_get (cy := cy) (ad := ad) (h := h) (p := (k : Int) + 2) (by omega) c
    rw [show ((k : Int) + 2 - 2).toNat = k by omega] at e1 e2
    rw [e1, List.getElem?_set]
    by_cases d : (p - 2).toNat = k
    · have d2 : (k : Int) + 2 = p := by omega
      rw [if_pos d, if_pos (by rw [wl_len]; omega), d2, hp]
    · rw [if_neg d, e2, ho _ (by omega)]
  · rw [List.getElem?_eq_none (by rw [List.length_set, wl_len]; omega), List.getElem?_eq_none (by rw [wl_len]; omega)]
theorem wl_push {cy : Int → ClassId} {ad ad' : Int → Nat} {h h' : xH} {x : va_E} {q : Nat} (h0 : 2 ≤ h.nx) (hn : h'.nx = h.nx + 1) (ha : ∀ b, 2 ≤ b → b < h.nx → ad' b = ad b) (hq : ad' h.nx = q) (hp : cE cy ad' h' h.nx = x) (ho : ∀ b, 2 ≤ b → b < h.nx → cE cy ad' h' b = cE cy ad h b) : wl cy ad h ++ [(q, x)] = wl cy ad' h' := by
  apply List.ext_getElem?
  intro k
  by_cases c : (k : Int) + 2 < h.nx
  · have e1 := wl_get (cy := cy) (ad := ad') (h := h') (p := (k : Int) + 2) (by omega) (by omega)
    have e2 := wl_get (cy := cy) (ad := ad) (h := h) (p := (k : Int) + 2) (by omega) c
    rw [show ((k : Int) + 2 - 2).toNat = k by omega] at e1 e2
    rw [e1, List.getElem?_append_left (by rw [wl_len]; omega), e2, ha _ (by omega) c, ho _ (by omega) c]
  · by_cases d : (k : Int) + 2 = h.nx
    · have e1 := wl_get (cy := cy) (ad := ad') (h := h') (p := (k : Int) + 2) (by omega) (by omega)
      rw [show ((k : Int) + 2 - 2).toNat = k by omega] at e1
      rw [e1, List.getElem?_append_right (by rw [wl_len]; omega), wl_len, show k - (h.nx - 2).toNat = 0 by omega, d, hq, hp]
      rfl
    · rw [List.getElem?_eq_none (by rw [List.length_append, wl_len, List.length_singleton]; omega), List.getElem?_eq_none (by rw [wl_len]; omega)]
theorem cR_up {ad ad' : Int → Nat} {nx x : Int} (ha : ∀ b, 0 ≤ b → b < nx → ad' b = ad b) (h0 : 0 ≤ x) (h1 : x < nx) : cR ad' x = cR ad x := by
  unfold cR; split
  · rfl
  · rw [ha x h0 h1]
theorem cV_up {ad ad' : Int → Nat} {nx : Int} {v : xV} (ha : ∀ b, 0 ≤ b → b < nx → ad' b = ad b) (h : xok nx v) : cV ad' v = cV ad v := by
  unfold cV
  by_cases c0 : v.1 = 0
  · rw [if_pos c0, if_pos c0]
  · rw [if_neg c0, if_neg c0]
    by_cases c1 : v.1 = 1
    · rw [if_pos c1, if_pos c1, cR_up ha (h.2.1 c1).1 (h.2.1 c1).2]
    · rw [if_neg c1, if_neg c1]
theorem cVs_up {ad ad' : Int → Nat} {nx : Int} {st : List xV} (ha : ∀ b, 0 ≤ b → b < nx → ad' b = ad b) (h : ∀ v ∈ st, xok nx v) : st.map (cV ad') = st.map (cV ad) := List.map_congr_left fun v hv => cV_up ha (h v hv)
theorem cE_up {cy : Int → ClassId} {ad ad' : Int → Nat} {h h' : xH} {b : Int} (ha : ∀ b, 0 ≤ b → b < h.nx → ad' b = ad b) (hr : ∀ k, 0 ≤ h.r b k ∧ h.r b k < h.nx) (ht : h'.tag b = h.tag b) (hl : h'.len b = h.len b) (hi : h'.i b = h.i b) (hr2 : h'.r b = h.r b) : cE cy ad' h' b = cE cy ad h b := by
  unfold cE cF
  rw [ht, hl, hi, hr2]
  have e : ∀ k : Int, cR ad' (h.r b k) = cR ad (h.r b k) := fun k => cR_up ha (hr k).1 (hr k).2
  simp only [e]
theorem cF_len (ad : Int → Nat) (h : xH) (t : Nat) (a : Int) : (cF ad h t a).length = vwN t := by unfold cF; simp
theorem cF_get {ad : Int → Nat} {h : xH} {t k : Nat} {a : Int} (hk : k < vwN t) : (cF ad h t a)[k]? = some (if xfK t k = 1 then va_rf (cR ad (h.r a k)) else .int (Int32.ofInt (h.i a k))) := by
  unfold cF; rw [List.getElem?_map, List.getElem?_range hk]; rfl
theorem cF_seti {ad : Int → Nat} {h : xH} {t k : Nat} {a v : Int} (hk : k < vwN t) (h1 : xfK t k ≠ 1) : (cF ad h t a).set k (.int (Int32.ofInt v)) = cF ad (h.wi a k v) t a := by
  apply List.ext_getElem?
  intro j
  by_cases c : j < vwN t
  · rw [cF_get c, List.getElem?_set]
    by_cases d : k = j
    · subst d
      rw [if_pos rfl, if_pos (by rw [cF_len]; exact hk), if_neg h1, xi_wi, if_pos ⟨rfl, rfl⟩]
    · rw [if_neg d, cF_get c, xi_wi, xr_wi]; simp only [show ¬ ((j : Int) = (k : Int)) by omega, and_false, if_false]
  · rw [List.getElem?_eq_none (by rw [List.length_set, cF_len]; omega), List.getElem?_eq_none (by rw [cF_len]; omega)]
theorem cF_setr {ad : Int → Nat} {h : xH} {t k : Nat} {a v : Int} (hk : k < vwN t) (h1 : xfK t k = 1) : (cF ad h t a).set k (va_rf (cR ad v)) = cF ad (h.wr a k v) t a := by
  apply List.ext_getElem?
  intro j
  by_cases c : j < vwN t
  · rw [cF_get c, List.getElem?_set]
    by_cases d : k = j
    · subst d
      rw [if_pos rfl, if_pos (by rw [cF_len]; exact hk), if_pos h1, xr_wr, if_pos ⟨rfl, rfl⟩]
    · rw [if_neg d, cF_get c, xi_wr, xr_wr]; simp only [show ¬ ((j : Int) = (k : Int)) by omega, and_false, if_false]
  · rw [List.getElem?_eq_none (by rw [List.length_set, cF_len]; omega), List.getElem?_eq_none (by rw [cF_len]; omega)]
-- numbers
theorem n_toInt {x : Int} (h : xrg x) : (Int32.ofInt x).toInt = x := by
  obtain ⟨h0, h1⟩ := h
  rw [Int32.toInt_ofInt, Int.bmod_def, show ((Int32.size : Nat) : Int) = 4294967296 from rfl]; split <;> omega
theorem n_ofInt (v : Int32) : Int32.ofInt v.toInt = v := Int32.ofInt_toInt v
theorem n_inj {x y : Int} (hx : xrg x) (hy : xrg y) : Int32.ofInt x = Int32.ofInt y ↔ x = y := ⟨fun e => by rw [← n_toInt hx, e, n_toInt hy], fun e => by rw [e]⟩
theorem n_lt {x y : Int} (hx : xrg x) (hy : xrg y) : Int32.ofInt x < Int32.ofInt y ↔ x < y := by rw [Int32.lt_iff_toInt_lt, n_toInt hx, n_toInt hy]
theorem n_le {x y : Int} (hx : xrg x) (hy : xrg y) : Int32.ofInt x ≤ Int32.ofInt y ↔ x ≤ y := by rw [Int32.le_iff_toInt_le, n_toInt hx, n_toInt hy]
theorem n_0 : Int32.ofInt 0 = 0 := rfl
theorem n_w (x : Int) : Int32.ofInt (xw x) = Int32.ofInt x := by
  apply Int32.toInt_inj.mp
  rw [n_toInt (rg_w x), Int32.toInt_ofInt, Int.bmod_def, show ((Int32.size : Nat) : Int) = 4294967296 from rfl]
  unfold xw
  split <;> omega
theorem n_add (x y : Int) : Int32.ofInt x + Int32.ofInt y = Int32.ofInt (xw (x + y)) := by rw [n_w, Int32.ofInt_add]
theorem n_sub (x y : Int) : Int32.ofInt x - Int32.ofInt y = Int32.ofInt (xw (x - y)) := by rw [n_w, Int32.ofInt_sub]
theorem n_mul (x y : Int) : Int32.ofInt x * Int32.ofInt y = Int32.ofInt (xw (x * y)) := by rw [n_w, Int32.ofInt_mul]
theorem n_clamp {x : Int} (h : xrg x) : (Int32.ofInt x).toNatClampNeg = x.toNat := by
  show (Int32.ofInt x).toInt.toNat = x.toNat
  rw [n_toInt h]
theorem n_in {x : Int} {n : Nat} (h : xrg x) (h0 : 0 ≤ x) (h1 : x < n) : vp_in (Int32.ofInt x) n := vp_in_iff.mpr (by rw [n_toInt h]; exact ⟨h0, h1⟩)
theorem n_len {n : Int} (h0 : 0 ≤ n) : Int32.ofNat n.toNat = Int32.ofInt n := by
  obtain ⟨k, rfl⟩ : ∃ k : Nat, n = k := ⟨n.toNat, by omega⟩
  rw [Int.toNat_natCast]; exact (Int32.ofInt_eq_ofNat).symm
theorem l_toInt {x : Int} (h : xrl x) : (Int64.ofInt x).toInt = x := by
  obtain ⟨h0, h1⟩ := h
  rw [Int64.toInt_ofInt, Int.bmod_def, show ((Int64.size : Nat) : Int) = 18446744073709551616 from rfl]; split <;> omega
theorem f_back {x : Int} (h0 : 0 ≤ x) (h1 : x < 4294967296) : xfu (xuf x) = x := by
  unfold xfu xuf
  rw [UInt32.toNat_ofNat_of_lt' (by show x.toNat < 4294967296; omega)]; omega
theorem f_fu (x : UInt32) : xuf (xfu x) = x := by unfold xfu xuf; simp
-- locals
def xLM (ad : Int → Nat) (ls : List xV) (la : Array Slot) : Prop := la.size = ls.length ∧ lv_wf la ∧ ∀ (j : Nat) (v : xV), ls[j]? = some v → v.1 ≠ 9 → la[j]? = some (.val (cV ad v))
def xlv (ad : Int → Nat) (ls : List xV) : List (Nat × Value) := ((List.range ls.length).filter (fun j => decide ((ls.getD j (9, 0)).1 ≠ 9))).map (fun j => (j, cV ad (ls.getD j (9, 0))))
theorem xlv_mem {ad : Int → Nat} {ls : List xV} {q : Nat × Value} : q ∈ xlv ad ls ↔ ∃ v : xV, ls[q.1]? = some v ∧ v.1 ≠ 9 ∧ q.2 = cV ad v := by
  unfold xlv
  rw [List.mem_map]
  constructor
  · rintro ⟨j, hj, rfl⟩
    rw [List.mem_filter, List.mem_range] at hj
    refine ⟨ls.getD j (9, 0), ?_, of_decide_eq_true hj.2, rfl⟩
    rw [List.getD_eq_getElem?_getD, List.getElem?_eq_getElem hj.1]; rfl
  · rintro ⟨v, h1, h2, h3⟩
    have hl := (List.getElem?_eq_some_iff.mp h1).1
    have e : ls.getD q.1 (9, 0) = v := by rw [List.getD_eq_getElem?_getD, h1]; rfl
    exact ⟨q.1, List.mem_filter.mpr ⟨List.mem_range.mpr hl, by rw [e]; exact decide_eq_true h2⟩, by rw [e, ← h3]⟩
theorem xLM_has {ad : Int → Nat} {ls : List xV} {la : Array Slot} {n : Nat} (h : xLM ad ls la) (hn : n = ls.length) : lv_has la n (xlv ad ls) := by
  refine ⟨hn ▸ h.1, h.2.1, fun q hq => ?_⟩
  obtain ⟨v, h1, h2, h3⟩ := xlv_mem.mp hq
  rw [h3]; exact h.2.2 _ v h1 h2
theorem cV_cat {ad : Int → Nat} {v : xV} (h : (cV ad v).category = 2) : v.1 ≠ 0 ∧ v.1 ≠ 1 ∧ v.1 ≠ 2 := by
  unfold cV at h
  refine ⟨fun e => ?_, fun e => ?_, fun e => ?_⟩
  · rw [if_pos e] at h; exact absurd h (fun q => by cases q)
  · rw [if_neg (by omega), if_pos e] at h
    unfold cR at h
    split at h
    · exact absurd h (by decide)
    · exact absurd h (fun q => by cases q)
  · rw [if_neg (by omega), if_neg (by omega), if_pos e] at h; exact absurd h (fun q => by cases q)
/-- after a store at place i of a value of one word -/
theorem xLM_st {ad : Int → Nat} {ls : List xV} {la' : Array Slot} {i : Nat} {v : xV} {w : Value} (hk : ∀ u ∈ ls, u.1 < 4 ∨ u.1 = 9) (hi : i < ls.length) (hw : w = cV ad v)
    (h : lv_has la' ls.length ((i, w) :: (xlv ad ls).filter (fun q => !(q.1 == i) && !(q.1 + 1 == i && q.2.category == 2)))) : xLM ad (xst ls i v) la' := by
  have hlen : (xst ls i v).length = ls.length := by cases i <;> simp [xst]
  refine ⟨by rw [h.1, hlen], h.2.1, fun j u hj hu => ?_⟩
  have hjl : j < ls.length := by rw [← hlen]; exact (List.getElem?_eq_some_iff.mp hj).1
  by_cases c : j = i
  · subst c
    have e : u = v := by
      cases j with
      | zero => simp only [xst] at hj; rw [List.getElem?_set] at hj; simp [hi] at hj; exact hj.symm
      | succ j => simp only [xst] at hj; rw [List.getElem?_set] at hj; simp [hi] at hj; exact hj.symm
    rw [e, ← hw]
    exact h.2.2 _ List.mem_cons_self
  · have hold : ls[j]? = some u ∧ ¬ (j + 1 = i ∧ u.1 = 3) := by
      cases i with
      | zero =>
        simp only [xst] at hj; rw [List.getElem?_set, if_neg (by omega)] at hj
        exact ⟨hj, by omega⟩
      | succ i =>
        simp only [xst] at hj; rw [List.getElem?_set, if_neg (by omega), List.getElem?_set] at hj
        by_cases d : i = j
        · subst d
          rw [if_pos rfl, if_pos hjl] at hj
          have e : ls[i]? = some (ls.getD i (9, 0)) := by rw [List.getD_eq_getElem?_getD, List.getElem?_eq_getElem hjl]; rfl
          have e2 := Option.some.inj hj
          unfold xkl at e2
          split at e2
          · rw [← e2] at hu; exact absurd rfl hu
          · rename_i n3; rw [← e2]; exact ⟨e, fun q => n3 q.2⟩
        · rw [if_neg d] at hj
          exact ⟨hj, by omega⟩
    refine h.2.2 (j, cV ad u) (List.mem_cons_of_mem _ (List.mem_filter.mpr ⟨xlv_mem.mpr ⟨u, hold.1, hu, rfl⟩, ?_⟩))
    simp only [Bool.and_eq_true, Bool.not_eq_true', beq_eq_false_iff_ne, Bool.and_eq_false_iff]
    refine ⟨c, ?_⟩
    by_cases d : j + 1 = i
    · right
      intro q
      have q2 := cV_cat q
      have := hk u (List.mem_of_getElem? hold.1)
      exact hold.2 ⟨d, by omega⟩
    · left; exact d
