/-! what is well formed stays so: numbers in their ranges, references to cells that are there, new cells empty -/
def xrg (x : Int) : Prop := -2147483648 ≤ x ∧ x < 2147483648
def xrl (x : Int) : Prop := -9223372036854775808 ≤ x ∧ x < 9223372036854775808
def xvt (t : Int) : Prop := (0 ≤ t ∧ t < 13) ∨ (20 ≤ t ∧ t < 25)
def xok (nx : Int) (v : xV) : Prop := (v.1 = 0 → xrg v.2) ∧ (v.1 = 1 → 0 ≤ v.2 ∧ v.2 < nx) ∧ (v.1 = 2 → 0 ≤ v.2 ∧ v.2 < 4294967296) ∧ (v.1 = 3 → xrl v.2)
def xG (h : xH) : Prop := 2 ≤ h.nx ∧ (∀ a, 2 ≤ a → a < h.nx → xvt (h.tag a)) ∧ (∀ a, a < 1 ∨ h.nx ≤ a → h.tag a = -1) ∧ h.tag 1 = 30 ∧ (∀ a, 0 ≤ h.len a ∧ h.len a ≤ 7302250) ∧ (∀ a k, xrg (h.i a k)) ∧ (∀ a k, 0 ≤ h.r a k ∧ h.r a k < h.nx) ∧ (∀ a k, h.nx ≤ a → h.i a k = 0 ∧ h.r a k = 0)
def xI (h : xH) (ls st : List xV) : Prop := xG h ∧ (∀ v ∈ ls, xok h.nx v) ∧ (∀ v ∈ st, xok h.nx v)
/-- what an op says of its own numbers -/
def xopok (q : xOp) : Bool :=
  if q.1 = 1 then decide (-2147483648 ≤ q.2.1 ∧ q.2.1 < 2147483648) else
  if q.1 = 21 then decide (0 ≤ q.2.1 ∧ q.2.1 < 13) else
  if q.1 = 23 then decide (q.2.1 = 20 ∨ q.2.1 = 21 ∨ q.2.1 = 22) else
  if q.1 = 25 then decide (q.2.1 = 23 ∨ q.2.1 = 24) else
  if q.1 = 27 then decide (20 ≤ q.2.1 ∧ q.2.1 < 25) else
  if q.1 = 29 then decide (0 ≤ q.2.1 ∧ q.2.1 < 13 ∧ 0 ≤ q.2.2.1 ∧ q.2.2.1 ≤ 1000) else
  if q.1 = 40 then decide (-9223372036854775808 ≤ q.2.1 ∧ q.2.1 < 9223372036854775808) else
  if q.1 = 80 then decide (0 ≤ q.2.1 ∧ q.2.1 < 4294967296) else true
theorem rg_32 (x : Int32) : xrg x.toInt := ⟨Int32.le_toInt x, Int32.toInt_lt x⟩
theorem rl_64 (x : Int64) : xrl x.toInt := ⟨Int64.le_toInt x, Int64.toInt_lt x⟩
theorem rg_w (x : Int) : xrg (xw x) := by unfold xrg xw; omega
theorem rg_w8 (x : Int) : xrg (xw8 x) := by unfold xrg xw8; omega
theorem ok_0 {nx x : Int} (h : xrg x) : xok nx (0, x) := ⟨fun _ => h, fun e => absurd e (of_decide_eq_true rfl), fun e => absurd e (of_decide_eq_true rfl), fun e => absurd e (of_decide_eq_true rfl)⟩
theorem ok_1 {nx x : Int} (h0 : 0 ≤ x) (h1 : x < nx) : xok nx (1, x) := ⟨fun e => absurd e (of_decide_eq_true rfl), fun _ => ⟨h0, h1⟩, fun e => absurd e (of_decide_eq_true rfl), fun e => absurd e (of_decide_eq_true rfl)⟩
theorem ok_2 {nx x : Int} (h0 : 0 ≤ x) (h1 : x < 4294967296) : xok nx (2, x) := ⟨fun e => absurd e (of_decide_eq_true rfl), fun e => absurd e (of_decide_eq_true rfl), fun _ => ⟨h0, h1⟩, fun e => absurd e (of_decide_eq_true rfl)⟩
theorem ok_3 {nx x : Int} (h : xrl x) : xok nx (3, x) := ⟨fun e => absurd e (of_decide_eq_true rfl), fun e => absurd e (of_decide_eq_true rfl), fun e => absurd e (of_decide_eq_true rfl), fun _ => h⟩
theorem ok_9 {nx x : Int} : xok nx (9, x) := ⟨fun e => absurd e (of_decide_eq_true rfl), fun e => absurd e (of_decide_eq_true rfl), fun e => absurd e (of_decide_eq_true rfl), fun e => absurd e (of_decide_eq_true rfl)⟩
theorem ok_f {nx : Int} (x : UInt32) : xok nx (2, xfu x) := ok_2 (by unfold xfu; omega) (by unfold xfu; have := x.toNat_lt; omega)
theorem ok_up {nx nx' : Int} {v : xV} (h : xok nx v) (hn : nx ≤ nx') : xok nx' v := ⟨h.1, fun e => ⟨(h.2.1 e).1, by have := (h.2.1 e).2; omega⟩, h.2.2⟩
theorem ok_kl {nx : Int} {v : xV} (h : xok nx v) : xok nx (xkl v) := by unfold xkl; split; exact ok_9; exact h
theorem ok_set {nx : Int} {ls : List xV} {v : xV} {i : Nat} (h : ∀ w ∈ ls, xok nx w) (hv : xok nx v) : ∀ w ∈ ls.set i v, xok nx w := fun w hw => (List.mem_or_eq_of_mem_set hw).elim (h w) (fun e => e ▸ hv)
theorem ok_getD {nx : Int} {ls : List xV} {i : Nat} (h : ∀ w ∈ ls, xok nx w) : xok nx (ls.getD i (9, 0)) := by
  rw [List.getD_eq_getElem?_getD]
  cases e : ls[i]? with
  | none => exact ok_9
  | some v => exact h v (List.mem_of_getElem? e)
theorem ok_st {nx : Int} {ls : List xV} {v : xV} {i : Nat} (h : ∀ w ∈ ls, xok nx w) (hv : xok nx v) : ∀ w ∈ xst ls i v, xok nx w := by
  cases i with
  | zero => exact ok_set h hv
  | succ j => exact ok_set (ok_set h (ok_kl (ok_getD h))) hv
theorem ok_t {nx : Int} {st : List xV} {v : xV} (h : ∀ w ∈ v :: st, xok nx w) : ∀ w ∈ st, xok nx w := fun w hw => h w (List.mem_cons_of_mem _ hw)
theorem ok_h {nx : Int} {st : List xV} {v : xV} (h : ∀ w ∈ v :: st, xok nx w) : xok nx v := h v List.mem_cons_self
theorem ok_c {nx : Int} {st : List xV} {v : xV} (hv : xok nx v) (h : ∀ w ∈ st, xok nx w) : ∀ w ∈ v :: st, xok nx w := fun w hw => (List.mem_cons.mp hw).elim (fun e => e ▸ hv) (h w)
theorem ok_ups {nx nx' : Int} {st : List xV} (h : ∀ w ∈ st, xok nx w) (hn : nx ≤ nx') : ∀ w ∈ st, xok nx' w := fun w hw => ok_up (h w hw) hn
/-- a cell of a valid tag is there -/
theorem xG_at {h : xH} (g : xG h) {p t : Int} (ht : h.tag p = t) (hv : xvt t) : 2 ≤ p ∧ p < h.nx := by
  obtain ⟨g1, g2, g3, g4, -⟩ := g
  by_cases c : p < 1 ∨ h.nx ≤ p
  · have := g3 p c; unfold xvt at hv; omega
  · by_cases c1 : p = 1
    · subst c1; unfold xvt at hv; omega
    · omega
theorem xG_wi {h : xH} (g : xG h) {p k v : Int} (hp : p < h.nx) (hv : xrg v) : xG (h.wi p k v) := by
  obtain ⟨g1, g2, g3, g4, g5, g6, g7, g8⟩ := g
  refine ⟨g1, g2, g3, g4, g5, fun a j => ?_, g7, fun a j ha => ⟨?_, (g8 a j ha).2⟩⟩
  · rw [xi_wi]; split; exact hv; exact g6 a j
  · rw [xi_wi]; split
    · rename_i e; rw [xn_wi] at ha; omega
    · exact (g8 a j ha).1
theorem xG_wr {h : xH} (g : xG h) {p k v : Int} (hp : p < h.nx) (hv : 0 ≤ v ∧ v < h.nx) : xG (h.wr p k v) := by
  obtain ⟨g1, g2, g3, g4, g5, g6, g7, g8⟩ := g
  refine ⟨g1, g2, g3, g4, g5, g6, fun a j => ?_, fun a j ha => ⟨(g8 a j ha).1, ?_⟩⟩
  · rw [xr_wr]; split; exact hv; exact g7 a j
  · rw [xr_wr]; split
    · rename_i e; rw [xn_wr] at ha; omega
    · exact (g8 a j ha).2
theorem xG_al {h : xH} (g : xG h) {t n : Int} (ht : xvt t) (h0 : 0 ≤ n) (h1 : n ≤ 7302250) : xG (h.al t n) := by
  obtain ⟨g1, g2, g3, g4, g5, g6, g7, g8⟩ := g
  refine ⟨by rw [xn_al]; omega, fun a h2 h3 => ?_, fun a ha => ?_, ?_, fun a => ?_, g6, fun a k => ⟨(g7 a k).1, ?_⟩, fun a k ha => g8 a k ?_⟩
  · rw [xt_al]; split; exact ht; rw [xn_al] at h3; exact g2 a h2 (by omega)
  · rw [xt_al]; rw [xn_al] at ha; rw [if_neg (by omega)]; exact g3 a (by omega)
  · rw [xt_al, if_neg (by omega)]; exact g4
  · rw [xl_al]; split; exact ⟨h0, h1⟩; exact g5 a
  · have := (g7 a k).2; rw [xn_al, xr_al]; omega
  · rw [xn_al] at ha; omega
theorem xG_cp {h : xH} (g : xG h) {s sp d dp n : Int} (hd : d < h.nx) : xG (h.cp s sp d dp n) := by
  obtain ⟨g1, g2, g3, g4, g5, g6, g7, g8⟩ := g
  refine ⟨g1, g2, g3, g4, g5, fun a j => ?_, g7, fun a j ha => ⟨?_, (g8 a j ha).2⟩⟩
  · rw [xi_cp]; split
    · unfold xcp; split; exact g6 _ _; exact g6 _ _
    · exact g6 _ _
  · rw [xn_cp] at ha; rw [xi_cp, if_neg (by omega)]; exact (g8 a j ha).1
section ST
variable {sw : Nat → List Int} {o : xOp} {k k' : Nat} {ls ls' st st' : List xV} {h h' : xH}
abbrev xIg (h h' : xH) (ls' st' : List xV) : Prop := xI h' ls' st' ∧ h.nx ≤ h'.nx ∧ h.us ≤ h'.us
theorem so_1 (hc : o.1 = 1) (ho : xopok o = true) (I : xI h ls st) (hs : xstp sw o k ls st h = some (k', ls', st', h')) : xIg h h' ls' st' := by
  obtain ⟨G, L, S⟩ := I
  unfold xstp at hs
  simp only [hc, if_true, if_false, Nat.reduceEqDiff] at hs
  simp only [Option.some.injEq, Prod.mk.injEq] at hs
  obtain ⟨rfl, rfl, rfl, rfl⟩ := hs
  exact ⟨⟨G, L, ok_c (ok_0 (by unfold xopok at ho; simp [hc] at ho; exact ho)) S⟩, Int.le_refl _, Int.le_refl _⟩
theorem so_15 (hc : o.1 = 15) (ho : xopok o = true) (I : xI h ls st) (hs : xstp sw o k ls st h = some (k', ls', st', h')) : xIg h h' ls' st' := by
  obtain ⟨G, L, S⟩ := I
  unfold xstp at hs
  simp only [hc, if_true, if_false, Nat.reduceEqDiff] at hs
  simp only [Option.some.injEq, Prod.mk.injEq] at hs
  obtain ⟨rfl, rfl, rfl, rfl⟩ := hs
  exact ⟨⟨G, L, S⟩, Int.le_refl _, Int.le_refl _⟩
theorem so_19 (hc : o.1 = 19) (ho : xopok o = true) (I : xI h ls st) (hs : xstp sw o k ls st h = some (k', ls', st', h')) : xIg h h' ls' st' := by
  obtain ⟨G, L, S⟩ := I
  unfold xstp at hs
  simp only [hc, if_true, if_false, Nat.reduceEqDiff] at hs
  simp only [Option.some.injEq, Prod.mk.injEq] at hs
  obtain ⟨rfl, rfl, rfl, rfl⟩ := hs
  exact ⟨⟨G, L, ok_c (ok_1 (Int.le_refl 0) (by have := G.1; omega)) S⟩, Int.le_refl _, Int.le_refl _⟩
theorem so_40 (hc : o.1 = 40) (ho : xopok o = true) (I : xI h ls st) (hs : xstp sw o k ls st h = some (k', ls', st', h')) : xIg h h' ls' st' := by
  obtain ⟨G, L, S⟩ := I
  unfold xstp at hs
  simp only [hc, if_true, if_false, Nat.reduceEqDiff] at hs
  simp only [Option.some.injEq, Prod.mk.injEq] at hs
  obtain ⟨rfl, rfl, rfl, rfl⟩ := hs
  exact ⟨⟨G, L, ok_c (ok_3 (by unfold xopok at ho; simp [hc] at ho; exact ho)) S⟩, Int.le_refl _, Int.le_refl _⟩
theorem so_80 (hc : o.1 = 80) (ho : xopok o = true) (I : xI h ls st) (hs : xstp sw o k ls st h = some (k', ls', st', h')) : xIg h h' ls' st' := by
  obtain ⟨G, L, S⟩ := I
  unfold xstp at hs
  simp only [hc, if_true, if_false, Nat.reduceEqDiff] at hs
  simp only [Option.some.injEq, Prod.mk.injEq] at hs
  obtain ⟨rfl, rfl, rfl, rfl⟩ := hs
  exact ⟨⟨G, L, ok_c (ok_2 (by unfold xopok at ho; simp [hc] at ho; exact ho.1) (by unfold xopok at ho; simp [hc] at ho; exact ho.2)) S⟩, Int.le_refl _, Int.le_refl _⟩
theorem so_50 (hc : o.1 = 50) (ho : xopok o = true) (I : xI h ls st) (hs : xstp sw o k ls st h = some (k', ls', st', h')) : xIg h h' ls' st' := by
  obtain ⟨G, L, S⟩ := I
  unfold xstp at hs
  simp only [hc, if_true, if_false, Nat.reduceEqDiff] at hs
  split at hs
  · simp only [Option.some.injEq, Prod.mk.injEq] at hs
    obtain ⟨rfl, rfl, rfl, rfl⟩ := hs
    exact ⟨⟨G, L, ok_c (ok_0 (rg_w _)) (ok_t (ok_t S))⟩, Int.le_refl _, Int.le_refl _⟩
  · cases hs
theorem so_51 (hc : o.1 = 51) (ho : xopok o = true) (I : xI h ls st) (hs : xstp sw o k ls st h = some (k', ls', st', h')) : xIg h h' ls' st' := by
  obtain ⟨G, L, S⟩ := I
  unfold xstp at hs
  simp only [hc, if_true, if_false, Nat.reduceEqDiff] at hs
  split at hs
  · simp only [Option.some.injEq, Prod.mk.injEq] at hs
    obtain ⟨rfl, rfl, rfl, rfl⟩ := hs
    exact ⟨⟨G, L, ok_c (ok_0 (rg_w _)) (ok_t (ok_t S))⟩, Int.le_refl _, Int.le_refl _⟩
  · cases hs
theorem so_52 (hc : o.1 = 52) (ho : xopok o = true) (I : xI h ls st) (hs : xstp sw o k ls st h = some (k', ls', st', h')) : xIg h h' ls' st' := by
  obtain ⟨G, L, S⟩ := I
  unfold xstp at hs
  simp only [hc, if_true, if_false, Nat.reduceEqDiff] at hs
  split at hs
  · simp only [Option.some.injEq, Prod.mk.injEq] at hs
    obtain ⟨rfl, rfl, rfl, rfl⟩ := hs
    exact ⟨⟨G, L, ok_c (ok_0 (rg_w _)) (ok_t (ok_t S))⟩, Int.le_refl _, Int.le_refl _⟩
  · cases hs
theorem so_53 (hc : o.1 = 53) (ho : xopok o = true) (I : xI h ls st) (hs : xstp sw o k ls st h = some (k', ls', st', h')) : xIg h h' ls' st' := by
  obtain ⟨G, L, S⟩ := I
  unfold xstp at hs
  simp only [hc, if_true, if_false, Nat.reduceEqDiff] at hs
  split at hs
  · simp only [Option.some.injEq, Prod.mk.injEq] at hs
    obtain ⟨rfl, rfl, rfl, rfl⟩ := hs
    exact ⟨⟨G, L, ok_c (ok_0 (rg_32 _)) (ok_t (ok_t S))⟩, Int.le_refl _, Int.le_refl _⟩
  · cases hs
theorem so_54 (hc : o.1 = 54) (ho : xopok o = true) (I : xI h ls st) (hs : xstp sw o k ls st h = some (k', ls', st', h')) : xIg h h' ls' st' := by
  obtain ⟨G, L, S⟩ := I
  unfold xstp at hs
  simp only [hc, if_true, if_false, Nat.reduceEqDiff] at hs
  split at hs
  · simp only [Option.some.injEq, Prod.mk.injEq] at hs
    obtain ⟨rfl, rfl, rfl, rfl⟩ := hs
    exact ⟨⟨G, L, ok_c (ok_0 (rg_32 _)) (ok_t (ok_t S))⟩, Int.le_refl _, Int.le_refl _⟩
  · cases hs
theorem so_55 (hc : o.1 = 55) (ho : xopok o = true) (I : xI h ls st) (hs : xstp sw o k ls st h = some (k', ls', st', h')) : xIg h h' ls' st' := by
  obtain ⟨G, L, S⟩ := I
  unfold xstp at hs
  simp only [hc, if_true, if_false, Nat.reduceEqDiff] at hs
  split at hs
  · simp only [Option.some.injEq, Prod.mk.injEq] at hs
    obtain ⟨rfl, rfl, rfl, rfl⟩ := hs
    exact ⟨⟨G, L, ok_c (ok_0 (rg_32 _)) (ok_t (ok_t S))⟩, Int.le_refl _, Int.le_refl _⟩
  · cases hs
theorem so_56 (hc : o.1 = 56) (ho : xopok o = true) (I : xI h ls st) (hs : xstp sw o k ls st h = some (k', ls', st', h')) : xIg h h' ls' st' := by
  obtain ⟨G, L, S⟩ := I
  unfold xstp at hs
  simp only [hc, if_true, if_false, Nat.reduceEqDiff] at hs
  split at hs
  · simp only [Option.some.injEq, Prod.mk.injEq] at hs
    obtain ⟨rfl, rfl, rfl, rfl⟩ := hs
    exact ⟨⟨G, L, ok_c (ok_0 (rg_32 _)) (ok_t (ok_t S))⟩, Int.le_refl _, Int.le_refl _⟩
  · cases hs
theorem so_57 (hc : o.1 = 57) (ho : xopok o = true) (I : xI h ls st) (hs : xstp sw o k ls st h = some (k', ls', st', h')) : xIg h h' ls' st' := by
  obtain ⟨G, L, S⟩ := I
  unfold xstp at hs
  simp only [hc, if_true, if_false, Nat.reduceEqDiff] at hs
  split at hs
  · simp only [Option.some.injEq, Prod.mk.injEq] at hs
    obtain ⟨rfl, rfl, rfl, rfl⟩ := hs
    exact ⟨⟨G, L, ok_c (ok_0 (rg_32 _)) (ok_t (ok_t S))⟩, Int.le_refl _, Int.le_refl _⟩
  · cases hs
theorem so_58 (hc : o.1 = 58) (ho : xopok o = true) (I : xI h ls st) (hs : xstp sw o k ls st h = some (k', ls', st', h')) : xIg h h' ls' st' := by
  obtain ⟨G, L, S⟩ := I
  unfold xstp at hs
  simp only [hc, if_true, if_false, Nat.reduceEqDiff] at hs
  split at hs
  · simp only [Option.some.injEq, Prod.mk.injEq] at hs
    obtain ⟨rfl, rfl, rfl, rfl⟩ := hs
    exact ⟨⟨G, L, ok_c (ok_0 (rg_32 _)) (ok_t (ok_t S))⟩, Int.le_refl _, Int.le_refl _⟩
  · cases hs
theorem so_59 (hc : o.1 = 59) (ho : xopok o = true) (I : xI h ls st) (hs : xstp sw o k ls st h = some (k', ls', st', h')) : xIg h h' ls' st' := by
  obtain ⟨G, L, S⟩ := I
  unfold xstp at hs
  simp only [hc, if_true, if_false, Nat.reduceEqDiff] at hs
  split at hs
  · split at hs
    · cases hs
    · rename_i q
      simp only [Option.some.injEq, Prod.mk.injEq] at hs
      obtain ⟨rfl, rfl, rfl, rfl⟩ := hs
      exact ⟨⟨G, L, ok_c (ok_0 (rg_32 _)) (ok_t (ok_t S))⟩, Int.le_refl _, Int.le_refl _⟩
  · cases hs
theorem so_60 (hc : o.1 = 60) (ho : xopok o = true) (I : xI h ls st) (hs : xstp sw o k ls st h = some (k', ls', st', h')) : xIg h h' ls' st' := by
  obtain ⟨G, L, S⟩ := I
  unfold xstp at hs
  simp only [hc, if_true, if_false, Nat.reduceEqDiff] at hs
  split at hs
  · split at hs
    · cases hs
    · rename_i q
      simp only [Option.some.injEq, Prod.mk.injEq] at hs
      obtain ⟨rfl, rfl, rfl, rfl⟩ := hs
      exact ⟨⟨G, L, ok_c (ok_0 (rg_32 _)) (ok_t (ok_t S))⟩, Int.le_refl _, Int.le_refl _⟩
  · cases hs
theorem so_61 (hc : o.1 = 61) (ho : xopok o = true) (I : xI h ls st) (hs : xstp sw o k ls st h = some (k', ls', st', h')) : xIg h h' ls' st' := by
  obtain ⟨G, L, S⟩ := I
  unfold xstp at hs
  simp only [hc, if_true, if_false, Nat.reduceEqDiff] at hs
  split at hs
  · simp only [Option.some.injEq, Prod.mk.injEq] at hs
    obtain ⟨rfl, rfl, rfl, rfl⟩ := hs
    exact ⟨⟨G, L, ok_c (ok_0 (rg_w8 _)) (ok_t S)⟩, Int.le_refl _, Int.le_refl _⟩
  · cases hs
theorem so_70 (hc : o.1 = 70) (ho : xopok o = true) (I : xI h ls st) (hs : xstp sw o k ls st h = some (k', ls', st', h')) : xIg h h' ls' st' := by
  obtain ⟨G, L, S⟩ := I
  unfold xstp at hs
  simp only [hc, if_true, if_false, Nat.reduceEqDiff] at hs
  split at hs
  · split at hs
    · cases hs
    · rename_i q
      simp only [Option.some.injEq, Prod.mk.injEq] at hs
      obtain ⟨rfl, rfl, rfl, rfl⟩ := hs
      exact ⟨⟨G, L, ok_c (ok_h S) S⟩, Int.le_refl _, Int.le_refl _⟩
  · cases hs
theorem so_71 (hc : o.1 = 71) (ho : xopok o = true) (I : xI h ls st) (hs : xstp sw o k ls st h = some (k', ls', st', h')) : xIg h h' ls' st' := by
  obtain ⟨G, L, S⟩ := I
  unfold xstp at hs
  simp only [hc, if_true, if_false, Nat.reduceEqDiff] at hs
  split at hs
  · split at hs
    · cases hs
    · rename_i q
      simp only [Option.some.injEq, Prod.mk.injEq] at hs
      obtain ⟨rfl, rfl, rfl, rfl⟩ := hs
      exact ⟨⟨G, L, ok_c (ok_h S) (ok_c (ok_h (ok_t S)) S)⟩, Int.le_refl _, Int.le_refl _⟩
  · cases hs
theorem so_72 (hc : o.1 = 72) (ho : xopok o = true) (I : xI h ls st) (hs : xstp sw o k ls st h = some (k', ls', st', h')) : xIg h h' ls' st' := by
  obtain ⟨G, L, S⟩ := I
  unfold xstp at hs
  simp only [hc, if_true, if_false, Nat.reduceEqDiff] at hs
  split at hs
  · split at hs
    · cases hs
    · rename_i q
      simp only [Option.some.injEq, Prod.mk.injEq] at hs
      obtain ⟨rfl, rfl, rfl, rfl⟩ := hs
      exact ⟨⟨G, L, ok_c (ok_h S) (ok_c (ok_h (ok_t S)) (ok_c (ok_h S) (ok_t (ok_t S))))⟩, Int.le_refl _, Int.le_refl _⟩
  · cases hs
theorem so_73 (hc : o.1 = 73) (ho : xopok o = true) (I : xI h ls st) (hs : xstp sw o k ls st h = some (k', ls', st', h')) : xIg h h' ls' st' := by
  obtain ⟨G, L, S⟩ := I
  unfold xstp at hs
  simp only [hc, if_true, if_false, Nat.reduceEqDiff] at hs
  split at hs
  · split at hs
    · cases hs
    · rename_i q
      simp only [Option.some.injEq, Prod.mk.injEq] at hs
      obtain ⟨rfl, rfl, rfl, rfl⟩ := hs
      exact ⟨⟨G, L, ok_t S⟩, Int.le_refl _, Int.le_refl _⟩
  · cases hs
theorem so_130 (hc : o.1 = 130) (ho : xopok o = true) (I : xI h ls st) (hs : xstp sw o k ls st h = some (k', ls', st', h')) : xIg h h' ls' st' := by
  obtain ⟨G, L, S⟩ := I
  unfold xstp at hs
  simp only [hc, if_true, if_false, Nat.reduceEqDiff] at hs
  split at hs
  · simp only [Option.some.injEq, Prod.mk.injEq] at hs
    obtain ⟨rfl, rfl, rfl, rfl⟩ := hs
    exact ⟨⟨G, L, ok_t S⟩, Int.le_refl _, Int.le_refl _⟩
  · cases hs
theorem so_131 (hc : o.1 = 131) (ho : xopok o = true) (I : xI h ls st) (hs : xstp sw o k ls st h = some (k', ls', st', h')) : xIg h h' ls' st' := by
  obtain ⟨G, L, S⟩ := I
  unfold xstp at hs
  simp only [hc, if_true, if_false, Nat.reduceEqDiff] at hs
  split at hs
  · simp only [Option.some.injEq, Prod.mk.injEq] at hs
    obtain ⟨rfl, rfl, rfl, rfl⟩ := hs
    exact ⟨⟨G, L, ok_t S⟩, Int.le_refl _, Int.le_refl _⟩
  · cases hs
theorem so_132 (hc : o.1 = 132) (ho : xopok o = true) (I : xI h ls st) (hs : xstp sw o k ls st h = some (k', ls', st', h')) : xIg h h' ls' st' := by
  obtain ⟨G, L, S⟩ := I
  unfold xstp at hs
  simp only [hc, if_true, if_false, Nat.reduceEqDiff] at hs
  split at hs
  · simp only [Option.some.injEq, Prod.mk.injEq] at hs
    obtain ⟨rfl, rfl, rfl, rfl⟩ := hs
    exact ⟨⟨G, L, ok_t S⟩, Int.le_refl _, Int.le_refl _⟩
  · cases hs
theorem so_133 (hc : o.1 = 133) (ho : xopok o = true) (I : xI h ls st) (hs : xstp sw o k ls st h = some (k', ls', st', h')) : xIg h h' ls' st' := by
  obtain ⟨G, L, S⟩ := I
  unfold xstp at hs
  simp only [hc, if_true, if_false, Nat.reduceEqDiff] at hs
  split at hs
  · simp only [Option.some.injEq, Prod.mk.injEq] at hs
    obtain ⟨rfl, rfl, rfl, rfl⟩ := hs
    exact ⟨⟨G, L, ok_t S⟩, Int.le_refl _, Int.le_refl _⟩
  · cases hs
theorem so_134 (hc : o.1 = 134) (ho : xopok o = true) (I : xI h ls st) (hs : xstp sw o k ls st h = some (k', ls', st', h')) : xIg h h' ls' st' := by
  obtain ⟨G, L, S⟩ := I
  unfold xstp at hs
  simp only [hc, if_true, if_false, Nat.reduceEqDiff] at hs
  split at hs
  · simp only [Option.some.injEq, Prod.mk.injEq] at hs
    obtain ⟨rfl, rfl, rfl, rfl⟩ := hs
    exact ⟨⟨G, L, ok_t S⟩, Int.le_refl _, Int.le_refl _⟩
  · cases hs
theorem so_135 (hc : o.1 = 135) (ho : xopok o = true) (I : xI h ls st) (hs : xstp sw o k ls st h = some (k', ls', st', h')) : xIg h h' ls' st' := by
  obtain ⟨G, L, S⟩ := I
  unfold xstp at hs
  simp only [hc, if_true, if_false, Nat.reduceEqDiff] at hs
  split at hs
  · simp only [Option.some.injEq, Prod.mk.injEq] at hs
    obtain ⟨rfl, rfl, rfl, rfl⟩ := hs
    exact ⟨⟨G, L, ok_t S⟩, Int.le_refl _, Int.le_refl _⟩
  · cases hs
theorem so_140 (hc : o.1 = 140) (ho : xopok o = true) (I : xI h ls st) (hs : xstp sw o k ls st h = some (k', ls', st', h')) : xIg h h' ls' st' := by
  obtain ⟨G, L, S⟩ := I
  unfold xstp at hs
  simp only [hc, if_true, if_false, Nat.reduceEqDiff] at hs
  split at hs
  · simp only [Option.some.injEq, Prod.mk.injEq] at hs
    obtain ⟨rfl, rfl, rfl, rfl⟩ := hs
    exact ⟨⟨G, L, ok_t (ok_t S)⟩, Int.le_refl _, Int.le_refl _⟩
  · cases hs
theorem so_141 (hc : o.1 = 141) (ho : xopok o = true) (I : xI h ls st) (hs : xstp sw o k ls st h = some (k', ls', st', h')) : xIg h h' ls' st' := by
  obtain ⟨G, L, S⟩ := I
  unfold xstp at hs
  simp only [hc, if_true, if_false, Nat.reduceEqDiff] at hs
  split at hs
  · simp only [Option.some.injEq, Prod.mk.injEq] at hs
    obtain ⟨rfl, rfl, rfl, rfl⟩ := hs
    exact ⟨⟨G, L, ok_t (ok_t S)⟩, Int.le_refl _, Int.le_refl _⟩
  · cases hs
theorem so_142 (hc : o.1 = 142) (ho : xopok o = true) (I : xI h ls st) (hs : xstp sw o k ls st h = some (k', ls', st', h')) : xIg h h' ls' st' := by
  obtain ⟨G, L, S⟩ := I
  unfold xstp at hs
  simp only [hc, if_true, if_false, Nat.reduceEqDiff] at hs
  split at hs
  · simp only [Option.some.injEq, Prod.mk.injEq] at hs
    obtain ⟨rfl, rfl, rfl, rfl⟩ := hs
    exact ⟨⟨G, L, ok_t (ok_t S)⟩, Int.le_refl _, Int.le_refl _⟩
  · cases hs
theorem so_143 (hc : o.1 = 143) (ho : xopok o = true) (I : xI h ls st) (hs : xstp sw o k ls st h = some (k', ls', st', h')) : xIg h h' ls' st' := by
  obtain ⟨G, L, S⟩ := I
  unfold xstp at hs
  simp only [hc, if_true, if_false, Nat.reduceEqDiff] at hs
  split at hs
  · simp only [Option.some.injEq, Prod.mk.injEq] at hs
    obtain ⟨rfl, rfl, rfl, rfl⟩ := hs
    exact ⟨⟨G, L, ok_t (ok_t S)⟩, Int.le_refl _, Int.le_refl _⟩
  · cases hs
theorem so_144 (hc : o.1 = 144) (ho : xopok o = true) (I : xI h ls st) (hs : xstp sw o k ls st h = some (k', ls', st', h')) : xIg h h' ls' st' := by
  obtain ⟨G, L, S⟩ := I
  unfold xstp at hs
  simp only [hc, if_true, if_false, Nat.reduceEqDiff] at hs
  split at hs
  · simp only [Option.some.injEq, Prod.mk.injEq] at hs
    obtain ⟨rfl, rfl, rfl, rfl⟩ := hs
    exact ⟨⟨G, L, ok_t (ok_t S)⟩, Int.le_refl _, Int.le_refl _⟩
  · cases hs
theorem so_145 (hc : o.1 = 145) (ho : xopok o = true) (I : xI h ls st) (hs : xstp sw o k ls st h = some (k', ls', st', h')) : xIg h h' ls' st' := by
  obtain ⟨G, L, S⟩ := I
  unfold xstp at hs
  simp only [hc, if_true, if_false, Nat.reduceEqDiff] at hs
  split at hs
  · simp only [Option.some.injEq, Prod.mk.injEq] at hs
    obtain ⟨rfl, rfl, rfl, rfl⟩ := hs
    exact ⟨⟨G, L, ok_t (ok_t S)⟩, Int.le_refl _, Int.le_refl _⟩
  · cases hs
theorem so_17 (hc : o.1 = 17) (ho : xopok o = true) (I : xI h ls st) (hs : xstp sw o k ls st h = some (k', ls', st', h')) : xIg h h' ls' st' := by
  obtain ⟨G, L, S⟩ := I
  unfold xstp at hs
  simp only [hc, if_true, if_false, Nat.reduceEqDiff] at hs
  split at hs
  · simp only [Option.some.injEq, Prod.mk.injEq] at hs
    obtain ⟨rfl, rfl, rfl, rfl⟩ := hs
    exact ⟨⟨G, L, ok_t S⟩, Int.le_refl _, Int.le_refl _⟩
  · cases hs
theorem so_18 (hc : o.1 = 18) (ho : xopok o = true) (I : xI h ls st) (hs : xstp sw o k ls st h = some (k', ls', st', h')) : xIg h h' ls' st' := by
  obtain ⟨G, L, S⟩ := I
  unfold xstp at hs
  simp only [hc, if_true, if_false, Nat.reduceEqDiff] at hs
  split at hs
  · simp only [Option.some.injEq, Prod.mk.injEq] at hs
    obtain ⟨rfl, rfl, rfl, rfl⟩ := hs
    exact ⟨⟨G, L, ok_t S⟩, Int.le_refl _, Int.le_refl _⟩
  · cases hs
theorem so_16 (hc : o.1 = 16) (ho : xopok o = true) (I : xI h ls st) (hs : xstp sw o k ls st h = some (k', ls', st', h')) : xIg h h' ls' st' := by
  obtain ⟨G, L, S⟩ := I
  unfold xstp at hs
  simp only [hc, if_true, if_false, Nat.reduceEqDiff] at hs
  split at hs
  · split at hs
    · simp only [Option.some.injEq, Prod.mk.injEq] at hs
      obtain ⟨rfl, rfl, rfl, rfl⟩ := hs
      exact ⟨⟨G, L, ok_t S⟩, Int.le_refl _, Int.le_refl _⟩
    · simp only [Option.some.injEq, Prod.mk.injEq] at hs
      obtain ⟨rfl, rfl, rfl, rfl⟩ := hs
      exact ⟨⟨G, L, ok_t S⟩, Int.le_refl _, Int.le_refl _⟩
  · cases hs
theorem so_2 (hc : o.1 = 2) (ho : xopok o = true) (I : xI h ls st) (hs : xstp sw o k ls st h = some (k', ls', st', h')) : xIg h h' ls' st' := by
  obtain ⟨G, L, S⟩ := I
  unfold xstp at hs
  simp only [hc, if_true, if_false, Nat.reduceEqDiff] at hs
  split at hs
  · rename_i v e
    split at hs
    · simp only [Option.some.injEq, Prod.mk.injEq] at hs
      obtain ⟨rfl, rfl, rfl, rfl⟩ := hs
      exact ⟨⟨G, L, ok_c (L v (List.mem_of_getElem? e)) S⟩, Int.le_refl _, Int.le_refl _⟩
    · cases hs
  · cases hs
theorem so_3 (hc : o.1 = 3) (ho : xopok o = true) (I : xI h ls st) (hs : xstp sw o k ls st h = some (k', ls', st', h')) : xIg h h' ls' st' := by
  obtain ⟨G, L, S⟩ := I
  unfold xstp at hs
  simp only [hc, if_true, if_false, Nat.reduceEqDiff] at hs
  split at hs
  · split at hs
    · simp only [Option.some.injEq, Prod.mk.injEq] at hs
      obtain ⟨rfl, rfl, rfl, rfl⟩ := hs
      exact ⟨⟨G, ok_st L (ok_h S), ok_t S⟩, Int.le_refl _, Int.le_refl _⟩
    · cases hs
  · cases hs
theorem so_48 (hc : o.1 = 48) (ho : xopok o = true) (I : xI h ls st) (hs : xstp sw o k ls st h = some (k', ls', st', h')) : xIg h h' ls' st' := by
  obtain ⟨G, L, S⟩ := I
  unfold xstp at hs
  simp only [hc, if_true, if_false, Nat.reduceEqDiff] at hs
  split at hs
  · split at hs
    · simp only [Option.some.injEq, Prod.mk.injEq] at hs
      obtain ⟨rfl, rfl, rfl, rfl⟩ := hs
      exact ⟨⟨G, ok_set (ok_st L (ok_h S)) ok_9, ok_t S⟩, Int.le_refl _, Int.le_refl _⟩
    · cases hs
  · cases hs
theorem so_4 (hc : o.1 = 4) (ho : xopok o = true) (I : xI h ls st) (hs : xstp sw o k ls st h = some (k', ls', st', h')) : xIg h h' ls' st' := by
  obtain ⟨G, L, S⟩ := I
  unfold xstp at hs
  simp only [hc, if_true, if_false, Nat.reduceEqDiff] at hs
  split at hs
  · split at hs
    · simp only [Option.some.injEq, Prod.mk.injEq] at hs
      obtain ⟨rfl, rfl, rfl, rfl⟩ := hs
      exact ⟨⟨G, ok_st L (ok_0 (rg_w _)), S⟩, Int.le_refl _, Int.le_refl _⟩
    · cases hs
  · cases hs
theorem so_20 (hc : o.1 = 20) (ho : xopok o = true) (I : xI h ls st) (hs : xstp sw o k ls st h = some (k', ls', st', h')) : xIg h h' ls' st' := by
  obtain ⟨G, L, S⟩ := I
  unfold xstp at hs
  simp only [hc, if_true, if_false, Nat.reduceEqDiff] at hs
  split at hs
  · split at hs
    · simp only [Option.some.injEq, Prod.mk.injEq] at hs
      obtain ⟨rfl, rfl, rfl, rfl⟩ := hs
      refine ⟨⟨G, L, ok_c ?_ (ok_t S)⟩, Int.le_refl _, Int.le_refl _⟩
      split
      · exact ok_0 (G.2.2.2.2.2.1 _ _)
      · exact ok_1 (G.2.2.2.2.2.2.1 _ _).1 (G.2.2.2.2.2.2.1 _ _).2
    · cases hs
  · cases hs
theorem so_21 (hc : o.1 = 21) (ho : xopok o = true) (I : xI h ls st) (hs : xstp sw o k ls st h = some (k', ls', st', h')) : xIg h h' ls' st' := by
  obtain ⟨G, L, S⟩ := I
  unfold xstp at hs
  simp only [hc, if_true, if_false, Nat.reduceEqDiff] at hs
  split at hs
  · rename_i v p st
    by_cases q : h.tag p = o.2.1 ∧ v.1 = (if o.2.2.2 = 1 then 1 else 0) ∧ (o.2.2.2 = 2 → v.2 = 0 ∨ v.2 = 1)
    · rw [if_pos q] at hs
      simp only [Option.some.injEq, Prod.mk.injEq] at hs
      obtain ⟨rfl, rfl, rfl, rfl⟩ := hs
      have ho : 0 ≤ o.2.1 ∧ o.2.1 < 13 := by unfold xopok at ho; simp [hc] at ho; exact ho
      have hp := xG_at G q.1 (Or.inl ho)
      split
      · rename_i e1
        have hv := (ok_h S).2.1 (by rw [q.2.1, if_pos e1])
        exact ⟨⟨xG_wr G hp.2 hv, L, ok_t (ok_t S)⟩, Int.le_refl _, Int.le_refl _⟩
      · rename_i e1
        have hv := (ok_h S).1 (by rw [q.2.1, if_neg e1])
        exact ⟨⟨xG_wi G hp.2 hv, L, ok_t (ok_t S)⟩, Int.le_refl _, Int.le_refl _⟩
    · rw [if_neg q] at hs; cases hs
  · cases hs
theorem so_22 (hc : o.1 = 22) (ho : xopok o = true) (I : xI h ls st) (hs : xstp sw o k ls st h = some (k', ls', st', h')) : xIg h h' ls' st' := by
  obtain ⟨G, L, S⟩ := I
  unfold xstp at hs
  simp only [hc, if_true, if_false, Nat.reduceEqDiff] at hs
  split at hs
  · split at hs
    · rename_i q
      simp only [Option.some.injEq, Prod.mk.injEq] at hs
      obtain ⟨rfl, rfl, rfl, rfl⟩ := hs
      exact ⟨⟨G, L, ok_c (ok_0 (G.2.2.2.2.2.1 _ _)) (ok_t (ok_t S))⟩, Int.le_refl _, Int.le_refl _⟩
    · cases hs
  · cases hs
theorem so_23 (hc : o.1 = 23) (ho : xopok o = true) (I : xI h ls st) (hs : xstp sw o k ls st h = some (k', ls', st', h')) : xIg h h' ls' st' := by
  obtain ⟨G, L, S⟩ := I
  unfold xstp at hs
  simp only [hc, if_true, if_false, Nat.reduceEqDiff] at hs
  split at hs
  · split at hs
    · rename_i q
      simp only [Option.some.injEq, Prod.mk.injEq] at hs
      obtain ⟨rfl, rfl, rfl, rfl⟩ := hs
      have ho : o.2.1 = 20 ∨ o.2.1 = 21 ∨ o.2.1 = 22 := by unfold xopok at ho; simp [hc] at ho; exact ho
      have hp := xG_at G q.1 (Or.inr (by omega))
      refine ⟨⟨xG_wi G hp.2 ?_, L, ok_t (ok_t (ok_t S))⟩, Int.le_refl _, Int.le_refl _⟩
      split
      · exact rg_w8 _
      · split
        · unfold xrg; omega
        · exact (ok_h S).1 rfl
    · cases hs
  · cases hs
theorem so_24 (hc : o.1 = 24) (ho : xopok o = true) (I : xI h ls st) (hs : xstp sw o k ls st h = some (k', ls', st', h')) : xIg h h' ls' st' := by
  obtain ⟨G, L, S⟩ := I
  unfold xstp at hs
  simp only [hc, if_true, if_false, Nat.reduceEqDiff] at hs
  split at hs
  · split at hs
    · rename_i q
      simp only [Option.some.injEq, Prod.mk.injEq] at hs
      obtain ⟨rfl, rfl, rfl, rfl⟩ := hs
      exact ⟨⟨G, L, ok_c (ok_1 (G.2.2.2.2.2.2.1 _ _).1 (G.2.2.2.2.2.2.1 _ _).2) (ok_t (ok_t S))⟩, Int.le_refl _, Int.le_refl _⟩
    · cases hs
  · cases hs
theorem so_25 (hc : o.1 = 25) (ho : xopok o = true) (I : xI h ls st) (hs : xstp sw o k ls st h = some (k', ls', st', h')) : xIg h h' ls' st' := by
  obtain ⟨G, L, S⟩ := I
  unfold xstp at hs
  simp only [hc, if_true, if_false, Nat.reduceEqDiff] at hs
  split at hs
  · split at hs
    · rename_i q
      simp only [Option.some.injEq, Prod.mk.injEq] at hs
      obtain ⟨rfl, rfl, rfl, rfl⟩ := hs
      have ho : o.2.1 = 23 ∨ o.2.1 = 24 := by unfold xopok at ho; simp [hc] at ho; exact ho
      have hp := xG_at G q.1 (Or.inr (by omega))
      exact ⟨⟨xG_wr G hp.2 ((ok_h S).2.1 rfl), L, ok_t (ok_t (ok_t S))⟩, Int.le_refl _, Int.le_refl _⟩
    · cases hs
  · cases hs
theorem so_26 (hc : o.1 = 26) (ho : xopok o = true) (I : xI h ls st) (hs : xstp sw o k ls st h = some (k', ls', st', h')) : xIg h h' ls' st' := by
  obtain ⟨G, L, S⟩ := I
  unfold xstp at hs
  simp only [hc, if_true, if_false, Nat.reduceEqDiff] at hs
  split at hs
  · split at hs
    · rename_i q
      simp only [Option.some.injEq, Prod.mk.injEq] at hs
      obtain ⟨rfl, rfl, rfl, rfl⟩ := hs
      exact ⟨⟨G, L, ok_c (ok_0 ⟨Int.le_trans (by decide) (G.2.2.2.2.1 _).1, Int.lt_of_le_of_lt (G.2.2.2.2.1 _).2 (by decide)⟩) (ok_t S)⟩, Int.le_refl _, Int.le_refl _⟩
    · cases hs
  · cases hs
theorem so_27 (hc : o.1 = 27) (ho : xopok o = true) (I : xI h ls st) (hs : xstp sw o k ls st h = some (k', ls', st', h')) : xIg h h' ls' st' := by
  obtain ⟨G, L, S⟩ := I
  unfold xstp at hs
  simp only [hc, if_true, if_false, Nat.reduceEqDiff] at hs
  split at hs
  · split at hs
    · rename_i q
      simp only [Option.some.injEq, Prod.mk.injEq] at hs
      obtain ⟨rfl, rfl, rfl, rfl⟩ := hs
      have ho : 20 ≤ o.2.1 ∧ o.2.1 < 25 := by unfold xopok at ho; simp [hc] at ho; exact ho
      have e : ∀ n, h.nx ≤ (h.al o.2.1 n).nx := fun n => by rw [xn_al]; omega
      exact ⟨⟨xG_al G (Or.inr ho) q.1 q.2, ok_ups L (e _), ok_c (ok_1 (by have := G.1; omega) (by rw [xn_al]; omega)) (ok_ups (ok_t S) (e _))⟩, e _, by rw [xs_al]; omega⟩
    · cases hs
  · cases hs
theorem so_29 (hc : o.1 = 29) (ho : xopok o = true) (I : xI h ls st) (hs : xstp sw o k ls st h = some (k', ls', st', h')) : xIg h h' ls' st' := by
  obtain ⟨G, L, S⟩ := I
  unfold xstp at hs
  simp only [hc, if_true, if_false, Nat.reduceEqDiff] at hs
  simp only [Option.some.injEq, Prod.mk.injEq] at hs
  obtain ⟨rfl, rfl, rfl, rfl⟩ := hs
  have ho : 0 ≤ o.2.1 ∧ o.2.1 < 13 ∧ 0 ≤ o.2.2.1 ∧ o.2.2.1 ≤ 1000 := by unfold xopok at ho; simp [hc] at ho; exact ho
  have e : h.nx ≤ (h.al o.2.1 o.2.2.1).nx := by rw [xn_al]; omega
  exact ⟨⟨xG_al G (Or.inl ⟨ho.1, ho.2.1⟩) ho.2.2.1 (by omega), ok_ups L e, ok_c (ok_1 (by have := G.1; omega) (by rw [xn_al]; omega)) (ok_ups S e)⟩, e, by rw [xs_al]; omega⟩
theorem so_30 (hc : o.1 = 30) (ho : xopok o = true) (I : xI h ls st) (hs : xstp sw o k ls st h = some (k', ls', st', h')) : xIg h h' ls' st' := by
  obtain ⟨G, L, S⟩ := I
  unfold xstp at hs
  simp only [hc, if_true, if_false, Nat.reduceEqDiff] at hs
  split at hs
  · split at hs
    · cases hs
    · rename_i q
      simp only [Option.some.injEq, Prod.mk.injEq] at hs
      obtain ⟨rfl, rfl, rfl, rfl⟩ := hs
      exact ⟨⟨G, L, ok_t S⟩, Int.le_refl _, Int.le_refl _⟩
  · cases hs
theorem so_34 (hc : o.1 = 34) (ho : xopok o = true) (I : xI h ls st) (hs : xstp sw o k ls st h = some (k', ls', st', h')) : xIg h h' ls' st' := by
  obtain ⟨G, L, S⟩ := I
  unfold xstp at hs
  simp only [hc, if_true, if_false, Nat.reduceEqDiff] at hs
  split at hs
  · split at hs
    · rename_i q
      simp only [Option.some.injEq, Prod.mk.injEq] at hs
      obtain ⟨rfl, rfl, rfl, rfl⟩ := hs
      exact ⟨⟨G, L, ok_c (ok_0 (by split; exact (ok_h S).1 rfl; exact (ok_h (ok_t S)).1 rfl)) (ok_t (ok_t S))⟩, Int.le_refl _, Int.le_refl _⟩
    · cases hs
  · cases hs
theorem so_35 (hc : o.1 = 35) (ho : xopok o = true) (I : xI h ls st) (hs : xstp sw o k ls st h = some (k', ls', st', h')) : xIg h h' ls' st' := by
  obtain ⟨G, L, S⟩ := I
  unfold xstp at hs
  simp only [hc, if_true, if_false, Nat.reduceEqDiff] at hs
  split at hs
  · split at hs
    · rename_i q
      simp only [Option.some.injEq, Prod.mk.injEq] at hs
      obtain ⟨rfl, rfl, rfl, rfl⟩ := hs
      exact ⟨⟨G, L, ok_c (ok_0 (by split; exact (ok_h S).1 rfl; exact (ok_h (ok_t S)).1 rfl)) (ok_t (ok_t S))⟩, Int.le_refl _, Int.le_refl _⟩
    · cases hs
  · cases hs
theorem so_36 (hc : o.1 = 36) (ho : xopok o = true) (I : xI h ls st) (hs : xstp sw o k ls st h = some (k', ls', st', h')) : xIg h h' ls' st' := by
  obtain ⟨G, L, S⟩ := I
  unfold xstp at hs
  simp only [hc, if_true, if_false, Nat.reduceEqDiff] at hs
  split at hs
  · split at hs
    · rename_i q
      simp only [Option.some.injEq, Prod.mk.injEq] at hs
      obtain ⟨rfl, rfl, rfl, rfl⟩ := hs
      have hp := xG_at G q.2.1 (Or.inr (by omega))
      exact ⟨⟨xG_cp G hp.2, L, ok_t (ok_t (ok_t (ok_t (ok_t S))))⟩, Int.le_refl _, Int.le_refl _⟩
    · cases hs
  · cases hs
theorem so_37 (hc : o.1 = 37) (ho : xopok o = true) (I : xI h ls st) (hs : xstp sw o k ls st h = some (k', ls', st', h')) : xIg h h' ls' st' := by
  obtain ⟨G, L, S⟩ := I
  unfold xstp at hs
  simp only [hc, if_true, if_false, Nat.reduceEqDiff] at hs
  split at hs
  · rename_i p st
    split at hs
    · rename_i q
      simp only [Option.some.injEq, Prod.mk.injEq] at hs
      obtain ⟨rfl, rfl, rfl, rfl⟩ := hs
      have l0 := G.2.2.2.2.1 p
      have e : h.nx ≤ ((h.al 20 (h.len p)).cp p 0 h.nx 0 (h.len p)).nx := by rw [xn_cp, xn_al]; omega
      exact ⟨⟨xG_cp (xG_al G (Or.inr (by omega)) l0.1 l0.2) (by rw [xn_al]; omega), ok_ups L e, ok_c (ok_1 (by have := G.1; omega) (by rw [xn_cp, xn_al]; omega)) (ok_ups (ok_t S) e)⟩, e, by rw [xs_cp, xs_al]; omega⟩
    · cases hs
  · cases hs
theorem so_38 (hc : o.1 = 38) (ho : xopok o = true) (I : xI h ls st) (hs : xstp sw o k ls st h = some (k', ls', st', h')) : xIg h h' ls' st' := by
  obtain ⟨G, L, S⟩ := I
  unfold xstp at hs
  simp only [hc, if_true, if_false, Nat.reduceEqDiff] at hs
  split at hs
  · split at hs
    · rename_i q
      simp only [Option.some.injEq, Prod.mk.injEq] at hs
      obtain ⟨rfl, rfl, rfl, rfl⟩ := hs
      exact ⟨⟨G, L, ok_c (ok_h S) (ok_t S)⟩, Int.le_refl _, Int.le_refl _⟩
    · cases hs
  · cases hs
theorem so_41 (hc : o.1 = 41) (ho : xopok o = true) (I : xI h ls st) (hs : xstp sw o k ls st h = some (k', ls', st', h')) : xIg h h' ls' st' := by
  obtain ⟨G, L, S⟩ := I
  unfold xstp at hs
  simp only [hc, if_true, if_false, Nat.reduceEqDiff] at hs
  split at hs
  · simp only [Option.some.injEq, Prod.mk.injEq] at hs
    obtain ⟨rfl, rfl, rfl, rfl⟩ := hs
    exact ⟨⟨G, L, ok_c (ok_3 (rl_64 _)) (ok_t (ok_t S))⟩, Int.le_refl _, Int.le_refl _⟩
  · cases hs
theorem so_42 (hc : o.1 = 42) (ho : xopok o = true) (I : xI h ls st) (hs : xstp sw o k ls st h = some (k', ls', st', h')) : xIg h h' ls' st' := by
  obtain ⟨G, L, S⟩ := I
  unfold xstp at hs
  simp only [hc, if_true, if_false, Nat.reduceEqDiff] at hs
  split at hs
  · simp only [Option.some.injEq, Prod.mk.injEq] at hs
    obtain ⟨rfl, rfl, rfl, rfl⟩ := hs
    exact ⟨⟨G, L, ok_c (ok_3 (rl_64 _)) (ok_t (ok_t S))⟩, Int.le_refl _, Int.le_refl _⟩
  · cases hs
theorem so_43 (hc : o.1 = 43) (ho : xopok o = true) (I : xI h ls st) (hs : xstp sw o k ls st h = some (k', ls', st', h')) : xIg h h' ls' st' := by
  obtain ⟨G, L, S⟩ := I
  unfold xstp at hs
  simp only [hc, if_true, if_false, Nat.reduceEqDiff] at hs
  split at hs
  · split at hs
    · cases hs
    · rename_i q
      simp only [Option.some.injEq, Prod.mk.injEq] at hs
      obtain ⟨rfl, rfl, rfl, rfl⟩ := hs
      exact ⟨⟨G, L, ok_c (ok_3 (rl_64 _)) (ok_t (ok_t S))⟩, Int.le_refl _, Int.le_refl _⟩
  · cases hs
theorem so_44 (hc : o.1 = 44) (ho : xopok o = true) (I : xI h ls st) (hs : xstp sw o k ls st h = some (k', ls', st', h')) : xIg h h' ls' st' := by
  obtain ⟨G, L, S⟩ := I
  unfold xstp at hs
  simp only [hc, if_true, if_false, Nat.reduceEqDiff] at hs
  split at hs
  · split at hs
    · cases hs
    · rename_i q
      simp only [Option.some.injEq, Prod.mk.injEq] at hs
      obtain ⟨rfl, rfl, rfl, rfl⟩ := hs
      exact ⟨⟨G, L, ok_c (ok_3 (rl_64 _)) (ok_t (ok_t S))⟩, Int.le_refl _, Int.le_refl _⟩
  · cases hs
theorem so_45 (hc : o.1 = 45) (ho : xopok o = true) (I : xI h ls st) (hs : xstp sw o k ls st h = some (k', ls', st', h')) : xIg h h' ls' st' := by
  obtain ⟨G, L, S⟩ := I
  unfold xstp at hs
  simp only [hc, if_true, if_false, Nat.reduceEqDiff] at hs
  split at hs
  · simp only [Option.some.injEq, Prod.mk.injEq] at hs
    obtain ⟨rfl, rfl, rfl, rfl⟩ := hs
    exact ⟨⟨G, L, ok_c (ok_0 (by unfold xlcmp xrg; split; omega; split <;> omega)) (ok_t (ok_t S))⟩, Int.le_refl _, Int.le_refl _⟩
  · cases hs
theorem so_46 (hc : o.1 = 46) (ho : xopok o = true) (I : xI h ls st) (hs : xstp sw o k ls st h = some (k', ls', st', h')) : xIg h h' ls' st' := by
  obtain ⟨G, L, S⟩ := I
  unfold xstp at hs
  simp only [hc, if_true, if_false, Nat.reduceEqDiff] at hs
  split at hs
  · simp only [Option.some.injEq, Prod.mk.injEq] at hs
    obtain ⟨rfl, rfl, rfl, rfl⟩ := hs
    exact ⟨⟨G, L, ok_c (ok_3 (by have := (ok_h S).1 rfl; unfold xrg at this; unfold xrl; simp only at this ⊢; omega)) (ok_t S)⟩, Int.le_refl _, Int.le_refl _⟩
  · cases hs
theorem so_47 (hc : o.1 = 47) (ho : xopok o = true) (I : xI h ls st) (hs : xstp sw o k ls st h = some (k', ls', st', h')) : xIg h h' ls' st' := by
  obtain ⟨G, L, S⟩ := I
  unfold xstp at hs
  simp only [hc, if_true, if_false, Nat.reduceEqDiff] at hs
  split at hs
  · simp only [Option.some.injEq, Prod.mk.injEq] at hs
    obtain ⟨rfl, rfl, rfl, rfl⟩ := hs
    exact ⟨⟨G, L, ok_c (ok_0 (rg_32 _)) (ok_t S)⟩, Int.le_refl _, Int.le_refl _⟩
  · cases hs
theorem so_81 (hc : o.1 = 81) (ho : xopok o = true) (I : xI h ls st) (hs : xstp sw o k ls st h = some (k', ls', st', h')) : xIg h h' ls' st' := by
  obtain ⟨G, L, S⟩ := I
  unfold xstp at hs
  simp only [hc, if_true, if_false, Nat.reduceEqDiff] at hs
  split at hs
  · split at hs
    · rename_i q
      simp only [Option.some.injEq, Prod.mk.injEq] at hs
      obtain ⟨rfl, rfl, rfl, rfl⟩ := hs
      exact ⟨⟨G, L, ok_c (ok_f _) (ok_t (ok_t S))⟩, Int.le_refl _, Int.le_refl _⟩
    · cases hs
  · cases hs
theorem so_82 (hc : o.1 = 82) (ho : xopok o = true) (I : xI h ls st) (hs : xstp sw o k ls st h = some (k', ls', st', h')) : xIg h h' ls' st' := by
  obtain ⟨G, L, S⟩ := I
  unfold xstp at hs
  simp only [hc, if_true, if_false, Nat.reduceEqDiff] at hs
  split at hs
  · split at hs
    · rename_i q
      simp only [Option.some.injEq, Prod.mk.injEq] at hs
      obtain ⟨rfl, rfl, rfl, rfl⟩ := hs
      exact ⟨⟨G, L, ok_c (ok_f _) (ok_t (ok_t S))⟩, Int.le_refl _, Int.le_refl _⟩
    · cases hs
  · cases hs
theorem so_83 (hc : o.1 = 83) (ho : xopok o = true) (I : xI h ls st) (hs : xstp sw o k ls st h = some (k', ls', st', h')) : xIg h h' ls' st' := by
  obtain ⟨G, L, S⟩ := I
  unfold xstp at hs
  simp only [hc, if_true, if_false, Nat.reduceEqDiff] at hs
  split at hs
  · simp only [Option.some.injEq, Prod.mk.injEq] at hs
    obtain ⟨rfl, rfl, rfl, rfl⟩ := hs
    exact ⟨⟨G, L, ok_c (ok_f _) (ok_t S)⟩, Int.le_refl _, Int.le_refl _⟩
  · cases hs
theorem so_84 (hc : o.1 = 84) (ho : xopok o = true) (I : xI h ls st) (hs : xstp sw o k ls st h = some (k', ls', st', h')) : xIg h h' ls' st' := by
  obtain ⟨G, L, S⟩ := I
  unfold xstp at hs
  simp only [hc, if_true, if_false, Nat.reduceEqDiff] at hs
  split at hs
  · simp only [Option.some.injEq, Prod.mk.injEq] at hs
    obtain ⟨rfl, rfl, rfl, rfl⟩ := hs
    exact ⟨⟨G, L, ok_c (ok_0 (rg_32 _)) (ok_t S)⟩, Int.le_refl _, Int.le_refl _⟩
  · cases hs
/-- a step keeps what is well formed -/
theorem stp_ok (ho : xopok o = true) (I : xI h ls st) (hs : xstp sw o k ls st h = some (k', ls', st', h')) : xIg h h' ls' st' := by
  by_cases c1 : o.1 = 1
  · exact so_1 c1 ho I hs
  by_cases c2 : o.1 = 2
  · exact so_2 c2 ho I hs
  by_cases c3 : o.1 = 3
  · exact so_3 c3 ho I hs
  by_cases c4 : o.1 = 4
  · exact so_4 c4 ho I hs
  by_cases c50 : o.1 = 50
  · exact so_50 c50 ho I hs
  by_cases c51 : o.1 = 51
  · exact so_51 c51 ho I hs
  by_cases c52 : o.1 = 52
  · exact so_52 c52 ho I hs
  by_cases c53 : o.1 = 53
  · exact so_53 c53 ho I hs
  by_cases c54 : o.1 = 54
  · exact so_54 c54 ho I hs
  by_cases c55 : o.1 = 55
  · exact so_55 c55 ho I hs
  by_cases c56 : o.1 = 56
  · exact so_56 c56 ho I hs
  by_cases c57 : o.1 = 57
  · exact so_57 c57 ho I hs
  by_cases c58 : o.1 = 58
  · exact so_58 c58 ho I hs
  by_cases c59 : o.1 = 59
  · exact so_59 c59 ho I hs
  by_cases c60 : o.1 = 60
  · exact so_60 c60 ho I hs
  by_cases c61 : o.1 = 61
  · exact so_61 c61 ho I hs
  by_cases c70 : o.1 = 70
  · exact so_70 c70 ho I hs
  by_cases c71 : o.1 = 71
  · exact so_71 c71 ho I hs
  by_cases c72 : o.1 = 72
  · exact so_72 c72 ho I hs
  by_cases c73 : o.1 = 73
  · exact so_73 c73 ho I hs
  by_cases c130 : o.1 = 130
  · exact so_130 c130 ho I hs
  by_cases c131 : o.1 = 131
  · exact so_131 c131 ho I hs
  by_cases c132 : o.1 = 132
  · exact so_132 c132 ho I hs
  by_cases c133 : o.1 = 133
  · exact so_133 c133 ho I hs
  by_cases c134 : o.1 = 134
  · exact so_134 c134 ho I hs
  by_cases c135 : o.1 = 135
  · exact so_135 c135 ho I hs
  by_cases c140 : o.1 = 140
  · exact so_140 c140 ho I hs
  by_cases c141 : o.1 = 141
  · exact so_141 c141 ho I hs
  by_cases c142 : o.1 = 142
  · exact so_142 c142 ho I hs
  by_cases c143 : o.1 = 143
  · exact so_143 c143 ho I hs
  by_cases c144 : o.1 = 144
  · exact so_144 c144 ho I hs
  by_cases c145 : o.1 = 145
  · exact so_145 c145 ho I hs
  by_cases c15 : o.1 = 15
  · exact so_15 c15 ho I hs
  by_cases c16 : o.1 = 16
  · exact so_16 c16 ho I hs
  by_cases c17 : o.1 = 17
  · exact so_17 c17 ho I hs
  by_cases c18 : o.1 = 18
  · exact so_18 c18 ho I hs
  by_cases c19 : o.1 = 19
  · exact so_19 c19 ho I hs
  by_cases c20 : o.1 = 20
  · exact so_20 c20 ho I hs
  by_cases c21 : o.1 = 21
  · exact so_21 c21 ho I hs
  by_cases c22 : o.1 = 22
  · exact so_22 c22 ho I hs
  by_cases c23 : o.1 = 23
  · exact so_23 c23 ho I hs
  by_cases c24 : o.1 = 24
  · exact so_24 c24 ho I hs
  by_cases c25 : o.1 = 25
  · exact so_25 c25 ho I hs
  by_cases c26 : o.1 = 26
  · exact so_26 c26 ho I hs
  by_cases c27 : o.1 = 27
  · exact so_27 c27 ho I hs
  by_cases c29 : o.1 = 29
  · exact so_29 c29 ho I hs
  by_cases c30 : o.1 = 30
  · exact so_30 c30 ho I hs
  by_cases c34 : o.1 = 34
  · exact so_34 c34 ho I hs
  by_cases c35 : o.1 = 35
  · exact so_35 c35 ho I hs
  by_cases c36 : o.1 = 36
  · exact so_36 c36 ho I hs
  by_cases c37 : o.1 = 37
  · exact so_37 c37 ho I hs
  by_cases c38 : o.1 = 38
  · exact so_38 c38 ho I hs
  by_cases c40 : o.1 = 40
  · exact so_40 c40 ho I hs
  by_cases c41 : o.1 = 41
  · exact so_41 c41 ho I hs
  by_cases c42 : o.1 = 42
  · exact so_42 c42 ho I hs
  by_cases c43 : o.1 = 43
  · exact so_43 c43 ho I hs
  by_cases c44 : o.1 = 44
  · exact so_44 c44 ho I hs
  by_cases c45 : o.1 = 45
  · exact so_45 c45 ho I hs
  by_cases c46 : o.1 = 46
  · exact so_46 c46 ho I hs
  by_cases c47 : o.1 = 47
  · exact so_47 c47 ho I hs
  by_cases c48 : o.1 = 48
  · exact so_48 c48 ho I hs
  by_cases c80 : o.1 = 80
  · exact so_80 c80 ho I hs
  by_cases c81 : o.1 = 81
  · exact so_81 c81 ho I hs
  by_cases c82 : o.1 = 82
  · exact so_82 c82 ho I hs
  by_cases c83 : o.1 = 83
  · exact so_83 c83 ho I hs
  by_cases c84 : o.1 = 84
  · exact so_84 c84 ho I hs
  unfold xstp at hs
  simp only [c1, c2, c3, c4, c50, c51, c52, c53, c54, c55, c56, c57, c58, c59, c60, c61, c70, c71, c72, c73, c130, c131, c132, c133, c134, c135, c140, c141, c142, c143, c144, c145, c15, c16, c17, c18, c19, c20, c21, c22, c23, c24, c25, c26, c27, c29, c30, c34, c35, c36, c37, c38, c40, c41, c42, c43, c44, c45, c46, c47, c48, c80, c81, c82, c83, c84, if_false] at hs
  cases hs
end ST
