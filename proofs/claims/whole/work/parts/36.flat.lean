/-! a line as a value: where its syllables lie -/
def sy0 : Sy := (0, 0, [])
theorem fsyl_len (w b : Int) : ∀ (L : List Sy) (f : Int), (fsyl w b f L).length = L.length := by
  intro L
  induction L with
  | nil => intro f; rfl
  | cons s r ih => intro f; rw [fsyl, List.length_cons, List.length_cons, ih]
theorem fsyl_get (w b : Int) : ∀ (L : List Sy) (f : Int) (i : Nat), i < L.length → (fsyl w b f L).getD i fs0 = (w, f + ((L.take i).map (fun s => s.1)).sum, (L.getD i sy0).1, (L.getD i sy0).2.1, (L.getD i sy0).2.2, b) := by
  intro L
  induction L with
  | nil => intro f i h; exact absurd h (Nat.not_lt_zero _)
  | cons s r ih =>
    intro f i h
    rw [fsyl]
    cases i with
    | zero =>
      show (w, f, s.1, s.2.1, s.2.2, b) = (w, f + 0, s.1, s.2.1, s.2.2, b)
      rw [Int.add_zero]
    | succ i =>
      rw [List.getD_cons_succ, List.getD_cons_succ, ih _ i (by rw [List.length_cons] at h; omega), List.take_succ_cons, List.map_cons, List.sum_cons, Int.add_assoc]
theorem fsyl_n (w b : Int) : ∀ (L : List Sy) (f : Int), (fsyl w b f L).map FS.n = L.map (fun s => s.1) := by
  intro L
  induction L with
  | nil => intro f; rfl
  | cons s r ih => intro f; rw [fsyl, List.map_cons, List.map_cons, ih]; rfl
theorem getD_app_l {α : Type} (d : α) {A B : List α} {i : Nat} (h : i < A.length) : (A ++ B).getD i d = A.getD i d := by
  rw [List.getD_eq_getElem?_getD, List.getD_eq_getElem?_getD, List.getElem?_append_left h]
theorem getD_app_r {α : Type} (d : α) {A B : List α} {i : Nat} (h : A.length ≤ i) : (A ++ B).getD i d = B.getD (i - A.length) d := by
  rw [List.getD_eq_getElem?_getD, List.getD_eq_getElem?_getD, List.getElem?_append_right h]
theorem getD_mem {α : Type} (d : α) {L : List α} {i : Nat} (h : i < L.length) : L.getD i d ∈ L := by
  rw [List.getD_eq_getElem?_getD, List.getElem?_eq_getElem h]
  exact List.getElem_mem h
theorem psm_app_l {A B : List FS} {i : Nat} (h : i ≤ A.length) : psm (A ++ B) i = psm A i := by
  unfold psm
  rw [List.take_append_of_le_length h]
theorem psm_app_r {A B : List FS} {i : Nat} (h : A.length ≤ i) : psm (A ++ B) i = (A.map FS.n).sum + psm B (i - A.length) := by
  unfold psm
  rw [List.take_append, List.take_of_length_le h, List.map_append, List.sum_append]
/-- the letters of the words ahead of word j -/
def tsm (ws : List Wd) (j : Nat) : Nat := ((ws.take j).map (fun d => d.1.length)).sum
theorem txt_get : ∀ (ws : List Wd) (j k : Nat), j < ws.length → k < (ws.getD j wd0).1.length → tsm ws j + k < (txt ws).length ∧ (txt ws).getD (tsm ws j + k) 0 = (ws.getD j wd0).1.getD k 0 := by
  intro ws
  induction ws with
  | nil => intro j k h _; exact absurd h (Nat.not_lt_zero _)
  | cons d r ih =>
    intro j k hj hk
    have et : txt (d :: r) = d.1 ++ txt r := by unfold txt; rw [List.map_cons, List.flatten_cons]
    rw [et, List.length_append]
    cases j with
    | zero =>
      have e0 : tsm (d :: r) 0 = 0 := rfl
      have e1 : (d :: r).getD 0 wd0 = d := rfl
      rw [e1] at hk ⊢
      rw [e0, Nat.zero_add]
      exact ⟨by omega, getD_app_l 0 hk⟩
    | succ j =>
      have e0 : tsm (d :: r) (j + 1) = d.1.length + tsm r j := by unfold tsm; rw [List.take_succ_cons, List.map_cons, List.sum_cons]
      rw [List.getD_cons_succ] at hk ⊢
      have z := ih j k (by rw [List.length_cons] at hj; omega) hk
      rw [e0]
      refine ⟨by omega, ?_⟩
      rw [getD_app_r 0 (by omega), show d.1.length + tsm r j + k - d.1.length = tsm r j + k by omega]
      exact z.2
/-- what a syllable of a line is -/
theorem flatF_get : ∀ (ws : List Wd) (w : Int) (i : Nat), (∀ d ∈ ws, WdOk d) → i < (flatF w ws).length → ∃ j : Nat, j < ws.length ∧ ((flatF w ws).getD i fs0).w = w + j ∧ 0 ≤ ((flatF w ws).getD i fs0).f ∧ ((flatF w ws).getD i fs0).f + ((flatF w ws).getD i fs0).n ≤ ((ws.getD j wd0).1.length : Nat) ∧ ((flatF w ws).getD i fs0).b = (ws.getD j wd0).2.1 ∧ SyOk (((flatF w ws).getD i fs0).n, ((flatF w ws).getD i fs0).m, ((flatF w ws).getD i fs0).s) ∧ psm (flatF w ws) i = (tsm ws j : Nat) + ((flatF w ws).getD i fs0).f := by
  intro ws
  induction ws with
  | nil => intro w i _ h; exact absurd h (Nat.not_lt_zero _)
  | cons d r ih =>
    intro w i ok hi
    have okd := ok d List.mem_cons_self
    rw [flatF] at hi ⊢
    rw [List.length_append, fsyl_len] at hi
    by_cases c : i < d.2.2.length
    · have hc : i < (fsyl w d.2.1 0 d.2.2).length := by rw [fsyl_len]; exact c
      rw [getD_app_l fs0 hc, psm_app_l (by omega), fsyl_get _ _ _ _ _ c]
      have sok := okd.2.2.2.2.2.1 _ (getD_mem sy0 c)
      have es : psm (fsyl w d.2.1 0 d.2.2) i = ((d.2.2.take i).map (fun s => s.1)).sum := by
        unfold psm
        rw [List.map_take, fsyl_n, ← List.map_take]
      have split : ((d.2.2.take i).map (fun s => s.1)).sum + ((d.2.2.drop i).map (fun s => s.1)).sum = (d.1.length : Nat) := by
        rw [← okd.2.2.2.2.2.2, ← List.sum_append, ← List.map_append, List.take_append_drop]
      have pos : ∀ L : List Sy, (∀ s ∈ L, SyOk s) → 0 ≤ (L.map (fun s => s.1)).sum := by
        intro L
        induction L with
        | nil => intro _; exact Int.le_refl _
        | cons s r ih => intro h; rw [List.map_cons, List.sum_cons]; have a := ih (fun x hx => h x (List.mem_cons_of_mem _ hx)); have b := (h s List.mem_cons_self).1; omega
      have p1 := pos (d.2.2.take i) (fun s hs => okd.2.2.2.2.2.1 s (List.mem_of_mem_take hs))
      have p2 := pos (d.2.2.drop (i + 1)) (fun s hs => okd.2.2.2.2.2.1 s (List.mem_of_mem_drop hs))
      have ed : d.2.2.drop i = d.2.2.getD i sy0 :: d.2.2.drop (i + 1) := by
        rw [List.drop_eq_getElem_cons c, List.getD_eq_getElem?_getD, List.getElem?_eq_getElem c]; rfl
      rw [ed, List.map_cons, List.sum_cons] at split
      refine ⟨0, by rw [List.length_cons]; omega, by show w = w + 0; omega, ?_, ?_, rfl, sok, ?_⟩
      · show 0 ≤ 0 + ((d.2.2.take i).map (fun s => s.1)).sum; omega
      · show 0 + ((d.2.2.take i).map (fun s => s.1)).sum + (d.2.2.getD i sy0).1 ≤ (d.1.length : Nat); omega
      · rw [es]
        show _ = ((0 : Nat) : Int) + (0 + ((d.2.2.take i).map (fun s => s.1)).sum)
        omega
    · have hc : (fsyl w d.2.1 0 d.2.2).length ≤ i := by rw [fsyl_len]; omega
      rw [getD_app_r fs0 hc, psm_app_r hc, fsyl_n, okd.2.2.2.2.2.2, fsyl_len]
      obtain ⟨j, z1, z2, z3, z4, z5, z6, z7⟩ := ih (w + 1) (i - d.2.2.length) (fun x hx => ok x (List.mem_cons_of_mem _ hx)) (by omega)
      refine ⟨j + 1, by rw [List.length_cons]; omega, by rw [z2]; push_cast; omega, z3, by rw [List.getD_cons_succ]; exact z4, by rw [List.getD_cons_succ]; exact z5, z6, ?_⟩
      rw [z7]
      have e0 : tsm (d :: r) (j + 1) = d.1.length + tsm r j := by unfold tsm; rw [List.take_succ_cons, List.map_cons, List.sum_cons]
      rw [e0]; push_cast; omega
theorem flat_get {ws : List Wd} {i : Nat} (ok : LnOk ws) (hi : i < (flat ws).length) : ∃ j : Nat, j < ws.length ∧ ((flat ws).getD i fs0).w = j ∧ 0 ≤ ((flat ws).getD i fs0).f ∧ ((flat ws).getD i fs0).f + ((flat ws).getD i fs0).n ≤ ((ws.getD j wd0).1.length : Nat) ∧ ((flat ws).getD i fs0).b = (ws.getD j wd0).2.1 ∧ SyOk (((flat ws).getD i fs0).n, ((flat ws).getD i fs0).m, ((flat ws).getD i fs0).s) ∧ psm (flat ws) i = (tsm ws j : Nat) + ((flat ws).getD i fs0).f := by
  obtain ⟨j, z1, z2, z⟩ := flatF_get ws 0 i ok.2.2 hi
  exact ⟨j, z1, by unfold flat; omega, z⟩
theorem psm_succ {L : List FS} {i : Nat} (h : i < L.length) : psm L (i + 1) = psm L i + (L.getD i fs0).n := by
  unfold psm
  rw [List.take_succ_eq_append_getElem h, List.map_append, List.sum_append, List.getD_eq_getElem?_getD, List.getElem?_eq_getElem h]
  show _ + ([(L[i]).n] : List Int).sum = _
  rw [List.sum_cons, List.sum_nil, Int.add_zero]; rfl
theorem fsyl_ne {w b f : Int} {L : List Sy} (h : 1 ≤ L.length) : (fsyl w b f L).getLastD fs0 = (fsyl w b f L).getD (L.length - 1) fs0 := by
  rw [List.getLastD_eq_getLast?, List.getLast?_eq_getElem?, fsyl_len, List.getD_eq_getElem?_getD]
/-- the last syllable lies in the last word -/
theorem flatF_last : ∀ (ws : List Wd) (w : Int), (∀ d ∈ ws, WdOk d) → 1 ≤ ws.length → 1 ≤ (flatF w ws).length ∧ ((flatF w ws).getD ((flatF w ws).length - 1) fs0).w = w + ((ws.length : Nat) : Int) - 1 := by
  intro ws
  induction ws with
  | nil => intro w _ h; exact absurd h (by decide)
  | cons d r ih =>
    intro w ok _
    have okd := ok d List.mem_cons_self
    have l1 := okd.2.2.2.2.1
    rw [flatF, List.length_append, fsyl_len]
    refine ⟨by omega, ?_⟩
    cases r with
    | nil =>
      rw [flatF, List.append_nil]
      show ((fsyl w d.2.1 0 d.2.2).getD (d.2.2.length + 0 - 1) fs0).w = w + 1 - 1
      rw [fsyl_get _ _ _ _ _ (by omega)]
      show w = w + 1 - 1; omega
    | cons e r' =>
      have z := ih (w + 1) (fun x hx => ok x (List.mem_cons_of_mem _ hx)) (by rw [List.length_cons]; omega)
      rw [getD_app_r fs0 (by rw [fsyl_len]; omega), fsyl_len, show d.2.2.length + (flatF (w + 1) (e :: r')).length - 1 - d.2.2.length = (flatF (w + 1) (e :: r')).length - 1 by omega, z.2]
      simp only [List.length_cons]; push_cast; omega
theorem rv2 {h : xH} {l i : Int} (h0 : 0 ≤ i) (h1 : i < 40) : RV h l 2 i = h.i 82 (40 * l + i) ∧ RV h l 3 i = h.i 83 (40 * l + i) ∧ RV h l 4 i = h.i 84 (40 * l + i) ∧ RV h l 5 i = h.i 85 (40 * l + i) ∧ RV h l 6 i = h.i 87 (40 * l + i) ∧ RV h l 7 i = h.i 88 (40 * l + i) := ⟨if_pos ⟨h0, h1⟩, if_pos ⟨h0, h1⟩, if_pos ⟨h0, h1⟩, if_pos ⟨h0, h1⟩, if_pos ⟨h0, h1⟩, if_pos ⟨h0, h1⟩⟩
theorem rv8 {h : xH} {l k : Int} (h0 : 0 ≤ k) (h1 : k < 640) : RV h l 8 k = h.i 86 (640 * l + k) := if_pos ⟨h0, h1⟩
theorem rv9 {h : xH} {l k : Int} (h0 : 0 ≤ k) (h1 : k < 12) : RV h l 9 k = h.i 79 (12 * l + k) ∧ RV h l 10 k = h.i 80 (12 * l + k) := ⟨if_pos ⟨h0, h1⟩, if_pos ⟨h0, h1⟩⟩
theorem rv11 {h : xH} {l k : Int} (h0 : 0 ≤ k) (h1 : k < 192) : RV h l 11 k = h.i 78 (192 * l + k) := if_pos ⟨h0, h1⟩
/-- a line of the reference, by its cells -/
theorem rln_syl {h : xH} {l : Int} {ws : List Wd} (ok : LnOk ws) (R : RLn (RV h l) ws) {i : Nat} (hi : i < (flat ws).length) : h.i 82 (40 * l + i) = ((flat ws).getD i fs0).w ∧ h.i 83 (40 * l + i) = ((flat ws).getD i fs0).f ∧ h.i 84 (40 * l + i) = ((flat ws).getD i fs0).n ∧ h.i 85 (40 * l + i) = ((flat ws).getD i fs0).m ∧ h.i 87 (40 * l + i) = (((flat ws).getD i fs0).s.length : Nat) ∧ h.i 88 (40 * l + i) = vbits ((flat ws).getD i fs0).s ∧ ∀ k : Nat, k < ((flat ws).getD i fs0).s.length → h.i 86 (640 * l + (16 * i + k)) = (((flat ws).getD i fs0).s.getD k (0, 0)).1 := by
  have z := R.2.2.1 i hi
  have o := ok.2.1
  have q := rv2 (h := h) (l := l) (i := i) (by omega) (by omega)
  obtain ⟨j, -, -, -, -, -, so, -⟩ := flat_get ok hi
  have sl : ((flat ws).getD i fs0).s.length ≤ 16 := so.2.2.2.2.1
  rw [q.1, q.2.1, q.2.2.1, q.2.2.2.1, q.2.2.2.2.1, q.2.2.2.2.2] at z
  refine ⟨z.1, z.2.1, z.2.2.1, z.2.2.2.1, z.2.2.2.2.1, z.2.2.2.2.2.1, fun k hk => ?_⟩
  have y := z.2.2.2.2.2.2 k hk
  rw [rv8 (by omega) (by omega)] at y
  exact y
theorem rln_wd {h : xH} {l : Int} {ws : List Wd} (ok : LnOk ws) (R : RLn (RV h l) ws) {w : Nat} (hw : w < ws.length) : h.i 79 (12 * l + w) = ((ws.getD w wd0).1.length : Nat) ∧ h.i 80 (12 * l + w) = (ws.getD w wd0).2.1 ∧ ∀ k : Nat, k < (ws.getD w wd0).1.length → h.i 78 (192 * l + (16 * w + k)) = (ws.getD w wd0).1.getD k 0 := by
  have z := R.2.2.2 w hw
  have o := ok.1
  have q := rv9 (h := h) (l := l) (k := w) (by omega) (by omega)
  have wo := (ok.2.2 _ (getD_mem wd0 hw)).2.1
  rw [q.1, q.2] at z
  refine ⟨z.1, z.2.1, fun k hk => ?_⟩
  have y := z.2.2 k hk
  rw [rv11 (by omega) (by omega)] at y
  exact y
