/-! frames: what an operation leaves as it was; the parts of what holds between the two sides -/
theorem SX_2 {h h' : xH} (e : h'.2 = h.2) (S : SX h) : SX h' := by
  obtain ⟨a, b⟩ := h
  obtain ⟨a', b'⟩ := h'
  have e : b' = b := e
  subst e
  exact S
theorem SR_2 {h h' : xH} (e : h'.2 = h.2) (S : SR h) : SR h' := by
  obtain ⟨a, b⟩ := h
  obtain ⟨a', b'⟩ := h'
  have e : b' = b := e
  subst e
  exact S
theorem x2_wi (h : xH) (a k v : Int) : (h.wi a k v).2 = h.2 := rfl
def Fr (l : List Int) (l2 : List (Int × Int)) (h h' : xH) : Prop := h'.2 = h.2 ∧ ∀ c k, c ∉ l → (c, k) ∉ l2 → h'.i c k = h.i c k
theorem Fr_refl (l : List Int) (l2 : List (Int × Int)) (h : xH) : Fr l l2 h h := ⟨rfl, fun _ _ _ _ => rfl⟩
theorem Fr_trans {l : List Int} {l2 : List (Int × Int)} {h h1 h2 : xH} (a : Fr l l2 h h1) (b : Fr l l2 h1 h2) : Fr l l2 h h2 := ⟨b.1.trans a.1, fun c k u v => (b.2 c k u v).trans (a.2 c k u v)⟩
theorem Fr_cell {l : List Int} {l2 : List (Int × Int)} {h h1 : xH} (a : Fr l l2 h h1) {c : Int} (k v : Int) (hc : c ∈ l) : Fr l l2 h (h1.wi c k v) := ⟨a.1, fun b j u w => by rw [xi_wi, if_neg (fun e : b = c ∧ j = k => u (e.1 ▸ hc))]; exact a.2 b j u w⟩
theorem Fr_slot {l : List Int} {l2 : List (Int × Int)} {h h1 : xH} (a : Fr l l2 h h1) {c k : Int} (v : Int) (hc : (c, k) ∈ l2) : Fr l l2 h (h1.wi c k v) := ⟨a.1, fun b j u w => by rw [xi_wi, if_neg (fun e : b = c ∧ j = k => w (by rw [e.1, e.2]; exact hc))]; exact a.2 b j u w⟩
theorem Fr_mono {l m : List Int} {l2 m2 : List (Int × Int)} {h h' : xH} (a : Fr l l2 h h') (hl : ∀ c ∈ l, c ∈ m) (h2 : ∀ c ∈ l2, c ∈ m2) : Fr m m2 h h' := ⟨a.1, fun c k u v => a.2 c k (fun q => u (hl c q)) (fun q => v (h2 _ q))⟩
theorem Fr_row {l : List Int} {l2 : List (Int × Int)} {h h' : xH} (a : Fr l l2 h h') {c : Int} (hc : c ∉ l) (h2 : ∀ p ∈ l2, p.1 ≠ c) : h'.i c = h.i c := funext (fun k => a.2 c k hc (fun q => h2 _ q rfl))
/-- frames of operations that make new cells -/
def FA (l : List Int) (l2 lr : List (Int × Int)) (h h' : xH) : Prop := h.nx ≤ h'.nx ∧ (∀ c, c < h.nx → h'.tag c = h.tag c ∧ h'.len c = h.len c) ∧ (∀ c k, c < h.nx → c ∉ l → (c, k) ∉ l2 → c ≠ h.r 28 6 → h'.i c k = h.i c k) ∧ (∀ c k, c < h.nx → (c, k) ∉ lr → h'.r c k = h.r c k)
theorem FA_of {l : List Int} {l2 : List (Int × Int)} (lr : List (Int × Int)) {h h' : xH} (a : Fr l l2 h h') : FA l l2 lr h h' := by
  obtain ⟨e, f⟩ := a
  obtain ⟨x, b⟩ := h
  obtain ⟨y, b'⟩ := h'
  have e : b' = b := e
  subst e
  exact ⟨Int.le_refl _, fun _ _ => ⟨rfl, rfl⟩, fun c k _ u v _ => f c k u v, fun _ _ _ _ => rfl⟩
theorem FA_row {l : List Int} {l2 lr : List (Int × Int)} {h h' : xH} (a : FA l l2 lr h h') {c : Int} (hn : c < h.nx) (hc : c ∉ l) (h2 : ∀ p ∈ l2, p.1 ≠ c) (ht : c ≠ h.r 28 6) : h'.i c = h.i c := funext (fun k => a.2.2.1 c k hn hc (fun q => h2 _ q rfl) ht)
/-- no new cell has anything in it -/
def I_new (h : xH) : Prop := ∀ c k, h.nx ≤ c → h.i c k = 0 ∧ h.r c k = 0
/-- where the table of the scanner may lie -/
def I_tab (h : xH) : Prop := h.r 28 6 = 34 ∨ 130 ≤ h.r 28 6
def sumN (f : Int → Int) : Nat → Int
  | 0 => 0
  | n + 1 => sumN f n + f n
def I_tape (h : xH) : Prop := h.i 2 1 = h.i 59 1 ∧ 0 ≤ h.i 59 1 ∧ h.i 59 1 ≤ 240 ∧ ∀ k, 0 ≤ k → k < h.i 59 1 → h.i 3 k = h.i 60 k % 256 ∧ -128 ≤ h.i 60 k ∧ h.i 60 k < 128
def I_vow (h : xH) : Prop := (∀ k, 0 ≤ k → k < 26 → h.i 5 k = h.i 61 k ∧ 0 ≤ h.i 61 k ∧ h.i 61 k ≤ 1) ∧ h.i 4 1 = sumN (h.i 61) 26
def I_pair (h : xH) : Prop := h.i 4 3 = h.i 59 6 ∧ 0 ≤ h.i 59 6 ∧ h.i 59 6 ≤ 12 ∧ (∀ k, 0 ≤ k → k < 676 → 0 ≤ h.i 6 k ∧ h.i 6 k ≤ 2) ∧ (∀ k, 0 ≤ k → k < h.i 59 6 → 0 ≤ h.i 62 k ∧ h.i 62 k < 26 ∧ 0 ≤ h.i 63 k ∧ h.i 63 k < 26 ∧ 1 ≤ h.i 64 k ∧ h.i 64 k ≤ 2 ∧ h.i 6 (26 * h.i 62 k + h.i 63 k) = h.i 64 k) ∧ (∀ j k, 0 ≤ j → j < k → k < h.i 59 6 → ¬ (h.i 62 j = h.i 62 k ∧ h.i 63 j = h.i 63 k)) ∧ (∀ a b, 0 ≤ a → a < 26 → 0 ≤ b → b < 26 → h.i 6 (26 * a + b) ≠ 0 → ∃ k, 0 ≤ k ∧ k < h.i 59 6 ∧ h.i 62 k = a ∧ h.i 63 k = b)
def I_form (h : xH) : Prop := (∀ k, 0 ≤ k → k < 8 → h.i 25 k = h.i 95 k ∧ 0 ≤ h.i 95 k ∧ h.i 95 k ≤ 8 ∧ h.i 26 k = h.i 96 k ∧ 0 ≤ h.i 96 k ∧ h.i 96 k < 256) ∧ (∀ k, 0 ≤ k → k < 64 → h.i 24 k = h.i 94 k ∧ 0 ≤ h.i 94 k ∧ h.i 94 k < 4096) ∧ (∀ k, 0 ≤ k → k < 5 → h.i 27 k = h.i 97 k ∧ -1 ≤ h.i 97 k ∧ h.i 97 k ≤ 50)
def I_told (h : xH) : Prop := h.i 2 12 = h.i 59 64 ∧ 0 ≤ h.i 59 64 ∧ h.i 59 64 ≤ 40 ∧ ∀ k, 0 ≤ k → k < 6 * h.i 59 64 → h.i 57 k = h.i 112 k
def I_fault (h : xH) : Prop := h.i 15 3 = h.i 59 34 ∧ h.i 15 4 = h.i 59 35
def I_place (h : xH) : Prop := h.i 48 9 = h.i 59 74 ∧ 0 ≤ h.i 59 74 ∧ h.i 59 74 ≤ 12 ∧ (∀ k, 0 ≤ k → k < h.i 59 74 → h.i 50 k = h.i 118 k ∧ 0 ≤ h.i 118 k ∧ h.i 118 k < 8 ∧ h.i 51 k = h.i 119 k ∧ -1 ≤ h.i 119 k ∧ h.i 119 k ≤ 5 ∧ h.i 52 k = h.i 120 k ∧ -1 ≤ h.i 120 k ∧ h.i 120 k < k ∧ 0 ≤ h.i 121 k ∧ h.i 121 k ≤ 1) ∧ 0 ≤ h.i 48 8 ∧ h.i 48 8 < 4096 ∧ (∀ k : Nat, k < 12 → h.i 48 8 / 2 ^ k % 2 = if (k : Int) < h.i 59 74 then h.i 121 k else 0)
def I_judge (h : xH) : Prop := (h.i 59 78 = -1 ∧ h.i 48 15 = -1 ∧ h.i 48 16 = -1 ∧ h.i 48 17 = -1 ∧ ∀ k, 0 ≤ k → k < 12 → h.i 55 k = -1) ∨ (h.i 59 78 ≠ -1 ∧ h.i 48 15 = h.i 59 78 ∧ h.i 48 16 = h.i 59 79 ∧ h.i 48 17 = h.i 59 80 ∧ ∀ k, 0 ≤ k → k < 12 → h.i 55 k = h.i 124 k)
