/-! frames: what an operation leaves as it was; the parts of what holds between the two sides -/
theorem srt {h : xH} (S : SR h) : h.tag 59 = 12 ∧ h.tag 60 = 21 ∧ h.tag 61 = 22 ∧ h.tag 62 = 20 ∧ h.tag 63 = 20 ∧ h.tag 64 = 20 ∧ h.tag 65 = 20 ∧ h.tag 66 = 22 ∧ h.tag 67 = 20 ∧ h.tag 68 = 21 ∧ h.tag 69 = 20 ∧ h.tag 70 = 20 ∧ h.tag 71 = 20 ∧ h.tag 72 = 20 ∧ h.tag 73 = 21 ∧ h.tag 74 = 20 ∧ h.tag 75 = 20 ∧ h.tag 76 = 22 ∧ h.tag 77 = 20 ∧ h.tag 78 = 21 ∧ h.tag 79 = 20 ∧ h.tag 80 = 22 ∧ h.tag 81 = 20 ∧ h.tag 82 = 20 ∧ h.tag 83 = 20 ∧ h.tag 84 = 20 ∧ h.tag 85 = 20 ∧ h.tag 86 = 20 ∧ h.tag 87 = 20 ∧ h.tag 88 = 20 ∧ h.tag 89 = 20 ∧ h.tag 90 = 20 ∧ h.tag 91 = 20 ∧ h.tag 92 = 20 ∧ h.tag 93 = 20 ∧ h.tag 94 = 20 ∧ h.tag 95 = 20 ∧ h.tag 96 = 20 ∧ h.tag 97 = 20 ∧ h.tag 98 = 20 ∧ h.tag 99 = 20 ∧ h.tag 100 = 20 ∧ h.tag 101 = 20 ∧ h.tag 102 = 20 ∧ h.tag 103 = 20 ∧ h.tag 104 = 20 ∧ h.tag 105 = 20 ∧ h.tag 106 = 20 ∧ h.tag 107 = 20 ∧ h.tag 108 = 20 ∧ h.tag 109 = 20 ∧ h.tag 110 = 20 ∧ h.tag 111 = 20 ∧ h.tag 112 = 20 ∧ h.tag 113 = 20 ∧ h.tag 114 = 20 ∧ h.tag 115 = 22 ∧ h.tag 116 = 20 ∧ h.tag 117 = 20 ∧ h.tag 118 = 20 ∧ h.tag 119 = 20 ∧ h.tag 120 = 20 ∧ h.tag 121 = 22 ∧ h.tag 122 = 20 ∧ h.tag 123 = 20 ∧ h.tag 124 = 20 ∧ h.tag 125 = 21 ∧ h.tag 126 = 20 ∧ h.tag 127 = 20 ∧ h.tag 128 = 20 ∧ h.tag 129 = 20 := S.1
theorem srl {h : xH} (S : SR h) : h.len 60 = 240 ∧ h.len 61 = 26 ∧ h.len 62 = 12 ∧ h.len 63 = 12 ∧ h.len 64 = 12 ∧ h.len 65 = 18 ∧ h.len 66 = 18 ∧ h.len 67 = 18 ∧ h.len 68 = 640 ∧ h.len 69 = 40 ∧ h.len 70 = 40 ∧ h.len 71 = 640 ∧ h.len 72 = 640 ∧ h.len 73 = 240 ∧ h.len 74 = 240 ∧ h.len 75 = 240 ∧ h.len 76 = 15 ∧ h.len 77 = 15 ∧ h.len 78 = 2880 ∧ h.len 79 = 180 ∧ h.len 80 = 180 ∧ h.len 81 = 15 ∧ h.len 82 = 600 ∧ h.len 83 = 600 ∧ h.len 84 = 600 ∧ h.len 85 = 600 ∧ h.len 86 = 9600 ∧ h.len 87 = 600 ∧ h.len 88 = 600 ∧ h.len 89 = 12 ∧ h.len 90 = 48 ∧ h.len 91 = 12 ∧ h.len 92 = 12 ∧ h.len 93 = 12 ∧ h.len 94 = 64 ∧ h.len 95 = 8 ∧ h.len 96 = 8 ∧ h.len 97 = 5 ∧ h.len 98 = 2688 ∧ h.len 99 = 2688 ∧ h.len 100 = 2688 ∧ h.len 101 = 2688 ∧ h.len 102 = 2688 ∧ h.len 103 = 2688 ∧ h.len 104 = 2688 ∧ h.len 105 = 42 ∧ h.len 106 = 70849 ∧ h.len 107 = 70849 ∧ h.len 108 = 201 ∧ h.len 109 = 201 ∧ h.len 110 = 49446 ∧ h.len 111 = 246 ∧ h.len 112 = 240 ∧ h.len 113 = 141696 ∧ h.len 114 = 1280 ∧ h.len 115 = 1280 ∧ h.len 116 = 2 ∧ h.len 117 = 12 ∧ h.len 118 = 12 ∧ h.len 119 = 12 ∧ h.len 120 = 12 ∧ h.len 121 = 12 ∧ h.len 122 = 96 ∧ h.len 123 = 12 ∧ h.len 124 = 12 ∧ h.len 125 = 640 ∧ h.len 126 = 40 ∧ h.len 127 = 40 ∧ h.len 128 = 40 ∧ h.len 129 = 6 := S.2.1
theorem srf {h : xH} (S : SR h) : h.r 59 0 = 60 ∧ h.r 59 2 = 61 ∧ h.r 59 3 = 62 ∧ h.r 59 4 = 63 ∧ h.r 59 5 = 64 ∧ h.r 59 7 = 65 ∧ h.r 59 8 = 66 ∧ h.r 59 9 = 67 ∧ h.r 59 11 = 68 ∧ h.r 59 12 = 69 ∧ h.r 59 13 = 70 ∧ h.r 59 14 = 71 ∧ h.r 59 15 = 72 ∧ h.r 59 17 = 73 ∧ h.r 59 18 = 74 ∧ h.r 59 19 = 75 ∧ h.r 59 21 = 76 ∧ h.r 59 22 = 77 ∧ h.r 59 23 = 78 ∧ h.r 59 24 = 79 ∧ h.r 59 25 = 80 ∧ h.r 59 26 = 81 ∧ h.r 59 27 = 82 ∧ h.r 59 28 = 83 ∧ h.r 59 29 = 84 ∧ h.r 59 30 = 85 ∧ h.r 59 31 = 86 ∧ h.r 59 32 = 87 ∧ h.r 59 33 = 88 ∧ h.r 59 36 = 89 ∧ h.r 59 37 = 90 ∧ h.r 59 38 = 91 ∧ h.r 59 39 = 92 ∧ h.r 59 40 = 93 ∧ h.r 59 41 = 94 ∧ h.r 59 42 = 95 ∧ h.r 59 43 = 96 ∧ h.r 59 44 = 97 ∧ h.r 59 47 = 98 ∧ h.r 59 48 = 99 ∧ h.r 59 49 = 100 ∧ h.r 59 50 = 101 ∧ h.r 59 51 = 102 ∧ h.r 59 52 = 103 ∧ h.r 59 53 = 104 ∧ h.r 59 54 = 105 ∧ h.r 59 56 = 106 ∧ h.r 59 57 = 107 ∧ h.r 59 58 = 108 ∧ h.r 59 59 = 109 ∧ h.r 59 60 = 110 ∧ h.r 59 62 = 111 ∧ h.r 59 63 = 112 ∧ h.r 59 65 = 113 ∧ h.r 59 66 = 114 ∧ h.r 59 67 = 115 ∧ h.r 59 68 = 116 ∧ h.r 59 69 = 117 ∧ h.r 59 70 = 118 ∧ h.r 59 71 = 119 ∧ h.r 59 72 = 120 ∧ h.r 59 73 = 121 ∧ h.r 59 75 = 122 ∧ h.r 59 76 = 123 ∧ h.r 59 77 = 124 ∧ h.r 59 81 = 125 ∧ h.r 59 82 = 126 ∧ h.r 59 83 = 127 ∧ h.r 59 85 = 128 ∧ h.r 59 86 = 129 := S.2.2
theorem sxt {h : xH} (S : SX h) : h.tag 2 = 11 ∧ h.tag 3 = 20 ∧ h.tag 4 = 2 ∧ h.tag 5 = 22 ∧ h.tag 6 = 20 ∧ h.tag 7 = 0 ∧ h.tag 8 = 23 ∧ h.tag 9 = 9 ∧ h.tag 10 = 20 ∧ h.tag 11 = 20 ∧ h.tag 12 = 20 ∧ h.tag 13 = 20 ∧ h.tag 14 = 20 ∧ h.tag 15 = 3 ∧ h.tag 16 = 9 ∧ h.tag 17 = 20 ∧ h.tag 18 = 20 ∧ h.tag 19 = 20 ∧ h.tag 20 = 20 ∧ h.tag 21 = 20 ∧ h.tag 22 = 4 ∧ h.tag 23 = 24 ∧ h.tag 24 = 20 ∧ h.tag 25 = 20 ∧ h.tag 26 = 20 ∧ h.tag 27 = 20 ∧ h.tag 28 = 8 ∧ h.tag 29 = 20 ∧ h.tag 30 = 20 ∧ h.tag 31 = 20 ∧ h.tag 32 = 20 ∧ h.tag 33 = 20 ∧ h.tag 34 = 20 ∧ h.tag 35 = 10 ∧ h.tag 36 = 20 ∧ h.tag 37 = 20 ∧ h.tag 38 = 20 ∧ h.tag 39 = 20 ∧ h.tag 40 = 7 ∧ h.tag 41 = 20 ∧ h.tag 42 = 20 ∧ h.tag 43 = 20 ∧ h.tag 44 = 20 ∧ h.tag 45 = 5 ∧ h.tag 46 = 20 ∧ h.tag 47 = 20 ∧ h.tag 48 = 6 ∧ h.tag 49 = 23 ∧ h.tag 50 = 20 ∧ h.tag 51 = 20 ∧ h.tag 52 = 20 ∧ h.tag 53 = 20 ∧ h.tag 54 = 20 ∧ h.tag 55 = 20 ∧ h.tag 56 = 20 ∧ h.tag 57 = 20 ∧ h.tag 58 = 23 := S.1
theorem sxl {h : xH} (S : SX h) : h.len 3 = 240 ∧ h.len 5 = 26 ∧ h.len 6 = 676 ∧ h.len 8 = 40 ∧ h.len 10 = 16 ∧ h.len 11 = 17 ∧ h.len 12 = 16 ∧ h.len 13 = 16 ∧ h.len 14 = 16 ∧ h.len 17 = 192 ∧ h.len 18 = 41 ∧ h.len 19 = 40 ∧ h.len 20 = 40 ∧ h.len 21 = 40 ∧ h.len 23 = 12 ∧ h.len 24 = 64 ∧ h.len 25 = 8 ∧ h.len 26 = 8 ∧ h.len 27 = 5 ∧ h.len 29 = 328 ∧ h.len 30 = 96 ∧ h.len 31 = 164 ∧ h.len 32 = 41 ∧ h.len 33 = 41 ∧ h.len 34 = 0 ∧ h.len 36 = 64 ∧ h.len 37 = 64 ∧ h.len 38 = 64 ∧ h.len 39 = 64 ∧ h.len 41 = 0 ∧ h.len 42 = 201 ∧ h.len 43 = 200 ∧ h.len 44 = 200 ∧ h.len 46 = 369 ∧ h.len 47 = 1312 ∧ h.len 49 = 12 ∧ h.len 50 = 12 ∧ h.len 51 = 12 ∧ h.len 52 = 12 ∧ h.len 53 = 96 ∧ h.len 54 = 12 ∧ h.len 55 = 12 ∧ h.len 56 = 6 ∧ h.len 57 = 240 ∧ h.len 58 = 40 := S.2.1
theorem sxf {h : xH} (S : SX h) : h.r 2 0 = 3 ∧ h.r 2 2 = 4 ∧ h.r 2 3 = 7 ∧ h.r 2 4 = 15 ∧ h.r 2 5 = 22 ∧ h.r 2 6 = 28 ∧ h.r 2 7 = 35 ∧ h.r 2 8 = 40 ∧ h.r 2 9 = 45 ∧ h.r 2 10 = 48 ∧ h.r 2 11 = 57 ∧ h.r 2 14 = 58 ∧ h.r 4 0 = 5 ∧ h.r 4 2 = 6 ∧ h.r 7 0 = 4 ∧ h.r 7 1 = 8 ∧ h.r 7 3 = 9 ∧ h.r 9 0 = 10 ∧ h.r 9 1 = 11 ∧ h.r 9 2 = 12 ∧ h.r 9 3 = 13 ∧ h.r 9 4 = 14 ∧ h.r 9 5 = 0 ∧ h.r 15 0 = 4 ∧ h.r 15 1 = 7 ∧ h.r 15 2 = 16 ∧ h.r 16 0 = 17 ∧ h.r 16 1 = 18 ∧ h.r 16 2 = 19 ∧ h.r 16 3 = 20 ∧ h.r 16 4 = 21 ∧ h.r 16 5 = 0 ∧ h.r 22 0 = 23 ∧ h.r 22 1 = 24 ∧ h.r 22 2 = 25 ∧ h.r 22 3 = 26 ∧ h.r 22 4 = 27 ∧ h.r 28 0 = 22 ∧ h.r 28 1 = 29 ∧ h.r 28 2 = 30 ∧ h.r 28 3 = 31 ∧ h.r 28 4 = 32 ∧ h.r 28 5 = 33 ∧ h.r 35 0 = 22 ∧ h.r 35 1 = 28 ∧ h.r 35 6 = 36 ∧ h.r 35 7 = 37 ∧ h.r 35 8 = 38 ∧ h.r 35 9 = 39 ∧ h.r 40 0 = 22 ∧ h.r 40 1 = 28 ∧ h.r 40 2 = 35 ∧ h.r 40 4 = 42 ∧ h.r 40 5 = 43 ∧ h.r 40 6 = 44 ∧ h.r 45 0 = 22 ∧ h.r 45 1 = 46 ∧ h.r 45 2 = 47 ∧ h.r 48 0 = 22 ∧ h.r 48 1 = 28 ∧ h.r 48 2 = 35 ∧ h.r 48 3 = 49 ∧ h.r 48 5 = 50 ∧ h.r 48 6 = 51 ∧ h.r 48 7 = 52 ∧ h.r 48 10 = 53 ∧ h.r 48 11 = 54 ∧ h.r 48 14 = 55 ∧ h.r 48 18 = 56 := S.2.2
theorem c_R_in_t {d : Nat} {h : xH} {Q : Int → xH → Prop} {x a b : Int} (c : a ≤ x ∧ x ≤ b) (H : Q 1 h) : xCi (d + 1) M_R_in [(0, x), (0, a), (0, b)] h Q := c_R_in (by rw [if_pos c]; exact H)
theorem c_R_in_f {d : Nat} {h : xH} {Q : Int → xH → Prop} {x a b : Int} (c : ¬ (a ≤ x ∧ x ≤ b)) (H : Q 0 h) : xCi (d + 1) M_R_in [(0, x), (0, a), (0, b)] h Q := c_R_in (by rw [if_neg c]; exact H)
theorem SX_2 {h h' : xH} (e : h'.2 = h.2) (S : SX h) : SX h' := by
  obtain ⟨a, b⟩ := h
  obtain ⟨a', b'⟩ := h'
  have e : b' = b := e
  subst e
  exact S
theorem SR_2 {h h' : xH} (e : h'.2 = h.2) (S : SR h) : SR h' := by
  obtain ⟨a, b⟩ := h
  obtain ⟨a', b'⟩ := h'
  have e : b' = b := e
  subst e
  exact S
theorem x2_wi (h : xH) (a k v : Int) : (h.wi a k v).2 = h.2 := rfl
def Fr (l : List Int) (l2 : List (Int × Int)) (h h' : xH) : Prop := h'.2 = h.2 ∧ ∀ c k, c ∉ l → (c, k) ∉ l2 → h'.i c k = h.i c k
theorem Fr_refl (l : List Int) (l2 : List (Int × Int)) (h : xH) : Fr l l2 h h := ⟨rfl, fun _ _ _ _ => rfl⟩
theorem Fr_trans {l : List Int} {l2 : List (Int × Int)} {h h1 h2 : xH} (a : Fr l l2 h h1) (b : Fr l l2 h1 h2) : Fr l l2 h h2 := ⟨b.1.trans a.1, fun c k u v => (b.2 c k u v).trans (a.2 c k u v)⟩
theorem Fr_cell {l : List Int} {l2 : List (Int × Int)} {h h1 : xH} (a : Fr l l2 h h1) {c : Int} (k v : Int) (hc : c ∈ l) : Fr l l2 h (h1.wi c k v) := ⟨a.1, fun b j u w => by rw [xi_wi, if_neg (fun e : b = c ∧ j = k => u (e.1 ▸ hc))]; exact a.2 b j u w⟩
theorem Fr_slot {l : List Int} {l2 : List (Int × Int)} {h h1 : xH} (a : Fr l l2 h h1) {c k : Int} (v : Int) (hc : (c, k) ∈ l2) : Fr l l2 h (h1.wi c k v) := ⟨a.1, fun b j u w => by rw [xi_wi, if_neg (fun e : b = c ∧ j = k => w (by rw [e.1, e.2]; exact hc))]; exact a.2 b j u w⟩
theorem Fr_mono {l m : List Int} {l2 m2 : List (Int × Int)} {h h' : xH} (a : Fr l l2 h h') (hl : ∀ c ∈ l, c ∈ m) (h2 : ∀ c ∈ l2, c ∈ m2) : Fr m m2 h h' := ⟨a.1, fun c k u v => a.2 c k (fun q => u (hl c q)) (fun q => v (h2 _ q))⟩
theorem Fr_row {l : List Int} {l2 : List (Int × Int)} {h h' : xH} (a : Fr l l2 h h') {c : Int} (hc : c ∉ l) (h2 : ∀ p ∈ l2, p.1 ≠ c) : h'.i c = h.i c := funext (fun k => a.2 c k hc (fun q => h2 _ q rfl))
/-- frames of operations that make new cells -/
def FA (l : List Int) (l2 : List (Int × Int)) (lR : List Int) (lr : List (Int × Int)) (h h' : xH) : Prop := h.nx ≤ h'.nx ∧ (∀ c, c < h.nx → h'.tag c = h.tag c ∧ h'.len c = h.len c) ∧ (∀ c k, c < h.nx → c ∉ l → (c, k) ∉ l2 → c ≠ h.r 28 6 → h'.i c k = h.i c k) ∧ (∀ c k, c < h.nx → c ∉ lR → (c, k) ∉ lr → h'.r c k = h.r c k)
theorem FA_of {l : List Int} {l2 : List (Int × Int)} (lR : List Int) (lr : List (Int × Int)) {h h' : xH} (a : Fr l l2 h h') : FA l l2 lR lr h h' := by
  obtain ⟨e, f⟩ := a
  obtain ⟨x, b⟩ := h
  obtain ⟨y, b'⟩ := h'
  have e : b' = b := e
  subst e
  exact ⟨Int.le_refl _, fun _ _ => ⟨rfl, rfl⟩, fun c k _ u v _ => f c k u v, fun _ _ _ _ _ => rfl⟩
theorem FA_row {l lR : List Int} {l2 lr : List (Int × Int)} {h h' : xH} (a : FA l l2 lR lr h h') {c : Int} (hn : c < h.nx) (hc : c ∉ l) (h2 : ∀ p ∈ l2, p.1 ≠ c) (ht : c ≠ h.r 28 6) : h'.i c = h.i c := funext (fun k => a.2.2.1 c k hn hc (fun q => h2 _ q rfl) ht)
/-- no new cell has anything in it -/
def I_new (h : xH) : Prop := ∀ c k, h.nx ≤ c → h.i c k = 0 ∧ h.r c k = 0
/-- where the table of the scanner may lie -/
def I_tab (h : xH) : Prop := h.r 28 6 = 34 ∨ 130 ≤ h.r 28 6
def sumN (f : Int → Int) : Nat → Int
  | 0 => 0
  | n + 1 => sumN f n + f n
def I_tape (h : xH) : Prop := h.i 2 1 = h.i 59 1 ∧ 0 ≤ h.i 59 1 ∧ h.i 59 1 ≤ 240 ∧ ∀ k, 0 ≤ k → k < h.i 59 1 → h.i 3 k = h.i 60 k % 256 ∧ -128 ≤ h.i 60 k ∧ h.i 60 k < 128
def I_vow (h : xH) : Prop := (∀ k, 0 ≤ k → k < 26 → h.i 5 k = h.i 61 k ∧ 0 ≤ h.i 61 k ∧ h.i 61 k ≤ 1) ∧ h.i 4 1 = sumN (h.i 61) 26
def I_pair (h : xH) : Prop := h.i 4 3 = h.i 59 6 ∧ 0 ≤ h.i 59 6 ∧ h.i 59 6 ≤ 12 ∧ (∀ k, 0 ≤ k → k < 676 → 0 ≤ h.i 6 k ∧ h.i 6 k ≤ 2) ∧ (∀ k, 0 ≤ k → k < h.i 59 6 → 0 ≤ h.i 62 k ∧ h.i 62 k < 26 ∧ 0 ≤ h.i 63 k ∧ h.i 63 k < 26 ∧ 1 ≤ h.i 64 k ∧ h.i 64 k ≤ 2 ∧ h.i 6 (26 * h.i 62 k + h.i 63 k) = h.i 64 k) ∧ (∀ j k, 0 ≤ j → j < k → k < h.i 59 6 → ¬ (h.i 62 j = h.i 62 k ∧ h.i 63 j = h.i 63 k)) ∧ (∀ a b, 0 ≤ a → a < 26 → 0 ≤ b → b < 26 → h.i 6 (26 * a + b) ≠ 0 → ∃ k, 0 ≤ k ∧ k < h.i 59 6 ∧ h.i 62 k = a ∧ h.i 63 k = b)
def I_form (h : xH) : Prop := (∀ k, 0 ≤ k → k < 8 → h.i 25 k = h.i 95 k ∧ 0 ≤ h.i 95 k ∧ h.i 95 k ≤ 8 ∧ h.i 26 k = h.i 96 k ∧ 0 ≤ h.i 96 k ∧ h.i 96 k < 256) ∧ (∀ k, 0 ≤ k → k < 64 → h.i 24 k = h.i 94 k ∧ 0 ≤ h.i 94 k ∧ h.i 94 k < 4096) ∧ (∀ k, 0 ≤ k → k < 5 → h.i 27 k = h.i 97 k ∧ -1 ≤ h.i 97 k ∧ h.i 97 k ≤ 50)
def I_told (h : xH) : Prop := h.i 2 12 = h.i 59 64 ∧ 0 ≤ h.i 59 64 ∧ h.i 59 64 ≤ 40 ∧ ∀ k, 0 ≤ k → k < 6 * h.i 59 64 → h.i 57 k = h.i 112 k
def I_fault (h : xH) : Prop := h.i 15 3 = h.i 59 34 ∧ h.i 15 4 = h.i 59 35
def I_place (h : xH) : Prop := h.i 48 9 = h.i 59 74 ∧ 0 ≤ h.i 59 74 ∧ h.i 59 74 ≤ 12 ∧ (∀ k, 0 ≤ k → k < h.i 59 74 → h.i 50 k = h.i 118 k ∧ 0 ≤ h.i 118 k ∧ h.i 118 k < 8 ∧ h.i 51 k = h.i 119 k ∧ -1 ≤ h.i 119 k ∧ h.i 119 k ≤ 5 ∧ h.i 52 k = h.i 120 k ∧ -1 ≤ h.i 120 k ∧ h.i 120 k < k ∧ 0 ≤ h.i 121 k ∧ h.i 121 k ≤ 1) ∧ 0 ≤ h.i 48 8 ∧ h.i 48 8 < 4096 ∧ (∀ k : Nat, k < 12 → h.i 48 8 / 2 ^ k % 2 = if (k : Int) < h.i 59 74 then h.i 121 k else 0) ∧ sumN (fun k => h.i 48 8 / 2 ^ k.toNat % 2) 12 ≤ 6
def I_judge (h : xH) : Prop := (h.i 59 78 = -1 ∧ h.i 48 15 = -1 ∧ h.i 48 16 = -1 ∧ h.i 48 17 = -1 ∧ ∀ k, 0 ≤ k → k < 12 → h.i 55 k = -1) ∨ (h.i 59 78 ≠ -1 ∧ h.i 48 15 = h.i 59 78 ∧ h.i 48 16 = h.i 59 79 ∧ h.i 48 17 = h.i 59 80 ∧ ∀ k, 0 ≤ k → k < 12 → h.i 55 k = h.i 124 k)
theorem FA_rrow {l lR : List Int} {l2 lr : List (Int × Int)} {h h' : xH} (a : FA l l2 lR lr h h') {c : Int} (hn : c < h.nx) (d : (!lR.contains c && lr.all (fun p => p.1 != c)) = true) : h'.r c = h.r c := by
  rw [Bool.and_eq_true, List.all_eq_true] at d
  funext k
  refine a.2.2.2 c k hn (fun q => ?_) (fun q => ?_)
  · rw [List.contains_iff_mem.mpr q] at d; exact absurd d.1 (by decide)
  · have z := d.2 _ q
    simp only [bne_iff_ne, ne_eq, not_true] at z
theorem FA_rslot {l lR : List Int} {l2 lr : List (Int × Int)} {h h' : xH} (a : FA l l2 lR lr h h') {c k : Int} (hn : c < h.nx) (d : (!lR.contains c && !lr.contains (c, k)) = true) : h'.r c k = h.r c k := by
  rw [Bool.and_eq_true] at d
  refine a.2.2.2 c k hn (fun q => ?_) (fun q => ?_)
  · rw [List.contains_iff_mem.mpr q] at d; exact absurd d.1 (by decide)
  · rw [List.contains_iff_mem.mpr q] at d; exact absurd d.2 (by decide)
