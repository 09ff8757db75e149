/-! the thirteen classes: their layouts stand in the tables, their fields have their types -/
def vwR (t : Nat) : String := (vwCl.getD t ("", TX0, 0)).1
def xtL : List Cond := lw_tbl.filter goodWord
theorem xtL_mem {w : Cond} (h : w ∈ lw_tbl) (g : goodWord w = true) : w ∈ xtL := List.mem_filter.mpr ⟨h, g⟩
theorem t13 {P : Nat → Prop} (h0 : P 0) (h1 : P 1) (h2 : P 2) (h3 : P 3) (h4 : P 4) (h5 : P 5) (h6 : P 6) (h7 : P 7) (h8 : P 8) (h9 : P 9) (h10 : P 10) (h11 : P 11) (h12 : P 12) : ∀ t, t < 13 → P t := by
  intro t ht
  have h : t = 0 ∨ t = 1 ∨ t = 2 ∨ t = 3 ∨ t = 4 ∨ t = 5 ∨ t = 6 ∨ t = 7 ∨ t = 8 ∨ t = 9 ∨ t = 10 ∨ t = 11 ∨ t = 12 := by omega
  rcases h with rfl | rfl | rfl | rfl | rfl | rfl | rfl | rfl | rfl | rfl | rfl | rfl | rfl
  · exact h0
  · exact h1
  · exact h2
  · exact h3
  · exact h4
  · exact h5
  · exact h6
  · exact h7
  · exact h8
  · exact h9
  · exact h10
  · exact h11
  · exact h12
theorem vw_get : ∀ t, t < 13 → vwCl[t]? = some (vwR t, TX t, vwN t) := t13 rfl rfl rfl rfl rfl rfl rfl rfl rfl rfl rfl rfl rfl
theorem xlay_0 : ((List.range 4).all fun k => xat (([204, 206, 208, 210] : List Nat).getD k 0) (u_lay RX0 TX0 k)) = true := by decide +kernel
theorem xlay_1 : ((List.range 7).all fun k => xat (([681, 683, 685, 687, 689, 691, 693] : List Nat).getD k 0) (u_lay RX1 TX1 k)) = true := by decide +kernel
theorem xlay_2 : ((List.range 4).all fun k => xat (([139, 141, 143, 145] : List Nat).getD k 0) (u_lay RX2 TX2 k)) = true := by decide +kernel
theorem xlay_3 : ((List.range 5).all fun k => xat (([226, 228, 230, 232, 234] : List Nat).getD k 0) (u_lay RX3 TX3 k)) = true := by decide +kernel
theorem xlay_4 : ((List.range 5).all fun k => xat (([253, 255, 257, 259, 261] : List Nat).getD k 0) (u_lay RX4 TX4 k)) = true := by decide +kernel
theorem xlay_5 : ((List.range 5).all fun k => xat (([389, 391, 393, 395, 397] : List Nat).getD k 0) (u_lay RX5 TX5 k)) = true := by decide +kernel
theorem xlay_6 : ((List.range 19).all fun k => xat (([427, 429, 431, 433, 435, 437, 439, 441, 443, 445, 447, 449, 451, 453, 455, 457, 459, 461, 463] : List Nat).getD k 0) (u_lay RX6 TX6 k)) = true := by decide +kernel
theorem xlay_7 : ((List.range 8).all fun k => xat (([361, 363, 365, 367, 369, 371, 373, 375] : List Nat).getD k 0) (u_lay RX7 TX7 k)) = true := by decide +kernel
theorem xlay_8 : ((List.range 12).all fun k => xat (([282, 284, 286, 288, 290, 292, 294, 296, 298, 300, 302, 304] : List Nat).getD k 0) (u_lay RX8 TX8 k)) = true := by decide +kernel
theorem xlay_9 : ((List.range 7).all fun k => xat (([185, 187, 189, 191, 193, 195, 197] : List Nat).getD k 0) (u_lay RX9 TX9 k)) = true := by decide +kernel
theorem xlay_10 : ((List.range 11).all fun k => xat (([324, 326, 328, 330, 332, 334, 336, 338, 340, 342, 344] : List Nat).getD k 0) (u_lay RX10 TX10 k)) = true := by decide +kernel
theorem xlay_11 : ((List.range 16).all fun k => xat (([483, 485, 487, 489, 491, 493, 495, 497, 499, 501, 503, 505, 507, 509, 511, 513] : List Nat).getD k 0) (u_lay RX11 TX11 k)) = true := by decide +kernel
theorem xlay_12 : ((List.range 87).all fun k => xat (([1426, 1428, 1430, 1432, 1434, 1436, 1438, 1440, 1442, 1444, 1446, 1448, 1450, 1452, 1454, 1456, 1458, 1460, 1462, 1464, 1466, 1468, 1470, 1472, 1474, 1476, 1478, 1480, 1482, 1484, 1486, 1488, 1490, 1492, 1494, 1496, 1498, 1500, 1502, 1504, 1506, 1508, 1510, 1512, 1514, 1516, 1518, 1520, 1522, 1524, 1526, 1528, 1530, 1532, 1534, 1536, 1538, 1540, 1542, 1544, 1546, 1548, 1550, 1552, 1554, 1556, 1558, 1560, 1562, 1564, 1566, 1568, 1570, 1572, 1574, 1576, 1578, 1580, 1582, 1584, 1586, 1588, 1590, 1592, 1594, 1596, 1598] : List Nat).getD k 0) (u_lay RX12 TX12 k)) = true := by decide +kernel
theorem lay_of {C : String} {T : u_T} {N : Nat} {hs : List Nat} (h : ((List.range N).all fun k => xat (hs.getD k 0) (u_lay C T k)) = true) : ∀ w ∈ u_ws C T N, w ∈ xtL := by
  intro w hw
  obtain ⟨k, hk, rfl⟩ := List.mem_map.mp hw
  refine xtL_mem (xat_mem (List.all_eq_true.mp h k hk)) ?_
  unfold u_lay
  split <;> rfl
theorem vw_lay : ∀ t, t < 13 → ∀ w ∈ u_ws (vwR t) (TX t) (vwN t), w ∈ xtL := t13 (lay_of xlay_0) (lay_of xlay_1) (lay_of xlay_2) (lay_of xlay_3) (lay_of xlay_4) (lay_of xlay_5) (lay_of xlay_6) (lay_of xlay_7) (lay_of xlay_8) (lay_of xlay_9) (lay_of xlay_10) (lay_of xlay_11) (lay_of xlay_12)
theorem vw_ty : ∀ t, t < 13 → ∀ k, k < vwN t → parseFieldDescriptor (TX t k).2.2.1 = some (tyX t k) := t13 tyX0_ok tyX1_ok tyX2_ok tyX3_ok tyX4_ok tyX5_ok tyX6_ok tyX7_ok tyX8_ok tyX9_ok tyX10_ok tyX11_ok tyX12_ok
theorem vw_nm : ∀ t, t < 13 → ∀ a, a < vwN t → ∀ b, b < vwN t → a ≠ b → (TX t a).2.1 ≠ (TX t b).2.1 := t13 nmX0 nmX1 nmX2 nmX3 nmX4 nmX5 nmX6 nmX7 nmX8 nmX9 nmX10 nmX11 nmX12
def xtyok (t : FieldType) : Bool := match t with
  | .int => true
  | .boolean => true
  | .object _ => true
  | .array _ => true
  | _ => false
theorem xtyok_0 : ((List.range 4).all fun k => xtyok (tyX0 k)) = true := by decide +kernel
theorem xtyok_1 : ((List.range 7).all fun k => xtyok (tyX1 k)) = true := by decide +kernel
theorem xtyok_2 : ((List.range 4).all fun k => xtyok (tyX2 k)) = true := by decide +kernel
theorem xtyok_3 : ((List.range 5).all fun k => xtyok (tyX3 k)) = true := by decide +kernel
theorem xtyok_4 : ((List.range 5).all fun k => xtyok (tyX4 k)) = true := by decide +kernel
theorem xtyok_5 : ((List.range 5).all fun k => xtyok (tyX5 k)) = true := by decide +kernel
theorem xtyok_6 : ((List.range 19).all fun k => xtyok (tyX6 k)) = true := by decide +kernel
theorem xtyok_7 : ((List.range 8).all fun k => xtyok (tyX7 k)) = true := by decide +kernel
theorem xtyok_8 : ((List.range 12).all fun k => xtyok (tyX8 k)) = true := by decide +kernel
theorem xtyok_9 : ((List.range 7).all fun k => xtyok (tyX9 k)) = true := by decide +kernel
theorem xtyok_10 : ((List.range 11).all fun k => xtyok (tyX10 k)) = true := by decide +kernel
theorem xtyok_11 : ((List.range 16).all fun k => xtyok (tyX11 k)) = true := by decide +kernel
theorem xtyok_12 : ((List.range 87).all fun k => xtyok (tyX12 k)) = true := by decide +kernel
theorem tyok_of {ty : Nat → FieldType} {N : Nat} (h : ((List.range N).all fun k => xtyok (ty k)) = true) : ∀ k, k < N → xtyok (ty k) = true := fun k hk => List.all_eq_true.mp h k (List.mem_range.mpr hk)
theorem vw_ok : ∀ t, t < 13 → ∀ k, k < vwN t → xtyok (tyX t k) = true := t13 (tyok_of xtyok_0) (tyok_of xtyok_1) (tyok_of xtyok_2) (tyok_of xtyok_3) (tyok_of xtyok_4) (tyok_of xtyok_5) (tyok_of xtyok_6) (tyok_of xtyok_7) (tyok_of xtyok_8) (tyok_of xtyok_9) (tyok_of xtyok_10) (tyok_of xtyok_11) (tyok_of xtyok_12)
theorem xfl_nest : xflT.all (fun q => q.2.2.2.2.1 == 0 || (q.1 == 1 && (q.2.1 == 39 && (q.2.2.1 == 9 && q.2.2.2.1 == 0)))) = true := by decide +kernel
theorem fl_word {o i : Nat} {ci k : Int} (h : xhasF o i ci k = true) : 0 ≤ ci ∧ ci.toNat < 13 ∧ 0 ≤ k ∧ k.toNat < vwN ci.toNat ∧ (Cond.fieldLink (xown o) i (TX ci.toNat k.toNat).1 (TX ci.toNat k.toNat).2.1 (TX ci.toNat k.toNat).2.2.1 ∈ lw_tbl ∨ (o = 1 ∧ i = 39 ∧ ci = 9 ∧ k = 0)) := by
  unfold xhasF at h
  obtain ⟨q, hq, h2⟩ := List.any_eq_true.mp h
  simp only [Bool.and_eq_true, beq_iff_eq] at h2
  obtain ⟨a1, a2, a3, a4⟩ := h2
  have h3 := List.all_eq_true.mp xfl_all q hq
  have h4 : (q.2.2.2.2.1 == 0 || (q.1 == 1 && (q.2.1 == 39 && (q.2.2.1 == 9 && q.2.2.2.1 == 0)))) = true := List.all_eq_true.mp xfl_nest q hq
  unfold xflok at h3
  simp only [Bool.and_eq_true, decide_eq_true_eq] at h3
  obtain ⟨b1, b2, b3⟩ := h3
  subst a3 a4
  refine ⟨by omega, by rw [Int.toNat_natCast]; exact b2, by omega, by rw [Int.toNat_natCast, Int.toNat_natCast]; exact b3, ?_⟩
  rw [Int.toNat_natCast, Int.toNat_natCast]
  simp only [Bool.or_eq_true, Bool.and_eq_true, beq_iff_eq] at h4
  rcases h4 with h4 | ⟨c1, c2, c3, c4⟩
  · left
    have b4 := xat_mem b1
    rw [if_neg (by omega), a1, a2] at b4
    exact b4
  · right; exact ⟨by omega, by omega, by omega, by omega⟩
