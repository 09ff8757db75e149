
/-- a word stands in the tables, at place i -/
def xat (i : Nat) (w : Cond) : Bool := decide (lw_tbl[i]? = some w)
theorem xat_mem {i : Nat} {w : Cond} (h : xat i w = true) : w ∈ lw_tbl := List.mem_of_getElem? (of_decide_eq_true h)
def xflok (e : Nat × Nat × Nat × Nat × Nat × Nat) : Bool := xat e.2.2.2.2.2 (if e.2.2.2.2.1 = 1 then .fieldLinkNest (xown e.1) e.2.1 (TX e.2.2.1 e.2.2.2.1).1 (TX e.2.2.1 e.2.2.2.1).2.1 (TX e.2.2.1 e.2.2.2.1).2.2.1 "MetreDesk" else .fieldLink (xown e.1) e.2.1 (TX e.2.2.1 e.2.2.2.1).1 (TX e.2.2.1 e.2.2.2.1).2.1 (TX e.2.2.1 e.2.2.2.1).2.2.1) && (decide (e.2.2.1 < 13) && decide (e.2.2.2.1 < (vwCl.getD e.2.2.1 ("", TX0, 0)).2.2))
def xmname (m : Nat) : MethodName := if m = 1000 then Lib.objectInit else if m = 1001 then Lib.Math.max.name else if m = 1002 then Lib.Math.min.name else if m = 1003 then arraycopyName else if m = 1004 then ⟨"[I", "clone", "()Ljava/lang/Object;"⟩ else xy m
def xmlok (e : Nat × Nat × Nat × Nat × Nat) : Bool := xat e.2.2.2.2 (.methodLink (xown e.1) e.2.1 (xmname e.2.2.1)) && (decide (e.2.2.1 < 282) || decide (1000 ≤ e.2.2.1))
def xclok (e : Nat × Nat × Nat × Nat) : Bool := decide (e.2.2.1 < 13) && xat e.2.2.2 (.classLink (xown e.1) e.2.1 (vwCl.getD e.2.2.1 ("", TX0, 0)).1)
def xklok (e : Nat × Nat × Nat × Int × Nat) : Bool := xat e.2.2.2.2 (if e.2.2.1 = 0 then .constant (xown e.1) e.2.1 (Int32.ofInt e.2.2.2.1) else if e.2.2.1 = 2 then .constantFloat (xown e.1) e.2.1 (xuf e.2.2.2.1) else .constantLong (xown e.1) e.2.1 (Int64.ofInt e.2.2.2.1))
def xmtok (m : Nat) : Bool := match xmtT.getD m (0, 0, 0, 0, 0) with
  | (hc, hi, hs, hsel, hini) => (xat hini (.initialized (xy m).cls) && (decide ((xy m).cls ≠ "java/lang/invoke/MethodHandle" ∧ (xy m).cls ≠ "java/lang/invoke/VarHandle") && (decide ((parseMethodDescriptor (xy m).desc).map (fun d => d.parameters.length) = some (if xmo m = 0 then (xmi m).2 else (xmi m).2 - 1)) && (decide ((xmi m).1 ≤ 22 ∧ (xmi m).2 ≤ (xmi m).1) && (if xmo m = 0 then xat hs (.static (xy m)) && decide ((xown (xoo m)) = (xy m).cls) else decide (0 < (xmi m).2) && (xat hi (.instanceMethod (xy m)) && (if xmo m = 1 then xat hsel (.selects (xy m).cls (xy m) (xy m)) else decide ((xy m).name = "<init>") && decide (xret m = none))))))))
theorem xfl_all : xflT.all xflok = true := by decide +kernel
theorem xml_all : xmlT.all xmlok = true := by decide +kernel
theorem xcl_all : xclT.all xclok = true := by decide +kernel
theorem xkl_all : xklT.all xklok = true := by decide +kernel
theorem xmt_all_0 : ((List.range 20).all fun j => xmtok (1 + j) || decide (281 < 1 + j)) = true := by decide +kernel
theorem xmt_all_1 : ((List.range 20).all fun j => xmtok (21 + j) || decide (281 < 21 + j)) = true := by decide +kernel
theorem xmt_all_2 : ((List.range 20).all fun j => xmtok (41 + j) || decide (281 < 41 + j)) = true := by decide +kernel
theorem xmt_all_3 : ((List.range 20).all fun j => xmtok (61 + j) || decide (281 < 61 + j)) = true := by decide +kernel
theorem xmt_all_4 : ((List.range 20).all fun j => xmtok (81 + j) || decide (281 < 81 + j)) = true := by decide +kernel
theorem xmt_all_5 : ((List.range 20).all fun j => xmtok (101 + j) || decide (281 < 101 + j)) = true := by decide +kernel
theorem xmt_all_6 : ((List.range 20).all fun j => xmtok (121 + j) || decide (281 < 121 + j)) = true := by decide +kernel
theorem xmt_all_7 : ((List.range 20).all fun j => xmtok (141 + j) || decide (281 < 141 + j)) = true := by decide +kernel
theorem xmt_all_8 : ((List.range 20).all fun j => xmtok (161 + j) || decide (281 < 161 + j)) = true := by decide +kernel
theorem xmt_all_9 : ((List.range 20).all fun j => xmtok (181 + j) || decide (281 < 181 + j)) = true := by decide +kernel
theorem xmt_all_10 : ((List.range 20).all fun j => xmtok (201 + j) || decide (281 < 201 + j)) = true := by decide +kernel
theorem xmt_all_11 : ((List.range 20).all fun j => xmtok (221 + j) || decide (281 < 221 + j)) = true := by decide +kernel
theorem xmt_all_12 : ((List.range 20).all fun j => xmtok (241 + j) || decide (281 < 241 + j)) = true := by decide +kernel
theorem xmt_all_13 : ((List.range 20).all fun j => xmtok (261 + j) || decide (281 < 261 + j)) = true := by decide +kernel
theorem xmt_all_14 : ((List.range 20).all fun j => xmtok (281 + j) || decide (281 < 281 + j)) = true := by decide +kernel
set_option maxRecDepth 200000 in
theorem xcode_0 : (List.range 10).map (fun j => Cond.code (xy (1 + j)) (xby (1 + j)) (xmi (1 + j)).1 (xret (1 + j))) = ([154, 1266, 622, 555, 638, 738, 618, 630, 559, 569] : List Nat).filterMap (fun i => lw_tbl[i]?) := rfl
set_option maxRecDepth 200000 in
theorem xcode_1 : (List.range 10).map (fun j => Cond.code (xy (11 + j)) (xby (11 + j)) (xmi (11 + j)).1 (xret (11 + j))) = ([656, 882, 886, 925, 929, 917, 937, 662, 673, 666] : List Nat).filterMap (fun i => lw_tbl[i]?) := rfl
set_option maxRecDepth 200000 in
theorem xcode_2 : (List.range 10).map (fun j => Cond.code (xy (21 + j)) (xby (21 + j)) (xmi (21 + j)).1 (xret (21 + j))) = ([133, 566, 1316, 1320, 535, 543, 581, 585, 577, 789] : List Nat).filterMap (fun i => lw_tbl[i]?) := rfl
set_option maxRecDepth 200000 in
theorem xcode_3 : (List.range 10).map (fun j => Cond.code (xy (31 + j)) (xby (31 + j)) (xmi (31 + j)).1 (xret (31 + j))) = ([573, 785, 755, 217, 798, 802, 728, 776, 1270, 772] : List Nat).filterMap (fun i => lw_tbl[i]?) := rfl
set_option maxRecDepth 200000 in
theorem xcode_4 : (List.range 10).map (fun j => Cond.code (xy (41 + j)) (xby (41 + j)) (xmi (41 + j)).1 (xret (41 + j))) = ([734, 747, 760, 765, 241, 646, 652, 649, 703, 712] : List Nat).filterMap (fun i => lw_tbl[i]?) := rfl
set_option maxRecDepth 200000 in
theorem xcode_5 : (List.range 10).map (fun j => Cond.code (xy (51 + j)) (xby (51 + j)) (xmi (51 + j)).1 (xret (51 + j))) = ([720, 849, 831, 877, 941, 873, 1307, 382, 1084, 1089] : List Nat).filterMap (fun i => lw_tbl[i]?) := rfl
set_option maxRecDepth 200000 in
theorem xcode_6 : (List.range 10).map (fun j => Cond.code (xy (61 + j)) (xby (61 + j)) (xmi (61 + j)).1 (xret (61 + j))) = ([1095, 1100, 1109, 1104, 1119, 404, 1324, 1328, 1164, 1144] : List Nat).filterMap (fun i => lw_tbl[i]?) := rfl
set_option maxRecDepth 200000 in
theorem xcode_7 : (List.range 10).map (fun j => Cond.code (xy (71 + j)) (xby (71 + j)) (xmi (71 + j)).1 (xret (71 + j))) = ([1152, 1160, 1193, 1197, 1205, 1220, 1224, 1229, 1233, 1237] : List Nat).filterMap (fun i => lw_tbl[i]?) := rfl
set_option maxRecDepth 200000 in
theorem xcode_8 : (List.range 10).map (fun j => Cond.code (xy (81 + j)) (xby (81 + j)) (xmi (81 + j)).1 (xret (81 + j))) = ([1257, 1290, 1295, 351, 965, 1060, 1064, 1072, 1036, 1047] : List Nat).filterMap (fun i => lw_tbl[i]?) := rfl
set_option maxRecDepth 200000 in
theorem xcode_9 : (List.range 10).map (fun j => Cond.code (xy (91 + j)) (xby (91 + j)) (xmi (91 + j)).1 (xret (91 + j))) = ([1051, 268, 835, 957, 933, 1010, 1014, 949, 1028, 910] : List Nat).filterMap (fun i => lw_tbl[i]?) := rfl
set_option maxRecDepth 200000 in
theorem xcode_10 : (List.range 10).map (fun j => Cond.code (xy (101 + j)) (xby (101 + j)) (xmi (101 + j)).1 (xret (101 + j))) = ([839, 845, 869, 898, 902, 921, 906, 945, 161, 599] : List Nat).filterMap (fun i => lw_tbl[i]?) := rfl
set_option maxRecDepth 200000 in
theorem xcode_11 : (List.range 10).map (fun j => Cond.code (xy (111 + j)) (xby (111 + j)) (xmi (111 + j)).1 (xret (111 + j))) = ([563, 589, 1275, 751, 593, 819, 810, 814, 743, 861] : List Nat).filterMap (fun i => lw_tbl[i]?) := rfl
set_option maxRecDepth 200000 in
theorem xcode_12 : (List.range 10).map (fun j => Cond.code (xy (121 + j)) (xby (121 + j)) (xmi (121 + j)).1 (xret (121 + j))) = ([857, 865, 853, 781, 1168, 1172, 1176, 1180, 1184, 1242] : List Nat).filterMap (fun i => lw_tbl[i]?) := rfl
set_option maxRecDepth 200000 in
theorem xcode_13 : (List.range 10).map (fun j => Cond.code (xy (131 + j)) (xby (131 + j)) (xmi (131 + j)).1 (xret (131 + j))) = ([1248, 626, 311, 971, 979, 983, 987, 992, 1002, 998] : List Nat).filterMap (fun i => lw_tbl[i]?) := rfl
set_option maxRecDepth 200000 in
theorem xcode_14 : (List.range 10).map (fun j => Cond.code (xy (141 + j)) (xby (141 + j)) (xmi (141 + j)).1 (xret (141 + j))) = ([1006, 1024, 1032, 1301, 975, 1131, 1135, 1042, 1039, 1076] : List Nat).filterMap (fun i => lw_tbl[i]?) := rfl
set_option maxRecDepth 200000 in
theorem xcode_15 : (List.range 10).map (fun j => Cond.code (xy (151 + j)) (xby (151 + j)) (xmi (151 + j)).1 (xret (151 + j))) = ([125, 519, 527, 531, 539, 547, 634, 642, 699, 708] : List Nat).filterMap (fun i => lw_tbl[i]?) := rfl
set_option maxRecDepth 200000 in
theorem xcode_16 : (List.range 10).map (fun j => Cond.code (xy (161 + j)) (xby (161 + j)) (xmi (161 + j)).1 (xret (161 + j))) = ([716, 724, 794, 806, 823, 953, 961, 1056, 1068, 1080] : List Nat).filterMap (fun i => lw_tbl[i]?) := rfl
set_option maxRecDepth 200000 in
theorem xcode_17 : (List.range 10).map (fun j => Cond.code (xy (171 + j)) (xby (171 + j)) (xmi (171 + j)).1 (xret (171 + j))) = ([1123, 1127, 1140, 1148, 1156, 1189, 1201, 1216, 1253, 1261] : List Nat).filterMap (fun i => lw_tbl[i]?) := rfl
set_option maxRecDepth 200000 in
theorem xcode_18 : (List.range 10).map (fun j => Cond.code (xy (181 + j)) (xby (181 + j)) (xmi (181 + j)).1 (xret (181 + j))) = ([1280, 1286, 1312, 523, 551, 827, 1334, 1616, 1605, 1609] : List Nat).filterMap (fun i => lw_tbl[i]?) := rfl
set_option maxRecDepth 200000 in
theorem xcode_19 : (List.range 10).map (fun j => Cond.code (xy (191 + j)) (xby (191 + j)) (xmi (191 + j)).1 (xret (191 + j))) = ([1639, 1613, 1628, 1624, 1643, 1651, 1647, 1636, 1632, 1655] : List Nat).filterMap (fun i => lw_tbl[i]?) := rfl
set_option maxRecDepth 200000 in
theorem xcode_20 : (List.range 10).map (fun j => Cond.code (xy (201 + j)) (xby (201 + j)) (xmi (201 + j)).1 (xret (201 + j))) = ([1679, 1683, 1695, 1691, 1671, 1675, 1667, 1663, 1687, 1659] : List Nat).filterMap (fun i => lw_tbl[i]?) := rfl
set_option maxRecDepth 200000 in
theorem xcode_21 : (List.range 10).map (fun j => Cond.code (xy (211 + j)) (xby (211 + j)) (xmi (211 + j)).1 (xret (211 + j))) = ([1699, 1703, 1707, 1711, 1715, 1719, 1756, 1760, 1799, 1764] : List Nat).filterMap (fun i => lw_tbl[i]?) := rfl
set_option maxRecDepth 200000 in
theorem xcode_22 : (List.range 10).map (fun j => Cond.code (xy (221 + j)) (xby (221 + j)) (xmi (221 + j)).1 (xret (221 + j))) = ([1768, 1752, 1803, 1787, 1744, 1811, 1771, 1775, 1779, 1795] : List Nat).filterMap (fun i => lw_tbl[i]?) := rfl
set_option maxRecDepth 200000 in
theorem xcode_23 : (List.range 10).map (fun j => Cond.code (xy (231 + j)) (xby (231 + j)) (xmi (231 + j)).1 (xret (231 + j))) = ([1807, 1791, 1783, 1748, 1739, 1731, 1735, 1727, 1723, 1821] : List Nat).filterMap (fun i => lw_tbl[i]?) := rfl
set_option maxRecDepth 200000 in
theorem xcode_24 : (List.range 10).map (fun j => Cond.code (xy (241 + j)) (xby (241 + j)) (xmi (241 + j)).1 (xret (241 + j))) = ([1817, 1833, 1829, 1825, 1837, 1841, 1845, 1853, 1849, 1864] : List Nat).filterMap (fun i => lw_tbl[i]?) := rfl
set_option maxRecDepth 200000 in
theorem xcode_25 : (List.range 10).map (fun j => Cond.code (xy (251 + j)) (xby (251 + j)) (xmi (251 + j)).1 (xret (251 + j))) = ([1861, 1868, 1880, 1872, 1876, 1857, 1884, 1888, 1896, 1900] : List Nat).filterMap (fun i => lw_tbl[i]?) := rfl
set_option maxRecDepth 200000 in
theorem xcode_26 : (List.range 10).map (fun j => Cond.code (xy (261 + j)) (xby (261 + j)) (xmi (261 + j)).1 (xret (261 + j))) = ([1904, 1908, 1892, 1912, 1917, 1934, 1926, 1930, 1921, 1939] : List Nat).filterMap (fun i => lw_tbl[i]?) := rfl
set_option maxRecDepth 200000 in
theorem xcode_27 : (List.range 10).map (fun j => Cond.code (xy (271 + j)) (xby (271 + j)) (xmi (271 + j)).1 (xret (271 + j))) = ([1947, 1943, 1951, 1955, 1959, 1620, 247, 602, 891, 894] : List Nat).filterMap (fun i => lw_tbl[i]?) := rfl
set_option maxRecDepth 200000 in
theorem xcode_28 : (List.range 1).map (fun j => Cond.code (xy (281 + j)) (xby (281 + j)) (xmi (281 + j)).1 (xret (281 + j))) = ([1208] : List Nat).filterMap (fun i => lw_tbl[i]?) := rfl
