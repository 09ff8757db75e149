/-! line: syllables are added, both sides -/
def XF (x : Nat → Int → Int) (L : List FS) (T : List Int) : Prop := x 0 0 = ((L.length : Nat) : Int) ∧ (∀ i : Nat, i < L.length → x 3 i = (L.getD i fs0).w ∧ x 4 i = (L.getD i fs0).m ∧ x 5 i = opn (L.getD i fs0).s + 2 * cls (L.getD i fs0).s + 4 * (L.getD i fs0).b) ∧ (∀ i : Nat, i ≤ L.length → x 2 i = psm L i) ∧ (∀ k : Nat, k < T.length → x 1 k = T.getD k 0)
theorem XF_iff {x : Nat → Int → Int} {ws : List Wd} : XLn x ws ↔ XF x (flat ws) (txt ws) := Iff.rfl
theorem psm_one {L : List FS} {r : FS} : psm (L ++ [r]) (L ++ [r]).length = psm L L.length + r.n := by
  unfold psm
  rw [List.take_length, List.take_length, List.map_append, List.sum_append]
  simp only [List.map_cons, List.map_nil, List.sum_cons, List.sum_nil]
  omega
theorem XF_add {h h' : xH} {L : List FS} {T D : List Int} {w q b e m tr : Int} {r : FS} (SX_ : SX h) (X : XF (XV h 16) L T) (hT : psm L L.length = ((T.length : Nat) : Int)) (A : AddO h h' 16 w q b e m tr ((L.length : Nat) : Int) ((T.length : Nat) : Int)) (le : e - b = ((D.length : Nat) : Int)) (src : ∀ k : Nat, k < D.length → h.i q (b + k) = D.getD k 0) (r1 : r.w = w) (r2 : r.n = ((D.length : Nat) : Int)) (r3 : r.m = m) (r4 : opn r.s + 2 * cls r.s + 4 * r.b = tr) : XF (XV h' 16) (L ++ [r]) (T ++ D) ∧ psm (L ++ [r]) (L ++ [r]).length = (((T ++ D).length : Nat) : Int) := by
  obtain ⟨x1, x2, x3, x4⟩ := X
  obtain ⟨F, a1, a2, a3, a4, a5, a6⟩ := A
  have g : h.r 16 0 = 17 ∧ h.r 16 1 = 18 ∧ h.r 16 2 = 19 ∧ h.r 16 3 = 20 ∧ h.r 16 4 = 21 := by simp only [sxt SX_, sxl SX_, sxf SX_, true_and, and_true, false_and, and_false, forall_eq, forall_eq', xi_wi, xr_wi, xt_wi, xl_wi, xn_wi, xs_wi, xi_wr, xr_wr, xt_wr, xl_wr, xn_wr, xs_wr, if_true, if_false, and_self, Int.reduceEq, Int.reduceLT, Int.reduceLE, Int.reduceNeg, Int.le_refl, Int.reduceMod]
  have g' : h'.r = h.r := (fr_same F).1
  have y1 : ∀ k, XV h 16 1 k = h.i 17 k := fun k => by show h.i (h.r 16 0) k = _; rw [g.1]
  have y2 : ∀ k, XV h 16 2 k = h.i 18 k := fun k => by show h.i (h.r 16 1) k = _; rw [g.2.1]
  have y3 : ∀ k, XV h 16 3 k = h.i 19 k := fun k => by show h.i (h.r 16 2) k = _; rw [g.2.2.1]
  have y4 : ∀ k, XV h 16 4 k = h.i 20 k := fun k => by show h.i (h.r 16 3) k = _; rw [g.2.2.2.1]
  have y5 : ∀ k, XV h 16 5 k = h.i 21 k := fun k => by show h.i (h.r 16 4) k = _; rw [g.2.2.2.2]
  have z1 : ∀ k, XV h' 16 1 k = h'.i 17 k := fun k => by show h'.i (h'.r 16 0) k = _; rw [g', g.1]
  have z2 : ∀ k, XV h' 16 2 k = h'.i 18 k := fun k => by show h'.i (h'.r 16 1) k = _; rw [g', g.2.1]
  have z3 : ∀ k, XV h' 16 3 k = h'.i 19 k := fun k => by show h'.i (h'.r 16 2) k = _; rw [g', g.2.2.1]
  have z4 : ∀ k, XV h' 16 4 k = h'.i 20 k := fun k => by show h'.i (h'.r 16 3) k = _; rw [g', g.2.2.2.1]
  have z5 : ∀ k, XV h' 16 5 k = h'.i 21 k := fun k => by show h'.i (h'.r 16 4) k = _; rw [g', g.2.2.2.2]
  have ps := psm_one (L := L) (r := r)
  refine ⟨⟨?_, fun i hi => ?_, fun i hi => ?_, fun k hk => ?_⟩, by rw [ps, hT, r2, List.length_append]; push_cast; rfl⟩
  · show h'.i 16 6 = _
    rw [a1, List.length_append]; push_cast; rfl
  · rw [List.length_append] at hi
    have hi : i < L.length + 1 := hi
    rw [z3, z4, z5, show h'.i 19 (i : Int) = _ from a4 i, show h'.i 20 (i : Int) = _ from a5 i, show h'.i 21 (i : Int) = _ from a6 i]
    by_cases c : i = L.length
    · rw [if_pos (by omega), if_pos (by omega), if_pos (by omega), c, getD_app_r fs0 (Nat.le_refl _), Nat.sub_self]
      exact ⟨r1.symm, r3.symm, r4.symm⟩
    · rw [if_neg (by omega), if_neg (by omega), if_neg (by omega), getD_app_l fs0 (by omega), ← show XV h 16 3 i = h.i (16 + 3) i from y3 i, ← show XV h 16 4 i = h.i (16 + 4) i from y4 i, ← show XV h 16 5 i = h.i (16 + 5) i from y5 i]
      exact x2 i (by omega)
  · rw [List.length_append] at hi
    have hi : i ≤ L.length + 1 := hi
    rw [z2, show h'.i 18 (i : Int) = _ from a3 i]
    by_cases c : i = L.length + 1
    · rw [if_pos (by omega), c, show L.length + 1 = (L ++ [r]).length by rw [List.length_append]; rfl, ps, hT, r2, le]
    · rw [if_neg (by omega), psm_app_l (by omega), ← show XV h 16 2 i = h.i (16 + 2) i from y2 i]
      exact x3 i (by omega)
  · rw [List.length_append] at hk
    rw [z1, show h'.i 17 (k : Int) = _ from a2 k]
    by_cases c : T.length ≤ k
    · rw [if_pos (by omega), getD_app_r 0 c, ← src (k - T.length) (by omega)]
      congr 1; omega
    · rw [if_neg (by omega), getD_app_l 0 (by omega), ← show XV h 16 1 k = h.i (16 + 1) k from y1 k]
      exact x4 k (by omega)
/-- the syllables of a text, parted so -/
def mkSy (P V : Int → Int) (D : List Int) : Int → List (Int × Int) → List Sy
  | _, [] => []
  | f, p :: r => (p.1, p.2, sgs P V (gD D) f (f + p.1)) :: mkSy P V D (f + p.1) r
theorem mkSy_len (P V : Int → Int) (D : List Int) : ∀ (L : List (Int × Int)) (f : Int), (mkSy P V D f L).length = L.length := by
  intro L
  induction L with
  | nil => intro f; rfl
  | cons p r ih => intro f; rw [mkSy, List.length_cons, List.length_cons, ih]
/-- the parts are none of them empty, and are the whole text -/
def PtOk (D : List Int) (f : Int) (L : List (Int × Int)) : Prop := (∀ p ∈ L, 1 ≤ p.1 ∧ 1 ≤ p.2 ∧ p.2 ≤ 3) ∧ (L.map (fun p => p.1)).sum = ((D.length : Nat) : Int) - f
theorem vbits_app : ∀ (L : List (Int × Int)) (p : Int × Int), vbits (L ++ [p]) = vbits L + 2 ^ L.length * p.2 := by
  intro L
  induction L with
  | nil =>
    intro p
    show p.2 + 2 * 0 = 0 + 2 ^ 0 * p.2
    rw [Int.pow_zero]; omega
  | cons q r ih =>
    intro p
    show q.2 + 2 * vbits (r ++ [p]) = q.2 + 2 * vbits r + 2 ^ (r.length + 1) * p.2
    rw [ih, Int.pow_succ, Int.mul_add]
    have : (2 : Int) * (2 ^ r.length * p.2) = 2 ^ r.length * 2 * p.2 := by rw [← Int.mul_assoc, Int.mul_comm 2]
    omega
theorem xor_b {k : Nat} {v b : Int} (hk : k ≤ 16) (b0 : 0 ≤ b) (b1 : b < 2 ^ k) (hv : v = 0 ∨ v = 1) : (v = 0 → xor_ b 0 = b) ∧ (v = 1 → xor_ b (xshl 1 (k : Int)) = b + 2 ^ k) := by
  have p16 : (2 : Int) ^ k ≤ 65536 := pow16 hk
  constructor
  · intro _
    rw [xor_nn b0 (by decide) (by omega) (by decide)]
    show ((b.toNat ||| 0 : Nat) : Int) = b
    rw [Nat.or_zero]; omega
  · intro _
    have p0 : (0 : Int) < 2 ^ k := Int.pow_pos (by decide)
    rw [xshl_eq (by decide) (by omega) (by omega) (by rw [Int.toNat_natCast, Int.one_mul]; omega), Int.toNat_natCast, Int.one_mul]
    have pc : ((2 ^ k : Nat) : Int) = 2 ^ k := by rw [Int.natCast_pow]; rfl
    have c := orI (a := 2 ^ k) (b := b) k (by omega) (by omega) b0 (by rw [pc]; exact b1) (by rw [pc]; exact Int.emod_self) (by omega)
    rw [xor_nn b0 (by omega) (by omega) (by omega), Nat.or_comm, ← xor_nn (by omega) b0 (by omega) (by omega), c]
    omega
section ASY
variable {d : Nat}
theorem c_R_addSyl70 {Q : xH → Prop} {y : Int} {S_ : List (Int × Int)} {u1 u2 u3 u4 : xV} (y0 : 0 ≤ y) (y1 : y < 600) (l16 : S_.length ≤ 16) (ok : enOk S_) : ∀ (m k : Nat) (h : xH), k + m = S_.length → SR h → SndR h S_ → h.i 88 y = vbits (S_.take k) → (∀ h', Fr [86, 88] [] h h' → h'.i 88 y = vbits S_ → (∀ j, j ≠ y → h'.i 88 j = h.i 88 j) → (∀ i : Nat, k ≤ i → i < S_.length → h'.i 86 (16 * y + i) = (S_.getD i (0, 0)).1) → (∀ j, (j < 16 * y + k ∨ 16 * y + 16 ≤ j) → h'.i 86 j = h.i 86 j) → Q h') → xT d M_R_addSyllable 70 [(1, 59), u1, u2, u3, u4, (0, y), (0, (k : Int))] [] h (xqv Q) := by
  intro m
  induction m with
  | zero =>
    intro k h hk S N v H
    have ek : k = S_.length := by omega
    subst ek
    rw [List.take_length] at v
    apply L_R_addSyllable_70
    rw [show h.i 59 10 = ((S_.length : Nat) : Int) from N.1, if_neg (show ¬ ((S_.length : Nat) : Int) < ((S_.length : Nat) : Int) by omega)]
    exact ⟨(srt S).1, H h (Fr_refl _ _ _) v (fun _ _ => rfl) (fun i i0 i1 => by omega) (fun _ _ => rfl)⟩
  | succ m ih =>
    intro k h hk S N v H
    have n := N.2 k (by omega)
    have b := (ok _ (getD_mem ((0 : Int), (0 : Int)) (show k < S_.length by omega))).1
    have okt : enOk (S_.take k) := fun p mp => ok p (List.mem_of_mem_take mp)
    have rg := vbits_rg (S_.take k) okt
    have lt : (S_.take k).length = k := by rw [List.length_take]; omega
    rw [lt] at rg
    have xb := xor_b (k := k) (b := vbits (S_.take k)) (by omega) rg.1 rg.2 b
    have vs : vbits (S_.take (k + 1)) = vbits (S_.take k) + 2 ^ k * (S_.getD k (0, 0)).2 := by
      have e : S_.take (k + 1) = S_.take k ++ [S_.getD k (0, 0)] := by
        rw [List.take_succ_eq_append_getElem (show k < S_.length by omega), List.getD_eq_getElem?_getD, List.getElem?_eq_getElem (show k < S_.length by omega)]; rfl
      rw [e, vbits_app, lt]
    apply L_R_addSyllable_70
    rw [show h.i 59 10 = ((S_.length : Nat) : Int) from N.1, if_pos (show (k : Int) < ((S_.length : Nat) : Int) by omega), xw_id (a := 16 * y) (by omega) (by omega), xw_id (a := 16 * y + (k : Int)) (by omega) (by omega), xw_id (a := (k : Int) + 1) (by omega) (by omega)]
    have step : ∀ (h2 : xH) (x : Int), h2 = (h.wi 86 (16 * y + (k : Int)) (S_.getD k (0, 0)).1).wi 88 y (vbits (S_.take (k + 1))) → x = (k : Int) + 1 → xT d M_R_addSyllable 70 [(1, 59), u1, u2, u3, u4, (0, y), (0, x)] [] h2 (xqv Q) := fun h2 x e2 ex => by
      have F2 : Fr [86, 88] [] h h2 := by rw [e2]; exact Fr_cell (Fr_cell (Fr_refl _ _ _) _ _ (by decide)) _ _ (by decide)
      have v86 : ∀ j, h2.i 86 j = if j = 16 * y + (k : Int) then (S_.getD k (0, 0)).1 else h.i 86 j := fun j => by
        rw [e2, xi_wi, if_neg (fun z => absurd z.1 (by decide)), xi_wi]
        by_cases z : j = 16 * y + (k : Int)
        · rw [if_pos ⟨rfl, z⟩, if_pos z]
        · rw [if_neg (fun t => z t.2), if_neg z]
      have v88 : ∀ j, h2.i 88 j = if j = y then vbits (S_.take (k + 1)) else h.i 88 j := fun j => by
        rw [e2, xi_wi]
        by_cases z : j = y
        · rw [if_pos ⟨rfl, z⟩, if_pos z]
        · rw [if_neg (fun t => z t.2), if_neg z, xi_wi, if_neg (fun t => absurd t.1 (by decide))]
      have N2 : SndR h2 S_ := by
        unfold SndR
        rw [F2.2 59 10 (by decide) (by decide), Fr_row F2 (c := 65) (by decide) (by decide), Fr_row F2 (c := 66) (by decide) (by decide)]
        exact N
      have z := ih (k + 1) h2 (by omega) (SR_2 F2.1 S) N2 (by rw [v88, if_pos rfl]) (fun h' F a1 a2 a3 a4 => H h' (Fr_trans F2 F) a1 (fun j hj => by rw [a2 j hj, v88, if_neg hj]) (fun i i0 i1 => ?_) (fun j hj => by rw [a4 j (by push_cast; omega), v86, if_neg (by omega)]))
      · rw [ex, show (k : Int) + 1 = ((k + 1 : Nat) : Int) by push_cast; rfl]; exact z
      · by_cases c : i = k
        · rw [a4 _ (by push_cast; omega), v86, if_pos (by omega), c]
        · exact a3 i (by omega) i1
    simp only [srt S, srl S, srf S, true_and, and_true, false_and, and_false, forall_eq, forall_eq', xi_wi, xr_wi, xt_wi, xl_wi, xn_wi, xs_wi, xi_wr, xr_wr, xt_wr, xl_wr, xn_wr, xs_wr, if_true, if_false, and_self, Int.reduceEq, Int.reduceLT, Int.reduceLE, Int.reduceNeg, Int.le_refl, Int.reduceMod]
    rw [n.2, n.1, v]
    refine ⟨⟨by omega, by omega⟩, ⟨by omega, by omega⟩, ⟨y0, y1⟩, ⟨by omega, by omega⟩, ?_⟩
    by_cases c : (S_.getD k (0, 0)).2 = 0
    · rw [if_pos c, xb.1 c]
      refine ⟨⟨y0, y1⟩, step _ _ ?_ rfl⟩
      rw [vs, c, Int.mul_zero, Int.add_zero]
    · have c1 : (S_.getD k (0, 0)).2 = 1 := by omega
      rw [if_neg c, xb.2 c1]
      refine ⟨⟨y0, y1⟩, step _ _ ?_ rfl⟩
      rw [vs, c1, Int.mul_one]
def asL : List Int := [81, 82, 83, 84, 85, 86, 87, 88, 65, 66, 67]
def asS : List (Int × Int) := [(59, 10)]
theorem c_R_addSyl {h : xH} {Q : xH → Prop} {l n f len m w : Int} {P V : Int → Int} {D : List Int} (S : SR h) (RL_ : RLang h P V) (hV : bits26 V) (l0 : 0 ≤ l) (l1 : l < 15) (hn : h.i 81 l = n) (n0 : 0 ≤ n) (n1 : n < 40) (hw : h.i 77 l = w) (w0 : 0 ≤ w) (w1 : w < 12) (lets_ : ∀ c ∈ D, 97 ≤ c ∧ c ≤ 122) (d16 : D.length ≤ 16) (tx : ∀ k : Nat, k < D.length → h.i 78 (16 * (12 * l + w) + k) = D.getD k 0) (f0 : 0 ≤ f) (len0 : 0 ≤ len) (fl : f + len ≤ ((D.length : Nat) : Int)) (b : Int) (H : ∀ h', Fr asL asS h h' → SylW h h' l n (w, f, len, m, sgs P V (gD D) f (f + len), b) → Q h') : xCv (d + 3) M_R_addSyllable [(1, 59), (0, l), (0, f), (0, len), (0, m)] h Q := by
  have gl : (0 : Int) ≤ l ∧ l < 15 := ⟨l0, l1⟩
  have gy : (0 : Int) ≤ 40 * l + n ∧ 40 * l + n < 600 := by omega
  apply L_R_addSyllable
  rw [xw_id (a := 40 * l) (by omega) (by omega), xw_id (a := 12 * l) (by omega) (by omega)]
  simp only [srt S, srl S, srf S, hn, true_and, and_true, false_and, and_false, forall_eq, forall_eq', xi_wi, xr_wi, xt_wi, xl_wi, xn_wi, xs_wi, xi_wr, xr_wr, xt_wr, xl_wr, xn_wr, xs_wr, if_true, if_false, and_self, Int.reduceEq, Int.reduceLT, Int.reduceLE, Int.reduceNeg, Int.le_refl, Int.reduceMod]
  rw [xw_id (a := 40 * l + n) (by omega) (by omega)]
  simp only [srt S, srl S, srf S, hn, hw, true_and, and_true, false_and, and_false, forall_eq, forall_eq', xi_wi, xr_wi, xt_wi, xl_wi, xn_wi, xs_wi, xi_wr, xr_wr, xt_wr, xl_wr, xn_wr, xs_wr, if_true, if_false, and_self, Int.reduceEq, Int.reduceLT, Int.reduceLE, Int.reduceNeg, Int.le_refl, Int.reduceMod]
  rw [xw_id (a := 12 * l + w) (by omega) (by omega), xw_id (a := 16 * (12 * l + w)) (by omega) (by omega), xw_id (a := 16 * (12 * l + w) + f) (by omega) (by omega), xw_id (a := n + 1) (by omega) (by omega)]
  refine ⟨gl, gl, gy, gy, gy, gy, gl, gl, gl, ?_⟩
  generalize e5' : ((((h.wi 82 (40 * l + n) w).wi 83 (40 * l + n) f).wi 84 (40 * l + n) len).wi 85 (40 * l + n) m).wi 81 l (n + 1) = h5
  have e5 := e5'.symm
  have F5 : Fr [81, 82, 83, 84, 85] [] h h5 := by rw [e5]; exact Fr_cell (Fr_cell (Fr_cell (Fr_cell (Fr_cell (Fr_refl _ _ _) _ _ (by decide)) _ _ (by decide)) _ _ (by decide)) _ _ (by decide)) _ _ (by decide)
  have S5 := SR_2 F5.1 S
  have RL5 : RLang h5 P V := RLang_row (Fr_row F5 (by decide) (by decide)) (Fr_row F5 (by decide) (by decide)) (Fr_row F5 (by decide) (by decide)) (Fr_row F5 (by decide) (by decide)) (F5.2 59 6 (by decide) (by decide)) RL_
  have r78 : h5.i 78 = h.i 78 := Fr_row F5 (by decide) (by decide)
  have txi : ∀ k : Int, 0 ≤ k → k < len → h5.i 78 (16 * (12 * l + w) + f + k) = gD D (f + k) := fun k k0 k1 => by
    obtain ⟨i, hi⟩ : ∃ i : Nat, f + k = (i : Int) := ⟨(f + k).toNat, by omega⟩
    rw [r78, Int.add_assoc, hi, tx i (by omega)]
    unfold gD
    rw [Int.toNat_natCast]
  have es : sgs P V (h5.i 78) (16 * (12 * l + w) + f) (16 * (12 * l + w) + f + len) = sgs P V (gD D) f (f + len) := sgs_eq len0 txi
  have lt : lets (h5.i 78) (16 * (12 * l + w) + f) (16 * (12 * l + w) + f + len) := fun k k0 k1 => by
    have := txi (k - (16 * (12 * l + w) + f)) (by omega) (by omega)
    rw [show 16 * (12 * l + w) + f + (k - (16 * (12 * l + w) + f)) = k by omega] at this
    rw [this]
    unfold gD
    exact lets_ _ (getD_mem 0 (by omega))
  have g78 : h5.tag 78 = 21 ∧ h5.len 78 = 2880 ∧ h5.tag 59 = 12 := by have S := S5; simp only [srt S, srl S, srf S, true_and, and_true, false_and, and_false, forall_eq, forall_eq', xi_wi, xr_wi, xt_wi, xl_wi, xn_wi, xs_wi, xi_wr, xr_wr, xt_wr, xl_wr, xn_wr, xs_wr, if_true, if_false, and_self, Int.reduceEq, Int.reduceLT, Int.reduceLE, Int.reduceNeg, Int.le_refl, Int.reduceMod]
  refine c_R_cutS (d := d) S5 RL5 (by omega) len0 (by omega) (by omega) g78.1 (by rw [g78.2.1]; omega) lt (by decide) (by decide) (by decide) (by decide) (fun h6 F6 N6 => ?_)
  rw [es] at N6
  have sok : enOk (sgs P V (gD D) f (f + len)) := by rw [← es]; exact sgs_all hV lt
  have sl := sgs_len (P := P) (V := V) (g := gD D) (a := f) (e := f + len) (by omega)
  have S := SR_2 F6.1 S5
  have n10 : h6.i 59 10 = (((sgs P V (gD D) f (f + len)).length : Nat) : Int) := N6.1
  simp only [srt S, srl S, srf S, n10, true_and, and_true, false_and, and_false, forall_eq, forall_eq', xi_wi, xr_wi, xt_wi, xl_wi, xn_wi, xs_wi, xi_wr, xr_wr, xt_wr, xl_wr, xn_wr, xs_wr, if_true, if_false, and_self, Int.reduceEq, Int.reduceLT, Int.reduceLE, Int.reduceNeg, Int.le_refl, Int.reduceMod]
  refine ⟨gy, gy, ?_⟩
  generalize e8' : (h6.wi 87 (40 * l + n) (((sgs P V (gD D) f (f + len)).length : Nat) : Int)).wi 88 (40 * l + n) 0 = h8
  have e8 := e8'.symm
  have F8 : Fr [87, 88] [] h6 h8 := by rw [e8]; exact Fr_cell (Fr_cell (Fr_refl _ _ _) _ _ (by decide)) _ _ (by decide)
  have N8 : SndR h8 (sgs P V (gD D) f (f + len)) := by
    unfold SndR
    rw [F8.2 59 10 (by decide) (by decide), Fr_row F8 (c := 65) (by decide) (by decide), Fr_row F8 (c := 66) (by decide) (by decide)]
    exact N6
  refine c_R_addSyl70 gy.1 gy.2 (by omega) sok (sgs P V (gD D) f (f + len)).length 0 h8 (Nat.zero_add _) (SR_2 F8.1 S) N8 (by rw [e8, xi_wi, if_pos ⟨rfl, rfl⟩]; rfl) (fun h9 F9 a1 a2 a3 a4 => ?_)
  have lo : ∀ c : Int, c ∉ [65, 66, 67, 86, 87, 88] → c ≠ 59 → h9.i c = h5.i c := fun c hc n59 => by
    simp only [List.mem_cons, List.not_mem_nil, or_false, not_or] at hc
    rw [Fr_row F9 (c := c) (by simp only [List.mem_cons, List.not_mem_nil, or_false]; omega) (fun q m => absurd m List.not_mem_nil), Fr_row F8 (c := c) (by simp only [List.mem_cons, List.not_mem_nil, or_false]; omega) (fun q m => absurd m List.not_mem_nil), Fr_row F6 (c := c) (by simp only [List.mem_cons, List.not_mem_nil, or_false]; omega) (fun q m e => by rw [List.mem_singleton] at m; rw [m] at e; exact n59 e.symm)]
  have i86 : h8.i 86 = h.i 86 := by rw [Fr_row F8 (by decide) (by decide), Fr_row F6 (by decide) (by decide), Fr_row F5 (by decide) (by decide)]
  have i88 : ∀ j, j ≠ 40 * l + n → h8.i 88 j = h.i 88 j := fun j hj => by
    rw [e8, xi_wi, if_neg (fun z => hj z.2), xi_wi, if_neg (fun z => absurd z.1 (by decide)), Fr_row F6 (c := 88) (by decide) (by decide), Fr_row F5 (c := 88) (by decide) (by decide)]
  have i87 : ∀ j, h9.i 87 j = if j = 40 * l + n then (((sgs P V (gD D) f (f + len)).length : Nat) : Int) else h.i 87 j := fun j => by
    rw [Fr_row F9 (c := 87) (by decide) (by decide), e8, xi_wi, if_neg (fun z => absurd z.1 (by decide)), xi_wi]
    by_cases z : j = 40 * l + n
    · rw [if_pos ⟨rfl, z⟩, if_pos z]
    · rw [if_neg (fun t => z t.2), if_neg z, Fr_row F6 (c := 87) (by decide) (by decide), Fr_row F5 (c := 87) (by decide) (by decide)]
  refine H h9 (Fr_trans (Fr_mono F5 (by decide) (fun c m => absurd m List.not_mem_nil)) (Fr_trans (Fr_mono F6 (by decide) (fun c m => m)) (Fr_trans (Fr_mono F8 (by decide) (fun c m => absurd m List.not_mem_nil)) (Fr_mono F9 (by decide) (fun c m => absurd m List.not_mem_nil))))) ⟨fun k => ?_, fun k => ?_, fun k => ?_, fun k => ?_, fun k => ?_, i87, fun k => ?_, fun k hk => ?_, fun k hk => ?_⟩
  · rw [lo 81 (by decide) (by decide), e5]; simp only [true_and, and_true, false_and, and_false, forall_eq, forall_eq', xi_wi, xr_wi, xt_wi, xl_wi, xn_wi, xs_wi, xi_wr, xr_wr, xt_wr, xl_wr, xn_wr, xs_wr, if_true, if_false, and_self, Int.reduceEq, Int.reduceLT, Int.reduceLE, Int.reduceNeg, Int.le_refl, Int.reduceMod]
  · rw [lo 82 (by decide) (by decide), e5]; simp only [true_and, and_true, false_and, and_false, forall_eq, forall_eq', xi_wi, xr_wi, xt_wi, xl_wi, xn_wi, xs_wi, xi_wr, xr_wr, xt_wr, xl_wr, xn_wr, xs_wr, if_true, if_false, and_self, Int.reduceEq, Int.reduceLT, Int.reduceLE, Int.reduceNeg, Int.le_refl, Int.reduceMod]; rfl
  · rw [lo 83 (by decide) (by decide), e5]; simp only [true_and, and_true, false_and, and_false, forall_eq, forall_eq', xi_wi, xr_wi, xt_wi, xl_wi, xn_wi, xs_wi, xi_wr, xr_wr, xt_wr, xl_wr, xn_wr, xs_wr, if_true, if_false, and_self, Int.reduceEq, Int.reduceLT, Int.reduceLE, Int.reduceNeg, Int.le_refl, Int.reduceMod]; rfl
  · rw [lo 84 (by decide) (by decide), e5]; simp only [true_and, and_true, false_and, and_false, forall_eq, forall_eq', xi_wi, xr_wi, xt_wi, xl_wi, xn_wi, xs_wi, xi_wr, xr_wr, xt_wr, xl_wr, xn_wr, xs_wr, if_true, if_false, and_self, Int.reduceEq, Int.reduceLT, Int.reduceLE, Int.reduceNeg, Int.le_refl, Int.reduceMod]; rfl
  · rw [lo 85 (by decide) (by decide), e5]; simp only [true_and, and_true, false_and, and_false, forall_eq, forall_eq', xi_wi, xr_wi, xt_wi, xl_wi, xn_wi, xs_wi, xi_wr, xr_wr, xt_wr, xl_wr, xn_wr, xs_wr, if_true, if_false, and_self, Int.reduceEq, Int.reduceLT, Int.reduceLE, Int.reduceNeg, Int.le_refl, Int.reduceMod]; rfl
  · by_cases z : k = 40 * l + n
    · rw [if_pos z, z]; exact a1
    · rw [if_neg z, a2 k z, i88 k z]
  · exact a3 k (Nat.zero_le _) hk
  · rw [a4 k (by omega), i86]
end ASY
