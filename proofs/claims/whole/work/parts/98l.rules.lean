/-! line: a word is parted by rules, both sides -/
def slen (p : Int × Int) : Int := if p.1 < 100 then 1 else 2
def lgS (p : Int × Int) : Int := if p.1 < 100 then 0 else 1
def psn (S : List (Int × Int)) (k : Nat) : Int := ((S.take k).map slen).sum
def rulM (lg bv stop : Int) : Int := if lg = 1 ∨ bv < stop then 1 else 2
def rulS : List (Int × Int) → Int → Int → Int → Int → Int → List (Int × Int)
  | [], pos, start, bv, lg, _ => [(pos - start, rulM lg bv pos)]
  | s :: r, pos, start, bv, lg, ls => if s.2 = 1 then (if bv = -1 then rulS r (pos + slen s) start (pos + slen s) (lgS s) pos else ((if pos = bv then pos else ls) - start, rulM lg bv (if pos = bv then pos else ls)) :: rulS r (pos + slen s) (if pos = bv then pos else ls) (pos + slen s) (lgS s) pos) else rulS r (pos + slen s) start bv lg pos
theorem slen_12 (p : Int × Int) : 1 ≤ slen p ∧ slen p ≤ 2 := by
  unfold slen
  by_cases c : p.1 < 100
  · rw [if_pos c]; decide
  · rw [if_neg c]; decide
theorem psn_s {S : List (Int × Int)} {k : Nat} (hk : k < S.length) : psn S (k + 1) = psn S k + slen (S.getD k (0, 0)) := by
  unfold psn
  rw [List.take_succ_eq_append_getElem hk, List.map_append, List.sum_append, List.getD_eq_getElem?_getD, List.getElem?_eq_getElem hk]
  simp only [List.map_cons, List.map_nil, List.sum_cons, List.sum_nil, Option.getD_some]
  omega
theorem psn_lt {S : List (Int × Int)} {i : Nat} : ∀ n : Nat, i + n ≤ S.length → psn S i + n ≤ psn S (i + n) := by
  intro n
  induction n with
  | zero => intro _; show psn S i + 0 ≤ psn S i; omega
  | succ n ih =>
    intro h
    have a := ih (by omega)
    have b := psn_s (S := S) (k := i + n) (by omega)
    have c := slen_12 (S.getD (i + n) (0, 0))
    rw [show i + (n + 1) = i + n + 1 by omega, b]
    push_cast; omega
theorem nxt_sl {P V g : Int → Int} {e a : Int} (hl : lets g a e) (hae : a < e) : nxt P g e a = a + slen (rsn P g e a, vwl P V g e a) := by
  unfold nxt slen
  show _ = a + if rsn P g e a < 100 then 1 else 2
  have l0 := hl a (by omega) (by omega)
  unfold rsn
  by_cases c : prs P g e a = 0
  · rw [if_pos c, if_pos c, if_pos (by omega)]
  · rw [if_neg c, if_neg c]
    have : a + 1 < e := by
      by_cases z : a + 1 < e
      · exact z
      · exfalso; unfold prs at c; rw [if_neg z] at c; exact c rfl
    have l1 := hl (a + 1) (by omega) (by omega)
    rw [if_neg (by omega)]
theorem psn_c (p : Int × Int) (S : List (Int × Int)) (k : Nat) : psn (p :: S) (k + 1) = slen p + psn S k := by
  unfold psn
  rw [List.take_succ_cons, List.map_cons, List.sum_cons]
theorem sgs_tot {P V g : Int → Int} {e : Int} : ∀ (n : Nat) (a : Int), e - a ≤ n → a ≤ e → lets g a e → psn (sgs P V g a e) (sgs P V g a e).length = e - a := by
  intro n
  induction n with
  | zero =>
    intro a hn h _
    rw [sgs_nil (by omega)]
    show (0 : Int) = e - a; omega
  | succ n ih =>
    intro a hn h hl
    by_cases c : a < e
    · have gt := nxt_gt P g e a
      rw [sgs_cons c, List.length_cons, psn_c, ← Int.add_sub_cancel (slen _) a, Int.add_comm (slen _) a, ← nxt_sl hl c, ih (nxt P g e a) (by push_cast at hn; omega) (nxt_le c) (lets_nxt hl)]
      omega
    · rw [sgs_nil c]
      show (0 : Int) = e - a; omega
theorem snds_psn {P V g : Int → Int} {e : Int} : ∀ (n : Nat) (a : Int) (j : Nat), lets g a e → j < (snds P g e n a).length → (snds P g e n a).getD j 0 = a + psn ((snds P g e n a).map (fun x => (rsn P g e x, vwl P V g e x))) j := by
  intro n
  induction n with
  | zero => intro a j _ hj; exact absurd hj (Nat.not_lt_zero _)
  | succ n ih =>
    intro a j hl hj
    by_cases c : a < e
    · rw [snds, if_pos c] at hj ⊢
      cases j with
      | zero => show a = a + 0; omega
      | succ j =>
        rw [List.length_cons] at hj
        have z := ih (nxt P g e a) j (lets_nxt hl) (by omega)
        rw [List.map_cons, psn_c]
        show (snds P g e n (nxt P g e a)).getD j 0 = _
        rw [z, nxt_sl (V := V) hl c]
        omega
    · rw [snds, if_neg c] at hj; exact absurd hj (Nat.not_lt_zero _)
/-- the reference's rows of sounds, with their places -/
def SndA (h : xH) (L : List (Int × Int)) : Prop := SndR h L ∧ ∀ j : Nat, j < L.length → h.i 67 j = psn L j
section RUL
variable {d : Nat}
theorem c_R_cutA {h : xH} {P V : Int → Int} {Q : xH → Prop} {q f m : Int} (S : SR h) (RL_ : RLang h P V) (hf : 0 ≤ f) (m0 : 0 ≤ m) (hm : m ≤ 16) (hl2 : f + m < 100000) (tq : h.tag q = 21) (lq : f + m ≤ h.len q) (le : lets (h.i q) f (f + m)) (hq4 : q ≠ 59) (hq5 : q ≠ 65) (hq6 : q ≠ 66) (hq7 : q ≠ 67) (H : ∀ h', Fr [65, 66, 67] [(59, 10)] h h' → SndA h' (sgs P V (h.i q) f (f + m)) → Q h') : xCv (d + 2) M_R_cutSounds [(1, 59), (1, q), (0, f), (0, m)] h Q := by
  refine c_R_cutSounds S RL_ hf m0 hm hl2 tq lq rfl le hq4 hq5 hq6 hq7 (fun h' F C => H h' F ?_)
  obtain ⟨c1, c2⟩ := C
  have em : f + m - f = m := by omega
  refine ⟨⟨?_, fun j hj => ?_⟩, fun j hj => ?_⟩
  · unfold sgs
    rw [c1, List.length_map, em]; omega
  · unfold sgs at hj ⊢
    rw [List.length_map] at hj
    rw [em] at hj ⊢
    have z := c2 j hj
    rw [map_gd (w := ((0 : Int), (0 : Int))) (z := (0 : Int)) hj]
    rw [show (0 : Int) + (j : Int) = (j : Int) by omega] at z
    exact ⟨z.1, z.2.1⟩
  · unfold sgs at hj ⊢
    rw [List.length_map] at hj
    rw [em] at hj ⊢
    have z := c2 j hj
    rw [show (0 : Int) + (j : Int) = (j : Int) by omega] at z
    rw [z.2.2, snds_psn (V := V) m.toNat f j le hj]
    omega
def byL : List Int := [74, 75]
/-- the reference's rows of lengths and marks -/
def RWl (h : xH) (L : List (Int × Int)) : Prop := ∀ j : Nat, j < L.length → h.i 74 j = (L.getD j (0, 0)).1 ∧ h.i 75 j = (L.getD j (0, 0)).2
theorem RWl_add {h h' : xH} {L : List (Int × Int)} {x y : Int} (W : RWl h L) (e74 : ∀ k, h'.i 74 k = if k = ((L.length : Nat) : Int) then x else h.i 74 k) (e75 : ∀ k, h'.i 75 k = if k = ((L.length : Nat) : Int) then y else h.i 75 k) : RWl h' (L ++ [(x, y)]) := by
  intro j hj
  rw [List.length_append] at hj
  have hj : j < L.length + 1 := hj
  rw [e74, e75]
  by_cases c : j = L.length
  · rw [if_pos (by omega), if_pos (by omega), c, getD_app_r (0, 0) (Nat.le_refl _), Nat.sub_self]
    exact ⟨rfl, rfl⟩
  · rw [if_neg (by omega), if_neg (by omega), getD_app_l (0, 0) (by omega)]
    exact W j (by omega)
theorem c_R_closes {h : xH} {Q : xH → Prop} {L A : List (Int × Int)} {bg ct lt : Nat} {many : Int} (S : SR h) (N : SndA h L) (l16 : L.length ≤ 16) (a16 : A.length ≤ 16) (hb : bg < L.length) (hc : ct ≤ L.length) (hl : lt < ct) (hm : many = psn L L.length) (H : ∀ h', Fr byL [] h h' → (∀ k, h'.i 74 k = if k = ((A.length : Nat) : Int) then psn L ct - psn L bg else h.i 74 k) → (∀ k, h'.i 75 k = if k = ((A.length : Nat) : Int) then (if (L.getD lt (0, 0)).1 < 100 then (if (L.getD (ct - 1) (0, 0)).2 = 0 then 1 else 2) else 1) else h.i 75 k) → Q h') : xCv (d + 1) M_R_closes [(1, 59), (0, ((A.length : Nat) : Int)), (0, (bg : Int)), (0, (ct : Int)), (0, (lt : Int)), (0, many)] h Q := by
  have nb := N.2 bg hb
  have nl := N.1.2 lt (by omega)
  have nc := N.1.2 (ct - 1) (by omega)
  have n10 : h.i 59 10 = ((L.length : Nat) : Int) := N.1.1
  have pl : ∀ k : Nat, k ≤ L.length → 0 ≤ psn L k ∧ psn L k ≤ 2 * k := by
    intro k
    induction k with
    | zero => intro _; exact ⟨Int.le_refl _, Int.le_refl _⟩
    | succ k ih =>
      intro hk
      have a := ih (by omega)
      have b := slen_12 (L.getD k (0, 0))
      rw [psn_s (by omega)]
      push_cast; omega
  have pb := pl bg (by omega)
  have pc := pl ct hc
  have ect : (ct : Int) - 1 = ((ct - 1 : Nat) : Int) := by omega
  have last : ∀ u2 u5 u7 u8 : xV, xT d M_R_closes 15 [(1, 59), (0, ((A.length : Nat) : Int)), u2, (0, (ct : Int)), (0, (lt : Int)), u5, (0, psn L bg), u7, u8] [(0, psn L ct)] h (xqv Q) := fun u2 u5 u7 u8 => by
    apply L_R_closes_15
    rw [xw_id (a := (ct : Int) - 1) (by omega) (by omega), xw_id (a := psn L ct - psn L bg) (by omega) (by omega), ect]
    simp only [srt S, srl S, srf S, true_and, and_true, false_and, and_false, forall_eq, forall_eq', xi_wi, xr_wi, xt_wi, xl_wi, xn_wi, xs_wi, xi_wr, xr_wr, xt_wr, xl_wr, xn_wr, xs_wr, if_true, if_false, and_self, Int.reduceEq, Int.reduceLT, Int.reduceLE, Int.reduceNeg, Int.le_refl, Int.reduceMod]
    rw [nl.1, nc.2]
    have fin : ∀ (v : Int) (h' : xH), v = (if (L.getD lt (0, 0)).1 < 100 then (if (L.getD (ct - 1) (0, 0)).2 = 0 then 1 else 2) else 1) → h' = (h.wi 74 ((A.length : Nat) : Int) (psn L ct - psn L bg)).wi 75 ((A.length : Nat) : Int) v → Q h' := fun v h' ev eh => by
      refine H h' (by rw [eh]; exact Fr_cell (Fr_cell (Fr_refl _ _ _) _ _ (by decide)) _ _ (by decide)) (fun k => ?_) (fun k => ?_)
      · rw [eh, xi_wi, if_neg (fun z => absurd z.1 (by decide)), xi_wi]
        by_cases z : k = ((A.length : Nat) : Int)
        · rw [if_pos ⟨rfl, z⟩, if_pos z]
        · rw [if_neg (fun y => z y.2), if_neg z]
      · rw [← ev, eh, xi_wi]
        by_cases z : k = ((A.length : Nat) : Int)
        · rw [if_pos ⟨rfl, z⟩, if_pos z]
        · rw [if_neg (fun y => z y.2), if_neg z, xi_wi, if_neg (fun z => absurd z.1 (by decide))]
    refine ⟨⟨by omega, by omega⟩, ⟨by omega, by omega⟩, ?_⟩
    by_cases c1 : (L.getD lt (0, 0)).1 < 100
    · rw [if_pos c1]
      refine ⟨⟨by omega, by omega⟩, ?_⟩
      by_cases c2 : (L.getD (ct - 1) (0, 0)).2 = 0
      · rw [if_pos c2]
        exact ⟨⟨by omega, by omega⟩, fin 1 _ (by rw [if_pos c1, if_pos c2]) rfl⟩
      · rw [if_neg c2]
        exact ⟨⟨by omega, by omega⟩, fin 2 _ (by rw [if_pos c1, if_neg c2]) rfl⟩
    · rw [if_neg c1]
      exact ⟨⟨by omega, by omega⟩, fin 1 _ (by rw [if_neg c1]) rfl⟩
  have g : h.tag 59 = 12 ∧ h.r 59 9 = 67 ∧ h.tag 67 = 20 ∧ h.len 67 = 18 := by simp only [srt S, srl S, srf S, true_and, and_true, false_and, and_false, forall_eq, forall_eq', xi_wi, xr_wi, xt_wi, xl_wi, xn_wi, xs_wi, xi_wr, xr_wr, xt_wr, xl_wr, xn_wr, xs_wr, if_true, if_false, and_self, Int.reduceEq, Int.reduceLT, Int.reduceLE, Int.reduceNeg, Int.le_refl, Int.reduceMod]
  apply L_R_closes
  rw [g.2.1, g.2.2.2, n10]
  refine ⟨g.1, ⟨g.2.2.1, by omega, by omega⟩, fun x1 e1 => ?_⟩
  rw [nb] at e1
  subst e1
  by_cases c : ct = L.length
  · rw [if_pos (by omega), hm]
    have := last (0, (bg : Int)) (0, many) (9, 0) (9, 0)
    rw [c, hm] at this
    rw [c]
    exact this
  · rw [if_neg (by omega), N.2 ct (by omega)]
    exact ⟨⟨g.2.2.1, by omega, by omega⟩, last _ _ _ _⟩
theorem c_R_by14 {Q : Int → xH → Prop} {L : List (Int × Int)} {many : Int} {u1 : xV} (l16 : L.length ≤ 16) (ok : enOk L) (hm : many = psn L L.length) (F : List (Int × Int)) : ∀ (m k : Nat) (h : xH) (A : List (Int × Int)) (bg : Nat) (lt start bv lg ls : Int) (u7 : xV), k + m = L.length → SR h → SndA h L → RWl h A → A.length ≤ k → A ++ rulS (L.drop k) (psn L k) start bv lg ls = F → start = psn L bg → ((lt = -1 ∧ bv = -1 ∧ bg = 0 ∧ A = [] ∧ ∀ j : Nat, j < k → (L.getD j (0, 0)).2 = 0) ∨ (∃ t : Nat, lt = (t : Int) ∧ t < k ∧ bg ≤ t ∧ bv = psn L (t + 1) ∧ lg = lgS (L.getD t (0, 0)) ∧ (L.getD t (0, 0)).2 = 1 ∧ ls = psn L (k - 1) ∧ ∀ j : Nat, t < j → j < k → (L.getD j (0, 0)).2 = 0)) → (∀ h', Fr byL [] h h' → (∃ p ∈ L, p.2 = 1) → RWl h' F → Q ((F.length : Nat) : Int) h') → (∀ h', Fr byL [] h h' → (∀ p ∈ L, p.2 = 0) → Q 0 h') → xT (d + 1) M_R_byRules 14 [(1, 59), u1, (0, many), (0, ((A.length : Nat) : Int)), (0, (bg : Int)), (0, lt), (0, (k : Int)), u7] [] h (xqi Q) := by
  intro m
  induction m with
  | zero =>
    intro k h A bg lt start bv lg ls u7 hk S N W ak eF es P H H0
    have ek : k = L.length := by omega
    have n10 : h.i 59 10 = ((L.length : Nat) : Int) := N.1.1
    apply L_R_byRules_14
    rw [n10, if_neg (by omega)]
    refine ⟨(srt S).1, ?_⟩
    rcases P with ⟨p1, p2, p3, p4, p5⟩ | ⟨t, p1, p2, p3, p4, p5, p6, p7, p8⟩
    · rw [if_pos p1]
      refine H0 h (Fr_refl _ _ _) (fun p mp => ?_)
      obtain ⟨i, hi, ei⟩ := List.mem_iff_getElem.mp mp
      have := p5 i (by omega)
      rw [List.getD_eq_getElem?_getD, List.getElem?_eq_getElem hi] at this
      have e : (some L[i]).getD (0, 0) = p := ei
      rw [e] at this; exact this
    · rw [if_neg (by omega), p1]
      refine c_R_closes (A := A) (ct := L.length) S N l16 (by omega) (by omega) (Nat.le_refl _) (by omega) hm (fun h1 F1 q1 q2 => ?_)
      rw [xw_id (by omega) (by omega)]
      have ed : L.drop k = [] := List.drop_of_length_le (by omega)
      rw [ed] at eF
      have eF2 : A ++ [(psn L k - start, rulM lg bv (psn L k))] = F := eF
      have W1 := RWl_add (h' := h1) W q1 q2
      have e2 : (psn L L.length - psn L bg, if (L.getD t (0, 0)).1 < 100 then (if (L.getD (L.length - 1) (0, 0)).2 = 0 then (1 : Int) else 2) else 1) = (psn L k - start, rulM lg bv (psn L k)) := by
        rw [ek, es]
        congr 1
        unfold rulM
        rw [p5, p4]
        unfold lgS
        by_cases c1 : (L.getD t (0, 0)).1 < 100
        · rw [if_pos c1, if_pos c1]
          by_cases c2 : L.length = t + 1
          · rw [show L.length - 1 = t by omega, p6, if_neg (by decide), ← c2, if_neg (by omega)]
          · rw [p8 (L.length - 1) (by omega) (by omega), if_pos rfl, if_pos]
            have := psn_lt (S := L) (i := t + 1) (L.length - (t + 1)) (by omega)
            rw [show t + 1 + (L.length - (t + 1)) = L.length by omega] at this
            right; omega
        · rw [if_neg c1, if_neg c1, if_pos (Or.inl rfl)]
      rw [e2, eF2] at W1
      have lF : ((F.length : Nat) : Int) = ((A.length : Nat) : Int) + 1 := by rw [← eF2, List.length_append]; push_cast; rfl
      rw [← lF]
      exact H h1 F1 ⟨L.getD t (0, 0), getD_mem _ (by omega), p6⟩ W1
  | succ m ih =>
    intro k h A bg lt start bv lg ls u7 hk S N W ak eF es P H H0
    have hkl : k < L.length := by omega
    have n10 : h.i 59 10 = ((L.length : Nat) : Int) := N.1.1
    have nk := N.1.2 k hkl
    have b := (ok _ (getD_mem ((0 : Int), (0 : Int)) hkl)).1
    have ed : L.drop k = L.getD k (0, 0) :: L.drop (k + 1) := drop_c hkl
    have ps := psn_s hkl
    rw [ed, rulS, ← ps] at eF
    have g : h.r 59 8 = 66 ∧ h.tag 66 = 22 ∧ h.len 66 = 18 := by simp only [srt S, srl S, srf S, true_and, and_true, false_and, and_false, forall_eq, forall_eq', xi_wi, xr_wi, xt_wi, xl_wi, xn_wi, xs_wi, xi_wr, xr_wr, xt_wr, xl_wr, xn_wr, xs_wr, if_true, if_false, and_self, Int.reduceEq, Int.reduceLT, Int.reduceLE, Int.reduceNeg, Int.le_refl, Int.reduceMod]
    apply L_R_byRules_14
    rw [n10, if_pos (by omega), g.1, g.2.2, nk.2]
    refine ⟨(srt S).1, ⟨g.2.1, by omega, by omega⟩, ?_⟩
    have nx : ∀ x : Int, x = xw ((k : Int) + 1) → x = ((k + 1 : Nat) : Int) := fun x e => by rw [e, xw_id (by omega) (by omega)]; push_cast; rfl
    by_cases c : (L.getD k (0, 0)).2 = 0
    · rw [if_pos c]
      rw [if_neg (by omega)] at eF
      intro x1 e1
      rw [nx x1 e1]
      refine ih (k + 1) h A bg lt start bv lg (psn L k) u7 (by omega) S N W (by omega) eF es ?_ H H0
      rcases P with ⟨p1, p2, p3, p4, p5⟩ | ⟨t, p1, p2, p3, p4, p5, p6, p7, p8⟩
      · exact Or.inl ⟨p1, p2, p3, p4, fun j hj => by
          by_cases z : j = k
          · rw [z]; exact c
          · exact p5 j (by omega)⟩
      · exact Or.inr ⟨t, p1, by omega, p3, p4, p5, p6, rfl, fun j j0 j1 => by
          by_cases z : j = k
          · rw [z]; exact c
          · exact p8 j j0 (by omega)⟩
    · rw [if_neg c]
      have c1 : (L.getD k (0, 0)).2 = 1 := by omega
      rw [if_pos c1] at eF
      rcases P with ⟨p1, p2, p3, p4, p5⟩ | ⟨t, p1, p2, p3, p4, p5, p6, p7, p8⟩
      · rw [if_pos p1]
        rw [if_pos p2] at eF
        intro x1 e1
        rw [nx x1 e1]
        exact ih (k + 1) h A bg (k : Int) start _ _ _ u7 (by omega) S N W (by omega) eF es (Or.inr ⟨k, rfl, by omega, by omega, rfl, rfl, c1, rfl, fun j j0 j1 => by omega⟩) H H0
      · have bvn : bv ≠ -1 := by
          have := psn_lt (S := L) (i := 0) (t + 1) (by omega)
          rw [Nat.zero_add] at this
          have z : psn L 0 = 0 := rfl
          omega
        rw [if_neg (by omega)]
        rw [if_neg bvn] at eF
        have step : ∀ ct : Nat, ((ct = k ∧ k = t + 1) ∨ (ct = k - 1 ∧ t + 1 < k)) → ∀ (h1 : xH), Fr byL [] h h1 → (∀ j, h1.i 74 j = if j = ((A.length : Nat) : Int) then psn L ct - psn L bg else h.i 74 j) → (∀ j, h1.i 75 j = if j = ((A.length : Nat) : Int) then (if (L.getD t (0, 0)).1 < 100 then (if (L.getD (ct - 1) (0, 0)).2 = 0 then 1 else 2) else 1) else h.i 75 j) → ∀ (x4 x5 : Int) (u7 : xV), x4 = xw (((A.length : Nat) : Int) + 1) → x5 = xw ((k : Int) + 1) → xT (d + 1) M_R_byRules 14 [(1, 59), u1, (0, many), (0, x4), (0, (ct : Int)), (0, (k : Int)), (0, x5), u7] [] h1 (xqi Q) := fun ct hc h1 F1 q1 q2 x4 x5 u7 e4 e5 => by
          rw [nx x5 e5]
          rw [xw_id (by omega) (by omega)] at e4
          have W1 := RWl_add (h' := h1) W q1 q2
          have stp : (if psn L k = bv then psn L k else ls) = psn L ct := by
            rcases hc with ⟨z, y⟩ | ⟨z, y⟩
            · rw [if_pos (by rw [p4, y]), z]
            · have := psn_lt (S := L) (i := t + 1) (k - (t + 1)) (by omega)
              rw [show t + 1 + (k - (t + 1)) = k by omega] at this
              rw [if_neg (by omega), p7, z]
          have mk : (if (L.getD t (0, 0)).1 < 100 then (if (L.getD (ct - 1) (0, 0)).2 = 0 then (1 : Int) else 2) else 1) = rulM lg bv (psn L ct) := by
            unfold rulM
            rw [p5, p4]
            unfold lgS
            by_cases d1 : (L.getD t (0, 0)).1 < 100
            · rw [if_pos d1, if_pos d1]
              rcases hc with ⟨z, y⟩ | ⟨z, y⟩
              · rw [z, show k - 1 = t by omega, p6, if_neg (by decide), y, if_neg (by omega)]
              · by_cases w : ct = t + 1
                · rw [w, show t + 1 - 1 = t by omega, p6, if_neg (by decide), if_neg (by omega)]
                · rw [p8 (ct - 1) (by omega) (by omega), if_pos rfl, if_pos]
                  have := psn_lt (S := L) (i := t + 1) (ct - (t + 1)) (by omega)
                  rw [show t + 1 + (ct - (t + 1)) = ct by omega] at this
                  right; omega
            · rw [if_neg d1, if_neg d1, if_pos (Or.inl rfl)]
          rw [stp] at eF
          rw [mk, ← es] at W1
          have N1 : SndA h1 L := by
            unfold SndA SndR
            rw [F1.2 59 10 (by decide) (by decide), Fr_row F1 (c := 65) (by decide) (by decide), Fr_row F1 (c := 66) (by decide) (by decide), Fr_row F1 (c := 67) (by decide) (by decide)]
            exact N
          have := ih (k + 1) h1 (A ++ [(psn L ct - start, rulM lg bv (psn L ct))]) ct (k : Int) _ _ _ _ u7 (by omega) (SR_2 F1.1 S) N1 W1 (by rw [List.length_append]; show A.length + 1 ≤ k + 1; omega) (by rw [List.append_assoc]; exact eF) rfl (Or.inr ⟨k, rfl, by omega, by omega, rfl, rfl, c1, rfl, fun j j0 j1 => by omega⟩) (fun h' F => H h' (Fr_trans F1 F)) (fun h' F => H0 h' (Fr_trans F1 F))
          rw [List.length_append] at this
          rw [e4, show ((A.length : Nat) : Int) + 1 = ((A.length + [(psn L ct - start, rulM lg bv (psn L ct))].length : Nat) : Int) by push_cast; rfl]
          exact this
        rw [p1, xw_id (a := (k : Int) - (t : Int)) (by omega) (by omega)]
        by_cases c2 : 1 < (k : Int) - (t : Int)
        · rw [if_pos c2]
          intro x3 e3
          rw [xw_id (by omega) (by omega), show (k : Int) - 1 = ((k - 1 : Nat) : Int) by omega] at e3
          subst e3
          refine c_R_closes (A := A) (ct := k - 1) S N l16 (by omega) (by omega) (by omega) (by omega) hm (fun h1 F1 q1 q2 => fun x4 e4 x5 e5 => ?_)
          exact step (k - 1) (Or.inr ⟨rfl, by omega⟩) h1 F1 q1 q2 x4 x5 _ e4 e5
        · rw [if_neg c2]
          refine c_R_closes (A := A) (ct := k) S N l16 (by omega) (by omega) (by omega) (by omega) hm (fun h1 F1 q1 q2 => fun x4 e4 x5 e5 => ?_)
          exact step k (Or.inl ⟨rfl, by omega⟩) h1 F1 q1 q2 x4 x5 _ e4 e5
/-- how a word that the book hasn't is parted -/
def rulL (P V : Int → Int) (D : List Int) : List (Int × Int) := rulS (sgs P V (gD D) 0 ((D.length : Nat) : Int)) 0 0 (-1) 0 0
def noV (P V : Int → Int) (D : List Int) : Prop := ∀ p ∈ sgs P V (gD D) 0 ((D.length : Nat) : Int), p.2 = 0
theorem c_R_byRules {h : xH} {Q : Int → xH → Prop} {P V : Int → Int} {f : Int} {D : List Int} (S : SR h) (RL_ : RLang h P V) (hV : bits26 V) (f0 : 0 ≤ f) (fl : f + ((D.length : Nat) : Int) ≤ 240) (d16 : D.length ≤ 16) (lc : ∀ c ∈ D, 97 ≤ c ∧ c ≤ 122) (tp : ∀ k : Nat, k < D.length → h.i 60 (f + k) = D.getD k 0) (H0 : noV P V D → ∀ h', Fr [65, 66, 67, 74, 75] [(59, 10)] h h' → Q 0 h') (H1 : ¬ noV P V D → ∀ h', Fr [65, 66, 67, 74, 75] [(59, 10)] h h' → RWl h' (rulL P V D) → Q (((rulL P V D).length : Nat) : Int) h') : xCi (d + 3) M_R_byRules [(1, 59), (0, f), (0, ((D.length : Nat) : Int))] h Q := by
  have g : h.tag 59 = 12 ∧ h.r 59 0 = 60 ∧ h.tag 60 = 21 ∧ h.len 60 = 240 := by simp only [srt S, srl S, srf S, true_and, and_true, false_and, and_false, forall_eq, forall_eq', xi_wi, xr_wi, xt_wi, xl_wi, xn_wi, xs_wi, xi_wr, xr_wr, xt_wr, xl_wr, xn_wr, xs_wr, if_true, if_false, and_self, Int.reduceEq, Int.reduceLT, Int.reduceLE, Int.reduceNeg, Int.le_refl, Int.reduceMod]
  have tpi : ∀ k : Int, 0 ≤ k → k < ((D.length : Nat) : Int) → h.i 60 (f + k) = gD D (0 + k) := fun k k0 k1 => by
    obtain ⟨i, rfl⟩ : ∃ i : Nat, k = (i : Int) := ⟨k.toNat, by omega⟩
    rw [tp i (by omega)]
    unfold gD
    rw [show (0 + (i : Int)).toNat = i by omega]
  have es : sgs P V (h.i 60) f (f + ((D.length : Nat) : Int)) = sgs P V (gD D) 0 ((D.length : Nat) : Int) := by
    have := sgs_eq (P := P) (V := V) (g := h.i 60) (g' := gD D) (a := f) (a' := 0) (m := ((D.length : Nat) : Int)) (by omega) tpi
    rw [show 0 + ((D.length : Nat) : Int) = ((D.length : Nat) : Int) by omega] at this
    exact this
  have lt : lets (h.i 60) f (f + ((D.length : Nat) : Int)) := fun k k0 k1 => by
    have := tpi (k - f) (by omega) (by omega)
    rw [show f + (k - f) = k by omega] at this
    rw [this]
    unfold gD
    exact lc _ (getD_mem 0 (by omega))
  have tot := sgs_tot (P := P) (V := V) (g := h.i 60) (e := f + ((D.length : Nat) : Int)) D.length f (by omega) (by omega) lt
  rw [es] at tot
  have sl := sgs_len (P := P) (V := V) (g := gD D) (a := 0) (e := ((D.length : Nat) : Int)) (by omega)
  have ok : enOk (sgs P V (gD D) 0 ((D.length : Nat) : Int)) := by rw [← es]; exact sgs_all hV lt
  apply L_R_byRules
  rw [g.2.1]
  refine ⟨g.1, ?_⟩
  refine c_R_cutA (d := d) S RL_ f0 (by omega) (by omega) (by omega) g.2.2.1 (by rw [g.2.2.2]; exact fl) lt (by decide) (by decide) (by decide) (by decide) (fun h1 F1 N1 => ?_)
  rw [es] at N1
  refine c_R_by14 (d := d + 1) (L := sgs P V (gD D) 0 ((D.length : Nat) : Int)) (by omega) ok (by omega) (rulL P V D) _ 0 h1 [] 0 (-1) 0 (-1) 0 0 _ (Nat.zero_add _) (SR_2 F1.1 S) N1 (fun j hj => absurd hj (Nat.not_lt_zero _)) (Nat.le_refl _) rfl rfl (Or.inl ⟨rfl, rfl, rfl, rfl, fun j hj => absurd hj (Nat.not_lt_zero _)⟩) (fun h2 F2 ex W => ?_) (fun h2 F2 al => ?_)
  · refine H1 (fun nv => ?_) h2 (Fr_trans (Fr_mono F1 (by decide) (fun c m => m)) (Fr_mono F2 (by decide) (fun c m => absurd m List.not_mem_nil))) W
    obtain ⟨p, mp, e1⟩ := ex
    rw [nv p mp] at e1
    exact absurd e1 (by decide)
  · exact H0 al h2 (Fr_trans (Fr_mono F1 (by decide) (fun c m => m)) (Fr_mono F2 (by decide) (fun c m => absurd m List.not_mem_nil)))
end RUL
