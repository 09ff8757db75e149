/-! the reference's lines: how one syllable more changes a row -/
def RS (y : Nat → Int → Int) (L : List FS) : Prop := y 0 0 = (L.length : Nat) ∧ ∀ i : Nat, i < L.length → y 2 i = (L.getD i fs0).w ∧ y 3 i = (L.getD i fs0).f ∧ y 4 i = (L.getD i fs0).n ∧ y 5 i = (L.getD i fs0).m ∧ y 6 i = ((L.getD i fs0).s.length : Nat) ∧ y 7 i = vbits (L.getD i fs0).s ∧ ∀ k : Nat, k < (L.getD i fs0).s.length → y 8 (16 * i + k) = ((L.getD i fs0).s.getD k (0, 0)).1
def RW (y : Nat → Int → Int) (ws : List Wd) : Prop := ∀ w : Nat, w < ws.length → y 9 w = ((ws.getD w wd0).1.length : Nat) ∧ y 10 w = (ws.getD w wd0).2.1 ∧ ∀ k : Nat, k < (ws.getD w wd0).1.length → y 11 (16 * w + k) = (ws.getD w wd0).1.getD k 0
theorem RLn_iff {y : Nat → Int → Int} {ws : List Wd} : RLn y ws ↔ RS y (flat ws) ∧ y 1 0 = (ws.length : Nat) ∧ RW y ws := by
  unfold RLn RS RW
  constructor
  · intro h; exact ⟨⟨h.1, h.2.2.1⟩, h.2.1, h.2.2.2⟩
  · intro h; exact ⟨h.1.1, h.2.1, h.1.2, h.2.2⟩
theorem RV_row {h h' : xH} {k : Int} (e77 : h'.i 77 k = h.i 77 k) (e81 : h'.i 81 k = h.i 81 k) (e82 : ∀ j, 0 ≤ j → j < 40 → h'.i 82 (40 * k + j) = h.i 82 (40 * k + j)) (e83 : ∀ j, 0 ≤ j → j < 40 → h'.i 83 (40 * k + j) = h.i 83 (40 * k + j)) (e84 : ∀ j, 0 ≤ j → j < 40 → h'.i 84 (40 * k + j) = h.i 84 (40 * k + j)) (e85 : ∀ j, 0 ≤ j → j < 40 → h'.i 85 (40 * k + j) = h.i 85 (40 * k + j)) (e87 : ∀ j, 0 ≤ j → j < 40 → h'.i 87 (40 * k + j) = h.i 87 (40 * k + j)) (e88 : ∀ j, 0 ≤ j → j < 40 → h'.i 88 (40 * k + j) = h.i 88 (40 * k + j)) (e86 : ∀ j, 0 ≤ j → j < 640 → h'.i 86 (640 * k + j) = h.i 86 (640 * k + j)) (e79 : ∀ j, 0 ≤ j → j < 12 → h'.i 79 (12 * k + j) = h.i 79 (12 * k + j)) (e80 : ∀ j, 0 ≤ j → j < 12 → h'.i 80 (12 * k + j) = h.i 80 (12 * k + j)) (e78 : ∀ j, 0 ≤ j → j < 192 → h'.i 78 (192 * k + j) = h.i 78 (192 * k + j)) : RV h' k = RV h k := by
  have c : ∀ (n : Int) (f g : Int → Int), (∀ j, 0 ≤ j → j < n → f j = g j) → ∀ j, cl n f j = cl n g j := by
    intro n f g e j
    unfold cl
    by_cases q : 0 ≤ j ∧ j < n
    · rw [if_pos q, if_pos q, e j q.1 q.2]
    · rw [if_neg q, if_neg q]
  funext f j
  match f with
  | 0 => exact e81
  | 1 => exact e77
  | 2 => exact c 40 _ _ e82 j
  | 3 => exact c 40 _ _ e83 j
  | 4 => exact c 40 _ _ e84 j
  | 5 => exact c 40 _ _ e85 j
  | 6 => exact c 40 _ _ e87 j
  | 7 => exact c 40 _ _ e88 j
  | 8 => exact c 640 _ _ e86 j
  | 9 => exact c 12 _ _ e79 j
  | 10 => exact c 12 _ _ e80 j
  | _ + 11 => exact c 192 _ _ e78 j
/-- h' is h with syllable r as number n of line l -/
def SylW (h h' : xH) (l n : Int) (r : FS) : Prop := (∀ k, h'.i 81 k = if k = l then n + 1 else h.i 81 k) ∧ (∀ k, h'.i 82 k = if k = 40 * l + n then r.w else h.i 82 k) ∧ (∀ k, h'.i 83 k = if k = 40 * l + n then r.f else h.i 83 k) ∧ (∀ k, h'.i 84 k = if k = 40 * l + n then r.n else h.i 84 k) ∧ (∀ k, h'.i 85 k = if k = 40 * l + n then r.m else h.i 85 k) ∧ (∀ k, h'.i 87 k = if k = 40 * l + n then ((r.s.length : Nat) : Int) else h.i 87 k) ∧ (∀ k, h'.i 88 k = if k = 40 * l + n then vbits r.s else h.i 88 k) ∧ (∀ k : Nat, k < r.s.length → h'.i 86 (16 * (40 * l + n) + k) = (r.s.getD k (0, 0)).1) ∧ (∀ k, (k < 16 * (40 * l + n) ∨ 16 * (40 * l + n) + 16 ≤ k) → h'.i 86 k = h.i 86 k)
theorem SylW_RV {h h' : xH} {l n k : Int} {r : FS} (W : SylW h h' l n r) (e77 : h'.i 77 = h.i 77) (e78 : h'.i 78 = h.i 78) (e79 : h'.i 79 = h.i 79) (e80 : h'.i 80 = h.i 80) (n0 : 0 ≤ n) (n1 : n < 40) (hk : k ≠ l) : RV h' k = RV h k := by
  obtain ⟨w1, w2, w3, w4, w5, w6, w7, w8, w9⟩ := W
  refine RV_row (by rw [e77]) (by rw [w1, if_neg hk]) (fun j j0 j1 => by rw [w2, if_neg (by omega)]) (fun j j0 j1 => by rw [w3, if_neg (by omega)]) (fun j j0 j1 => by rw [w4, if_neg (by omega)]) (fun j j0 j1 => by rw [w5, if_neg (by omega)]) (fun j j0 j1 => by rw [w6, if_neg (by omega)]) (fun j j0 j1 => by rw [w7, if_neg (by omega)]) (fun j j0 j1 => w9 _ (by omega)) (fun j _ _ => by rw [e79]) (fun j _ _ => by rw [e80]) (fun j _ _ => by rw [e78])
theorem SylW_RS {h h' : xH} {l : Int} {L : List FS} {r : FS} (W : SylW h h' l ((L.length : Nat) : Int) r) (hL : L.length < 40) (rl : r.s.length ≤ 16) (lr : ∀ q ∈ L, q.s.length ≤ 16) (R : RS (RV h l) L) : RS (RV h' l) (L ++ [r]) := by
  obtain ⟨w1, w2, w3, w4, w5, w6, w7, w8, w9⟩ := W
  refine ⟨?_, fun i hi => ?_⟩
  · show h'.i 81 l = _
    rw [w1, if_pos rfl, List.length_append]
    rfl
  · rw [List.length_append, List.length_singleton] at hi
    have q := rv2 (h := h') (l := l) (i := i) (by omega) (by omega)
    rw [q.1, q.2.1, q.2.2.1, q.2.2.2.1, q.2.2.2.2.1, q.2.2.2.2.2, w2, w3, w4, w5, w6, w7]
    by_cases c : i < L.length
    · have z := R.2 i c
      have q0 := rv2 (h := h) (l := l) (i := i) (by omega) (by omega)
      rw [q0.1, q0.2.1, q0.2.2.1, q0.2.2.2.1, q0.2.2.2.2.1, q0.2.2.2.2.2] at z
      have ne : ¬ (40 * l + (i : Int) = 40 * l + ((L.length : Nat) : Int)) := by omega
      rw [getD_app_l fs0 c]
      simp only [if_neg ne]
      have sl := lr _ (getD_mem fs0 c)
      refine ⟨z.1, z.2.1, z.2.2.1, z.2.2.2.1, z.2.2.2.2.1, z.2.2.2.2.2.1, fun k hk => ?_⟩
      have y := z.2.2.2.2.2.2 k hk
      rw [rv8 (by omega) (by omega)] at y ⊢
      rw [w9 _ (by omega)]
      exact y
    · have e : i = L.length := by omega
      subst e
      rw [getD_app_r fs0 (Nat.le_refl _), Nat.sub_self]
      simp only [if_pos]
      refine ⟨rfl, rfl, rfl, rfl, rfl, rfl, fun k hk => ?_⟩
      have hk : k < r.s.length := hk
      rw [rv8 (by omega) (by omega)]
      have y := w8 k hk
      rw [show 640 * l + (16 * ((L.length : Nat) : Int) + (k : Int)) = 16 * (40 * l + ((L.length : Nat) : Int)) + k by omega]
      exact y
theorem c_copySyl_59 {d : Nat} {Q : xH → Prop} {l src y cnt : Int} (l0 : 0 ≤ l) (l1 : l < 15) (s0 : 0 ≤ src) (s1 : src < 600) (y0 : 0 ≤ y) (y1 : y < 600) (hne : src ≠ y) (c0 : cnt ≤ 16) : ∀ (n : Nat) (h : xH) (k : Int), SR h → h.i 87 src = cnt → 0 ≤ k → k + n = cnt → 0 ≤ h.i 81 l → h.i 81 l < 40 → (∀ h', Fr [86] [] h h' → (∀ j, k ≤ j → j < cnt → h'.i 86 (16 * y + j) = h.i 86 (16 * src + j)) → (∀ j, (j < 16 * y + k ∨ 16 * y + 16 ≤ j) → h'.i 86 j = h.i 86 j) → Q (h'.wi 81 l (h.i 81 l + 1))) → xT d M_R_copySyllable 59 [(1, 59), (0, l), (0, src), (0, y), (0, k)] [] h (xqv Q) := by
  intro n
  induction n with
  | zero =>
    intro h k S hc k0 kn m0 m1 H
    have z := H h (Fr_refl _ _ _) (fun j j0 j1 => by omega) (fun _ _ => rfl)
    apply L_R_copySyllable_59
    rw [← xw_id (a := h.i 81 l + 1) (by omega) (by omega)] at z
    simp only [srt S, srl S, srf S, hc, true_and, and_true, false_and, and_false, forall_eq, forall_eq', xi_wi, xr_wi, xt_wi, xl_wi, xn_wi, xs_wi, xi_wr, xr_wr, xt_wr, xl_wr, xn_wr, xs_wr, if_true, if_false, and_self, Int.reduceEq, Int.reduceLT, Int.reduceLE, Int.reduceNeg, Int.le_refl, Int.reduceMod]
    refine ⟨⟨s0, s1⟩, ?_⟩
    rw [if_neg (by omega)]
    exact ⟨⟨l0, l1⟩, ⟨l0, l1⟩, z⟩
  | succ n ih =>
    intro h k S hc k0 kn m0 m1 H
    apply L_R_copySyllable_59
    rw [xw_id (a := 16 * src) (by omega) (by omega), xw_id (a := 16 * y) (by omega) (by omega), xw_id (a := 16 * src + k) (by omega) (by omega), xw_id (a := 16 * y + k) (by omega) (by omega), xw_id (a := k + 1) (by omega) (by omega)]
    simp only [srt S, srl S, srf S, hc, true_and, and_true, false_and, and_false, forall_eq, forall_eq', xi_wi, xr_wi, xt_wi, xl_wi, xn_wi, xs_wi, xi_wr, xr_wr, xt_wr, xl_wr, xn_wr, xs_wr, if_true, if_false, and_self, Int.reduceEq, Int.reduceLT, Int.reduceLE, Int.reduceNeg, Int.le_refl, Int.reduceMod]
    refine ⟨⟨s0, s1⟩, ?_⟩
    rw [if_pos (by omega)]
    refine ⟨⟨by omega, by omega⟩, ⟨by omega, by omega⟩, ?_⟩
    refine ih _ (k + 1) (SR_2 (h := h) rfl S) (by simp only [true_and, and_true, false_and, and_false, forall_eq, forall_eq', xi_wi, xr_wi, xt_wi, xl_wi, xn_wi, xs_wi, xi_wr, xr_wr, xt_wr, xl_wr, xn_wr, xs_wr, if_true, if_false, and_self, Int.reduceEq, Int.reduceLT, Int.reduceLE, Int.reduceNeg, Int.le_refl, Int.reduceMod]; exact hc) (by omega) (by omega) (by simp only [true_and, and_true, false_and, and_false, forall_eq, forall_eq', xi_wi, xr_wi, xt_wi, xl_wi, xn_wi, xs_wi, xi_wr, xr_wr, xt_wr, xl_wr, xn_wr, xs_wr, if_true, if_false, and_self, Int.reduceEq, Int.reduceLT, Int.reduceLE, Int.reduceNeg, Int.le_refl, Int.reduceMod]; exact m0) (by simp only [true_and, and_true, false_and, and_false, forall_eq, forall_eq', xi_wi, xr_wi, xt_wi, xl_wi, xn_wi, xs_wi, xi_wr, xr_wr, xt_wr, xl_wr, xn_wr, xs_wr, if_true, if_false, and_self, Int.reduceEq, Int.reduceLT, Int.reduceLE, Int.reduceNeg, Int.le_refl, Int.reduceMod]; exact m1) ?_
    intro h' F q1 q2
    have F0 : Fr [86] [] h (h.wi 86 (16 * y + k) (h.i 86 (16 * src + k))) := Fr_cell (Fr_refl _ _ _) _ _ (by decide)
    have z := H h' (Fr_trans F0 F) (fun j j0 j1 => ?_) (fun j hj => ?_)
    · rw [show (h.wi 86 (16 * y + k) (h.i 86 (16 * src + k))).i 81 l = h.i 81 l from by simp only [true_and, and_true, false_and, and_false, forall_eq, forall_eq', xi_wi, xr_wi, xt_wi, xl_wi, xn_wi, xs_wi, xi_wr, xr_wr, xt_wr, xl_wr, xn_wr, xs_wr, if_true, if_false, and_self, Int.reduceEq, Int.reduceLT, Int.reduceLE, Int.reduceNeg, Int.le_refl, Int.reduceMod]]
      exact z
    · by_cases c : j = k
      · rw [q2 (16 * y + j) (by omega), c]
        simp only [true_and, and_true, false_and, and_false, forall_eq, forall_eq', xi_wi, xr_wi, xt_wi, xl_wi, xn_wi, xs_wi, xi_wr, xr_wr, xt_wr, xl_wr, xn_wr, xs_wr, if_true, if_false, and_self, Int.reduceEq, Int.reduceLT, Int.reduceLE, Int.reduceNeg, Int.le_refl, Int.reduceMod]
      · rw [q1 j (by omega) j1]
        simp only [true_and, and_true, false_and, and_false, forall_eq, forall_eq', xi_wi, xr_wi, xt_wi, xl_wi, xn_wi, xs_wi, xi_wr, xr_wr, xt_wr, xl_wr, xn_wr, xs_wr, if_true, if_false, and_self, Int.reduceEq, Int.reduceLT, Int.reduceLE, Int.reduceNeg, Int.le_refl, Int.reduceMod]
        rw [if_neg (by omega)]
    · rw [q2 j (by omega)]
      simp only [true_and, and_true, false_and, and_false, forall_eq, forall_eq', xi_wi, xr_wi, xt_wi, xl_wi, xn_wi, xs_wi, xi_wr, xr_wr, xt_wr, xl_wr, xn_wr, xs_wr, if_true, if_false, and_self, Int.reduceEq, Int.reduceLT, Int.reduceLE, Int.reduceNeg, Int.le_refl, Int.reduceMod]
      rw [if_neg (by omega)]
