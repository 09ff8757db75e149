/-! line: the class' line is made; the reference's call -/
def WdV (h : xH) (d : Wd) : Prop := (∀ c ∈ d.1, 97 ≤ c ∧ c ≤ 122) ∧ PtOk d.1 0 (wordP h d.1) ∧ d = wordV h d.1
theorem lnF_wv {h0 : xH} (hV : bits26 (h0.i 5)) (iB : I_book h0) : ∀ (r : List Int) (i : Int) (ws : List Wd) (cur : List Int), (∀ d ∈ ws, WdV h0 d) → LnOk ws → (∀ c ∈ cur, 97 ≤ c ∧ c ≤ 122) → (lnF h0 r i ws cur).1.1 = 0 → ∀ d ∈ (lnF h0 r i ws cur).2, WdV h0 d := by
  have more : ∀ (ws : List Wd) (cur : List Int), (∀ d ∈ ws, WdV h0 d) → LnOk ws → (∀ c ∈ cur, 97 ≤ c ∧ c ≤ 122) → ¬ cur.length = 0 → wfl h0 ws cur = 0 → (∀ d ∈ ws ++ [wordV h0 cur], WdV h0 d) ∧ LnOk (ws ++ [wordV h0 cur]) := fun ws cur wv ok lc c0 f0 => by
    have z := LnOk_more iB hV lc (by omega) ok f0
    refine ⟨fun d m => ?_, z.1⟩
    rw [List.mem_append, List.mem_singleton] at m
    rcases m with m | m
    · exact wv d m
    · rw [m]; exact ⟨lc, z.2.2.2.2.1, rfl⟩
  intro r
  induction r with
  | nil =>
    intro i ws cur wv ok lc e
    rw [lnF] at e ⊢
    by_cases c0 : cur.length = 0
    · rw [if_pos c0] at e ⊢
      by_cases c1 : ws.length = 0
      · rw [if_pos c1]; exact wv
      · rw [if_neg c1]; exact wv
    · rw [if_neg c0] at e ⊢
      by_cases f0 : wfl h0 ws cur = 0
      · rw [if_pos f0]; exact (more ws cur wv ok lc c0 f0).1
      · rw [if_neg f0]; exact wv
  | cons c r ih =>
    intro i ws cur wv ok lc e
    rw [lnF] at e ⊢
    by_cases c1 : 97 ≤ c ∧ c ≤ 122
    · rw [if_pos c1] at e ⊢
      refine ih _ _ _ wv ok (fun x m => ?_) e
      rw [List.mem_append, List.mem_singleton] at m
      rcases m with m | m
      · exact lc x m
      · rw [m]; exact c1
    · rw [if_neg c1] at e ⊢
      by_cases c0 : cur.length = 0
      · rw [if_pos c0] at e ⊢
        by_cases c2 : c = 32
        · rw [if_pos c2] at e ⊢
          exact ih _ _ _ wv ok (fun x m => absurd m List.not_mem_nil) e
        · rw [if_neg c2]; exact wv
      · rw [if_neg c0] at e ⊢
        by_cases f0 : wfl h0 ws cur = 0
        · rw [if_pos f0] at e ⊢
          have z := more ws cur wv ok lc c0 f0
          by_cases c2 : c = 32
          · rw [if_pos c2] at e ⊢
            exact ih _ _ _ z.1 z.2 (fun x m => absurd m List.not_mem_nil) e
          · rw [if_neg c2]; exact z.1
        · rw [if_neg f0]; exact wv
theorem psm_cc (x : FS) (L : List FS) (j : Nat) : psm (x :: L) (j + 1) = x.n + psm L j := by
  unfold psm
  rw [List.take_succ_cons, List.map_cons, List.sum_cons]
theorem mkSy_sg {P V : Int → Int} {D : List Int} {w b : Int} : ∀ (L : List (Int × Int)) (f : Int) (i : Nat), i < L.length → ((fsyl w b f (mkSy P V D f L)).getD i fs0).s = sgs P V (gD D) (f + psm (fsyl w b f (mkSy P V D f L)) i) (f + psm (fsyl w b f (mkSy P V D f L)) (i + 1)) := by
  intro L
  induction L with
  | nil => intro f i h; exact absurd h (Nat.not_lt_zero _)
  | cons p r ih =>
    intro f i hi
    rw [mkSy, fsyl]
    cases i with
    | zero =>
      rw [psm_cc, psm_0, psm_0, Int.add_zero, Int.add_zero]
      rfl
    | succ i =>
      rw [List.getD_cons_succ, psm_cc, psm_cc, ← Int.add_assoc, ← Int.add_assoc]
      exact ih (f + p.1) i (by rw [List.length_cons] at hi; omega)
theorem sgs_cg {P V g g' : Int → Int} {a a' e e' : Int} (ae : a ≤ e) (he : e' - a' = e - a) (H : ∀ k, 0 ≤ k → k < e - a → g (a + k) = g' (a' + k)) : sgs P V g a e = sgs P V g' a' e' := by
  have := sgs_eq (P := P) (V := V) (g := g) (g' := g') (a := a) (a' := a') (m := e - a) (by omega) H
  rw [show a + (e - a) = e by omega, show a' + (e - a) = e' by omega] at this
  exact this
theorem flatF_n1 {ws : List Wd} {w : Int} (ok : ∀ d ∈ ws, WdOk d) : ∀ q ∈ flatF w ws, 1 ≤ q.n := fun q m => by
  obtain ⟨i, hi, e⟩ := List.getElem_of_mem m
  obtain ⟨j, _, _, _, _, _, s, _⟩ := flatF_get ws w i ok hi
  have : (flatF w ws).getD i fs0 = q := by rw [List.getD_eq_getElem?_getD, List.getElem?_eq_getElem hi, e]; rfl
  rw [this] at s
  exact s.1
theorem flatF_sg {P V : Int → Int} : ∀ (ws : List Wd) (w : Int), (∀ d ∈ ws, WdOk d) → (∀ d ∈ ws, ∃ L, d.2.2 = mkSy P V d.1 0 L) → SgF P V (gD (txt ws)) (flatF w ws) := by
  intro ws
  induction ws with
  | nil => intro w _ _ i hi; exact absurd hi (Nat.not_lt_zero _)
  | cons d r ih =>
    intro w ok H
    obtain ⟨L, eL⟩ := H d List.mem_cons_self
    have okd := ok d List.mem_cons_self
    have okr : ∀ x ∈ r, WdOk x := fun x m => ok x (List.mem_cons_of_mem _ m)
    have nB := flatF_n1 (w := w + 1) okr
    have nA : ∀ q ∈ fsyl w d.2.1 0 d.2.2, 1 ≤ q.n := fun q m => by
      have := flatF_n1 (ws := [d]) (w := w) (fun x mx => by rw [List.mem_singleton] at mx; rw [mx]; exact okd)
      rw [flatF, flatF, List.append_nil] at this
      exact this q m
    have et : txt (d :: r) = d.1 ++ txt r := by unfold txt; rw [List.map_cons, List.flatten_cons]
    have tA : psm (fsyl w d.2.1 0 d.2.2) (fsyl w d.2.1 0 d.2.2).length = ((d.1.length : Nat) : Int) := by
      unfold psm
      rw [List.take_length, fsyl_n]
      exact okd.2.2.2.2.2.2
    intro i hi
    rw [flatF] at hi ⊢
    rw [et]
    by_cases c : i < (fsyl w d.2.1 0 d.2.2).length
    · rw [getD_app_l fs0 c, psm_app_l (by omega), psm_app_l (by omega)]
      have z := mkSy_sg (P := P) (V := V) (D := d.1) (w := w) (b := d.2.1) L 0 i (by rw [fsyl_len, eL, mkSy_len] at c; exact c)
      rw [← eL, Int.zero_add, Int.zero_add] at z
      have m0 := psm_mono nA (Nat.zero_le i) (by omega)
      have m1 := psm_mono nA (show i ≤ i + 1 by omega) (by omega)
      have m2 := psm_mono nA (show i + 1 ≤ _ by omega) (Nat.le_refl _)
      rw [psm_0] at m0
      push_cast at m0 m1 m2
      rw [z]
      refine sgs_cg (by omega) rfl (fun k k0 k1 => ?_)
      unfold gD
      rw [getD_app_l 0 (by omega)]
    · have c : (fsyl w d.2.1 0 d.2.2).length ≤ i := by omega
      rw [List.length_append] at hi
      rw [getD_app_r fs0 c, psm_app_r c, psm_app_r (by omega), fsyl_n, okd.2.2.2.2.2.2, show i + 1 - (fsyl w d.2.1 0 d.2.2).length = i - (fsyl w d.2.1 0 d.2.2).length + 1 by omega]
      have z := ih (w + 1) okr (fun x m => H x (List.mem_cons_of_mem _ m)) (i - (fsyl w d.2.1 0 d.2.2).length) (by omega)
      have m0 := psm_mono nB (Nat.zero_le (i - (fsyl w d.2.1 0 d.2.2).length)) (by omega)
      have m1 := psm_mono nB (show i - (fsyl w d.2.1 0 d.2.2).length ≤ i - (fsyl w d.2.1 0 d.2.2).length + 1 by omega) (by omega)
      rw [psm_0] at m0
      push_cast at m0 m1
      rw [z]
      refine sgs_cg (by omega) (by omega) (fun k k0 k1 => ?_)
      unfold gD
      rw [getD_app_r 0 (by omega)]
      congr 1
      omega
theorem txt_lc {ws : List Wd} (ok : ∀ d ∈ ws, WdOk d) : ∀ c ∈ txt ws, 97 ≤ c ∧ c ≤ 122 := fun c m => by
  unfold txt at m
  rw [List.mem_flatten] at m
  obtain ⟨D, mD, mc⟩ := m
  rw [List.mem_map] at mD
  obtain ⟨d, md, e⟩ := mD
  rw [← e] at mc
  exact (ok d md).2.2.1 c mc
/-- a line is made at the heap's end -/
def LNew (h h' : xH) (ws : List Wd) : Prop := (∀ c, c < h.nx → h'.tag c = h.tag c ∧ h'.len c = h.len c) ∧ (∀ c, c < h.nx → h'.i c = h.i c ∧ h'.r c = h.r c) ∧ (∀ c, h.nx + 8 ≤ c → h'.i c = h.i c ∧ h'.r c = h.r c) ∧ h'.nx = h.nx + 8 ∧ h'.us ≤ h.us + 1000 ∧ h'.tag h.nx = 9 ∧ SylB h' h.nx ∧ SylE h' h.nx ∧ XLn (XV h' h.nx) ws ∧ ELn (XV h' h.nx) ws
/-- the copy of the draft, at the heap's end -/
def LMid (h h2 : xH) (ws : List Wd) : Prop := (∀ c, c < h.nx → h2.tag c = h.tag c ∧ h2.len c = h.len c) ∧ (∀ c, c < h.nx → h2.r c = h.r c ∧ h2.i c = h.i c) ∧ (∀ c, h.nx + 6 ≤ c → h2.i c = h.i c ∧ h2.r c = h.r c) ∧ h2.nx = h.nx + 6 ∧ h2.us ≤ h.us + 600 ∧ h2.tag h.nx = 9 ∧ (h2.tag (h.nx + 1) = 20 ∧ h2.tag (h.nx + 2) = 20 ∧ h2.tag (h.nx + 3) = 20 ∧ h2.tag (h.nx + 4) = 20 ∧ h2.tag (h.nx + 5) = 20) ∧ (h2.len (h.nx + 1) = (((txt ws).length : Nat) : Int) ∧ h2.len (h.nx + 2) = (((flat ws).length : Nat) : Int) + 1 ∧ h2.len (h.nx + 3) = (((flat ws).length : Nat) : Int) ∧ h2.len (h.nx + 4) = (((flat ws).length : Nat) : Int) ∧ h2.len (h.nx + 5) = (((flat ws).length : Nat) : Int)) ∧ (h2.r h.nx 0 = h.nx + 1 ∧ h2.r h.nx 1 = h.nx + 2 ∧ h2.r h.nx 2 = h.nx + 3 ∧ h2.r h.nx 3 = h.nx + 4 ∧ h2.r h.nx 4 = h.nx + 5) ∧ h2.i h.nx 6 = (((flat ws).length : Nat) : Int) ∧ (∀ k : Nat, k < (txt ws).length → h2.i (h.nx + 1) k = (txt ws).getD k 0) ∧ (∀ i : Nat, i ≤ (flat ws).length → h2.i (h.nx + 2) i = psm (flat ws) i) ∧ ∀ i : Nat, i < (flat ws).length → h2.i (h.nx + 3) i = ((flat ws).getD i fs0).w ∧ h2.i (h.nx + 4) i = ((flat ws).getD i fs0).m ∧ h2.i (h.nx + 5) i = opn ((flat ws).getD i fs0).s + 2 * cls ((flat ws).getD i fs0).s + 4 * ((flat ws).getD i fs0).b
theorem LMid_of {h h1 h2 : xH} {ws : List Wd} (n0 : 130 ≤ h.nx) (tl : (txt ws).length ≤ 192) (fl : (flat ws).length ≤ 40) (T1 : ∀ c, c < h.nx → h1.tag c = h.tag c ∧ h1.len c = h.len c) (tp1 : h1.tag h.nx = 9) (r1 : h1.r = h.r) (i1 : h1.i = h.i) (nx1 : h1.nx = h.nx + 1) (us1 : h1.us = h.us + 7) (gd : h.r 16 0 = 17 ∧ h.r 16 1 = 18 ∧ h.r 16 2 = 19 ∧ h.r 16 3 = 20 ∧ h.r 16 4 = 21) (d3 : ∀ i : Nat, i ≤ (flat ws).length → h.i 18 i = psm (flat ws) i) (d4 : ∀ k : Nat, k < (txt ws).length → h.i 17 k = (txt ws).getD k 0) (d2 : ∀ i : Nat, i < (flat ws).length → h.i 19 i = ((flat ws).getD i fs0).w ∧ h.i 20 i = ((flat ws).getD i fs0).m ∧ h.i 21 i = opn ((flat ws).getD i fs0).s + 2 * cls ((flat ws).getD i fs0).s + 4 * ((flat ws).getD i fs0).b) (K : IniO h1 h2 h.nx 16 (((flat ws).length : Nat) : Int) (((txt ws).length : Nat) : Int)) : LMid h h2 ws := by
  have a1 : h.nx + 1 + 1 = h.nx + 2 := by omega
  have a2 : h.nx + 1 + 2 = h.nx + 3 := by omega
  have a3 : h.nx + 1 + 3 = h.nx + 4 := by omega
  have a4 : h.nx + 1 + 4 = h.nx + 5 := by omega
  have a5 : h.nx + 1 + 5 = h.nx + 6 := by omega
  have lo : ∀ c, c < h.nx → c < h.nx + 1 ∧ c ≠ h.nx := fun c hc => by omega
  have ln : h.nx < h.nx + 1 := by omega
  have ni : ∀ k : Nat, (0 : Int) ≤ (k : Int) := fun k => by omega
  have nk : ∀ k : Nat, k < (txt ws).length → (k : Int) < (((txt ws).length : Nat) : Int) := fun k hk => by omega
  have nf : ∀ k : Nat, k < (flat ws).length → (k : Int) < (((flat ws).length : Nat) : Int) := fun k hk => by omega
  have nf1 : ∀ k : Nat, k ≤ (flat ws).length → (k : Int) < (((flat ws).length : Nat) : Int) + 1 := fun k hk => by omega
  have us : h.us + 7 + (((txt ws).length : Nat) : Int) + ((((flat ws).length : Nat) : Int) + 1) + (((flat ws).length : Nat) : Int) + (((flat ws).length : Nat) : Int) + (((flat ws).length : Nat) : Int) ≤ h.us + 600 := by omega
  obtain ⟨gd0, gd1, gd2, gd3, gd4⟩ := gd
  obtain ⟨K1, K2, K3, K4, K5, K6, K7, K8, K9, K10, K11, K12, K13, K14⟩ := K
  rw [nx1] at K1 K2 K3 K4 K5 K7 K9 K10 K11 K12 K13 K14
  rw [a1, a2, a3, a4] at K2 K3 K4
  rw [a1] at K10
  rw [a2] at K11
  rw [a3] at K12
  rw [a4] at K13
  rw [a5] at K7 K14
  rw [r1, gd0, i1] at K9
  rw [r1, gd1, i1] at K10
  rw [r1, gd2, i1] at K11
  rw [r1, gd3, i1] at K12
  rw [r1, gd4, i1] at K13
  rw [us1] at K8
  rw [r1, i1] at K14
  rw [r1, i1] at K5
  exact ⟨fun c hc => ⟨(K1 c (lo c hc).1).1.trans (T1 c hc).1, (K1 c (lo c hc).1).2.trans (T1 c hc).2⟩, fun c hc => K5 c (lo c hc).1 (lo c hc).2, K14, K7, by rw [K8]; exact us, by rw [(K1 h.nx ln).1]; exact tp1, K2, K3, ⟨K4.1, K4.2.1, K4.2.2.1, K4.2.2.2.1, K4.2.2.2.2.1⟩, K6, fun k hk => (K9 k (ni k) (nk k hk)).trans (d4 k hk), fun i hi => (K10 i (ni i) (nf1 i hi)).trans (d3 i hi), fun i hi => ⟨(K11 i (ni i) (nf i hi)).trans (d2 i hi).1, (K12 i (ni i) (nf i hi)).trans (d2 i hi).2.1, (K13 i (ni i) (nf i hi)).trans (d2 i hi).2.2⟩⟩
theorem EO_mid {h h2 : xH} {ws : List Wd} (SX_ : SX h) (n0 : 130 ≤ h.nx) (ok : LnOk ws) (w1 : 1 ≤ ws.length) (hV : bits26 (h.i 5)) (sg : SgF (h.i 6) (h.i 5) (gD (txt ws)) (flat ws)) (M : LMid h h2 ws) : EO h2 h.nx (flat ws) := by
  have tl := txt_le ws ok.2.2
  have o1 := ok.1
  have o2 := ok.2.1
  have tlc := txt_lc ok.2.2
  have n1 : ∀ q ∈ flat ws, 1 ≤ q.n := flatF_n1 ok.2.2
  have f1 : 1 ≤ (flat ws).length := (flatF_last ws 0 ok.2.2 w1).1
  have d5 : psm (flat ws) (flat ws).length = (((txt ws).length : Nat) : Int) := psm_all ws 0 ok.2.2
  obtain ⟨m1, m2, m3, m4, m5, m6, m7, m8, m9, m10, m11, m12, m13⟩ := M
  have x5 := (m2 5 (by omega)).2
  have x6 := (m2 6 (by omega)).2
  refine ⟨SX_rel (fun c hc => m1 c (by omega)) (fun c k hc => by rw [(m2 c (by omega)).1]) SX_, n0, by omega, m6, ⟨m9.1, m9.2.1, m9.2.2.2.1⟩, ⟨m7.1, m7.2.1, m7.2.2.2.1⟩, ⟨by rw [d5]; exact m8.1, m8.2.1, m8.2.2.2.1⟩, m10, m12, fun i hi => (m13 i hi).2.1, fun k k0 k1 => ?_, n1, o2, by omega, f1, by rw [x5]; exact hV, fun i hi => ?_⟩
  · rw [d5] at k1
    obtain ⟨j, rfl⟩ : ∃ j : Nat, k = (j : Int) := ⟨k.toNat, by omega⟩
    rw [m11 j (by omega)]
    exact tlc _ (getD_mem 0 (by omega))
  · rw [sg i hi, x5, x6]
    have p0 := psm_mono n1 (Nat.zero_le i) (by omega)
    have p1 := psm_mono n1 (show i ≤ i + 1 by omega) (by omega)
    have p2 := psm_mono n1 (show i + 1 ≤ _ by omega) (Nat.le_refl _)
    rw [psm_0] at p0
    push_cast at p0 p1 p2
    refine sgs_cg (by omega) rfl (fun k k0 k1 => ?_)
    obtain ⟨j, hj⟩ : ∃ j : Nat, psm (flat ws) i + k = (j : Int) := ⟨(psm (flat ws) i + k).toNat, by omega⟩
    rw [hj, m11 j (by omega), gD_i _ rfl]
theorem LNew_of {h h2 h3 : xH} {ws : List Wd} {C : Int} (n0 : 130 ≤ h.nx) (ok : LnOk ws) (t1 : h.r 28 6 < h.nx) (t2 : h.r 40 3 < h.nx) (M : LMid h h2 ws) (hC : C ≤ psm (flat ws) (flat ws).length) (N : EndO h2 h3 h.nx C (endL (flat ws))) : LNew h h3 ws := by
  have d5 : psm (flat ws) (flat ws).length = (((txt ws).length : Nat) : Int) := psm_all ws 0 ok.2.2
  have lo : ∀ c, c < h.nx → c < h.nx + 6 ∧ c ≠ h.nx := fun c hc => by omega
  have hi : ∀ c, h.nx + 8 ≤ c → (c < h.nx + 6 ∨ h.nx + 8 ≤ c) ∧ c ≠ h.nx ∧ h.nx + 6 ≤ c := fun c hc => by omega
  have b0 : h.nx < h.nx + 6 := by omega
  have b1 : h.nx + 1 < h.nx + 6 := by omega
  have b2 : h.nx + 2 < h.nx + 6 := by omega
  have b3 : h.nx + 3 < h.nx + 6 := by omega
  have b4 : h.nx + 4 < h.nx + 6 := by omega
  have b5 : h.nx + 5 < h.nx + 6 := by omega
  have b58 : h.nx + 5 < h.nx + 8 := by omega
  have b78 : h.nx + 7 < h.nx + 8 := by omega
  have s28 : (28 : Int) < h.nx := by omega
  have s40 : (40 : Int) < h.nx := by omega
  have g28 : (28 : Int) ≠ h.nx := by omega
  have g40 : (40 : Int) ≠ h.nx := by omega
  have us : h2.us ≤ h.us + 600 → C ≤ 192 → (((endL (flat ws)).length : Nat) : Int) ≤ C → h2.us + C + (((endL (flat ws)).length : Nat) : Int) ≤ h.us + 1000 := fun a b c => by omega
  have c192 : C ≤ 192 := by
    have tl := txt_le ws ok.2.2
    have o1 := ok.1
    omega
  have q1 : h.nx + 6 + 1 = h.nx + 7 := by omega
  have q2 : h.nx + 6 + 2 = h.nx + 8 := by omega
  obtain ⟨m1, m2, m3, m4, m5, m6, m7, m8, m9, m10, m11, m12, m13⟩ := M
  obtain ⟨N1, N2, N3, N4, N5, N6, N7, N8, N9, N10, N11⟩ := N
  rw [m4] at N1 N2 N3 N4 N7 N8 N11
  rw [q1] at N2 N3 N7 N11
  rw [q2] at N4 N8
  have r0 : h3.r h.nx 0 = h.nx + 1 := by rw [N6 0 (by decide)]; exact m9.1
  have r1 : h3.r h.nx 1 = h.nx + 2 := by rw [N6 1 (by decide)]; exact m9.2.1
  have r2 : h3.r h.nx 2 = h.nx + 3 := by rw [N6 2 (by decide)]; exact m9.2.2.1
  have r3 : h3.r h.nx 3 = h.nx + 4 := by rw [N6 3 (by decide)]; exact m9.2.2.2.1
  have r4 : h3.r h.nx 4 = h.nx + 5 := by rw [N6 4 (by decide)]; exact m9.2.2.2.2
  have i0 : h3.i h.nx 6 = (((flat ws).length : Nat) : Int) := by rw [N4 h.nx (Or.inl b0)]; exact m10
  have c1 := N4 (h.nx + 1) (Or.inl b1)
  have c2 := N4 (h.nx + 2) (Or.inl b2)
  have c3 := N4 (h.nx + 3) (Or.inl b3)
  have c4 := N4 (h.nx + 4) (Or.inl b4)
  have c5 := N4 (h.nx + 5) (Or.inl b5)
  have e0 := N1 h.nx b0
  have e1 := N1 (h.nx + 1) b1
  have e2 := N1 (h.nx + 2) b2
  have e3 := N1 (h.nx + 3) b3
  have e4 := N1 (h.nx + 4) b4
  have e5 := N1 (h.nx + 5) b5
  have lc : h3.i (h.nx + 2) (((flat ws).length : Nat) : Int) = (((txt ws).length : Nat) : Int) := by rw [c2, m12 _ (Nat.le_refl _)]; exact d5
  have w28 : h3.r 28 6 = h.r 28 6 := by rw [N5 28 g28, (m2 28 s28).1]
  have w40 : h3.r 40 3 = h.r 40 3 := by rw [N5 40 g40, (m2 40 s40).1]
  refine ⟨fun c hc => ?_, fun c hc => ⟨?_, ?_⟩, fun c hc => ⟨?_, ?_⟩, N8, ?_, by rw [e0.1]; exact m6, ?_, ?_, ?_, ?_⟩
  · rw [(N1 c (lo c hc).1).1, (N1 c (lo c hc).1).2]; exact m1 c hc
  · rw [N4 c (Or.inl (lo c hc).1)]; exact (m2 c hc).2
  · rw [N5 c (lo c hc).2]; exact (m2 c hc).1
  · rw [N4 c (hi c hc).1]; exact (m3 c (hi c hc).2.2).1
  · rw [N5 c (hi c hc).2.1]; exact (m3 c (hi c hc).2.2).2
  · rw [N9]; exact us m5 c192 N10
  · refine ⟨n0, by rw [N8]; exact b58, by rw [e0.1]; exact m6, r0, r1, r2, r3, r4, by rw [e1.1]; exact m7.1, by rw [e2.1]; exact m7.2.1, by rw [e3.1]; exact m7.2.2.1, by rw [e4.1]; exact m7.2.2.2.1, by rw [e5.1]; exact m7.2.2.2.2, ?_, ?_, ?_, ?_, ?_, ?_⟩
    · rw [i0, lc, e1.2]; exact m8.1
    · rw [i0, e2.2]; exact m8.2.1
    · rw [i0, e3.2]; exact m8.2.2.1
    · rw [i0, e4.2]; exact m8.2.2.2.1
    · rw [i0, e5.2]; exact m8.2.2.2.2
    · unfold aprt
      rw [w28, w40]
      exact ⟨Or.inl t1, Or.inl t2⟩
  · refine ⟨by rw [N8]; exact b78, N7, N2, ?_⟩
    unfold aprt
    rw [w28, w40]
    exact ⟨Or.inl t1, Or.inl t2⟩
  · refine ⟨i0, fun i hi => ?_, fun i hi => ?_, fun k hk => ?_⟩
    · show h3.i (h3.r h.nx 2) i = _ ∧ h3.i (h3.r h.nx 3) i = _ ∧ h3.i (h3.r h.nx 4) i = _
      rw [r2, r3, r4, c3, c4, c5]
      exact m13 i hi
    · show h3.i (h3.r h.nx 1) i = _
      rw [r1, c2]; exact m12 i hi
    · show h3.i (h3.r h.nx 0) k = _
      rw [r0, c1]; exact m11 k hk
  · refine ⟨?_, fun k hk => ?_⟩
    · show h3.len (h3.r h.nx 5) = _
      rw [N7]; exact N3
    · show h3.i (h3.r h.nx 5) k = _
      rw [N7]; exact N11 k hk
theorem c_X_lineRead {d : Nat} {h : xH} {Q : Int → xH → Prop} {ws : List Wd} (SX_ : SX h) (n0 : 130 ≤ h.nx) (D : Dr h (flat ws) (txt ws)) (ok : LnOk ws) (w1 : 1 ≤ ws.length) (hV : bits26 (h.i 5)) (sg : SgF (h.i 6) (h.i 5) (gD (txt ws)) (flat ws)) (t1 : h.r 28 6 < h.nx) (t2 : h.r 40 3 < h.nx) (H : ∀ h', LNew h h' ws → Q h.nx h') : xCr (d + 5) M_LineReader_lineRead [(1, 15)] h Q := by
  have g9 : h.tag 15 = 3 ∧ h.r 15 2 = 16 ∧ h.r 15 0 = 4 ∧ h.tag 4 = 2 ∧ h.tag 16 = 9 ∧ (h.r 16 0 = 17 ∧ h.r 16 1 = 18 ∧ h.r 16 2 = 19 ∧ h.r 16 3 = 20 ∧ h.r 16 4 = 21) ∧ (h.tag 17 = 20 ∧ h.tag 18 = 20 ∧ h.tag 19 = 20 ∧ h.tag 20 = 20 ∧ h.tag 21 = 20) ∧ h.len 17 = 192 ∧ h.len 18 = 41 ∧ h.len 19 = 40 ∧ h.len 20 = 40 ∧ h.len 21 = 40 := by simp only [sxt SX_, sxl SX_, sxf SX_, true_and, and_true, false_and, and_false, forall_eq, forall_eq', xi_wi, xr_wi, xt_wi, xl_wi, xn_wi, xs_wi, xi_wr, xr_wr, xt_wr, xl_wr, xn_wr, xs_wr, if_true, if_false, and_self, Int.reduceEq, Int.reduceLT, Int.reduceLE, Int.reduceNeg, Int.le_refl, Int.reduceMod]
  obtain ⟨ga, gb, gb2, gb3, gc, gd, ⟨ge0, ge1, ge2, ge3, ge4⟩, gf0, gf1, gf2, gf3, gf4⟩ := g9
  have gd' := gd
  obtain ⟨gd0, gd1, gd2, gd3, gd4⟩ := gd'
  have tl := txt_le ws ok.2.2
  have o1 := ok.1
  have o2 := ok.2.1
  obtain ⟨⟨d1, d2, d3, d4⟩, d5⟩ := D
  have d1 : h.i 16 6 = (((flat ws).length : Nat) : Int) := d1
  have d2a : ∀ i : Nat, i < (flat ws).length → h.i 19 i = ((flat ws).getD i fs0).w ∧ h.i 20 i = ((flat ws).getD i fs0).m ∧ h.i 21 i = opn ((flat ws).getD i fs0).s + 2 * cls ((flat ws).getD i fs0).s + 4 * ((flat ws).getD i fs0).b := fun i hi => by
    have := d2 i hi
    rw [show XV h 16 3 i = h.i (h.r 16 2) i from rfl, show XV h 16 4 i = h.i (h.r 16 3) i from rfl, show XV h 16 5 i = h.i (h.r 16 4) i from rfl, gd2, gd3, gd4] at this
    exact this
  have d3a : ∀ i : Nat, i ≤ (flat ws).length → h.i 18 i = psm (flat ws) i := fun i hi => by
    have := d3 i hi
    rw [show XV h 16 2 i = h.i (h.r 16 1) i from rfl, gd1] at this
    exact this
  have d4a : ∀ k : Nat, k < (txt ws).length → h.i 17 k = (txt ws).getD k 0 := fun k hk => by
    have := d4 k hk
    rw [show XV h 16 1 k = h.i (h.r 16 0) k from rfl, gd0] at this
    exact this
  clear d2 d3 d4
  apply L_LineReader_lineRead
  intro p ep h1 e1
  subst ep
  have T1 : ∀ c, c < h.nx → h1.tag c = h.tag c ∧ h1.len c = h.len c := fun c hc => by rw [e1, xt_al, xl_al, if_neg (by omega), if_neg (by omega)]; exact ⟨rfl, rfl⟩
  have tp1 : h1.tag h.nx = 9 := by rw [e1, xt_al, if_pos rfl]
  have r1 : h1.r = h.r := by rw [e1, xr_al]
  have i1 : h1.i = h.i := by rw [e1, xi_al]
  have nx1 : h1.nx = h.nx + 1 := by rw [e1, xn_al]
  have us1 : h1.us = h.us + 7 := by rw [e1, xs_al]
  clear e1
  rw [r1, gb]
  refine ⟨by rw [(T1 15 (by omega)).1]; exact ga, tp1, ?_⟩
  have Z : SrcO h1 h.nx 16 (((flat ws).length : Nat) : Int) (((txt ws).length : Nat) : Int) := by
    refine ⟨tp1, by omega, by omega, by rw [(T1 16 (by omega)).1]; exact gc, by omega, by omega, by rw [i1]; exact d1, by omega, by omega, by omega, by omega, ?_, ?_, ?_, ?_⟩
    · rw [r1, gd1, i1, d3a _ (Nat.le_refl _)]; exact d5
    · rw [r1, gd0, gd1, gd2, gd3, gd4]; omega
    · rw [r1, gd0, gd1, gd2, gd3, gd4, (T1 17 (by omega)).1, (T1 18 (by omega)).1, (T1 19 (by omega)).1, (T1 20 (by omega)).1, (T1 21 (by omega)).1]
      exact ⟨ge0, ge1, ge2, ge3, ge4⟩
    · rw [r1, gd0, gd1, gd2, gd3, gd4, (T1 17 (by omega)).2, (T1 18 (by omega)).2, (T1 19 (by omega)).2, (T1 20 (by omega)).2, (T1 21 (by omega)).2]
      omega
  refine c_X_init2 (d := d + 2) Z (fun h2 K => ?_)
  have M := LMid_of n0 (by omega) o2 T1 tp1 r1 i1 nx1 us1 gd d3a d4a d2a K
  clear K Z
  have q15 := M.2.1 15 (by omega)
  refine ⟨by rw [(M.1 15 (by omega)).1]; exact ga, M.2.2.2.2.2.1, ?_⟩
  rw [q15.1, gb2]
  exact c_X_setEnding (d := d) (EO_mid SX_ n0 ok w1 hV sg M) (fun h3 C hC N => H h3 (LNew_of n0 ok t1 t2 M hC N))
def lnLr : List Int := [65, 66, 67, 74, 75, 76, 77, 78, 79, 80, 81, 82, 83, 84, 85, 86, 87, 88]
def lnSr : List (Int × Int) := [(59, 1), (59, 10), (59, 34), (59, 35)]
set_option maxHeartbeats 1000000 in
theorem c_R_line1 {h hX : xH} {Q : Int → xH → Prop} (j : I_tape h) (hV : bits26 (h.i 5)) (iB : I_book h) (S : SR hX) (bk : BkEq h hX) (RL_ : RLang hX (h.i 6) (h.i 5)) (e60 : hX.i 60 = h.i 60) (e1 : hX.i 59 1 = h.i 59 1) (H1 : (lnF h (tapL h) 0 [] []).1.1 = 0 → LnOk (lnF h (tapL h) 0 [] []).2 → ∀ h', Fr lnLr lnSr hX h' → h'.i 59 1 = 0 → h'.i 59 34 = 0 → h'.i 59 35 = -1 → RLn (RV h' 0) (lnF h (tapL h) 0 [] []).2 → (∀ k, k ≠ 14 → k ≠ 0 → RV h' k = RV hX k) → (∀ k, h'.i 76 k = if k = 0 then 1 else hX.i 76 k) → Q (((flat (lnF h (tapL h) 0 [] []).2).length : Nat) : Int) h') (H0 : (lnF h (tapL h) 0 [] []).1.1 ≠ 0 → ∀ h', Fr lrL lnSr hX h' → h'.i 59 1 = 0 → h'.i 59 34 = (lnF h (tapL h) 0 [] []).1.1 → h'.i 59 35 = (lnF h (tapL h) 0 [] []).1.2 → (∀ k, k ≠ 14 → RV h' k = RV hX k) → Q (-1) h') : xCi 2046 M_R_line [(1, 59)] hX Q := by
  obtain ⟨j1, j2, j3, j4⟩ := j
  have hn : h.i 59 1 = (((tapL h).length : Nat) : Int) := by rw [tapL_len]; omega
  apply L_R_line
  refine ⟨(srt S).1, fun x1 ex g1 eg1 => ⟨by rw [eg1]; exact (srt S).1, fun g2 eg2 => ⟨by rw [eg2, eg1]; exact (srt S).1, fun g3 eg3 => ?_⟩⟩⟩
  rw [e1, hn] at ex
  subst ex
  have F3 : Fr [] [(59, 1), (59, 34), (59, 35)] hX g3 := by rw [eg3, eg2, eg1]; exact Fr_slot (Fr_slot (Fr_slot (Fr_refl _ _ _) _ (by decide)) _ (by decide)) _ (by decide)
  have t3 : g3.i 59 1 = 0 := by rw [eg3, eg2, eg1]; simp only [true_and, and_true, false_and, and_false, forall_eq, forall_eq', xi_wi, xr_wi, xt_wi, xl_wi, xn_wi, xs_wi, xi_wr, xr_wr, xt_wr, xl_wr, xn_wr, xs_wr, if_true, if_false, and_self, Int.reduceEq, Int.reduceLT, Int.reduceLE, Int.reduceNeg, Int.le_refl, Int.reduceMod]
  have k3 : g3.i 59 34 = 0 := by rw [eg3, eg2, eg1]; simp only [true_and, and_true, false_and, and_false, forall_eq, forall_eq', xi_wi, xr_wi, xt_wi, xl_wi, xn_wi, xs_wi, xi_wr, xr_wr, xt_wr, xl_wr, xn_wr, xs_wr, if_true, if_false, and_self, Int.reduceEq, Int.reduceLT, Int.reduceLE, Int.reduceNeg, Int.le_refl, Int.reduceMod]
  have p3 : g3.i 59 35 = -1 := by rw [eg3, eg2, eg1]; simp only [true_and, and_true, false_and, and_false, forall_eq, forall_eq', xi_wi, xr_wi, xt_wi, xl_wi, xn_wi, xs_wi, xi_wr, xr_wr, xt_wr, xl_wr, xn_wr, xs_wr, if_true, if_false, and_self, Int.reduceEq, Int.reduceLT, Int.reduceLE, Int.reduceNeg, Int.le_refl, Int.reduceMod]
  clear eg3 eg2 eg1
  have S3 := SR_2 F3.1 S
  refine ⟨(srt S3).1, ?_⟩
  apply L_R_readLine
  have g : g3.tag 59 = 12 ∧ g3.r 59 22 = 77 ∧ g3.tag 77 = 20 ∧ g3.len 77 = 15 ∧ g3.r 59 26 = 81 ∧ g3.tag 81 = 20 ∧ g3.len 81 = 15 := by have S := S3; simp only [srt S, srl S, srf S, true_and, and_true, false_and, and_false, forall_eq, forall_eq', xi_wi, xr_wi, xt_wi, xl_wi, xn_wi, xs_wi, xi_wr, xr_wr, xt_wr, xl_wr, xn_wr, xs_wr, if_true, if_false, and_self, Int.reduceEq, Int.reduceLT, Int.reduceLE, Int.reduceNeg, Int.le_refl, Int.reduceMod]
  rw [g.2.1, g.2.2.1, g.2.2.2.1]
  refine ⟨g.1, ⟨rfl, by decide, by decide⟩, fun g4 eg4 => ?_⟩
  have q4 : g4.tag 59 = 12 ∧ g4.r 59 26 = 81 ∧ g4.tag 81 = 20 ∧ g4.len 81 = 15 := by rw [eg4]; exact ⟨g.1, g.2.2.2.2.1, g.2.2.2.2.2.1, g.2.2.2.2.2.2⟩
  rw [q4.2.1, q4.2.2.1, q4.2.2.2]
  refine ⟨q4.1, ⟨rfl, by decide, by decide⟩, fun g5 eg5 => ?_⟩
  have F5' : Fr [77, 81] [] g3 g5 := by rw [eg5, eg4]; exact Fr_cell (Fr_cell (Fr_refl _ _ _) _ _ (by decide)) _ _ (by decide)
  have rv5 : ∀ k, k ≠ 14 → RV g5 k = RV hX k := fun k hk => by
    have a : RV g5 k = RV g3 k := by
      rw [eg5, eg4]
      exact RV_row (by simp only [true_and, and_true, false_and, and_false, forall_eq, forall_eq', xi_wi, xr_wi, xt_wi, xl_wi, xn_wi, xs_wi, xi_wr, xr_wr, xt_wr, xl_wr, xn_wr, xs_wr, if_true, if_false, and_self, Int.reduceEq, Int.reduceLT, Int.reduceLE, Int.reduceNeg, Int.le_refl, Int.reduceMod]; rw [if_neg hk]) (by simp only [true_and, and_true, false_and, and_false, forall_eq, forall_eq', xi_wi, xr_wi, xt_wi, xl_wi, xn_wi, xs_wi, xi_wr, xr_wr, xt_wr, xl_wr, xn_wr, xs_wr, if_true, if_false, and_self, Int.reduceEq, Int.reduceLT, Int.reduceLE, Int.reduceNeg, Int.le_refl, Int.reduceMod]; rw [if_neg hk]) (fun _ _ _ => by simp only [true_and, and_true, false_and, and_false, forall_eq, forall_eq', xi_wi, xr_wi, xt_wi, xl_wi, xn_wi, xs_wi, xi_wr, xr_wr, xt_wr, xl_wr, xn_wr, xs_wr, if_true, if_false, and_self, Int.reduceEq, Int.reduceLT, Int.reduceLE, Int.reduceNeg, Int.le_refl, Int.reduceMod]) (fun _ _ _ => by simp only [true_and, and_true, false_and, and_false, forall_eq, forall_eq', xi_wi, xr_wi, xt_wi, xl_wi, xn_wi, xs_wi, xi_wr, xr_wr, xt_wr, xl_wr, xn_wr, xs_wr, if_true, if_false, and_self, Int.reduceEq, Int.reduceLT, Int.reduceLE, Int.reduceNeg, Int.le_refl, Int.reduceMod]) (fun _ _ _ => by simp only [true_and, and_true, false_and, and_false, forall_eq, forall_eq', xi_wi, xr_wi, xt_wi, xl_wi, xn_wi, xs_wi, xi_wr, xr_wr, xt_wr, xl_wr, xn_wr, xs_wr, if_true, if_false, and_self, Int.reduceEq, Int.reduceLT, Int.reduceLE, Int.reduceNeg, Int.le_refl, Int.reduceMod]) (fun _ _ _ => by simp only [true_and, and_true, false_and, and_false, forall_eq, forall_eq', xi_wi, xr_wi, xt_wi, xl_wi, xn_wi, xs_wi, xi_wr, xr_wr, xt_wr, xl_wr, xn_wr, xs_wr, if_true, if_false, and_self, Int.reduceEq, Int.reduceLT, Int.reduceLE, Int.reduceNeg, Int.le_refl, Int.reduceMod]) (fun _ _ _ => by simp only [true_and, and_true, false_and, and_false, forall_eq, forall_eq', xi_wi, xr_wi, xt_wi, xl_wi, xn_wi, xs_wi, xi_wr, xr_wr, xt_wr, xl_wr, xn_wr, xs_wr, if_true, if_false, and_self, Int.reduceEq, Int.reduceLT, Int.reduceLE, Int.reduceNeg, Int.le_refl, Int.reduceMod]) (fun _ _ _ => by simp only [true_and, and_true, false_and, and_false, forall_eq, forall_eq', xi_wi, xr_wi, xt_wi, xl_wi, xn_wi, xs_wi, xi_wr, xr_wr, xt_wr, xl_wr, xn_wr, xs_wr, if_true, if_false, and_self, Int.reduceEq, Int.reduceLT, Int.reduceLE, Int.reduceNeg, Int.le_refl, Int.reduceMod]) (fun _ _ _ => by simp only [true_and, and_true, false_and, and_false, forall_eq, forall_eq', xi_wi, xr_wi, xt_wi, xl_wi, xn_wi, xs_wi, xi_wr, xr_wr, xt_wr, xl_wr, xn_wr, xs_wr, if_true, if_false, and_self, Int.reduceEq, Int.reduceLT, Int.reduceLE, Int.reduceNeg, Int.le_refl, Int.reduceMod]) (fun _ _ _ => by simp only [true_and, and_true, false_and, and_false, forall_eq, forall_eq', xi_wi, xr_wi, xt_wi, xl_wi, xn_wi, xs_wi, xi_wr, xr_wr, xt_wr, xl_wr, xn_wr, xs_wr, if_true, if_false, and_self, Int.reduceEq, Int.reduceLT, Int.reduceLE, Int.reduceNeg, Int.le_refl, Int.reduceMod]) (fun _ _ _ => by simp only [true_and, and_true, false_and, and_false, forall_eq, forall_eq', xi_wi, xr_wi, xt_wi, xl_wi, xn_wi, xs_wi, xi_wr, xr_wr, xt_wr, xl_wr, xn_wr, xs_wr, if_true, if_false, and_self, Int.reduceEq, Int.reduceLT, Int.reduceLE, Int.reduceNeg, Int.le_refl, Int.reduceMod]) (fun _ _ _ => by simp only [true_and, and_true, false_and, and_false, forall_eq, forall_eq', xi_wi, xr_wi, xt_wi, xl_wi, xn_wi, xs_wi, xi_wr, xr_wr, xt_wr, xl_wr, xn_wr, xs_wr, if_true, if_false, and_self, Int.reduceEq, Int.reduceLT, Int.reduceLE, Int.reduceNeg, Int.le_refl, Int.reduceMod])
    rw [a]
    exact RV_lr F3 (by decide) k
  have m77 : g5.i 77 14 = 0 := by rw [eg5, eg4]; simp only [true_and, and_true, false_and, and_false, forall_eq, forall_eq', xi_wi, xr_wi, xt_wi, xl_wi, xn_wi, xs_wi, xi_wr, xr_wr, xt_wr, xl_wr, xn_wr, xs_wr, if_true, if_false, and_self, Int.reduceEq, Int.reduceLT, Int.reduceLE, Int.reduceNeg, Int.le_refl, Int.reduceMod]
  have m81 : g5.i 81 14 = 0 := by rw [eg5]; simp only [true_and, and_true, false_and, and_false, forall_eq, forall_eq', xi_wi, xr_wi, xt_wi, xl_wi, xn_wi, xs_wi, xi_wr, xr_wr, xt_wr, xl_wr, xn_wr, xs_wr, if_true, if_false, and_self, Int.reduceEq, Int.reduceLT, Int.reduceLE, Int.reduceNeg, Int.le_refl, Int.reduceMod]
  clear eg5 eg4 q4 g
  have F5 : Fr lnLr lnSr hX g5 := Fr_trans (Fr_mono F3 (fun c m => absurd m List.not_mem_nil) (by decide)) (Fr_mono F5' (by decide) (fun c m => absurd m List.not_mem_nil))
  have F5l : Fr lrL lnSr hX g5 := Fr_trans (Fr_mono F3 (fun c m => absurd m List.not_mem_nil) (by decide)) (Fr_mono F5' (by decide) (fun c m => absurd m List.not_mem_nil))
  have S5 := SR_2 F5'.1 S3
  have L5 : LR_ h g5 [] := by
    refine ⟨S5, BkEq_r bk F5 (by decide), RLang_row (Fr_row F5 (by decide) (by decide)) (Fr_row F5 (by decide) (by decide)) (Fr_row F5 (by decide) (by decide)) (Fr_row F5 (by decide) (by decide)) (F5.2 59 6 (by decide) (by decide)) RL_, ⟨?_, ?_, fun i hi => absurd hi (Nat.not_lt_zero _), fun i hi => absurd hi (Nat.not_lt_zero _)⟩, ⟨Nat.zero_le _, Nat.zero_le _, fun d m => absurd m List.not_mem_nil⟩⟩
    · show g5.i 81 14 = 0; exact m81
    · show g5.i 77 14 = 0; exact m77
  have z0 : (((tapL h).length : Nat) : Int) - (((tapL h).length : Nat) : Int) = 0 := by omega
  have key := fun (Q : Int → xH → Prop) => c_R_rl14 (d := 2038) (h0 := h) (Q := Q) (T := h.i 60) (n := (((tapL h).length : Nat) : Int)) hV iB (by omega) (tapL h).length (tapL h) [] g5 (9, 0) (9, 0) (9, 0) (9, 0) (9, 0) (9, 0) (9, 0) (Nat.le_refl _) L5 (by rw [Fr_row F5 (c := 60) (by decide) (by decide)]; exact e60) (by omega) (fun k hk => by
    rw [tapL_get hk, z0, Int.zero_add]
    rw [tapL_len] at hk
    have := j4 (k : Int) (by omega) (by omega)
    exact ⟨this.1.symm, this.2.1, this.2.2⟩)
  rw [z0] at key
  refine key _ (fun e0 h6 F6 L6 rv6 => ?_) (fun e0 h6 F6 S6 rv6 k6 p6 => ?_)
  · obtain ⟨S6, bk6, RL6, R6, ok6⟩ := L6
    rw [if_neg (by decide)]
    refine ⟨(srt S6).1, ?_⟩
    refine c_R_copyLine (d := 2042) (l := 0) (m := 14) S6 (by decide) (by decide) (by decide) (by decide) (by decide) ok6 R6 (fun h7 F7 R7 rv7 e76 => ?_)
    have S7 := SR_2 F7.1 S6
    have g7 : h7.tag 59 = 12 ∧ h7.r 59 26 = 81 ∧ h7.tag 81 = 20 ∧ h7.len 81 = 15 := by have S := S7; simp only [srt S, srl S, srf S, true_and, and_true, false_and, and_false, forall_eq, forall_eq', xi_wi, xr_wi, xt_wi, xl_wi, xn_wi, xs_wi, xi_wr, xr_wr, xt_wr, xl_wr, xn_wr, xs_wr, if_true, if_false, and_self, Int.reduceEq, Int.reduceLT, Int.reduceLE, Int.reduceNeg, Int.le_refl, Int.reduceMod]
    rw [g7.2.1, g7.2.2.1, g7.2.2.2]
    refine ⟨g7.1, ⟨rfl, by decide, by decide⟩, ?_⟩
    have e81 : h7.i 81 0 = (((flat (lnF h (tapL h) 0 [] []).2).length : Nat) : Int) := R7.1
    rw [e81]
    have F7' : Fr lnLr lnSr hX h7 := Fr_trans F5 (Fr_trans (Fr_mono F6 (by decide) (by decide)) (Fr_mono F7 (by decide) (fun c m => absurd m List.not_mem_nil)))
    have F67 : Fr lnLr [(59, 10)] g5 h7 := Fr_trans (Fr_mono F6 (by decide) (fun c m => m)) (Fr_mono F7 (by decide) (fun c m => absurd m List.not_mem_nil))
    refine H1 e0 ok6 h7 F7' ?_ ?_ ?_ R7 (fun k k14 k0 => (rv7 k k0).trans ((rv6 k k14).trans (rv5 k k14))) (fun k => ?_)
    · rw [F67.2 59 1 (by decide) (by decide), F5'.2 59 1 (by decide) (by decide)]; exact t3
    · rw [F67.2 59 34 (by decide) (by decide), F5'.2 59 34 (by decide) (by decide)]; exact k3
    · rw [F67.2 59 35 (by decide) (by decide), F5'.2 59 35 (by decide) (by decide)]; exact p3
    · rw [e76, Fr_row F6 (c := 76) (by decide) (by decide), Fr_row F5l (c := 76) (by decide) (by decide)]
  · rw [if_pos rfl]
    refine H0 e0 h6 (Fr_trans F5l (Fr_mono F6 (fun c m => m) (by decide))) ?_ k6 p6 (fun k hk => (rv6 k hk).trans (rv5 k hk))
    rw [F6.2 59 1 (by decide) (by decide), F5'.2 59 1 (by decide) (by decide)]; exact t3
