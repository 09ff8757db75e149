/-! scheme -/
section FST
variable {t : Nat → Bool} {f : Nat → Nat → Bool}
/-- the first from i on (n steps at most) that is there and rhymes with k; else k -/
def fstF (t : Nat → Bool) (f : Nat → Nat → Bool) (k : Nat) : Nat → Nat → Nat
  | 0, _ => k
  | n + 1, i => if (t i && f i k) = true then i else fstF t f k n (i + 1)
def fst_ (t : Nat → Bool) (f : Nat → Nat → Bool) (k : Nat) : Nat := fstF t f k k 0
theorem fstF_spec {k : Nat} : ∀ (n i : Nat), i + n = k → (i ≤ fstF t f k n i ∧ fstF t f k n i ≤ k) ∧ (fstF t f k n i < k → (t (fstF t f k n i) && f (fstF t f k n i) k) = true) ∧ (∀ j, i ≤ j → j < fstF t f k n i → (t j && f j k) = false) := by
  intro n
  induction n with
  | zero => intro i e; exact ⟨⟨by show i ≤ k; omega, Nat.le_refl _⟩, fun h => absurd h (Nat.lt_irrefl _), fun j j0 j1 => by have j1 : j < k := j1; omega⟩
  | succ n ih =>
    intro i e
    rw [fstF]
    by_cases c : (t i && f i k) = true
    · rw [if_pos c]
      exact ⟨⟨Nat.le_refl _, by omega⟩, fun _ => c, fun j j0 j1 => by omega⟩
    · rw [if_neg c]
      obtain ⟨a, b, d⟩ := ih (i + 1) (by omega)
      refine ⟨⟨by omega, a.2⟩, b, fun j j0 j1 => ?_⟩
      by_cases z : j = i
      · rw [z]
        cases q : (t i && f i k) with
        | true => exact absurd q c
        | false => rfl
      · exact d j (by omega) j1
/-- how many first ones there are below m -/
def cntF (t : Nat → Bool) (f : Nat → Nat → Bool) : Nat → Nat
  | 0 => 0
  | n + 1 => cntF t f n + (if (t n && decide (fst_ t f n = n)) = true then 1 else 0)
theorem cntF_le : ∀ n, cntF t f n ≤ n := by
  intro n
  induction n with
  | zero => exact Nat.le_refl _
  | succ n ih => rw [cntF]; split <;> omega
theorem fst_fst (hr : ∀ i, f i i = true) (ht : ∀ i j k, f i j = true → f j k = true → f i k = true) {k : Nat} : fst_ t f (fst_ t f k) = fst_ t f k := by
  have a := fstF_spec (t := t) (f := f) (k := k) k 0 (by omega)
  have b := fstF_spec (t := t) (f := f) (k := fst_ t f k) (fst_ t f k) 0 (by omega)
  have a : (0 ≤ fst_ t f k ∧ fst_ t f k ≤ k) ∧ (fst_ t f k < k → (t (fst_ t f k) && f (fst_ t f k) k) = true) ∧ (∀ j, 0 ≤ j → j < fst_ t f k → (t j && f j k) = false) := a
  have b : (0 ≤ fst_ t f (fst_ t f k) ∧ fst_ t f (fst_ t f k) ≤ fst_ t f k) ∧ (fst_ t f (fst_ t f k) < fst_ t f k → (t (fst_ t f (fst_ t f k)) && f (fst_ t f (fst_ t f k)) (fst_ t f k)) = true) ∧ _ := b
  by_cases c : fst_ t f (fst_ t f k) < fst_ t f k
  · have x := b.2.1 c
    have y := a.2.2 _ (Nat.zero_le _) c
    rw [Bool.and_eq_true] at x
    rw [x.1, Bool.true_and] at y
    by_cases c2 : fst_ t f k < k
    · have z := a.2.1 c2
      rw [Bool.and_eq_true] at z
      rw [ht _ _ _ x.2 z.2] at y
      exact absurd y (by decide)
    · have e : fst_ t f k = k := by omega
      have x2 := x.2
      rw [e] at x2 y
      rw [e] at c
      rw [x2] at y
      exact absurd y (by decide)
  · omega
end FST
theorem samF_refl (E : List (Int × Int)) : samF E E = true := decide_eq_true rfl
theorem samF_trans {E F G : List (Int × Int)} (a : samF E F = true) (b : samF F G = true) : samF E G = true := decide_eq_true ((of_decide_eq_true a).trans (of_decide_eq_true b))
def fw (W : Nat → List Wd) (i j : Nat) : Bool := samF (endL (flat (W i))) (endL (flat (W j)))
/-- the class' lines, by their words -/
def XPo (h : xH) (t : Nat → Bool) (W : Nat → List Wd) : Prop := ∀ k : Nat, k < 12 → (t k = true ↔ h.r 49 (k : Int) ≠ 0) ∧ (t k = true → LnOk (W k) ∧ 1 ≤ (W k).length ∧ SylB h (h.r 49 (k : Int)) ∧ SylE h (h.r 49 (k : Int)) ∧ XLn (XV h (h.r 49 (k : Int))) (W k) ∧ ELn (XV h (h.r 49 (k : Int))) (W k))
def RPo (h : xH) (t : Nat → Bool) (W : Nat → List Wd) : Prop := ∀ k : Nat, k < 12 → (t k = true ↔ h.i 76 ((k : Int) + 1) ≠ 0) ∧ (t k = true → LnOk (W k) ∧ 1 ≤ (W k).length ∧ RLn (RV h ((k : Int) + 1)) (W k))
theorem po_of {h : xH} (I : I_poem h) : ∃ (t : Nat → Bool) (W : Nat → List Wd), XPo h t W ∧ RPo h t W := by
  have ex : ∀ k : Nat, ∃ w : List Wd, k < 12 → h.r 49 (k : Int) ≠ 0 → LnOk w ∧ 1 ≤ w.length ∧ SylB h (h.r 49 (k : Int)) ∧ SylE h (h.r 49 (k : Int)) ∧ XLn (XV h (h.r 49 (k : Int))) w ∧ ELn (XV h (h.r 49 (k : Int))) w ∧ RLn (RV h ((k : Int) + 1)) w := by
    intro k
    by_cases c : k < 12 ∧ h.r 49 (k : Int) ≠ 0
    · rcases I.2 (k : Int) (by omega) (by omega) with z | z
      · exact absurd z.1 c.2
      · obtain ⟨B, E, w, a1, a2, a3, a4, a5⟩ := z.2.2
        exact ⟨w, fun _ _ => ⟨a1, a2, B, E, a3, a5, a4⟩⟩
    · exact ⟨[], fun a b => absurd ⟨a, b⟩ c⟩
  obtain ⟨W, hW⟩ := Classical.axiomOfChoice ex
  refine ⟨fun k => decide (h.r 49 (k : Int) ≠ 0), W, fun k hk => ⟨decide_eq_true_iff, fun z => ?_⟩, fun k hk => ⟨?_, fun z => ?_⟩⟩
  · have y := hW k hk (of_decide_eq_true z)
    exact ⟨y.1, y.2.1, y.2.2.1, y.2.2.2.1, y.2.2.2.2.1, y.2.2.2.2.2.1⟩
  · rw [decide_eq_true_iff]
    rcases I.2 (k : Int) (by omega) (by omega) with z | z
    · rw [z.1, z.2]
    · rw [z.2.1]; exact ⟨fun _ => by decide, fun _ => z.1⟩
  · have y := hW k hk (of_decide_eq_true z)
    exact ⟨y.1, y.2.1, y.2.2.2.2.2.2⟩
section XSC
variable {d : Nat} {h : xH} {Q : Int → xH → Prop} {t : Nat → Bool} {W : Nat → List Wd}
theorem c_X_lineK {k : Nat} (SX_ : SX h) (hk : k < 12) (H : Q (h.r 49 (k : Int)) h) : xCr (d + 1) M_Poem_lineAt [(1, 48), (0, (k : Int))] h Q := by
  refine c_X_lineAt SX_ ?_
  rw [if_pos (show 0 ≤ (k : Int) ∧ (k : Int) ≤ 11 by omega)]
  exact H
theorem c_X_first_6 (SX_ : SX h) (P : XPo h t W) {k : Nat} (hk : k < 12) (tk : t k = true) : ∀ (n i : Nat), i + n = k → Q (fstF t (fw W) k n i : Nat) h → xT (d + 2) M_Poem_firstOfRhyme 6 [(1, 48), (0, (k : Int)), (1, h.r 49 (k : Int)), (0, (i : Int))] [] h (xqi Q) := by
  have pk := P k hk
  obtain ⟨ak, wk, bk, ek, xk, lk⟩ := pk.2 tk
  have tp := (sxt SX_).2.2.2.2.2.2.2.2.2.2.2.2.2.2.2.2.2.2.2.2.2.2.2.2.2.2.2.2.2.2.2.2.2.2.2.2.2.2.2.2.2.2.2.2.2.2.1
  intro n
  induction n with
  | zero =>
    intro i e H
    apply L_Poem_firstOfRhyme_6
    rw [if_neg (by omega)]
    exact H
  | succ n ih =>
    intro i e H
    have pi := P i (by omega)
    apply L_Poem_firstOfRhyme_6
    rw [if_pos (by omega), if_neg (pk.1.mp tk), xw_id (by omega) (by omega), show (i : Int) + 1 = ((i + 1 : Nat) : Int) by omega]
    refine ⟨tp, c_X_lineK SX_ (by omega) ?_⟩
    rw [fstF] at H
    refine x_if (fun c => ?_) (fun c => ?_)
    · have ti : ¬ t i = true := fun q => pi.1.mp q c
      rw [if_neg (by rw [Bool.and_eq_true]; exact fun q => ti q.1)] at H
      intro x1 e1
      rw [e1]
      exact ih (i + 1) (by omega) H
    · have ti : t i = true := pi.1.mpr c
      obtain ⟨ai, wi, bi, ei, xi, li⟩ := pi.2 ti
      refine ⟨tp, c_X_lineK SX_ (by omega) ?_⟩
      refine ⟨bi.2.2.1, c_X_fullRhyme (XEnd_of bi ei li) (XEnd_of bk ek lk) (end_ok ai).1 (end_ok ak).1 (by have := (end_ok ai).2; omega) ?_⟩
      by_cases q : samF (endL (flat (W i))) (endL (flat (W k))) = true
      · rw [if_pos (by rw [ti]; exact q)] at H
        rw [if_pos q, if_neg (by decide)]
        exact H
      · rw [if_neg (by rw [ti]; exact q)] at H
        rw [if_neg q, if_pos rfl]
        intro x1 e1
        rw [e1]
        exact ih (i + 1) (by omega) H
theorem c_X_first (SX_ : SX h) (P : XPo h t W) {k : Nat} (hk : k < 12) (tk : t k = true) (H : Q (fst_ t (fw W) k : Nat) h) : xCi (d + 3) M_Poem_firstOfRhyme [(1, 48), (0, (k : Int))] h Q := by
  apply L_Poem_firstOfRhyme
  have tp := (sxt SX_).2.2.2.2.2.2.2.2.2.2.2.2.2.2.2.2.2.2.2.2.2.2.2.2.2.2.2.2.2.2.2.2.2.2.2.2.2.2.2.2.2.2.2.2.2.2.1
  refine ⟨tp, c_X_lineK SX_ hk ?_⟩
  exact c_X_first_6 SX_ P hk tk k 0 (by omega) H
theorem c_X_letter_14 (SX_ : SX h) (P : XPo h t W) {m : Nat} (hm : m < 12) (H : Q (cntF t (fw W) m : Nat) h) : ∀ (n i : Nat) (u1 : xV), i + n = m → xT (d + 3) M_Poem_letterOf 14 [(1, 48), u1, (0, (cntF t (fw W) i : Nat)), (0, (m : Int)), (0, (i : Int))] [] h (xqi Q) := by
  have tp := (sxt SX_).2.2.2.2.2.2.2.2.2.2.2.2.2.2.2.2.2.2.2.2.2.2.2.2.2.2.2.2.2.2.2.2.2.2.2.2.2.2.2.2.2.2.2.2.2.2.1
  intro n
  induction n with
  | zero =>
    intro i u1 e
    apply L_Poem_letterOf_14
    rw [if_neg (by omega)]
    rw [show i = m by omega]
    exact H
  | succ n ih =>
    intro i u1 e
    have pi := P i (by omega)
    have cl := cntF_le (t := t) (f := fw W) i
    apply L_Poem_letterOf_14
    rw [if_pos (by omega), xw_id (a := (i : Int) + 1) (by omega) (by omega), show (i : Int) + 1 = ((i + 1 : Nat) : Int) by omega, xw_id (a := ((cntF t (fw W) i : Nat) : Int) + 1) (by omega) (by omega)]
    refine ⟨tp, c_X_lineK SX_ (by omega) ?_⟩
    refine x_if (fun c => ?_) (fun c => ?_)
    · have ti : ¬ t i = true := fun q => pi.1.mp q c
      have z := ih (i + 1) u1 (by omega)
      rw [cntF, if_neg (by rw [Bool.and_eq_true]; exact fun q => ti q.1), Nat.add_zero] at z
      intro x1 e1
      rw [e1]
      exact z
    · have ti : t i = true := pi.1.mpr c
      refine ⟨tp, c_X_first SX_ P (by omega) ti ?_⟩
      refine x_if (fun c2 => ?_) (fun c2 => ?_)
      · have z := ih (i + 1) (xkl u1) (by omega)
        rw [cntF, if_pos (by rw [ti]; exact decide_eq_true (by omega))] at z
        intro x1 e1 x2 e2
        rw [e1, e2, show ((cntF t (fw W) i : Nat) : Int) + 1 = ((cntF t (fw W) i + 1 : Nat) : Int) by omega]
        exact z
      · have z := ih (i + 1) u1 (by omega)
        rw [cntF, if_neg (by rw [ti]; exact fun q => c2 (by have := of_decide_eq_true q; omega)), Nat.add_zero] at z
        intro x1 e1
        rw [e1]
        exact z
theorem c_X_letterOf (SX_ : SX h) (P : XPo h t W) {k : Nat} (hk : k < 12) (tk : t k = true) (H : Q (cntF t (fw W) (fst_ t (fw W) k) : Nat) h) : xCi (d + 4) M_Poem_letterOf [(1, 48), (0, (k : Int))] h Q := by
  have tp := (sxt SX_).2.2.2.2.2.2.2.2.2.2.2.2.2.2.2.2.2.2.2.2.2.2.2.2.2.2.2.2.2.2.2.2.2.2.2.2.2.2.2.2.2.2.2.2.2.2.1
  have sp := (fstF_spec (t := t) (f := fw W) (k := k) k 0 (by omega)).1.2
  have sp : fst_ t (fw W) k ≤ k := sp
  apply L_Poem_letterOf
  refine ⟨tp, c_X_lineK SX_ hk ?_⟩
  rw [if_neg ((P k hk).1.mp tk)]
  refine ⟨tp, c_X_first SX_ P hk tk ?_⟩
  exact c_X_letter_14 SX_ P (m := fst_ t (fw W) k) (by omega) H (fst_ t (fw W) k) 0 _ (by omega)
end XSC
