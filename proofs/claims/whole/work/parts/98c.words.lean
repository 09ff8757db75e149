/-! word: what the bytes tell, as a row of pieces -/
def mkB (c : Int) : Int := if c = 42 then 3 else if c = 43 then 1 else if c = 45 then 2 else -1
abbrev Pcs : Type := List (List Int × Int)
def pc0 : List Int × Int := ([], 0)
def ptx (B : Pcs) : List Int := (B.map (fun p => p.1)).flatten
def rdW : List Int → Pcs → List Int → Option Pcs
  | [], B, cur => if 0 < B.length ∧ cur.length = 0 then some B else none
  | c :: r, B, cur => if 97 ≤ c ∧ c ≤ 122 then rdW r B (cur ++ [c]) else if mkB c = -1 then none else if cur.length = 0 then none else rdW r (B ++ [(cur, mkB c)]) []
def gD (D : List Int) (k : Int) : Int := D.getD k.toNat 0
def vcL (P V : Int → Int) (D : List Int) : Int := ((sgs P V (gD D) 0 ((D.length : Nat) : Int)).map (fun p => p.2)).sum
def gdB (P V : Int → Int) (B : Pcs) : Prop := (∀ p ∈ B, vcL P V p.1 = 1) ∧ (ptx B).length ≤ 16
theorem ptx_app (B C : Pcs) : ptx (B ++ C) = ptx B ++ ptx C := by unfold ptx; rw [List.map_append, List.flatten_append]
theorem ptx_one (D : List Int) (m : Int) : ptx [(D, m)] = D := by unfold ptx; simp only [List.map_cons, List.map_nil, List.flatten_cons, List.flatten_nil, List.append_nil]
theorem rdW_pre : ∀ (r : List Int) (B : Pcs) (cur : List Int) (B' : Pcs), rdW r B cur = some B' → ∃ C, B' = B ++ C := by
  intro r
  induction r with
  | nil =>
    intro B cur B' e
    unfold rdW at e
    by_cases c : 0 < B.length ∧ cur.length = 0
    · rw [if_pos c] at e
      exact ⟨[], by rw [List.append_nil]; exact (Option.some.inj e).symm⟩
    · rw [if_neg c] at e; exact absurd e (by intro z; cases z)
  | cons c r ih =>
    intro B cur B' e
    unfold rdW at e
    by_cases c1 : 97 ≤ c ∧ c ≤ 122
    · rw [if_pos c1] at e; exact ih _ _ _ e
    · rw [if_neg c1] at e
      by_cases c2 : mkB c = -1
      · rw [if_pos c2] at e; exact absurd e (by intro z; cases z)
      · rw [if_neg c2] at e
        by_cases c3 : cur.length = 0
        · rw [if_pos c3] at e; exact absurd e (by intro z; cases z)
        · rw [if_neg c3] at e
          obtain ⟨C, z⟩ := ih _ _ _ e
          exact ⟨(cur, mkB c) :: C, by rw [z, List.append_assoc]; rfl⟩
theorem gdB_pre {P V : Int → Int} {B C : Pcs} (g : gdB P V (B ++ C)) : gdB P V B := by
  refine ⟨fun p m => g.1 p (List.mem_append_left _ m), ?_⟩
  have := g.2
  rw [ptx_app, List.length_append] at this
  omega
/-- a row of pieces as it comes: every piece has letters and a mark -/
def PcsOk (B : Pcs) : Prop := ∀ p ∈ B, 1 ≤ p.1.length ∧ (∀ c ∈ p.1, 97 ≤ c ∧ c ≤ 122) ∧ 1 ≤ p.2 ∧ p.2 ≤ 3
theorem mkB_rg {c : Int} (h : mkB c ≠ -1) : 1 ≤ mkB c ∧ mkB c ≤ 3 := by
  unfold mkB at h ⊢
  by_cases a : c = 42
  · rw [if_pos a]; decide
  · rw [if_neg a] at h ⊢
    by_cases b : c = 43
    · rw [if_pos b]; decide
    · rw [if_neg b] at h ⊢
      by_cases d : c = 45
      · rw [if_pos d]; decide
      · rw [if_neg d] at h; exact absurd rfl h
theorem pcs_len : ∀ {B : Pcs}, PcsOk B → B.length ≤ (ptx B).length := by
  intro B
  induction B with
  | nil => intro _; exact Nat.le_refl _
  | cons p B ih =>
    intro ok
    have a := ih (fun q m => ok q (List.mem_cons_of_mem _ m))
    have b := (ok p List.mem_cons_self).1
    have e : ptx (p :: B) = p.1 ++ ptx B := rfl
    rw [e, List.length_cons, List.length_append]
    omega
theorem PcsOk_app {B : Pcs} {cur : List Int} {m : Int} (ok : PcsOk B) (c1 : 1 ≤ cur.length) (lc : ∀ c ∈ cur, 97 ≤ c ∧ c ≤ 122) (m0 : 1 ≤ m ∧ m ≤ 3) : PcsOk (B ++ [(cur, m)]) := by
  intro p mm
  rw [List.mem_append, List.mem_singleton] at mm
  rcases mm with mm | mm
  · exact ok p mm
  · rw [mm]; exact ⟨c1, lc, m0.1, m0.2⟩
/-- the class' draft holds pieces -/
def DrX (h : xH) (B : Pcs) : Prop := h.i 9 6 = (B.length : Nat) ∧ (∀ j : Nat, j ≤ B.length → h.i 11 j = ((ptx (B.take j)).length : Nat)) ∧ (∀ k : Nat, k < (ptx B).length → h.i 10 k = (ptx B).getD k 0) ∧ (∀ j : Nat, j < B.length → h.i 13 j = (B.getD j pc0).2)
/-- what add() leaves behind it: object t with its rows t + 1 .. t + 5 -/
def AddO (h h' : xH) (t w q b e m tr s st : Int) : Prop := Fr [t + 1, t + 2, t + 3, t + 4, t + 5] [(t, 6)] h h' ∧ h'.i t 6 = s + 1 ∧ (∀ k, h'.i (t + 1) k = if st ≤ k ∧ k < st + (e - b) then h.i q (b + (k - st)) else h.i (t + 1) k) ∧ (∀ k, h'.i (t + 2) k = if k = s + 1 then st + (e - b) else h.i (t + 2) k) ∧ (∀ k, h'.i (t + 3) k = if k = s then w else h.i (t + 3) k) ∧ (∀ k, h'.i (t + 4) k = if k = s then m else h.i (t + 4) k) ∧ (∀ k, h'.i (t + 5) k = if k = s then tr else h.i (t + 5) k)
theorem c_X_add {d : Nat} {h : xH} {t w q b e m tr s st N L : Int} {Q : Int → xH → Prop} (t9 : h.tag t = 9) (r0 : h.r t 0 = t + 1) (r1 : h.r t 1 = t + 2) (r2 : h.r t 2 = t + 3) (r3 : h.r t 3 = t + 4) (r4 : h.r t 4 = t + 5) (tt : h.tag (t + 1) = 20 ∧ h.tag (t + 2) = 20 ∧ h.tag (t + 3) = 20 ∧ h.tag (t + 4) = 20 ∧ h.tag (t + 5) = 20) (ll : h.len (t + 1) = L ∧ h.len (t + 2) = N + 1 ∧ h.len (t + 3) = N ∧ h.len (t + 4) = N ∧ h.len (t + 5) = N) (hs : h.i t 6 = s) (s0 : 0 ≤ s) (s1 : s ≤ N) (N1 : N ≤ 100) (hst : h.i (t + 2) s = st) (st0 : 0 ≤ st) (st1 : st ≤ L) (L1 : L ≤ 1000) (tq : h.tag q = 20) (b0 : 0 ≤ b) (be : b ≤ e) (eq : e ≤ h.len q) (e1 : e ≤ 1000) (H1 : s < N → st + (e - b) ≤ L → ∀ h', AddO h h' t w q b e m tr s st → Q 1 h') (H0 : ¬ (s < N ∧ st + (e - b) ≤ L) → Q 0 h) : xCi (d + 2) M_Syllables_add [(1, t), (0, w), (1, q), (0, b), (0, e), (0, m), (0, tr)] h Q := by
  obtain ⟨ta, tb, tc, td, te⟩ := tt
  obtain ⟨la, lb, lc, ld, le⟩ := ll
  apply L_Syllables_add
  refine ⟨t9, ?_⟩
  apply L_Syllables_letterCount
  rw [r1, hs, hst]
  refine ⟨t9, ⟨tb, s0, by omega⟩, fun x1 e1' => ?_⟩
  rw [xw_id (by omega) (by omega)] at e1'
  subst e1'
  rw [r3, r0, ld, la]
  refine ⟨t9, td, ?_⟩
  by_cases c : s < N
  · rw [if_pos c, if_neg (by omega), if_neg (by omega), if_neg (by omega), xw_id (a := L - st) (by omega) (by omega)]
    refine ⟨tq, ta, ?_⟩
    by_cases c2 : L - st < e - b
    · rw [if_pos c2]
      exact H0 (fun z => by omega)
    · rw [if_neg c2]
      refine ⟨⟨tq, ta, b0, st0, by omega, by omega, by omega⟩, fun h2 e2 => ?_⟩
      have n6 : ∀ k : Int, t ≠ t + 1 ∧ t ≠ t + 2 := fun _ => by omega
      have f2 : h2.tag = h.tag ∧ h2.len = h.len ∧ h2.r = h.r ∧ (∀ c, c ≠ t + 1 → h2.i c = h.i c) ∧ ∀ k, h2.i (t + 1) k = if st ≤ k ∧ k < st + (e - b) then h.i q (b + (k - st)) else h.i (t + 1) k := by
        rw [e2]
        refine ⟨rfl, rfl, rfl, fun c hc => ?_, fun k => ?_⟩
        · funext j; rw [xi_cp, if_neg hc]
        · rw [xi_cp, if_pos rfl]; rfl
      rw [f2.1, f2.2.1, f2.2.2.1, r2, f2.2.2.2.1 t (by omega), hs]
      refine ⟨t9, ⟨tc, s0, by omega⟩, fun h3 e3 => ?_⟩
      have f3 : h3.tag = h.tag ∧ h3.len = h.len ∧ h3.r = h.r ∧ (∀ c, c ≠ t + 3 → h3.i c = h2.i c) ∧ ∀ k, h3.i (t + 3) k = if k = s then w else h.i (t + 3) k := by
        rw [e3]
        refine ⟨f2.1, f2.2.1, f2.2.2.1, fun c hc => ?_, fun k => ?_⟩
        · funext j; rw [xi_wi, if_neg (fun z => hc z.1)]
        · rw [xi_wi, f2.2.2.2.1 (t + 3) (by omega)]
          by_cases z : k = s
          · rw [if_pos ⟨rfl, z⟩, if_pos z]
          · rw [if_neg (fun y => z y.2), if_neg z]
      rw [f3.1, f3.2.1, f3.2.2.1, r3, f3.2.2.2.1 t (by omega), f2.2.2.2.1 t (by omega), hs]
      refine ⟨t9, ⟨td, s0, by omega⟩, fun h4 e4 => ?_⟩
      have f4 : h4.tag = h.tag ∧ h4.len = h.len ∧ h4.r = h.r ∧ (∀ c, c ≠ t + 4 → h4.i c = h3.i c) ∧ ∀ k, h4.i (t + 4) k = if k = s then m else h.i (t + 4) k := by
        rw [e4]
        refine ⟨f3.1, f3.2.1, f3.2.2.1, fun c hc => ?_, fun k => ?_⟩
        · funext j; rw [xi_wi, if_neg (fun z => hc z.1)]
        · rw [xi_wi, f3.2.2.2.1 (t + 4) (by omega), f2.2.2.2.1 (t + 4) (by omega)]
          by_cases z : k = s
          · rw [if_pos ⟨rfl, z⟩, if_pos z]
          · rw [if_neg (fun y => z y.2), if_neg z]
      rw [f4.1, f4.2.1, f4.2.2.1, r4, f4.2.2.2.1 t (by omega), f3.2.2.2.1 t (by omega), f2.2.2.2.1 t (by omega), hs]
      refine ⟨t9, ⟨te, s0, by omega⟩, fun h5 e5 => ?_⟩
      have f5 : h5.tag = h.tag ∧ h5.len = h.len ∧ h5.r = h.r ∧ (∀ c, c ≠ t + 5 → h5.i c = h4.i c) ∧ ∀ k, h5.i (t + 5) k = if k = s then tr else h.i (t + 5) k := by
        rw [e5]
        refine ⟨f4.1, f4.2.1, f4.2.2.1, fun c hc => ?_, fun k => ?_⟩
        · funext j; rw [xi_wi, if_neg (fun z => hc z.1)]
        · rw [xi_wi, f4.2.2.2.1 (t + 5) (by omega), f3.2.2.2.1 (t + 5) (by omega), f2.2.2.2.1 (t + 5) (by omega)]
          by_cases z : k = s
          · rw [if_pos ⟨rfl, z⟩, if_pos z]
          · rw [if_neg (fun y => z y.2), if_neg z]
      rw [f5.1, f5.2.2.2.1 t (by omega), f4.2.2.2.1 t (by omega), f3.2.2.2.1 t (by omega), f2.2.2.2.1 t (by omega), hs, xw_id (a := s + 1) (by omega) (by omega)]
      refine ⟨t9, fun h6 e6 => ?_⟩
      have f6 : h6.tag = h.tag ∧ h6.len = h.len ∧ h6.r = h.r ∧ (∀ c, c ≠ t → h6.i c = h5.i c) ∧ h6.i t 6 = s + 1 := by
        rw [e6]
        refine ⟨f5.1, f5.2.1, f5.2.2.1, fun c hc => ?_, by rw [xi_wi, if_pos ⟨rfl, rfl⟩]⟩
        funext j; rw [xi_wi, if_neg (fun z => hc z.1)]
      rw [f6.1, f6.2.1, f6.2.2.1, r1, f6.2.2.2.2, xw_id (a := st + (e - b)) (by omega) (by omega)]
      refine ⟨t9, ⟨tb, by omega, by omega⟩, fun h7 e7 => ?_⟩
      refine H1 c (by omega) h7 ⟨?_, ?_, fun k => ?_, fun k => ?_, fun k => ?_, fun k => ?_, fun k => ?_⟩
      · rw [e7, e6, e5, e4, e3, e2]
        refine ⟨rfl, fun c k u v => ?_⟩
        simp only [List.mem_cons, List.not_mem_nil, or_false, not_or, Prod.mk.injEq] at u v
        rw [xi_wi, if_neg (fun z => u.2.1 z.1), xi_wi, if_neg (fun z => v ⟨z.1, z.2⟩), xi_wi, if_neg (fun z => u.2.2.2.2 z.1), xi_wi, if_neg (fun z => u.2.2.2.1 z.1), xi_wi, if_neg (fun z => u.2.2.1 z.1), xi_cp, if_neg u.1]
      · rw [e7, xi_wi, if_neg (fun z => by omega)]; exact f6.2.2.2.2
      · rw [e7, xi_wi, if_neg (fun z => by omega), f6.2.2.2.1 _ (by omega), f5.2.2.2.1 _ (by omega), f4.2.2.2.1 _ (by omega), f3.2.2.2.1 _ (by omega)]
        exact f2.2.2.2.2 k
      · rw [e7, xi_wi, f6.2.2.2.1 _ (by omega), f5.2.2.2.1 _ (by omega), f4.2.2.2.1 _ (by omega), f3.2.2.2.1 _ (by omega), f2.2.2.2.1 _ (by omega)]
        by_cases z : k = s + 1
        · rw [if_pos ⟨rfl, z⟩, if_pos z]
        · rw [if_neg (fun y => z y.2), if_neg z]
      · rw [e7, xi_wi, if_neg (fun z => by omega), f6.2.2.2.1 _ (by omega), f5.2.2.2.1 _ (by omega), f4.2.2.2.1 _ (by omega)]
        exact f3.2.2.2.2 k
      · rw [e7, xi_wi, if_neg (fun z => by omega), f6.2.2.2.1 _ (by omega), f5.2.2.2.1 _ (by omega)]
        exact f4.2.2.2.2 k
      · rw [e7, xi_wi, if_neg (fun z => by omega), f6.2.2.2.1 _ (by omega)]
        exact f5.2.2.2.2 k
  · rw [if_neg c]
    exact H0 (fun z => c z.1)
