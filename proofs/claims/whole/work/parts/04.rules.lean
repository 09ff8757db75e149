/-! rows of the small machine: a run from an instruction on ends, with a value and a heap of which Q holds -/
theorem xrun_up {sw : Nat → List Int} {cd : Nat → Nat → xOp} {mi : Nat → xMi} : ∀ (n d m k : Nat) (ls st : List xV) (h : xH) (r : xV × xH), xrun sw cd mi n d m k ls st h = some r → xrun sw cd mi (n + 1) d m k ls st h = some r := by
  intro n
  induction n with
  | zero => intro d m k ls st h r e; exact absurd e (by rw [xrun]; exact fun q => nomatch q)
  | succ n ih =>
    intro d m k ls st h r e
    rw [xrun_s] at e ⊢
    by_cases h31 : (cd m k).1 = 31
    · simp only [h31, if_true] at e ⊢
      split at e
      · cases e
      rename_i g1
      rw [if_neg g1]
      split at e
      · rename_i g2
        rw [if_pos g2]
        split at e
        · cases e
        · rename_i v h' e2
          rw [ih _ _ _ _ _ _ _ e2]
          exact ih _ _ _ _ _ _ _ e
      · cases e
    · simp only [h31, if_false] at e ⊢
      split at e
      · rename_i g; rw [if_pos g]; exact e
      rename_i g; rw [if_neg g]
      split at e
      · rename_i g; rw [if_pos g]; exact e
      rename_i g; rw [if_neg g]
      split at e
      · cases e
      · rename_i k' ls' st' h' e2
        exact ih _ _ _ _ _ _ _ e
theorem xrun_ups {sw : Nat → List Int} {cd : Nat → Nat → xOp} {mi : Nat → xMi} {n d m k : Nat} {ls st : List xV} {h : xH} {r : xV × xH} (e : xrun sw cd mi n d m k ls st h = some r) (j : Nat) : xrun sw cd mi (n + j) d m k ls st h = some r := by
  induction j with
  | zero => exact e
  | succ j ih => exact xrun_up _ _ _ _ _ _ _ _ ih
def xT (d m k : Nat) (ls st : List xV) (h : xH) (Q : xV → xH → Prop) : Prop := ∃ n v h', xrun xsw xcd xmi n d m k ls st h = some (v, h') ∧ Q v h'
def xqi (Q : Int → xH → Prop) : xV → xH → Prop := fun v h => ∃ x : Int, v = (0, x) ∧ Q x h
def xqr (Q : Int → xH → Prop) : xV → xH → Prop := fun v h => ∃ x : Int, v = (1, x) ∧ Q x h
def xql (Q : Int → xH → Prop) : xV → xH → Prop := fun v h => ∃ x : Int, v = (3, x) ∧ Q x h
def xqv (Q : xH → Prop) : xV → xH → Prop := fun v h => v = (9, 0) ∧ Q h
def xC (d m : Nat) (args : List xV) (h : xH) (Q : xV → xH → Prop) : Prop := 0 < d ∧ xT (d - 1) m 0 (args ++ List.replicate ((xmi m).1 - (xmi m).2) (9, 0)) [] h Q
abbrev xCi (d m : Nat) (args : List xV) (h : xH) (Q : Int → xH → Prop) : Prop := xC d m args h (xqi Q)
abbrev xCr (d m : Nat) (args : List xV) (h : xH) (Q : Int → xH → Prop) : Prop := xC d m args h (xqr Q)
abbrev xCl (d m : Nat) (args : List xV) (h : xH) (Q : Int → xH → Prop) : Prop := xC d m args h (xql Q)
abbrev xCv (d m : Nat) (args : List xV) (h : xH) (Q : xH → Prop) : Prop := xC d m args h (xqv Q)
theorem xT_mono {d m k : Nat} {ls st : List xV} {h : xH} {Q Q' : xV → xH → Prop} (f : ∀ v h', Q v h' → Q' v h') (H : xT d m k ls st h Q) : xT d m k ls st h Q' := by
  obtain ⟨n, v, h', e, q⟩ := H; exact ⟨n, v, h', e, f _ _ q⟩
theorem xC_mono {d m : Nat} {a : List xV} {h : xH} {Q Q' : xV → xH → Prop} (f : ∀ v h', Q v h' → Q' v h') (H : xC d m a h Q) : xC d m a h Q' := ⟨H.1, xT_mono f H.2⟩
theorem xCi_mono {d m : Nat} {a : List xV} {h : xH} {Q Q' : Int → xH → Prop} (f : ∀ v h', Q v h' → Q' v h') (H : xCi d m a h Q) : xCi d m a h Q' := xC_mono (fun _ _ ⟨x, e, q⟩ => ⟨x, e, f _ _ q⟩) H
theorem xCr_mono {d m : Nat} {a : List xV} {h : xH} {Q Q' : Int → xH → Prop} (f : ∀ v h', Q v h' → Q' v h') (H : xCr d m a h Q) : xCr d m a h Q' := xC_mono (fun _ _ ⟨x, e, q⟩ => ⟨x, e, f _ _ q⟩) H
theorem xCl_mono {d m : Nat} {a : List xV} {h : xH} {Q Q' : Int → xH → Prop} (f : ∀ v h', Q v h' → Q' v h') (H : xCl d m a h Q) : xCl d m a h Q' := xC_mono (fun _ _ ⟨x, e, q⟩ => ⟨x, e, f _ _ q⟩) H
theorem xCv_mono {d m : Nat} {a : List xV} {h : xH} {Q Q' : xH → Prop} (f : ∀ h', Q h' → Q' h') (H : xCv d m a h Q) : xCv d m a h Q' := xC_mono (fun _ _ ⟨e, q⟩ => ⟨e, f _ q⟩) H
theorem xqi_mono {Q Q' : Int → xH → Prop} (f : ∀ v h', Q v h' → Q' v h') : ∀ v h', xqi Q v h' → xqi Q' v h' := fun _ _ ⟨x, e, q⟩ => ⟨x, e, f _ _ q⟩
theorem xqr_mono {Q Q' : Int → xH → Prop} (f : ∀ v h', Q v h' → Q' v h') : ∀ v h', xqr Q v h' → xqr Q' v h' := fun _ _ ⟨x, e, q⟩ => ⟨x, e, f _ _ q⟩
theorem xqv_mono {Q Q' : xH → Prop} (f : ∀ h', Q h' → Q' h') : ∀ v h', xqv Q v h' → xqv Q' v h' := fun _ _ ⟨e, q⟩ => ⟨e, f _ q⟩
theorem x_enter {d m : Nat} {a ls : List xV} {h : xH} {Q : xV → xH → Prop} (hl : a ++ List.replicate ((xmi m).1 - (xmi m).2) (9, 0) = ls) (H : xT d m 0 ls [] h Q) : xC (d + 1) m a h Q := ⟨Nat.succ_pos d, by rw [hl]; exact H⟩
theorem x_ite {c : Prop} [Decidable c] {A B A' B' : Prop} (f : c → A → A') (g : ¬ c → B → B') (H : if c then A else B) : if c then A' else B' := by
  by_cases hc : c
  · rw [if_pos hc] at H ⊢; exact f hc H
  · rw [if_neg hc] at H ⊢; exact g hc H
theorem x_itt {c : Prop} [Decidable c] {A B : Prop} (hc : c) (H : A) : if c then A else B := by rw [if_pos hc]; exact H
theorem x_itf {c : Prop} [Decidable c] {A B : Prop} (hc : ¬ c) (H : B) : if c then A else B := by rw [if_neg hc]; exact H
section XT
variable {d m k : Nat} {ls st : List xV} {h : xH} {Q : xV → xH → Prop}
theorem xt_step {k' : Nat} {ls' st' : List xV} {h' : xH} (h1 : (xcd m k).1 ≠ 31) (h2 : (xcd m k).1 ≠ 32) (h3 : (xcd m k).1 ≠ 33) (hs : xstp xsw (xcd m k) k ls st h = some (k', ls', st', h')) (H : xT d m k' ls' st' h' Q) : xT d m k ls st h Q := by
  obtain ⟨n, v, h2', e, q⟩ := H
  refine ⟨n + 1, v, h2', ?_, q⟩
  rw [xrun_s, if_neg h1, if_neg h2, if_neg h3, hs]
  exact e
theorem xt_const {a b c : Int} (hc : xcd m k = (1, a, b, c)) (H : xT d m (k + 1) ls ((0, a) :: st) h Q) : xT d m k ls st h Q := by
  refine xt_step (by rw [hc]; exact of_decide_eq_true rfl) (by rw [hc]; exact of_decide_eq_true rfl) (by rw [hc]; exact of_decide_eq_true rfl) (by rw [hc]; simp [xstp]) H
theorem xt_load {a b c : Int} {v : xV} (hc : xcd m k = (2, a, b, c)) (hl : ls[a.toNat]? = some v) (hv : v.1 = b.toNat) (H : xT d m (k + 1) ls (v :: st) h Q) : xT d m k ls st h Q := by
  refine xt_step (by rw [hc]; exact of_decide_eq_true rfl) (by rw [hc]; exact of_decide_eq_true rfl) (by rw [hc]; exact of_decide_eq_true rfl) (by rw [hc]; simp [xstp, hl, hv]) H
theorem xt_store {a b c : Int} {v : xV} {ls' : List xV} (hc : xcd m k = (3, a, b, c)) (hv : v.1 = b.toNat) (h3 : v.1 < 3) (hn : a.toNat < ls.length) (hl : xst ls a.toNat v = ls') (H : xT d m (k + 1) ls' st h Q) : xT d m k ls (v :: st) h Q := by
  have h3 : b.toNat < 3 := hv ▸ h3; refine xt_step (by rw [hc]; exact of_decide_eq_true rfl) (by rw [hc]; exact of_decide_eq_true rfl) (by rw [hc]; exact of_decide_eq_true rfl) (by rw [hc]; simp [xstp, hl, hv, hn, h3]) H
theorem xt_iinc {a b c x : Int} {ls' : List xV} (hc : xcd m k = (4, a, b, c)) (hv : ls[a.toNat]? = some (0, x)) (hl : xst ls a.toNat (0, xw (x + b)) = ls') (H : xT d m (k + 1) ls' st h Q) : xT d m k ls st h Q := by
  refine xt_step (by rw [hc]; exact of_decide_eq_true rfl) (by rw [hc]; exact of_decide_eq_true rfl) (by rw [hc]; exact of_decide_eq_true rfl) (by rw [hc]; simp [xstp, hl, hv]) H
theorem xt_iadd {a b c x y : Int} (hc : xcd m k = (50, a, b, c)) (H : xT d m (k + 1) ls ((0, xw (x + y)) :: st) h Q) : xT d m k ls ((0, y) :: (0, x) :: st) h Q := by
  refine xt_step (by rw [hc]; exact of_decide_eq_true rfl) (by rw [hc]; exact of_decide_eq_true rfl) (by rw [hc]; exact of_decide_eq_true rfl) (by rw [hc]; simp [xstp]) H
theorem xt_isub {a b c x y : Int} (hc : xcd m k = (51, a, b, c)) (H : xT d m (k + 1) ls ((0, xw (x - y)) :: st) h Q) : xT d m k ls ((0, y) :: (0, x) :: st) h Q := by
  refine xt_step (by rw [hc]; exact of_decide_eq_true rfl) (by rw [hc]; exact of_decide_eq_true rfl) (by rw [hc]; exact of_decide_eq_true rfl) (by rw [hc]; simp [xstp]) H
theorem xt_imul {a b c x y : Int} (hc : xcd m k = (52, a, b, c)) (H : xT d m (k + 1) ls ((0, xw (x * y)) :: st) h Q) : xT d m k ls ((0, y) :: (0, x) :: st) h Q := by
  refine xt_step (by rw [hc]; exact of_decide_eq_true rfl) (by rw [hc]; exact of_decide_eq_true rfl) (by rw [hc]; exact of_decide_eq_true rfl) (by rw [hc]; simp [xstp]) H
theorem xt_iand {a b c x y : Int} (hc : xcd m k = (53, a, b, c)) (H : xT d m (k + 1) ls ((0, xand x y) :: st) h Q) : xT d m k ls ((0, y) :: (0, x) :: st) h Q := by
  refine xt_step (by rw [hc]; exact of_decide_eq_true rfl) (by rw [hc]; exact of_decide_eq_true rfl) (by rw [hc]; exact of_decide_eq_true rfl) (by rw [hc]; simp [xstp]) H
theorem xt_ior {a b c x y : Int} (hc : xcd m k = (54, a, b, c)) (H : xT d m (k + 1) ls ((0, xor_ x y) :: st) h Q) : xT d m k ls ((0, y) :: (0, x) :: st) h Q := by
  refine xt_step (by rw [hc]; exact of_decide_eq_true rfl) (by rw [hc]; exact of_decide_eq_true rfl) (by rw [hc]; exact of_decide_eq_true rfl) (by rw [hc]; simp [xstp]) H
theorem xt_ixor {a b c x y : Int} (hc : xcd m k = (55, a, b, c)) (H : xT d m (k + 1) ls ((0, xxor x y) :: st) h Q) : xT d m k ls ((0, y) :: (0, x) :: st) h Q := by
  refine xt_step (by rw [hc]; exact of_decide_eq_true rfl) (by rw [hc]; exact of_decide_eq_true rfl) (by rw [hc]; exact of_decide_eq_true rfl) (by rw [hc]; simp [xstp]) H
theorem xt_ishl {a b c x y : Int} (hc : xcd m k = (56, a, b, c)) (H : xT d m (k + 1) ls ((0, xshl x y) :: st) h Q) : xT d m k ls ((0, y) :: (0, x) :: st) h Q := by
  refine xt_step (by rw [hc]; exact of_decide_eq_true rfl) (by rw [hc]; exact of_decide_eq_true rfl) (by rw [hc]; exact of_decide_eq_true rfl) (by rw [hc]; simp [xstp]) H
theorem xt_ishr {a b c x y : Int} (hc : xcd m k = (57, a, b, c)) (H : xT d m (k + 1) ls ((0, xshr x y) :: st) h Q) : xT d m k ls ((0, y) :: (0, x) :: st) h Q := by
  refine xt_step (by rw [hc]; exact of_decide_eq_true rfl) (by rw [hc]; exact of_decide_eq_true rfl) (by rw [hc]; exact of_decide_eq_true rfl) (by rw [hc]; simp [xstp]) H
theorem xt_iushr {a b c x y : Int} (hc : xcd m k = (58, a, b, c)) (H : xT d m (k + 1) ls ((0, xushr x y) :: st) h Q) : xT d m k ls ((0, y) :: (0, x) :: st) h Q := by
  refine xt_step (by rw [hc]; exact of_decide_eq_true rfl) (by rw [hc]; exact of_decide_eq_true rfl) (by rw [hc]; exact of_decide_eq_true rfl) (by rw [hc]; simp [xstp]) H
theorem xt_idiv {a b c x y : Int} (hc : xcd m k = (59, a, b, c)) (hy : ¬ y = 0) (H : xT d m (k + 1) ls ((0, xdiv x y) :: st) h Q) : xT d m k ls ((0, y) :: (0, x) :: st) h Q := by
  refine xt_step (by rw [hc]; exact of_decide_eq_true rfl) (by rw [hc]; exact of_decide_eq_true rfl) (by rw [hc]; exact of_decide_eq_true rfl) (by rw [hc]; simp [xstp, hy]) H
theorem xt_irem {a b c x y : Int} (hc : xcd m k = (60, a, b, c)) (hy : ¬ y = 0) (H : xT d m (k + 1) ls ((0, xrem x y) :: st) h Q) : xT d m k ls ((0, y) :: (0, x) :: st) h Q := by
  refine xt_step (by rw [hc]; exact of_decide_eq_true rfl) (by rw [hc]; exact of_decide_eq_true rfl) (by rw [hc]; exact of_decide_eq_true rfl) (by rw [hc]; simp [xstp, hy]) H
theorem xt_i2b {a b c x : Int} (hc : xcd m k = (61, a, b, c)) (H : xT d m (k + 1) ls ((0, xw8 x) :: st) h Q) : xT d m k ls ((0, x) :: st) h Q := by
  refine xt_step (by rw [hc]; exact of_decide_eq_true rfl) (by rw [hc]; exact of_decide_eq_true rfl) (by rw [hc]; exact of_decide_eq_true rfl) (by rw [hc]; simp [xstp]) H
theorem xt_dup {a b c : Int} {v : xV} (hc : xcd m k = (70, a, b, c)) (hv : ¬ v.1 = 3) (H : xT d m (k + 1) ls (v :: v :: st) h Q) : xT d m k ls (v :: st) h Q := by
  refine xt_step (by rw [hc]; exact of_decide_eq_true rfl) (by rw [hc]; exact of_decide_eq_true rfl) (by rw [hc]; exact of_decide_eq_true rfl) (by rw [hc]; simp [xstp, hv]) H
theorem xt_dup2 {a b c : Int} {v w : xV} (hc : xcd m k = (71, a, b, c)) (hv : ¬ v.1 = 3) (hw : ¬ w.1 = 3) (H : xT d m (k + 1) ls (v :: w :: v :: w :: st) h Q) : xT d m k ls (v :: w :: st) h Q := by
  refine xt_step (by rw [hc]; exact of_decide_eq_true rfl) (by rw [hc]; exact of_decide_eq_true rfl) (by rw [hc]; exact of_decide_eq_true rfl) (by rw [hc]; simp [xstp, hv, hw]) H
theorem xt_dupx1 {a b c : Int} {v w : xV} (hc : xcd m k = (72, a, b, c)) (hv : ¬ v.1 = 3) (hw : ¬ w.1 = 3) (H : xT d m (k + 1) ls (v :: w :: v :: st) h Q) : xT d m k ls (v :: w :: st) h Q := by
  refine xt_step (by rw [hc]; exact of_decide_eq_true rfl) (by rw [hc]; exact of_decide_eq_true rfl) (by rw [hc]; exact of_decide_eq_true rfl) (by rw [hc]; simp [xstp, hv, hw]) H
theorem xt_pop {a b c : Int} {v : xV} (hc : xcd m k = (73, a, b, c)) (hv : ¬ v.1 = 3) (H : xT d m (k + 1) ls st h Q) : xT d m k ls (v :: st) h Q := by
  refine xt_step (by rw [hc]; exact of_decide_eq_true rfl) (by rw [hc]; exact of_decide_eq_true rfl) (by rw [hc]; exact of_decide_eq_true rfl) (by rw [hc]; simp [xstp, hv]) H
theorem xt_if_eq {a b c x : Int} (hc : xcd m k = (130, a, b, c)) (H : if x = 0 then xT d m (a.toNat) ls st h Q else xT d m (k + 1) ls st h Q) : xT d m k ls ((0, x) :: st) h Q := by
  by_cases e : x = 0
  · rw [if_pos e] at H; refine xt_step (by rw [hc]; exact of_decide_eq_true rfl) (by rw [hc]; exact of_decide_eq_true rfl) (by rw [hc]; exact of_decide_eq_true rfl) (by rw [hc]; simp only [xstp]; simp [e]) H
  · rw [if_neg e] at H; refine xt_step (by rw [hc]; exact of_decide_eq_true rfl) (by rw [hc]; exact of_decide_eq_true rfl) (by rw [hc]; exact of_decide_eq_true rfl) (by rw [hc]; simp only [xstp]; simp [e]) H
theorem xt_if_ne {a b c x : Int} (hc : xcd m k = (131, a, b, c)) (H : if x = 0 then xT d m (k + 1) ls st h Q else xT d m (a.toNat) ls st h Q) : xT d m k ls ((0, x) :: st) h Q := by
  by_cases e : x = 0
  · rw [if_pos e] at H; refine xt_step (by rw [hc]; exact of_decide_eq_true rfl) (by rw [hc]; exact of_decide_eq_true rfl) (by rw [hc]; exact of_decide_eq_true rfl) (by rw [hc]; simp only [xstp]; simp [e]) H
  · rw [if_neg e] at H; refine xt_step (by rw [hc]; exact of_decide_eq_true rfl) (by rw [hc]; exact of_decide_eq_true rfl) (by rw [hc]; exact of_decide_eq_true rfl) (by rw [hc]; simp only [xstp]; simp [e]) H
theorem xt_if_lt {a b c x : Int} (hc : xcd m k = (132, a, b, c)) (H : if x < 0 then xT d m (a.toNat) ls st h Q else xT d m (k + 1) ls st h Q) : xT d m k ls ((0, x) :: st) h Q := by
  by_cases e : x < 0
  · rw [if_pos e] at H; refine xt_step (by rw [hc]; exact of_decide_eq_true rfl) (by rw [hc]; exact of_decide_eq_true rfl) (by rw [hc]; exact of_decide_eq_true rfl) (by rw [hc]; simp only [xstp]; simp [e]) H
  · rw [if_neg e] at H; refine xt_step (by rw [hc]; exact of_decide_eq_true rfl) (by rw [hc]; exact of_decide_eq_true rfl) (by rw [hc]; exact of_decide_eq_true rfl) (by rw [hc]; simp only [xstp]; simp [e]) H
theorem xt_if_ge {a b c x : Int} (hc : xcd m k = (133, a, b, c)) (H : if x < 0 then xT d m (k + 1) ls st h Q else xT d m (a.toNat) ls st h Q) : xT d m k ls ((0, x) :: st) h Q := by
  by_cases e : x < 0
  · rw [if_pos e] at H; refine xt_step (by rw [hc]; exact of_decide_eq_true rfl) (by rw [hc]; exact of_decide_eq_true rfl) (by rw [hc]; exact of_decide_eq_true rfl) (by rw [hc]; simp only [xstp]; simp [e]) H
  · rw [if_neg e] at H; refine xt_step (by rw [hc]; exact of_decide_eq_true rfl) (by rw [hc]; exact of_decide_eq_true rfl) (by rw [hc]; exact of_decide_eq_true rfl) (by rw [hc]; simp only [xstp]; simp [e]) H
theorem xt_if_gt {a b c x : Int} (hc : xcd m k = (134, a, b, c)) (H : if 0 < x then xT d m (a.toNat) ls st h Q else xT d m (k + 1) ls st h Q) : xT d m k ls ((0, x) :: st) h Q := by
  by_cases e : 0 < x
  · rw [if_pos e] at H; refine xt_step (by rw [hc]; exact of_decide_eq_true rfl) (by rw [hc]; exact of_decide_eq_true rfl) (by rw [hc]; exact of_decide_eq_true rfl) (by rw [hc]; simp only [xstp]; simp [e]) H
  · rw [if_neg e] at H; refine xt_step (by rw [hc]; exact of_decide_eq_true rfl) (by rw [hc]; exact of_decide_eq_true rfl) (by rw [hc]; exact of_decide_eq_true rfl) (by rw [hc]; simp only [xstp]; simp [e]) H
theorem xt_if_le {a b c x : Int} (hc : xcd m k = (135, a, b, c)) (H : if 0 < x then xT d m (k + 1) ls st h Q else xT d m (a.toNat) ls st h Q) : xT d m k ls ((0, x) :: st) h Q := by
  by_cases e : 0 < x
  · rw [if_pos e] at H; refine xt_step (by rw [hc]; exact of_decide_eq_true rfl) (by rw [hc]; exact of_decide_eq_true rfl) (by rw [hc]; exact of_decide_eq_true rfl) (by rw [hc]; simp only [xstp]; simp [e]) H
  · rw [if_neg e] at H; refine xt_step (by rw [hc]; exact of_decide_eq_true rfl) (by rw [hc]; exact of_decide_eq_true rfl) (by rw [hc]; exact of_decide_eq_true rfl) (by rw [hc]; simp only [xstp]; simp [e]) H
theorem xt_icmp_eq {a b c x y : Int} (hc : xcd m k = (140, a, b, c)) (H : if x = y then xT d m (a.toNat) ls st h Q else xT d m (k + 1) ls st h Q) : xT d m k ls ((0, y) :: (0, x) :: st) h Q := by
  by_cases e : x = y
  · rw [if_pos e] at H; refine xt_step (by rw [hc]; exact of_decide_eq_true rfl) (by rw [hc]; exact of_decide_eq_true rfl) (by rw [hc]; exact of_decide_eq_true rfl) (by rw [hc]; simp only [xstp]; simp [e]) H
  · rw [if_neg e] at H; refine xt_step (by rw [hc]; exact of_decide_eq_true rfl) (by rw [hc]; exact of_decide_eq_true rfl) (by rw [hc]; exact of_decide_eq_true rfl) (by rw [hc]; simp only [xstp]; simp [e]) H
theorem xt_icmp_ne {a b c x y : Int} (hc : xcd m k = (141, a, b, c)) (H : if x = y then xT d m (k + 1) ls st h Q else xT d m (a.toNat) ls st h Q) : xT d m k ls ((0, y) :: (0, x) :: st) h Q := by
  by_cases e : x = y
  · rw [if_pos e] at H; refine xt_step (by rw [hc]; exact of_decide_eq_true rfl) (by rw [hc]; exact of_decide_eq_true rfl) (by rw [hc]; exact of_decide_eq_true rfl) (by rw [hc]; simp only [xstp]; simp [e]) H
  · rw [if_neg e] at H; refine xt_step (by rw [hc]; exact of_decide_eq_true rfl) (by rw [hc]; exact of_decide_eq_true rfl) (by rw [hc]; exact of_decide_eq_true rfl) (by rw [hc]; simp only [xstp]; simp [e]) H
theorem xt_icmp_lt {a b c x y : Int} (hc : xcd m k = (142, a, b, c)) (H : if x < y then xT d m (a.toNat) ls st h Q else xT d m (k + 1) ls st h Q) : xT d m k ls ((0, y) :: (0, x) :: st) h Q := by
  by_cases e : x < y
  · rw [if_pos e] at H; refine xt_step (by rw [hc]; exact of_decide_eq_true rfl) (by rw [hc]; exact of_decide_eq_true rfl) (by rw [hc]; exact of_decide_eq_true rfl) (by rw [hc]; simp only [xstp]; simp [e]) H
  · rw [if_neg e] at H; refine xt_step (by rw [hc]; exact of_decide_eq_true rfl) (by rw [hc]; exact of_decide_eq_true rfl) (by rw [hc]; exact of_decide_eq_true rfl) (by rw [hc]; simp only [xstp]; simp [e]) H
theorem xt_icmp_ge {a b c x y : Int} (hc : xcd m k = (143, a, b, c)) (H : if x < y then xT d m (k + 1) ls st h Q else xT d m (a.toNat) ls st h Q) : xT d m k ls ((0, y) :: (0, x) :: st) h Q := by
  by_cases e : x < y
  · rw [if_pos e] at H; refine xt_step (by rw [hc]; exact of_decide_eq_true rfl) (by rw [hc]; exact of_decide_eq_true rfl) (by rw [hc]; exact of_decide_eq_true rfl) (by rw [hc]; simp only [xstp]; simp [e]) H
  · rw [if_neg e] at H; refine xt_step (by rw [hc]; exact of_decide_eq_true rfl) (by rw [hc]; exact of_decide_eq_true rfl) (by rw [hc]; exact of_decide_eq_true rfl) (by rw [hc]; simp only [xstp]; simp [e]) H
theorem xt_icmp_gt {a b c x y : Int} (hc : xcd m k = (144, a, b, c)) (H : if y < x then xT d m (a.toNat) ls st h Q else xT d m (k + 1) ls st h Q) : xT d m k ls ((0, y) :: (0, x) :: st) h Q := by
  by_cases e : y < x
  · rw [if_pos e] at H; refine xt_step (by rw [hc]; exact of_decide_eq_true rfl) (by rw [hc]; exact of_decide_eq_true rfl) (by rw [hc]; exact of_decide_eq_true rfl) (by rw [hc]; simp only [xstp]; simp [e]) H
  · rw [if_neg e] at H; refine xt_step (by rw [hc]; exact of_decide_eq_true rfl) (by rw [hc]; exact of_decide_eq_true rfl) (by rw [hc]; exact of_decide_eq_true rfl) (by rw [hc]; simp only [xstp]; simp [e]) H
theorem xt_icmp_le {a b c x y : Int} (hc : xcd m k = (145, a, b, c)) (H : if y < x then xT d m (k + 1) ls st h Q else xT d m (a.toNat) ls st h Q) : xT d m k ls ((0, y) :: (0, x) :: st) h Q := by
  by_cases e : y < x
  · rw [if_pos e] at H; refine xt_step (by rw [hc]; exact of_decide_eq_true rfl) (by rw [hc]; exact of_decide_eq_true rfl) (by rw [hc]; exact of_decide_eq_true rfl) (by rw [hc]; simp only [xstp]; simp [e]) H
  · rw [if_neg e] at H; refine xt_step (by rw [hc]; exact of_decide_eq_true rfl) (by rw [hc]; exact of_decide_eq_true rfl) (by rw [hc]; exact of_decide_eq_true rfl) (by rw [hc]; simp only [xstp]; simp [e]) H
theorem xt_ifnull {a b c x : Int} (hc : xcd m k = (17, a, b, c)) (H : if x = 0 then xT d m (a.toNat) ls st h Q else xT d m (k + 1) ls st h Q) : xT d m k ls ((1, x) :: st) h Q := by
  by_cases e : x = 0
  · rw [if_pos e] at H; refine xt_step (by rw [hc]; exact of_decide_eq_true rfl) (by rw [hc]; exact of_decide_eq_true rfl) (by rw [hc]; exact of_decide_eq_true rfl) (by rw [hc]; simp only [xstp]; simp [e]) H
  · rw [if_neg e] at H; refine xt_step (by rw [hc]; exact of_decide_eq_true rfl) (by rw [hc]; exact of_decide_eq_true rfl) (by rw [hc]; exact of_decide_eq_true rfl) (by rw [hc]; simp only [xstp]; simp [e]) H
theorem xt_ifnonnull {a b c x : Int} (hc : xcd m k = (18, a, b, c)) (H : if x = 0 then xT d m (k + 1) ls st h Q else xT d m (a.toNat) ls st h Q) : xT d m k ls ((1, x) :: st) h Q := by
  by_cases e : x = 0
  · rw [if_pos e] at H; refine xt_step (by rw [hc]; exact of_decide_eq_true rfl) (by rw [hc]; exact of_decide_eq_true rfl) (by rw [hc]; exact of_decide_eq_true rfl) (by rw [hc]; simp only [xstp]; simp [e]) H
  · rw [if_neg e] at H; refine xt_step (by rw [hc]; exact of_decide_eq_true rfl) (by rw [hc]; exact of_decide_eq_true rfl) (by rw [hc]; exact of_decide_eq_true rfl) (by rw [hc]; simp only [xstp]; simp [e]) H
theorem xt_goto {a b c : Int} (hc : xcd m k = (15, a, b, c)) (H : xT d m a.toNat ls st h Q) : xT d m k ls st h Q := by
  refine xt_step (by rw [hc]; exact of_decide_eq_true rfl) (by rw [hc]; exact of_decide_eq_true rfl) (by rw [hc]; exact of_decide_eq_true rfl) (by rw [hc]; simp [xstp]) H
theorem xt_switch {a b c x : Int} (hc : xcd m k = (16, a, b, c)) (H : if x < b ∨ b + (xsw a.toNat).length ≤ x then xT d m c.toNat ls st h Q else xT d m ((xsw a.toNat).getD (x - b).toNat 0).toNat ls st h Q) : xT d m k ls ((0, x) :: st) h Q := by
  by_cases e : x < b ∨ b + (xsw a.toNat).length ≤ x
  · rw [if_pos e] at H; refine xt_step (by rw [hc]; exact of_decide_eq_true rfl) (by rw [hc]; exact of_decide_eq_true rfl) (by rw [hc]; exact of_decide_eq_true rfl) (by rw [hc]; simp only [xstp]; simp [e]) H
  · rw [if_neg e] at H; refine xt_step (by rw [hc]; exact of_decide_eq_true rfl) (by rw [hc]; exact of_decide_eq_true rfl) (by rw [hc]; exact of_decide_eq_true rfl) (by rw [hc]; simp only [xstp]; simp [e]) H
theorem xt_null {a b c : Int} (hc : xcd m k = (19, a, b, c)) (H : xT d m (k + 1) ls ((1, 0) :: st) h Q) : xT d m k ls st h Q := by
  refine xt_step (by rw [hc]; exact of_decide_eq_true rfl) (by rw [hc]; exact of_decide_eq_true rfl) (by rw [hc]; exact of_decide_eq_true rfl) (by rw [hc]; simp [xstp]) H
theorem xt_geti {a b p : Int} (hc : xcd m k = (20, a, b, 0)) (ht : h.tag p = a) (H : xT d m (k + 1) ls ((0, h.i p b) :: st) h Q) : xT d m k ls ((1, p) :: st) h Q := by
  refine xt_step (by rw [hc]; exact of_decide_eq_true rfl) (by rw [hc]; exact of_decide_eq_true rfl) (by rw [hc]; exact of_decide_eq_true rfl) (by rw [hc]; simp [xstp, ht]) H
theorem xt_getr {a b p : Int} (hc : xcd m k = (20, a, b, 1)) (ht : h.tag p = a) (H : xT d m (k + 1) ls ((1, h.r p b) :: st) h Q) : xT d m k ls ((1, p) :: st) h Q := by
  refine xt_step (by rw [hc]; exact of_decide_eq_true rfl) (by rw [hc]; exact of_decide_eq_true rfl) (by rw [hc]; exact of_decide_eq_true rfl) (by rw [hc]; simp [xstp, ht]) H
theorem xt_puti {a b p v : Int} (hc : xcd m k = (21, a, b, 0)) (ht : h.tag p = a) (H : xT d m (k + 1) ls st (h.wi p b v) Q) : xT d m k ls ((0, v) :: (1, p) :: st) h Q := by
  refine xt_step (by rw [hc]; exact of_decide_eq_true rfl) (by rw [hc]; exact of_decide_eq_true rfl) (by rw [hc]; exact of_decide_eq_true rfl) (by rw [hc]; simp [xstp, ht]) H
theorem xt_putz {a b p v : Int} (hc : xcd m k = (21, a, b, 2)) (ht : h.tag p = a) (hz : v = 0 ∨ v = 1) (H : xT d m (k + 1) ls st (h.wi p b v) Q) : xT d m k ls ((0, v) :: (1, p) :: st) h Q := by
  refine xt_step (by rw [hc]; exact of_decide_eq_true rfl) (by rw [hc]; exact of_decide_eq_true rfl) (by rw [hc]; exact of_decide_eq_true rfl) (by rw [hc]; simp [xstp, ht, hz]) H
theorem xt_putr {a b p v : Int} (hc : xcd m k = (21, a, b, 1)) (ht : h.tag p = a) (H : xT d m (k + 1) ls st (h.wr p b v) Q) : xT d m k ls ((1, v) :: (1, p) :: st) h Q := by
  refine xt_step (by rw [hc]; exact of_decide_eq_true rfl) (by rw [hc]; exact of_decide_eq_true rfl) (by rw [hc]; exact of_decide_eq_true rfl) (by rw [hc]; simp [xstp, ht]) H
theorem xt_ald {a b c p x : Int} (hc : xcd m k = (22, a, b, c)) (ht : h.tag p = a) (h0 : 0 ≤ x) (h1 : x < h.len p) (H : xT d m (k + 1) ls ((0, h.i p x) :: st) h Q) : xT d m k ls ((0, x) :: (1, p) :: st) h Q := by
  refine xt_step (by rw [hc]; exact of_decide_eq_true rfl) (by rw [hc]; exact of_decide_eq_true rfl) (by rw [hc]; exact of_decide_eq_true rfl) (by rw [hc]; simp [xstp, ht, h0, h1]) H
theorem xt_iast {b c p x v : Int} (hc : xcd m k = (23, 20, b, c)) (ht : h.tag p = 20) (h0 : 0 ≤ x) (h1 : x < h.len p) (H : xT d m (k + 1) ls st (h.wi p x v) Q) : xT d m k ls ((0, v) :: (0, x) :: (1, p) :: st) h Q := by
  refine xt_step (by rw [hc]; exact of_decide_eq_true rfl) (by rw [hc]; exact of_decide_eq_true rfl) (by rw [hc]; exact of_decide_eq_true rfl) (by rw [hc]; simp [xstp, ht, h0, h1]) H
theorem xt_bast {b c p x v : Int} (hc : xcd m k = (23, 21, b, c)) (ht : h.tag p = 21) (h0 : 0 ≤ x) (h1 : x < h.len p) (H : xT d m (k + 1) ls st (h.wi p x (xw8 v)) Q) : xT d m k ls ((0, v) :: (0, x) :: (1, p) :: st) h Q := by
  refine xt_step (by rw [hc]; exact of_decide_eq_true rfl) (by rw [hc]; exact of_decide_eq_true rfl) (by rw [hc]; exact of_decide_eq_true rfl) (by rw [hc]; simp [xstp, ht, h0, h1]) H
theorem xt_zast {b c p x v : Int} (hc : xcd m k = (23, 22, b, c)) (ht : h.tag p = 22) (h0 : 0 ≤ x) (h1 : x < h.len p) (H : xT d m (k + 1) ls st (h.wi p x (v % 2)) Q) : xT d m k ls ((0, v) :: (0, x) :: (1, p) :: st) h Q := by
  refine xt_step (by rw [hc]; exact of_decide_eq_true rfl) (by rw [hc]; exact of_decide_eq_true rfl) (by rw [hc]; exact of_decide_eq_true rfl) (by rw [hc]; simp [xstp, ht, h0, h1]) H
theorem xt_aald {a b c p x : Int} (hc : xcd m k = (24, a, b, c)) (ht : h.tag p = a) (h0 : 0 ≤ x) (h1 : x < h.len p) (H : xT d m (k + 1) ls ((1, h.r p x) :: st) h Q) : xT d m k ls ((0, x) :: (1, p) :: st) h Q := by
  refine xt_step (by rw [hc]; exact of_decide_eq_true rfl) (by rw [hc]; exact of_decide_eq_true rfl) (by rw [hc]; exact of_decide_eq_true rfl) (by rw [hc]; simp [xstp, ht, h0, h1]) H
theorem xt_aast {a b c p x v : Int} (hc : xcd m k = (25, a, b, c)) (ht : h.tag p = a) (h0 : 0 ≤ x) (h1 : x < h.len p) (hv : v = 0 ∨ h.tag v = b) (H : xT d m (k + 1) ls st (h.wr p x v) Q) : xT d m k ls ((1, v) :: (0, x) :: (1, p) :: st) h Q := by
  refine xt_step (by rw [hc]; exact of_decide_eq_true rfl) (by rw [hc]; exact of_decide_eq_true rfl) (by rw [hc]; exact of_decide_eq_true rfl) (by rw [hc]; simp [xstp, ht, h0, h1, hv]) H
theorem xt_alen {a b c p : Int} (hc : xcd m k = (26, a, b, c)) (ht : h.tag p = a) (H : xT d m (k + 1) ls ((0, h.len p) :: st) h Q) : xT d m k ls ((1, p) :: st) h Q := by
  refine xt_step (by rw [hc]; exact of_decide_eq_true rfl) (by rw [hc]; exact of_decide_eq_true rfl) (by rw [hc]; exact of_decide_eq_true rfl) (by rw [hc]; simp [xstp, ht]) H
theorem xt_newa {a b c n : Int} (hc : xcd m k = (27, a, b, c)) (h0 : 0 ≤ n) (h1 : n ≤ 7302250) (H : xT d m (k + 1) ls ((1, h.nx) :: st) (h.al a n) Q) : xT d m k ls ((0, n) :: st) h Q := by
  refine xt_step (by rw [hc]; exact of_decide_eq_true rfl) (by rw [hc]; exact of_decide_eq_true rfl) (by rw [hc]; exact of_decide_eq_true rfl) (by rw [hc]; simp [xstp, h0, h1]) H
theorem xt_new {a b c : Int} (hc : xcd m k = (29, a, b, c)) (H : xT d m (k + 1) ls ((1, h.nx) :: st) (h.al a b) Q) : xT d m k ls st h Q := by
  refine xt_step (by rw [hc]; exact of_decide_eq_true rfl) (by rw [hc]; exact of_decide_eq_true rfl) (by rw [hc]; exact of_decide_eq_true rfl) (by rw [hc]; simp [xstp]) H
theorem xt_objinit {a b c p : Int} (hc : xcd m k = (30, a, b, c)) (hp : ¬ p = 0) (hs : xcat st ≤ 20) (H : xT d m (k + 1) ls st h Q) : xT d m k ls ((1, p) :: st) h Q := by
  refine xt_step (by rw [hc]; exact of_decide_eq_true rfl) (by rw [hc]; exact of_decide_eq_true rfl) (by rw [hc]; exact of_decide_eq_true rfl) (by rw [hc]; simp [xstp, hp, Nat.not_lt.mpr hs]) H
theorem xt_max {a b c x y : Int} (hc : xcd m k = (34, a, b, c)) (hs : xcat st ≤ 20) (H : xT d m (k + 1) ls ((0, if x < y then y else x) :: st) h Q) : xT d m k ls ((0, y) :: (0, x) :: st) h Q := by
  refine xt_step (by rw [hc]; exact of_decide_eq_true rfl) (by rw [hc]; exact of_decide_eq_true rfl) (by rw [hc]; exact of_decide_eq_true rfl) (by rw [hc]; simp [xstp, hs]) H
theorem xt_min {a b c x y : Int} (hc : xcd m k = (35, a, b, c)) (hs : xcat st ≤ 20) (H : xT d m (k + 1) ls ((0, if y < x then y else x) :: st) h Q) : xT d m k ls ((0, y) :: (0, x) :: st) h Q := by
  refine xt_step (by rw [hc]; exact of_decide_eq_true rfl) (by rw [hc]; exact of_decide_eq_true rfl) (by rw [hc]; exact of_decide_eq_true rfl) (by rw [hc]; simp [xstp, hs]) H
theorem xt_copy {a b c n dp q sp s : Int} (hc : xcd m k = (36, a, b, c)) (h1 : h.tag s = 20) (h2 : h.tag q = 20) (h3 : 0 ≤ sp) (h4 : 0 ≤ dp) (h5 : 0 ≤ n) (h6 : sp + n ≤ h.len s) (h7 : dp + n ≤ h.len q) (hs : xcat st ≤ 20) (H : xT d m (k + 1) ls st (h.cp s sp q dp n) Q) : xT d m k ls ((0, n) :: (0, dp) :: (1, q) :: (0, sp) :: (1, s) :: st) h Q := by
  refine xt_step (by rw [hc]; exact of_decide_eq_true rfl) (by rw [hc]; exact of_decide_eq_true rfl) (by rw [hc]; exact of_decide_eq_true rfl) (by rw [hc]; simp [xstp, h1, h2, h3, h4, h5, h6, h7, hs]) H
theorem xt_clone {a b c s : Int} (hc : xcd m k = (37, a, b, c)) (ht : h.tag s = 20) (hs : xcat st ≤ 20) (H : xT d m (k + 1) ls ((1, h.nx) :: st) ((h.al 20 (h.len s)).cp s 0 h.nx 0 (h.len s)) Q) : xT d m k ls ((1, s) :: st) h Q := by
  refine xt_step (by rw [hc]; exact of_decide_eq_true rfl) (by rw [hc]; exact of_decide_eq_true rfl) (by rw [hc]; exact of_decide_eq_true rfl) (by rw [hc]; simp [xstp, ht, hs]) H
theorem xt_cast {a b c s : Int} (hc : xcd m k = (38, a, b, c)) (ht : h.tag s = 20) (H : xT d m (k + 1) ls ((1, s) :: st) h Q) : xT d m k ls ((1, s) :: st) h Q := by
  refine xt_step (by rw [hc]; exact of_decide_eq_true rfl) (by rw [hc]; exact of_decide_eq_true rfl) (by rw [hc]; exact of_decide_eq_true rfl) (by rw [hc]; simp [xstp, ht]) H
theorem xt_lconst {a b c : Int} (hc : xcd m k = (40, a, b, c)) (H : xT d m (k + 1) ls ((3, a) :: st) h Q) : xT d m k ls st h Q := by
  refine xt_step (by rw [hc]; exact of_decide_eq_true rfl) (by rw [hc]; exact of_decide_eq_true rfl) (by rw [hc]; exact of_decide_eq_true rfl) (by rw [hc]; simp [xstp]) H
theorem xt_ladd {a b c x y : Int} (hc : xcd m k = (41, a, b, c)) (H : xT d m (k + 1) ls ((3, xladd x y) :: st) h Q) : xT d m k ls ((3, y) :: (3, x) :: st) h Q := by
  refine xt_step (by rw [hc]; exact of_decide_eq_true rfl) (by rw [hc]; exact of_decide_eq_true rfl) (by rw [hc]; exact of_decide_eq_true rfl) (by rw [hc]; simp [xstp]) H
theorem xt_lmul {a b c x y : Int} (hc : xcd m k = (42, a, b, c)) (H : xT d m (k + 1) ls ((3, xlmul x y) :: st) h Q) : xT d m k ls ((3, y) :: (3, x) :: st) h Q := by
  refine xt_step (by rw [hc]; exact of_decide_eq_true rfl) (by rw [hc]; exact of_decide_eq_true rfl) (by rw [hc]; exact of_decide_eq_true rfl) (by rw [hc]; simp [xstp]) H
theorem xt_ldiv {a b c x y : Int} (hc : xcd m k = (43, a, b, c)) (hy : ¬ y = 0) (H : xT d m (k + 1) ls ((3, xldiv x y) :: st) h Q) : xT d m k ls ((3, y) :: (3, x) :: st) h Q := by
  refine xt_step (by rw [hc]; exact of_decide_eq_true rfl) (by rw [hc]; exact of_decide_eq_true rfl) (by rw [hc]; exact of_decide_eq_true rfl) (by rw [hc]; simp [xstp, hy]) H
theorem xt_lrem {a b c x y : Int} (hc : xcd m k = (44, a, b, c)) (hy : ¬ y = 0) (H : xT d m (k + 1) ls ((3, xlrem x y) :: st) h Q) : xT d m k ls ((3, y) :: (3, x) :: st) h Q := by
  refine xt_step (by rw [hc]; exact of_decide_eq_true rfl) (by rw [hc]; exact of_decide_eq_true rfl) (by rw [hc]; exact of_decide_eq_true rfl) (by rw [hc]; simp [xstp, hy]) H
theorem xt_lcmp {a b c x y : Int} (hc : xcd m k = (45, a, b, c)) (H : xT d m (k + 1) ls ((0, xlcmp x y) :: st) h Q) : xT d m k ls ((3, y) :: (3, x) :: st) h Q := by
  refine xt_step (by rw [hc]; exact of_decide_eq_true rfl) (by rw [hc]; exact of_decide_eq_true rfl) (by rw [hc]; exact of_decide_eq_true rfl) (by rw [hc]; simp [xstp]) H
theorem xt_i2l {a b c x : Int} (hc : xcd m k = (46, a, b, c)) (H : xT d m (k + 1) ls ((3, x) :: st) h Q) : xT d m k ls ((0, x) :: st) h Q := by
  refine xt_step (by rw [hc]; exact of_decide_eq_true rfl) (by rw [hc]; exact of_decide_eq_true rfl) (by rw [hc]; exact of_decide_eq_true rfl) (by rw [hc]; simp [xstp]) H
theorem xt_l2i {a b c x : Int} (hc : xcd m k = (47, a, b, c)) (H : xT d m (k + 1) ls ((0, xl2i x) :: st) h Q) : xT d m k ls ((3, x) :: st) h Q := by
  refine xt_step (by rw [hc]; exact of_decide_eq_true rfl) (by rw [hc]; exact of_decide_eq_true rfl) (by rw [hc]; exact of_decide_eq_true rfl) (by rw [hc]; simp [xstp]) H
theorem xt_lstore {a b c : Int} {v : xV} {ls' : List xV} (hc : xcd m k = (48, a, b, c)) (hv : v.1 = 3) (hn : a.toNat + 1 < ls.length) (hl : (xst ls a.toNat v).set (a.toNat + 1) (9, 0) = ls') (H : xT d m (k + 1) ls' st h Q) : xT d m k ls (v :: st) h Q := by
  refine xt_step (by rw [hc]; exact of_decide_eq_true rfl) (by rw [hc]; exact of_decide_eq_true rfl) (by rw [hc]; exact of_decide_eq_true rfl) (by rw [hc]; simp [xstp, hl, hv, hn]) H
theorem xt_fconst {a b c : Int} (hc : xcd m k = (80, a, b, c)) (H : xT d m (k + 1) ls ((2, a) :: st) h Q) : xT d m k ls st h Q := by
  refine xt_step (by rw [hc]; exact of_decide_eq_true rfl) (by rw [hc]; exact of_decide_eq_true rfl) (by rw [hc]; exact of_decide_eq_true rfl) (by rw [hc]; simp [xstp]) H
theorem xt_fmul {a b c x y : Int} (hc : xcd m k = (81, a, b, c)) (hy : xn32 (FP.fmul (xuf x) (xuf y)) = true) (H : xT d m (k + 1) ls ((2, xfmul x y) :: st) h Q) : xT d m k ls ((2, y) :: (2, x) :: st) h Q := by
  refine xt_step (by rw [hc]; exact of_decide_eq_true rfl) (by rw [hc]; exact of_decide_eq_true rfl) (by rw [hc]; exact of_decide_eq_true rfl) (by rw [hc]; simp [xstp, hy]) H
theorem xt_fdiv {a b c x y : Int} (hc : xcd m k = (82, a, b, c)) (hy : xn32 (FP.fdiv (xuf x) (xuf y)) = true) (H : xT d m (k + 1) ls ((2, xfdiv x y) :: st) h Q) : xT d m k ls ((2, y) :: (2, x) :: st) h Q := by
  refine xt_step (by rw [hc]; exact of_decide_eq_true rfl) (by rw [hc]; exact of_decide_eq_true rfl) (by rw [hc]; exact of_decide_eq_true rfl) (by rw [hc]; simp [xstp, hy]) H
theorem xt_i2f {a b c x : Int} (hc : xcd m k = (83, a, b, c)) (H : xT d m (k + 1) ls ((2, xi2f x) :: st) h Q) : xT d m k ls ((0, x) :: st) h Q := by
  refine xt_step (by rw [hc]; exact of_decide_eq_true rfl) (by rw [hc]; exact of_decide_eq_true rfl) (by rw [hc]; exact of_decide_eq_true rfl) (by rw [hc]; simp [xstp]) H
theorem xt_f2i {a b c x : Int} (hc : xcd m k = (84, a, b, c)) (H : xT d m (k + 1) ls ((0, xf2i x) :: st) h Q) : xT d m k ls ((2, x) :: st) h Q := by
  refine xt_step (by rw [hc]; exact of_decide_eq_true rfl) (by rw [hc]; exact of_decide_eq_true rfl) (by rw [hc]; exact of_decide_eq_true rfl) (by rw [hc]; simp [xstp]) H
theorem xt_ret {a b c x : Int} {z : Nat} (hc : xcd m k = (33, a, b, c)) (hz : z = a.toNat) (h4 : z < 4) (hb : b = 1 → x = 0 ∨ x = 1) (H : Q (z, x) h) : xT d m k ls [(z, x)] h Q := by
  refine ⟨1, (z, x), h, ?_, H⟩
  have h4 : a.toNat < 4 := hz ▸ h4
  rw [xrun_s, hc]; simp [hz, h4]; exact fun e h0 => (hb e).resolve_left h0
theorem xt_reti {c x : Int} {P : Int → xH → Prop} (hc : xcd m k = (33, 0, 0, c)) (H : P x h) : xT d m k ls [(0, x)] h (xqi P) := xt_ret hc rfl (by decide) (fun e => absurd e (by decide)) ⟨x, rfl, H⟩
theorem xt_retz {c x : Int} {P : Int → xH → Prop} (hc : xcd m k = (33, 0, 1, c)) (hx : x = 0 ∨ x = 1) (H : P x h) : xT d m k ls [(0, x)] h (xqi P) := xt_ret hc rfl (by decide) (fun _ => hx) ⟨x, rfl, H⟩
theorem xt_retr {c x : Int} {P : Int → xH → Prop} (hc : xcd m k = (33, 1, 0, c)) (H : P x h) : xT d m k ls [(1, x)] h (xqr P) := xt_ret hc rfl (by decide) (fun e => absurd e (by decide)) ⟨x, rfl, H⟩
theorem xt_retl {c x : Int} {P : Int → xH → Prop} (hc : xcd m k = (33, 3, 0, c)) (H : P x h) : xT d m k ls [(3, x)] h (xql P) := xt_ret hc rfl (by decide) (fun e => absurd e (by decide)) ⟨x, rfl, H⟩
theorem xt_retv {a b c : Int} {P : xH → Prop} (hc : xcd m k = (32, a, b, c)) (H : P h) : xT d m k ls [] h (xqv P) := by
  refine ⟨1, (9, 0), h, ?_, rfl, H⟩
  rw [xrun_s, hc]; simp
theorem xt_call {a b c : Int} {ml na : Nat} {as rest : List xV} (hc : xcd m k = (31, a, b, c)) (hm : xmi a.toNat = (ml, na)) (hn : as.length = na) (hx : xcat as.reverse = na) (hs : st = as.reverse ++ rest) (hr : xcat rest ≤ 8) (hb : b = 0 ∨ xrecv h as c = true) (H : xC d a.toNat as h (fun v h' => xT d m (k + 1) ls (if v.1 = 9 then rest else v :: rest) h' Q)) : xT d m k ls st h Q := by
  obtain ⟨hd, n1, v1, h1, e1, n2, v2, h2, e2, q⟩ := H
  subst hs
  refine ⟨n1 + n2 + 1, v2, h2, ?_, q⟩
  have e1' := xrun_ups e1 n2
  have e2' := xrun_ups e2 n1
  rw [Nat.add_comm n2 n1] at e2'
  have t1 : (as.reverse ++ rest).take na = as.reverse := by rw [← hn, ← List.length_reverse, List.take_left']; rfl
  have t2 : (as.reverse ++ rest).drop na = rest := by rw [← hn, ← List.length_reverse, List.drop_left']; rfl
  rw [hm] at e1'
  rw [xrun_s, hc]
  simp only [hm, t1, t2, List.reverse_reverse, if_true]
  rw [if_neg (by simp only [List.length_append, List.length_reverse, hx]; omega), if_pos hb, e1']
  exact e2'
theorem xt_calli {a b c : Int} {ml na : Nat} {as rest : List xV} (hc : xcd m k = (31, a, b, c)) (hm : xmi a.toNat = (ml, na)) (hn : as.length = na) (hx : xcat as.reverse = na) (hs : st = as.reverse ++ rest) (hr : xcat rest ≤ 8) (hb : b = 0 ∨ xrecv h as c = true) (H : xCi d a.toNat as h (fun x h' => xT d m (k + 1) ls ((0, x) :: rest) h' Q)) : xT d m k ls st h Q :=
  xt_call hc hm hn hx hs hr hb (xC_mono (fun v h' ⟨x, e, q⟩ => by subst e; simpa using q) H)
theorem xt_callr {a b c : Int} {ml na : Nat} {as rest : List xV} (hc : xcd m k = (31, a, b, c)) (hm : xmi a.toNat = (ml, na)) (hn : as.length = na) (hx : xcat as.reverse = na) (hs : st = as.reverse ++ rest) (hr : xcat rest ≤ 8) (hb : b = 0 ∨ xrecv h as c = true) (H : xCr d a.toNat as h (fun x h' => xT d m (k + 1) ls ((1, x) :: rest) h' Q)) : xT d m k ls st h Q :=
  xt_call hc hm hn hx hs hr hb (xC_mono (fun v h' ⟨x, e, q⟩ => by subst e; simpa using q) H)
theorem xt_calll {a b c : Int} {ml na : Nat} {as rest : List xV} (hc : xcd m k = (31, a, b, c)) (hm : xmi a.toNat = (ml, na)) (hn : as.length = na) (hx : xcat as.reverse = na) (hs : st = as.reverse ++ rest) (hr : xcat rest ≤ 8) (hb : b = 0 ∨ xrecv h as c = true) (H : xCl d a.toNat as h (fun x h' => xT d m (k + 1) ls ((3, x) :: rest) h' Q)) : xT d m k ls st h Q :=
  xt_call hc hm hn hx hs hr hb (xC_mono (fun v h' ⟨x, e, q⟩ => by subst e; simpa using q) H)
theorem xt_callv {a b c : Int} {ml na : Nat} {as rest : List xV} (hc : xcd m k = (31, a, b, c)) (hm : xmi a.toNat = (ml, na)) (hn : as.length = na) (hx : xcat as.reverse = na) (hs : st = as.reverse ++ rest) (hr : xcat rest ≤ 8) (hb : b = 0 ∨ xrecv h as c = true) (H : xCv d a.toNat as h (fun h' => xT d m (k + 1) ls rest h' Q)) : xT d m k ls st h Q :=
  xt_call hc hm hn hx hs hr hb (xC_mono (fun v h' ⟨e, q⟩ => by subst e; simpa using q) H)
theorem x_recv {h : xH} {p c : Int} {l : List xV} (ht : h.tag p = c) : xrecv h ((1, p) :: l) c = true := by simp [xrecv, ht]
end XT
