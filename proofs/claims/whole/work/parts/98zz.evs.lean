/-! the constructors: the heap behind them, as a row of events (by program: wip/whole/gen/init.py) -/
/-- kinds: 0 a new cell (address, kind, length), 1 a number is written (cell, place, value), 2 a reference, 3 a row is filled (cell, value, length) -/
abbrev Ev : Type := Nat × Int × Int × Int
def xAl (h : xH) (a t n : Int) : xH := (h.1, h.2.1, xu1 h.tag a t, xu1 h.len a n, a + 1, h.us + n)
def xFl (h : xH) (c v n : Int) : xH := (fun b j => if b = c ∧ 0 ≤ j ∧ j < n then v else h.i b j, h.2)
def evB (e : Ev) (h : xH) : xH := if e.1 = 0 then xAl h e.2.1 e.2.2.1 e.2.2.2 else if e.1 = 1 then h.wi e.2.1 e.2.2.1 e.2.2.2 else if e.1 = 2 then h.wr e.2.1 e.2.2.1 e.2.2.2 else xFl h e.2.1 e.2.2.1 e.2.2.2
def bld (h : xH) : List Ev → xH
  | [] => h
  | e :: l => evB e (bld h l)
def tagE : List Ev → Int → Option Int
  | [], _ => none
  | e :: l, c => if e.1 = 0 ∧ e.2.1 = c then some e.2.2.1 else tagE l c
def lenE : List Ev → Int → Option Int
  | [], _ => none
  | e :: l, c => if e.1 = 0 ∧ e.2.1 = c then some e.2.2.2 else lenE l c
def nxE : List Ev → Int
  | [] => 2
  | e :: l => if e.1 = 0 then e.2.1 + 1 else nxE l
def usE : List Ev → Int
  | [] => 0
  | e :: l => if e.1 = 0 then usE l + e.2.2.2 else usE l
def rV : List Ev → Int → Int → Int
  | [], _, _ => 0
  | e :: l, c, k => if e.1 = 2 ∧ e.2.1 = c ∧ e.2.2.1 = k then e.2.2.2 else rV l c k
def iV : List Ev → Int → Int → Int
  | [], _, _ => 0
  | e :: l, c, k => if e.1 = 1 ∧ e.2.1 = c ∧ e.2.2.1 = k then e.2.2.2 else if 3 ≤ e.1 ∧ e.2.1 = c ∧ 0 ≤ k ∧ k < e.2.2.2 then e.2.2.1 else iV l c k
section BLD
variable {h : xH}
theorem ev_cases (e : Ev) : e.1 = 0 ∨ e.1 = 1 ∨ e.1 = 2 ∨ 3 ≤ e.1 := by omega
theorem ev0 {e : Ev} (z : e.1 = 0) : evB e h = xAl h e.2.1 e.2.2.1 e.2.2.2 := by
  unfold evB
  rw [if_pos z]
theorem ev1 {e : Ev} (z : e.1 = 1) : evB e h = h.wi e.2.1 e.2.2.1 e.2.2.2 := by
  unfold evB
  rw [if_neg (show ¬ e.1 = 0 by omega), if_pos z]
theorem ev2 {e : Ev} (z : e.1 = 2) : evB e h = h.wr e.2.1 e.2.2.1 e.2.2.2 := by
  unfold evB
  rw [if_neg (show ¬ e.1 = 0 by omega), if_neg (show ¬ e.1 = 1 by omega), if_pos z]
theorem ev3 {e : Ev} (z : 3 ≤ e.1) : evB e h = xFl h e.2.1 e.2.2.1 e.2.2.2 := by
  unfold evB
  rw [if_neg (show ¬ e.1 = 0 by omega), if_neg (show ¬ e.1 = 1 by omega), if_neg (show ¬ e.1 = 2 by omega)]
theorem xAl_t (a t n c : Int) : (xAl h a t n).tag c = if c = a then t else h.tag c := rfl
theorem xAl_l (a t n c : Int) : (xAl h a t n).len c = if c = a then n else h.len c := rfl
theorem xFl_i (c v n b j : Int) : (xFl h c v n).i b j = if b = c ∧ 0 ≤ j ∧ j < n then v else h.i b j := rfl
theorem xwr_r (a k v b j : Int) : (h.wr a k v).r b j = if b = a ∧ j = k then v else h.r b j := rfl
theorem tagE_c {e : Ev} {l : List Ev} {c : Int} : tagE (e :: l) c = if e.1 = 0 ∧ e.2.1 = c then some e.2.2.1 else tagE l c := rfl
theorem lenE_c {e : Ev} {l : List Ev} {c : Int} : lenE (e :: l) c = if e.1 = 0 ∧ e.2.1 = c then some e.2.2.2 else lenE l c := rfl
theorem nxE_c {e : Ev} {l : List Ev} : nxE (e :: l) = if e.1 = 0 then e.2.1 + 1 else nxE l := rfl
theorem usE_c {e : Ev} {l : List Ev} : usE (e :: l) = if e.1 = 0 then usE l + e.2.2.2 else usE l := rfl
theorem rV_c {e : Ev} {l : List Ev} {c k : Int} : rV (e :: l) c k = if e.1 = 2 ∧ e.2.1 = c ∧ e.2.2.1 = k then e.2.2.2 else rV l c k := rfl
theorem iV_c {e : Ev} {l : List Ev} {c k : Int} : iV (e :: l) c k = if e.1 = 1 ∧ e.2.1 = c ∧ e.2.2.1 = k then e.2.2.2 else if 3 ≤ e.1 ∧ e.2.1 = c ∧ 0 ≤ k ∧ k < e.2.2.2 then e.2.2.1 else iV l c k := rfl
theorem bld_c {e : Ev} {l : List Ev} : bld h (e :: l) = evB e (bld h l) := rfl
theorem bld_tag {l : List Ev} {c : Int} : (bld h l).tag c = (tagE l c).getD (h.tag c) := by
  induction l with
  | nil => rfl
  | cons e l ih =>
    rw [bld_c, tagE_c]
    rcases ev_cases e with z | z | z | z
    · rw [ev0 z, xAl_t]
      by_cases y : e.2.1 = c
      · rw [if_pos y.symm, if_pos ⟨z, y⟩]; rfl
      · rw [if_neg (fun q => y q.symm), if_neg (fun q => y q.2)]; exact ih
    · rw [ev1 z, if_neg (fun q => by have := q.1; omega)]; exact ih
    · rw [ev2 z, if_neg (fun q => by have := q.1; omega)]; exact ih
    · rw [ev3 z, if_neg (fun q => by have := q.1; omega)]; exact ih
theorem bld_len {l : List Ev} {c : Int} : (bld h l).len c = (lenE l c).getD (h.len c) := by
  induction l with
  | nil => rfl
  | cons e l ih =>
    rw [bld_c, lenE_c]
    rcases ev_cases e with z | z | z | z
    · rw [ev0 z, xAl_l]
      by_cases y : e.2.1 = c
      · rw [if_pos y.symm, if_pos ⟨z, y⟩]; rfl
      · rw [if_neg (fun q => y q.symm), if_neg (fun q => y q.2)]; exact ih
    · rw [ev1 z, if_neg (fun q => by have := q.1; omega)]; exact ih
    · rw [ev2 z, if_neg (fun q => by have := q.1; omega)]; exact ih
    · rw [ev3 z, if_neg (fun q => by have := q.1; omega)]; exact ih
theorem bld_nx (h2 : h.nx = 2) {l : List Ev} : (bld h l).nx = nxE l := by
  induction l with
  | nil => exact h2
  | cons e l ih =>
    rw [bld_c, nxE_c]
    rcases ev_cases e with z | z | z | z
    · rw [ev0 z, if_pos z]; rfl
    · rw [ev1 z, if_neg (show ¬ e.1 = 0 by omega)]; exact ih
    · rw [ev2 z, if_neg (show ¬ e.1 = 0 by omega)]; exact ih
    · rw [ev3 z, if_neg (show ¬ e.1 = 0 by omega)]; exact ih
theorem bld_us {l : List Ev} : (bld h l).us = h.us + usE l := by
  induction l with
  | nil => show h.us = h.us + 0; omega
  | cons e l ih =>
    rw [bld_c, usE_c]
    rcases ev_cases e with z | z | z | z
    · rw [ev0 z, if_pos z]
      show (bld h l).us + e.2.2.2 = _
      rw [ih]; omega
    · rw [ev1 z, if_neg (show ¬ e.1 = 0 by omega)]; exact ih
    · rw [ev2 z, if_neg (show ¬ e.1 = 0 by omega)]; exact ih
    · rw [ev3 z, if_neg (show ¬ e.1 = 0 by omega)]; exact ih
theorem bld_r (hr : ∀ c k, h.r c k = 0) {l : List Ev} {c k : Int} : (bld h l).r c k = rV l c k := by
  induction l with
  | nil => exact hr c k
  | cons e l ih =>
    rw [bld_c, rV_c]
    rcases ev_cases e with z | z | z | z
    · rw [ev0 z, if_neg (fun q => by have := q.1; omega)]; exact ih
    · rw [ev1 z, if_neg (fun q => by have := q.1; omega)]; exact ih
    · rw [ev2 z, xwr_r]
      by_cases y : e.2.1 = c ∧ e.2.2.1 = k
      · rw [if_pos ⟨y.1.symm, y.2.symm⟩, if_pos ⟨z, y⟩]
      · rw [if_neg (fun q => y ⟨q.1.symm, q.2.symm⟩), if_neg (fun q => y q.2)]; exact ih
    · rw [ev3 z, if_neg (fun q => by have := q.1; omega)]; exact ih
theorem bld_i {c : Int} (hi : ∀ k, h.i c k = 0) {l : List Ev} {k : Int} : (bld h l).i c k = iV l c k := by
  induction l with
  | nil => exact hi k
  | cons e l ih =>
    rw [bld_c, iV_c]
    rcases ev_cases e with z | z | z | z
    · rw [ev0 z, if_neg (fun q => by have := q.1; omega), if_neg (fun q => by have := q.1; omega)]; exact ih
    · rw [ev1 z, xi_wi]
      by_cases y : e.2.1 = c ∧ e.2.2.1 = k
      · rw [if_pos ⟨y.1.symm, y.2.symm⟩, if_pos ⟨z, y⟩]
      · rw [if_neg (fun q => y ⟨q.1.symm, q.2.symm⟩), if_neg (fun q => y q.2), if_neg (fun q => by have := q.1; omega)]; exact ih
    · rw [ev2 z, if_neg (fun q => by have := q.1; omega), if_neg (fun q => by have := q.1; omega)]; exact ih
    · rw [ev3 z, xFl_i]
      by_cases y : e.2.1 = c ∧ 0 ≤ k ∧ k < e.2.2.2
      · rw [if_pos ⟨y.1.symm, y.2⟩, if_neg (fun q => by have := q.1; omega), if_pos ⟨z, y⟩]
      · rw [if_neg (fun q => y ⟨q.1.symm, q.2⟩), if_neg (fun q => by have := q.1; omega), if_neg (fun q => y q.2)]; exact ih
/-- no event writes numbers into a cell -/
def noI (l : List Ev) (c : Int) : Bool := l.all (fun e => decide (e.1 = 0) || decide (e.1 = 2) || decide (e.2.1 ≠ c))
theorem noI_o {l : List Ev} {c : Int} (n : noI l c = true) : ∀ k, (bld h l).i c k = h.i c k := by
  induction l with
  | nil => intro k; rfl
  | cons e l ih =>
    intro k
    unfold noI at n
    rw [List.all_cons, Bool.and_eq_true] at n
    have ne := n.1
    simp only [Bool.or_eq_true, decide_eq_true_eq] at ne
    have r := ih n.2 k
    rw [bld_c]
    rcases ev_cases e with z | z | z | z
    · rw [ev0 z]; exact r
    · rw [ev1 z, xi_wi, if_neg (fun q => by have := q.1; omega)]; exact r
    · rw [ev2 z]; exact r
    · rw [ev3 z, xFl_i, if_neg (fun q => by have := q.1; omega)]; exact r
theorem lowE {l : List Ev} {N : Int} (n : l.all (fun e => decide (e.2.1 < N)) = true) {c : Int} (hc : N ≤ c) : ∀ k, (bld h l).i c k = h.i c k ∧ (bld h l).r c k = h.r c k := by
  induction l with
  | nil => intro k; exact ⟨rfl, rfl⟩
  | cons e l ih =>
    intro k
    rw [List.all_cons, Bool.and_eq_true] at n
    have ne := of_decide_eq_true n.1
    have r := ih n.2 k
    rw [bld_c]
    rcases ev_cases e with z | z | z | z
    · rw [ev0 z]; exact r
    · rw [ev1 z]
      refine ⟨?_, r.2⟩
      rw [xi_wi, if_neg (fun q => by have := q.1; omega)]; exact r.1
    · rw [ev2 z]
      refine ⟨r.1, ?_⟩
      rw [xwr_r, if_neg (fun q => by have := q.1; omega)]; exact r.2
    · rw [ev3 z]
      refine ⟨?_, r.2⟩
      rw [xFl_i, if_neg (fun q => by have := q.1; omega)]; exact r.1
end BLD
section STP
variable {L : Nat} {xs : Nat → Int32} {l : List Ev}
theorem ke_al {a t n n' : Int} {G : Int → xH → Prop} (ha : nxE l = a) (hn : n = n') (K : G a (bld (xH0 L xs) ((0, a, t, n') :: l))) : ∀ p, p = (bld (xH0 L xs) l).nx → ∀ h1, h1 = (bld (xH0 L xs) l).al t n → G p h1 := by
  intro p ep h1 e1
  have en : (bld (xH0 L xs) l).nx = a := (bld_nx rfl).trans ha
  subst hn
  rw [ep, en, e1]
  have e : (bld (xH0 L xs) l).al t n = bld (xH0 L xs) ((0, a, t, n) :: l) := by
    show _ = xAl (bld (xH0 L xs) l) a t n
    rw [← en]
    rfl
  rw [e]
  exact K
theorem ke_tag {c v : Int} {G : Prop} (e : tagE l c = some v) (K : G) : (bld (xH0 L xs) l).tag c = v ∧ G := ⟨by rw [bld_tag, e]; rfl, K⟩
theorem ke_r {c k v : Int} (e : rV l c k = v) : (bld (xH0 L xs) l).r c k = v := (bld_r (fun _ _ => rfl)).trans e
theorem ke_row {c c' n k tg : Int} {G : Prop} (hc : c = c') (et : tagE l c' = some tg) (el : lenE l c' = some n) (k0 : 0 ≤ k) (k1 : k < n) (K : G) : ((bld (xH0 L xs) l).tag c = tg ∧ 0 ≤ k ∧ k < (bld (xH0 L xs) l).len c) ∧ G := by
  subst hc
  exact ⟨⟨by rw [bld_tag, et]; rfl, k0, by rw [bld_len, el]; exact k1⟩, K⟩
theorem ke_wr {c k v : Int} {G : xH → Prop} (K : G (bld (xH0 L xs) ((2, c, k, v) :: l))) : ∀ h1, h1 = (bld (xH0 L xs) l).wr c k v → G h1 := by
  intro h1 e1
  rw [e1]
  exact K
theorem ke_wi {c c' k v v' : Int} {G : xH → Prop} (hc : c = c') (hv : v = v') (K : G (bld (xH0 L xs) ((1, c', k, v') :: l))) : ∀ h1, h1 = (bld (xH0 L xs) l).wi c k v → G h1 := by
  intro h1 e1
  subst hc hv
  rw [e1]
  exact K
theorem ke_x {x y : Int} {G : Int → Prop} (e : x = y) (K : G y) : ∀ x1 : Int, x1 = x → G x1 := by
  intro x1 e1
  rw [e1, e]
  exact K
theorem ke_fill {d : Nat} {c v n : Int} {Q : xH → Prop} (et : tagE l c = some 20) (el : lenE l c = some n) (nb : 0 ≤ n ∧ n < 1000) (K : Q (bld (xH0 L xs) ((3, c, v, n) :: l))) : xCv (d + 1) M_Arrays_fill [(1, c), (0, v)] (bld (xH0 L xs) l) Q := by
  have ht : (bld (xH0 L xs) l).tag c = 20 := by rw [bld_tag, et]; rfl
  have hl : (bld (xH0 L xs) l).len c = n := by rw [bld_len, el]; rfl
  apply L_Arrays_fill
  refine ⟨ht, fun x1 ex => ?_⟩
  rw [ex]
  refine c_fill_5 n.toNat (bld (xH0 L xs) l) 0 ht (by rw [hl]; exact nb.2) (by decide) (by rw [hl]; omega) (fun h' F a b => ?_)
  have e : h' = bld (xH0 L xs) ((3, c, v, n) :: l) := by
    show h' = xFl (bld (xH0 L xs) l) c v n
    refine Prod.ext (funext (fun x => funext (fun j => ?_))) F.1
    show h'.i x j = if x = c ∧ 0 ≤ j ∧ j < n then v else (bld (xH0 L xs) l).i x j
    by_cases z : x = c
    · rw [z]
      by_cases y : 0 ≤ j ∧ j < n
      · rw [if_pos ⟨rfl, y⟩]; exact a j y.1 (by rw [hl]; exact y.2)
      · rw [if_neg (fun q => y q.2)]
        exact b j (by rw [hl]; omega)
    · rw [if_neg (fun q => z q.1)]
      exact F.2 x j (fun m => by rw [List.mem_singleton] at m; exact z m) (fun m => absurd m List.not_mem_nil)
  rw [e]
  exact K
end STP
