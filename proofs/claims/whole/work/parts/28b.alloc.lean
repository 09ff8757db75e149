/-! what making cells and writing references leaves alone -/
theorem SX_al {h : xH} {t n : Int} (hn : 130 ≤ h.nx) (S : SX h) : SX (h.al t n) := by
  have e : ∀ c : Int, c < 130 → (h.al t n).tag c = h.tag c ∧ (h.al t n).len c = h.len c := fun c hc => by
    rw [xt_al, xl_al, if_neg (by omega), if_neg (by omega)]; exact ⟨rfl, rfl⟩
  obtain ⟨a, b, c⟩ := S
  refine ⟨?_, ?_, c⟩
  · unfold SXT at a ⊢
    simp (disch := decide) only [(e _ _).1]
    exact a
  · unfold SXL at b ⊢
    simp (disch := decide) only [(e _ _).2]
    exact b
theorem SR_al {h : xH} {t n : Int} (hn : 130 ≤ h.nx) (S : SR h) : SR (h.al t n) := by
  have e : ∀ c : Int, c < 130 → (h.al t n).tag c = h.tag c ∧ (h.al t n).len c = h.len c := fun c hc => by
    rw [xt_al, xl_al, if_neg (by omega), if_neg (by omega)]; exact ⟨rfl, rfl⟩
  obtain ⟨a, b, c⟩ := S
  refine ⟨?_, ?_, c⟩
  · unfold SRT at a ⊢
    simp (disch := decide) only [(e _ _).1]
    exact a
  · unfold SRL at b ⊢
    simp (disch := decide) only [(e _ _).2]
    exact b
section WR
variable {h : xH} {k v : Int}
theorem SR_wr {c : Int} (hc : c ≠ 59) (S : SR h) : SR (h.wr c k v) := by
  obtain ⟨a, b, f⟩ := S
  refine ⟨a, b, ?_⟩
  unfold SRF at f ⊢
  have e : ∀ j : Int, (h.wr c k v).r 59 j = h.r 59 j := fun j => by rw [xr_wr, if_neg (by omega)]
  simp only [e]
  exact f
theorem SX_wr8 (S : SX h) : SX (h.wr 8 k v) := by
  obtain ⟨a, b, f⟩ := S
  refine ⟨a, b, ?_⟩
  unfold SXF at f ⊢
  simp only [true_and, and_true, false_and, and_false, forall_eq, forall_eq', xi_wi, xr_wi, xt_wi, xl_wi, xn_wi, xs_wi, xi_wr, xr_wr, xt_wr, xl_wr, xn_wr, xs_wr, if_true, if_false, and_self, Int.reduceEq, Int.reduceLT, Int.reduceLE, Int.reduceNeg, Int.le_refl, Int.reduceMod]
  exact f
theorem SX_wr23 (S : SX h) : SX (h.wr 23 k v) := by
  obtain ⟨a, b, f⟩ := S
  refine ⟨a, b, ?_⟩
  unfold SXF at f ⊢
  simp only [true_and, and_true, false_and, and_false, forall_eq, forall_eq', xi_wi, xr_wi, xt_wi, xl_wi, xn_wi, xs_wi, xi_wr, xr_wr, xt_wr, xl_wr, xn_wr, xs_wr, if_true, if_false, and_self, Int.reduceEq, Int.reduceLT, Int.reduceLE, Int.reduceNeg, Int.le_refl, Int.reduceMod]
  exact f
theorem SX_wr49 (S : SX h) : SX (h.wr 49 k v) := by
  obtain ⟨a, b, f⟩ := S
  refine ⟨a, b, ?_⟩
  unfold SXF at f ⊢
  simp only [true_and, and_true, false_and, and_false, forall_eq, forall_eq', xi_wi, xr_wi, xt_wi, xl_wi, xn_wi, xs_wi, xi_wr, xr_wr, xt_wr, xl_wr, xn_wr, xs_wr, if_true, if_false, and_self, Int.reduceEq, Int.reduceLT, Int.reduceLE, Int.reduceNeg, Int.le_refl, Int.reduceMod]
  exact f
theorem SX_wr58 (S : SX h) : SX (h.wr 58 k v) := by
  obtain ⟨a, b, f⟩ := S
  refine ⟨a, b, ?_⟩
  unfold SXF at f ⊢
  simp only [true_and, and_true, false_and, and_false, forall_eq, forall_eq', xi_wi, xr_wi, xt_wi, xl_wi, xn_wi, xs_wi, xi_wr, xr_wr, xt_wr, xl_wr, xn_wr, xs_wr, if_true, if_false, and_self, Int.reduceEq, Int.reduceLT, Int.reduceLE, Int.reduceNeg, Int.le_refl, Int.reduceMod]
  exact f
theorem SX_wrL (S : SX h) : SX (h.wr 2 13 v) := by
  obtain ⟨a, b, f⟩ := S
  refine ⟨a, b, ?_⟩
  unfold SXF at f ⊢
  simp only [true_and, and_true, false_and, and_false, forall_eq, forall_eq', xi_wi, xr_wi, xt_wi, xl_wi, xn_wi, xs_wi, xi_wr, xr_wr, xt_wr, xl_wr, xn_wr, xs_wr, if_true, if_false, and_self, Int.reduceEq, Int.reduceLT, Int.reduceLE, Int.reduceNeg, Int.le_refl, Int.reduceMod]
  exact f
theorem SX_wrT (S : SX h) : SX (h.wr 28 6 v) := by
  obtain ⟨a, b, f⟩ := S
  refine ⟨a, b, ?_⟩
  unfold SXF at f ⊢
  simp only [true_and, and_true, false_and, and_false, forall_eq, forall_eq', xi_wi, xr_wi, xt_wi, xl_wi, xn_wi, xs_wi, xi_wr, xr_wr, xt_wr, xl_wr, xn_wr, xs_wr, if_true, if_false, and_self, Int.reduceEq, Int.reduceLT, Int.reduceLE, Int.reduceNeg, Int.le_refl, Int.reduceMod]
  exact f
theorem SX_wrSL (S : SX h) : SX (h.wr 28 7 v) := by
  obtain ⟨a, b, f⟩ := S
  refine ⟨a, b, ?_⟩
  unfold SXF at f ⊢
  simp only [true_and, and_true, false_and, and_false, forall_eq, forall_eq', xi_wi, xr_wi, xt_wi, xl_wi, xn_wi, xs_wi, xi_wr, xr_wr, xt_wr, xl_wr, xn_wr, xs_wr, if_true, if_false, and_self, Int.reduceEq, Int.reduceLT, Int.reduceLE, Int.reduceNeg, Int.le_refl, Int.reduceMod]
  exact f
theorem SX_wrWL (S : SX h) : SX (h.wr 35 2 v) := by
  obtain ⟨a, b, f⟩ := S
  refine ⟨a, b, ?_⟩
  unfold SXF at f ⊢
  simp only [true_and, and_true, false_and, and_false, forall_eq, forall_eq', xi_wi, xr_wi, xt_wi, xl_wi, xn_wi, xs_wi, xi_wr, xr_wr, xt_wr, xl_wr, xn_wr, xs_wr, if_true, if_false, and_self, Int.reduceEq, Int.reduceLT, Int.reduceLE, Int.reduceNeg, Int.le_refl, Int.reduceMod]
  exact f
theorem SX_wrRS (S : SX h) : SX (h.wr 40 3 v) := by
  obtain ⟨a, b, f⟩ := S
  refine ⟨a, b, ?_⟩
  unfold SXF at f ⊢
  simp only [true_and, and_true, false_and, and_false, forall_eq, forall_eq', xi_wi, xr_wi, xt_wi, xl_wi, xn_wi, xs_wi, xi_wr, xr_wr, xt_wr, xl_wr, xn_wr, xs_wr, if_true, if_false, and_self, Int.reduceEq, Int.reduceLT, Int.reduceLE, Int.reduceNeg, Int.le_refl, Int.reduceMod]
  exact f
theorem SX_wrNL (S : SX h) : SX (h.wr 45 3 v) := by
  obtain ⟨a, b, f⟩ := S
  refine ⟨a, b, ?_⟩
  unfold SXF at f ⊢
  simp only [true_and, and_true, false_and, and_false, forall_eq, forall_eq', xi_wi, xr_wi, xt_wi, xl_wi, xn_wi, xs_wi, xi_wr, xr_wr, xt_wr, xl_wr, xn_wr, xs_wr, if_true, if_false, and_self, Int.reduceEq, Int.reduceLT, Int.reduceLE, Int.reduceNeg, Int.le_refl, Int.reduceMod]
  exact f
end WR
def rro (c : Int) (lR : List Int) (lr : List (Int × Int)) : Bool := !lR.contains c && lr.all (fun p => p.1 != c)
def rsl (c k : Int) (lR : List Int) (lr : List (Int × Int)) : Bool := !lR.contains c && !lr.contains (c, k)
theorem INV_fa {n : Nat} {l lR : List Int} {l2 lr : List (Int × Int)} {h h' : xH} (I : INV n h) (F : FA l l2 lR lr h h') (w : low l l2 lR lr = true) (T : Tok h h') (b1 : SX h') (b2 : SR h') (b4 : I_tab h') (b5 : I_new h') (b6 : I_room (n + 1) h') (c1 : dis D_tape S_tape l2 l = true ∨ I_tape h') (c2 : dis D_vow S_vow l2 l = true ∨ I_vow h') (c3 : dis D_pair S_pair l2 l = true ∨ I_pair h') (c4 : dis D_form [] l2 l = true ∨ I_form h') (c5 : dis D_told S_told l2 l = true ∨ I_told h') (c6 : dis [] S_fault l2 l = true ∨ I_fault h') (c7 : dis D_place S_place l2 l = true ∨ I_place h') (c8 : dis D_judge S_judge l2 l = true ∨ I_judge h') (c9 : (dis D_book S_book l2 l && rro 8 lR lr) = true ∨ I_book h') (c10 : (dis D_feet [] l2 l && rro 23 lR lr) = true ∨ I_feet h') (c11 : (dis D_line [] l2 l && rsl 2 13 lR lr) = true ∨ I_line h') (c12 : (dis D_line [(48, 4)] l2 l && rro 49 lR lr) = true ∨ I_poem h') (c13 : (dis D_read S_read l2 l && rsl 40 3 lR lr) = true ∨ I_read h') (c14 : (dis D_fit S_fit l2 l && rro 58 lR lr) = true ∨ I_fit h') (c15 : dis [] S_dr l2 l = true ∨ I_dr h') : INV (n + 1) h' := by
  obtain ⟨a1, a2, a3, a4, a5, a6, i1, i2, i3, i4, i5, i6, i7, i8, i9, i10, i11, i12, i13, i14, i15⟩ := I
  have A := F
  have n1 := F.1
  refine ⟨b1, b2, by omega, b4, b5, b6, ?_, ?_, ?_, ?_, ?_, ?_, ?_, ?_, ?_, ?_, ?_, ?_, ?_, ?_, ?_⟩
  · exact c1.elim (fun d => I_tape_fa A a3 a4 d i1) id
  · exact c2.elim (fun d => I_vow_fa A a3 a4 d i2) id
  · exact c3.elim (fun d => I_pair_fa A a3 a4 d i3) id
  · exact c4.elim (fun d => I_form_fa A a3 a4 d i4) id
  · exact c5.elim (fun d => I_told_fa A a3 a4 d i5) id
  · exact c6.elim (fun d => I_fault_fa A a3 a4 d i6) id
  · exact c7.elim (fun d => I_place_fa A a3 a4 d i7) id
  · exact c8.elim (fun d => I_judge_fa A a3 a4 d i8) id
  · exact c9.elim (fun d => by rw [Bool.and_eq_true] at d; exact I_book_fa A w T a3 a4 d.1 (fun k => by rw [FA_rrow A (by omega) d.2]) i9) id
  · exact c10.elim (fun d => by rw [Bool.and_eq_true] at d; exact I_feet_fa A w T a3 a4 d.1 (fun k => by rw [FA_rrow A (by omega) d.2]) i10) id
  · exact c11.elim (fun d => by rw [Bool.and_eq_true] at d; exact I_line_fa A w T a3 a4 d.1 (by rw [FA_rslot A (by omega) d.2]) i11) id
  · exact c12.elim (fun d => by rw [Bool.and_eq_true] at d; exact I_poem_fa A w T a3 a4 d.1 (fun k => by rw [FA_rrow A (by omega) d.2]) i12) id
  · exact c13.elim (fun d => by rw [Bool.and_eq_true] at d; exact I_read_fa A w T a3 a4 d.1 (by rw [FA_rslot A (by omega) d.2]) i13) id
  · exact c14.elim (fun d => by rw [Bool.and_eq_true] at d; exact I_fit_fa A w T a3 a4 d.1 (fun k => by rw [FA_rrow A (by omega) d.2]) i14) id
  · exact c15.elim (fun d => I_dr_fa A a3 a4 d i15) id
def SCk (h h1 : xH) : Prop := h1.tag 1 = h.tag 1 ∧ h1.len 1 = h.len 1 ∧ h1.i 1 = h.i 1 ∧ h1.tag 59 = 12
theorem jj_fa {n mx mr : Nat} {as : List xV} (H : ∀ h, INV n h → xCi 2046 mx ((1, 2) :: as) h (fun r1 h1 => SCk h h1 ∧ xCi 2046 mr ((1, 59) :: as) h1 (fun r2 h2 => r1 = r2 ∧ SCk h h2 ∧ INV (n + 1) h2))) : JJ INV n mx mr as := by
  intro h I
  refine xCi_mono ?_ (H h I)
  intro r1 h1 ⟨q, K⟩
  refine ⟨q.1, q.2.1, q.2.2.1, q.2.2.2, xCi_mono ?_ K⟩
  intro r2 h2 ⟨e, q2, J⟩
  exact ⟨e, q2.1.trans q.1.symm, q2.2.1.trans q.2.1.symm, q2.2.2.1.trans q.2.2.1.symm, J.1.1.1, q2.2.2.2, J⟩
section FAB
variable {l lR : List Int} {l2 lr : List (Int × Int)} {h h1 : xH}
theorem FA_refl (l lR : List Int) (l2 lr : List (Int × Int)) (h : xH) : FA l l2 lR lr h h := ⟨Int.le_refl _, fun _ _ => ⟨rfl, rfl⟩, fun _ _ _ _ _ _ => rfl, fun _ _ _ _ _ => rfl⟩
theorem FA_wi (F : FA l l2 lR lr h h1) {c : Int} (k v : Int) (hc : c ∈ l ∨ (c, k) ∈ l2 ∨ h.nx ≤ c ∨ c = h.r 28 6) : FA l l2 lR lr h (h1.wi c k v) := by
  refine ⟨F.1, F.2.1, fun b j hb u w y => ?_, F.2.2.2⟩
  rw [xi_wi, if_neg]
  · exact F.2.2.1 b j hb u w y
  · intro e
    obtain ⟨e1, e2⟩ := e
    subst e1
    subst e2
    rcases hc with q | q | q | q
    · exact u q
    · exact w q
    · omega
    · exact y q
theorem FA_wr (F : FA l l2 lR lr h h1) {c : Int} (k v : Int) (hc : c ∈ lR ∨ (c, k) ∈ lr ∨ h.nx ≤ c) : FA l l2 lR lr h (h1.wr c k v) := by
  refine ⟨F.1, F.2.1, F.2.2.1, fun b j hb u w => ?_⟩
  rw [xr_wr, if_neg]
  · exact F.2.2.2 b j hb u w
  · intro e
    obtain ⟨e1, e2⟩ := e
    subst e1
    subst e2
    rcases hc with q | q | q
    · exact u q
    · exact w q
    · omega
theorem FA_al (F : FA l l2 lR lr h h1) (t n : Int) : FA l l2 lR lr h (h1.al t n) := by
  have z := F.1
  refine ⟨by rw [xn_al]; omega, fun c hc => ?_, F.2.2.1, F.2.2.2⟩
  rw [xt_al, xl_al, if_neg (by omega), if_neg (by omega)]
  exact F.2.1 c hc
theorem FA_cp (F : FA l l2 lR lr h h1) (s sp : Int) {d : Int} (dp n : Int) (hc : d ∈ l ∨ h.nx ≤ d) : FA l l2 lR lr h (h1.cp s sp d dp n) := by
  refine ⟨F.1, F.2.1, fun b j hb u w y => ?_, F.2.2.2⟩
  rw [xi_cp, if_neg]
  · exact F.2.2.1 b j hb u w y
  · intro e
    subst e
    rcases hc with q | q
    · exact u q
    · omega
theorem FA_trans {h2 : xH} (F : FA l l2 lR lr h h1) (hT : h1.r 28 6 = h.r 28 6 ∨ h.nx ≤ h1.r 28 6) (G : FA l l2 lR lr h1 h2) : FA l l2 lR lr h h2 := by
  have z := F.1
  have z2 := G.1
  refine ⟨by omega, fun c hc => ?_, fun c k hc u w y => ?_, fun c k hc u w => ?_⟩
  · have a := F.2.1 c hc
    have b := G.2.1 c (by omega)
    exact ⟨b.1.trans a.1, b.2.trans a.2⟩
  · exact (G.2.2.1 c k (by omega) u w (by omega)).trans (F.2.2.1 c k hc u w y)
  · exact (G.2.2.2 c k (by omega) u w).trans (F.2.2.2 c k hc u w)
theorem FA_mono {m mR : List Int} {m2 mr : List (Int × Int)} (F : FA l l2 lR lr h h1) (a : ∀ c ∈ l, c ∈ m) (b : ∀ c ∈ l2, c ∈ m2) (c : ∀ c ∈ lR, c ∈ mR) (d : ∀ c ∈ lr, c ∈ mr) : FA m m2 mR mr h h1 := ⟨F.1, F.2.1, fun e k he u w y => F.2.2.1 e k he (fun q => u (a e q)) (fun q => w (b _ q)) y, fun e k he u w => F.2.2.2 e k he (fun q => u (c e q)) (fun q => w (d _ q))⟩
theorem I_new_wi (I : I_new h) {c : Int} (k v : Int) (hc : c < h.nx) : I_new (h.wi c k v) := by
  intro b j hb
  have hb' : h.nx ≤ b := hb
  rw [xi_wi, if_neg (by omega)]
  exact I b j hb'
theorem I_new_wr (I : I_new h) {c : Int} (k v : Int) (hc : c < h.nx) : I_new (h.wr c k v) := by
  intro b j hb
  have hb' : h.nx ≤ b := hb
  rw [xr_wr, if_neg (by omega)]
  exact I b j hb'
theorem I_new_al (I : I_new h) (t n : Int) : I_new (h.al t n) := by
  intro b j hb
  have hb' : h.nx + 1 ≤ b := hb
  exact I b j (by omega)
theorem I_new_cp (I : I_new h) (s sp : Int) {d : Int} (dp n : Int) (hc : d < h.nx) : I_new (h.cp s sp d dp n) := by
  intro b j hb
  have hb' : h.nx ≤ b := hb
  rw [xi_cp, if_neg (by omega)]
  exact I b j hb'
theorem I_new_fr (I : I_new h) (F : Fr l l2 h h1) (w : low l l2 [] [] = true) (hn : 130 ≤ h.nx) : I_new h1 := by
  intro c k hc
  have e := F.1
  have q : h1.r = h.r ∧ h1.nx = h.nx := by
    obtain ⟨x, b⟩ := h
    obtain ⟨y, b'⟩ := h1
    have e : b' = b := e
    subst e
    exact ⟨rfl, rfl⟩
  rw [q.2] at hc
  unfold low at w
  simp only [Bool.and_eq_true, List.all_eq_true, decide_eq_true_eq] at w
  rw [q.1, F.2 c k (fun q => by have := w.1.1.1 c q; omega) (fun q => by have := w.1.1.2 _ q; simp only at this; omega)]
  exact I c k hc
end FAB
