/-! learn -/
theorem lic_wyl {x l : Int} (x0 : 0 ≤ x) (x1 : x ≤ 5) (l0 : 0 ≤ l) (l1 : l < 5) : lic x = l ↔ x = wyl l := by
  have a : x = 0 ∨ x = 1 ∨ x = 2 ∨ x = 3 ∨ x = 4 ∨ x = 5 := by omega
  have b : l = 0 ∨ l = 1 ∨ l = 2 ∨ l = 3 ∨ l = 4 := by omega
  rcases a with rfl | rfl | rfl | rfl | rfl | rfl <;> rcases b with rfl | rfl | rfl | rfl | rfl <;> decide
theorem cnt_lw {l : Int} (l0 : 0 ≤ l) (l1 : l < 5) : ∀ {L : List Int}, (∀ w ∈ L, 0 ≤ w ∧ w ≤ 5) → cntL l L = cntW (wyl l) L := by
  intro L
  induction L with
  | nil => intro _; rfl
  | cons x L ih =>
    intro H
    have hx := H x List.mem_cons_self
    have k := lic_wyl hx.1 hx.2 l0 l1
    rw [cntL_c, cntW_c, ih (fun w m => H w (List.mem_cons_of_mem _ m))]
    by_cases c : lic x = l
    · rw [if_pos c, if_pos (k.mp c)]
    · rw [if_neg c, if_neg (fun z => c (k.mpr z))]
theorem sumN_le {f g : Int → Int} : ∀ n : Nat, (∀ k : Int, 0 ≤ k → k < n → f k ≤ g k) → sumN f n ≤ sumN g n := by
  intro n
  induction n with
  | zero => intro _; rw [sumN, sumN]; exact Int.le_refl _
  | succ n ih =>
    intro H
    have a := ih (fun k k0 k1 => H k k0 (by push_cast; omega))
    have b := H n (by omega) (by push_cast; omega)
    rw [sumN, sumN]; omega
section LJN
variable {n : Nat} {h : xH}
/-- the room behind a walk of the class that has made one more row -/
theorem room_al1 {h1 h2 : xH} {c cR : List Int} {c2 cr : List (Int × Int)} {k : List Int} {k2 : List (Int × Int)} {N : Int} (N0 : 0 ≤ N) (N1 : N ≤ 2000) (I : INV n h) (a1 : FA c c2 cR cr h h1) (a2 : Tok h h1) (g : Gro (h.al 20 N) h1) (X : XS h1) (F : Fr k k2 h1 h2) (r : rsl 40 3 cR cr = true := by decide) : I_room (n + 1) h2 := by
  have a6 := I.2.2.2.2.2.1
  have i13 := I.2.2.2.2.2.2.2.2.2.2.2.2.2.2.2.2.2.2.1
  have n0 := I.2.2.1
  have fs := fr_same F
  have S := XS_of I
  unfold Gro tl at g
  rw [xr_al, xl_al, if_neg (by have := S.2.2.2.2.2.1; omega), xn_al, xs_al] at g
  obtain ⟨a, g1, g2, g3, g4⟩ := g
  obtain ⟨x1, x2, x3, x4, x5, x6, x7, x8⟩ := X
  unfold I_room at a6 ⊢
  have es : h1.r 40 3 = h.r 40 3 := FA_rslot a1 (by omega) r
  have ls : h1.len (h.r 40 3) = h.len (h.r 40 3) := (a1.2.1 _ (by have := i13.2.2.2.2.1; omega)).2
  rw [fs.1, fs.2.1, fs.2.2.1, fs.2.2.2.1, fs.2.2.2.2, es, ls]
  unfold tl at x7 x8
  have a12 : a ≤ 12 := by
    rcases g3 with z | z
    · omega
    · by_cases q : a ≤ 12
      · exact q
      · exfalso
        have w : (2 : Nat) ^ 13 ≤ 2 ^ a := Nat.pow_le_pow_right (by decide) (by omega)
        have w2 : ((2 ^ 13 : Nat) : Int) ≤ ((2 ^ a : Nat) : Int) := Int.ofNat_le.mpr w
        rw [Int.natCast_pow, Int.natCast_pow] at w2
        have w3 : (8192 : Int) ≤ 2 ^ a := w2
        omega
  push_cast
  omega
theorem c_R_learn_12 {d : Nat} {Q : Int → xH → Prop} {f : Int} {u5 u6 u7 : xV} : ∀ (m : Nat) (w : Int) (h : xH), 0 ≤ w → w + m = 6 → SR h → (∀ h', Fr [129] [] h h' → (∀ j, w ≤ j → j < 6 → h'.i 129 j = 0) → (∀ j, j < w → h'.i 129 j = h.i 129 j) → xT d M_R_learn 24 [(1, 59), (0, f), (0, 0), (0, 0), (0, 0), u5, u6, u7] [] h' (xqi Q)) → xT d M_R_learn 12 [(1, 59), (0, f), (0, 0), (0, 0), (0, w), u5, u6, u7] [] h (xqi Q) := by
  intro m
  induction m with
  | zero =>
    intro w h w0 hw S H
    apply L_R_learn_12
    rw [if_neg (by omega)]
    exact H h (Fr_refl _ _ _) (fun j j0 j1 => by omega) (fun j _ => rfl)
  | succ m ih =>
    intro w h w0 hw S H
    apply L_R_learn_12
    rw [if_pos (by omega)]
    simp only [srt S, srl S, srf S, true_and, and_true, false_and, and_false, forall_eq, forall_eq', xi_wi, xr_wi, xt_wi, xl_wi, xn_wi, xs_wi, xi_wr, xr_wr, xt_wr, xl_wr, xn_wr, xs_wr, if_true, if_false, and_self, Int.reduceEq, Int.reduceLT, Int.reduceLE, Int.reduceNeg, Int.le_refl, Int.reduceMod]
    refine ⟨⟨by omega, by omega⟩, ?_⟩
    rw [xw_id (a := w + 1) (by omega) (by omega)]
    generalize e1' : h.wi 129 w 0 = h1
    have e1 := e1'.symm
    have F1 : Fr [129] [] h h1 := by rw [e1]; exact Fr_cell (Fr_refl _ _ _) _ _ (by decide)
    refine ih (w + 1) h1 (by omega) (by push_cast at hw; omega) (SR_2 F1.1 S) (fun h' F a b => H h' (Fr_trans F1 F) (fun j j0 j1 => ?_) (fun j j1 => ?_))
    · by_cases z : j = w
      · rw [z, b w (by omega), e1, xi_wi, if_pos ⟨rfl, rfl⟩]
      · exact a j (by omega) j1
    · rw [b j (by omega), e1, xi_wi, if_neg (by omega)]
end LJN
def lnFL : List Int := 27 :: (wkXL ++ (97 :: rlL))
def lnFS : List (Int × Int) := wkXS ++ rlS
theorem j_learn (n : Nat) (hn : n < 512) (f : Int) (hf : xrg f) : JJ INV n M_X_learn M_R_learn [(0, f)] := by
  refine jj_fa (fun h I => ?_)
  have S := I.2.1
  have SX_ := I.1
  have sm := same_J I
  have hS := XS_of I
  have n130 := I.2.2.1
  have i4 := I.2.2.2.2.2.2.2.2.2.1
  have ip := I.2.2.2.2.2.2.2.2.2.2.2.2.2.2.2.2.2.1
  have tb := I.2.2.2.1
  unfold I_tab at tb
  apply L_X_learn
  simp only [sxt SX_, sxl SX_, sxf SX_, true_and, and_true, false_and, and_false, forall_eq, forall_eq', xi_wi, xr_wi, xt_wi, xl_wi, xn_wi, xs_wi, xi_wr, xr_wr, xt_wr, xl_wr, xn_wr, xs_wr, if_true, if_false, and_self, Int.reduceEq, Int.reduceLT, Int.reduceLE, Int.reduceNeg, Int.le_refl, Int.reduceMod]
  refine c_X_isForm0 (d := 2044) SX_ ?_
  by_cases c : 0 ≤ f ∧ f ≤ 7 ∧ 0 < h.i 25 f
  · have np : 0 < h.i 95 f := by have := (i4.1 f c.1 (by omega)).1; omega
    rw [if_pos c, if_neg (by decide)]
    simp only [sxt SX_, sxl SX_, sxf SX_, true_and, and_true, false_and, and_false, forall_eq, forall_eq', xi_wi, xr_wi, xt_wi, xl_wi, xn_wi, xs_wi, xi_wr, xr_wr, xt_wr, xl_wr, xn_wr, xs_wr, if_true, if_false, and_self, Int.reduceEq, Int.reduceLT, Int.reduceLE, Int.reduceNeg, Int.le_refl, Int.reduceMod]
    apply L_Poem_learnPrices
    intro q hq h1 e1
    have t6 : h.r 28 6 < h.nx := hS.2.2.2.2.2.1
    have L1 : LnI h q h1 := by
      have A : FA wkXL wkXS [] wkXR h (h.al 20 5) := FA_al (FA_refl _ _ _ _ _) _ _
      subst e1
      refine ⟨A, ⟨Or.inl rfl, Or.inl rfl⟩, ⟨SX_al n130 SX_, by rw [xn_al]; omega, tb, I_new_al I.2.2.2.2.1 _ _, by rw [xr_al, xt_al, if_neg (by omega)]; exact hS.2.2.2.2.1, by rw [xr_al, xn_al]; omega, ?_, ?_⟩, Gro_refl _, by rw [xt_al, if_pos hq], by rw [xl_al, if_pos hq], by rw [xr_al]; omega, by rw [xn_al]; omega⟩
      · unfold tl; rw [xr_al, xl_al, if_neg (by omega)]; exact hS.2.2.2.2.2.2.1
      · unfold tl; rw [xr_al, xl_al, if_neg (by omega)]; exact hS.2.2.2.2.2.2.2
    have U1 : ∀ l, 0 ≤ l → l < 5 → h1.i q l = lnU h f 0 l := fun l l0 l1 => by
      rw [e1, xi_al, (I.2.2.2.2.1 q l (by omega)).1]; rfl
    refine c_X_learn_9 (d := 2037) (n0 := n) (Q := fun r1 h1 => SCk h h1 ∧ xCi 2046 M_R_learn [(1, 59), (0, f)] h1 (fun r2 h2 => r1 = r2 ∧ SCk h h2 ∧ INV (n + 1) h2)) I c.1 c.2.1 np hq (fun h2 L2 U2 PO => ?_) 12 0 h1 rfl L1 U1 (fun j hj => absurd hj (Nat.not_lt_zero _))
    have F02 := L2.1
    have UW : ∀ l, 0 ≤ l → l < 5 → lnU h f 12 l = lnW h f 12 (wyl l) := fun l l0 l1 => sumN_congr 12 (fun k k0 k1 => by
      obtain ⟨i, rfl⟩ : ∃ i : Nat, k = (i : Int) := ⟨k.toNat, by omega⟩
      by_cases z : lnB h f i = true
      · rw [if_pos z, if_pos z]; exact cnt_lw l0 l1 (PO i (by omega) z).2.2
      · rw [if_neg z, if_neg z])
    have RS_ : lnR h f 12 ≤ lnS h f 12 := sumN_le 12 (fun k k0 k1 => by
      obtain ⟨i, rfl⟩ : ∃ i : Nat, k = (i : Int) := ⟨k.toNat, by omega⟩
      by_cases z : lnB h f i = true
      · rw [if_pos z, if_pos z]; have := (PO i (by omega) z).2.1; omega
      · rw [if_neg z, if_neg z]; exact Int.le_refl _)
    have bS : 0 ≤ lnS h f 12 ∧ lnS h f 12 ≤ 40 * (12 : Nat) := sumN_bd (by decide) 12 (fun k k0 k1 => by
      obtain ⟨i, rfl⟩ : ∃ i : Nat, k = (i : Int) := ⟨k.toNat, by omega⟩
      by_cases z : lnB h f i = true
      · rw [if_pos z]; have := (PO i (by omega) z).1; omega
      · rw [if_neg z]; decide)
    have bR : 0 ≤ lnR h f 12 ∧ lnR h f 12 ≤ 1 * (12 : Nat) := sumN_bd (by decide) 12 (fun k k0 k1 => by
      by_cases z : lnB h f k = true
      · rw [if_pos z]; decide
      · rw [if_neg z]; decide)
    have bW : ∀ w, 0 ≤ lnW h f 12 w ∧ lnW h f 12 w ≤ 40 * (12 : Nat) := fun w => sumN_bd (by decide) 12 (fun k k0 k1 => by
      obtain ⟨i, rfl⟩ : ∃ i : Nat, k = (i : Int) := ⟨k.toNat, by omega⟩
      by_cases z : lnB h f i = true
      · rw [if_pos z]; have a := (PO i (by omega) z).1; have b := cntW_bd w (lnP h f i); omega
      · rw [if_neg z]; decide)
    have fin : ∀ h3, Fr [27] [] h2 h3 → (lnR h f 12 ≠ 0 → ∀ j, 0 ≤ j → j < 5 → h3.i 27 j = npr (h.i 27 j) (lnU h f 12 j) (lnS h f 12)) → (lnR h f 12 = 0 → h3.i 27 = h.i 27) → SCk h h3 ∧ xCi 2046 M_R_learn [(1, 59), (0, f)] h3 (fun r2 h' => (if lnR h f 12 = 0 then -1 else lnR h f 12) = r2 ∧ SCk h h' ∧ INV (n + 1) h') := fun h3 F3 v3 z3 => by
      have G3 : FA lnFL lnFS [] wkXR h h3 := FA_fq (FA_mono F02 (by decide) (by decide) (by decide) (by decide)) F3 (fun x m => Or.inl ((by decide : ∀ x ∈ ([27] : List Int), x ∈ lnFL) x m)) (by decide)
      have G3x : FA (27 :: wkXL) wkXS [] wkXR h h3 := FA_fq (FA_mono F02 (by decide) (by decide) (by decide) (by decide)) F3 (fun x m => Or.inl ((by decide : ∀ x ∈ ([27] : List Int), x ∈ 27 :: wkXL) x m)) (by decide)
      refine ⟨SCk_x hS S G3 (by decide), ?_⟩
      have r76 : h3.i 76 = h.i 76 := FA_row G3x (by omega) (by decide) (by decide) (by omega)
      have r95 : h3.i 95 = h.i 95 := FA_row G3x (by omega) (by decide) (by decide) (by omega)
      have r97 : h3.i 97 = h.i 97 := FA_row G3x (by omega) (by decide) (by decide) (by omega)
      have RP : ∀ k : Int, 0 ≤ k → k < 12 → h.i 76 (k + 1) ≠ 0 → RPre h3 (k + 1) f (envR h (k + 1) f) := fun k k0 k1 z => by
        have nz : h.r 49 k ≠ 0 := by
          rcases ip.2 k k0 k1 with y | y
          · exact absurd y.2 z
          · exact y.1
        exact RPre_x hS G3x (by decide) (lnE_ok I c.1 c.2.1 np k0 k1 nz).2.1
      have S3 : SR h3 := by
        have lo : ∀ x, x < 130 → h3.tag x = h.tag x ∧ h3.len x = h.len x := fun x hx => G3x.2.1 x (by omega)
        have e : ∀ k, h3.r 59 k = h.r 59 k := fun k => G3x.2.2.2 59 k (by omega) (by decide) (by
          intro m
          have := (by decide : ∀ q ∈ wkXR, q.1 ≠ 59) _ m
          exact this rfl)
        obtain ⟨a, b, cc⟩ := S
        refine ⟨?_, ?_, ?_⟩
        · unfold SRT at a ⊢
          simp (disch := decide) only [(lo _ _).1]
          exact a
        · unfold SRL at b ⊢
          simp (disch := decide) only [(lo _ _).2]
          exact b
        · unfold SRF at cc ⊢
          simp only [e]
          exact cc
      -- all stands
      have ends : ∀ h6, Fr (97 :: rlL) rlS h3 h6 → I_form h6 → SCk h h6 ∧ INV (n + 1) h6 := fun h6 F6 if6 => by
        have fs3 := fr_same F3
        have fs := fr_same F6
        have G : FA lnFL lnFS [] wkXR h h6 := FA_fq G3 F6 (fun x m => Or.inl ((by decide : ∀ x ∈ 97 :: rlL, x ∈ lnFL) x m)) (by decide)
        have F : FA lnFL lnFS [] wkXR h h6 := G
        have F26 : Fr (27 :: 97 :: rlL) rlS h2 h6 := Fr_trans (Fr_mono F3 (by decide) (by decide)) (Fr_mono F6 (fun x m => List.mem_cons_of_mem _ m) (fun x m => m))
        have hT : Tok h h6 := Tok_fq L2.2.1 F26
        have X2 := L2.2.2.1
        have hX : SX h6 := SX_2 F26.1 X2.1
        have hTab : I_tab h6 := by have := X2.2.2.1; unfold I_tab at this ⊢; rw [(fr_same F26).1]; exact this
        have hNew : I_new h6 := I_new_f X2.2.2.2.1 F26 (by decide) X2.2.1
        have hR : SR h6 := SR_2 F6.1 S3
        have hRoom : I_room (n + 1) h6 := room_al1 (N := 5) (by decide) (by decide) I F02 L2.2.1 L2.2.2.2.1 X2 F26
        refine ⟨SCk_x hS S G (by decide), INV_fa I F (by decide) hT hX hR hTab hNew hRoom (Or.inl (by decide)) (Or.inl (by decide)) (Or.inl (by decide)) (Or.inr ?_) (Or.inl (by decide)) (Or.inl (by decide)) (Or.inl (by decide)) (Or.inl (by decide)) (Or.inl (by decide)) (Or.inl (by decide)) (Or.inl (by decide)) (Or.inl (by decide)) (Or.inl (by decide)) (Or.inl (by decide)) (Or.inl (by decide))⟩
        exact if6
      have r25 : ∀ h6, Fr (97 :: rlL) rlS h3 h6 → (∀ k, 0 ≤ k → k < 5 → h6.i 27 k = h6.i 97 k ∧ -1 ≤ h6.i 97 k ∧ h6.i 97 k ≤ 50) → I_form h6 := fun h6 F6 pr => by
        have G : FA lnFL lnFS [] wkXR h h6 := FA_fq G3 F6 (fun x m => Or.inl ((by decide : ∀ x ∈ 97 :: rlL, x ∈ lnFL) x m)) (by decide)
        refine ⟨fun k k0 k1 => ?_, fun k k0 k1 => ?_, pr⟩
        · rw [FA_row G (c := 25) (by omega) (by decide) (by decide) (by omega), FA_row G (c := 95) (by omega) (by decide) (by decide) (by omega), FA_row G (c := 26) (by omega) (by decide) (by decide) (by omega), FA_row G (c := 96) (by omega) (by decide) (by decide) (by omega)]
          exact i4.1 k k0 k1
        · rw [FA_row G (c := 24) (by omega) (by decide) (by decide) (by omega), FA_row G (c := 94) (by omega) (by decide) (by decide) (by omega)]
          exact i4.2.1 k k0 k1
      apply L_R_learn
      refine ⟨(srt S3).1, ?_⟩
      refine c_R_isForm (d := 2043) S3 ?_
      rw [r95, if_pos (show 0 ≤ f ∧ f ≤ 7 ∧ 0 < h.i 95 f from ⟨c.1, c.2.1, np⟩), if_neg (by decide)]
      refine c_R_learn_12 6 0 h3 (by decide) (by decide) S3 (fun h4 F4 z4 _ => ?_)
      refine c_R_learn_24 (d := 1984) (h0 := h) (h1 := h4) (fun k k0 k1 z => RPre_s F4 (by decide) (RP k k0 k1 z)) (by rw [Fr_row F4 (by decide) (by decide)]; exact r76) PO (fun h5 u5 u6 u7 F5 S5 U5 => ?_) 12 0 h4 _ _ _ rfl (Fr_refl _ _ _) (SR_2 F4.1 S3) (fun w w0 w1 => z4 w w0 w1)
      have F35 : Fr (97 :: rlL) rlS h3 h5 := Fr_trans (Fr_mono F4 (by decide) (by decide)) (Fr_mono F5 (fun x m => List.mem_cons_of_mem _ m) (fun x m => m))
      have e27 : h5.i 27 = h3.i 27 := Fr_row F35 (by decide) (by decide)
      have e97 : h5.i 97 = h.i 97 := by rw [Fr_row F5 (by decide) (by decide), Fr_row F4 (by decide) (by decide)]; exact r97
      by_cases z : lnR h f 12 = 0
      · rw [if_pos z]
        refine ⟨by rw [if_pos z], ends h5 F35 (r25 h5 F35 (fun k k0 k1 => ?_))⟩
        rw [e27, z3 z, e97]
        exact i4.2.2 k k0 k1
      · rw [if_neg z, if_neg z]
        refine c_R_learn_108 (by omega) (by omega) 5 0 h5 _ _ _ _ (by decide) (by decide) S5 (fun j j0 j1 => by rw [U5 j j0 j1]; have := bW j; omega) (fun j j0 j1 => by rw [e97]; exact (i4.2.2 j j0 j1).2.1) (fun h6 F6 v6 _ => ?_)
        have F36 : Fr (97 :: rlL) rlS h3 h6 := Fr_trans F35 (Fr_mono F6 (by decide) (by decide))
        refine ⟨rfl, ends h6 F36 (r25 h6 F36 (fun k k0 k1 => ?_))⟩
        have e27' : h6.i 27 = h3.i 27 := Fr_row F36 (by decide) (by decide)
        have wr : 0 ≤ wyl k ∧ wyl k < 6 := by
          have b : k = 0 ∨ k = 1 ∨ k = 2 ∨ k = 3 ∨ k = 4 := by omega
          rcases b with rfl | rfl | rfl | rfl | rfl <;> decide
        have pk := i4.2.2 k k0 k1
        rw [e27', v3 z k k0 k1, v6 k k0 k1, e97, U5 _ wr.1 wr.2, UW k k0 k1, pk.1]
        exact ⟨rfl, npr_bd pk.2.1 (bW _).1 (by have := (bW (wyl k)).2; omega) (by omega) (by omega)⟩
    have e27 : h2.i 27 = h.i 27 := FA_row F02 (by omega) (by decide) (by decide) (by omega)
    by_cases z : lnR h f 12 = 0
    · rw [if_pos z]
      have := fin h2 (Fr_refl _ _ _) (fun y => absurd z y) (fun _ => e27)
      rw [if_pos z] at this
      exact this
    · rw [if_neg z]
      apply L_Metre_setByUse
      refine c_sbu_2 (s := lnS h f 12) (by omega) (by omega) (by omega) 5 0 h2 _ (by decide) (by decide) L2.2.2.1.1 L2.2.2.2.2.1 L2.2.2.2.2.2.1 (fun j j0 j1 => ?_) (fun h3 F3 v3 _ => ?_)
      · rw [U2 j j0 j1, UW j j0 j1]; have := bW (wyl j); omega
      · have := fin h3 F3 (fun _ j j0 j1 => by rw [v3 j j0 j1, U2 j j0 j1, e27]) (fun y => absurd y z)
        rw [if_neg z] at this
        exact this
  · rw [if_neg c, if_pos rfl]
    refine ⟨sm.1, ?_⟩
    apply L_R_learn
    refine ⟨(srt S).1, ?_⟩
    refine c_R_isForm (d := 2043) S ?_
    rw [if_neg (show ¬ (0 ≤ f ∧ f ≤ 7 ∧ 0 < h.i 95 f) from fun y => c ⟨y.1, y.2.1, by have := (i4.1 f y.1 (by omega)).1; omega⟩), if_pos rfl]
    exact ⟨rfl, sm⟩
