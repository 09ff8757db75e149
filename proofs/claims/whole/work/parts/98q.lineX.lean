/-! line: what the bytes tell, as words; the class reads them -/
def nvB (P V : Int → Int) (D : List Int) : Bool := (sgs P V (gD D) 0 ((D.length : Nat) : Int)).all (fun p => decide (p.2 = 0))
theorem nvB_iff {P V : Int → Int} {D : List Int} : nvB P V D = true ↔ noV P V D := by
  unfold nvB noV
  rw [List.all_eq_true]
  exact ⟨fun H p m => of_decide_eq_true (H p m), fun H p m => decide_eq_true (H p m)⟩
noncomputable def wfl (h : xH) (ws : List Wd) (D : List Int) : Int := if 16 < D.length then 2 else if bkF h D = -1 ∧ nvB (h.i 6) (h.i 5) D = true then 3 else if ws.length = 12 ∨ 40 < (flat ws).length + (wordP h D).length then 4 else 0
noncomputable def lnF (h : xH) : List Int → Int → List Wd → List Int → (Int × Int) × List Wd
  | [], i, ws, cur => if cur.length = 0 then (if ws.length = 0 then ((5, i), ws) else ((0, -1), ws)) else if wfl h ws cur = 0 then ((0, -1), ws ++ [wordV h cur]) else ((wfl h ws cur, i - ((cur.length : Nat) : Int)), ws)
  | c :: r, i, ws, cur => if 97 ≤ c ∧ c ≤ 122 then lnF h r (i + 1) ws (cur ++ [c]) else if cur.length = 0 then (if c = 32 then lnF h r (i + 1) ws [] else ((1, i), ws)) else if wfl h ws cur = 0 then (if c = 32 then lnF h r (i + 1) (ws ++ [wordV h cur]) [] else ((1, i), ws ++ [wordV h cur])) else ((wfl h ws cur, i - ((cur.length : Nat) : Int)), ws)
/-- language and book are as they were -/
def BkEq (h0 h : xH) : Prop := h.i 6 = h0.i 6 ∧ h.i 5 = h0.i 5 ∧ h.i 68 = h0.i 68 ∧ h.i 69 = h0.i 69 ∧ h.i 70 = h0.i 70 ∧ h.i 71 = h0.i 71 ∧ h.i 72 = h0.i 72 ∧ h.i 59 16 = h0.i 59 16
theorem BkEq_bkF {h0 h : xH} (E : BkEq h0 h) (D : List Int) : bkF h D = bkF h0 D := by
  obtain ⟨e1, e2, e3, e4, e5, e6, e7, e8⟩ := E
  unfold bkF WM
  rw [e3, e4, e8]
theorem BkEq_bkL {h0 h : xH} (E : BkEq h0 h) (w : Int) : bkL h w = bkL h0 w := by
  obtain ⟨e1, e2, e3, e4, e5, e6, e7, e8⟩ := E
  unfold bkL
  rw [e5, e6, e7]
theorem BkEq_WM {h0 h : xH} (E : BkEq h0 h) (g : Int → Int) (t v : Int) : WM h g t v ↔ WM h0 g t v := by
  unfold WM
  rw [E.2.2.1, E.2.2.2.1]
theorem WdOk_wordV {h : xH} {D : List Int} (iB : I_book h) (hV : bits26 (h.i 5)) (lc : ∀ c ∈ D, 97 ≤ c ∧ c ≤ 122) (d1 : 1 ≤ D.length) (d16 : D.length ≤ 16) (nf : ¬ (bkF h D = -1 ∧ nvB (h.i 6) (h.i 5) D = true)) : WdOk (wordV h D) ∧ PtOk D 0 (wordP h D) ∧ (wordP h D).length ≤ 16 ∧ 1 ≤ (wordP h D).length := by
  have pt : PtOk D 0 (wordP h D) ∧ (wordP h D).length ≤ 16 ∧ 1 ≤ (wordP h D).length := by
    unfold wordP
    by_cases c : bkF h D = -1
    · rw [if_pos c]
      have n : ¬ noV (h.i 6) (h.i 5) D := fun z => nf ⟨c, nvB_iff.mpr z⟩
      have ok := rulL_ok hV lc n
      refine ⟨ok, ?_, rulS_len _ _ _ _ _ _⟩
      have : ∀ L : List (Int × Int), (∀ x ∈ L, 1 ≤ x.1) → ((L.length : Nat) : Int) ≤ (L.map (fun p => p.1)).sum := by
        intro L
        induction L with
        | nil => intro _; exact Int.le_refl _
        | cons a L ih =>
          intro H
          have := H a List.mem_cons_self
          have := ih (fun x m => H x (List.mem_cons_of_mem _ m))
          rw [List.map_cons, List.sum_cons, List.length_cons]; push_cast; omega
      have z := this _ (fun x m => (ok.1 x m).1)
      have := ok.2
      omega
    · rw [if_neg c]
      obtain ⟨w, w0, w1, M⟩ : ∃ w, 0 ≤ w ∧ w < h.i 59 16 ∧ WM h (gD D) ((D.length : Nat) : Int) w := Classical.byContradiction (fun z => c (bkF_no (fun w w0 w1 M => z ⟨w, w0, w1, M⟩)))
      rw [bkF_yes iB w0 w1 M]
      obtain ⟨j, _, _, B⟩ := iB.2.2.2.2.1 w w0 w1
      have E := EntO_of B M
      have b := B.2
      refine ⟨E.2.2.2.2.2.2.2.2.2, ?_, ?_⟩
      · rw [bkL_len]; omega
      · rw [bkL_len]; omega
  refine ⟨wd_ok hV lc d1 d16 pt.2.2 ?_ pt.1, pt⟩
  by_cases c : bkF h D = -1
  · rw [if_pos c]; exact Or.inl rfl
  · rw [if_neg c]; exact Or.inr rfl
theorem txt_app1 (ws : List Wd) (d : Wd) : txt (ws ++ [d]) = txt ws ++ d.1 := by
  unfold txt
  rw [List.map_append, List.flatten_append]
  simp only [List.map_cons, List.map_nil, List.flatten_cons, List.flatten_nil, List.append_nil]
theorem LnOk_more {h : xH} {ws : List Wd} {D : List Int} (iB : I_book h) (hV : bits26 (h.i 5)) (lc : ∀ c ∈ D, 97 ≤ c ∧ c ≤ 122) (d1 : 1 ≤ D.length) (ok : LnOk ws) (f0 : wfl h ws D = 0) : LnOk (ws ++ [wordV h D]) ∧ D.length ≤ 16 ∧ ws.length < 12 ∧ (flat ws).length + (wordP h D).length ≤ 40 ∧ PtOk D 0 (wordP h D) ∧ (wordP h D).length ≤ 16 := by
  unfold wfl at f0
  by_cases c1 : 16 < D.length
  · rw [if_pos c1] at f0; exact absurd f0 (by decide)
  rw [if_neg c1] at f0
  by_cases c2 : bkF h D = -1 ∧ nvB (h.i 6) (h.i 5) D = true
  · rw [if_pos c2] at f0; exact absurd f0 (by decide)
  rw [if_neg c2] at f0
  by_cases c3 : ws.length = 12 ∨ 40 < (flat ws).length + (wordP h D).length
  · rw [if_pos c3] at f0; exact absurd f0 (by decide)
  have w := WdOk_wordV iB hV lc d1 (by omega) c2
  have o1 := ok.1
  have fl : (flat (ws ++ [wordV h D])).length = (flat ws).length + (wordP h D).length := by
    rw [flat_app, List.length_append, fsyl_len]
    show _ + (mkSy _ _ _ _ _).length = _
    rw [mkSy_len]
  refine ⟨⟨by rw [List.length_append]; show ws.length + 1 ≤ 12; omega, by rw [fl]; omega, fun d m => ?_⟩, by omega, by omega, by omega, w.2.1, w.2.2.1⟩
  rw [List.mem_append, List.mem_singleton] at m
  rcases m with m | m
  · exact ok.2.2 d m
  · rw [m]; exact w.1
section XLI
variable {d : Nat} {h0 : xH}
/-- what the class' reading of a line needs and keeps -/
def LX (h0 h : xH) (ws : List Wd) : Prop := SX h ∧ I_book h ∧ BkEq h0 h ∧ Dr h (flat ws) (txt ws) ∧ LnOk ws
theorem BkEq_fr {h h' : xH} {l2 : List (Int × Int)} (E : BkEq h0 h) (F : Fr drL l2 h h') (k : l2.all (fun q => decide (q.1 = 16 ∨ q.1 = 15)) = true) : BkEq h0 h' := by
  rw [List.all_eq_true] at k
  have row : ∀ c : Int, c ∉ drL → c ≠ 16 → c ≠ 15 → h'.i c = h.i c := fun c hc a b => Fr_row F hc (fun q m e => by have := of_decide_eq_true (k q m); omega)
  obtain ⟨e1, e2, e3, e4, e5, e6, e7, e8⟩ := E
  unfold BkEq
  rw [row 6 (by decide) (by decide) (by decide), row 5 (by decide) (by decide) (by decide), row 68 (by decide) (by decide) (by decide), row 69 (by decide) (by decide) (by decide), row 70 (by decide) (by decide) (by decide), row 71 (by decide) (by decide) (by decide), row 72 (by decide) (by decide) (by decide), row 59 (by decide) (by decide) (by decide)]
  exact ⟨e1, e2, e3, e4, e5, e6, e7, e8⟩
theorem book_fr {h h' : xH} {l2 : List (Int × Int)} (n0 : 130 ≤ h.nx) (ht : I_tab h) (B : I_book h) (F : Fr drL l2 h h') (k : (low drL l2 [] [] && dis D_book S_book l2 drL) = true) : I_book h' := by
  rw [Bool.and_eq_true] at k
  exact I_book_fa (FA_of [] [] F) k.1 (Tok_fr F) n0 ht k.2 (fun j => by rw [(fr_same F).1]) B
theorem c_X_entryOf {h : xH} {Q : Int → xH → Prop} {b : Int} {D : List Int} (SX_ : SX h) (iB : I_book h) (Z : Src h 3 b D) (b0 : 0 ≤ b) (lc : ∀ c ∈ D, 97 ≤ c ∧ c ≤ 122) (H1 : ∀ p w, 0 ≤ w → w < h.i 59 16 → BookRel h p w → WM h (gD D) ((D.length : Nat) : Int) w → Q p h) (H0 : (∀ w, 0 ≤ w → w < h.i 59 16 → ¬ WM h (gD D) ((D.length : Nat) : Int) w) → Q 0 h) : xCr (d + 5) M_Book_entryOf [(1, 7), (1, 3), (0, b), (0, b + ((D.length : Nat) : Int))] h Q := by
  have g : h.tag 7 = 0 ∧ h.tag 3 = 20 ∧ h.len 3 = 240 := by simp only [sxt SX_, sxl SX_, sxf SX_, true_and, and_true, false_and, and_false, forall_eq, forall_eq', xi_wi, xr_wi, xt_wi, xl_wi, xn_wi, xs_wi, xi_wr, xr_wr, xt_wr, xl_wr, xn_wr, xs_wr, if_true, if_false, and_self, Int.reduceEq, Int.reduceLT, Int.reduceLE, Int.reduceNeg, Int.le_refl, Int.reduceMod]
  have zl := Z.2.1
  rw [g.2.2] at zl
  have eb : b + ((D.length : Nat) : Int) - b = ((D.length : Nat) : Int) := by omega
  have hg : ∀ j, (fun j => h.i 3 (b + j)) j = h.i 3 (b + j) := fun j => rfl
  have gv : ∀ j, 0 ≤ j → j < ((D.length : Nat) : Int) → h.i 3 (b + j) = gD D j ∧ 97 ≤ gD D j ∧ gD D j ≤ 122 := fun j j0 j1 => by
    obtain ⟨i, rfl⟩ : ∃ i : Nat, j = (i : Int) := ⟨j.toNat, by omega⟩
    rw [Z.2.2 i (by omega), gD_i D rfl]
    exact ⟨rfl, lc _ (getD_mem 0 (by omega))⟩
  have gr : ∀ j, 0 ≤ j → j < b + ((D.length : Nat) : Int) - b → -1000 ≤ (fun j => h.i 3 (b + j)) j ∧ (fun j => h.i 3 (b + j)) j ≤ 1000 := fun j j0 j1 => by
    have := gv j j0 (by omega)
    show -1000 ≤ h.i 3 (b + j) ∧ h.i 3 (b + j) ≤ 1000
    omega
  have wm : ∀ v, WM h (fun j => h.i 3 (b + j)) ((D.length : Nat) : Int) v ↔ WM h (gD D) ((D.length : Nat) : Int) v := fun v => by
    unfold WM
    refine and_congr Iff.rfl ⟨fun H k k0 k1 => ?_, fun H k k0 k1 => ?_⟩
    · rw [H k k0 k1]; exact (gv k k0 k1).1
    · rw [H k k0 k1]; exact (gv k k0 k1).1.symm
  have b40 := iB.2.2.1
  apply L_Book_entryOf
  refine ⟨g.1, ?_⟩
  refine c_X_placeFor (d := d + 1) SX_ iB g.2.1 b0 (by omega) (by rw [g.2.2]; exact zl) (by omega) hg gr (fun a a0 a1 pre post => ?_)
  rw [eb] at pre post
  refine ⟨g.1, ?_⟩
  refine c_X_isAt (d := d + 1) SX_ iB g.2.1 b0 (by omega) (by rw [g.2.2]; exact zl) (by omega) hg gr a0 (fun c E => ?_) (fun ne => ?_)
  · rw [if_neg (by decide)]
    refine ⟨g.1, ?_⟩
    refine c_X_wordAt (d := d + 3) SX_ (by rw [iB.1]; exact b40) ?_
    rw [if_pos ⟨a0, by rw [iB.1]; exact c⟩]
    obtain ⟨va, va0, va1, Ba⟩ := iB.2.2.2.1 a a0 c
    rw [eb] at E
    exact H1 _ va va0 va1 Ba ((wm va).mp ((WM_iff Ba).mp E))
  · rw [if_pos rfl]
    refine H0 (fun w w0 w1 M => ?_)
    obtain ⟨m, m0, m1, Bm⟩ := iB.2.2.2.2.1 w w0 w1
    have Em := (WM_iff Bm).mpr ((wm w).mpr M)
    have am := book_at (g := fun j => h.i 3 (b + j)) (b := b) (e := b + ((D.length : Nat) : Int)) iB m0 m1 (by rw [eb]; exact Em) a0 (by rw [eb]; exact pre) (by rw [eb]; exact post)
    subst am
    exact ne ⟨m1, by rw [eb]; exact Em⟩
theorem c_X_lnWord {h : xH} {Q : Int → xH → Prop} {b : Int} {D : List Int} {ws : List Wd} (L : LX h0 h ws) (hV : bits26 (h0.i 5)) (iB0 : I_book h0) (n0 : 130 ≤ h.nx) (ht : I_tab h) (Z : Src h 3 b D) (b0 : 0 ≤ b) (d1 : 1 ≤ D.length) (lc : ∀ c ∈ D, 97 ≤ c ∧ c ≤ 122) (H1 : wfl h0 ws D = 0 → ∀ h', Fr drL drS h h' → LX h0 h' (ws ++ [wordV h0 D]) → Q 0 h') (H0 : wfl h0 ws D ≠ 0 → ∀ h', Fr drL drS h h' → h'.i 18 0 = 0 → Q (wfl h0 ws D) h') : xCi (d + 7) M_LineReader_addWord [(1, 15), (1, 3), (0, b), (0, b + ((D.length : Nat) : Int))] h Q := by
  obtain ⟨SX_, iB, bk, Dr_, ok⟩ := L
  have z18 := dr_18 SX_ Dr_
  have g : h.tag 15 = 3 ∧ h.r 15 1 = 7 ∧ h.tag 7 = 0 ∧ h.r 15 0 = 4 ∧ h.tag 4 = 2 ∧ h.r 15 2 = 16 ∧ h.tag 16 = 9 := by simp only [sxt SX_, sxl SX_, sxf SX_, true_and, and_true, false_and, and_false, forall_eq, forall_eq', xi_wi, xr_wi, xt_wi, xl_wi, xn_wi, xs_wi, xi_wr, xr_wr, xt_wr, xl_wr, xn_wr, xs_wr, if_true, if_false, and_self, Int.reduceEq, Int.reduceLT, Int.reduceLE, Int.reduceNeg, Int.le_refl, Int.reduceMod]
  have zl := Z.2.1
  rw [show h.len 3 = 240 by simp only [sxt SX_, sxl SX_, sxf SX_, true_and, and_true, false_and, and_false, forall_eq, forall_eq', xi_wi, xr_wi, xt_wi, xl_wi, xn_wi, xs_wi, xi_wr, xr_wr, xt_wr, xl_wr, xn_wr, xs_wr, if_true, if_false, and_self, Int.reduceEq, Int.reduceLT, Int.reduceLE, Int.reduceNeg, Int.le_refl, Int.reduceMod]] at zl
  have hV' : bits26 (h.i 5) := by rw [bk.2.1]; exact hV
  have eF := BkEq_bkF bk D
  apply L_LineReader_addWord
  rw [xw_id (a := b + ((D.length : Nat) : Int) - b) (by omega) (by omega), show b + ((D.length : Nat) : Int) - b = ((D.length : Nat) : Int) by omega]
  by_cases c1 : 16 < D.length
  · rw [if_pos (by omega)]
    have e : wfl h0 ws D = 2 := by unfold wfl; rw [if_pos c1]
    have := H0 (by rw [e]; decide) h (Fr_refl _ _ _) z18
    rw [e] at this; exact this
  rw [if_neg (by omega), g.2.1]
  refine ⟨g.1, g.2.2.1, ?_⟩
  have XS16 : XSh h 16 ((flat ws).length : Nat) ((txt ws).length : Nat) := by
    have g2 : h.r 16 0 = 17 ∧ h.r 16 1 = 18 ∧ h.r 16 2 = 19 ∧ h.r 16 3 = 20 ∧ h.r 16 4 = 21 ∧ (h.tag 17 = 20 ∧ h.tag 18 = 20 ∧ h.tag 19 = 20 ∧ h.tag 20 = 20 ∧ h.tag 21 = 20) ∧ h.len 17 = 192 ∧ h.len 18 = 41 ∧ h.len 19 = 40 ∧ h.len 20 = 40 ∧ h.len 21 = 40 := by simp only [sxt SX_, sxl SX_, sxf SX_, true_and, and_true, false_and, and_false, forall_eq, forall_eq', xi_wi, xr_wi, xt_wi, xl_wi, xn_wi, xs_wi, xi_wr, xr_wr, xt_wr, xl_wr, xn_wr, xs_wr, if_true, if_false, and_self, Int.reduceEq, Int.reduceLT, Int.reduceLE, Int.reduceNeg, Int.le_refl, Int.reduceMod]
    obtain ⟨q0, q1, q2, q3, q4, ⟨t0, t1, t2, t3, t4⟩, l0, l1, l2, l3, l4⟩ := g2
    have o1 := ok.1
    have o2 := ok.2.1
    have tl := txt_le ws ok.2.2
    unfold XSh
    rw [q0, q1, q2, q3, q4, t0, t1, t2, t3, t4, l0, l1, l2, l3, l4]
    exact ⟨g.2.2.2.2.2.2, rfl, rfl, rfl, rfl, rfl, by omega, by omega, by omega, by omega, by omega⟩
  -- the word is put behind, if there is room
  have tail : ∀ (l4 : Int) (u5 u6 : xV), (l4 = 0 ∨ ∃ w, 0 ≤ w ∧ w < h.i 59 16 ∧ BookRel h l4 w ∧ WM h (gD D) ((D.length : Nat) : Int) w) → (l4 = 0 → bkF h D = -1 ∧ ¬ noV (h.i 6) (h.i 5) D) → xT (d + 6) M_LineReader_addWord 25 [(1, 15), (1, 3), (0, b), (0, b + ((D.length : Nat) : Int)), (1, l4), u5, u6] [] h (xqi Q) := fun l4 u5 u6 hl hz => by
    have nf : ¬ (bkF h0 D = -1 ∧ nvB (h0.i 6) (h0.i 5) D = true) := fun z => by
      rcases hl with y | ⟨w, w0, w1, B, M⟩
      · have := (hz y).2
        rw [bk.1, bk.2.1] at this
        exact this (nvB_iff.mp z.2)
      · have := bkF_yes iB w0 w1 M
        rw [eF, z.1] at this
        omega
    have wv := WdOk_wordV iB0 hV lc d1 (by omega) nf
    have tl := txt_le ws ok.2.2
    have o1 := ok.1
    have o2 := ok.2.1
    apply L_LineReader_addWord_25
    rw [g.2.2.2.2.2.1]
    refine ⟨g.1, g.2.2.2.2.2.2, ?_⟩
    refine c_X_wordCount (d := d + 5) ok (XF_iff.mpr Dr_.1) XS16 ?_
    by_cases c2 : ws.length = 12
    · rw [if_neg (by omega)]
      have e : wfl h0 ws D = 4 := by unfold wfl; rw [if_neg c1, if_neg nf, if_pos (Or.inl c2)]
      have := H0 (by rw [e]; decide) h (Fr_refl _ _ _) z18
      rw [e] at this; exact this
    · rw [if_pos (by omega)]
      have fin1 : (flat ws).length + (wordP h0 D).length ≤ 40 → ∀ h', Fr drL drS h h' → Dr h' (flat ws ++ fsyl ((ws.length : Nat) : Int) (if bkF h0 D = -1 then 0 else 1) 0 (mkSy (h0.i 6) (h0.i 5) D 0 (wordP h0 D))) (txt ws ++ D) → Q 0 h' := fun le h' F X => by
        have e : wfl h0 ws D = 0 := by unfold wfl; rw [if_neg c1, if_neg nf, if_neg (by omega)]
        have ok' := (LnOk_more iB0 hV lc d1 ok e).1
        refine H1 e h' F ⟨SX_2 F.1 SX_, book_fr n0 ht iB F (by decide), BkEq_fr bk F (by decide), ?_, ok'⟩
        rw [flat_app, txt_app1]
        exact X
      have fin0 : 40 < (flat ws).length + (wordP h0 D).length → ∀ h', Fr drL drS h h' → h'.i 18 0 = 0 → Q 4 h' := fun gt h' F z => by
        have e : wfl h0 ws D = 4 := by unfold wfl; rw [if_neg c1, if_neg nf, if_pos (Or.inr gt)]
        have := H0 (by rw [e]; decide) h' F z
        rw [e] at this; exact this
      by_cases c3 : l4 = 0
      · rw [if_pos c3]
        have hz' := hz c3
        refine ⟨g.1, ?_⟩
        have eb : bkF h0 D = -1 := by rw [← eF]; exact hz'.1
        have eL : wordP h0 D = rulL (h0.i 6) (h0.i 5) D := by unfold wordP; rw [if_pos eb]
        rw [eL, eb] at fin1
        rw [if_pos rfl] at fin1
        rw [eL] at fin0
        apply L_LineReader_addByRules
        have nv := hz'.2
        rw [bk.1, bk.2.1] at nv
        have := c_X_rul12 (d := d) (P := h0.i 6) (V := h0.i 5) (D := D) (T0 := txt ws) (q := 3) (b := b) (w := ((ws.length : Nat) : Int)) (Q := fun r2 h2 => if r2 = 0 then Q 4 h2 else Q 0 h2) hV lc b0 (by omega) (by omega) (by omega) (Or.inl (by decide)) D.length (flat ws) 0 0 (-1) 0 0 h (0, b) (9, 0) (by omega) (by omega) (fun _ => noV_ex hV lc nv) ⟨Int.le_refl _, Int.le_refl _, Or.inl rfl⟩ (Or.inl rfl) (Int.le_refl _) SX_ bk.1 bk.2.1 Z (by rw [show (0 : Int).toNat = 0 from rfl, List.take_zero, List.append_nil]; exact Dr_) o2 (by omega) (fun le h' F X => by rw [if_neg (by decide)]; exact fin1 le h' F X) (fun gt h' F z => by rw [if_pos rfl]; exact fin0 gt h' F z)
        rw [show b + 0 = b by omega, show bvA b (-1) = -1 from rfl] at this
        exact this
      · rw [if_neg c3]
        obtain ⟨w, w0, w1, B, M⟩ := hl.resolve_left c3
        refine ⟨g.1, ?_⟩
        have ew := bkF_yes iB w0 w1 M
        rw [eF] at ew
        have eL : wordP h0 D = bkL h w := by unfold wordP; rw [if_neg (by omega), ew, BkEq_bkL bk]
        have E := EntO_of B M
        rw [← eL] at E
        rw [if_neg (show ¬ bkF h0 D = -1 by omega)] at fin1
        apply L_LineReader_addEntry
        have := c_X_addEnt2 (d := d) (P := h0.i 6) (V := h0.i 5) (D := D) (T0 := txt ws) (p := l4) (w := ((ws.length : Nat) : Int)) (L := wordP h0 D) (Q := fun r2 h2 => if r2 = 0 then Q 4 h2 else Q 0 h2) hV lc (by omega) (by omega) (wordP h0 D).length 0 (flat ws) h (Nat.zero_add _) SX_ bk.1 bk.2.1 E wv.2.2.1 (by show Dr h (flat ws) (txt ws ++ D.take (0 : Int).toNat); rw [show (0 : Int).toNat = 0 from rfl, List.take_zero, List.append_nil]; exact Dr_) o2 (fun le h' F X => by rw [if_neg (by decide)]; exact fin1 le h' F X) (fun gt h' F z => by rw [if_pos rfl]; exact fin0 gt h' F z)
        exact this
  refine c_X_entryOf (d := d + 1) SX_ iB Z b0 lc (fun p w w0 w1 B M => ?_) (fun no => ?_)
  · have p130 := B.1.1
    rw [if_neg (by omega)]
    exact tail p _ _ (Or.inr ⟨w, w0, w1, B, M⟩) (fun y => by omega)
  · rw [if_pos rfl, g.2.2.2.1]
    refine ⟨g.1, g.2.2.2.2.1, ?_⟩
    have lt := src_lets Z lc (x := b) (y := b + ((D.length : Nat) : Int)) (Int.le_refl _) (Int.le_refl _)
    refine c_X_vsum (d := d + 3) SX_ Z.1 (by rw [show h.len 3 = 240 by simp only [sxt SX_, sxl SX_, sxf SX_, true_and, and_true, false_and, and_false, forall_eq, forall_eq', xi_wi, xr_wi, xt_wi, xl_wi, xn_wi, xs_wi, xi_wr, xr_wr, xt_wr, xl_wr, xn_wr, xs_wr, if_true, if_false, and_self, Int.reduceEq, Int.reduceLT, Int.reduceLE, Int.reduceNeg, Int.le_refl, Int.reduceMod]]; exact zl) (by omega) hV' b0 lt ?_
    have es := src_sgs (P := h.i 6) (V := h.i 5) Z (f := 0) (l := ((D.length : Nat) : Int)) (Int.le_refl _) (by omega) (by omega)
    rw [show b + 0 = b by omega, show 0 + ((D.length : Nat) : Int) = ((D.length : Nat) : Int) by omega] at es
    rw [es]
    have bno := bkF_no no
    have sok : ∀ p ∈ sgs (h.i 6) (h.i 5) (gD D) 0 ((D.length : Nat) : Int), p.2 = 0 ∨ p.2 = 1 := fun p mp => by
      rw [← es] at mp
      exact (sgs_all hV' lt p mp).1
    have sz : ((sgs (h.i 6) (h.i 5) (gD D) 0 ((D.length : Nat) : Int)).map (fun p => p.2)).sum = 0 ↔ noV (h.i 6) (h.i 5) D := by
      unfold noV
      revert sok
      generalize sgs (h.i 6) (h.i 5) (gD D) 0 ((D.length : Nat) : Int) = LL
      intro sok
      have nn : ∀ L : List (Int × Int), (∀ p ∈ L, p.2 = 0 ∨ p.2 = 1) → 0 ≤ (L.map (fun p => p.2)).sum := by
        intro L
        induction L with
        | nil => intro _; exact Int.le_refl _
        | cons a L ih =>
          intro H
          have := H a List.mem_cons_self
          have := ih (fun x m => H x (List.mem_cons_of_mem _ m))
          rw [List.map_cons, List.sum_cons]; omega
      induction LL with
      | nil => exact ⟨fun _ p m => absurd m List.not_mem_nil, fun _ => rfl⟩
      | cons a L ih =>
        have ha := sok a List.mem_cons_self
        have z := ih (fun x m => sok x (List.mem_cons_of_mem _ m))
        have nz := nn L (fun x m => sok x (List.mem_cons_of_mem _ m))
        rw [List.map_cons, List.sum_cons]
        constructor
        · intro e p mp
          rw [List.mem_cons] at mp
          rcases mp with mp | mp
          · rw [mp]; omega
          · exact z.mp (by omega) p mp
        · intro H
          have a0 := H a List.mem_cons_self
          have := z.mpr (fun p m => H p (List.mem_cons_of_mem _ m))
          omega
    by_cases c2 : ((sgs (h.i 6) (h.i 5) (gD D) 0 ((D.length : Nat) : Int)).map (fun p => p.2)).sum = 0
    · rw [if_pos c2]
      have nv := sz.mp c2
      have e : wfl h0 ws D = 3 := by
        unfold wfl
        rw [if_neg c1, if_pos ⟨by rw [← eF]; exact bno, nvB_iff.mpr (by rw [← bk.1, ← bk.2.1]; exact nv)⟩]
      have := H0 (by rw [e]; decide) h (Fr_refl _ _ _) z18
      rw [e] at this; exact this
    · rw [if_neg c2]
      exact tail 0 _ _ (Or.inl rfl) (fun _ => ⟨bno, fun z => c2 (sz.mpr z)⟩)
end XLI
