/-! fits: what a changed line costs; the class' loop -/
theorem xC_det {d m : Nat} {a : List xV} {h : xH} {Q Q' : xV → xH → Prop} (A : xC d m a h Q) (B : xC d m a h Q') : ∃ v h', Q v h' ∧ Q' v h' := by
  obtain ⟨_, n, v, h1, e, q⟩ := A
  obtain ⟨_, n', v', h1', e', q'⟩ := B
  have a := xrun_ups e n'
  have b := xrun_ups e' n
  rw [Nat.add_comm n' n] at b
  have c := Option.some.inj (a.symm.trans b)
  refine ⟨v, h1, q, ?_⟩
  have c1 : v = v' := congrArg Prod.fst c
  have c2 : h1 = h1' := congrArg Prod.snd c
  rw [c1, c2]; exact q'
def AgW (h : xH) (ws : List Wd) (f : Int) (E : SEn) : Prop := E 0 0 = (((flat ws).length : Nat) : Int) ∧ (∀ i : Nat, i < (flat ws).length → E 1 i = ((flat ws).getD i fs0).m ∧ E 2 i = ((flat ws).getD i fs0).w ∧ E 3 i = cls ((flat ws).getD i fs0).s ∧ E 4 i = opn ((flat ws).getD i fs0).s) ∧ ∀ j, 5 ≤ j → E j = envR h 0 f j
def envW (h : xH) (ws : List Wd) (f : Int) : SEn := fun j => if j = 0 then fun _ => (((flat ws).length : Nat) : Int) else if j = 1 then fun i => ((flat ws).getD i.toNat fs0).m else if j = 2 then fun i => ((flat ws).getD i.toNat fs0).w else if j = 3 then fun i => cls ((flat ws).getD i.toNat fs0).s else if j = 4 then fun i => opn ((flat ws).getD i.toNat fs0).s else envR h 0 f j
theorem AgW_W (h : xH) (ws : List Wd) (f : Int) : AgW h ws f (envW h ws f) := by
  refine ⟨rfl, fun i hi => ⟨rfl, rfl, rfl, rfl⟩, fun j hj => ?_⟩
  unfold envW
  rw [if_neg (by omega), if_neg (by omega), if_neg (by omega), if_neg (by omega), if_neg (by omega)]
theorem EOk_W {h : xH} {ws : List Wd} {f : Int} {E : SEn} (ok : LnOk ws) (w1 : 1 ≤ ws.length) (A : AgW h ws f E) (K : EOk (envR h 0 f)) : EOk E := by
  have fl := (flatF_last ws 0 ok.2.2 w1).1
  have o2 := ok.2.1
  obtain ⟨a0, a1, a5⟩ := A
  obtain ⟨k1, k2, k3, k4, k5, k6, k7, k8, k9, k10⟩ := K
  have fl : 1 ≤ (flat ws).length := fl
  unfold EOk
  rw [a0, a5 5 (by decide), a5 6 (by decide), a5 7 (by decide), a5 8 (by decide), a5 9 (by decide), a5 10 (by decide), a5 11 (by decide), a5 12 (by decide), a5 13 (by decide)]
  refine ⟨by omega, by omega, fun i i0 i1 => ?_, k4, k5, k6, k7, k8, k9, k10⟩
  obtain ⟨j, rfl⟩ : ∃ j : Nat, i = (j : Int) := ⟨i.toNat, by omega⟩
  have hj : j < (flat ws).length := by omega
  obtain ⟨_, _, _, _, _, _, s, _⟩ := flat_get ok hj
  rw [(a1 j hj).1]
  exact ⟨s.2.1, s.2.2.1⟩
theorem XFo_W {h0 h : xH} {ws : List Wd} {f : Int} {E : SEn} (A : AgW h0 ws f E) (X : XFo h f (envR h0 0 f)) : XFo h f E := by
  obtain ⟨a0, a1, a5⟩ := A
  unfold XFo at X ⊢
  rw [a5 5 (by decide), a5 6 (by decide), a5 7 (by decide), a5 8 (by decide), a5 9 (by decide), a5 10 (by decide), a5 11 (by decide), a5 12 (by decide), a5 13 (by decide)]
  exact X
theorem XLe_16 {h : xH} {ws : List Wd} {f : Int} {h0 : xH} {E : SEn} (SX_ : SX h) (n0 : 130 ≤ h.nx) (ht : I_tab h) (ok : LnOk ws) (D : Dr h (flat ws) (txt ws)) (A : AgW h0 ws f E) : XLe h 16 E := by
  have g : h.tag 16 = 9 ∧ (h.r 16 2 = 19 ∧ h.r 16 3 = 20 ∧ h.r 16 4 = 21) ∧ (h.tag 19 = 20 ∧ h.tag 20 = 20 ∧ h.tag 21 = 20) ∧ h.len 19 = 40 ∧ h.len 20 = 40 ∧ h.len 21 = 40 := by simp only [sxt SX_, sxl SX_, sxf SX_, true_and, and_true, false_and, and_false, forall_eq, forall_eq', xi_wi, xr_wi, xt_wi, xl_wi, xn_wi, xs_wi, xi_wr, xr_wr, xt_wr, xl_wr, xn_wr, xs_wr, if_true, if_false, and_self, Int.reduceEq, Int.reduceLT, Int.reduceLE, Int.reduceNeg, Int.le_refl, Int.reduceMod]
  obtain ⟨g1, ⟨g2, g3, g4⟩, ⟨g5, g6, g7⟩, g8, g9, g10⟩ := g
  obtain ⟨a0, a1, a5⟩ := A
  have o2 := ok.2.1
  obtain ⟨⟨x0, x1, x2, x3⟩, x4⟩ := D
  have x0 : h.i 16 6 = (((flat ws).length : Nat) : Int) := x0
  unfold I_tab at ht
  unfold XLe XFar
  rw [g2, g3, g4, g5, g6, g7, g8, g9, g10, a0, x0]
  refine ⟨g1, rfl, rfl, rfl, rfl, by omega, by omega, by omega, by omega, by omega, by omega, by omega, fun i i0 i1 => ?_⟩
  obtain ⟨j, rfl⟩ : ∃ j : Nat, i = (j : Int) := ⟨i.toNat, by omega⟩
  have hj : j < (flat ws).length := by omega
  have z := x1 j hj
  rw [show XV h 16 3 j = h.i (h.r 16 2) j from rfl, show XV h 16 4 j = h.i (h.r 16 3) j from rfl, show XV h 16 5 j = h.i (h.r 16 4) j from rfl, g2, g3, g4] at z
  have y := a1 j hj
  obtain ⟨k, k1, _, _, _, kb, s, _⟩ := flat_get ok hj
  have s6 := s.2.2.2.2.2
  have b01 : ((flat ws).getD j fs0).b = 0 ∨ ((flat ws).getD j fs0).b = 1 := by
    rw [kb]; exact (ok.2.2 _ (getD_mem wd0 k1)).2.2.2.1
  have c01 := cls_01 s6
  have o01 := opn_01 s6
  simp only at c01 o01
  rw [y.1, y.2.1, y.2.2.1, y.2.2.2, z.1, z.2.1, z.2.2]
  refine ⟨rfl, rfl, ?_, c01, o01⟩
  rcases b01 with b | b
  · rw [b]; left; omega
  · rw [b]; right; omega
/-- all that agree with a line cost the same -/
theorem chp_W {h h0 : xH} {ws : List Wd} {f : Int} (XS_ : XS h) (ok : LnOk ws) (w1 : 1 ≤ ws.length) (K : EOk (envR h0 0 f)) (D : Dr h (flat ws) (txt ws)) (X : XFo h f (envR h0 0 f)) {E E' : SEn} (A : AgW h0 ws f E) (A' : AgW h0 ws f E') : chp E = chp E' := by
  have mk : ∀ E, AgW h0 ws f E → XEn h 16 f E := fun E A => ⟨XS_.1, XS_.2.1, XS_.2.2.1, EOk_W ok w1 A K, XLe_16 XS_.1 XS_.2.1 XS_.2.2.1 ok D A, XFo_W A X⟩
  have r1 := c_X_cheapest (d := 0) (Q := fun r _ => r = chp E) XS_ (mk E A) (fun _ _ _ _ => rfl)
  have r2 := c_X_cheapest (d := 0) (Q := fun r _ => r = chp E') XS_ (mk E' A') (fun _ _ _ _ => rfl)
  obtain ⟨v, h', ⟨x, ex, q⟩, ⟨y, ey, q'⟩⟩ := xC_det r1 r2
  have : x = y := congrArg Prod.snd (ex.symm.trans ey)
  rw [← q, ← q', this]
def bkD (h : xH) (w : Int) : List Int := (List.range (h.i 69 w).toNat).map (fun k : Nat => h.i 68 (16 * w + (k : Int)))
theorem bkD_len (h : xH) (w : Int) : (bkD h w).length = (h.i 69 w).toNat := by unfold bkD; rw [List.length_map, List.length_range]
theorem bkD_get {h : xH} {w : Int} {k : Nat} (hk : k < (bkD h w).length) : (bkD h w).getD k 0 = h.i 68 (16 * w + (k : Int)) := by
  rw [bkD_len] at hk
  unfold bkD
  rw [map_gd (z := 0) (by rw [List.length_range]; exact hk), List.getD_eq_getElem?_getD, List.getElem?_range hk]
  rfl
theorem bkD_ok {h : xH} {p w : Int} (B : BookRel h p w) : EntO h p (bkD h w) (bkL h w) ∧ (∀ c ∈ bkD h w, 97 ≤ c ∧ c ≤ 122) ∧ 1 ≤ (bkD h w).length ∧ (bkD h w).length ≤ 16 ∧ 1 ≤ (bkL h w).length ∧ (bkL h w).length ≤ 16 ∧ h.i 69 w = (((bkD h w).length : Nat) : Int) ∧ h.i 70 w = (((bkL h w).length : Nat) : Int) := by
  have XL := XLet_book B
  have s0 : 0 ≤ h.i 69 w := by have := XL.1.2.2.2.1; omega
  have dl := bkD_len h w
  have ll := bkL_len h w
  have b := B.2
  have M : WM h (gD (bkD h w)) (((bkD h w).length : Nat) : Int) w := by
    refine ⟨by rw [dl]; omega, fun k k0 k1 => ?_⟩
    obtain ⟨j, rfl⟩ : ∃ j : Nat, k = (j : Int) := ⟨k.toNat, by omega⟩
    rw [gD_i _ rfl, bkD_get (by omega)]
  have E := EntO_of B M
  have pt := E.2.2.2.2.2.2.2.2.2
  have sm : ∀ L : List (Int × Int), (∀ x ∈ L, 1 ≤ x.1) → ((L.length : Nat) : Int) ≤ (L.map (fun p => p.1)).sum := by
    intro L
    induction L with
    | nil => intro _; exact Int.le_refl _
    | cons a L ih =>
      intro H
      have := H a List.mem_cons_self
      have := ih (fun x m => H x (List.mem_cons_of_mem _ m))
      rw [List.map_cons, List.sum_cons, List.length_cons]; push_cast; omega
  have z := sm _ (fun x m => (pt.1 x m).1)
  have := pt.2
  refine ⟨E, fun c m => ?_, by omega, by omega, by omega, by omega, by omega, by omega⟩
  unfold bkD at m
  rw [List.mem_map] at m
  obtain ⟨k, mk, e⟩ := m
  rw [List.mem_range] at mk
  rw [← e]
  exact (B.2.2.2.2.2.2.2.2 (k : Int) (by omega) (by omega)).2
def rpW (h : xH) (ws : List Wd) (W : Nat) (w : Int) : List Wd := ws.set W (bkD h w, 1, mkSy (h.i 6) (h.i 5) (bkD h w) 0 (bkL h w))
theorem rpW_ok {h : xH} {p w : Int} {ws : List Wd} {W : Nat} (B : BookRel h p w) (hV : bits26 (h.i 5)) (ok : LnOk ws) (l40 : (flat (rpW h ws W w)).length ≤ 40) : LnOk (rpW h ws W w) ∧ (rpW h ws W w).length = ws.length := by
  obtain ⟨E, lc, d1, d16, l1, l16, s1, s2⟩ := bkD_ok B
  have el : (rpW h ws W w).length = ws.length := by unfold rpW; rw [List.length_set]
  refine ⟨⟨by rw [el]; exact ok.1, l40, fun d m => ?_⟩, el⟩
  unfold rpW at m
  rcases List.mem_or_eq_of_mem_set m with z | z
  · exact ok.2.2 d z
  · rw [z]
    exact wd_ok hV lc d1 d16 l1 (Or.inr rfl) E.2.2.2.2.2.2.2.2.2
def yesW (h : xH) (ws : List Wd) (W : Nat) (f pr w : Int) : Bool := decide ((flat (rpW h ws W w)).length ≤ 40) && (decide (chp (envW h (rpW h ws W w) f) ≠ -1) && decide (chp (envW h (rpW h ws W w) f) ≤ pr))
noncomputable def fndL (h : xH) (ws : List Wd) (W : Nat) (f pr : Int) : Nat → List Int
  | 0 => []
  | b + 1 => fndL h ws W f pr b ++ (if yesW h ws W f pr (bkW h (b : Int)) = true then [(b : Int)] else [])
theorem fndL_len {h : xH} {ws : List Wd} {W : Nat} {f pr : Int} : ∀ b : Nat, (fndL h ws W f pr b).length ≤ b ∧ ∀ x ∈ fndL h ws W f pr b, 0 ≤ x ∧ x < (b : Int) := by
  intro b
  induction b with
  | zero => exact ⟨Nat.le_refl _, fun x m => absurd m List.not_mem_nil⟩
  | succ b ih =>
    rw [fndL, List.length_append]
    by_cases c : yesW h ws W f pr (bkW h (b : Int)) = true
    · rw [if_pos c]
      refine ⟨by show _ + 1 ≤ b + 1; omega, fun x m => ?_⟩
      rw [List.mem_append, List.mem_singleton] at m
      rcases m with m | m
      · have := ih.2 x m; push_cast; omega
      · rw [m]; push_cast; omega
    · rw [if_neg c]
      refine ⟨by show _ + 0 ≤ b + 1; omega, fun x m => ?_⟩
      rw [List.append_nil] at m
      have := ih.2 x m; push_cast; omega
def fzL : List Int := drL ++ scXL
def fzS : List (Int × Int) := (2, 15) :: (drS ++ scXS)
/-- how the class' loop stands against the heap before it -/
def FtI (h0 h : xH) : Prop := FA fzL fzS [58] scXR h0 h ∧ Tok h0 h ∧ Gro h0 h ∧ XS h ∧ h.i 18 0 = 0
theorem FtI_dr {h0 h h' : xH} (I : FtI h0 h) (G : Fr drL drS h h') (z : h'.i 18 0 = 0) : FtI h0 h' := by
  obtain ⟨a1, a2, a3, a4, a5⟩ := I
  have n0 := a4.2.1
  exact ⟨FA_fq a1 G (fun x m => Or.inl (List.mem_append_left _ m)) (by decide), Tok_fq a2 G, Gro_fq a3 G, XS_q a4 G (fun x m => by have := (by decide : ∀ x ∈ drL, x < 130) x m; omega) (fun q m => by have := (by decide : ∀ q ∈ drS, q.1 < 130) q m; omega), z⟩
theorem FtI_sc {h0 h h' : xH} (S0 : XS h0) (I : FtI h0 h) (A : ScX h h') : FtI h0 h' := by
  obtain ⟨a1, a2, a3, a4, a5⟩ := I
  obtain ⟨b1, b2, b3, b4⟩ := A
  have n1 := a1.1
  have n0 := a4.2.1
  have ht := a4.2.2.1
  unfold I_tab at ht
  have z2 := a2
  have y2 := b2
  unfold Tok at z2 y2
  refine ⟨FA_trans a1 a2.1 (FA_mono b1 (by decide) (by decide) (fun c m => absurd m List.not_mem_nil) (fun c m => m)), by unfold Tok; omega, Gro_trans S0.2.2.2.2.2.2.1 a3 b3, b4, ?_⟩
  rw [b1.2.2.1 18 0 (by omega) (by decide) (by decide) (by omega)]
  exact a5
theorem FtI_fd {h0 h h1 h3 : xH} {a v e : Int} (I : FtI h0 h) (e1 : h1 = h.wi 2 15 v) (e3 : h3 = h1.wr 58 a e) : FtI h0 h3 := by
  obtain ⟨a1, a2, a3, a4, a5⟩ := I
  have n0 := a4.2.1
  have G : Fr [] [(2, 15)] h h1 := by rw [e1]; exact Fr_slot (Fr_refl _ _ _) _ (by decide)
  have b1 : FA fzL fzS [58] scXR h0 h1 := FA_fq a1 G (fun x m => absurd m List.not_mem_nil) (by decide)
  have b2 := Tok_fq a2 G
  have b3 := Gro_fq a3 G
  have b4 := XS_q a4 G (fun x m => absurd m List.not_mem_nil) (fun q m => by rw [List.mem_singleton] at m; rw [m]; show (2 : Int) < h.nx; omega)
  have b5 : h1.i 18 0 = 0 := by rw [G.2 18 0 (by decide) (by decide)]; exact a5
  have n1 := b4.2.1
  subst e3
  obtain ⟨s1, s2, s3, s4, s5, s6, s7, s8⟩ := b4
  have r28 : (h1.wr 58 a e).r 28 6 = h1.r 28 6 := by rw [xr_wr, if_neg (fun z => absurd z.1 (by decide))]
  have r40 : (h1.wr 58 a e).r 40 3 = h1.r 40 3 := by rw [xr_wr, if_neg (fun z => absurd z.1 (by decide))]
  refine ⟨FA_wr b1 _ _ (Or.inl (by decide)), ?_, ?_, ⟨SX_wr58 s1, s2, by unfold I_tab at s3 ⊢; rw [r28]; exact s3, I_new_wr s4 _ _ (by omega), by rw [r28]; exact s5, by rw [r28]; exact s6, by unfold tl at s7 ⊢; rw [r28]; exact s7, by unfold tl at s8 ⊢; rw [r28]; exact s8⟩, b5⟩
  · unfold Tok at b2 ⊢; rw [r28, r40]; exact b2
  · unfold Gro tl at b3 ⊢; rw [r28]; exact b3
theorem fz_low : low fzL fzS [58] scXR = true := by decide
theorem FTab_ft {h0 h : xH} {p s m x y : Int} {dg : Int → Int} (I : FtI h0 h) (B : FTab h0 p s m x y dg) : FTab h p s m x y dg := FTab_fa I.1 fz_low I.2.1 B
theorem XFo_ft {h0 h : xH} {f : Int} {E : SEn} (S0 : XS h0) (I : FtI h0 h) (X : XFo h0 f E) : XFo h f E := by
  have F := I.1
  have n0 := S0.2.1
  have ht := S0.2.2.1
  unfold I_tab at ht
  obtain ⟨x1, x2, x3, x4, x5, x6, x7⟩ := X
  have r23 : h.r 23 = h0.r 23 := FA_rrow F (by omega) (by decide)
  refine ⟨x1, x2, ?_, ?_, ?_, ?_, fun g g0 g1 => ?_⟩
  · rw [FA_row F (c := 25) (by omega) (by decide) (by decide) (by omega)]; exact x3
  · rw [FA_row F (c := 24) (by omega) (by decide) (by decide) (by omega)]; exact x4
  · rw [FA_row F (c := 26) (by omega) (by decide) (by decide) (by omega)]; exact x5
  · rw [FA_row F (c := 27) (by omega) (by decide) (by decide) (by omega)]; exact x6
  · rw [r23]
    exact (x7 g g0 g1).imp id (fun z => ⟨z.1, z.2.1, FTab_ft I z.2.2⟩)
section FL8
variable {d : Nat} {h0 : xH} {Q : Int → xH → Prop} {ws : List Wd} {W : Nat} {f pr : Int} {n0 : Nat}
set_option maxHeartbeats 1000000 in
theorem c_X_fits18 (I : INV n0 h0) (f0 : 0 ≤ f) (f1 : f ≤ 7) (K : EOk (envR h0 0 f)) (ok : LnOk ws) (hW : W < ws.length) (O : LineO h0 (h0.r 2 13) ws) (H : ∀ h, FtI h0 h → h.i 2 15 = (((fndL h0 ws W f pr (h0.i 59 16).toNat).length : Nat) : Int) → (∀ a : Nat, a < (fndL h0 ws W f pr (h0.i 59 16).toNat).length → h.r 58 (a : Int) = h0.r 8 ((fndL h0 ws W f pr (h0.i 59 16).toNat).getD a 0)) → (∀ b : Nat, (b : Int) < h0.i 59 16 → (flat (rpW h0 ws W (bkW h0 (b : Int)))).length ≤ 40 → ∀ E, AgW h0 (rpW h0 ws W (bkW h0 (b : Int))) f E → chp E = chp (envW h0 (rpW h0 ws W (bkW h0 (b : Int))) f)) → Q (((fndL h0 ws W f pr (h0.i 59 16).toNat).length : Nat) : Int) h) : ∀ (m b : Nat) (h : xH) (u5 u6 : xV), ((b + m : Nat) : Int) = h0.i 59 16 → FtI h0 h → h.i 2 15 = (((fndL h0 ws W f pr b).length : Nat) : Int) → (∀ a : Nat, a < (fndL h0 ws W f pr b).length → h.r 58 (a : Int) = h0.r 8 ((fndL h0 ws W f pr b).getD a 0)) → (∀ c : Nat, c < b → (flat (rpW h0 ws W (bkW h0 (c : Int)))).length ≤ 40 → ∀ E, AgW h0 (rpW h0 ws W (bkW h0 (c : Int))) f E → chp E = chp (envW h0 (rpW h0 ws W (bkW h0 (c : Int))) f)) → xT (d + 7) M_X_fits 18 [(1, 2), (0, f), (0, (W : Int)), (0, pr), (0, (b : Int)), u5, u6] [] h (xqi Q) := by
  have S0 := XS_of I
  have n130 := I.2.2.1
  have ht0 := I.2.2.2.1
  have iB := I.2.2.2.2.2.2.2.2.2.2.2.2.2.2.1
  have RL0 : RLang h0 (h0.i 6) (h0.i 5) := RLang_of I.2.2.2.2.2.2.2.2.1 I.2.2.2.2.2.2.2.1
  have hV : bits26 (h0.i 5) := fun k k0 k1 => (RL0.2 k k0 k1).2
  have XF0 := XFo_of (l := 0) I f0 f1
  have bs := iB.1
  have bn0 := iB.2.1
  have b40 := iB.2.2.1
  intro m
  induction m with
  | zero =>
    intro b h u5 u6 hb J fs fd pf
    have SX_ := J.2.2.2.1.1
    have e72 : h.i 7 2 = h0.i 7 2 := J.1.2.2.1 7 2 (by omega) (by decide) (by decide) (by unfold I_tab at ht0; omega)
    have g : h.tag 2 = 11 ∧ h.r 2 3 = 7 ∧ h.tag 7 = 0 := by simp only [sxt SX_, sxl SX_, sxf SX_, true_and, and_true, false_and, and_false, forall_eq, forall_eq', xi_wi, xr_wi, xt_wi, xl_wi, xn_wi, xs_wi, xi_wr, xr_wr, xt_wr, xl_wr, xn_wr, xs_wr, if_true, if_false, and_self, Int.reduceEq, Int.reduceLT, Int.reduceLE, Int.reduceNeg, Int.le_refl, Int.reduceMod]
    have eb : (h0.i 59 16).toNat = b := by omega
    rw [eb] at H
    apply L_X_fits_18
    rw [g.2.1]
    refine ⟨g.1, g.2.2, ?_⟩
    apply L_Book_size
    rw [e72, bs]
    refine ⟨g.2.2, ?_⟩
    rw [if_neg (by omega), fs]
    exact ⟨g.1, H h J fs fd (fun c hc => pf c (by omega))⟩
  | succ m ih =>
    intro b h u5 u6 hb J fs fd pf
    have SX_ := J.2.2.2.1.1
    have F := J.1
    have hT := J.2.1
    have nlo : ∀ c : Int, c < 130 → c < h0.nx := fun c hc => by omega
    have ntb : ∀ c : Int, c < 130 → c ≠ 34 → c ≠ h0.r 28 6 := fun c hc n => by unfold I_tab at ht0; omega
    have e72 : h.i 7 2 = h0.i 7 2 := F.2.2.1 7 2 (nlo 7 (by decide)) (by decide) (by decide) (ntb 7 (by decide) (by decide))
    have g : h.tag 2 = 11 ∧ h.r 2 3 = 7 ∧ h.tag 7 = 0 ∧ h.r 2 4 = 15 ∧ h.tag 15 = 3 ∧ h.r 2 6 = 28 ∧ h.tag 28 = 8 := by simp only [sxt SX_, sxl SX_, sxf SX_, true_and, and_true, false_and, and_false, forall_eq, forall_eq', xi_wi, xr_wi, xt_wi, xl_wi, xn_wi, xs_wi, xi_wr, xr_wr, xt_wr, xl_wr, xn_wr, xs_wr, if_true, if_false, and_self, Int.reduceEq, Int.reduceLT, Int.reduceLE, Int.reduceNeg, Int.le_refl, Int.reduceMod]
    obtain ⟨g1, g2, g3, g4, g5, g6, g7⟩ := g
    have r213 : h.r 2 13 = h0.r 2 13 := FA_rslot F (nlo 2 (by decide)) (by decide)
    have r8 : h.r 8 = h0.r 8 := FA_rrow F (nlo 8 (by decide)) (by decide)
    have rw_ : ∀ c : Int, c < 130 → c ≠ 34 → c ∉ fzL → (∀ q ∈ fzS, q.1 ≠ c) → h.i c = h0.i c := fun c hc n a b => FA_row F (nlo c hc) a b (ntb c hc n)
    have i6 := rw_ 6 (by decide) (by decide) (by decide) (by decide)
    have i5 := rw_ 5 (by decide) (by decide) (by decide) (by decide)
    have i68 := rw_ 68 (by decide) (by decide) (by decide) (by decide)
    have i69 := rw_ 69 (by decide) (by decide) (by decide) (by decide)
    have i70 := rw_ 70 (by decide) (by decide) (by decide) (by decide)
    have i71 := rw_ 71 (by decide) (by decide) (by decide) (by decide)
    have i72 := rw_ 72 (by decide) (by decide) (by decide) (by decide)
    have hbn : (b : Int) < h0.i 59 16 := by omega
    have Bw := bkW_s iB (j := (b : Int)) (by omega) hbn
    have Bh : BookRel h (h0.r 8 (b : Int)) (bkW h0 (b : Int)) := BookRel_fa F fz_low hT i68 i69 i70 i71 i72 Bw.2.2
    have eD : bkD h (bkW h0 (b : Int)) = bkD h0 (bkW h0 (b : Int)) := by unfold bkD; rw [i68, i69]
    have eLp : bkL h (bkW h0 (b : Int)) = bkL h0 (bkW h0 (b : Int)) := by unfold bkL; rw [i70, i71, i72]
    obtain ⟨E, lc, d1, d16, l1, l16, s1, s2⟩ := bkD_ok Bh
    rw [eD] at E lc d16
    rw [eLp] at E l16
    have Oh : LineO h (h0.r 2 13) ws := by
      have z := LineX_fa F fz_low hT O.1 O.2.1
      exact ⟨z.1, z.2.1, by rw [z.2.2]; exact O.2.2⟩
    have fl := (fndL_len (h := h0) (ws := ws) (W := W) (f := f) (pr := pr) b).1
    have nb1 : ∀ x : Int, x = xw ((b : Int) + 1) → x = ((b + 1 : Nat) : Int) := fun x e => by rw [e, xw_id (by omega) (by omega)]; push_cast; rfl
    have fS : fndL h0 ws W f pr (b + 1) = fndL h0 ws W f pr b ++ (if yesW h0 ws W f pr (bkW h0 (b : Int)) = true then [(b : Int)] else []) := rfl
    -- a word that does not fit
    have skip : yesW h0 ws W f pr (bkW h0 (b : Int)) = false → ∀ (h1 : xH) (u5 u6 : xV), FtI h0 h1 → h1.i 2 15 = h.i 2 15 → (∀ a, h1.r 58 a = h.r 58 a) → (∀ c : Nat, c < b + 1 → (flat (rpW h0 ws W (bkW h0 (c : Int)))).length ≤ 40 → ∀ E, AgW h0 (rpW h0 ws W (bkW h0 (c : Int))) f E → chp E = chp (envW h0 (rpW h0 ws W (bkW h0 (c : Int))) f)) → ∀ x : Int, x = xw ((b : Int) + 1) → xT (d + 7) M_X_fits 18 [(1, 2), (0, f), (0, (W : Int)), (0, pr), (0, x), u5, u6] [] h1 (xqi Q) := fun no h1 u5 u6 J1 e1 e2 pf1 x ex => by
      rw [nb1 x ex]
      have eN : fndL h0 ws W f pr (b + 1) = fndL h0 ws W f pr b := by rw [fS, no, if_neg (by decide), List.append_nil]
      refine ih (b + 1) h1 u5 u6 (by push_cast at hb ⊢; omega) J1 (by rw [e1, eN]; exact fs) (fun a ha => ?_) pf1
      rw [eN] at ha ⊢
      rw [e2]; exact fd a ha
    apply L_X_fits_18
    rw [g2]
    refine ⟨g1, g3, ?_⟩
    apply L_Book_size
    rw [e72, bs]
    refine ⟨g3, ?_⟩
    rw [if_pos (by omega), g4, r213]
    refine ⟨g1, g5, ?_⟩
    refine c_X_withWord (d := d) (D := bkD h0 (bkW h0 (b : Int))) (Lp := bkL h0 (bkW h0 (b : Int))) ok hW SX_ Oh J.2.2.2.2 (by omega) (by rw [e72, bs]; exact hbn) (by rw [e72, bs]; exact b40) (by rw [r8]) E (by rw [i5]; exact hV) lc d16 l16 (fun le h1 F1 D1 => ?_) (fun gt h1 F1 z1 => ?_)
    · rw [i5, i6] at le D1
      have le : (flat (rpW h0 ws W (bkW h0 (b : Int)))).length ≤ 40 := le
      have D1 : Dr h1 (flat (rpW h0 ws W (bkW h0 (b : Int)))) (txt (rpW h0 ws W (bkW h0 (b : Int)))) := D1
      rw [if_neg (by decide)]
      have J1 := FtI_dr J F1 (dr_18 (SX_2 F1.1 SX_) D1)
      have rp := rpW_ok (W := W) Bw.2.2 hV ok le
      have w1 : 1 ≤ (rpW h0 ws W (bkW h0 (b : Int))).length := by rw [rp.2]; omega
      have XF1 := XFo_ft S0 J1 XF0
      have AW := AgW_W h0 (rpW h0 ws W (bkW h0 (b : Int))) f
      have pf1 : ∀ c : Nat, c < b + 1 → (flat (rpW h0 ws W (bkW h0 (c : Int)))).length ≤ 40 → ∀ E, AgW h0 (rpW h0 ws W (bkW h0 (c : Int))) f E → chp E = chp (envW h0 (rpW h0 ws W (bkW h0 (c : Int))) f) := fun c hc l E A => by
        by_cases z : c = b
        · subst z
          exact chp_W J1.2.2.2.1 rp.1 w1 K D1 XF1 A AW
        · exact pf c (by omega) l E A
      have X : XEn h1 16 f (envW h0 (rpW h0 ws W (bkW h0 (b : Int))) f) := ⟨J1.2.2.2.1.1, J1.2.2.2.1.2.1, J1.2.2.2.1.2.2.1, EOk_W rp.1 w1 AW K, XLe_16 J1.2.2.2.1.1 J1.2.2.2.1.2.1 J1.2.2.2.1.2.2.1 rp.1 D1 AW, XFo_W AW XF1⟩
      have fs1 := fr_same F1
      rw [fs1.2.1, fs1.1, g6]
      refine ⟨g1, g7, ?_⟩
      refine c_X_cheapest (d := d) J1.2.2.2.1 X (fun h2 A2 C2 T2 => ?_)
      have J2 := FtI_sc S0 J1 A2
      have nx1 : 130 ≤ h1.nx := J1.2.2.2.1.2.1
      have ht1 := J1.2.2.2.1.2.2.1
      have e215 : h2.i 2 15 = h.i 2 15 := by
        rw [A2.1.2.2.1 2 15 (by omega) (by decide) (by decide) (by unfold I_tab at ht1; omega), F1.2 2 15 (by decide) (by decide)]
      have e58 : ∀ a, h2.r 58 a = h.r 58 a := fun a => by
        rw [show h2.r 58 = h1.r 58 from FA_rrow A2.1 (by omega) (by decide), fs1.1]
      apply L_X_fits_40
      by_cases c1 : chp (envW h0 (rpW h0 ws W (bkW h0 (b : Int))) f) = -1
      · rw [if_pos c1]
        exact skip (by unfold yesW; rw [decide_eq_false (show ¬ (chp (envW h0 (rpW h0 ws W (bkW h0 (b : Int))) f) ≠ -1) from fun z => z c1), Bool.false_and, Bool.and_false]) h2 _ _ J2 e215 e58 pf1
      · rw [if_neg c1]
        by_cases c2 : pr < chp (envW h0 (rpW h0 ws W (bkW h0 (b : Int))) f)
        · rw [if_pos c2]
          exact skip (by unfold yesW; rw [decide_eq_false (show ¬ (chp (envW h0 (rpW h0 ws W (bkW h0 (b : Int))) f) ≤ pr) by omega), Bool.and_false, Bool.and_false]) h2 _ _ J2 e215 e58 pf1
        · rw [if_neg c2]
          have yes : yesW h0 ws W f pr (bkW h0 (b : Int)) = true := by
            unfold yesW
            rw [decide_eq_true le, decide_eq_true (show chp (envW h0 (rpW h0 ws W (bkW h0 (b : Int))) f) ≠ -1 from c1), decide_eq_true (show chp (envW h0 (rpW h0 ws W (bkW h0 (b : Int))) f) ≤ pr by omega)]
            rfl
          have SX2 := J2.2.2.2.1.1
          have g' : h2.tag 2 = 11 ∧ h2.r 2 14 = 58 ∧ h2.tag 58 = 23 ∧ h2.len 58 = 40 ∧ h2.r 2 3 = 7 ∧ h2.tag 7 = 0 ∧ h2.r 7 1 = 8 ∧ h2.tag 8 = 23 ∧ h2.len 8 = 40 := by have SX_ := SX2; simp only [sxt SX_, sxl SX_, sxf SX_, true_and, and_true, false_and, and_false, forall_eq, forall_eq', xi_wi, xr_wi, xt_wi, xl_wi, xn_wi, xs_wi, xi_wr, xr_wr, xt_wr, xl_wr, xn_wr, xs_wr, if_true, if_false, and_self, Int.reduceEq, Int.reduceLT, Int.reduceLE, Int.reduceNeg, Int.le_refl, Int.reduceMod]
          obtain ⟨k1, k2, k3, k4, k5, k6, k7, k8, k9⟩ := g'
          rw [k2, k4, e215, fs]
          refine ⟨k1, k3, ?_⟩
          rw [if_pos (by omega), xw_id (a := (((fndL h0 ws W f pr b).length : Nat) : Int) + 1) (by omega) (by omega)]
          intro h3 e3
          have q3 : h3.r = h2.r ∧ h3.tag = h2.tag ∧ h3.len = h2.len := by rw [e3]; exact ⟨rfl, rfl, rfl⟩
          have e372 : h3.i 7 2 = h0.i 59 16 := by
            rw [e3, xi_wi, if_neg (fun z => absurd z.1 (by decide)), J2.1.2.2.1 7 2 (nlo 7 (by decide)) (by decide) (by decide) (ntb 7 (by decide) (by decide)), bs]
          have r82 : h2.r 8 = h0.r 8 := FA_rrow J2.1 (nlo 8 (by decide)) (by decide)
          rw [q3.1, q3.2.1, k5]
          refine ⟨k1, k6, ?_⟩
          apply L_Book_wordAt
          rw [if_neg (by omega), q3.1, q3.2.1, q3.2.2, k7, k9, e372, r82]
          refine ⟨k6, ?_⟩
          rw [if_pos hbn]
          have B2 : BookRel h2 (h0.r 8 (b : Int)) (bkW h0 (b : Int)) := BookRel_fa J2.1 fz_low J2.2.1 (FA_row J2.1 (nlo 68 (by decide)) (by decide) (by decide) (ntb 68 (by decide) (by decide))) (FA_row J2.1 (nlo 69 (by decide)) (by decide) (by decide) (ntb 69 (by decide) (by decide))) (FA_row J2.1 (nlo 70 (by decide)) (by decide) (by decide) (ntb 70 (by decide) (by decide))) (FA_row J2.1 (nlo 71 (by decide)) (by decide) (by decide) (ntb 71 (by decide) (by decide))) (FA_row J2.1 (nlo 72 (by decide)) (by decide) (by decide) (ntb 72 (by decide) (by decide))) Bw.2.2
          refine ⟨⟨k8, by omega, by omega⟩, ⟨k3, by omega, by omega, Or.inr B2.1.2.2.1⟩, fun h4 e4 x3 ex => ?_⟩
          rw [nb1 x3 ex]
          have J4 := FtI_fd J2 e3 e4
          have eY : fndL h0 ws W f pr (b + 1) = fndL h0 ws W f pr b ++ [(b : Int)] := by rw [fS, if_pos yes]
          refine ih (b + 1) h4 _ _ (by push_cast at hb ⊢; omega) J4 ?_ (fun a ha => ?_) pf1
          · rw [eY, List.length_append, e4]
            show h3.i 2 15 = _
            rw [e3, xi_wi, if_pos ⟨rfl, rfl⟩]; push_cast; rfl
          · rw [eY, List.length_append] at ha
            have ha : a < (fndL h0 ws W f pr b).length + 1 := ha
            rw [eY, e4, xr_wr]
            by_cases z : a = (fndL h0 ws W f pr b).length
            · rw [if_pos ⟨rfl, by omega⟩, z, getD_app_r 0 (Nat.le_refl _), Nat.sub_self]; rfl
            · rw [if_neg (fun y => by omega), getD_app_l 0 (by omega), q3.1, e58]
              exact fd a (by omega)
    · rw [i5, i6] at gt
      have gt : 40 < (flat (rpW h0 ws W (bkW h0 (b : Int)))).length := gt
      rw [if_pos rfl]
      have J1 := FtI_dr J F1 z1
      apply L_X_fits_40
      rw [if_pos rfl]
      refine skip (by unfold yesW; rw [decide_eq_false (show ¬ ((flat (rpW h0 ws W (bkW h0 (b : Int)))).length ≤ 40) by omega), Bool.false_and]) h1 _ _ J1 (F1.2 2 15 (by decide) (by decide)) (fun a => by rw [(fr_same F1).1]) (fun c hc l E A => ?_)
      by_cases z : c = b
      · subst z; omega
      · exact pf c (by omega) l E A
end FL8
