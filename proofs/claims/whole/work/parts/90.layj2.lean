/-! lay, the call -/
def lyFL : List Int := wkXL ++ [36, 37, 38, 39, 41, 42, 43, 44] ++ lyRL
def lyFS : List (Int × Int) := lyAS ++ lyS ++ lyRS
def lyFR : List (Int × Int) := lyAR ++ lyR
theorem FA_na {l m : List Int} {l2 m2 lr mr : List (Int × Int)} {h h4 h' : xH} (G : FA l l2 [] lr h h4) (N : NA m m2 mr h4 h') (k1 : ∀ x ∈ m, x ∈ l ∨ h.nx ≤ x) (k2 : ∀ x ∈ m2, x ∈ l2) (k3 : ∀ x ∈ mr, x ∈ lr) : FA l l2 [] lr h h' := by
  obtain ⟨n1, n2, n3, n4, n5, n6⟩ := N
  refine ⟨by rw [n3]; exact G.1, fun c hc => by rw [n1, n2]; exact G.2.1 c hc, fun c k hc u w y => ?_, fun c k hc u w => ?_⟩
  · rw [n5 c k (fun z => ?_) (fun z => w (k2 _ z))]
    · exact G.2.2.1 c k hc u w y
    · rcases k1 c z with a | a
      · exact u a
      · omega
  · rw [n6 c k (fun z => w (k3 _ z))]
    exact G.2.2.2 c k hc u w
section LI
variable {n : Nat} {h h4 h' h'' : xH}
theorem lay_fr (A : LyA n h h4) (qn : h4.r 40 3 < h4.nx) (q0 : 41 ≤ h4.r 40 3) (N : NA (lyL (h4.r 40 3)) lyS lyR h4 h') (hX : SX h') (F : Fr lyRL lyRS h' h'') : FA (h4.r 40 3 :: lyFL) lyFS [] lyFR h h'' ∧ Tok h h'' ∧ SX h'' ∧ I_tab h'' ∧ I_new h'' ∧ I_room (n + 1) h'' ∧ h''.r 40 3 = h4.r 40 3 ∧ h''.tag = h4.tag ∧ h''.len = h4.len ∧ h''.nx = h4.nx ∧ h''.r 28 6 = h4.r 28 6 := by
  obtain ⟨a1, a2, a3, a4⟩ := A
  have fs := fr_same F
  have sub : ∀ x ∈ lyL (h4.r 40 3), x ∈ (h4.r 40 3 :: lyFL) := fun x m => by
    unfold lyL at m
    rw [List.mem_cons] at m ⊢
    rcases m with m | m
    · exact Or.inl m
    · have : ∀ y ∈ [(36 : Int), 37, 38, 39, 42, 43, 44], y ∈ lyFL := by decide
      exact Or.inr (this x m)
  have G1 : FA (h4.r 40 3 :: lyFL) lyFS [] lyFR h h4 := FA_mono a1 (fun c m => List.mem_cons_of_mem _ (List.mem_append_left _ (List.mem_append_left _ m))) (fun c m => List.mem_append_left _ (List.mem_append_left _ m)) (fun c m => m) (fun c m => List.mem_append_left _ m)
  have G2 := FA_na G1 N (fun x m => Or.inl (sub x m)) (fun x m => List.mem_append_left _ (List.mem_append_right _ m)) (fun x m => List.mem_append_right _ m)
  have r : ∀ c k, c ≠ 35 → h''.r c k = h4.r c k := fun c k n => by
    rw [fs.1]
    exact N.2.2.2.2.2 c k (fun m => by
      unfold lyR at m
      rw [List.mem_singleton] at m
      exact n (Prod.mk.inj m).1)
  have eT : h''.tag = h4.tag := by rw [fs.2.1, N.1]
  have eL : h''.len = h4.len := by rw [fs.2.2.1, N.2.1]
  have eN : h''.nx = h4.nx := by rw [fs.2.2.2.1, N.2.2.1]
  have eU : h''.us = h4.us := by rw [fs.2.2.2.2, N.2.2.2.1]
  have e6 := r 28 6 (by decide)
  have e3 := r 40 3 (by decide)
  refine ⟨FA_trans G2 ?_ (FA_of [] lyFR (Fr_mono F (fun c m => List.mem_cons_of_mem _ (List.mem_append_right _ m)) (fun c m => List.mem_append_right _ m))), ?_, SX_2 F.1 hX, ?_, ?_, ?_, e3, eT, eL, eN, e6⟩
  · rw [← fs.1, e6]; exact a2.1
  · unfold Tok at a2 ⊢
    rw [e6, e3]; exact a2
  · have := a3.2.2.1
    unfold I_tab at this ⊢
    rw [e6]; exact this
  · intro c k hc
    rw [eN] at hc
    have z := a3.2.2.2.1 c k hc
    have n0 := a3.2.1
    rw [r c k (by omega), F.2 c k (fun m => ?_) (fun m => ?_), N.2.2.2.2.1 c k (fun m => ?_) (fun m => ?_)]
    · exact z
    · unfold lyL at m
      rw [List.mem_cons] at m
      rcases m with m | m
      · omega
      · have : ∀ y ∈ [(36 : Int), 37, 38, 39, 42, 43, 44], y < 130 := by decide
        have := this c m
        omega
    · have : ∀ y ∈ lyS, y.1 < 130 := by decide
      have := this _ m
      have : c < 130 := this
      omega
    · have : ∀ y ∈ lyRL, y < 130 := by decide
      have := this c m
      omega
    · have : ∀ y ∈ lyRS, y.1 < 130 := by decide
      have := this _ m
      have : c < 130 := this
      omega
  · unfold I_room at a4 ⊢
    rw [eN, eU, e6, e3, eT, eL]; exact a4
theorem lay_inv (I : INV n h) (A : LyA n h h4) (qn : h4.r 40 3 < h4.nx) (q0 : 41 ≤ h4.r 40 3) (N : NA (lyL (h4.r 40 3)) lyS lyR h4 h') (hX' : SX h') (F' : Fr lyRL lyRS h' h'') (hR : SR h'') (rd' : I_read h'') (z : h''.i 42 0 = 0) : SCk h h'' ∧ INV (n + 1) h'' := by
  obtain ⟨G, hT, hX, hTab, hNew, hRoom, e3, eT, eL, eN, e6⟩ := lay_fr A qn q0 N hX' F'
  have hn := I.2.2.1
  have ht := I.2.2.2.1
  unfold I_tab at ht
  have i13 := I.2.2.2.2.2.2.2.2.2.2.2.2.2.2.2.2.2.2.1
  have i15 := I.2.2.2.2.2.2.2.2.2.2.2.2.2.2.2.2.2.2.2.2
  have Tk := A.2.1.2
  have ndr : ∀ {c : Int}, c = 18 ∨ c = 11 → h''.i c 0 = h.i c 0 := fun {c} hc => by
    refine G.2.2.1 c 0 (by omega) (fun m => ?_) (fun m => ?_) (by omega)
    · rw [List.mem_cons] at m
      rcases m with m | m
      · omega
      · have : ∀ y ∈ lyFL, y ≠ 18 ∧ y ≠ 11 := by decide
        have := this c m
        omega
    · have : ∀ y ∈ lyFS, y.1 ≠ 18 ∧ y.1 ≠ 11 := by decide
      have := this _ m
      have : c ≠ 18 ∧ c ≠ 11 := this
      omega
  have hdr : I_dr h'' := ⟨by rw [ndr (Or.inl rfl)]; exact i15.1, by rw [ndr (Or.inr rfl)]; exact i15.2.1, z⟩
  refine ⟨SCk_x (XS_of I) I.2.1 G ?_, ?_⟩
  · rw [List.all_cons, decide_eq_true (by omega : 1 < h4.r 40 3)]
    decide
  · by_cases c : h4.r 40 3 = 41 ∨ h.nx ≤ h4.r 40 3
    · have F : FA lyFL lyFS [] lyFR h h'' := ⟨G.1, G.2.1, fun x k hc u w y => G.2.2.1 x k hc (fun m => by
        rw [List.mem_cons] at m
        rcases m with m | m
        · rcases c with e | e
          · rw [e] at m; exact u (by rw [m]; decide)
          · omega
        · exact u m) w y, G.2.2.2⟩
      refine INV_fa I F (by decide) hT hX hR hTab hNew hRoom (Or.inl (by decide)) (Or.inl (by decide)) (Or.inl (by decide)) (Or.inl (by decide)) (Or.inl (by decide)) (Or.inl (by decide)) (Or.inl (by decide)) (Or.inl (by decide)) (Or.inl (by decide)) (Or.inl (by decide)) (Or.inl (by decide)) (Or.inl (by decide)) (Or.inr ?_) (Or.inl (by decide)) (Or.inr ?_)
      · exact rd'
      · exact hdr
    · have es : h4.r 40 3 = h.r 40 3 := by omega
      have i5 := i13.2.2.2.2.1
      have q1 : 130 ≤ h4.r 40 3 ∧ h4.r 40 3 < h.nx := by omega
      obtain ⟨k, hk⟩ : ∃ k : xH, k = ((fun c j => if c = h4.r 40 3 then h.i c j else if (c = 40 ∧ j = 7) ∨ (c = 59 ∧ j = 61) then 0 else h''.i c j), h''.2) := ⟨_, rfl⟩
      have k2 : k.2 = h''.2 := by rw [hk]
      have ki : ∀ c j, k.i c j = if c = h4.r 40 3 then h.i c j else if (c = 40 ∧ j = 7) ∨ (c = 59 ∧ j = 61) then 0 else h''.i c j := fun c j => by rw [hk]; rfl
      have Fk : Fr [h4.r 40 3] qS k h'' := ⟨k2.symm, fun c j u w => by
        rw [ki, if_neg (fun m => u (by rw [List.mem_singleton]; exact m)), if_neg (fun m => w (by
          unfold qS
          simp only [List.mem_cons, List.not_mem_nil, or_false, Prod.mk.injEq]
          exact m))]⟩
      have fk := fr_same Fk
      have F : FA lyFL lyFS [] lyFR h k := by
        refine ⟨by rw [← fk.2.2.2.1]; exact G.1, fun c hc => by rw [← fk.2.1, ← fk.2.2.1]; exact G.2.1 c hc, fun c j hc u w y => ?_, fun c j hc u w => by rw [← fk.1]; exact G.2.2.2 c j hc u w⟩
        rw [ki]
        by_cases z : c = h4.r 40 3
        · rw [if_pos z]
        · rw [if_neg z, if_neg (fun m => w (by
            rcases m with m | m
            · rw [m.1, m.2]; decide
            · rw [m.1, m.2]; decide))]
          exact G.2.2.1 c j hc (fun m => by
            rw [List.mem_cons] at m
            rcases m with m | m
            · exact z m
            · exact u m) w y
      have nk : 130 ≤ k.nx := by rw [← fk.2.2.2.1]; have := G.1; omega
      have J : INV (n + 1) k := by
        have hT : Tok h k := by unfold Tok at hT ⊢; rw [← fk.1]; exact hT
        have hX : SX k := SX_2 k2 hX
        have hR : SR k := SR_2 k2 hR
        have hTab : I_tab k := by unfold I_tab at hTab ⊢; rw [← fk.1]; exact hTab
        have hNew : I_new k := fun c j hc => by
          rw [← fk.2.2.2.1] at hc
          have w := hNew c j hc
          rw [← fk.1, ki, if_neg (by omega), if_neg (by omega)]
          exact w
        have hRoom : I_room (n + 1) k := by unfold I_room at hRoom ⊢; rw [← fk.1, ← fk.2.1, ← fk.2.2.1, ← fk.2.2.2.1, ← fk.2.2.2.2]; exact hRoom
        refine INV_fa I F (by decide) hT hX hR hTab hNew hRoom (Or.inl (by decide)) (Or.inl (by decide)) (Or.inl (by decide)) (Or.inl (by decide)) (Or.inl (by decide)) (Or.inl (by decide)) (Or.inl (by decide)) (Or.inl (by decide)) (Or.inl (by decide)) (Or.inl (by decide)) (Or.inl (by decide)) (Or.inl (by decide)) (Or.inr ?_) (Or.inl (by decide)) (Or.inr ?_)
        · have k7 : k.i 40 7 = 0 := by rw [ki, if_neg (by omega), if_pos (Or.inl ⟨rfl, rfl⟩)]
          have k61 : k.i 59 61 = 0 := by rw [ki, if_neg (by omega), if_pos (Or.inr ⟨rfl, rfl⟩)]
          have r1 := rd'.2.2.2.1
          have r2 := rd'.2.2.2.2.1
          have r3 := rd'.2.2.2.2.2.1
          unfold I_read
          rw [k7, k61, ← fk.1, ← fk.2.1, ← fk.2.2.2.1]
          exact ⟨rfl, by decide, by decide, r1, r2, r3, fun a a0 a1 => by omega⟩
        · refine ⟨?_, ?_, ?_⟩
          · rw [ki, if_neg (by omega), if_neg (by decide)]; exact hdr.1
          · rw [ki, if_neg (by omega), if_neg (by decide)]; exact hdr.2.1
          · rw [ki, if_neg (by omega), if_neg (by decide)]; exact hdr.2.2
      exact INV_q J Fk q1.1 (by rw [← fk.1]; exact e3.symm) (by rw [← fk.2.2.2.1]; have := G.1; omega) rd'
end LI
theorem RPre_row {h h' : xH} {l f : Int} {E : SEn} (row : ∀ x : Int, 59 ≤ x → x < 130 → h'.i x = h.i x) (S : SR h') (P : RPre h l f E) : RPre h' l f E := by
  obtain ⟨p1, p2, p3, p4, p5, p6, p7, p8⟩ := P
  refine ⟨S, p2, p3, p4, p5, ?_, p7, ?_⟩
  · rw [← p6]
    funext k i
    unfold envR
    rw [row 81 (by decide) (by decide), row 85 (by decide) (by decide), row 82 (by decide) (by decide), row 88 (by decide) (by decide), row 87 (by decide) (by decide), row 95 (by decide) (by decide), row 94 (by decide) (by decide), row 96 (by decide) (by decide), row 89 (by decide) (by decide), row 91 (by decide) (by decide), row 92 (by decide) (by decide), row 93 (by decide) (by decide), row 90 (by decide) (by decide), row 97 (by decide) (by decide)]
  · rw [row 88 (by decide) (by decide), row 87 (by decide) (by decide)]
    exact p8
theorem j_lay (n : Nat) (hn : n < 512) (f : Int) (hf : xrg f) : JJ INV n M_X_lay M_R_lay [(0, f)] := by
  refine jj_fa (fun h I => ?_)
  have S := I.2.1
  have SX_ := I.1
  have sm := same_J I
  have hn0 := I.2.2.1
  have ht := I.2.2.2.1
  unfold I_tab at ht
  apply L_X_lay
  refine ⟨(sxt SX_).1, ?_⟩
  refine c_X_cannot SX_ ?_
  by_cases c : h.r 2 13 ≠ 0 ∧ (0 ≤ f ∧ f ≤ 7 ∧ 0 < h.i 25 f)
  · have cr := (can_eq I).mp c
    have lr := line_of I cr.1
    have L := LR_env I (by decide) (by decide) lr cr.2.1 cr.2.2.1 cr.2.2.2
    have ok := L.2.2.2.2.1
    have n40 := ok.2.1
    have n1 := ok.1
    rw [if_pos c, if_pos rfl]
    have g8 : h.r 2 8 = 40 := by simp only [sxt SX_, sxl SX_, sxf SX_, true_and, and_true, false_and, and_false, forall_eq, forall_eq', xi_wi, xr_wi, xt_wi, xl_wi, xn_wi, xs_wi, xi_wr, xr_wr, xt_wr, xl_wr, xn_wr, xs_wr, if_true, if_false, and_self, Int.reduceEq, Int.reduceLT, Int.reduceLE, Int.reduceNeg, Int.le_refl, Int.reduceMod]
    rw [g8]
    refine ⟨(sxt SX_).1, t40_ SX_, ?_⟩
    have rP : ∀ {h1 : xH} {l : List Int} {l2 lr : List (Int × Int)}, FA l l2 [] lr h h1 → (l.all (fun x => decide (x < 59)) && l2.all (fun q => decide (q.1 < 59)) && ([] : List Int).all (fun x => decide (x < 59)) && lr.all (fun q => decide (q.1 < 59))) = true → RPre h1 0 f (envR h 0 f) ∧ h1.i 76 = h.i 76 ∧ h1.i 95 = h.i 95 := fun {h1 l l2 lr} G d => by
      have d' := d
      rw [Bool.and_eq_true, Bool.and_eq_true, Bool.and_eq_true, List.all_eq_true, List.all_eq_true] at d'
      have row : ∀ c : Int, 59 ≤ c → c < 130 → h1.i c = h.i c := fun c c0 c1 => FA_row G (by omega) (fun m => by have := of_decide_eq_true (d'.1.1.1 c m); omega) (fun x m e => by have := of_decide_eq_true (d'.1.1.2 x m); omega) (by omega)
      exact ⟨RPre_x (XS_of I) G d L.1, row 76 (by decide) (by decide), row 95 (by decide) (by decide)⟩
    refine c_X_layOut (d := 2037) I L.2 lr.1 (fun big h1 A es z7 => ?_) (fun small h4 h1 P A K l16 ln N hX O lp sb pm pw z0 => ?_)
    · obtain ⟨a1, a2, a3, a4⟩ := A
      refine ⟨SCk_x (XS_of I) S a1 (by decide), ?_⟩
      obtain ⟨P1, r76, r95⟩ := rP a1 (by decide)
      refine c_R_lay (d := 1985) P1 (by rw [r76]; exact cr.1) (by rw [r95]; exact cr.2) (fun _ h2 F S2 z61 => ?_) (fun sm h2 P' F S2 R pw pm => absurd sm (by omega))
      have fs := fr_same F
      have G : FA (wkXL ++ lyRL) (lyAS ++ lyRS) [] lyAR h h2 := FA_trans (FA_mono a1 (fun c m => List.mem_append_left _ m) (fun c m => List.mem_append_left _ m) (fun c m => m) (fun c m => m)) a2.1 (FA_of [] lyAR (Fr_mono F (fun c m => List.mem_append_right _ m) (fun c m => List.mem_append_right _ m)))
      have hT : Tok h h2 := by unfold Tok at a2 ⊢; rw [fs.1]; exact a2
      have hXX : SX h2 := SX_2 F.1 a3.1
      have hX := hXX
      have hR := S2
      have hTab : I_tab h2 := by have := a3.2.2.1; unfold I_tab at this ⊢; rw [fs.1]; exact this
      have hNew : I_new h2 := I_new_f a3.2.2.2.1 F (by decide) a3.2.1
      have hRoom : I_room (n + 1) h2 := by unfold I_room at a4 ⊢; rw [fs.1, fs.2.1, fs.2.2.1, fs.2.2.2.1, fs.2.2.2.2]; exact a4
      have F0 := F
      have F := G
      refine ⟨rfl, SCk_x (XS_of I) S G (by decide), INV_fa I F (by decide) hT hX hR hTab hNew hRoom (Or.inl (by decide)) (Or.inl (by decide)) (Or.inl (by decide)) (Or.inl (by decide)) (Or.inl (by decide)) (Or.inl (by decide)) (Or.inl (by decide)) (Or.inl (by decide)) (Or.inl (by decide)) (Or.inl (by decide)) (Or.inl (by decide)) (Or.inl (by decide)) (Or.inr ?_) (Or.inl (by decide)) (Or.inl (by decide))⟩
      have z7' : h2.i 40 7 = 0 := by rw [Fr_row F0 (c := 40) (by decide) (by decide)]; exact z7
      have i13 := I.2.2.2.2.2.2.2.2.2.2.2.2.2.2.2.2.2.2.1
      have e3 : h2.r 40 3 = h.r 40 3 := by rw [fs.1]; exact es
      have qd := i13.2.2.2.2.1
      have nq := i13.2.2.2.2.2.1
      have gn := G.1
      have t1 := hT.1
      unfold I_read
      rw [z7', z61, e3]
      exact ⟨rfl, by decide, by decide, by rw [(G.2.1 _ (by omega)).1]; exact i13.2.2.2.1, by omega, by omega, fun a a0 a1 => by omega⟩
    · have k1 := K.2.1
      have k2 := K.2.2
      have q0 : 41 ≤ h4.r 40 3 := by omega
      have a1 := A.1
      have tb := A.2.2.1.2.2.1
      unfold I_tab at tb
      obtain ⟨P4, r76, r95⟩ := rP a1 (by decide)
      have row : ∀ x : Int, 59 ≤ x → x < 130 → h1.i x = h4.i x := fun x x0 x1 => NA_row N (fun m => by
        unfold lyL at m
        rw [List.mem_cons] at m
        rcases m with m | m
        · omega
        · have : ∀ y ∈ [(36 : Int), 37, 38, 39, 42, 43, 44], y < 59 := by decide
          have := this x m
          omega) (fun y m e => by
        have : ∀ y ∈ lyS, y.1 < 59 := by decide
        have := this y m
        omega)
      have S1 : SR h1 := by
        obtain ⟨a, b, c⟩ := P4.1
        refine ⟨by unfold SRT at a ⊢; rw [N.1]; exact a, by unfold SRL at b ⊢; rw [N.2.1]; exact b, ?_⟩
        unfold SRF at c ⊢
        have e : ∀ k, h1.r 59 k = h4.r 59 k := fun k => N.2.2.2.2.2 59 k (by unfold lyR; rw [List.mem_singleton]; intro z; exact absurd (Prod.mk.inj z).1 (by decide))
        simp only [e]
        exact c
      have P1 := RPre_row row S1 P4
      refine ⟨⟨?_, ?_, ?_, (srt S1).1⟩, ?_⟩
      · rw [N.1]; exact (a1.2.1 1 (by omega)).1
      · rw [N.2.1]; exact (a1.2.1 1 (by omega)).2
      · rw [NA_row N (c := 1) (fun m => by
          unfold lyL at m
          rw [List.mem_cons] at m
          rcases m with m | m
          · omega
          · exact absurd m (by decide)) (by decide)]
        exact FA_row a1 (by omega) (by decide) (by decide) (by omega)
      refine c_R_lay (d := 1985) P1 (by rw [row 76 (by decide) (by decide), r76]; exact cr.1) (by rw [row 95 (by decide) (by decide), r95]; exact cr.2) (fun big => absurd small (by omega)) (fun _ h2 P' F S2 R pw' pm' => ?_)
      have eP := same_P pm pm' pw pw'
      subst eP
      have fs := fr_same F
      obtain ⟨-, -, -, -, -, -, e3, eT, eL, eN, e6⟩ := lay_fr A k1 q0 N hX F
      have lo : ∀ c : Int, c < 59 ∨ 130 ≤ c → h2.i c = h1.i c := fun c hc => Fr_row F (fun m => by
        have : ∀ y ∈ lyRL, 59 ≤ y ∧ y < 130 := by decide
        have := this c m
        omega) (fun y m e => by
        have : ∀ y ∈ lyRS, y.1 = 59 := by decide
        have := this y m
        omega)
      have O2 : OrdX h2 (h4.r 40 3) (h1.i 42 (((rd (envR h 0 f) st0).length : Nat) : Int)) P.length P := by
        rw [lp]
        refine ⟨by rw [lo 40 (by omega)]; exact O.1, O.2.1, fun j hj => ?_⟩
        rw [lo 44 (by omega)]
        have o := O.2.2 j hj
        exact ⟨o.1, o.2.1, RdX_fr (lo 42 (by omega)) (lo 43 (by omega)) (lo _ (by omega)) o.2.2⟩
      refine ⟨rfl, lay_inv I A k1 q0 N hX F S2 (read_of ok e3 (by rw [eT]; exact K.1) (by rw [eN]; omega) (by rw [e6]; omega) (by rw [eL]; exact l16) (by rw [eL]; omega) (by omega) O2 R (fun y hy => rd_G ok (pm.mem_iff.mp hy))) (by rw [lo 42 (by omega)]; exact z0)⟩
  · have cr : ¬ (h.i 76 0 ≠ 0 ∧ (0 ≤ f ∧ f ≤ 7 ∧ 0 < h.i 95 f)) := fun z => c ((can_eq I).mpr z)
    rw [if_neg c, if_neg (by decide)]
    refine ⟨sm.1, ?_⟩
    apply L_R_lay
    simp only [srt S, srl S, srf S, true_and, and_true, false_and, and_false, forall_eq, forall_eq', xi_wi, xr_wi, xt_wi, xl_wi, xn_wi, xs_wi, xi_wr, xr_wr, xt_wr, xl_wr, xn_wr, xs_wr, if_true, if_false, and_self, Int.reduceEq, Int.reduceLT, Int.reduceLE, Int.reduceNeg, Int.le_refl, Int.reduceMod]
    by_cases c1 : h.i 76 0 = 0
    · rw [if_pos c1]; exact sm
    · rw [if_neg c1]
      refine c_R_isForm S ?_
      rw [if_neg (fun z => cr ⟨c1, z⟩), if_pos rfl]
      exact sm
