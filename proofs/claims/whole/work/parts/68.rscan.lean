/-! scanning: the reference's count and least price -/
def st0 : Stt := (0, -1, 0, 0)
def RPre (h : xH) (l f : Int) (E : SEn) : Prop := SR h ∧ 0 ≤ l ∧ l < 15 ∧ 0 ≤ f ∧ f < 8 ∧ envR h l f = E ∧ EOk E ∧ (∀ i, 0 ≤ i → i < E 0 0 → 0 ≤ h.i 88 (40 * l + i) ∧ h.i 88 (40 * l + i) < 65536 ∧ 1 ≤ h.i 87 (40 * l + i) ∧ h.i 87 (40 * l + i) ≤ 16)
def scanL : List Int := [98, 99, 100, 101, 102, 103, 104, 105, 106, 107]
def scanS : List (Int × Int) := [(59, 55), (59, 45), (59, 46)]
section RS_
variable {l f : Int} {E : SEn} {d : Nat}
theorem st0_ok : scOk E st0 := Or.inr (Or.inl ⟨rfl, rfl, rfl, rfl⟩)
theorem c_begin_8 {Q : xH → Prop} {u1 : xV} : ∀ (n : Nat) (h : xH) (k : Int) (u2 : xV), SR h → 0 ≤ k → k + n = 70849 → (∀ h', Fr [106] [] h h' → (∀ j, k ≤ j → j < 70849 → h'.i 106 j = -1) → (∀ j, j < k → h'.i 106 j = h.i 106 j) → Q h') → xT d M_R_begin 8 [(1, 59), u1, u2, (0, k)] [] h (xqv Q) := by
  intro n
  induction n with
  | zero =>
    intro h k u2 S k0 hk H
    apply L_R_begin_8
    rw [if_neg (by omega)]
    exact H h (Fr_refl _ _ _) (fun j j0 j1 => by omega) (fun _ _ => rfl)
  | succ n ih =>
    intro h k u2 S k0 hk H
    apply L_R_begin_8
    rw [if_pos (by omega), xw_id (a := k + 1) (by omega) (by omega)]
    simp only [srt S, srl S, srf S, true_and, and_true, false_and, and_false, forall_eq, forall_eq', xi_wi, xr_wi, xt_wi, xl_wi, xn_wi, xs_wi, xi_wr, xr_wr, xt_wr, xl_wr, xn_wr, xs_wr, if_true, if_false, and_self, Int.reduceEq, Int.reduceLT, Int.reduceLE, Int.reduceNeg, Int.le_refl, Int.reduceMod]
    refine ⟨⟨by omega, by omega⟩, ?_⟩
    refine ih _ (k + 1) _ (SR_2 (h := h) rfl S) (by omega) (by omega) (fun h' F q1 q2 => H h' (Fr_trans (Fr_cell (Fr_refl _ _ _) _ _ (by decide)) F) (fun j j0 j1 => ?_) (fun j j0 => ?_))
    · by_cases c : j = k
      · rw [c, q2 k (by omega)]; simp only [true_and, and_true, false_and, and_false, forall_eq, forall_eq', xi_wi, xr_wi, xt_wi, xl_wi, xn_wi, xs_wi, xi_wr, xr_wr, xt_wr, xl_wr, xn_wr, xs_wr, if_true, if_false, and_self, Int.reduceEq, Int.reduceLT, Int.reduceLE, Int.reduceNeg, Int.le_refl, Int.reduceMod]
      · exact q1 j (by omega) j1
    · rw [q2 j (by omega)]
      simp only [true_and, and_true, false_and, and_false, forall_eq, forall_eq', xi_wi, xr_wi, xt_wi, xl_wi, xn_wi, xs_wi, xi_wr, xr_wr, xt_wr, xl_wr, xn_wr, xs_wr, if_true, if_false, and_self, Int.reduceEq, Int.reduceLT, Int.reduceLE, Int.reduceNeg, Int.le_refl, Int.reduceMod]
      rw [if_neg (by omega)]
theorem c_R_begin {h : xH} {Q : xH → Prop} (P : RPre h l f E) (H : ∀ h', Fr scanL scanS h h' → REn h' l f E → MW h' E → Q h') : xCv (d + 1) M_R_begin [(1, 59), (0, l), (0, f)] h Q := by
  obtain ⟨S, l0, l1, f0, f1, he, ok, hz⟩ := P
  apply L_R_begin
  simp only [srt S, srl S, srf S, true_and, and_true, false_and, and_false, forall_eq, forall_eq', xi_wi, xr_wi, xt_wi, xl_wi, xn_wi, xs_wi, xi_wr, xr_wr, xt_wr, xl_wr, xn_wr, xs_wr, if_true, if_false, and_self, Int.reduceEq, Int.reduceLT, Int.reduceLE, Int.reduceNeg, Int.le_refl, Int.reduceMod]
  have S2 : SR ((h.wi 59 45 l).wi 59 46 f) := SR_2 (h := h) rfl S
  refine c_begin_8 70849 _ 0 _ S2 (by decide) (by decide) (fun h' F q1 _ => ?_)
  have F0 : Fr [] scanS h ((h.wi 59 45 l).wi 59 46 f) := Fr_slot (Fr_slot (Fr_refl _ _ _) _ (by decide)) _ (by decide)
  have r59 : h'.i 59 = ((h.wi 59 45 l).wi 59 46 f).i 59 := Fr_row F (by decide) (by decide)
  have row : ∀ x : Int, x ≠ 106 → x ≠ 59 → h'.i x = h.i x := fun x a b => by
    rw [Fr_row F (by simp only [List.mem_singleton]; exact a) (fun p m => absurd m List.not_mem_nil)]
    exact Fr_row F0 List.not_mem_nil (fun p m e => by unfold scanS at m; simp only [List.mem_cons, List.not_mem_nil, or_false] at m; rcases m with m | m | m <;> · subst m; exact b e.symm)
  refine H h' (Fr_trans (Fr_mono F0 (by decide) (fun _ q => q)) (Fr_mono F (by decide) (by decide))) ⟨SR_2 F.1 S2, by rw [r59]; simp only [true_and, and_true, false_and, and_false, forall_eq, forall_eq', xi_wi, xr_wi, xt_wi, xl_wi, xn_wi, xs_wi, xi_wr, xr_wr, xt_wr, xl_wr, xn_wr, xs_wr, if_true, if_false, and_self, Int.reduceEq, Int.reduceLT, Int.reduceLE, Int.reduceNeg, Int.le_refl, Int.reduceMod], by rw [r59]; simp only [true_and, and_true, false_and, and_false, forall_eq, forall_eq', xi_wi, xr_wi, xt_wi, xl_wi, xn_wi, xs_wi, xi_wr, xr_wr, xt_wr, xl_wr, xn_wr, xs_wr, if_true, if_false, and_self, Int.reduceEq, Int.reduceLT, Int.reduceLE, Int.reduceNeg, Int.le_refl, Int.reduceMod], l0, l1, f0, f1, ?_, ok, ?_⟩ (fun s k => Or.inl (q1 _ (enc_bd ok k).1 (by have := (enc_bd ok k).2; omega)))
  · rw [← he]
    funext k i
    unfold envR
    rw [row 81 (by decide) (by decide), row 85 (by decide) (by decide), row 82 (by decide) (by decide), row 88 (by decide) (by decide), row 87 (by decide) (by decide), row 95 (by decide) (by decide), row 94 (by decide) (by decide), row 96 (by decide) (by decide), row 89 (by decide) (by decide), row 91 (by decide) (by decide), row 92 (by decide) (by decide), row 93 (by decide) (by decide), row 90 (by decide) (by decide), row 97 (by decide) (by decide)]
  · rw [row 88 (by decide) (by decide), row 87 (by decide) (by decide)]
    exact hz
theorem c_R_isForm {h : xH} {Q : Int → xH → Prop} {f : Int} (S : SR h) (H : Q (if 0 ≤ f ∧ f ≤ 7 ∧ 0 < h.i 95 f then 1 else 0) h) : xCi (d + 2) M_R_isForm [(1, 59), (0, f)] h Q := by
  apply L_R_isForm
  by_cases c : 0 ≤ f ∧ f ≤ 7
  · refine c_R_in_t c ?_
    rw [if_neg (by decide)]
    simp only [srt S, srl S, srf S, true_and, and_true, false_and, and_false, forall_eq, forall_eq', xi_wi, xr_wi, xt_wi, xl_wi, xn_wi, xs_wi, xi_wr, xr_wr, xt_wr, xl_wr, xn_wr, xs_wr, if_true, if_false, and_self, Int.reduceEq, Int.reduceLT, Int.reduceLE, Int.reduceNeg, Int.le_refl, Int.reduceMod]
    refine ⟨⟨by omega, by omega⟩, ?_⟩
    by_cases c2 : 0 < h.i 95 f
    · rw [if_pos c2]; rw [if_pos ⟨c.1, c.2, c2⟩] at H; exact H
    · rw [if_neg c2]; rw [if_neg (fun z => c2 z.2.2)] at H; exact H
  · refine c_R_in_f c ?_
    rw [if_pos rfl]
    rw [if_neg (fun z => c ⟨z.1, z.2.1⟩)] at H; exact H
theorem FrW_scan {h h' : xH} {v : Int} (F : FrW v h h') : Fr scanL scanS h h' := Fr_mono F.1 (fun _ q => q) (by decide)
/-- all ways are counted and kept -/
theorem c_R_ways0 {h : xH} {Q : Int → xH → Prop} (P : RPre h l f E) (H : ∀ h', Fr scanL scanS h h' → REn h' l f E → MW h' E → h'.i 106 0 ≠ -1 → Q (scW E true st0) h') : xCv (d + 60) M_R_begin [(1, 59), (0, l), (0, f)] h (fun h1 => h1.tag 59 = 12 ∧ xCi (d + 60) M_R_waysFrom [(1, 59), (0, 0)] h1 (fun r2 h2 => Q r2 h2)) := by
  refine c_R_begin P (fun h1 F1 R1 M1 => ⟨(srt R1.1).1, ?_⟩)
  exact c_R_waysFrom (d := d + 10) 42 st0 h1 _ (by decide) st0_ok R1 M1 (fun h2 F2 M2 _ st2 => H h2 (Fr_trans F1 (FrW_scan F2)) (REn_w F2 R1) M2 st2)
/-- the price that cheapest tells -/
def chp (E : SEn) : Int := if scW E true st0 = 0 then -1 else scW E false st0
theorem c_R_cheapest {h : xH} {Q : Int → xH → Prop} (P : RPre h l f E) (H : ∀ h', Fr scanL scanS h h' → REn h' l f E → MW h' E → h'.i 106 0 ≠ -1 → Q (chp E) h') : xCi (d + 61) M_R_cheapest [(1, 59), (0, l), (0, f)] h Q := by
  have P' := P
  obtain ⟨S, l0, l1, f0, f1, he, ok, hz⟩ := P
  apply L_R_cheapest
  refine ⟨(srt S).1, ?_⟩
  refine c_R_isForm S ?_
  have e5 : h.i 95 f = E 5 0 := by rw [← he]; rfl
  have np := ok.2.2.2.1
  rw [e5, if_pos (show 0 ≤ f ∧ f ≤ 7 ∧ 0 < E 5 0 from ⟨f0, by omega, by omega⟩), if_neg (by decide)]
  refine ⟨(srt S).1, ?_⟩
  refine c_R_ways0 (d := d) P' (fun h' F R M st => ?_)
  have := H h' F R M st
  unfold chp at this
  have S' := R.1
  have V := (M st0 st0_ok).resolve_left st
  have v2 := V.2.1
  by_cases c : scW E true st0 = 0
  · rw [if_pos c]; rw [if_pos c] at this; exact this
  · rw [if_neg c]
    rw [if_neg c] at this v2
    have S := S'
    simp only [srt S, srl S, srf S, true_and, and_true, false_and, and_false, forall_eq, forall_eq', xi_wi, xr_wi, xt_wi, xl_wi, xn_wi, xs_wi, xi_wr, xr_wr, xt_wr, xl_wr, xn_wr, xs_wr, if_true, if_false, and_self, Int.reduceEq, Int.reduceLT, Int.reduceLE, Int.reduceNeg, Int.le_refl, Int.reduceMod]
    rw [show h'.i 107 0 = scW E false st0 from v2]
    exact this
theorem c_R_cheap_no {h : xH} {Q : Int → xH → Prop} (S : SR h) (n : ¬ (0 ≤ f ∧ f ≤ 7 ∧ 0 < h.i 95 f)) (H : Q (-1) h) : xCi (d + 61) M_R_cheapest [(1, 59), (0, l), (0, f)] h Q := by
  apply L_R_cheapest
  refine ⟨(srt S).1, ?_⟩
  refine c_R_isForm S ?_
  rw [if_neg n]
  rw [if_pos rfl]
  exact H
end RS_
