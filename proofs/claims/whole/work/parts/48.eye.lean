/-! eye rhymes, both sides -/
def chk (A B : List Int) (i : Nat) : Bool := decide (A.getD (A.length - i) 0 = B.getD (B.length - i) 0)
def eyeV (A B : List Int) : Int := if seen A = seen B then (if chk A B 1 = true then (if seen A = 2 then (if chk A B 2 = true then 1 else 0) else 1) else 0) else 0
theorem txt_last {ws : List Wd} (w1 : 1 ≤ ws.length) {i : Nat} (i1 : 1 ≤ i) (hi : i ≤ (lastW ws).length) : i ≤ (txt ws).length ∧ (txt ws).getD ((txt ws).length - i) 0 = (lastW ws).getD ((lastW ws).length - i) 0 := by
  have es := ws_split w1
  have et : txt ws = txt (ws.take (ws.length - 1)) ++ lastW ws := by
    have z := txt_app (ws.take (ws.length - 1)) (ws.getD (ws.length - 1) wd0)
    rw [← es] at z
    exact z
  rw [et, List.length_append]
  refine ⟨by omega, ?_⟩
  rw [getD_app_r 0 (by omega)]
  congr 1
  omega
section EYE
variable {d : Nat} {h : xH} {Q : Int → xH → Prop} {p q : Int} {ws vs : List Wd}
theorem c_X_eye_11 (ok : LnOk ws) (w1 : 1 ≤ ws.length) (X : XLn (XV h p) ws) (Z : XSh h p ((flat ws).length : Nat) ((txt ws).length : Nat)) (okv : LnOk vs) (v1 : 1 ≤ vs.length) (Y : XLn (XV h q) vs) (W : XSh h q ((flat vs).length : Nat) ((txt vs).length : Nat)) {n i : Nat} (i1 : 1 ≤ i) (hi : i ≤ n) (n2 : n ≤ 2) (hp : n ≤ (lastW ws).length) (hq : n ≤ (lastW vs).length) (Ht : chk (lastW ws) (lastW vs) i = true → xT (d + 2) M_Syllables_eyeRhyme 11 [(1, p), (1, q), (0, (n : Int)), (0, ((i + 1 : Nat) : Int))] [] h (xqi Q)) (Hf : chk (lastW ws) (lastW vs) i = false → Q 0 h) : xT (d + 2) M_Syllables_eyeRhyme 11 [(1, p), (1, q), (0, (n : Int)), (0, (i : Int))] [] h (xqi Q) := by
  apply L_Syllables_eyeRhyme_11
  obtain ⟨t1, t2⟩ := txt_last w1 i1 (by omega : i ≤ (lastW ws).length)
  obtain ⟨t3, t4⟩ := txt_last v1 i1 (by omega : i ≤ (lastW vs).length)
  have l1 := txt_le ws ok.2.2
  have l2 := txt_le vs okv.2.2
  have o1 := ok.1
  have o2 := okv.1
  rw [if_neg (by omega)]
  refine ⟨Z.1, c_X_letterCount ok X Z ?_⟩
  rw [show xw ((((txt ws).length : Nat) : Int) - (i : Int)) = (((txt ws).length - i : Nat) : Int) from by rw [xw_id (by omega) (by omega)]; omega]
  refine ⟨Z.1, c_X_letterAt ok X Z (by omega) ?_⟩
  refine ⟨W.1, c_X_letterCount okv Y W ?_⟩
  rw [show xw ((((txt vs).length : Nat) : Int) - (i : Int)) = (((txt vs).length - i : Nat) : Int) from by rw [xw_id (by omega) (by omega)]; omega]
  refine ⟨W.1, c_X_letterAt okv Y W (by omega) ?_⟩
  rw [t2, t4, xw_id (by omega) (by omega), show (i : Int) + 1 = ((i + 1 : Nat) : Int) by omega]
  refine x_if (fun c => ?_) (fun c => Hf (decide_eq_false c))
  intro x1 e1
  rw [e1]
  exact Ht (decide_eq_true c)
theorem seen_rg {T : List Int} (h : 1 ≤ T.length) : 1 ≤ seen T ∧ seen T ≤ 2 ∧ seen T ≤ T.length := by
  unfold seen
  split <;> omega
theorem lastW_1 (ok : LnOk ws) (w1 : 1 ≤ ws.length) : 1 ≤ (lastW ws).length ∧ (lastW ws).length ≤ 16 := by
  have := ok.2.2 _ (getD_mem wd0 (show ws.length - 1 < ws.length by omega))
  exact ⟨this.1, this.2.1⟩
theorem c_X_eyeRhyme (ok : LnOk ws) (w1 : 1 ≤ ws.length) (X : XLn (XV h p) ws) (Z : XSh h p ((flat ws).length : Nat) ((txt ws).length : Nat)) (okv : LnOk vs) (v1 : 1 ≤ vs.length) (Y : XLn (XV h q) vs) (W : XSh h q ((flat vs).length : Nat) ((txt vs).length : Nat)) (H : Q (eyeV (lastW ws) (lastW vs)) h) : xCi (d + 3) M_Syllables_eyeRhyme [(1, p), (1, q)] h Q := by
  apply L_Syllables_eyeRhyme
  have s1 := seen_rg (lastW_1 ok w1).1
  have s2 := seen_rg (lastW_1 okv v1).1
  refine ⟨Z.1, c_X_seen ok w1 X Z ?_⟩
  refine ⟨W.1, c_X_seen okv v1 Y W ?_⟩
  unfold eyeV at H
  refine x_if (fun c => ?_) (fun c => by rw [if_neg (by omega)] at H; exact H)
  have c : seen (lastW ws) = seen (lastW vs) := by omega
  rw [if_pos c] at H
  refine c_X_eye_11 (i := 1) ok w1 X Z okv v1 Y W (Nat.le_refl _) s1.1 s1.2.1 s1.2.2 (by omega) (fun k1 => ?_) (fun k1 => by rw [if_neg (by rw [k1]; decide)] at H; exact H)
  rw [if_pos k1] at H
  by_cases c2 : seen (lastW ws) = 2
  · rw [if_pos c2] at H
    refine c_X_eye_11 (i := 2) ok w1 X Z okv v1 Y W (by decide) (by omega) s1.2.1 s1.2.2 (by omega) (fun k2 => ?_) (fun k2 => by rw [if_neg (by rw [k2]; decide)] at H; exact H)
    rw [if_pos k2] at H
    apply L_Syllables_eyeRhyme_11
    rw [if_pos (by omega)]
    exact H
  · rw [if_neg c2] at H
    apply L_Syllables_eyeRhyme_11
    rw [if_pos (by omega)]
    exact H
theorem c_R_look_47 {l m : Int} (S : SR h) (l0 : 0 ≤ l) (l1 : l < 15) (m0 : 0 ≤ m) (m1 : m < 15) (ok : LnOk ws) (w1 : 1 ≤ ws.length) (X : RLn (RV h l) ws) (okv : LnOk vs) (v1 : 1 ≤ vs.length) (Y : RLn (RV h m) vs) {n i : Nat} {u1 u2 : xV} (i1 : 1 ≤ i) (hi : i ≤ n) (n2 : n ≤ 2) (hp : n ≤ (lastW ws).length) (hq : n ≤ (lastW vs).length) (Ht : chk (lastW ws) (lastW vs) i = true → xT d M_R_sameLook 47 [(1, 59), u1, u2, (0, 12 * l + ((ws.length - 1 : Nat) : Int)), (0, 12 * m + ((vs.length - 1 : Nat) : Int)), (0, (n : Int)), (0, ((i + 1 : Nat) : Int))] [] h (xqi Q)) (Hf : chk (lastW ws) (lastW vs) i = false → Q 0 h) : xT d M_R_sameLook 47 [(1, 59), u1, u2, (0, 12 * l + ((ws.length - 1 : Nat) : Int)), (0, 12 * m + ((vs.length - 1 : Nat) : Int)), (0, (n : Int)), (0, (i : Int))] [] h (xqi Q) := by
  apply L_R_sameLook_47
  have a1 := lastW_1 ok w1
  have b1 := lastW_1 okv v1
  have o1 := ok.1
  have o2 := okv.1
  obtain ⟨x1, -, x3⟩ := rln_wd ok X (show ws.length - 1 < ws.length by omega)
  obtain ⟨y1, -, y3⟩ := rln_wd okv Y (show vs.length - 1 < vs.length by omega)
  have x1 : h.i 79 (12 * l + ((ws.length - 1 : Nat) : Int)) = ((lastW ws).length : Nat) := x1
  have y1 : h.i 79 (12 * m + ((vs.length - 1 : Nat) : Int)) = ((lastW vs).length : Nat) := y1
  have x4 := x3 ((lastW ws).length - i) (by show (lastW ws).length - i < (lastW ws).length; omega)
  have y4 := y3 ((lastW vs).length - i) (by show (lastW vs).length - i < (lastW vs).length; omega)
  have x4 : h.i 78 (192 * l + (16 * ((ws.length - 1 : Nat) : Int) + (((lastW ws).length - i : Nat) : Int))) = (lastW ws).getD ((lastW ws).length - i) 0 := x4
  have y4 : h.i 78 (192 * m + (16 * ((vs.length - 1 : Nat) : Int) + (((lastW vs).length - i : Nat) : Int))) = (lastW vs).getD ((lastW vs).length - i) 0 := y4
  rw [if_neg (by omega)]
  simp only [srt S, srl S, srf S, x1, y1, true_and, and_true, false_and, and_false, forall_eq, forall_eq', xi_wi, xr_wi, xt_wi, xl_wi, xn_wi, xs_wi, xi_wr, xr_wr, xt_wr, xl_wr, xn_wr, xs_wr, if_true, if_false, and_self, Int.reduceEq, Int.reduceLT, Int.reduceLE, Int.reduceNeg, Int.le_refl, Int.reduceMod]
  rw [xw_id (a := 16 * (12 * l + ((ws.length - 1 : Nat) : Int))) (by omega) (by omega), xw_id (a := 16 * (12 * l + ((ws.length - 1 : Nat) : Int)) + (((lastW ws).length : Nat) : Int)) (by omega) (by omega), xw_id (a := 16 * (12 * l + ((ws.length - 1 : Nat) : Int)) + (((lastW ws).length : Nat) : Int) - (i : Int)) (by omega) (by omega), xw_id (a := 16 * (12 * m + ((vs.length - 1 : Nat) : Int))) (by omega) (by omega), xw_id (a := 16 * (12 * m + ((vs.length - 1 : Nat) : Int)) + (((lastW vs).length : Nat) : Int)) (by omega) (by omega), xw_id (a := 16 * (12 * m + ((vs.length - 1 : Nat) : Int)) + (((lastW vs).length : Nat) : Int) - (i : Int)) (by omega) (by omega), show 16 * (12 * l + ((ws.length - 1 : Nat) : Int)) + (((lastW ws).length : Nat) : Int) - (i : Int) = 192 * l + (16 * ((ws.length - 1 : Nat) : Int) + (((lastW ws).length - i : Nat) : Int)) by omega, show 16 * (12 * m + ((vs.length - 1 : Nat) : Int)) + (((lastW vs).length : Nat) : Int) - (i : Int) = 192 * m + (16 * ((vs.length - 1 : Nat) : Int) + (((lastW vs).length - i : Nat) : Int)) by omega, x4, y4, xw_id (a := (i : Int) + 1) (by omega) (by omega), show (i : Int) + 1 = ((i + 1 : Nat) : Int) by omega]
  refine ⟨⟨by omega, by omega⟩, ⟨by omega, by omega⟩, ⟨by omega, by omega⟩, ⟨by omega, by omega⟩, x_if (fun c => Ht (decide_eq_true c)) (fun c => Hf (decide_eq_false c))⟩
theorem c_R_sameLook {l m : Int} (S : SR h) (l0 : 0 ≤ l) (l1 : l < 15) (m0 : 0 ≤ m) (m1 : m < 15) (ok : LnOk ws) (w1 : 1 ≤ ws.length) (X : RLn (RV h l) ws) (okv : LnOk vs) (v1 : 1 ≤ vs.length) (Y : RLn (RV h m) vs) (H : Q (eyeV (lastW ws) (lastW vs)) h) : xCi (d + 1) M_R_sameLook [(1, 59), (0, l), (0, m)] h Q := by
  apply L_R_sameLook
  have s1 := seen_rg (lastW_1 ok w1).1
  have s2 := seen_rg (lastW_1 okv v1).1
  have o1 := ok.1
  have o2 := okv.1
  have wx : h.i 77 l = (ws.length : Nat) := X.2.1
  have wy : h.i 77 m = (vs.length : Nat) := Y.2.1
  obtain ⟨x1, -, -⟩ := rln_wd ok X (show ws.length - 1 < ws.length by omega)
  obtain ⟨y1, -, -⟩ := rln_wd okv Y (show vs.length - 1 < vs.length by omega)
  have x1 : h.i 79 (12 * l + ((ws.length - 1 : Nat) : Int)) = ((lastW ws).length : Nat) := x1
  have y1 : h.i 79 (12 * m + ((vs.length - 1 : Nat) : Int)) = ((lastW vs).length : Nat) := y1
  simp only [srt S, srl S, srf S, wx, wy, true_and, and_true, false_and, and_false, forall_eq, forall_eq', xi_wi, xr_wi, xt_wi, xl_wi, xn_wi, xs_wi, xi_wr, xr_wr, xt_wr, xl_wr, xn_wr, xs_wr, if_true, if_false, and_self, Int.reduceEq, Int.reduceLT, Int.reduceLE, Int.reduceNeg, Int.le_refl, Int.reduceMod]
  rw [xw_id (a := 12 * l) (by omega) (by omega), xw_id (a := 12 * l + ((ws.length : Nat) : Int)) (by omega) (by omega), xw_id (a := 12 * l + ((ws.length : Nat) : Int) - 1) (by omega) (by omega), xw_id (a := 12 * m) (by omega) (by omega), xw_id (a := 12 * m + ((vs.length : Nat) : Int)) (by omega) (by omega), xw_id (a := 12 * m + ((vs.length : Nat) : Int) - 1) (by omega) (by omega), show 12 * l + ((ws.length : Nat) : Int) - 1 = 12 * l + ((ws.length - 1 : Nat) : Int) by omega, show 12 * m + ((vs.length : Nat) : Int) - 1 = 12 * m + ((vs.length - 1 : Nat) : Int) by omega, x1, y1]
  refine ⟨⟨l0, l1⟩, ⟨m0, m1⟩, ⟨by omega, by omega⟩, ?_⟩
  unfold eyeV at H
  have go : ∀ n : Nat, n = seen (lastW ws) → n = seen (lastW vs) → xT d M_R_sameLook 47 [(1, 59), (0, l), (0, m), (0, 12 * l + ((ws.length - 1 : Nat) : Int)), (0, 12 * m + ((vs.length - 1 : Nat) : Int)), (0, (n : Int)), (0, 1)] [] h (xqi Q) := by
    intro n e1 e2
    rw [if_pos (by omega)] at H
    refine c_R_look_47 (i := 1) S l0 l1 m0 m1 ok w1 X okv v1 Y (Nat.le_refl _) (by omega) (by omega) (by omega) (by omega) (fun k1 => ?_) (fun k1 => by rw [if_neg (by rw [k1]; decide)] at H; exact H)
    rw [if_pos k1] at H
    by_cases c2 : seen (lastW ws) = 2
    · rw [if_pos c2] at H
      refine c_R_look_47 (i := 2) S l0 l1 m0 m1 ok w1 X okv v1 Y (by decide) (by omega) (by omega) (by omega) (by omega) (fun k2 => ?_) (fun k2 => by rw [if_neg (by rw [k2]; decide)] at H; exact H)
      rw [if_pos k2] at H
      apply L_R_sameLook_47
      rw [if_pos (by omega)]
      exact H
    · rw [if_neg c2] at H
      apply L_R_sameLook_47
      rw [if_pos (by omega)]
      exact H
  have la := lastW_1 ok w1
  have lb := lastW_1 okv v1
  have sa : seen (lastW ws) = if (lastW ws).length < 2 then (lastW ws).length else 2 := rfl
  have sb : seen (lastW vs) = if (lastW vs).length < 2 then (lastW vs).length else 2 := rfl
  refine x_if (fun c => ⟨⟨by omega, by omega⟩, x_if (fun c2 => ?_) (fun c2 => ?_)⟩) (fun c => ⟨⟨by omega, by omega⟩, x_if (fun c2 => ?_) (fun c2 => ?_)⟩)
  · rw [if_pos (by omega)] at sa sb
    exact go 1 (by omega) (by omega)
  · rw [if_pos (by omega)] at sa
    rw [if_neg (by omega)] at sb
    rw [if_neg (by omega)] at H
    exact H
  · rw [if_neg (by omega)] at sa
    rw [if_pos (by omega)] at sb
    rw [if_neg (by omega)] at H
    exact H
  · rw [if_neg (by omega)] at sa sb
    exact go 2 (by omega) (by omega)
end EYE
