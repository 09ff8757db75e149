/-! the induction -/
section X2
variable {D : va_G} {cy : Int → ClassId} {bse b0 L0 : Nat} {xs0 : Nat → Int32}
variable {p : Program} {l : Launch} {e : Env} {R : Room} {s : State} {m : MethodId} {args : Array Value} {below : List Frame} {meth : Method} {c : Code} {Q : State → Prop}
/-- behind a call -/
theorem x_call {ad : Int → Nat} {h h1 : xH} {v : xV} {H : Heap} {locs : List Loc} {cells slots mc ms pc : Nat} {ls : Array Slot} {st0 rest : List Value} {a : Array Value}
    (hr : va_Run p l e R s m args below meth c H locs cells slots mc ms (F0 m pc ls st0) rest (xQc D cy bse ad h v h1 a) (fun q : Nat => bse ≤ q)) (hS : va_S (fun q : Nat => bse ≤ q) s.heap H locs)
    (kk : ∀ (ad1 : Int → Nat) (H1 : Heap) (locs1 : List Loc), (∀ x, 0 ≤ x → x < h.nx → ad1 x = ad x) → va_P D vwCl (wl cy ad1 h1) H1 → va_D (fun q : Nat => bse ≤ q) (wl cy ad1 h1) → va_S (fun q : Nat => bse ≤ q) s.heap H1 locs1 →
      W p l e R s m args below meth c H1 locs1 (cells + mc) (slots + ms) Q (F0 m (pc + 3) ls ((xrv ad1 v).toList ++ rest))) : W p l e R s m args below meth c H locs cells slots Q (F0 m pc ls st0) := by
  intro T hT X
  obtain ⟨v', st₀, t, T', L, h0, X', hL, e1, e2, ⟨⟨ad1, g1, g2, g3, g4⟩, hz, hk⟩, st⟩ := hr T hT X
  cases g2
  rw [h0] at hz hk
  obtain ⟨t2, a1, b1⟩ := kk ad1 T'.heap (locs ++ L) g1 (by rw [e1]; exact g3) g4
    ⟨Nat.le_trans hS.1 (by rw [e1]; exact hz), fun q h1 h2 => by rw [e1, hk q (Nat.lt_of_lt_of_le h1 hS.1) h2]; exact hS.2.1 q h1 h2, fun q hq => by
      rcases List.mem_append.mp hq with h | h
      · exact hS.2.2 q h
      · exact hL q h⟩ T' rfl X'
  exact ⟨t2, st t2 a1, b1⟩
end X2
set_option maxHeartbeats 2000000 in
theorem snd_all (CK : xCK) : ∀ n, SND n := by
  intro n
  induction n with
  | zero =>
    intro D cy bse b0 L0 xs0 p l e R s m args below meth c Q mm d k c0 u0 ad h ls st H locs cells slots la v h' er
    exact absurd er (by rw [xrun]; exact fun q => nomatch q)
  | succ n IH =>
    intro D cy bse b0 L0 xs0 p l e R s m args below meth c Q mm d k c0 u0 ad h ls st H locs cells slots la v h' er M X hc hu fin
    rw [xrun_s] at er
    by_cases h31 : (xcd mm k).1 = 31
    · rw [if_pos h31] at er
      obtain ⟨ins, len, hd, hr, hn⟩ := CK mm k (by rw [h31]; decide)
      obtain ⟨i, hl3, hM, hcase⟩ := inv31 hr h31
      subst hl3
      have hp := xnext_pc hn (by rw [h31]; decide) (by rw [h31]; decide) (by rw [h31]; decide) (by rw [h31]; decide)
      have hmo : xmo (xcd mm k).2.1.toNat ≤ 2 := by rcases hcase with q | q | q <;> omega
      obtain ⟨m0, m1⟩ := xmo_lt hmo
      obtain ⟨f1, f2, f3, f4, f5, f6, f7, f8⟩ := xmt_facts m0 m1
      have hlink : Cond.methodLink (xown (xoo mm)) i (xy (xcd mm k).2.1.toNat) ∈ lw_tbl := by
        have z := ml_word hM
        unfold xmname at z
        rw [if_neg (by omega), if_neg (by omega), if_neg (by omega), if_neg (by omega), if_neg (by omega)] at z
        exact z
      generalize hm' : (xcd mm k).2.1.toNat = m' at *
      split at er
      · cases er
      rename_i g1
      split at er
      case isFalse => cases er
      rename_i g2
      split at er
      · cases er
      rename_i v1 h1 e1
      have gd : d ≠ 0 := fun z => g1 (Or.inl z)
      have gl : (xmi m').2 ≤ st.length := by
        rcases Nat.lt_or_ge st.length (xmi m').2 with z | z
        · exact absurd (Or.inr (Or.inl z)) g1
        · exact z
      have gr : xcat (st.drop (xmi m').2) ≤ 8 := by
        rcases Nat.lt_or_ge 8 (xcat (st.drop (xmi m').2)) with z | z
        · exact absurd (Or.inr (Or.inr (Or.inl z))) g1
        · exact z
      have gt : xcat (st.take (xmi m').2) = (xmi m').2 := by
        rcases Nat.decEq (xcat (st.take (xmi m').2)) (xmi m').2 with z | z
        · exact absurd (Or.inr (Or.inr (Or.inr z))) g1
        · exact z
      have hst : st = (st.take (xmi m').2).reverse.reverse ++ st.drop (xmi m').2 := by rw [List.reverse_reverse, List.take_append_drop]
      have htl : (st.take (xmi m').2).length = (xmi m').2 := by rw [List.length_take]; omega
      have hk3 : ∀ u ∈ (st.take (xmi m').2).reverse, u.1 < 3 := by
        intro u hu
        have hu := List.mem_reverse.mp hu
        have a1 := X.2.2.2.2.1 u (List.mem_of_mem_take hu)
        have a2 := xcat_all.2 (gt.trans htl.symm) u hu
        omega
      have hok : ∀ u ∈ (st.take (xmi m').2).reverse, xok h.nx u := fun u hu => X.1.2.2 u (List.mem_of_mem_take (List.mem_reverse.mp hu))
      have hdok : ∀ u ∈ st.drop (xmi m').2, xok h.nx u := fun u hu => X.1.2.2 u (List.mem_of_mem_drop hu)
      have hdk : ∀ u ∈ st.drop (xmi m').2, u.1 < 4 := fun u hu => X.2.2.2.2.1 u (List.mem_of_mem_drop hu)
      have hcI : xI h ((st.take (xmi m').2).reverse ++ List.replicate ((xmi m').1 - (xmi m').2) (9, 0)) [] := ⟨X.1.1, fun w hw => (List.mem_append.mp hw).elim (hok w) (ok_rep w), fun w hw => absurd hw List.not_mem_nil⟩
      obtain ⟨r1, r2, r3, r4⟩ := run_ok _ _ _ _ _ _ _ _ _ hcI e1
      have hv4 := run_kind _ _ _ _ _ _ _ _ _ e1
      have hdI : ∀ u ∈ st.drop (xmi m').2, xok h1.nx u := fun u hu => ok_up (hdok u hu) r3
      have hI1 : xI h1 ls (if v1.1 = 9 then st.drop (xmi m').2 else v1 :: st.drop (xmi m').2) := by
        refine ⟨r1, ok_ups X.1.2.1 r3, ?_⟩
        split
        · exact hdI
        · exact ok_c r2 hdI
      obtain ⟨t1, t2, t3, t4⟩ := run_ok _ _ _ _ _ _ _ _ _ hI1 er
      have hcs := X.2.2.2.2.2.2.2.2.2.1
      have hsc := X.2.2.2.2.2.2.2.2.2.2
      generalize has : (st.take (xmi m').2).reverse = as at *
      generalize hrest : st.drop (xmi m').2 = rest at *
      have hal : as.length = (xmi m').2 := by rw [← has, List.length_reverse]; exact htl
      have hMet := met_of (D := D) (cy := cy) (bse := bse) (b0 := b0) (L0 := L0) (xs0 := xs0) IH l m0 m1 e1 hal hk3 X.1.1 hok hsc.1.1 hsc.1.2.1 hsc.1.2.2 hsc.2.1
      obtain ⟨hx, hb, hml, ho, hts, hK, hRf, hRl, hin, hEX⟩ := M
      have hts' : ∀ w ∈ xtL, w.before args s = true := fun w hw => hts w (List.mem_filter.mp hw).1 (List.mem_filter.mp hw).2
      have hcat := cat_le (ad := ad) hdk
      have hG : GoodIn xtL (xws m') := fun w hw => ⟨xtL_mem (xws_in m0 m1 hw) (xws_good hw), good_of_word (xws_good hw)⟩
      have hcb : ∀ n : Nat, (parseMethodDescriptor (xy m').desc).map (fun d => d.parameters.length) = some n → CallB R s args (xown (xoo mm)) i (xy m') (xby m') (xmi m').1 (xret m') (xws m') ({ frames := d - 1 + 2, cells := (h1.nx - h.nx).toNat, slots := (h1.us - h.us).toNat, locals := 41 * (d - 1 + 2) } : Room) (h1.nx - h.nx).toNat (h1.us - h.us).toNat n := fun n hn =>
        callB_of n hts' hG rfl rfl rfl (hts _ f1 rfl) (hts _ hlink rfl) ⟨f2.1, f2.2, hn⟩ ⟨by dsimp only; omega, by dsimp only; have := f4.1; omega⟩
      have hfit : cells + (h1.nx - h.nx).toNat ≤ R.cells ∧ slots + (h1.us - h.us).toNat ≤ R.slots := ⟨by omega, by omega⟩
      have hpre : ∀ U : State, U.heap = H → s.WarmedH U.vm → va_Pc (as.map (cV ad)) (xPB D cy bse b0 L0 xs0 ad h) (as.map (cV ad)).toArray U := by
        intro U hU hW
        refine ⟨rfl, by rw [hU]; exact X.2.2.2.2.2.1, X.2.2.2.2.2.2.1, va_K.moved hW.alike hK, ?_, xEX_moved hW hEX, by rw [hU]; exact Nat.le_trans hsc.2.2.2 X.2.2.2.2.2.2.2.1.1, by rw [hU]; exact Nat.lt_of_lt_of_le hsc.2.2.1 X.2.2.2.2.2.2.2.1.1⟩
        rw [hU]
        exact (va_X.moved hW.alike X.2.2.2.2.2.2.2.2.1).kept (X.2.2.2.2.2.2.2.1.2.1 b0 hsc.2.2.1 (by have := hsc.2.1; omega))
      have hgo : va_Run p l e R s m args below meth c H locs cells slots (h1.nx - h.nx).toNat (h1.us - h.us).toNat (F0 m (xpc mm k) la (st.map (cV ad))) (rest.map (cV ad)) (xQc D cy bse ad h v1 h1 (as.map (cV ad)).toArray) (fun q : Nat => bse ≤ q) →
          W p l e R s m args below meth c H locs cells slots Q (F0 m (xpc mm k) la (st.map (cV ad))) := by
        intro hrun
        refine x_call hrun X.2.2.2.2.2.2.2.1 (fun ad1 H1 locs1 a1 a2 a3 a4 => ?_)
        have X1 : xW D cy bse b0 L0 xs0 s mm c0 u0 ad1 h1 ls (if v1.1 = 9 then rest else v1 :: rest) H1 locs1 (cells + (h1.nx - h.nx).toNat) (slots + (h1.us - h.us).toNat) la := by
          have gn := X.1.1.1
          have hi1 : h1.len 1 = h.len 1 ∧ h1.i 1 = h.i 1 := run_1 _ _ _ _ _ _ _ _ _ hcI e1
          refine ⟨hI1, xLM_up a1 X.1.2.1 X.2.1, X.2.2.1, X.2.2.2.1, ?_, a2, a3, a4, X.2.2.2.2.2.2.2.2.1, ⟨by omega, by omega⟩, ⟨by rw [a1 1 (by omega) (by omega)]; exact hsc.1.1, by rw [hi1.1]; exact hsc.1.2.1, by rw [hi1.2]; exact hsc.1.2.2⟩, hsc.2⟩
          intro u hu
          split at hu
          · exact hdk u hu
          · rename_i c9
            rcases List.mem_cons.mp hu with z | z
            · rw [z]; rcases hv4 with q | q
              · exact q
              · rw [q] at c9; exact absurd rfl c9
            · exact hdk u z
        have Z := IH D cy bse b0 L0 xs0 p l e R s m args below meth c Q mm d (k + 1) c0 u0 ad1 h1 ls _ H1 locs1 _ _ la v h' er ⟨hx, hb, hml, ho, hts, hK, hRf, hRl, hin, hEX⟩ X1 hc hu (fun ad' H' locs' cells' slots' la' k' b1 b2 b3 b4 b5 b6 => fin ad' H' locs' cells' slots' la' k' b1 b2 (fun x q1 q2 => (b3 x q1 (by omega)).trans (a1 x q1 q2)) b4 b5 b6)
        rw [hp] at Z
        have e9 : (if v1.1 = 9 then rest else v1 :: rest).map (cV ad1) = (xrv ad1 v1).toList ++ rest.map (cV ad) := by
          unfold xrv
          by_cases c9 : v1.1 = 9
          · rw [if_pos c9, if_pos c9, cVs_up a1 hdok]; rfl
          · rw [if_neg c9, if_neg c9, List.map_cons, cVs_up a1 hdok]; rfl
        rw [e9] at Z
        exact Z
      apply hgo
      have hsize : la.size = (xmi mm).1 := by rw [X.2.1.1]; exact X.2.2.1
      rcases hcase with ⟨c1, c2, c3, c4⟩ | ⟨c1, c2, c3, c4⟩ | ⟨c1, c2, c3⟩
      · subst c1
        have g2 := g2.resolve_left (by rw [c2]; decide)
        obtain ⟨q1, q2⟩ := f6 (by omega)
        rw [if_neg (by omega)] at f3
        cases as with
        | nil => exact absurd g2 Bool.false_ne_true
        | cons w as' =>
          obtain ⟨wk, wx⟩ := w
          have hw : wk = 1 ∧ h.tag wx = (xcd mm k).2.2.2 := by
            unfold xrecv at g2
            split at g2
            · rename_i heq; cases heq; exact ⟨rfl, of_decide_eq_true g2⟩
            · exact absurd g2 Bool.false_ne_true
          obtain ⟨hw1, hw2⟩ := hw
          subst hw1
          unfold xinst at c4
          simp only [Bool.and_eq_true, decide_eq_true_eq] at c4
          obtain ⟨d1, d2, d3⟩ := c4
          obtain ⟨he, hp2, hpn⟩ := he_obj (cy := cy) (ad := ad) X.1.1 hw2 d1 (by omega)
          have hwv : cV ad (1, wx) = .ref (ad wx) := by rw [cV1, cRn (by omega)]
          have hrunI := va_runI (e := e) (below := below) (meth := meth) (As := as'.map (cV ad)) (rest := rest.map (cV ad)) (b := ad wx) (g := F0 m (xpc mm k) la (st.map (cV ad))) (cells := cells) (slots := slots) (locs := locs) (H := H) ⟨hx, hb, hml, ho, hts'⟩ hMet (by
            have z := hcb _ f3
            rw [(f8 c3).2] at z
            exact ⟨z, (f8 c3).1, hts _ q2 rfl⟩) ⟨fb_xPc, fun U hU hW => by have z := hpre U hU hW; rw [List.map_cons, hwv] at z; rw [List.map_cons, hwv]; exact z⟩ rfl (by rw [List.length_map]; rw [List.length_cons] at hal; omega) hsize (by
              show st.map (cV ad) = _
              rw [hst, List.map_append, List.map_reverse, List.map_cons, hwv, List.reverse_cons, List.append_assoc]; rfl) (lv_room (Nat.le_trans hcat gr)) hd hfit
          rw [← hwv, ← List.map_cons] at hrunI
          exact hrunI
      · subst c1
        have g2 := g2.resolve_left (by rw [c2]; decide)
        obtain ⟨q1, q2⟩ := f6 (by omega)
        rw [if_neg (by omega)] at f3
        cases as with
        | nil => exact absurd g2 Bool.false_ne_true
        | cons w as' =>
          obtain ⟨wk, wx⟩ := w
          have hw : wk = 1 ∧ h.tag wx = (xcd mm k).2.2.2 := by
            unfold xrecv at g2
            split at g2
            · rename_i heq; cases heq; exact ⟨rfl, of_decide_eq_true g2⟩
            · exact absurd g2 Bool.false_ne_true
          obtain ⟨hw1, hw2⟩ := hw
          subst hw1
          unfold xinst at c4
          simp only [Bool.and_eq_true, decide_eq_true_eq] at c4
          obtain ⟨d1, d2, d3⟩ := c4
          obtain ⟨he, hp2, hpn⟩ := he_obj (cy := cy) (ad := ad) X.1.1 hw2 d1 (by omega)
          have hwv : cV ad (1, wx) = .ref (ad wx) := by rw [cV1, cRn (by omega)]
          have hrecv := va_recv hK X.2.2.2.2.2.1 (vw_get _ d2) he
          have hrunV := va_runV (e := e) (below := below) (meth := meth) (C := (xy m').cls) (As := as'.map (cV ad)) (rest := rest.map (cV ad)) (b := ad wx) (g := F0 m (xpc mm k) la (st.map (cV ad))) (cells := cells) (slots := slots) (locs := locs) (H := H) ⟨hx, hb, hml, ho, hts'⟩ hMet ⟨hcb _ f3, hts _ q2 rfl, hts _ (f7 c3) rfl⟩ ⟨fb_xPc, by rw [← d3]; exact hrecv, fun U hU hW => by have z := hpre U hU hW; rw [List.map_cons, hwv] at z; rw [List.map_cons, hwv]; exact z⟩ rfl (by rw [List.length_map]; rw [List.length_cons] at hal; omega) hsize (by
              show st.map (cV ad) = _
              rw [hst, List.map_append, List.map_reverse, List.map_cons, hwv, List.reverse_cons, List.append_assoc]; rfl) (lv_room (Nat.le_trans hcat gr)) hd hfit
          rw [← hwv, ← List.map_cons] at hrunV
          exact hrunV
      · subst c1
        obtain ⟨q1, q2⟩ := f5 c3
        rw [if_pos c3] at f3
        exact va_runS (As := as.map (cV ad)) (rest := rest.map (cV ad)) (g := F0 m (xpc mm k) la (st.map (cV ad))) (cells := cells) (slots := slots) (locs := locs) (H := H) ⟨hx, hb, hml, ho, hts'⟩ hMet ⟨hcb _ f3, hts _ q1 rfl⟩ ⟨fb_xPc, hpre⟩ rfl (by rw [List.length_map]; exact hal) hsize (by
              show st.map (cV ad) = _
              rw [hst, List.map_append, List.map_reverse]) (lv_room (Nat.le_trans hcat gr)) hd hfit
    · rw [if_neg h31] at er
      by_cases h32 : (xcd mm k).1 = 32
      · rw [if_pos h32] at er
        obtain ⟨ins, len, hd, hr, hn⟩ := CK mm k (by rw [h32]; decide)
        obtain ⟨rfl, rfl, i3⟩ := inv32 hr h32
        split at er
        · rename_i g
          cases er
          rw [g]
          exact fin ad H locs cells slots la k (Or.inl ⟨rfl, hd, i3⟩) X.2.2.2.2.2.2.2.2.2.1 (fun _ _ _ => rfl) X.2.2.2.2.2.1 X.2.2.2.2.2.2.1 X.2.2.2.2.2.2.2.1
        · cases er
      rw [if_neg h32] at er
      by_cases h33 : (xcd mm k).1 = 33
      · rw [if_pos h33] at er
        obtain ⟨ins, len, hd, hr, hn⟩ := CK mm k (by rw [h33]; decide)
        have hi := inv33 hr h33
        split at er
        · rename_i w
          split at er
          · rename_i g
            cases er
            have e9 : [v].map (cV ad) = (xrv ad v).toList := by unfold xrv; rw [if_neg (by omega)]; rfl
            rw [e9]
            refine fin ad H locs cells slots la k ?_ X.2.2.2.2.2.2.2.2.2.1 (fun _ _ _ => rfl) X.2.2.2.2.2.1 X.2.2.2.2.2.2.1 X.2.2.2.2.2.2.2.1
            rcases hi with ⟨rfl, rfl, i1, i2⟩ | ⟨rfl, rfl, i1, i2⟩ | ⟨rfl, rfl, i1, i2⟩
            · refine Or.inr (Or.inl ⟨by rw [g.1, i1]; rfl, hd, ?_⟩)
              rcases i2 with ⟨j1, j2⟩ | ⟨j1, j2⟩
              · exact Or.inl j2
              · exact Or.inr ⟨j2, g.2.2 j1⟩
            · exact Or.inr (Or.inr (Or.inl ⟨by rw [g.1, i1]; rfl, hd, i2⟩))
            · exact Or.inr (Or.inr (Or.inr ⟨by rw [g.1, i1]; rfl, hd, i2⟩))
          · cases er
        · cases er
      rw [if_neg h33] at er
      split at er
      · cases er
      rename_i k1 ls1 st1 h1 e1
      by_cases z0 : (xcd mm k).1 = 0
      · exfalso
        unfold xstp at e1
        simp [z0] at e1
      obtain ⟨ins, len, hd, hr, hn⟩ := CK mm k z0
      obtain ⟨I1, n1, n2⟩ := stp_ok (xop_ok mm k) X.1 e1
      obtain ⟨t1, t2, t3, t4⟩ := run_ok _ _ _ _ _ _ _ _ _ I1 er
      exact sd_any ins len D cy bse b0 L0 xs0 p l e R s m args below meth c Q mm d k c0 u0 ad h ls st H locs cells slots la k1 ls1 st1 h1 M X hd hr hn h31 e1 (by omega) (by omega) (fun ad1 H1 locs1 cells1 slots1 la1 X1 a1 =>
        IH D cy bse b0 L0 xs0 p l e R s m args below meth c Q mm d k1 c0 u0 ad1 h1 ls1 st1 H1 locs1 cells1 slots1 la1 v h' er M X1 hc hu (fun ad' H' locs' cells' slots' la' k' b1 b2 b3 b4 b5 b6 => fin ad' H' locs' cells' slots' la' k' b1 b2 (fun x q1 q2 => (b3 x q1 (by omega)).trans (a1 x q1 q2)) b4 b5 b6))
