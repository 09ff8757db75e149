/-! a whole run keeps what is well formed -/
theorem xop_all : xcT.all (fun l => l.all xopok) = true := by decide +kernel
theorem xop_ok (m k : Nat) : xopok (xcd m k) = true := by
  unfold xcd
  rw [List.getD_eq_getElem?_getD]
  cases e : (xcT.getD m [])[k]? with
  | none => rfl
  | some q =>
    have h1 := List.mem_of_getElem? e
    rw [List.getD_eq_getElem?_getD] at h1
    cases e2 : xcT[m]? with
    | none => rw [e2] at h1; cases h1
    | some l =>
      rw [e2] at h1
      exact List.all_eq_true.mp (List.all_eq_true.mp xop_all l (List.mem_of_getElem? e2)) q h1
theorem ok_rep {nx : Int} {n : Nat} : ∀ v ∈ List.replicate n ((9, 0) : xV), xok nx v := fun v hv => by rw [(List.mem_replicate.mp hv).2]; exact ok_9
theorem run_ok : ∀ (n d m k : Nat) (ls st : List xV) (h : xH) (v : xV) (h' : xH), xI h ls st → xrun xsw xcd xmi n d m k ls st h = some (v, h') → xG h' ∧ xok h'.nx v ∧ h.nx ≤ h'.nx ∧ h.us ≤ h'.us := by
  intro n
  induction n with
  | zero => intro d m k ls st h v h' I e; exact absurd e (by rw [xrun]; exact fun q => nomatch q)
  | succ n ih =>
    intro d m k ls st h v h' I e
    rw [xrun_s] at e
    by_cases h31 : (xcd m k).1 = 31
    · rw [if_pos h31] at e
      split at e
      · cases e
      split at e
      · split at e
        · cases e
        · rename_i v1 h1 e1
          have hc : xI h ((st.take (xmi (xcd m k).2.1.toNat).2).reverse ++ List.replicate ((xmi (xcd m k).2.1.toNat).1 - (xmi (xcd m k).2.1.toNat).2) (9, 0)) [] :=
            ⟨I.1, fun w hw => (List.mem_append.mp hw).elim (fun q => I.2.2 w (List.mem_of_mem_take (List.mem_reverse.mp q))) (ok_rep w), fun w hw => absurd hw List.not_mem_nil⟩
          obtain ⟨a1, a2, a3, a4⟩ := ih _ _ _ _ _ _ _ _ hc e1
          have hd : ∀ w ∈ st.drop (xmi (xcd m k).2.1.toNat).2, xok h1.nx w := fun w hw => ok_up (I.2.2 w (List.mem_of_mem_drop hw)) a3
          have hI : xI h1 ls (if v1.1 = 9 then st.drop (xmi (xcd m k).2.1.toNat).2 else v1 :: st.drop (xmi (xcd m k).2.1.toNat).2) := by
            refine ⟨a1, ok_ups I.2.1 a3, ?_⟩
            split
            · exact hd
            · exact ok_c a2 hd
          obtain ⟨b1, b2, b3, b4⟩ := ih _ _ _ _ _ _ _ _ hI e
          exact ⟨b1, b2, Int.le_trans a3 b3, Int.le_trans a4 b4⟩
      · cases e
    · rw [if_neg h31] at e
      split at e
      · split at e
        · cases e; exact ⟨I.1, ok_9, Int.le_refl _, Int.le_refl _⟩
        · cases e
      split at e
      · split at e
        · rename_i w
          split at e
          · cases e; exact ⟨I.1, ok_h I.2.2, Int.le_refl _, Int.le_refl _⟩
          · cases e
        · cases e
      split at e
      · cases e
      · rename_i k1 ls1 st1 h1 e1
        obtain ⟨I1, c1, c2⟩ := stp_ok (xop_ok m k) I e1
        obtain ⟨b1, b2, b3, b4⟩ := ih _ _ _ _ _ _ _ _ I1 e
        exact ⟨b1, b2, Int.le_trans c1 b3, Int.le_trans c2 b4⟩
