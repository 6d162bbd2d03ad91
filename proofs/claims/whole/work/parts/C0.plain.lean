/-! ===== PART II, the class: a plain edit ===== -/
theorem InvL_zero {z : Nat} {S : CS} {v : Nat} {s : List (Nat × List Int32)} (hW : Wf S) (hI : InvL S v s) : InvL (setI S v 1 0) v [] ∧ Sg z (fun x => x = v) 0 S (setI S v 1 0) := by
  obtain ⟨hs, h1, h2, h3, h4⟩ := hI
  exact ⟨⟨hs, h1, cI_self _ _ _ _, by simp, fun i x hx => by cases hx⟩, Sg_setI hW rfl⟩
/-- an inverse comes on a row -/
theorem push_E {z : Nat} {X : Nat × Nat} {S : CS} {g v t2 o c : Nat} {s : List (Nat × List Int32)} {A t : List Int32} (hgr : ∀ h, v + 2 ≤ h → h ≤ v + 16 → grw z h) (hW : Wf S) (hR : Rm z X c S) (hg : kd S g = 9) (hI : InvL S v s) (hT : TxL S t2 t) (hO : OpL S o A) (hov : ∀ S' h, f3_addOne S v = some (h, S') → o ≠ h) (hov2 : o ≠ v ∧ o ≠ v + 1) (hok : ∀ x ∈ t, okP x) (ho : oldL A = t.length) (hl : A.length ≤ 400) :
    ∃ S', (bn2 (cal S 3 v (f3_addOne S v)) fun a4 S5 => cal S5 9 g (f9_invert X S5 g o t2 a4)) = some S' ∧ InvL S' v (pushS s (invX A t)) ∧ Sg z (fun x => v ≤ x ∧ x < v + 18) 0 S S' := by
  have kv : kd S v = 3 := by obtain ⟨hs, h1, _⟩ := hI; exact h1.1.1
  obtain ⟨S1, h, hs, e1, i1, c1, d1, o1, l1, s1⟩ := addOne_I (z := z) hW hI
  have hne := hov S1 h e1
  rw [cal_k kv, e1, bn2_s]
  have gz := kd_lt hW.1 hg (by omega)
  have hg1 : kd S1 g = 9 := by rw [(s1.2.1.2.1 g gz).1]; exact hg
  have hhb := i1.2.2.2.1 h (List.mem_of_getElem? d1)
  have ht2 := TxL_kd hT
  have hT1 := TxL_Fo hW hT s1.2.1 (fun e => by
    rcases e with e | e
    · rw [e, kv] at ht2; omega
    · have k1 : kd S (v + 1) = 17 := by obtain ⟨q, q1, _⟩ := hI; exact q1.1.2.2.1
      rw [e, k1] at ht2; omega)
  have hO1 := OpL_Fo hW hO s1.2.1 (fun e => e.elim hov2.1 hov2.2)
  rw [cal_k hg1]
  obtain ⟨S2, e2, o2, s2⟩ := invert_L (z := z) (X := X) (g := g) s1.1 (Rm_step (c := 0) (d := c) (by rw [Nat.zero_add]; exact hR) s1) (hgr h hhb.1 hhb.2.1) hO1 hT1 hhb.2.2 hne hok ho hl
  have vz := kd_lt s1.1.1 i1.1.1 (by omega)
  refine ⟨S2, e2, InvL_push (h := h) (InvS_Sg s1.1 i1 s2 (by omega)) ?_ l1 d1 (InvO_Fo s1.1 o1 s2.2.1 (fun i y hi hy e => nd_ne i1.2.2.1 hy d1 (by omega) e)) o2, Sg_trans (Sg_mono hW s1 (fun x hx => by omega) (Nat.le_refl 0)) (Sg_mono s1.1 s2 (fun x hx => by omega) (Nat.le_refl 0))⟩
  rw [fld_Fo s1.1 i1.1.1 (by omega) s2.2.1 (show ¬ v = h by omega)]
  exact c1
