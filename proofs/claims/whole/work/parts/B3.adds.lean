/-! ===== PART II, the class: a part is added to an operation ===== -/
theorem OpA_gi {S : CS} {h a : Nat} {R : List Pt} (hO : OpA S h a R) : gi S 4 h 1 = some (nI R.length) := by rw [gi_k hO.1.2.2.1, hO.2.1]
theorem OpA_gr {S : CS} {h a : Nat} {R : List Pt} (hO : OpA S h a R) : gr S 4 h 0 = some a := gr_k hO.1.2.2.1 hO.1.2.2.2.2
theorem OpA_al {S : CS} {h a : Nat} {R : List Pt} (hO : OpA S h a R) : aln S 14 a = some (nI (cN S a)) := aln_k hO.1.2.2.2.1
theorem OpA_ne {S : CS} {h a : Nat} {R : List Pt} (hO : OpA S h a R) : h ≠ a := fun e => by
  have h1 := hO.1.2.2.1
  have h2 := hO.1.2.2.2.1
  rw [e, h2] at h1
  omega
/-- what is the same of two memories, but for one operation -/
def OpF (h a : Nat) (S S' : CS) : Prop := Fm (fun x => x = h ∨ x = a) S S' ∧ cZ S' = cZ S ∧ cU S' = cU S ∧ cJ S' = cJ S ∧ (∀ k, k ≠ 1 → cI S' h k = cI S h k) ∧ cL S' = cL S ∧ (cK S' = cK S ∧ cB S' = cB S ∧ (∀ x, x ≠ h → cI S' x = cI S x) ∧ (∀ x, x ≠ a → cA S' x = cA S x)) ∧ cN S' = cN S
theorem OpF_refl (h a : Nat) (S : CS) : OpF h a S S := ⟨Fm_refl _ _, rfl, rfl, rfl, fun _ _ => rfl, rfl, ⟨rfl, rfl, fun _ _ => rfl, fun _ _ => rfl⟩, rfl⟩
theorem OpF_trans {h a : Nat} {S S' S'' : CS} (h1 : OpF h a S S') (h2 : OpF h a S' S'') : OpF h a S S'' := by
  obtain ⟨a1, a2, a3, a4, a5, a6, a7, a8⟩ := h1
  obtain ⟨b1, b2, b3, b4, b5, b6, b7, b8⟩ := h2
  exact ⟨Fm_trans a1 b1, b2.trans a2, b3.trans a3, b4.trans a4, fun k hk => (b5 k hk).trans (a5 k hk), b6.trans a6, ⟨b7.1.trans a7.1, b7.2.1.trans a7.2.1, fun x hx => (b7.2.2.1 x hx).trans (a7.2.2.1 x hx), fun x hx => (b7.2.2.2 x hx).trans (a7.2.2.2 x hx)⟩, b8.trans a8⟩
theorem OpF_setA {h a : Nat} {S : CS} {f : Nat → Int32} : OpF h a S (setA S a f) := ⟨Fm_setA (Or.inr rfl), rfl, rfl, rfl, fun _ _ => rfl, rfl, ⟨rfl, rfl, fun _ _ => rfl, fun x hx => va_up_ne _ _ hx⟩, rfl⟩
theorem OpF_setI {h a : Nat} {S : CS} {v : Int32} : OpF h a S (setI S h 1 v) := ⟨Fm_setI (Or.inl rfl), rfl, rfl, rfl, fun k hk => by
  show va_up S.2.2.1 h (va_up (S.2.2.1 h) 1 v) h k = S.2.2.1 h k
  rw [va_up_self, va_up_ne _ _ hk], rfl, ⟨rfl, rfl, fun x hx => va_up_ne _ _ hx, fun _ _ => rfl⟩, rfl⟩
theorem push_ok {S : CS} {h a : Nat} {R : List Pt} {v : Int32} (x : Pt) (hO : OpA S h a R) (hl : R.length < cN S a) (hx : pc x = v) : (if nI (cN S a) ≤ nI R.length then some S else (sti (setI S h 1 (nI R.length + 1)) a (nI R.length) v).bind fun S10 => some S10) = some (setA (setI S h 1 (nI (R.length + 1))) a (upd (cA S a) R.length (pc x))) := by
  obtain ⟨⟨q1, q2, q3, q4, q5⟩, q6, q7, q8, q9⟩ := id hO
  rw [if_neg (nI_ge hl (by omega)), nI_1, sti_k (S := setI S h 1 (nI (R.length + 1))) q4 hl (by show cN S a < 2 ^ 31; omega), Option.bind_some, hx]
  rfl
theorem len_1 (x : Pt) (r : List Pt) : nI (x :: r).length - 1 = nI r.length := by rw [show (1 : Int32) = nI 1 from rfl, nI_sub (by rw [List.length_cons]; omega), List.length_cons, Nat.add_sub_cancel]
theorem addKeep_ok {S : CS} {h a n : Nat} {R : List Pt} (hO : OpA S h a R) (hR : CanR R) (h1 : 1 ≤ n) (h2 : n < 100000) (hs : (addK n R).length ≤ cN S a) : ∃ S', f4_addKeep S h (nI n) = some S' ∧ OpA S' h a (addK n R) ∧ OpF h a S S' := by
  obtain ⟨⟨q1, q2, q3, q4, q5⟩, q6, q7, q8, q9⟩ := id hO
  unfold f4_addKeep
  rw [if_pos (show (0 : Int32) < nI n from nI_lt (a := 0) (by omega) (by omega))]
  simp only [OpA_gi hO, OpA_gr hO, Option.bind_some, OpA_al hO, pi_k q3]
  have e31 : (31 : Int32) + nI n = nI (31 + n) := nI_add 31 n
  cases R with
  | nil =>
    have hl : ([] : List Pt).length < cN S a := hs
    rw [if_pos (show nI ([] : List Pt).length ≤ (0 : Int32) from by decide), push_ok (0, n) hO hl ((pc_keep n).trans e31.symm), Option.bind_some]
    exact ⟨_, rfl, OpA_push (0, n) hO hl, OpF_trans OpF_setI OpF_setA⟩
  | cons x r =>
    have hx := hR.1
    have hlr : r.length < cN S a := by rw [List.length_cons] at q7; omega
    rw [if_neg (show ¬ nI (x :: r).length ≤ (0 : Int32) from nI_ge (a := 0) (by rw [List.length_cons]; omega) (by omega)), len_1, ldi_k q4 hlr (by omega), OpA_last hO, Option.bind_some]
    unfold addK at hs ⊢
    dsimp only at hs ⊢
    by_cases h0 : x.1 = 0
    · rw [if_pos h0, if_neg (fun hh => (pc_le31 hx).mp hh h0), Option.bind_some, sti_k q4 hlr (by omega), Option.bind_some, Option.bind_some]
      have hv : pc x + nI n = pc (0, x.2 + n) := by
        have : x = (0, x.2) := Prod.ext h0 rfl
        rw [pc_keep]
        conv => lhs; rw [this]
        rw [pc_keep, nI_add, Nat.add_assoc]
      rw [hv]
      exact ⟨_, rfl, OpA_top hO, OpF_setA⟩
    · rw [if_neg h0] at hs ⊢
      have hl : (x :: r).length < cN S a := hs
      rw [if_pos ((pc_le31 hx).mpr h0), push_ok (0, n) hO hl ((pc_keep n).trans e31.symm), Option.bind_some]
      exact ⟨_, rfl, OpA_push (0, n) hO hl, OpF_trans OpF_setI OpF_setA⟩
theorem addCut_ok {S : CS} {h a n : Nat} {R : List Pt} (hO : OpA S h a R) (hR : CanR R) (h1 : 1 ≤ n) (h2 : n < 100000) (hs : (addC n R).length ≤ cN S a) : ∃ S', f4_addCut S h (nI n) = some S' ∧ OpA S' h a (addC n R) ∧ OpF h a S S' := by
  obtain ⟨⟨q1, q2, q3, q4, q5⟩, q6, q7, q8, q9⟩ := id hO
  unfold f4_addCut
  rw [if_pos (show (0 : Int32) < nI n from nI_lt (a := 0) (by omega) (by omega))]
  simp only [OpA_gi hO, OpA_gr hO, Option.bind_some, OpA_al hO, pi_k q3]
  cases R with
  | nil =>
    have hl : ([] : List Pt).length < cN S a := hs
    rw [if_pos (show nI ([] : List Pt).length ≤ (0 : Int32) from by decide), push_ok (2, n) hO hl (pc_cut n), Option.bind_some]
    exact ⟨_, rfl, OpA_push (2, n) hO hl, OpF_trans OpF_setI OpF_setA⟩
  | cons x r =>
    have hx := hR.1
    have hlr : r.length < cN S a := by rw [List.length_cons] at q7; omega
    rw [if_neg (show ¬ nI (x :: r).length ≤ (0 : Int32) from nI_ge (a := 0) (by rw [List.length_cons]; omega) (by omega)), len_1, ldi_k q4 hlr (by omega), OpA_last hO, Option.bind_some]
    unfold addC at hs ⊢
    dsimp only at hs ⊢
    by_cases h0 : x.1 = 2
    · rw [if_pos h0, if_neg (fun hh => (pc_ge0 hx).mp hh h0), Option.bind_some, sti_k q4 hlr (by omega), Option.bind_some, Option.bind_some]
      have hv : pc x - nI n = pc (2, x.2 + n) := by
        have : x = (2, x.2) := Prod.ext h0 rfl
        rw [pc_cut]
        conv => lhs; rw [this]
        rw [pc_cut, ← nI_add, Int32.neg_add]
      rw [hv]
      exact ⟨_, rfl, OpA_top hO, OpF_setA⟩
    · rw [if_neg h0] at hs ⊢
      have hl : (x :: r).length < cN S a := hs
      rw [if_pos ((pc_ge0 hx).mpr h0), push_ok (2, n) hO hl (pc_cut n), Option.bind_some]
      exact ⟨_, rfl, OpA_push (2, n) hO hl, OpF_trans OpF_setI OpF_setA⟩
