/-! ===== PART II, the class: what comes is turned over what an editor has ===== -/
/-- weights of the weaver's operations -/
def ClsG (z g : Nat) : Prop := grw z (g + 7) ∧ grw z (g + 9) ∧ wt z (g + 12) = wt z (g + 9) ∧ wt z (g + 14) = wt z (g + 9) ∧ (∀ s, s ≤ 241 → cpc z (g + 12) s 0) ∧ (∀ s, s ≤ 241 → cpc z (g + 14) s 0)
theorem turn_len {ah : Bool} {A B : List Int32} (hA : okO A) (hB : okO B) (ho : oldL A = oldL B) : (turnC ah A B).length = newL B + putsL A ∧ (turnD ah A B).length = newL A + putsL B := by
  obtain ⟨t1, t2, t3, t4, t5, t6, t7, t8, t9⟩ := turn_ok (ah := ah) hA hB ho
  have h1 := cnt_len t1
  have h2 := cnt_len t2
  exact ⟨by omega, by omega⟩
theorem turnIf {z : Nat} {X : Nat × Nat} {S : CS} {g h c : Nat} {o : Option (List Int32)} {B : List Int32} {ah : Bool} (hc : ClsG z g) (hW : Wf S) (hR : Rm z X c S) (hw : Wv S g) (hh : wt z h = wt z (g + 7)) (hne : g + 16 ≤ h) (hO : OpS S h o) (hB : OpL S (g + 12) B) (hok : okO B) (hBl : B.length ≤ 240) (hp : ∀ p, o = some p → okO p ∧ oldL p = oldL B ∧ newL B + putsL p ≤ 240) (hob : ∃ l, OpL S (g + 9) l) :
    ∃ S', (if bI o.isSome = 0 then some S else (cal S 9 g (f9_turn X S g h (g + 12) (bI ah))).bind fun S22 => some S22) = some S' ∧ OpS S' h (pB o ah B).1 ∧ OpL S' (g + 12) (pB o ah B).2 ∧ (∃ l, OpL S' (g + 9) l) ∧ Sg z (fun x => x = h ∨ x = g + 12 ∨ Hw g x) 0 S S' := by
  cases o with
  | none =>
    rw [if_pos (show bI (none : Option (List Int32)).isSome = 0 from rfl)]
    exact ⟨S, rfl, hO, hB, hob, Sg_refl hW⟩
  | some p =>
    obtain ⟨h1, h2⟩ := OpS_get hO
    obtain ⟨p1, p2, p3⟩ := hp p rfl
    rw [if_neg (show ¬ bI (some p).isSome = 0 by rw [show bI (some p).isSome = 1 from rfl]; decide), cal_k hw.1]
    obtain ⟨S1, e1, e2, e3, e4, _, e6⟩ := turn_L (z := z) (ah := ah) hW hR hw hc.1 hc.2.1 hh hc.2.2.1 h1 hB (by omega) ⟨by omega, by omega, by omega, by omega⟩ p2 (by omega) (by omega)
    rw [e1, Option.bind_some]
    refine ⟨S1, rfl, OpS_some e2 ?_, e3, e6, e4⟩
    rw [(turn_len p1 hok p2).1]; exact p3
/-- the line of an editor stays, but for one of its operations -/
theorem EdLn_op {z c : Nat} {H : Nat → Prop} {S S' : CS} {e n : Nat} {E E' : Ed} (hW : Wf S) (h : EdLn S e n E) (hs : Sg z H c S S') (h0 : ¬ H e) (hN : EdN S e E' ) (hC : EdC S e n E') (hp : OpS S' (e + 3) (ePnd E')) (hb : OpS S' (e + 5) (eBuf E')) : EdLn S' e n E' := by
  obtain ⟨a1, a2, a3, a4, a5⟩ := h
  have hi := fld_Fo hW a1.1 (by omega) hs.2.1 h0
  have ha := arr_Fo hW a1.2.1.2.2.2.2.2.2 a1.2.2.2.2.1 hs.2.1 h0
  exact ⟨EdS_Sg hW a1 hs, by unfold EdN; rw [hi]; exact hN, fun i hi2 => by rw [ha]; exact hC i hi2, hp, hb⟩
/-- what is pending and what is buffered are turned over what comes -/
theorem line_com {z : Nat} {X : Nat × Nat} {S : CS} {g e n c : Nat} {E : Ed} {B : List Int32} {ah : Bool} (hc : ClsG z g) (hW : Wf S) (hR : Rm z X c S) (hw : Wv S g) (h3 : wt z (e + 3) = wt z (g + 7)) (h5 : wt z (e + 5) = wt z (g + 7)) (hge : g + 16 ≤ e) (hL : EdLn S e n E) (hB : OpL S (g + 12) B) (hok : okO B) (hBl : B.length ≤ 240)
    (hp : ∀ p, ePnd E = some p → okO p ∧ oldL p = oldL B ∧ newL B + putsL p ≤ 240) (hok2 : okO (pB (ePnd E) ah B).2) (hl2 : (pB (ePnd E) ah B).2.length ≤ 240) (hq : ∀ q, eBuf E = some q → okO q ∧ oldL q = oldL (pB (ePnd E) ah B).2 ∧ newL (pB (ePnd E) ah B).2 + putsL q ≤ 240) (hob : ∃ l, OpL S (g + 9) l) :
    ∃ S1 S2, (if bI (ePnd E).isSome = 0 then some S else (cal S 9 g (f9_turn X S g (e + 3) (g + 12) (bI ah))).bind fun S22 => some S22) = some S1 ∧ EdLn S1 e n (sPnd E (pB (ePnd E) ah B).1) ∧ Wf S1 ∧ Wv S1 g ∧ (if bI (eBuf E).isSome = 0 then some S1 else (cal S1 9 g (f9_turn X S1 g (e + 5) (g + 12) (bI ah))).bind fun S22 => some S22) = some S2 ∧ EdLn S2 e n (sBuf (sPnd E (pB (ePnd E) ah B).1) (pB (eBuf E) ah (pB (ePnd E) ah B).2).1) ∧ OpL S2 (g + 12) (pB (eBuf E) ah (pB (ePnd E) ah B).2).2 ∧ (∃ l, OpL S2 (g + 9) l) ∧ Sg z (fun x => x = e + 3 ∨ x = e + 5 ∨ x = g + 12 ∨ Hw g x) 0 S S1 ∧ Sg z (fun x => x = e + 3 ∨ x = e + 5 ∨ x = g + 12 ∨ Hw g x) 0 S S2 := by
  obtain ⟨hE, hN, hC, hP, hBf⟩ := id hL
  obtain ⟨S1, e1, o1, b1, w1, s1⟩ := turnIf (z := z) (X := X) (ah := ah) hc hW hR hw h3 (by omega) hP hB hok hBl hp hob
  have nH1 : ∀ x, x = e ∨ x = e + 5 → ¬ (x = e + 3 ∨ x = g + 12 ∨ Hw g x) := fun x hx hh => by
    rcases hh with hh | hh | hh | hh | hh | hh <;> omega
  have hN1 : EdN S e (sPnd E (pB (ePnd E) ah B).1) := by
    obtain ⟨n8, n10, n11, n12, n13, n14⟩ := hN
    refine ⟨n8, n10, n11, ?_, n13, n14⟩
    rw [n12]
    show bI (ePnd E).isSome = bI (pB (ePnd E) ah B).1.isSome
    cases ePnd E <;> rfl
  have l1 : EdLn S1 e n (sPnd E (pB (ePnd E) ah B).1) := EdLn_op hW hL s1 (nH1 e (Or.inl rfl)) hN1 hC o1 (OpS_Fo hW hBf s1.2.1 (nH1 (e + 5) (Or.inr rfl)))
  have wv1 := Wv_Sg hW hw s1
  have hR1 := Rm_step (c := 0) (d := c) (by rw [Nat.zero_add]; exact hR) s1
  obtain ⟨S2, e2, o2, b2, w2, s2⟩ := turnIf (z := z) (X := X) (ah := ah) hc s1.1 hR1 wv1 h5 (by omega) l1.2.2.2.2 b1 hok2 hl2 hq w1
  have nH2 : ∀ x, x = e ∨ x = e + 3 → ¬ (x = e + 5 ∨ x = g + 12 ∨ Hw g x) := fun x hx hh => by
    rcases hh with hh | hh | hh | hh | hh | hh <;> omega
  obtain ⟨hE1, hNn1, hC1, hP1, hB1⟩ := id l1
  have hN2 : EdN S1 e (sBuf (sPnd E (pB (ePnd E) ah B).1) (pB (eBuf E) ah (pB (ePnd E) ah B).2).1) := by
    obtain ⟨n8, n10, n11, n12, n13, n14⟩ := hNn1
    refine ⟨n8, n10, n11, n12, ?_, n14⟩
    rw [n13]
    show bI (eBuf E).isSome = bI (pB (eBuf E) ah (pB (ePnd E) ah B).2).1.isSome
    cases eBuf E <;> rfl
  have l2 := EdLn_op s1.1 l1 s2 (nH2 e (Or.inl rfl)) hN2 hC1 (OpS_Fo s1.1 hP1 s2.2.1 (nH2 (e + 3) (Or.inr rfl))) o2
  have q1 := Sg_mono hW s1 (H' := fun x => x = e + 3 ∨ x = e + 5 ∨ x = g + 12 ∨ Hw g x) (fun x hx => hx.elim Or.inl (fun h => Or.inr (Or.inr h))) (Nat.le_refl 0)
  have q2 := Sg_mono s1.1 s2 (H' := fun x => x = e + 3 ∨ x = e + 5 ∨ x = g + 12 ∨ Hw g x) (fun x hx => hx.elim (fun h => Or.inr (Or.inl h)) (fun h => Or.inr (Or.inr h))) (Nat.le_refl 0)
  exact ⟨S1, S2, e1, l1, s1.1, wv1, e2, l2, b2, w2, q1, Sg_trans q1 q2⟩
