/-! ===== PART II, the class: an edit, plainly or by an inverse ===== -/
abbrev Hp (w g e : Nat) : Nat → Prop := fun x => x = w ∨ (e ≤ x ∧ x < e + 45) ∨ (g ≤ x ∧ x < g + 16)
theorem bn2_bind {α1 α2 β γ : Type} (x : Option (α1 × α2)) (f : α1 → α2 → Option β) (k : β → Option γ) : (bn2 x fun a b => (f a b).bind k) = (bn2 x f).bind k := by
  cases x with
  | none => rfl
  | some p => rfl
theorem addOne_rng {S S' : CS} {v h : Nat} {s : List (Nat × List Int32)} (hW : Wf S) (hI : InvL S v s) (he : f3_addOne S v = some (h, S')) : v + 2 ≤ h ∧ h ≤ v + 16 := by
  obtain ⟨S1, h1, hs, e1, i1, c1, d1, _⟩ := addOne_I (z := 0) hW hI
  have := i1.2.2.2.1 h1 (List.mem_of_getElem? d1)
  rw [e1] at he
  have := congrArg Prod.fst (Option.some.inj he)
  dsimp only at this
  omega
/-- an inverse is kept in the row v of an editor -/
theorem pushed_E {z : Nat} {X : Nat × Nat} {S : CS} {w g e o v n c : Nat} {E E' : Ed} {s : List (Nat × List Int32)} {A : List Int32} (hv : (v = e + 7 ∧ s = eUnd E ∧ E' = sUnd E (pushS s (invX A (eTxt E)))) ∨ (v = e + 25 ∧ s = eDon E ∧ E' = sDon E (pushS s (invX A (eTxt E))))) (hgr : ∀ h, e + 9 ≤ h → h ≤ e + 41 → grw z h) (hW : Wf S) (hR : Rm z X c S) (hg : kd S g = 9) (hge : g + 16 ≤ e) (hL : EdLn S e n E) (hT : EdT S e E) (hM : EdM S e E) (hO : OpL S o A) (hov : ¬ (v ≤ o ∧ o < v + 18)) (hok : ∀ x ∈ eTxt E, okP x) (ho : oldL A = (eTxt E).length) (hl : A.length ≤ 400) :
    ∃ S', (bn2 (cal S 3 v (f3_addOne S v)) fun a4 S5 => cal S5 9 g (f9_invert X S5 g o (e + 1) a4)) = some S' ∧ EdLn S' e n E' ∧ EdT S' e E' ∧ EdM S' e E' ∧ Sg z (fun x => v ≤ x ∧ x < v + 18) 0 S S' := by
  have hb : e + 7 ≤ v ∧ v + 18 ≤ e + 43 := by rcases hv with h | h <;> omega
  have hI : InvL S v s := by
    rcases hv with ⟨h1, h2, h3⟩ | ⟨h1, h2, h3⟩
    · rw [h1, h2]; exact hT.2.1
    · rw [h1, h2]; exact hT.2.2
  obtain ⟨S1, e1, i1, s1⟩ := push_E (z := z) (X := X) (g := g) (fun h h1 h2 => hgr h (by omega) (by omega)) hW hR hg hI hT.1 hO (fun S' h hh hne => by
    have := addOne_rng hW hI hh
    omega) ⟨by omega, by omega⟩ hok ho hl
  refine ⟨S1, e1, ?_, ?_, ?_, s1⟩
  · have := EdLn_Sg hW hL s1 (by omega) (by omega) (by omega)
    rcases hv with ⟨h1, h2, h3⟩ | ⟨h1, h2, h3⟩
    · rw [h3]; exact this
    · rw [h3]; exact this
  · have t1 := TxL_Fo hW hT.1 s1.2.1 (show ¬ (v ≤ e + 1 ∧ e + 1 < v + 18) by omega)
    rcases hv with ⟨h1, h2, h3⟩ | ⟨h1, h2, h3⟩
    · rw [h3]
      rw [h1] at i1
      exact ⟨t1, i1, InvL_Sg hW hT.2.2 s1 (fun x q1 q2 => by omega)⟩
    · rw [h3]
      rw [h1] at i1
      exact ⟨t1, InvL_Sg hW hT.2.1 s1 (fun x q1 q2 => by omega), i1⟩
  · have := EdM_Sg hW hL.1 hM s1 (by omega)
    rcases hv with ⟨h1, h2, h3⟩ | ⟨h1, h2, h3⟩
    · rw [h3]; exact this
    · rw [h3]; exact this
theorem giveE_same (F : Ed) (A : List Int32) : eTxt (giveE F A) = eTxt F ∧ eUnd (giveE F A) = eUnd F ∧ eDon (giveE F A) = eDon F ∧ eMks (giveE F A) = eMks F ∧ eCur (giveE F A) = eCur F := by
  unfold giveE
  cases ePnd F with
  | none => exact ⟨rfl, rfl, rfl, rfl, rfl⟩
  | some p => exact ⟨rfl, rfl, rfl, rfl, rfl⟩
theorem EdT_give {S : CS} {e : Nat} {F : Ed} {A : List Int32} (h : EdT S e F) : EdT S e (giveE F A) := by
  obtain ⟨x1, x2, x3, x4, x5⟩ := giveE_same F A
  unfold EdT
  rw [x1, x2, x3]; exact h
theorem EdM_give {S : CS} {e : Nat} {F : Ed} {A : List Int32} (h : EdM S e F) : EdM S e (giveE F A) := by
  obtain ⟨x1, x2, x3, x4, x5⟩ := giveE_same F A
  unfold EdM
  rw [x4, x5]; exact h
/-- what an edit wants of an editor -/
def edB (E : Ed) (A : List Int32) : Prop := okO A ∧ oldL A = (eTxt E).length ∧ newL A ≤ 240 ∧ A.length ≤ 240 ∧ (eMks E).length ≤ 4 ∧ (∀ x ∈ eMks E, x.1 < 10000 ∧ x.2.1 < 10000 ∧ x.2.2 ≤ 3) ∧ eCur E < 10000 ∧ (∀ b, eBuf E = some b → okO b ∧ newL b = oldL A ∧ (joinC b A).length ≤ 240) ∧ (ePnd E = none → eBuf E = none) ∧ ∀ x ∈ eTxt E, okP x
/-- the weights of an editor of a world -/
def ClsP (z g e : Nat) : Prop := ClsE z g e ∧ (∀ m, cpc z (e + 3) m m) ∧ (∀ m, cpc z (e + 5) m m) ∧ ∀ h, e + 9 ≤ h → h ≤ e + 41 → grw z h
theorem made_E {z : Nat} {X : Nat × Nat} {S : CS} {w r g e o n c c0 ed pu : Nat} {E : Ed} {A : List Int32} (hc : ClsP z g e) (hge : g + 16 ≤ w) (hwe : w + 5 ≤ e) (hW : Wf S) (hR : Rm z X (c0 + c) S) (hc0 : 8 < szO S o → 240 ≤ c0) (hw : Wv S g) (hS : WdS S w r g) (hL : EdLn S e n E) (hT : EdT S e E) (hM : EdM S e E) (hO : OpL S o A) (hno : ¬ Hm w g e o) (h9 : cI S w 9 = nI ed) (h10 : cI S w 10 = nI pu) (hB : edB E A) (hob : ∃ l, OpL S (g + 9) l) :
    ∃ S', cal S 10 w (f10_makeEdit X S w e o) = some S' ∧ EdLn S' e n (giveE (txtE E A true) A) ∧ EdT S' e (giveE (txtE E A true) A) ∧ EdM S' e (giveE (txtE E A true) A) ∧ (cI S' w 9 = nI (ed + 1) ∧ cI S' w 10 = nI (pu + putsL A) ∧ ∀ k, k ≠ 9 → k ≠ 10 → cI S' w k = cI S w k) ∧ cA S' (w + 4) = cA S (w + 4) ∧ (∃ l, OpL S' (g + 9) l) ∧ Sg z (Hp w g e) c0 S S' := by
  obtain ⟨c1, c2, c3, c4⟩ := hc
  obtain ⟨b1, b2, b3, b4, b5, b6, b7, b8, b9, b10⟩ := hB
  obtain ⟨S', r1, r2, r3, r4, r5, ra, r6, r7⟩ := make_E (z := z) (X := X) c1 c2 c3 hge hwe hW hR hc0 hw hS hL hT hM hO hno h9 h10 b1 b2 b3 b4 b5 b6 b7 b8 b9 hob
  refine ⟨S', by rw [cal_k hS.1]; exact r1, r2, EdT_give r3, EdM_give r4, r5, ra, r6, Sg_mono hW r7 (fun x hx => ?_) (Nat.le_refl _)⟩
  rcases hx with h | h | h | h | h | h | h | h | h | h
  · exact Or.inl h
  · exact Or.inr (Or.inl (by omega))
  · exact Or.inr (Or.inl (by omega))
  · exact Or.inr (Or.inl (by omega))
  · exact Or.inr (Or.inl (by omega))
  · exact Or.inr (Or.inr (by omega))
  · exact Or.inr (Or.inr (by omega))
  · exact Or.inr (Or.inr (by omega))
  · exact Or.inr (Or.inr (by omega))
  · exact Or.inr (Or.inr (by omega))
theorem plain_E {z : Nat} {X : Nat × Nat} {S : CS} {w r g e o n c c0 ed pu : Nat} {E : Ed} {A : List Int32} (hc : ClsP z g e) (hge : g + 16 ≤ w) (hwe : w + 5 ≤ e) (hW : Wf S) (hR : Rm z X (c0 + c) S) (hc0 : 8 < szO S o → 240 ≤ c0) (hw : Wv S g) (hS : WdS S w r g) (hL : EdLn S e n E) (hT : EdT S e E) (hM : EdM S e E) (hO : OpL S o A) (hno : ¬ Hp w g e o) (h9 : cI S w 9 = nI ed) (h10 : cI S w 10 = nI pu) (hB : edB E A) (hob : ∃ l, OpL S (g + 9) l) :
    ∃ S', f10_editPlainly X S w e o = some S' ∧ EdLn S' e n (editE E A 0) ∧ EdT S' e (editE E A 0) ∧ EdM S' e (editE E A 0) ∧ (cI S' w 9 = nI (ed + 1) ∧ cI S' w 10 = nI (pu + putsL A) ∧ ∀ k, k ≠ 9 → k ≠ 10 → cI S' w k = cI S w k) ∧ cA S' (w + 4) = cA S (w + 4) ∧ (∃ l, OpL S' (g + 9) l) ∧ Sg z (Hp w g e) c0 S S' := by
  have hoe : ¬ (e ≤ o ∧ o < e + 45) := fun h => hno (Or.inr (Or.inl h))
  have hog : ¬ (g ≤ o ∧ o < g + 16) := fun h => hno (Or.inr (Or.inr h))
  have how : o ≠ w := fun h => hno (Or.inl h)
  obtain ⟨lb, hob⟩ := hob
  unfold f10_editPlainly
  rw [gr_k hS.1 hS.2.1.2.1, Option.bind_some, gr_k hL.1.1 hL.1.2.1.1, Option.bind_some, gr_k hL.1.1 hL.1.2.1.2.2.2.1, Option.bind_some, bn2_bind]
  obtain ⟨S6, e6, l6, t6, m6, s6⟩ := pushed_E (z := z) (X := X) (o := o) (v := e + 7) (s := eUnd E) (A := A) (w := w) (Or.inl ⟨rfl, rfl, rfl⟩) hc.2.2.2 hW hR hw.1 (by omega) hL hT hM hO (by omega) hB.2.2.2.2.2.2.2.2.2 hB.2.1 (by have := hB.2.2.2.1; omega)
  rw [e6, Option.bind_some, gr_k l6.1.1 l6.1.2.1.2.2.2.2.1, Option.bind_some, pi_k l6.1.2.2.1.2.2.2.2, Option.bind_some]
  obtain ⟨i7, s7⟩ := InvL_zero (z := z) s6.1 t6.2.2
  generalize hS8 : setI S6 (e + 25) 1 0 = S8 at i7 s7 ⊢
  have l8 : EdLn S8 e n (stkK E A 0) := EdLn_Sg s6.1 l6 s7 (show ¬ e = e + 25 by omega) (show ¬ e + 3 = e + 25 by omega) (show ¬ e + 5 = e + 25 by omega)
  have t8 : EdT S8 e (stkK E A 0) := ⟨TxL_Fo s6.1 t6.1 s7.2.1 (show ¬ e + 1 = e + 25 by omega), InvL_Sg s6.1 t6.2.1 s7 (fun x h1 h2 => by omega), i7⟩
  have m8 : EdM S8 e (stkK E A 0) := EdM_Sg s6.1 l6.1 m6 s7 (show ¬ e = e + 25 by omega)
  have s68 : Sg z (fun x => e + 7 ≤ x ∧ x < e + 43) 0 S S8 := Sg_trans (Sg_mono hW s6 (fun x hx => by omega) (Nat.le_refl 0)) (Sg_mono s6.1 s7 (fun x hx => by omega) (Nat.le_refl 0))
  have i8 : cI S8 w = cI S w := fld_Fo hW hS.1 (by omega) s68.2.1 (by omega)
  have o8 : cI S8 o = cI S o := fld_Fo hW (OpL_kd hO) (by omega) s68.2.1 (by omega)
  obtain ⟨S9, r1, r2, r3, r4, r5, ra, r6, r7⟩ := made_E (z := z) (X := X) (o := o) (c0 := c0) (c := c) (ed := ed) (pu := pu) (r := r) (E := stkK E A 0) hc hge hwe s68.1 (Rm_step (c := 0) (d := c0 + c) (by rw [Nat.zero_add]; exact hR) s68) (by unfold szO; rw [o8]; exact hc0) (Wv_Sg hW hw s68) (WdS_Sg hW hS s68) l8 t8 m8 (OpL_Fo hW hO s68.2.1 (by omega)) (fun h => by rcases h with h | h | h | h | h | h | h | h | h | h <;> omega) (by rw [i8]; exact h9) (by rw [i8]; exact h10) hB ⟨lb, OpL_Fo hW hob s68.2.1 (by omega)⟩
  rw [r1, Option.bind_some]
  refine ⟨S9, rfl, r2, r3, r4, ?_, by rw [ra, arr_Fo hW hS.2.1.2.2.2.2 hS.2.2.2.2.1.1 s68.2.1 (by omega)], r6, ?_⟩
  · rw [i8] at r5; exact r5
  · have q := Sg_trans (Sg_mono hW s68 (H' := Hp w g e) (fun x hx => Or.inr (Or.inl (by omega))) (Nat.le_refl 0)) r7
    rw [Nat.zero_add] at q
    exact q
theorem InvL_cut {z : Nat} {S : CS} {v k : Nat} {s : List (Nat × List Int32)} (hW : Wf S) (hI : InvL S v s) (hk : k ≤ s.length) : InvL (setI S v 1 (nI k)) v (s.take k) ∧ Sg z (fun x => x = v) 0 S (setI S v 1 (nI k)) := by
  obtain ⟨hs, h1, h2, h3, h4⟩ := hI
  refine ⟨⟨hs, h1, ?_, ?_, fun i x hx => ?_⟩, Sg_setI hW rfl⟩
  · rw [cI_self, List.length_take, Nat.min_eq_left hk]
  · rw [List.length_take]; omega
  · rw [List.getElem?_take] at hx
    split at hx
    · obtain ⟨h, q1, q2⟩ := h4 i x hx
      exact ⟨h, q1, OpL_Fo hW q2 (Sg_setI (z := z) (H := fun x => x = v) hW rfl).2.1 (fun e => by
        have := OpL_kd q2
        rw [e, h1.1.1] at this
        omega)⟩
    · cases hx
/-- undo (1): u = undos, v = dones; redo (2): the other way -/
theorem inverse_E {z : Nat} {X : Nat × Nat} {S : CS} {w r g e n c c0 ed pu u v k kind : Nat} {E E0 : Ed} {s : List (Nat × List Int32)} {x : Nat × List Int32} (hk : (kind = 1 ∧ u = e + 7 ∧ v = e + 25 ∧ s = eUnd E ∧ E0 = sUnd E (s.take k)) ∨ (kind = 2 ∧ u = e + 25 ∧ v = e + 7 ∧ s = eDon E ∧ E0 = sDon E (s.take k))) (hx : s[k]? = some x) (hc : ClsP z g e) (hge : g + 16 ≤ w) (hwe : w + 5 ≤ e) (hW : Wf S) (hR : Rm z X (c0 + c) S) (hc0 : 240 ≤ c0) (hw : Wv S g) (hS : WdS S w r g) (hL : EdLn S e n E) (hT : EdT S e E) (hM : EdM S e E) (h9 : cI S w 9 = nI ed) (h10 : cI S w 10 = nI pu) (hB : edB E x.2) (hob : ∃ l, OpL S (g + 9) l) :
    ∃ S', f10_editByInverse X S w e u v (nI k) = some S' ∧ EdLn S' e n (editE E0 x.2 kind) ∧ EdT S' e (editE E0 x.2 kind) ∧ EdM S' e (editE E0 x.2 kind) ∧ (cI S' w 9 = nI (ed + 1) ∧ cI S' w 10 = nI (pu + putsL x.2) ∧ ∀ k, k ≠ 9 → k ≠ 10 → cI S' w k = cI S w k) ∧ cA S' (w + 4) = cA S (w + 4) ∧ (∃ l, OpL S' (g + 9) l) ∧ Sg z (Hp w g e) c0 S S' := by
  have hI : InvL S u s := by
    rcases hk with ⟨_, h1, _, h2, _⟩ | ⟨_, h1, _, h2, _⟩
    · rw [h1, h2]; exact hT.2.1
    · rw [h1, h2]; exact hT.2.2
  have huv : (u = e + 7 ∧ v = e + 25) ∨ (u = e + 25 ∧ v = e + 7) := by rcases hk with h | h <;> omega
  have hkl : k < s.length := (List.getElem?_eq_some_iff.mp hx).1
  obtain ⟨hs, i1, i2, i3, i4⟩ := id hI
  obtain ⟨o, q1, q2⟩ := i4 k x hx
  obtain ⟨o', q3, q4, q5⟩ := InvS_ld i1 (show k < 8 by omega)
  have : o' = o := Option.some.inj (q3.symm.trans q1)
  subst this
  obtain ⟨lb, hob⟩ := hob
  unfold f10_editByInverse
  rw [if_neg (show ¬ nI k < 0 from nI_nlt (a := k) (b := 0) (by omega) (by omega)), gi_k i1.1.1, i2, Option.bind_some, if_pos (nI_lt hkl (by omega)), gr_k i1.1.1 i1.1.2.1, Option.bind_some, q4, Option.bind_some, pi_k i1.1.1, Option.bind_some]
  obtain ⟨j4, s4⟩ := InvL_cut (z := z) hW hI (Nat.le_of_lt hkl)
  generalize hS4 : setI S u 1 (nI k) = S4 at j4 s4 ⊢
  have hw4 := Wv_Sg hW hw s4
  have hW4 := WdS_Sg hW hS s4
  have l4 : EdLn S4 e n E0 := by
    have := EdLn_Sg hW hL s4 (by omega) (by omega) (by omega)
    rcases hk with ⟨_, _, _, _, h2⟩ | ⟨_, _, _, _, h2⟩
    · rw [h2]; exact this
    · rw [h2]; exact this
  have t4 : EdT S4 e E0 := by
    have t1 := TxL_Fo hW hT.1 s4.2.1 (show ¬ e + 1 = u by omega)
    rcases hk with ⟨_, h1, _, _, h2⟩ | ⟨_, h1, _, _, h2⟩
    · rw [h2]; rw [h1] at j4; exact ⟨t1, j4, InvL_Sg hW hT.2.2 s4 (fun x h1 h2 => by omega)⟩
    · rw [h2]; rw [h1] at j4; exact ⟨t1, InvL_Sg hW hT.2.1 s4 (fun x h1 h2 => by omega), j4⟩
  have m4 : EdM S4 e E0 := by
    have := EdM_Sg hW hL.1 hM s4 (show ¬ e = u by omega)
    rcases hk with ⟨_, _, _, _, h2⟩ | ⟨_, _, _, _, h2⟩
    · rw [h2]; exact this
    · rw [h2]; exact this
  have o4 := OpL_Fo hW q2 s4.2.1 (show ¬ o' = u by omega)
  have hB0 : edB E0 x.2 := by
    rcases hk with ⟨_, _, _, _, h2⟩ | ⟨_, _, _, _, h2⟩
    · rw [h2]; exact hB
    · rw [h2]; exact hB
  rw [gr_k hW4.1 hW4.2.1.2.1, Option.bind_some, gr_k l4.1.1 l4.1.2.1.1, Option.bind_some, bn2_bind]
  obtain ⟨S9, e9, l9, t9, m9, s9⟩ := pushed_E (z := z) (X := X) (o := o') (v := v) (s := if kind = 1 then eDon E0 else eUnd E0) (E' := stkK E0 x.2 kind) (A := x.2) (w := w) (by
    rcases hk with ⟨h0, h1, h3, h4, h2⟩ | ⟨h0, h1, h3, h4, h2⟩
    · refine Or.inr ⟨h3, by rw [if_pos h0], ?_⟩
      unfold stkK; rw [if_pos h0, if_pos h0]
    · refine Or.inl ⟨h3, by rw [if_neg (by omega)], ?_⟩
      unfold stkK; rw [if_neg (show ¬ kind = 1 by omega), if_neg (show ¬ kind = 0 by omega), if_neg (show ¬ kind = 1 by omega)]) hc.2.2.2 s4.1 (Rm_step (c := 0) (d := c0 + c) (by rw [Nat.zero_add]; exact hR) s4) hw4.1 (by omega) l4 t4 m4 o4 (by omega) hB0.2.2.2.2.2.2.2.2.2 hB0.2.1 (by have := hB0.2.2.2.1; omega)
  rw [e9, Option.bind_some]
  have s49 : Sg z (fun x => e + 7 ≤ x ∧ x < e + 43) 0 S S9 := Sg_trans (Sg_mono hW s4 (fun x hx => by omega) (Nat.le_refl 0)) (Sg_mono s4.1 s9 (fun x hx => by omega) (Nat.le_refl 0))
  have i9 : cI S9 w = cI S w := fld_Fo hW hS.1 (by omega) s49.2.1 (by omega)
  have hBs : edB (stkK E0 x.2 kind) x.2 := by
    have e1 : eTxt (stkK E0 x.2 kind) = eTxt E0 ∧ eMks (stkK E0 x.2 kind) = eMks E0 ∧ eCur (stkK E0 x.2 kind) = eCur E0 ∧ eBuf (stkK E0 x.2 kind) = eBuf E0 ∧ ePnd (stkK E0 x.2 kind) = ePnd E0 := by
      unfold stkK
      split
      · exact ⟨rfl, rfl, rfl, rfl, rfl⟩
      · split
        · exact ⟨rfl, rfl, rfl, rfl, rfl⟩
        · exact ⟨rfl, rfl, rfl, rfl, rfl⟩
    obtain ⟨x1, x2, x3, x4, x5⟩ := e1
    unfold edB
    rw [x1, x2, x3, x4, x5]
    exact hB0
  obtain ⟨S10, r1, r2, r3, r4, r5, ra, r6, r7⟩ := made_E (z := z) (X := X) (o := o') (c0 := c0) (c := c) (ed := ed) (pu := pu) (r := r) hc hge hwe s49.1 (Rm_step (c := 0) (d := c0 + c) (by rw [Nat.zero_add]; exact hR) s49) (fun _ => hc0) (Wv_Sg hW hw s49) (WdS_Sg hW hS s49) l9 t9 m9 (OpL_Fo s4.1 o4 s9.2.1 (by omega)) (fun h => by rcases h with h | h | h | h | h | h | h | h | h | h <;> omega) (by rw [i9]; exact h9) (by rw [i9]; exact h10) hBs ⟨lb, OpL_Fo hW hob s49.2.1 (by omega)⟩
  rw [r1, Option.bind_some]
  refine ⟨S10, rfl, r2, r3, r4, ?_, by rw [ra, arr_Fo hW hS.2.1.2.2.2.2 hS.2.2.2.2.1.1 s49.2.1 (by omega)], r6, ?_⟩
  · rw [i9] at r5; exact r5
  · have q := Sg_trans (Sg_mono hW s49 (H' := Hp w g e) (fun x hx => Or.inr (Or.inl (by omega))) (Nat.le_refl 0)) r7
    rw [Nat.zero_add] at q
    exact q
