/-! ===== PART II, the class: what comes changes an editor's text and all that is carried along ===== -/
abbrev Hc (g e : Nat) : Nat → Prop := fun x => x = e ∨ x = e + 1 ∨ x = g ∨ (e + 7 ≤ x ∧ x ≤ e + 42) ∨ x = g + 14 ∨ Hw g x
def comT (ah : Bool) (B : List Int32) (E : Ed) : Ed := sDon (sUnd (txtE E B false) (carS ah (eUnd E) B).1) (carS ah (eDon E) B).1
theorem text_com {z : Nat} {X : Nat × Nat} {S : CS} {g e c w r : Nat} {E : Ed} {B : List Int32} {ah : Bool} (hc1 : Cls z g (e + 7)) (hc2 : Cls z g (e + 25)) (hge : g + 16 ≤ e) (hW : Wf S) (hR : Rm z X c S) (hw : Wv S g) (hS : WdS S w r g) (hE : EdS S e) (hT : EdT S e E) (hM : EdM S e E) (hB : OpL S (g + 12) B) (hok : okO B) (hBl : B.length ≤ 240) (ho : oldL B = (eTxt E).length) (hn : newL B ≤ 240)
    (hu : chn (eUnd E) (eTxt E).length) (hd : chn (eDon E) (eTxt E).length) (hus : (eTxt E).length + putsS (eUnd E) + putsL B ≤ 240) (hds : (eTxt E).length + putsS (eDon E) + putsL B ≤ 240) (h4 : (eMks E).length ≤ 4) (hb : ∀ x ∈ eMks E, x.1 < 10000 ∧ x.2.1 < 10000 ∧ x.2.2 ≤ 3) (hcu : eCur E < 10000) (hob : ∃ l, OpL S (g + 9) l) :
    ∃ S', ((cal S 1 e (f1_carryPlaces S e (g + 12) 0)).bind fun S32 => (gr S32 10 w 1).bind fun a33 => (gr S32 1 e 0).bind fun a34 => (cal S32 9 a33 (f9_change S32 a33 a34 (g + 12) 0)).bind fun S35 => (gr S35 10 w 1).bind fun a36 => (gr S35 1 e 3).bind fun a37 => (cal S35 9 a36 (f9_turnAll X S35 a36 a37 (bI ah))).bind fun S38 => (gr S38 10 w 1).bind fun a39 => (gr S38 1 e 4).bind fun a40 => (cal S38 9 a39 (f9_turnAll X S38 a39 a40 (bI ah))).bind fun S41 => some S41) = some S' ∧ EdT S' e (comT ah B E) ∧ EdM S' e (comT ah B E) ∧ (∀ k, k ≠ 9 → cI S' e k = cI S e k) ∧ cA S' (e + 44) = cA S (e + 44) ∧ (∃ l, OpL S' (g + 9) l) ∧ Sg z (Hc g e) 0 S S' := by
  obtain ⟨lb, hob⟩ := hob
  obtain ⟨t1, t2, t3⟩ := hT
  rw [cal_k hE.1]
  obtain ⟨S1, e1, ⟨m1, m2, m3⟩, k1, a1, s1⟩ := carryPlaces_E (z := z) (own := false) hW hE hB (by omega) hM h4 hb hcu
  have e1' : f1_carryPlaces S e (g + 12) 0 = some S1 := e1
  have hE1 := EdS_Sg hW hE s1
  have hw1 := Wv_Sg hW hw s1
  have n1 : ∀ x, x ≠ e → ¬ x = e := fun x hx => hx
  have tx1 := TxL_Fo hW t1 s1.2.1 (n1 _ (by omega))
  have b1 := OpL_Fo hW hB s1.2.1 (n1 _ (by omega))
  have u1 := InvL_Sg hW t2 s1 (fun x h1 h2 => by omega)
  have d1 := InvL_Sg hW t3 s1 (fun x h1 h2 => by omega)
  have o1 := OpL_Fo hW hob s1.2.1 (n1 _ (by omega))
  have hS1 := WdS_Sg hW hS s1
  rw [e1', Option.bind_some, gr_k hS1.1 hS1.2.1.2.1, Option.bind_some, gr_k hE1.1 hE1.2.1.1, Option.bind_some, cal_k hw1.1]
  obtain ⟨S2, e2, tx2, s2⟩ := change_T (z := z) (w := 0) s1.1 hw1.1 tx1 b1 ho hn
  have hE2 := EdS_Sg s1.1 hE1 s2
  have hw2 := Wv_Sg s1.1 hw1 s2
  have n2 : ∀ x, x ≠ e + 1 → x ≠ g → ¬ (x = e + 1 ∨ x = g) := fun x h1 h2 h => h.elim h1 h2
  have b2 := OpL_Fo s1.1 b1 s2.2.1 (n2 _ (by omega) (by omega))
  have u2 := InvL_Sg s1.1 u1 s2 (fun x h1 h2 => n2 _ (by omega) (by omega))
  have d2 := InvL_Sg s1.1 d1 s2 (fun x h1 h2 => n2 _ (by omega) (by omega))
  have o2 := OpL_Fo s1.1 o1 s2.2.1 (n2 _ (by omega) (by omega))
  have hS2 := WdS_Sg s1.1 hS1 s2
  rw [e2, Option.bind_some, gr_k hS2.1 hS2.2.1.2.1, Option.bind_some, gr_k hE2.1 hE2.2.1.2.2.2.1, Option.bind_some, cal_k hw2.1]
  have hR2 := Rm_step (c := 0) (d := c) (by rw [Nat.zero_add]; exact Rm_step (c := 0) (d := c) (by rw [Nat.zero_add]; exact hR) s1) s2
  obtain ⟨S3, e3, i3, o3, s3⟩ := turnAll_I (z := z) (X := X) (ah := ah) hc1 s2.1 hR2 hw2 u2 b2 hu hok ho hus ⟨lb, o2⟩
  have hE3 := EdS_Sg s2.1 hE2 s3
  have hw3 := Wv_Sg s2.1 hw2 s3
  have n3 : ∀ x, ¬ (e + 7 + 2 ≤ x ∧ x ≤ e + 7 + 16) → x ≠ g + 14 → x ≠ g + 1 → x ≠ g + 4 → x ≠ g + 7 → x ≠ g + 9 → ¬ Ht g (e + 7) x := fun x h0 h1 h2 h3 h4 h5 h => by
    rcases h with h | h | h | h | h | h
    · exact h0 h
    · exact h1 h
    · exact h2 h
    · exact h3 h
    · exact h4 h
    · exact h5 h
  have b3 := OpL_Fo s2.1 b2 s3.2.1 (n3 _ (by omega) (by omega) (by omega) (by omega) (by omega) (by omega))
  have d3 := InvL_Sg s2.1 d2 s3 (fun x h1 h2 => n3 x (by omega) (by omega) (by omega) (by omega) (by omega) (by omega))
  have hS3 := WdS_Sg s2.1 hS2 s3
  rw [e3, Option.bind_some, gr_k hS3.1 hS3.2.1.2.1, Option.bind_some, gr_k hE3.1 hE3.2.1.2.2.2.2.1, Option.bind_some, cal_k hw3.1]
  have hR3 := Rm_step (c := 0) (d := c) (by rw [Nat.zero_add]; exact hR2) s3
  obtain ⟨S4, e4, i4, o4, s4⟩ := turnAll_I (z := z) (X := X) (ah := ah) hc2 s3.1 hR3 hw3 d3 b3 hd hok ho hds o3
  have n4 : ∀ x, ¬ (e + 25 + 2 ≤ x ∧ x ≤ e + 25 + 16) → x ≠ g + 14 → x ≠ g + 1 → x ≠ g + 4 → x ≠ g + 7 → x ≠ g + 9 → ¬ Ht g (e + 25) x := fun x h0 h1 h2 h3 h4 h5 h => by
    rcases h with h | h | h | h | h | h
    · exact h0 h
    · exact h1 h
    · exact h2 h
    · exact h3 h
    · exact h4 h
    · exact h5 h
  rw [e4, Option.bind_some]
  have ne2 := n2 e (by omega) (by omega)
  have ne3 := n3 e (by omega) (by omega) (by omega) (by omega) (by omega) (by omega)
  have ne4 := n4 e (by omega) (by omega) (by omega) (by omega) (by omega) (by omega)
  have fe : cI S4 e = cI S1 e := by rw [fld_Fo s3.1 hE3.1 (by omega) s4.2.1 ne4, fld_Fo s2.1 hE2.1 (by omega) s3.2.1 ne3, fld_Fo s1.1 hE1.1 (by omega) s2.2.1 ne2]
  have a43 : cA S4 (e + 43) = cA S1 (e + 43) := by rw [arr_Fo s3.1 hE3.2.1.2.2.2.2.2.1 hE3.2.2.2.1.1 s4.2.1 ne4, arr_Fo s2.1 hE2.2.1.2.2.2.2.2.1 hE2.2.2.2.1.1 s3.2.1 ne3, arr_Fo s1.1 hE1.2.1.2.2.2.2.2.1 hE1.2.2.2.1.1 s2.2.1 ne2]
  have a44 : cA S4 (e + 44) = cA S1 (e + 44) := by rw [arr_Fo s3.1 hE3.2.1.2.2.2.2.2.2 hE3.2.2.2.2.1 s4.2.1 ne4, arr_Fo s2.1 hE2.2.1.2.2.2.2.2.2 hE2.2.2.2.2.1 s3.2.1 ne3, arr_Fo s1.1 hE1.2.1.2.2.2.2.2.2 hE1.2.2.2.2.1 s2.2.1 ne2]
  have tx4 := TxL_Fo s3.1 (TxL_Fo s2.1 tx2 s3.2.1 (n3 _ (by omega) (by omega) (by omega) (by omega) (by omega) (by omega))) s4.2.1 (n4 _ (by omega) (by omega) (by omega) (by omega) (by omega) (by omega))
  rw [chgX_0] at tx4
  have q1 := Sg_mono hW s1 (H' := Hc g e) (fun x hx => Or.inl hx) (Nat.le_refl 0)
  have q2 := Sg_mono s1.1 s2 (H' := Hc g e) (fun x hx => Or.inr (hx.elim Or.inl (fun h => Or.inr (Or.inl h)))) (Nat.le_refl 0)
  have q3 := Sg_mono s2.1 s3 (H' := Hc g e) (fun x hx => Or.inr (Or.inr (Or.inr (hx.elim (fun h => Or.inl (by omega)) Or.inr)))) (Nat.le_refl 0)
  have q4 := Sg_mono s3.1 s4 (H' := Hc g e) (fun x hx => Or.inr (Or.inr (Or.inr (hx.elim (fun h => Or.inl (by omega)) Or.inr)))) (Nat.le_refl 0)
  refine ⟨S4, rfl, ⟨tx4, InvL_Sg s3.1 i3 s4 (fun x h1 h2 => n4 x (by omega) (by omega) (by omega) (by omega) (by omega) (by omega)), i4⟩, ⟨?_, ?_, ?_⟩, fun k hk => ?_, ?_, o4, Sg_trans (Sg_trans (Sg_trans q1 q2) q3) q4⟩
  · rw [fe, m1]
    show _ = nI ((eMks E).map (carM B)).length
    rw [List.length_map]
  · rw [fe, m2]; rfl
  · rw [a43]; exact m3
  · rw [fe]; exact k1 k hk
  · rw [a44, a1]
