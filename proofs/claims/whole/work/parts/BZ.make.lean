/-! ===== PART II, the class: an edit is made ===== -/
abbrev Hm (w g e : Nat) : Nat → Prop := fun x => x = w ∨ x = e ∨ x = e + 1 ∨ x = e + 3 ∨ x = e + 5 ∨ x = g ∨ Hw g x
theorem Wf_len8 {S : CS} {x : Nat} (hW : Wf S) (hk : kd S x = 4) : 8 ≤ lenO S x := by
  obtain ⟨a, q1, q2, q3, q4, q5⟩ := hW.2.2.2.1 x hk
  rw [lenO_of q1]; exact q3
theorem make_E {z : Nat} {X : Nat × Nat} {S : CS} {w r g e o n c c0 ed pu : Nat} {E : Ed} {A : List Int32} (hg : ClsE z g e) (hc3 : ∀ m, cpc z (e + 3) m m) (hc5 : ∀ m, cpc z (e + 5) m m) (hge : g + 16 ≤ w) (hwe : w + 5 ≤ e) (hW : Wf S) (hR : Rm z X (c0 + c) S) (hc0 : 8 < szO S o → 240 ≤ c0) (hw : Wv S g) (hS : WdS S w r g) (hL : EdLn S e n E) (hT : EdT S e E) (hM : EdM S e E) (hO : OpL S o A) (hno : ¬ Hm w g e o) (h9 : cI S w 9 = nI ed) (h10 : cI S w 10 = nI pu)
    (hok : okO A) (ho : oldL A = (eTxt E).length) (hn : newL A ≤ 240) (hl : A.length ≤ 240) (h4 : (eMks E).length ≤ 4) (hb : ∀ x ∈ eMks E, x.1 < 10000 ∧ x.2.1 < 10000 ∧ x.2.2 ≤ 3) (hcu : eCur E < 10000) (hbf : ∀ b, eBuf E = some b → okO b ∧ newL b = oldL A ∧ (joinC b A).length ≤ 240) (hpb : ePnd E = none → eBuf E = none) (hob : ∃ l, OpL S (g + 9) l) :
    ∃ S', f10_makeEdit X S w e o = some S' ∧ EdLn S' e n (giveE (txtE E A true) A) ∧ EdT S' e (txtE E A true) ∧ EdM S' e (txtE E A true) ∧ (cI S' w 9 = nI (ed + 1) ∧ cI S' w 10 = nI (pu + putsL A) ∧ ∀ k, k ≠ 9 → k ≠ 10 → cI S' w k = cI S w k) ∧ cA S' (w + 4) = cA S (w + 4) ∧ (∃ l, OpL S' (g + 9) l) ∧ Sg z (Hm w g e) c0 S S' := by
  obtain ⟨lb, hob⟩ := hob
  obtain ⟨⟨hg7, hg9, hw12, _, _, _⟩, hw3, hw5⟩ := id hg
  have hko := OpL_kd hO
  have now : o ≠ w := fun h => hno (Or.inl h)
  unfold f10_makeEdit
  rw [gi_k hS.1, h9, Option.bind_some, nI_1, pi_k hS.1, Option.bind_some]
  have s2 : Sg z (fun x => x = w) 0 S (setI S w 9 (nI (ed + 1))) := Sg_setI hW rfl
  have hO2 := OpL_Fo hW hO s2.2.1 now
  rw [gi_k (S := setI S w 9 _) hS.1, show cI (setI S w 9 (nI (ed + 1))) w 10 = nI pu from by rw [cI_set, if_neg (by omega)]; exact h10, Option.bind_some, cal_k (S := setI S w 9 _) hko, countPut_N s2.1 hO2, Option.bind_some, nI_add, pi_k (S := setI S w 9 _) hS.1, Option.bind_some]
  have s5 := Sg_trans s2 (Sg_setI (k := 10) (v := nI (pu + putsL A)) s2.1 rfl)
  generalize hS5 : setI (setI S w 9 (nI (ed + 1))) w 10 (nI (pu + putsL A)) = S5 at s5 ⊢
  have w5 : cI S5 w 9 = nI (ed + 1) ∧ cI S5 w 10 = nI (pu + putsL A) ∧ ∀ k, k ≠ 9 → k ≠ 10 → cI S5 w k = cI S w k := by
    rw [← hS5]
    refine ⟨by rw [cI_set, if_neg (by omega), cI_self], cI_self _ _ _ _, fun k h1 h2 => by rw [cI_set, if_neg (by omega), cI_set, if_neg (by omega)]⟩
  have hL5 := EdLn_Sg hW hL s5 (by omega) (by omega) (by omega)
  have hT5 := EdT_Sg hW hT s5 (fun x hx => by omega)
  have hM5 := EdM_Sg hW hL.1 hM s5 (by omega)
  have hO5 := OpL_Fo hW hO s5.2.1 now
  have hw5v := Wv_Sg hW hw s5
  have ob5 := OpL_Fo hW hob s5.2.1 (show ¬ g + 9 = w by omega)
  have hS5' := WdS_Sg hW hS s5
  rw [cal_k hL5.1.1]
  obtain ⟨S6, e6, ⟨m1, m2, m3⟩, k6, a6, s6⟩ := carryPlaces_E (z := z) (own := true) s5.1 hL5.1 hO5 (by omega) hM5 h4 hb hcu
  have e6' : f1_carryPlaces S5 e o 1 = some S6 := e6
  have noe : ¬ o = e := fun h => hno (Or.inr (Or.inl h))
  have hE6 := EdS_Sg s5.1 hL5.1 s6
  have hS6 := WdS_Sg s5.1 hS5' s6
  have hw6 := Wv_Sg s5.1 hw5v s6
  have hO6 := OpL_Fo s5.1 hO5 s6.2.1 noe
  have tx6 := TxL_Fo s5.1 hT5.1 s6.2.1 (show ¬ e + 1 = e by omega)
  have p6 := OpS_Fo s5.1 hL5.2.2.2.1 s6.2.1 (show ¬ e + 3 = e by omega)
  have b6 := OpS_Fo s5.1 hL5.2.2.2.2 s6.2.1 (show ¬ e + 5 = e by omega)
  have u6 := InvL_Sg s5.1 hT5.2.1 s6 (fun x h1 h2 => by omega)
  have d6 := InvL_Sg s5.1 hT5.2.2 s6 (fun x h1 h2 => by omega)
  have ob6 := OpL_Fo s5.1 ob5 s6.2.1 (show ¬ g + 9 = e by omega)
  rw [e6', Option.bind_some, gr_k hS6.1 hS6.2.1.2.1, Option.bind_some, gr_k hE6.1 hE6.2.1.1, Option.bind_some, cal_k hw6.1]
  obtain ⟨S9, e9, tx9, s9⟩ := change_T (z := z) (w := 0) s6.1 hw6.1 tx6 hO6 ho hn
  rw [chgX_0] at tx9
  have n9 : ∀ x, x ≠ e + 1 → x ≠ g → ¬ (x = e + 1 ∨ x = g) := fun x h1 h2 h => h.elim h1 h2
  have hE9 := EdS_Sg s6.1 hE6 s9
  have hS9 := WdS_Sg s6.1 hS6 s9
  have hw9 := Wv_Sg s6.1 hw6 s9
  have hO9 := OpL_Fo s6.1 hO6 s9.2.1 (n9 o (fun h => hno (Or.inr (Or.inr (Or.inl h)))) (fun h => hno (Or.inr (Or.inr (Or.inr (Or.inr (Or.inr (Or.inl h))))))))
  have p9 := OpS_Fo s6.1 p6 s9.2.1 (n9 _ (by omega) (by omega))
  have b9 := OpS_Fo s6.1 b6 s9.2.1 (n9 _ (by omega) (by omega))
  have u9 := InvL_Sg s6.1 u6 s9 (fun x h1 h2 => n9 _ (by omega) (by omega))
  have d9 := InvL_Sg s6.1 d6 s9 (fun x h1 h2 => n9 _ (by omega) (by omega))
  have ob9 := OpL_Fo s6.1 ob6 s9.2.1 (n9 _ (by omega) (by omega))
  have i9 : cI S9 e = cI S6 e := fld_Fo s6.1 hE6.1 (by omega) s9.2.1 (n9 _ (by omega) (by omega))
  have a43 : cA S9 (e + 43) = cA S6 (e + 43) := arr_Fo s6.1 hE6.2.1.2.2.2.2.2.1 hE6.2.2.2.1.1 s9.2.1 (n9 _ (by omega) (by omega))
  have a44 : cA S9 (e + 44) = cA S6 (e + 44) := arr_Fo s6.1 hE6.2.1.2.2.2.2.2.2 hE6.2.2.2.2.1 s9.2.1 (n9 _ (by omega) (by omega))
  have aw5 : cA S5 (w + 4) = cA S (w + 4) := by rw [← hS5]; rfl
  have aw9 : cA S9 (w + 4) = cA S (w + 4) := by rw [arr_Fo s6.1 hS6.2.1.2.2.2.2 hS6.2.2.2.2.1.1 s9.2.1 (n9 _ (by omega) (by omega)), arr_Fo s5.1 hS5'.2.1.2.2.2.2 hS5'.2.2.2.2.1.1 s6.2.1 (show ¬ w = e by omega), aw5]
  have iw9 : cI S9 w = cI S5 w := by rw [fld_Fo s6.1 hS6.1 (by omega) s9.2.1 (n9 _ (by omega) (by omega)), fld_Fo s5.1 hS5'.1 (by omega) s6.2.1 (show ¬ w = e by omega)]
  have c9 : ∀ k, k ≠ 9 → cI S9 e k = cI S5 e k := fun k hk => by rw [i9]; exact k6 k hk
  obtain ⟨n8, n10, n11, n12, n13, n14⟩ := hL5.2.1
  have ss9 : Sg z (Hm w g e) 0 S S9 := Sg_trans (Sg_trans (Sg_mono hW s5 (fun x hx => Or.inl hx) (Nat.le_refl 0)) (Sg_mono s5.1 s6 (fun x hx => Or.inr (Or.inl hx)) (Nat.le_refl 0))) (Sg_mono s6.1 s9 (fun x hx => hx.elim (fun h => Or.inr (Or.inr (Or.inl h))) (fun h => Or.inr (Or.inr (Or.inr (Or.inr (Or.inr (Or.inl h))))))) (Nat.le_refl 0))
  have sz9 : szO S9 o = szO S o := by unfold szO; rw [fld_Fo hW hko (by omega) ss9.2.1 hno]
  have hR9 : Rm z X (c0 + c) S9 := Rm_step (c := 0) (d := c0 + c) (by rw [Nat.zero_add]; exact hR) ss9
  have hC9 : EdC S9 e n E := fun j hj => by rw [a44, a6]; exact hL5.2.2.1 j hj
  have hT9 : EdT S9 e (txtE E A true) := ⟨tx9, u9, d9⟩
  have hM9 : EdM S9 e (txtE E A true) := ⟨by rw [i9, m1]; show _ = nI ((eMks E).map (carM A)).length; rw [List.length_map], by rw [i9, m2]; rfl, by rw [a43]; exact m3⟩
  have hL9 : EdLn S9 e n (txtE E A true) := ⟨hE9, ⟨by rw [c9 8 (by omega)]; exact n8, by rw [c9 10 (by omega)]; exact n10, by rw [c9 11 (by omega)]; exact n11, by rw [c9 12 (by omega)]; exact n12, by rw [c9 13 (by omega)]; exact n13, by rw [c9 14 (by omega)]; exact n14⟩, hC9, p9, b9⟩
  rw [e9, Option.bind_some, gi_k hE9.1, hL9.2.1.2.2.2.1, Option.bind_some]
  have hg' : ∀ p, eBuf (txtE E A true) = p → eBuf E = p := fun p h => h
  cases hp : ePnd E with
  | none =>
    have hp' : ePnd (txtE E A true) = none := hp
    rw [hp', if_pos (show bI (none : Option (List Int32)).isSome = 0 from rfl), gr_k hE9.1 hE9.2.1.2.1, Option.bind_some, cal_k hE9.2.2.1.2.1]
    obtain ⟨S21, e21, o21, s21, _, _⟩ := copy_O (z := z) (X := X) ss9.1 hR9 hE9.2.2.1.2.1 hO9 (fun h => hno (Or.inr (Or.inr (Or.inr (Or.inl h.symm))))) hc3
    have s21' : Sg z (fun x => x = e + 3) c0 S9 S21 := Sg_mono ss9.1 s21 (fun _ hx => hx) (by have := szO_L hO9; have := Wf_len8 ss9.1 hE9.2.2.1.2.1; split <;> omega)
    have hE21 := EdS_Sg ss9.1 hE9 s21
    have i21 : cI S21 e = cI S9 e := fld_Fo ss9.1 hE9.1 (by omega) s21.2.1 (show ¬ e = e + 3 by omega)
    have c21 : cA S21 (e + 44) = cA S9 (e + 44) := arr_Fo ss9.1 hE9.2.1.2.2.2.2.2.2 hE9.2.2.2.2.1 s21.2.1 (show ¬ e = e + 3 by omega)
    rw [e21, Option.bind_some, cal_k hE21.1]
    obtain ⟨S22, r1, r2, r3, r4, r5⟩ := send_E (z := z) (n := n) (E := txtE E A true) (p := A) s21.1 hE21 ⟨by rw [i21]; exact hL9.2.1.1, by rw [i21]; exact hL9.2.1.2.1, by rw [i21]; exact hL9.2.1.2.2.2.2.1, by rw [i21]; exact hL9.2.1.2.2.2.2.2⟩ (fun j hj => by rw [c21]; exact hL9.2.2.1 j hj) o21 hl (OpS_Fo ss9.1 hL9.2.2.2.2 s21.2.1 (show ¬ e + 5 = e + 3 by omega))
    rw [r1, Option.bind_some, Option.bind_some]
    have hM21 := EdM_Sg ss9.1 hE9 hM9 s21 (show ¬ e = e + 3 by omega)
    have hS21 := WdS_Sg ss9.1 hS9 s21
    have aw22 : cA S22 (w + 4) = cA S (w + 4) := by rw [arr_Fo s21.1 hS21.2.1.2.2.2.2 hS21.2.2.2.2.1.1 r5.2.1 (show ¬ w = e by omega), arr_Fo ss9.1 hS9.2.1.2.2.2.2 hS9.2.2.2.2.1.1 s21.2.1 (show ¬ w = e + 3 by omega), aw9]
    refine ⟨S22, rfl, ?_, EdT_Sg s21.1 (EdT_Sg ss9.1 hT9 s21 (fun x hx => by omega)) r5 (fun x hx => by omega), ⟨by rw [r3 7 (by omega) (by omega)]; exact hM21.1, by rw [r3 9 (by omega) (by omega)]; exact hM21.2.1, by rw [r4]; exact hM21.2.2⟩, ?_, aw22, ⟨lb, OpL_Fo s21.1 (OpL_Fo ss9.1 ob9 s21.2.1 (show ¬ g + 9 = e + 3 by omega)) r5.2.1 (show ¬ g + 9 = e by omega)⟩, ?_⟩
    · unfold giveE; rw [hp']; exact r2
    · have : cI S22 w = cI S5 w := by rw [fld_Fo s21.1 (WdS_Sg ss9.1 hS9 s21).1 (by omega) r5.2.1 (show ¬ w = e by omega), fld_Fo ss9.1 hS9.1 (by omega) s21.2.1 (show ¬ w = e + 3 by omega), iw9]
      rw [this]; exact w5
    · have q1 := Sg_mono ss9.1 s21' (H' := Hm w g e) (fun x hx => Or.inr (Or.inr (Or.inr (Or.inl hx)))) (Nat.le_refl _)
      have q2 := Sg_mono s21.1 r5 (H' := Hm w g e) (fun x hx => Or.inr (Or.inl hx)) (Nat.le_refl _)
      have q3 := Sg_trans (Sg_trans ss9 q1) q2
      rw [Nat.zero_add] at q3
      exact q3
  | some p0 =>
    have hp' : ePnd (txtE E A true) = some p0 := hp
    rw [hp', if_neg (show ¬ bI (some p0).isSome = 0 by rw [show bI (some p0).isSome = 1 from rfl]; decide), gi_k hE9.1, hL9.2.1.2.2.2.2.1, Option.bind_some]
    cases hbb : eBuf E with
    | none =>
      have hb' : eBuf (txtE E A true) = none := hbb
      rw [hb', if_pos (show bI (none : Option (List Int32)).isSome = 0 from rfl), gr_k hE9.1 hE9.2.1.2.2.1, Option.bind_some, cal_k hE9.2.2.1.2.2.1]
      obtain ⟨S15, e15, o15, s15, _, _⟩ := copy_O (z := z) (X := X) ss9.1 hR9 hE9.2.2.1.2.2.1 hO9 (fun h => hno (Or.inr (Or.inr (Or.inr (Or.inr (Or.inl h.symm)))))) hc5
      have s15' : Sg z (fun x => x = e + 5) c0 S9 S15 := Sg_mono ss9.1 s15 (fun _ hx => hx) (by have := szO_L hO9; have := Wf_len8 ss9.1 hE9.2.2.1.2.2.1; split <;> omega)
      have hE15 := EdS_Sg ss9.1 hE9 s15
      have i15 : cI S15 e = cI S9 e := fld_Fo ss9.1 hE9.1 (by omega) s15.2.1 (show ¬ e = e + 5 by omega)
      have c15 : cA S15 (e + 44) = cA S9 (e + 44) := arr_Fo ss9.1 hE9.2.1.2.2.2.2.2.2 hE9.2.2.2.2.1 s15.2.1 (show ¬ e = e + 5 by omega)
      have hM15 := EdM_Sg ss9.1 hE9 hM9 s15 (show ¬ e = e + 5 by omega)
      rw [e15, Option.bind_some, pi_k hE15.1, Option.bind_some, Option.bind_some]
      have s16 : Sg z (fun x => x = e) 0 S15 (setI S15 e 13 1) := Sg_setI s15.1 rfl
      have iw : cI (setI S15 e 13 1) w = cI S5 w := by rw [fld_Fo s15.1 (WdS_Sg ss9.1 hS9 s15).1 (by omega) s16.2.1 (show ¬ w = e by omega), fld_Fo ss9.1 hS9.1 (by omega) s15.2.1 (show ¬ w = e + 5 by omega), iw9]
      have aw16 : cA (setI S15 e 13 1) (w + 4) = cA S (w + 4) := by
        show cA S15 (w + 4) = _
        rw [arr_Fo ss9.1 hS9.2.1.2.2.2.2 hS9.2.2.2.2.1.1 s15.2.1 (show ¬ w = e + 5 by omega), aw9]
      have hgv : giveE (txtE E A true) A = sBuf (txtE E A true) (some A) := by unfold giveE; rw [hp', hb']
      rw [hgv]
      refine ⟨_, rfl, ⟨EdS_Sg s15.1 hE15 s16, ⟨?_, ?_, ?_, ?_, ?_, ?_⟩, fun j hj => ?_, OpS_Fo s15.1 (OpS_Fo ss9.1 hL9.2.2.2.1 s15.2.1 (show ¬ e + 3 = e + 5 by omega)) s16.2.1 (show ¬ e + 3 = e by omega), OpS_some (OpL_Fo s15.1 o15 s16.2.1 (show ¬ e + 5 = e by omega)) hl⟩, EdT_Sg s15.1 (EdT_Sg ss9.1 hT9 s15 (fun x hx => by omega)) s16 (fun x hx => by omega), ⟨?_, ?_, hM15.2.2⟩, ?_, aw16, ⟨lb, OpL_Fo s15.1 (OpL_Fo ss9.1 ob9 s15.2.1 (show ¬ g + 9 = e + 5 by omega)) s16.2.1 (show ¬ g + 9 = e by omega)⟩, ?_⟩
      · rw [cI_set, if_neg (by omega), i15]; exact hL9.2.1.1
      · rw [cI_set, if_neg (by omega), i15]; exact hL9.2.1.2.1
      · rw [cI_set, if_neg (by omega), i15]; exact hL9.2.1.2.2.1
      · rw [cI_set, if_neg (by omega), i15]; exact hL9.2.1.2.2.2.1
      · rw [cI_self]; rfl
      · rw [cI_set, if_neg (by omega), i15]; exact hL9.2.1.2.2.2.2.2
      · show cA S15 (e + 44) j = _; rw [c15]; exact hL9.2.2.1 j hj
      · rw [cI_set, if_neg (by omega)]; exact hM15.1
      · rw [cI_set, if_neg (by omega)]; exact hM15.2.1
      · rw [iw]; exact w5
      · have q1 := Sg_mono ss9.1 s15' (H' := Hm w g e) (fun x hx => Or.inr (Or.inr (Or.inr (Or.inr (Or.inl hx))))) (Nat.le_refl _)
        have q2 := Sg_mono s15.1 s16 (H' := Hm w g e) (fun x hx => Or.inr (Or.inl hx)) (Nat.le_refl _)
        have q3 := Sg_trans (Sg_trans ss9 q1) q2
        rw [Nat.zero_add] at q3
        exact q3
    | some b =>
      have hb' : eBuf (txtE E A true) = some b := hbb
      obtain ⟨f1, f2, f3⟩ := hbf b hbb
      have ob := hL9.2.2.2.2
      rw [hb'] at ob
      obtain ⟨ob1, ob2⟩ := OpS_get ob
      rw [hb', if_neg (show ¬ bI (some b).isSome = 0 by rw [show bI (some b).isSome = 1 from rfl]; decide), gr_k hS9.1 hS9.2.1.2.1, Option.bind_some, gr_k hE9.1 hE9.2.1.2.2.1, Option.bind_some, cal_k hw9.1]
      have hoH : ∀ x, Hw g x → ¬ o = x := fun x hx h => hno (by rw [h]; exact Or.inr (Or.inr (Or.inr (Or.inr (Or.inr (Or.inr hx))))))
      obtain ⟨S19, e19, o19, s19, o19b⟩ := compose_L (z := z) (X := X) ss9.1 hR9 hw9 hg7 hw5 ob1 hO9 ⟨lb, ob9⟩ (fun h => hno (Or.inr (Or.inr (Or.inr (Or.inr (Or.inl h.symm)))))) ⟨by omega, by omega, hoH _ (Or.inr (Or.inr (Or.inl rfl))), hoH _ (Or.inr (Or.inr (Or.inr rfl)))⟩ f2 (by omega) (by omega)
      rw [e19, Option.bind_some, Option.bind_some]
      have nH : ∀ x, w ≤ x → x ≠ e + 5 → ¬ (x = e + 5 ∨ Hw g x) := fun x h1 h2 h => by
        rcases h with h | h | h | h | h <;> omega
      have hgv : giveE (txtE E A true) A = sBuf (txtE E A true) (some (joinC b A)) := by unfold giveE; rw [hp', hb']
      rw [hgv]
      have hN9 : EdN S9 e (sBuf (txtE E A true) (some (joinC b A))) := by
        obtain ⟨q1, q2, q3, q4, q5, q6⟩ := hL9.2.1
        exact ⟨q1, q2, q3, q4, by rw [q5, hb']; rfl, q6⟩
      have iw : cI S19 w = cI S5 w := by rw [fld_Fo ss9.1 hS9.1 (by omega) s19.2.1 (nH w (by omega) (by omega)), iw9]
      refine ⟨S19, rfl, EdLn_op ss9.1 hL9 s19 (nH e (by omega) (by omega)) hN9 hL9.2.2.1 (OpS_Fo ss9.1 hL9.2.2.2.1 s19.2.1 (nH _ (by omega) (by omega))) (OpS_some o19 f3), EdT_Sg ss9.1 hT9 s19 (fun x hx => nH x (by omega) (by omega)), EdM_Sg ss9.1 hE9 hM9 s19 (nH e (by omega) (by omega)), ?_, (by rw [arr_Fo ss9.1 hS9.2.1.2.2.2.2 hS9.2.2.2.2.1.1 s19.2.1 (nH w (by omega) (by omega)), aw9]), o19b, ?_⟩
      · rw [iw]; exact w5
      · have q1 := Sg_mono ss9.1 s19 (H' := Hm w g e) (d := c0) (fun x hx => hx.elim (fun h => Or.inr (Or.inr (Or.inr (Or.inr (Or.inl h))))) (fun h => Or.inr (Or.inr (Or.inr (Or.inr (Or.inr (Or.inr h))))))) (Nat.zero_le _)
        have q3 := Sg_trans ss9 q1
        rw [Nat.zero_add] at q3
        exact q3
