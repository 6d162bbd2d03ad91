/-! ===== PART II, the class: an edit is made ===== -/
abbrev Hm (w g e : Nat) : Nat → Prop := fun x => x = w ∨ x = e ∨ x = e + 1 ∨ x = e + 3 ∨ x = e + 5 ∨ x = g ∨ Hw g x
theorem make_E {z : Nat} {X : Nat × Nat} {S : CS} {w r g e o n c ed pu : Nat} {E : Ed} {A : List Int32} (hg : ClsE z g e) (hc3 : ∀ m, cpc z (e + 3) m m) (hc5 : ∀ m, cpc z (e + 5) m m) (hge : g + 16 ≤ w) (hwe : w + 5 ≤ e) (hW : Wf S) (hR : Rm z X (240 + c) S) (hw : Wv S g) (hS : WdS S w r g) (hL : EdLn S e n E) (hT : EdT S e E) (hM : EdM S e E) (hO : OpL S o A) (hno : ¬ Hm w g e o) (h9 : cI S w 9 = nI ed) (h10 : cI S w 10 = nI pu)
    (hok : okO A) (ho : oldL A = (eTxt E).length) (hn : newL A ≤ 240) (hl : A.length ≤ 240) (h4 : (eMks E).length ≤ 4) (hb : ∀ x ∈ eMks E, x.1 < 10000 ∧ x.2.1 < 10000 ∧ x.2.2 ≤ 3) (hcu : eCur E < 10000) (hbf : ∀ b, eBuf E = some b → okO b ∧ newL b = oldL A ∧ (joinC b A).length ≤ 240) (hpb : ePnd E = none → eBuf E = none) (hob : ∃ l, OpL S (g + 9) l) :
    ∃ S', f10_makeEdit X S w e o = some S' ∧ EdLn S' e n (giveE (txtE E A true) A) ∧ EdT S' e (txtE E A true) ∧ EdM S' e (txtE E A true) ∧ (cI S' w 9 = nI (ed + 1) ∧ cI S' w 10 = nI (pu + putsL A) ∧ ∀ k, k ≠ 9 → k ≠ 10 → cI S' w k = cI S w k) ∧ (∃ l, OpL S' (g + 9) l) ∧ Sg z (Hm w g e) 240 S S' := by
  obtain ⟨lb, hob⟩ := hob
  obtain ⟨⟨hg7, hg9, hw12, _, _, _⟩, hw3, hw5⟩ := id hg
  have hko := OpL_kd hO
  have now : o ≠ w := fun h => hno (Or.inl h)
  unfold f10_makeEdit
  rw [gi_k hS.1, h9, Option.bind_some, nI_1, pi_k hS.1, Option.bind_some]
  have s2 : Sg z (fun x => x = w) 0 S (setI S w 9 (nI (ed + 1))) := Sg_setI hW rfl
  have hO2 := OpL_Fo hW hO s2.2.1 now
  rw [gi_k (S := setI S w 9 _) hS.1, show cI (setI S w 9 (nI (ed + 1))) w 10 = nI pu from by rw [cI_set, if_neg (by omega)]; exact h10, Option.bind_some, cal_k (S := setI S w 9 _) hko, countPut_N s2.1 hO2, Option.bind_some, nI_add, pi_k (S := setI S w 9 _) hS.1, Option.bind_some]
  have s5 := Sg_trans s2 (Sg_setI (k := 10) (v := nI (pu + putsL A)) s2.1 rfl)
  generalize hS5 : setI (setI S w 9 (nI (ed + 1))) w 10 (nI (pu + putsL A)) = S5 at s5 ⊢
  have w5 : cI S5 w 9 = nI (ed + 1) ∧ cI S5 w 10 = nI (pu + putsL A) ∧ ∀ k, k ≠ 9 → k ≠ 10 → cI S5 w k = cI S w k := by
    rw [← hS5]
    refine ⟨by rw [cI_set, if_neg (by omega), cI_self], cI_self _ _ _ _, fun k h1 h2 => by rw [cI_set, if_neg (by omega), cI_set, if_neg (by omega)]⟩
  have hL5 := EdLn_Sg hW hL s5 (by omega) (by omega) (by omega)
  have hT5 := EdT_Sg hW hT s5 (fun x hx => by omega)
  have hM5 := EdM_Sg hW hL.1 hM s5 (by omega)
  have hO5 := OpL_Fo hW hO s5.2.1 now
  have hw5v := Wv_Sg hW hw s5
  have ob5 := OpL_Fo hW hob s5.2.1 (show ¬ g + 9 = w by omega)
  have hS5' := WdS_Sg hW hS s5
  rw [cal_k hL5.1.1]
  obtain ⟨S6, e6, ⟨m1, m2, m3⟩, k6, a6, s6⟩ := carryPlaces_E (z := z) (own := true) s5.1 hL5.1 hO5 (by omega) hM5 h4 hb hcu
  have e6' : f1_carryPlaces S5 e o 1 = some S6 := e6
  have noe : ¬ o = e := fun h => hno (Or.inr (Or.inl h))
  have hE6 := EdS_Sg s5.1 hL5.1 s6
  have hS6 := WdS_Sg s5.1 hS5' s6
  have hw6 := Wv_Sg s5.1 hw5v s6
  have hO6 := OpL_Fo s5.1 hO5 s6.2.1 noe
  have tx6 := TxL_Fo s5.1 hT5.1 s6.2.1 (show ¬ e + 1 = e by omega)
  have p6 := OpS_Fo s5.1 hL5.2.2.2.1 s6.2.1 (show ¬ e + 3 = e by omega)
  have b6 := OpS_Fo s5.1 hL5.2.2.2.2 s6.2.1 (show ¬ e + 5 = e by omega)
  have u6 := InvL_Sg s5.1 hT5.2.1 s6 (fun x h1 h2 => by omega)
  have d6 := InvL_Sg s5.1 hT5.2.2 s6 (fun x h1 h2 => by omega)
  have ob6 := OpL_Fo s5.1 ob5 s6.2.1 (show ¬ g + 9 = e by omega)
  rw [e6', Option.bind_some, gr_k hS6.1 hS6.2.1.2.1, Option.bind_some, gr_k hE6.1 hE6.2.1.1, Option.bind_some, cal_k hw6.1]
  obtain ⟨S9, e9, tx9, s9⟩ := change_T (z := z) (w := 0) s6.1 hw6.1 tx6 hO6 ho hn
  rw [chgX_0] at tx9
  have n9 : ∀ x, x ≠ e + 1 → x ≠ g → ¬ (x = e + 1 ∨ x = g) := fun x h1 h2 h => h.elim h1 h2
  have hE9 := EdS_Sg s6.1 hE6 s9
  have hS9 := WdS_Sg s6.1 hS6 s9
  have hw9 := Wv_Sg s6.1 hw6 s9
  have hO9 := OpL_Fo s6.1 hO6 s9.2.1 (n9 o (fun h => hno (Or.inr (Or.inr (Or.inl h)))) (fun h => hno (Or.inr (Or.inr (Or.inr (Or.inr (Or.inr (Or.inl h))))))))
  have p9 := OpS_Fo s6.1 p6 s9.2.1 (n9 _ (by omega) (by omega))
  have b9 := OpS_Fo s6.1 b6 s9.2.1 (n9 _ (by omega) (by omega))
  have u9 := InvL_Sg s6.1 u6 s9 (fun x h1 h2 => n9 _ (by omega) (by omega))
  have d9 := InvL_Sg s6.1 d6 s9 (fun x h1 h2 => n9 _ (by omega) (by omega))
  have ob9 := OpL_Fo s6.1 ob6 s9.2.1 (n9 _ (by omega) (by omega))
  have i9 : cI S9 e = cI S6 e := fld_Fo s6.1 hE6.1 (by omega) s9.2.1 (n9 _ (by omega) (by omega))
  have a43 : cA S9 (e + 43) = cA S6 (e + 43) := arr_Fo s6.1 hE6.2.1.2.2.2.2.2.1 hE6.2.2.2.1.1 s9.2.1 (n9 _ (by omega) (by omega))
  have a44 : cA S9 (e + 44) = cA S6 (e + 44) := arr_Fo s6.1 hE6.2.1.2.2.2.2.2.2 hE6.2.2.2.2.1 s9.2.1 (n9 _ (by omega) (by omega))
  have iw9 : cI S9 w = cI S5 w := by rw [fld_Fo s6.1 hS6.1 (by omega) s9.2.1 (n9 _ (by omega) (by omega)), fld_Fo s5.1 hS5'.1 (by omega) s6.2.1 (show ¬ w = e by omega)]
  have c9 : ∀ k, k ≠ 9 → cI S9 e k = cI S5 e k := fun k hk => by rw [i9]; exact k6 k hk
  obtain ⟨n8, n10, n11, n12, n13, n14⟩ := hL5.2.1
  have ss9 : Sg z (Hm w g e) 0 S S9 := Sg_trans (Sg_trans (Sg_mono hW s5 (fun x hx => Or.inl hx) (Nat.le_refl 0)) (Sg_mono s5.1 s6 (fun x hx => Or.inr (Or.inl hx)) (Nat.le_refl 0))) (Sg_mono s6.1 s9 (fun x hx => hx.elim (fun h => Or.inr (Or.inr (Or.inl h))) (fun h => Or.inr (Or.inr (Or.inr (Or.inr (Or.inr (Or.inl h))))))) (Nat.le_refl 0))
  have hR9 : Rm z X (240 + c) S9 := Rm_step (c := 0) (d := 240 + c) (by rw [Nat.zero_add]; exact hR) ss9
  have hC9 : EdC S9 e n E := fun j hj => by rw [a44, a6]; exact hL5.2.2.1 j hj
  have hT9 : EdT S9 e (txtE E A true) := ⟨tx9, u9, d9⟩
  have hM9 : EdM S9 e (txtE E A true) := ⟨by rw [i9, m1]; show _ = nI ((eMks E).map (carM A)).length; rw [List.length_map], by rw [i9, m2]; rfl, by rw [a43]; exact m3⟩
  have hL9 : EdLn S9 e n (txtE E A true) := ⟨hE9, ⟨by rw [c9 8 (by omega)]; exact n8, by rw [c9 10 (by omega)]; exact n10, by rw [c9 11 (by omega)]; exact n11, by rw [c9 12 (by omega)]; exact n12, by rw [c9 13 (by omega)]; exact n13, by rw [c9 14 (by omega)]; exact n14⟩, hC9, p9, b9⟩
  rw [e9, Option.bind_some, gi_k hE9.1, hL9.2.1.2.2.2.1, Option.bind_some]
  sorry
