/-! ===== PART II, the class: an editor's text is copied; an editor begins; marks ===== -/
abbrev Hx (e : Nat) : Nat → Prop := fun x => x = e ∨ x = e + 1 ∨ (e + 7 ≤ x ∧ x ≤ e + 42)
theorem copyText_E {z : Nat} {X : Nat × Nat} {S : CS} {e w d : Nat} {E : Ed} (hW : Wf S) (hR : Rm z X (szS (eUnd E) + szS (eDon E) + d) S) (hE : EdS S e) (hI1 : ∃ hs, InvS S (e + 7) hs) (hI2 : ∃ hs, InvS S (e + 25) hs) (hF : EdS S w) (hT : EdT S w E) (hM : EdM S w E) (h4 : (eMks E).length ≤ 4) (hew : e + 45 ≤ w ∨ w + 45 ≤ e) (hcp : ∀ h m, e + 7 ≤ h → h ≤ e + 42 → cpc z h m m) :
    ∃ S', f1_copyText X S e w = some S' ∧ EdT S' e E ∧ EdM S' e E ∧ (∀ k, k ≠ 7 → k ≠ 9 → cI S' e k = cI S e k) ∧ cA S' (e + 44) = cA S (e + 44) ∧ Sg z (Hx e) (szS (eUnd E) + szS (eDon E)) S S' := by
  unfold f1_copyText
  rw [gr_k hE.1 hE.2.1.1, Option.bind_some, gr_k hF.1 hF.2.1.1, Option.bind_some, cal_k hE.2.2.1.1]
  obtain ⟨S1, e1, t1, s1⟩ := copy_T (z := z) hW hE.2.2.1.1 hT.1 (show e + 1 ≠ w + 1 by omega)
  have hE1 := EdS_Sg hW hE s1
  have hF1 := EdS_Sg hW hF s1
  rw [e1, Option.bind_some, gr_k hE1.1 hE1.2.1.2.2.2.1, Option.bind_some, gr_k hF1.1 hF1.2.1.2.2.2.1, Option.bind_some, cal_k hE1.2.2.1.2.2.2.1]
  obtain ⟨hs1, i1⟩ := hI1
  obtain ⟨hs2, i2⟩ := hI2
  have i1a := InvS_Sg hW i1 s1 (show ¬ e + 7 + 1 = e + 1 by omega)
  have i2a := InvS_Sg hW i2 s1 (show ¬ e + 25 + 1 = e + 1 by omega)
  have u1 := InvL_Sg hW hT.2.1 s1 (fun x h1 h2 => by omega)
  have u2 := InvL_Sg hW hT.2.2 s1 (fun x h1 h2 => by omega)
  obtain ⟨S2, e2, t2, s2⟩ := icopy_I (z := z) (X := X) (c := szS (eDon E) + d) (v := e + 7) (w := w + 7) (by omega) (fun h m h1 h2 => hcp h m (by omega) (by omega)) s1.1 (Rm_step (c := 0) (by rw [Nat.zero_add, ← Nat.add_assoc]; exact hR) s1) ⟨hs1, i1a⟩ u1
  have hE2 := EdS_Sg s1.1 hE1 s2
  have hF2 := EdS_Sg s1.1 hF1 s2
  rw [e2, Option.bind_some, gr_k hE2.1 hE2.2.1.2.2.2.2.1, Option.bind_some, gr_k hF2.1 hF2.2.1.2.2.2.2.1, Option.bind_some, cal_k hE2.2.2.1.2.2.2.2]
  have i2b := InvS_Sg s1.1 i2a s2 (by omega)
  have u2b := InvL_Sg s1.1 u2 s2 (fun x h1 h2 => by omega)
  obtain ⟨S3, e3, t3, s3⟩ := icopy_I (z := z) (X := X) (c := d) (v := e + 25) (w := w + 25) (by omega) (fun h m h1 h2 => hcp h m (by omega) (by omega)) s2.1 (Rm_step (Rm_step (c := 0) (d := szS (eUnd E) + (szS (eDon E) + d)) (by rw [Nat.zero_add, ← Nat.add_assoc]; exact hR) s1) s2) ⟨hs2, i2b⟩ u2b
  have hE3 := EdS_Sg s2.1 hE2 s3
  have hF3 := EdS_Sg s2.1 hF2 s3
  rw [e3, Option.bind_some, gr_k hF3.1 hF3.2.1.2.2.2.2.2.1, Option.bind_some, gr_k hE3.1 hE3.2.1.2.2.2.2.2.1, Option.bind_some, Option.bind_some, aln_k hE3.2.2.2.1.1, hE3.2.2.2.1.2, Option.bind_some, show (0 : Int32) = nI 0 from rfl, cpy_g hF3.2.2.2.1.1 hE3.2.2.2.1.1 (by have := hF3.2.2.2.1.2; omega) (by have := hE3.2.2.2.1.2; omega) (by have := hF3.2.2.2.1.2; omega) (by have := hE3.2.2.2.1.2; omega), Option.bind_some]
  have nw1 : ¬ w = e + 1 := by omega
  have nw2 : ¬ (e + 7 ≤ w ∧ w ≤ e + 7 + 17) := by omega
  have nw3 : ¬ (e + 25 ≤ w ∧ w ≤ e + 25 + 17) := by omega
  have ne1 : ¬ e = e + 1 := by omega
  have ne2 : ¬ (e + 7 ≤ e ∧ e ≤ e + 7 + 17) := by omega
  have ne3 : ¬ (e + 25 ≤ e ∧ e ≤ e + 25 + 17) := by omega
  have fw : cI S3 w = cI S w := by rw [fld_Fo s2.1 hF2.1 (by omega) s3.2.1 nw3, fld_Fo s1.1 hF1.1 (by omega) s2.2.1 nw2, fld_Fo hW hF.1 (by omega) s1.2.1 nw1]
  have fe : cI S3 e = cI S e := by rw [fld_Fo s2.1 hE2.1 (by omega) s3.2.1 ne3, fld_Fo s1.1 hE1.1 (by omega) s2.2.1 ne2, fld_Fo hW hE.1 (by omega) s1.2.1 ne1]
  have aw : cA S3 (w + 43) = cA S (w + 43) := by rw [arr_Fo s2.1 hF2.2.1.2.2.2.2.2.1 hF2.2.2.2.1.1 s3.2.1 nw3, arr_Fo s1.1 hF1.2.1.2.2.2.2.2.1 hF1.2.2.2.1.1 s2.2.1 nw2, arr_Fo hW hF.2.1.2.2.2.2.2.1 hF.2.2.2.1.1 s1.2.1 nw1]
  have ae : cA S3 (e + 44) = cA S (e + 44) := by rw [arr_Fo s2.1 hE2.2.1.2.2.2.2.2.2 hE2.2.2.2.2.1 s3.2.1 ne3, arr_Fo s1.1 hE1.2.1.2.2.2.2.2.2 hE1.2.2.2.2.1 s2.2.1 ne2, arr_Fo hW hE.2.1.2.2.2.2.2.2 hE.2.2.2.2.1 s1.2.1 ne1]
  have s4 : Sg z (fun x => x = e) 0 S3 (setA S3 (e + 43) (va_cpy (cA S3 (w + 43)) (cA S3 (e + 43)) 0 0 12)) := Sg_setA s3.1 rfl hE3.2.1.2.2.2.2.2.1
  generalize hS4 : setA S3 (e + 43) (va_cpy (cA S3 (w + 43)) (cA S3 (e + 43)) 0 0 12) = S4 at s4 ⊢
  have k4 : ∀ x, kd S4 x = kd S3 x := fun x => by rw [← hS4]; rfl
  have i4 : cI S4 = cI S3 := by rw [← hS4]; rfl
  have a4 : cA S4 (e + 43) = va_cpy (cA S3 (w + 43)) (cA S3 (e + 43)) 0 0 12 := by rw [← hS4]; exact cA_self _ _ _
  have a4' : cA S4 (e + 44) = cA S3 (e + 44) := by rw [← hS4]; exact va_up_ne _ _ (by omega)
  rw [gi_k (by rw [k4]; exact hF3.1), i4, fw, hM.1, Option.bind_some, pi_k (by rw [k4]; exact hE3.1), Option.bind_some]
  rw [gi_k (S := setI S4 e 7 _) (by show kd S4 w = 1; rw [k4]; exact hF3.1), show cI (setI S4 e 7 (nI (eMks E).length)) w 9 = nI (eCur E) from by rw [cI_set, if_neg (by omega), i4, fw]; exact hM.2.1, Option.bind_some, pi_k (S := setI S4 e 7 _) (by show kd S4 e = 1; rw [k4]; exact hE3.1), Option.bind_some]
  have s5 := Sg_trans s4 (Sg_setI (k := 7) (v := nI (eMks E).length) s4.1 rfl)
  have s6 := Sg_trans s5 (Sg_setI (k := 9) (v := nI (eCur E)) s5.1 rfl)
  have q := Sg_trans (Sg_trans (Sg_trans (Sg_mono hW s1 (H' := Hx e) (fun x hx => Or.inr (Or.inl hx)) (Nat.le_refl _)) (Sg_mono s1.1 s2 (H' := Hx e) (fun x hx => by omega) (Nat.le_refl _))) (Sg_mono s2.1 s3 (H' := Hx e) (fun x hx => by omega) (Nat.le_refl _))) (Sg_mono s3.1 s6 (H' := Hx e) (fun x hx => Or.inl hx) (Nat.le_refl _))
  refine ⟨_, rfl, ⟨?_, ?_, ?_⟩, ⟨?_, cI_self _ _ _ _, ?_⟩, fun k h1 h2 => ?_, ?_, ?_⟩
  · exact TxL_Fo s3.1 (TxL_Fo s2.1 (TxL_Fo s1.1 t1 s2.2.1 (by omega)) s3.2.1 (by omega)) s6.2.1 (show ¬ e + 1 = e by omega)
  · exact InvL_Sg s3.1 (InvL_Sg s2.1 t2 s3 (fun x h1 h2 => by omega)) s6 (fun x h1 h2 => by omega)
  · exact InvL_Sg s3.1 t3 s6 (fun x h1 h2 => by omega)
  · rw [cI_set, if_neg (by omega), cI_self]
  · show mkAt (cA S4 (e + 43)) 0 (eMks E)
    rw [a4]
    refine mkAt_cg (eMks E) 0 (fun j j1 j2 => ?_) hM.2.2
    unfold va_cpy
    rw [if_pos (by omega), aw, Nat.zero_add, Nat.sub_zero]
  · rw [cI_set, if_neg (by omega), cI_set, if_neg (by omega), i4, fe]
  · show cA S4 (e + 44) = _
    rw [a4', ae]
  · rw [Nat.zero_add] at q; exact q
