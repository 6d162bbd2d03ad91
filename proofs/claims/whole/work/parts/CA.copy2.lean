/-! ===== PART II, the class: a world is copied, all of it ===== -/
abbrev Hv (d : Nat) : Nat → Prop := fun x => x = d ∨ x = d + 1 ∨ (d + 5 ≤ x ∧ x < d + 185)
/-- weights where a world is copied to -/
def ClsC (z d : Nat) (wh : Bool) : Prop := ∀ i, i < 4 → (∀ m, cpc z (d + 5 + 45 * i + 3) m m) ∧ (∀ m, cpc z (d + 5 + 45 * i + 5) m m) ∧ (wh = true → ∀ h m, d + 5 + 45 * i + 7 ≤ h → h ≤ d + 5 + 45 * i + 42 → cpc z h m m)
/-- the rows for what is pending and buffered are long enough -/
def lnE (S S' : CS) (w d i : Nat) : Prop := szO S (w + 5 + 45 * i + 3) ≤ lenO S' (d + 5 + 45 * i + 3) ∧ szO S (w + 5 + 45 * i + 5) ≤ lenO S' (d + 5 + 45 * i + 5)
def lnM (S S' : CS) (d i : Nat) : Prop := lenO S (d + 5 + 45 * i + 3) ≤ lenO S' (d + 5 + 45 * i + 3) ∧ lenO S (d + 5 + 45 * i + 5) ≤ lenO S' (d + 5 + 45 * i + 5)
theorem WdS_ops {S : CS} {w r g i : Nat} (h : WdS S w r g) (hi : i < 4) : kd S (w + 5 + 45 * i + 3) = 4 ∧ kd S (w + 5 + 45 * i + 5) = 4 := ⟨(h.2.2.2.2.2 i hi).2.2.2.1.2.1, (h.2.2.2.2.2 i hi).2.2.2.1.2.2.1⟩
theorem cpE_Fo {z c : Nat} {H : Nat → Prop} {S S' : CS} {w d r g i : Nat} {E : Ed} {wh : Bool} (hW : Wf S) (h1 : WdS S w r g) (h2 : WdS S d r g) (hi : i < 4) (hs : Sg z H c S S') (n1 : ¬ H (w + 5 + 45 * i + 3)) (n2 : ¬ H (w + 5 + 45 * i + 5)) (n3 : ¬ H (d + 5 + 45 * i + 3)) (n4 : ¬ H (d + 5 + 45 * i + 5)) : cpE S' (w + 5 + 45 * i) (d + 5 + 45 * i) E wh = cpE S (w + 5 + 45 * i) (d + 5 + 45 * i) E wh := by
  obtain ⟨a1, a2⟩ := WdS_ops h1 hi
  obtain ⟨b1, b2⟩ := WdS_ops h2 hi
  unfold cpE cpyC
  rw [szO_Fo hW a1 hs.2.1 n1, szO_Fo hW a2 hs.2.1 n2, lenO_Fo hW b1 hs.2.1 n3, lenO_Fo hW b2 hs.2.1 n4]
theorem copy_loopW {z : Nat} {X : Nat × Nat} {w d r g cnt ties c : Nat} {told : List Int32} {W : Wd} {wh whs : Bool} {f : Nat → Nat} (hcl : ClsC z d wh) (hww : wh = true → whs = true) (hdis : d + 185 ≤ w ∨ w + 185 ≤ d) (hcnt : cnt ≤ 4) (hl : (wRow W).length ≤ 100) (h4 : ∀ i, i < cnt → (eMks (wE W i)).length ≤ 4) :
    ∀ (m j n : Nat) (S : CS), j + m = cnt → m < n → Wf S → Rm z X (sumF f j m + c) S → WdC S w r g cnt ties told W whs → WdS S d r g → cI S d 6 = nI cnt → (∀ i, i < 4 → EdJ S (d + 5 + 45 * i) wh) → (∀ i, i < j → EdW S (d + 5 + 45 * i) (wRow W).length (wE W i) wh ∧ cA S (d + 4) i = nI (forC told.length (wRow W) i) ∧ lnE S S w d i) → (∀ i, j ≤ i → i < cnt → cpE S (w + 5 + 45 * i) (d + 5 + 45 * i) (wE W i) wh = f i) →
    ∃ S', LX10_copy_66 X d w (bI wh) n (nI j) S = some S' ∧ cI S' d = cI S d ∧ (∀ i, i < 4 → EdJ S' (d + 5 + 45 * i) wh) ∧ (∀ i, i < cnt → EdW S' (d + 5 + 45 * i) (wRow W).length (wE W i) wh ∧ cA S' (d + 4) i = nI (forC told.length (wRow W) i) ∧ lnE S S' w d i) ∧ (∀ i, i < 4 → lnM S S' d i) ∧ Sg z (fun x => x = d ∨ (d + 5 ≤ x ∧ x < d + 185)) (sumF f j m) S S' := by
  intro m
  induction m with
  | zero =>
    intro j n S hj hn hW hR hC hD h6 hJ hdn hf
    obtain ⟨n, rfl⟩ : ∃ k, n = k + 1 := ⟨n - 1, by omega⟩
    unfold LX10_copy_66
    rw [gi_k hD.1, h6, Option.bind_some, if_pos (nI_le (by omega) (by omega))]
    exact ⟨S, rfl, rfl, hJ, fun i hi => hdn i (by omega), fun i _ => ⟨Nat.le_refl _, Nat.le_refl _⟩, Sg_refl hW⟩
  | succ m ih =>
    intro j n S hj hn hW hR hC hD h6 hJ hdn hf
    obtain ⟨n, rfl⟩ : ∃ k, n = k + 1 := ⟨n - 1, by omega⟩
    obtain ⟨hS, hN, h5, hT, hF, hE⟩ := id hC
    have hjc : j < cnt := by omega
    have hj4 : j < 4 := by omega
    have hfj := hf j (Nat.le_refl _) hjc
    rw [sumF] at hR
    unfold LX10_copy_66
    rw [gi_k hD.1, h6, Option.bind_some, if_neg (nI_ge hjc (by omega)), gr_k hD.1 hD.2.1.2.2.2.2, Option.bind_some, gr_k hS.1 hS.2.1.2.2.2.2, Option.bind_some, ldi_k hS.2.2.2.2.1.1 (by have := hS.2.2.2.2.1.2; omega) (by have := hS.2.2.2.2.1.2; omega), hF j hjc, Option.bind_some, sti_k hD.2.2.2.2.1.1 (by have := hD.2.2.2.2.1.2; omega) (by have := hD.2.2.2.2.1.2; omega), Option.bind_some]
    have s5 : Sg z (fun x => x = d) 0 S (setA S (d + 4) (upd (cA S (d + 4)) j (nI (forC told.length (wRow W) j)))) := Sg_setA hW rfl hD.2.1.2.2.2.2
    generalize hS5 : setA S (d + 4) (upd (cA S (d + 4)) j (nI (forC told.length (wRow W) j))) = S5 at s5 ⊢
    have a5 : cA S5 (d + 4) = upd (cA S (d + 4)) j (nI (forC told.length (wRow W) j)) := by rw [← hS5]; exact cA_self _ _ _
    have i5 : cI S5 = cI S := by rw [← hS5]; rfl
    have hD5 := WdS_Sg hW hD s5
    have hC5 := WdC_Sg hW hC s5 (fun x x1 x2 => by omega)
    have hS5' := hC5.1
    have hEj := (hC5.2.2.2.2.2 j hj4).2 hjc
    have hcp5 : ∀ i, i < 4 → cpE S5 (w + 5 + 45 * i) (d + 5 + 45 * i) (wE W i) wh = cpE S (w + 5 + 45 * i) (d + 5 + 45 * i) (wE W i) wh := fun i hi => cpE_Fo hW hS hD hi s5 (by omega) (by omega) (by omega) (by omega)
    rw [gr_k hD5.1 hD5.2.1.2.2.2.1, Option.bind_some, ed_at hD5 hj4, Option.bind_some, gr_k hS5'.1 hS5'.2.1.2.2.2.1, Option.bind_some, ed_at hS5' hj4, Option.bind_some]
    have hR5 : Rm z X (f j + (sumF f (j + 1) m + c)) S5 := by
      have := Rm_step (c := 0) (d := f j + sumF f (j + 1) m + c) (by rw [Nat.zero_add]; exact hR) s5
      rw [← Nat.add_assoc]; exact this
    rw [← hfj, ← hcp5 j hj4] at hR5
    obtain ⟨k1, k2, k3⟩ := hcl j hj4
    obtain ⟨S10, S17, e10, st10, s10, e17, w17, l17, m17, s17⟩ := copyEd (z := z) (X := X) (c := sumF f (j + 1) m + c) hww s5.1 hR5 (hD5.2.2.2.2.2 j hj4).2 (EdJ_Sg hW (hJ j hj4) s5 (fun x hx => by omega)) hEj hl (h4 j hjc) (by omega) k1 k2 k3
    rw [e10, Option.bind_some]
    have hD10 := WdS_Sg s5.1 hD5 s10
    have hS10 := WdS_Sg s5.1 hS5' s10
    have ef : (if bI wh = 0 then some S10 else (gr S10 10 d 3).bind fun a13 => (ldr S10 16 a13 (nI j)).bind fun a14 => (gr S10 10 w 3).bind fun a15 => (ldr S10 16 a15 (nI j)).bind fun a16 => (cal S10 1 a14 (f1_copyText X S10 a14 a16)).bind fun S17 => some S17) = some S17 := by
      cases wh with
      | false => rw [if_pos (show bI false = 0 from rfl)]; rw [if_neg (by decide)] at e17; rw [e17]
      | true =>
        rw [if_neg (show ¬ bI true = 0 by decide), gr_k hD10.1 hD10.2.1.2.2.2.1, Option.bind_some, ed_at hD10 hj4, Option.bind_some, gr_k hS10.1 hS10.2.1.2.2.2.1, Option.bind_some, ed_at hS10 hj4, Option.bind_some]
        rw [if_pos rfl] at e17
        rw [e17, Option.bind_some]
    rw [ef, Option.bind_some, nI_1]
    have s57 : Sg z (fun x => x = d ∨ (d + 5 + 45 * j ≤ x ∧ x < d + 5 + 45 * j + 45)) (f j) S S17 := by
      have q := Sg_trans (Sg_mono hW s5 (H' := fun x => x = d ∨ (d + 5 + 45 * j ≤ x ∧ x < d + 5 + 45 * j + 45)) (fun x hx => Or.inl hx) (Nat.le_refl 0)) (Sg_mono s5.1 s17 (H' := fun x => x = d ∨ (d + 5 + 45 * j ≤ x ∧ x < d + 5 + 45 * j + 45)) (fun x hx => Or.inr hx) (Nat.le_refl _))
      rw [Nat.zero_add, hcp5 j hj4, hfj] at q
      exact q
    have id17 : cI S17 d = cI S d := by rw [fld_Fo s5.1 hD5.1 (by omega) s17.2.1 (by omega), i5]
    have a17 : cA S17 (d + 4) = upd (cA S (d + 4)) j (nI (forC told.length (wRow W) j)) := by rw [arr_Fo s5.1 hD5.2.1.2.2.2.2 hD5.2.2.2.2.1.1 s17.2.1 (by omega), a5]
    have ks : ∀ {i : Nat}, i < 4 → _ := fun {i} hi => WdS_ops (i := i) hS hi
    have kD : ∀ {i : Nat}, i < 4 → _ := fun {i} hi => WdS_ops (i := i) hD hi
    have szs : ∀ i, i < 4 → szO S17 (w + 5 + 45 * i + 3) = szO S (w + 5 + 45 * i + 3) ∧ szO S17 (w + 5 + 45 * i + 5) = szO S (w + 5 + 45 * i + 5) := fun i hi => ⟨szO_Fo hW (ks hi).1 s57.2.1 (by omega), szO_Fo hW (ks hi).2 s57.2.1 (by omega)⟩
    have lns : ∀ i, i < 4 → i ≠ j → lenO S17 (d + 5 + 45 * i + 3) = lenO S (d + 5 + 45 * i + 3) ∧ lenO S17 (d + 5 + 45 * i + 5) = lenO S (d + 5 + 45 * i + 5) := fun i hi hij => ⟨lenO_Fo hW (kD hi).1 s57.2.1 (by omega), lenO_Fo hW (kD hi).2 s57.2.1 (by omega)⟩
    have sz5 : szO S5 (w + 5 + 45 * j + 3) = szO S (w + 5 + 45 * j + 3) ∧ szO S5 (w + 5 + 45 * j + 5) = szO S (w + 5 + 45 * j + 5) := ⟨by unfold szO; rw [i5], by unfold szO; rw [i5]⟩
    have ln5 : lenO S5 (d + 5 + 45 * j + 3) = lenO S (d + 5 + 45 * j + 3) ∧ lenO S5 (d + 5 + 45 * j + 5) = lenO S (d + 5 + 45 * j + 5) := ⟨lenO_Fo hW (kD hj4).1 s5.2.1 (by omega), lenO_Fo hW (kD hj4).2 s5.2.1 (by omega)⟩
    obtain ⟨S', r1, r2, r3, r4, r5, r6⟩ := ih (j + 1) n S17 (by omega) (by omega) s57.1 (Rm_step (c := f j) (d := sumF f (j + 1) m + c) (by rw [← Nat.add_assoc]; exact hR) s57) (WdC_Sg hW hC s57 (fun x x1 x2 => by omega)) (WdS_Sg hW hD s57) (by rw [id17]; exact h6) (fun i hi => by
      by_cases hij : i = j
      · rw [hij]; exact EdW_J w17
      · exact EdJ_Sg hW (hJ i hi) s57 (fun x hx => by omega)) (fun i hi => by
      by_cases hij : i = j
      · subst hij
        refine ⟨w17, by rw [a17, upd_self], ?_⟩
        unfold lnE
        rw [(szs i hj4).1, (szs i hj4).2, m17.1, m17.2]
        omega
      · obtain ⟨q1, q2, q3⟩ := hdn i (by omega)
        refine ⟨EdW_Sg hW q1 s57 (fun x x1 x2 => by omega), by rw [a17, upd_ne _ _ hij]; exact q2, ?_⟩
        unfold lnE
        rw [(szs i (by omega)).1, (szs i (by omega)).2, (lns i (by omega) hij).1, (lns i (by omega) hij).2]
        exact q3) (fun i hi1 hi2 => by rw [cpE_Fo hW hS hD (by omega) s57 (by omega) (by omega) (by omega) (by omega)]; exact hf i (by omega) hi2)
    refine ⟨S', r1, r2.trans id17, r3, fun i hi => ?_, fun i hi => ?_, ?_⟩
    · obtain ⟨q1, q2, q3⟩ := r4 i hi
      refine ⟨q1, q2, ?_⟩
      unfold lnE at q3 ⊢
      rw [(szs i (by omega)).1, (szs i (by omega)).2] at q3
      exact q3
    · have := r5 i hi
      unfold lnM at this ⊢
      by_cases hij : i = j
      · subst hij
        rw [m17.1, m17.2] at this
        omega
      · rw [(lns i hi hij).1, (lns i hi hij).2] at this
        exact this
    · rw [sumF]
      exact Sg_trans (Sg_mono hW s57 (fun x hx => by omega) (Nat.le_refl _)) r6
theorem copy_C {z : Nat} {X : Nat × Nat} {S : CS} {w d r g cnt ties c : Nat} {told : List Int32} {W : Wd} {wh whs : Bool} {f : Nat → Nat} (hcl : ClsC z d wh) (hww : wh = true → whs = true) (hdis : d + 185 ≤ w ∨ w + 185 ≤ d) (hg : Good cnt ties told.length W) (hW : Wf S) (hR : Rm z X (sumF f 0 cnt + c) S) (hC : WdC S w r g cnt ties told W whs) (hD : WdS S d r g) (hJ : ∀ i, i < 4 → EdJ S (d + 5 + 45 * i) wh) (hf : ∀ i, i < cnt → cpE S (w + 5 + 45 * i) (d + 5 + 45 * i) (wE W i) wh = f i) :
    ∃ S', f10_copy X S d w (bI wh) = some S' ∧ WdC S' d r g cnt ties told W wh ∧ (∀ i, i < cnt → lnE S S' w d i) ∧ (∀ i, i < 4 → lnM S S' d i) ∧ Sg z (Hv d) (sumF f 0 cnt) S S' := by
  have hc4 := hg.1
  have hl := row_le hg
  have hFU := FU_gt
  obtain ⟨hS, ⟨n6, n7, n8, n9, n10, n11⟩, h5, hT, hF, hE⟩ := id hC
  unfold f10_copy
  rw [bz_bI, Option.bind_some, pi_k hD.1, Option.bind_some]
  have hwd : w ≠ d := by omega
  have keep : ∀ (T : CS) (k v), (∀ j, cI (setI T d k v) w j = cI T w j) := fun T k v j => by rw [cI_set, if_neg (fun h => hwd h.1)]
  rw [gi_k (S := setI S d 5 _) hS.1, Option.bind_some, keep, n6, pi_k (S := setI S d 5 _) hD.1, Option.bind_some]
  rw [gi_k (S := setI (setI S d 5 _) d 6 _) hS.1, Option.bind_some, keep, keep, n7, pi_k (S := setI (setI S d 5 _) d 6 _) hD.1, Option.bind_some]
  rw [gi_k (S := setI (setI (setI S d 5 _) d 6 _) d 7 _) hS.1, Option.bind_some, keep, keep, keep, n8, pi_k (S := setI (setI (setI S d 5 _) d 6 _) d 7 _) hD.1, Option.bind_some]
  rw [gi_k (S := setI (setI (setI (setI S d 5 _) d 6 _) d 7 _) d 8 _) hS.1, Option.bind_some, keep, keep, keep, keep, n9, pi_k (S := setI (setI (setI (setI S d 5 _) d 6 _) d 7 _) d 8 _) hD.1, Option.bind_some]
  rw [gi_k (S := setI (setI (setI (setI (setI S d 5 _) d 6 _) d 7 _) d 8 _) d 9 _) hS.1, Option.bind_some, keep, keep, keep, keep, keep, n10, pi_k (S := setI (setI (setI (setI (setI S d 5 _) d 6 _) d 7 _) d 8 _) d 9 _) hD.1, Option.bind_some]
  rw [gi_k (S := setI (setI (setI (setI (setI (setI S d 5 _) d 6 _) d 7 _) d 8 _) d 9 _) d 10 _) hS.1, Option.bind_some, keep, keep, keep, keep, keep, keep, n11, pi_k (S := setI (setI (setI (setI (setI (setI S d 5 _) d 6 _) d 7 _) d 8 _) d 9 _) d 10 _) hD.1, Option.bind_some]
  generalize hS14 : setI (setI (setI (setI (setI (setI (setI S d 5 (bI wh)) d 6 (nI cnt)) d 7 (nI ties)) d 8 (nI (wTk W))) d 9 (nI (wEd W))) d 10 (nI (wPu W))) d 11 (nI (wRow W).length) = S14
  have q1 : Sg z (fun x => x = d) 0 S S14 := by
    rw [← hS14]
    have a1 : Sg z (fun x => x = d) 0 S (setI S d 5 (bI wh)) := Sg_setI hW rfl
    have a2 := Sg_trans a1 (Sg_setI (k := 6) (v := nI cnt) a1.1 rfl)
    have a3 := Sg_trans a2 (Sg_setI (k := 7) (v := nI ties) a2.1 rfl)
    have a4 := Sg_trans a3 (Sg_setI (k := 8) (v := nI (wTk W)) a3.1 rfl)
    have a5 := Sg_trans a4 (Sg_setI (k := 9) (v := nI (wEd W)) a4.1 rfl)
    have a6 := Sg_trans a5 (Sg_setI (k := 10) (v := nI (wPu W)) a5.1 rfl)
    exact Sg_trans a6 (Sg_setI (k := 11) (v := nI (wRow W).length) a6.1 rfl)
  have nums : (cI S14 d 5 = bI wh ∧ cI S14 d 6 = nI cnt) ∧ cI S14 d 7 = nI ties ∧ cI S14 d 8 = nI (wTk W) ∧ cI S14 d 9 = nI (wEd W) ∧ cI S14 d 10 = nI (wPu W) ∧ cI S14 d 11 = nI (wRow W).length := by
    rw [← hS14]
    refine ⟨⟨?_, ?_⟩, ?_, ?_, ?_, ?_, ?_⟩
    · rw [cI_set, if_neg (by omega), cI_set, if_neg (by omega), cI_set, if_neg (by omega), cI_set, if_neg (by omega), cI_set, if_neg (by omega), cI_set, if_neg (by omega), cI_self]
    · rw [cI_set, if_neg (by omega), cI_set, if_neg (by omega), cI_set, if_neg (by omega), cI_set, if_neg (by omega), cI_set, if_neg (by omega), cI_self]
    · rw [cI_set, if_neg (by omega), cI_set, if_neg (by omega), cI_set, if_neg (by omega), cI_set, if_neg (by omega), cI_self]
    · rw [cI_set, if_neg (by omega), cI_set, if_neg (by omega), cI_set, if_neg (by omega), cI_self]
    · rw [cI_set, if_neg (by omega), cI_set, if_neg (by omega), cI_self]
    · rw [cI_set, if_neg (by omega), cI_self]
    · rw [cI_self]
  have hS14' := WdS_Sg hW hS q1
  have hD14 := WdS_Sg hW hD q1
  have hT14 := TxL_Fo hW hT q1.2.1 (show ¬ w + 1 = d by omega)
  rw [gr_k hD14.1 hD14.2.1.2.2.1, Option.bind_some, gr_k hS14'.1 hS14'.2.1.2.2.1, Option.bind_some, cal_k hD14.2.2.1]
  obtain ⟨S17, e17, T17, s17⟩ := copy_T (z := z) q1.1 hD14.2.2.1 hT14 (by omega)
  have q2 : Sg z (fun x => x = d ∨ x = d + 1) 0 S S17 := Sg_trans (Sg_mono hW q1 (fun x hx => Or.inl hx) (Nat.le_refl 0)) (Sg_mono q1.1 s17 (fun x hx => Or.inr hx) (Nat.le_refl 0))
  have hC17 := WdC_Sg hW hC q2 (fun x x1 x2 => by omega)
  have hD17 := WdS_Sg hW hD q2
  have i17 : cI S17 d = cI S14 d := fld_Fo q1.1 hD14.1 (by omega) s17.2.1 (by omega)
  rw [e17, Option.bind_some]
  obtain ⟨S18, r1, r2, r3, r4, r5, r6⟩ := copy_loopW (z := z) (X := X) (c := c) (f := f) hcl hww hdis hc4 hl (fun i hi => (Good_Bd hg hi).2.1) cnt 0 FU S17 (by omega) (by omega) q2.1 (Rm_step (c := 0) (d := sumF f 0 cnt + c) (by rw [Nat.zero_add]; exact hR) q2) hC17 hD17 (by rw [i17]; exact nums.1.2) (fun i hi => EdJ_Sg hW (hJ i hi) q2 (fun x hx => by omega)) (fun i hi => absurd hi (Nat.not_lt_zero _)) (fun i _ hi => by rw [cpE_Fo hW hS hD (by omega) q2 (by omega) (by omega) (by omega) (by omega)]; exact hf i hi)
  have r1' : LX10_copy_66 X d w (bI wh) FU 0 S17 = some S18 := r1
  rw [r1', Option.bind_some]
  have ks : ∀ {i : Nat}, i < 4 → _ := fun {i} hi => WdS_ops (i := i) hS hi
  have kD : ∀ {i : Nat}, i < 4 → _ := fun {i} hi => WdS_ops (i := i) hD hi
  refine ⟨S18, rfl, ⟨WdS_Sg q2.1 hD17 r6, ⟨?_, ?_, ?_, ?_, ?_, ?_⟩, ?_, TxL_Fo q2.1 T17 r6.2.1 (by omega), fun i hi => (r4 i hi).2.1, fun i hi => ⟨r3 i hi, fun hic => (r4 i hic).1⟩⟩, fun i hi => ?_, fun i hi => ?_, ?_⟩
  · rw [r2, i17]; exact nums.1.2
  · rw [r2, i17]; exact nums.2.1
  · rw [r2, i17]; exact nums.2.2.1
  · rw [r2, i17]; exact nums.2.2.2.1
  · rw [r2, i17]; exact nums.2.2.2.2.1
  · rw [r2, i17]; exact nums.2.2.2.2.2
  · rw [r2, i17]; exact nums.1.1
  · have := (r4 i hi).2.2
    unfold lnE at this ⊢
    rw [szO_Fo hW (ks (by omega)).1 q2.2.1 (by omega), szO_Fo hW (ks (by omega)).2 q2.2.1 (by omega)] at this
    exact this
  · have := r5 i hi
    unfold lnM at this ⊢
    rw [lenO_Fo hW (kD hi).1 q2.2.1 (by omega), lenO_Fo hW (kD hi).2 q2.2.1 (by omega)] at this
    exact this
  · have q3 := Sg_trans (Sg_mono hW q2 (H' := Hv d) (fun x hx => by
      rcases hx with h | h
      · exact Or.inl h
      · exact Or.inr (Or.inl h)) (Nat.le_refl 0)) (Sg_mono q2.1 r6 (H' := Hv d) (fun x hx => by
      rcases hx with h | h
      · exact Or.inl h
      · exact Or.inr (Or.inr h)) (Nat.le_refl _))
    rw [Nat.zero_add] at q3
    exact q3
