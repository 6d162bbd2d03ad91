/-! ===== PART II, the class: the ends ===== -/
section AO
variable {S S' : CS} {z fi ch c : Nat} {A A' : St} {K : Nat → Option Nat} {H : Nat → Prop} {X : Nat × Nat}
theorem ends_get {A : St} (hc : aCnt A ≤ 4) : (endsA A).length = fac (wtA A).length ∧ ∀ n t, (endsA A)[n]? = some t → n < fac (wtA A).length ∧ t = enA A n := by
  have h := ends_cls hc
  refine ⟨by rw [h, List.length_map, List.length_range], fun n t ht => ?_⟩
  rw [h, List.getElem?_map] at ht
  have hn : n < fac (wtA A).length := Decidable.byContradiction fun hh => by
    have := List.getElem?_eq_none_iff.mpr (show (List.range (fac (wtA A).length)).length ≤ n by rw [List.length_range]; omega)
    rw [this] at ht
    cases ht
  rw [List.getElem?_range hn] at ht
  exact ⟨hn, (Option.some.inj ht).symm⟩
theorem reckon_C (h : CR S z A K fi ch) (hg : GA A) (hst : cI S (z + 599) 9 ≠ nI ch) (hR : Rm z X (6720 + c) S) : ∃ S' c', cal S 0 (z + 599) (f0_reckon X S (z + 599) (z + 227) (z + 412)) = some S' ∧ CR S' z A K fi ch ∧ cI S' (z + 599) 9 ≠ nI ch ∧ EndC S' z A ∧ c' ≤ 6720 ∧ Cst z c' S S' := by
  have gd := hg.2.2.1
  have hc4 := gd.1
  have hW := h.1
  have hT := h.2.1
  obtain ⟨e0, e1, e2, e3, e4, e5, e6⟩ := hT.2.2.2.2.2.1
  have s1 : Sg z (fun x => x = z + 599) 0 S (setI S (z + 599) 6 0) := Sg_setI hW rfl
  have s2 : Sg z (fun x => x = z + 599) 0 (setI S (z + 599) 6 0) (setI (setI S (z + 599) 6 0) (z + 599) 7 1) := Sg_setI s1.1 rfl
  have s12 := Sg_trans s1 s2
  rw [cal_k e0]
  unfold f0_reckon
  rw [pi_k e0, Option.bind_some, pi_I e0, Option.bind_some]
  have i6 : cI (setI (setI S (z + 599) 6 0) (z + 599) 7 1) (z + 599) 6 = 0 := by rw [cI_set, if_neg (by omega), cI_self]
  have i7 : cI (setI (setI S (z + 599) 6 0) (z + 599) 7 1) (z + 599) 7 = 1 := by rw [cI_self]
  have iO : ∀ k, k ≠ 6 → k ≠ 7 → cI (setI (setI S (z + 599) 6 0) (z + 599) 7 1) (z + 599) k = cI S (z + 599) k := fun k k1 k2 => by rw [cI_set, if_neg (by omega), cI_set, if_neg (by omega)]
  have aO : cA (setI (setI S (z + 599) 6 0) (z + 599) 7 1) = cA S := rfl
  generalize setI (setI S (z + 599) 6 0) (z + 599) 7 1 = S2 at *
  have hwd2 := WdC_Sg hW h.2.2.2.2.2.1 s12 (fun x x1 x2 => by omega)
  obtain ⟨S3, r1, r2, r3, r4, r5, r6, r7⟩ := wait_loop (z := z) (c2 := z + 412) hc4 gd (aCnt A) 0 FU S2 (by omega) (by rw [FU_eq]; omega) s2.1 (TpS_Sg hW hT s12) hwd2 (by rw [i6]; rfl) (by rw [i7]; rfl) (fun k hk => by simp [waitL] at hk)
  have s13 := Sg_trans s12 r7
  have C3 : CR S3 z A K fi ch := CR_cm h s13 (fun x hx => by omega) (by rw [r5 9 (by omega) (by omega), iO 9 (by omega) (by omega)]; exact hst) (by rw [r5 8 (by omega) (by omega), iO 8 (by omega) (by omega)]) (by rw [r5 9 (by omega) (by omega), iO 9 (by omega) (by omega)]) (by rw [r6 _ (by omega), aO]) (by rw [r6 _ (by omega), aO]) (ShC_Sg hW h.2.2.2.2.1 s13 (by omega) (fun x x1 x2 => by omega)) (AhC_Sg hW h.2.2.2.2.2.2.1 s13 (fun x x1 x2 => by omega))
  have hml : (wtA A).length ≤ 4 := by unfold wtA; rw [waitL_len]; have := sndN_le (onW (aCnt A) (aW A)) (aCnt A); omega
  have hf24 := fac_le _ hml
  have hs480 := sumF_480 (S := S3) (z := z) hg
  have hFI := FI_le (fun e => szO S3 (z + 227 + 5 + 45 * e + 3)) z (wRow (aW A)).length (wtA A).length S3 hml
  obtain ⟨S', c', x1, x2, x3, x4, x5, x6, x7⟩ := reck_loop (X := X) (c := c) hg (s := fun e => szO S3 (z + 227 + 5 + 45 * e + 3)) (fun e he => by
    obtain ⟨l, o1, o2, _⟩ := (C3.2.2.2.2.2.1.2.2.2.2.2 e he).1.1
    have := szO_L o1
    show szO S3 (z + 227 + 5 + 45 * e + 3) ≤ 240
    omega) (fac (wtA A).length) 0 FU 1920 S3 (by omega) (by rw [FU_eq]; omega) C3 (by rw [r5 9 (by omega) (by omega), iO 9 (by omega) (by omega)]; exact hst) ⟨r2, r3, r4⟩ (fun j hj => by omega) hs480 (fun e _ => rfl) (Rm_step (c := 0) (d := 1920 + 240 * FI (fun e => szO S3 (z + 227 + 5 + 45 * e + 3)) z (wRow (aW A)).length (wtA A).length S3 + c) (Rm_mono hR (by omega)) s13)
  rw [show LX0_reckon_12 (z + 599) (z + 227) (z + 412) FU 0 S2 = some S3 from r1, Option.bind_some, show LX0_reckon_80 X (z + 599) (z + 227) (z + 412) FU 0 S3 = some S' from x1, Option.bind_some]
  refine ⟨S', c', rfl, x2, x3, ?_, by omega, ?_⟩
  · obtain ⟨g1, g2⟩ := ends_get hc4
    refine ⟨by rw [g1]; exact x4.2.1, fun n t ht => ?_⟩
    obtain ⟨u1, u2⟩ := g2 n t ht
    obtain ⟨t', v1, v2⟩ := x5 n u1
    exact ⟨t', v1, by rw [u2]; exact v2⟩
  · exact Cst_mono (Cst_tr (Cst_of s13) x7) (by omega)
theorem reckonEnds_C (h : CR S z A K fi ch) (hg : GA A) (hR : Rm z X (6720 + c) S) : ∃ S', cal S 11 z (f11_reckonEnds X S z) = some S' ∧ CR S' z A K fi ch ∧ EndC S' z A ∧ Cst z 6720 S S' := by
  obtain ⟨hW, hT, hTp, hTf, hsh, hwd, ha, hk, hh, ⟨c1, c2, c3, c4⟩⟩ := id h
  obtain ⟨t0, t1, t2, t3, t4, t5, t6, t7, t8, t9⟩ := TpS_g hT
  have e0 := hT.2.2.2.2.2.1.1
  have d0 := hT.2.2.2.2.1.1
  rw [cal_k hT.1]
  unfold f11_reckonEnds
  rw [t6, Option.bind_some, gi_k e0, Option.bind_some, t5, Option.bind_some, gi_k d0, c1, Option.bind_some]
  by_cases hst : cI S (z + 599) 9 = nI ch
  · rw [if_pos hst, Option.bind_some]
    exact ⟨S, rfl, h, c3 hst, Cst_mono (Cst_rf z S) (by omega)⟩
  · obtain ⟨S9, c9, e9, C9, st9, E9, k9, q9⟩ := reckon_C (X := X) (c := c) h hg hst hR
    obtain ⟨v0, v1, v2, v3, v4, v5, v6, v7, v8, v9⟩ := TpS_g C9.2.1
    obtain ⟨hW9, hT9, hTp9, hTf9, hsh9, hwd9, ha9, hk9, hh9, ⟨x1, x2, x3, x4⟩⟩ := id C9
    have q0 := hT9.2.2.2.2.2.1.1
    rw [if_neg hst, Option.bind_some, t3, Option.bind_some, t4, Option.bind_some, e9, Option.bind_some, v6, Option.bind_some, v5, Option.bind_some, gi_k hT9.2.2.2.2.1.1, x1, Option.bind_some, pi_k q0, Option.bind_some, Option.bind_some]
    have s1 : Sg z (fun x => x = z + 599) 0 S9 (setI S9 (z + 599) 9 (nI ch)) := Sg_setI hW9 rfl
    have nk : ∀ j k, j < 20 → K j = some k → ∀ x, k ≤ x → x < k + 185 → ¬ x = z + 599 := fun j k hj hkj x x1 x2 hx => by have := K_lo hk9 hj hkj; omega
    have iO : ∀ a k, (a ≠ z + 599 ∨ k ≠ 9) → cI (setI S9 (z + 599) 9 (nI ch)) a k = cI S9 a k := fun a k hak => by rw [cI_set, if_neg (by omega)]
    have hE : EndC (setI S9 (z + 599) 9 (nI ch)) z A := by
      refine ⟨by rw [iO _ _ (by omega)]; exact E9.1, fun n t ht => ?_⟩
      obtain ⟨t', y1, y2⟩ := E9.2 n t ht
      exact ⟨t', TxL_Fo hW9 y1 s1.2.1 (by omega), y2⟩
    refine ⟨_, rfl, ⟨s1.1, TpS_Sg hW9 hT9 s1, TpT_Sg hW9 hT9 hTp9 s1 (by omega), TpF_Sg hW9 hT9 hTf9 s1 (by omega), ShC_Sg hW9 hsh9 s1 (by omega) (fun x x1 x2 => by omega), WdC_Sg hW9 hwd9 s1 (fun x x1 x2 => by omega), AhC_Sg hW9 ha9 s1 (fun x x1 x2 => by omega), KpC_Sg hW9 hT9 hk9 s1 (by omega) nk, HsC_Sg hW9 hT9 hh9 s1 (by omega) nk, by rw [iO _ _ (by omega)]; exact x1, ⟨by rw [iO _ _ (by omega)]; exact x2.1, x2.2.1, x2.2.2⟩, fun _ => hE, Or.inr ⟨ch, Nat.le_refl _, cI_self _ _ _ _⟩⟩, hE, Cst_mono (Cst_tr q9 (Cst_of s1)) (by omega)⟩
theorem CR_tal (h : CR S z A K fi ch) (hE : EndC S z A) (hs : Sg z (fun x => x = z + 599) c S S') (hi : cI S' (z + 599) = cI S (z + 599)) (h3 : cA S' (z + 603) = cA S (z + 603)) (h4 : cA S' (z + 604) = cA S (z + 604)) : CR S' z A K fi ch ∧ EndC S' z A := by
  obtain ⟨hW, hT, hTp, hTf, hsh, hwd, ha, hk, hh, ⟨c1, c2, c3, c4⟩⟩ := h
  have nk : ∀ j k, j < 20 → K j = some k → ∀ x, k ≤ x → x < k + 185 → ¬ x = z + 599 := fun j k hj hkj x x1 x2 hx => by have := K_lo hk hj hkj; omega
  have hi2 := fld_Fo hW hT.2.2.2.2.1.1 (by omega) hs.2.1 (show ¬ z + 597 = z + 599 by omega)
  have hE' : EndC S' z A := by
    refine ⟨by rw [hi]; exact hE.1, fun n t ht => ?_⟩
    obtain ⟨t', y1, y2⟩ := hE.2 n t ht
    exact ⟨t', TxL_Fo hW y1 hs.2.1 (by omega), y2⟩
  exact ⟨⟨hs.1, TpS_Sg hW hT hs, TpT_Sg hW hT hTp hs (by omega), TpF_Sg hW hT hTf hs (by omega), ShC_Sg hW hsh hs (by omega) (fun x x1 x2 => by omega), WdC_Sg hW hwd hs (fun x x1 x2 => by omega), AhC_Sg hW ha hs (fun x x1 x2 => by omega), KpC_Sg hW hT hk hs (by omega) nk, HsC_Sg hW hT hh hs (by omega) nk, by rw [hi2]; exact c1, by rw [hi, h3, h4]; exact c2, fun _ => hE', by rw [hi]; exact c4⟩, hE'⟩
/-- the n-th end lies there -/
theorem end_at (h : CR S z A K fi ch) (hE : EndC S z A) (hl : (endsA A).length ≤ 24) {n : Nat} {t : List Int32} (ht : (endsA A)[n]? = some t) : n < 24 ∧ ldr S 18 (z + 600) (nI n) = some (z + 606 + 2 * n) ∧ ∃ t', TxL S (z + 606 + 2 * n) t' ∧ ltr t' = t := by
  have hn := (List.getElem?_eq_some_iff.mp ht).1
  obtain ⟨⟨f0, f0'⟩, _⟩ := h.2.1.2.2.2.2.2.2.1
  have h6 := h.2.1.2.2.2.2.2.2.2.1 n (by omega)
  exact ⟨by omega, ldr_k f0 (by omega) (by omega) h6.1, hE.2 n t ht⟩
theorem letE {h : Nat} {t t' : List Int32} {p : Nat} (hT : TxL S h t') (he : ltr t' = t) (hp : p < 100000) : f7_letterAt S h (nI p) = some (endP t p) := by
  have hl : t.length = t'.length := by rw [← he, ltr_len]
  rw [letAt hT, nI_toInt (by omega)]
  unfold endP
  rw [hl]
  by_cases hpt : p < t'.length
  · rw [if_pos ⟨by omega, by omega⟩, if_pos hpt, ← he, ltr_get]; rfl
  · rw [if_neg (by omega), if_neg hpt]
theorem like_loopC {a b n0 : Nat} {ta tb ta' tb' : List Int32} (h1 : TxL S a ta') (e1 : ltr ta' = ta) (h2 : TxL S b tb') (e2 : ltr tb' = tb) (hn : ta.length = n0) : ∀ (d i n : Nat), i + d = n0 → d < n → ∃ r : Bool, LX7_isLike_19 a b S n 1 (nI i) = some (bI r) ∧ (r = true ↔ ∀ p, i ≤ p → p < n0 → endP ta p = endP tb p) := by
  have hb := TxL_bd h1
  have hl : ta.length = ta'.length := by rw [← e1, ltr_len]
  have ka := TxL_kd h1
  have kb := TxL_kd h2
  intro d
  induction d with
  | zero =>
    intro i n hi hn2
    obtain ⟨n, rfl⟩ : ∃ k, n = k + 1 := ⟨n - 1, by omega⟩
    unfold LX7_isLike_19
    rw [TxL_sz h1, Option.bind_some, if_pos (nI_le (by omega) (by omega))]
    exact ⟨true, rfl, fun _ p p1 p2 => by omega, fun _ => rfl⟩
  | succ d ih =>
    intro i n hi hn2
    obtain ⟨n, rfl⟩ : ∃ k, n = k + 1 := ⟨n - 1, by omega⟩
    unfold LX7_isLike_19
    rw [TxL_sz h1, Option.bind_some, if_neg (nI_ge (by omega) (by omega)), if_neg (by decide), cal_k ka, letE h1 e1 (by omega), Option.bind_some, cal_k kb, letE h2 e2 (by omega), Option.bind_some]
    by_cases he : endP ta i = endP tb i
    · rw [if_pos he, Option.bind_some, nI_1]
      obtain ⟨r, r1, r2⟩ := ih (i + 1) n (by omega) (by omega)
      refine ⟨r, r1, r2.trans ⟨fun hh p p1 p2 => ?_, fun hh p p1 p2 => hh p (by omega) p2⟩⟩
      by_cases hpi : p = i
      · subst hpi; exact he
      · exact hh p (by omega) p2
    · rw [if_neg he, Option.bind_some]
      refine ⟨false, ?_, fun hh => (by cases hh), fun hh => absurd (hh i (Nat.le_refl _) (by omega)) he⟩
      obtain ⟨n, rfl⟩ : ∃ k, n = k + 1 := ⟨n - 1, by omega⟩
      unfold LX7_isLike_19
      rw [TxL_sz h1, Option.bind_some, if_pos (show (0 : Int32) = 0 from rfl)]
      split <;> rfl
theorem isLike_C {a b : Nat} {ta tb ta' tb' : List Int32} (h1 : TxL S a ta') (e1 : ltr ta' = ta) (h2 : TxL S b tb') (e2 : ltr tb' = tb) (oa : ∀ v ∈ ta, okP v) (ob : ∀ v ∈ tb, okP v) : f7_isLike S a b = some (bI (decide (ta = tb))) := by
  have hb := TxL_bd h1
  have hb2 := TxL_bd h2
  have hl : ta.length = ta'.length := by rw [← e1, ltr_len]
  have hl2 : tb.length = tb'.length := by rw [← e2, ltr_len]
  unfold f7_isLike
  rw [TxL_sz h1, Option.bind_some, TxL_sz h2, Option.bind_some]
  by_cases hle : ta.length = tb.length
  · obtain ⟨r, r1, r2⟩ := like_loopC h1 e1 h2 e2 rfl ta.length 0 FU (by omega) (by rw [FU_eq]; omega)
    have r3 : r = decide (ta = tb) := by
      have key : r = true ↔ ta = tb := by
        rw [r2, ← like_iff oa ob (by omega) (by omega)]
        refine ⟨fun hh p hp => ?_, fun hh p p1 p2 => hh p (by omega)⟩
        by_cases hpl : p < ta.length
        · exact hh p (by omega) hpl
        · unfold endP
          rw [if_neg hpl, if_neg (by omega)]
      cases r with
      | true => exact (decide_eq_true (key.mp rfl)).symm
      | false => exact (decide_eq_false (fun hh => by have := key.mpr hh; cases this)).symm
    rw [if_pos (by rw [← hl, ← hl2, hle]), Option.bind_some, show LX7_isLike_19 a b S FU 1 0 = _ from r1, Option.bind_some, bz_bI, Option.bind_some, r3]
  · rw [if_neg (fun hh => hle (by rw [hl, hl2]; exact nI_inj hh (by omega) (by omega))), Option.bind_some]
    have hF : ∃ k, FU = k + 1 := ⟨19999, by rw [FU_eq]⟩
    obtain ⟨k, hk⟩ := hF
    rw [hk]
    unfold LX7_isLike_19
    rw [TxL_sz h1, Option.bind_some, if_pos (show (0 : Int32) = 0 from rfl)]
    have : (if nI ta'.length ≤ (0 : Int32) then some (0 : Int32) else some 0) = some 0 := by split <;> rfl
    rw [this, Option.bind_some, decide_eq_false (fun hh => hle (by rw [hh]))]; rfl
end AO
