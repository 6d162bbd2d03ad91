/-! ===== PART II, the class: refusals, was, together, without ===== -/
/-- what a step costs -/
def Cst (z c : Nat) (S S' : CS) : Prop := Tt z S' ≤ Tt z S + c ∧ 12 * cZ S' + cU S ≤ 12 * cZ S + cU S'
theorem Cst_of {z c : Nat} {H : Nat → Prop} {S S' : CS} (h : Sg z H c S S') : Cst z c S S' := ⟨h.2.2.1, h.2.2.2.1⟩
theorem Cst_rf (z : Nat) (S : CS) : Cst z 0 S S := ⟨by omega, by omega⟩
theorem Cst_tr {z c d : Nat} {S S' S'' : CS} (h1 : Cst z c S S') (h2 : Cst z d S' S'') : Cst z (c + d) S S'' := ⟨by have := h1.1; have := h2.1; omega, by have := h1.2; have := h2.2; omega⟩
theorem Cst_mono {z c d : Nat} {S S' : CS} (h1 : Cst z c S S') (h : c ≤ d) : Cst z d S S' := ⟨by have := h1.1; omega, h1.2⟩
theorem Rm_cst {z : Nat} {X : Nat × Nat} {c d : Nat} {S S' : CS} (hR : Rm z X (c + d) S) (h : Cst z c S S') : Rm z X d S' := ⟨by have := h.1; have := hR.1; omega, by have := h.2; have := hR.2; omega⟩
section AN
variable {S S' : CS} {z fi ch c : Nat} {A A' : St} {K : Nat → Option Nat} {H : Nat → Prop} {X : Nat × Nat}
theorem K_lo (h : KpC S z K) {j k : Nat} (hj : j < 20) (hk : K j = some k) : z + 661 ≤ k := ((h j hj).2 k hk).1
/-- only rows that nothing is kept in change -/
theorem CR_tmp (h : CR S z A K fi ch) (hg : GA A) (hs : Sg z H c S S') (hH : ∀ x, H x → (z + 6 ≤ x ∧ x < z + 227) ∨ (z + 412 ≤ x ∧ x < z + 597) ∨ (z + 654 ≤ x ∧ x < z + 660)) (hsh : ShC S' (z + 6) (z + 22) (aTold A) (wRow (aW A))) (ha : AhC S' z) : CR S' z A K fi ch := by
  obtain ⟨hW, hT, hTp, hTf, _, hwd, _, hk, hh, hc⟩ := h
  have nk : ∀ j k, j < 20 → K j = some k → ∀ x, k ≤ x → x < k + 185 → ¬ H x := fun j k hj hkj x x1 x2 hx => by have := K_lo hk hj hkj; have := hH x hx; omega
  exact ⟨hs.1, TpS_Sg hW hT hs, TpT_Sg hW hT hTp hs (fun hx => by have := hH _ hx; omega), TpF_Sg hW hT hTf hs (fun hx => by have := hH _ hx; omega), hsh, WdC_Sg hW hwd hs (fun x x1 x2 hx => by have := hH _ hx; omega), ha, KpC_Sg hW hT hk hs (fun hx => by have := hH _ hx; omega) nk, HsC_Sg hW hT hh hs (fun hx => by have := hH _ hx; omega) nk, CmC_Sg hW hT hc hs (fun x x1 x2 hx => by have := hH _ hx; omega) (ends_len hg)⟩
theorem CR_tmp1 (h : CR S z A K fi ch) (hg : GA A) (hs : Sg z H c S S') (hH : ∀ x, H x → (z + 6 ≤ x ∧ x < z + 22) ∨ (z + 654 ≤ x ∧ x < z + 660)) (hob : ∃ l, OpL S' (z + 6 + 9) l) : CR S' z A K fi ch := by
  obtain ⟨hW, hT, hTp, hTf, ⟨w1, w2, w3, w4, w5⟩, hwd, ha, hk, hh, hc⟩ := id h
  have := w5.1
  refine CR_tmp h hg hs (fun x hx => by have := hH x hx; omega) ⟨Wv_Sg hW w1 hs, hob, RwS_Sg hW w3 hs (fun hx => by have := hH _ hx; omega), TxL_Fo hW w4 hs.2.1 (fun hx => by have := hH _ hx; omega), RwM_Sg hW w3 w5 hs (fun hx => by have := hH _ hx; omega) (fun i hi hx => by have := hH _ hx; omega)⟩ (AhC_Sg hW ha hs (fun x x1 x2 hx => by have := hH _ hx; omega))
theorem endsA_cg (h1 : A'.2.1 = A.2.1) (h2 : aW A' = aW A) : endsA A' = endsA A := by
  obtain ⟨a, b, w, c⟩ := A
  obtain ⟨a', b', w', c'⟩ := A'
  dsimp only at h1 h2
  subst h1
  have h2' : w' = w := h2
  subst h2'
  rfl
/-- the tape, faults, refusals, the seed change alone -/
theorem CR_F (h : CR S z A K fi ch) (hg : GA A) (hs : Sg z H c S S') (hH : ∀ x, H x → x = z ∨ x = z + 1) (h1 : A'.2.1 = A.2.1) (h2 : aW A' = aW A) (h3 : aHist A' = aHist A) (h4 : aSeen A' = aSeen A) (hT' : TpT S' z A') (hF' : TpF S' z A') : CR S' z A' K fi ch := by
  obtain ⟨hW, hT, hTp, hTf, hsh, hwd, ha, hk, hh, hc⟩ := h
  have nk : ∀ j k, j < 20 → K j = some k → ∀ x, k ≤ x → x < k + 185 → ¬ H x := fun j k hj hkj x x1 x2 hx => by have := K_lo hk hj hkj; have := hH x hx; omega
  have e1 := ShC_Sg hW hsh hs (fun hx => by have := hH _ hx; omega) (fun x x1 x2 hx => by have := hH _ hx; omega)
  have e2 := WdC_Sg hW hwd hs (fun x x1 x2 hx => by have := hH _ hx; omega)
  have e3 := HsC_Sg hW hT hh hs (fun hx => by have := hH _ hx; omega) nk
  have e4 := CmC_Sg hW hT hc hs (fun x x1 x2 hx => by have := hH _ hx; omega) (ends_len hg)
  have hE := endsA_cg h1 h2
  have c1 : aCnt A' = aCnt A := congrArg (fun x => x.1) h1
  have c2 : aTies A' = aTies A := congrArg (fun x => x.2.1) h1
  have c3 : aTold A' = aTold A := congrArg (fun x => x.2.2) h1
  refine ⟨hs.1, TpS_Sg hW hT hs, hT', hF', ?_, ?_, AhC_Sg hW ha hs (fun x x1 x2 hx => by have := hH _ hx; omega), KpC_Sg hW hT hk hs (fun hx => by have := hH _ hx; omega) nk, ?_, ?_⟩
  · rw [c3, h2]; exact e1
  · rw [c1, c2, c3, h2]; exact e2
  · unfold HsC; rw [h3, c1, c2, c3]; exact e3
  · unfold CmC EndC; rw [h4, hE]; exact e4
theorem refuse_C (h : CR S z A K fi ch) (hg : GA A) {k : Nat} (hk7 : k < 7) : ∃ S', cal S 11 z (f11_refuse S z (nI k)) = some (-1, S') ∧ CR S' z (sRf A k) K fi ch ∧ Cst z 0 S S' := by
  obtain ⟨hW, hT, hTp, ⟨f1, f2, f3, f4⟩, _⟩ := id h
  have k1 := hT.2.2.2.2.2.2.2.2.2.2.2.1
  have k2 := hT.2.2.2.2.2.2.2.2.2.2.2.2
  have j10 := hT.2.1.2.2.2.2.2.2.2.2.2.2
  rw [cal_k hT.1]
  unfold f11_refuse
  rw [if_neg (show ¬ nI k < 0 from nI_nlt (b := 0) (by omega) (by omega)), gr_k hT.1 j10, Option.bind_some, aln_k k1, k2, Option.bind_some, if_neg (nI_ge hk7 (by omega)), Option.bind_some, ldi_k k1 (by omega) (by omega), Option.bind_some, sti_k k1 (by omega) (by omega), Option.bind_some, Option.bind_some, f3 k hk7]
  have s1 : Sg z (fun x => x = z) 0 S (setA S (z + 660) (upd (cA S (z + 660)) k (aRf A k + 1))) := Sg_setA hW rfl j10
  refine ⟨_, rfl, CR_F h hg s1 (fun x hx => Or.inl hx) rfl rfl rfl rfl (TpT_Sg hW hT hTp s1 (by omega)) ⟨f1, f2, fun j hj => ?_, f4⟩, Cst_of s1⟩
  rw [cA_self]
  show _ = if j = k then aRf A j + 1 else aRf A j
  by_cases hjk : j = k
  · rw [hjk, upd_self, if_pos rfl]
  · rw [upd_ne _ _ hjk, if_neg hjk]; exact f3 j hj
theorem refuseF_C (h : CR S z A K fi ch) (hg : GA A) {k : Nat} (hk7 : k < 7) : ∃ S', cal S 11 z (f11_refuseFlatly S z (nI k)) = some (0, S') ∧ CR S' z (sRf A k) K fi ch ∧ Cst z 0 S S' := by
  obtain ⟨S', e1, e2, e3⟩ := refuse_C h hg hk7
  refine ⟨S', ?_, e2, e3⟩
  rw [cal_k h.2.1.1]
  unfold f11_refuseFlatly
  rw [e1, bn2_s]
/-- the text as it was -/
theorem replay_loop {n : Nat} {told : List Int32} {row : List (Nat × List Int32)} {cnt : Nat} (hn : n ≤ row.length) (hch : chR cnt told.length row) (hp : ∀ i, i ≤ row.length → lenA told.length (row.take i) ≤ 240) : ∀ (d m i : Nat) (S : CS), i + d = n → d < m → Wf S → TpS S z → ShC S (z + 6) (z + 22) told row → TxL S (z + 658) (srvT told (row.take i)) → ∃ S', LX11_replay_16 z (nI n) m (nI i) S = some S' ∧ TxL S' (z + 658) (srvT told (row.take n)) ∧ Sg z (fun x => x = z + 658 ∨ x = z + 6) 0 S S' := by
  intro d
  induction d with
  | zero =>
    intro m i S hi hm hW hT hsh ht
    obtain ⟨m, rfl⟩ : ∃ j, m = j + 1 := ⟨m - 1, by omega⟩
    have hl := hsh.2.2.2.2.1
    unfold LX11_replay_16
    rw [if_pos (nI_le (by omega) (by omega))]
    rw [show i = n by omega] at ht
    exact ⟨S, rfl, ht, Sg_refl hW⟩
  | succ d ih =>
    intro m i S hi hm hW hT hsh ht
    obtain ⟨m, rfl⟩ : ∃ j, m = j + 1 := ⟨m - 1, by omega⟩
    obtain ⟨hw, hob, hRw, hst, hRM⟩ := id hsh
    have hl := hRM.1
    have hil : i < row.length := by omega
    have hge := List.getElem?_eq_getElem hil
    generalize row[i] = o at hge
    obtain ⟨o1, o2, o3, o4, o5⟩ := chR_get hch hge
    have hc2 := hch
    rw [← List.take_append_drop i row, chR_app] at hc2
    have hlt := srvT_len _ _ hc2.1
    unfold LX11_replay_16
    rw [if_neg (nI_ge (by omega) (by omega)), gr_k hT.1 hT.2.1.2.1, Option.bind_some, gr_k hT.1 hT.2.1.2.2.2.2.2.2.2.2.2.1, Option.bind_some, gr_k hT.1 hT.2.1.2.2.1, Option.bind_some, gr_k hRw.1 hRw.2.1.2.1, Option.bind_some, ldr_k hRw.2.2.2.1.1 (by have := hRw.2.2.2.1.2; omega) (by have := hRw.2.2.2.1.2; omega) (hRw.2.2.2.2.2 i (by omega)).1, Option.bind_some, cal_k hw.1, nI_1]
    obtain ⟨S1, e1, t1, s1⟩ := change_T (z := z) (w := 0) hW hw.1 ht (hRM.2 _ _ hge).1 (by rw [hlt]; exact o3) (by rw [o4]; exact hp _ (by omega))
    rw [e1, Option.bind_some]
    rw [chgX_0] at t1
    have hst2 : srvT told (row.take (i + 1)) = chgL o.2 (srvT told (row.take i)) := by rw [(drop_get hge).2, srvT_app]; rfl
    rw [← hst2] at t1
    obtain ⟨S', r1, r2, r3⟩ := ih m (i + 1) S1 (by omega) (by omega) s1.1 (TpS_Sg hW hT s1) (ShC_Sg hW hsh s1 (by omega) (fun x x1 x2 => by omega)) t1
    exact ⟨S', r1, r2, Sg_trans s1 r3⟩
theorem lenA_240 (hg : GA A) : ∀ i, i ≤ (wRow (aW A)).length → lenA (aTold A).length ((wRow (aW A)).take i) ≤ 240 := fun i _ => by
  obtain ⟨g1, g2, g3, g4, g5, g6, g7, g8, g9⟩ := hg.2.2.1
  have := lenA_le g6 i
  omega
theorem replay_C (h : CR S z A K fi ch) (hg : GA A) {n : Nat} (hn : n ≤ (wRow (aW A)).length) : ∃ S', cal S 11 z (f11_replay S z (nI n)) = some S' ∧ TxL S' (z + 658) (srvT (aTold A) ((wRow (aW A)).take n)) ∧ CR S' z A K fi ch ∧ Cst z 0 S S' := by
  obtain ⟨hW, hT, hTp, hTf, hsh, hwd, ha, hk, hh, hc⟩ := id h
  obtain ⟨hw, ⟨l, hob⟩, hRw, hst, hRM⟩ := id hsh
  have hl := hRM.1
  have hFU := FU_gt
  have j9 := hT.2.1.2.2.2.2.2.2.2.2.2.1
  have k9 := hT.2.2.2.2.2.2.2.2.2.2.1
  rw [cal_k hT.1]
  unfold f11_replay
  rw [gr_k hT.1 j9, Option.bind_some, gr_k hT.1 hT.2.1.2.2.1, Option.bind_some, gr_k hRw.1 hRw.2.1.1, Option.bind_some, cal_k k9]
  obtain ⟨S4, e4, t4, s4⟩ := copy_T (z := z) hW k9 hst (by omega)
  obtain ⟨S5, e5, t5, s5⟩ := replay_loop (z := z) hn hg.2.2.1.2.2.2.2.2.1 (lenA_240 hg) n FU 0 S4 (by omega) (by omega) s4.1 (TpS_Sg hW hT s4) (ShC_Sg hW hsh s4 (by omega) (fun x x1 x2 => by omega)) (by rw [List.take_zero]; exact t4)
  rw [e4, Option.bind_some, show LX11_replay_16 z (nI n) FU 0 S4 = some S5 from e5, Option.bind_some]
  have s : Sg z (fun x => x = z + 658 ∨ x = z + 6) 0 S S5 := Sg_trans (Sg_mono hW s4 (fun x hx => Or.inl hx) (Nat.le_refl 0)) s5
  exact ⟨S5, rfl, t5, CR_tmp1 h hg s (fun x hx => by omega) ⟨l, OpL_Fo hW hob s.2.1 (by omega)⟩, Cst_of s⟩
theorem was_C (h : CR S z A K fi ch) (hg : GA A) (p q : Int32) : ∃ S', f11_was S z p q = some (qWas A p q, S') ∧ CR S' z A K fi ch ∧ Cst z 0 S S' := by
  obtain ⟨hW, hT, hTp, hTf, hsh, hwd, ha, hk, hh, hc⟩ := id h
  have hl := hsh.2.2.2.2.1
  have hc4 := hg.2.2.1.1
  unfold f11_was qWas
  rw [gr_k hT.1 hT.2.1.2.2.2.1, Option.bind_some, gi_k hwd.1.1, hwd.2.1.1, Option.bind_some]
  by_cases h0 : aCnt A = 0
  · rw [h0, if_pos (show nI 0 = (0 : Int32) from rfl), if_neg (fun hh => by omega)]
    exact ⟨S, rfl, h, Cst_rf z S⟩
  · rw [if_neg (nI_ne0 (by omega) (by omega))]
    by_cases h1 : p < 0
    · rw [if_pos h1, if_neg (fun hh => by rw [Int32.lt_iff_toInt_lt, i0] at h1; omega)]
      exact ⟨S, rfl, h, Cst_rf z S⟩
    · rw [if_neg h1, Option.bind_some, gi_k hwd.1.1, hwd.2.1.2.2.2.2.2, Option.bind_some]
      rw [Int32.lt_iff_toInt_lt, i0] at h1
      by_cases h2 : p ≤ nI (wRow (aW A)).length
      · rw [if_pos h2]
        rw [i_le (by omega)] at h2
        have hn := nI_ofInt (p := p) (by omega)
        obtain ⟨S5, e1, t1, c1, c2⟩ := replay_C h hg (n := p.toInt.toNat) (by omega)
        rw [← hn] at e1
        have hT5 := c1.2.1
        rw [e1, Option.bind_some, gr_k hT5.1 hT5.2.1.2.2.2.2.2.2.2.2.2.1, Option.bind_some, cal_k (TxL_kd t1), askTx t1, Option.bind_some, if_pos ⟨by omega, by omega, h2⟩]
        refine ⟨S5, ?_, c1, c2⟩
        have hc2 := hg.2.2.1.2.2.2.2.2.1
        rw [← List.take_append_drop p.toInt.toNat (wRow (aW A)), chR_app] at hc2
        rw [ltr_ok (srv_okP _ _ hg.2.2.2.1 hc2.1)]
      · rw [if_neg h2, if_neg (fun hh => h2 (by rw [i_le (by omega)]; exact hh.2.2))]
        exact ⟨S, rfl, h, Cst_rf z S⟩
end AN
