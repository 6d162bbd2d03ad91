/-! ===== PART II, the class: a world ahead: later, quiet ===== -/
theorem WdC_ah {S : CS} {z cnt ties : Nat} {told : List Int32} {W : Wd} (h : WdC S (z + 412) (z + 22) (z + 6) cnt ties told W false) : AhC S z := ⟨h.1, fun i hi => (h.2.2.2.2.2 i hi).1⟩
section AS
variable {S S' : CS} {z fi ch c : Nat} {A A' : St} {K : Nat → Option Nat} {H : Nat → Prop} {X : Nat × Nat}
/-- what a world ahead does leaves all else as it is -/
theorem CR_ah {c' : Nat} {W : Wd} (h : CR S z A K fi ch) (hg : GA A) (hs : Sg z H c' S S') (hH : ∀ x, H x → (z + 6 ≤ x ∧ x < z + 227) ∨ (z + 412 ≤ x ∧ x < z + 597)) (hsh : ShC S' (z + 6) (z + 22) (aTold A) (wRow W)) (hp : wRow (aW A) <+: wRow W) (hC : WdC S' (z + 412) (z + 22) (z + 6) (aCnt A) (aTies A) (aTold A) W false) : CR S' z A K fi ch :=
  CR_tmp h hg hs (fun x hx => by have := hH x hx; omega) (ShC_pre hsh hp) (WdC_ah hC)
theorem copyA {f : Nat → Nat} (h : CR S z A K fi ch) (hg : GA A) (hR : Rm z X (sumF f 0 (aCnt A) + c) S) (hf : ∀ i, i < aCnt A → cpE S (z + 227 + 5 + 45 * i) (z + 412 + 5 + 45 * i) (wE (aW A) i) false = f i) : ∃ S', cal S 10 (z + 412) (f10_copy X S (z + 412) (z + 227) 0) = some S' ∧ CR S' z A K fi ch ∧ WdC S' (z + 412) (z + 22) (z + 6) (aCnt A) (aTies A) (aTold A) (aW A) false ∧ (∀ i, i < aCnt A → lnE S S' (z + 227) (z + 412) i) ∧ (∀ i, i < 4 → lnM S S' (z + 412) i) ∧ Sg z (Hv (z + 412)) (sumF f 0 (aCnt A)) S S' := by
  obtain ⟨hW, hT, hTp, hTf, hsh, hwd, ha, hk, hh, hc⟩ := id h
  obtain ⟨S', e1, e2, e3, e4, e5⟩ := copy_C (z := z) (X := X) (wh := false) (ClsC_a z) (fun h => by cases h) (by omega) hg.2.2.1 hW hR hwd ha.1 ha.2 hf
  have hH : ∀ x, Hv (z + 412) x → (z + 412 ≤ x ∧ x < z + 597) := fun x hx => by rcases hx with h | h | h <;> omega
  refine ⟨S', by rw [cal_k ha.1.1]; exact e1, ?_, e2, e3, e4, e5⟩
  exact CR_ah h hg e5 (fun x hx => Or.inr (hH x hx)) (ShC_Sg hW hsh e5 (fun hx => by have := hH _ hx; omega) (fun x x1 x2 hx => by have := hH _ hx; omega)) (List.prefix_refl _) e2
theorem sumF_480 (hg : GA A) : sumF (fun i => cpE S (z + 227 + 5 + 45 * i) (z + 412 + 5 + 45 * i) (wE (aW A) i) false) 0 (aCnt A) ≤ 1920 := by
  have hc4 := hg.2.2.1.1
  have := sumF_le (f := fun i => cpE S (z + 227 + 5 + 45 * i) (z + 412 + 5 + 45 * i) (wE (aW A) i) false) (B := 480) (aCnt A) 0 (fun i hi => (cpE_le hg.2.2.1 (by omega) S _ _).2)
  have h2 : aCnt A * 480 ≤ 4 * 480 := Nat.mul_le_mul_right _ hc4
  omega
theorem Hq_a {x : Nat} (h : Hq (z + 412) (z + 6) (z + 22) x) : (z + 6 ≤ x ∧ x < z + 227) ∨ (z + 412 ≤ x ∧ x < z + 597) := by
  rcases h with h | h | h | h <;> omega
theorem ahead_tick {cnt ties : Nat} {told : List Int32} {W : Wd} (htd : ∀ v ∈ told, okP v) (hW : Wf S) (hR : Rm z X (phi cnt W + c) S) (hsh : ShC S (z + 6) (z + 22) told (wRow W)) (hC : WdC S (z + 412) (z + 22) (z + 6) cnt ties told W false) (hg : Good cnt ties told.length W) : StW z S (z + 412) (z + 22) (z + 6) cnt ties told W (tickW ties cnt W) false (cal S 10 (z + 412) (f10_runTick X S (z + 412))) := by
  rw [cal_k hC.1.1]
  exact tick_C (ClsW_a z) htd hW hR hsh hC hg
theorem later_loopC {cnt ties N : Nat} {c2 : Int32} {told : List Int32} (htd : ∀ v ∈ told, okP v) (hN : N ≤ 100) : ∀ (d i m : Nat) (W : Wd) (S : CS), i + d = N → d < m → Wf S → TpS S z → Rm z X (phi cnt W + c) S → ShC S (z + 6) (z + 22) told (wRow W) → WdC S (z + 412) (z + 22) (z + 6) cnt ties told W false → Good cnt ties told.length W → StW z S (z + 412) (z + 22) (z + 6) cnt ties told W (itT ties cnt d W) false (LX11_later_51 X z (nI N) c2 m (nI i) S) := by
  intro d
  induction d with
  | zero =>
    intro i m W S hi hm hW hT hR hsh hC hg
    obtain ⟨m, rfl⟩ : ∃ j, m = j + 1 := ⟨m - 1, by omega⟩
    unfold LX11_later_51
    rw [if_pos (nI_le (by omega) (by omega))]
    exact StW_end hW hsh hC hg
  | succ d ih =>
    intro i m W S hi hm hW hT hR hsh hC hg
    obtain ⟨m, rfl⟩ : ∃ j, m = j + 1 := ⟨m - 1, by omega⟩
    unfold LX11_later_51
    rw [if_neg (nI_ge (by omega) (by omega)), (TpS_g hT).2.2.2.2.1, Option.bind_some, nI_1]
    obtain ⟨S2, c1, e1, a1, a2, a3, a4, a5⟩ := ahead_tick (X := X) (c := c) htd hW hR hsh hC hg
    obtain ⟨S', c2', e2, b1, b2, b3, b4, b5⟩ := ih (i + 1) m (tickW ties cnt W) S2 (by omega) (by omega) a5.1 (TpS_Sg hW hT a5) (Rm_step (c := c1) (d := phi cnt (tickW ties cnt W) + c) (Rm_mono hR (by omega)) a5) a1 a2 a3
    rw [e1, Option.bind_some, itT]
    exact ⟨S', c1 + c2', e2, b1, b2, b3, by omega, Sg_trans a5 b5⟩
theorem later_C (h : CR S z A K fi ch) (hg : GA A) (hR : Rm z X (3840 + c) S) (p k : Int32) : ∃ S', f11_later X S z p k = some (qLater A p k, S') ∧ CR S' z A K fi ch ∧ Cst z 3840 S S' := by
  obtain ⟨hW, hT, hTp, hTf, hsh, hwd, ha, hk, hh, hc⟩ := id h
  have hc4 := hg.2.2.1.1
  have htk := hg.2.2.2.2.1
  have hFU := FU_gt
  have no : Cst z 3840 S S := Cst_mono (Cst_rf z S) (by omega)
  obtain ⟨t0, t1, t2, t3, t4, t5, t6, t7, t8, t9⟩ := TpS_g hT
  unfold f11_later qLater
  rw [t3, Option.bind_some, gi_k hwd.1.1, hwd.2.1.1, Option.bind_some]
  by_cases h0 : aCnt A = 0
  · rw [h0, if_pos (show nI 0 = (0 : Int32) from rfl), if_neg (fun hh => by omega)]
    exact ⟨S, rfl, h, no⟩
  · rw [if_neg (nI_ne0 (by omega) (by omega))]
    by_cases h1 : p < 0
    · rw [if_pos h1, if_neg (fun hh => by rw [Int32.lt_iff_toInt_lt, i0] at h1; omega)]
      exact ⟨S, rfl, h, no⟩
    · rw [if_neg h1]
      rw [Int32.lt_iff_toInt_lt, i0] at h1
      by_cases h2 : 99 < p
      · rw [if_pos h2, if_neg (fun hh => by rw [Int32.lt_iff_toInt_lt, show (99 : Int32).toInt = 99 from by decide] at h2; omega)]
        exact ⟨S, rfl, h, no⟩
      · rw [if_neg h2, Option.bind_some, gi_k hwd.1.1, hwd.2.1.2.2.1, Option.bind_some]
        rw [Int32.lt_iff_toInt_lt, show (99 : Int32).toInt = 99 from by decide] at h2
        have hn := nI_ofInt (p := p) (by omega)
        generalize hN : p.toInt.toNat = N at hn
        have e9 : nI (wTk (aW A)) + p = nI (wTk (aW A) + N) := by rw [hn, nI_add]
        rw [e9]
        by_cases h3 : wTk (aW A) + N ≤ 999
        · rw [if_pos (show nI (wTk (aW A) + N) ≤ (999 : Int32) from nI_le (b := 999) h3 (by omega)), t4, Option.bind_some, Option.bind_some]
          have hs480 := sumF_480 (S := S) (z := z) hg
          have hph := phi_le (aCnt A) (aW A) hc4
          obtain ⟨S7, e7, C7, w7, _, _, s7⟩ := copyA (X := X) (c := 1920 + c) h hg (Rm_mono hR (by omega)) (fun i _ => rfl)
          have hR7 : Rm z X (phi (aCnt A) (aW A) + c) S7 := Rm_mono (Rm_step (d := 1920 + c) (Rm_mono hR (by omega)) s7) (by omega)
          obtain ⟨S8, c8, e8, a1, a2, a3, a4, a5⟩ := later_loopC (z := z) (X := X) (c := c) (N := N) (c2 := k) (cnt := aCnt A) (ties := aTies A) hg.2.2.2.1 (by omega) N 0 FU (aW A) S7 (by omega) (by omega) C7.1 C7.2.1 hR7 C7.2.2.2.2.1 w7 hg.2.2.1
          have e8' : LX11_later_51 X z p k FU 0 S7 = some S8 := by rw [hn]; exact e8
          have C8 : CR S8 z A K fi ch := CR_ah C7 hg a5 (fun x hx => Hq_a hx) a1 (itT_pre _ _ _ _) a2
          rw [e7, Option.bind_some, e8', Option.bind_some, (TpS_g C8.2.1).2.2.2.2.1, Option.bind_some, gr_k a2.1.1 a2.1.2.1.2.2.1, Option.bind_some, cal_k (TxL_kd a2.2.2.2.1), askTx a2.2.2.2.1, Option.bind_some, (srvX_get a3.2.2.2.2.2.1 hg.2.2.2.1 (row_le a3)).1]
          refine ⟨S8, ?_, C8, Cst_mono (Cst_tr (Cst_of s7) (Cst_of a5)) (by omega)⟩
          by_cases hk1 : -1 ≤ k.toInt
          · rw [if_pos ⟨by omega, ⟨by omega, by omega⟩, by omega, hk1⟩]
          · rw [if_neg (fun hh => hk1 hh.2.2.2)]
            unfold askT
            rw [if_neg (fun e => hk1 (by rw [e]; decide)), if_neg (fun hh => hk1 (by omega))]
        · rw [if_neg (show ¬ nI (wTk (aW A) + N) ≤ (999 : Int32) from nI_ge (a := 999) (by omega) (by omega)), if_neg (fun hh => h3 (by omega))]
          exact ⟨S, rfl, h, no⟩
theorem quiet_loopC {cnt ties : Nat} {told : List Int32} (htd : ∀ v ∈ told, okP v) : ∀ (d i m : Nat) (W : Wd) (S : CS), i + d + 1 = 100 → d + 1 < m → wTk W ≤ 999 → Wf S → TpS S z → Rm z X (phi cnt W + c) S → ShC S (z + 6) (z + 22) told (wRow W) → WdC S (z + 412) (z + 22) (z + 6) cnt ties told W false → Good cnt ties told.length W →
    ∃ t v S' c' W', LX11_quiet_26 X z m (nI i) S = some (t, v, S') ∧ (if wayN cnt (quietL ties cnt (d + 1) i W).2 = 0 then t = 0 ∧ v = nI (quietL ties cnt (d + 1) i W).1 else t ≠ 0) ∧ wRow W <+: wRow W' ∧ ShC S' (z + 6) (z + 22) told (wRow W') ∧ WdC S' (z + 412) (z + 22) (z + 6) cnt ties told W' false ∧ c' ≤ phi cnt W ∧ Sg z (Hq (z + 412) (z + 6) (z + 22)) c' S S' := by
  intro d
  induction d with
  | zero =>
    intro i m W S hi hm htk hW hT hR hsh hC hg
    obtain ⟨m, rfl⟩ : ∃ j, m = j + 1 + 1 := ⟨m - 2, by omega⟩
    have hc4 := hg.1
    have hwl := way_le hg
    have t4 := (TpS_g hT).2.2.2.2.1
    rw [LX11_quiet_26]
    rw [if_neg (show ¬ (99 : Int32) < nI i from nI_nlt (a := 99) (by omega) (by omega)), t4, Option.bind_some, gi_k hC.1.1, hC.2.1.2.2.1, Option.bind_some, if_neg (show ¬ (999 : Int32) < nI (wTk W) from nI_nlt (a := 999) (by omega) (by omega)), Option.bind_some, cal_k hC.1.1, way_W hC hg, Option.bind_some, quietL]
    rw [if_pos (Or.inr (Or.inl (by omega)))]
    by_cases hw0 : wayN cnt W = 0
    · rw [if_pos (show nI (wayN cnt W) = (0 : Int32) by rw [hw0]; rfl)]
      exact ⟨0, nI i, S, 0, W, rfl, (by rw [if_pos (show wayN cnt (i, W).snd = 0 from hw0)]; exact ⟨rfl, rfl⟩), List.prefix_refl _, hsh, hC, by omega, Sg_refl hW⟩
    · rw [if_neg (nI_ne0 (by omega) (by omega)), Option.bind_some]
      obtain ⟨S2, c1, e1, a1, a2, a3, a4, a5⟩ := ahead_tick (X := X) (c := c) htd hW hR hsh hC hg
      rw [e1, Option.bind_some, nI_1, LX11_quiet_26, if_pos (show (99 : Int32) < nI (i + 1) from nI_lt (a := 99) (by omega) (by omega))]
      exact ⟨1, nI (i + 1), S2, c1, _, rfl, (by rw [if_neg (show ¬ wayN cnt (i, W).snd = 0 from hw0)]; decide), tick_pre ties cnt W, a1, a2, by omega, a5⟩
  | succ d ih =>
    intro i m W S hi hm htk hW hT hR hsh hC hg
    obtain ⟨m, rfl⟩ : ∃ j, m = j + 1 + 1 := ⟨m - 2, by omega⟩
    have hc4 := hg.1
    have hwl := way_le hg
    have t4 := (TpS_g hT).2.2.2.2.1
    rw [LX11_quiet_26]
    rw [if_neg (show ¬ (99 : Int32) < nI i from nI_nlt (a := 99) (by omega) (by omega)), t4, Option.bind_some, gi_k hC.1.1, hC.2.1.2.2.1, Option.bind_some, if_neg (show ¬ (999 : Int32) < nI (wTk W) from nI_nlt (a := 999) (by omega) (by omega)), Option.bind_some, cal_k hC.1.1, way_W hC hg, Option.bind_some, quietL]
    by_cases hw0 : wayN cnt W = 0
    · rw [if_pos (show nI (wayN cnt W) = (0 : Int32) by rw [hw0]; rfl), if_pos (show wayN cnt W = 0 ∨ 99 ≤ i ∨ 999 ≤ wTk W from Or.inl hw0)]
      exact ⟨0, nI i, S, 0, W, rfl, (by rw [if_pos (show wayN cnt (i, W).snd = 0 from hw0)]; exact ⟨rfl, rfl⟩), List.prefix_refl _, hsh, hC, by omega, Sg_refl hW⟩
    · rw [if_neg (nI_ne0 (by omega) (by omega)), Option.bind_some]
      obtain ⟨S2, c1, e1, a1, a2, a3, a4, a5⟩ := ahead_tick (X := X) (c := c) htd hW hR hsh hC hg
      have hT2 := TpS_Sg hW hT a5
      rw [e1, Option.bind_some, nI_1]
      by_cases ht9 : 999 ≤ wTk W
      · rw [if_pos (Or.inr (Or.inr ht9)), LX11_quiet_26, if_neg (show ¬ (99 : Int32) < nI (i + 1) from nI_nlt (a := 99) (by omega) (by omega)), (TpS_g hT2).2.2.2.2.1, Option.bind_some, gi_k a2.1.1, a2.2.1.2.2.1, Option.bind_some, if_pos (show (999 : Int32) < nI (wTk (tickW ties cnt W)) from nI_lt (a := 999) (by show 999 < wTk W + 1; omega) (by show wTk W + 1 < 2 ^ 31; omega))]
        exact ⟨1, nI (i + 1), S2, c1, _, rfl, (by rw [if_neg (show ¬ wayN cnt (i, W).snd = 0 from hw0)]; decide), tick_pre ties cnt W, a1, a2, by omega, a5⟩
      · rw [if_neg (show ¬ (wayN cnt W = 0 ∨ 99 ≤ i ∨ 999 ≤ wTk W) from fun hh => by omega)]
        obtain ⟨t, v, S', c', W', q1, q2, q3, q4, q5, q6, q7⟩ := ih (i + 1) (m + 1) (tickW ties cnt W) S2 (by omega) (by omega) (by show wTk W + 1 ≤ 999; omega) a5.1 hT2 (Rm_step (c := c1) (d := phi cnt (tickW ties cnt W) + c) (Rm_mono hR (by omega)) a5) a1 a2 a3
        exact ⟨t, v, S', c1 + c', W', q1, q2, List.IsPrefix.trans (tick_pre ties cnt W) q3, q4, q5, by omega, Sg_trans a5 q7⟩
theorem quiet_C (h : CR S z A K fi ch) (hg : GA A) (hR : Rm z X (3840 + c) S) : ∃ S', f11_quiet X S z = some (qQuiet A, S') ∧ CR S' z A K fi ch ∧ Cst z 3840 S S' := by
  obtain ⟨hW, hT, hTp, hTf, hsh, hwd, ha, hk, hh, hc⟩ := id h
  have hc4 := hg.2.2.1.1
  have htk := hg.2.2.2.2.1
  have hFU := FU_gt
  have no : Cst z 3840 S S := Cst_mono (Cst_rf z S) (by omega)
  obtain ⟨t0, t1, t2, t3, t4, t5, t6, t7, t8, t9⟩ := TpS_g hT
  unfold f11_quiet qQuiet
  rw [t3, Option.bind_some, gi_k hwd.1.1, hwd.2.1.1, Option.bind_some]
  by_cases h0 : aCnt A = 0
  · rw [h0, if_pos (show nI 0 = (0 : Int32) from rfl), if_neg (fun hh => by omega)]
    exact ⟨S, rfl, h, no⟩
  · rw [if_neg (nI_ne0 (by omega) (by omega)), t4, Option.bind_some, Option.bind_some, if_pos (show 0 < aCnt A by omega)]
    have hs480 := sumF_480 (S := S) (z := z) hg
    have hph := phi_le (aCnt A) (aW A) hc4
    obtain ⟨S7, e7, C7, w7, _, _, s7⟩ := copyA (X := X) (c := 1920 + c) h hg (Rm_mono hR (by omega)) (fun i _ => rfl)
    have hR7 : Rm z X (phi (aCnt A) (aW A) + c) S7 := Rm_mono (Rm_step (d := 1920 + c) (Rm_mono hR (by omega)) s7) (by omega)
    obtain ⟨t, v, S8, c8, W8, q1, q2, q3, q4, q5, q6, q7⟩ := quiet_loopC (z := z) (X := X) (c := c) (cnt := aCnt A) (ties := aTies A) hg.2.2.2.1 99 0 FU (aW A) S7 (by omega) (by omega) htk C7.1 C7.2.1 hR7 C7.2.2.2.2.1 w7 hg.2.2.1
    have C8 : CR S8 z A K fi ch := CR_ah C7 hg q7 (fun x hx => Hq_a hx) q4 q3 q5
    rw [e7, Option.bind_some, show LX11_quiet_26 X z FU 0 S7 = some (t, v, S8) from q1, bn3_s]
    have hcs : Cst z 3840 S S8 := Cst_mono (Cst_tr (Cst_of s7) (Cst_of q7)) (by omega)
    by_cases hw0 : wayN (aCnt A) (quietL (aTies A) (aCnt A) 100 0 (aW A)).2 = 0
    · rw [if_pos hw0] at q2 ⊢
      rw [if_pos q2.1, q2.2]
      exact ⟨S8, rfl, C8, hcs⟩
    · rw [if_neg hw0] at q2 ⊢
      rw [if_neg q2]
      exact ⟨S8, rfl, C8, hcs⟩
end AS
