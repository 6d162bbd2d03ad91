/-! ===== PART II, the class: back ===== -/
section BK
variable {S S' : CS} {z fi ch c : Nat} {A A' : St} {K K' : Nat → Option Nat} {H : Nat → Prop} {X : Nat × Nat}
theorem back_C (h : CR S z A K fi ch) (hg : GA A) (hch : ch < 1000) (hR : Rm z X (5504 + c) S) : ∃ S' ch', f11_back X S z = some ((aBack A).1, S') ∧ CR S' z (aBack A).2 K fi ch' ∧ ch' ≤ ch + 1 ∧ Cst z 5504 S S' := by
  obtain ⟨hW, hT, hTp, hTf, hsh, hwd, ha, hk, ⟨hf, h1, h2, hhist⟩, ⟨hc1, hc2, hc3, hc4⟩⟩ := id h
  have zt := z_top hW hT
  obtain ⟨d0, d1, d2, d3⟩ := hT.2.2.2.2.1
  obtain ⟨t0, t1, t2, t3, t4, t5, t6, t7, t8, t9⟩ := TpS_g hT
  have hL20 := hg.2.2.2.2.2.2.2.1
  unfold f11_back aBack
  rw [t5, Option.bind_some, t3, Option.bind_some, cal_k d0]
  unfold f2_restore
  rw [gi_k d0, h2, Option.bind_some]
  cases hH : aHist A with
  | nil =>
    rw [hH] at h2
    rw [List.length_nil, if_pos (show nI 0 ≤ (0 : Int32) by decide), Option.bind_some, Option.bind_some, if_pos (show nI 0 = (0 : Int32) from rfl), bn2_s, if_pos rfl]
    obtain ⟨S', r1, r2, r3⟩ := refuseF_C h hg (k := 5) (by omega)
    rw [show cal S 11 z (f11_refuseFlatly S z 5) = some (0, S') from r1, bn2_s, if_pos rfl, bn2_s]
    exact ⟨S', ch, rfl, r2, by omega, Cst_mono r3 (by omega)⟩
  | cons W Hr =>
    rw [hH] at h2 hhist hL20
    rw [List.length_cons] at h2 hL20 hhist ⊢
    generalize hL : Hr.length = L at *
    have hgW := hg.2.2.2.2.2.2.2.2.1 W (by rw [hH]; exact List.mem_cons_self)
    generalize hq : (fi + L) % 20 = q
    have hq20 : q < 20 := by omega
    obtain ⟨k, hkq, wk⟩ := hhist 0 W rfl
    rw [show (fi + (L + 1) + 19 - 0) % 20 = q by omega] at hkq
    obtain ⟨l1, l2, l3, l4, l5⟩ := (hk q hq20).2 k hkq
    have e1 : nI fi + nI (L + 1) - 1 - (nI fi + nI (L + 1) - 1) / 20 * 20 = nI q := by
      rw [nI_add, show nI (fi + (L + 1)) - 1 = nI (fi + L) from nI_sub (b := 1) (by omega), mod20 (by omega), hq]
    have hld : ldn S 19 (z + 598) (nI q) = some (some k) := by
      unfold ldn
      rw [if_pos ⟨d2, nI_in (show q < cN S (z + 598) by omega) (by omega)⟩, nI_clamp (by omega), (hk q hq20).1, hkq]
    rw [if_neg (z_nle (by omega) (by omega)), gi_k d0, h1, Option.bind_some, Option.bind_some, e1, Option.bind_some, Option.bind_some, if_neg (nI_ne0 (by omega) (by omega)), gr_k d0 d1, Option.bind_some, hld, Option.bind_some, if_neg (by simp), Option.bind_some, show nI (L + 1) - 1 = nI L from nI_sub (b := 1) (by omega), pi_k d0, Option.bind_some]
    have s1 : Sg z (fun x => x = z + 597) 0 S (setI S (z + 597) 2 (nI L)) := Sg_setI hW rfl
    rw [gi_k (S := setI S _ _ _) d0, show cI (setI S (z + 597) 2 (nI L)) (z + 597) 3 = nI ch from by rw [cI_set, if_neg (by omega)]; exact hc1, Option.bind_some, nI_1, pi_I d0, Option.bind_some]
    have s2 := Sg_trans s1 (Sg_setI (k := 3) (v := nI (ch + 1)) s1.1 rfl)
    have g1 : cI (setI (setI S (z + 597) 2 (nI L)) (z + 597) 3 (nI (ch + 1))) (z + 597) 1 = nI fi ∧ cI (setI (setI S (z + 597) 2 (nI L)) (z + 597) 3 (nI (ch + 1))) (z + 597) 2 = nI L ∧ cI (setI (setI S (z + 597) 2 (nI L)) (z + 597) 3 (nI (ch + 1))) (z + 597) 3 = nI (ch + 1) := by
      refine ⟨?_, ?_, cI_self _ _ _ _⟩
      · rw [cI_set, if_neg (by omega), cI_set, if_neg (by omega)]; exact h1
      · rw [cI_set, if_neg (by omega), cI_self]
    generalize hS2 : setI (setI S (z + 597) 2 (nI L)) (z + 597) 3 (nI (ch + 1)) = S2 at s2 g1 ⊢
    have hT2 := TpS_Sg hW hT s2
    obtain ⟨D0, D1, D2, D3⟩ := hT2.2.2.2.2.1
    have hk2 := KpC_Sg hW hT hk s2 (by omega) (fun j k hj hkj x x1 x2 => by have := K_lo hk hj hkj; omega)
    have wk2 := WdC_Sg hW wk s2 (fun x x1 x2 => by omega)
    have wd2 := WdC_Sg hW hwd s2 (fun x x1 x2 => by omega)
    have hldr : ldr S2 19 (z + 598) (nI q) = some k := ldr_k D2 (by omega) (by omega) (by rw [(hk2 q hq20).1, hkq])
    rw [gr_k D0 D1, Option.bind_some, hldr, Option.bind_some, cal_k wd2.1.1]
    have hsum := sum_cp hgW.1 S2 k (z + 227)
    have hR2 : Rm z X (5504 + c) S2 := Rm_step (c := 0) (d := 5504 + c) (by rw [Nat.zero_add]; exact hR) s2
    obtain ⟨S', e', W', _, _, s'⟩ := copy_C (z := z) (X := X) (wh := true) (c := c) (f := fun i => cpE S2 (k + 5 + 45 * i) (z + 227 + 5 + 45 * i) (wE W i) true) (ClsC_w z) (fun h => h) (by omega) hgW.1 s2.1 (Rm_mono hR2 (by omega)) wk2 wd2.1 (fun i hi => (wd2.2.2.2.2.2 i hi).1) (fun i _ => rfl)
    rw [show f10_copy X S2 (z + 227) k 1 = some S' from e', Option.bind_some, bn2_s, if_neg (by decide), bn2_s]
    have hin : ∀ x, Hv (z + 227) x → z + 227 ≤ x ∧ x < z + 412 := fun x hx => by have := Hv_in hx; omega
    have ss : Sg z (fun x => x = z + 597 ∨ (z + 227 ≤ x ∧ x < z + 412)) (sumF (fun i => cpE S2 (k + 5 + 45 * i) (z + 227 + 5 + 45 * i) (wE W i) true) 0 (aCnt A)) S S' := by
      have := Sg_trans (Sg_mono hW s2 (H' := fun x => x = z + 597 ∨ (z + 227 ≤ x ∧ x < z + 412)) (fun x hx => Or.inl hx) (Nat.le_refl _)) (Sg_mono s2.1 s' (H' := fun x => x = z + 597 ∨ (z + 227 ≤ x ∧ x < z + 412)) (fun x hx => Or.inr (hin x hx)) (Nat.le_refl _))
      rw [Nat.zero_add] at this
      exact this
    have nk : ∀ j k, j < 20 → K j = some k → ∀ x, k ≤ x → x < k + 185 → ¬ (x = z + 597 ∨ (z + 227 ≤ x ∧ x < z + 412)) := fun j k hj hkj x x1 x2 => by have := K_lo hk hj hkj; omega
    have i597 : cI S' (z + 597) = cI S2 (z + 597) := fld_Fo s2.1 D0 (by omega) s'.2.1 (fun hx => by have := hin _ hx; omega)
    have e0 := hT.2.2.2.2.2.1
    have f0 := hT.2.2.2.2.2.2.1
    have i599 : cI S' (z + 599) = cI S (z + 599) := fld_Fo hW e0.1 (by omega) ss.2.1 (by omega)
    have a603 : cA S' (z + 603) = cA S (z + 603) := arr_Fo hW e0.2.2.2.2.1 f0.2.2.2.1.1 ss.2.1 (by omega)
    have a604 : cA S' (z + 604) = cA S (z + 604) := arr_Fo hW e0.2.2.2.2.2.1 f0.2.2.2.2.1.1 ss.2.1 (by omega)
    refine ⟨S', ch + 1, rfl, ⟨ss.1, TpS_Sg hW hT ss, TpT_Sg hW hT hTp ss (by omega), TpF_Sg hW hT hTf ss (by omega), ?_, W', AhC_Sg hW ha ss (fun x x1 x2 => by omega), KpC_Sg hW hT hk ss (by omega) nk, ⟨hf, by rw [i597]; exact g1.1, by rw [i597, g1.2.1, ← hL]; rfl, fun j W1 hj => ?_⟩, ⟨by rw [i597]; exact g1.2.2, by rw [i599, a603, a604]; exact hc2, fun hh => ?_, ?_⟩⟩, by omega, Cst_mono (Cst_of ss) (by omega)⟩
    · exact ShC_pre (ShC_Sg hW hsh ss (by omega) (fun x x1 x2 => by omega)) hgW.2.2
    · have hj' : (W :: Hr)[j + 1]? = some W1 := hj
      obtain ⟨k1, q1, q2⟩ := hhist (j + 1) W1 hj'
      refine ⟨k1, ?_, WdC_Sg hW q2 ss (nk _ k1 (Nat.mod_lt _ (by omega)) q1)⟩
      show K ((fi + Hr.length + 19 - j) % 20) = some k1
      rw [hL, show fi + L + 19 - j = fi + (L + 1) + 19 - (j + 1) by omega]
      exact q1
    · rw [i599] at hh
      exact absurd hh (ch_new hch hc4)
    · rw [i599]
      rcases hc4 with hc4 | ⟨c', q1, q2⟩
      · exact Or.inl hc4
      · exact Or.inr ⟨c', by omega, q2⟩
end BK
