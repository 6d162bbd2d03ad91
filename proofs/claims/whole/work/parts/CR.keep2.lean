/-! ===== PART II, the class: the world is kept, the world is given back ===== -/
section KQ
variable {S S' : CS} {z fi ch c k0 : Nat} {A A' : St} {K K' : Nat → Option Nat} {H : Nat → Prop} {X : Nat × Nat} {Hs : List Wd} {p : Nat → Nat}
theorem sum_cp {cnt ties tl : Nat} {W : Wd} (hg : Good cnt ties tl W) (S : CS) (a b : Nat) : sumF (fun i => cpE S (a + 5 + 45 * i) (b + 5 + 45 * i) (wE W i) true) 0 cnt ≤ 5504 := by
  have hc4 := hg.1
  have := sumF_le (f := fun i => cpE S (a + 5 + 45 * i) (b + 5 + 45 * i) (wE W i) true) (B := 1376) cnt 0 (fun i hi => (cpE_le hg (by omega) S _ _).1)
  have h2 : cnt * 1376 ≤ 4 * 1376 := Nat.mul_le_mul_right _ hc4
  omega
theorem Hv_in {d x : Nat} (h : Hv d x) : d ≤ x ∧ x < d + 185 := by rcases h with h | h | h <;> omega
theorem nI_inj {a b : Nat} (h : nI a = nI b) (ha : a < 2 ^ 31) (hb : b < 2 ^ 31) : a = b := by
  have := congrArg Int32.toInt h
  rw [nI_toInt ha, nI_toInt hb] at this
  omega
theorem ch_new {ch : Nat} {kn : Int32} (hch : ch < 1000) (h : kn = -1 ∨ ∃ c', c' ≤ ch ∧ kn = nI c') : kn ≠ nI (ch + 1) := fun e => by
  rcases h with h | ⟨c', h1, h2⟩
  · rw [h] at e
    have := congrArg Int32.toInt e
    rw [nI_toInt (by omega), show (-1 : Int32).toInt = -1 from by decide] at this
    omega
  · rw [h2] at e
    have := nI_inj e (by omega) (by omega)
    omega
theorem keep_C (h : CR S z A K fi ch) (hg : GA A) (hch : ch < 1000) (hR : Rm z X (117162 * (20 - made K) + (5504 + c)) S) : ∃ S' K' fi', cal S 2 (z + 597) (f2_keep X S (z + 597) (z + 227)) = some S' ∧ CR S' z (keepA A) K' fi' (ch + 1) ∧ Rm z X (117162 * (20 - made K') + c) S' ∧ cI S' (z + 599) 9 ≠ nI (ch + 1) ∧ (∀ x l, z + 654 ≤ x → x < z + 660 → OpL S x l → OpL S' x l) := by
  obtain ⟨hW, hT, hTp, hTf, hsh, hwd, ha, hk, ⟨hf, h1, h2, hhist⟩, ⟨hc1, hc2, hc3, hc4⟩⟩ := id h
  have zt := z_top hW hT
  obtain ⟨d0, d1, d2, d3⟩ := hT.2.2.2.2.1
  have hL20 := hg.2.2.2.2.2.2.2.1
  generalize hL : (aHist A).length = L at *
  generalize hq : (fi + L) % 20 = q
  have hq20 : q < 20 := by omega
  rw [cal_k d0]
  unfold f2_keep
  rw [gi_k d0, hc1, Option.bind_some, nI_1, pi_k d0, Option.bind_some]
  have s2 : Sg z (fun x => x = z + 597) 0 S (setI S (z + 597) 3 (nI (ch + 1))) := Sg_setI hW rfl
  have kk : ∀ j, j ≠ 3 → cI (setI S (z + 597) 3 (nI (ch + 1))) (z + 597) j = cI S (z + 597) j := fun j hj => by rw [cI_set, if_neg (by omega)]
  rw [gi_k (S := setI S _ _ _) d0, Option.bind_some, kk 1 (by omega), h1, gi_k (S := setI S _ _ _) d0, Option.bind_some, kk 2 (by omega), h2, Option.bind_some, nI_add, mod20 (by omega), hq]
  -- the count of what is kept
  have s6 : ∃ S6 fi', (if (20 : Int32) ≤ nI L then ((some (nI fi)).bind fun v8 => (pi (setI S (z + 597) 3 (nI (ch + 1))) 2 (z + 597) 1 ((v8 + 1) - (v8 + 1) / 20 * 20)).bind fun S9 => some S9) else ((some (nI L)).bind fun v10 => (pi (setI S (z + 597) 3 (nI (ch + 1))) 2 (z + 597) 2 (v10 + 1)).bind fun S11 => some S11)) = some S6 ∧ fi' = (if 20 ≤ L then (fi + 1) % 20 else fi) ∧ cI S6 (z + 597) 1 = nI fi' ∧ cI S6 (z + 597) 2 = nI (min (L + 1) 20) ∧ cI S6 (z + 597) 3 = nI (ch + 1) ∧ Sg z (fun x => x = z + 597) 0 S S6 := by
    by_cases h20 : 20 ≤ L
    · rw [if_pos (show (20 : Int32) ≤ nI L from nI_le (a := 20) h20 (by omega)), Option.bind_some, nI_1, mod20 (by omega), pi_I d0, Option.bind_some]
      refine ⟨_, (fi + 1) % 20, rfl, by rw [if_pos h20], cI_self _ _ _ _, ?_, ?_, Sg_trans s2 (Sg_setI s2.1 rfl)⟩
      · rw [cI_set, if_neg (by omega), kk 2 (by omega), h2, show min (L + 1) 20 = L by omega]
      · rw [cI_set, if_neg (by omega), cI_self]
    · rw [if_neg (show ¬ (20 : Int32) ≤ nI L from nI_ge (b := 20) (by omega) (by omega)), Option.bind_some, nI_1, pi_I d0, Option.bind_some]
      refine ⟨_, fi, rfl, by rw [if_neg h20], ?_, ?_, ?_, Sg_trans s2 (Sg_setI s2.1 rfl)⟩
      · rw [cI_set, if_neg (by omega), kk 1 (by omega), h1]
      · rw [cI_self, show min (L + 1) 20 = L + 1 by omega]
      · rw [cI_set, if_neg (by omega), cI_self]
  obtain ⟨S6, fi', e6, hfi', g1, g2, g3, s6⟩ := s6
  -- what there is, without the oldest
  have ch0 : CH S z A ((aHist A).take 19) K (fun j => (fi + L + 19 - j) % 20) := ⟨hW, hT, hTp, hTf, hsh, hwd, ha, hk, fun j W hj => ⟨Nat.mod_lt _ (by omega), hhist j W (by rw [List.getElem?_take] at hj; split at hj; exact hj; cases hj)⟩⟩
  have lt19 : ∀ j W, ((aHist A).take 19)[j]? = some W → j < 19 ∧ j < L ∧ (aHist A)[j]? = some W := fun j W hj => by
    rw [List.getElem?_take] at hj
    split at hj
    · exact ⟨by assumption, by rw [← hL]; exact (List.getElem?_eq_some_iff.mp hj).1, hj⟩
    · cases hj
  have hpq : ∀ j W, ((aHist A).take 19)[j]? = some W → (fi + L + 19 - j) % 20 ≠ q := fun j W hj => by have := lt19 j W hj; omega
  have ch6 : CH S6 z A ((aHist A).take 19) K (fun j => (fi + L + 19 - j) % 20) := CH_step (k0 := cZ S) ch0 s6 (fun x hx => Or.inl hx) (by omega) (fun j k W hj hkj => Or.inl (((hk _ (Nat.mod_lt _ (by omega))).2 k hkj).2.1)) (KpC_Sg hW hT hk s6 (by omega) (fun j k hj hkj x x1 x2 => by have := K_lo hk hj hkj; omega)) (fun _ _ _ => rfl)
  have hT6 := ch6.2.1
  obtain ⟨D0, D1, D2, D3⟩ := hT6.2.2.2.2.1
  have hk6 := (ch6.2.2.2.2.2.2.2.1 q hq20).1
  have hld : ldn S6 19 (z + 598) (nI q) = some (K q) := by
    unfold ldn
    rw [if_pos ⟨D2, nI_in (show q < cN S6 (z + 598) by omega) (by omega)⟩, nI_clamp (by omega), hk6]
  obtain ⟨S14, kq, K', e14, hKq, ch14, dis14, R14, oth14, i14, cm14, op14⟩ := slot_C (X := X) (c := 5504 + c) ch6 hq20 hpq (Rm_step (c := 0) (d := 117162 * (20 - made K) + (5504 + c)) (by rw [Nat.zero_add]; exact hR) s6)
  obtain ⟨hW14, hT14, hTp14, hTf14, hsh14, hwd14, ha14, hk14, hh14⟩ := id ch14
  obtain ⟨E0, E1, E2, E3⟩ := hT14.2.2.2.2.1
  obtain ⟨l1, l2, l3, l4, l5⟩ := (hk14 q hq20).2 kq hKq
  have hldr : ldr S14 19 (z + 598) (nI q) = some kq := ldr_k E2 (by omega) (by omega) (by rw [(hk14 q hq20).1, hKq])
  rw [e6, Option.bind_some, gr_k D0 D1, Option.bind_some, hld, Option.bind_some]
  rw [gr_k D0 D1] at e14
  rw [e14, Option.bind_some, gr_k E0 E1, Option.bind_some, hldr, Option.bind_some, cal_k l3.1]
  have hsum := sum_cp hg.2.2.1 S14 (z + 227) kq
  obtain ⟨S', e', W', _, _, s'⟩ := copy_C (z := z) (X := X) (wh := true) (c := c) (f := fun i => cpE S14 (z + 227 + 5 + 45 * i) (kq + 5 + 45 * i) (wE (aW A) i) true) (ClsC_k z l1) (fun h => h) (by omega) hg.2.2.1 hW14 (Rm_mono R14 (by omega)) hwd14 l3 l4 (fun i _ => rfl)
  rw [show f10_copy X S14 kq (z + 227) 1 = some S' from e', Option.bind_some]
  have hin : ∀ x, Hv kq x → kq ≤ x ∧ x < kq + 185 := fun x hx => Hv_in hx
  have hK' : KpC S' z K' := by
    intro j hj
    have k598 := E2
    obtain ⟨b1, b2⟩ := hk14 j hj
    refine ⟨by rw [((s'.2.1.2.1 (z + 598) (kd_lt hW14.1 E2 (by omega))).2.2.2 (fun hx => by have := hin _ hx; omega)).2.2]; exact b1, fun k hkj => ?_⟩
    obtain ⟨c1, c2, c3, c4, c5⟩ := b2 k hkj
    have := s'.2.1.1
    refine ⟨c1, by omega, WdS_Sg hW14 c3 s', fun i hi => ?_, c5⟩
    by_cases hjq : j = q
    · have : k = kq := by rw [hjq, hKq] at hkj; exact (Option.some.inj hkj).symm
      rw [this]; exact (W'.2.2.2.2.2 i hi).1
    · have := l5 j k hj hjq hkj
      exact EdJ_Sg hW14 (c4 i hi) s' (fun x hx hx2 => by have := hin _ hx2; omega)
  have ch' : CH S' z A ((aHist A).take 19) K' (fun j => (fi + L + 19 - j) % 20) := CH_step (k0 := kq) ch14 s' (fun x hx => Or.inr (Or.inr (Or.inr (hin x hx)))) l1 dis14 hK' (fun _ _ _ => rfl)
  obtain ⟨hWx, hTx, hTpx, hTfx, hshx, hwdx, hax, hkx, hhx⟩ := ch'
  have hi' : cI S' (z + 597) = cI S6 (z + 597) := by rw [fld_Fo hW14 E0 (by omega) s'.2.1 (fun hx => by have := hin _ hx; omega), i14]
  have e0 := hT.2.2.2.2.2.1
  have f0 := hT.2.2.2.2.2.2.1
  have e14' := hT14.2.2.2.2.2.1
  have f14' := hT14.2.2.2.2.2.2.1
  have i599 : cI S' (z + 599) = cI S (z + 599) := by
    rw [fld_Fo hW14 e14'.1 (by omega) s'.2.1 (fun hx => by have := hin _ hx; omega), (cm14 (z + 599) (by omega) (by omega)).1, fld_Fo hW e0.1 (by omega) s6.2.1 (by omega)]
  have a603 : cA S' (z + 603) = cA S (z + 603) := by
    rw [arr_Fo hW14 e14'.2.2.2.2.1 f14'.2.2.2.1.1 s'.2.1 (fun hx => by have := hin _ hx; omega), (cm14 (z + 603) (by omega) (by omega)).2, arr_Fo hW e0.2.2.2.2.1 f0.2.2.2.1.1 s6.2.1 (by omega)]
  have a604 : cA S' (z + 604) = cA S (z + 604) := by
    rw [arr_Fo hW14 e14'.2.2.2.2.2.1 f14'.2.2.2.2.1.1 s'.2.1 (fun hx => by have := hin _ hx; omega), (cm14 (z + 604) (by omega) (by omega)).2, arr_Fo hW e0.2.2.2.2.2.1 f0.2.2.2.2.1.1 s6.2.1 (by omega)]
  have hlen : (aHist (keepA A)).length = min (L + 1) 20 := by
    show ((aW A :: aHist A).take 20).length = _
    rw [List.length_take, List.length_cons, hL, Nat.min_comm]
  refine ⟨S', K', fi', rfl, ⟨hWx, hTx, hTpx, hTfx, hshx, hwdx, hax, hkx, ⟨by rw [hfi']; split <;> omega, by rw [hi']; exact g1, by rw [hi', hlen]; exact g2, fun j W hj => ?_⟩, ⟨by rw [hi']; exact g3, ?_, fun hh => ?_, ?_⟩⟩, ?_⟩
  · have hj' : ((aW A :: aHist A).take 20)[j]? = some W := hj
    rw [List.getElem?_take] at hj'
    split at hj'
    · rename_i hj20
      rw [hlen]
      cases j with
      | zero =>
        have : aW A = W := Option.some.inj hj'
        subst this
        have : (fi' + min (L + 1) 20 + 19 - 0) % 20 = q := by
          rw [hfi']
          split <;> omega
        rw [this]
        exact ⟨kq, hKq, W'⟩
      | succ j =>
        have hj2 : (aHist A)[j]? = some W := hj'
        have hjL : j < L := by rw [← hL]; exact (List.getElem?_eq_some_iff.mp hj2).1
        obtain ⟨_, k, q1, q2⟩ := hhx j W (by rw [List.getElem?_take, if_pos (by omega)]; exact hj2)
        have : (fi' + min (L + 1) 20 + 19 - (j + 1)) % 20 = (fi + L + 19 - j) % 20 := by
          rw [hfi']
          split <;> omega
        rw [this]
        exact ⟨k, q1, q2⟩
    · cases hj'
  · rw [i599, a603, a604]; exact hc2
  · rw [i599] at hh
    exact absurd hh (ch_new hch hc4)
  · rw [i599]
    rcases hc4 with hc4 | ⟨c', q1, q2⟩
    · exact Or.inl hc4
    · exact Or.inr ⟨c', by omega, q2⟩
  · refine ⟨?_, by rw [i599]; exact ch_new hch hc4, fun x l x1 x2 hx => OpL_Fo hW14 (op14 x l x1 x2 (OpL_Fo hW hx s6.2.1 (by omega))) s'.2.1 (fun hx => by have := hin _ hx; omega)⟩
    exact Rm_step (c := sumF (fun i => cpE S14 (z + 227 + 5 + 45 * i) (kq + 5 + 45 * i) (wE (aW A) i) true) 0 (aCnt A)) (Rm_mono R14 (by omega)) s'
end KQ
