/-! ===== PART II, the class: ticks, chance ===== -/
theorem land31 {v : Nat} (hv : v < 2 ^ 63) : lN v &&& (2147483647 : Int64) = lN (v % 2147483648) := by
  apply Int64.toBitVec_inj.mp
  show BitVec.ofNat 64 v &&& BitVec.ofNat 64 2147483647 = BitVec.ofNat 64 (v % 2147483648)
  apply BitVec.eq_of_toNat_eq
  rw [BitVec.toNat_and, BitVec.toNat_ofNat, BitVec.toNat_ofNat, BitVec.toNat_ofNat, Nat.mod_eq_of_lt (show v < 2 ^ 64 by omega), Nat.mod_eq_of_lt (show 2147483647 < 2 ^ 64 by decide), show (2147483647 : Nat) = 2 ^ 31 - 1 by decide, Nat.and_two_pow_sub_one_eq_mod, show (2147483648 : Nat) = 2 ^ 31 by decide, Nat.mod_eq_of_lt (show v % 2 ^ 31 < 2 ^ 64 by have := Nat.mod_lt v (show 2 ^ 31 > 0 by decide); omega)]
section AJ
variable {S S' : CS} {z fi ch c c0 : Nat} {A A' : St} {K K' : Nat → Option Nat} {H : Nat → Prop} {X : Nat × Nat}
theorem world_tick (h : CR S z A K fi ch) (hg : GA A) (hst : cI S (z + 599) 9 ≠ nI ch) (hR : Rm z X (phi (aCnt A) (aW A) + c) S) : ∃ S' c', cal S 10 (z + 227) (f10_runTick X S (z + 227)) = some S' ∧ CR S' z (sWd A (tickW (aTies A) (aCnt A) (aW A))) K fi ch ∧ cI S' (z + 599) 9 ≠ nI ch ∧ c' + phi (aCnt A) (tickW (aTies A) (aCnt A) (aW A)) ≤ phi (aCnt A) (aW A) ∧ Cst z c' S S' ∧ (∀ x l, z + 654 ≤ x → x < z + 660 → OpL S x l → OpL S' x l) := by
  obtain ⟨hW, hT, hTp, hTf, hsh, hwd, ha, hk, hh, hc⟩ := id h
  rw [cal_k hwd.1.1]
  obtain ⟨S2, c1, e1, a1, a2, a3, a4, a5⟩ := tick_C (X := X) (c := c) (ClsW_w z) hg.2.2.2.1 hW hR hsh hwd hg.2.2.1
  obtain ⟨C2, st2⟩ := CR_world h hst a5 (fun x hx => by
    rcases hx with h1 | h1 | h1 | h1 <;> omega) a1 a2
  exact ⟨S2, c1, e1, C2, st2, a4, Cst_of a5, fun x l x1 x2 hO => OpL_Fo hW hO a5.2.1 (fun hx => by rcases hx with h1 | h1 | h1 | h1 <;> omega)⟩
theorem ticks_loopC {N : Nat} {c2 : Int32} (hN : N ≤ 100) : ∀ (d i m : Nat) (A : St) (S : CS), i + d = N → d < m → CR S z A K fi ch → GA A → 0 < aCnt A → wTk (aW A) + d ≤ 999 → cI S (z + 599) 9 ≠ nI ch → Rm z X (phi (aCnt A) (aW A) + c) S →
    ∃ S' c', LX11_ticks_38 X z (nI N) c2 m (nI i) S = some S' ∧ CR S' z (sWd A (itT (aTies A) (aCnt A) d (aW A))) K fi ch ∧ cI S' (z + 599) 9 ≠ nI ch ∧ c' + phi (aCnt A) (itT (aTies A) (aCnt A) d (aW A)) ≤ phi (aCnt A) (aW A) ∧ Cst z c' S S' := by
  intro d
  induction d with
  | zero =>
    intro i m A S hi hm h hg hc0 ht hst hR
    obtain ⟨m, rfl⟩ : ∃ j, m = j + 1 := ⟨m - 1, by omega⟩
    unfold LX11_ticks_38
    rw [if_pos (nI_le (by omega) (by omega))]
    exact ⟨S, 0, rfl, h, hst, by rw [itT]; omega, Cst_rf z S⟩
  | succ d ih =>
    intro i m A S hi hm h hg hc0 ht hst hR
    obtain ⟨m, rfl⟩ : ∃ j, m = j + 1 := ⟨m - 1, by omega⟩
    obtain ⟨S2, c1, e1, C2, st2, a4, a5, _⟩ := world_tick (X := X) (c := c) h hg hst hR
    have hg2 : GA (sWd A (tickW (aTies A) (aCnt A) (aW A))) := GA_world hg hc0 (Good_tick (GA_good hg)) (by show wTk (aW A) + 1 ≤ 999; omega) (tick_pre _ _ _)
    obtain ⟨S', c2', e2, b1, b2, b3, b4⟩ := ih (i + 1) m (sWd A (tickW (aTies A) (aCnt A) (aW A))) S2 (by omega) (by omega) C2 hg2 hc0 (by show wTk (aW A) + 1 + d ≤ 999; omega) st2 (Rm_cst (c := c1) (d := phi (aCnt A) (tickW (aTies A) (aCnt A) (aW A)) + c) (Rm_mono hR (by omega)) a5)
    unfold LX11_ticks_38
    rw [if_neg (nI_ge (by omega) (by omega)), (TpS_g h.2.1).2.2.2.1, Option.bind_some, nI_1, e1, Option.bind_some, e2]
    refine ⟨S', c1 + c2', rfl, b1, b2, ?_, Cst_tr a5 b4⟩
    have b3' : c2' + phi (aCnt A) (itT (aTies A) (aCnt A) d (tickW (aTies A) (aCnt A) (aW A))) ≤ phi (aCnt A) (tickW (aTies A) (aCnt A) (aW A)) := b3
    rw [itT]
    omega
theorem ticks_A (h : CR S z A K fi ch) (hg : GA A) (hch : ch < 1000) (hR : Rm z X (117162 * (20 - made K) + (7600 + c)) S) (p : Int32) : ActR z X c ch (f11_ticks X S z p) (aTicks A p) := by
  obtain ⟨hW, hT, hTp, hTf, hsh, hwd, ha, hk, hh, hc⟩ := id h
  have hc4 := hg.2.2.1.1
  have htk := hg.2.2.2.2.1
  obtain ⟨t0, t1, t2, t3, t4, t5, t6, t7, t8, t9⟩ := TpS_g hT
  unfold f11_ticks aTicks
  rw [t3, Option.bind_some, cal_k hwd.1.1, canTick_W hwd.1 hwd.2.1 hc4 htk, Option.bind_some]
  by_cases hp : 0 < aCnt A ∧ (1 ≤ p.toInt ∧ p.toInt ≤ 99) ∧ (wTk (aW A) : Int) + p.toInt ≤ 999
  · rw [decide_eq_true hp, if_neg (show ¬ bI true = 0 by decide), if_pos hp, t5, Option.bind_some, Option.bind_some]
    obtain ⟨S6, K', fi', e6, C6, R6, st6, op6⟩ := keep_C (X := X) (c := 1920 + c) h hg hch (Rm_mono hR (by omega))
    have hg6 := GA_keepA hg hp.1
    obtain ⟨u0, u1, u2, u3, u4, u5, u6, u7, u8, u9⟩ := TpS_g C6.2.1
    have hwd6 := C6.2.2.2.2.2.1
    have hph := phi_le (aCnt A) (aW A) hc4
    have hpn := nI_ofInt (p := p) (by omega)
    obtain ⟨S8, c8, e8, C8, st8, b8, k8⟩ := ticks_loopC (z := z) (X := X) (c := 117162 * (20 - made K') + c) (N := p.toInt.toNat) (c2 := nI (wRow (aW A)).length) (by omega) p.toInt.toNat 0 FU (keepA A) S6 (by omega) (by rw [FU_eq]; omega) C6 hg6 hp.1 (by show wTk (aW A) + p.toInt.toNat ≤ 999; omega) st6 (Rm_mono R6 (by show phi (aCnt A) (aW A) + _ ≤ _; omega))
    rw [← hpn] at e8
    have hwd8 := C8.2.2.2.2.2.1
    have b8' : c8 + phi (aCnt A) (itT (aTies A) (aCnt A) p.toInt.toNat (aW A)) ≤ phi (aCnt A) (aW A) := b8
    have n8 : cI S8 (z + 227) 11 = nI (wRow (itT (aTies A) (aCnt A) p.toInt.toNat (aW A))).length := hwd8.2.1.2.2.2.2.2
    have n6 : cI S6 (z + 227) 11 = nI (wRow (aW A)).length := hwd6.2.1.2.2.2.2.2
    have hl := (itT_pre (aTies A) (aCnt A) p.toInt.toNat (aW A)).length_le
    rw [e6, Option.bind_some, u3, Option.bind_some, gi_k hwd6.1.1, n6, Option.bind_some, show LX11_ticks_38 X z p (nI (wRow (aW A)).length) FU 0 S6 = some S8 from e8, Option.bind_some, (TpS_g C8.2.1).2.2.2.1, Option.bind_some, gi_k hwd8.1.1, n8, Option.bind_some, nI_sub hl]
    exact ⟨S8, K', fi', ch + 1, rfl, C8, by omega, Rm_cst (c := c8) (d := 117162 * (20 - made K') + c) (Rm_mono R6 (by omega)) k8⟩
  · rw [decide_eq_false hp, if_pos (show bI false = 0 from rfl), if_neg hp]
    exact act_ref (k := 4) h hg (by omega) hR
theorem seed_set (sd : Nat) (h : CR S z A K fi ch) (hg : GA A) : CR (setI S z 13 (nI sd)) z (sSd A sd) K fi ch := by
  obtain ⟨hW, hT, hTp, ⟨f1, f2, f3, f4⟩, _⟩ := id h
  have s1 : Sg z (fun y => y = z) 0 S (setI S z 13 (nI sd)) := Sg_setI hW rfl
  have k13 : ∀ j, j ≠ 13 → cI (setI S z 13 (nI sd)) z j = cI S z j := fun j hj => by rw [cI_set, if_neg (by omega)]
  exact CR_F h hg s1 (fun x hx => Or.inl hx) rfl rfl rfl rfl (TpT_Sg hW hT hTp s1 (by omega)) ⟨by rw [k13 11 (by omega)]; exact f1, by rw [k13 12 (by omega)]; exact f2, f3, by rw [cI_self]; rfl⟩
/-- a number is drawn -/
theorem draw_C {k : Nat} (h : CR S z A K fi ch) (hg : GA A) (hk : 0 < k) (hk2 : k < 1000) : ∃ S', cal S 11 z (f11_draw S z (nI k)) = some (nI (seedN (aSeed A) / 64 % k), S') ∧ CR S' z (sSd A (seedN (aSeed A))) K fi ch ∧ cI S' (z + 599) 9 = cI S (z + 599) 9 ∧ Sg z (fun y => y = z) 0 S S' := by
  obtain ⟨hW, hT, hTp, ⟨f1, f2, f3, f4⟩, _⟩ := id h
  have hs := hg.2.2.2.2.2.2.2.2.2.2.2.2
  have hs2 := seedN_lt (aSeed A)
  have s1 : Sg z (fun y => y = z) 0 S (setI S z 13 (nI (seedN (aSeed A)))) := Sg_setI hW rfl
  have e1 : ((1103515245 : Int64) * (nI (aSeed A)).toInt64 + (12345 : Int64)) &&& (2147483647 : Int64) = lN (seedN (aSeed A)) := by
    rw [nI_l hs, show (1103515245 : Int64) = lN 1103515245 from rfl, show (12345 : Int64) = lN 12345 from rfl, lN_mul, lN_add, land31 (by omega)]
    rfl
  refine ⟨setI S z 13 (nI (seedN (aSeed A))), ?_, seed_set _ h hg, by rw [cI_set, if_neg (by omega)], s1⟩
  rw [cal_k hT.1]
  unfold f11_draw
  rw [gi_k hT.1, f4, Option.bind_some, e1, lN_i, pi_k hT.1, Option.bind_some, if_neg (z_nle hk (by omega)), nI_l (by omega), if_neg (show ¬ lN k = (0 : Int64) from fun hh => by
    have h2 : lN k = lN 0 := hh
    rw [lN_eq (by omega) (by omega)] at h2
    omega), show (64 : Int64) = lN 64 from rfl, pk_lDiv (by omega) (by omega) (by omega), pk_lRem (by omega) (by omega) (by omega), lN_i, Option.bind_some]
theorem marks_join {A B : List Int32} (hA : okO A) (hB : okO B) (ho : newL A = oldL B) : wgt (some (joinC A B)) ≤ wgt (some A) + 2 * (putsL B + cutsN B) := by
  obtain ⟨u1, u2, u3, u4, u5⟩ := join_ok hA hB ho
  simp only [wgt]
  omega
theorem phE_edit {E : Ed} {op : List Int32} {kind : Nat} (hop : okO op) (ho : oldL op = (eTxt E).length) (h1 : putsL op + cutsN op ≤ 1) (hB : ∀ b, eBuf E = some b → okO b ∧ newL b = oldL op) (hpl : ePnd E = none → eLft E = none ∧ eBuf E = none) : phE (editE E op kind) ≤ phE E + 3 := by
  have hw : wgt (some op) ≤ 3 := by simp only [wgt]; omega
  have h0 : ePnd (txtE (stkK E op kind) op true) = ePnd E ∧ eLft (txtE (stkK E op kind) op true) = eLft E ∧ eBuf (txtE (stkK E op kind) op true) = eBuf E := by
    unfold stkK
    split
    · exact ⟨rfl, rfl, rfl⟩
    · split
      · exact ⟨rfl, rfl, rfl⟩
      · exact ⟨rfl, rfl, rfl⟩
  obtain ⟨a1, a2, a3⟩ := h0
  unfold editE
  generalize txtE (stkK E op kind) op true = F at a1 a2 a3
  unfold giveE
  rw [a1]
  cases hp : ePnd E with
  | none =>
    obtain ⟨l1, l2⟩ := hpl hp
    show (if (some (eDel F)).isSome then wgt (some op) else 0) + wgt (eBuf F) ≤ _
    rw [a3, l2, if_pos (show (some (eDel F)).isSome = true from rfl)]
    simp only [wgt] at hw ⊢
    omega
  | some p =>
    rw [a3]
    show (if (eLft F).isSome then wgt (ePnd F) else 0) + wgt (some _) ≤ _
    rw [a2, a1]
    unfold phE
    cases hb : eBuf E with
    | none =>
      dsimp only
      simp only [wgt] at hw ⊢
      omega
    | some b =>
      obtain ⟨b1, b2⟩ := hB b hb
      have := marks_join b1 hop b2
      dsimp only
      omega
end AJ
