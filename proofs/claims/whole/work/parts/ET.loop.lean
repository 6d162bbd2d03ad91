/-! ===== PART II: the law's loop goes through ===== -/
section TV
variable {S S' : CS} {M M' : MS} {z r Ln : Nat} {X : Nat × Nat} {xs : Nat → Int32} {i v1 v2 v3 v4 v5 : Int32}
theorem Pb_less (h : Pb z X (r + 1) S M) : Pb z X r S M := by
  obtain ⟨A, K, fi, ch, hr, hg, hc, hch, hR⟩ := h
  exact ⟨A, K, fi, ch, hr, hg, hc, by omega, Rm_mono hR (by omega)⟩
theorem lcs_go (hx : Sx5 xs Ln i v1 v2 v3 v4 v5) (h : Pb z X (r + 1) S M) (w : Int32) : ∃ S' M', lcs X xs Ln z i w S M = some (S', M') ∧ Pb z X r S' M' := by
  unfold lcs
  by_cases e0 : w = 0
  · rw [if_pos e0]; exact lq_0 hx h
  rw [if_neg e0]
  by_cases e1 : w = 1
  · rw [if_pos e1]; exact lq_1 hx h
  rw [if_neg e1]
  by_cases e2 : w = 2
  · rw [if_pos e2]; exact lq_2 hx h
  rw [if_neg e2]
  by_cases e3 : w = 3
  · rw [if_pos e3]; exact lq_3 hx h
  rw [if_neg e3]
  by_cases e4 : w = 4
  · rw [if_pos e4]; exact lq_4 hx h
  rw [if_neg e4]
  by_cases e5 : w = 5
  · rw [if_pos e5]; exact lq_5 hx h
  rw [if_neg e5]
  by_cases e6 : w = 6
  · rw [if_pos e6]; exact lq_6 hx h
  rw [if_neg e6]
  by_cases e7 : w = 7
  · rw [if_pos e7]; exact lq_7 hx h
  rw [if_neg e7]
  by_cases e8 : w = 8
  · rw [if_pos e8]; exact lq_8 hx h
  rw [if_neg e8]
  by_cases e9 : w = 9
  · rw [if_pos e9]; exact lq_9 hx h
  rw [if_neg e9]
  by_cases e10 : w = 10
  · rw [if_pos e10]; exact lq_10 hx h
  rw [if_neg e10]
  by_cases e11 : w = 11
  · rw [if_pos e11]; exact lq_11 hx h
  rw [if_neg e11]
  by_cases e12 : w = 12
  · rw [if_pos e12]; exact lq_12 hx h
  rw [if_neg e12]
  by_cases e13 : w = 13
  · rw [if_pos e13]; exact lq_13 hx h
  rw [if_neg e13]
  by_cases e14 : w = 14
  · rw [if_pos e14]; exact lq_14 hx h
  rw [if_neg e14]
  by_cases e15 : w = 15
  · rw [if_pos e15]; exact lq_15 hx h
  rw [if_neg e15]
  by_cases e16 : w = 16
  · rw [if_pos e16]; exact lq_16 hx h
  rw [if_neg e16]
  by_cases e17 : w = 17
  · rw [if_pos e17]; exact lq_17 hx h
  rw [if_neg e17]
  by_cases e18 : w = 18
  · rw [if_pos e18]; exact lq_18 hx h
  rw [if_neg e18]
  by_cases e19 : w = 19
  · rw [if_pos e19]; exact lq_19 hx h
  rw [if_neg e19]
  by_cases e20 : w = 20
  · rw [if_pos e20]; exact lq_20 hx h
  rw [if_neg e20]
  by_cases e21 : w = 21
  · rw [if_pos e21]; exact lq_21 hx h
  rw [if_neg e21]
  by_cases e22 : w = 22
  · rw [if_pos e22]; exact lq_22 hx h
  rw [if_neg e22]
  by_cases e23 : w = 23
  · rw [if_pos e23]; exact lq_23 hx h
  rw [if_neg e23]
  by_cases e24 : w = 24
  · rw [if_pos e24]; exact lq_24 hx h
  rw [if_neg e24]
  by_cases e25 : w = 25
  · rw [if_pos e25]; exact lq_25 hx h
  rw [if_neg e25]
  by_cases e26 : w = 26
  · rw [if_pos e26]; exact lq_26 hx h
  rw [if_neg e26]
  by_cases e27 : w = 27
  · rw [if_pos e27]; exact lq_27 hx h
  rw [if_neg e27]
  by_cases e28 : w = 28
  · rw [if_pos e28]; exact lq_28 hx h
  rw [if_neg e28]
  by_cases e29 : w = 29
  · rw [if_pos e29]; exact lq_29 hx h
  rw [if_neg e29]
  by_cases e30 : w = 30
  · rw [if_pos e30]; exact lq_30 hx h
  rw [if_neg e30]
  by_cases e31 : w = 31
  · rw [if_pos e31]; exact lq_31 hx h
  rw [if_neg e31]
  by_cases e32 : w = 32
  · rw [if_pos e32]; exact lq_32 hx h
  rw [if_neg e32]
  by_cases e33 : w = 33
  · rw [if_pos e33]; exact lq_33 hx h
  rw [if_neg e33]
  by_cases e34 : w = 34
  · rw [if_pos e34]; exact lq_34 hx h
  rw [if_neg e34]
  by_cases e35 : w = 35
  · rw [if_pos e35]; exact lq_35 hx h
  rw [if_neg e35]
  by_cases e36 : w = 36
  · rw [if_pos e36]; exact lq_36 hx h
  rw [if_neg e36]
  by_cases e37 : w = 37
  · rw [if_pos e37]; exact lq_37 hx h
  rw [if_neg e37]
  exact ⟨S, M, rfl, Pb_less h⟩
theorem sx_in {n : Nat} (h : n < Ln) (hL : Ln ≤ 3072) : ∃ v, sx xs Ln (nI n) = some v := by
  refine ⟨xs (nI n).toNatClampNeg, ?_⟩
  unfold sx
  rw [if_neg]
  rintro (h1 | h1)
  · rw [Int32.lt_iff_toInt_lt, i0, nI_toInt (by omega)] at h1; omega
  · have : (nI n).toNatClampNeg = n := by
      show (nI n).toInt.toNat = n
      rw [nI_toInt (by omega)]; omega
    omega
theorem lt_6 {n : Nat} (hL : Ln ≤ 3072) (hn : n ≤ 4000) : (Int32.ofNat Ln - (6 : Int32) < nI n) ↔ Ln < n + 6 := by
  by_cases h : 6 ≤ Ln
  · rw [show Int32.ofNat Ln - (6 : Int32) = nI (Ln - 6) from nI_sub h, nI_ltI (by omega) (by omega)]
    omega
  · have e : (Int32.ofNat Ln - (6 : Int32)).toInt = (Ln : Int) - 6 := by
      rcases (show Ln = 0 ∨ Ln = 1 ∨ Ln = 2 ∨ Ln = 3 ∨ Ln = 4 ∨ Ln = 5 by omega) with rfl | rfl | rfl | rfl | rfl | rfl <;> decide
    rw [Int32.lt_iff_toInt_lt, e, nI_toInt (by omega)]
    omega
theorem law_loop (hL : Ln ≤ 3072) : ∀ (r n nn : Nat) (S : CS) (M : MS), Pb z X r S M → n ≤ 3072 → Ln < n + 6 * (r + 1) → r < nn → lawL X xs Ln z nn (nI n) S M = some () := by
  intro r
  induction r with
  | zero =>
    intro n nn S M h hn hr hnn
    obtain ⟨nn, rfl⟩ : ∃ k, nn = k + 1 := ⟨nn - 1, by omega⟩
    unfold lawL
    rw [if_pos ((lt_6 hL (by omega)).mpr (by omega))]
  | succ r ih =>
    intro n nn S M h hn hr hnn
    obtain ⟨nn, rfl⟩ : ∃ k, nn = k + 1 := ⟨nn - 1, by omega⟩
    unfold lawL
    by_cases hq : Ln < n + 6
    · rw [if_pos ((lt_6 hL (by omega)).mpr hq)]
    · rw [if_neg (fun hh => hq ((lt_6 hL (by omega)).mp hh))]
      obtain ⟨v0, x0⟩ := sx_in (xs := xs) (show n < Ln by omega) hL
      obtain ⟨v1, x1⟩ := sx_in (xs := xs) (show n + 1 < Ln by omega) hL
      obtain ⟨v2, x2⟩ := sx_in (xs := xs) (show n + 2 < Ln by omega) hL
      obtain ⟨v3, x3⟩ := sx_in (xs := xs) (show n + 3 < Ln by omega) hL
      obtain ⟨v4, x4⟩ := sx_in (xs := xs) (show n + 4 < Ln by omega) hL
      obtain ⟨v5, x5⟩ := sx_in (xs := xs) (show n + 5 < Ln by omega) hL
      obtain ⟨S', M', e, h'⟩ := lcs_go (i := nI n) ⟨by rw [show nI n + (1 : Int32) = nI (n + 1) from nI_add n 1]; exact x1, by rw [show nI n + (2 : Int32) = nI (n + 2) from nI_add n 2]; exact x2, by rw [show nI n + (3 : Int32) = nI (n + 3) from nI_add n 3]; exact x3, by rw [show nI n + (4 : Int32) = nI (n + 4) from nI_add n 4]; exact x4, by rw [show nI n + (5 : Int32) = nI (n + 5) from nI_add n 5]; exact x5⟩ h (v0 &&& (63 : Int32))
      rw [x0, Option.bind_some, e, bn2_s, show nI n + (6 : Int32) = nI (n + 6) from nI_add n 6]
      exact ih (n + 6) nn S' M' h' (by omega) (by omega) (by omega)
/-- cells and slots of others come between -/
theorem skp_Sg (hW : Wf S) {n m : Nat} (hnm : 12 * n ≤ m) : Sg z (fun _ => False) m S (skp S n m) := by
  have hT : Tt z (skp S n m) = Tt z S + m := by
    have hd : ∀ q, sumN (dfc z (skp S n m)) (cZ S + q) = sumN (dfc z S) (cZ S) := by
      intro q
      induction q with
      | zero => rfl
      | succ q ih =>
        rw [show cZ S + (q + 1) = cZ S + q + 1 from rfl, sumN, ih]
        have h0 : dfc z (skp S n m) (cZ S + q) = 0 := by
          unfold dfc
          rw [show kd (skp S n m) (cZ S + q) = 99 from kd_no (S := S) hW.1 (by omega), if_neg (by omega)]
        omega
    show (cU S + m) + sumN (dfc z (skp S n m)) (cZ S + n) = _
    rw [hd n]
    unfold Tt
    omega
  refine ⟨⟨fun x hx => ?_, fun x k a ha => ?_, hW.2.2.1, hW.2.2.2.1, hW.2.2.2.2⟩, ⟨?_, fun x hx => ⟨rfl, rfl, fun _ _ => rfl, fun _ => ⟨rfl, rfl, rfl⟩⟩, fun a _ _ ho => ?_, fun h k a h1 h2 _ hj => ?_⟩, by omega, ?_, fun x k _ _ => rfl, fun x _ _ _ => rfl⟩
  · have := hW.1 x hx
    show x < cZ S + n
    omega
  · have := hW.2.1 x k a ha
    exact ⟨by show x < cZ S + n; omega, by show a < cZ S + n; omega⟩
  · show cZ S ≤ cZ S + n
    omega
  · obtain ⟨h, k, hh, _⟩ := ho
    exact hh.elim
  · have := (hW.2.1 h k a hj).1
    omega
  · show 12 * (cZ S + n) + cU S ≤ 12 * cZ S + (cU S + m)
    omega
/-- what is left of the law: numbers alone -/
theorem pure_ok (hL : Ln ≤ 3072) : PureOk z Ln xs := by
  obtain ⟨S, e, hC, hz, hu, ht⟩ := init_C (z := z) (X := (z + 600000, 7302250)) (by show z + 661 ≤ z + 600000; omega) (by show 20000 ≤ 7302250; omega)
  refine ⟨S, e, by omega, by omega, ?_⟩
  have hs := skp_Sg (z := z) hC.1 (n := 36) (m := 247538) (by omega)
  have hC2 : CR (skp S 36 247538) z A00 (fun _ => none) 0 0 := CR_tmp hC GA_00 hs (fun x hx => hx.elim) (ShC_Sg hC.1 hC.2.2.2.2.1 hs (fun h => h) (fun x _ _ h => h)) (AhC_Sg hC.1 hC.2.2.2.2.2.2.1 hs (fun x _ _ h => h))
  have h1 := hs.2.2.1
  refine law_loop hL 512 0 FU (skp S 36 247538) M0 ⟨A00, _, 0, 0, RS_00, GA_00, hC2, by omega, ?_⟩ (by omega) (by omega) (by rw [FU_eq]; omega)
  have hm : 117162 * (20 - made (fun _ => none)) ≤ 117162 * 20 := Nat.mul_le_mul_left _ (by omega)
  have ht0 : 320 * (aTape A00).length = 0 := rfl
  rw [ht0]
  constructor
  · show Tt z (skp S 36 247538) + (117162 * (20 - made (fun _ => none)) + (7600 * 512 + 0)) + 1600 ≤ 7302250
    omega
  · show 12 * (cZ S + 36) + 7302250 + 12 ≤ 12 * (z + 600000) + (cU S + 247538)
    omega
end TV
