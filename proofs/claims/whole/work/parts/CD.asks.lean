/-! ===== PART II, the class: what is asked, where nothing changes ===== -/
theorem ite_s {α : Type} {p : Prop} [Decidable p] {a y : α} {u x : Option α} (h1 : p → u = some a) (h2 : ¬ p → x = some y) : (if p then u else x) = some (if p then a else y) := by
  by_cases h : p
  · rw [if_pos h, if_pos h]; exact h1 h
  · rw [if_neg h, if_neg h]; exact h2 h
theorem i0 : (0 : Int32).toInt = 0 := by decide
theorem i_lt {p : Int32} {n : Nat} (hn : n < 2 ^ 31) : p < nI n ↔ p.toInt < n := by rw [Int32.lt_iff_toInt_lt, nI_toInt hn]
theorem i_le {p : Int32} {n : Nat} (hn : n < 2 ^ 31) : p ≤ nI n ↔ p.toInt ≤ n := by rw [Int32.le_iff_toInt_le, nI_toInt hn]
theorem i_gt {p : Int32} {n : Nat} (hn : n < 2 ^ 31) : nI n < p ↔ (n : Int) < p.toInt := by rw [Int32.lt_iff_toInt_lt, nI_toInt hn]
theorem i_ge {p : Int32} {n : Nat} (hn : n < 2 ^ 31) : nI n ≤ p ↔ (n : Int) ≤ p.toInt := by rw [Int32.le_iff_toInt_le, nI_toInt hn]
theorem way_loopC {S : CS} {w r g cnt ties : Nat} {told : List Int32} {W : Wd} {wh : Bool} (hC : WdC S w r g cnt ties told W wh) (hg : Good cnt ties told.length W) : ∀ (d n i : Nat), i + d = cnt → d < n → LX10_onTheirWay_4 w S n (nI (wayN i W)) (nI i) = some (nI (wayN cnt W)) := by
  have hc4 := hg.1
  have hl := row_le hg
  obtain ⟨hS, hN, h5, hT, hF, hE⟩ := id hC
  intro d
  induction d with
  | zero =>
    intro n i hi hn
    obtain ⟨n, rfl⟩ : ∃ j, n = j + 1 := ⟨n - 1, by omega⟩
    unfold LX10_onTheirWay_4
    rw [gi_k hS.1, hN.1, Option.bind_some, if_pos (nI_le (by omega) (by omega)), show i = cnt by omega]
  | succ d ih =>
    intro n i hi hn
    obtain ⟨n, rfl⟩ : ∃ j, n = j + 1 := ⟨n - 1, by omega⟩
    have hEi := ((hE i (by omega)).2 (by omega)).1
    have e1 := (hg.2.2.2.2.2.2.2.2 i (by omega)).1
    have e3 := (hg.2.2.2.2.2.2.2.2 i (by omega)).2.2.1
    unfold LX10_onTheirWay_4
    have e4 : (if oI (eLft (wE W i)) = (-1 : Int32) then some (0 : Int32) else some (1 : Int32)) = some (nI (if (eLft (wE W i)).isSome then 1 else 0)) := by
      cases hL : eLft (wE W i) with
      | none => rfl
      | some k =>
        have := e3 k hL
        rw [if_neg (show ¬ oI (some k) = (-1 : Int32) from fun hh' => by
          have hh : nI k = (-1 : Int32) := hh'
          have h3 : (nI k).toInt = (-1 : Int32).toInt := by rw [hh]
          rw [nI_toInt (by omega)] at h3
          have : (-1 : Int32).toInt = -1 := by decide
          omega)]
        rfl
    simp only [gi_k hS.1, hN.1, Option.bind_some, if_neg (nI_ge (show i < cnt by omega) (show cnt < 2 ^ 31 by omega)), hN.2.2.2.2.2, gr_k hS.1 hS.2.1.2.2.2.1, ed_at hS (show i < 4 by omega), gi_k hEi.1.1, hEi.2.1.1, hEi.2.1.2.2.1, e4]
    rw [nI_sub e1, nI_add, nI_add, nI_1]
    have := ih n (i + 1) (by omega) (by omega)
    rw [show wayN (i + 1) W = wayN i W + ((wRow W).length - eRev (wE W i) + (if (eLft (wE W i)).isSome then 1 else 0)) from rfl] at this
    exact this
theorem way_W {S : CS} {w r g cnt ties : Nat} {told : List Int32} {W : Wd} {wh : Bool} (hC : WdC S w r g cnt ties told W wh) (hg : Good cnt ties told.length W) : f10_onTheirWay S w = some (nI (wayN cnt W)) := by
  have hc4 := hg.1
  have hFU := FU_gt
  have := way_loopC hC hg cnt FU 0 (by omega) (by omega)
  unfold f10_onTheirWay
  rw [show LX10_onTheirWay_4 w S FU (0 : Int32) (0 : Int32) = _ from this, Option.bind_some]
section AK
variable {S : CS} {z fi ch : Nat} {A : St} {K : Nat → Option Nat}
theorem way_lt (hg : GA A) : wayN (aCnt A) (aW A) < 2 ^ 20 := by
  have hc4 := hg.2.2.1.1
  have hl := row_le hg.2.2.1
  have : ∀ n, wayN n (aW A) ≤ 101 * n := by
    intro n
    induction n with
    | zero => exact Nat.le_refl _
    | succ n ih =>
      rw [show wayN (n + 1) (aW A) = wayN n (aW A) + ((wRow (aW A)).length - eRev (wE (aW A) n) + (if (eLft (wE (aW A) n)).isSome then 1 else 0)) from rfl]
      have : (wRow (aW A)).length - eRev (wE (aW A) n) + (if (eLft (wE (aW A) n)).isSome then 1 else 0) ≤ 101 := by split <;> omega
      omega
  have := this (aCnt A)
  omega
theorem has_C (h : CR S z A K fi ch) (hg : GA A) (p : Int32) : f11_has S z p = some (qHas A p) := by
  obtain ⟨hW, hT, hTp, hTf, hsh, hwd, ha, hk, hh, hc⟩ := h
  obtain ⟨a1, ⟨j0, j1, j2, j3, j4, j5, j6, j7, j8, j9, j10⟩, _, _, ⟨d0, d1, d2, d3⟩, ⟨e0, _⟩, _⟩ := id hT
  obtain ⟨hS, ⟨n6, n7, n8, n9, n10, n11⟩, h5, hTx, hF, hE⟩ := id hwd
  have hway := way_W hwd hg.2.2.1
  have hlt := way_lt hg
  unfold f11_has qHas
  simp only [gr_k a1 j3, gr_k a1 j6, gr_k a1 j5, Option.bind_some, gi_k hS.1, n6, n7, n8, n9, n10, n11, gr_k hS.1 hS.2.1.2.2.1, TxL_sz hTx, cal_k hS.1, hway, gi_k e0, hc.2.1.1, gi_k d0, hh.2.2.1]
  have sl : (srvX (aTold A) (wRow (aW A))).length = (srvT (aTold A) (wRow (aW A))).length := by rw [srvX_len hg.2.2.1.2.2.2.2.2.1, srvT_len _ _ hg.2.2.1.2.2.2.2.2.1]
  rw [sl]
  refine ite_s (fun _ => rfl) (fun _ => ite_s (fun _ => rfl) (fun _ => ite_s (fun _ => rfl) (fun _ => ite_s (fun _ => rfl) (fun _ => ite_s (fun _ => rfl) (fun _ => ite_s (fun _ => rfl) (fun _ => ite_s (fun _ => rfl) (fun _ => ite_s (fun _ => rfl) (fun _ => ite_s (fun _ => rfl) (fun _ => ite_s (fun _ => ?_) (fun _ => ite_s (fun _ => rfl) (fun _ => rfl)))))))))))
  by_cases h0 : wayN (aCnt A) (aW A) = 0
  · rw [h0, if_pos (show nI 0 = (0 : Int32) from rfl), if_pos rfl]; rfl
  · rw [if_neg (nI_ne0 (by omega) (by omega)), if_neg h0]; rfl
theorem bI_n (b : Bool) : (if bI b = 0 then some (0 : Int32) else some (1 : Int32)) = some (bI b) := by cases b <;> rfl
/-- an editor that there is -/
theorem ed_C (h : CR S z A K fi ch) (hg : GA A) {p : Int32} (hp : 0 ≤ p.toInt ∧ p.toInt < aCnt A) : p = nI p.toInt.toNat ∧ p.toInt.toNat < aCnt A ∧ p.toInt.toNat < 4 ∧ ldr S 16 (z + 227 + 3) p = some (z + 227 + 5 + 45 * p.toInt.toNat) ∧ EdW S (z + 227 + 5 + 45 * p.toInt.toNat) (wRow (aW A)).length (wE (aW A) p.toInt.toNat) true := by
  obtain ⟨hW, hT, hTp, hTf, hsh, hwd, ha, hk, hh, hc⟩ := h
  have hc4 := hg.2.2.1.1
  have hn := nI_ofInt hp.1
  have h1 : p.toInt.toNat < aCnt A := by omega
  have h2 : p.toInt.toNat < 4 := by omega
  refine ⟨hn, h1, h2, ?_, (hwd.2.2.2.2.2 _ h2).2 h1⟩
  have := ed_at hwd.1 h2
  rw [← hn] at this
  exact this
theorem kn_C (h : CR S z A K fi ch) (hg : GA A) (p : Int32) : cal S 10 (z + 227) (f10_knows S (z + 227) p) = some (bI (decide (0 ≤ p.toInt ∧ p.toInt < aCnt A))) := by
  obtain ⟨hW, hT, hTp, hTf, hsh, hwd, ha, hk, hh, hc⟩ := h
  rw [cal_k hwd.1.1, knows_W hwd.1 hwd.2.1.1 hg.2.2.1.1]
theorem editor_C (h : CR S z A K fi ch) (hg : GA A) (p q : Int32) : f11_editor S z p q = some (qEditor A p q) := by
  have hkn := kn_C h hg p
  have hed := fun hp => ed_C h hg (p := p) hp
  obtain ⟨hW, hT, hTp, hTf, hsh, hwd, ha, hk, hh, hc⟩ := h
  obtain ⟨a1, ⟨j0, j1, j2, j3, j4, j5, j6, j7, j8, j9, j10⟩, _⟩ := id hT
  obtain ⟨hS, ⟨n6, n7, n8, n9, n10, n11⟩, h5, hTx, hF, hE⟩ := id hwd
  unfold f11_editor qEditor
  rw [gr_k a1 j3, Option.bind_some, hkn, Option.bind_some]
  by_cases hp : 0 ≤ p.toInt ∧ p.toInt < aCnt A
  · obtain ⟨p1, p2, p3, p4, ⟨⟨k1, ⟨m8, m10, m11, m12, m13, m14⟩, k3, k4, k5⟩, k6⟩⟩ := hed hp
    obtain ⟨⟨t1, ⟨hs, i1, i2, _⟩, ⟨ks, u1, u2, _⟩⟩, ⟨r7, r9, _⟩⟩ := k6 rfl
    have g1 := (hg.2.2.1.2.2.2.2.2.2.2.2 _ p2).1
    rw [decide_eq_true hp, if_neg (show ¬ bI true = 0 by decide), if_pos hp, Option.bind_some, gr_k hS.1 hS.2.1.2.2.2.1, Option.bind_some, p4, Option.bind_some]
    simp only [gr_k k1.1 k1.2.1.1, Option.bind_some, TxL_sz t1, gi_k k1.1, m8, m10, m11, m12, m13, m14, r7, r9, gr_k k1.1 k1.2.1.2.2.2.1, gr_k k1.1 k1.2.1.2.2.2.2.1, gi_k i1.1.1, i2, gi_k u1.1.1, u2, gi_k hS.1, n11, nI_sub g1, bI_n]
    exact ite_s (fun _ => rfl) (fun _ => ite_s (fun _ => rfl) (fun _ => ite_s (fun _ => rfl) (fun _ => ite_s (fun _ => rfl) (fun _ => ite_s (fun _ => rfl) (fun _ => ite_s (fun _ => rfl) (fun _ => ite_s (fun _ => rfl) (fun _ => ite_s (fun _ => rfl) (fun _ => ite_s (fun _ => rfl) (fun _ => ite_s (fun _ => rfl) (fun _ => ite_s (fun _ => rfl) (fun _ => ite_s (fun _ => rfl) (fun _ => rfl))))))))))))
  · rw [decide_eq_false hp, if_pos (show bI false = 0 from rfl), if_neg hp]
theorem srv_ltr (hg : GA A) : ltr (srvX (aTold A) (wRow (aW A))) = srvT (aTold A) (wRow (aW A)) := (srvX_get hg.2.2.1.2.2.2.2.2.1 hg.2.2.2.1 (row_le hg.2.2.1)).1
theorem letter_C (h : CR S z A K fi ch) (hg : GA A) (p q : Int32) : f11_letter S z p q = some (qLetter A p q) := by
  have hkn := kn_C h hg p
  have hed := fun hp => ed_C h hg (p := p) hp
  obtain ⟨hW, hT, hTp, hTf, hsh, hwd, ha, hk, hh, hc⟩ := h
  obtain ⟨a1, ⟨j0, j1, j2, j3, j4, j5, j6, j7, j8, j9, j10⟩, _⟩ := id hT
  obtain ⟨hS, ⟨n6, n7, n8, n9, n10, n11⟩, h5, hTx, hF, hE⟩ := id hwd
  unfold f11_letter qLetter
  have e0 : (0 : Int32) ≤ q ↔ 0 ≤ q.toInt := by rw [Int32.le_iff_toInt_le, i0]
  by_cases hq : 0 ≤ q.toInt
  · rw [if_pos (e0.mpr hq), gr_k a1 j3, Option.bind_some]
    have hq1 : q ≠ -1 := fun e => by rw [e] at hq; revert hq; decide
    by_cases hp1 : p = -1
    · rw [if_pos hp1, gr_k hS.1 hS.2.1.2.2.1, Option.bind_some, cal_k (TxL_kd hTx), askTx hTx, Option.bind_some, srv_ltr hg, if_pos hp1]
      by_cases hc0 : 0 < aCnt A
      · rw [if_pos ⟨hc0, hq⟩]
      · rw [if_neg (fun hh => hc0 hh.1)]
        obtain ⟨z1, z2, _⟩ := hg.2.2.2.2.2.2.1 (by omega)
        rw [z1, z2]
        show some (askT [] q) = _
        unfold askT
        rw [if_neg hq1, if_neg (fun hh => by have := hh.2; simp at this; omega)]
    · rw [if_neg hp1, if_neg hp1, Option.bind_some, hkn, Option.bind_some]
      by_cases hp : 0 ≤ p.toInt ∧ p.toInt < aCnt A
      · obtain ⟨p1, p2, p3, p4, ⟨⟨k1, _⟩, k6⟩⟩ := hed hp
        have t1 := (k6 rfl).1.1
        rw [decide_eq_true hp, if_neg (show ¬ bI true = 0 by decide), if_pos ⟨by omega, hq⟩, if_pos hp, Option.bind_some, gr_k hS.1 hS.2.1.2.2.2.1, Option.bind_some, p4, Option.bind_some, gr_k k1.1 k1.2.1.1, Option.bind_some, cal_k (TxL_kd t1), askTx t1, Option.bind_some, Option.bind_some, ltr_ok (hg.2.2.1.2.2.2.2.2.2.2.2 _ p2).2.2.2.2.1]
      · rw [decide_eq_false hp, if_pos (show bI false = 0 from rfl), if_neg hp, Option.bind_some]
        by_cases hx : 0 < aCnt A ∧ 0 ≤ q.toInt
        · rw [if_pos hx]
        · rw [if_neg hx]
  · rw [if_neg (fun hh => hq (e0.mp hh)), if_neg (fun hh => hq hh.2)]
theorem fault_C (h : CR S z A K fi ch) (p : Int32) : f11_fault S z p = some (qFault A p) := by
  obtain ⟨hW, hT, hTp, ⟨f1, f2, f3, f4⟩, _⟩ := h
  unfold f11_fault qFault
  simp only [gi_k hT.1, f1, f2, Option.bind_some]
  refine ite_s (fun _ => rfl) (fun _ => ?_)
  by_cases h1 : p = 1
  · rw [if_pos h1, if_pos h1, Option.bind_some]
  · rw [if_neg h1, if_neg h1, Option.bind_some]
theorem status_C (h : CR S z A K fi ch) (p : Int32) : f11_status S z p = some (qStatus A p) := by
  obtain ⟨hW, hT, hTp, ⟨f1, f2, f3, f4⟩, _⟩ := h
  obtain ⟨a1, ⟨j0, j1, j2, j3, j4, j5, j6, j7, j8, j9, j10⟩, _, _, _, _, _, _, _, _, _, k1, k2⟩ := id hT
  unfold f11_status qStatus
  by_cases h0 : p < 0
  · rw [if_pos h0, Option.bind_some, if_neg (fun hh => by rw [Int32.lt_iff_toInt_lt, i0] at h0; omega)]
  · rw [if_neg h0]
    rw [Int32.lt_iff_toInt_lt, i0] at h0
    have hn := nI_ofInt (p := p) (by omega)
    rw [gr_k a1 j10, Option.bind_some, aln_k k1, k2, Option.bind_some]
    by_cases h7 : nI 7 ≤ p
    · rw [if_pos h7, Option.bind_some, if_neg (fun hh => by rw [i_ge (by omega)] at h7; omega)]
    · rw [if_neg h7, Option.bind_some]
      rw [i_ge (by omega)] at h7
      have hl : ldi S (z + 660) p = some (aRf A p.toInt.toNat) := by
        rw [hn, ldi_k k1 (by omega) (by omega), f3 _ (by omega), ← hn]
      rw [hl, Option.bind_some, Option.bind_some, if_pos (by omega)]
end AK
