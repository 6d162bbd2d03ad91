/-! ===== PART II, the class: edits ===== -/
section AD
variable {S S' : CS} {z fi ch c c0 : Nat} {A A' : St} {K K' : Nat → Option Nat} {H : Nat → Prop} {X : Nat × Nat}
theorem Hp_in {i x : Nat} (hi : i < 4) (h : Hp (z + 227) (z + 6) (z + 227 + 5 + 45 * i) x) : (z + 6 ≤ x ∧ x < z + 22) ∨ (z + 227 ≤ x ∧ x < z + 412) := by
  rcases h with h | h | h <;> omega
theorem edC_all {i kind : Nat} {E0 : Ed} {P : List Int32} (h : CR S z A K fi ch) (hg : GA A) (hst : cI S (z + 599) 9 ≠ nI ch) (hi : i < aCnt A) (hs : Sg z (Hp (z + 227) (z + 6) (z + 227 + 5 + 45 * i)) c0 S S') (hL : EdLn S' (z + 227 + 5 + 45 * i) (wRow (aW A)).length (editE E0 P kind)) (hT : EdT S' (z + 227 + 5 + 45 * i) (editE E0 P kind)) (hM : EdM S' (z + 227 + 5 + 45 * i) (editE E0 P kind)) (hn : cI S' (z + 227) 9 = nI (wEd (aW A) + 1) ∧ cI S' (z + 227) 10 = nI (wPu (aW A) + putsL P) ∧ ∀ k, k ≠ 9 → k ≠ 10 → cI S' (z + 227) k = cI S (z + 227) k) (ha4 : cA S' (z + 227 + 4) = cA S (z + 227 + 4)) (hob : ∃ l, OpL S' (z + 6 + 9) l) : CR S' z (sWd A (edW A i E0 P kind)) K fi ch ∧ cI S' (z + 599) 9 ≠ nI ch := by
  obtain ⟨hW, hTp0, hTp, hTf, hsh, hwd, ha, hk, hh, hc⟩ := id h
  have hc4 := hg.2.2.1.1
  have hi4 : i < 4 := by omega
  obtain ⟨w1, w2, w3, w4, w5⟩ := hsh
  have hl := w5.1
  have nr : ∀ x, z + 22 ≤ x → x < z + 227 → ¬ Hp (z + 227) (z + 6) (z + 227 + 5 + 45 * i) x := fun x x1 x2 hx => by have := Hp_in hi4 hx; omega
  refine CR_world h hst hs (fun x hx => by have := Hp_in hi4 hx; omega) ⟨Wv_Sg hW w1 hs, hob, RwS_Sg hW w3 hs (nr _ (by omega) (by omega)), TxL_Fo hW w4 hs.2.1 (nr _ (by omega) (by omega)), RwM_Sg hW w3 w5 hs (nr _ (by omega) (by omega)) (fun j hj => nr _ (by have : j < (wRow (aW A)).length := hj; omega) (by have : j < (wRow (aW A)).length := hj; omega))⟩ ?_
  exact WdC_edit (P := P) hW hwd hc4 hi (by omega) hs ⟨hL, fun _ => ⟨hT, hM⟩⟩ hn ha4
/-- a plain edit of the operation that lies ready -/
theorem edP_C {i : Nat} {P : List Int32} (h : CR S z A K fi ch) (hg : GA A) (hst : cI S (z + 599) 9 ≠ nI ch) (hR : Rm z X (c0 + c) S) (hc0 : 8 < szO S (z + 654) → 240 ≤ c0) (hi : i < aCnt A) (hO : OpL S (z + 654) P) (hok : okO P) (ho : oldL P = (eTxt (wE (aW A) i)).length) (hcan : wPu (aW A) + putsL P ≤ 200) : ∃ S', cal S 10 (z + 227) (f10_editPlainly X S (z + 227) (z + 227 + 5 + 45 * i) (z + 654)) = some S' ∧ (CR S' z (sWd A (edW A i (wE (aW A) i) P 0)) K fi ch ∧ cI S' (z + 599) 9 ≠ nI ch) ∧ Sg z (Hp (z + 227) (z + 6) (z + 227 + 5 + 45 * i)) c0 S S' := by
  obtain ⟨hW, hT, hTp, hTf, hsh, hwd, ha, hk, hh, hc⟩ := id h
  have hc4 := hg.2.2.1.1
  have hi4 : i < 4 := by omega
  have hE := (hwd.2.2.2.2.2 i hi4).2 hi
  obtain ⟨t1, m1⟩ := hE.2 rfl
  obtain ⟨S', r1, r2, r3, r4, r5, ra, r6, r7⟩ := plain_E (z := z) (X := X) (c0 := c0) (c := c) (w := z + 227) (r := z + 22) (g := z + 6) (e := z + 227 + 5 + 45 * i) (o := z + 654) (ClsP_w z hi4) (by omega) (by omega) hW hR hc0 hsh.1 hwd.1 hE.1 t1 m1 hO (fun hx => by have := Hp_in hi4 hx; omega) hwd.2.1.2.2.2.1 hwd.2.1.2.2.2.2.1 (ed_bounds hg.2.2.1 hi hok ho hcan) hsh.2.1
  exact ⟨S', by rw [cal_k hwd.1.1]; exact r1, edC_all h hg hst hi r7 r2 r3 r4 r5 ra r6, r7⟩
theorem can_C {P : List Int32} {o : Nat} (h : CR S z A K fi ch) (hg : GA A) (hO : OpL S o P) (hl : P.length ≤ 100000) : cal S 10 (z + 227) (f10_canEdit S (z + 227) o) = some (bI (canE A P)) := by
  obtain ⟨hW, hT, hTp, hTf, hsh, hwd, ha, hk, hh, hc⟩ := id h
  rw [cal_k hwd.1.1, canEdit_W hW hwd.1 hwd.2.1 hO hl hg.2.2.1.2.2.2.2.1 hg.2.2.1.2.2.2.1]
  rfl
theorem canE_of {P : List Int32} (h : canE A P = true) : wPu (aW A) + putsL P ≤ 200 ∧ wEd (aW A) < 100 := by
  unfold canE at h
  rw [Bool.and_eq_true, Bool.and_eq_true, decide_eq_true_eq, decide_eq_true_eq] at h
  exact ⟨h.2, h.1.2⟩
theorem GA_keepA (hg : GA A) (hc : 0 < aCnt A) : GA (keepA A) := GA_keep (W := aW A) hg hc hg.2.2.1 hg.2.2.2.2.1 (List.prefix_refl _)
theorem editE_txt (E : Ed) (P : List Int32) (kind : Nat) : eTxt (editE E P kind) = chgL P (eTxt E) ∧ eCur (editE E P kind) = carN (eCur E) true P 0 (eCur E) := by
  unfold editE
  obtain ⟨x1, x2, x3, x4, x5⟩ := giveE_same (txtE (stkK E P kind) P true) P
  have e1 : eTxt (stkK E P kind) = eTxt E ∧ eCur (stkK E P kind) = eCur E := by
    unfold stkK
    split
    · exact ⟨rfl, rfl⟩
    · split
      · exact ⟨rfl, rfl⟩
      · exact ⟨rfl, rfl⟩
  rw [x1, x5]
  constructor
  · show chgL P (eTxt (stkK E P kind)) = _
    rw [e1.1]
  · show carN (eCur (stkK E P kind)) true P 0 (eCur (stkK E P kind)) = _
    rw [e1.2]
theorem edW_self (A : St) (i : Nat) (E0 : Ed) (P : List Int32) (kind : Nat) : wE (edW A i E0 P kind) i = editE E0 P kind := by
  show (if i = i then editE E0 P kind else wE (aW A) i) = _
  rw [if_pos rfl]
theorem edOp_C {i : Nat} {P : List Int32} (h : CR S z A K fi ch) (hg : GA A) (hch : ch < 1000) (hR : Rm z X (117162 * (20 - made K) + (5744 + c)) S) (hi : i < aCnt A) (hO : OpL S (z + 654) P) (hok : okO P) (ho : oldL P = (eTxt (wE (aW A) i)).length) (hl : P.length ≤ 100000) : ∃ S' K' fi' ch', cal S 11 z (f11_editWithOp X S z (z + 227 + 5 + 45 * i)) = some ((aEd A i P).1, S') ∧ CR S' z (aEd A i P).2 K' fi' ch' ∧ ch' ≤ ch + 1 ∧ Rm z X (117162 * (20 - made K') + c) S' ∧ (canE A P = true → EdW S' (z + 227 + 5 + 45 * i) (wRow (aW A)).length (editE (wE (aW A) i) P 0) true) := by
  obtain ⟨hW, hT, hTp, hTf, hsh, hwd, ha, hk, hh, hc⟩ := id h
  have hc4 := hg.2.2.1.1
  obtain ⟨t0, t1, t2, t3, t4, t5, t6, t7, t8, t9⟩ := TpS_g hT
  rw [cal_k hT.1]
  unfold f11_editWithOp aEd
  rw [t3, Option.bind_some, t7, Option.bind_some, can_C h hg hO hl, Option.bind_some]
  by_cases hcan : canE A P = true
  · rw [hcan, if_neg (show ¬ bI true = 0 by decide), if_pos rfl, t5, Option.bind_some, Option.bind_some]
    obtain ⟨p1, p2⟩ := canE_of hcan
    obtain ⟨S6, K', fi', e6, C6, R6, st6, op6⟩ := keep_C (X := X) (c := 240 + c) h hg hch (Rm_mono hR (by omega))
    have hg6 := GA_keepA hg (by omega)
    obtain ⟨u0, u1, u2, u3, u4, u5, u6, u7, u8, u9⟩ := TpS_g C6.2.1
    have hR6 : Rm z X (240 + (117162 * (20 - made K') + c)) S6 := by rw [show 240 + (117162 * (20 - made K') + c) = 117162 * (20 - made K') + (240 + c) by omega]; exact R6
    obtain ⟨S9, e9, ⟨C9, st9⟩, s9⟩ := edP_C (X := X) (c0 := 240) (A := keepA A) C6 hg6 st6 hR6 (fun _ => Nat.le_refl _) hi (op6 _ _ (by omega) (by omega) hO) hok ho p1
    rw [e6, Option.bind_some, u3, Option.bind_some, u7, Option.bind_some, e9, Option.bind_some]
    have hE9 := (C9.2.2.2.2.2.1.2.2.2.2.2 i (by omega)).2 hi
    have hE9' : EdW S9 (z + 227 + 5 + 45 * i) (wRow (aW A)).length (editE (wE (aW A) i) P 0) true := by
      have e1 : wE (aW (sWd (keepA A) (edW (keepA A) i (wE (aW (keepA A)) i) P 0))) i = editE (wE (aW A) i) P 0 := edW_self (keepA A) i _ P 0
      rw [e1] at hE9
      exact hE9
    have t9 := (hE9'.2 rfl).1.1
    rw [gr_k hE9'.1.1.1 hE9'.1.1.2.1.1, Option.bind_some, TxL_sz t9, Option.bind_some]
    refine ⟨S9, K', fi', ch + 1, ?_, C9, by omega, Rm_step hR6 s9, fun _ => hE9'⟩
    rw [(editE_txt _ _ _).1, chgL_len hok]
  · have hcf : canE A P = false := by cases hh : canE A P <;> simp_all
    rw [hcf, if_pos (show bI false = 0 from rfl), if_neg (by decide)]
    obtain ⟨S', r1, r2, r3⟩ := refuse_C h hg (k := 2) (by omega)
    rw [show cal S 11 z (f11_refuse S z 2) = some (-1, S') from r1, bn2_s]
    exact ⟨S', K, fi, ch, rfl, r2, by omega, Rm_cst (c := 0) (d := 117162 * (20 - made K) + c) (Rm_mono hR (by omega)) r3, fun hh => by cases hh⟩
end AD
