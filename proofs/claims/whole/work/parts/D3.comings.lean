/-! ===== PART II, the class: those that wait, an order ===== -/
section AL
variable {S S' : CS} {z fi ch c : Nat} {A A' : St} {K : Nat → Option Nat} {H : Nat → Prop} {X : Nat × Nat}
theorem cI_setA (S : CS) (a : Nat) (f : Nat → Int32) : cI (setA S a f) = cI S := rfl
theorem oI_n1 {o : Option Nat} (h : ∀ k, o = some k → k < 1000) : oI o = -1 ↔ o.isSome = false := by
  cases o with
  | none => exact ⟨fun _ => rfl, fun _ => rfl⟩
  | some k =>
    have := h k rfl
    refine ⟨fun hh => ?_, fun hh => by cases hh⟩
    have h3 : (nI k).toInt = -1 := is1.mp hh
    rw [nI_toInt (by omega)] at h3
    omega
theorem wait_loop {cnt ties c2 : Nat} {told : List Int32} {W : Wd} (hcnt : cnt ≤ 4) (hg : Good cnt ties told.length W) : ∀ (d i n : Nat) (S : CS), i + d = cnt → d < n → Wf S → TpS S z → WdC S (z + 227) (z + 22) (z + 6) cnt ties told W true → cI S (z + 599) 6 = nI (waitL (onW cnt W) i).length → cI S (z + 599) 7 = nI (fac (waitL (onW cnt W) i).length) → seg (cA S (z + 601)) 0 ((waitL (onW cnt W) i).map nI) →
    ∃ S', LX0_reckon_12 (z + 599) (z + 227) c2 n (nI i) S = some S' ∧ cI S' (z + 599) 6 = nI (waitL (onW cnt W) cnt).length ∧ cI S' (z + 599) 7 = nI (fac (waitL (onW cnt W) cnt).length) ∧ seg (cA S' (z + 601)) 0 ((waitL (onW cnt W) cnt).map nI) ∧ (∀ k, k ≠ 6 → k ≠ 7 → cI S' (z + 599) k = cI S (z + 599) k) ∧ (∀ a, a ≠ z + 601 → cA S' a = cA S a) ∧ Sg z (fun x => x = z + 599) 0 S S' := by
  intro d
  induction d with
  | zero =>
    intro i n S hi hn hW hT hC h6 h7 hs
    obtain ⟨n, rfl⟩ : ∃ k, n = k + 1 := ⟨n - 1, by omega⟩
    have : cnt = i := by omega
    subst this
    unfold LX0_reckon_12
    rw [gi_k hC.1.1, hC.2.1.1, Option.bind_some, if_pos (nI_le (by omega) (by omega))]
    exact ⟨S, rfl, h6, h7, hs, fun _ _ _ => rfl, fun _ _ => rfl, Sg_refl hW⟩
  | succ d ih =>
    intro i n S hi hn hW hT hC h6 h7 hs
    obtain ⟨n, rfl⟩ : ∃ k, n = k + 1 := ⟨n - 1, by omega⟩
    obtain ⟨e0, e1, e2, e3, e4, e5, e6⟩ := hT.2.2.2.2.2.1
    obtain ⟨_, ⟨f1, f2⟩, _⟩ := hT.2.2.2.2.2.2.1
    have hE := (hC.2.2.2.2.2 i (by omega)).2 (by omega)
    have hl9 := (hg.2.2.2.2.2.2.2.2 i (by omega)).2.2.1
    have hwl : (waitL (onW cnt W) i).length ≤ i := by rw [waitL_len]; exact sndN_le _ _
    have hon : onW cnt W i = (eLft (wE W i)).isSome := by unfold onW; rw [decide_eq_true (by omega), Bool.true_and]
    unfold LX0_reckon_12
    rw [gi_k hC.1.1, hC.2.1.1, Option.bind_some, if_neg (nI_ge (by omega) (by omega)), gr_k e0 e2, Option.bind_some, aln_k f1, f2, Option.bind_some, if_neg (nI_ge (by omega) (by omega)), gr_k hC.1.1 hC.1.2.1.2.2.2.1, Option.bind_some, ed_at hC.1 (show i < 4 by omega), Option.bind_some, gi_k hE.1.1.1, hE.1.2.1.2.2.1, Option.bind_some, nI_1]
    by_cases hso : (eLft (wE W i)).isSome = true
    · have hw1 : waitL (onW cnt W) (i + 1) = waitL (onW cnt W) i ++ [i] := by rw [waitL, hon, hso, if_pos rfl]
      generalize hL : waitL (onW cnt W) i = L at *
      have s1 : Sg z (fun x => x = z + 599) 0 S (setI S (z + 599) 6 (nI (L.length + 1))) := Sg_setI hW rfl
      have s2 : Sg z (fun x => x = z + 599) 0 (setI S (z + 599) 6 (nI (L.length + 1))) (setA (setI S (z + 599) 6 (nI (L.length + 1))) (z + 601) (upd (cA S (z + 601)) L.length (nI i))) := Sg_setA s1.1 rfl (k := 1) e2
      have i7 : cI (setA (setI S (z + 599) 6 (nI (L.length + 1))) (z + 601) (upd (cA S (z + 601)) L.length (nI i))) (z + 599) 7 = nI (fac L.length) := by
        rw [cI_setA, cI_set, if_neg (by omega)]; exact h7
      have i6 : cI (setA (setI S (z + 599) 6 (nI (L.length + 1))) (z + 601) (upd (cA S (z + 601)) L.length (nI i))) (z + 599) 6 = nI (L.length + 1) := by
        rw [cI_setA, cI_self]
      have iO : ∀ k, k ≠ 6 → cI (setA (setI S (z + 599) 6 (nI (L.length + 1))) (z + 601) (upd (cA S (z + 601)) L.length (nI i))) (z + 599) k = cI S (z + 599) k := fun k hk => by
        rw [cI_setA, cI_set, if_neg (by omega)]
      have a1 : cA (setA (setI S (z + 599) 6 (nI (L.length + 1))) (z + 601) (upd (cA S (z + 601)) L.length (nI i))) (z + 601) = upd (cA S (z + 601)) L.length (nI i) := cA_self _ _ _
      have aO : ∀ a, a ≠ z + 601 → cA (setA (setI S (z + 599) 6 (nI (L.length + 1))) (z + 601) (upd (cA S (z + 601)) L.length (nI i))) a = cA S a := fun a ha => va_up_ne _ _ ha
      have e12 : sti (setI S (z + 599) 6 (nI (L.length + 1))) (z + 601) (nI L.length) (nI i) = some (setA (setI S (z + 599) 6 (nI (L.length + 1))) (z + 601) (upd (cA S (z + 601)) L.length (nI i))) := sti_k (S := setI S (z + 599) 6 (nI (L.length + 1))) f1 (by show L.length < cN S (z + 601); omega) (by show cN S (z + 601) < _; omega)
      rw [if_neg (fun hh => by rw [oI_n1 (fun k hk => by have := hl9 k hk; omega), hso] at hh; cases hh), Option.bind_some, gi_k e0, h6, Option.bind_some, nI_1, pi_k e0, Option.bind_some, e12, Option.bind_some]
      have s12 := Sg_trans s1 s2
      generalize setA (setI S (z + 599) 6 (nI (L.length + 1))) (z + 601) (upd (cA S (z + 601)) L.length (nI i)) = S2 at *
      have hT2 := TpS_Sg hW hT s12
      have q0 := hT2.2.2.2.2.2.1.1
      rw [gi_k q0, i7, Option.bind_some, gi_k q0, i6, Option.bind_some, nI_mul, pi_k q0, Option.bind_some, Option.bind_some]
      have s3 : Sg z (fun x => x = z + 599) 0 S2 (setI S2 (z + 599) 7 (nI (fac L.length * (L.length + 1)))) := Sg_setI s2.1 rfl
      have s13 := Sg_trans s12 s3
      obtain ⟨S', r1, r2, r3, r4, r5, r6, r7⟩ := ih (i + 1) n (setI S2 (z + 599) 7 (nI (fac L.length * (L.length + 1)))) (by omega) (by omega) s3.1 (TpS_Sg hW hT s13) (WdC_Sg hW hC s13 (fun x x1 x2 => by omega)) (by rw [cI_set, if_neg (by omega), i6, hw1, List.length_append]; rfl) (by rw [cI_self, hw1, List.length_append]; rfl) (by
        rw [hw1]
        show seg (cA S2 (z + 601)) 0 _
        rw [a1, List.map_append, seg_app]
        refine ⟨fun k hk => ?_, fun k hk => ?_⟩
        · rw [List.length_map] at hk
          rw [upd_ne _ _ (by omega)]
          exact hs k (by rw [List.length_map]; exact hk)
        · have : k = 0 := by simpa using hk
          subst this
          rw [List.length_map, show 0 + L.length + 0 = L.length by omega, upd_self]; rfl)
      refine ⟨S', r1, r2, r3, r4, fun k k1 k2 => ?_, fun a ha => ?_, ?_⟩
      · rw [r5 k k1 k2, cI_set, if_neg (by omega), iO k k1]
      · rw [r6 a ha]; exact aO a ha
      · have := Sg_trans s13 r7
        exact this
    · have hsf : (eLft (wE W i)).isSome = false := by cases hh : (eLft (wE W i)).isSome <;> simp_all
      have hw1 : waitL (onW cnt W) (i + 1) = waitL (onW cnt W) i := by rw [waitL, hon, hsf]; simp
      rw [if_pos ((oI_n1 (fun k hk => by have := hl9 k hk; omega)).mpr hsf), Option.bind_some]
      exact ih (i + 1) n S (by omega) (by omega) hW hT hC (by rw [hw1]; exact h6) (by rw [hw1]; exact h7) (by rw [hw1]; exact hs)
/-- how many of four rows fit -/
def cT (s : Nat → Nat) (L : Nat) : Nat := sumN (fun i => if s i ≤ L then 1 else 0) 4
theorem cT_le (s : Nat → Nat) (L : Nat) : cT s L ≤ 4 := by
  have : cT s L ≤ sumN (fun _ => 1) 4 := sumN_le (fun i _ => by split <;> omega)
  exact this
theorem cT_mono (s : Nat → Nat) {a b : Nat} (h : a ≤ b) : cT s a ≤ cT s b := sumN_le (fun i _ => by
  by_cases h1 : s i ≤ a
  · rw [if_pos h1, if_pos (by omega)]; exact Nat.le_refl _
  · rw [if_neg h1]; exact Nat.zero_le _)
theorem cT_lt (s : Nat → Nat) {a b i : Nat} (hi : i < 4) (h : a ≤ b) (h1 : a < s i) (h2 : s i ≤ b) : cT s a + 1 ≤ cT s b := by
  have key : ∀ n, n ≤ 4 → sumN (fun i => if s i ≤ a then 1 else 0) n + (if i < n then 1 else 0) ≤ sumN (fun i => if s i ≤ b then 1 else 0) n := by
    intro n
    induction n with
    | zero => intro _; exact Nat.le_refl _
    | succ n ih =>
      intro hn
      have := ih (by omega)
      rw [sumN, sumN]
      have hh : (if s n ≤ a then 1 else 0) ≤ (if s n ≤ b then 1 else 0) := by
        by_cases h1 : s n ≤ a
        · rw [if_pos h1, if_pos (by omega)]; exact Nat.le_refl _
        · rw [if_neg h1]; exact Nat.zero_le _
      by_cases hin : i < n
      · rw [if_pos hin] at this
        rw [if_pos (show i < n + 1 by omega)]
        omega
      · by_cases hie : i = n
        · subst hie
          rw [if_neg (show ¬ i < i by omega)] at this
          rw [if_pos (show i < i + 1 by omega), if_neg (show ¬ s i ≤ a by omega), if_pos h2]
          omega
        · rw [if_neg hin] at this
          rw [if_neg (show ¬ i < n + 1 by omega)]
          omega
  have := key 4 (Nat.le_refl _)
  rw [if_pos hi] at this
  exact this
/-- what may still be made while the orders are gone through -/
def FI (s : Nat → Nat) (z L0 m : Nat) (S : CS) : Nat := (4 - cT s (lenO S (z + 13))) + sumN (fun j => 4 - cT s (lenO S (z + 27 + 2 * (L0 + j)))) m
theorem FI_le (s : Nat → Nat) (z L0 m : Nat) (S : CS) (hm : m ≤ 4) : FI s z L0 m S ≤ 20 := by
  have h1 : sumN (fun j => 4 - cT s (lenO S (z + 27 + 2 * (L0 + j)))) m ≤ sumN (fun _ => 4) m := sumN_le (fun i _ => by omega)
  have h2 : ∀ n, sumN (fun _ => 4) n = 4 * n := by
    intro n
    induction n with
    | zero => rfl
    | succ n ih => rw [sumN, ih]; omega
  rw [h2] at h1
  unfold FI
  omega
theorem lp_cT (s : Nat → Nat) {a b a' b' : Nat} (h : lpR a b a' b') : (4 - cT s a') + (4 - cT s b') ≤ (4 - cT s a) + (4 - cT s b) := by
  rcases h with ⟨h1, h2⟩ | ⟨h1, h2⟩
  · have := cT_mono s h1; have := cT_mono s h2; omega
  · have := cT_mono s h1; have := cT_mono s h2; omega
theorem FI_take {s : Nat → Nat} {L0 m j0 a p : Nat} (hj : j0 < m) (hp : p < 4) (h1 : lenO S (z + 27 + 2 * (L0 + j0)) ≤ a) (h2 : s p ≤ a) (h3 : lpR a (lenO S (z + 13)) (lenO S' (z + 27 + 2 * (L0 + j0))) (lenO S' (z + 13))) (ho : ∀ j, j < m → j ≠ j0 → lenO S' (z + 27 + 2 * (L0 + j)) = lenO S (z + 27 + 2 * (L0 + j))) : (if lenO S (z + 27 + 2 * (L0 + j0)) < s p then 1 else 0) + FI s z L0 m S' ≤ FI s z L0 m S := by
  have e := sum_one (f := fun j => 4 - cT s (lenO S (z + 27 + 2 * (L0 + j)))) (g := fun j => 4 - cT s (lenO S' (z + 27 + 2 * (L0 + j)))) hj (fun x hx hne => by rw [ho x hx hne])
  have h4 := lp_cT s h3
  have h5 := cT_mono s h1
  have h6 := cT_le s a
  unfold FI
  by_cases hlt : lenO S (z + 27 + 2 * (L0 + j0)) < s p
  · have h7 := cT_lt s hp h1 hlt h2
    rw [if_pos hlt]
    omega
  · rw [if_neg hlt]
    omega
theorem FI_same {s : Nat → Nat} {L0 m : Nat} (h1 : lenO S' (z + 13) = lenO S (z + 13)) (h2 : ∀ j, j < m → lenO S' (z + 27 + 2 * (L0 + j)) = lenO S (z + 27 + 2 * (L0 + j))) : FI s z L0 m S' = FI s z L0 m S := by
  unfold FI
  rw [h1, sumN_congr (fun j hj => by rw [h2 j hj])]
theorem fac_div (d : Nat) : fac (d + 1) / (d + 1) = fac d := by rw [fac]; exact Nat.mul_div_cancel _ (by omega)
theorem fac_lt {d rest : Nat} (h : rest < fac (d + 1)) : rest / fac d < d + 1 := by
  have h2 : rest < fac d * (d + 1) := by rw [fac] at h; exact h
  exact Nat.div_lt_of_lt_mul h2
theorem seg_erase {f : Nat → Int32} {l : List Nat} {k d : Nat} (hs : seg f 0 (l.map nI)) (hl : l.length = d + 1) (hk : k ≤ d) : seg (va_cpy f f (k + 1) k (d - k)) 0 ((l.eraseIdx k).map nI) := by
  intro j hj
  rw [List.length_map, List.length_eraseIdx_of_lt (by omega)] at hj
  rw [Nat.zero_add, List.getD_eq_getElem?_getD, List.getElem?_map, List.getElem?_eraseIdx]
  unfold va_cpy
  by_cases hjk : j < k
  · rw [if_neg (by omega), if_pos hjk]
    have := hs j (by rw [List.length_map]; omega)
    rw [Nat.zero_add, List.getD_eq_getElem?_getD, List.getElem?_map] at this
    exact this
  · rw [if_pos (by omega), if_neg hjk, show k + 1 + (j - k) = j + 1 by omega]
    have := hs (j + 1) (by rw [List.length_map]; omega)
    rw [Nat.zero_add, List.getD_eq_getElem?_getD, List.getElem?_map] at this
    exact this
end AL
