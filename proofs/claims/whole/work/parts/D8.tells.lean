/-! ===== PART II, the class: tells ===== -/
theorem cA_ne {S : CS} {a x : Nat} {f : Nat → Int32} (h : x ≠ a) : cA (setA S a f) x = cA S x := va_up_ne _ _ h
def mostK (A : St) (p n : Nat) : Nat → Nat
  | 0 => 0
  | v + 1 => max (mostK A p n v) (cntV A p v n)
theorem mostP_K (A : St) (p : Nat) : ∀ v, mostP A p v = mostK A p (endsA A).length v := by
  intro v
  induction v with
  | zero => rfl
  | succ v ih => rw [mostP, mostK, ih]
theorem mostK_le {A : St} {p n b : Nat} : ∀ k, mostK A p n k ≤ b ↔ ∀ v, v < k → cntV A p v n ≤ b := by
  intro k
  induction k with
  | zero => exact ⟨fun _ v hv => by omega, fun _ => Nat.zero_le _⟩
  | succ k ih =>
    rw [mostK]
    constructor
    · intro h v hv
      by_cases hvk : v = k
      · subst hvk; omega
      · exact ih.mp (by omega) v (by omega)
    · intro h
      have h1 := ih.mpr (fun v hv => h v (by omega))
      have h2 := h k (by omega)
      omega
theorem mostK_no {A : St} {p n : Nat} (h : fitA A n = false) : (∀ v, cntV A p v (n + 1) = cntV A p v n) ∧ mostK A p (n + 1) 27 = mostK A p n 27 := by
  have hc : ∀ v, cntV A p v (n + 1) = cntV A p v n := fun v => by rw [cntV, if_neg (fun hh => by rw [h] at hh; cases hh.1)]; rfl
  refine ⟨hc, Nat.le_antisymm ?_ ?_⟩
  · rw [mostK_le]; intro v hv; rw [hc]; exact (mostK_le 27).mp (Nat.le_refl _) v hv
  · rw [mostK_le]; intro v hv; rw [← hc]; exact (mostK_le 27).mp (Nat.le_refl _) v hv
theorem mostK_yes {A : St} {p n l : Nat} (h : fitA A n = true) (hl : l < 27) (he : endP ((endsA A).getD n []) p = nI l) : (∀ v, v < 27 → v ≠ l → cntV A p v (n + 1) = cntV A p v n) ∧ cntV A p l (n + 1) = cntV A p l n + 1 ∧ mostK A p (n + 1) 27 = max (mostK A p n 27) (cntV A p l n + 1) := by
  have hc : ∀ v, v < 27 → v ≠ l → cntV A p v (n + 1) = cntV A p v n := fun v hv hne => by
    rw [cntV, if_neg (fun hh => hne (by have h2 := hh.2; rw [he] at h2; exact (nI_inj h2 (by omega) (by omega)).symm))]; rfl
  have hl1 : cntV A p l (n + 1) = cntV A p l n + 1 := by rw [cntV, if_pos ⟨h, he⟩]
  refine ⟨hc, hl1, Nat.le_antisymm ?_ ?_⟩
  · rw [mostK_le]
    intro v hv
    by_cases hvl : v = l
    · subst hvl; rw [hl1]; omega
    · rw [hc v hv hvl]
      have := (mostK_le 27).mp (Nat.le_refl (mostK A p n 27)) v hv
      omega
  · have h1 : mostK A p n 27 ≤ mostK A p (n + 1) 27 := by
      rw [mostK_le]
      intro v hv
      have := (mostK_le 27).mp (Nat.le_refl (mostK A p (n + 1) 27)) v hv
      by_cases hvl : v = l
      · subst hvl; omega
      · rw [← hc v hv hvl]; exact this
    have h2 := (mostK_le 27).mp (Nat.le_refl (mostK A p (n + 1) 27)) l hl
    omega
section AQ
variable {S S' : CS} {z fi ch c : Nat} {A A' : St} {K : Nat → Option Nat} {H : Nat → Prop} {X : Nat × Nat}
theorem fill_lp {h a N : Nat} {v : Int32} (hN : N < 1000) : ∀ (d i n : Nat) (S : CS), i + d = N → d < n → Wf S → cJ S h 5 = some a → kd S a = 14 → cN S a = N → ∃ S', LJ7_fill_53178_5 a v (nI N) n (nI i) S = some S' ∧ (∀ j, j < i → cA S' a j = cA S a j) ∧ (∀ j, i ≤ j → j < N → cA S' a j = v) ∧ cI S' = cI S ∧ (∀ x, x ≠ a → cA S' x = cA S x) ∧ Sg z (fun x => x = h) 0 S S' := by
  intro d
  induction d with
  | zero =>
    intro i n S hi hn hW hj hk hc
    obtain ⟨n, rfl⟩ : ∃ k, n = k + 1 := ⟨n - 1, by omega⟩
    unfold LJ7_fill_53178_5
    rw [if_pos (nI_le (by omega) (by omega))]
    exact ⟨S, rfl, fun _ _ => rfl, fun j j1 j2 => by omega, rfl, fun _ _ => rfl, Sg_refl hW⟩
  | succ d ih =>
    intro i n S hi hn hW hj hk hc
    obtain ⟨n, rfl⟩ : ∃ k, n = k + 1 := ⟨n - 1, by omega⟩
    unfold LJ7_fill_53178_5
    rw [if_neg (nI_ge (by omega) (by omega)), sti_k hk (by omega) (by omega), Option.bind_some, nI_1]
    have s1 : Sg z (fun x => x = h) 0 S (setA S a (upd (cA S a) i v)) := Sg_setA hW rfl hj
    obtain ⟨S', r1, r2, r3, r4, r5, r6⟩ := ih (i + 1) n (setA S a (upd (cA S a) i v)) (by omega) (by omega) s1.1 hj hk hc
    refine ⟨S', r1, fun j hj => ?_, fun j j1 j2 => ?_, r4, fun x hx => ?_, by have := Sg_trans s1 r6; exact this⟩
    · rw [r2 j (by omega), cA_self, upd_ne _ _ (by omega)]
    · by_cases hji : j = i
      · subst hji; rw [r2 j (by omega), cA_self, upd_self]
      · exact r3 j (by omega) j2
    · rw [r5 x hx]; exact va_up_ne _ _ hx
theorem most_loopC (hg : GA A) {p : Nat} (hp : p < 240) : ∀ (d i n : Nat) (S : CS), i + d = (endsA A).length → d < n → CR S z A K fi ch → EndC S z A → (∀ v, v < 27 → cA S (z + 605) v = nI (cntV A p v i)) →
    ∃ S', LX0_countMostLeft_12 (z + 599) (nI p) n (nI (mostK A p i 27)) (nI i) S = some (nI (mostP A p 27), S') ∧ CR S' z A K fi ch ∧ EndC S' z A ∧ Cst z 0 S S' := by
  have hl24 := ends_len hg
  have hok := ends_okP hg
  intro d
  induction d with
  | zero =>
    intro i n S hi hn h hE hT
    obtain ⟨n, rfl⟩ : ∃ k, n = k + 1 := ⟨n - 1, by omega⟩
    unfold LX0_countMostLeft_12
    rw [gi_k h.2.1.2.2.2.2.2.1.1, hE.1, Option.bind_some, if_pos (nI_le (by omega) (by omega)), mostP_K, show (endsA A).length = i by omega]
    exact ⟨S, rfl, h, hE, Cst_rf z S⟩
  | succ d ih =>
    intro i n S hi hn h hE hT
    obtain ⟨n, rfl⟩ : ∃ k, n = k + 1 := ⟨n - 1, by omega⟩
    obtain ⟨e0, e1, e2, e3, e4, e5, e6⟩ := h.2.1.2.2.2.2.2.1
    obtain ⟨_, _, _, _, _, ⟨f9, f10⟩⟩ := h.2.1.2.2.2.2.2.2.1
    have ht := List.getElem?_eq_getElem (show i < (endsA A).length by omega)
    generalize (endsA A)[i] = t at ht
    have hgd : (endsA A).getD i [] = t := by rw [List.getD_eq_getElem?_getD, ht]; rfl
    obtain ⟨n24, x1, t', x2, x3⟩ := end_at h hE hl24 ht
    obtain ⟨l, l1, l2⟩ : ∃ l : Nat, l < 27 ∧ endP t p = nI l := by
      unfold endP
      by_cases hpt : p < t.length
      · rw [if_pos hpt]
        have hm := hok t (List.mem_of_getElem? ht) _ (List.getElem_mem hpt)
        obtain ⟨w, w1, w2, w3⟩ := hm
        exact ⟨w, by omega, by rw [List.getD_eq_getElem?_getD, List.getElem?_eq_getElem hpt]; exact w3⟩
      · rw [if_neg hpt]; exact ⟨0, by omega, rfl⟩
    unfold LX0_countMostLeft_12
    rw [gi_k e0, hE.1, Option.bind_some, if_neg (nI_ge (by omega) (by omega)), gr_k e0 e1, Option.bind_some, x1, Option.bind_some, cal_k (TxL_kd x2), letE x2 x3 (by omega), l2, Option.bind_some, gr_k e0 e6, Option.bind_some, aln_k f9, f10, Option.bind_some, if_neg (nI_ge l1 (by omega)), isFit_C h hg hE (by omega), Option.bind_some]
    cases hf : fitA A i with
    | false =>
      obtain ⟨m1, m2⟩ := mostK_no (p := p) hf
      rw [if_pos (show bI false = 0 from rfl), bn2_s, nI_1, ← m2]
      exact ih (i + 1) n S (by omega) (by omega) h hE (fun v hv => by rw [m1]; exact hT v hv)
    | true =>
      obtain ⟨m1, m2, m3⟩ := mostK_yes (p := p) hf l1 (by rw [hgd]; exact l2)
      have hcl := cntV_le A p l i
      have s1 : Sg z (fun x => x = z + 599) 0 S (setA S (z + 605) (upd (cA S (z + 605)) l (nI (cntV A p l i + 1)))) := Sg_setA h.1 rfl e6
      obtain ⟨C1, E1⟩ := CR_tal h hE s1 (by rw [cI_setA]) (cA_ne (by omega)) (cA_ne (by omega))
      have k9 : kd (setA S (z + 605) (upd (cA S (z + 605)) l (nI (cntV A p l i + 1)))) (z + 605) = 14 := f9
      have n9 : cN (setA S (z + 605) (upd (cA S (z + 605)) l (nI (cntV A p l i + 1)))) (z + 605) = 27 := f10
      have a9 : cA (setA S (z + 605) (upd (cA S (z + 605)) l (nI (cntV A p l i + 1)))) (z + 605) = upd (cA S (z + 605)) l (nI (cntV A p l i + 1)) := cA_self _ _ _
      obtain ⟨S', r1, r2, r3, r4⟩ := ih (i + 1) n (setA S (z + 605) (upd (cA S (z + 605)) l (nI (cntV A p l i + 1)))) (by omega) (by omega) C1 E1 (fun v hv => by
        rw [a9]
        by_cases hvl : v = l
        · subst hvl; rw [upd_self, m2]
        · rw [upd_ne _ _ hvl, m1 v hv hvl]; exact hT v hv)
      rw [if_neg (show ¬ bI true = 0 by decide), Option.bind_some, ldi_k f9 (by omega) (by omega), Option.bind_some, hT l l1, nI_1, sti_k f9 (by omega) (by omega), Option.bind_some]
      generalize setA S (z + 605) (upd (cA S (z + 605)) l (nI (cntV A p l i + 1))) = S1 at *
      obtain ⟨q0, q1, q2, q3, q4, q5, q6⟩ := C1.2.1.2.2.2.2.2.1
      rw [gr_k q0 q6, Option.bind_some, ldi_k k9 (by omega) (by omega), Option.bind_some, a9, upd_self, nI_maxI (by have := mostP_le A p 27; have : mostK A p i 27 ≤ 24 := (mostK_le 27).mpr (fun v _ => by have := cntV_le A p v i; omega); omega) (by omega), bn2_s, ← m3, nI_1]
      exact ⟨S', r1, r2, r3, by have := Cst_tr (Cst_of s1) r4; exact this⟩
theorem most_C (hg : GA A) {p : Nat} (hp : p < 240) (h : CR S z A K fi ch) (hE : EndC S z A) : ∃ S', cal S 0 (z + 599) (f0_countMostLeft S (z + 599) (nI p)) = some (nI (mostP A p 27), S') ∧ CR S' z A K fi ch ∧ EndC S' z A ∧ Cst z 0 S S' := by
  have hl24 := ends_len hg
  obtain ⟨e0, e1, e2, e3, e4, e5, e6⟩ := h.2.1.2.2.2.2.2.1
  obtain ⟨_, _, _, _, _, ⟨f9, f10⟩⟩ := h.2.1.2.2.2.2.2.2.1
  obtain ⟨S2, r1, r2, r3, r4, r5, r6⟩ := fill_lp (z := z) (h := z + 599) (a := z + 605) (N := 27) (v := 0) (by omega) 27 0 FU S (by omega) (by rw [FU_eq]; omega) h.1 e6 f9 f10
  obtain ⟨C2, E2⟩ := CR_tal h hE r6 (by rw [r4]) (r5 _ (by omega)) (r5 _ (by omega))
  have hz : ∀ k, mostK A p 0 k = 0 := fun k => by
    have : mostK A p 0 k ≤ 0 := (mostK_le k).mpr (fun v _ => by rw [cntV]; exact Nat.le_refl _)
    omega
  obtain ⟨S', x1, x2, x3, x4⟩ := most_loopC hg hp (endsA A).length 0 FU S2 (by omega) (by rw [FU_eq]; omega) C2 E2 (fun v hv => by rw [r3 v (by omega) hv]; rfl)
  rw [hz] at x1
  rw [cal_k e0]
  unfold f0_countMostLeft f7_fill_53178
  rw [gr_k e0 e6, Option.bind_some, aln_k f9, f10, Option.bind_some, show LJ7_fill_53178_5 (z + 605) 0 (nI 27) FU 0 S = some S2 from r1, Option.bind_some, Option.bind_some, show LX0_countMostLeft_12 (z + 599) (nI p) FU 0 0 S2 = _ from x1, bn2_s]
  exact ⟨S', rfl, x2, x3, by have := Cst_tr (Cst_of r6) x4; exact this⟩
theorem tell_loop (hg : GA A) : ∀ (d p n : Nat) (S : CS), p + d = 240 → 1 ≤ p → d < n → CR S z A K fi ch → EndC S z A → ∃ S', LX0_findTelling_7 (z + 599) n (nI (bst A p)) (nI (mostP A (bst A p) 27)) (nI p) S = some (nI (bst A 240), S') ∧ CR S' z A K fi ch ∧ EndC S' z A ∧ Cst z 0 S S' := by
  have hl24 := ends_len hg
  intro d
  induction d with
  | zero =>
    intro p n S hp h1 hn h hE
    obtain ⟨n, rfl⟩ : ∃ k, n = k + 1 := ⟨n - 1, by omega⟩
    unfold LX0_findTelling_7
    rw [if_pos (show (240 : Int32) ≤ nI p from nI_le (a := 240) (by omega) (by omega)), show p = 240 by omega]
    exact ⟨S, rfl, h, hE, Cst_rf z S⟩
  | succ d ih =>
    intro p n S hp h1 hn h hE
    obtain ⟨n, rfl⟩ : ∃ k, n = k + 1 := ⟨n - 1, by omega⟩
    obtain ⟨S2, x1, x2, x3, x4⟩ := most_C hg (show p < 240 by omega) h hE
    have m1 := mostP_le A p 27
    have m2 := mostP_le A (bst A p) 27
    unfold LX0_findTelling_7
    rw [if_neg (show ¬ (240 : Int32) ≤ nI p from nI_ge (b := 240) (by omega) (by omega)), x1, bn2_s, nI_1]
    by_cases hle : mostP A p 27 < mostP A (bst A p) 27
    · have hb : bst A (p + 1) = p := by rw [bst, if_pos hle]
      rw [if_neg (nI_ge hle (by omega)), bn2_s]
      obtain ⟨S', y1, y2, y3, y4⟩ := ih (p + 1) n S2 (by omega) (by omega) (by omega) x2 x3
      rw [hb] at y1
      exact ⟨S', y1, y2, y3, by have := Cst_tr x4 y4; exact this⟩
    · have hb : bst A (p + 1) = bst A p := by rw [bst, if_neg hle]
      rw [if_pos (nI_le (by omega) (by omega)), bn2_s]
      obtain ⟨S', y1, y2, y3, y4⟩ := ih (p + 1) n S2 (by omega) (by omega) (by omega) x2 x3
      rw [hb] at y1
      exact ⟨S', y1, y2, y3, by have := Cst_tr x4 y4; exact this⟩
theorem tell_C (hg : GA A) (h : CR S z A K fi ch) (hE : EndC S z A) : ∃ S', cal S 0 (z + 599) (f0_findTelling S (z + 599)) = some (nI (bst A 240), S') ∧ CR S' z A K fi ch ∧ EndC S' z A ∧ Cst z 0 S S' := by
  have hl24 := ends_len hg
  obtain ⟨S2, x1, x2, x3, x4⟩ := most_C hg (show 0 < 240 by omega) h hE
  have x1' : cal S 0 (z + 599) (f0_countMostLeft S (z + 599) 0) = some (nI (mostP A 0 27), S2) := x1
  have m1 := mostP_le A 0 27
  obtain ⟨S', y1, y2, y3, y4⟩ := tell_loop hg 239 1 (FU - 1) S2 (by omega) (by omega) (by rw [FU_eq]; omega) x2 x3
  rw [bst_1] at y1
  rw [cal_k h.2.1.2.2.2.2.2.1.1]
  unfold f0_findTelling
  have e1 : LX0_findTelling_7 (z + 599) FU 0 25 0 S = some (nI (bst A 240), S') := by
    have hF : FU = (FU - 1) + 1 := by rw [FU_eq]
    rw [hF]
    unfold LX0_findTelling_7
    rw [if_neg (by decide), x1', bn2_s, if_neg (show ¬ (25 : Int32) ≤ nI (mostP A 0 27) from nI_ge (b := 25) (by omega) (by omega)), bn2_s]
    exact y1
  rw [e1, bn2_s]
  exact ⟨S', rfl, y2, y3, by have := Cst_tr x4 y4; exact this⟩
theorem tells_C (h : CR S z A K fi ch) (hg : GA A) (hR : Rm z X (6720 + c) S) (p : Int32) : EvR z A K fi ch S (f11_tells X S z p) (qTells A p) := by
  obtain ⟨hW, hT, hTp, hTf, hsh, hwd, ha, hk, hh, hc⟩ := id h
  have hc4 := hg.2.2.1.1
  have hl24 := ends_len hg
  have hcl := cntF_le (endsA A) (aSeen A) (endsA A).length
  obtain ⟨t0, t1, t2, t3, t4, t5, t6, t7, t8, t9⟩ := TpS_g hT
  unfold f11_tells qTells
  rw [t3, Option.bind_some, gi_k hwd.1.1, hwd.2.1.1, Option.bind_some]
  by_cases h0 : aCnt A = 0
  · rw [h0, if_pos (show nI 0 = (0 : Int32) from rfl), if_neg (fun hh => by omega)]
    exact EvR_no h _
  · rw [if_neg (nI_ne0 (by omega) (by omega))]
    by_cases h1 : p < 0
    · rw [if_pos h1, if_neg (fun hh => by rw [Int32.lt_iff_toInt_lt, i0] at h1; omega)]
      exact EvR_no h _
    · rw [if_neg h1]
      rw [Int32.lt_iff_toInt_lt, i0] at h1
      by_cases h2 : p ≤ 1
      · rw [if_pos h2]
        rw [Int32.le_iff_toInt_le, show (1 : Int32).toInt = 1 from by decide] at h2
        obtain ⟨S3, e3, C3, E3, k3⟩ := reckonEnds_C (X := X) (c := c) h hg hR
        have v6 := (TpS_g C3.2.1).2.2.2.2.2.2.1
        rw [e3, Option.bind_some, v6, Option.bind_some, countFits_C C3 hg E3, Option.bind_some]
        by_cases hc0 : cntF (endsA A) (aSeen A) (endsA A).length = 0
        · rw [hc0, if_pos (show nI 0 = (0 : Int32) from rfl), if_neg (fun hh => hh.2.2 rfl)]
          exact ⟨S3, rfl, C3, k3⟩
        · obtain ⟨S8, x1, x2, x3, x4⟩ := tell_C hg C3 E3
          rw [if_neg (nI_ne0 (by omega) (by omega)), if_pos (show 0 < aCnt A ∧ (0 ≤ p.toInt ∧ p.toInt ≤ 1) ∧ cntF (endsA A) (aSeen A) (endsA A).length ≠ 0 from ⟨by omega, ⟨by omega, h2⟩, hc0⟩), Option.bind_some, x1, bn2_s]
          by_cases hp0 : p = 0
          · rw [if_pos hp0, if_pos hp0, bn2_s]
            exact ⟨S8, rfl, x2, by have := Cst_tr k3 x4; exact this⟩
          · obtain ⟨S9, y1, y2, y3, y4⟩ := most_C hg (show bst A 240 < 240 by
              have := bst_lt A 239
              have h9 : bst A 240 = if mostP A 239 27 < mostP A (bst A 239) 27 then 239 else bst A 239 := rfl
              rw [h9]; split <;> omega) x2 x3
            rw [if_neg hp0, if_neg hp0, (TpS_g x2.2.1).2.2.2.2.2.2.1, Option.bind_some, y1, bn2_s, bn2_s]
            exact ⟨S9, rfl, y2, by have := Cst_tr (Cst_tr k3 x4) y4; exact this⟩
      · rw [if_neg h2, if_neg (fun hh => h2 (by rw [Int32.le_iff_toInt_le, show (1 : Int32).toInt = 1 from by decide]; exact hh.2.1.2))]
        exact EvR_no h _
end AQ
