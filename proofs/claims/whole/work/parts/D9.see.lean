/-! ===== PART II, the class: see ===== -/
theorem pairs_get : ∀ (k : Nat) (l : List Int32), l.length = 2 * k → ∀ i, i < k → (pairsOf l)[i]? = some (l.getD (2 * i) 0, l.getD (2 * i + 1) 0) := by
  intro k
  induction k with
  | zero => intro l _ i hi; omega
  | succ k ih =>
    intro l hl i hi
    match l, hl with
    | a :: b :: l, hl =>
      rw [pairsOf]
      cases i with
      | zero => rfl
      | succ i =>
        rw [List.getElem?_cons_succ, ih l (by simp only [List.length_cons] at hl; omega) i (by omega), show 2 * (i + 1) = 2 * i + 1 + 1 by omega, show 2 * i + 1 + 1 + 1 = (2 * i + 1) + 1 + 1 by omega]
        rfl
    | [a], hl => simp at hl; omega
    | [], hl => simp at hl
section AR2
variable {S S' : CS} {z fi ch c : Nat} {A A' : St} {K : Nat → Option Nat} {H : Nat → Prop} {X : Nat × Nat}
theorem see_loopC {a N : Nat} (hk : kd S a = 14) (hc : cN S a = 1600) (hN : N ≤ 1600) : ∀ (k : Nat) (l : List Int32) (n i : Nat), l.length = 2 * k → i + l.length = N → seg (cA S a) i l → k < n → LX0_canSee_27 a (nI N) S n (nI i) = some (if seeB l then 1 else 0) := by
  intro k
  induction k with
  | zero =>
    intro l n i hl hi hs hn
    obtain ⟨n, rfl⟩ : ∃ k, n = k + 1 := ⟨n - 1, by omega⟩
    unfold LX0_canSee_27
    rw [nI_1, if_pos (nI_le (by omega) (by omega))]
    have : l = [] := List.length_eq_zero_iff.mp (by omega)
    subst this; rfl
  | succ k ih =>
    intro l n i hl hi hs hn
    obtain ⟨n, rfl⟩ : ∃ k, n = k + 1 := ⟨n - 1, by omega⟩
    match l, hl, hi, hs with
    | x :: y :: l, hl, hi, hs =>
      simp only [List.length_cons] at hl hi
      have h0 : cA S a i = x := by have := hs 0 (by simp); simpa using this
      have h1 : cA S a (i + 1) = y := by have := hs 1 (by simp); simpa using this
      have h2 : seg (cA S a) (i + 2) l := fun j hj => by
        have := hs (j + 2) (by simp; omega)
        rw [show i + 2 + j = i + (j + 2) by omega, this]; rfl
      unfold LX0_canSee_27
      rw [nI_1, if_neg (nI_ge (by omega) (by omega)), ldi_k hk (by omega) (by omega), Option.bind_some, h0, ldi_k hk (by omega) (by omega), Option.bind_some, h1, nI_2, seeB]
      by_cases c1 : (240 : Int32) ≤ x
      · rw [if_pos c1, decide_eq_false (fun hh => by rw [Int32.le_iff_toInt_le, show (240 : Int32).toInt = 240 from by decide] at c1; omega), Bool.false_and]; rfl
      · rw [if_neg c1, decide_eq_true (by rw [Int32.le_iff_toInt_le, show (240 : Int32).toInt = 240 from by decide] at c1; omega), Bool.true_and]
        by_cases c2 : y ≤ 26
        · rw [if_pos c2, decide_eq_true (by rw [Int32.le_iff_toInt_le, show (26 : Int32).toInt = 26 from by decide] at c2; exact c2), Bool.true_and]
          exact ih l n (i + 2) (by omega) (by omega) h2 (by omega)
        · rw [if_neg c2, decide_eq_false (fun hh => c2 (by rw [Int32.le_iff_toInt_le, show (26 : Int32).toInt = 26 from by decide]; exact hh)), Bool.false_and]; rfl
    | [a], hl, _, _ => simp at hl; omega
    | [], hl, _, _ => simp at hl
theorem canSee_C {h a : Nat} {T : List Int32} (hk : kd S a = 14) (hc : cN S a = 1600) (hT : T.length ≤ 1600) (hs : seg (cA S a) 0 T) : f0_canSee S h a (nI T.length) = some (bI (decide (0 < T.length ∧ T.length % 2 = 0 ∧ T.length / 2 ≤ 16 ∧ seeB T = true))) := by
  unfold f0_canSee
  by_cases c1 : T.length < 2
  · rw [if_pos (show nI T.length < (2 : Int32) from nI_lt (b := 2) c1 (by omega)), decide_eq_false (fun hh => by omega)]; rfl
  · rw [if_neg (show ¬ nI T.length < (2 : Int32) from fun hh => by rw [show (2 : Int32) = nI 2 from rfl, nI_ltI (by omega) (by omega)] at hh; omega)]
    by_cases c2 : 32 < T.length
    · rw [if_pos (show (32 : Int32) < nI T.length from nI_lt (a := 32) c2 (by omega)), decide_eq_false (fun hh => by omega)]; rfl
    · rw [if_neg (show ¬ (32 : Int32) < nI T.length from fun hh => by rw [show (32 : Int32) = nI 32 from rfl, nI_ltI (by omega) (by omega)] at hh; omega), show (2 : Int32) = nI 2 from rfl, pk_rem (by omega) (by omega) (by omega)]
      by_cases c3 : T.length % 2 = 0
      · rw [c3, if_pos (show nI 0 = (0 : Int32) from rfl), aln_k hk, hc, Option.bind_some, if_pos (nI_le (by omega) (by omega)), show LX0_canSee_27 a (nI T.length) S FU 0 = _ from see_loopC hk hc hT (T.length / 2) T FU 0 (by omega) (by omega) hs (by rw [FU_eq]; omega), Option.bind_some]
        cases hb : seeB T with
        | true => rw [if_pos rfl, if_neg (by decide), decide_eq_true ⟨by omega, by omega, by omega, rfl⟩]; rfl
        | false => rw [if_pos (show (if false = true then 1 else 0) = 0 from rfl), decide_eq_false (fun hh => by have := hh.2.2.2; cases this)]; rfl
      · rw [if_neg (nI_ne0 (by omega) (by omega)), decide_eq_false (fun hh => c3 hh.2.1)]; rfl
theorem seen_loop {N : Nat} {T : List Int32} (hN : N ≤ 16) (hT2 : T.length = 2 * N) : ∀ (d i n : Nat) (S : CS), i + d = N → d < n → Wf S → TpS S z → cI S (z + 599) 8 = nI N → seg (cA S (z + 2)) 0 T → (∀ j, j < i → cA S (z + 603) j = T.getD (2 * j) 0 ∧ cA S (z + 604) j = T.getD (2 * j + 1) 0) →
    ∃ S', LX0_setSeen_14 (z + 599) (z + 2) n (nI i) S = some S' ∧ (∀ j, j < N → cA S' (z + 603) j = T.getD (2 * j) 0 ∧ cA S' (z + 604) j = T.getD (2 * j + 1) 0) ∧ cI S' = cI S ∧ Sg z (fun x => x = z + 599) 0 S S' := by
  intro d
  induction d with
  | zero =>
    intro i n S hi hn hW hT h8 hs hp
    obtain ⟨n, rfl⟩ : ∃ k, n = k + 1 := ⟨n - 1, by omega⟩
    have e0 := hT.2.2.2.2.2.1.1
    unfold LX0_setSeen_14
    rw [gi_k e0, h8, Option.bind_some, if_pos (nI_le (by omega) (by omega))]
    exact ⟨S, rfl, fun j hj => hp j (by omega), rfl, Sg_refl hW⟩
  | succ d ih =>
    intro i n S hi hn hW hT h8 hs hp
    obtain ⟨n, rfl⟩ : ∃ k, n = k + 1 := ⟨n - 1, by omega⟩
    obtain ⟨e0, e1, e2, e3, e4, e5, e6⟩ := hT.2.2.2.2.2.1
    obtain ⟨_, _, _, ⟨f5, f6⟩, ⟨f7, f8⟩, _⟩ := hT.2.2.2.2.2.2.1
    obtain ⟨b0, b1⟩ := hT.2.2.2.1.1
    have l1 := hs (2 * i) (by omega)
    have l2 := hs (2 * i + 1) (by omega)
    rw [Nat.zero_add] at l1 l2
    have s1 : Sg z (fun x => x = z + 599) 0 S (setA S (z + 603) (upd (cA S (z + 603)) i (T.getD (2 * i) 0))) := Sg_setA hW rfl e4
    have n1 : ∀ x, x ≠ z + 603 → cA (setA S (z + 603) (upd (cA S (z + 603)) i (T.getD (2 * i) 0))) x = cA S x := fun x hx => cA_ne hx
    have m1 : cA (setA S (z + 603) (upd (cA S (z + 603)) i (T.getD (2 * i) 0))) (z + 603) = upd (cA S (z + 603)) i (T.getD (2 * i) 0) := cA_self _ _ _
    have i1 : cI (setA S (z + 603) (upd (cA S (z + 603)) i (T.getD (2 * i) 0))) = cI S := rfl
    unfold LX0_setSeen_14
    rw [gi_k e0, h8, Option.bind_some, if_neg (nI_ge (by omega) (by omega)), aln_k b0, b1, Option.bind_some, show (2 : Int32) = nI 2 from rfl, nI_mul, nI_1, if_neg (nI_ge (by omega) (by omega)), gr_k e0 e4, Option.bind_some, ldi_k b0 (by omega) (by omega), Option.bind_some, l1, sti_k f5 (by omega) (by omega), Option.bind_some]
    generalize setA S (z + 603) (upd (cA S (z + 603)) i (T.getD (2 * i) 0)) = S1 at *
    have hT1 := TpS_Sg hW hT s1
    obtain ⟨g0, g1, g2, g3, g4, g5, g6⟩ := hT1.2.2.2.2.2.1
    obtain ⟨_, _, _, _, ⟨q7, q8⟩, _⟩ := hT1.2.2.2.2.2.2.1
    obtain ⟨r0, r1⟩ := hT1.2.2.2.1.1
    have s2 : Sg z (fun x => x = z + 599) 0 S1 (setA S1 (z + 604) (upd (cA S1 (z + 604)) i (T.getD (2 * i + 1) 0))) := Sg_setA s1.1 rfl g5
    have n2 : ∀ x, x ≠ z + 604 → cA (setA S1 (z + 604) (upd (cA S1 (z + 604)) i (T.getD (2 * i + 1) 0))) x = cA S1 x := fun x hx => cA_ne hx
    have m2 : cA (setA S1 (z + 604) (upd (cA S1 (z + 604)) i (T.getD (2 * i + 1) 0))) (z + 604) = upd (cA S1 (z + 604)) i (T.getD (2 * i + 1) 0) := cA_self _ _ _
    have i2 : cI (setA S1 (z + 604) (upd (cA S1 (z + 604)) i (T.getD (2 * i + 1) 0))) = cI S1 := rfl
    rw [gr_k g0 g5, Option.bind_some, ldi_k r0 (by omega) (by omega), Option.bind_some, n1 _ (by omega), l2, sti_k q7 (by omega) (by omega), Option.bind_some]
    generalize setA S1 (z + 604) (upd (cA S1 (z + 604)) i (T.getD (2 * i + 1) 0)) = S2 at *
    have s12 := Sg_trans s1 s2
    obtain ⟨S', x1, x2, x3, x4⟩ := ih (i + 1) n S2 (by omega) (by omega) s2.1 (TpS_Sg hW hT s12) (by rw [i2, i1]; exact h8) (by rw [n2 _ (by omega), n1 _ (by omega)]; exact hs) (fun j hj => by
      rw [n2 (z + 603) (by omega), m1, m2, n1 (z + 604) (by omega)]
      by_cases hji : j = i
      · subst hji; rw [upd_self, upd_self]; exact ⟨rfl, rfl⟩
      · rw [upd_ne _ _ hji, upd_ne _ _ hji]; exact hp j (by omega))
    rw [nI_1]
    exact ⟨S', x1, x2, x3.trans (i2.trans i1), by have := Sg_trans s12 x4; exact this⟩
theorem see_C (h : CR S z A K fi ch) (hg : GA A) : ∃ S', f11_see S z = some ((aSee A).1, S') ∧ CR S' z (aSee A).2 K fi ch ∧ Cst z 0 S S' := by
  obtain ⟨hW, hT, ⟨tp1, tp2⟩, hTf, hsh, hwd, ha, hk, hh, hc⟩ := id h
  have hc4 := hg.2.2.1.1
  have h1600 := hg.1
  obtain ⟨t0, t1, t2, t3, t4, t5, t6, t7, t8, t9⟩ := TpS_g hT
  obtain ⟨b0, b1, b2, b3, b4⟩ := hT.2.2.1
  have s1 : Sg z (fun x => x = z + 1) 0 S (setI S (z + 1) 1 0) := Sg_setI hW rfl
  have C1 : CR (setI S (z + 1) 1 0) z (sTp A []) K fi ch := CR_tape h hg s1 ⟨cI_self _ _ _ _, fun k hk => by simp at hk⟩
  have g1 : GA (sTp A []) := GA_sTp hg
  have a2 : cA (setI S (z + 1) 1 0) (z + 2) = cA S (z + 2) := rfl
  unfold f11_see aSee
  rw [t0, Option.bind_some, gi_k b0, tp1, Option.bind_some, Option.bind_some, pi_k b0, Option.bind_some]
  generalize setI S (z + 1) 1 0 = S4 at *
  obtain ⟨v0, v1, v2, v3, v4, v5, v6, v7, v8, v9⟩ := TpS_g C1.2.1
  have hwd4 := C1.2.2.2.2.2.1
  have hcn : cI S4 (z + 227) 6 = nI (aCnt A) := hwd4.2.1.1
  rw [v3, Option.bind_some, gi_k hwd4.1.1, hcn, Option.bind_some]
  by_cases h0 : aCnt A = 0
  · obtain ⟨S', r1, r2, r3⟩ := refuse_C C1 g1 (k := 1) (by omega)
    rw [h0, if_pos (show nI 0 = (0 : Int32) from rfl), show cal S4 11 z (f11_refuse S4 z 1) = some (-1, S') from r1, bn2_s, if_neg (fun hh => by omega)]
    exact ⟨S', rfl, r2, by have := Cst_tr (Cst_of s1) r3; exact this⟩
  · obtain ⟨q0, q1, q2, q3, q4, q5, q6⟩ := C1.2.1.2.2.2.2.2.1
    obtain ⟨d0, d1⟩ := C1.2.1.2.2.2.1.1
    obtain ⟨x0, x1, x2, x3, x4⟩ := C1.2.1.2.2.1
    rw [if_neg (nI_ne0 (by omega) (by omega)), v6, Option.bind_some, v0, Option.bind_some, gr_k x0 x1, Option.bind_some, cal_k q0, canSee_C d0 d1 h1600 (by rw [a2]; exact tp2), Option.bind_some]
    by_cases hp : 0 < (aTape A).length ∧ (aTape A).length % 2 = 0 ∧ (aTape A).length / 2 ≤ 16 ∧ seeB (aTape A) = true
    · rw [decide_eq_true hp, if_neg (show ¬ bI true = 0 by decide), if_pos ⟨by omega, hp⟩]
      obtain ⟨hp1, hp2, hp3, hp4⟩ := hp
      have s2 : Sg z (fun x => x = z + 599) 0 S4 (setI S4 (z + 599) 8 (nI ((aTape A).length / 2))) := Sg_setI C1.1 rfl
      have j8 : cI (setI S4 (z + 599) 8 (nI ((aTape A).length / 2))) (z + 599) 8 = nI ((aTape A).length / 2) := cI_self _ _ _ _
      have jO : ∀ k, k ≠ 8 → cI (setI S4 (z + 599) 8 (nI ((aTape A).length / 2))) (z + 599) k = cI S4 (z + 599) k := fun k hk => by rw [cI_set, if_neg (by omega)]
      have jA : cA (setI S4 (z + 599) 8 (nI ((aTape A).length / 2))) = cA S4 := rfl
      have e8 : (if (16 : Int32) < nI (aTape A).length / nI 2 then (16 : Int32) else nI (aTape A).length / nI 2) = nI ((aTape A).length / 2) := by
        rw [pk_div (by omega) (by omega) (by omega), if_neg (fun hh => by rw [show (16 : Int32) = nI 16 from rfl, nI_ltI (by omega) (by omega)] at hh; omega)]
      have hsS : f0_setSeen S4 (z + 599) (z + 2) (nI (aTape A).length) = (LX0_setSeen_14 (z + 599) (z + 2) FU 0 (setI S4 (z + 599) 8 (nI ((aTape A).length / 2)))).bind fun S2 => some S2 := by
        unfold f0_setSeen
        rw [show (2 : Int32) = nI 2 from rfl, e8, pi_k q0, Option.bind_some]
      rw [Option.bind_some, Option.bind_some, gr_k x0 x1, Option.bind_some, cal_k q0, hsS]
      generalize setI S4 (z + 599) 8 (nI ((aTape A).length / 2)) = S5 at *
      obtain ⟨S6, y1, y2, y3, y4⟩ := seen_loop (z := z) (N := (aTape A).length / 2) (T := aTape A) hp3 (by omega) ((aTape A).length / 2) 0 FU S5 (by omega) (by rw [FU_eq]; omega) s2.1 (TpS_Sg C1.1 C1.2.1 s2) j8 (by rw [jA, a2]; exact tp2) (fun j hj => by omega)
      have s26 := Sg_trans s2 y4
      have hl : (pairsOf (aTape A)).length = (aTape A).length / 2 := (flat_pairs ((aTape A).length / 2) (aTape A) (by omega)).2
      have hT6 := TpS_Sg C1.1 C1.2.1 s26
      rw [show LX0_setSeen_14 (z + 599) (z + 2) FU 0 S5 = some S6 from y1, Option.bind_some, Option.bind_some, (TpS_g hT6).2.2.2.2.2.2.1, Option.bind_some, gi_k hT6.2.2.2.2.2.1.1, y3, j8, Option.bind_some]
      obtain ⟨hW1, hT1, hTp1, hTf1, hsh1, hwd1, ha1, hk1, hh1, ⟨c1, c2, c3, c4⟩⟩ := id C1
      have nk : ∀ j k, j < 20 → K j = some k → ∀ x, k ≤ x → x < k + 185 → ¬ x = z + 599 := fun j k hj hkj x x1 x2 hx => by have := K_lo hk1 hj hkj; omega
      have hi2 := fld_Fo hW1 hT1.2.2.2.2.1.1 (by omega) s26.2.1 (show ¬ z + 597 = z + 599 by omega)
      have hE0 : endsA (sSee (sTp A []) (pairsOf (aTape A))) = endsA (sTp A []) := endsA_cg rfl rfl
      refine ⟨S6, rfl, ⟨s26.1, hT6, TpT_Sg hW1 hT1 hTp1 s26 (by omega), TpF_Sg hW1 hT1 hTf1 s26 (by omega), ShC_Sg hW1 hsh1 s26 (by omega) (fun x x1 x2 => by omega), WdC_Sg hW1 hwd1 s26 (fun x x1 x2 => by omega), AhC_Sg hW1 ha1 s26 (fun x x1 x2 => by omega), KpC_Sg hW1 hT1 hk1 s26 (by omega) nk, HsC_Sg hW1 hT1 hh1 s26 (by omega) nk, by rw [hi2]; exact c1, ⟨?_, ?_, ?_⟩, fun hh => ?_, by rw [y3, jO 9 (by omega)]; exact c4⟩, by have := Cst_tr (Cst_of s1) (Cst_of s26); exact this⟩
      · rw [y3, j8]
        show _ = nI (pairsOf (aTape A)).length
        rw [hl]
      · intro j hj
        have hj2 : j < (aTape A).length / 2 := by rw [List.length_map] at hj; rw [← hl]; exact hj
        rw [Nat.zero_add, (y2 j hj2).1, List.getD_eq_getElem?_getD, List.getD_eq_getElem?_getD, List.getElem?_map]
        show _ = (Option.map Prod.fst (pairsOf (aTape A))[j]?).getD 0
        rw [pairs_get ((aTape A).length / 2) (aTape A) (by omega) j hj2, List.getD_eq_getElem?_getD]; rfl
      · intro j hj
        have hj2 : j < (aTape A).length / 2 := by rw [List.length_map] at hj; rw [← hl]; exact hj
        rw [Nat.zero_add, (y2 j hj2).2, List.getD_eq_getElem?_getD, List.getD_eq_getElem?_getD, List.getElem?_map]
        show _ = (Option.map Prod.snd (pairsOf (aTape A))[j]?).getD 0
        rw [pairs_get ((aTape A).length / 2) (aTape A) (by omega) j hj2, List.getD_eq_getElem?_getD, List.getD_eq_getElem?_getD]; rfl
      · rw [y3, jO 9 (by omega)] at hh
        have hE := c3 hh
        unfold EndC at hE ⊢
        rw [hE0]
        refine ⟨by rw [y3, jO 7 (by omega)]; exact hE.1, fun n t ht => ?_⟩
        obtain ⟨t', z1, z2⟩ := hE.2 n t ht
        exact ⟨t', TxL_Fo hW1 z1 s26.2.1 (by omega), z2⟩
    · obtain ⟨S', r1, r2, r3⟩ := refuse_C C1 g1 (k := 1) (by omega)
      rw [decide_eq_false hp, if_pos (show bI false = 0 from rfl), show cal S4 11 z (f11_refuse S4 z 1) = some (-1, S') from r1, bn2_s, if_neg (fun hh => hp hh.2)]
      exact ⟨S', rfl, r2, by have := Cst_tr (Cst_of s1) r3; exact this⟩
end AR2
