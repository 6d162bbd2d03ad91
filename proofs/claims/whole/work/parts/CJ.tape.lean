/-! ===== PART II, the class: feed, end, seed ===== -/
def tpN (S : CS) (z : Nat) (T : List Int32) : Prop := cI S (z + 1) 1 = nI T.length ∧ seg (cA S (z + 2)) 0 T
theorem add1 {z : Nat} {S : CS} {T : List Int32} {x i : Int32} {n : Nat} (hW : Wf S) (hT : TpS S z) (h : tpN S z T) (hl : T.length < 1600) (hi : ¬ i < 0) : ∃ S', LX8_addNumber_3 (z + 1) x (n + 1) i S = LX8_addNumber_3 (z + 1) x n (i + -8) S' ∧ tpN S' z (T ++ [(x >>> (i &&& 31)) &&& 255]) ∧ Sg z (fun y => y = z + 1) 0 S S' := by
  obtain ⟨k1, b0, _⟩ := hT.2.2.1
  obtain ⟨⟨c0, c1⟩, _⟩ := hT.2.2.2.1
  generalize hv : (x >>> (i &&& 31)) &&& 255 = v
  have s1 : Sg z (fun y => y = z + 1) 0 S (setI S (z + 1) 1 (nI (T.length + 1))) := Sg_setI hW rfl
  have s2 := Sg_trans s1 (Sg_setA (f := upd (cA S (z + 2)) T.length v) s1.1 rfl (show cJ (setI S (z + 1) 1 (nI (T.length + 1))) (z + 1) 0 = some (z + 2) from b0))
  refine ⟨setA (setI S (z + 1) 1 (nI (T.length + 1))) (z + 2) (upd (cA S (z + 2)) T.length v), ?_, ⟨?_, ?_⟩, s2⟩
  · rw [LX8_addNumber_3]
    rw [if_neg hi, gi_k k1, h.1, Option.bind_some, gr_k k1 b0, Option.bind_some, aln_k c0, c1, Option.bind_some, if_neg (nI_ge hl (by omega)), Option.bind_some, Option.bind_some, nI_1, pi_k k1, Option.bind_some, sti_k (S := setI S (z + 1) 1 _) c0 (by show T.length < cN S (z + 2); omega) (by show cN S (z + 2) < 2 ^ 31; omega), Option.bind_some, hv]
    rfl
  · show cI (setI S (z + 1) 1 (nI (T.length + 1))) (z + 1) 1 = _
    rw [cI_self, List.length_append, List.length_singleton]
  · rw [cA_self]
    have := seg_snoc (v := v) h.2
    rw [Nat.zero_add] at this
    exact this
theorem addNum_C {z : Nat} {S : CS} {T : List Int32} {x : Int32} (hW : Wf S) (hT : TpS S z) (h : tpN S z T) (hl : T.length + 4 ≤ 1600) : ∃ S', cal S 8 (z + 1) (f8_addNumber S (z + 1) x) = some S' ∧ tpN S' z (T ++ [byteN x 24, byteN x 16, byteN x 8, byteN x 0]) ∧ Sg z (fun y => y = z + 1) 0 S S' := by
  have hFU := FU_gt
  obtain ⟨m, hm⟩ : ∃ m, FU = m + 1 + 1 + 1 + 1 + 1 := ⟨FU - 5, by omega⟩
  obtain ⟨S1, e1, t1, s1⟩ := add1 (x := x) (i := 24) (n := m + 1 + 1 + 1 + 1) hW hT h (by omega) (by decide)
  have hT1 := TpS_Sg hW hT s1
  obtain ⟨S2, e2, t2, s2⟩ := add1 (x := x) (i := 24 + -8) (n := m + 1 + 1 + 1) s1.1 hT1 t1 (by rw [List.length_append, List.length_singleton]; omega) (by decide)
  have hT2 := TpS_Sg s1.1 hT1 s2
  obtain ⟨S3, e3, t3, s3⟩ := add1 (x := x) (i := 24 + -8 + -8) (n := m + 1 + 1) s2.1 hT2 t2 (by rw [List.length_append, List.length_append, List.length_singleton, List.length_singleton]; omega) (by decide)
  have hT3 := TpS_Sg s2.1 hT2 s3
  obtain ⟨S4, e4, t4, s4⟩ := add1 (x := x) (i := 24 + -8 + -8 + -8) (n := m + 1) s3.1 hT3 t3 (by rw [List.length_append, List.length_append, List.length_append, List.length_singleton, List.length_singleton, List.length_singleton]; omega) (by decide)
  refine ⟨S4, ?_, ?_, Sg_trans (Sg_trans (Sg_trans s1 s2) s3) s4⟩
  · rw [cal_k hT.2.2.1.1]
    unfold f8_addNumber
    rw [hm, e1, e2, e3, e4, LX8_addNumber_3, if_pos (by decide), Option.bind_some]
  · rw [List.append_assoc, List.append_assoc, List.append_assoc] at t4
    exact t4
section AR
variable {S S' : CS} {z fi ch c : Nat} {A A' : St} {K : Nat → Option Nat} {H : Nat → Prop} {X : Nat × Nat}
theorem TpF_eq (h : TpF S z A) (h1 : A'.1.2 = A.1.2) (h2 : aSeed A' = aSeed A) : TpF S z A' := by
  obtain ⟨f1, f2, f3, f4⟩ := h
  unfold TpF
  have e1 : aFk A' = aFk A := congrArg (fun x => x.1) h1
  have e2 : aFp A' = aFp A := congrArg (fun x => x.2.1) h1
  have e3 : aRf A' = aRf A := congrArg (fun x => x.2.2) h1
  rw [e1, e2, e3, h2]
  exact ⟨f1, f2, f3, f4⟩
theorem CR_tape {T : List Int32} (h : CR S z A K fi ch) (hg : GA A) (hs : Sg z (fun y => y = z + 1) c S S') (ht : tpN S' z T) : CR S' z (sTp A T) K fi ch := by
  obtain ⟨hW, hT, hTp, hTf, _⟩ := id h
  exact CR_F h hg hs (fun x hx => Or.inr hx) rfl rfl rfl rfl ht (TpF_eq (TpF_Sg hW hT hTf hs (by omega)) rfl rfl)
theorem feed_C (h : CR S z A K fi ch) (hg : GA A) (a b c' d e : Int32) : ∃ S', f11_feed S z a b c' d e = some ((aFeed A a b c' d e).1, S') ∧ CR S' z (aFeed A a b c' d e).2 K fi ch ∧ Cst z 0 S S' := by
  obtain ⟨hW, hT, hTp, hTf, _⟩ := id h
  have hg1 := hg.1
  have k1 := hT.2.2.1.1
  have b0 := hT.2.2.1.2.1
  have c0 := hT.2.2.2.1.1.1
  have c1 := hT.2.2.2.1.1.2
  have j0 := hT.2.1.1
  have hr : cal S 8 (z + 1) (f8_hasRoom S (z + 1) 20) = some (bI (decide ((aTape A).length + 20 ≤ 1600))) := by
    rw [cal_k k1]
    unfold f8_hasRoom
    rw [gi_k k1, hTp.1, Option.bind_some, gr_k k1 b0, Option.bind_some, aln_k c0, c1, Option.bind_some, show nI (aTape A).length + 20 = nI ((aTape A).length + 20) from nI_add _ 20]
    by_cases hh : (aTape A).length + 20 ≤ 1600
    · rw [if_neg (nI_nlt (by omega) (by omega)), Option.bind_some, decide_eq_true hh]; rfl
    · rw [if_pos (nI_lt (by omega) (by omega)), Option.bind_some, decide_eq_false hh]; rfl
  unfold f11_feed aFeed
  rw [gr_k hT.1 j0, Option.bind_some, hr, Option.bind_some]
  by_cases hh : (aTape A).length + 20 ≤ 1600
  · rw [decide_eq_true hh, if_neg (show ¬ bI true = 0 by decide), if_pos hh, Option.bind_some]
    obtain ⟨S1, e1, t1, s1⟩ := addNum_C (z := z) (x := a) hW hT hTp (by omega)
    have hT1 := TpS_Sg hW hT s1
    obtain ⟨S2, e2, t2, s2⟩ := addNum_C (z := z) (x := b) s1.1 hT1 t1 (by simp only [List.length_append, List.length_cons, List.length_nil]; omega)
    have hT2 := TpS_Sg s1.1 hT1 s2
    obtain ⟨S3, e3, t3, s3⟩ := addNum_C (z := z) (x := c') s2.1 hT2 t2 (by simp only [List.length_append, List.length_cons, List.length_nil]; omega)
    have hT3 := TpS_Sg s2.1 hT2 s3
    obtain ⟨S4, e4, t4, s4⟩ := addNum_C (z := z) (x := d) s3.1 hT3 t3 (by simp only [List.length_append, List.length_cons, List.length_nil]; omega)
    have hT4 := TpS_Sg s3.1 hT3 s4
    obtain ⟨S5, e5, t5, s5⟩ := addNum_C (z := z) (x := e) s4.1 hT4 t4 (by simp only [List.length_append, List.length_cons, List.length_nil]; omega)
    have hT5 := TpS_Sg s4.1 hT4 s5
    have s := Sg_trans (Sg_trans (Sg_trans (Sg_trans s1 s2) s3) s4) s5
    have t5' : tpN S5 z (aTape A ++ feedB a b c' d e) := by
      simp only [List.append_assoc, List.cons_append, List.nil_append] at t5
      exact t5
    rw [e1, Option.bind_some, gr_k hT1.1 hT1.2.1.1, Option.bind_some, e2, Option.bind_some, gr_k hT2.1 hT2.2.1.1, Option.bind_some, e3, Option.bind_some, gr_k hT3.1 hT3.2.1.1, Option.bind_some, e4, Option.bind_some, gr_k hT4.1 hT4.2.1.1, Option.bind_some, e5, Option.bind_some, gr_k hT5.1 hT5.2.1.1, Option.bind_some, gi_k hT5.2.2.1.1, t5'.1, Option.bind_some]
    refine ⟨S5, ?_, CR_tape h hg s t5', Cst_of s⟩
    rw [List.length_append]
    rfl
  · rw [decide_eq_false hh, if_pos (show bI false = 0 from rfl), if_neg hh]
    obtain ⟨S', r1, r2, r3⟩ := refuse_C h hg (k := 0) (by omega)
    rw [show cal S 11 z (f11_refuse S z 0) = some (-1, S') from r1, bn2_s]
    exact ⟨S', rfl, r2, r3⟩
theorem seg_take {f : Nat → Int32} {a n : Nat} {l : List Int32} (h : seg f a l) : seg f a (l.take n) := fun k hk => by
  rw [List.length_take] at hk
  rw [h k (by omega), List.getD_eq_getElem?_getD, List.getD_eq_getElem?_getD, List.getElem?_take, if_pos (by omega)]
theorem end_C (h : CR S z A K fi ch) (hg : GA A) (n : Int32) : ∃ S', f11_end S z n = some ((aEnd A n).1, S') ∧ CR S' z (aEnd A n).2 K fi ch ∧ Cst z 0 S S' := by
  obtain ⟨hW, hT, hTp, hTf, _⟩ := id h
  have hg1 := hg.1
  have k1 := hT.2.2.1.1
  obtain ⟨S', r1, r2, r3⟩ := refuseF_C h hg (k := 0) (by omega)
  have r1' : cal S 11 z (f11_refuseFlatly S z 0) = some (0, S') := r1
  unfold f11_end aEnd
  by_cases h0 : n < 0
  · rw [if_pos h0, r1', bn2_s, if_pos (Or.inl (by rw [Int32.lt_iff_toInt_lt, i0] at h0; exact h0))]
    exact ⟨S', rfl, r2, r3⟩
  · rw [if_neg h0, gr_k hT.1 hT.2.1.1, Option.bind_some, gi_k k1, hTp.1, Option.bind_some]
    rw [Int32.lt_iff_toInt_lt, i0] at h0
    by_cases h1 : n ≤ nI (aTape A).length
    · rw [if_pos h1, Option.bind_some, pi_k k1, Option.bind_some]
      rw [i_le (by omega)] at h1
      rw [if_neg (by omega)]
      have hn := nI_ofInt (p := n) (by omega)
      have s1 : Sg z (fun y => y = z + 1) 0 S (setI S (z + 1) 1 n) := Sg_setI hW rfl
      refine ⟨_, rfl, CR_tape h hg s1 ⟨?_, seg_take hTp.2⟩, Cst_of s1⟩
      rw [cI_self, List.length_take, Nat.min_eq_left (by omega)]
      exact hn
    · rw [if_neg h1, r1', bn2_s]
      rw [i_le (by omega)] at h1
      rw [if_pos (Or.inr (by omega))]
      exact ⟨S', rfl, r2, r3⟩
theorem seed_C (h : CR S z A K fi ch) (hg : GA A) (s : Int32) : ∃ S', f11_seed S z s = some ((aSeedA A s).1, S') ∧ CR S' z (aSeedA A s).2 K fi ch ∧ Cst z 0 S S' := by
  obtain ⟨hW, hT, hTp, ⟨f1, f2, f3, f4⟩, _⟩ := id h
  unfold f11_seed aSeedA
  have e0 : (0 : Int32) ≤ s ↔ 0 ≤ s.toInt := by rw [Int32.le_iff_toInt_le, i0]
  by_cases h0 : 0 ≤ s.toInt
  · rw [if_pos (e0.mpr h0), if_pos h0, pi_k hT.1, Option.bind_some]
    have s1 : Sg z (fun y => y = z) 0 S (setI S z 13 s) := Sg_setI hW rfl
    have k : ∀ j, j ≠ 13 → cI (setI S z 13 s) z j = cI S z j := fun j hj => by rw [cI_set, if_neg (by omega)]
    exact ⟨_, rfl, CR_F h hg s1 (fun x hx => Or.inl hx) rfl rfl rfl rfl (TpT_Sg hW hT hTp s1 (by omega)) ⟨by rw [k 11 (by omega)]; exact f1, by rw [k 12 (by omega)]; exact f2, f3, by rw [cI_self]; exact nI_ofInt h0⟩, Cst_of s1⟩
  · rw [if_neg (fun hh => h0 (e0.mp hh)), if_neg h0]
    obtain ⟨S', r1, r2, r3⟩ := refuseF_C h hg (k := 6) (by omega)
    rw [show cal S 11 z (f11_refuseFlatly S z 6) = some (0, S') from r1, bn2_s]
    exact ⟨S', rfl, r2, r3⟩
end AR
