/-! ===== PART II, the class: marks ===== -/
section AH
variable {S S' : CS} {z fi ch c c0 : Nat} {A A' : St} {K K' : Nat → Option Nat} {H : Nat → Prop} {X : Nat × Nat}
theorem addMark_E {e l : Nat} {f t g : Int32} (hW : Wf S) (hE : EdS S e) (h7 : cI S e 7 = nI l) (hl : l < 4) : ∃ S', f1_addMark S e f t g = some (nI l, S') ∧ (∀ k, k ≠ 7 → cI S' e k = cI S e k) ∧ cI S' e 7 = nI (l + 1) ∧ cA S' (e + 43) = upd (upd (upd (cA S (e + 43)) (3 * l) f) (3 * l + 1) t) (3 * l + 2) g ∧ cA S' (e + 44) = cA S (e + 44) ∧ Sg z (fun x => x = e) 0 S S' := by
  obtain ⟨a1, ⟨j0, j1, j2, j3, j4, j5, j6⟩, _, ⟨m1, m2⟩, _⟩ := id hE
  have s1 : Sg z (fun x => x = e) 0 S (setA S (e + 43) (upd (cA S (e + 43)) (3 * l) f)) := Sg_setA hW rfl j5
  generalize h1 : setA S (e + 43) (upd (cA S (e + 43)) (3 * l) f) = S1 at s1
  have i1 : cI S1 = cI S := by rw [← h1]; rfl
  have b1 : cA S1 (e + 43) = upd (cA S (e + 43)) (3 * l) f := by rw [← h1]; exact cA_self _ _ _
  have d1 : cA S1 (e + 44) = cA S (e + 44) := by rw [← h1]; exact va_up_ne _ _ (by omega)
  obtain ⟨p1, ⟨_, _, _, _, _, p5, _⟩, _, ⟨pm1, pm2⟩, _⟩ := EdS_Sg hW hE s1
  have s2 : Sg z (fun x => x = e) 0 S1 (setA S1 (e + 43) (upd (cA S1 (e + 43)) (3 * l + 1) t)) := Sg_setA s1.1 rfl p5
  have hE1 := EdS_Sg hW hE s1
  generalize h2 : setA S1 (e + 43) (upd (cA S1 (e + 43)) (3 * l + 1) t) = S2 at s2
  have i2 : cI S2 = cI S1 := by rw [← h2]; rfl
  have b2 : cA S2 (e + 43) = upd (cA S1 (e + 43)) (3 * l + 1) t := by rw [← h2]; exact cA_self _ _ _
  have d2 : cA S2 (e + 44) = cA S1 (e + 44) := by rw [← h2]; exact va_up_ne _ _ (by omega)
  have hE2 := EdS_Sg s1.1 hE1 s2
  obtain ⟨q1, ⟨_, _, _, _, _, q5, _⟩, _, ⟨qm1, qm2⟩, _⟩ := id hE2
  have s3 : Sg z (fun x => x = e) 0 S2 (setA S2 (e + 43) (upd (cA S2 (e + 43)) (3 * l + 2) g)) := Sg_setA s2.1 rfl q5
  generalize h3 : setA S2 (e + 43) (upd (cA S2 (e + 43)) (3 * l + 2) g) = S3 at s3
  have i3 : cI S3 = cI S2 := by rw [← h3]; rfl
  have b3 : cA S3 (e + 43) = upd (cA S2 (e + 43)) (3 * l + 2) g := by rw [← h3]; exact cA_self _ _ _
  have d3 : cA S3 (e + 44) = cA S2 (e + 44) := by rw [← h3]; exact va_up_ne _ _ (by omega)
  have hE3 := EdS_Sg s2.1 hE2 s3
  have s4 : Sg z (fun x => x = e) 0 S3 (setI S3 e 7 (nI (l + 1))) := Sg_setI s3.1 rfl
  refine ⟨setI S3 e 7 (nI (l + 1)), ?_, fun k hk => ?_, cI_self _ _ _ _, ?_, ?_, ?_⟩
  · unfold f1_addMark
    rw [gi_k a1, h7, Option.bind_some, gr_k a1 j5, Option.bind_some, aln_k m1, m2, Option.bind_some, show (3 : Int32) = nI 3 from rfl, show (2 : Int32) = nI 2 from rfl, nI_mul, nI_add, if_pos (nI_lt (by omega) (by omega)), Option.bind_some, sti_k m1 (by omega) (by omega), h1, Option.bind_some, gr_k p1 p5, Option.bind_some, nI_1, sti_k pm1 (by omega) (by omega), h2, Option.bind_some, gr_k q1 q5, Option.bind_some, sti_k qm1 (by omega) (by omega), h3, Option.bind_some, gi_k hE3.1, i3, i2, i1, h7, Option.bind_some, nI_1, pi_k hE3.1, Option.bind_some]
  · rw [cI_set, if_neg (by omega), i3, i2, i1]
  · show cA S3 (e + 43) = _
    rw [b3, b2, b1]
  · show cA S3 (e + 44) = _
    rw [d3, d2, d1]
  · have := Sg_trans (Sg_trans (Sg_trans s1 s2) s3) s4
    exact this
theorem dropMark_loop {e : Nat} : ∀ (d n p : Nat) (S : CS), p + d = 9 → d < n → Wf S → EdS S e → ∃ S', LX1_dropMark_4 e n (nI p) S = some S' ∧ cI S' = cI S ∧ (∀ j, j < p → cA S' (e + 43) j = cA S (e + 43) j) ∧ (∀ j, p ≤ j → j < 9 → cA S' (e + 43) j = cA S (e + 43) (j + 3)) ∧ cA S' (e + 44) = cA S (e + 44) ∧ Sg z (fun x => x = e) 0 S S' := by
  intro d
  induction d with
  | zero =>
    intro n p S hp hn hW hE
    obtain ⟨n, rfl⟩ : ∃ k, n = k + 1 := ⟨n - 1, by omega⟩
    obtain ⟨a1, ⟨j0, j1, j2, j3, j4, j5, j6⟩, _, ⟨m1, m2⟩, _⟩ := id hE
    unfold LX1_dropMark_4
    rw [if_neg (show ¬ nI p < (0 : Int32) from fun x => by rw [Int32.lt_iff_toInt_lt, i0, nI_toInt (by omega)] at x; omega), gr_k a1 j5, Option.bind_some, aln_k m1, m2, Option.bind_some, show (3 : Int32) = nI 3 from rfl, nI_add, if_pos (nI_le (by omega) (by omega))]
    exact ⟨S, rfl, rfl, fun j _ => rfl, fun j h1 h2 => by omega, rfl, Sg_refl hW⟩
  | succ d ih =>
    intro n p S hp hn hW hE
    obtain ⟨n, rfl⟩ : ∃ k, n = k + 1 := ⟨n - 1, by omega⟩
    obtain ⟨a1, ⟨j0, j1, j2, j3, j4, j5, j6⟩, _, ⟨m1, m2⟩, _⟩ := id hE
    unfold LX1_dropMark_4
    rw [if_neg (show ¬ nI p < (0 : Int32) from fun x => by rw [Int32.lt_iff_toInt_lt, i0, nI_toInt (by omega)] at x; omega), gr_k a1 j5, Option.bind_some, aln_k m1, m2, Option.bind_some, show (3 : Int32) = nI 3 from rfl, nI_add, if_neg (nI_ge (by omega) (by omega)), Option.bind_some, Option.bind_some, ldi_k m1 (by omega) (by omega), Option.bind_some, sti_k m1 (by omega) (by omega), Option.bind_some, nI_1]
    have s1 : Sg z (fun x => x = e) 0 S (setA S (e + 43) (upd (cA S (e + 43)) p (cA S (e + 43) (p + 3)))) := Sg_setA hW rfl j5
    generalize h1 : setA S (e + 43) (upd (cA S (e + 43)) p (cA S (e + 43) (p + 3))) = S1 at s1 ⊢
    have i1 : cI S1 = cI S := by rw [← h1]; rfl
    have b1 : cA S1 (e + 43) = upd (cA S (e + 43)) p (cA S (e + 43) (p + 3)) := by rw [← h1]; exact cA_self _ _ _
    have d1 : cA S1 (e + 44) = cA S (e + 44) := by rw [← h1]; exact va_up_ne _ _ (by omega)
    obtain ⟨S', r1, r2, r3, r4, r5, r6⟩ := ih n (p + 1) S1 (by omega) (by omega) s1.1 (EdS_Sg hW hE s1)
    refine ⟨S', r1, r2.trans i1, fun j hj => ?_, fun j h2 h3 => ?_, r5.trans d1, by have := Sg_trans s1 r6; exact this⟩
    · rw [r3 j (by omega), b1, upd_ne _ _ (by omega)]
    · by_cases hjp : j = p
      · subst hjp; rw [r3 j (by omega), b1, upd_self]
      · rw [r4 j (by omega) h3, b1, upd_ne _ _ (by omega)]
theorem mkAt_gt2 {f : Nat → Int32} : ∀ (ms : List (Nat × Nat × Nat)) (a : Nat), mkAt f a ms → ∀ j x, ms[j]? = some x → f (a + 3 * j) = nI x.1 ∧ f (a + 3 * j + 1) = nI x.2.1 ∧ f (a + 3 * j + 2) = nI x.2.2 := by
  intro ms
  induction ms with
  | nil => intro a _ j x hj; simp at hj
  | cons y ms ih =>
    intro a h j x hj
    obtain ⟨h1, h2, h3, h4⟩ := h
    cases j with
    | zero => simp at hj; subst hj; exact ⟨h1, h2, h3⟩
    | succ j =>
      have := ih (a + 3) h4 j x (by simpa using hj)
      rw [show a + 3 * (j + 1) = a + 3 + 3 * j by omega]
      exact this
theorem mkAt_erase {f f' : Nat → Int32} {ms : List (Nat × Nat × Nat)} {k : Nat} (hk : k < ms.length) (h4 : ms.length ≤ 4) (h : mkAt f 0 ms) (h1 : ∀ j, j < 3 * k → f' j = f j) (h2 : ∀ j, 3 * k ≤ j → j < 9 → f' j = f (j + 3)) : mkAt f' 0 (ms.eraseIdx k) := by
  refine mkAt_iff _ _ (fun j x hj => ?_)
  have hjl : j < ms.length - 1 := by
    have := (List.getElem?_eq_some_iff.mp hj).1
    rw [List.length_eraseIdx_of_lt hk] at this
    exact this
  rw [List.getElem?_eraseIdx] at hj
  by_cases hjq : j < k
  · rw [if_pos hjq] at hj
    have := mkAt_gt2 ms 0 h j x hj
    rw [h1 _ (by omega), h1 _ (by omega), h1 _ (by omega)]
    exact this
  · rw [if_neg hjq] at hj
    have := mkAt_gt2 ms 0 h (j + 1) x hj
    rw [h2 _ (by omega) (by omega), h2 _ (by omega) (by omega), h2 _ (by omega) (by omega), show 0 + 3 * j + 3 = 0 + 3 * (j + 1) by omega, show 0 + 3 * j + 1 + 3 = 0 + 3 * (j + 1) + 1 by omega, show 0 + 3 * j + 2 + 3 = 0 + 3 * (j + 1) + 2 by omega]
    exact this
theorem mark_Q (h : CR S z A K fi ch) (hg : GA A) (p f t g : Int32) : cal S 10 (z + 227) (f10_canMark S (z + 227) p f t g) = some (bI (decide ((0 ≤ p.toInt ∧ p.toInt < aCnt A) ∧ (0 ≤ g.toInt ∧ g.toInt ≤ 3) ∧ (eMks (wE (aW A) p.toInt.toNat)).length < 4 ∧ 0 ≤ f.toInt ∧ f.toInt ≤ t.toInt ∧ t.toInt ≤ (eTxt (wE (aW A) p.toInt.toNat)).length))) := by
  have h1 := place_C h hg p f
  have h2 := place_C h hg p t
  have hed := fun hp => ed_C h hg (p := p) hp
  have gd := hg.2.2.1
  obtain ⟨hW, hT, hTp, hTf, hsh, hwd, ha, hk, hh, hc⟩ := h
  rw [cal_k hwd.1.1]
  unfold f10_canMark
  rw [h1, Option.bind_some]
  by_cases hp : (0 ≤ p.toInt ∧ p.toInt < aCnt A) ∧ 0 ≤ f.toInt ∧ f.toInt ≤ (eTxt (wE (aW A) p.toInt.toNat)).length
  · obtain ⟨p1, p2, p3, p4, ⟨⟨k1, _⟩, k6⟩⟩ := hed hp.1
    have hm4 := (Good_Bd gd p2).2.1
    rw [decide_eq_true hp, if_neg (show ¬ bI true = 0 by decide), h2, Option.bind_some]
    by_cases ht : (0 ≤ p.toInt ∧ p.toInt < aCnt A) ∧ 0 ≤ t.toInt ∧ t.toInt ≤ (eTxt (wE (aW A) p.toInt.toNat)).length
    · rw [decide_eq_true ht, if_neg (show ¬ bI true = 0 by decide)]
      by_cases c1 : t < f
      · rw [if_pos c1, Option.bind_some, decide_eq_false (fun hh => by rw [Int32.lt_iff_toInt_lt] at c1; omega)]; rfl
      · rw [if_neg c1]
        rw [Int32.lt_iff_toInt_lt] at c1
        by_cases c2 : g < 0
        · rw [if_pos c2, Option.bind_some, decide_eq_false (fun hh => by rw [Int32.lt_iff_toInt_lt, i0] at c2; omega)]; rfl
        · rw [if_neg c2]
          rw [Int32.lt_iff_toInt_lt, i0] at c2
          by_cases c3 : 3 < g
          · rw [if_pos c3, Option.bind_some, decide_eq_false (fun hh => by rw [Int32.lt_iff_toInt_lt, show (3 : Int32).toInt = 3 from by decide] at c3; omega)]; rfl
          · rw [if_neg c3, gr_k hwd.1.1 hwd.1.2.1.2.2.2.1, Option.bind_some, p4, Option.bind_some, gi_k k1.1, (k6 rfl).2.1, Option.bind_some]
            rw [Int32.lt_iff_toInt_lt, show (3 : Int32).toInt = 3 from by decide] at c3
            by_cases c4 : (eMks (wE (aW A) p.toInt.toNat)).length < 4
            · rw [if_neg (show ¬ (4 : Int32) ≤ nI (eMks (wE (aW A) p.toInt.toNat)).length from nI_ge (b := 4) c4 (by omega)), Option.bind_some, decide_eq_true (show _ from ⟨hp.1, ⟨by omega, by omega⟩, c4, hp.2.1, by omega, ht.2.2⟩)]; rfl
            · rw [if_pos (show (4 : Int32) ≤ nI (eMks (wE (aW A) p.toInt.toNat)).length from nI_le (a := 4) (by omega) (by omega)), Option.bind_some, decide_eq_false (fun hh => c4 hh.2.2.1)]; rfl
    · rw [decide_eq_false ht, if_pos (show bI false = 0 from rfl), Option.bind_some, decide_eq_false (fun hh => ht ⟨hp.1, by omega, hh.2.2.2.2.2⟩)]; rfl
  · rw [decide_eq_false hp, if_pos (show bI false = 0 from rfl), Option.bind_some, decide_eq_false (fun hh => hp ⟨hh.1, hh.2.2.2.1, by omega⟩)]; rfl
theorem marks_A (h : CR S z A K fi ch) (hg : GA A) (hch : ch < 1000) (hR : Rm z X (117162 * (20 - made K) + (7600 + c)) S) (p f t g : Int32) : ActR z X c ch (f11_marks X S z p f t g) (aMarks A p f t g) := by
  have hQ := mark_Q h hg p f t g
  obtain ⟨hW, hT, hTp, hTf, hsh, hwd, ha, hk, hh, hc⟩ := id h
  obtain ⟨t0, t1, t2, t3, t4, t5, t6, t7, t8, t9⟩ := TpS_g hT
  unfold f11_marks aMarks
  rw [t3, Option.bind_some, hQ, Option.bind_some]
  by_cases hp : (0 ≤ p.toInt ∧ p.toInt < aCnt A) ∧ (0 ≤ g.toInt ∧ g.toInt ≤ 3) ∧ (eMks (wE (aW A) p.toInt.toNat)).length < 4 ∧ 0 ≤ f.toInt ∧ f.toInt ≤ t.toInt ∧ t.toInt ≤ (eTxt (wE (aW A) p.toInt.toNat)).length
  · obtain ⟨S6, K', fi', e6, C6, ⟨g1, g2, g3⟩, E6, go⟩ := aft_C (X := X) (c := c) h hg hch hR hp.1
    rw [decide_eq_true hp, if_neg (show ¬ bI true = 0 by decide), if_pos hp, t5, Option.bind_some, Option.bind_some, e6, Option.bind_some, g1, Option.bind_some, g2, Option.bind_some, g3, Option.bind_some, cal_k E6.1.1.1]
    obtain ⟨⟨k0, ⟨n8, n10, n11, n12, n13, n14⟩, _⟩, k7⟩ := E6
    obtain ⟨_, m7, m9, mA⟩ := k7 rfl
    obtain ⟨S', r1, r2, r3, r4, r5, r6⟩ := addMark_E (z := z) (f := f) (t := t) (g := g) C6.1 k0 m7 hp.2.2.1
    rw [r1, bn2_s]
    refine go _ (addM (wE (aW A) p.toInt.toNat) f.toInt.toNat t.toInt.toNat g.toInt.toNat) _ r6 ⟨by rw [r2 8 (by omega)]; exact n8, by rw [r2 10 (by omega)]; exact n10, by rw [r2 11 (by omega)]; exact n11, by rw [r2 12 (by omega)]; exact n12, by rw [r2 13 (by omega)]; exact n13, by rw [r2 14 (by omega)]; exact n14⟩ ⟨?_, by rw [r2 9 (by omega)]; exact m9, ?_⟩ r5 rfl rfl rfl rfl rfl rfl
    · rw [r3]
      show _ = nI (eMks (wE (aW A) p.toInt.toNat) ++ [_]).length
      rw [List.length_append]; rfl
    · show mkAt _ 0 (eMks (wE (aW A) p.toInt.toNat) ++ [(f.toInt.toNat, t.toInt.toNat, g.toInt.toNat)])
      rw [mkAt_ap, r4]
      refine ⟨mkAt_cg _ _ (fun j j1 j2 => by rw [upd_ne _ _ (by omega), upd_ne _ _ (by omega), upd_ne _ _ (by omega)]) mA, ?_, ?_, ?_, trivial⟩
      · rw [Nat.zero_add, upd_ne _ _ (by omega), upd_ne _ _ (by omega), upd_self]; exact nI_ofInt (by omega)
      · rw [Nat.zero_add, upd_ne _ _ (by omega), upd_self]; exact nI_ofInt (by omega)
      · rw [Nat.zero_add, upd_self]; exact nI_ofInt (by omega)
  · rw [decide_eq_false hp, if_pos (show bI false = 0 from rfl), if_neg hp]
    exact act_ref (k := 3) h hg (by omega) hR
theorem clears_A (h : CR S z A K fi ch) (hg : GA A) (hch : ch < 1000) (hR : Rm z X (117162 * (20 - made K) + (7600 + c)) S) (p q : Int32) : ActR z X c ch (f11_clears X S z p q) (aClears A p q) := by
  have hkn := kn_C h hg p
  have hed := fun hp => ed_C h hg (p := p) hp
  obtain ⟨hW, hT, hTp, hTf, hsh, hwd, ha, hk, hh, hc⟩ := id h
  obtain ⟨t0, t1, t2, t3, t4, t5, t6, t7, t8, t9⟩ := TpS_g hT
  unfold f11_clears aClears
  rw [t3, Option.bind_some, hkn, Option.bind_some]
  by_cases hp : 0 ≤ p.toInt ∧ p.toInt < aCnt A
  · obtain ⟨p1, p2, p3, p4, ⟨⟨k1, _⟩, k6⟩⟩ := hed hp
    have hm4 := (Good_Bd hg.2.2.1 p2).2.1
    rw [decide_eq_true hp, if_neg (show ¬ bI true = 0 by decide), Option.bind_some, gr_k hwd.1.1 hwd.1.2.1.2.2.2.1, Option.bind_some, p4, Option.bind_some, cal_k k1.1]
    have hhm : f1_hasMark S (z + 227 + 5 + 45 * p.toInt.toNat) q = some (bI (decide (0 ≤ q.toInt ∧ q.toInt < (eMks (wE (aW A) p.toInt.toNat)).length))) := by
      unfold f1_hasMark
      by_cases q0 : q < 0
      · rw [if_pos q0, Option.bind_some, decide_eq_false (fun hh => by rw [Int32.lt_iff_toInt_lt, i0] at q0; omega)]; rfl
      · rw [if_neg q0, gi_k k1.1, (k6 rfl).2.1, Option.bind_some]
        rw [Int32.lt_iff_toInt_lt, i0] at q0
        by_cases q1 : nI (eMks (wE (aW A) p.toInt.toNat)).length ≤ q
        · rw [if_pos q1, Option.bind_some, decide_eq_false (fun hh => by rw [i_ge (by omega)] at q1; omega)]; rfl
        · rw [if_neg q1, Option.bind_some, decide_eq_true (by rw [i_ge (by omega)] at q1; omega)]; rfl
    rw [hhm, Option.bind_some]
    by_cases hq : 0 ≤ q.toInt ∧ q.toInt < (eMks (wE (aW A) p.toInt.toNat)).length
    · obtain ⟨S6, K', fi', e6, C6, ⟨g1, g2, g3⟩, E6, go⟩ := aft_C (X := X) (c := c) h hg hch hR hp
      rw [decide_eq_true hq, if_neg (show ¬ bI true = 0 by decide), t5, Option.bind_some, Option.bind_some, if_pos ⟨hp, hq⟩, e6, Option.bind_some, g1, Option.bind_some, g2, Option.bind_some, g3, Option.bind_some, cal_k E6.1.1.1]
      obtain ⟨⟨k0, ⟨n8, n10, n11, n12, n13, n14⟩, _⟩, k7⟩ := E6
      obtain ⟨_, m7, m9, mA⟩ := k7 rfl
      have hqn := nI_ofInt (p := q) hq.1
      generalize hqq : q.toInt.toNat = k at *
      have hkl : k < (eMks (wE (aW A) p.toInt.toNat)).length := by omega
      obtain ⟨S1, r1, r2, r3, r4, r5, r6⟩ := dropMark_loop (z := z) (e := z + 227 + 5 + 45 * p.toInt.toNat) (9 - 3 * k) FU (3 * k) S6 (by omega) (by rw [FU_eq]; omega) C6.1 k0
      have hE1 := EdS_Sg C6.1 k0 r6
      unfold f1_dropMark
      rw [hqn, show (3 : Int32) = nI 3 from rfl, nI_mul, r1, Option.bind_some, gi_k hE1.1, r2, m7, Option.bind_some, show (1 : Int32) = nI 1 from rfl, nI_sub (by omega), pi_k hE1.1, Option.bind_some, Option.bind_some]
      have o : ∀ j, j ≠ 7 → cI (setI S1 (z + 227 + 5 + 45 * p.toInt.toNat) 7 (nI ((eMks (wE (aW A) p.toInt.toNat)).length - 1))) (z + 227 + 5 + 45 * p.toInt.toNat) j = cI S6 (z + 227 + 5 + 45 * p.toInt.toNat) j := fun j hj => by rw [cI_set, if_neg (by omega), r2]
      have s9 := Sg_trans r6 (Sg_setI (k := 7) (v := nI ((eMks (wE (aW A) p.toInt.toNat)).length - 1)) r6.1 rfl)
      refine go _ (sMks (wE (aW A) p.toInt.toNat) ((eMks (wE (aW A) p.toInt.toNat)).eraseIdx k)) _ s9 ⟨by rw [o 8 (by omega)]; exact n8, by rw [o 10 (by omega)]; exact n10, by rw [o 11 (by omega)]; exact n11, by rw [o 12 (by omega)]; exact n12, by rw [o 13 (by omega)]; exact n13, by rw [o 14 (by omega)]; exact n14⟩ ⟨?_, by rw [o 9 (by omega)]; exact m9, ?_⟩ r5 rfl rfl rfl rfl rfl rfl
      · rw [cI_self]
        show _ = nI ((eMks (wE (aW A) p.toInt.toNat)).eraseIdx k).length
        rw [List.length_eraseIdx_of_lt hkl]
      · exact mkAt_erase (f := cA S6 (z + 227 + 5 + 45 * p.toInt.toNat + 43)) hkl hm4 mA r3 r4
    · rw [decide_eq_false hq, if_pos (show bI false = 0 from rfl), if_neg (fun hh => hq hh.2)]
      exact act_refF (k := 3) h hg (by omega) hR
  · rw [decide_eq_false hp, if_pos (show bI false = 0 from rfl), if_neg (fun hh => hp hh.1)]
    exact act_refF (k := 3) h hg (by omega) hR
end AH
