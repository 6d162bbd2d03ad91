/-! ===== PART II, the class: put, cut, type, undo, redo, wholly ===== -/
section AF
variable {S S' : CS} {z fi ch c c0 : Nat} {A A' : St} {K K' : Nat → Option Nat} {H : Nat → Prop} {X : Nat × Nat}
theorem okP_of {l : Int32} (h1 : 1 ≤ l.toInt) (h2 : l.toInt ≤ 26) : okP l := ⟨l.toInt.toNat, by omega, by omega, nI_ofInt (by omega)⟩
theorem put_A (h : CR S z A K fi ch) (hg : GA A) (hch : ch < 1000) (hR : Rm z X (117162 * (20 - made K) + (7600 + c)) S) (p q l : Int32) : ActR z X c ch (f11_put X S z p q l) (aPut A p q l) := by
  have hQ := put_Q h hg p q l
  have hed := fun hp => ed_C h hg (p := p) hp
  obtain ⟨hW, hT, hTp, hTf, hsh, hwd, ha, hk, hh, hc⟩ := id h
  obtain ⟨t0, t1, t2, t3, t4, t5, t6, t7, t8, t9⟩ := TpS_g hT
  unfold f11_put aPut
  rw [t3, Option.bind_some, hQ, Option.bind_some]
  by_cases hp : (0 ≤ p.toInt ∧ p.toInt < aCnt A) ∧ (1 ≤ l.toInt ∧ l.toInt ≤ 26) ∧ 0 ≤ q.toInt ∧ q.toInt ≤ (eTxt (wE (aW A) p.toInt.toNat)).length
  · obtain ⟨p1, p2, p3, p4, ⟨⟨k1, _⟩, k6⟩⟩ := hed hp.1
    have tx := (k6 rfl).1.1
    have hb := TxL_bd tx
    rw [decide_eq_true hp, if_neg (show ¬ bI true = 0 by decide), if_pos hp, Option.bind_some, gr_k hwd.1.1 hwd.1.2.1.2.2.2.1, Option.bind_some, p4, Option.bind_some, t7, Option.bind_some, gr_k k1.1 k1.2.1.1, Option.bind_some, TxL_sz tx, Option.bind_some, cal_k hT.2.2.2.2.2.2.2.2.1]
    have hq := nI_ofInt (p := q) hp.2.2.1
    have hl := nI_ofInt (p := l) (by omega)
    obtain ⟨S9, e9, o9, s9⟩ := buildPut_L (z := z) (X := X) (at' := q.toInt.toNat) (w := l.toInt.toNat) (len := (eTxt (wE (aW A) p.toInt.toNat)).length) hW hR (grw_n (op_n z)) hT.2.2.2.2.2.2.2.2.1 (by omega) (by omega) (by omega) (by omega)
    rw [← hq, ← hl] at e9
    rw [← hl] at o9
    have C9 := CR_op h hg s9
    obtain ⟨L1, L2, L3⟩ := lay_cnt (len := (eTxt (wE (aW A) p.toInt.toNat)).length) (kept := q.toInt.toNat) (cut := 0) (letter := l) (by omega) (Or.inr (okP_of hp.2.1.1 hp.2.1.2))
    obtain ⟨S', K', fi', ch', r1, r2, r3, r4, _⟩ := edOp_C (X := X) (c := c) C9 hg hch (Rm_mono (Rm_step (c := 0) (d := 117162 * (20 - made K) + (7600 + c)) (by rw [Nat.zero_add]; exact hR) s9) (by omega)) p2 o9 L1 L2 (by omega)
    rw [e9, Option.bind_some, r1, bn2_s]
    exact ⟨S', K', fi', ch', rfl, r2, r3, r4⟩
  · rw [decide_eq_false hp, if_pos (show bI false = 0 from rfl), if_neg hp]
    exact act_ref (k := 2) h hg (by omega) hR
theorem cut_A (h : CR S z A K fi ch) (hg : GA A) (hch : ch < 1000) (hR : Rm z X (117162 * (20 - made K) + (7600 + c)) S) (p q n : Int32) : ActR z X c ch (f11_cut X S z p q n) (aCut A p q n) := by
  have hQ := cut_Q h hg p q n
  have hed := fun hp => ed_C h hg (p := p) hp
  obtain ⟨hW, hT, hTp, hTf, hsh, hwd, ha, hk, hh, hc⟩ := id h
  obtain ⟨t0, t1, t2, t3, t4, t5, t6, t7, t8, t9⟩ := TpS_g hT
  unfold f11_cut aCut
  rw [t3, Option.bind_some, hQ, Option.bind_some]
  by_cases hp : (0 ≤ p.toInt ∧ p.toInt < aCnt A) ∧ (0 ≤ q.toInt ∧ q.toInt ≤ (eTxt (wE (aW A) p.toInt.toNat)).length) ∧ 1 ≤ n.toInt ∧ n.toInt ≤ (eTxt (wE (aW A) p.toInt.toNat)).length - q.toInt
  · obtain ⟨p1, p2, p3, p4, ⟨⟨k1, _⟩, k6⟩⟩ := hed hp.1
    have tx := (k6 rfl).1.1
    have hb := TxL_bd tx
    rw [decide_eq_true hp, if_neg (show ¬ bI true = 0 by decide), if_pos hp, Option.bind_some, gr_k hwd.1.1 hwd.1.2.1.2.2.2.1, Option.bind_some, p4, Option.bind_some, t7, Option.bind_some, gr_k k1.1 k1.2.1.1, Option.bind_some, TxL_sz tx, Option.bind_some, cal_k hT.2.2.2.2.2.2.2.2.1]
    have hq := nI_ofInt (p := q) hp.2.1.1
    have hl := nI_ofInt (p := n) (by omega)
    obtain ⟨S9, e9, o9, s9⟩ := buildCut_L (z := z) (X := X) (at' := q.toInt.toNat) (n := n.toInt.toNat) (len := (eTxt (wE (aW A) p.toInt.toNat)).length) hW hR (grw_n (op_n z)) hT.2.2.2.2.2.2.2.2.1 (by omega) (by omega) (by omega)
    rw [← hq, ← hl] at e9
    have C9 := CR_op h hg s9
    obtain ⟨L1, L2, L3⟩ := lay_cnt (len := (eTxt (wE (aW A) p.toInt.toNat)).length) (kept := q.toInt.toNat) (cut := n.toInt.toNat) (letter := 0) (by omega) (Or.inl (by decide))
    obtain ⟨S', K', fi', ch', r1, r2, r3, r4, _⟩ := edOp_C (X := X) (c := c) C9 hg hch (Rm_mono (Rm_step (c := 0) (d := 117162 * (20 - made K) + (7600 + c)) (by rw [Nat.zero_add]; exact hR) s9) (by omega)) p2 o9 L1 L2 (by omega)
    rw [e9, Option.bind_some, r1, bn2_s]
    exact ⟨S', K', fi', ch', rfl, r2, r3, r4⟩
  · rw [decide_eq_false hp, if_pos (show bI false = 0 from rfl), if_neg hp]
    exact act_ref (k := 2) h hg (by omega) hR
/-- what comes of an edit, as type tells it -/
theorem typeC_end {i : Nat} {P : List Int32} (h : CR S z A K fi ch) (hg : GA A) (hch : ch < 1000) (hR : Rm z X (117162 * (20 - made K) + (7600 + c)) S) (hi : i < aCnt A) (hO : OpL S (z + 654) P) (hok : okO P) (ho : oldL P = (eTxt (wE (aW A) i)).length) (hl : P.length ≤ 100000) : ActR z X c ch (bn2 (cal S 11 z (f11_editWithOp X S z (z + 227 + 5 + 45 * i))) fun v26 S27 => (if v26 = -1 then (some (-1 : Int32)) else ((gi S27 1 (z + 227 + 5 + 45 * i) 9).bind fun v30 => some v30)).bind fun v28 => some (v28, S27)) (if canE A P = true then nI (eCur (editE (wE (aW A) i) P 0)) else -1, (aEd A i P).2) := by
  obtain ⟨S', K', fi', ch', r1, r2, r3, r4, r5⟩ := edOp_C (X := X) (c := c) h hg hch (Rm_mono hR (by omega)) hi hO hok ho hl
  rw [r1, bn2_s]
  by_cases hcan : canE A P = true
  · have e1 : (aEd A i P).1 = nI (newL P) := by unfold aEd; rw [if_pos hcan]
    have hE := r5 hcan
    have hb := TxL_bd (hE.2 rfl).1.1
    rw [(editE_txt _ _ _).1, chgL_len hok] at hb
    rw [e1, if_neg (fun e => by
      have := congrArg Int32.toInt e
      rw [nI_toInt (by omega), show (-1 : Int32).toInt = -1 from by decide] at this
      omega), gi_k hE.1.1.1, (hE.2 rfl).2.2.1, Option.bind_some, Option.bind_some, if_pos hcan]
    exact ⟨S', K', fi', ch', rfl, r2, r3, r4⟩
  · have e1 : (aEd A i P).1 = -1 := by unfold aEd; rw [if_neg hcan]
    rw [e1, if_pos rfl, Option.bind_some, if_neg hcan]
    exact ⟨S', K', fi', ch', rfl, r2, r3, r4⟩
theorem type_A (h : CR S z A K fi ch) (hg : GA A) (hch : ch < 1000) (hR : Rm z X (117162 * (20 - made K) + (7600 + c)) S) (p l : Int32) : ActR z X c ch (f11_type X S z p l) (aType A p l) := by
  have hkn := kn_C h hg p
  have hed := fun hp => ed_C h hg (p := p) hp
  have hQ1 := fun q => put_Q h hg p q l
  have hQ2 := fun q => cut_Q h hg p q 1
  obtain ⟨hW, hT, hTp, hTf, hsh, hwd, ha, hk, hh, hc⟩ := id h
  obtain ⟨t0, t1, t2, t3, t4, t5, t6, t7, t8, t9⟩ := TpS_g hT
  unfold f11_type aType
  rw [t3, Option.bind_some, hkn, Option.bind_some]
  by_cases hp : 0 ≤ p.toInt ∧ p.toInt < aCnt A
  · obtain ⟨p1, p2, p3, p4, ⟨⟨k1, _⟩, k6⟩⟩ := hed hp
    have tx := (k6 rfl).1.1
    have hcur := (k6 rfl).2.2.1
    have hb := TxL_bd tx
    have hcl := (hg.2.2.1.2.2.2.2.2.2.2.2 _ p2).2.2.2.2.2.2.2.2.2.2.2.2.2.2.2.2.1
    have hR0 : ∀ S9 : CS, Sg z (fun x => x = z + 654) 0 S S9 → Rm z X (117162 * (20 - made K) + (7600 + c)) S9 := fun S9 s9 => Rm_step (c := 0) (d := 117162 * (20 - made K) + (7600 + c)) (by rw [Nat.zero_add]; exact hR) s9
    rw [decide_eq_true hp, if_neg (show ¬ bI true = 0 by decide), Option.bind_some, gr_k hwd.1.1 hwd.1.2.1.2.2.2.1, Option.bind_some, p4, Option.bind_some]
    generalize hE : wE (aW A) p.toInt.toNat = E at *
    generalize hI : p.toInt.toNat = i at *
    by_cases l0 : l = 0
    · rw [if_pos l0, Option.bind_some, gi_k k1.1, hcur, Option.bind_some, hQ2, Option.bind_some, Option.bind_some]
      by_cases hc0 : eCur E = 0
      · rw [hc0, decide_eq_false (fun hh => by
          have : (nI 0 - 1 : Int32).toInt = -1 := by decide
          omega), if_pos (show bI false = 0 from rfl), if_neg (fun hh => hh.2.2 ⟨l0, rfl⟩)]
        exact act_ref (k := 2) h hg (by omega) hR
      · have e1 : nI (eCur E) - 1 = nI (eCur E - 1) := nI_sub (b := 1) (by omega)
        rw [e1, decide_eq_true (by rw [nI_toInt (by omega), show (1 : Int32).toInt = 1 from by decide]; omega), if_neg (show ¬ bI true = 0 by decide), if_pos l0, t7, Option.bind_some, Option.bind_some, e1, gr_k k1.1 k1.2.1.1, Option.bind_some, TxL_sz tx, Option.bind_some, cal_k hT.2.2.2.2.2.2.2.2.1]
        obtain ⟨S9, e9, o9, s9⟩ := buildCut_L (z := z) (X := X) (at' := eCur E - 1) (n := 1) (len := (eTxt E).length) hW hR (grw_n (op_n z)) hT.2.2.2.2.2.2.2.2.1 (by omega) (by omega) (by omega)
        rw [show f4_buildCut X S (z + 654) (nI (eCur E - 1)) 1 (nI (eTxt E).length) = some S9 from e9, Option.bind_some, Option.bind_some]
        have C9 := CR_op h hg s9
        obtain ⟨L1, L2, L3⟩ := lay_cnt (len := (eTxt E).length) (kept := eCur E - 1) (cut := 1) (letter := 0) (by omega) (Or.inl (by decide))
        have hty : tyO E l = layO (eTxt E).length (eCur E - 1) 0 1 := by unfold tyO; rw [if_pos l0]
        rw [if_pos ⟨hp, by rw [l0]; decide, fun hh => hc0 hh.2⟩, hty]
        have := typeC_end (X := X) (c := c) (i := i) C9 hg hch (hR0 S9 s9) p2 o9 L1 (by rw [hE]; exact L2) (by omega)
        rw [hE] at this
        exact this
    · rw [if_neg l0, Option.bind_some, gi_k k1.1, hcur, Option.bind_some, hQ1, Option.bind_some, Option.bind_some]
      by_cases hl : 1 ≤ l.toInt ∧ l.toInt ≤ 26
      · have hln := nI_ofInt (p := l) (by omega)
        rw [decide_eq_true (by rw [nI_toInt (by omega)]; exact ⟨hp, hl, by omega, by omega⟩), if_neg (show ¬ bI true = 0 by decide), if_neg l0, t7, Option.bind_some, Option.bind_some, gr_k k1.1 k1.2.1.1, Option.bind_some, TxL_sz tx, Option.bind_some, cal_k hT.2.2.2.2.2.2.2.2.1]
        obtain ⟨S9, e9, o9, s9⟩ := buildPut_L (z := z) (X := X) (at' := eCur E) (w := l.toInt.toNat) (len := (eTxt E).length) hW hR (grw_n (op_n z)) hT.2.2.2.2.2.2.2.2.1 (by omega) (by omega) (by omega) (by omega)
        rw [← hln] at e9 o9
        rw [e9, Option.bind_some, Option.bind_some]
        have C9 := CR_op h hg s9
        obtain ⟨L1, L2, L3⟩ := lay_cnt (len := (eTxt E).length) (kept := eCur E) (cut := 0) (letter := l) (by omega) (Or.inr (okP_of hl.1 hl.2))
        have hty : tyO E l = layO (eTxt E).length (eCur E) l 0 := by unfold tyO; rw [if_neg l0]
        rw [if_pos ⟨hp, by omega, fun hh => l0 hh.1⟩, hty]
        have := typeC_end (X := X) (c := c) (i := i) C9 hg hch (hR0 S9 s9) p2 o9 L1 (by rw [hE]; exact L2) (by omega)
        rw [hE] at this
        exact this
      · rw [decide_eq_false (fun hh => hl hh.2.1), if_pos (show bI false = 0 from rfl), if_neg (fun hh => by
          have h2 := hh.2.1
          have h3 : l.toInt ≠ 0 := fun e => l0 (by
            have := nI_ofInt (p := l) (by omega)
            rw [e] at this
            exact this)
          omega)]
        exact act_ref (k := 2) h hg (by omega) hR
  · rw [decide_eq_false hp, if_pos (show bI false = 0 from rfl), if_neg (fun hh => hp hh.1)]
    exact act_ref (k := 2) h hg (by omega) hR
end AF
