/-! ===== PART II, the class: put, cut, type, undo, redo ===== -/
def ActR (z : Nat) (X : Nat × Nat) (c : Nat) (ch : Nat) (o : Option (Int32 × CS)) (r : Int32 × St) : Prop := ∃ S' K' fi' ch', o = some (r.1, S') ∧ CR S' z r.2 K' fi' ch' ∧ ch' ≤ ch + 1 ∧ Rm z X (117162 * (20 - made K') + c) S'
section AE
variable {S S' : CS} {z fi ch c c0 : Nat} {A A' : St} {K K' : Nat → Option Nat} {H : Nat → Prop} {X : Nat × Nat}
theorem act_ref {k : Nat} (h : CR S z A K fi ch) (hg : GA A) (hk : k < 7) (hR : Rm z X (117162 * (20 - made K) + (7600 + c)) S) : ActR z X c ch (bn2 (cal S 11 z (f11_refuse S z (nI k))) fun v S => some (v, S)) (-1, sRf A k) := by
  obtain ⟨S', r1, r2, r3⟩ := refuse_C h hg hk
  rw [r1, bn2_s]
  exact ⟨S', K, fi, ch, rfl, r2, by omega, Rm_cst (c := 0) (d := 117162 * (20 - made K) + c) (Rm_mono hR (by omega)) r3⟩
theorem act_refF {k : Nat} (h : CR S z A K fi ch) (hg : GA A) (hk : k < 7) (hR : Rm z X (117162 * (20 - made K) + (7600 + c)) S) : ActR z X c ch (bn2 (cal S 11 z (f11_refuseFlatly S z (nI k))) fun v S => (bz v).bind fun v => some (v, S)) (0, sRf A k) := by
  obtain ⟨S', r1, r2, r3⟩ := refuseF_C h hg hk
  rw [r1, bn2_s]
  exact ⟨S', K, fi, ch, rfl, r2, by omega, Rm_cst (c := 0) (d := 117162 * (20 - made K) + c) (Rm_mono hR (by omega)) r3⟩
theorem place_C (h : CR S z A K fi ch) (hg : GA A) (p q : Int32) : cal S 10 (z + 227) (f10_canPlace S (z + 227) p q) = some (bI (decide ((0 ≤ p.toInt ∧ p.toInt < aCnt A) ∧ 0 ≤ q.toInt ∧ q.toInt ≤ (eTxt (wE (aW A) p.toInt.toNat)).length))) := by
  have hkn := kn_C h hg p
  have hed := fun hp => ed_C h hg (p := p) hp
  obtain ⟨hW, hT, hTp, hTf, hsh, hwd, ha, hk, hh, hc⟩ := h
  rw [cal_k hwd.1.1]
  unfold f10_canPlace
  rw [hkn, Option.bind_some]
  by_cases hp : 0 ≤ p.toInt ∧ p.toInt < aCnt A
  · obtain ⟨p1, p2, p3, p4, ⟨⟨k1, _⟩, k6⟩⟩ := hed hp
    have t1 := (k6 rfl).1.1
    have hb := TxL_bd t1
    rw [decide_eq_true hp, if_neg (show ¬ bI true = 0 by decide)]
    by_cases q0 : q < 0
    · rw [if_pos q0, Option.bind_some, decide_eq_false (fun hh => by rw [Int32.lt_iff_toInt_lt, i0] at q0; omega)]; rfl
    · rw [if_neg q0, gr_k hwd.1.1 hwd.1.2.1.2.2.2.1, Option.bind_some, p4, Option.bind_some, gr_k k1.1 k1.2.1.1, Option.bind_some, TxL_sz t1, Option.bind_some]
      rw [Int32.lt_iff_toInt_lt, i0] at q0
      by_cases q1 : nI (eTxt (wE (aW A) p.toInt.toNat)).length < q
      · rw [if_pos q1, Option.bind_some, decide_eq_false (fun hh => by rw [i_gt (by omega)] at q1; omega)]; rfl
      · rw [if_neg q1, Option.bind_some, decide_eq_true (by rw [i_gt (by omega)] at q1; exact ⟨hp, by omega, by omega⟩)]; rfl
  · rw [decide_eq_false hp, if_pos (show bI false = 0 from rfl), Option.bind_some, decide_eq_false (fun hh => hp hh.1)]; rfl
theorem put_Q (h : CR S z A K fi ch) (hg : GA A) (p q l : Int32) : cal S 10 (z + 227) (f10_canPut S (z + 227) p q l) = some (bI (decide ((0 ≤ p.toInt ∧ p.toInt < aCnt A) ∧ (1 ≤ l.toInt ∧ l.toInt ≤ 26) ∧ 0 ≤ q.toInt ∧ q.toInt ≤ (eTxt (wE (aW A) p.toInt.toNat)).length))) := by
  have hpl := place_C h hg p q
  obtain ⟨hW, hT, hTp, hTf, hsh, hwd, ha, hk, hh, hc⟩ := h
  rw [cal_k hwd.1.1]
  unfold f10_canPut
  rw [hpl, Option.bind_some]
  by_cases hp : (0 ≤ p.toInt ∧ p.toInt < aCnt A) ∧ 0 ≤ q.toInt ∧ q.toInt ≤ (eTxt (wE (aW A) p.toInt.toNat)).length
  · rw [decide_eq_true hp, if_neg (show ¬ bI true = 0 by decide)]
    by_cases l1 : l < 1
    · rw [if_pos l1, Option.bind_some, decide_eq_false (fun hh => by rw [Int32.lt_iff_toInt_lt, show (1 : Int32).toInt = 1 from by decide] at l1; omega)]; rfl
    · rw [if_neg l1]
      rw [Int32.lt_iff_toInt_lt, show (1 : Int32).toInt = 1 from by decide] at l1
      by_cases l2 : 26 < l
      · rw [if_pos l2, Option.bind_some, decide_eq_false (fun hh => by rw [Int32.lt_iff_toInt_lt, show (26 : Int32).toInt = 26 from by decide] at l2; omega)]; rfl
      · rw [if_neg l2, Option.bind_some, decide_eq_true (by rw [Int32.lt_iff_toInt_lt, show (26 : Int32).toInt = 26 from by decide] at l2; exact ⟨hp.1, ⟨by omega, by omega⟩, hp.2⟩)]; rfl
  · rw [decide_eq_false hp, if_pos (show bI false = 0 from rfl), Option.bind_some, decide_eq_false (fun hh => hp ⟨hh.1, hh.2.2⟩)]; rfl
theorem cut_Q (h : CR S z A K fi ch) (hg : GA A) (p q n : Int32) : cal S 10 (z + 227) (f10_canCut S (z + 227) p q n) = some (bI (decide ((0 ≤ p.toInt ∧ p.toInt < aCnt A) ∧ (0 ≤ q.toInt ∧ q.toInt ≤ (eTxt (wE (aW A) p.toInt.toNat)).length) ∧ 1 ≤ n.toInt ∧ n.toInt ≤ (eTxt (wE (aW A) p.toInt.toNat)).length - q.toInt))) := by
  have hpl := place_C h hg p q
  have hed := fun hp => ed_C h hg (p := p) hp
  obtain ⟨hW, hT, hTp, hTf, hsh, hwd, ha, hk, hh, hc⟩ := h
  rw [cal_k hwd.1.1]
  unfold f10_canCut
  rw [hpl, Option.bind_some]
  by_cases hp : (0 ≤ p.toInt ∧ p.toInt < aCnt A) ∧ 0 ≤ q.toInt ∧ q.toInt ≤ (eTxt (wE (aW A) p.toInt.toNat)).length
  · obtain ⟨p1, p2, p3, p4, ⟨⟨k1, _⟩, k6⟩⟩ := hed hp.1
    have t1 := (k6 rfl).1.1
    have hb := TxL_bd t1
    rw [decide_eq_true hp, if_neg (show ¬ bI true = 0 by decide)]
    by_cases l1 : n < 1
    · rw [if_pos l1, Option.bind_some, decide_eq_false (fun hh => by rw [Int32.lt_iff_toInt_lt, show (1 : Int32).toInt = 1 from by decide] at l1; omega)]; rfl
    · rw [if_neg l1, gr_k hwd.1.1 hwd.1.2.1.2.2.2.1, Option.bind_some, p4, Option.bind_some, gr_k k1.1 k1.2.1.1, Option.bind_some, TxL_sz t1, Option.bind_some]
      rw [Int32.lt_iff_toInt_lt, show (1 : Int32).toInt = 1 from by decide] at l1
      have hq := nI_ofInt (p := q) hp.2.1
      have es : nI (eTxt (wE (aW A) p.toInt.toNat)).length - q = nI ((eTxt (wE (aW A) p.toInt.toNat)).length - q.toInt.toNat) := by
        have : nI (eTxt (wE (aW A) p.toInt.toNat)).length - nI q.toInt.toNat = nI ((eTxt (wE (aW A) p.toInt.toNat)).length - q.toInt.toNat) := nI_sub (by omega)
        rw [← hq] at this
        exact this
      rw [es]
      by_cases l2 : nI ((eTxt (wE (aW A) p.toInt.toNat)).length - q.toInt.toNat) < n
      · rw [if_pos l2, Option.bind_some, decide_eq_false (fun hh => by rw [i_gt (by omega)] at l2; omega)]; rfl
      · rw [if_neg l2, Option.bind_some, decide_eq_true (by rw [i_gt (by omega)] at l2; exact ⟨hp.1, hp.2, by omega, by omega⟩)]; rfl
  · rw [decide_eq_false hp, if_pos (show bI false = 0 from rfl), Option.bind_some, decide_eq_false (fun hh => hp ⟨hh.1, hh.2.1⟩)]; rfl
/-- an operation is laid ready -/
theorem CR_op (h : CR S z A K fi ch) (hg : GA A) (hs : Sg z (fun x => x = z + 654) c S S') : CR S' z A K fi ch := by
  obtain ⟨l, hob⟩ := h.2.2.2.2.1.2.1
  exact CR_tmp1 h hg hs (fun x hx => by omega) ⟨l, OpL_Fo h.1 hob hs.2.1 (by omega)⟩
end AE
