/-! ===== PART II, the reference: a statement is read: what the reference does ===== -/
theorem statementTold_ok {M : MS} {T : List Int32} {p : Pz} {cnt k : Nat} (h : RQ M T p) (h43 : M.1 43 = nI cnt) (hc : 1 ≤ cnt) (hc4 : cnt < 100) (h46 : M.1 46 = nI k) (hk : k ≤ 60) : ∃ M', f12_statementTold M = some M' ∧ RQ M' T (pStm T cnt k p).2 ∧ M'.1 46 = nI (k + 1) ∧ Frm [] [2, 4, 5, 6, 46] M M' := by
  have h1 : ∃ M1, (if gF M 46 = (60 : Int32) then ((f12_fail M 5 (gF M 2)).bind fun M3 => some M3) else some M) = some M1 ∧ RQ M1 T (if k = 60 then pFail p 5 (pAt p) else p) ∧ Frm [] [2, 4, 5, 6] M M1 := by
    rw [show gF M 46 = _ from h46]
    by_cases hk4 : k = 60
    · obtain ⟨M1, f1, f2, f3⟩ := RQ_fail (kind := 5) (place := pAt p) h (by omega)
      refine ⟨M1, ?_, by rw [if_pos hk4]; exact f2, f3⟩
      rw [if_pos (by rw [hk4]; rfl), show gF M 2 = _ from h.1.2.2.1, show f12_fail M (5 : Int32) (nI (pAt p)) = some M1 from f1, Option.bind_some]
    · refine ⟨M, ?_, by rw [if_neg hk4]; exact h, Frm_refl _ _ _⟩
      rw [if_neg (by rw [show (60 : Int32) = nI 60 from rfl, nI_eq (by omega) (by omega)]; exact hk4)]
  obtain ⟨M1, e1, e2, e3⟩ := h1
  unfold f12_statementTold
  rw [e1, Option.bind_some]
  unfold pStm
  generalize (if k = 60 then pFail p 5 (pAt p) else p) = p1 at *
  have q43 : ∀ M', Frm [] [2, 4, 5, 6] M M' → M'.1 43 = nI cnt := fun M' hf => by rw [hf.2.1 43 (by decide)]; exact h43
  obtain ⟨M5, a1, a2, a3⟩ := RQ_take 12 e2 (by omega) (by omega)
  have a3 := Frm_trans e3 a3
  obtain ⟨M9, b1, b2, b3⟩ := RQ_take 13 a2 (by omega) (by omega)
  have b3 := Frm_trans a3 b3
  obtain ⟨M11, c1, c2, c3⟩ := RQ_take 14 b2 (by omega) (by omega)
  have c3 := Frm_trans b3 c3
  obtain ⟨M13, d1, d2, d3⟩ := RQ_take 15 c2 (by omega) (by omega)
  have d3 := Frm_trans c3 d3
  obtain ⟨M15, i1, i2, i3⟩ := RQ_take 16 d2 (by omega) (by omega)
  have i3 := Frm_trans d3 i3
  obtain ⟨M17, j1, j2, j3⟩ := RQ_take 17 i2 (by omega) (by omega)
  have j3 := Frm_trans i3 j3
  obtain ⟨M21, k1, k2, k3⟩ := RQ_take 18 j2 (by omega) (by omega)
  have k3 := Frm_trans j3 k3
  rw [a1, bn2_s]
  have fin : ∀ {M6 : MS} {q : Pz}, RQ M6 T q → Frm [] [2, 4, 5, 6] M M6 → ∃ M', ((f12_asksSign M6 59).bind fun M38 => some (sF M38 46 ((gF M38 46) + 1))) = some M' ∧ RQ M' T (pAskS T 59 q) ∧ M'.1 46 = nI (k + 1) ∧ Frm [] [2, 4, 5, 6, 46] M M' := by
    intro M6 q hq hf
    obtain ⟨M38, s1, s2, s3⟩ := RQ_askS (c := 59) hq (by decide)
    have h46' : M38.1 46 = nI k := by rw [s3.2.1 46 (by decide), hf.2.1 46 (by decide)]; exact h46
    refine ⟨sF M38 46 ((gF M38 46) + 1), ?_, RQ_F s2 (by omega), ?_, Frm_trans (Frm_mono (Frm_trans hf s3) (by simp) (by simp)) (Frm_sF (by decide))⟩
    · rw [s1, Option.bind_some]
    · rw [sF_get, show gF M38 46 = _ from h46', nI_1]
  unfold pBody
  dsimp only
  generalize pTake T (kwL 12) p1 = t2 at *
  generalize pTake T (kwL 13) t2.2 = t3 at *
  generalize pTake T (kwL 14) t3.2 = t4 at *
  generalize pTake T (kwL 15) t4.2 = t5 at *
  generalize pTake T (kwL 16) t5.2 = t6 at *
  generalize pTake T (kwL 17) t6.2 = t7 at *
  generalize pTake T (kwL 18) t7.2 = t8 at *
  cases ht2 : t2.1 with
  | true =>
    rw [if_neg (show ¬ bI true = (0 : Int32) from by decide), if_pos rfl]
    obtain ⟨Ma, m1, m2, m3, m4⟩ := RQ_edT a2 (q43 _ a3) hc hc4
    obtain ⟨Mb, n1, n2, n3⟩ := RQ_num (lo := 0) (hi := 9) m2 (by omega) (by omega)
    unfold f12_delayTold
    rw [m1, bn2_s, show f12_number Ma (0 : Int32) (9 : Int32) = _ from n1, bn2_s, Option.bind_some, Option.bind_some]
    exact fin n2 (Frm_trans a3 (Frm_trans m3 n3))
  | false =>
  rw [if_pos (show bI false = (0 : Int32) from rfl), if_neg (show ¬ false = true from by decide), b1, bn2_s]
  cases ht3 : t3.1 with
  | true =>
    rw [if_neg (show ¬ bI true = (0 : Int32) from by decide), if_pos rfl]
    obtain ⟨Mb, n1, n2, n3⟩ := RQ_num (lo := 0) (hi := 2) b2 (by omega) (by omega)
    rw [show f12_number M9 (0 : Int32) (2 : Int32) = _ from n1, bn2_s, Option.bind_some]
    exact fin n2 (Frm_trans b3 n3)
  | false =>
  rw [if_pos (show bI false = (0 : Int32) from rfl), if_neg (show ¬ false = true from by decide), c1, bn2_s]
  cases ht4 : t4.1 with
  | true =>
    rw [if_neg (show ¬ bI true = (0 : Int32) from by decide), if_pos rfl]
    obtain ⟨Ma, m1, m2, m3, m4⟩ := RQ_edT c2 (q43 _ c3) hc hc4
    obtain ⟨Mb, n1, n2, n3⟩ := opTold_ok (wh := false) m2
    rw [m1, bn2_s, show f12_opTold Ma (0 : Int32) = _ from n1, Option.bind_some, Option.bind_some]
    exact fin n2 (Frm_trans c3 (Frm_trans m3 n3))
  | false =>
  rw [if_pos (show bI false = (0 : Int32) from rfl), if_neg (show ¬ false = true from by decide), d1, bn2_s]
  cases ht5 : t5.1 with
  | true =>
    rw [if_neg (show ¬ bI true = (0 : Int32) from by decide), if_pos rfl]
    obtain ⟨Ma, m1, m2, m3, m4⟩ := RQ_edT d2 (q43 _ d3) hc hc4
    obtain ⟨Mb, n1, n2, n3⟩ := RQ_num (lo := 0) (hi := 99) m2 (by omega) (by omega)
    rw [m1, bn2_s, show f12_number Ma (0 : Int32) (99 : Int32) = _ from n1, bn2_s, Option.bind_some]
    exact fin n2 (Frm_trans d3 (Frm_trans m3 n3))
  | false =>
  rw [if_pos (show bI false = (0 : Int32) from rfl), if_neg (show ¬ false = true from by decide), i1, bn2_s]
  cases ht6 : t6.1 with
  | true =>
    rw [if_neg (show ¬ bI true = (0 : Int32) from by decide), if_pos rfl]
    obtain ⟨Ma, m1, m2, m3, m4⟩ := RQ_edT i2 (q43 _ i3) hc hc4
    obtain ⟨Mb, n1, n2, n3⟩ := RQ_num (lo := 0) (hi := 99) m2 (by omega) (by omega)
    obtain ⟨Mc, o1, o2, o3⟩ := RQ_num (lo := 0) (hi := 99) n2 (by omega) (by omega)
    obtain ⟨Md, r1, r2, r3⟩ := RQ_num (lo := 0) (hi := 3) o2 (by omega) (by omega)
    unfold f12_markTold
    rw [m1, bn2_s, show f12_number Ma (0 : Int32) (99 : Int32) = _ from n1, bn2_s, show f12_number Mb (0 : Int32) (99 : Int32) = _ from o1, bn2_s, show f12_number Mc (0 : Int32) (3 : Int32) = _ from r1, bn2_s, Option.bind_some, Option.bind_some]
    exact fin r2 (Frm_trans i3 (Frm_trans m3 (Frm_trans n3 (Frm_trans o3 r3))))
  | false =>
  rw [if_pos (show bI false = (0 : Int32) from rfl), if_neg (show ¬ false = true from by decide), j1, bn2_s]
  cases ht7 : t7.1 with
  | true =>
    rw [if_neg (show ¬ bI true = (0 : Int32) from by decide), if_pos rfl]
    obtain ⟨Ma, m1, m2, m3, m4⟩ := RQ_edT j2 (q43 _ j3) hc hc4
    rw [m1, bn2_s, Option.bind_some]
    exact fin m2 (Frm_trans j3 m3)
  | false =>
  rw [if_pos (show bI false = (0 : Int32) from rfl), if_neg (show ¬ false = true from by decide), k1, bn2_s]
  cases ht8 : t8.1 with
  | true =>
    rw [if_neg (show ¬ bI true = (0 : Int32) from by decide), if_pos rfl]
    obtain ⟨Ma, m1, m2, m3, m4⟩ := RQ_edT k2 (q43 _ k3) hc hc4
    rw [m1, bn2_s, Option.bind_some]
    exact fin m2 (Frm_trans k3 m3)
  | false =>
  rw [if_pos (show bI false = (0 : Int32) from rfl), if_neg (show ¬ false = true from by decide)]
  obtain ⟨Ma, m1, m2, m3⟩ := RQ_ask 19 k2 (by omega) (by omega)
  obtain ⟨Mb, n1, n2, n3⟩ := RQ_num (lo := 1) (hi := 99) m2 (by omega) (by omega)
  rw [m1, Option.bind_some, show f12_number Ma (1 : Int32) (99 : Int32) = _ from n1, bn2_s, Option.bind_some]
  exact fin n2 (Frm_trans k3 (Frm_trans m3 n3))
/-- all statements behind the first one -/
def pAll (T : List Int32) (cnt : Nat) : Nat → Nat → Pz → List Sm × Pz
  | 0, _, p => ([], p)
  | n + 1, k, p =>
    if pBd p = 0 then
      (if byteAt T (lkP T (pAt p)) = -1 then ([], (lkP T (pAt p), p.2))
       else (let s := pStm T cnt k (lkP T (pAt p), p.2); (s.1 :: (pAll T cnt n (k + 1) s.2).1, (pAll T cnt n (k + 1) s.2).2)))
    else ([], p)
theorem body_bad {T : List Int32} {cnt : Nat} {p : Pz} (h : pBd p ≠ 0) : (pBody T cnt p).2 = p := by
  unfold pBody
  dsimp only
  rw [take_bad (w := kwL 12) h]
  dsimp only
  rw [take_bad (w := kwL 13) h]
  dsimp only
  rw [take_bad (w := kwL 14) h]
  dsimp only
  rw [take_bad (w := kwL 15) h]
  dsimp only
  rw [take_bad (w := kwL 16) h]
  dsimp only
  rw [take_bad (w := kwL 17) h]
  dsimp only
  rw [take_bad (w := kwL 18) h]
  dsimp only
  rw [if_neg (by decide), if_neg (by decide), if_neg (by decide), if_neg (by decide), if_neg (by decide), if_neg (by decide), if_neg (by decide), ask_bad h, num_bad h]
theorem all_loop {T : List Int32} {cnt : Nat} (hc : 1 ≤ cnt) (hc4 : cnt < 100) : ∀ (d n k : Nat) (p : Pz) (M : MS), RQ M T p → M.1 43 = nI cnt → M.1 46 = nI k → k + d = 62 → k ≤ 61 → (k = 61 → pBd p ≠ 0) → d < n →
    ∃ M', L12_session_19 n M = some M' ∧ RQ M' T (pAll T cnt d k p).2 ∧ M'.1 46 = nI (k + (pAll T cnt d k p).1.length) ∧ Frm [] [2, 4, 5, 6, 46] M M' := by
  intro d
  induction d with
  | zero => intro n k p M h h43 h46 hk hk1 h61 hn; omega
  | succ d ih =>
    intro n k p M h h43 h46 hk hk1 h61 hn
    obtain ⟨n, rfl⟩ : ∃ j, n = j + 1 := ⟨n - 1, by omega⟩
    have h9 := h.1.2.2.2.2.2.2.2.2
    unfold L12_session_19 pAll
    rw [show gF M 5 = _ from h.1.2.2.2.2.1]
    by_cases hb : pBd p = 0
    · rw [hb, if_pos (show nI 0 = (0 : Int32) from rfl), if_pos rfl]
      obtain ⟨M2, l1, l2, l3⟩ := RQ_look h
      rw [l1, bn2_s]
      by_cases he : byteAt T (lkP T (pAt p)) = -1
      · rw [if_pos he, if_pos he]
        exact ⟨M2, rfl, l2, by rw [l3.2.1 46 (by decide)]; exact h46, Frm_mono l3 (by simp) (by simp)⟩
      · rw [if_neg he, if_neg he]
        have hk60 : k ≤ 60 := by
          by_cases hx : k = 61
          · exact absurd hb (h61 hx)
          · omega
        obtain ⟨M3, s1, s2, s3, s4⟩ := statementTold_ok (cnt := cnt) (k := k) l2 (by rw [l3.2.1 43 (by decide)]; exact h43) hc hc4 (by rw [l3.2.1 46 (by decide)]; exact h46) hk60
        rw [s1, Option.bind_some]
        obtain ⟨M', i1, i2, i3, i4⟩ := ih n (k + 1) (pStm T cnt k (lkP T (pAt p), p.2)).2 M3 s2 (by rw [s4.2.1 43 (by decide), l3.2.1 43 (by decide)]; exact h43) s3 (by omega) (by omega) (by
          intro hx
          have hk6 : k = 60 := by omega
          unfold pStm
          dsimp only
          rw [if_pos hk6]
          have hbd : pBd (pFail ((lkP T (pAt p), p.2) : Pz) 5 (pAt ((lkP T (pAt p), p.2) : Pz))) ≠ 0 := fail_is (by omega)
          rw [body_bad hbd, askS_bad hbd]; exact hbd) (by omega)
        refine ⟨M', i1, i2, ?_, Frm_trans (Frm_mono l3 (by simp) (by simp)) (Frm_trans s4 i4)⟩
        dsimp only
        rw [List.length_cons, show k + ((pAll T cnt d (k + 1) (pStm T cnt k (lkP T (pAt p), p.2)).2).1.length + 1) = k + 1 + (pAll T cnt d (k + 1) (pStm T cnt k (lkP T (pAt p), p.2)).2).1.length by omega]
        exact i3
    · rw [if_neg (nI_ne0 (by omega) (by omega)), if_neg hb]
      exact ⟨M, rfl, h, h46, Frm_refl _ _ _⟩
