/-! ===== PART II, the reference: a number, a word on the tape ===== -/
theorem RP_ed {M : MS} {T : List Int32} {p : Pz} (h : RP M T p) : RP (sF M 4 (gF M 2)) T (pAt p, some (pAt p), p.2.2) := by
  obtain ⟨h1, h2, h3, h4, h5, h6, h7, h8, h9⟩ := h
  refine ⟨by rw [sF_ne _ _ (by decide)]; exact h1, h2, by rw [sF_ne _ _ (by decide)]; exact h3, ?_, by rw [sF_ne _ _ (by decide)]; exact h5, by rw [sF_ne _ _ (by decide)]; exact h6, h7, h8, h9⟩
  rw [sF_get]; exact h3
theorem ed_eq {M : MS} {T : List Int32} {p : Pz} (h : RP M T p) (hE : ∀ x, pEd p = some x → x ≤ 1600) : (gF M 2 = gF M 4) ↔ pEd p = some (pAt p) := by
  obtain ⟨h1, h2, h3, h4, h5, h6, h7, h8, h9⟩ := h
  rw [show gF M 2 = _ from h3, show gF M 4 = _ from h4]
  cases hp : pEd p with
  | none =>
    constructor
    · intro hh
      have h3 := is1.mp (show nI (pAt p) = (-1 : Int32) from hh)
      rw [nI_toInt (by omega)] at h3
      omega
    · intro hh; cases hh
  | some x =>
    have := hE x hp
    show (nI (pAt p) = nI x) ↔ _
    rw [nI_eq (by omega) (by omega)]
    exact ⟨fun h => by rw [h], fun h => (Option.some.inj h).symm⟩
theorem lkP_le {T : List Int32} {i : Nat} (h : i ≤ T.length) : lkP T i ≤ T.length := by
  have := skL_le (T.drop i)
  rw [List.length_drop] at this
  unfold lkP
  omega
theorem number_ok {M : MS} {T : List Int32} {p : Pz} {lo hi : Nat} (h : RP M T p) (hE : ∀ x, pEd p = some x → x ≤ 1600) (hlo : lo < 1000) (hhi : hi < 1000) : ∃ M', f12_number M (nI lo) (nI hi) = some (nI (pNum T lo hi p).1, M') ∧ RP M' T (pNum T lo hi p).2 ∧ Frm [] [2, 4, 5, 6] M M' := by
  obtain ⟨h1, h2, h3, h4, h5, h6, h7, h8, h9⟩ := id h
  unfold f12_number pNum
  rw [show gF M 5 = _ from h5]
  by_cases hb : pBd p = 0
  · obtain ⟨M2, g1, g2, g3⟩ := look_ok h
    have hlk := lkP_le h8
    rw [hb, if_pos (show nI 0 = (0 : Int32) from rfl), if_pos rfl, g1, bn2_s, isDigit_ok, Option.bind_some]
    have hat : gF M2 2 = nI (lkP T (pAt p)) := g2.2.2.1
    have hfail := fail_ok (kind := 1) (place := lkP T (pAt p)) g2 (by omega)
    obtain ⟨M4, f1, f2, f3⟩ := hfail
    have hF : ∃ M', ((f12_fail M2 (1 : Int32) (gF M2 2)).bind fun M4 => some (nI lo, M4)) = some (nI lo, M') ∧ RP M' T (pFail (lkP T (pAt p), p.2) 1 (lkP T (pAt p))) ∧ Frm [] [2, 4, 5, 6] M M' := by
      refine ⟨M4, ?_, f2, Frm_trans (Frm_mono g3 (by simp) (by simp)) (Frm_mono f3 (by simp) (by simp))⟩
      rw [hat, show f12_fail M2 (1 : Int32) (nI (lkP T (pAt p))) = some M4 from f1, Option.bind_some]
    cases hd : isDg (byteAt T (lkP T (pAt p))) with
    | false =>
      rw [if_pos (show bI false = (0 : Int32) from rfl), if_neg (fun hh => by cases hh.1)]
      exact hF
    | true =>
      rw [if_neg (show ¬ bI true = (0 : Int32) from by decide)]
      have hee := ed_eq g2 (by intro x hx; exact hE x hx)
      by_cases hq : pEd p = some (lkP T (pAt p))
      · rw [if_pos (hee.mpr hq), if_neg (fun hh => hh.2 hq)]
        exact hF
      · rw [if_neg (fun hh => hq (hee.mp hh)), if_pos (show true = true ∧ pEd p ≠ some (lkP T (pAt p)) from ⟨rfl, hq⟩), hat]
        obtain ⟨M7, n1, n2, n3, n4, n5, n6⟩ := num_loop (c1 := nI lo) (c2 := nI hi) (q := lkP T (pAt p)) (T.drop (lkP T (pAt p))) FU 0 0 (lkP T (pAt p), p.2) M2 g2 rfl (by rw [Nat.add_zero]) (by omega) (by decide) (by rw [List.length_drop, FU_eq]; omega)
        rw [show L12_number_49 (nI lo) (nI hi) (nI (lkP T (pAt p))) FU (0 : Int32) M2 = _ from n1, bn3_s]
        generalize scN (T.drop (lkP T (pAt p))) 0 0 = r at *
        cases hr : r.1 with
        | false =>
          rw [if_pos (show (if false = true then 1 else 0 : Nat) = 0 from rfl), if_neg (show ¬ false = true from by decide)]
          obtain ⟨M9, e1, e2, e3⟩ := fail_ok (kind := 1) (place := lkP T (pAt p) + r.2.1) n2 (by omega)
          refine ⟨M9, ?_, e2, Frm_trans (Frm_mono g3 (by simp) (by simp)) (Frm_trans (Frm_mono n3 (by simp) (by simp)) (Frm_mono e3 (by simp) (by simp)))⟩
          rw [show gF M7 2 = _ from n2.2.2.1, show f12_fail M7 (1 : Int32) (nI (lkP T (pAt p) + r.2.1)) = some M9 from e1, Option.bind_some]
        | true =>
          rw [if_pos rfl, if_neg (by decide), if_pos rfl, isIn_ok, i64, i64, i64, nI_toInt (by omega), nI_toInt (by omega), nI_toInt (by omega), Option.bind_some]
          have n2' := RP_ed n2
          have fr : Frm [] [2, 4, 5, 6] M (sF M7 4 (gF M7 2)) := Frm_trans (Frm_mono g3 (by simp) (by simp)) (Frm_trans (Frm_mono n3 (by simp) (by simp)) (Frm_sF (by decide)))
          dsimp only
          by_cases hin : lo ≤ r.2.2 ∧ r.2.2 ≤ hi
          · rw [if_pos (show (lo : Int) ≤ (r.2.2 : Int) ∧ (r.2.2 : Int) ≤ (hi : Int) by omega), if_neg (show ¬ (1 : Int32) = 0 from by decide), Option.bind_some, if_pos hin]
            exact ⟨_, rfl, n2', fr⟩
          · rw [if_neg (show ¬ ((lo : Int) ≤ (r.2.2 : Int) ∧ (r.2.2 : Int) ≤ (hi : Int)) by omega), if_pos rfl, if_neg hin]
            obtain ⟨M13, e1, e2, e3⟩ := fail_ok (kind := 2) (place := lkP T (pAt p)) n2' (by omega)
            refine ⟨M13, ?_, e2, Frm_trans fr (Frm_mono e3 (by simp) (by simp))⟩
            rw [show f12_fail (sF M7 4 (gF M7 2)) (2 : Int32) (nI (lkP T (pAt p))) = some M13 from e1, Option.bind_some, Option.bind_some]
  · rw [if_neg (nI_ne0 (by omega) (by omega)), if_neg hb]
    exact ⟨M, rfl, h, Frm_refl _ _ _⟩
