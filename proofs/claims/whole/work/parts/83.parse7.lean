/-! ===== PART II, the reference: an operation is read ===== -/
theorem sign_bad {T : List Int32} {c : Int32} {p : Pz} (h : pBd p ≠ 0) : pSign T c p = (false, p) := by unfold pSign; rw [if_neg h]
theorem num_bad {T : List Int32} {lo hi : Nat} {p : Pz} (h : pBd p ≠ 0) : pNum T lo hi p = (lo, p) := by unfold pNum; rw [if_neg h]
theorem word_bad {T : List Int32} {most : Nat} {p : Pz} (h : pBd p ≠ 0) : pWord T most p = (pAt p, p) := by unfold pWord; rw [if_neg h]
theorem take_bad {T w : List Int32} {p : Pz} (h : pBd p ≠ 0) : pTake T w p = (false, p) := by
  unfold pTake pHere pLk
  rw [if_neg (by simp [h]), if_neg h]
theorem ask_bad {T w : List Int32} {p : Pz} (h : pBd p ≠ 0) : pAsk T w p = p := by unfold pAsk; rw [if_neg h]
theorem askS_bad {T : List Int32} {c : Int32} {p : Pz} (h : pBd p ≠ 0) : pAskS T c p = p := by unfold pAskS; rw [if_neg h]
theorem fail_bad {k q : Nat} {p : Pz} (h : pBd p ≠ 0) : pFail p k q = p := by unfold pFail; rw [if_neg h]
theorem fail_is {k q : Nat} {p : Pz} (hk : k ≠ 0) : pBd (pFail p k q) ≠ 0 := by
  unfold pFail
  split
  · exact hk
  · rename_i h; exact h
/-- letters of the tape -/
def ltrs (T : List Int32) (i j : Nat) : List Int32 := ((T.drop i).take (j - i)).map (fun c => c - 97 + 1)
/-- a step: kind (0 keeps, 1 puts, 2 cuts), how many, letters -/
abbrev Sv : Type := Nat × Nat × List Int32
def pStp (T : List Int32) (p : Pz) : Sv × Pz :=
  if (pSign T 43 p).1 then ((1, 0, ltrs T (pWord T 20 (pSign T 43 p).2).1 (pAt (pWord T 20 (pSign T 43 p).2).2)), (pWord T 20 (pSign T 43 p).2).2)
  else ((if (pSign T 45 (pSign T 43 p).2).1 then 2 else 0, (pNum T 1 99 (pSign T 45 (pSign T 43 p).2).2).1, []), (pNum T 1 99 (pSign T 45 (pSign T 43 p).2).2).2)
theorem step_bad {T : List Int32} {p : Pz} (h : pBd p ≠ 0) : (pStp T p).2 = p := by
  unfold pStp
  rw [sign_bad h, if_neg (show ¬ false = true from by decide), sign_bad h, num_bad h]
/-- the steps of an operation: up to the tape's end (wh), or to where its statement ends -/
def pOp (T : List Int32) (wh : Bool) : Nat → Nat → Pz → List Sv × Pz
  | 0, _, p => ([], p)
  | n + 1, k, p =>
    if pBd p = 0 then
      (let p1 := if k = 40 then pFail p 5 (pAt p) else p
       let s := pStp T p1
       let p3 : Pz := (lkP T (pAt s.2), s.2.2)
       if byteAt T (pAt p3) = -1 ∨ (wh = false ∧ byteAt T (pAt p3) = 59) then ([s.1], p3)
       else (s.1 :: (pOp T wh n (k + 1) p3).1, (pOp T wh n (k + 1) p3).2))
    else ([], p)
theorem op_loop {T : List Int32} {wh : Bool} : ∀ (d n k : Nat) (p : Pz) (M : MS), RQ M T p → k + d = 42 → k ≤ 41 → (k = 41 → pBd p ≠ 0) → d < n → ∃ M', L12_opTold_4 (bI wh) n (nI k) 1 M = some M' ∧ RQ M' T (pOp T wh d k p).2 ∧ Frm [] [2, 4, 5, 6] M M' := by
  intro d
  induction d with
  | zero =>
    intro n k p M h hk hk1 h41 hn
    omega
  | succ d ih =>
    intro n k p M h hk hk1 h41 hn
    obtain ⟨n, rfl⟩ : ∃ j, n = j + 1 := ⟨n - 1, by omega⟩
    have h5 := h.1.2.2.2.2.1
    have h9 := h.1.2.2.2.2.2.2.2.2
    unfold L12_opTold_4 pOp
    rw [if_neg (by decide), show gF M 5 = _ from h5]
    by_cases hb : pBd p = 0
    · rw [hb, if_pos (show nI 0 = (0 : Int32) from rfl), if_pos rfl]
      have hk40 : k ≤ 40 := by
        by_cases hx : k = 41
        · exact absurd hb (h41 hx)
        · omega
      have h1 : ∃ M1, (if nI k = (40 : Int32) then ((f12_fail M 5 (gF M 2)).bind fun M3 => some M3) else some M) = some M1 ∧ RQ M1 T (if k = 40 then pFail p 5 (pAt p) else p) ∧ Frm [] [2, 4, 5, 6] M M1 := by
        by_cases hk4 : k = 40
        · obtain ⟨M1, f1, f2, f3⟩ := RQ_fail (kind := 5) (place := pAt p) h (by omega)
          refine ⟨M1, ?_, by rw [if_pos hk4]; exact f2, f3⟩
          rw [if_pos (by rw [hk4]; rfl), show gF M 2 = _ from h.1.2.2.1, show f12_fail M (5 : Int32) (nI (pAt p)) = some M1 from f1, Option.bind_some]
        · refine ⟨M, ?_, by rw [if_neg hk4]; exact h, Frm_refl _ _ _⟩
          rw [if_neg (by rw [show (40 : Int32) = nI 40 from rfl, nI_eq (by omega) (by omega)]; exact hk4)]
      generalize hp1 : (if k = 40 then pFail p 5 (pAt p) else p) = p1 at *
      obtain ⟨M1, e1, e2, e3⟩ := h1
      rw [e1, Option.bind_some]
      obtain ⟨M5, s1, s2, s3⟩ := RQ_sign (c := 43) e2 (by decide)
      rw [s1, bn2_s]
      have h2 : ∃ M6, (if bI (pSign T 43 p1).1 = 0 then (bn2 (f12_takesSign M5 45) fun v8 M9 => bn2 (f12_number M9 1 99) fun v10 M11 => some M11) else (bn2 (f12_word M5 20) fun v12 M13 => some M13)) = some M6 ∧ RQ M6 T (pStp T p1).2 ∧ Frm [] [2, 4, 5, 6] M5 M6 := by
        unfold pStp
        cases hs : (pSign T 43 p1).1 with
        | false =>
          rw [if_pos (show bI false = (0 : Int32) from rfl), if_neg (by decide)]
          obtain ⟨M9, a1, a2, a3⟩ := RQ_sign (c := 45) s2 (by decide)
          obtain ⟨M11, b1, b2, b3⟩ := RQ_num (lo := 1) (hi := 99) a2 (by omega) (by omega)
          exact ⟨M11, by rw [a1, bn2_s, show f12_number M9 (1 : Int32) (99 : Int32) = _ from b1, bn2_s], b2, Frm_trans a3 b3⟩
        | true =>
          rw [if_neg (show ¬ bI true = (0 : Int32) from by decide), if_pos rfl]
          obtain ⟨M13, a1, a2, a3⟩ := RQ_word (most := 20) s2 (by omega)
          exact ⟨M13, by rw [show f12_word M5 (20 : Int32) = _ from a1, bn2_s], a2, a3⟩
      obtain ⟨M6, t1, t2, t3⟩ := h2
      rw [t1, Option.bind_some]
      obtain ⟨M15, l1, l2, l3⟩ := RQ_look t2
      rw [l1, bn2_s]
      have fr := Frm_trans e3 (Frm_trans s3 (Frm_trans t3 l3))
      dsimp only
      generalize hp3 : ((lkP T (pAt (pStp T p1).2), (pStp T p1).2.2) : Pz) = p3 at *
      rw [show lkP T (pAt (pStp T p1).2) = pAt p3 by rw [← hp3]]
      have hstop : ∃ M', L12_opTold_4 (bI wh) n (nI k + 1) 0 M15 = some M' ∧ RQ M' T p3 ∧ Frm [] [2, 4, 5, 6] M M' := by
        obtain ⟨n, rfl⟩ : ∃ j, n = j + 1 := ⟨n - 1, by omega⟩
        refine ⟨M15, ?_, l2, fr⟩
        unfold L12_opTold_4
        rw [if_pos rfl]
      have hgo : ∃ M', L12_opTold_4 (bI wh) n (nI k + 1) 1 M15 = some M' ∧ RQ M' T (pOp T wh d (k + 1) p3).2 ∧ Frm [] [2, 4, 5, 6] M M' := by
        rw [nI_1]
        obtain ⟨M', i1, i2, i3⟩ := ih n (k + 1) p3 M15 l2 (by omega) (by omega) (by
          intro hx
          have hk4 : k = 40 := by omega
          rw [if_pos hk4] at hp1
          have hbd : pBd p1 ≠ 0 := by rw [← hp1]; exact fail_is (by omega)
          rw [← hp3]
          show pBd (pStp T p1).2 ≠ 0
          rw [step_bad hbd]; exact hbd) (by omega)
        exact ⟨M', i1, i2, Frm_trans fr i3⟩
      by_cases hc1 : byteAt T (pAt p3) = -1
      · rw [if_pos hc1, Option.bind_some, if_pos (Or.inl hc1)]
        exact hstop
      · rw [if_neg hc1]
        cases wh with
        | true =>
          rw [if_neg (show ¬ bI true = (0 : Int32) from by decide), Option.bind_some, if_neg (fun hh => by rcases hh with hh | hh; exact hc1 hh; cases hh.1)]
          exact hgo
        | false =>
          rw [if_pos (show bI false = (0 : Int32) from rfl)]
          by_cases hc2 : byteAt T (pAt p3) = 59
          · rw [if_pos hc2, Option.bind_some, if_pos (Or.inr ⟨rfl, hc2⟩)]
            exact hstop
          · rw [if_neg hc2, Option.bind_some, if_neg (fun hh => by rcases hh with hh | hh; exact hc1 hh; exact hc2 hh.2)]
            exact hgo
    · rw [if_neg (nI_ne0 (by omega) (by omega)), if_neg hb]
      exact ⟨M, rfl, h, Frm_refl _ _ _⟩
theorem opTold_ok {M : MS} {T : List Int32} {p : Pz} {wh : Bool} (h : RQ M T p) : ∃ M', f12_opTold M (bI wh) = some M' ∧ RQ M' T (pOp T wh 42 0 p).2 ∧ Frm [] [2, 4, 5, 6] M M' := by
  obtain ⟨M', g1, g2, g3⟩ := op_loop (wh := wh) 42 FU 0 p M h (by omega) (by omega) (by omega) (by rw [FU_eq]; omega)
  refine ⟨M', ?_, g2, g3⟩
  unfold f12_opTold
  rw [show L12_opTold_4 (bI wh) FU (0 : Int32) (1 : Int32) M = _ from g1, Option.bind_some]
