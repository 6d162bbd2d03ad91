/-! ===== PART II, the class: the steps of an operation ===== -/
theorem addT_app : ∀ (l m : List Int32) (v : Tm), addT (addT v l) m = addT v (l ++ m) := by
  intro l
  induction l with
  | nil => intro m v; rw [addT_nil]; rfl
  | cons x l ih =>
    intro m v
    rw [← addT_cons, ih, List.cons_append, addT_cons]
def partsS : List Sv → List Int32
  | [] => []
  | s :: l => partL s ++ partsS l
def EndB (wh : Bool) (c : Int32) : Prop := c = -1 ∨ (wh = false ∧ c = 59)
def NB (T : List Int32) : Prop := ∀ j, j < T.length → byteAt T j ≠ -1
theorem ltrs_len {T : List Int32} {i j : Nat} (h : i ≤ j) (hj : j ≤ T.length) : (ltrs T i j).length = j - i := by
  unfold ltrs
  rw [List.length_map, List.length_take, List.length_drop]
  omega
theorem stp_lk {T : List Int32} {p : Pz} (hb : pBd p = 0) : pStp T (lkP T (pAt p), p.2) = pStp T p := by
  have e : pSign T 43 (lkP T (pAt p), p.2) = pSign T 43 p := by
    unfold pSign
    rw [if_pos hb, if_pos (show pBd ((lkP T (pAt p), p.2) : Pz) = 0 from hb), show pAt ((lkP T (pAt p), p.2) : Pz) = lkP T (pAt p) from rfl, lk_lk]
  unfold pStp
  rw [e]
theorem op_lk {T : List Int32} {wh : Bool} {p : Pz} {d : Nat} (hb : pBd p = 0) : pOp T wh (d + 1) 0 (lkP T (pAt p), p.2) = pOp T wh (d + 1) 0 p := by
  have hb2 : pBd ((lkP T (pAt p), p.2) : Pz) = 0 := hb
  rw [op_succ hb2 (by decide), op_succ hb (by decide), stp_lk hb]
section T4
variable {S S' S'' : CS} {z i k q : Nat} {T : List Int32} {v : Tm}
theorem word_R {most : Nat} {p : Pz} (h : PR S z T (pAt p) v) (hb : pBd p = 0) (hu : v.1 ≤ pAt p) (hne : isLt (byteAt T (lkP T (pAt p))) = true → pEd p ≠ some (lkP T (pAt p))) (hm : most ≤ 100) (h1m : 1 ≤ most) : ∃ S' r, cal S 8 (z + 1) (f8_readWord S (z + 1) (nI most)) = some (r, S') ∧ ((r = 1 ∧ OKp z S S' T (pWord T most p).2 (addT v (ltrs T (pWord T most p).1 (pAt (pWord T most p).2))) ∧ pEd (pWord T most p).2 = some (pAt (pWord T most p).2) ∧ v.1 + (ltrs T (pWord T most p).1 (pAt (pWord T most p).2)).length ≤ pAt (pWord T most p).2 ∧ isLt (byteAt T (pAt (pWord T most p).2)) = false ∧ lkP T (pAt p) < pAt (pWord T most p).2) ∨ (r = 0 ∧ BDp z S S' (pWord T most p).2)) := by
  obtain ⟨S', r, r1, r2⟩ := word_P h hu hm h1m
  refine ⟨S', r, r1, ?_⟩
  have hge := lk_ge T (pAt p)
  unfold pWord
  rw [if_pos hb]
  rcases r2 with ⟨e1, e2, e3, e4⟩ | ⟨e1, e2, e3, e4⟩ | ⟨e1, e2, e3⟩
  · rw [if_pos ⟨e2, hne e2⟩, if_pos (by omega)]
    have hz : lkP T (pAt p) + 0 + ltN (T.drop (lkP T (pAt p))) = lkP T (pAt p) + ltN (T.drop (lkP T (pAt p))) := by omega
    rw [hz]
    refine Or.inl ⟨e1, ⟨hb, e4⟩, rfl, ?_, (ltN_end _).1, ?_⟩
    · show v.1 + (ltrs T (lkP T (pAt p)) (lkP T (pAt p) + ltN (T.drop (lkP T (pAt p))))).length ≤ lkP T (pAt p) + ltN (T.drop (lkP T (pAt p)))
      rw [ltrs_len (by omega) e4.1.2.2.2.2.2.2.1]
      omega
    · show lkP T (pAt p) < lkP T (pAt p) + ltN (T.drop (lkP T (pAt p)))
      have := (ltN_pos e2).2
      omega
  · rw [if_pos ⟨e2, hne e2⟩, if_neg (by omega), fail_g1 hb]
    exact Or.inr ⟨e1, BDp_of e4 (by omega) rfl rfl⟩
  · rw [if_neg (fun hh => by rw [e2] at hh; cases hh.1), fail_g1 hb]
    exact Or.inr ⟨e1, BDp_of e3 (by omega) rfl rfl⟩
theorem num_pos {lo hi : Nat} {p : Pz} (h : pBd (pNum T lo hi p).2 = 0) : pEd (pNum T lo hi p).2 = some (pAt (pNum T lo hi p).2) ∧ lkP T (pAt p) < pAt (pNum T lo hi p).2 ∧ (pNum T lo hi p).2.2.2 = p.2.2 := by
  obtain ⟨g1, g2, g3, g4, g5, g6, g7⟩ := num_good h
  rw [g7]
  refine ⟨rfl, ?_, rfl⟩
  show lkP T (pAt p) < lkP T (pAt p) + (scN (T.drop (lkP T (pAt p))) 0 0).2.1
  have hi : lkP T (pAt p) < T.length := Decidable.byContradiction fun hh => by
    rw [byte_end (by omega), lt_n1.2] at g2; cases g2
  rw [drop_byte hi, scN, g2, if_pos rfl, if_neg (by decide)]
  have := (scN_le (T.drop (lkP T (pAt p) + 1)) (0 + 1) (10 * 0 + ((byteAt T (lkP T (pAt p))).toInt - 48).toNat)).2
  omega
theorem readStep_R {p : Pz} (h : PR S z T (pAt p) v) (hb : pBd p = 0) (hu : v.1 ≤ pAt p) (hc : CE T p) (hlk : lkP T (pAt p) = pAt p) : ∃ S' r, cal S 8 (z + 1) (f8_readStep S (z + 1)) = some (r, S') ∧ ((r = 1 ∧ OKp z S S' T (pStp T p).2 (addT v (partL (pStp T p).1)) ∧ pEd (pStp T p).2 = some (pAt (pStp T p).2) ∧ (addT v (partL (pStp T p).1)).1 ≤ pAt (pStp T p).2) ∨ (r = 0 ∧ BDp z S S' (pStp T p).2)) := by
  have hpr := h.2.2.2.2.2.2
  have numPart : ∀ (S2 : CS) (p2 : Pz) (sg : Bool), PR S2 z T (pAt p2) v → pBd p2 = 0 → CE T p2 → v.1 ≤ pAt p2 → ∃ S' r, (bn2 (cal S2 8 (z + 1) (f8_readDigits S2 (z + 1) 1 99)) fun v6 S7 => if v6 = -1 then some ((0 : Int32), S7) else ((if (if sg then (45 : Int32) else 0) = 45 then some (-v6) else some (31 + v6)).bind fun v8 => (cal S7 8 (z + 1) (f8_addPart S7 (z + 1) v8)).bind fun S10 => some ((1 : Int32), S10))) = some (r, S') ∧ ((r = 1 ∧ OKp z S2 S' T (pNum T 1 99 p2).2 (addT v (partL (if sg then 2 else 0, (pNum T 1 99 p2).1, []))) ∧ (addT v (partL (if sg then 2 else 0, (pNum T 1 99 p2).1, []))).1 ≤ pAt (pNum T 1 99 p2).2) ∨ (r = 0 ∧ BDp z S2 S' (pNum T 1 99 p2).2)) := by
    intro S2 p2 sg h2 hb2 hc2 hu2
    obtain ⟨S7, r, r1, r2⟩ := num_R (lo := 1) (hi := 99) h2 hb2 hc2 (by omega) (by omega)
    rw [show cal S2 8 (z + 1) (f8_readDigits S2 (z + 1) 1 99) = some (r, S7) from r1, bn2_s]
    rcases r2 with ⟨rfl, ⟨e1, e2⟩, e3, e4⟩ | ⟨rfl, e1⟩
    · obtain ⟨q1, q2, q3⟩ := num_pos e1
      have hge := lk_ge T (pAt p2)
      have hle := e2.1.2.2.2.2.2.2
      rw [if_neg (show ¬ nI (pNum T 1 99 p2).1 = (-1 : Int32) from fun hh => by
        have h3 := is1.mp hh
        rw [nI_toInt (by omega)] at h3
        omega)]
      have hx : ∃ x, (if (if sg then (45 : Int32) else 0) = 45 then some (-(nI (pNum T 1 99 p2).1)) else some (31 + nI (pNum T 1 99 p2).1)) = some x ∧ partL (if sg then 2 else 0, (pNum T 1 99 p2).1, []) = [x] := by
        cases sg with
        | true => exact ⟨_, rfl, rfl⟩
        | false => exact ⟨nI (31 + (pNum T 1 99 p2).1), by rw [show (31 : Int32) = nI 31 from rfl, nI_add]; rfl, rfl⟩
      obtain ⟨x, x1, x2⟩ := hx
      obtain ⟨S10, y1, y2⟩ := add_P (x := x) e2.1 (by omega)
      rw [x1, Option.bind_some, y1, Option.bind_some, x2]
      have hv : (v.1 + 1, v.2.1, v.2.2.1, v.2.2.2.1, upd v.2.2.2.2.1 v.1 x, v.2.2.2.2.2) = addT v [x] := by rw [← addT_cons, addT_nil]
      rw [hv] at y2
      refine ⟨S10, 1, rfl, Or.inl ⟨rfl, ⟨e1, OK8_tr e2 y2⟩, ?_⟩⟩
      show v.1 + 1 ≤ _
      omega
    · rw [if_pos rfl]
      exact ⟨S7, 0, rfl, Or.inr ⟨rfl, e1⟩⟩
  rw [cal_k (PR_k h)]
  unfold f8_readStep
  rw [look_P h, Option.bind_some]
  by_cases c1 : byteAt T (pAt p) = 43
  · have hi : pAt p < T.length := Decidable.byContradiction fun hh => by
      rw [byte_end (by omega)] at c1; exact absurd c1 (by decide)
    have h3 := PR_at (i' := pAt p + 1) h (by omega)
    have hs := sign_yes (c := 43) hb (by rw [hlk]; exact c1)
    rw [hlk] at hs
    obtain ⟨S14, r, r1, r2⟩ := word_R (most := 20) (p := (pAt p + 1, p.2)) h3.1 hb (by show v.1 ≤ pAt p + 1; omega) (fun _ he => by
      have := (hc _ he).1
      have := lk_ge T (pAt p + 1)
      have e : lkP T (pAt ((pAt p + 1, p.2) : Pz)) = lkP T (pAt p + 1) := rfl
      omega) (by omega) (by omega)
    have hp : pStp T p = ((1, 0, ltrs T (pWord T 20 (pAt p + 1, p.2)).1 (pAt (pWord T 20 (pAt p + 1, p.2)).2)), (pWord T 20 (pAt p + 1, p.2)).2) := by
      unfold pStp
      rw [hs, if_pos rfl]
    rw [if_pos c1, gi_P h, Option.bind_some, nI_1, pi_k (PR_k h), Option.bind_some, show cal (setI S (z + 1) 11 (nI (pAt p + 1))) 8 (z + 1) (f8_readWord (setI S (z + 1) 11 (nI (pAt p + 1))) (z + 1) 20) = some (r, S14) from r1, bn2_s, hp]
    rcases r2 with ⟨rfl, ⟨e1, e2⟩, e3, e4, _⟩ | ⟨rfl, e⟩
    · exact ⟨S14, 1, rfl, Or.inl ⟨rfl, ⟨e1, OK8_tr h3 e2⟩, e3, e4⟩⟩
    · exact ⟨S14, 0, rfl, Or.inr ⟨rfl, BDp_tr h3 e⟩⟩
  · have hs := sign_no (c := 43) hb (by rw [hlk]; exact c1)
    rw [hlk] at hs
    rw [if_neg c1]
    by_cases c2 : byteAt T (pAt p) = 45
    · have hi : pAt p < T.length := Decidable.byContradiction fun hh => by
        rw [byte_end (by omega)] at c2; exact absurd c2 (by decide)
      have h3 := PR_at (i' := pAt p + 1) h (by omega)
      have hs2 := sign_yes (c := 45) (p := (pAt p, p.2)) hb (by rw [show pAt ((pAt p, p.2) : Pz) = pAt p from rfl, hlk]; exact c2)
      rw [show pAt ((pAt p, p.2) : Pz) = pAt p from rfl, hlk] at hs2
      have hp : pStp T p = ((2, (pNum T 1 99 (pAt p + 1, p.2)).1, []), (pNum T 1 99 (pAt p + 1, p.2)).2) := by
        unfold pStp
        rw [hs, if_neg (fun hh => Bool.noConfusion hh), hs2]
        rfl
      obtain ⟨S', r, r1, r2⟩ := numPart (setI S (z + 1) 11 (nI (pAt p + 1))) (pAt p + 1, p.2) true h3.1 hb (fun x hx => by
        have := (hc x hx).1
        have := lk_ge T (pAt p + 1)
        exact ⟨by show x ≤ pAt p + 1; omega, fun e => by
          have e : x = lkP T (pAt p + 1) := e
          omega⟩) (by show v.1 ≤ pAt p + 1; omega)
      have r1' := r1
      simp only [if_true] at r1'
      rw [c2, if_pos rfl, gi_P h, Option.bind_some, nI_1, pi_k (PR_k h), Option.bind_some, Option.bind_some, hp]
      refine ⟨S', r, ?_, ?_⟩
      · simpa using r1'
      · rcases r2 with ⟨rfl, ⟨e1, e2⟩, e4⟩ | ⟨rfl, e⟩
        · exact Or.inl ⟨rfl, ⟨e1, OK8_tr h3 e2⟩, (num_pos e1).1, e4⟩
        · exact Or.inr ⟨rfl, BDp_tr h3 e⟩
    · have hs2 := sign_no (c := 45) (p := (pAt p, p.2)) hb (by rw [show pAt ((pAt p, p.2) : Pz) = pAt p from rfl, hlk]; exact c2)
      rw [show pAt ((pAt p, p.2) : Pz) = pAt p from rfl, hlk] at hs2
      have hp : pStp T p = ((0, (pNum T 1 99 p).1, []), (pNum T 1 99 p).2) := by
        unfold pStp
        rw [hs, if_neg (fun hh => Bool.noConfusion hh), hs2]
        rfl
      obtain ⟨S', r, r1, r2⟩ := numPart S p false h hb hc hu
      rw [if_neg c2, Option.bind_some, hp]
      refine ⟨S', r, ?_, ?_⟩
      · rw [← r1]
        congr 1
        funext v6 S7
        by_cases hv : v6 = -1
        · rw [if_pos hv, if_pos hv]
        · rw [if_neg hv, if_neg hv, if_neg c2, if_neg (show ¬ (if false = true then (45 : Int32) else 0) = 45 by decide)]
      · rcases r2 with ⟨rfl, ⟨e1, e2⟩, e4⟩ | ⟨rfl, e⟩
        · exact Or.inl ⟨rfl, ⟨e1, e2⟩, (num_pos e1).1, e4⟩
        · exact Or.inr ⟨rfl, e⟩
/-- no step stands there -/
theorem stp_no {p : Pz} (hb : pBd p = 0) (h : isSt (byteAt T (lkP T (pAt p))) = false) : pBd (pStp T p).2 = 1 ∧ pBp (pStp T p).2 = some (lkP T (pAt p)) ∧ pAt (pStp T p).2 = lkP T (pAt p) := by
  unfold isSt at h
  simp only [Bool.or_eq_false_iff, decide_eq_false_iff_not] at h
  obtain ⟨h1, h2, h3⟩ := h
  have hs := sign_no (c := 43) hb h2
  have hs2 := sign_no (c := 45) (p := (lkP T (pAt p), p.2)) hb (by rw [show pAt ((lkP T (pAt p), p.2) : Pz) = lkP T (pAt p) from rfl, lk_lk]; exact h3)
  rw [show pAt ((lkP T (pAt p), p.2) : Pz) = lkP T (pAt p) from rfl, lk_lk] at hs2
  have hp : (pStp T p).2 = (pNum T 1 99 (lkP T (pAt p), p.2)).2 := by
    unfold pStp
    rw [hs, if_neg (fun hh => Bool.noConfusion hh), hs2]
  rw [hp]
  unfold pNum
  rw [if_pos (show pBd ((lkP T (pAt p), p.2) : Pz) = 0 from hb), show pAt ((lkP T (pAt p), p.2) : Pz) = lkP T (pAt p) from rfl, lk_lk, if_neg (fun hh => by rw [h1] at hh; cases hh.1), fail_g1 (p := (lkP T (pAt p), p.2)) hb]
  exact ⟨rfl, rfl, rfl⟩
end T4
