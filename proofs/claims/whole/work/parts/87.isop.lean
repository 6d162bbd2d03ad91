/-! ===== PART II, the reference: an operation that is right, out of the tape ===== -/
theorem pFail_at (p : Pz) (k q : Nat) : pAt (pFail p k q) = pAt p := by unfold pFail; split <;> rfl
theorem word_le (T : List Int32) (most : Nat) (p : Pz) : (pWord T most p).1 ≤ pAt (pWord T most p).2 := by
  unfold pWord
  split
  · show lkP T (pAt p) ≤ pAt (if _ then _ else _)
    split
    · split
      · show lkP T (pAt p) ≤ lkP T (pAt p) + 0 + _; omega
      · rw [pFail_at]; show lkP T (pAt p) ≤ lkP T (pAt p) + most; omega
    · rw [pFail_at]; exact Nat.le_refl _
  · exact Nat.le_refl _
theorem op_step_ok {T : List Int32} {wh : Bool} {d k : Nat} {p : Pz} (hb : pBd p = 0) (h : pBd (pOp T wh (d + 1) k p).2 = 0) : k ≠ 40 ∧ pBd (pStp T p).2 = 0 := by
  have key : ∀ p1 : Pz, pBd (pStp T p1).2 ≠ 0 → pBd (if byteAt T (pAt ((lkP T (pAt (pStp T p1).2), (pStp T p1).2.2) : Pz)) = -1 ∨ (wh = false ∧ byteAt T (pAt ((lkP T (pAt (pStp T p1).2), (pStp T p1).2.2) : Pz)) = 59) then ([(pStp T p1).1], ((lkP T (pAt (pStp T p1).2), (pStp T p1).2.2) : Pz)) else ((pStp T p1).1 :: (pOp T wh d (k + 1) (lkP T (pAt (pStp T p1).2), (pStp T p1).2.2)).1, (pOp T wh d (k + 1) (lkP T (pAt (pStp T p1).2), (pStp T p1).2.2)).2)).2 ≠ 0 := by
    intro p1 h1
    split
    · exact h1
    · rw [op_bad (show pBd ((lkP T (pAt (pStp T p1).2), (pStp T p1).2.2) : Pz) ≠ 0 from h1)]; exact h1
  rw [pOp, if_pos hb] at h
  dsimp only at h
  by_cases hk : k = 40
  · rw [if_pos hk] at h
    have hbd : pBd (pFail p 5 (pAt p)) ≠ 0 := fail_is (by omega)
    exact absurd h (key _ (by rw [step_bad hbd]; exact hbd))
  · rw [if_neg hk] at h
    refine ⟨hk, ?_⟩
    by_cases hs : pBd (pStp T p).2 = 0
    · exact hs
    · exact absurd h (key _ hs)
theorem op_succ {T : List Int32} {wh : Bool} {d k : Nat} {p : Pz} (hb : pBd p = 0) (hk : k ≠ 40) : pOp T wh (d + 1) k p = (if byteAt T (lkP T (pAt (pStp T p).2)) = -1 ∨ (wh = false ∧ byteAt T (lkP T (pAt (pStp T p).2)) = 59) then ([(pStp T p).1], (lkP T (pAt (pStp T p).2), (pStp T p).2.2)) else ((pStp T p).1 :: (pOp T wh d (k + 1) (lkP T (pAt (pStp T p).2), (pStp T p).2.2)).1, (pOp T wh d (k + 1) (lkP T (pAt (pStp T p).2), (pStp T p).2.2)).2)) := by
  rw [pOp, if_pos hb]
  dsimp only
  rw [if_neg hk]
theorem stp_n (T : List Int32) (p : Pz) : stepN (pStp T p).1 ≤ 99 := by
  unfold pStp
  split
  · exact Nat.zero_le _
  · have := pNum_le T 1 99 (pSign T 45 (pSign T 43 p).2).2 (by omega)
    have e : ∀ (b : Bool) (z : Nat), z ≤ 99 → stepN ((if b then 2 else 0, z, []) : Sv) ≤ 99 := by intro b z hz; cases b <;> exact hz
    exact e _ _ (by omega)
theorem Frm_20 {M M' : MS} {T : List Int32} {p : Pz} (h : RQ M T p) (hf : Frm [20] [25] M M') : RQ M' T p := RQ_same h (fun k hk => hf.1 k (by simp; omega)) (fun k k1 k2 => hf.2.1 k (by simp; omega))
/-- a step is laid -/
theorem lay_step {T : List Int32} {len s : Nat} (hlen : len ≤ 240) (hs : s ≤ 5000) {p : Pz} {M : MS} {acc : List Int32} (h : RQ M T p) (hc : ∃ c, Row M 20 25 c ∧ c.length ≤ 700 ∧ (s ≤ len → c = acc.take 700)) :
    ∃ M', (bn2 (f12_takesSign M 43) fun v1 M2 => if v1 = 0 then (bn2 (f12_takesSign M2 45) fun v6 M7 => (if v6 = 0 then (some (0 : Int32)) else (some (-1))).bind fun v8 => bn2 (f12_number M7 1 99) fun v10 M11 => (L12_isOp_107 ((nI len - nI s) - v10) v8 v10 FU 0 M11).bind fun M12 => some (((nI len - nI s) - v10), M12)) else (bn2 (f12_word M2 20) fun v14 M15 => (L12_isOp_40 (nI len - nI s) FU v14 M15).bind fun M16 => some ((nI len - nI s), M16))) = some (nI len - nI (s + stepN (pStp T p).1), M') ∧ RQ M' T (pStp T p).2 ∧ Frm [20] [2, 4, 5, 6, 25] M M' ∧ ∃ c, Row M' 20 25 c ∧ c.length ≤ 700 ∧ (s + stepN (pStp T p).1 ≤ len → c = (acc ++ stepL (pStp T p).1).take 700) := by
  obtain ⟨c, r1, r2, r3⟩ := hc
  obtain ⟨M2, a1, a2, a3⟩ := RQ_sign (c := 43) h (by decide)
  rw [a1, bn2_s]
  have rA := Row_frm r1 a3 (by decide) (by decide)
  have a3' : Frm [20] [2, 4, 5, 6, 25] M M2 := Frm_mono a3 (by simp) (by simp)
  have m2 : ∀ {X Y : MS}, Frm [20] [25] X Y → Frm [20] [2, 4, 5, 6, 25] X Y := fun hf => Frm_mono hf (by simp) (by simp)
  unfold pStp
  cases hs1 : (pSign T 43 p).1 with
  | true =>
    rw [if_neg (show ¬ bI true = (0 : Int32) from by decide), if_pos rfl]
    obtain ⟨M15, b1, b2, b3⟩ := RQ_word (most := 20) a2 (by omega)
    have rB := Row_frm rA b3 (by decide) (by decide)
    have hw := word_le T 20 (pSign T 43 p).2
    have hT := b2.1.2.2.2.2.2.2.1
    have hat := b2.1.2.2.2.2.2.2.2.1
    obtain ⟨M16, d1, d2, d3, d4⟩ := put_loop (c2 := nI len - nI s) (pAt (pWord T 20 (pSign T 43 p).2).2 - (pWord T 20 (pSign T 43 p).2).1) FU (pWord T 20 (pSign T 43 p).2).1 c M15 _ b2 (by omega) rB r2 (by rw [FU_eq]; omega)
    refine ⟨M16, ?_, d3, Frm_trans a3' (Frm_trans (Frm_mono b3 (by simp) (by simp)) (m2 d4)), _, d2, by rw [List.length_take]; omega, fun hh => ?_⟩
    · rw [show f12_word M2 (20 : Int32) = _ from b1, bn2_s, d1, Option.bind_some]
      rfl
    · rw [r3 hh, take_app]; rfl
  | false =>
    rw [if_pos (show bI false = (0 : Int32) from rfl), if_neg (by decide)]
    obtain ⟨M7, b1, b2, b3⟩ := RQ_sign (c := 45) a2 (by decide)
    rw [b1, bn2_s]
    obtain ⟨M11, e1, e2, e3⟩ := RQ_num (lo := 1) (hi := 99) b2 (by omega) (by omega)
    have hle := pNum_le T 1 99 (pSign T 45 (pSign T 43 p).2).2 (by omega)
    have rB := Row_frm (Row_frm rA b3 (by decide) (by decide)) e3 (by decide) (by decide)
    have fr : Frm [20] [2, 4, 5, 6, 25] M M11 := Frm_trans a3' (Frm_trans (Frm_mono b3 (by simp) (by simp)) (Frm_mono e3 (by simp) (by simp)))
    generalize hz : (pNum T 1 99 (pSign T 45 (pSign T 43 p).2).2).1 = z at *
    have key : ∀ (w : Int32) (K : Nat), K ≠ 1 → stepL (K, z, []) = List.replicate z w → ∃ M', ((some w).bind fun v8 => bn2 (f12_number M7 1 99) fun v10 M11 => (L12_isOp_107 ((nI len - nI s) - v10) v8 v10 FU 0 M11).bind fun M12 => some (((nI len - nI s) - v10), M12)) = some (nI len - nI (s + z), M') ∧ RQ M' T (pNum T 1 99 (pSign T 45 (pSign T 43 p).2).2).2 ∧ Frm [20] [2, 4, 5, 6, 25] M M' ∧ ∃ c, Row M' 20 25 c ∧ c.length ≤ 700 ∧ (s + z ≤ len → c = (acc ++ stepL (K, z, [])).take 700) := by
      intro w K hK hL
      rw [Option.bind_some, show f12_number M7 (1 : Int32) (99 : Int32) = _ from e1, bn2_s, nI_sub2]
      have hd := nI_dif (a := len) (b := s + z) (by omega) (by omega)
      by_cases hn : s + z ≤ len
      · have hneg : ¬ (nI len - nI (s + z)) < 0 := fun hh => by
          have := Int32.lt_iff_toInt_lt.mp hh
          rw [hd, show (0 : Int32).toInt = 0 from by decide] at this
          omega
        obtain ⟨M12, g1, g2, g3⟩ := rep_loop (v := w) hneg (N := z) (by omega) z FU 0 c M11 (by omega) rB r2 (by rw [FU_eq]; omega)
        refine ⟨M12, by rw [show L12_isOp_107 (nI len - nI (s + z)) w (nI z) FU (0 : Int32) M11 = _ from g1, Option.bind_some], Frm_20 e2 g3, Frm_trans fr (m2 g3), _, g2, by rw [List.length_take]; omega, fun _ => ?_⟩
        rw [r3 (by omega), take_app, hL]
      · have hneg : (nI len - nI (s + z)) < 0 := Int32.lt_iff_toInt_lt.mpr (by rw [hd, show (0 : Int32).toInt = 0 from by decide]; omega)
        refine ⟨M11, ?_, e2, fr, c, rB, r2, fun hh => absurd hh hn⟩
        obtain ⟨n, hFU⟩ : ∃ n, FU = n + 1 := ⟨19999, FU_eq⟩
        rw [hFU]
        unfold L12_isOp_107
        by_cases hz0 : nI z ≤ 0
        · rw [if_pos hz0, Option.bind_some]
        · rw [if_neg hz0, if_pos hneg, Option.bind_some]
    cases hs2 : (pSign T 45 (pSign T 43 p).2).1 with
    | false =>
      rw [if_pos (show bI false = (0 : Int32) from rfl), if_neg (by decide)]
      have hst : stepN ((0, z, []) : Sv) = z := rfl
      rw [hst]
      exact key 0 0 (by decide) rfl
    | true =>
      rw [if_neg (show ¬ bI true = (0 : Int32) from by decide), if_pos rfl]
      have hst : stepN ((2, z, []) : Sv) = z := rfl
      rw [hst]
      exact key (-1) 2 (by decide) rfl
theorem isOp_loop {T : List Int32} {wh : Bool} {len : Nat} (hlen : len ≤ 240) : ∀ (d n k : Nat) (p : Pz) (M : MS) (acc : List Int32) (s : Nat), RQ M T p → pBd p = 0 → pBd (pOp T wh d k p).2 = 0 → k + d = 42 → k ≤ 40 → d < n → s ≤ 100 * k → (∃ c, Row M 20 25 c ∧ c.length ≤ 700 ∧ (s ≤ len → c = acc.take 700)) →
    ∃ M', L12_isOp_15 n (nI len - nI s) 1 M = some (nI len - nI (s + stpsN (pOp T wh d k p).1), M') ∧ RQ M' T (pOp T wh d k p).2 ∧ Frm [20] [2, 4, 5, 6, 25] M M' ∧ s + stpsN (pOp T wh d k p).1 ≤ 5000 ∧ ∃ c, Row M' 20 25 c ∧ c.length ≤ 700 ∧ (s + stpsN (pOp T wh d k p).1 ≤ len → c = (acc ++ stpsL (pOp T wh d k p).1).take 700) := by
  intro d
  induction d with
  | zero => intro n k p M acc s h hb ho hk hk1 hn; omega
  | succ d ih =>
    intro n k p M acc s h hb ho hk hk1 hn hs hc
    obtain ⟨n, rfl⟩ : ∃ j, n = j + 1 := ⟨n - 1, by omega⟩
    obtain ⟨hk40, hsb⟩ := op_step_ok hb ho
    have hsn := stp_n T p
    rw [op_succ hb hk40] at ho ⊢
    obtain ⟨M4, a1, a2, a3, ac⟩ := lay_step (len := len) (s := s) (acc := acc) hlen (by omega) h hc
    obtain ⟨M19, l1, l2, l3⟩ := RQ_look a2
    obtain ⟨M24, m1, m2, m3⟩ := RQ_look l2
    dsimp only [pAt] at m1 m2
    rw [lk_lk] at m1 m2
    obtain ⟨c4, ac1, ac2, ac3⟩ := ac
    have l3' : Frm [20] [2, 4, 5, 6, 25] M4 M19 := Frm_mono l3 (by simp) (by simp)
    have m3' : Frm [20] [2, 4, 5, 6, 25] M19 M24 := Frm_mono m3 (by simp) (by simp)
    have r19 := Row_frm ac1 l3 (by decide) (by decide)
    have r24 := Row_frm r19 m3 (by decide) (by decide)
    have hU : L12_isOp_15 (n + 1) (nI len - nI s) 1 M = bn2 (f12_look M4) (fun v18 M19 => bn2 (if v18 = -1 then (some ((0 : Int32), M19)) else (bn2 (f12_look M19) fun v23 M24 => if v23 = 59 then (some ((0 : Int32), M24)) else (some ((1 : Int32), M24)))) fun v20 M21 => L12_isOp_15 n (nI len - nI (s + stepN (pStp T p).1)) v20 M21) := by
      conv => lhs; unfold L12_isOp_15
      rw [if_neg (show ¬ (1 : Int32) = 0 from by decide)]
      obtain ⟨M2, s1, -, -⟩ := RQ_sign (c := 43) h (by decide)
      rw [s1, bn2_s] at a1 ⊢
      rw [a1, bn2_s]
    rw [hU, l1, bn2_s]
    have h0 : ∀ X : MS, ∃ n', n = n' + 1 ∧ L12_isOp_15 n (nI len - nI (s + stepN (pStp T p).1)) 0 X = some (nI len - nI (s + stepN (pStp T p).1), X) := fun X => by
      obtain ⟨n, rfl⟩ : ∃ j, n = j + 1 := ⟨n - 1, by omega⟩
      exact ⟨n, rfl, by unfold L12_isOp_15; rw [if_pos rfl]⟩
    by_cases hc1 : byteAt T (lkP T (pAt (pStp T p).2)) = -1
    · rw [if_pos hc1, bn2_s, if_pos (Or.inl hc1)]
      obtain ⟨n', -, z⟩ := h0 M19
      refine ⟨M19, ?_, l2, Frm_trans a3 l3', ?_, c4, r19, ac2, fun hh => ?_⟩
      · rw [z]; show _ = some (nI len - nI (s + (stepN (pStp T p).1 + 0)), M19); rw [Nat.add_zero]
      · show s + (stepN (pStp T p).1 + 0) ≤ 5000; omega
      · rw [ac3 (by have : s + (stepN (pStp T p).1 + 0) ≤ len := hh; omega)]
        show _ = (acc ++ (stepL (pStp T p).1 ++ [])).take 700
        rw [List.append_nil]
    · rw [if_neg hc1, m1, bn2_s]
      by_cases hc2 : byteAt T (lkP T (pAt (pStp T p).2)) = 59
      · rw [if_pos hc2, bn2_s]
        obtain ⟨n', -, z⟩ := h0 M24
        cases wh with
        | false =>
          rw [if_pos (Or.inr ⟨rfl, hc2⟩)]
          refine ⟨M24, ?_, m2, Frm_trans a3 (Frm_trans l3' m3'), ?_, c4, r24, ac2, fun hh => ?_⟩
          · rw [z]; show _ = some (nI len - nI (s + (stepN (pStp T p).1 + 0)), M24); rw [Nat.add_zero]
          · show s + (stepN (pStp T p).1 + 0) ≤ 5000; omega
          · rw [ac3 (by have : s + (stepN (pStp T p).1 + 0) ≤ len := hh; omega)]
            show _ = (acc ++ (stepL (pStp T p).1 ++ [])).take 700
            rw [List.append_nil]
        | true =>
          rw [if_neg (fun hh => by rcases hh with hh | hh; exact hc1 hh; cases hh.1)] at ho
          obtain ⟨d, rfl⟩ : ∃ j, d = j + 1 := ⟨d - 1, by omega⟩
          obtain ⟨-, o2⟩ := op_step_ok (p := (lkP T (pAt (pStp T p).2), (pStp T p).2.2)) hsb ho
          exact absurd o2 (stp_semi (by dsimp only [pAt]; rw [lk_lk]; exact hc2))
      · have hcc : ¬ (byteAt T (lkP T (pAt (pStp T p).2)) = -1 ∨ (wh = false ∧ byteAt T (lkP T (pAt (pStp T p).2)) = 59)) := fun hh => by rcases hh with hh | hh; exact hc1 hh; exact hc2 hh.2
        rw [if_neg hc2, bn2_s, if_neg hcc]
        rw [if_neg hcc] at ho
        obtain ⟨M', i1, i2, i3, i4, c, i5, i6, i7⟩ := ih n (k + 1) (lkP T (pAt (pStp T p).2), (pStp T p).2.2) M24 (acc ++ stepL (pStp T p).1) (s + stepN (pStp T p).1) m2 hsb ho (by omega) (by omega) (by omega) (by omega) ⟨c4, r24, ac2, ac3⟩
        dsimp only
        rw [stpsN, stpsL, ← Nat.add_assoc, ← List.append_assoc]
        exact ⟨M', i1, i2, Frm_trans a3 (Frm_trans l3' (Frm_trans m3' i3)), i4, c, i5, i6, i7⟩
/-- the operation of these steps, over a text of so many letters -/
def opTo (ss : List Sv) (len : Nat) : List Int32 := settleL (stpsL ss ++ List.replicate (len - stpsN ss) 0)
