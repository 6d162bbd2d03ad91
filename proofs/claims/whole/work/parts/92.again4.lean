/-! ===== PART II, the reference: a statement stands, a statement is done ===== -/
theorem RW_same {M M' : MS} {cnt ties : Nat} {W : Wd} (h : RW M cnt ties W) (ha : ∀ k, (k = 30 ∨ (36 ≤ k ∧ k ≤ 40)) → M'.2.1 k = M.2.1 k) (h32 : M'.1 32 = M.1 32) (h33 : M'.1 33 = M.1 33) : RW M' cnt ties W := by
  obtain ⟨w1, w2, w3, w4, w5, w6, w7, w8⟩ := h
  have e := ha 30 (by omega)
  refine ⟨by rw [h32]; exact w1, by rw [h33]; exact w2, by rw [e]; exact w3, by rw [e]; exact w4, by rw [e]; exact w5, by rw [e]; exact w6, ?_, fun i hi => by rw [e]; exact w8 i hi⟩
  intro i o ho
  rw [ha 36 (by omega), ha 37 (by omega), ha 38 (by omega), ha 39 (by omega), ha 40 (by omega)]
  exact w7 i o ho
theorem tk_ok {T : List Int32} {q : Pz} {a : Nat} (hf : free q a) {M0 : MS} {q0 : Pz} (j : Nat) (h : RQ M0 T q0) (hq : q0 = q ∨ q0 = (lkP T a, q.2)) (j1 : 1 ≤ j) (j8 : j ≤ 8) : ∃ M', f12_takes M0 (11 + j) = some (bI (decide (kindAt T a = j)), M') ∧ RQ M' T (if kindAt T a = j then rdr T (kwL (11 + j)) a else (lkP T a, q.2)) ∧ Frm [] [2, 4, 5, 6] M0 M' := by
  obtain ⟨M', a1, a2, a3⟩ := RQ_take (11 + j) h (by omega) (by omega)
  have t : pTake T (kwL (11 + j)) q0 = if kindAt T a = j then (true, rdr T (kwL (11 + j)) a) else (false, (lkP T a, q.2)) := by
    rcases hq with rfl | rfl
    · rw [take_free hf, here_kind j1 j8]
      by_cases hk : kindAt T a = j
      · rw [decide_eq_true hk, if_pos hk]; rfl
      · rw [decide_eq_false hk, if_neg hk]; rfl
    · rw [take_free (free_lk hf), here_lk, here_kind j1 j8, rdr_lk, lk_lk]
      by_cases hk : kindAt T a = j
      · rw [decide_eq_true hk, if_pos hk]; rfl
      · rw [decide_eq_false hk, if_neg hk]; rfl
  rw [t] at a1 a2
  by_cases hk : kindAt T a = j
  · rw [if_pos hk] at a1 a2 ⊢
    rw [decide_eq_true hk]
    exact ⟨M', a1, a2, a3⟩
  · rw [if_neg hk] at a1 a2 ⊢
    rw [decide_eq_false hk]
    exact ⟨M', a1, a2, a3⟩
theorem rest_end {T : List Int32} {cnt k : Nat} {w : List Int32} {a : Nat} (hok : pBd (restK T cnt k (rdr T w a)).2 = 0) : (restK T cnt k (rdr T w a)).2.2.2 = (0, none) ∧ ∀ x, pEd (restK T cnt k (rdr T w a)).2 = some x → x ≤ pAt (restK T cnt k (rdr T w a)).2 := by
  obtain ⟨a1, a2, a3, a4⟩ := okR_rest hok
  refine ⟨a3, fun x hx => ?_⟩
  rcases a4 x hx with h | h
  · exact h
  · have h' : some (pAt (rdr T w a)) = some x := h
    have := Option.some.inj h'
    omega
theorem isLaid_ok {M : MS} {T : List Int32} {q : Pz} {a cnt ties tl : Nat} {W : Wd} (h : RQ M T q) (hf : free q a) (h43 : M.1 43 = nI cnt) (hc : 1 ≤ cnt) (hW : RW M cnt ties W) (hg : Good cnt ties tl W) (hk : kindAt T a ≠ 0) (hok : pBd (restK T cnt (kindAt T a) (rdr T (kwL (11 + kindAt T a)) a)).2 = 0) :
    ∃ M' q', f12_isLaid M = some M' ∧ RQ M' T q' ∧ q'.2.2 = (0, none) ∧ (∀ x, pEd q' = some x → x ≤ pAt q') ∧ (pAt q' = lkP T a ∨ q' = (restK T cnt (kindAt T a) (rdr T (kwL (11 + kindAt T a)) a)).2) ∧ RW M' cnt (laidS (ties, W) (restK T cnt (kindAt T a) (rdr T (kwL (11 + kindAt T a)) a)).1).1 (laidS (ties, W) (restK T cnt (kindAt T a) (rdr T (kwL (11 + kindAt T a)) a)).1).2 ∧ FN [] [2, 4, 5, 6, 33] (fun _ => True) M M' := by
  have hc4 := hg.1
  obtain ⟨-, k1, k8⟩ := kind_is hk
  obtain ⟨rE1, rE2⟩ := rest_end hok
  have fT : ∀ {X Y : MS}, Frm [] [2, 4, 5, 6] X Y → FN [] [2, 4, 5, 6, 33] (fun _ => True) X Y := fun hx => FN_Frm hx List.not_mem_nil (by simp) (by simp)
  obtain ⟨M2, a1, a2, a3⟩ := tk_ok hf 1 h (Or.inl rfl) (by omega) (by omega)
  have w2 := RW_read hW a3
  unfold f12_isLaid
  rw [show f12_takes M 12 = _ from a1, bn2_s]
  by_cases c1 : kindAt T a = 1
  · rw [c1] at hok rE1 rE2 ⊢
    rw [if_pos c1] at a2
    rw [decide_eq_true (show 1 = 1 from rfl), if_neg (show ¬ bI true = (0 : Int32) from by decide)]
    obtain ⟨M10, b1, b2, b3, b4⟩ := RQ_edT a2 (by rw [a3.2.1 43 (by decide)]; exact h43) hc (by omega)
    obtain ⟨M13, d1, d2, d3⟩ := RQ_num (lo := 0) (hi := 9) b2 (by omega) (by omega)
    have hok' : pBd (pNum T 0 9 (pNum T 0 (cnt - 1) (rdr T (kwL (11 + 1)) a)).2).2 = 0 := hok
    have g1 := num_good hok'
    have g2 := num_good (num_bd hok')
    have he : (pNum T 0 (cnt - 1) (rdr T (kwL (11 + 1)) a)).1 < cnt := by rw [g2.2.2.2.2.2.2]; have := g2.2.2.2.2.2.1; dsimp only; omega
    have hn9 : (pNum T 0 9 (pNum T 0 (cnt - 1) (rdr T (kwL (11 + 1)) a)).2).1 ≤ 9 := by rw [g1.2.2.2.2.2.2]; exact g1.2.2.2.2.2.1
    have w13 := RW_read (RW_read w2 b3) d3
    generalize hee : (pNum T 0 (cnt - 1) (rdr T (kwL (11 + 1)) a)).1 = e at *
    generalize hnn : (pNum T 0 9 (pNum T 0 (cnt - 1) (rdr T (kwL (11 + 1)) a)).2).1 = n at *
    have hB := Good_Bd hg he
    refine ⟨sR M13 30 (upd (M13.2.1 30) (4 + 2618 * e + 16) (nI n)), (restK T cnt 1 (rdr T (kwL (11 + 1)) a)).2, ?_, RQ_same d2 (fun k hk => sR_ne _ _ (by omega)) (fun _ _ _ => rfl), rE1, rE2, Or.inr rfl, ?_, ?_⟩
    · rw [b1, bn2_s, show f12_of (nI e) (16 : Int32) = _ from of_ok e 16, Option.bind_some, show f12_number M10 (0 : Int32) (9 : Int32) = _ from d1, bn2_s, sd_n (show 4 + 2618 * e + 16 < 10476 by omega), Option.bind_some, Option.bind_some]
    · have e1 : (laidS (ties, W) (restK T cnt 1 (rdr T (kwL (11 + 1)) a)).1) = (ties, setE W (pNum T 0 (cnt - 1) (rdr T (kwL (11 + 1)) a)).1 (sDel (wE W (pNum T 0 (cnt - 1) (rdr T (kwL (11 + 1)) a)).1) (pNum T 0 9 (pNum T 0 (cnt - 1) (rdr T (kwL (11 + 1)) a)).2).1)) := rfl
      rw [e1, hee, hnn]
      exact set_headW w13 hg he (fun j hj => upd_ne _ _ (by omega)) (REh_del (w13.2.2.2.2.2.2.2 e he).1 hB.2.1) rfl rfl rfl rfl rfl rfl rfl rfl
    · exact FN_trans (fT a3) (FN_trans (fT b3) (FN_trans (fT d3) (FN_now (fun j hj => absurd trivial hj))))
  · rw [if_neg c1] at a2
    rw [decide_eq_false c1, if_pos (show bI false = (0 : Int32) from rfl)]
    obtain ⟨M6, b1, b2, b3⟩ := tk_ok hf 2 a2 (Or.inr rfl) (by omega) (by omega)
    have w6 := RW_read w2 b3
    rw [show f12_takes M2 13 = _ from b1, bn2_s]
    by_cases c2 : kindAt T a = 2
    · rw [c2] at hok rE1 rE2 ⊢
      rw [if_pos c2] at b2
      rw [decide_eq_true (show 2 = 2 from rfl), if_neg (show ¬ bI true = (0 : Int32) from by decide)]
      obtain ⟨M8, d1, d2, d3⟩ := RQ_num (lo := 0) (hi := 2) b2 (by omega) (by omega)
      have w8 := RW_read w6 d3
      refine ⟨sF M8 33 (nI (pNum T 0 2 (rdr T (kwL (11 + 2)) a)).1), (restK T cnt 2 (rdr T (kwL (11 + 2)) a)).2, ?_, RQ_F d2 (by omega), rE1, rE2, Or.inr rfl, ?_, ?_⟩
      · rw [show f12_number M6 (0 : Int32) (2 : Int32) = _ from d1, bn2_s, Option.bind_some]
      · obtain ⟨v1, v2, v3⟩ := w8
        exact ⟨by rw [sF_ne _ _ (by decide)]; exact v1, by rw [sF_get]; rfl, v3⟩
      · exact FN_trans (fT a3) (FN_trans (fT b3) (FN_trans (fT d3) (FN_sF (by decide))))
    · rw [if_neg c2] at b2
      rw [decide_eq_false c2, if_pos (show bI false = (0 : Int32) from rfl), Option.bind_some]
      refine ⟨M6, (lkP T a, q.2), rfl, b2, hf.2.1, fun x hx => ?_, Or.inl rfl, ?_, FN_trans (fT a3) (fT b3)⟩
      · have := hf.2.2 x hx; have := lk_ge T a; show x ≤ lkP T a; omega
      · have e1 : (laidS (ties, W) (restK T cnt (kindAt T a) (rdr T (kwL (11 + kindAt T a)) a)).1) = (ties, W) := by
          have hs : (restK T cnt (kindAt T a) (rdr T (kwL (11 + kindAt T a)) a)).1.1 = kindAt T a := by
            unfold restK
            rcases (show kindAt T a = 3 ∨ kindAt T a = 4 ∨ kindAt T a = 5 ∨ kindAt T a = 6 ∨ kindAt T a = 7 ∨ kindAt T a = 8 by omega) with hh | hh | hh | hh | hh | hh <;> rw [hh] <;> rfl
          unfold laidS
          rw [hs, if_neg c1, if_neg c2]
        rw [e1]; exact w6
