/-! ===== PART II, the reference: a statement is done, all of them are gone over ===== -/
theorem bI_neg {P : Prop} [Decidable P] (h : ¬ P) : (if bI (decide P) = 0 then (1 : Nat) else 0) = 1 := by rw [decide_eq_false h]; rfl
theorem isDone_ok {M : MS} {T : List Int32} {q : Pz} {a cnt ties tl : Nat} {W : Wd} (h : RQ M T q) (hf : free q a) (h43 : M.1 43 = nI cnt) (hc : 1 ≤ cnt) (hW : RW M cnt ties W) (hg : Good cnt ties tl W) (htk : wTk W ≤ 999) (hk : kindAt T a ≠ 0) (hok : pBd (restK T cnt (kindAt T a) (rdr T (kwL (11 + kindAt T a)) a)).2 = 0) :
    ∃ M' q', f12_isDone M = some M' ∧ RQ M' T q' ∧ q'.2.2 = (0, none) ∧ (∀ x, pEd q' = some x → x ≤ pAt q') ∧ (pAt q' = lkP T a ∨ q' = (restK T cnt (kindAt T a) (rdr T (kwL (11 + kindAt T a)) a)).2) ∧ RW M' cnt ties (doneS cnt ties W (restK T cnt (kindAt T a) (rdr T (kwL (11 + kindAt T a)) a)).1) ∧ Good cnt ties tl (doneS cnt ties W (restK T cnt (kindAt T a) (rdr T (kwL (11 + kindAt T a)) a)).1) ∧ FN AsD FsD (fun _ => True) M M' := by
  have hc4 := hg.1
  obtain ⟨-, k1, k8⟩ := kind_is hk
  obtain ⟨rE1, rE2⟩ := rest_end hok
  have q43 : ∀ {X : MS}, Frm [] [2, 4, 5, 6] M X → X.1 43 = nI cnt := fun hx => by rw [hx.2.1 43 (by decide)]; exact h43
  obtain ⟨M2, a1, a2, a3⟩ := tk_ok hf 3 h (Or.inl rfl) (by omega) (by omega)
  unfold f12_isDone
  rw [show f12_takes M 14 = _ from a1, bn2_s]
  by_cases c3 : kindAt T a = 3
  · rw [c3] at hok rE1 rE2 ⊢
    rw [if_pos c3] at a2
    rw [decide_eq_true (show 3 = 3 from rfl), if_neg (show ¬ bI true = (0 : Int32) from by decide)]
    obtain ⟨M49, b1, b2, b3, b4⟩ := RQ_edT a2 (q43 a3) hc (by omega)
    have hok' : pBd (pOp T false 42 0 (pNum T 0 (cnt - 1) (rdr T (kwL (11 + 3)) a)).2).2 = 0 := hok
    have he := (num_in (op_bd hok')).2
    obtain ⟨M', d1, d2, d3, d4, d5⟩ := done_op b2 (op_bd hok') hok' (RW_read (RW_read hW a3) b3) hg (e := (pNum T 0 (cnt - 1) (rdr T (kwL (11 + 3)) a)).1) (by omega)
    refine ⟨M', (restK T cnt 3 (rdr T (kwL (11 + 3)) a)).2, ?_, d2, rE1, rE2, Or.inr rfl, d3, d4, FN_trans (fnD a3) (FN_trans (fnD b3) d5)⟩
    rw [b1, bn2_s, d1, Option.bind_some]
  rw [if_neg c3] at a2
  rw [decide_eq_false c3, if_pos (show bI false = (0 : Int32) from rfl)]
  obtain ⟨M6, b1, b2, b3⟩ := tk_ok hf 4 a2 (Or.inr rfl) (by omega) (by omega)
  have f6 := Frm_trans a3 b3
  rw [show f12_takes M2 15 = _ from b1, bn2_s]
  by_cases c4 : kindAt T a = 4
  · rw [c4] at hok rE1 rE2 ⊢
    rw [if_pos c4] at b2
    rw [decide_eq_true (show 4 = 4 from rfl), if_neg (show ¬ bI true = (0 : Int32) from by decide)]
    obtain ⟨M40, d1, d2, d3, d4⟩ := RQ_edT b2 (q43 f6) hc (by omega)
    obtain ⟨M42, i1, i2, i3⟩ := RQ_num (lo := 0) (hi := 99) d2 (by omega) (by omega)
    have hok' : pBd (pNum T 0 99 (pNum T 0 (cnt - 1) (rdr T (kwL (11 + 4)) a)).2).2 = 0 := hok
    have hn := (num_in hok').2
    have he := (num_in (num_bd hok')).2
    have w42 := RW_read (RW_read (RW_read hW f6) d3) i3
    have f42 := Frm_trans f6 (Frm_trans d3 i3)
    have eS : doneS cnt ties W (restK T cnt 4 (rdr T (kwL (11 + 4)) a)).1 = if (pNum T 0 99 (pNum T 0 (cnt - 1) (rdr T (kwL (11 + 4)) a)).2).1 ≤ (eTxt (wE W (pNum T 0 (cnt - 1) (rdr T (kwL (11 + 4)) a)).1)).length then setE W (pNum T 0 (cnt - 1) (rdr T (kwL (11 + 4)) a)).1 (sCur (wE W (pNum T 0 (cnt - 1) (rdr T (kwL (11 + 4)) a)).1) (pNum T 0 99 (pNum T 0 (cnt - 1) (rdr T (kwL (11 + 4)) a)).2).1) else W := rfl
    rw [eS]
    rw [d1, bn2_s, show f12_number M40 (0 : Int32) (99 : Int32) = _ from i1, bn2_s]
    have i2' : RQ M42 T (restK T cnt 4 (rdr T (kwL (11 + 4)) a)).2 := i2
    generalize (pNum T 0 99 (pNum T 0 (cnt - 1) (rdr T (kwL (11 + 4)) a)).2).1 = n at *
    generalize (pNum T 0 (cnt - 1) (rdr T (kwL (11 + 4)) a)).1 = e at *
    have hel : e < cnt := by omega
    have hB := Good_Bd hg hel
    have hb1 := hB.1
    rw [rw_its w42 hg hel, Option.bind_some]
    by_cases hle : n ≤ (eTxt (wE W e)).length
    · rw [if_neg (nI_nlt hle (by omega)), if_pos hle]
      obtain ⟨-, e2, -, -, -, -, -, -, -, -, -, -, -, -, -, -, e17, e18, e19⟩ := hg.2.2.2.2.2.2.2.2 e hel
      refine ⟨sR M42 30 (upd (M42.2.1 30) (4 + 2618 * e + 1) (nI n)), (restK T cnt 4 (rdr T (kwL (11 + 4)) a)).2, ?_, RQ_same i2' (fun k hk => sR_ne _ _ (by omega)) (fun _ _ _ => rfl), rE1, rE2, Or.inr rfl, ?_, ?_, ?_⟩
      · rw [show f12_of (nI e) (1 : Int32) = _ from of_ok e 1, Option.bind_some, sd_n (show 4 + 2618 * e + 1 < 10476 by omega), Option.bind_some, Option.bind_some, Option.bind_some]
      · exact set_headW w42 hg hel (fun j hj => upd_ne _ _ (by omega)) (REh_cur (w42.2.2.2.2.2.2.2 e hel).1 hB.2.1) rfl rfl rfl rfl rfl rfl rfl rfl
      · exact Good_head hg hel rfl e2 hle e18 e19
      · exact FN_trans (fnD f42) (FN_now (fun j hj => absurd trivial hj))
    · rw [if_pos (nI_lt (by omega) (by omega)), if_neg hle, Option.bind_some, Option.bind_some]
      exact ⟨M42, _, rfl, i2', rE1, rE2, Or.inr rfl, w42, hg, fnD f42⟩
  rw [if_neg c4] at b2
  rw [decide_eq_false c4, if_pos (show bI false = (0 : Int32) from rfl)]
  obtain ⟨M8, d1, d2, d3⟩ := tk_ok hf 5 b2 (Or.inr rfl) (by omega) (by omega)
  have f8 := Frm_trans f6 d3
  rw [show f12_takes M6 16 = _ from d1, bn2_s]
  by_cases c5 : kindAt T a = 5
  · rw [c5] at hok rE1 rE2 ⊢
    rw [if_pos c5] at d2
    rw [decide_eq_true (show 5 = 5 from rfl), if_neg (show ¬ bI true = (0 : Int32) from by decide)]
    obtain ⟨M28, i1, i2, i3, i4⟩ := RQ_edT d2 (q43 f8) hc (by omega)
    obtain ⟨M30, j1, j2, j3⟩ := RQ_num (lo := 0) (hi := 99) i2 (by omega) (by omega)
    obtain ⟨M32, l1, l2, l3⟩ := RQ_num (lo := 0) (hi := 99) j2 (by omega) (by omega)
    obtain ⟨M34, m1, m2, m3⟩ := RQ_num (lo := 0) (hi := 3) l2 (by omega) (by omega)
    have hok' : pBd (pNum T 0 3 (pNum T 0 99 (pNum T 0 99 (pNum T 0 (cnt - 1) (rdr T (kwL (11 + 5)) a)).2).2).2).2 = 0 := hok
    have hg3 := (num_in hok').2
    have hto := (num_in (num_bd hok')).2
    have hfr := (num_in (num_bd (num_bd hok'))).2
    have he := (num_in (num_bd (num_bd (num_bd hok')))).2
    have f34 := Frm_trans f8 (Frm_trans i3 (Frm_trans j3 (Frm_trans l3 m3)))
    have w34 := RW_read hW f34
    have eS : doneS cnt ties W (restK T cnt 5 (rdr T (kwL (11 + 5)) a)).1 = if (eMks (wE W (pNum T 0 (cnt - 1) (rdr T (kwL (11 + 5)) a)).1)).length < 4 ∧ (pNum T 0 99 (pNum T 0 (cnt - 1) (rdr T (kwL (11 + 5)) a)).2).1 ≤ (pNum T 0 99 (pNum T 0 99 (pNum T 0 (cnt - 1) (rdr T (kwL (11 + 5)) a)).2).2).1 ∧ (pNum T 0 99 (pNum T 0 99 (pNum T 0 (cnt - 1) (rdr T (kwL (11 + 5)) a)).2).2).1 ≤ (eTxt (wE W (pNum T 0 (cnt - 1) (rdr T (kwL (11 + 5)) a)).1)).length then setE W (pNum T 0 (cnt - 1) (rdr T (kwL (11 + 5)) a)).1 (addM (wE W (pNum T 0 (cnt - 1) (rdr T (kwL (11 + 5)) a)).1) (pNum T 0 99 (pNum T 0 (cnt - 1) (rdr T (kwL (11 + 5)) a)).2).1 (pNum T 0 99 (pNum T 0 99 (pNum T 0 (cnt - 1) (rdr T (kwL (11 + 5)) a)).2).2).1 (pNum T 0 3 (pNum T 0 99 (pNum T 0 99 (pNum T 0 (cnt - 1) (rdr T (kwL (11 + 5)) a)).2).2).2).1) else W := rfl
    rw [eS, i1, bn2_s, show f12_number M28 (0 : Int32) (99 : Int32) = _ from j1, bn2_s, show f12_number M30 (0 : Int32) (99 : Int32) = _ from l1, bn2_s, show f12_number M32 (0 : Int32) (3 : Int32) = _ from m1, bn2_s]
    have m2' : RQ M34 T (restK T cnt 5 (rdr T (kwL (11 + 5)) a)).2 := m2
    generalize (pNum T 0 3 (pNum T 0 99 (pNum T 0 99 (pNum T 0 (cnt - 1) (rdr T (kwL (11 + 5)) a)).2).2).2).1 = g at *
    generalize (pNum T 0 99 (pNum T 0 99 (pNum T 0 (cnt - 1) (rdr T (kwL (11 + 5)) a)).2).2).1 = t at *
    generalize (pNum T 0 99 (pNum T 0 (cnt - 1) (rdr T (kwL (11 + 5)) a)).2).1 = fr at *
    generalize (pNum T 0 (cnt - 1) (rdr T (kwL (11 + 5)) a)).1 = e at *
    have hel : e < cnt := by omega
    rw [canMark_rw w34 hg hel (by omega) (by omega), Option.bind_some]
    by_cases hm : (eMks (wE W e)).length < 4 ∧ fr ≤ t ∧ t ≤ (eTxt (wE W e)).length
    · rw [if_pos hm, if_neg (show ¬ (1 : Int32) = 0 from by decide), if_pos hm]
      obtain ⟨-, e2, -, -, -, -, -, -, -, -, -, -, -, -, -, -, e17, e18, e19⟩ := hg.2.2.2.2.2.2.2.2 e hel
      obtain ⟨F, n1, n2⟩ := marked_rw (f := fr) (t := t) (g := g) w34 hg hel hm.1
      refine ⟨sR M34 30 F, _, by rw [n1, Option.bind_some, Option.bind_some, Option.bind_some], RQ_same m2' (fun k hk => sR_ne _ _ (by omega)) (fun _ _ _ => rfl), rE1, rE2, Or.inr rfl, n2, ?_, FN_trans (fnD f34) (FN_now (fun j hj => absurd trivial hj))⟩
      refine Good_head hg hel rfl e2 e17 ?_ (fun x hx => ?_)
      · show (eMks (wE W e) ++ [(fr, t, g)]).length ≤ 4
        rw [List.length_append, List.length_singleton]; omega
      · have hx' : x ∈ eMks (wE W e) ++ [(fr, t, g)] := hx
        rcases List.mem_append.mp hx' with hx | hx
        · exact e19 x hx
        · rw [List.mem_singleton.mp hx]; exact ⟨hm.2.1, hm.2.2, hg3⟩
    · rw [if_neg hm, if_pos rfl, if_neg hm, Option.bind_some, Option.bind_some]
      exact ⟨M34, _, rfl, m2', rE1, rE2, Or.inr rfl, w34, hg, fnD f34⟩
  rw [if_neg c5] at d2
  rw [decide_eq_false c5, if_pos (show bI false = (0 : Int32) from rfl)]
  obtain ⟨M10, i1, i2, i3⟩ := tk_ok hf 6 d2 (Or.inr rfl) (by omega) (by omega)
  have f10 := Frm_trans f8 i3
  rw [show f12_takes M8 17 = _ from i1, bn2_s]
  by_cases c6 : kindAt T a = 6
  · rw [c6] at hok rE1 rE2 ⊢
    rw [if_pos c6] at i2
    rw [decide_eq_true (show 6 = 6 from rfl), if_neg (show ¬ bI true = (0 : Int32) from by decide)]
    obtain ⟨M24, j1, j2, j3, j4⟩ := RQ_edT i2 (q43 f10) hc (by omega)
    have hok' : pBd (pNum T 0 (cnt - 1) (rdr T (kwL (11 + 6)) a)).2 = 0 := hok
    have he := (num_in hok').2
    have f24 := Frm_trans f10 j3
    have w24 := RW_read hW f24
    have eS : doneS cnt ties W (restK T cnt 6 (rdr T (kwL (11 + 6)) a)).1 = setE W (pNum T 0 (cnt - 1) (rdr T (kwL (11 + 6)) a)).1 (sOn (wE W (pNum T 0 (cnt - 1) (rdr T (kwL (11 + 6)) a)).1) false) := rfl
    rw [eS, j1, bn2_s]
    have j2' : RQ M24 T (restK T cnt 6 (rdr T (kwL (11 + 6)) a)).2 := j2
    generalize (pNum T 0 (cnt - 1) (rdr T (kwL (11 + 6)) a)).1 = e at *
    have hel : e < cnt := by omega
    obtain ⟨-, e2, -, -, -, -, -, -, -, -, -, -, -, -, -, -, e17, e18, e19⟩ := hg.2.2.2.2.2.2.2.2 e hel
    refine ⟨sR M24 30 (upd (M24.2.1 30) (4 + 2618 * e + 15) (bI false)), _, ?_, RQ_same j2' (fun k hk => sR_ne _ _ (by omega)) (fun _ _ _ => rfl), rE1, rE2, Or.inr rfl, ?_, Good_head hg hel rfl e2 e17 e18 e19, FN_trans (fnD f24) (FN_now (fun j hj => absurd trivial hj))⟩
    · rw [show f12_of (nI e) (15 : Int32) = _ from of_ok e 15, Option.bind_some, sd_n (show 4 + 2618 * e + 15 < 10476 by omega), Option.bind_some, Option.bind_some]
      rfl
    · exact set_headW w24 hg hel (fun j hj => upd_ne _ _ (by omega)) (REh_on (w24.2.2.2.2.2.2.2 e hel).1 (Good_Bd hg hel).2.1) rfl rfl rfl rfl rfl rfl rfl rfl
  rw [if_neg c6] at i2
  rw [decide_eq_false c6, if_pos (show bI false = (0 : Int32) from rfl)]
  obtain ⟨M12, j1, j2, j3⟩ := tk_ok hf 7 i2 (Or.inr rfl) (by omega) (by omega)
  have f12 := Frm_trans f10 j3
  rw [show f12_takes M10 18 = _ from j1, bn2_s]
  by_cases c7 : kindAt T a = 7
  · rw [c7] at hok rE1 rE2 ⊢
    rw [if_pos c7] at j2
    rw [decide_eq_true (show 7 = 7 from rfl), if_neg (show ¬ bI true = (0 : Int32) from by decide)]
    obtain ⟨M20, l1, l2, l3, l4⟩ := RQ_edT j2 (q43 f12) hc (by omega)
    have hok' : pBd (pNum T 0 (cnt - 1) (rdr T (kwL (11 + 7)) a)).2 = 0 := hok
    have he := (num_in hok').2
    have f20 := Frm_trans f12 l3
    have w20 := RW_read hW f20
    have eS : doneS cnt ties W (restK T cnt 7 (rdr T (kwL (11 + 7)) a)).1 = setE W (pNum T 0 (cnt - 1) (rdr T (kwL (11 + 7)) a)).1 (sOn (wE W (pNum T 0 (cnt - 1) (rdr T (kwL (11 + 7)) a)).1) true) := rfl
    rw [eS, l1, bn2_s]
    have l2' : RQ M20 T (restK T cnt 7 (rdr T (kwL (11 + 7)) a)).2 := l2
    generalize (pNum T 0 (cnt - 1) (rdr T (kwL (11 + 7)) a)).1 = e at *
    have hel : e < cnt := by omega
    obtain ⟨-, e2, -, -, -, -, -, -, -, -, -, -, -, -, -, -, e17, e18, e19⟩ := hg.2.2.2.2.2.2.2.2 e hel
    refine ⟨sR M20 30 (upd (M20.2.1 30) (4 + 2618 * e + 15) (bI true)), _, ?_, RQ_same l2' (fun k hk => sR_ne _ _ (by omega)) (fun _ _ _ => rfl), rE1, rE2, Or.inr rfl, ?_, Good_head hg hel rfl e2 e17 e18 e19, FN_trans (fnD f20) (FN_now (fun j hj => absurd trivial hj))⟩
    · rw [show f12_of (nI e) (15 : Int32) = _ from of_ok e 15, Option.bind_some, sd_n (show 4 + 2618 * e + 15 < 10476 by omega), Option.bind_some, Option.bind_some]
      rfl
    · exact set_headW w20 hg hel (fun j hj => upd_ne _ _ (by omega)) (REh_on (w20.2.2.2.2.2.2.2 e hel).1 (Good_Bd hg hel).2.1) rfl rfl rfl rfl rfl rfl rfl rfl
  rw [if_neg c7] at j2
  rw [decide_eq_false c7, if_pos (show bI false = (0 : Int32) from rfl)]
  obtain ⟨M14, l1, l2, l3⟩ := tk_ok hf 8 j2 (Or.inr rfl) (by omega) (by omega)
  have f14 := Frm_trans f12 l3
  rw [show f12_takes M12 19 = _ from l1, bn2_s]
  by_cases c8 : kindAt T a = 8
  · rw [c8] at hok rE1 rE2 ⊢
    rw [if_pos c8] at l2
    rw [decide_eq_true (show 8 = 8 from rfl), if_neg (show ¬ bI true = (0 : Int32) from by decide)]
    obtain ⟨M16, m1, m2, m3⟩ := RQ_num (lo := 1) (hi := 99) l2 (by omega) (by omega)
    have hok' : pBd (pNum T 1 99 (rdr T (kwL (11 + 8)) a)).2 = 0 := hok
    have hn := (num_in hok').2
    have f16 := Frm_trans f14 m3
    have w16 := RW_read hW f16
    have eS : doneS cnt ties W (restK T cnt 8 (rdr T (kwL (11 + 8)) a)).1 = if wTk W + (pNum T 1 99 (rdr T (kwL (11 + 8)) a)).1 ≤ 999 then itT ties cnt (pNum T 1 99 (rdr T (kwL (11 + 8)) a)).1 W else W := rfl
    rw [eS, show f12_number M14 (1 : Int32) (99 : Int32) = _ from m1, bn2_s]
    have m2' : RQ M16 T (restK T cnt 8 (rdr T (kwL (11 + 8)) a)).2 := m2
    generalize (pNum T 1 99 (rdr T (kwL (11 + 8)) a)).1 = n at *
    rw [show ld M16 30 (0 : Int32) = some (nI (wTk W)) from by rw [show (0 : Int32) = nI 0 from rfl, ld_n (show 0 < 10476 by omega), w16.2.2.1], Option.bind_some, nI_add]
    by_cases hle : wTk W + n ≤ 999
    · rw [if_neg (show ¬ (999 : Int32) < nI (wTk W + n) from nI_nlt (b := wTk W + n) (a := 999) hle (by omega)), if_pos hle]
      obtain ⟨M18, n1, n2, n3, n4⟩ := ticksGo_ok w16 hg hn
      exact ⟨M18, _, by rw [n1, Option.bind_some, Option.bind_some], RQ_same m2' (fun k hk => n4.1 k (by simp; omega) (by omega)) (fun k k1 k2 => n4.2.1 k (by simp; omega)), rE1, rE2, Or.inr rfl, n2, Good_itT _ _ hg, FN_trans (fnD f16) (FN_mono n4 (by simp) (by simp) (fun _ h => h))⟩
    · rw [if_pos (show (999 : Int32) < nI (wTk W + n) from nI_lt (a := 999) (by omega) (by omega)), if_neg hle, Option.bind_some]
      exact ⟨M16, _, rfl, m2', rE1, rE2, Or.inr rfl, w16, hg, fnD f16⟩
  · rw [if_neg c8] at l2
    rw [decide_eq_false c8, if_pos (show bI false = (0 : Int32) from rfl), Option.bind_some]
    have eS : doneS cnt ties W (restK T cnt (kindAt T a) (rdr T (kwL (11 + kindAt T a)) a)).1 = W := by
      rcases (show kindAt T a = 1 ∨ kindAt T a = 2 by omega) with hh | hh <;> rw [hh] <;> rfl
    rw [eS]
    refine ⟨M14, (lkP T a, q.2), rfl, l2, hf.2.1, fun x hx => ?_, Or.inl rfl, RW_read hW f14, hg, fnD f14⟩
    have := hf.2.2 x hx; have := lk_ge T a; show x ≤ lkP T a; omega
