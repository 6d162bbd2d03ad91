/-! ===== PART II, the class: the first statement ===== -/
section T9
variable {S S' S'' : CS} {z i k q : Nat} {T : List Int32} {v : Tm}
theorem ask_here {w : List Int32} {p : Pz} (hb : pBd p = 0) (hn : isLt (byteAt T (lkP T (pAt p))) = true → pEd p ≠ some (lkP T (pAt p))) : pAsk T w p = if hereAt T w (pAt p) then endW (lkP T (pAt p) + w.length, p.2) else pFail (lkP T (pAt p), p.2) 1 (lkP T (pAt p)) := by
  have hh : pHere T w p = hereAt T w (pAt p) := by
    unfold pHere hereAt
    apply decide_eq_decide.mpr
    exact ⟨fun h => ⟨h.2.1, h.2.2.2⟩, fun h => ⟨hb, h.1, hn h.1, h.2⟩⟩
  unfold pAsk pTake
  rw [if_pos hb, hh]
  cases hereAt T w (pAt p) with
  | true => rfl
  | false =>
    rw [if_neg (show ¬ false = true by decide), if_neg (fun h => Bool.noConfusion h)]
    unfold pLk
    rw [if_pos hb]; rfl
theorem numOf_P {c j : Nat} (h : PR S z T i v) (hc : 4 * c + j < 240) : cal S 8 (z + 1) (f8_numberOf S (z + 1) (nI c) (nI j)) = some (v.2.2.2.2.2.2 (4 * c + j)) := by
  obtain ⟨⟨hW, hT⟩, _, _, _, _, ⟨h9, h9b, h9c⟩, _⟩ := id h
  obtain ⟨b0, b1, b2, b3, b4⟩ := hT.2.2.1
  obtain ⟨_, _, _, ⟨c6, c7⟩⟩ := hT.2.2.2.1
  rw [cal_k b0]
  unfold f8_numberOf
  rw [show (4 : Int32) = nI 4 from rfl, nI_mul, nI_add, if_neg (show ¬ nI (4 * c + j) < (0 : Int32) from fun x => by rw [Int32.lt_iff_toInt_lt, i0, nI_toInt (by omega)] at x; omega), gr_k b0 b4, Option.bind_some, aln_k c6, c7, Option.bind_some, if_neg (nI_ge (by omega) (by omega)), Option.bind_some, ldi_k c6 (by omega) (by omega), h9c, Option.bind_some, Option.bind_some]
theorem wl_P {x : Int32} (h : PR S z T i v) : OK8 z S (setI S (z + 1) 6 x) T i (v.1, v.2.1, v.2.2.1, x, v.2.2.2.2) := by
  obtain ⟨s1, w, a, b, c⟩ := PR_set (j := 6) (x := x) h (by omega)
  obtain ⟨_, ⟨h1, h2⟩, h3, h4, ⟨h5, h6, h7, h8⟩, h9, h10, h11⟩ := h
  exact ⟨⟨w, ⟨by rw [b 1 (by omega)]; exact h1, by rw [c]; exact h2⟩, by rw [b 11 (by omega)]; exact h3, by rw [b 2 (by omega)]; exact h4, ⟨by rw [b 4 (by omega)]; exact h5, by rw [b 8 (by omega)]; exact h6, by rw [b 5 (by omega)]; exact h7, a⟩, by rw [c]; exact h9, h10, h11⟩, s1⟩
theorem ed_P {x : Int32} (h : PR S z T i v) : OK8 z S (setI S (z + 1) 5 x) T i (v.1, v.2.1, x, v.2.2.2) := by
  obtain ⟨s1, w, a, b, c⟩ := PR_set (j := 5) (x := x) h (by omega)
  obtain ⟨_, ⟨h1, h2⟩, h3, h4, ⟨h5, h6, h7, h8⟩, h9, h10, h11⟩ := h
  exact ⟨⟨w, ⟨by rw [b 1 (by omega)]; exact h1, by rw [c]; exact h2⟩, by rw [b 11 (by omega)]; exact h3, by rw [b 2 (by omega)]; exact h4, ⟨by rw [b 4 (by omega)]; exact h5, by rw [b 8 (by omega)]; exact h6, a, by rw [b 6 (by omega)]; exact h8⟩, by rw [c]; exact h9, h10, h11⟩, s1⟩
/-- the text and how many editors -/
theorem text_R {p : Pz} (h : PR S z T (pAt p) v) (hb : pBd p = 0) (hn : isLt (byteAt T (lkP T (pAt p))) = true → pEd p ≠ some (lkP T (pAt p))) (hu : v.1 ≤ pAt p) (hc : v.2.1 = 0) :
    ∃ S' r, cal S 8 (z + 1) (f8_readText S (z + 1)) = some (r, S') ∧ ((r = 1 ∧ OKp z S S' T (pNum T 2 4 (pAsk T (kwL 11) (pWord T 40 p).2)).2 ((addT v (ltrs T (pWord T 40 p).1 (pAt (pWord T 40 p).2))).1, 0, nI (pNum T 2 4 (pAsk T (kwL 11) (pWord T 40 p).2)).1, nI (v.1 + (ltrs T (pWord T 40 p).1 (pAt (pWord T 40 p).2)).length), wr v.2.2.2.2.1 v.1 (ltrs T (pWord T 40 p).1 (pAt (pWord T 40 p).2)), v.2.2.2.2.2.1, upd v.2.2.2.2.2.2 0 (nI (pNum T 2 4 (pAsk T (kwL 11) (pWord T 40 p).2)).1)) ∧ v.1 + (ltrs T (pWord T 40 p).1 (pAt (pWord T 40 p).2)).length ≤ pAt (pNum T 2 4 (pAsk T (kwL 11) (pWord T 40 p).2)).2) ∨ (r = 0 ∧ BDp z S S' (pNum T 2 4 (pAsk T (kwL 11) (pWord T 40 p).2)).2)) := by
  obtain ⟨S2, r, r1, r2⟩ := word_R (most := 40) h hb hu hn (by omega) (by omega)
  rw [cal_k (PR_k h)]
  unfold f8_readText
  rw [show cal S 8 (z + 1) (f8_readWord S (z + 1) 40) = some (r, S2) from r1, bn2_s]
  rcases r2 with ⟨rfl, ⟨e1, e2⟩, e3, e4, e5, e6⟩ | ⟨rfl, e⟩
  · rw [if_neg (show ¬ (1 : Int32) = 0 by decide)]
    generalize hw2 : (pWord T 40 p).2 = w2 at *
    generalize hl : ltrs T (pWord T 40 p).1 (pAt w2) = l at *
    have hnk : isLt (byteAt T (lkP T (pAt w2))) = true → pEd w2 ≠ some (lkP T (pAt w2)) := fun hlt he => by
      rw [e3] at he
      have := Option.some.inj he
      rw [← this, e5] at hlt
      cases hlt
    have hA := ask_here (T := T) (w := kwL 11) e1 hnk
    rcases ends_P e2.1 with ⟨d1, d2⟩ | ⟨d1, S4, d2, d3⟩
    · have e8 : gi S2 8 (z + 1) 8 = some (nI (v.1 + l.length)) := by rw [gi_k (PR_k e2.1), e2.1.2.2.2.2.1.2.1]; rfl
      have h6 := wl_P (x := nI (v.1 + l.length)) e2.1
      obtain ⟨S7, s1, s2⟩ := skip_P h6.1
      obtain ⟨S10, r', k1, k2, k3⟩ := key_P (lk_lk T (pAt w2)) s2.1
      have h7 := OK8_tr e2 (OK8_tr h6 s2)
      have h10 := OK8_tr h7 k2
      rw [d2, bn2_s, if_neg (show ¬ (1 : Int32) = 0 by decide), e8, Option.bind_some, pi_k (PR_k e2.1), Option.bind_some, s1, Option.bind_some, gi_P s2.1, Option.bind_some, k1, bn2_s]
      have hno : hereAt T (kwL 11) (pAt w2) = false → r' ≠ 9 → ∃ S' r, (bn2 (cal S10 8 (z + 1) (f8_fail S10 (z + 1) 1 (nI (lkP T (pAt w2))))) fun v18 S19 => (bz v18).bind fun v20 => some (v20, S19)) = some (r, S') ∧ (r = 0 ∧ BDp z S S' (pNum T 2 4 (pAsk T (kwL 11) w2)).2) := fun hf _ => by
        obtain ⟨S19, y1, y2⟩ := fail_P k2.1 1 (lkP T (pAt w2))
        rw [show cal S10 8 (z + 1) (f8_fail S10 (z + 1) 1 (nI (lkP T (pAt w2)))) = some (0, S19) from y1, bn2_s]
        refine ⟨S19, 0, rfl, rfl, ?_⟩
        rw [hA, hf, if_neg (by decide), num_bad (show pBd (pFail ((lkP T (pAt w2), w2.2) : Pz) 1 (lkP T (pAt w2))) ≠ 0 from fail_is (by omega)), fail_g1 e1]
        exact BDp_of (BD8_tr h10 y2) (by omega) rfl rfl
      rcases k3 with ⟨rfl, hall⟩ | ⟨x, x10, rfl, hy⟩
      · have hf : hereAt T (kwL 11) (pAt w2) = false := by have := hall 9 (by omega); rw [here_lk] at this; exact this
        obtain ⟨S', r, b1, b2⟩ := hno hf (by decide)
        rw [if_neg (by decide)]
        exact ⟨S', r, b1, Or.inr b2⟩
      · rw [here_lk] at hy
        by_cases h9 : x = 9
        · subst h9
          have hy' : hereAt T (kwL 11) (pAt w2) = true := hy
          have hlen : ltN (T.drop (lkP T (pAt w2))) = (kwL 11).length := here_len (lk_lk T (pAt w2)) (by rw [here_lk]; exact hy')
          rw [hlen] at k2 h10
          rw [if_pos (show nI 9 = (9 : Int32) from rfl), hA, hy', if_pos rfl]
          have hp4 : pAt (endW (lkP T (pAt w2) + (kwL 11).length, w2.2)) = lkP T (pAt w2) + (kwL 11).length := rfl
          have hb4 : pBd (endW (lkP T (pAt w2) + (kwL 11).length, w2.2)) = 0 := e1
          rcases ends_P k2.1 with ⟨g1, g2⟩ | ⟨g1, S12, g2, g3⟩
          · obtain ⟨S14, r'', n1, n2⟩ := readN_R (k := 0) (lo := 2) (hi := 4) (p := endW (lkP T (pAt w2) + (kwL 11).length, w2.2)) k2.1 hb4 (fun y hy => by
              have hy2 : lkP T (pAt w2) + (kwL 11).length = y := Option.some.inj hy
              rw [← hy2]
              exact ⟨Nat.le_refl _, fun _ => g1⟩) (by show 4 * v.2.1 + 0 < 240; omega) (by omega) (by omega)
            rw [g2, bn2_s, if_neg (show ¬ (1 : Int32) = 0 by decide), show cal S10 8 (z + 1) (f8_readNumber S10 (z + 1) 0 2 4) = some (r'', S14) from n1, bn2_s]
            rcases n2 with ⟨rfl, ⟨u1, u2⟩, u3, u4⟩ | ⟨rfl, u⟩
            · have hcnt : gi S14 8 (z + 1) 4 = some (nI 0) := by rw [gi_k (PR_k u2.1), u2.1.2.2.2.2.1.1]; show some (nI v.2.1) = _; rw [hc]
              have hno2 := numOf_P (c := 0) (j := 0) u2.1 (by omega)
              have h17 := ed_P (x := nI (pNum T 2 4 (endW (lkP T (pAt w2) + (kwL 11).length, w2.2))).1) u2.1
              have hval : (sN ((addT v l).1, (addT v l).2.1, (addT v l).2.2.1, nI (v.1 + l.length), (addT v l).2.2.2.2) 0 (nI (pNum T 2 4 (endW (lkP T (pAt w2) + (kwL 11).length, w2.2))).1)).2.2.2.2.2.2 (4 * 0 + 0) = nI (pNum T 2 4 (endW (lkP T (pAt w2) + (kwL 11).length, w2.2))).1 := by
                show upd v.2.2.2.2.2.2 (4 * v.2.1 + 0) _ (4 * 0 + 0) = _
                rw [hc, upd_self]
              rw [hval] at hno2
              rw [if_neg (show ¬ (1 : Int32) = 0 by decide), hcnt, Option.bind_some, show cal S14 8 (z + 1) (f8_numberOf S14 (z + 1) (nI 0) 0) = _ from hno2, Option.bind_some, pi_k (PR_k u2.1), Option.bind_some]
              have hfin := OK8_tr h10 (OK8_tr u2 h17)
              refine ⟨_, 1, rfl, Or.inl ⟨rfl, ⟨u1, ?_⟩, ?_⟩⟩
              · have e0 : (sN ((addT v l).1, (addT v l).2.1, (addT v l).2.2.1, nI (v.1 + l.length), (addT v l).2.2.2.2) 0 (nI (pNum T 2 4 (endW (lkP T (pAt w2) + (kwL 11).length, w2.2))).1)) = ((addT v l).1, v.2.1, v.2.2.1, nI (v.1 + l.length), wr v.2.2.2.2.1 v.1 l, v.2.2.2.2.2.1, upd v.2.2.2.2.2.2 (4 * v.2.1 + 0) (nI (pNum T 2 4 (endW (lkP T (pAt w2) + (kwL 11).length, w2.2))).1)) := rfl
                rw [e0] at hfin
                dsimp only at hfin
                rw [hc] at hfin
                exact hfin
              · have a1 := lk_num u1
                have a2 : pAt (endW (lkP T (pAt w2) + (kwL 11).length, w2.2)) = lkP T (pAt w2) + (kwL 11).length := rfl
                have a3 := lk_ge T (pAt w2)
                omega
            · rw [if_pos (show (0 : Int32) = 0 from rfl)]
              exact ⟨S14, 0, rfl, Or.inr ⟨rfl, BDp_tr h10 u⟩⟩
          · rw [g2, bn2_s, if_pos (show (0 : Int32) = 0 from rfl)]
            obtain ⟨q1, q2⟩ := num_side (lo := 2) (hi := 4) hb4 rfl (show isDg (byteAt T (pAt (endW (lkP T (pAt w2) + (kwL 11).length, w2.2)))) = true from g1)
            exact ⟨S12, 0, rfl, Or.inr ⟨rfl, BDp_of (BD8_tr h10 g3) (by omega) q1 q2⟩⟩
        · have hf : hereAt T (kwL 11) (pAt w2) = false := by
            cases hh : hereAt T (kwL 11) (pAt w2) with
            | false => rfl
            | true => exact absurd (kcl_ne x x10 9 (by omega) (here_ex hy hh)) h9
          have hr9 : nI x ≠ (9 : Int32) := fun hh => h9 (nI_inj (b := 9) hh (by omega) (by omega))
          obtain ⟨S', r, b1, b2⟩ := hno hf hr9
          rw [if_neg hr9]
          exact ⟨S', r, b1, Or.inr b2⟩
    · have hl := lk_dg d1
      have hf : hereAt T (kwL 11) (pAt w2) = false := by
        unfold hereAt
        rw [hl, e5]
        exact decide_eq_false (fun hh => by cases hh.1)
      rw [d2, bn2_s, if_pos (show (0 : Int32) = 0 from rfl)]
      refine ⟨S4, 0, rfl, Or.inr ⟨rfl, ?_⟩⟩
      rw [hA, hf, if_neg (by decide), num_bad (show pBd (pFail ((lkP T (pAt w2), w2.2) : Pz) 1 (lkP T (pAt w2))) ≠ 0 from fail_is (by omega)), fail_g1 e1, hl]
      exact BDp_of (BD8_tr e2 d3) (by omega) rfl rfl
  · rw [if_pos (show (0 : Int32) = 0 from rfl), ask_bad e.1, num_bad e.1]
    exact ⟨S2, 0, rfl, Or.inr ⟨rfl, e⟩⟩
/-- the first statement -/
theorem stm0_R (h : PR S z T 0 v) (hu : v.1 = 0) (hc : v.2.1 = 0) :
    ∃ S', (∀ F : CS → Option CS, stmF z S F = F S') ∧ ((∃ v', pBd (pS1 T) = 0 ∧ OK8 z S S' T (lkP T (pAt (pS1 T))) v' ∧ v'.2.1 = 1 ∧ v'.2.2.1 = nI (cntT T) ∧ v'.2.2.2.1 = nI (toldT T).length ∧ v'.2.2.2.2.2.1 0 = 0 ∧ seg v'.2.2.2.2.1 0 (toldT T) ∧ v'.1 = (toldT T).length ∧ v'.1 ≤ lkP T (pAt (pS1 T))) ∨ BDp z S S' (pS1 T)) := by
  have hS1 : pS1 T = pAskS T 59 (pNum T 2 4 (pAsk T (kwL 11) (pWord T 40 (pAsk T (kwL 10) rd0)).2)).2 := rfl
  have hcn : cntT T = (pNum T 2 4 (pAsk T (kwL 11) (pWord T 40 (pAsk T (kwL 10) rd0)).2)).1 := rfl
  have htd : toldT T = ltrs T (pWord T 40 (pAsk T (kwL 10) rd0)).1 (pAt (pWord T 40 (pAsk T (kwL 10) rd0)).2) := rfl
  have hA := ask_here (T := T) (w := kwL 10) (p := rd0) rfl (fun _ hh => by cases hh)
  have hat : pAt rd0 = 0 := rfl
  rw [hat] at hA
  obtain ⟨S3, r, r1, r4, r2⟩ := readK_P h (by omega)
  have h10 : kcl 0 = 10 := rfl
  rcases r2 with ⟨x, x9, rfl, hy, hx0, hO, hdg⟩ | ⟨x, x9, rfl, hy, hx0, hB, hdg⟩ | ⟨rfl, hno, hB⟩
  · have hx : x = 0 := hx0.mpr hc
    subst hx
    rw [h10] at hy hO hdg
    rw [here_lk] at hy
    rw [hy, if_pos rfl] at hA
    obtain ⟨S6, k1, k2, k3, k4⟩ := kind_P (x := nI 0) hO.1 (by omega)
    have h6 := OK8_tr hO k4
    have hle := (ltN_end (T := T) (lkP T 0)).1
    rw [here_len (lk_lk T 0) (by rw [here_lk]; exact hy)] at hle
    have hat2 : pAt (pAsk T (kwL 10) rd0) = lkP T 0 + (kwL 10).length := by rw [hA]; rfl
    have hed2 : pEd (pAsk T (kwL 10) rd0) = some (lkP T 0 + (kwL 10).length) := by rw [hA]; rfl
    have hbd2 : pBd (pAsk T (kwL 10) rd0) = 0 := by rw [hA]; rfl
    obtain ⟨S10, r', w1, w2⟩ := text_R (p := pAsk T (kwL 10) rd0) (v := (v.1, v.2.1, v.2.2.1, v.2.2.2.1, v.2.2.2.2.1, upd v.2.2.2.2.2.1 v.2.1 (nI 0), v.2.2.2.2.2.2)) (by rw [hat2]; exact h6.1) hbd2 (fun hlt he => by
      rw [hed2] at he
      have := Option.some.inj he
      rw [← this, hle] at hlt
      cases hlt) (by show v.1 ≤ _; omega) hc
    rw [hS1]
    have w1' : cal S6 8 (z + 1) (f8_readRest S6 (z + 1) (nI 0)) = some (r', S10) := by
      rw [cal_k (PR_k h6.1)]
      unfold f8_readRest
      rw [if_pos (show nI 0 = (0 : Int32) from rfl), w1, bn2_s]
      rcases w2 with ⟨rfl, _⟩ | ⟨rfl, _⟩ <;> rfl
    have hpre : ∀ F, stmF z S F = (bn2 (cal S6 8 (z + 1) (f8_readRest S6 (z + 1) (nI 0))) fun v9 S10 => if v9 = 0 then (some S10) else (bn2 (cal S10 8 (z + 1) (f8_readSign S10 (z + 1) 59)) fun v11 S12 => if v11 = 0 then (some S12) else ((gi S12 8 (z + 1) 4).bind fun v13 => (pi S12 8 (z + 1) 4 (v13 + 1)).bind fun S14 => (cal S14 8 (z + 1) (f8_skipBlanks S14 (z + 1))).bind fun S15 => some S15))).bind F := fun F => by
      unfold stmF
      rw [r1, bn2_s, k1, Option.bind_some, k2, Option.bind_some, k3, Option.bind_some, if_neg (by decide)]
    rcases w2 with ⟨rfl, ⟨y1, y2⟩, y3⟩ | ⟨rfl, y⟩
    · obtain ⟨S12, r'', q1, q2⟩ := sign_P y2.1
      have hT10 := OK8_tr h6 y2
      rcases q2 with ⟨rfl, q3, q4⟩ | ⟨rfl, q3, q4⟩
      · obtain ⟨S14, c1, c2, c3⟩ := count_P q4.1
        obtain ⟨S15, u1, u2⟩ := skip_P c3.1
        have hfin := OK8_tr hT10 (OK8_tr q4 (OK8_tr c3 u2))
        rw [askS_yes y1 q3]
        refine ⟨S15, fun F => ?_, Or.inl ⟨_, y1, hfin, rfl, by rw [hcn], ?_, ?_, ?_, ?_, ?_⟩⟩
        · rw [hpre, w1', bn2_s, if_neg (by decide), q1, bn2_s, if_neg (by decide), c1, Option.bind_some, c2, Option.bind_some, u1, Option.bind_some, Option.bind_some]
        · rw [htd]
          show nI (v.1 + _) = _
          rw [hu, Nat.zero_add]
        · show upd v.2.2.2.2.2.1 v.2.1 (nI 0) 0 = 0
          rw [hc, upd_self]; rfl
        · rw [htd]
          intro j hj
          show wr v.2.2.2.2.1 v.1 _ (0 + j) = _
          rw [hu, wr_in hj]
        · rw [htd]
          show v.1 + _ = _
          rw [hu, Nat.zero_add]
        · have y3' : v.1 + (ltrs T (pWord T 40 (pAsk T (kwL 10) rd0)).1 (pAt (pWord T 40 (pAsk T (kwL 10) rd0)).2)).length ≤ pAt (pNum T 2 4 (pAsk T (kwL 11) (pWord T 40 (pAsk T (kwL 10) rd0)).2)).2 := y3
          have a1 := lk_ge T (pAt (pNum T 2 4 (pAsk T (kwL 11) (pWord T 40 (pAsk T (kwL 10) rd0)).2)).2)
          have a2 := lk_ge T (lkP T (pAt (pNum T 2 4 (pAsk T (kwL 11) (pWord T 40 (pAsk T (kwL 10) rd0)).2)).2) + 1)
          show v.1 + _ ≤ lkP T (lkP T (pAt _) + 1)
          omega
      · obtain ⟨a1, a2⟩ := askS_no y1 q3
        refine ⟨S12, fun F => ?_, Or.inr (BDp_of (BD8_tr hT10 q4) (by omega) a1 a2)⟩
        rw [hpre, w1', bn2_s, if_neg (by decide), q1, bn2_s, if_pos rfl, Option.bind_some]
    · refine ⟨S10, fun F => ?_, Or.inr (by rw [askS_bad y.1]; exact BDp_tr h6 y)⟩
      rw [hpre, w1', bn2_s, if_pos rfl, Option.bind_some]
  · have hx : x = 0 := hx0.mpr hc
    subst hx
    rw [h10] at hy hB hdg
    rw [here_lk] at hy
    rw [hy, if_pos rfl] at hA
    have hlk4 := lk_dg hdg
    have hnlt : isLt (byteAt T (lkP T 0 + (kwL 10).length)) = false := by
      have hle := (ltN_end (T := T) (lkP T 0)).1
      rw [here_len (lk_lk T 0) (by rw [here_lk]; exact hy)] at hle
      exact hle
    have hwd : pBd (pWord T 40 (pAsk T (kwL 10) rd0)).2 = 1 ∧ pBp (pWord T 40 (pAsk T (kwL 10) rd0)).2 = some (lkP T 0 + (kwL 10).length) := by
      rw [hA]
      unfold pWord
      rw [if_pos (show pBd (endW (lkP T 0 + (kwL 10).length, rd0.2)) = 0 from rfl), show pAt (endW (lkP T 0 + (kwL 10).length, rd0.2)) = lkP T 0 + (kwL 10).length from rfl, hlk4, if_neg (fun hh => by rw [hnlt] at hh; cases hh.1), fail_g1 (p := endW (lkP T 0 + (kwL 10).length, rd0.2)) rfl]
      exact ⟨rfl, rfl⟩
    obtain ⟨S6, k1, k2, k3, k4⟩ := kind_B (x := -1) hB r4 (by omega)
    refine ⟨S6, fun F => ?_, Or.inr ?_⟩
    · unfold stmF
      rw [r1, bn2_s, k1, Option.bind_some, k2, Option.bind_some, k3, Option.bind_some, if_pos rfl, Option.bind_some]
    · have hb : pBd (pWord T 40 (pAsk T (kwL 10) rd0)).2 ≠ 0 := by rw [hwd.1]; omega
      rw [hS1, ask_bad hb, num_bad hb, askS_bad hb]
      exact BDp_of k4 (by omega) hwd.1 hwd.2
  · have hf := hno 0 (by omega) (by omega)
    rw [h10, here_lk] at hf
    rw [hf, if_neg (by decide), fail_g1 (p := rd0) rfl] at hA
    have hb1 : pBd (pAsk T (kwL 10) rd0) = 1 ∧ pBp (pAsk T (kwL 10) rd0) = some (lkP T 0) := by rw [hA]; exact ⟨rfl, rfl⟩
    obtain ⟨S6, k1, k2, k3, k4⟩ := kind_B (x := -1) hB r4 (by omega)
    refine ⟨S6, fun F => ?_, Or.inr ?_⟩
    · unfold stmF
      rw [r1, bn2_s, k1, Option.bind_some, k2, Option.bind_some, k3, Option.bind_some, if_pos rfl, Option.bind_some]
    · have hb : pBd (pAsk T (kwL 10) rd0) ≠ 0 := by rw [hb1.1]; omega
      rw [hS1, word_bad hb, ask_bad hb, num_bad hb, askS_bad hb]
      exact BDp_of k4 (by omega) hb1.1 hb1.2
end T9
