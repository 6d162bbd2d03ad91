/-! ===== PART II, the reference: session ===== -/
theorem GA_sFa {A : St} {p : Pz} (hg : GA A) : GA (sFa A p) := by
  obtain ⟨h1, h2, h3, h4, h5, h6, h7, h8, h9, h10, h11, h12, h13⟩ := hg
  exact ⟨Nat.zero_le _, fun v hv => absurd hv List.not_mem_nil, h3, h4, h5, h6, h7, h8, h9, h10, h11, h12, h13⟩
theorem GA_sTp {A : St} (hg : GA A) : GA (sTp A []) := by
  obtain ⟨h1, h2, h3, h4, h5, h6, h7, h8, h9, h10, h11, h12, h13⟩ := hg
  exact ⟨Nat.zero_le _, fun v hv => absurd hv List.not_mem_nil, h3, h4, h5, h6, h7, h8, h9, h10, h11, h12, h13⟩
theorem GA_sRf {A : St} {k : Nat} (hg : GA A) : GA (sRf A k) := hg
def aSess (A : St) : Int32 × St := if pBd (pSess (aTape A)).2 = 0 then (nI (1 + (pSess (aTape A)).1.length), newSt A (aTape A) (pSess (aTape A)).1) else (-1, sRf (sFa A (pSess (aTape A)).2) 1)
theorem sess_bd {T : List Int32} (h : pBd (pSess T).2 = 0) : pBd (pS1 T) = 0 := by
  by_cases hb : pBd (pS1 T) = 0
  · exact hb
  · unfold pSess at h; rw [all_bad hb] at h; exact absurd h hb
theorem sess_eq (T : List Int32) : ∃ d : Nat, 1 + d = 62 ∧ pSess T = pAll T (cntT T) d 1 (pS1 T) := ⟨61, rfl, by unfold pSess; rfl⟩
/-- both ways over the session -/
theorem goes_both {M : MS} {T : List Int32} {q : Pz} {d : Nat} {R : List Sm × Pz} (hd : 1 + d = 62) (hR : R = pAll T (cntT T) d 1 (pS1 T)) (h : RQ M T q) (hq : q.2.2 = (0, none)) (hS1 : pBd (pS1 T) = 0) (hS : pBd R.2 = 0) (hW : RW M (cntT T) 0 (W0t (toldT T))) :
    ∃ M7 M8, f12_goesOver M 1 = some M7 ∧ f12_goesOver M7 0 = some M8 ∧ RW M8 (cntT T) (R.1.foldl laidS (0, W0t (toldT T))).1 (R.1.foldl (doneS (cntT T) (R.1.foldl laidS (0, W0t (toldT T))).1) (R.1.foldl laidS (0, W0t (toldT T))).2) ∧ Good (cntT T) (R.1.foldl laidS (0, W0t (toldT T))).1 (toldT T).length (R.1.foldl (doneS (cntT T) (R.1.foldl laidS (0, W0t (toldT T))).1) (R.1.foldl laidS (0, W0t (toldT T))).2) ∧ wTk (R.1.foldl (doneS (cntT T) (R.1.foldl laidS (0, W0t (toldT T))).1) (R.1.foldl laidS (0, W0t (toldT T))).2) ≤ 999 ∧ FN AsD [2, 4, 5, 6, 25, 26, 27, 28, 42, 33, 43, 44, 45] (fun _ => True) M M8 := by
  obtain ⟨c2, c4, hfr, l40, l1, ok, -, -⟩ := head_good hS1
  have fT : ∀ {X Y : MS}, Frm [] [2, 4, 5, 6, 43, 44, 45] X Y → FN AsD [2, 4, 5, 6, 25, 26, 27, 28, 42, 33, 43, 44, 45] (fun _ => True) X Y := fun hx => FN_Frm hx List.not_mem_nil (by simp) (by simp)
  have rW : ∀ {X Y : MS} {ties : Nat} {W : Wd}, RW X (cntT T) ties W → Frm [] [2, 4, 5, 6, 43, 44, 45] X Y → RW Y (cntT T) ties W := fun hw hf => RW_same hw (fun k _ => hf.1 k List.not_mem_nil) (hf.2.1 32 (by decide)) (hf.2.1 33 (by decide))
  obtain ⟨M1, M2, M3, a1, a2, a3, a4, a5, a6⟩ := goes_head h hq
  have hS' : pBd (pAll T (cntT T) d 1 (pS1 T)).2 = 0 := by rw [← hR]; exact hS
  obtain ⟨M4, q4, b1, ⟨b2, b2'⟩, b3, b4, b5, b6⟩ := laid_loop (told := toldT T) c2 c4 l40 ok d FU 1 (pS1 T) (pS1 T) M3 0 (W0t (toldT T)) a4 hfr hfr hS' (by omega) (by omega) (by rw [FU_eq]; omega) a5 (rW hW a6) (W0t_Fr _ _) (by omega)
  rw [← hR] at b3 b4 b5
  obtain ⟨N1, N2, N3, d1, d2, d3, d4, d5, d6⟩ := goes_head b2 b2'
  have hg := FrW_good b4 c4 b5 l40 ok
  have htk : wTk (R.1.foldl laidS (0, W0t (toldT T))).2 ≤ 999 := by show (R.1.foldl laidS (0, W0t (toldT T))).2.1.1 ≤ 999; rw [b4.1]; decide
  obtain ⟨M8, q8, e1, e2, e3, e4, e5, e6⟩ := done_loop (tl := (toldT T).length) c2 d FU 1 (pS1 T) (pS1 T) N3 _ d4 hfr hfr hS' (by omega) (by omega) (by rw [FU_eq]; omega) d5 (rW b3 d6) hg htk
  rw [← hR] at e3 e4 e5
  refine ⟨M4, M8, ?_, ?_, e3, e4, e5, FN_trans (fT a6) (FN_trans (FN_mono b6 (by simp) (by simp) (fun _ h => h)) (FN_trans (fT d6) (FN_mono e6 (fun _ h => h) (by simp) (fun _ h => h))))⟩
  · unfold f12_goesOver
    rw [a1, Option.bind_some, a2, Option.bind_some, a3, Option.bind_some, b1, Option.bind_some]
  · unfold f12_goesOver
    rw [d1, Option.bind_some, d2, Option.bind_some, d3, Option.bind_some, e1, Option.bind_some]
set_option maxHeartbeats 4000000 in
theorem session_ok {M : MS} {A : St} (h : RS M A) (hg : GA A) : ∃ M', f12_session M = some ((aSess A).1, M') ∧ RS M' (aSess A).2 ∧ GA (aSess A).2 := by
  obtain ⟨M1, a1, a2, a3, a4⟩ := begins_ok h hg
  generalize hT : aTape A = T at *
  obtain ⟨M2, b1, b2, b3, b4, b5, b6⟩ := headTold_ok a2
  obtain ⟨M3, c1, c2, c3⟩ := RQ_askS (c := 59) b2 (by decide)
  have c2' : RQ (sF M3 46 1) T (pS1 T) := RQ_F c2 (by omega)
  have k : ∀ j, j ≠ 2 → j ≠ 4 → j ≠ 5 → j ≠ 6 → j ≠ 46 → (sF M3 46 1).1 j = M2.1 j := fun j j1 j2 j3 j4 j5 => by rw [sF_ne _ _ j5]; exact c3.2.1 j (by simp; omega)
  obtain ⟨d, hd, hR⟩ := sess_eq T
  have hsb := sess_bd (T := T)
  unfold aSess
  rw [hT]
  generalize pSess T = R at *
  have hrd : ∃ M4, L12_session_19 FU (sF M3 46 1) = some M4 ∧ RQ M4 T (R).2 ∧ M4.1 46 = nI (1 + (R).1.length) ∧ Frm [] [2, 4, 5, 6, 46] (sF M3 46 1) M4 := by
    by_cases hb : pBd (pS1 T) = 0
    · obtain ⟨q2, q4, -⟩ := head_good hb
      rw [hR]
      exact all_loop (cnt := cntT T) (by omega) (by omega) d FU 1 (pS1 T) (sF M3 46 1) c2' (by rw [k 43 (by omega) (by omega) (by omega) (by omega) (by omega)]; exact b5) (sF_get _ _ _) (by omega) (by omega) (by omega) (by rw [FU_eq]; omega)
    · have e : R = ([], pS1 T) := by rw [hR]; exact all_bad hb
      have h9 := c2'.1.2.2.2.2.2.2.2.2
      obtain ⟨n, hn⟩ : ∃ n, FU = n + 1 := ⟨19999, FU_eq⟩
      refine ⟨sF M3 46 1, ?_, by rw [e]; exact c2', by rw [e, sF_get]; rfl, Frm_refl _ _ _⟩
      rw [hn]
      unfold L12_session_19
      rw [show gF (sF M3 46 1) 5 = _ from c2'.1.2.2.2.2.1, if_neg (nI_ne0 (by omega) (by omega))]
  obtain ⟨M4, d1, d2, d3, d4⟩ := hrd
  generalize hM5 : sF (sF M4 7 (gF M4 5)) 8 (gF (sF M4 7 (gF M4 5)) 6) = M5
  have h56 : gF (sF M4 7 (gF M4 5)) 6 = gF M4 6 := by show (sF M4 7 (gF M4 5)).1 6 = M4.1 6; rw [sF_ne _ _ (by decide)]
  have m7 : M5.1 7 = nI (pBd (R).2) := by rw [← hM5, sF_ne _ _ (by decide), sF_get]; exact d2.1.2.2.2.2.1
  have m8 : M5.1 8 = oI (pBp (R).2) := by rw [← hM5, sF_get, h56]; exact d2.1.2.2.2.2.2.1
  have mF : ∀ j, j ≠ 7 → j ≠ 8 → M5.1 j = M4.1 j := fun j j1 j2 => by rw [← hM5, sF_ne _ _ j2, sF_ne _ _ j1]
  have mQ : RQ M5 T (R).2 := by rw [← hM5]; exact RQ_F (RQ_F d2 (by omega)) (by omega)
  have m5 : gF M5 5 = nI (pBd (R).2) := mQ.1.2.2.2.2.1
  have mA : ∀ j, M5.2.1 j = M.2.1 j := fun j => by
    have e5 : M5.2.1 j = M4.2.1 j := by rw [← hM5]; rfl
    rw [e5, d4.1 j List.not_mem_nil]
    show M3.2.1 j = _
    rw [c3.1 j List.not_mem_nil, b6.1 j List.not_mem_nil, a4.1 j List.not_mem_nil]
  have mL : M5.2.2 = M.2.2 := by
    have e5 : M5.2.2 = M4.2.2 := by rw [← hM5]; rfl
    rw [e5, d4.2.2]
    show M3.2.2 = _
    rw [c3.2.2, b6.2.2, a4.2.2]
  have mG : ∀ j, j ≠ 2 → j ≠ 4 → j ≠ 5 → j ≠ 6 → j ≠ 7 → j ≠ 8 → j ≠ 46 → M5.1 j = M2.1 j := fun j j1 j2 j3 j4 j5 j6 j7 => by rw [mF j j5 j6, d4.2.1 j (by simp; omega)]; exact k j j1 j2 j3 j4 j7
  have mH : ∀ j, (j = 1 ∨ 9 ≤ j) → j ≠ 43 → j ≠ 44 → j ≠ 45 → j ≠ 46 → M5.1 j = M1.1 j := fun j j1 j2 j3 j4 j5 => by rw [mG j (by omega) (by omega) (by omega) (by omega) (by omega) (by omega) j5]; exact b6.2.1 j (by simp; omega)
  have hh9 := mQ.1.2.2.2.2.2.2.2.2
  unfold f12_session
  rw [a1, Option.bind_some, b1, Option.bind_some, c1, Option.bind_some, d1, Option.bind_some, hM5, m5]
  by_cases hok : pBd (R).2 = 0
  · rw [hok, if_pos (show nI 0 = (0 : Int32) from rfl), if_pos rfl]
    have hS := hsb hok
    obtain ⟨q2, q4, hfr, l40, l1, ok, -, -⟩ := head_good hS
    have hend : (R).2.2.2 = (0, none) := by rw [hR] at hok ⊢; exact all_end d 1 (pS1 T) hfr hok
    obtain ⟨N, s1, s2, s3, s4, s5, s6⟩ := stands_lay mQ hS (by rw [mG 43 (by omega) (by omega) (by omega) (by omega) (by omega) (by omega) (by omega)]; exact b5) (by rw [mG 44 (by omega) (by omega) (by omega) (by omega) (by omega) (by omega) (by omega)]; exact b3) (by rw [mG 45 (by omega) (by omega) (by omega) (by omega) (by omega) (by omega) (by omega)]; exact b4)
    obtain ⟨M7, M8, g1, g2, g3, g4, g5, g6⟩ := goes_both  hd hR s1 hend hS hok s2
    have nF : ∀ j, j ∉ [31, 32, 33, 34, 2, 4, 5, 6, 25, 26, 27, 28, 42, 43, 44, 45] → M8.1 j = M5.1 j := fun j hj => by
      simp only [List.mem_cons, List.not_mem_nil, or_false, not_or] at hj
      rw [g6.2.1 j (by simp only [List.mem_cons, List.not_mem_nil, or_false]; omega), s5.2.1 j (by simp only [List.mem_cons, List.not_mem_nil, or_false]; omega)]
    have nA : ∀ j, j ∉ AsD → j ≠ 35 → j ≠ 30 → M8.2.1 j = M.2.1 j := fun j h1 h2 h3 => by rw [g6.1 j h1 h3, s5.1 j (by simp; exact h2) h3]; exact mA j
    have hGA : GA (newSt A T R.1) := ⟨Nat.zero_le _, fun v hv => absurd hv List.not_mem_nil, g4, ok, g5, Or.inr q2, fun hz => (by have hz' : cntT T = 0 := hz; omega), Nat.zero_le _, fun W hW => absurd hW List.not_mem_nil, fun j W W' hW => absurd (show ([] : List Wd)[j]? = some W from hW) (by simp), Nat.zero_le _, fun x hx => absurd hx List.not_mem_nil, hg.2.2.2.2.2.2.2.2.2.2.2.2⟩
    refine ⟨sF (sF M8 61 0) 56 0, ?_, ?_, hGA⟩
    · unfold f12_stands
      rw [s6]
      rw [g1, Option.bind_some, g2, Option.bind_some, Option.bind_some]
      have e46 : gF (sF (sF M8 61 0) 56 0) 46 = nI (1 + (R).1.length) := by
        show (sF (sF M8 61 0) 56 0).1 46 = _
        rw [sF_ne _ _ (by decide), sF_ne _ _ (by decide), nF 46 (by decide), mF 46 (by omega) (by omega)]; exact d3
      rw [e46]
    · obtain ⟨r1, r2, r3, r4, r5, r6, r7, r8, r9, r10, r11, r12, r13⟩ := h
      have z : ∀ j, j ≠ 56 → j ≠ 61 → (sF (sF M8 61 0) 56 0).1 j = M8.1 j := fun j j1 j2 => by rw [sF_ne _ _ j1, sF_ne _ _ j2]
      refine ⟨?_, fun j hj => absurd hj (Nat.not_lt_zero _), ?_, ?_, fun j hj => ?_, ?_, ?_, ?_, ?_, ?_, fun j hj => absurd hj (Nat.not_lt_zero _), ?_, ?_⟩
      · rw [z 1 (by omega) (by omega), nF 1 (by decide), mH 1 (by omega) (by omega) (by omega) (by omega) (by omega)]; exact a3
      · rw [z 7 (by omega) (by omega), nF 7 (by decide), m7, hok]; rfl
      · rw [z 8 (by omega) (by omega), nF 8 (by decide), m8, show pBp (R).2 = none from by show (R).2.2.2.2 = none; rw [hend]]; rfl
      · show M8.2.1 9 j = _
        rw [nA 9 (by decide) (by decide) (by decide)]; exact r5 j hj
      · rw [z 31 (by omega) (by omega), g6.2.1 31 (by decide), s4]
        show (1 : Int32) = bI (decide (0 < cntT T))
        rw [decide_eq_true (show 0 < cntT T by omega)]; rfl
      · obtain ⟨t1, t2, t3⟩ := s3
        refine ⟨?_, ?_, t3⟩
        · rw [z 34 (by omega) (by omega), g6.2.1 34 (by decide)]; exact t1
        · show seg (M8.2.1 35) 0 _
          rw [g6.1 35 (by decide) (by decide)]; exact t2
      · exact RW_same g3 (fun _ _ => rfl) (z 32 (by omega) (by omega)) (z 33 (by omega) (by omega))
      · obtain ⟨-, nw, u1, u2, u3⟩ := r9
        refine ⟨?_, nw, u1, ?_, fun j W hW => absurd (show ([] : List Wd)[j]? = some W from hW) (by simp)⟩
        · rw [sF_ne _ _ (by decide), sF_get]; rfl
        · rw [z 62 (by omega) (by omega), nF 62 (by decide), mH 62 (by omega) (by omega) (by omega) (by omega) (by omega), a4.2.1 62 (by decide)]; exact u2
      · rw [sF_get]; rfl
      · show M8.2.2 = _
        rw [g6.2.2.1, s5.2.2.1, mL]; exact r12
      · unfold RKw at r13 ⊢
        have y : ∀ j, 10 ≤ j → j ≤ 19 → (sF (sF M8 61 0) 56 0).2.1 j = M.2.1 j := fun j j1 j2 => nA j (by simp; omega) (by omega) (by omega)
        rw [y 10 (by omega) (by omega), y 11 (by omega) (by omega), y 12 (by omega) (by omega), y 13 (by omega) (by omega), y 14 (by omega) (by omega), y 15 (by omega) (by omega), y 16 (by omega) (by omega), y 17 (by omega) (by omega), y 18 (by omega) (by omega), y 19 (by omega) (by omega)]
        exact r13
  · rw [if_neg (nI_ne0 (by omega) (by omega)), if_neg hok]
    have hR : RS M5 (sFa A (R).2) := RS_head h mA (fun j h1 h2 h3 h4 => by
      have hj : ¬ scrF j := h1
      have hj' : (j = 31 ∨ j = 32 ∨ j = 33 ∨ j = 34 ∨ j = 56 ∨ j = 61 ∨ j = 62) := by
        unfold scrF at hj; omega
      rw [mH j (by omega) (by omega) (by omega) (by omega) (by omega)]
      exact a4.2.1 j (by simp; omega)) mL (by rw [mH 1 (by omega) (by omega) (by omega) (by omega) (by omega)]; exact a3) m7 m8
    obtain ⟨M', r1, r2⟩ := refuses_ok hR 1 (by omega)
    exact ⟨M', by rw [show f12_refuses M5 (1 : Int32) = _ from r1, bn2_s], r2, GA_sRf (GA_sFa hg)⟩
