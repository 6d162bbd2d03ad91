/-! ===== PART II, the class: session, all of it ===== -/
theorem pS1_le {T : List Int32} (h : pBd (pS1 T) = 0) : pAt (pS1 T) ≤ T.length := by
  unfold pS1 at h ⊢
  obtain ⟨g1, g2, g3⟩ := askS_good h
  rw [g3]
  show lkP T _ + 1 ≤ T.length
  exact Decidable.byContradiction fun hh => by
    rw [byte_end (by omega)] at g2; exact absurd g2 (by decide)
section TI
variable {S S' S'' : CS} {z fi ch c i k q : Nat} {A A' : St} {K K' : Nat → Option Nat} {H : Nat → Prop} {X : Nat × Nat} {T : List Int32} {R : List Sm}
theorem ses_cnt {ties : Nat} {W : Wd} (h : Ses z A T R K fi ch ties W S) : gr S 11 z 0 = some (z + 1) ∧ gi S 8 (z + 1) 4 = some (nI (1 + R.length)) := by
  obtain ⟨h1, hst, hts⟩ := h
  exact ⟨(TpS_g h1.2.1).1, by rw [gi_k h1.2.1.2.2.1.1, hts.1]⟩
/-- the statement before the first: nothing -/
theorem settle_0 {ties : Nat} {W : Wd} (h : Ses z A T R K fi ch ties W S) : cal S 11 z (f11_settle S z 0) = some S := by
  obtain ⟨h1, hst, hts⟩ := h
  have hT := h1.2.1
  obtain ⟨k1, k2⟩ := kindOf_T (c := 0) hT (by omega)
  have n0 := numOf_T (c := 0) (j := 0) hT (by omega)
  have n0' : cal S 8 (z + 1) (f8_numberOf S (z + 1) 0 0) = some (cA S (z + 5) (4 * 0 + 0)) := n0
  have k2' : ldi S (z + 4) 0 = some (cA S (z + 4) 0) := k2
  rw [hts.2.2.2.2.1] at k2'
  rw [cal_k hT.1]
  unfold f11_settle
  rw [(TpS_g hT).1, Option.bind_some, n0', Option.bind_some, Option.bind_some, k1, Option.bind_some, k2', Option.bind_some, if_neg (show ¬ (0 : Int32) = 2 by decide), Option.bind_some, k1, Option.bind_some, k2', Option.bind_some, if_neg (show ¬ (0 : Int32) = 1 by decide), Option.bind_some]
theorem perform_0 {ties : Nat} {W : Wd} (h : Ses z A T R K fi ch ties W S) : cal S 11 z (f11_perform X S z 0) = some S := by
  obtain ⟨h1, hst, hts⟩ := h
  have hT := h1.2.1
  obtain ⟨k1, k2⟩ := kindOf_T (c := 0) hT (by omega)
  have n0 := numOf_T (c := 0) (j := 0) hT (by omega)
  have n0' : cal S 8 (z + 1) (f8_numberOf S (z + 1) 0 0) = some (cA S (z + 5) (4 * 0 + 0)) := n0
  have k2' : ldi S (z + 4) 0 = some (cA S (z + 4) 0) := k2
  rw [hts.2.2.2.2.1] at k2'
  rw [cal_k hT.1]
  unfold f11_perform
  rw [(TpS_g hT).1, Option.bind_some, k1, Option.bind_some, k2', Option.bind_some, Option.bind_some, n0', Option.bind_some, if_neg (show ¬ (0 : Int32) = 8 by decide), if_pos (show (0 : Int32) = 0 from rfl), Option.bind_some]
/-- the beginnings, one after another -/
theorem settle_loop (hg : GA A) (hS1 : pBd (pS1 T) = 0) (hR60 : R.length + 1 ≤ 60) (hgs : ∀ s ∈ R, GoodSm (cntT T) s) : ∀ (n m j ties : Nat) (W : Wd) (S : CS), R.length = j + n → n < m → Ses z A T R K fi ch ties W S → FrW (cntT T) (toldT T) W → ties ≤ 2 →
    ∃ S', LX11_session_28 z m (nI (1 + j)) S = some S' ∧ Ses z A T R K fi ch ((R.drop j).foldl laidS (ties, W)).1 ((R.drop j).foldl laidS (ties, W)).2 S' ∧ FrW (cntT T) (toldT T) ((R.drop j).foldl laidS (ties, W)).2 ∧ ((R.drop j).foldl laidS (ties, W)).1 ≤ 2 ∧ Cst z 0 S S' := by
  obtain ⟨c2, c4, cf, ctl, _, cto, _, _⟩ := head_good hS1
  intro n
  induction n with
  | zero =>
    intro m j ties W S hn hm h hf ht
    obtain ⟨m, rfl⟩ : ∃ j, m = j + 1 := ⟨m - 1, by omega⟩
    obtain ⟨e1, e2⟩ := ses_cnt h
    rw [List.drop_of_length_le (by omega)]
    unfold LX11_session_28
    rw [e1, Option.bind_some, e2, Option.bind_some, if_pos (nI_le (by omega) (by omega))]
    exact ⟨S, rfl, h, hf, ht, Cst_rf z S⟩
  | succ n ih =>
    intro m j ties W S hn hm h hf ht
    obtain ⟨m, rfl⟩ : ∃ j, m = j + 1 := ⟨m - 1, by omega⟩
    obtain ⟨e1, e2⟩ := ses_cnt h
    have hj : j < R.length := by omega
    have hg1 : GA (newA A T ties W) := GA_new hg hS1 (FrW_good hf c4 ht ctl cto) (by show W.1.1 ≤ 999; rw [hf.1]; decide)
    have hgj := hgs R[j] (List.getElem_mem hj)
    obtain ⟨S2, a1, a2, a3⟩ := settle_C h hg1 (List.getElem?_eq_getElem hj) (by omega) hgj
    have hd : R.drop j = R[j] :: R.drop (j + 1) := List.drop_eq_getElem_cons hj
    have hfl : FrW (cntT T) (toldT T) (laidS (ties, W) R[j]).2 ∧ (laidS (ties, W) R[j]).1 ≤ 2 := by
      unfold laidS
      by_cases k1 : R[j].1 = 1
      · rw [if_pos k1]; exact ⟨FrW_laid hf (hgj.2.2.1 k1), ht⟩
      · rw [if_neg k1]
        by_cases k2 : R[j].1 = 2
        · rw [if_pos k2]; exact ⟨hf, hgj.2.2.2.1 k2⟩
        · rw [if_neg k2]; exact ⟨hf, ht⟩
    obtain ⟨S', b1, b2, b3, b4, b5⟩ := ih m (j + 1) _ _ S2 (by omega) (by omega) a2 hfl.1 hfl.2
    rw [hd, List.foldl_cons]
    unfold LX11_session_28
    rw [e1, Option.bind_some, e2, Option.bind_some, if_neg (nI_ge (by omega) (by omega)), a1, Option.bind_some, show nI (1 + j) + (1 : Int32) = nI (1 + (j + 1)) from nI_add (1 + j) 1, b1]
    exact ⟨S', rfl, b2, b3, b4, Cst_mono (Cst_tr a3 b5) (by omega)⟩
/-- what is told is done, one after another -/
theorem perform_loop {ties : Nat} (hg : GA A) (hS1 : pBd (pS1 T) = 0) (hR60 : R.length + 1 ≤ 60) (hgs : ∀ s ∈ R, GoodSm (cntT T) s) : ∀ (n m j : Nat) (W : Wd) (S : CS), R.length = j + n → n < m → Ses z A T R K fi ch ties W S → Good (cntT T) ties (toldT T).length W → wTk W ≤ 999 → Rm z X (cstL (R.drop j) + c) S →
    ∃ S', LX11_session_52 X z m (nI (1 + j)) S = some S' ∧ Ses z A T R K fi ch ties ((R.drop j).foldl (doneS (cntT T) ties) W) S' ∧ Cst z (cstL (R.drop j)) S S' := by
  obtain ⟨c2, c4, cf, ctl, _, cto, _, _⟩ := head_good hS1
  intro n
  induction n with
  | zero =>
    intro m j W S hn hm h hf ht hRm
    obtain ⟨m, rfl⟩ : ∃ j, m = j + 1 := ⟨m - 1, by omega⟩
    obtain ⟨e1, e2⟩ := ses_cnt h
    rw [List.drop_of_length_le (by omega)]
    unfold LX11_session_52
    rw [e1, Option.bind_some, e2, Option.bind_some, if_pos (nI_le (by omega) (by omega))]
    exact ⟨S, rfl, h, Cst_rf z S⟩
  | succ n ih =>
    intro m j W S hn hm h hf ht hRm
    obtain ⟨m, rfl⟩ : ∃ j, m = j + 1 := ⟨m - 1, by omega⟩
    obtain ⟨e1, e2⟩ := ses_cnt h
    have hj : j < R.length := by omega
    have hg1 : GA (newA A T ties W) := GA_new hg hS1 hf ht
    have hgj := hgs R[j] (List.getElem_mem hj)
    have hd : R.drop j = R[j] :: R.drop (j + 1) := List.drop_eq_getElem_cons hj
    rw [hd] at hRm
    have hRm' : Rm z X (cst R[j] + (cstL (R.drop (j + 1)) + c)) S := Rm_mono hRm (by show _ ≤ cst R[j] + cstL (R.drop (j + 1)) + c; omega)
    obtain ⟨S2, a1, a2, a3⟩ := perf_C h hg1 (by omega) (List.getElem?_eq_getElem hj) (by omega) hgj hRm'
    obtain ⟨S', b1, b2, b3⟩ := ih m (j + 1) _ S2 (by omega) (by omega) a2 (done_good hg1 hgj (by omega)) (done_tk ht) (Rm_cst hRm' a3)
    rw [hd, List.foldl_cons]
    unfold LX11_session_52
    rw [e1, Option.bind_some, e2, Option.bind_some, if_neg (nI_ge (by omega) (by omega)), a1, Option.bind_some, show nI (1 + j) + (1 : Int32) = nI (1 + (j + 1)) from nI_add (1 + j) 1, b1]
    exact ⟨S', rfl, b2, by have := Cst_tr a3 b3; exact this⟩
/-- session -/
theorem session_A (h : CR S z A K fi ch) (hg : GA A) (hch : ch < 1000) (hR : Rm z X (320 * (aTape A).length + c) S) : ∃ S' ch', f11_session X S z = some ((aSess A).1, S') ∧ CR S' z (aSess A).2 K fi ch' ∧ ch' ≤ ch + 1 ∧ Cst z (320 * (aTape A).length) S S' := by
  obtain ⟨hW, hT, hTp, hTf, hsh, hwd, ha, hk, hh, hc⟩ := id h
  obtain ⟨S3, r, r1, r2, r3⟩ := readSes_R h hg
  obtain ⟨S4, n1, n2, n3⟩ := read_C h hg r2 (fun hb => (r3 hb).1)
  have hr := r2.2.2.2.2.2
  have hlen := all_len (T := aTape A) (cnt := cntT (aTape A))
  have hgd := fun hc1 : 1 ≤ cntT (aTape A) => all_good (T := aTape A) hc1
  have hsb := sess_bd (T := aTape A)
  obtain ⟨d, hd, hE⟩ := sess_eq (aTape A)
  have hg4 : GA (sFa A (pSess (aTape A)).2) := GA_sFa hg
  unfold f11_session aSess
  rw [(TpS_g hT).1, Option.bind_some, r1, bn2_s, n1, Option.bind_some, hr]
  generalize pSess (aTape A) = P at *
  generalize aTape A = T at *
  by_cases hb : pBd P.2 = 0
  · obtain ⟨g1, g2⟩ := r3 hb
    have hS1 := hsb hb
    obtain ⟨c2, c4, cf, ctl, _, cto, _, _⟩ := head_good hS1
    have hEb : pBd (pAll T (cntT T) d 1 (pS1 T)).2 = 0 := by rw [← hE]; exact hb
    have hl60 := hlen d 1 (pS1 T) cf (by omega) hEb
    obtain ⟨gs, gc⟩ := hgd (by omega) d 1 (pS1 T) cf (pS1_le hS1) hEb
    rw [← hE] at hl60 gs gc
    have ts4 : TSt S4 z T P.1 := TSt_Sg r2.1.1 (TpS_Sg hW hT r2.1) g2 n3 (by omega)
    have hA1 : (sFa A P.2).1 = ([], 0, -1, aRf (sFa A P.2)) := by
      show ([], nI (pBd P.2), oI (pBp P.2), aRf A) = ([], 0, -1, aRf A)
      rw [hb, g1]; rfl
    obtain ⟨S5, b1, b2, b3, b4, b5⟩ := beginTold_C n2 hg4 hA1 hch ts4 hS1
    have h0 : Ses z (sFa A P.2) T P.1 K fi (ch + 1) 0 (W0t (toldT T)) S5 := ⟨b2, b3, b4⟩
    have hF : FU = (FU - 1) + 1 := by rw [FU_eq]
    obtain ⟨e1, e2⟩ := ses_cnt h0
    obtain ⟨S6, l1, l2, l3, l4, l5⟩ := settle_loop (R := P.1) hg4 hS1 hl60 gs P.1.length (FU - 1) 0 0 (W0t (toldT T)) S5 (by omega) (by rw [FU_eq]; omega) h0 (W0t_Fr _ _) (by omega)
    rw [List.drop_zero] at l2 l3 l4
    have hl28 : LX11_session_28 z FU 0 S5 = some S6 := by
      rw [hF]
      unfold LX11_session_28
      rw [e1, Option.bind_some, e2, Option.bind_some, if_neg (show ¬ nI (1 + P.1.length) ≤ (0 : Int32) from nI_ge (a := 0) (by omega) (by omega)), settle_0 h0, Option.bind_some]
      exact l1
    have hcost : cstL P.1 ≤ 320 * T.length := by omega
    have sA : Cst z 0 S S6 := by
      have := Cst_tr (Cst_tr (Cst_tr (Cst_of r2.1) (Cst_of n3)) b5) l5
      exact Cst_mono this (by omega)
    have hR6 : Rm z X (cstL (P.1.drop 0) + c) S6 := Rm_cst (c := 0) (d := cstL (P.1.drop 0) + c) (by rw [Nat.zero_add, List.drop_zero]; exact Rm_mono hR (by omega)) sA
    generalize hLW : P.1.foldl laidS (0, W0t (toldT T)) = LW at *
    have hgL : Good (cntT T) LW.1 (toldT T).length LW.2 := FrW_good l3 c4 l4 ctl cto
    obtain ⟨S8, p1, p2, p3⟩ := perform_loop (R := P.1) hg4 hS1 hl60 gs P.1.length (FU - 1) 0 LW.2 S6 (by omega) (by rw [FU_eq]; omega) l2 hgL (by show LW.2.1.1 ≤ 999; rw [l3.1]; decide) hR6
    rw [List.drop_zero] at p2 p3
    obtain ⟨e3, e4⟩ := ses_cnt l2
    have hl52 : LX11_session_52 X z FU 0 S6 = some S8 := by
      rw [hF]
      unfold LX11_session_52
      rw [e3, Option.bind_some, e4, Option.bind_some, if_neg (show ¬ nI (1 + P.1.length) ≤ (0 : Int32) from nI_ge (a := 0) (by omega) (by omega)), perform_0 l2, Option.bind_some]
      exact p1
    obtain ⟨e5, e6⟩ := ses_cnt p2
    rw [decide_eq_true hb, if_neg (show ¬ bI true = 0 by decide), b1, Option.bind_some, hl28, Option.bind_some, hl52, Option.bind_some, e5, Option.bind_some, e6, Option.bind_some, if_pos hb]
    refine ⟨S8, ch + 1, rfl, ?_, by omega, Cst_mono (Cst_tr sA p3) (by omega)⟩
    have hN : newSt A T P.1 = newA (sFa A P.2) T LW.1 (P.1.foldl (doneS (cntT T) LW.1) LW.2) := by
      unfold newSt
      rw [hLW]; rfl
    show CR S8 z (newSt A T P.1) K fi (ch + 1)
    rw [hN]
    exact p2.1
  · obtain ⟨S', x1, x2, x3⟩ := refuse_C (k := 1) n2 hg4 (by omega)
    rw [decide_eq_false hb, if_pos (show bI false = 0 from rfl), show cal S4 11 z (f11_refuse S4 z 1) = _ from x1, bn2_s, if_neg hb]
    exact ⟨S', ch, rfl, x2, by omega, Cst_mono (Cst_tr (Cst_tr (Cst_of r2.1) (Cst_of n3)) x3) (by omega)⟩
end TI
