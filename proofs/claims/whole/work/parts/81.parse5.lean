/-! ===== PART II, the reference: words that are known ===== -/
theorem here_loop {T : List Int32} {a1 : Nat} {M : MS} {p : Pz} (h : RP M T p) : ∀ (l : List Int32) (n i : Nat), T.drop i = l → i ≤ T.length → l.length < n → L12_isHere_35 a1 M n (nI i) = some (nI (i + ltN l)) := by
  obtain ⟨h1, h2, h3, h4, h5, h6, h7, h8, h9⟩ := h
  intro l
  induction l with
  | nil =>
    intro n i hd hi hn
    obtain ⟨n, rfl⟩ : ∃ j, n = j + 1 := ⟨n - 1, by omega⟩
    have hl : T.length - i = 0 := by have := congrArg List.length hd; rw [List.length_drop] at this; exact this
    unfold L12_isHere_35
    rw [show gF M 3 = _ from h1, if_pos (nI_le (by omega) (by omega))]
    rfl
  | cons c l ih =>
    intro n i hd hi hn
    rw [List.length_cons] at hn
    obtain ⟨n, rfl⟩ : ∃ j, n = j + 1 := ⟨n - 1, by omega⟩
    have hl : T.length - i = l.length + 1 := by have := congrArg List.length hd; rw [List.length_drop, List.length_cons] at this; exact this
    have hc : T[i]? = some c := by
      have : (T.drop i)[0]? = some c := by rw [hd]; rfl
      rw [List.getElem?_drop] at this
      exact this
    have hd' : T.drop (i + 1) = l := by
      have := (drop_get hc).1
      rw [hd] at this
      exact (List.cons.inj this).2.symm
    have hld : ld M 0 (nI i) = some c := by
      have h0 := h2 i (by omega)
      rw [Nat.zero_add, List.getD_eq_getElem?_getD, hc] at h0
      rw [ld_n (show i < 1600 by omega), h0]; rfl
    unfold L12_isHere_35
    rw [show gF M 3 = _ from h1, if_neg (nI_ge (by omega) (by omega)), hld, Option.bind_some, isLetter_ok, Option.bind_some, ltN]
    cases hg : isLt c with
    | false => rw [if_pos (show bI false = (0 : Int32) from rfl), if_neg (by decide)]; rfl
    | true =>
      rw [if_neg (show ¬ bI true = (0 : Int32) from by decide), if_pos rfl, nI_1, ih n (i + 1) hd' (by omega) (by omega), show i + 1 + ltN l = i + (ltN l + 1) by omega]
theorem same_loop {T : List Int32} {a1 : Nat} {M : MS} {p : Pz} {w : List Int32} (h : RP M T p) (hw : seg (M.2.1 a1) 0 w) (hln : mLn a1 = w.length) (hfit : pAt p + w.length ≤ T.length) : ∀ (d n i : Nat), i + d = w.length → d < n →
    L12_isHere_76 a1 M n (nI i) = some (if (T.drop (pAt p + i)).take d = w.drop i then 1 else 0) := by
  obtain ⟨h1, h2, h3, h4, h5, h6, h7, h8, h9⟩ := h
  intro d
  induction d with
  | zero =>
    intro n i hi hn
    obtain ⟨n, rfl⟩ : ∃ j, n = j + 1 := ⟨n - 1, by omega⟩
    unfold L12_isHere_76
    rw [show Int32.ofNat (mLn a1) = nI w.length by rw [hln]; rfl, if_pos (nI_le (by omega) (by omega)), if_pos]
    rw [List.take_zero, List.drop_eq_nil_of_le (by omega)]
  | succ d ih =>
    intro n i hi hn
    obtain ⟨n, rfl⟩ : ∃ j, n = j + 1 := ⟨n - 1, by omega⟩
    have hiw : i < w.length := by omega
    have hT : T[pAt p + i]? = some (T.getD (pAt p + i) 0) := by rw [List.getD_eq_getElem?_getD, List.getElem?_eq_getElem (by omega)]; rfl
    have hW : w[i]? = some (w.getD i 0) := by rw [List.getD_eq_getElem?_getD, List.getElem?_eq_getElem (by omega)]; rfl
    have h0 := h2 (pAt p + i) (by omega)
    have h0' := hw i hiw
    rw [Nat.zero_add] at h0 h0'
    unfold L12_isHere_76
    rw [show Int32.ofNat (mLn a1) = nI w.length by rw [hln]; rfl, if_neg (nI_ge (by omega) (by omega)), show gF M 2 = _ from h3, nI_add, ld_n (show pAt p + i < 1600 by omega), h0, Option.bind_some, ld_n (by rw [hln]; exact hiw), h0', Option.bind_some, (drop_get hT).1, (drop_get hW).1, List.take_succ_cons]
    by_cases hv : T.getD (pAt p + i) 0 = w.getD i 0
    · rw [if_pos hv, nI_1, ih n (i + 1) (by omega) (by omega), hv, show pAt p + (i + 1) = pAt p + i + 1 by omega]
      by_cases hs : (T.drop (pAt p + i + 1)).take d = w.drop (i + 1)
      · rw [if_pos hs, if_pos (by rw [hs])]
      · rw [if_neg hs, if_neg (fun hh => hs (List.cons.inj hh).2)]
    · rw [if_neg hv, if_neg (fun hh => hv (List.cons.inj hh).1)]
/-- blanks are passed, if there is no fault -/
def pLk (T : List Int32) (p : Pz) : Pz := if pBd p = 0 then (lkP T (pAt p), p.2) else p
/-- whether a word stands next -/
def pHere (T w : List Int32) (p : Pz) : Bool := decide (pBd p = 0 ∧ isLt (byteAt T (lkP T (pAt p))) = true ∧ pEd p ≠ some (lkP T (pAt p)) ∧ ltN (T.drop (lkP T (pAt p))) = w.length ∧ (T.drop (lkP T (pAt p))).take w.length = w)
theorem ltN_drop {T : List Int32} {i : Nat} : i + ltN (T.drop i) ≤ max i T.length := by
  have := ltN_le (T.drop i)
  rw [List.length_drop] at this
  omega
theorem isHere_ok {M : MS} {T w : List Int32} {p : Pz} {a1 : Nat} (h : RP M T p) (hE : ∀ x, pEd p = some x → x ≤ 1600) (hw : seg (M.2.1 a1) 0 w) (hln : mLn a1 = w.length) (hw7 : w.length ≤ 7) : ∃ M', f12_isHere M a1 = some (bI (pHere T w p), M') ∧ RP M' T (pLk T p) ∧ Frm [] [2] M M' := by
  obtain ⟨h1, h2, h3, h4, h5, h6, h7, h8, h9⟩ := id h
  unfold f12_isHere pLk
  rw [show gF M 5 = _ from h5]
  by_cases hb : pBd p = 0
  · obtain ⟨M2, g1, g2, g3⟩ := look_ok h
    have hlk := lkP_le h8
    rw [hb, if_pos (show nI 0 = (0 : Int32) from rfl), if_pos rfl, g1, bn2_s, isLetter_ok, Option.bind_some]
    have hat : gF M2 2 = nI (lkP T (pAt p)) := g2.2.2.1
    refine ⟨M2, ?_, g2, g3⟩
    cases hd : isLt (byteAt T (lkP T (pAt p))) with
    | false =>
      rw [if_pos (show bI false = (0 : Int32) from rfl), show pHere T w p = false from by unfold pHere; rw [hd]; simp]
      rfl
    | true =>
      rw [if_neg (show ¬ bI true = (0 : Int32) from by decide)]
      have hee := ed_eq g2 (by intro x hx; exact hE x hx)
      by_cases hq : pEd p = some (lkP T (pAt p))
      · rw [if_pos (hee.mpr hq), show pHere T w p = false from by unfold pHere; simp [hq]]
        rfl
      · rw [if_neg (fun hh => hq (hee.mp hh)), hat, here_loop g2 (T.drop (lkP T (pAt p))) FU (lkP T (pAt p)) rfl hlk (by rw [List.length_drop, FU_eq]; omega), Option.bind_some, nI_sub (by omega), show lkP T (pAt p) + ltN (T.drop (lkP T (pAt p))) - lkP T (pAt p) = ltN (T.drop (lkP T (pAt p))) by omega, show Int32.ofNat (mLn a1) = nI w.length by rw [hln]; rfl]
        have hln2 := ltN_le (T.drop (lkP T (pAt p)))
        rw [List.length_drop] at hln2
        by_cases hlw : ltN (T.drop (lkP T (pAt p))) = w.length
        · rw [if_pos (by rw [hlw])]
          have hsm := same_loop (p := (lkP T (pAt p), p.2)) g2 (by rw [g3.1 a1 (by simp)]; exact hw) hln (show lkP T (pAt p) + w.length ≤ T.length by omega) w.length FU 0 (by omega) (by rw [FU_eq]; omega)
          rw [show L12_isHere_76 a1 M2 FU (0 : Int32) = _ from hsm, Option.bind_some, List.drop_zero, Nat.add_zero]
          by_cases hs : (T.drop (lkP T (pAt p))).take w.length = w
          · rw [if_pos hs, if_neg (by decide), show pHere T w p = true from by unfold pHere; exact decide_eq_true ⟨hb, hd, hq, hlw, hs⟩]
            rfl
          · rw [if_neg hs, if_pos rfl, show pHere T w p = false from by unfold pHere; exact decide_eq_false (fun hh => hs hh.2.2.2.2)]
            rfl
        · rw [if_neg (by rw [nI_eq (by omega) (by omega)]; exact hlw), show pHere T w p = false from by unfold pHere; exact decide_eq_false (fun hh => hlw hh.2.2.2.1)]
          rfl
  · rw [if_neg (nI_ne0 (by omega) (by omega)), if_neg hb, show pHere T w p = false from by unfold pHere; exact decide_eq_false (fun hh => hb hh.1)]
    exact ⟨M, rfl, h, Frm_refl _ _ _⟩
def pTake (T w : List Int32) (p : Pz) : Bool × Pz := if pHere T w p then (true, endW (lkP T (pAt p) + w.length, p.2)) else (false, pLk T p)
theorem pHere_fit {T w : List Int32} {p : Pz} (h : pHere T w p = true) : pBd p = 0 ∧ lkP T (pAt p) + w.length ≤ max (lkP T (pAt p)) T.length := by
  unfold pHere at h
  obtain ⟨h1, h2, h3, h4, h5⟩ := of_decide_eq_true h
  have := ltN_drop (T := T) (i := lkP T (pAt p))
  exact ⟨h1, by omega⟩
theorem takes_ok {M : MS} {T w : List Int32} {p : Pz} {a1 : Nat} (h : RP M T p) (hE : ∀ x, pEd p = some x → x ≤ 1600) (hw : seg (M.2.1 a1) 0 w) (hln : mLn a1 = w.length) (hw7 : w.length ≤ 7) : ∃ M', f12_takes M a1 = some (bI (pTake T w p).1, M') ∧ RP M' T (pTake T w p).2 ∧ Frm [] [2, 4] M M' := by
  obtain ⟨M2, g1, g2, g3⟩ := isHere_ok h hE hw hln hw7
  unfold f12_takes pTake
  rw [g1, bn2_s]
  cases hh : pHere T w p with
  | false =>
    rw [if_pos (show bI false = (0 : Int32) from rfl), if_neg (by decide)]
    exact ⟨M2, rfl, g2, Frm_mono g3 (by simp) (by simp)⟩
  | true =>
    obtain ⟨b1, b2⟩ := pHere_fit hh
    have hlk := lkP_le h.2.2.2.2.2.2.2.1
    have g2' : RP M2 T (lkP T (pAt p), p.2) := by unfold pLk at g2; rw [if_pos b1] at g2; exact g2
    rw [if_neg (show ¬ bI true = (0 : Int32) from by decide), if_pos rfl, show gF M2 2 = nI (lkP T (pAt p)) from g2'.2.2.1, show Int32.ofNat (mLn a1) = nI w.length by rw [hln]; rfl, nI_add]
    refine ⟨_, rfl, ?_, Frm_trans (Frm_mono g3 (by simp) (by simp)) (Frm_trans (Frm_sF (by decide)) (Frm_sF (by decide)))⟩
    exact RP_ed (RP_at (p := (lkP T (pAt p), p.2)) (i := lkP T (pAt p) + w.length) g2' (by omega))
def pAsk (T w : List Int32) (p : Pz) : Pz := if pBd p = 0 then (if (pTake T w p).1 then (pTake T w p).2 else pFail (pTake T w p).2 1 (pAt (pTake T w p).2)) else p
theorem asks_ok {M : MS} {T w : List Int32} {p : Pz} {a1 : Nat} (h : RP M T p) (hE : ∀ x, pEd p = some x → x ≤ 1600) (hw : seg (M.2.1 a1) 0 w) (hln : mLn a1 = w.length) (hw7 : w.length ≤ 7) : ∃ M', f12_asks M a1 = some M' ∧ RP M' T (pAsk T w p) ∧ Frm [] [2, 4, 5, 6] M M' := by
  obtain ⟨h1, h2, h3, h4, h5, h6, h7, h8, h9⟩ := id h
  unfold f12_asks pAsk
  rw [show gF M 5 = _ from h5]
  by_cases hb : pBd p = 0
  · obtain ⟨M4, g1, g2, g3⟩ := takes_ok h hE hw hln hw7
    rw [hb, if_pos (show nI 0 = (0 : Int32) from rfl), if_pos rfl, g1, bn2_s]
    cases hs : (pTake T w p).1 with
    | true =>
      rw [if_neg (show ¬ bI true = (0 : Int32) from by decide), if_pos rfl, Option.bind_some]
      exact ⟨M4, rfl, g2, Frm_mono g3 (by simp) (by simp)⟩
    | false =>
      obtain ⟨M5, f1, f2, f3⟩ := fail_ok (kind := 1) (place := pAt (pTake T w p).2) g2 (by omega)
      rw [if_pos (show bI false = (0 : Int32) from rfl), if_neg (by decide), show gF M4 2 = _ from g2.2.2.1, show f12_fail M4 (1 : Int32) (nI (pAt (pTake T w p).2)) = some M5 from f1, Option.bind_some, Option.bind_some]
      exact ⟨M5, rfl, f2, Frm_trans (Frm_mono g3 (by simp) (by simp)) (Frm_mono f3 (by simp) (by simp))⟩
  · rw [if_neg (nI_ne0 (by omega) (by omega)), if_neg hb, Option.bind_some]
    exact ⟨M, rfl, h, Frm_refl _ _ _⟩
