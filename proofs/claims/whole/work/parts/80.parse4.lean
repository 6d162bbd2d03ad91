/-! ===== PART II, the reference: a word on the tape ===== -/
def ltN : List Int32 → Nat
  | [] => 0
  | c :: l => if isLt c then ltN l + 1 else 0
theorem ltN_le (l : List Int32) : ltN l ≤ l.length := by
  induction l with
  | nil => exact Nat.le_refl _
  | cons c l ih => rw [ltN, List.length_cons]; split <;> omega
theorem word_loop {T : List Int32} {q most : Nat} (hm : most < 1000) : ∀ (l : List Int32) (n d : Nat) (p : Pz) (M : MS), RP M T p → pBd p = 0 → pAt p = q + d → T.drop (q + d) = l → d ≤ most → l.length + 1 < n →
    ∃ M', L12_word_47 (nI most) (nI q) n M = some M' ∧ RP M' T (if d + ltN l ≤ most then (q + d + ltN l, p.2) else pFail (q + most, p.2) 1 (q + most)) ∧ Frm [] [2, 5, 6] M M' := by
  intro l
  induction l with
  | nil =>
    intro n d p M h hb hp hd hdm hn
    obtain ⟨n, rfl⟩ : ∃ j, n = j + 1 := ⟨n - 1, by omega⟩
    obtain ⟨h1, h2, h3, h4, h5, h6, h7, h8, h9⟩ := id h
    have hl : T.length - (q + d) = 0 := by have := congrArg List.length hd; rw [List.length_drop] at this; exact this
    unfold L12_word_47
    rw [show gF M 5 = _ from h5, hb, if_pos (show nI 0 = (0 : Int32) from rfl), show gF M 3 = _ from h1, show gF M 2 = _ from h3, if_pos (nI_le (by omega) (by omega)), if_pos (show d + ltN [] ≤ most from hdm)]
    exact ⟨M, rfl, by show RP M T (q + d, p.2); rw [← hp]; exact h, Frm_refl _ _ _⟩
  | cons c l ih =>
    intro n d p M h hb hp hd hdm hn
    rw [List.length_cons] at hn
    obtain ⟨n, rfl⟩ : ∃ j, n = j + 1 := ⟨n - 1, by omega⟩
    obtain ⟨h1, h2, h3, h4, h5, h6, h7, h8, h9⟩ := id h
    have hl : T.length - (q + d) = l.length + 1 := by have := congrArg List.length hd; rw [List.length_drop, List.length_cons] at this; exact this
    have hc : T[q + d]? = some c := by
      have : (T.drop (q + d))[0]? = some c := by rw [hd]; rfl
      rw [List.getElem?_drop] at this
      exact this
    have hd' : T.drop (q + (d + 1)) = l := by
      have := (drop_get hc).1
      rw [hd] at this
      exact (List.cons.inj this).2.symm
    have hld : ld M 0 (nI (q + d)) = some c := by
      have h0 := h2 (q + d) (by omega)
      rw [Nat.zero_add, List.getD_eq_getElem?_getD, hc] at h0
      rw [ld_n (show q + d < 1600 by omega), h0]; rfl
    unfold L12_word_47
    rw [show gF M 5 = _ from h5, hb, if_pos (show nI 0 = (0 : Int32) from rfl), show gF M 3 = _ from h1, show gF M 2 = _ from h3, hp, if_neg (nI_ge (by omega) (by omega)), hld, Option.bind_some, isLetter_ok, Option.bind_some]
    cases hg : isLt c with
    | false =>
      have e : ltN (c :: l) = 0 := by rw [ltN, if_neg (by rw [hg]; decide)]
      rw [if_pos (show bI false = (0 : Int32) from rfl), e, Nat.add_zero, Nat.add_zero, if_pos hdm]
      exact ⟨M, rfl, by rw [← hp]; exact h, Frm_refl _ _ _⟩
    | true =>
      have e : ltN (c :: l) = ltN l + 1 := by rw [ltN, if_pos hg]
      rw [if_neg (show ¬ bI true = (0 : Int32) from by decide), nI_sub (by omega), show q + d - q = d by omega, e]
      by_cases hdq : d = most
      · subst hdq
        rw [if_pos rfl, if_neg (by omega)]
        obtain ⟨M3, f1, f2, f3⟩ := fail_ok (kind := 1) (place := q + d) h (by omega)
        obtain ⟨n, rfl⟩ : ∃ j, n = j + 1 := ⟨n - 1, by omega⟩
        refine ⟨M3, ?_, ?_, Frm_mono f3 (by simp) (by simp)⟩
        · rw [show f12_fail M (1 : Int32) (nI (q + d)) = some M3 from f1, Option.bind_some]
          unfold L12_word_47
          have hbad : M3.1 5 = nI 1 := by
            have := f2.2.2.2.2.1
            unfold pFail at this
            rw [if_pos hb] at this
            exact this
          rw [show gF M3 5 = _ from hbad, if_neg (by decide)]
        · have hpp : (q + d, p.2) = p := by rw [← hp]
          rw [hpp]; exact f2
      · rw [if_neg (by rw [nI_eq (by omega) (by omega)]; exact hdq), nI_1]
        obtain ⟨M', g1, g2, g3⟩ := ih n (d + 1) (q + (d + 1), p.2) (sF M 2 (nI (q + d + 1))) (RP_at (i := q + d + 1) h (by omega)) hb rfl hd' (by omega) (by omega)
        refine ⟨M', g1, ?_, Frm_trans (Frm_sF (by decide)) g3⟩
        rw [show d + (ltN l + 1) = d + 1 + ltN l by omega, show q + d + (ltN l + 1) = q + (d + 1) + ltN l by omega]
        exact g2
def endW (p : Pz) : Pz := (pAt p, some (pAt p), p.2.2)
def pWord (T : List Int32) (most : Nat) (p : Pz) : Nat × Pz :=
  if pBd p = 0 then
    (lkP T (pAt p), endW (if isLt (byteAt T (lkP T (pAt p))) = true ∧ pEd p ≠ some (lkP T (pAt p)) then (if 0 + ltN (T.drop (lkP T (pAt p))) ≤ most then (lkP T (pAt p) + 0 + ltN (T.drop (lkP T (pAt p))), p.2) else pFail (lkP T (pAt p) + most, p.2) 1 (lkP T (pAt p) + most)) else pFail (lkP T (pAt p), p.2) 1 (lkP T (pAt p))))
  else (pAt p, p)
theorem word_ok {M : MS} {T : List Int32} {p : Pz} {most : Nat} (h : RP M T p) (hE : ∀ x, pEd p = some x → x ≤ 1600) (hm : most < 1000) : ∃ M', f12_word M (nI most) = some (nI (pWord T most p).1, M') ∧ RP M' T (pWord T most p).2 ∧ Frm [] [2, 4, 5, 6] M M' := by
  obtain ⟨h1, h2, h3, h4, h5, h6, h7, h8, h9⟩ := id h
  unfold f12_word pWord
  rw [show gF M 5 = _ from h5]
  by_cases hb : pBd p = 0
  · obtain ⟨M2, g1, g2, g3⟩ := look_ok h
    have hlk := lkP_le h8
    rw [hb, if_pos (show nI 0 = (0 : Int32) from rfl), if_pos rfl, g1, bn2_s, isLetter_ok, Option.bind_some]
    have hat : gF M2 2 = nI (lkP T (pAt p)) := g2.2.2.1
    obtain ⟨M4, f1, f2, f3⟩ := fail_ok (kind := 1) (place := lkP T (pAt p)) g2 (by omega)
    have hF : ∃ M', (((f12_fail M2 (1 : Int32) (gF M2 2)).bind fun M6 => some M6).bind fun M4 => (L12_word_47 (nI most) (gF M4 2) FU M4).bind fun M8 => some ((gF M4 2), (sF M8 4 (gF M8 2)))) = some (nI (lkP T (pAt p)), M') ∧ RP M' T (endW (pFail (lkP T (pAt p), p.2) 1 (lkP T (pAt p)))) ∧ Frm [] [2, 4, 5, 6] M M' := by
      obtain ⟨n, hn⟩ : ∃ n, FU = n + 1 := ⟨19999, FU_eq⟩
      have hbad : M4.1 5 = nI 1 := by
        have := f2.2.2.2.2.1
        unfold pFail at this
        rw [if_pos (show pBd (lkP T (pAt p), p.2) = 0 from hb)] at this
        exact this
      have hwl : L12_word_47 (nI most) (gF M4 2) FU M4 = some M4 := by
        rw [hn]
        unfold L12_word_47
        rw [show gF M4 5 = _ from hbad, if_neg (by decide)]
      have hat4 : pAt (pFail (lkP T (pAt p), p.2) 1 (lkP T (pAt p))) = lkP T (pAt p) := by unfold pFail; split <;> rfl
      refine ⟨sF M4 4 (gF M4 2), ?_, RP_ed f2, Frm_trans (Frm_mono g3 (by simp) (by simp)) (Frm_trans (Frm_mono f3 (by simp) (by simp)) (Frm_sF (by decide)))⟩
      rw [hat, show f12_fail M2 (1 : Int32) (nI (lkP T (pAt p))) = some M4 from f1, Option.bind_some, Option.bind_some, hwl, Option.bind_some, show gF M4 2 = _ from f2.2.2.1, hat4]
    cases hd : isLt (byteAt T (lkP T (pAt p))) with
    | false =>
      rw [if_pos (show bI false = (0 : Int32) from rfl), if_neg (fun hh => by cases hh.1)]
      exact hF
    | true =>
      rw [if_neg (show ¬ bI true = (0 : Int32) from by decide)]
      have hee := ed_eq g2 (by intro x hx; exact hE x hx)
      by_cases hq : pEd p = some (lkP T (pAt p))
      · rw [if_pos (hee.mpr hq), if_neg (fun hh => hh.2 hq)]
        exact hF
      · rw [if_neg (fun hh => hq (hee.mp hh)), if_pos (show true = true ∧ pEd p ≠ some (lkP T (pAt p)) from ⟨rfl, hq⟩), Option.bind_some, hat]
        obtain ⟨M8, n1, n2, n3⟩ := word_loop (q := lkP T (pAt p)) hm (T.drop (lkP T (pAt p))) FU 0 (lkP T (pAt p), p.2) M2 g2 hb rfl (by rw [Nat.add_zero]) (by omega) (by rw [List.length_drop, FU_eq]; omega)
        rw [n1, Option.bind_some]
        exact ⟨_, rfl, RP_ed n2, Frm_trans (Frm_mono g3 (by simp) (by simp)) (Frm_trans (Frm_mono n3 (by simp) (by simp)) (Frm_sF (by decide)))⟩
  · rw [if_neg (nI_ne0 (by omega) (by omega)), if_neg hb, show gF M 2 = _ from h3]
    exact ⟨M, rfl, h, Frm_refl _ _ _⟩
