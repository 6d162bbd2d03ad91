/-! ===== PART II, the reference: it reads the tape ===== -/
/-- where it is, where the last word or number ended, the fault, its place -/
abbrev Pz : Type := Nat × Option Nat × Nat × Option Nat
abbrev pAt (p : Pz) := p.1
abbrev pEd (p : Pz) := p.2.1
abbrev pBd (p : Pz) := p.2.2.1
abbrev pBp (p : Pz) := p.2.2.2
def RP (M : MS) (T : List Int32) (p : Pz) : Prop := M.1 3 = nI T.length ∧ seg (M.2.1 0) 0 T ∧ M.1 2 = nI (pAt p) ∧ M.1 4 = oI (pEd p) ∧ M.1 5 = nI (pBd p) ∧ M.1 6 = oI (pBp p) ∧ T.length ≤ 1600 ∧ pAt p ≤ T.length ∧ pBd p ≤ 5
def skL : List Int32 → Nat
  | [] => 0
  | v :: l => if v = 10 ∨ v = 32 then skL l + 1 else 0
theorem skL_le (l : List Int32) : skL l ≤ l.length := by
  induction l with
  | nil => exact Nat.le_refl _
  | cons v l ih => rw [skL, List.length_cons]; split <;> omega
/-- the place behind blanks -/
def lkP (T : List Int32) (i : Nat) : Nat := i + skL (T.drop i)
def byteAt (T : List Int32) (i : Nat) : Int32 := if i < T.length then T.getD i 0 else -1
theorem RP_at {M : MS} {T : List Int32} {p : Pz} {i : Nat} (h : RP M T p) (hi : i ≤ T.length) : RP (sF M 2 (nI i)) T (i, p.2) := by
  obtain ⟨h1, h2, h3, h4, h5, h6, h7, h8, h9⟩ := h
  exact ⟨by rw [sF_ne _ _ (by decide)]; exact h1, h2, sF_get _ _ _, by rw [sF_ne _ _ (by decide)]; exact h4, by rw [sF_ne _ _ (by decide)]; exact h5, by rw [sF_ne _ _ (by decide)]; exact h6, h7, hi, h9⟩
theorem look_loop {T : List Int32} : ∀ (l : List Int32) (n : Nat) (p : Pz) (M : MS), RP M T p → T.drop (pAt p) = l → l.length < n → ∃ M', L12_look_0 n M = some M' ∧ RP M' T (pAt p + skL l, p.2) ∧ Frm [] [2] M M' := by
  intro l
  induction l with
  | nil =>
    intro n p M h hd hn
    obtain ⟨n, rfl⟩ : ∃ j, n = j + 1 := ⟨n - 1, by omega⟩
    obtain ⟨h1, h2, h3, h4, h5, h6, h7, h8, h9⟩ := id h
    have hl : T.length - pAt p = 0 := by have := congrArg List.length hd; rw [List.length_drop] at this; exact this
    unfold L12_look_0
    rw [show gF M 3 = _ from h1, show gF M 2 = _ from h3, if_pos (nI_le (by omega) (by omega))]
    exact ⟨M, rfl, h, Frm_refl _ _ _⟩
  | cons v l ih =>
    intro n p M h hd hn
    rw [List.length_cons] at hn
    obtain ⟨n, rfl⟩ : ∃ j, n = j + 1 := ⟨n - 1, by omega⟩
    obtain ⟨h1, h2, h3, h4, h5, h6, h7, h8, h9⟩ := id h
    have hl : T.length - pAt p = l.length + 1 := by have := congrArg List.length hd; rw [List.length_drop, List.length_cons] at this; exact this
    have hv : T[pAt p]? = some v := by
      have : (T.drop (pAt p))[0]? = some v := by rw [hd]; rfl
      rw [List.getElem?_drop] at this
      exact this
    have hd' : T.drop (pAt p + 1) = l := by
      have := (drop_get hv).1
      rw [hd] at this
      exact (List.cons.inj this).2.symm
    have hld : ld M 0 (nI (pAt p)) = some v := by
      have h0 := h2 (pAt p) (by omega)
      rw [Nat.zero_add, List.getD_eq_getElem?_getD, hv] at h0
      rw [ld_n (show pAt p < 1600 by omega), h0]; rfl
    unfold L12_look_0
    rw [show gF M 3 = _ from h1, show gF M 2 = _ from h3, if_neg (nI_ge (by omega) (by omega)), hld, Option.bind_some, nI_1]
    have hrec := ih n (pAt p + 1, p.2) (sF M 2 (nI (pAt p + 1))) (RP_at h (by omega)) hd' (by omega)
    obtain ⟨M', g1, g2, g3⟩ := hrec
    have hfr : Frm [] [2] M M' := Frm_trans (Frm_sF (by decide)) g3
    rw [skL]
    by_cases hb : v = 10 ∨ v = 32
    · rw [if_pos hb]
      refine ⟨M', ?_, by rw [show pAt p + (skL l + 1) = pAt p + 1 + skL l by omega]; exact g2, hfr⟩
      rcases hb with hb | hb
      · rw [if_pos hb]; exact g1
      · by_cases h10 : v = 10
        · rw [if_pos h10]; exact g1
        · rw [if_neg h10, Option.bind_some, if_pos hb]; exact g1
    · rw [if_neg hb, if_neg (fun hh => hb (Or.inl hh)), Option.bind_some, if_neg (fun hh => hb (Or.inr hh))]
      exact ⟨M, rfl, h, Frm_refl _ _ _⟩
theorem look_ok {M : MS} {T : List Int32} {p : Pz} (h : RP M T p) : ∃ M', f12_look M = some (byteAt T (lkP T (pAt p)), M') ∧ RP M' T (lkP T (pAt p), p.2) ∧ Frm [] [2] M M' := by
  have h7 := h.2.2.2.2.2.2.1
  obtain ⟨M', g1, g2, g3⟩ := look_loop (T.drop (pAt p)) FU p M h rfl (by rw [List.length_drop, FU_eq]; omega)
  refine ⟨M', ?_, g2, g3⟩
  obtain ⟨r1, r2, r3, r4, r5, r6, r7, r8, r9⟩ := g2
  unfold f12_look byteAt
  rw [g1, Option.bind_some, show gF M' 3 = _ from r1, show gF M' 2 = nI (lkP T (pAt p)) from r3]
  by_cases hl : lkP T (pAt p) < T.length
  · have h0 := r2 (lkP T (pAt p)) hl
    rw [Nat.zero_add] at h0
    rw [if_neg (nI_ge hl (by omega)), ld_n (show lkP T (pAt p) < 1600 by omega), h0, Option.bind_some, Option.bind_some, if_pos hl]
  · rw [if_pos (nI_le (show T.length ≤ lkP T (pAt p) by omega) (by have : lkP T (pAt p) ≤ T.length := r8; omega)), Option.bind_some, if_neg hl]
/-- a fault, if there is none yet -/
def pFail (p : Pz) (kind place : Nat) : Pz := if pBd p = 0 then (pAt p, pEd p, kind, some place) else p
theorem fail_ok {M : MS} {T : List Int32} {p : Pz} {kind place : Nat} (h : RP M T p) (hk : kind ≤ 5) : ∃ M', f12_fail M (nI kind) (nI place) = some M' ∧ RP M' T (pFail p kind place) ∧ Frm [] [5, 6] M M' := by
  obtain ⟨h1, h2, h3, h4, h5, h6, h7, h8, h9⟩ := id h
  unfold f12_fail pFail
  rw [show gF M 5 = _ from h5]
  by_cases hb : pBd p = 0
  · rw [hb, if_pos (show nI 0 = (0 : Int32) from rfl), if_pos rfl]
    refine ⟨_, rfl, ⟨?_, h2, ?_, ?_, ?_, ?_, h7, h8, hk⟩, Frm_trans (Frm_sF (by decide)) (Frm_sF (by decide))⟩
    · rw [sF_ne _ _ (by decide), sF_ne _ _ (by decide)]; exact h1
    · rw [sF_ne _ _ (by decide), sF_ne _ _ (by decide)]; exact h3
    · rw [sF_ne _ _ (by decide), sF_ne _ _ (by decide)]; exact h4
    · rw [sF_ne _ _ (by decide), sF_get]
    · rw [sF_get]; rfl
  · rw [if_neg (nI_ne0 (by omega) (by omega)), if_neg hb]
    exact ⟨M, rfl, h, Frm_refl _ _ _⟩
/-- a sign is taken, if it stands next -/
def pSign (T : List Int32) (c : Int32) (p : Pz) : Bool × Pz := if pBd p = 0 then (if byteAt T (lkP T (pAt p)) = c then (true, (lkP T (pAt p) + 1, p.2)) else (false, (lkP T (pAt p), p.2))) else (false, p)
theorem takesSign_ok {M : MS} {T : List Int32} {p : Pz} {c : Int32} (h : RP M T p) (hc : c ≠ -1) : ∃ M', f12_takesSign M c = some (bI (pSign T c p).1, M') ∧ RP M' T (pSign T c p).2 ∧ Frm [] [2] M M' := by
  obtain ⟨h1, h2, h3, h4, h5, h6, h7, h8, h9⟩ := id h
  unfold f12_takesSign pSign
  rw [show gF M 5 = _ from h5]
  by_cases hb : pBd p = 0
  · obtain ⟨M', g1, g2, g3⟩ := look_ok h
    rw [hb, if_pos (show nI 0 = (0 : Int32) from rfl), if_pos rfl, g1, bn2_s]
    by_cases hq : byteAt T (lkP T (pAt p)) = c
    · have hlt : lkP T (pAt p) < T.length := by
        by_cases hl : lkP T (pAt p) < T.length
        · exact hl
        · unfold byteAt at hq
          rw [if_neg hl] at hq
          exact absurd hq.symm hc
      rw [if_pos hq, if_pos hq, show gF M' 2 = _ from g2.2.2.1, nI_1]
      exact ⟨_, rfl, RP_at (p := (lkP T (pAt p), p.2)) (i := lkP T (pAt p) + 1) g2 (Nat.succ_le_of_lt hlt), Frm_trans g3 (Frm_sF (by decide))⟩
    · rw [if_neg hq, if_neg hq]
      exact ⟨M', rfl, g2, g3⟩
  · rw [if_neg (nI_ne0 (by omega) (by omega)), if_neg hb]
    exact ⟨M, rfl, h, Frm_refl _ _ _⟩
def pAskS (T : List Int32) (c : Int32) (p : Pz) : Pz := if pBd p = 0 then (if (pSign T c p).1 then (pSign T c p).2 else pFail (pSign T c p).2 1 (pAt (pSign T c p).2)) else p
theorem asksSign_ok {M : MS} {T : List Int32} {p : Pz} {c : Int32} (h : RP M T p) (hc : c ≠ -1) : ∃ M', f12_asksSign M c = some M' ∧ RP M' T (pAskS T c p) ∧ Frm [] [2, 5, 6] M M' := by
  obtain ⟨h1, h2, h3, h4, h5, h6, h7, h8, h9⟩ := id h
  unfold f12_asksSign pAskS
  rw [show gF M 5 = _ from h5]
  by_cases hb : pBd p = 0
  · obtain ⟨M4, g1, g2, g3⟩ := takesSign_ok (c := c) h hc
    rw [hb, if_pos (show nI 0 = (0 : Int32) from rfl), if_pos rfl, g1, bn2_s]
    cases hs : (pSign T c p).1 with
    | true =>
      rw [if_neg (show ¬ bI true = (0 : Int32) from by decide), if_pos rfl, Option.bind_some]
      exact ⟨M4, rfl, g2, Frm_mono g3 (by simp) (by simp)⟩
    | false =>
      obtain ⟨M5, f1, f2, f3⟩ := fail_ok (kind := 1) (place := pAt (pSign T c p).2) g2 (by omega)
      rw [if_pos (show bI false = (0 : Int32) from rfl), if_neg (by decide), show gF M4 2 = _ from g2.2.2.1, show f12_fail M4 (1 : Int32) (nI (pAt (pSign T c p).2)) = some M5 from f1, Option.bind_some, Option.bind_some]
      exact ⟨M5, rfl, f2, Frm_trans (Frm_mono g3 (by simp) (by simp)) (Frm_mono f3 (by simp) (by simp))⟩
  · rw [if_neg (nI_ne0 (by omega) (by omega)), if_neg hb, Option.bind_some]
    exact ⟨M, rfl, h, Frm_refl _ _ _⟩
