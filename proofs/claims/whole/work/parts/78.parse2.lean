/-! ===== PART II, the reference: numbers on the tape ===== -/
def isDg (c : Int32) : Bool := decide (48 ≤ c.toInt) && decide (c.toInt ≤ 57)
def isLt (c : Int32) : Bool := decide (97 ≤ c.toInt) && decide (c.toInt ≤ 122)
theorem isDigit_ok (c : Int32) : f12_isDigit c = some (bI (isDg c)) := by
  have e1 : (48 : Int32).toInt = 48 := by decide
  have e2 : (57 : Int32).toInt = 57 := by decide
  unfold f12_isDigit isDg
  by_cases h1 : c < 48
  · have := Int32.lt_iff_toInt_lt.mp h1
    rw [if_pos h1, Option.bind_some, bz0]
    simp [show ¬ 48 ≤ c.toInt by omega, bI]
  · have h1' : ¬ c.toInt < 48 := fun hh => h1 (Int32.lt_iff_toInt_lt.mpr (by omega))
    rw [if_neg h1]
    by_cases h2 : 57 < c
    · have := Int32.lt_iff_toInt_lt.mp h2
      rw [if_pos h2, Option.bind_some, bz0]
      simp [show ¬ c.toInt ≤ 57 by omega, bI]
    · have h2' : ¬ 57 < c.toInt := fun hh => h2 (Int32.lt_iff_toInt_lt.mpr (by omega))
      rw [if_neg h2, Option.bind_some, bz1]
      simp [show 48 ≤ c.toInt by omega, show c.toInt ≤ 57 by omega, bI]
theorem isLetter_ok (c : Int32) : f12_isLetter c = some (bI (isLt c)) := by
  have e1 : (97 : Int32).toInt = 97 := by decide
  have e2 : (122 : Int32).toInt = 122 := by decide
  unfold f12_isLetter isLt
  by_cases h1 : c < 97
  · have := Int32.lt_iff_toInt_lt.mp h1
    rw [if_pos h1, Option.bind_some, bz0]
    simp [show ¬ 97 ≤ c.toInt by omega, bI]
  · have h1' : ¬ c.toInt < 97 := fun hh => h1 (Int32.lt_iff_toInt_lt.mpr (by omega))
    rw [if_neg h1]
    by_cases h2 : 122 < c
    · have := Int32.lt_iff_toInt_lt.mp h2
      rw [if_pos h2, Option.bind_some, bz0]
      simp [show ¬ c.toInt ≤ 122 by omega, bI]
    · have h2' : ¬ 122 < c.toInt := fun hh => h2 (Int32.lt_iff_toInt_lt.mpr (by omega))
      rw [if_neg h2, Option.bind_some, bz1]
      simp [show 97 ≤ c.toInt by omega, show c.toInt ≤ 122 by omega, bI]
/-- digits are read: whether there are two at the most, how many, their number -/
def scN : List Int32 → Nat → Nat → Bool × Nat × Nat
  | [], d, v => (true, d, v)
  | c :: l, d, v => if isDg c then (if d = 2 then (false, d, v) else scN l (d + 1) (10 * v + (c.toInt - 48).toNat)) else (true, d, v)
theorem num_loop {T : List Int32} {c1 c2 : Int32} {q : Nat} : ∀ (l : List Int32) (n d v : Nat) (p : Pz) (M : MS), RP M T p → pAt p = q + d → T.drop (q + d) = l → d ≤ 2 → v < 10 ^ d → l.length < n →
    ∃ M', L12_number_49 c1 c2 (nI q) n (nI v) M = some (if (scN l d v).1 then 1 else 0, nI (scN l d v).2.2, M') ∧ RP M' T (q + (scN l d v).2.1, p.2) ∧ Frm [] [2] M M' ∧ (scN l d v).2.2 < 100 ∧ (scN l d v).2.1 ≤ 2 ∧ q + (scN l d v).2.1 ≤ T.length := by
  intro l
  induction l with
  | nil =>
    intro n d v p M h hp hd hd2 hv hn
    obtain ⟨n, rfl⟩ : ∃ j, n = j + 1 := ⟨n - 1, by omega⟩
    obtain ⟨h1, h2, h3, h4, h5, h6, h7, h8, h9⟩ := id h
    have hl : T.length - (q + d) = 0 := by have := congrArg List.length hd; rw [List.length_drop] at this; exact this
    have hv2 : v < 100 := by
      rcases (show d = 0 ∨ d = 1 ∨ d = 2 by omega) with rfl | rfl | rfl <;> omega
    unfold L12_number_49
    rw [show gF M 3 = _ from h1, show gF M 2 = _ from h3, if_pos (nI_le (by omega) (by omega))]
    exact ⟨M, rfl, by rw [scN]; rw [← hp]; exact h, Frm_refl _ _ _, hv2, hd2, by show q + d ≤ T.length; omega⟩
  | cons c l ih =>
    intro n d v p M h hp hd hd2 hv hn
    rw [List.length_cons] at hn
    obtain ⟨n, rfl⟩ : ∃ j, n = j + 1 := ⟨n - 1, by omega⟩
    obtain ⟨h1, h2, h3, h4, h5, h6, h7, h8, h9⟩ := id h
    have hl : T.length - (q + d) = l.length + 1 := by have := congrArg List.length hd; rw [List.length_drop, List.length_cons] at this; exact this
    have hc : T[q + d]? = some c := by
      have : (T.drop (q + d))[0]? = some c := by rw [hd]; rfl
      rw [List.getElem?_drop] at this
      exact this
    have hd' : T.drop (q + (d + 1)) = l := by
      have := (drop_get hc).1
      rw [hd] at this
      exact (List.cons.inj this).2.symm
    have hld : ld M 0 (nI (pAt p)) = some c := by
      have h0 := h2 (q + d) (by omega)
      rw [Nat.zero_add, List.getD_eq_getElem?_getD, hc] at h0
      rw [hp, ld_n (show q + d < 1600 by omega), h0]; rfl
    have hv2 : v < 100 := by
      rcases (show d = 0 ∨ d = 1 ∨ d = 2 by omega) with rfl | rfl | rfl <;> omega
    unfold L12_number_49
    rw [show gF M 3 = _ from h1, show gF M 2 = _ from h3, if_neg (nI_ge (by omega) (by omega)), hld, Option.bind_some, isDigit_ok, Option.bind_some]
    cases hg : isDg c with
    | false =>
      have e : scN (c :: l) d v = (true, d, v) := by rw [scN, if_neg (by rw [hg]; decide)]
      rw [if_pos (show bI false = (0 : Int32) from rfl), e]
      exact ⟨M, rfl, by dsimp only; rw [← hp]; exact h, Frm_refl _ _ _, hv2, hd2, by show q + d ≤ T.length; omega⟩
    | true =>
      rw [if_neg (show ¬ bI true = (0 : Int32) from by decide), hp, nI_sub (by omega), show q + d - q = d by omega, show (2 : Int32) = nI 2 from rfl]
      by_cases h2d : d = 2
      · have e : scN (c :: l) d v = (false, d, v) := by rw [scN, if_pos hg, if_pos h2d]
        rw [if_pos (by rw [h2d]), e]
        exact ⟨M, rfl, by dsimp only; rw [← hp]; exact h, Frm_refl _ _ _, hv2, hd2, by show q + d ≤ T.length; omega⟩
      · have hcd : 48 ≤ c.toInt ∧ c.toInt ≤ 57 := by
          unfold isDg at hg
          simp only [Bool.and_eq_true, decide_eq_true_eq] at hg
          exact hg
        have hcn := ofI (show 0 ≤ c.toInt by omega)
        have hval : ((10 : Int32) * nI v + c) - (48 : Int32) = nI (10 * v + (c.toInt - 48).toNat) := by
          conv => lhs; rw [hcn]
          rw [show (10 : Int32) = nI 10 from rfl, show (48 : Int32) = nI 48 from rfl, nI_mul, nI_add, nI_sub (by omega), show 10 * v + c.toInt.toNat - 48 = 10 * v + (c.toInt - 48).toNat by omega]
        have e : scN (c :: l) d v = scN l (d + 1) (10 * v + (c.toInt - 48).toNat) := by rw [scN, if_pos hg, if_neg h2d]
        rw [if_neg (by rw [nI_eq (by omega) (by omega)]; exact h2d), Option.bind_some, hval, nI_1, e]
        have hvv : 10 * v + (c.toInt - 48).toNat < 10 ^ (d + 1) := by
          rcases (show d = 0 ∨ d = 1 by omega) with rfl | rfl <;> omega
        obtain ⟨M', g1, g2, g3, g4, g5, g6⟩ := ih n (d + 1) (10 * v + (c.toInt - 48).toNat) (q + (d + 1), p.2) (sF M 2 (nI (q + d + 1))) (RP_at (i := q + d + 1) h (by omega)) rfl hd' (by omega) hvv (by omega)
        exact ⟨M', g1, g2, Frm_trans (Frm_sF (by decide)) g3, g4, g5, g6⟩
def pNum (T : List Int32) (lo hi : Nat) (p : Pz) : Nat × Pz :=
  if pBd p = 0 then
    (if isDg (byteAt T (lkP T (pAt p))) = true ∧ pEd p ≠ some (lkP T (pAt p)) then
      (if (scN (T.drop (lkP T (pAt p))) 0 0).1 then
        ((scN (T.drop (lkP T (pAt p))) 0 0).2.2, (let p1 : Pz := (lkP T (pAt p) + (scN (T.drop (lkP T (pAt p))) 0 0).2.1, some (lkP T (pAt p) + (scN (T.drop (lkP T (pAt p))) 0 0).2.1), p.2.2); if lo ≤ (scN (T.drop (lkP T (pAt p))) 0 0).2.2 ∧ (scN (T.drop (lkP T (pAt p))) 0 0).2.2 ≤ hi then p1 else pFail p1 2 (lkP T (pAt p))))
      else (lo, pFail (lkP T (pAt p) + (scN (T.drop (lkP T (pAt p))) 0 0).2.1, p.2) 1 (lkP T (pAt p) + (scN (T.drop (lkP T (pAt p))) 0 0).2.1)))
    else (lo, pFail (lkP T (pAt p), p.2) 1 (lkP T (pAt p))))
  else (lo, p)
