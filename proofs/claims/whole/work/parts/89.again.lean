/-! ===== PART II, the reference: a statement is gone over again: which word, no sign of its end before it ===== -/
def free (p : Pz) (a : Nat) : Prop := pAt p = a ∧ p.2.2 = (0, none) ∧ ∀ x, pEd p = some x → x < a
def hereAt (T w : List Int32) (a : Nat) : Bool := decide (isLt (byteAt T (lkP T a)) = true ∧ ltN (T.drop (lkP T a)) = w.length ∧ (T.drop (lkP T a)).take w.length = w)
theorem lk_ge (T : List Int32) (i : Nat) : i ≤ lkP T i := Nat.le_add_right _ _
theorem free_bd {p : Pz} {a : Nat} (h : free p a) : pBd p = 0 := by show p.2.2.1 = 0; rw [h.2.1]
theorem here_free {T w : List Int32} {p : Pz} {a : Nat} (h : free p a) : pHere T w p = hereAt T w a := by
  have h2 := free_bd h
  obtain ⟨h1, -, h4⟩ := h
  unfold pHere hereAt
  rw [h1]
  have h5 : pEd p ≠ some (lkP T a) := fun hh => by have := h4 _ hh; have := lk_ge T a; omega
  exact decide_eq_decide.mpr ⟨fun ⟨_, a, _, b, c⟩ => ⟨a, b, c⟩, fun ⟨a, b, c⟩ => ⟨h2, a, h5, b, c⟩⟩
def rdr (T w : List Int32) (a : Nat) : Pz := (lkP T a + w.length, some (lkP T a + w.length), 0, none)
theorem take_free {T w : List Int32} {p : Pz} {a : Nat} (h : free p a) : pTake T w p = if hereAt T w a then (true, rdr T w a) else (false, (lkP T a, p.2)) := by
  unfold pTake
  rw [here_free h]
  split
  · unfold endW rdr
    rw [h.1]
    dsimp only [pAt]
    rw [h.2.1]
  · unfold pLk
    rw [if_pos (free_bd h), h.1]
theorem free_lk {T : List Int32} {p : Pz} {a : Nat} (h : free p a) : free (lkP T a, p.2) (lkP T a) := ⟨rfl, h.2.1, fun x hx => by have := h.2.2 x hx; have := lk_ge T a; omega⟩
theorem here_lk (T w : List Int32) (a : Nat) : hereAt T w (lkP T a) = hereAt T w a := by unfold hereAt; rw [lk_lk]
theorem rdr_lk (T w : List Int32) (a : Nat) : rdr T w (lkP T a) = rdr T w a := by unfold rdr; rw [lk_lk]
theorem here_ex {T w w' : List Int32} {a : Nat} (h : hereAt T w a = true) (h' : hereAt T w' a = true) : w = w' := by
  obtain ⟨-, a2, a3⟩ := of_decide_eq_true h
  obtain ⟨-, b2, b3⟩ := of_decide_eq_true h'
  rw [← a3, ← b3, ← a2, ← b2]
theorem kwL_ne : ∀ i, i < 8 → ∀ j, j < 8 → kwL (12 + i) = kwL (12 + j) → i = j := by decide
/-- what stands behind the word of a statement -/
def restK (T : List Int32) (cnt : Nat) (k : Nat) (r : Pz) : Sm × Pz :=
  if k = 1 then (let e := pNum T 0 (cnt - 1) r; let n := pNum T 0 9 e.2; ((1, (e.1, n.1, 0, 0), []), n.2))
  else if k = 2 then (let n := pNum T 0 2 r; ((2, (n.1, 0, 0, 0), []), n.2))
  else if k = 3 then (let e := pNum T 0 (cnt - 1) r; let o := pOp T false 42 0 e.2; ((3, (e.1, 0, 0, 0), o.1), o.2))
  else if k = 4 then (let e := pNum T 0 (cnt - 1) r; let n := pNum T 0 99 e.2; ((4, (e.1, n.1, 0, 0), []), n.2))
  else if k = 5 then (let e := pNum T 0 (cnt - 1) r; let n := pNum T 0 99 e.2; let m := pNum T 0 99 n.2; let g := pNum T 0 3 m.2; ((5, (e.1, n.1, m.1, g.1), []), g.2))
  else if k = 6 then (let e := pNum T 0 (cnt - 1) r; ((6, (e.1, 0, 0, 0), []), e.2))
  else if k = 7 then (let e := pNum T 0 (cnt - 1) r; ((7, (e.1, 0, 0, 0), []), e.2))
  else (let n := pNum T 1 99 r; ((8, (n.1, 0, 0, 0), []), n.2))
def kindAt (T : List Int32) (a : Nat) : Nat := if hereAt T (kwL 12) a then 1 else if hereAt T (kwL 13) a then 2 else if hereAt T (kwL 14) a then 3 else if hereAt T (kwL 15) a then 4 else if hereAt T (kwL 16) a then 5 else if hereAt T (kwL 17) a then 6 else if hereAt T (kwL 18) a then 7 else if hereAt T (kwL 19) a then 8 else 0
theorem kind_of {T : List Int32} {a k : Nat} (h1 : 1 ≤ k) (h2 : k ≤ 8) (h : hereAt T (kwL (11 + k)) a = true) : kindAt T a = k := by
  have ex : ∀ j, 1 ≤ j → j ≤ 8 → j ≠ k → ¬ hereAt T (kwL (11 + j)) a = true := fun j j1 j2 jk hh => jk (by
    have := kwL_ne (j - 1) (by omega) (k - 1) (by omega) (by rw [show 12 + (j - 1) = 11 + j by omega, show 12 + (k - 1) = 11 + k by omega]; exact here_ex hh h)
    omega)
  unfold kindAt
  rcases (show k = 1 ∨ k = 2 ∨ k = 3 ∨ k = 4 ∨ k = 5 ∨ k = 6 ∨ k = 7 ∨ k = 8 by omega) with rfl | rfl | rfl | rfl | rfl | rfl | rfl | rfl
  · rw [if_pos h]
  · rw [if_neg (ex 1 (by omega) (by omega) (by omega)), if_pos h]
  · rw [if_neg (ex 1 (by omega) (by omega) (by omega)), if_neg (ex 2 (by omega) (by omega) (by omega)), if_pos h]
  · rw [if_neg (ex 1 (by omega) (by omega) (by omega)), if_neg (ex 2 (by omega) (by omega) (by omega)), if_neg (ex 3 (by omega) (by omega) (by omega)), if_pos h]
  · rw [if_neg (ex 1 (by omega) (by omega) (by omega)), if_neg (ex 2 (by omega) (by omega) (by omega)), if_neg (ex 3 (by omega) (by omega) (by omega)), if_neg (ex 4 (by omega) (by omega) (by omega)), if_pos h]
  · rw [if_neg (ex 1 (by omega) (by omega) (by omega)), if_neg (ex 2 (by omega) (by omega) (by omega)), if_neg (ex 3 (by omega) (by omega) (by omega)), if_neg (ex 4 (by omega) (by omega) (by omega)), if_neg (ex 5 (by omega) (by omega) (by omega)), if_pos h]
  · rw [if_neg (ex 1 (by omega) (by omega) (by omega)), if_neg (ex 2 (by omega) (by omega) (by omega)), if_neg (ex 3 (by omega) (by omega) (by omega)), if_neg (ex 4 (by omega) (by omega) (by omega)), if_neg (ex 5 (by omega) (by omega) (by omega)), if_neg (ex 6 (by omega) (by omega) (by omega)), if_pos h]
  · rw [if_neg (ex 1 (by omega) (by omega) (by omega)), if_neg (ex 2 (by omega) (by omega) (by omega)), if_neg (ex 3 (by omega) (by omega) (by omega)), if_neg (ex 4 (by omega) (by omega) (by omega)), if_neg (ex 5 (by omega) (by omega) (by omega)), if_neg (ex 6 (by omega) (by omega) (by omega)), if_neg (ex 7 (by omega) (by omega) (by omega)), if_pos h]
theorem kind_is {T : List Int32} {a : Nat} (h0 : kindAt T a ≠ 0) : hereAt T (kwL (11 + kindAt T a)) a = true ∧ 1 ≤ kindAt T a ∧ kindAt T a ≤ 8 := by
  unfold kindAt at h0 ⊢
  repeat' split
  all_goals first | exact ⟨by assumption, by omega, by omega⟩ | skip
  rename_i g1 g2 g3 g4 g5 g6 g7 g8
  rw [if_neg g1, if_neg g2, if_neg g3, if_neg g4, if_neg g5, if_neg g6, if_neg g7, if_neg g8] at h0
  exact absurd rfl h0
theorem here_kind {T : List Int32} {a k : Nat} (h1 : 1 ≤ k) (h2 : k ≤ 8) : hereAt T (kwL (11 + k)) a = decide (kindAt T a = k) := by
  cases hh : hereAt T (kwL (11 + k)) a with
  | true => exact (decide_eq_true (kind_of h1 h2 hh)).symm
  | false =>
    refine (decide_eq_false (fun hk => ?_)).symm
    have := (kind_is (T := T) (a := a) (by omega)).1
    rw [hk, hh] at this
    cases this
theorem body_free {T : List Int32} {cnt a : Nat} {p : Pz} (h : free p a) (hok : pBd (pBody T cnt p).2 = 0) : kindAt T a ≠ 0 ∧ pBody T cnt p = restK T cnt (kindAt T a) (rdr T (kwL (11 + kindAt T a)) a) := by
  have hl := free_lk (T := T) h
  have hL := fun (w : List Int32) => take_free (T := T) (w := w) hl
  have h12 := here_kind (T := T) (a := a) (k := 1) (by omega) (by omega)
  have h13 := here_kind (T := T) (a := a) (k := 2) (by omega) (by omega)
  have h14 := here_kind (T := T) (a := a) (k := 3) (by omega) (by omega)
  have h15 := here_kind (T := T) (a := a) (k := 4) (by omega) (by omega)
  have h16 := here_kind (T := T) (a := a) (k := 5) (by omega) (by omega)
  have h17 := here_kind (T := T) (a := a) (k := 6) (by omega) (by omega)
  have h18 := here_kind (T := T) (a := a) (k := 7) (by omega) (by omega)
  have h19 := here_kind (T := T) (a := a) (k := 8) (by omega) (by omega)
  unfold pBody at hok ⊢
  dsimp only at hok ⊢
  rw [take_free h, h12] at hok ⊢
  by_cases k1 : kindAt T a = 1
  · rw [k1]
    exact ⟨by omega, rfl⟩
  rw [decide_eq_false k1] at hok ⊢
  simp only [Bool.false_eq_true, ↓reduceIte] at hok ⊢
  rw [hL, here_lk, h13, rdr_lk, lk_lk] at hok ⊢
  by_cases k2 : kindAt T a = 2
  · rw [k2]
    exact ⟨by omega, rfl⟩
  rw [decide_eq_false k2] at hok ⊢
  simp only [Bool.false_eq_true, ↓reduceIte] at hok ⊢
  rw [hL, here_lk, h14, rdr_lk, lk_lk] at hok ⊢
  by_cases k3 : kindAt T a = 3
  · rw [k3]
    exact ⟨by omega, rfl⟩
  rw [decide_eq_false k3] at hok ⊢
  simp only [Bool.false_eq_true, ↓reduceIte] at hok ⊢
  rw [hL, here_lk, h15, rdr_lk, lk_lk] at hok ⊢
  by_cases k4 : kindAt T a = 4
  · rw [k4]
    exact ⟨by omega, rfl⟩
  rw [decide_eq_false k4] at hok ⊢
  simp only [Bool.false_eq_true, ↓reduceIte] at hok ⊢
  rw [hL, here_lk, h16, rdr_lk, lk_lk] at hok ⊢
  by_cases k5 : kindAt T a = 5
  · rw [k5]
    exact ⟨by omega, rfl⟩
  rw [decide_eq_false k5] at hok ⊢
  simp only [Bool.false_eq_true, ↓reduceIte] at hok ⊢
  rw [hL, here_lk, h17, rdr_lk, lk_lk] at hok ⊢
  by_cases k6 : kindAt T a = 6
  · rw [k6]
    exact ⟨by omega, rfl⟩
  rw [decide_eq_false k6] at hok ⊢
  simp only [Bool.false_eq_true, ↓reduceIte] at hok ⊢
  rw [hL, here_lk, h18, rdr_lk, lk_lk] at hok ⊢
  by_cases k7 : kindAt T a = 7
  · rw [k7]
    exact ⟨by omega, rfl⟩
  rw [decide_eq_false k7] at hok ⊢
  simp only [Bool.false_eq_true, ↓reduceIte] at hok ⊢
  have hA : pAsk T (kwL 19) (lkP T a, p.2) = if kindAt T a = 8 then rdr T (kwL 19) a else pFail (lkP T a, p.2) 1 (lkP T a) := by
    unfold pAsk
    rw [if_pos (show pBd ((lkP T a, p.2) : Pz) = 0 from free_bd hl), hL, here_lk, h19, rdr_lk, lk_lk]
    by_cases k8 : kindAt T a = 8
    · rw [if_pos k8, decide_eq_true k8]; rfl
    · rw [if_neg k8, decide_eq_false k8]; rfl
  rw [hA] at hok ⊢
  by_cases k8 : kindAt T a = 8
  · rw [if_pos k8, k8]
    exact ⟨by omega, rfl⟩
  · rw [if_neg k8] at hok
    have hbd : pBd (pFail ((lkP T a, p.2) : Pz) 1 (lkP T a)) ≠ 0 := fail_is (by omega)
    rw [num_bad hbd] at hok
    exact absurd hok hbd
