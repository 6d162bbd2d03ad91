/-! ===== PART II, the reference: what is read holds no sign of a statement's end ===== -/
def ns (T : List Int32) (i j : Nat) : Prop := ∀ x, i ≤ x → x < j → byteAt T x ≠ 59
def okR (T : List Int32) (p p' : Pz) : Prop := pAt p ≤ pAt p' ∧ ns T (pAt p) (pAt p') ∧ p'.2.2 = p.2.2 ∧ ∀ x, pEd p' = some x → x ≤ pAt p' ∨ pEd p = some x
theorem okR_refl (T : List Int32) (p : Pz) : okR T p p := ⟨Nat.le_refl _, fun x h1 h2 => by omega, rfl, fun _ h => Or.inr h⟩
theorem okR_trans {T : List Int32} {p q r : Pz} (h1 : okR T p q) (h2 : okR T q r) : okR T p r := by
  obtain ⟨a1, a2, a3, a4⟩ := h1
  obtain ⟨b1, b2, b3, b4⟩ := h2
  refine ⟨Nat.le_trans a1 b1, fun x x1 x2 => ?_, b3.trans a3, fun x hx => ?_⟩
  · by_cases hq : x < pAt q
    · exact a2 x x1 hq
    · exact b2 x (by omega) x2
  · rcases b4 x hx with hh | hh
    · exact Or.inl hh
    · rcases a4 x hh with h3 | h3
      · exact Or.inl (by omega)
      · exact Or.inr h3
theorem byte_drop {T : List Int32} {i y : Nat} (h : y < (T.drop i).length) : byteAt T (i + y) = (T.drop i).getD y 0 := by
  rw [List.length_drop] at h
  unfold byteAt
  rw [if_pos (by omega), List.getD_eq_getElem?_getD, List.getD_eq_getElem?_getD, List.getElem?_drop]
theorem skL_get : ∀ (l : List Int32) (x : Nat), x < skL l → l.getD x 0 = 10 ∨ l.getD x 0 = 32 := by
  intro l
  induction l with
  | nil => intro x hx; exact absurd hx (Nat.not_lt_zero _)
  | cons v l ih =>
    intro x hx
    rw [skL] at hx
    by_cases hv : v = 10 ∨ v = 32
    · rw [if_pos hv] at hx
      cases x with
      | zero => exact hv
      | succ x => exact ih x (by omega)
    · rw [if_neg hv] at hx; omega
theorem ltN_get : ∀ (l : List Int32) (x : Nat), x < ltN l → isLt (l.getD x 0) = true := by
  intro l
  induction l with
  | nil => intro x hx; exact absurd hx (Nat.not_lt_zero _)
  | cons v l ih =>
    intro x hx
    rw [ltN] at hx
    by_cases hv : isLt v = true
    · rw [if_pos hv] at hx
      cases x with
      | zero => exact hv
      | succ x => exact ih x (by omega)
    · rw [if_neg hv] at hx; omega
theorem scN_get : ∀ (l : List Int32) (d v x : Nat), d + x < (scN l d v).2.1 → isDg (l.getD x 0) = true := by
  intro l
  induction l with
  | nil => intro d v x hx; exact absurd hx (by show ¬ d + x < d; omega)
  | cons c l ih =>
    intro d v x hx
    rw [scN] at hx
    by_cases hv : isDg c = true
    · rw [if_pos hv] at hx
      by_cases h2 : d = 2
      · rw [if_pos h2] at hx; exact absurd hx (by show ¬ d + x < d; omega)
      · rw [if_neg h2] at hx
        cases x with
        | zero => exact hv
        | succ x => exact ih (d + 1) (10 * v + (c.toInt - 48).toNat) x (by omega)
    · rw [if_neg hv] at hx; exact absurd hx (by show ¬ d + x < d; omega)
theorem scN_le : ∀ (l : List Int32) (d v : Nat), (scN l d v).2.1 ≤ d + l.length ∧ d ≤ (scN l d v).2.1 := by
  intro l
  induction l with
  | nil => intro d v; exact ⟨Nat.le_refl _, Nat.le_refl _⟩
  | cons c l ih =>
    intro d v
    rw [scN, List.length_cons]
    split
    · split
      · exact ⟨by show d ≤ _; omega, Nat.le_refl _⟩
      · have := ih (d + 1) (10 * v + (c.toInt - 48).toNat); omega
    · exact ⟨by show d ≤ _; omega, Nat.le_refl _⟩
theorem ns_lk (T : List Int32) (i : Nat) : ns T i (lkP T i) := by
  intro x h1 h2
  have h3 : x - i < skL (T.drop i) := by unfold lkP at h2; omega
  have h4 := skL_le (T.drop i)
  have := byte_drop (T := T) (i := i) (y := x - i) (by omega)
  rw [show i + (x - i) = x by omega] at this
  rw [this]
  rcases skL_get _ _ h3 with h | h <;> rw [h] <;> decide
theorem ns_lt (T : List Int32) (i : Nat) {j : Nat} (hj : j ≤ i + ltN (T.drop i)) : ns T i j := by
  intro x h1 h2
  have h4 := ltN_le (T.drop i)
  have := byte_drop (T := T) (i := i) (y := x - i) (by omega)
  rw [show i + (x - i) = x by omega] at this
  rw [this]
  have h5 := ltN_get (T.drop i) (x - i) (by omega)
  intro h; rw [h] at h5; exact absurd h5 (by decide)
theorem ns_sc (T : List Int32) (i : Nat) : ns T i (i + (scN (T.drop i) 0 0).2.1) := by
  intro x h1 h2
  have h4 := scN_le (T.drop i) 0 0
  have := byte_drop (T := T) (i := i) (y := x - i) (by omega)
  rw [show i + (x - i) = x by omega] at this
  rw [this]
  have h5 := scN_get (T.drop i) 0 0 (x - i) (by omega)
  intro h; rw [h] at h5; exact absurd h5 (by decide)
theorem ns_tr {T : List Int32} {i j k : Nat} (h1 : ns T i j) (h2 : ns T j k) : ns T i k := fun x x1 x2 => by
  by_cases hq : x < j
  · exact h1 x x1 hq
  · exact h2 x (by omega) x2
theorem okR_lk (T : List Int32) (p : Pz) : okR T p (lkP T (pAt p), p.2) := ⟨lk_ge _ _, ns_lk _ _, rfl, fun _ h => Or.inr h⟩
theorem num_good {T : List Int32} {lo hi : Nat} {p : Pz} (h : pBd (pNum T lo hi p).2 = 0) : pBd p = 0 ∧ isDg (byteAt T (lkP T (pAt p))) = true ∧ pEd p ≠ some (lkP T (pAt p)) ∧ (scN (T.drop (lkP T (pAt p))) 0 0).1 = true ∧ lo ≤ (scN (T.drop (lkP T (pAt p))) 0 0).2.2 ∧ (scN (T.drop (lkP T (pAt p))) 0 0).2.2 ≤ hi ∧ pNum T lo hi p = ((scN (T.drop (lkP T (pAt p))) 0 0).2.2, (lkP T (pAt p) + (scN (T.drop (lkP T (pAt p))) 0 0).2.1, some (lkP T (pAt p) + (scN (T.drop (lkP T (pAt p))) 0 0).2.1), p.2.2)) := by
  unfold pNum at h ⊢
  by_cases hb : pBd p = 0
  · rw [if_pos hb] at h ⊢
    by_cases hc : isDg (byteAt T (lkP T (pAt p))) = true ∧ pEd p ≠ some (lkP T (pAt p))
    · rw [if_pos hc] at h ⊢
      by_cases hm : (scN (T.drop (lkP T (pAt p))) 0 0).1 = true
      · rw [if_pos hm] at h ⊢
        dsimp only at h ⊢
        by_cases hr : lo ≤ (scN (T.drop (lkP T (pAt p))) 0 0).2.2 ∧ (scN (T.drop (lkP T (pAt p))) 0 0).2.2 ≤ hi
        · rw [if_pos hr]
          exact ⟨hb, hc.1, hc.2, hm, hr.1, hr.2, rfl⟩
        · rw [if_neg hr] at h
          exact absurd h (fail_is (by omega))
      · rw [if_neg hm] at h
        exact absurd h (fail_is (by omega))
    · rw [if_neg hc] at h
      exact absurd h (fail_is (by omega))
  · rw [if_neg hb] at h
    exact absurd h hb
theorem okR_num {T : List Int32} {lo hi : Nat} {p : Pz} (h : pBd (pNum T lo hi p).2 = 0) : okR T p (pNum T lo hi p).2 := by
  obtain ⟨-, -, -, -, -, -, g⟩ := num_good h
  rw [g]
  exact okR_trans (okR_lk T p) ⟨Nat.le_add_right _ _, ns_sc _ _, rfl, fun x hx => Or.inl (by
    have hx' : some (lkP T (pAt p) + (scN (T.drop (lkP T (pAt p))) 0 0).2.1) = some x := hx
    have := Option.some.inj hx'
    show x ≤ lkP T (pAt p) + (scN (T.drop (lkP T (pAt p))) 0 0).2.1
    omega)⟩
theorem okR_word {T : List Int32} {most : Nat} {p : Pz} (h : pBd (pWord T most p).2 = 0) : okR T p (pWord T most p).2 := by
  obtain ⟨-, -, -, -, g⟩ := word_good h
  rw [g]
  exact okR_trans (okR_lk T p) ⟨Nat.le_add_right _ _, ns_lt _ _ (Nat.le_refl _), rfl, fun x hx => Or.inl (by
    have hx' : some (lkP T (pAt p) + ltN (T.drop (lkP T (pAt p)))) = some x := hx
    have := Option.some.inj hx'
    show x ≤ lkP T (pAt p) + ltN (T.drop (lkP T (pAt p)))
    omega)⟩
theorem okR_sign {T : List Int32} {c : Int32} {p : Pz} (hc : c ≠ 59) : okR T p (pSign T c p).2 := by
  unfold pSign
  split
  · split
    · rename_i h
      refine okR_trans (okR_lk T p) ⟨Nat.le_succ _, fun x x1 x2 => ?_, rfl, fun _ h => Or.inr h⟩
      have hx : x = lkP T (pAt p) := by
        have h1 : lkP T (pAt p) ≤ x := x1
        have h2 : x < lkP T (pAt p) + 1 := x2
        omega
      rw [hx, h]; exact hc
    · exact okR_lk T p
  · exact okR_refl T p
theorem okR_stp {T : List Int32} {p : Pz} (h : pBd (pStp T p).2 = 0) : okR T p (pStp T p).2 := by
  unfold pStp at h ⊢
  cases hs : (pSign T 43 p).1 with
  | true =>
    rw [hs, if_pos rfl] at h
    rw [if_pos rfl]
    exact okR_trans (okR_sign (c := 43) (by decide)) (okR_word h)
  | false =>
    rw [hs, if_neg (show ¬ false = true from by decide)] at h
    rw [if_neg (show ¬ false = true from by decide)]
    exact okR_trans (okR_sign (c := 43) (by decide)) (okR_trans (okR_sign (c := 45) (by decide)) (okR_num h))
theorem okR_op {T : List Int32} {wh : Bool} : ∀ (d k : Nat) (p : Pz), pBd p = 0 → pBd (pOp T wh d k p).2 = 0 → okR T p (pOp T wh d k p).2 := by
  intro d
  induction d with
  | zero => intro k p hb h; exact okR_refl T p
  | succ d ih =>
    intro k p hb h
    obtain ⟨hk, hs⟩ := op_step_ok hb h
    rw [op_succ hb hk] at h ⊢
    have h1 := okR_trans (okR_stp hs) (okR_lk T _)
    split
    · exact h1
    · rename_i hc
      rw [if_neg hc] at h
      exact okR_trans h1 (ih (k + 1) (lkP T (pAt (pStp T p).2), (pStp T p).2.2) hs h)
theorem num_bd {T : List Int32} {lo hi : Nat} {p : Pz} (h : pBd (pNum T lo hi p).2 = 0) : pBd p = 0 := (num_good h).1
theorem op_bd {T : List Int32} {wh : Bool} {d k : Nat} {p : Pz} (h : pBd (pOp T wh d k p).2 = 0) : pBd p = 0 := by
  by_cases hb : pBd p = 0
  · exact hb
  · rw [op_bad hb] at h; exact h
theorem okR_rest {T : List Int32} {cnt k : Nat} {r : Pz} (h : pBd (restK T cnt k r).2 = 0) : okR T r (restK T cnt k r).2 := by
  unfold restK at h ⊢
  by_cases k1 : k = 1
  · rw [if_pos k1] at h ⊢
    exact okR_trans (okR_num (num_bd h)) (okR_num h)
  rw [if_neg k1] at h ⊢
  by_cases k2 : k = 2
  · rw [if_pos k2] at h ⊢
    exact okR_num h
  rw [if_neg k2] at h ⊢
  by_cases k3 : k = 3
  · rw [if_pos k3] at h ⊢
    exact okR_trans (okR_num (op_bd h)) (okR_op _ _ _ (op_bd h) h)
  rw [if_neg k3] at h ⊢
  by_cases k4 : k = 4
  · rw [if_pos k4] at h ⊢
    exact okR_trans (okR_num (num_bd h)) (okR_num h)
  rw [if_neg k4] at h ⊢
  by_cases k5 : k = 5
  · rw [if_pos k5] at h ⊢
    exact okR_trans (okR_num (num_bd (num_bd (num_bd h)))) (okR_trans (okR_num (num_bd (num_bd h))) (okR_trans (okR_num (num_bd h)) (okR_num h)))
  rw [if_neg k5] at h ⊢
  by_cases k6 : k = 6
  · rw [if_pos k6] at h ⊢
    exact okR_num h
  rw [if_neg k6] at h ⊢
  by_cases k7 : k = 7
  · rw [if_pos k7] at h ⊢
    exact okR_num h
  rw [if_neg k7] at h ⊢
  exact okR_num h
theorem here_ns {T w : List Int32} {a : Nat} (h : hereAt T w a = true) : ns T (lkP T a) (pAt (rdr T w a)) := by
  obtain ⟨-, a2, -⟩ := of_decide_eq_true h
  exact ns_lt _ _ (by show lkP T a + w.length ≤ _; omega)
theorem askS_good {T : List Int32} {p : Pz} (h : pBd (pAskS T 59 p) = 0) : pBd p = 0 ∧ byteAt T (lkP T (pAt p)) = 59 ∧ pAskS T 59 p = (lkP T (pAt p) + 1, p.2) := by
  unfold pAskS pSign at h ⊢
  by_cases hb : pBd p = 0
  · rw [if_pos hb] at h ⊢
    by_cases hc : byteAt T (lkP T (pAt p)) = 59
    · rw [if_pos hb, if_pos hc]
      exact ⟨hb, hc, rfl⟩
    · rw [if_pos hb, if_neg hc, if_neg (show ¬ false = true from by decide)] at h
      exact absurd h (fail_is (by omega))
  · rw [if_neg hb] at h
    exact absurd h hb
