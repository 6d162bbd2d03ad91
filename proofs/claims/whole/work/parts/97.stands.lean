/-! ===== PART II, the reference: a session's beginning ===== -/
abbrev rd0 : Pz := (0, none, 0, none)
/-- behind the first statement -/
def pS1 (T : List Int32) : Pz := pAskS T 59 (pHead T rd0).2
def cntT (T : List Int32) : Nat := (pHead T rd0).1.2.2
def toldT (T : List Int32) : List Int32 := ltrs T (pHead T rd0).1.1 (pHead T rd0).1.2.1
def pSess (T : List Int32) : List Sm × Pz := pAll T (cntT T) 61 1 (pS1 T)
theorem ask_good {T w : List Int32} {p : Pz} (h : pBd (pAsk T w p) = 0) : pBd p = 0 ∧ pHere T w p = true ∧ pAsk T w p = endW (lkP T (pAt p) + w.length, p.2) := by
  unfold pAsk at h ⊢
  by_cases hb : pBd p = 0
  · rw [if_pos hb] at h ⊢
    unfold pTake at h ⊢
    by_cases hh : pHere T w p = true
    · rw [if_pos hh, if_pos rfl]
      exact ⟨hb, hh, rfl⟩
    · rw [if_neg hh, if_neg (show ¬ false = true from by decide)] at h
      exact absurd h (fail_is (by omega))
  · rw [if_neg hb] at h
    exact absurd h hb
theorem head_good {T : List Int32} (h : pBd (pS1 T) = 0) : 2 ≤ cntT T ∧ cntT T ≤ 4 ∧ free (pS1 T) (pAt (pS1 T)) ∧ (toldT T).length ≤ 40 ∧ 1 ≤ (toldT T).length ∧ (∀ v ∈ toldT T, okP v) ∧ (pHead T rd0).1.1 + (toldT T).length = (pHead T rd0).1.2.1 ∧ ((pHead T rd0).1.2.1 ≤ T.length ∨ (toldT T).length = 0) := by
  unfold pS1 at h ⊢
  obtain ⟨g1, g2, g3⟩ := askS_good h
  have g1' : pBd (pNum T 2 4 (pAsk T (kwL 11) (pWord T 40 (pAsk T (kwL 10) rd0)).2)).2 = 0 := g1
  obtain ⟨n1, n2, n3, n4, n5, n6, n7⟩ := num_good g1'
  obtain ⟨a1, a2, a3⟩ := ask_good n1
  obtain ⟨w1, w2, w3, w4, w5⟩ := word_good a1
  obtain ⟨b1, b2, b3⟩ := ask_good w1
  have hin := num_in g1'
  have e22 : (pHead T rd0).2.2.2 = (0, none) := by
    show (pNum T 2 4 (pAsk T (kwL 11) (pWord T 40 (pAsk T (kwL 10) rd0)).2)).2.2.2 = (0, none)
    rw [n7]
    dsimp only
    rw [a3]
    show (pWord T 40 (pAsk T (kwL 10) rd0)).2.2.2 = (0, none)
    rw [w5]
    show (pAsk T (kwL 10) rd0).2.2 = (0, none)
    rw [b3]
    rfl
  have hlen : (toldT T).length = ltN (T.drop (lkP T (pAt (pAsk T (kwL 10) rd0)))) ∧ (∀ v ∈ toldT T, okP v) ∧ (pHead T rd0).1.1 = lkP T (pAt (pAsk T (kwL 10) rd0)) ∧ (pHead T rd0).1.2.1 = lkP T (pAt (pAsk T (kwL 10) rd0)) + ltN (T.drop (lkP T (pAt (pAsk T (kwL 10) rd0)))) := by
    have e1 : (pHead T rd0).1.1 = lkP T (pAt (pAsk T (kwL 10) rd0)) := by show (pWord T 40 (pAsk T (kwL 10) rd0)).1 = _; rw [w5]
    have e2 : (pHead T rd0).1.2.1 = lkP T (pAt (pAsk T (kwL 10) rd0)) + ltN (T.drop (lkP T (pAt (pAsk T (kwL 10) rd0)))) := by show pAt (pWord T 40 (pAsk T (kwL 10) rd0)).2 = _; rw [w5]; rfl
    have hle := ltN_le (T.drop (lkP T (pAt (pAsk T (kwL 10) rd0))))
    refine ⟨?_, ?_, e1, e2⟩
    · unfold toldT ltrs
      rw [e1, e2, List.length_map, List.length_take, Nat.add_sub_cancel_left]; omega
    · intro v hv
      unfold toldT ltrs at hv
      rw [e1, e2, Nat.add_sub_cancel_left] at hv
      obtain ⟨c, hc, rfl⟩ := List.mem_map.mp hv
      exact lt_okP (ltN_all _ c hc)
  obtain ⟨q1, q2, q3, q4⟩ := hlen
  have hpos : 1 ≤ ltN (T.drop (lkP T (pAt (pAsk T (kwL 10) rd0)))) := by
    have hbt := w2
    generalize lkP T (pAt (pAsk T (kwL 10) rd0)) = x at *
    unfold byteAt at hbt
    by_cases hx : x < T.length
    · rw [if_pos hx] at hbt
      rw [List.drop_eq_getElem_cons hx, ltN, if_pos (by rw [List.getD_eq_getElem?_getD, List.getElem?_eq_getElem hx] at hbt; exact hbt)]
      omega
    · rw [if_neg hx] at hbt; exact absurd hbt (by decide)
  have hle := ltN_le (T.drop (lkP T (pAt (pAsk T (kwL 10) rd0))))
  rw [List.length_drop] at hle
  refine ⟨hin.1, hin.2, ?_, by omega, by omega, q2, by omega, Or.inl (by omega)⟩
  rw [g3]
  refine ⟨rfl, e22, fun x hx => ?_⟩
  have hx' : pEd (pNum T 2 4 (pAsk T (kwL 11) (pWord T 40 (pAsk T (kwL 10) rd0)).2)).2 = some x := hx
  have hA : pAt (pHead T rd0).2 = pAt (pNum T 2 4 (pAsk T (kwL 11) (pWord T 40 (pAsk T (kwL 10) rd0)).2)).2 := rfl
  have hl := lk_ge T (pAt (pHead T rd0).2)
  rw [n7] at hx' hA
  have h2 := Option.some.inj hx'
  dsimp only [pAt] at hA hl h2 ⊢
  omega
theorem all_end {T : List Int32} {cnt : Nat} : ∀ (d k : Nat) (p : Pz), free p (pAt p) → pBd (pAll T cnt d k p).2 = 0 → (pAll T cnt d k p).2.2.2 = (0, none) := by
  intro d
  induction d with
  | zero => intro k p hp ho; exact hp.2.1
  | succ d ih =>
    intro k p hp ho
    by_cases hne : byteAt T (lkP T (pAt p)) = -1
    · rw [pAll, if_pos (free_bd hp), if_pos hne]; exact hp.2.1
    · obtain ⟨b, c, hB, hcc, hK, hbd, hc59, hns, hle, hA, hfr, hk60⟩ := over_step hp ho hne
      rw [hA] at ho ⊢
      exact ih (k + 1) _ hfr ho
/-- a row is written, place by place -/
theorem fill_loop {L : Nat → Int32 → MS → Option MS} {k a : Nat} {l : List Int32} {P : MS → Prop} (hP : ∀ M g, P M → P (sR M k g)) (h1 : ∀ n i M, P M → i < l.length → L (n + 1) (nI i) M = (sd M k (nI (a + i)) (l.getD i 0)).bind fun M1 => L n (nI (i + 1)) M1) (h0 : ∀ n M, P M → L (n + 1) (nI l.length) M = some M) (hl : a + l.length ≤ mLn k) :
    ∀ (d n i : Nat) (M : MS) (f : Nat → Int32), i + d = l.length → P M → d < n → L n (nI i) (sR M k (wr f a (l.take i))) = some (sR M k (wr f a l)) := by
  intro d
  induction d with
  | zero =>
    intro n i M f hi hp hn
    obtain ⟨n, rfl⟩ : ∃ j, n = j + 1 := ⟨n - 1, by omega⟩
    have : i = l.length := by omega
    subst this
    rw [h0 n _ (hP _ _ hp), List.take_length]
  | succ d ih =>
    intro n i M f hi hp hn
    obtain ⟨n, rfl⟩ : ∃ j, n = j + 1 := ⟨n - 1, by omega⟩
    have hlt : (l.take i).length = i := by rw [List.length_take]; omega
    have hw := wr_snoc f a (l.take i) (l.getD i 0)
    rw [hlt] at hw
    have ht : l.take i ++ [l.getD i 0] = l.take (i + 1) := by
      rw [List.take_succ, List.getD_eq_getElem?_getD, List.getElem?_eq_getElem (by omega)]; rfl
    rw [h1 n i _ (hP _ _ hp) (by omega), sd_n (by omega), Option.bind_some, sR_sR, sR_get, hw, ht]
    exact ih n (i + 1) M f (by omega) hp (by omega)
