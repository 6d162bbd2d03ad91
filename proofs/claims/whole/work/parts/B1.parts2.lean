/-! ===== PART II, the class: what is put into parts ===== -/
theorem tail_uniq {x y : List Int32} (hx : ∀ v, x.getLast? = some v → v ≠ -1) (hy : ∀ v, y.getLast? = some v → v ≠ -1) : ∀ (a b : Nat), x ++ List.replicate a (-1) = y ++ List.replicate b (-1) → a = b ∧ x = y := by
  intro a
  induction a with
  | zero =>
    intro b h
    cases b with
    | zero => rw [List.replicate_zero, List.append_nil, List.append_nil] at h; exact ⟨rfl, h⟩
    | succ b =>
      exfalso
      rw [List.replicate_zero, List.append_nil, List.replicate_succ', ← List.append_assoc] at h
      exact hx (-1) (by rw [h]; simp) rfl
  | succ a ih =>
    intro b h
    cases b with
    | zero =>
      exfalso
      rw [List.replicate_zero, List.append_nil, List.replicate_succ', ← List.append_assoc] at h
      exact hy (-1) (by rw [← h]; simp) rfl
    | succ b =>
      rw [List.replicate_succ', List.replicate_succ', ← List.append_assoc, ← List.append_assoc] at h
      obtain ⟨h1, h2⟩ := ih b (List.append_inj_left' h rfl)
      exact ⟨by omega, h2⟩
theorem last_app {a b : List Int32} (h : b ≠ []) : (a ++ b).getLast? = b.getLast? := by
  rw [List.getLast?_append]
  cases hb : b.getLast? with
  | none => exact absurd (List.getLast?_eq_none_iff.mp hb) h
  | some v => rfl
theorem notC_last (G : List Int32) : ∀ v ∈ notC G, v ≠ -1 := by
  induction G with
  | nil => intro v hv; exact absurd hv List.not_mem_nil
  | cons c G ih =>
    intro v hv
    rw [notC] at hv
    split at hv
    · exact ih v hv
    · rename_i h
      rcases List.mem_cons.mp hv with rfl | hv
      · exact h
      · exact ih v hv
theorem dec1_ne {x : Pt} (h : okPt x) : dec1 x ≠ [] ∧ (x.1 ≠ 2 → ∀ v ∈ dec1 x, v ≠ -1) := by
  unfold dec1
  rcases h with ⟨h1, h2, h3⟩ | ⟨h1, h2, h3⟩ | ⟨h1, h2, h3⟩
  · rw [if_pos h1]
    refine ⟨fun hh => by have := congrArg List.length hh; rw [List.length_replicate] at this; simp at this; omega, fun _ v hv => by rw [List.eq_of_mem_replicate hv]; decide⟩
  · rw [if_neg (by omega), if_pos h1]
    refine ⟨fun hh => (by cases hh), fun _ v hv => ?_⟩
    rw [List.mem_singleton.mp hv]
    intro hh
    have : (nI x.2).toInt = (-1 : Int32).toInt := by rw [hh]
    rw [nI_toInt (by omega), show (-1 : Int32).toInt = -1 from by decide] at this
    omega
  · rw [if_neg (by omega), if_neg (by omega)]
    refine ⟨fun hh => by have := congrArg List.length hh; rw [List.length_replicate] at this; simp at this; omega, fun hh => absurd h1 hh⟩
theorem decR_last {R : List Pt} (h : CanR R) (hx : ∀ x, R.head? = some x → x.1 ≠ 2) : ∀ v, (decR R).getLast? = some v → v ≠ -1 := by
  cases R with
  | nil => intro v hv; cases hv
  | cons x r =>
    intro v hv
    obtain ⟨g1, g2, g3⟩ := h
    obtain ⟨n1, n2⟩ := dec1_ne g1
    rw [decR, last_app n1] at hv
    exact n2 (hx x rfl) v (List.mem_of_getLast? hv)
/-- a letter is put: what is cut beside it is behind -/
theorem decR_addP {w : Nat} {R : List Pt} {raw : List Int32} (h : CanR R) (hr : decR R = settleL raw) (h1 : 1 ≤ w) (h2 : w ≤ 26) : decR (addP w R) = settleL (raw ++ [nI w]) := by
  have hw1 : nI w ≠ -1 := fun hh => by
    have : (nI w).toInt = (-1 : Int32).toInt := by rw [hh]
    rw [nI_toInt (by omega), show (-1 : Int32).toInt = -1 from by decide] at this
    omega
  have hw0 : nI w ≠ 0 := nI_ne0 (by omega) (by omega)
  obtain ⟨hd, G, a1, a2, a3⟩ := settle_last raw [] (fun v hv => absurd hv List.not_mem_nil)
  have e1 : settleL (raw ++ [nI w]) = (hd ++ notC G) ++ [nI w] ++ List.replicate (cutsN G) (-1) := by
    have := a3 [nI w] (fun v hv => by rw [List.mem_singleton.mp hv]; exact hw0)
    unfold settleL
    rw [this]
    unfold grp
    rw [notC_app, cutsN_app, show notC [nI w] = [nI w] from by rw [notC, if_neg hw1]; rfl, show cutsN [nI w] = 0 from by rw [cutsN, if_neg hw1]; rfl, Nat.add_zero]
    simp
  have e2 : decR R = (hd ++ notC G) ++ List.replicate (cutsN G) (-1) := by
    have := a3 [] (fun v hv => absurd hv List.not_mem_nil)
    rw [List.append_nil, List.append_nil] at this
    rw [hr]
    unfold settleL
    rw [this]
    unfold grp
    rw [List.append_assoc]
  have hlast : ∀ v, (hd ++ notC G).getLast? = some v → v ≠ -1 := by
    intro v hv
    by_cases hn : notC G = []
    · rw [hn, List.append_nil] at hv
      rcases a2 with rfl | ⟨h', rfl⟩
      · cases hv
      · rw [last_app (by simp)] at hv
        have : (0 : Int32) = v := by simpa using hv
        rw [← this]; decide
    · rw [last_app hn] at hv
      exact notC_last G v (List.mem_of_getLast? hv)
  rw [e1]
  cases R with
  | nil =>
    have e3 : ([] : List Int32) ++ List.replicate 0 (-1) = (hd ++ notC G) ++ List.replicate (cutsN G) (-1) := by rw [← e2]; rfl
    obtain ⟨u1, u2⟩ := tail_uniq (fun v hv => by cases hv) hlast 0 (cutsN G) e3
    rw [← u1, ← u2]; rfl
  | cons x r =>
    obtain ⟨g1, g2, g3⟩ := h
    unfold addP
    dsimp only
    by_cases hx : x.1 = 2
    · rw [if_pos hx]
      have ex : dec1 x = List.replicate x.2 (-1) := by unfold dec1; rw [if_neg (by omega), if_neg (by omega)]
      have hr2 : ∀ y, r.head? = some y → y.1 ≠ 2 := fun y hy => by
        have := g2 y hy
        unfold adj at this
        omega
      rw [decR, ex] at e2
      obtain ⟨u1, u2⟩ := tail_uniq (decR_last g3 hr2) hlast x.2 (cutsN G) e2
      rw [decR, decR, ex, u2, u1]
      rfl
    · rw [if_neg hx]
      have e3 : decR (x :: r) ++ List.replicate 0 (-1) = (hd ++ notC G) ++ List.replicate (cutsN G) (-1) := by rw [List.replicate_zero, List.append_nil]; exact e2
      obtain ⟨u1, u2⟩ := tail_uniq (decR_last (R := x :: r) ⟨g1, g2, g3⟩ (fun y hy => by rw [← Option.some.inj hy]; exact hx)) hlast 0 (cutsN G) e3
      rw [decR, ← u1, ← u2, List.replicate_zero, List.append_nil]
      rfl
