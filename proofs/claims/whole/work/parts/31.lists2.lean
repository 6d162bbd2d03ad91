/-! ===== PART II: what is counted of operations, on ===== -/
def okP (v : Int32) : Prop := ∃ w : Nat, 1 ≤ w ∧ w ≤ 26 ∧ v = nI w
theorem okP_V {v : Int32} (h : okP v) : okV v := Or.inr (Or.inr h)
theorem okP3 {v : Int32} (h : okP v) : (0 < v) = True ∧ (v ≤ 0) = False ∧ (v < 0) = False ∧ (v = 0) = False ∧ (v = -1) = False := by
  rcases ok3 (okP_V h) with rfl | rfl | h1
  · obtain ⟨w, h1, h2, h3⟩ := h
    exact absurd h3.symm (nI_ne0 (by omega) (by omega))
  · obtain ⟨w, h1, h2, h3⟩ := h
    exfalso
    have h4 : (0 : Int32) < nI w := nI_lt (a := 0) (by omega) (by omega)
    rw [← h3] at h4
    exact absurd h4 (by decide)
  · exact h1
theorem okV_P {v : Int32} (h : okV v) (h1 : (0 < v) = True) : okP v := by
  rcases h with rfl | rfl | h
  · exact absurd (h1 ▸ trivial : (0 : Int32) < 0) (by decide)
  · exact absurd (h1 ▸ trivial : (0 : Int32) < -1) (by decide)
  · exact h
theorem ok_cons {v : Int32} {l : List Int32} (h1 : okV v) (h2 : ∀ x ∈ l, okV x) : ∀ x ∈ v :: l, okV x := by
  intro x hx
  rcases List.mem_cons.mp hx with rfl | hx
  · exact h1
  · exact h2 x hx
theorem ok_0 : okV 0 := Or.inl rfl
theorem ok_C : okV (-1) := Or.inr (Or.inl rfl)
theorem join_cnt : ∀ (m : Nat) (A B : List Int32), A.length + B.length = m → (∀ v ∈ A, okV v) → (∀ v ∈ B, okV v) → newL A = oldL B →
    (∀ v ∈ joinR A B, okV v) ∧ oldL (joinR A B) = oldL A ∧ newL (joinR A B) = newL B ∧ putsL (joinR A B) ≤ putsL A + putsL B ∧ cutsN (joinR A B) ≤ cutsN A + cutsN B := by
  intro m
  induction m using Nat.strongRecOn with
  | _ m ih =>
  intro A B hm hA hB ho
  rcases A with _ | ⟨a, A⟩
  · rcases B with _ | ⟨b, B⟩
    · rw [joinR]; simp [oldL, newL, putsL, cutsN]
    · rw [joinR]
      rw [List.length_cons] at hm
      have hB' : ∀ v ∈ B, okV v := fun v h => hB v (by simp [h])
      have hb := hB b (by simp)
      have hob : oldL (b :: B) = 0 := by rw [← ho]; rfl
      rcases ok3 hb with rfl | rfl | ⟨p1, p2, p3, p4, p5⟩
      · have := (cnt0 B).1; omega
      · have := (cntC B).1; omega
      · have c := cntP p1 p2 p3 p5 B
        obtain ⟨i1, i2, i3, i4, i5⟩ := ih B.length (by simp at hm; omega) [] B (by simp) hA hB' (by rw [ho, c.1])
        have d := cntP p1 p2 p3 p5 (joinR [] B)
        exact ⟨ok_cons hb i1, by omega, by omega, by omega, by omega⟩
  · have ha := hA a (by simp)
    have hA' : ∀ v ∈ A, okV v := fun v h => hA v (by simp [h])
    rw [List.length_cons] at hm
    rcases B with _ | ⟨b, B⟩
    · rw [joinR]
      obtain ⟨h1, h2⟩ := newL_0 ha (by rw [ho]; rfl)
      subst h1
      have c := cntC A
      obtain ⟨i1, i2, i3, i4, i5⟩ := ih A.length (by simp at hm; omega) A [] (by simp) hA' hB (by rw [h2]; rfl)
      have d := cntC (joinR A [])
      exact ⟨ok_cons ha i1, by omega, by omega, by omega, by omega⟩
    · rw [List.length_cons] at hm
      have hb := hB b (by simp)
      have hB' : ∀ v ∈ B, okV v := fun v h => hB v (by simp [h])
      rw [joinR]
      by_cases hc : a = -1
      · subst hc
        have c := cntC A
        rw [if_pos rfl]
        obtain ⟨i1, i2, i3, i4, i5⟩ := ih (A.length + (B.length + 1)) (by omega) A (b :: B) (by simp) hA' hB (by omega)
        have d := cntC (joinR A (b :: B))
        exact ⟨ok_cons ha i1, by omega, by omega, by omega, by omega⟩
      · rw [if_neg hc]
        rcases ok3 hb with rfl | rfl | ⟨p1, p2, p3, p4, p5⟩
        · rw [if_neg (by decide), if_pos rfl, List.singleton_append]
          have cb := cnt0 B
          rcases ok3 ha with rfl | rfl | ⟨q1, q2, q3, q4, q5⟩
          · have ca := cnt0 A
            obtain ⟨i1, i2, i3, i4, i5⟩ := ih (A.length + B.length) (by omega) A B rfl hA' hB' (by omega)
            have d := cnt0 (joinR A B)
            exact ⟨ok_cons ha i1, by omega, by omega, by omega, by omega⟩
          · exact absurd rfl hc
          · have ca := cntP q1 q2 q3 q5 A
            obtain ⟨i1, i2, i3, i4, i5⟩ := ih (A.length + B.length) (by omega) A B rfl hA' hB' (by omega)
            have d := cntP q1 q2 q3 q5 (joinR A B)
            exact ⟨ok_cons ha i1, by omega, by omega, by omega, by omega⟩
        · rw [if_neg (by decide), if_neg (by decide)]
          have cb := cntC B
          rcases ok3 ha with rfl | rfl | ⟨q1, q2, q3, q4, q5⟩
          · have ca := cnt0 A
            obtain ⟨i1, i2, i3, i4, i5⟩ := ih (A.length + B.length) (by omega) A B rfl hA' hB' (by omega)
            rw [if_pos rfl, List.singleton_append]
            have d := cntC (joinR A B)
            exact ⟨ok_cons hb i1, by omega, by omega, by omega, by omega⟩
          · exact absurd rfl hc
          · have ca := cntP q1 q2 q3 q5 A
            obtain ⟨i1, i2, i3, i4, i5⟩ := ih (A.length + B.length) (by omega) A B rfl hA' hB' (by omega)
            rw [if_neg (by rw [q4]; exact id), List.nil_append]
            exact ⟨i1, by omega, by omega, by omega, by omega⟩
        · rw [if_pos (by rw [p1]; trivial)]
          have c := cntP p1 p2 p3 p5 B
          obtain ⟨i1, i2, i3, i4, i5⟩ := ih (A.length + 1 + B.length) (by omega) (a :: A) B (by simp) hA hB' (by rw [ho, c.1])
          have d := cntP p1 p2 p3 p5 (joinR (a :: A) B)
          exact ⟨ok_cons hb i1, by omega, by omega, by omega, by omega⟩
theorem hd_okP {t : List Int32} (ht : ∀ v ∈ t, okP v) (hl : 0 < t.length) : okP (t.headD 0) ∧ (∀ v ∈ t.tail, okP v) ∧ t.length = t.tail.length + 1 := by
  rcases t with _ | ⟨x, t⟩
  · simp at hl
  · exact ⟨ht x (by simp), fun v h => ht v (by simp [show v ∈ t from h]), by simp⟩
theorem inv_cnt : ∀ (A t : List Int32), (∀ v ∈ A, okV v) → (∀ v ∈ t, okP v) → oldL A ≤ t.length →
    (∀ v ∈ invR A t, okV v) ∧ oldL (invR A t) = newL A ∧ newL (invR A t) = oldL A ∧ putsL (invR A t) = cutsN A ∧ cutsN (invR A t) = putsL A := by
  intro A
  induction A with
  | nil => intro t hA ht ho; rw [invR]; simp [oldL, newL, putsL, cutsN]
  | cons a A ih =>
    intro t hA ht ho
    have hA' : ∀ v ∈ A, okV v := fun v h => hA v (by simp [h])
    rw [invR]
    rcases ok3 (hA a (by simp)) with rfl | rfl | ⟨p1, p2, p3, p4, p5⟩
    · have c := cnt0 A
      obtain ⟨h1, h2, h3⟩ := hd_okP ht (by omega)
      obtain ⟨i1, i2, i3, i4, i5⟩ := ih t.tail hA' h2 (by omega)
      rw [if_pos rfl, if_pos (by decide)]
      have d := cnt0 (invR A t.tail)
      exact ⟨ok_cons ok_0 i1, by omega, by omega, by omega, by omega⟩
    · have c := cntC A
      obtain ⟨h1, h2, h3⟩ := hd_okP ht (by omega)
      obtain ⟨i1, i2, i3, i4, i5⟩ := ih t.tail hA' h2 (by omega)
      rw [if_neg (by decide), if_pos rfl, if_pos (by decide)]
      obtain ⟨p1, p2, p3, p4, p5⟩ := okP3 h1
      have d := cntP p1 p2 p3 p5 (invR A t.tail)
      exact ⟨ok_cons (okP_V h1) i1, by omega, by omega, by omega, by omega⟩
    · have c := cntP p1 p2 p3 p5 A
      obtain ⟨i1, i2, i3, i4, i5⟩ := ih t hA' ht (by omega)
      rw [if_neg (by rw [p4]; exact id), if_neg (by rw [p5]; exact id), if_neg (by rw [p2]; exact id)]
      have d := cntC (invR A t)
      exact ⟨ok_cons ok_C i1, by omega, by omega, by omega, by omega⟩
theorem chg_okP : ∀ (A t : List Int32), (∀ v ∈ A, okV v) → (∀ v ∈ t, okP v) → oldL A ≤ t.length → ∀ v ∈ chgL A t, okP v := by
  intro A
  induction A with
  | nil => intro t hA ht ho v hv; rw [chgL] at hv; simp at hv
  | cons a A ih =>
    intro t hA ht ho
    have hA' : ∀ v ∈ A, okV v := fun v h => hA v (by simp [h])
    rw [chgL]
    rcases ok3 (hA a (by simp)) with rfl | rfl | ⟨p1, p2, p3, p4, p5⟩
    · have c := cnt0 A
      obtain ⟨h1, h2, h3⟩ := hd_okP ht (by omega)
      rw [if_neg (by decide), if_pos rfl]
      intro v hv
      rcases List.mem_cons.mp hv with rfl | hv
      · exact h1
      · exact ih t.tail hA' h2 (by omega) v hv
    · have c := cntC A
      obtain ⟨h1, h2, h3⟩ := hd_okP ht (by omega)
      rw [if_pos (by decide)]
      exact ih t.tail hA' h2 (by omega)
    · have c := cntP p1 p2 p3 p5 A
      rw [if_neg (by rw [p3]; exact id), if_neg (by rw [p4]; exact id)]
      intro v hv
      rcases List.mem_cons.mp hv with rfl | hv
      · exact okV_P (hA _ (by simp)) p1
      · exact ih t hA' ht (by omega) v hv
/-- A over B, B over A, B behind A, A taken back: as they are kept -/
def turnC (ah : Bool) (A B : List Int32) : List Int32 := settleL (turnR ah A B).1
def turnD (ah : Bool) (A B : List Int32) : List Int32 := settleL (turnR ah A B).2
def joinC (A B : List Int32) : List Int32 := settleL (joinR A B)
def invC (A t : List Int32) : List Int32 := settleL (invR A t)
/-- an operation, all of it right -/
def okO (A : List Int32) : Prop := ∀ v ∈ A, okV v
theorem turn_ok {ah : Bool} {A B : List Int32} (hA : okO A) (hB : okO B) (ho : oldL A = oldL B) :
    okO (turnC ah A B) ∧ okO (turnD ah A B) ∧ oldL (turnC ah A B) = newL B ∧ oldL (turnD ah A B) = newL A ∧ newL (turnC ah A B) = newL (turnD ah A B) ∧ putsL (turnC ah A B) = putsL A ∧ putsL (turnD ah A B) = putsL B ∧ cutsN (turnC ah A B) ≤ cutsN A ∧ cutsN (turnD ah A B) ≤ cutsN B := by
  obtain ⟨h1, h2, h3, h4, h5, h6, h7, h8, h9⟩ := turn_cnt ah _ A B rfl hA hB ho
  unfold turnC turnD
  simp only [settle_old, settle_new, settle_puts, settle_cuts]
  exact ⟨settle_okV h1, settle_okV h2, h3, h4, h5, h6, h7, h8, h9⟩
theorem join_ok {A B : List Int32} (hA : okO A) (hB : okO B) (ho : newL A = oldL B) :
    okO (joinC A B) ∧ oldL (joinC A B) = oldL A ∧ newL (joinC A B) = newL B ∧ putsL (joinC A B) ≤ putsL A + putsL B ∧ cutsN (joinC A B) ≤ cutsN A + cutsN B := by
  obtain ⟨h1, h2, h3, h4, h5⟩ := join_cnt _ A B rfl hA hB ho
  unfold joinC
  simp only [settle_old, settle_new, settle_puts, settle_cuts]
  exact ⟨settle_okV h1, h2, h3, h4, h5⟩
theorem inv_ok {A t : List Int32} (hA : okO A) (ht : ∀ v ∈ t, okP v) (ho : oldL A ≤ t.length) :
    okO (invC A t) ∧ oldL (invC A t) = newL A ∧ newL (invC A t) = oldL A ∧ putsL (invC A t) = cutsN A ∧ cutsN (invC A t) = putsL A := by
  obtain ⟨h1, h2, h3, h4, h5⟩ := inv_cnt A t hA ht ho
  unfold invC
  simp only [settle_old, settle_new, settle_puts, settle_cuts]
  exact ⟨settle_okV h1, h2, h3, h4, h5⟩
