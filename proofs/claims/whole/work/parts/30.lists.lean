/-! ===== PART II: what is counted of operations ===== -/
theorem grp_perm (G : List Int32) : (grp G).Perm G := by
  unfold grp
  induction G with
  | nil => exact List.Perm.refl _
  | cons v G ih =>
    rw [notC, cutsN]
    by_cases h : v = -1
    · rw [if_pos h, if_pos h, Nat.add_comm, List.replicate_succ, h]
      exact (List.perm_middle).trans (ih.cons _)
    · rw [if_neg h, if_neg h, Nat.zero_add, List.cons_append]
      exact ih.cons _
theorem settleG_perm (l G : List Int32) : (settleG l G).Perm (G ++ l) := by
  induction l generalizing G with
  | nil => rw [settleG, List.append_nil]; exact grp_perm G
  | cons v l ih =>
    rw [settleG]
    by_cases h : v = 0
    · rw [if_pos h, h]
      refine ((grp_perm G).append_right _).trans ?_
      refine List.Perm.append_left G ?_
      have := ih []
      rw [List.nil_append] at this
      exact this.cons _
    · rw [if_neg h]
      have := ih (G ++ [v])
      rw [List.append_assoc] at this
      exact this
theorem settle_perm (l : List Int32) : (settleL l).Perm l := settleG_perm l []
theorem settle_okV {l : List Int32} (h : ∀ v ∈ l, okV v) : ∀ v ∈ settleL l, okV v := fun v hv => h v ((settle_perm l).mem_iff.mp hv)
theorem perm_old {l l' : List Int32} (h : l.Perm l') : oldL l = oldL l' := by
  induction h with
  | nil => rfl
  | cons x _ ih => rw [oldL, oldL, ih]
  | swap x y l => simp only [oldL]; omega
  | trans _ _ h1 h2 => rw [h1, h2]
theorem perm_new {l l' : List Int32} (h : l.Perm l') : newL l = newL l' := by
  induction h with
  | nil => rfl
  | cons x _ ih => rw [newL, newL, ih]
  | swap x y l => simp only [newL]; omega
  | trans _ _ h1 h2 => rw [h1, h2]
theorem perm_puts {l l' : List Int32} (h : l.Perm l') : putsL l = putsL l' := by
  induction h with
  | nil => rfl
  | cons x _ ih => rw [putsL, putsL, ih]
  | swap x y l => simp only [putsL]; omega
  | trans _ _ h1 h2 => rw [h1, h2]
theorem perm_cuts {l l' : List Int32} (h : l.Perm l') : cutsN l = cutsN l' := by
  induction h with
  | nil => rfl
  | cons x _ ih => rw [cutsN, cutsN, ih]
  | swap x y l => simp only [cutsN]; omega
  | trans _ _ h1 h2 => rw [h1, h2]
theorem settle_old (l : List Int32) : oldL (settleL l) = oldL l := perm_old (settle_perm l)
theorem settle_new (l : List Int32) : newL (settleL l) = newL l := perm_new (settle_perm l)
theorem settle_puts (l : List Int32) : putsL (settleL l) = putsL l := perm_puts (settle_perm l)
theorem settle_cuts (l : List Int32) : cutsN (settleL l) = cutsN l := perm_cuts (settle_perm l)
/-- what one thing counts: old, new, put, cut -/
theorem cnt0 (l : List Int32) : oldL (0 :: l) = oldL l + 1 ∧ newL (0 :: l) = newL l + 1 ∧ putsL (0 :: l) = putsL l ∧ cutsN (0 :: l) = cutsN l := by
  simp only [oldL, newL, putsL, cutsN, k2, k3, k4, if_true, if_false]; omega
theorem cntC (l : List Int32) : oldL (-1 :: l) = oldL l + 1 ∧ newL (-1 :: l) = newL l ∧ putsL (-1 :: l) = putsL l ∧ cutsN (-1 :: l) = cutsN l + 1 := by
  simp only [oldL, newL, putsL, cutsN, k5, k6, k7, if_true, if_false]; omega
theorem cntP {v : Int32} (p1 : (0 < v) = True) (p2 : (v ≤ 0) = False) (p3 : (v < 0) = False) (p5 : (v = -1) = False) (l : List Int32) : oldL (v :: l) = oldL l ∧ newL (v :: l) = newL l + 1 ∧ putsL (v :: l) = putsL l + 1 ∧ cutsN (v :: l) = cutsN l := by
  simp only [oldL, newL, putsL, cutsN, p1, p2, p3, p5, if_true, if_false]; omega
theorem cnt_len {A : List Int32} (h : ∀ v ∈ A, okV v) : A.length = oldL A + putsL A ∧ newL A + cutsN A = A.length ∧ cutsN A ≤ oldL A := by
  induction A with
  | nil => exact ⟨rfl, rfl, Nat.le_refl _⟩
  | cons v A ih =>
    have h' : ∀ x ∈ A, okV x := fun x hx => h x (by simp [hx])
    have := ih h'
    rw [List.length_cons]
    rcases ok3 (h v (by simp)) with rfl | rfl | ⟨p1, p2, p3, p4, p5⟩
    · obtain ⟨c1, c2, c3, c4⟩ := cnt0 A; omega
    · obtain ⟨c1, c2, c3, c4⟩ := cntC A; omega
    · obtain ⟨c1, c2, c3, c4⟩ := cntP p1 p2 p3 p5 A; omega
theorem mk_len {A : List Int32} (h : ∀ v ∈ A, okV v) (p : Nat) : (gatherL A p).length = putsL A + cutsN A := by
  induction A generalizing p with
  | nil => rfl
  | cons v A ih =>
    have h' : ∀ x ∈ A, okV x := fun x hx => h x (by simp [hx])
    rw [gatherL]
    rcases ok3 (h v (by simp)) with rfl | rfl | ⟨p1, p2, p3, p4, p5⟩
    · obtain ⟨c1, c2, c3, c4⟩ := cnt0 A
      rw [if_pos rfl, ih h']; omega
    · obtain ⟨c1, c2, c3, c4⟩ := cntC A
      rw [if_neg (by decide), List.length_cons, ih h']; omega
    · obtain ⟨c1, c2, c3, c4⟩ := cntP p1 p2 p3 p5 A
      rw [if_neg (by rw [p4]; exact id), List.length_cons, ih h']; omega
theorem turn_cnt (ah : Bool) : ∀ (m : Nat) (A B : List Int32), A.length + B.length = m → (∀ v ∈ A, okV v) → (∀ v ∈ B, okV v) → oldL A = oldL B →
    (∀ v ∈ (turnR ah A B).1, okV v) ∧ (∀ v ∈ (turnR ah A B).2, okV v) ∧ oldL (turnR ah A B).1 = newL B ∧ oldL (turnR ah A B).2 = newL A ∧ newL (turnR ah A B).1 = newL (turnR ah A B).2 ∧ putsL (turnR ah A B).1 = putsL A ∧ putsL (turnR ah A B).2 = putsL B ∧ cutsN (turnR ah A B).1 ≤ cutsN A ∧ cutsN (turnR ah A B).2 ≤ cutsN B := by
  have hcons : ∀ {v : Int32} {l : List Int32}, okV v → (∀ x ∈ l, okV x) → ∀ x ∈ v :: l, okV x := by
    intro v l h1 h2 x hx
    rcases List.mem_cons.mp hx with rfl | hx
    · exact h1
    · exact h2 x hx
  have ok0 : okV 0 := Or.inl rfl
  intro m
  induction m using Nat.strongRecOn with
  | _ m ih =>
  intro A B hm hA hB ho
  rcases A with _ | ⟨a, A⟩
  · rcases B with _ | ⟨b, B⟩
    · rw [turnR]; simp [oldL, newL, putsL, cutsN]
    · rw [turnR]
      rw [List.length_cons] at hm
      have hB' : ∀ v ∈ B, okV v := fun v h => hB v (by simp [h])
      have hb := hB b (by simp)
      rcases ok3 hb with rfl | rfl | ⟨p1, p2, p3, p4, p5⟩
      · have := cnt0 B; simp only [oldL] at ho this; simp only [k4, if_true] at ho; omega
      · have := cntC B; simp only [oldL] at ho this; simp only [k5, if_true] at ho; omega
      · have c := cntP p1 p2 p3 p5 B
        obtain ⟨i1, i2, i3, i4, i5, i6, i7, i8, i9⟩ := ih B.length (by simp at hm; omega) [] B (by simp) hA hB' (by rw [ho, c.1])
        have d := cntP p1 p2 p3 p5 (turnR ah [] B).2
        have d0 := cnt0 (turnR ah [] B).1
        exact ⟨hcons ok0 i1, hcons hb i2, by dsimp only; omega, by rw [d.1]; exact i4, by dsimp only; omega, by dsimp only; omega, by dsimp only; omega, by dsimp only; omega, by dsimp only; omega⟩
  · have ha := hA a (by simp)
    have hA' : ∀ v ∈ A, okV v := fun v h => hA v (by simp [h])
    rw [List.length_cons] at hm
    rcases B with _ | ⟨b, B⟩
    · rw [turnR]
      rcases ok3 ha with rfl | rfl | ⟨p1, p2, p3, p4, p5⟩
      · have := (cnt0 A).1; rw [ho] at this; simp only [oldL] at this; omega
      · have := (cntC A).1; rw [ho] at this; simp only [oldL] at this; omega
      · have c := cntP p1 p2 p3 p5 A
        obtain ⟨i1, i2, i3, i4, i5, i6, i7, i8, i9⟩ := ih A.length (by simp at hm; omega) A [] (by simp) hA' hB (by rw [← ho, c.1])
        have d := cntP p1 p2 p3 p5 (turnR ah A []).1
        have d0 := cnt0 (turnR ah A []).2
        exact ⟨hcons ha i1, hcons ok0 i2, by rw [d.1]; exact i3, by dsimp only; omega, by dsimp only; omega, by dsimp only; omega, by dsimp only; omega, by dsimp only; omega, by dsimp only; omega⟩
    · rw [List.length_cons] at hm
      have hb := hB b (by simp)
      have hB' : ∀ v ∈ B, okV v := fun v h => hB v (by simp [h])
      rw [turnR]
      by_cases hc : 0 < a ∧ (ah = true ∨ ¬ 0 < b)
      · rw [if_pos hc]
        rcases ok3 ha with rfl | rfl | ⟨p1, p2, p3, p4, p5⟩
        · exact absurd hc.1 (by decide)
        · exact absurd hc.1 (by decide)
        · have c := cntP p1 p2 p3 p5 A
          obtain ⟨i1, i2, i3, i4, i5, i6, i7, i8, i9⟩ := ih (A.length + (B.length + 1)) (by omega) A (b :: B) (by simp) hA' hB (by rw [← ho, c.1])
          have d := cntP p1 p2 p3 p5 (turnR ah A (b :: B)).1
          have d0 := cnt0 (turnR ah A (b :: B)).2
          exact ⟨hcons ha i1, hcons ok0 i2, by rw [d.1]; exact i3, by dsimp only; omega, by dsimp only; omega, by dsimp only; omega, by dsimp only; omega, by dsimp only; omega, by dsimp only; omega⟩
      · rw [if_neg hc]
        rcases ok3 hb with rfl | rfl | ⟨p1, p2, p3, p4, p5⟩
        · rw [if_neg (by decide), if_pos rfl]
          have cb := cnt0 B
          rcases ok3 ha with rfl | rfl | ⟨q1, q2, q3, q4, q5⟩
          · have ca := cnt0 A
            obtain ⟨i1, i2, i3, i4, i5, i6, i7, i8, i9⟩ := ih (A.length + B.length) (by omega) A B rfl hA' hB' (by omega)
            rw [if_pos rfl, List.singleton_append, List.singleton_append]
            have d := cnt0 (turnR ah A B).1
            have d0 := cnt0 (turnR ah A B).2
            exact ⟨hcons ha i1, hcons ok0 i2, by dsimp only; omega, by dsimp only; omega, by dsimp only; omega, by dsimp only; omega, by dsimp only; omega, by dsimp only; omega, by dsimp only; omega⟩
          · have ca := cntC A
            obtain ⟨i1, i2, i3, i4, i5, i6, i7, i8, i9⟩ := ih (A.length + B.length) (by omega) A B rfl hA' hB' (by omega)
            rw [if_neg (by decide), List.singleton_append, List.nil_append]
            have d := cntC (turnR ah A B).1
            exact ⟨hcons ha i1, i2, by dsimp only; omega, by dsimp only; omega, by dsimp only; omega, by dsimp only; omega, by dsimp only; omega, by dsimp only; omega, by dsimp only; omega⟩
          · exact absurd ⟨by rw [q1]; trivial, Or.inr (by decide)⟩ hc
        · rw [if_neg (by decide), if_neg (by decide)]
          have cb := cntC B
          rcases ok3 ha with rfl | rfl | ⟨q1, q2, q3, q4, q5⟩
          · have ca := cnt0 A
            obtain ⟨i1, i2, i3, i4, i5, i6, i7, i8, i9⟩ := ih (A.length + B.length) (by omega) A B rfl hA' hB' (by omega)
            rw [if_pos rfl, List.nil_append, List.singleton_append]
            have d := cntC (turnR ah A B).2
            exact ⟨i1, hcons hb i2, by dsimp only; omega, by dsimp only; omega, by dsimp only; omega, by dsimp only; omega, by dsimp only; omega, by dsimp only; omega, by dsimp only; omega⟩
          · have ca := cntC A
            obtain ⟨i1, i2, i3, i4, i5, i6, i7, i8, i9⟩ := ih (A.length + B.length) (by omega) A B rfl hA' hB' (by omega)
            rw [if_neg (by decide), List.nil_append, List.nil_append]
            exact ⟨i1, i2, by dsimp only; omega, by dsimp only; omega, by dsimp only; omega, by dsimp only; omega, by dsimp only; omega, by dsimp only; omega, by dsimp only; omega⟩
          · exact absurd ⟨by rw [q1]; trivial, Or.inr (by decide)⟩ hc
        · rw [if_pos (by rw [p1]; trivial)]
          have c := cntP p1 p2 p3 p5 B
          obtain ⟨i1, i2, i3, i4, i5, i6, i7, i8, i9⟩ := ih (A.length + 1 + B.length) (by omega) (a :: A) B (by simp) hA hB' (by rw [ho, c.1])
          have d := cntP p1 p2 p3 p5 (turnR ah (a :: A) B).2
          have d0 := cnt0 (turnR ah (a :: A) B).1
          exact ⟨hcons ok0 i1, hcons hb i2, by dsimp only; omega, by rw [d.1]; exact i4, by dsimp only; omega, by dsimp only; omega, by dsimp only; omega, by dsimp only; omega, by dsimp only; omega⟩
