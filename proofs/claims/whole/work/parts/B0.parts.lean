/-! ===== PART II, the class: an operation as parts ===== -/
/-- a part: kind (0 keeps, 1 puts, 2 cuts), how many or which letter; rows of parts are written from the end: the last part first -/
abbrev Pt : Type := Nat × Nat
def pc (x : Pt) : Int32 := if x.1 = 0 then nI (31 + x.2) else if x.1 = 1 then nI x.2 else -(nI x.2)
def okPt (x : Pt) : Prop := (x.1 = 0 ∧ 1 ≤ x.2 ∧ x.2 ≤ 100000) ∨ (x.1 = 1 ∧ 1 ≤ x.2 ∧ x.2 ≤ 26) ∨ (x.1 = 2 ∧ 1 ≤ x.2 ∧ x.2 ≤ 100000)
def dec1 (x : Pt) : List Int32 := if x.1 = 0 then List.replicate x.2 0 else if x.1 = 1 then [nI x.2] else List.replicate x.2 (-1)
def decR : List Pt → List Int32
  | [] => []
  | x :: r => decR r ++ dec1 x
def adj (y x : Pt) : Prop := ¬ (y.1 = 0 ∧ x.1 = 0) ∧ ¬ (y.1 = 2 ∧ x.1 = 2) ∧ ¬ (y.1 = 2 ∧ x.1 = 1)
def CanR : List Pt → Prop
  | [] => True
  | x :: r => okPt x ∧ (∀ y, r.head? = some y → adj y x) ∧ CanR r
def addK (n : Nat) (R : List Pt) : List Pt := match R with
  | [] => [(0, n)]
  | x :: r => if x.1 = 0 then (0, x.2 + n) :: r else (0, n) :: x :: r
def addC (n : Nat) (R : List Pt) : List Pt := match R with
  | [] => [(2, n)]
  | x :: r => if x.1 = 2 then (2, x.2 + n) :: r else (2, n) :: x :: r
def addP (w : Nat) (R : List Pt) : List Pt := match R with
  | [] => [(1, w)]
  | x :: r => if x.1 = 2 then x :: (1, w) :: r else (1, w) :: x :: r
theorem decR_addK (n : Nat) (R : List Pt) : decR (addK n R) = decR R ++ List.replicate n 0 := by
  cases R with
  | nil => rfl
  | cons x r =>
    unfold addK
    dsimp only
    split
    · rename_i h
      rw [decR, decR, List.append_assoc]
      congr 1
      unfold dec1
      rw [if_pos rfl, if_pos h, List.replicate_append_replicate]
    · rw [decR]; rfl
theorem decR_addC (n : Nat) (R : List Pt) : decR (addC n R) = decR R ++ List.replicate n (-1) := by
  cases R with
  | nil => rfl
  | cons x r =>
    unfold addC
    dsimp only
    split
    · rename_i h
      rw [decR, decR, List.append_assoc]
      congr 1
      unfold dec1
      dsimp only
      rw [if_neg (show ¬ (2 : Nat) = 0 from by decide), if_neg (show ¬ (2 : Nat) = 1 from by decide), if_neg (by omega), if_neg (by omega), List.replicate_append_replicate]
    · rw [decR]; rfl
theorem Can_addK {n : Nat} {R : List Pt} (h : CanR R) (h1 : 1 ≤ n) (hs : (decR R).length + n ≤ 100000) : CanR (addK n R) := by
  cases R with
  | nil => exact ⟨Or.inl ⟨rfl, h1, by omega⟩, fun y hy => (by cases hy), trivial⟩
  | cons x r =>
    obtain ⟨g1, g2, g3⟩ := h
    unfold addK
    dsimp only
    split
    · rename_i hx
      have hl : x.2 ≤ (decR (x :: r)).length := by
        rw [decR, List.length_append]
        unfold dec1
        rw [if_pos hx, List.length_replicate]; omega
      refine ⟨Or.inl ⟨rfl, by dsimp only; omega, by dsimp only; omega⟩, fun y hy => ?_, g3⟩
      have := g2 y hy
      unfold adj at this ⊢
      dsimp only
      omega
    · rename_i hx
      refine ⟨Or.inl ⟨rfl, h1, by dsimp only; omega⟩, fun y hy => ?_, g1, g2, g3⟩
      have hy' : x = y := Option.some.inj hy
      subst hy'
      unfold adj
      dsimp only
      omega
theorem Can_addC {n : Nat} {R : List Pt} (h : CanR R) (h1 : 1 ≤ n) (hs : (decR R).length + n ≤ 100000) : CanR (addC n R) := by
  cases R with
  | nil => exact ⟨Or.inr (Or.inr ⟨rfl, h1, by omega⟩), fun y hy => (by cases hy), trivial⟩
  | cons x r =>
    obtain ⟨g1, g2, g3⟩ := h
    unfold addC
    dsimp only
    split
    · rename_i hx
      have hl : x.2 ≤ (decR (x :: r)).length := by
        rw [decR, List.length_append]
        unfold dec1
        rw [if_neg (by omega), if_neg (by omega), List.length_replicate]; omega
      refine ⟨Or.inr (Or.inr ⟨rfl, by dsimp only; omega, by dsimp only; omega⟩), fun y hy => ?_, g3⟩
      have := g2 y hy
      unfold adj at this ⊢
      dsimp only
      omega
    · rename_i hx
      refine ⟨Or.inr (Or.inr ⟨rfl, h1, by dsimp only; omega⟩), fun y hy => ?_, g1, g2, g3⟩
      have hy' : x = y := Option.some.inj hy
      subst hy'
      unfold adj
      dsimp only
      omega
theorem Can_addP {w : Nat} {R : List Pt} (h : CanR R) (h1 : 1 ≤ w) (h2 : w ≤ 26) : CanR (addP w R) := by
  cases R with
  | nil => exact ⟨Or.inr (Or.inl ⟨rfl, h1, h2⟩), fun y hy => (by cases hy), trivial⟩
  | cons x r =>
    obtain ⟨g1, g2, g3⟩ := h
    unfold addP
    dsimp only
    split
    · rename_i hx
      refine ⟨g1, fun y hy => ?_, Or.inr (Or.inl ⟨rfl, h1, h2⟩), fun y hy => ?_, g3⟩
      · have hy' : ((1, w) : Pt) = y := Option.some.inj hy
        subst hy'
        unfold adj
        dsimp only
        omega
      · have := g2 y hy
        unfold adj at this ⊢
        dsimp only
        omega
    · rename_i hx
      refine ⟨Or.inr (Or.inl ⟨rfl, h1, h2⟩), fun y hy => ?_, g1, g2, g3⟩
      have hy' : x = y := Option.some.inj hy
      subst hy'
      unfold adj
      dsimp only
      omega
/-- a row that is settled: what was before its last group, and that group -/
theorem settle_last : ∀ (l G0 : List Int32), (∀ v ∈ G0, v ≠ 0) → ∃ h G : List Int32, (∀ v ∈ G, v ≠ 0) ∧ (h = [] ∨ ∃ h', h = h' ++ [0]) ∧ ∀ l' : List Int32, (∀ v ∈ l', v ≠ 0) → settleG (l ++ l') G0 = h ++ grp (G ++ l') := by
  intro l
  induction l with
  | nil =>
    intro G0 hG
    refine ⟨[], G0, hG, Or.inl rfl, fun l' hl' => ?_⟩
    have := settleG_app l' [] G0 hl'
    rw [List.append_nil] at this
    rw [List.nil_append, this]; rfl
  | cons v l ih =>
    intro G0 hG
    by_cases hv : v = 0
    · obtain ⟨h, G, a1, a2, a3⟩ := ih [] (fun v hv => absurd hv List.not_mem_nil)
      refine ⟨grp G0 ++ 0 :: h, G, a1, Or.inr ?_, fun l' hl' => ?_⟩
      · rcases a2 with rfl | ⟨h', rfl⟩
        · exact ⟨grp G0, rfl⟩
        · exact ⟨grp G0 ++ 0 :: h', by simp⟩
      · rw [List.cons_append, settleG, if_pos hv, a3 l' hl']
        simp
    · obtain ⟨h, G, a1, a2, a3⟩ := ih (G0 ++ [v]) (fun x hx => by
        rcases List.mem_append.mp hx with hx | hx
        · exact hG x hx
        · rw [List.mem_singleton.mp hx]; exact hv)
      refine ⟨h, G, a1, a2, fun l' hl' => ?_⟩
      rw [List.cons_append, settleG, if_neg hv]
      exact a3 l' hl'
theorem notC_app (a b : List Int32) : notC (a ++ b) = notC a ++ notC b := by
  induction a with
  | nil => rfl
  | cons v a ih =>
    rw [List.cons_append, notC, notC]
    split
    · exact ih
    · rw [ih]; rfl
theorem cutsN_app (a b : List Int32) : cutsN (a ++ b) = cutsN a + cutsN b := by
  induction a with
  | nil => rw [List.nil_append]; show _ = 0 + cutsN b; omega
  | cons v a ih => rw [List.cons_append, cutsN, cutsN, ih]; omega
theorem settle_keep (l : List Int32) (n : Nat) : settleL (l ++ List.replicate n 0) = settleL l ++ List.replicate n 0 := by
  have key : ∀ (l G0 : List Int32), settleG (l ++ List.replicate n 0) G0 = settleG l G0 ++ List.replicate n 0 := by
    intro l
    induction l with
    | nil =>
      intro G0
      rw [List.nil_append]
      show _ = grp G0 ++ List.replicate n 0
      have z : ∀ (m : Nat) (G : List Int32), settleG (List.replicate m 0) G = grp G ++ List.replicate m 0 := by
        intro m
        induction m with
        | zero => intro G; rw [List.replicate_zero, List.append_nil]; rfl
        | succ m ih =>
          intro G
          rw [List.replicate_succ, settleG, if_pos rfl, ih]
          rfl
      exact z n G0
    | cons v l ih =>
      intro G0
      rw [List.cons_append, settleG, settleG]
      split
      · rw [ih]; simp
      · exact ih _
  exact key l []
theorem settle_cut (l : List Int32) (n : Nat) : settleL (l ++ List.replicate n (-1)) = settleL l ++ List.replicate n (-1) := by
  obtain ⟨h, G, a1, a2, a3⟩ := settle_last l [] (fun v hv => absurd hv List.not_mem_nil)
  have e1 := a3 (List.replicate n (-1)) (fun v hv => by rw [List.eq_of_mem_replicate hv]; decide)
  have e2 := a3 [] (fun v hv => absurd hv List.not_mem_nil)
  have c1 : ∀ m : Nat, notC (List.replicate m (-1)) = [] ∧ cutsN (List.replicate m (-1)) = m := by
    intro m
    induction m with
    | zero => exact ⟨rfl, rfl⟩
    | succ m ih => rw [List.replicate_succ, notC, cutsN, if_pos rfl, if_pos rfl, ih.1, ih.2]; exact ⟨rfl, by omega⟩
  rw [List.append_nil, List.append_nil] at e2
  unfold settleL
  rw [e1, e2]
  unfold grp
  rw [notC_app, cutsN_app, (c1 n).1, (c1 n).2, List.append_nil, ← List.replicate_append_replicate]
  simp
