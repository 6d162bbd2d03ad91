/-! ===== PART II, the class: one over the other, part by part (no memory) ===== -/
/-- parts from the first one on -/
def decF : List Pt → List Int32
  | [] => []
  | x :: l => dec1 x ++ decF l
theorem decR_F (L : List Pt) : decR L.reverse = decF L := by
  have key : ∀ (L R : List Pt), decR (L.reverse ++ R) = decR R ++ decF L := by
    intro L
    induction L with
    | nil => intro R; show decR R = decR R ++ []; rw [List.append_nil]
    | cons x L ih =>
      intro R
      rw [List.reverse_cons, List.append_assoc, ih, List.singleton_append, decR, decF, List.append_assoc]
  have := key L []
  rw [List.append_nil] at this
  rw [this]; rfl
def dropP (m : Nat) : List Pt → List Pt
  | [] => []
  | x :: l => if x.2 ≤ m then l else (x.1, x.2 - m) :: l
def putH (L : List Pt) : Bool := match L with
  | [] => false
  | x :: _ => decide (x.1 = 1)
theorem turn_run (ah : Bool) {a b : Int32} (ha : ¬ 0 < a) (hb : ¬ 0 < b) : ∀ (m : Nat) (A B : List Int32), turnR ah (List.replicate m a ++ A) (List.replicate m b ++ B) = ((if b = 0 then List.replicate m a else []) ++ (turnR ah A B).1, (if a = 0 then List.replicate m b else []) ++ (turnR ah A B).2) := by
  intro m
  induction m with
  | zero => intro A B; simp
  | succ m ih =>
    intro A B
    rw [List.replicate_succ, List.replicate_succ, List.cons_append, List.cons_append]
    conv => lhs; unfold turnR
    rw [if_neg (fun hh => ha hh.1), if_neg hb, ih]
    by_cases h1 : b = 0
    · by_cases h2 : a = 0
      · simp [h1, h2]
      · simp [h1, h2]
    · by_cases h2 : a = 0
      · simp [h1, h2]
      · simp [h1, h2]
theorem turn_putA (ah : Bool) {c : Int32} (hc : 0 < c) {A B : List Int32} (hB : ah = true ∨ ∀ b, B.head? = some b → ¬ 0 < b) : turnR ah (c :: A) B = (c :: (turnR ah A B).1, 0 :: (turnR ah A B).2) := by
  cases B with
  | nil => conv => lhs; unfold turnR
  | cons b B =>
    conv => lhs; unfold turnR
    rw [if_pos ⟨hc, hB.imp id (fun h => h b rfl)⟩]
theorem turn_putB (ah : Bool) {c : Int32} (hc : 0 < c) {A B : List Int32} (hA : ∀ a, A.head? = some a → ¬ (0 < a ∧ ah = true)) : turnR ah A (c :: B) = (0 :: (turnR ah A B).1, c :: (turnR ah A B).2) := by
  cases A with
  | nil => conv => lhs; unfold turnR
  | cons a A =>
    conv => lhs; unfold turnR
    rw [if_neg (fun hh => hh.2.elim (fun h => hA a rfl ⟨hh.1, h⟩) (fun h => h hc)), if_pos hc]
theorem dec_head {x : Pt} {l : List Pt} (h : okPt x) : ∃ v t, decF (x :: l) = v :: t ∧ (0 < v ↔ x.1 = 1) := by
  rw [decF]
  unfold dec1
  rcases h with ⟨h1, h2, h3⟩ | ⟨h1, h2, h3⟩ | ⟨h1, h2, h3⟩
  · rw [if_pos h1, show x.2 = (x.2 - 1) + 1 by omega, List.replicate_succ]
    exact ⟨0, _, rfl, by constructor; intro hh; exact absurd hh (by decide); intro hh; omega⟩
  · rw [if_neg (by omega), if_pos h1]
    exact ⟨nI x.2, _, rfl, by constructor; intro _; exact h1; intro _; exact nI_lt (a := 0) (by omega) (by omega)⟩
  · rw [if_neg (by omega), if_neg (by omega), show x.2 = (x.2 - 1) + 1 by omega, List.replicate_succ]
    exact ⟨-1, _, rfl, by constructor; intro hh; exact absurd hh (by decide); intro hh; omega⟩
theorem dec_drop {m : Nat} {x : Pt} {l : List Pt} (h : okPt x) (hx : x.1 ≠ 1) (hm : m ≤ x.2) : decF (x :: l) = List.replicate m (if x.1 = 0 then 0 else -1) ++ decF (dropP m (x :: l)) := by
  have e : ∀ n : Nat, dec1 (x.1, n) = List.replicate n (if x.1 = 0 then 0 else -1) := fun n => by
    unfold dec1
    dsimp only
    by_cases h0 : x.1 = 0
    · rw [if_pos h0, if_pos h0]
    · rw [if_neg h0, if_neg h0, if_neg hx]
  have ex : dec1 x = List.replicate x.2 (if x.1 = 0 then 0 else -1) := e x.2
  rw [show dropP m (x :: l) = if x.2 ≤ m then l else (x.1, x.2 - m) :: l from rfl]
  by_cases hle : x.2 ≤ m
  · rw [if_pos hle, decF, ex, show x.2 = m by omega]
  · rw [if_neg hle, decF, decF, ex, e, ← List.append_assoc, List.replicate_append_replicate, show m + (x.2 - m) = x.2 by omega]
