/-! ===== PART II, the class: one over the other, part by part ===== -/
def comA (x y : Pt) (C : List Pt) : List Pt := if y.1 = 0 then (if x.1 = 0 then addK (min x.2 y.2) C else addC (min x.2 y.2) C) else C
def turnP (ah : Bool) : Nat → List Pt → List Pt → List Pt → List Pt → List Pt × List Pt
  | 0, _, _, CA, CB => (CA, CB)
  | n + 1, A, B, CA, CB =>
    if putH A = true ∧ (ah = true ∨ putH B = false) then turnP ah n A.tail B (addP (A.headD (0, 0)).2 CA) (addK 1 CB)
    else if putH B = true then turnP ah n A B.tail (addK 1 CA) (addP (B.headD (0, 0)).2 CB)
    else match A, B with
      | x :: A', y :: B' => turnP ah n (dropP (min x.2 y.2) (x :: A')) (dropP (min x.2 y.2) (y :: B')) (comA x y CA) (comA y x CB)
      | [], B => turnP ah n [] B CA CB
      | x :: A', [] => turnP ah n (x :: A') [] CA CB
/-- what is built so far is what was given, settled -/
def Blt (C : List Pt) (raw : List Int32) : Prop := CanR C ∧ decR C = settleL raw
theorem Blt_K {C : List Pt} {raw : List Int32} {n : Nat} (h : Blt C raw) (h1 : 1 ≤ n) (hs : raw.length + n ≤ 100000) : Blt (addK n C) (raw ++ List.replicate n 0) := ⟨Can_addK h.1 h1 (by rw [h.2, settleL_len]; exact hs), by rw [decR_addK, h.2, settle_keep]⟩
theorem Blt_C {C : List Pt} {raw : List Int32} {n : Nat} (h : Blt C raw) (h1 : 1 ≤ n) (hs : raw.length + n ≤ 100000) : Blt (addC n C) (raw ++ List.replicate n (-1)) := ⟨Can_addC h.1 h1 (by rw [h.2, settleL_len]; exact hs), by rw [decR_addC, h.2, settle_cut]⟩
theorem Blt_P {C : List Pt} {raw : List Int32} {w : Nat} (h : Blt C raw) (h1 : 1 ≤ w) (h2 : w ≤ 26) : Blt (addP w C) (raw ++ [nI w]) := ⟨Can_addP h.1 h1 h2, decR_addP h.1 h.2 h1 h2⟩
theorem dropP_len {m : Nat} {x : Pt} {l : List Pt} : (dropP m (x :: l)).length ≤ (x :: l).length ∧ (x.2 ≤ m → (dropP m (x :: l)).length = l.length) := by
  rw [show dropP m (x :: l) = if x.2 ≤ m then l else (x.1, x.2 - m) :: l from rfl]
  constructor
  · split <;> simp
  · intro h; rw [if_pos h]
theorem dropP_ok {m : Nat} {x : Pt} {l : List Pt} (h : ∀ y ∈ x :: l, okPt y) : ∀ y ∈ dropP m (x :: l), okPt y := by
  rw [show dropP m (x :: l) = if x.2 ≤ m then l else (x.1, x.2 - m) :: l from rfl]
  have hx := h x List.mem_cons_self
  split
  · exact fun y hy => h y (List.mem_cons_of_mem _ hy)
  · rename_i hm
    intro y hy
    rcases List.mem_cons.mp hy with rfl | hy
    · unfold okPt at hx ⊢
      dsimp only
      rcases hx with ⟨a, b, c⟩ | ⟨a, b, c⟩ | ⟨a, b, c⟩
      · exact Or.inl ⟨a, by omega, by omega⟩
      · exact Or.inr (Or.inl ⟨a, by omega, by omega⟩)
      · exact Or.inr (Or.inr ⟨a, by omega, by omega⟩)
    · exact h y (List.mem_cons_of_mem _ hy)
