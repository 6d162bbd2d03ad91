/-! ===== PART II: the tape after a call; one call of both sides ===== -/
section TT
variable {A : St}
theorem tp_aEd (i : Nat) (op : List Int32) : aTape (aEd A i op).2 = aTape A := by unfold aEd; split <;> rfl
theorem tp_put (a b c : Int32) : aTape (aPut A a b c).2 = aTape A := by
  unfold aPut
  split
  · exact tp_aEd _ _
  · rfl
theorem tp_cut (a b c : Int32) : aTape (aCut A a b c).2 = aTape A := by
  unfold aCut
  split
  · exact tp_aEd _ _
  · rfl
theorem tp_type (a b : Int32) : aTape (aType A a b).2 = aTape A := by
  unfold aType
  split
  · exact tp_aEd _ _
  · rfl
theorem tp_undo (a : Int32) : aTape (aUndo A a).2 = aTape A := by
  unfold aUndo
  split
  · split
    · rfl
    · split
      · rfl
      · split <;> rfl
  · rfl
theorem tp_redo (a : Int32) : aTape (aRedo A a).2 = aTape A := by
  unfold aRedo
  split
  · split
    · rfl
    · split
      · rfl
      · split <;> rfl
  · rfl
theorem tp_cursor (a b : Int32) : aTape (aCursor A a b).2 = aTape A := by unfold aCursor; split <;> rfl
theorem tp_line (a b : Int32) : aTape (aLine A a b).2 = aTape A := by unfold aLine; split <;> rfl
theorem tp_delay (a b : Int32) : aTape (aDelay A a b).2 = aTape A := by unfold aDelay; split <;> rfl
theorem tp_marks (a b c d : Int32) : aTape (aMarks A a b c d).2 = aTape A := by unfold aMarks; split <;> rfl
theorem tp_clears (a b : Int32) : aTape (aClears A a b).2 = aTape A := by unfold aClears; split <;> rfl
theorem tp_ticks (a : Int32) : aTape (aTicks A a).2 = aTape A := by unfold aTicks; split <;> rfl
theorem tp_seed (a : Int32) : aTape (aSeedA A a).2 = aTape A := by unfold aSeedA; split <;> rfl
theorem tp_back : aTape (aBack A).2 = aTape A := by unfold aBack; split <;> rfl
theorem tp_plE (i : Nat) (op : List Int32) : aTape (plE A i op).2 = aTape A := by unfold plE; split <;> rfl
theorem tp_drawn : aTape (drawn A).2 = aTape A := by
  unfold drawn
  dsimp only
  split
  · split <;> rfl
  · split
    · split
      · rfl
      · exact tp_plE _ _
    · exact tp_plE _ _
theorem tp_chL : ∀ (n : Nat) (A : St), aTape (chL n A).2 = aTape A := by
  intro n
  induction n with
  | zero => intro A; rfl
  | succ n ih => intro A; rw [chL]; exact (ih _).trans tp_drawn
theorem tp_chance (a : Int32) : aTape (aChance A a).2 = aTape A := by
  unfold aChance
  split
  · exact tp_chL _ _
  · rfl
theorem tp_edit (a : Int32) : aTape (aEdit A a).2 = [] := by
  unfold aEdit
  split
  · split
    · exact (tp_aEd _ _).trans rfl
    · rfl
  · rfl
theorem tp_sess : aTape (aSess A).2 = [] := by unfold aSess; split <;> rfl
theorem tp_see : aTape (aSee A).2 = [] := by unfold aSee; split <;> rfl
theorem tp_end (n : Int32) : (aTape (aEnd A n).2).length ≤ (aTape A).length := by
  unfold aEnd
  split
  · exact Nat.le_refl _
  · show ((aTape A).take _).length ≤ _
    rw [List.length_take]; omega
theorem tp_feed (a b c d e : Int32) : (aTape (aFeed A a b c d e).2).length ≤ (aTape A).length + 20 := by
  unfold aFeed
  split
  · show (aTape A ++ feedB a b c d e).length ≤ _
    rw [List.length_append, show (feedB a b c d e).length = 20 from rfl]
    omega
  · show (aTape A).length ≤ _
    omega
end TT
