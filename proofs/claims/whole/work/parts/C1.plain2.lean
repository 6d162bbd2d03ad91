/-! ===== PART II, the class: the bounds of a coming operation, in short ===== -/
theorem OpS_len {S : CS} {h : Nat} {o : Option (List Int32)} (hO : OpS S h o) : szO S h ≤ 240 := by
  obtain ⟨l, h1, h2, _⟩ := hO
  have := szO_L h1
  omega
theorem cpyC_le (S : CS) (h p : Nat) : cpyC S h p ≤ 240 := by unfold cpyC; split <;> omega
