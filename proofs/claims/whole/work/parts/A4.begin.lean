/-! ===== PART II, the reference: at the beginning ===== -/
def A00 : St := (([], 0, -1, fun _ => 0), (0, 0, []), ((0, 0, 0), [], fun _ => E0t []), [], [], 1)
theorem RS_00 : RS M0 A00 := by
  refine ⟨rfl, fun k hk => absurd hk (Nat.not_lt_zero _), rfl, rfl, fun k hk => rfl, rfl, ⟨rfl, fun k hk => absurd hk (Nat.not_lt_zero _), Nat.zero_le _⟩, ⟨rfl, rfl, rfl, rfl, rfl, rfl, fun i o ho => absurd (show ([] : List (Nat × List Int32))[i]? = some o from ho) (by simp), fun i hi => absurd hi (Nat.not_lt_zero _)⟩, ⟨rfl, 0, by omega, rfl, fun j W hW => absurd (show ([] : List Wd)[j]? = some W from hW) (by simp)⟩, rfl, fun k hk => absurd hk (Nat.not_lt_zero _), rfl, ?_⟩
  unfold RKw seg
  exact ⟨by decide +kernel, by decide +kernel, by decide +kernel, by decide +kernel, by decide +kernel, by decide +kernel, by decide +kernel, by decide +kernel, by decide +kernel, by decide +kernel⟩
theorem GA_00 : GA A00 :=
  ⟨Nat.zero_le _, fun v hv => absurd hv List.not_mem_nil, ⟨Nat.zero_le _, Nat.zero_le _, Nat.zero_le _, Nat.zero_le _, Nat.zero_le _, trivial, Nat.zero_le _, Nat.zero_le _, fun e he => absurd he (Nat.not_lt_zero _)⟩, fun v hv => absurd hv List.not_mem_nil, Nat.zero_le _, Or.inl rfl, fun _ => ⟨rfl, rfl, rfl, rfl, rfl, rfl, rfl, rfl⟩, Nat.zero_le _, fun W hW => absurd hW List.not_mem_nil, fun j W W' hW => absurd (show ([] : List Wd)[j]? = some W from hW) (by simp), Nat.zero_le _, fun x hx => absurd hx List.not_mem_nil, by decide⟩
