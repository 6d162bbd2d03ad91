/-! ===== PART II, the class: what the beginning may still want ===== -/
theorem tri_2 (n : Nat) : 2 * tri n = n * (n + 1) := by
  induction n with
  | zero => rfl
  | succ n ih => rw [tri, Nat.mul_add, ih, ← Nat.add_mul, Nat.mul_comm]
theorem dW_0 {z x : Nat} (h : isZr z x) : dW z x = 0 := by
  unfold dW wt
  rw [if_pos h, if_pos h]
theorem dW_n {z x : Nat} (h : ¬ isBr z x) : dW z x ≤ 3184 := by
  unfold dW wt
  by_cases h0 : isZr z x
  · rw [if_pos h0, if_pos h0]; exact Nat.zero_le _
  · rw [if_neg h0, if_neg h0, if_neg h, if_neg h]
    by_cases h1 : x < z + 661
    · rw [if_pos h1, if_pos h1]; omega
    · rw [if_neg h1, if_neg h1]; omega
theorem dW_b {z x : Nat} : dW z x ≤ 32361 := by
  by_cases h : isBr z x
  · unfold dW wt
    by_cases h0 : isZr z x
    · rw [if_pos h0, if_pos h0]; exact Nat.zero_le _
    · rw [if_neg h0, if_neg h0, if_pos h, if_pos h, show min 1600 241 = 241 from rfl]
      have := tri_2 241
      omega
  · have := dW_n h
    omega
theorem dI_n {z v : Nat} : ∀ n, (∀ i, i < n → ¬ isBr z (v + 2 + 2 * i)) → dI z v n ≤ 3184 * n := by
  intro n
  induction n with
  | zero => intro _; exact Nat.le_refl _
  | succ n ih =>
    intro h
    have h1 := ih (fun i hi => h i (by omega))
    have h2 := dW_n (h n (by omega))
    rw [dI]; omega
theorem dI_0 {z v : Nat} : ∀ n, (∀ i, i < n → isZr z (v + 2 + 2 * i)) → dI z v n = 0 := by
  intro n
  induction n with
  | zero => intro _; rfl
  | succ n ih =>
    intro h
    rw [dI, ih (fun i hi => h i (by omega)), dW_0 (h n (by omega))]
theorem dR_n {z f : Nat} : ∀ n, (∀ i, i < n → ¬ isBr z (f + 2 * i)) → dR z f n ≤ 3184 * n := by
  intro n
  induction n with
  | zero => intro _; exact Nat.le_refl _
  | succ n ih =>
    intro h
    have h1 := ih (fun i hi => h i (by omega))
    have h2 := dW_n (h n (by omega))
    rw [dR]; omega
theorem dE_n {z e : Nat} (h1 : z + 21 ≤ e) (h2 : e + 45 ≤ z + 656) : dE z e ≤ 57312 := by
  have a := dW_n (z := z) (x := e + 3) (by unfold isBr; omega)
  have b := dW_n (z := z) (x := e + 5) (by unfold isBr; omega)
  have c := dI_n (z := z) (v := e + 7) 8 (fun i hi => by unfold isBr; omega)
  have d := dI_n (z := z) (v := e + 25) 8 (fun i hi => by unfold isBr; omega)
  unfold dE; omega
theorem dQ_w {z : Nat} : dQ z (z + 227) 4 ≤ 229248 := by
  rw [dQ, dQ, dQ, dQ, dQ]
  have a := dE_n (z := z) (e := z + 227 + 5 + 45 * 0) (by omega) (by omega)
  have b := dE_n (z := z) (e := z + 227 + 5 + 45 * 1) (by omega) (by omega)
  have c := dE_n (z := z) (e := z + 227 + 5 + 45 * 2) (by omega) (by omega)
  have d := dE_n (z := z) (e := z + 227 + 5 + 45 * 3) (by omega) (by omega)
  omega
theorem dE_a {z k : Nat} (hk : k < 4) : dE z (z + 412 + 5 + 45 * k) ≤ 6368 := by
  have a := dW_n (z := z) (x := z + 412 + 5 + 45 * k + 3) (by unfold isBr; omega)
  have b := dW_n (z := z) (x := z + 412 + 5 + 45 * k + 5) (by unfold isBr; omega)
  have c := dI_0 (z := z) (v := z + 412 + 5 + 45 * k + 7) 8 (fun i hi => by
    unfold isZr
    rw [show z + 412 + 5 + 45 * k + 7 + 2 + 2 * i - (z + 417) = 9 + 2 * i + 45 * k by omega, Nat.add_mul_mod_self_left, Nat.mod_eq_of_lt (show 9 + 2 * i < 45 by omega)]
    omega)
  have d := dI_0 (z := z) (v := z + 412 + 5 + 45 * k + 25) 8 (fun i hi => by
    unfold isZr
    rw [show z + 412 + 5 + 45 * k + 25 + 2 + 2 * i - (z + 417) = 27 + 2 * i + 45 * k by omega, Nat.add_mul_mod_self_left, Nat.mod_eq_of_lt (show 27 + 2 * i < 45 by omega)]
    omega)
  unfold dE; omega
theorem dQ_a {z : Nat} : dQ z (z + 412) 4 ≤ 25472 := by
  rw [dQ, dQ, dQ, dQ, dQ]
  have a := dE_a (z := z) (k := 0) (by omega)
  have b := dE_a (z := z) (k := 1) (by omega)
  have c := dE_a (z := z) (k := 2) (by omega)
  have d := dE_a (z := z) (k := 3) (by omega)
  omega
theorem dV_n {z : Nat} : dV z (z + 6) ≤ 100267 := by
  have a := dW_0 (z := z) (x := z + 6 + 2) (by unfold isZr; omega)
  have b := dW_0 (z := z) (x := z + 6 + 5) (by unfold isZr; omega)
  have c := dW_n (z := z) (x := z + 6 + 7) (by unfold isBr; omega)
  have d := dW_b (z := z) (x := z + 6 + 9)
  have e := dW_b (z := z) (x := z + 6 + 12)
  have f := dW_b (z := z) (x := z + 6 + 14)
  unfold dV; omega
theorem dR_r {z : Nat} : dR z (z + 22 + 5) 100 ≤ 318400 := dR_n (z := z) (f := z + 22 + 5) 100 (fun i hi => by unfold isBr; omega)
