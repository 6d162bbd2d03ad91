/-! ===== PART II, the class: an operation's row begins anew, two are changed for each other ===== -/
theorem pr_k {S : CS} {ci a k b : Nat} (h : kd S a = ci) : pr S ci a k b = some (setJ S a k (some b)) := by unfold pr; rw [if_pos h]
theorem cJ_self (S : CS) (a k : Nat) (v : Option Nat) : cJ (setJ S a k v) a k = v := by
  show va_up S.2.2.2.1 a (va_up (S.2.2.2.1 a) k v) a k = v
  rw [va_up_self, va_up_self]
theorem cJ_fld (S : CS) (a k j : Nat) (v : Option Nat) (h : j ≠ k) : cJ (setJ S a k v) a j = cJ S a j := by
  show va_up S.2.2.2.1 a (va_up (S.2.2.2.1 a) k v) a j = S.2.2.2.1 a j
  rw [va_up_self, va_up_ne _ _ h]
theorem nwa_k {X : Nat × Nat} {S : CS} {n : Nat} (hz : cZ S < X.1) (hu : cU S + n ≤ X.2) (hn : n < 1000000) : nwa X S 14 (nI n) = some (bornA S 14 n) := by
  unfold nwa
  rw [nI_clamp (by omega), if_pos ⟨⟨hz, hu⟩, nI_pos (by omega)⟩]
/-- an operation with another row, new -/
theorem OpA_new {S : CS} {h n : Nat} (hh : h < cZ S) (hk : kd S h = 4) (hn : n < 1000000) (s : Int32) : OpA (setI (setJ (bornA S 14 n) h 0 (some (cZ S))) h 1 (nI 0)) h (cZ S) [] := by
  refine ⟨⟨?_, ?_, ?_, ?_, ?_⟩, cI_self _ _ _ _, Nat.zero_le _, ?_, fun k hk => absurd hk (Nat.not_lt_zero _)⟩
  · show h < cZ S + 1; omega
  · show cZ S < cZ S + 1; omega
  · show kd (bornA S 14 n) h = 4; rw [kd_bornA hh]; exact hk
  · show kd (bornA S 14 n) (cZ S) = 14; exact kd_newA S 14 n
  · show cJ (setJ (bornA S 14 n) h 0 (some (cZ S))) h 0 = _; exact cJ_self _ _ _ _
  · show va_up S.2.2.2.2.1 (cZ S) n (cZ S) < 1000000; rw [va_up_self]; exact hn
theorem begin_ok {X : Nat × Nat} {S : CS} {h a m : Nat} {R : List Pt} (hO : OpA S h a R) (hm : m < 100000) (hn : cN S a < 100000) (hz : cZ S < X.1) (hu : cU S + max m (2 * cN S a) ≤ X.2) :
    ∃ S' a', f4_begin X S h (nI m) = some S' ∧ OpA S' h a' [] ∧ Fm (fun x => x = h) S S' ∧ m ≤ cN S' a' ∧ (∀ k, k ≠ 1 → cI S' h k = cI S h k) ∧ (∀ k, k ≠ 0 → cJ S' h k = cJ S h k) ∧ ((a' = a ∧ cZ S' = cZ S ∧ cU S' = cU S) ∨ (a' = cZ S ∧ cZ S' = cZ S + 1 ∧ cN S a < m ∧ cN S' a' = max m (2 * cN S a) ∧ cU S' = cU S + max m (2 * cN S a))) := by
  obtain ⟨⟨q1, q2, q3, q4, q5⟩, q6, q7, q8, q9⟩ := id hO
  unfold f4_begin
  simp only [OpA_gr hO, Option.bind_some, OpA_al hO]
  by_cases hle : m ≤ cN S a
  · rw [if_pos (nI_le hle (by omega)), Option.bind_some, pi_k q3, Option.bind_some]
    refine ⟨_, a, rfl, ⟨⟨q1, q2, q3, q4, q5⟩, cI_self _ _ _ _, Nat.zero_le _, q8, fun k hk => absurd hk (Nat.not_lt_zero _)⟩, Fm_setI rfl, hle, fun k hk => ?_, fun _ _ => rfl, Or.inl ⟨rfl, rfl, rfl⟩⟩
    exact (OpF_setI (a := a)).2.2.2.2.1 k hk
  · have e2 : (if nI m < 2 * nI (cN S a) then 2 * nI (cN S a) else nI m) = nI (max m (2 * cN S a)) := by
      rw [show (2 : Int32) * nI (cN S a) = nI (2 * cN S a) from nI_mul 2 (cN S a)]
      by_cases hx : m < 2 * cN S a
      · rw [if_pos (nI_lt hx (by omega)), show max m (2 * cN S a) = 2 * cN S a by omega]
      · rw [if_neg (nI_nlt (by omega) (by omega)), show max m (2 * cN S a) = m by omega]
    rw [if_neg (nI_ge (by omega) (by omega)), e2, nwa_k hz hu (by omega), Option.bind_some]
    generalize hN : max m (2 * cN S a) = N at *
    have hk8 : kd (bornA S 14 N) h = 4 := by rw [kd_bornA q1]; exact q3
    rw [pr_k hk8, Option.bind_some, Option.bind_some, pi_k (S := setJ (bornA S 14 N) h 0 (some (cZ S))) hk8, Option.bind_some]
    refine ⟨_, cZ S, rfl, OpA_new q1 q3 (by omega) 0, Fm_trans Fm_bornA (Fm_trans (Fm_setJ rfl) (Fm_setI rfl)), ?_, fun k hk => ?_, fun k hk => ?_, Or.inr ⟨rfl, rfl, by omega, ?_, rfl⟩⟩
    · show m ≤ va_up S.2.2.2.2.1 (cZ S) N (cZ S); rw [va_up_self]; omega
    · exact (OpF_setI (S := setJ (bornA S 14 N) h 0 (some (cZ S))) (a := a)).2.2.2.2.1 k hk
    · show cJ (setJ (bornA S 14 N) h 0 (some (cZ S))) h k = cJ S h k
      rw [cJ_fld _ _ _ _ _ hk]; rfl
    · show va_up S.2.2.2.2.1 (cZ S) N (cZ S) = N; exact va_up_self _ _ _
theorem swap_ok {S : CS} {h p a b : Nat} {R Q : List Pt} (hO : OpA S h a R) (hP : OpA S p b Q) (hne : h ≠ p) : ∃ S', f4_swap S h p = some S' ∧ OpA S' h b Q ∧ OpA S' p a R ∧ Fm (fun x => x = h ∨ x = p) S S' ∧ cZ S' = cZ S ∧ cU S' = cU S ∧ cA S' = cA S ∧ cN S' = cN S ∧ (∀ k, k ≠ 1 → cI S' h k = cI S h k ∧ cI S' p k = cI S p k) ∧ (∀ k, k ≠ 0 → cJ S' h k = cJ S h k ∧ cJ S' p k = cJ S p k) := by
  obtain ⟨⟨q1, q2, q3, q4, q5⟩, q6, q7, q8, q9⟩ := id hO
  obtain ⟨⟨r1, r2, r3, r4, r5⟩, r6, r7, r8, r9⟩ := id hP
  have hne' : p ≠ h := Ne.symm hne
  unfold f4_swap
  rw [OpA_gr hO, Option.bind_some, OpA_gi hO, Option.bind_some, OpA_gr hP, Option.bind_some, pr_k q3, Option.bind_some, gi_k (S := setJ S h 0 (some b)) r3, show cI (setJ S h 0 (some b)) p 1 = nI Q.length from r6, Option.bind_some, pi_k (S := setJ S h 0 (some b)) q3, Option.bind_some, pr_k (S := setI (setJ S h 0 (some b)) h 1 (nI Q.length)) r3, Option.bind_some, pi_k (S := setJ (setI (setJ S h 0 (some b)) h 1 (nI Q.length)) p 0 (some a)) r3, Option.bind_some]
  generalize hF : setI (setJ (setI (setJ S h 0 (some b)) h 1 (nI Q.length)) p 0 (some a)) p 1 (nI R.length) = F
  have jh : cJ F h 0 = some b := by
    rw [← hF]
    show va_up (va_up S.2.2.2.1 h (va_up (S.2.2.2.1 h) 0 (some b))) p _ h 0 = some b
    rw [va_up_ne _ _ hne, va_up_self, va_up_self]
  have jp : cJ F p 0 = some a := by
    rw [← hF]
    show va_up (va_up S.2.2.2.1 h (va_up (S.2.2.2.1 h) 0 (some b))) p _ p 0 = some a
    rw [va_up_self, va_up_self]
  have ih : cI F h 1 = nI Q.length := by
    rw [← hF]
    show va_up (va_up S.2.2.1 h (va_up (S.2.2.1 h) 1 (nI Q.length))) p _ h 1 = _
    rw [va_up_ne _ _ hne, va_up_self, va_up_self]
  have ip : cI F p 1 = nI R.length := by
    rw [← hF]
    show va_up (va_up S.2.2.1 h (va_up (S.2.2.1 h) 1 (nI Q.length))) p _ p 1 = _
    rw [va_up_self, va_up_self]
  have kF : ∀ x, kd F x = kd S x := fun x => by rw [← hF]; rfl
  have zF : cZ F = cZ S := by rw [← hF]; rfl
  have nF : cN F = cN S := by rw [← hF]; rfl
  have aF : cA F = cA S := by rw [← hF]; rfl
  refine ⟨F, rfl, ⟨⟨by rw [zF]; exact q1, by rw [zF]; exact r2, by rw [kF]; exact q3, by rw [kF]; exact r4, jh⟩, ih, by rw [nF]; exact r7, by rw [nF]; exact r8, by rw [aF]; exact r9⟩, ⟨⟨by rw [zF]; exact r1, by rw [zF]; exact q2, by rw [kF]; exact r3, by rw [kF]; exact q4, jp⟩, ip, by rw [nF]; exact q7, by rw [nF]; exact q8, by rw [aF]; exact q9⟩, ?_, zF, by rw [← hF]; rfl, aF, nF, fun k hk => ⟨?_, ?_⟩, fun k hk => ⟨?_, ?_⟩⟩
  · rw [← hF]
    exact Fm_trans (Fm_setJ (Or.inl rfl)) (Fm_trans (Fm_setI (Or.inl rfl)) (Fm_trans (Fm_setJ (Or.inr rfl)) (Fm_setI (Or.inr rfl))))
  · rw [← hF]
    show va_up (va_up S.2.2.1 h (va_up (S.2.2.1 h) 1 (nI Q.length))) p _ h k = _
    rw [va_up_ne _ _ hne, va_up_self, va_up_ne _ _ hk]
  · rw [← hF]
    show va_up (va_up S.2.2.1 h (va_up (S.2.2.1 h) 1 (nI Q.length))) p _ p k = _
    rw [va_up_self, va_up_ne _ _ hk]
    show va_up S.2.2.1 h (va_up (S.2.2.1 h) 1 (nI Q.length)) p k = _
    rw [va_up_ne _ _ hne']
  · rw [← hF]
    show va_up (va_up S.2.2.2.1 h (va_up (S.2.2.2.1 h) 0 (some b))) p _ h k = _
    rw [va_up_ne _ _ hne, va_up_self, va_up_ne _ _ hk]
  · rw [← hF]
    show va_up (va_up S.2.2.2.1 h (va_up (S.2.2.2.1 h) 0 (some b))) p _ p k = _
    rw [va_up_self, va_up_ne _ _ hk]
    show va_up S.2.2.2.1 h (va_up (S.2.2.2.1 h) 0 (some b)) p k = _
    rw [va_up_ne _ _ hne']
