/-! ===== PART II, the class: operations, texts, rows of inverses are made ===== -/
def dW (z x : Nat) : Nat := wt z x 1600 - wt z x 8
def twoC (S : CS) (ci m : Nat) : CS := setI (setJ (bornA (bornO S ci 2) 14 m) (cZ S) 0 (some (cZ S + 1))) (cZ S) 1 0
theorem mk_two {z ex : Nat} {S : CS} {ci m : Nat} (hW : Wb S) (hc : (ci = 4 ∧ m = 8) ∨ (ci = 7 ∧ m = 240)) : Mk z ex (fun _ => False) 2 (2 + m) (if ci = 4 then dW z (cZ S) else 0) S (twoC S ci m) ∧ kd (twoC S ci m) (cZ S) = ci ∧ kd (twoC S ci m) (cZ S + 1) = 14 ∧ cJ (twoC S ci m) (cZ S) 0 = some (cZ S + 1) ∧ cN (twoC S ci m) (cZ S + 1) = m ∧ cI (twoC S ci m) (cZ S) 1 = 0 := by
  generalize hT : twoC S ci m = T
  have nJ : ∀ x k, cZ S ≤ x → cJ S x k = none := fun x k hx => by
    cases h : cJ S x k with
    | none => rfl
    | some a => have := (hW.2.1 _ _ _ h).1; omega
  have eL : cL T = cL S ++ [cZ S] ++ [cZ S + 1] := by rw [← hT]; rfl
  have eZ : cZ T = cZ S + 2 := by rw [← hT]; rfl
  have eU : cU T = cU S + (2 + m) := by rw [← hT]; show cU S + 2 + m = _; omega
  have eJ : ∀ x j, cJ T x j = if x = cZ S ∧ j = 0 then some (cZ S + 1) else cJ S x j := fun x j => by
    rw [← hT]
    show cJ (setJ (bornA (bornO S ci 2) 14 m) (cZ S) 0 (some (cZ S + 1))) x j = _
    rw [cJ_set]
    by_cases q : x = cZ S ∧ j = 0
    · rw [if_pos q, if_pos q]
    · rw [if_neg q, if_neg q]
      show va_up S.2.2.2.1 (cZ S) (fun _ => none) x j = _
      by_cases hx : x = cZ S
      · rw [hx, va_up_self]; exact (nJ _ _ (Nat.le_refl _)).symm
      · rw [va_up_ne _ _ hx]
  have ek : ∀ x, x < cZ S → kd T x = kd S x := fun x hx => by
    rw [← hT]
    show kd (bornA (bornO S ci 2) 14 m) x = _
    rw [kd_bornA (S := bornO S ci 2) (show x < cZ S + 1 by omega), kd_bornO hx]
  have ek0 : kd T (cZ S) = ci := by
    rw [← hT]
    show kd (bornA (bornO S ci 2) 14 m) (cZ S) = _
    rw [kd_bornA (S := bornO S ci 2) (show cZ S < cZ S + 1 by omega), kd_newO]
  have ek1 : kd T (cZ S + 1) = 14 := by
    rw [← hT]
    show kd (bornA (bornO S ci 2) 14 m) (cZ S + 1) = _
    exact kd_newA (bornO S ci 2) 14 m
  have eN : ∀ x, x < cZ S → cN T x = cN S x := fun x hx => by rw [← hT]; exact va_up_ne _ _ (show x ≠ cZ S + 1 by omega)
  have eN1 : cN T (cZ S + 1) = m := by rw [← hT]; exact va_up_self _ _ _
  have eI1 : cI T (cZ S) 1 = 0 := by rw [← hT]; exact cI_self _ _ _ _
  have eJ0 : cJ T (cZ S) 0 = some (cZ S + 1) := by rw [eJ, if_pos ⟨rfl, rfl⟩]
  have hlt : ∀ x ∈ cL T, x < cZ T := fun x hx => by
    rw [eL] at hx
    rcases List.mem_append.mp hx with hx | hx
    · rcases List.mem_append.mp hx with hx | hx
      · have := hW.1 x hx; omega
      · have := List.mem_singleton.mp hx; omega
    · have := List.mem_singleton.mp hx; omega
  refine ⟨⟨⟨hlt, fun x j b hb => ?_, fun x y j j' b h1 h2 h3 => ?_⟩, ⟨eZ, eU⟩, fun x hx => ⟨ek x hx, eN x hx, ?_, fun hn => ⟨?_, ?_, ?_⟩⟩, fun y j b hj hb hk14 => ?_, fun x hx hne => ?_, ?_⟩, ek0, ek1, eJ0, eN1, eI1⟩
  · rw [eJ] at hb
    by_cases q : x = cZ S ∧ j = 0
    · rw [if_pos q] at hb
      have := Option.some.inj hb
      omega
    · rw [if_neg q] at hb
      have := hW.2.1 x j b hb
      omega
  · rw [eJ] at h1 h2
    by_cases q : x = cZ S ∧ j = 0
    · rw [if_pos q] at h1
      have hb := Option.some.inj h1
      by_cases q2 : y = cZ S ∧ j' = 0
      · exact ⟨q.1.trans q2.1.symm, q.2.trans q2.2.symm⟩
      · rw [if_neg q2] at h2
        have := (hW.2.1 y j' b h2).2
        omega
    · rw [if_neg q] at h1
      have hb := (hW.2.1 x j b h1).2
      by_cases q2 : y = cZ S ∧ j' = 0
      · rw [if_pos q2] at h2
        have := Option.some.inj h2
        omega
      · rw [if_neg q2] at h2
        rw [ek b hb] at h3
        exact hW.2.2 x y j j' b h1 h2 h3
  · rw [← hT]; exact va_up_ne _ _ (show x ≠ cZ S + 1 by omega)
  · rw [← hT]
    have e1 : cI (twoC S ci m) x = cI (bornO S ci 2) x := va_up_ne _ _ (show x ≠ cZ S by omega)
    rw [e1]
    exact va_up_ne _ _ (show x ≠ cZ S by omega)
  · funext j
    rw [eJ, if_neg (fun q => by omega)]
  · rw [← hT]; exact va_up_ne _ _ (show x ≠ cZ S + 1 by omega)
  · rw [eJ] at hj
    by_cases q : y = cZ S ∧ j = 0
    · rw [if_pos q] at hj
      have := Option.some.inj hj
      omega
    · rw [if_neg q] at hj
      exact ⟨(hW.2.1 y j b hj).1, hj⟩
  · by_cases hx2 : x = cZ S
    · subst hx2
      refine ⟨fun hh => ⟨cZ S + 1, eJ0, ek1, ?_⟩, fun k hh => ?_⟩
      · rw [ek0] at hh; rw [eN1]; omega
      · rw [ek0] at hh
        have hk0 : k = 0 := by omega
        subst hk0
        exact ⟨cZ S + 1, eJ0, ek1, by rw [eN1]; omega⟩
    · apply okC_no
      by_cases hx3 : x = cZ S + 1
      · rw [hx3, ek1]; omega
      · rw [kd_no hlt (by omega)]; omega
  · rw [eZ, show cZ S + 2 = cZ S + 1 + 1 from rfl, sumN, sumN, show dfc z T (cZ S + 1) = 0 from by unfold dfc; rw [ek1, if_neg (by omega)], sumN_congr (fun x hx => show dfc z T x = dfc z S x by
      unfold dfc
      rw [ek x hx]
      by_cases q4 : kd S x = 4
      · rw [if_pos q4, if_pos q4]
        have : lenO T x = lenO S x := by
          unfold lenO
          rw [eJ, if_neg (fun q => by omega)]
          cases hc : cJ S x 0 with
          | none => rfl
          | some b => exact eN b (hW.2.1 x 0 b hc).2
        rw [this]
      · rw [if_neg q4, if_neg q4])]
    have : dfc z T (cZ S) = if ci = 4 then dW z (cZ S) else 0 := by
      unfold dfc dW
      rw [ek0]
      by_cases q : ci = 4
      · rw [if_pos q, if_pos q, lenO_of eJ0, eN1]
        have : m = 8 := by omega
        rw [this]
      · rw [if_neg q, if_neg q]
    omega
theorem pi_J {S : CS} {ci a k x j : Nat} {b : Option Nat} {v : Int32} (h : kd S a = ci) : pi (setJ S x j b) ci a k v = some (setI (setJ S x j b) a k v) := pi_k (S := setJ S x j b) h
theorem pi_I {S : CS} {ci a k x j : Nat} {b v : Int32} (h : kd S a = ci) : pi (setI S x j b) ci a k v = some (setI (setI S x j b) a k v) := pi_k (S := setI S x j b) h
theorem new_op {X : Nat × Nat} {S : CS} (hz : cZ S + 2 ≤ X.1) (hu : cU S + 10 ≤ X.2) : nwo X S 4 2 = some (bornO S 4 2) ∧ f4_init X (bornO S 4 2) (cZ S) = some (twoC S 4 8) := by
  refine ⟨nwo_k (by omega) (by omega), ?_⟩
  unfold f4_init
  rw [show (8 : Int32) = nI 8 from rfl, nwr_k (S := bornO S 4 2) (show cZ S + 1 < X.1 by omega) (show cU S + 2 + 8 ≤ X.2 by omega) (by omega), Option.bind_some]
  have k1 : kd (bornA (bornO S 4 2) 14 8) (cZ S) = 4 := by rw [kd_bornA (S := bornO S 4 2) (show cZ S < cZ S + 1 by omega), kd_newO]
  rw [pr_k k1, Option.bind_some, pi_J k1, Option.bind_some]
  rfl
theorem new_txt {X : Nat × Nat} {S : CS} (hz : cZ S + 2 ≤ X.1) (hu : cU S + 242 ≤ X.2) : nwo X S 7 2 = some (bornO S 7 2) ∧ f7_init X (bornO S 7 2) (cZ S) = some (twoC S 7 240) := by
  refine ⟨nwo_k (by omega) (by omega), ?_⟩
  unfold f7_init
  rw [show (240 : Int32) = nI 240 from rfl, nwr_k (S := bornO S 7 2) (show cZ S + 1 < X.1 by omega) (show cU S + 2 + 240 ≤ X.2 by omega) (by omega), Option.bind_some]
  have k1 : kd (bornA (bornO S 7 2) 14 240) (cZ S) = 7 := by rw [kd_bornA (S := bornO S 7 2) (show cZ S < cZ S + 1 by omega), kd_newO]
  rw [pr_k k1, Option.bind_some, pi_J k1, Option.bind_some]
  rfl
/-- an operation as it is made -/
def OpN (S : CS) (h : Nat) : Prop := h + 1 < cZ S ∧ kd S h = 4 ∧ kd S (h + 1) = 14 ∧ cJ S h 0 = some (h + 1) ∧ cN S (h + 1) = 8 ∧ cI S h 1 = 0
theorem OpN_L {S : CS} {h : Nat} (hO : OpN S h) : OpL S h [] := by
  obtain ⟨h1, h2, h3, h4, h5, h6⟩ := hO
  exact ⟨[], ⟨trivial, h + 1, ⟨by omega, h1, h2, h3, h4⟩, h6, Nat.zero_le _, by omega, fun k hk => absurd hk (Nat.not_lt_zero _)⟩, rfl⟩
theorem OpN_S {S : CS} {h : Nat} (hO : OpN S h) : OpS S h none := ⟨[], OpN_L hO, Nat.zero_le _, fun p hp => by cases hp⟩
theorem OpN_Mk {z ex n u D : Nat} {H : Nat → Prop} {S S' : CS} {h : Nat} (hO : OpN S h) (hm : Mk z ex H n u D S S') (hn : ¬ H h) : OpN S' h := by
  obtain ⟨h1, h2, h3, h4, h5, h6⟩ := hO
  obtain ⟨_, ⟨m1, _⟩, m2, _⟩ := hm
  obtain ⟨a1, a2, a3, a4⟩ := m2 h (by omega)
  obtain ⟨b1, b2, b3, b4⟩ := m2 (h + 1) h1
  obtain ⟨c1, c2, c3⟩ := a4 hn
  exact ⟨by omega, by rw [a1]; exact h2, by rw [b1]; exact h3, by rw [c2]; exact h4, by rw [b2]; exact h5, by rw [c1]; exact h6⟩
/-- a row of inverses as it is made -/
def InvN (S : CS) (v : Nat) : Prop := v + 17 < cZ S ∧ (kd S v = 3 ∧ cJ S v 0 = some (v + 1) ∧ kd S (v + 1) = 17 ∧ cN S (v + 1) = 8) ∧ cI S v 1 = 0 ∧ ∀ i, i < 8 → cB S (v + 1) i = some (v + 2 + 2 * i) ∧ OpN S (v + 2 + 2 * i)
theorem InvN_Mk {z ex n u D : Nat} {H : Nat → Prop} {S S' : CS} {v : Nat} (hO : InvN S v) (hm : Mk z ex H n u D S S') (hn : ∀ x, v ≤ x → x < v + 18 → ¬ H x) : InvN S' v := by
  obtain ⟨h0, ⟨h1, h2, h3, h4⟩, h5, h6⟩ := hO
  obtain ⟨m0, ⟨m1, _⟩, m2, _⟩ := id hm
  obtain ⟨a1, a2, a3, a4⟩ := m2 v (by omega)
  obtain ⟨b1, b2, b3, b4⟩ := m2 (v + 1) (by omega)
  obtain ⟨c1, c2, c3⟩ := a4 (hn v (by omega) (by omega))
  obtain ⟨d1, d2, d3⟩ := b4 (hn (v + 1) (by omega) (by omega))
  refine ⟨by omega, ⟨by rw [a1]; exact h1, by rw [c2]; exact h2, by rw [b1]; exact h3, by rw [b2]; exact h4⟩, by rw [c1]; exact h5, fun i hi => ⟨by rw [d3]; exact (h6 i hi).1, OpN_Mk (h6 i hi).2 hm (hn _ (by omega) (by omega))⟩⟩
theorem InvN_L {S : CS} {v : Nat} (h : InvN S v) : InvL S v [] := by
  obtain ⟨h0, h1, h5, h6⟩ := h
  refine ⟨[v + 2, v + 4, v + 6, v + 8, v + 10, v + 12, v + 14, v + 16], ⟨h1, rfl, ?_, fun x hx => ?_, fun i hi => ?_⟩, h5, Nat.zero_le _, fun i x hx => by cases hx⟩
  · simp
  · have key : ∃ i, i < 8 ∧ x = v + 2 + 2 * i := by
      simp only [List.mem_cons, List.not_mem_nil, or_false] at hx
      rcases hx with h | h | h | h | h | h | h | h
      · exact ⟨0, by omega, by omega⟩
      · exact ⟨1, by omega, by omega⟩
      · exact ⟨2, by omega, by omega⟩
      · exact ⟨3, by omega, by omega⟩
      · exact ⟨4, by omega, by omega⟩
      · exact ⟨5, by omega, by omega⟩
      · exact ⟨6, by omega, by omega⟩
      · exact ⟨7, by omega, by omega⟩
    obtain ⟨i, i1, i2⟩ := key
    exact ⟨by omega, by omega, by rw [i2]; exact (h6 i i1).2.2.1⟩
  · rw [(h6 i hi).1]
    rcases (show i = 0 ∨ i = 1 ∨ i = 2 ∨ i = 3 ∨ i = 4 ∨ i = 5 ∨ i = 6 ∨ i = 7 by omega) with rfl | rfl | rfl | rfl | rfl | rfl | rfl | rfl <;> rfl
def dI (z v : Nat) : Nat → Nat
  | 0 => 0
  | n + 1 => dI z v n + dW z (v + 2 + 2 * n)
theorem inv_mk_loop {z ex : Nat} {X : Nat × Nat} {v : Nat} : ∀ (d i n : Nat) (S : CS), i + d = 8 → d < n → Wb S → cZ S = v + 2 + 2 * i → cZ S + 2 * d ≤ X.1 → cU S + 10 * d ≤ X.2 → (kd S v = 3 ∧ cJ S v 0 = some (v + 1) ∧ kd S (v + 1) = 17 ∧ cN S (v + 1) = 8) → (∀ j, j < i → cB S (v + 1) j = some (v + 2 + 2 * j) ∧ OpN S (v + 2 + 2 * j)) →
    ∃ S', LX3_init_20 X v n (nI i) S = some S' ∧ cI S' v = cI S v ∧ (∀ j, j < 8 → cB S' (v + 1) j = some (v + 2 + 2 * j) ∧ OpN S' (v + 2 + 2 * j)) ∧ Mk z ex (fun x => x = v + 1) (2 * d) (10 * d) (dI z v 8 - dI z v i) S S' := by
  intro d
  induction d with
  | zero =>
    intro i n S hi hn hW hz hX hU hv hd
    obtain ⟨n, rfl⟩ : ∃ k, n = k + 1 := ⟨n - 1, by omega⟩
    unfold LX3_init_20
    rw [gr_k hv.1 hv.2.1, Option.bind_some, aln_k hv.2.2.1, hv.2.2.2, Option.bind_some, if_pos (nI_le (by omega) (by omega))]
    refine ⟨S, rfl, rfl, fun j hj => hd j (by omega), hW, ⟨by omega, by omega⟩, fun x hx => ⟨rfl, rfl, rfl, fun _ => ⟨rfl, rfl, rfl⟩⟩, fun h k a hj ha hk => ⟨(hW.2.1 _ _ _ hj).1, hj⟩, fun x hx _ => okC_no (by rw [kd_no hW.1 hx]; omega), by omega⟩
  | succ d ih =>
    intro i n S hi hn hW hz hX hU hv hd
    obtain ⟨n, rfl⟩ : ∃ k, n = k + 1 := ⟨n - 1, by omega⟩
    obtain ⟨n1, n2⟩ := new_op (X := X) (S := S) (by omega) (by omega)
    obtain ⟨m1, t1, t2, t3, t4, t5⟩ := mk_two (z := z) (ex := ex) (S := S) (ci := 4) (m := 8) hW (Or.inl ⟨rfl, rfl⟩)
    rw [if_pos rfl] at m1
    unfold LX3_init_20
    rw [gr_k hv.1 hv.2.1, Option.bind_some, aln_k hv.2.2.1, hv.2.2.2, Option.bind_some, if_neg (nI_ge (by omega) (by omega)), Option.bind_some, n1, Option.bind_some, n2, Option.bind_some]
    generalize hT : twoC S 4 8 = T at m1 t1 t2 t3 t4 t5 ⊢
    have kv := m1.2.2.1 v (by omega)
    have kv1 := m1.2.2.1 (v + 1) (by omega)
    have k17 : kd T (v + 1) = 17 := by rw [kv1.1]; exact hv.2.2.1
    have n17 : cN T (v + 1) = 8 := by rw [kv1.2.1]; exact hv.2.2.2
    rw [str_k k17 t1 (show i < cN T (v + 1) by omega) (by omega), Option.bind_some, nI_1]
    have m2 : Mk z ex (fun x => x = v + 1) 0 0 0 T (setB T (v + 1) (va_up (cB T (v + 1)) i (some (cZ S)))) := mk_str m1.1 (by rw [k17]; omega)
    have m12 : Mk z ex (fun x => x = v + 1) (2 + 0) (10 + 0) (dW z (cZ S) + 0) S (setB T (v + 1) (va_up (cB T (v + 1)) i (some (cZ S)))) := by
      refine Mk_trans (H := fun x => x = v + 1) ?_ m2 (fun x _ h => h) (fun x hx _ => Or.inl (by rw [hx, k17]; unfold okN; omega))
      exact ⟨m1.1, m1.2.1, fun x hx => ⟨(m1.2.2.1 x hx).1, (m1.2.2.1 x hx).2.1, (m1.2.2.1 x hx).2.2.1, fun _ => (m1.2.2.1 x hx).2.2.2 (fun h => h)⟩, m1.2.2.2⟩
    have hcB : ∀ j, cB (setB T (v + 1) (va_up (cB T (v + 1)) i (some (cZ S)))) (v + 1) j = if j = i then some (cZ S) else cB S (v + 1) j := fun j => by
      rw [cB_self]
      by_cases hj : j = i
      · rw [hj, va_up_self, if_pos rfl]
      · rw [va_up_ne _ _ hj, if_neg hj, (kv1.2.2.2 (fun h => h)).2.2]
    have hci : cI (setB T (v + 1) (va_up (cB T (v + 1)) i (some (cZ S)))) v = cI S v := (kv.2.2.2 (fun h => h)).1
    have hop : OpN T (cZ S) := ⟨by have := m1.2.1.1; omega, t1, t2, t3, t4, t5⟩
    generalize hY : setB T (v + 1) (va_up (cB T (v + 1)) i (some (cZ S))) = Y at m2 m12 hcB hci ⊢
    have yv := m12.2.2.1 v (by omega)
    have yv1 := m12.2.2.1 (v + 1) (by omega)
    obtain ⟨S', r1, r2, r3, r4⟩ := ih (i + 1) n Y (by omega) (by omega) m12.1 (by have := m12.2.1.1; omega) (by have := m12.2.1.1; omega) (by have := m12.2.1.2; omega) ⟨by rw [yv.1]; exact hv.1, by rw [(yv.2.2.2 (show ¬ v = v + 1 by omega)).2.1]; exact hv.2.1, by rw [yv1.1]; exact hv.2.2.1, by rw [yv1.2.1]; exact hv.2.2.2⟩ (fun j hj => by
      rw [hcB]
      by_cases hji : j = i
      · rw [if_pos hji, hji, ← hz]
        exact ⟨rfl, OpN_Mk hop m2 (show ¬ cZ S = v + 1 by omega)⟩
      · rw [if_neg hji]
        obtain ⟨q1, q2⟩ := hd j (by omega)
        exact ⟨q1, OpN_Mk q2 m12 (by omega)⟩)
    refine ⟨S', r1, r2.trans hci, r3, ?_⟩
    have := Mk_trans m12 r4 (fun x _ h => h) (fun x hx _ => Or.inl (by rw [hx, yv1.1, hv.2.2.1]; unfold okN; omega))
    have e3 : dI z v (i + 1) = dI z v i + dW z (cZ S) := by rw [dI, hz]
    have e4 : dI z v (i + 1) ≤ dI z v 8 := by
      have : ∀ k, k + (i + 1) ≤ 8 → dI z v (i + 1) ≤ dI z v (i + 1 + k) := by
        intro k
        induction k with
        | zero => intro _; exact Nat.le_refl _
        | succ k ihk => intro hk; have := ihk (by omega); rw [show dI z v (i + 1 + (k + 1)) = dI z v (i + 1 + k) + dW z (v + 2 + 2 * (i + 1 + k)) from rfl]; omega
      have := this (8 - (i + 1)) (by omega)
      rw [show i + 1 + (8 - (i + 1)) = 8 by omega] at this
      exact this
    have hn2 : 2 + 0 + 2 * d = 2 * (d + 1) := by omega
    have hu2 : 10 + 0 + 10 * d = 10 * (d + 1) := by omega
    have hD2 : dW z (cZ S) + 0 + (dI z v 8 - dI z v (i + 1)) = dI z v 8 - dI z v i := by omega
    rw [hn2, hu2, hD2] at this
    exact this
theorem inv_mk {z ex : Nat} {X : Nat × Nat} {S : CS} {v : Nat} (hW : Wb S) (hz : cZ S = v + 1) (hk : kd S v = 3) (hX : v + 18 ≤ X.1) (hU : cU S + 88 ≤ X.2) : ∃ S', f3_init X S v = some S' ∧ InvN S' v ∧ Mk z ex (fun x => x = v) 17 88 (dI z v 8) S S' := by
  have hFU := FU_gt
  unfold f3_init
  rw [show (8 : Int32) = nI 8 from rfl, nwr_k (show cZ S < X.1 by omega) (show cU S + 8 ≤ X.2 by omega) (by omega), Option.bind_some]
  have k1 : kd (bornA S 17 8) v = 3 := by rw [kd_bornA (by omega)]; exact hk
  rw [pr_k k1, Option.bind_some, pi_J k1, Option.bind_some]
  have m1 : Mk z ex (fun x => x = v) 1 8 0 S (setJ (bornA S 17 8) v 0 (some (cZ S))) := mk_arr hW (by omega) (by omega) (Or.inr ⟨by omega, by omega⟩)
  obtain ⟨f1, f2, f3, f4, f5, f6⟩ := arr_f (S := S) (h := v) (k := 0) (ck := 17) (n := 8) (by omega)
  generalize hT : setJ (bornA S 17 8) v 0 (some (cZ S)) = T at m1 f1 f2 f3 f4 f5 f6 ⊢
  have kT : kd T v = 3 := by rw [(m1.2.2.1 v (by omega)).1]; exact hk
  have m2 : Mk z ex (fun x => x = v) 0 0 0 T (setI T v 1 0) := mk_pi m1.1 (by omega)
  have m12 := Mk_trans m1 m2 (fun x _ h => h) (fun x hx _ => Or.inl (by rw [hx, kT]; unfold okN; omega))
  have hZ2 : cZ (setI T v 1 0) = v + 2 := by rw [show cZ (setI T v 1 0) = cZ T from rfl, m1.2.1.1]; omega
  have hU2 : cU (setI T v 1 0) = cU S + 8 := m1.2.1.2
  rw [hz] at f1 f2 f4 f5
  obtain ⟨S', r1, r2, r3, r4⟩ := inv_mk_loop (z := z) (ex := ex) (X := X) (v := v) 8 0 FU (setI T v 1 0) (by omega) (by omega) m12.1 (by omega) (by omega) (by omega) ⟨kT, by show cJ T v 0 = _; rw [f5, if_pos rfl], f1, f2⟩ (fun j hj => absurd hj (Nat.not_lt_zero _))
  rw [show LX3_init_20 X v FU 0 (setI T v 1 0) = some S' from r1, Option.bind_some]
  have m3 := Mk_trans m12 r4 (H := fun x => x = v) (fun x hx h => by omega) (fun x hx _ => Or.inl (by rw [hx]; show okN (kd T (v + 1)); rw [f1]; unfold okN; omega))
  have hz3 := m3.2.1.1
  have e1 := r4.2.2.1 v (by omega)
  have e2 := r4.2.2.1 (v + 1) (by omega)
  refine ⟨S', rfl, ⟨by omega, ⟨by rw [e1.1]; exact kT, by rw [(e1.2.2.2 (show ¬ v = v + 1 by omega)).2.1]; show cJ T v 0 = _; rw [f5, if_pos rfl], by rw [e2.1]; exact f1, by rw [e2.2.1]; exact f2⟩, by rw [r2]; exact cI_self _ _ _ _, r3⟩, ?_⟩
  have : dI z v 8 - dI z v 0 = dI z v 8 := by rw [dI.eq_1]; omega
  rw [this] at m3
  have e3 : 0 + 0 + dI z v 8 = dI z v 8 := by omega
  rw [e3] at m3
  exact m3
