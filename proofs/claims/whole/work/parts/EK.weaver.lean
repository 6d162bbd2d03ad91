/-! ===== PART II, the class: the weaver is made ===== -/
section ME
variable {z ex n u D h k b ci m ck : Nat} {S T : CS} {X : Nat × Nat} {H : Nat → Prop} {v : Int32}
theorem Mk_lt (hm : Mk z ex H n u D S T) {x : Nat} (hx : x < cZ S) : x < cZ T := by have := hm.2.1.1; omega
theorem Mk_kd (hm : Mk z ex H n u D S T) {x : Nat} (hx : x < cZ S) : kd T x = kd S x := (hm.2.2.1 x hx).1
theorem Mk_cN (hm : Mk z ex H n u D S T) {x : Nat} (hx : x < cZ S) : cN T x = cN S x := (hm.2.2.1 x hx).2.1
theorem Mk_cJ (hm : Mk z ex H n u D S T) {x : Nat} (hx : x < cZ S) (hn : ¬ H x) : cJ T x = cJ S x := ((hm.2.2.1 x hx).2.2.2 hn).2.1
theorem Mk_cI (hm : Mk z ex H n u D S T) {x : Nat} (hx : x < cZ S) (hn : ¬ H x) : cI T x = cI S x := ((hm.2.2.1 x hx).2.2.2 hn).1
theorem Mk_cB (hm : Mk z ex H n u D S T) {x : Nat} (hx : x < cZ S) (hn : ¬ H x) : cB T x = cB S x := ((hm.2.2.1 x hx).2.2.2 hn).2.2
theorem obj_mk {nn : Nat} (hW : Wb S) (hc : ci ≠ 4 ∧ ci ≠ 7 ∧ (ci ≠ 9 ∨ ex = cZ S)) (hX : cZ S < X.1) (hU : cU S + nn ≤ X.2) : nwo X S ci nn = some (bornO S ci nn) ∧ Mk z ex (fun _ => False) 1 nn 0 S (bornO S ci nn) ∧ kd (bornO S ci nn) (cZ S) = ci ∧ (∀ k, cI (bornO S ci nn) (cZ S) k = 0) ∧ (∀ k, cJ (bornO S ci nn) (cZ S) k = none) :=
  ⟨nwo_k hX hU, mk_obj hW hc, kd_newO S ci nn, (obj_f S ci nn).1, (obj_f S ci nn).2⟩
theorem rdr_mk (hW : Wb S) (hX : cZ S + 3 ≤ X.1) (hU : cU S + 14 ≤ X.2) : ∃ T, (∀ k : CS → Option CS, ((nwo X S 5 4).bind fun S1 => (f5_init X S1 (cZ S)).bind k) = k T) ∧ kd T (cZ S) = 5 ∧ kd T (cZ S + 1) = 4 ∧ Mk z ex (fun _ => False) 3 14 (dW z (cZ S + 1)) S T := by
  obtain ⟨p1, m1, k1, _, _⟩ := obj_mk (z := z) (ex := ex) (X := X) (ci := 5) (nn := 4) hW ⟨by omega, by omega, Or.inl (by omega)⟩ (by omega) (by omega)
  have z1 := m1.2.1.1
  have u1 := m1.2.1.2
  generalize bornO S 5 4 = T1 at *
  have o1 := Ob_rf (z := z) (ex := ex) (h := cZ S) m1.1 k1 (by omega) (Or.inl (by unfold okN; omega))
  obtain ⟨T2, r2, a2, m2⟩ := op_mk (z := z) (ex := ex) (X := X) m1.1 (by omega) (by omega)
  have o2 := Ob_sub o1 m2
  have z2 := m2.2.1.1
  rw [z1] at a2
  obtain ⟨q3, _, o3⟩ := Ob_pr (k := 0) (b := cZ S + 1) o2 (by omega) (by rw [a2.2.1]; omega)
  obtain ⟨q4, _, o4⟩ := Ob_pi (k := 1) (v := 0) o3
  obtain ⟨q5, _, o5⟩ := Ob_pi (k := 2) (v := 0) o4
  obtain ⟨q6, _, o6⟩ := Ob_pi (k := 3) (v := 0) o5
  have mm := Mk_trans m1 o6.1 (H := fun _ => False) (fun x hx h => by have : x = cZ S := h; omega) (fun x hx _ => by rw [hx, k1]; exact Or.inl (by unfold okN; omega))
  have e : 0 + (0 + dW z (cZ T1)) = dW z (cZ S + 1) := by rw [z1]; omega
  rw [e] at mm
  refine ⟨_, fun k => ?_, o6.2.1, a2.2.1, mm⟩
  unfold f5_init
  rw [p1, Option.bind_some, r2, z1, q3, Option.bind_some, q4, Option.bind_some, q5, Option.bind_some, q6, Option.bind_some, Option.bind_some]
/-- the weaver as it is made -/
def WvZ (S : CS) (g : Nat) : Prop := g + 15 < cZ S ∧ Wv S g ∧ OpN S (g + 9) ∧ cJ S g 4 = some (g + 11) ∧ kd S (g + 11) = 14 ∧ cN S (g + 11) = 240
theorem WvZ_Mk {g : Nat} (h0 : WvZ S g) (hm : Mk z ex H n u D S T) (hn : ¬ H g) (hn9 : ¬ H (g + 9)) : WvZ T g := by
  obtain ⟨h1, ⟨a1, a2, a3, a4, a5, a6, a7, a8, a9, b1, b2, b3, b4⟩, h3, h4, h5, h6⟩ := h0
  have j := Mk_cJ hm (x := g) (by omega) hn
  have k : ∀ x, x < g + 16 → kd T x = kd S x := fun x hx => Mk_kd hm (by omega)
  refine ⟨Mk_lt hm h1, ⟨by rw [k _ (by omega)]; exact a1, by rw [j]; exact a2, by rw [j]; exact a3, by rw [j]; exact a4, by rw [j]; exact a5, by rw [j]; exact a6, by rw [j]; exact a7, by rw [k _ (by omega)]; exact a8, by rw [k _ (by omega)]; exact a9, by rw [k _ (by omega)]; exact b1, by rw [k _ (by omega)]; exact b2, by rw [k _ (by omega)]; exact b3, by rw [k _ (by omega)]; exact b4⟩, OpN_Mk h3 hm hn9, by rw [j]; exact h4, by rw [k _ (by omega)]; exact h5, by rw [Mk_cN hm (by omega)]; exact h6⟩
def dV (z g : Nat) : Nat := dW z (g + 2) + dW z (g + 5) + dW z (g + 7) + dW z (g + 9) + dW z (g + 12) + dW z (g + 14)
theorem weaver_mk {g : Nat} (hW : Wb S) (hz : cZ S = g + 1) (hk : kd S g = 9) (hX : g + 16 ≤ X.1) (hU : cU S + 308 ≤ X.2) : ∃ S', f9_init X S g = some S' ∧ WvZ S' g ∧ Mk z g (fun x => x = g) 15 308 (dV z g) S S' := by
  have o0 := Ob_rf (z := z) (ex := g) (h := g) hW hk (by omega) (Or.inr ⟨rfl, rfl⟩)
  -- the readers
  obtain ⟨T1, r1, k1, k1', m1⟩ := rdr_mk (z := z) (ex := g) (X := X) hW (by omega) (by omega)
  have z1 := m1.2.1.1
  have u1 := m1.2.1.2
  rw [hz] at k1 k1' z1
  have o1 := Ob_sub o0 m1
  obtain ⟨q1, n1, o1⟩ := Ob_pr (k := 0) (b := g + 1) o1 (by omega) (by rw [k1]; omega)
  have j1 : ∀ j, cJ (setJ T1 g 0 (some (g + 1))) g j = if j = 0 then some (g + 1) else cJ T1 g j := fun j => by
    rw [cJ_set]
    by_cases hj : j = 0
    · rw [if_pos ⟨rfl, hj⟩, if_pos hj]
    · rw [if_neg (fun hh => hj hh.2), if_neg hj]
  have z1' : cZ (setJ T1 g 0 (some (g + 1))) = g + 4 := z1
  have u1' : cU (setJ T1 g 0 (some (g + 1))) = cU S + 14 := u1
  have k1 : kd (setJ T1 g 0 (some (g + 1))) (g + 1) = 5 := k1
  generalize setJ T1 g 0 (some (g + 1)) = A1 at *
  obtain ⟨T2, r2, k2, k2', m2⟩ := rdr_mk (z := z) (ex := g) (X := X) o1.1.1 (by omega) (by omega)
  have z2 := m2.2.1.1
  have u2 := m2.2.1.2
  rw [z1'] at k2 z2
  have o2 := Ob_sub o1 m2
  obtain ⟨q2, n2, o2⟩ := Ob_pr (k := 1) (b := g + 4) o2 (by omega) (by rw [k2]; omega)
  have j2 : ∀ j, cJ (setJ T2 g 1 (some (g + 4))) g j = if j = 1 then some (g + 4) else cJ A1 g j := fun j => by
    rw [cJ_set]
    by_cases hj : j = 1
    · rw [if_pos ⟨rfl, hj⟩, if_pos hj]
    · rw [if_neg (fun hh => hj hh.2), if_neg hj, Mk_cJ m2 (by omega) (fun h => h)]
  have z2' : cZ (setJ T2 g 1 (some (g + 4))) = g + 7 := z2
  have u2' : cU (setJ T2 g 1 (some (g + 4))) = cU A1 + 14 := u2
  have s2 : kd (setJ T2 g 1 (some (g + 4))) (g + 1) = 5 ∧ kd (setJ T2 g 1 (some (g + 4))) (g + 4) = 5 := ⟨by show kd T2 _ = _; rw [Mk_kd m2 (by omega)]; exact k1, k2⟩
  generalize setJ T2 g 1 (some (g + 4)) = A2 at *
  -- the rows that are woven
  obtain ⟨T3, r3, k3, m3⟩ := op_mk (z := z) (ex := g) (X := X) o2.1.1 (by omega) (by omega)
  have z3 := m3.2.1.1
  have u3 := m3.2.1.2
  rw [z2'] at k3 z3
  have o3 := Ob_sub o2 m3
  obtain ⟨q3, n3, o3⟩ := Ob_pr (k := 2) (b := g + 7) o3 (by omega) (by rw [k3.2.1]; omega)
  have j3 : ∀ j, cJ (setJ T3 g 2 (some (g + 7))) g j = if j = 2 then some (g + 7) else cJ A2 g j := fun j => by
    rw [cJ_set]
    by_cases hj : j = 2
    · rw [if_pos ⟨rfl, hj⟩, if_pos hj]
    · rw [if_neg (fun hh => hj hh.2), if_neg hj, Mk_cJ m3 (by omega) (fun h => h)]
  have z3' : cZ (setJ T3 g 2 (some (g + 7))) = g + 9 := z3
  have u3' : cU (setJ T3 g 2 (some (g + 7))) = cU A2 + 10 := u3
  have s3 : ∀ x, x < g + 7 → kd (setJ T3 g 2 (some (g + 7))) x = kd A2 x := fun x hx => Mk_kd m3 (by omega)
  have s3' : kd (setJ T3 g 2 (some (g + 7))) (g + 7) = 4 := k3.2.1
  generalize setJ T3 g 2 (some (g + 7)) = A3 at *
  obtain ⟨T4, r4, k4, m4⟩ := op_mk (z := z) (ex := g) (X := X) o3.1.1 (by omega) (by omega)
  have z4 := m4.2.1.1
  have u4 := m4.2.1.2
  rw [z3'] at k4 z4
  have o4 := Ob_sub o3 m4
  obtain ⟨q4, n4, o4⟩ := Ob_pr (k := 3) (b := g + 9) o4 (by omega) (by rw [k4.2.1]; omega)
  have j4 : ∀ j, cJ (setJ T4 g 3 (some (g + 9))) g j = if j = 3 then some (g + 9) else cJ A3 g j := fun j => by
    rw [cJ_set]
    by_cases hj : j = 3
    · rw [if_pos ⟨rfl, hj⟩, if_pos hj]
    · rw [if_neg (fun hh => hj hh.2), if_neg hj, Mk_cJ m4 (by omega) (fun h => h)]
  have z4' : cZ (setJ T4 g 3 (some (g + 9))) = g + 11 := z4
  have u4' : cU (setJ T4 g 3 (some (g + 9))) = cU A3 + 10 := u4
  have s4 : ∀ x, x < g + 9 → kd (setJ T4 g 3 (some (g + 9))) x = kd A3 x := fun x hx => Mk_kd m4 (by omega)
  have O4 : OpN (setJ T4 g 3 (some (g + 9))) (g + 9) := OpN_Mk k4 n4 (show ¬ g + 9 = g by omega)
  generalize setJ T4 g 3 (some (g + 9)) = A4 at *
  obtain ⟨A5, r5, o5, m5, a1, a2, _, _, j5, _⟩ := Ob_arr (X := X) (k := 4) (ck := 14) (m := 240) o4 (Or.inl rfl) (by omega) (by omega) (by omega)
  have z5 := m5.2.1.1
  have u5 := m5.2.1.2
  rw [z4'] at a1 a2 j5 z5
  have O5 := OpN_Mk O4 m5 (show ¬ g + 9 = g by omega)
  have s5 : ∀ x, x < g + 11 → kd A5 x = kd A4 x := fun x hx => Mk_kd m5 (by omega)
  obtain ⟨T6, r6, k6, m6⟩ := op_mk (z := z) (ex := g) (X := X) o5.1.1 (by omega) (by omega)
  have z6 := m6.2.1.1
  have u6 := m6.2.1.2
  rw [z5] at k6 z6
  have o6 := Ob_sub o5 m6
  have k6 : OpN T6 (g + 12) := k6
  obtain ⟨q6, n6, o6⟩ := Ob_pr (k := 5) (b := g + 12) o6 (by omega) (by rw [k6.2.1]; omega)
  have j6 : ∀ j, cJ (setJ T6 g 5 (some (g + 12))) g j = if j = 5 then some (g + 12) else cJ A5 g j := fun j => by
    rw [cJ_set]
    by_cases hj : j = 5
    · rw [if_pos ⟨rfl, hj⟩, if_pos hj]
    · rw [if_neg (fun hh => hj hh.2), if_neg hj, Mk_cJ m6 (by omega) (fun h => h)]
  have z6' : cZ (setJ T6 g 5 (some (g + 12))) = g + 14 := by show cZ T6 = _; omega
  have u6' : cU (setJ T6 g 5 (some (g + 12))) = cU A5 + 10 := u6
  have s6 : ∀ x, x < g + 12 → kd (setJ T6 g 5 (some (g + 12))) x = kd A5 x ∧ cN (setJ T6 g 5 (some (g + 12))) x = cN A5 x := fun x hx => ⟨Mk_kd m6 (by omega), Mk_cN m6 (by omega)⟩
  have s6' : kd (setJ T6 g 5 (some (g + 12))) (g + 12) = 4 := k6.2.1
  have O6 := OpN_Mk (OpN_Mk O5 m6 (fun h => h)) n6 (show ¬ g + 9 = g by omega)
  generalize setJ T6 g 5 (some (g + 12)) = A6 at *
  obtain ⟨T7, r7, k7, m7⟩ := op_mk (z := z) (ex := g) (X := X) o6.1.1 (by omega) (by omega)
  have z7 := m7.2.1.1
  rw [z6'] at k7 z7
  have o7 := Ob_sub o6 m7
  obtain ⟨q7, n7, o7⟩ := Ob_pr (k := 6) (b := g + 14) o7 (by omega) (by rw [k7.2.1]; omega)
  have j7 : ∀ j, cJ (setJ T7 g 6 (some (g + 14))) g j = if j = 6 then some (g + 14) else cJ A6 g j := fun j => by
    rw [cJ_set]
    by_cases hj : j = 6
    · rw [if_pos ⟨rfl, hj⟩, if_pos hj]
    · rw [if_neg (fun hh => hj hh.2), if_neg hj, Mk_cJ m7 (by omega) (fun h => h)]
  have s7 : ∀ x, x < g + 14 → kd (setJ T7 g 6 (some (g + 14))) x = kd A6 x ∧ cN (setJ T7 g 6 (some (g + 14))) x = cN A6 x := fun x hx => ⟨Mk_kd m7 (by omega), Mk_cN m7 (by omega)⟩
  have s7' : kd (setJ T7 g 6 (some (g + 14))) (g + 14) = 4 := k7.2.1
  have z7' : cZ (setJ T7 g 6 (some (g + 14))) = g + 16 := by show cZ T7 = _; omega
  have O7 := OpN_Mk (OpN_Mk O6 m7 (fun h => h)) n7 (show ¬ g + 9 = g by omega)
  have hrun : f9_init X S g = some (setJ T7 g 6 (some (g + 14))) := by
    unfold f9_init
    rw [r1, hz, q1, Option.bind_some, r2, z1', q2, Option.bind_some, r3, z2', q3, Option.bind_some, r4, z3', q4, Option.bind_some, show (240 : Int32) = nI 240 from rfl, r5, r6, z5, q6, Option.bind_some, r7, z6', q7, Option.bind_some]
  have hD : 0 + dW z (cZ S) = 0 + dW z (cZ S) := rfl
  have hm := o7.1
  rw [hz, z1', z2', z3', z5, z6'] at hm
  have e : 0 + dW z (g + 1 + 1) + dW z (g + 4 + 1) + dW z (g + 7) + dW z (g + 9) + dW z (g + 11 + 1) + dW z (g + 14) = dV z g := by unfold dV; rw [Nat.zero_add]
  rw [e] at hm
  generalize setJ T7 g 6 (some (g + 14)) = A7 at *
  refine ⟨A7, hrun, ⟨by omega, ⟨o7.2.1, ?_, ?_, ?_, ?_, ?_, ?_, ?_, ?_, ?_, ?_, ?_, ?_⟩, O7, ?_, ?_, ?_⟩, hm⟩
  · rw [j7, if_neg (by omega), j6, if_neg (by omega), j5, if_neg (by omega), j4, if_neg (by omega), j3, if_neg (by omega), j2, if_neg (by omega), j1, if_pos rfl]
  · rw [j7, if_neg (by omega), j6, if_neg (by omega), j5, if_neg (by omega), j4, if_neg (by omega), j3, if_neg (by omega), j2, if_pos rfl]
  · rw [j7, if_neg (by omega), j6, if_neg (by omega), j5, if_neg (by omega), j4, if_neg (by omega), j3, if_pos rfl]
  · rw [j7, if_neg (by omega), j6, if_neg (by omega), j5, if_neg (by omega), j4, if_pos rfl]
  · rw [j7, if_neg (by omega), j6, if_pos rfl]
  · rw [j7, if_pos rfl]
  · rw [(s7 _ (by omega)).1, (s6 _ (by omega)).1, s5 _ (by omega), s4 _ (by omega), s3 _ (by omega)]; exact s2.1
  · rw [(s7 _ (by omega)).1, (s6 _ (by omega)).1, s5 _ (by omega), s4 _ (by omega), s3 _ (by omega)]; exact s2.2
  · rw [(s7 _ (by omega)).1, (s6 _ (by omega)).1, s5 _ (by omega), s4 _ (by omega)]; exact s3'
  · exact O7.2.1
  · rw [(s7 _ (by omega)).1]; exact s6'
  · exact s7'
  · rw [j7, if_neg (by omega), j6, if_neg (by omega), j5, if_pos rfl]
  · rw [(s7 _ (by omega)).1, (s6 _ (by omega)).1]; exact a1
  · rw [(s7 _ (by omega)).2, (s6 _ (by omega)).2]; exact a2
end ME
