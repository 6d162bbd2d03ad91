/-! ===== PART II, the class: all of it is made ===== -/
section MI
variable {z ex n u D h k b ci m ck : Nat} {S T : CS} {X : Nat × Nat} {H : Nat → Prop} {v : Int32}
/-- an object is made and hung at a field of h -/
theorem stage {A B C : CS} {n' u' D' a : Nat} (o : Ob z ex h ci n u D S A) (m1 : Mk z ex (fun _ => False) 1 a 0 A B) (m2 : Mk z ex (fun x => x = cZ A) n' u' D' B C) (hk : okN (kd B (cZ A)) ∨ cZ A = ex) (h14 : kd B (cZ A) ≠ 14) : pr C ci h k (cZ A) = some (setJ C h k (some (cZ A))) ∧ Mk z ex (fun x => x = h) (1 + n') (a + u') (0 + D') A (setJ C h k (some (cZ A))) ∧ Mk z ex (fun x => x = h) 0 0 0 C (setJ C h k (some (cZ A))) ∧ Ob z ex h ci (n + (1 + n')) (u + (a + u')) (D + (0 + D')) S (setJ C h k (some (cZ A))) ∧ cZ (setJ C h k (some (cZ A))) = cZ A + 1 + n' ∧ cU (setJ C h k (some (cZ A))) = cU A + a + u' ∧ (∀ i, cJ (setJ C h k (some (cZ A))) h i = if i = k then some (cZ A) else cJ A h i) := by
  have zB := m1.2.1.1
  have zC := m2.2.1.1
  have uB := m1.2.1.2
  have uC := m2.2.1.2
  have m12 := Mk_trans m1 m2 (H := fun _ => False) (fun x hx (hh : x = cZ A) => by omega) (fun x (hx : x = cZ A) _ => by rw [hx]; exact hk)
  have oC := Ob_sub o m12
  have hlt := Ob_lt o
  obtain ⟨q, n1, o'⟩ := Ob_pr (k := k) (b := cZ A) oC (by omega) (by rw [Mk_kd m2 (by omega)]; exact h14)
  refine ⟨q, ?_, n1, o', by show cZ C = _; omega, by show cU C = _; omega, fun i => ?_⟩
  · have := Mk_trans (Mk_mono (H' := fun x => x = h) m12 (fun x _ hh => hh.elim)) n1 (fun x _ hh => hh) (fun x (hx : x = h) _ => by rw [hx]; exact Ob_ok oC)
    exact this
  · rw [cJ_set]
    by_cases hi : i = k
    · rw [if_pos ⟨rfl, hi⟩, if_pos hi]
    · rw [if_neg (fun hh => hi hh.2), if_neg hi, Mk_cJ m12 (by omega) (fun hh => hh)]
theorem Wb_00 : Wb (S00 z) := ⟨fun x hx => (by cases hx), fun x k a hh => (by cases hh), fun x y j k a hh => (by cases hh)⟩
/-- all that is made first -/
def I1 (S : CS) (z : Nat) : Prop := ToZ S (z + 1) ∧ WvZ S (z + 6) ∧ RoZ S (z + 22) ∧ (cJ S z 0 = some (z + 1) ∧ cJ S z 1 = some (z + 6) ∧ cJ S z 2 = some (z + 22))
theorem init_1 (hX : z + 661 ≤ X.1) (hU : 20000 ≤ X.2) : ∃ T, (∀ k : CS → Option CS, ((nwo X (bornO (S00 z) 11 14) 8 12).bind fun S1 => (f8_init X S1 (cZ (bornO (S00 z) 11 14))).bind fun S2 => (pr S2 11 z 0 (cZ (bornO (S00 z) 11 14))).bind fun S3 => (nwo X S3 9 7).bind fun S4 => (f9_init X S4 (cZ S3)).bind fun S5 => (pr S5 11 z 1 (cZ S3)).bind fun S6 => (nwo X S6 6 3).bind fun S7 => (f6_init X S7 (cZ S6)).bind fun S8 => (pr S8 11 z 2 (cZ S6)).bind k) = k T) ∧ I1 T z ∧ cZ T = z + 227 ∧ cU T = 5286 ∧ ∃ D, D ≤ 418667 ∧ Mk z (z + 6) (fun _ => False) 227 5286 D (S00 z) T ∧ kd T z = 11 := by
  have m0 : Mk z (z + 6) (fun _ => False) 1 14 0 (S00 z) (bornO (S00 z) 11 14) := mk_obj Wb_00 ⟨by omega, by omega, Or.inl (by omega)⟩
  have k0 : kd (bornO (S00 z) 11 14) z = 11 := kd_newO (S00 z) 11 14
  have z0 : cZ (bornO (S00 z) 11 14) = z + 1 := rfl
  have u0 : cU (bornO (S00 z) 11 14) = 14 := rfl
  generalize bornO (S00 z) 11 14 = A0 at *
  have o0 := Ob_rf (z := z) (ex := z + 6) (h := z) m0.1 k0 (by omega) (Or.inl (by unfold okN; omega))
  -- what is told
  obtain ⟨p1, m1, k1, i1, _⟩ := obj_mk (z := z) (ex := z + 6) (X := X) (ci := 8) (nn := 12) m0.1 ⟨by omega, by omega, Or.inl (by omega)⟩ (by omega) (by omega)
  have z1 := m1.2.1.1
  have u1 := m1.2.1.2
  generalize bornO A0 8 12 = B1 at *
  obtain ⟨C1, r1, Z1, n1⟩ := told_mk (z := z) (ex := z + 6) (X := X) (h := cZ A0) m1.1 (by omega) k1 (i1 1) (by omega) (by omega)
  obtain ⟨q1, a1, b1, o1, z1', u1', j1⟩ := stage (k := 0) o0 m1 n1 (Or.inl (by rw [k1]; unfold okN; omega)) (by rw [k1]; omega)
  have Y1 := ToZ_Mk Z1 b1 (by omega)
  generalize hA1 : setJ C1 z 0 (some (cZ A0)) = A1 at *
  rw [z0] at z1' Y1 j1
  -- the weaver
  obtain ⟨p2, m2, k2, _, _⟩ := obj_mk (z := z) (ex := z + 6) (X := X) (ci := 9) (nn := 7) a1.1 ⟨by omega, by omega, Or.inr (by omega)⟩ (by omega) (by omega)
  have z2 := m2.2.1.1
  have u2 := m2.2.1.2
  generalize bornO A1 9 7 = B2 at *
  have hz6 : cZ A1 = z + 6 := by omega
  obtain ⟨C2, r2, Z2, n2⟩ := weaver_mk (z := z) (g := z + 6) (X := X) m2.1 (by omega) (by rw [← hz6]; exact k2) (by omega) (by omega)
  rw [← hz6] at r2 Z2
  have n2' : Mk z (z + 6) (fun x => x = cZ A1) 15 308 (dV z (z + 6)) B2 C2 := by rw [hz6]; exact n2
  obtain ⟨q2, a2, b2, o2, z2', u2', j2⟩ := stage (k := 1) o1 m2 n2' (Or.inr hz6) (by rw [k2]; omega)
  have Y2 := WvZ_Mk Z2 b2 (by omega) (by omega)
  have Y12 := ToZ_Mk Y1 a2 (by omega)
  generalize hA2 : setJ C2 z 1 (some (cZ A1)) = A2 at *
  rw [hz6] at z2' Y2 j2
  -- the row
  obtain ⟨p3, m3, k3, _, _⟩ := obj_mk (z := z) (ex := z + 6) (X := X) (ci := 6) (nn := 3) a2.1 ⟨by omega, by omega, Or.inl (by omega)⟩ (by omega) (by omega)
  have z3 := m3.2.1.1
  have u3 := m3.2.1.2
  generalize bornO A2 6 3 = B3 at *
  have hz22 : cZ A2 = z + 22 := by omega
  obtain ⟨C3, r3, Z3, n3⟩ := row_mk (z := z) (ex := z + 6) (X := X) (h := cZ A2) m3.1 (by omega) k3 (by omega) (by omega)
  obtain ⟨q3, a3, b3, o3, z3', u3', j3⟩ := stage (k := 2) o2 m3 n3 (Or.inl (by rw [k3]; unfold okN; omega)) (by rw [k3]; omega)
  have Y3 := RoZ_Mk Z3 b3 (fun x x1 x2 => by omega)
  have Y13 := ToZ_Mk Y12 a3 (by omega)
  have Y23 := WvZ_Mk Y2 a3 (by omega) (by omega)
  have hrun : ∀ k : CS → Option CS, ((nwo X A0 8 12).bind fun S1 => (f8_init X S1 (cZ A0)).bind fun S2 => (pr S2 11 z 0 (cZ A0)).bind fun S3 => (nwo X S3 9 7).bind fun S4 => (f9_init X S4 (cZ S3)).bind fun S5 => (pr S5 11 z 1 (cZ S3)).bind fun S6 => (nwo X S6 6 3).bind fun S7 => (f6_init X S7 (cZ S6)).bind fun S8 => (pr S8 11 z 2 (cZ S6)).bind k) = k (setJ C3 z 2 (some (cZ A2))) := fun k => by
    rw [p1, Option.bind_some, r1, Option.bind_some, q1, Option.bind_some, p2, Option.bind_some, r2, Option.bind_some, q2, Option.bind_some, p3, Option.bind_some, r3, Option.bind_some, q3, Option.bind_some]
  have mA := Mk_trans m0 o3.1 (H := fun _ => False) (fun x hx (hh : x = z) => by
    have : x < z := hx
    omega) (fun x (hx : x = z) _ => by rw [hx, k0]; exact Or.inl (by unfold okN; omega))
  have hd1 := dV_n (z := z)
  have hd2 := dR_r (z := z)
  generalize hA3 : setJ C3 z 2 (some (cZ A2)) = A3 at *
  rw [hz22] at z3' Y3 j3 mA
  refine ⟨_, hrun, ⟨Y13, Y23, Y3, ?_, ?_, ?_⟩, by omega, by omega, _, ?_, mA, o3.2.1⟩
  · rw [j3, if_neg (by omega), j2, if_neg (by omega), j1, if_pos rfl]
  · rw [j3, if_neg (by omega), j2, if_pos rfl]
  · rw [j3, if_pos rfl]
  · omega
end MI
