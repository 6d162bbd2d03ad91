/-! ===== PART II, the class: the worlds, history, comings are made ===== -/
section MJ
variable {z ex n u D h k b ci m ck : Nat} {S T : CS} {X : Nat × Nat} {H : Nat → Prop} {v : Int32}
def I1o (S : CS) (z : Nat) : Prop := ToZ S (z + 1) ∧ WvZ S (z + 6) ∧ RoZ S (z + 22)
theorem I1o_Mk (h0 : I1o S z) (hm : Mk z ex (fun x => x = z) n u D S T) : I1o T z := ⟨ToZ_Mk h0.1 hm (by omega), WvZ_Mk h0.2.1 hm (by omega) (by omega), RoZ_Mk h0.2.2 hm (fun x x1 x2 => by omega)⟩
theorem init_2 {A0 : CS} (h0 : I1 A0 z) (hW : Wb A0) (hz : cZ A0 = z + 227) (hu : cU A0 = 5286) (hk : kd A0 z = 11) (hX : z + 661 ≤ X.1) (hU : 20000 ≤ X.2) : ∃ T, (∀ k : CS → Option CS, ((nwo X A0 10 12).bind fun S10 => (gr S10 11 z 2).bind fun a11 => (gr S10 11 z 1).bind fun a12 => (f10_init X S10 (cZ A0) a11 a12).bind fun S13 => (pr S13 11 z 3 (cZ A0)).bind fun S14 => (nwo X S14 10 12).bind fun S15 => (gr S15 11 z 2).bind fun a16 => (gr S15 11 z 1).bind fun a17 => (f10_init X S15 (cZ S14) a16 a17).bind fun S18 => (pr S18 11 z 4 (cZ S14)).bind fun S19 => (nwo X S19 2 4).bind fun S20 => (f2_init X S20 (cZ S19)).bind fun S21 => (pr S21 11 z 5 (cZ S19)).bind fun S22 => (nwo X S22 0 10).bind fun S23 => (f0_init X S23 (cZ S22)).bind fun S24 => (pr S24 11 z 6 (cZ S22)).bind k) = k T) ∧ (I1o T z ∧ WdZ T (z + 227) (z + 22) (z + 6) 4 ∧ WdZ T (z + 412) (z + 22) (z + 6) 4 ∧ HiZ T (z + 597) ∧ CoZ T (z + 599)) ∧ (∀ i, cJ T z i = if i = 6 then some (z + 599) else if i = 5 then some (z + 597) else if i = 4 then some (z + 412) else if i = 3 then some (z + 227) else cJ A0 z i) ∧ cZ T = z + 654 ∧ cU T = 16295 ∧ kd T z = 11 ∧ ∃ D, D ≤ 254720 ∧ Mk z (z + 6) (fun x => x = z) 427 11009 D A0 T := by
  obtain ⟨g1, g2, g3, j0, jw, jr⟩ := h0
  have G0 : I1o A0 z := ⟨g1, g2, g3⟩
  have o0 := Ob_rf (z := z) (ex := z + 6) (h := z) hW hk (by omega) (Or.inl (by unfold okN; omega))
  -- the world
  obtain ⟨p1, m1, k1, _, _⟩ := obj_mk (z := z) (ex := z + 6) (X := X) (ci := 10) (nn := 12) hW ⟨by omega, by omega, Or.inl (by omega)⟩ (by omega) (by omega)
  have z1 := m1.2.1.1
  have u1 := m1.2.1.2
  generalize bornO A0 10 12 = B1 at *
  have kr1 : kd B1 (z + 22) = 6 := by rw [Mk_kd m1 (by omega)]; exact g3.2.1.1
  have kg1 : kd B1 (z + 6) = 9 := by rw [Mk_kd m1 (by omega)]; exact g2.2.1.1
  have er1 : gr B1 11 z 2 = some (z + 22) := gr_k (by rw [Mk_kd m1 (by omega)]; exact hk) (by rw [Mk_cJ m1 (by omega) (fun h => h)]; exact jr)
  have eg1 : gr B1 11 z 1 = some (z + 6) := gr_k (by rw [Mk_kd m1 (by omega)]; exact hk) (by rw [Mk_cJ m1 (by omega) (fun h => h)]; exact jw)
  obtain ⟨C1, r1, Z1, n1⟩ := wd_mk (z := z) (ex := z + 6) (X := X) (w := cZ A0) (r := z + 22) (g := z + 6) m1.1 (by omega) k1 ⟨by omega, by rw [kr1]; omega⟩ ⟨by omega, by rw [kg1]; omega⟩ (by omega) (by omega)
  obtain ⟨q1, a1, b1, o1, z1', u1', j1⟩ := stage (k := 3) o0 m1 n1 (Or.inl (by rw [k1]; unfold okN; omega)) (by rw [k1]; omega)
  have Y1 := WdZ_Mk Z1 b1 (fun x x1 x2 => by omega)
  have G1 := I1o_Mk G0 a1
  generalize hA1 : setJ C1 z 3 (some (cZ A0)) = A1 at *
  rw [hz] at z1' Y1 j1
  -- the world ahead
  obtain ⟨p2, m2, k2, _, _⟩ := obj_mk (z := z) (ex := z + 6) (X := X) (ci := 10) (nn := 12) a1.1 ⟨by omega, by omega, Or.inl (by omega)⟩ (by omega) (by omega)
  have z2 := m2.2.1.1
  have u2 := m2.2.1.2
  generalize bornO A1 10 12 = B2 at *
  have kr2 : kd B2 (z + 22) = 6 := by rw [Mk_kd m2 (by omega)]; exact G1.2.2.2.1.1
  have kg2 : kd B2 (z + 6) = 9 := by rw [Mk_kd m2 (by omega)]; exact G1.2.1.2.1.1
  have er2 : gr B2 11 z 2 = some (z + 22) := gr_k (by rw [Mk_kd m2 (by omega)]; exact o1.2.1) (by rw [Mk_cJ m2 (by omega) (fun h => h), j1, if_neg (by omega)]; exact jr)
  have eg2 : gr B2 11 z 1 = some (z + 6) := gr_k (by rw [Mk_kd m2 (by omega)]; exact o1.2.1) (by rw [Mk_cJ m2 (by omega) (fun h => h), j1, if_neg (by omega)]; exact jw)
  obtain ⟨C2, r2, Z2, n2⟩ := wd_mk (z := z) (ex := z + 6) (X := X) (w := cZ A1) (r := z + 22) (g := z + 6) m2.1 (by omega) k2 ⟨by omega, by rw [kr2]; omega⟩ ⟨by omega, by rw [kg2]; omega⟩ (by omega) (by omega)
  obtain ⟨q2, a2, b2, o2, z2', u2', j2⟩ := stage (k := 4) o1 m2 n2 (Or.inl (by rw [k2]; unfold okN; omega)) (by rw [k2]; omega)
  have Y2 := WdZ_Mk Z2 b2 (fun x x1 x2 => by omega)
  have G2 := I1o_Mk G1 a2
  have Y12 := WdZ_Mk Y1 a2 (fun x x1 x2 => by omega)
  generalize hA2 : setJ C2 z 4 (some (cZ A1)) = A2 at *
  have hz2 : cZ A1 = z + 412 := by omega
  rw [hz2] at z2' Y2 j2
  -- those before
  obtain ⟨p3, m3, k3, _, _⟩ := obj_mk (z := z) (ex := z + 6) (X := X) (ci := 2) (nn := 4) a2.1 ⟨by omega, by omega, Or.inl (by omega)⟩ (by omega) (by omega)
  have z3 := m3.2.1.1
  have u3 := m3.2.1.2
  generalize bornO A2 2 4 = B3 at *
  obtain ⟨C3, r3, Z3, n3⟩ := history_mk (z := z) (ex := z + 6) (X := X) (h := cZ A2) m3.1 (by omega) k3 (by omega) (by omega)
  obtain ⟨q3, a3, b3, o3, z3', u3', j3⟩ := stage (k := 5) o2 m3 n3 (Or.inl (by rw [k3]; unfold okN; omega)) (by rw [k3]; omega)
  have Y3 := HiZ_Mk Z3 b3 (by omega) (by omega)
  have G3 := I1o_Mk G2 a3
  have Y13 := WdZ_Mk Y12 a3 (fun x x1 x2 => by omega)
  have Y23 := WdZ_Mk Y2 a3 (fun x x1 x2 => by omega)
  generalize hA3 : setJ C3 z 5 (some (cZ A2)) = A3 at *
  have hz3 : cZ A2 = z + 597 := by omega
  rw [hz3] at z3' Y3 j3
  -- those that come
  obtain ⟨p4, m4, k4, _, _⟩ := obj_mk (z := z) (ex := z + 6) (X := X) (ci := 0) (nn := 10) a3.1 ⟨by omega, by omega, Or.inl (by omega)⟩ (by omega) (by omega)
  have z4 := m4.2.1.1
  have u4 := m4.2.1.2
  generalize bornO A3 0 10 = B4 at *
  obtain ⟨C4, r4, Z4, n4⟩ := comings_mk (z := z) (ex := z + 6) (X := X) (h := cZ A3) m4.1 (by omega) k4 (by omega) (by omega)
  obtain ⟨q4, a4, b4, o4, z4', u4', j4⟩ := stage (k := 6) o3 m4 n4 (Or.inl (by rw [k4]; unfold okN; omega)) (by rw [k4]; omega)
  have Y4 := CoZ_Mk Z4 b4 (by omega) (by omega)
  have G4 := I1o_Mk G3 a4
  have Y14 := WdZ_Mk Y13 a4 (fun x x1 x2 => by omega)
  have Y24 := WdZ_Mk Y23 a4 (fun x x1 x2 => by omega)
  have Y34 := HiZ_Mk Y3 a4 (by omega) (by omega)
  have hrun : ∀ k : CS → Option CS, ((nwo X A0 10 12).bind fun S10 => (gr S10 11 z 2).bind fun a11 => (gr S10 11 z 1).bind fun a12 => (f10_init X S10 (cZ A0) a11 a12).bind fun S13 => (pr S13 11 z 3 (cZ A0)).bind fun S14 => (nwo X S14 10 12).bind fun S15 => (gr S15 11 z 2).bind fun a16 => (gr S15 11 z 1).bind fun a17 => (f10_init X S15 (cZ S14) a16 a17).bind fun S18 => (pr S18 11 z 4 (cZ S14)).bind fun S19 => (nwo X S19 2 4).bind fun S20 => (f2_init X S20 (cZ S19)).bind fun S21 => (pr S21 11 z 5 (cZ S19)).bind fun S22 => (nwo X S22 0 10).bind fun S23 => (f0_init X S23 (cZ S22)).bind fun S24 => (pr S24 11 z 6 (cZ S22)).bind k) = k (setJ C4 z 6 (some (cZ A3))) := fun k => by
    rw [p1, Option.bind_some, er1, Option.bind_some, eg1, Option.bind_some, r1, Option.bind_some, q1, Option.bind_some, p2, Option.bind_some, er2, Option.bind_some, eg2, Option.bind_some, r2, Option.bind_some, q2, Option.bind_some, p3, Option.bind_some, r3, Option.bind_some, q3, Option.bind_some, p4, Option.bind_some, r4, Option.bind_some, q4, Option.bind_some]
  generalize hA4 : setJ C4 z 6 (some (cZ A3)) = A4 at *
  have hz4 : cZ A3 = z + 599 := by omega
  rw [hz4] at z4' Y4 j4
  have hd1 := dQ_w (z := z)
  have hd2 := dQ_a (z := z)
  have mA := o4.1
  rw [hz, hz2] at mA
  refine ⟨A4, hrun, ⟨G4, Y14, Y24, Y34, Y4⟩, fun i => by rw [j4, j3, j2, j1], by omega, by omega, o4.2.1, _, ?_, mA⟩
  omega
end MJ
