/-! ===== PART II, the class: the beginning ===== -/
section MK
variable {z ex n u D h k b ci m ck : Nat} {S T : CS} {X : Nat × Nat} {H : Nat → Prop} {v : Int32}
theorem stageS {A C : CS} {n' u' D' : Nat} (o : Ob z ex h ci n u D S A) (m2 : Mk z ex (fun _ => False) n' u' D' A C) (hn : 1 ≤ n') (h14 : kd C (cZ A) ≠ 14) : pr C ci h k (cZ A) = some (setJ C h k (some (cZ A))) ∧ Mk z ex (fun x => x = h) n' u' D' A (setJ C h k (some (cZ A))) ∧ Mk z ex (fun x => x = h) 0 0 0 C (setJ C h k (some (cZ A))) ∧ Ob z ex h ci (n + n') (u + u') (D + D') S (setJ C h k (some (cZ A))) ∧ cZ (setJ C h k (some (cZ A))) = cZ A + n' ∧ cU (setJ C h k (some (cZ A))) = cU A + u' ∧ (∀ i, cJ (setJ C h k (some (cZ A))) h i = if i = k then some (cZ A) else cJ A h i) := by
  have zC := m2.2.1.1
  have uC := m2.2.1.2
  have oC := Ob_sub o m2
  have hlt := Ob_lt o
  obtain ⟨q, n1, o'⟩ := Ob_pr (k := k) (b := cZ A) oC (by omega) h14
  refine ⟨q, ?_, n1, o', by show cZ C = _; omega, by show cU C = _; omega, fun i => ?_⟩
  · have := Mk_trans (Mk_mono (H' := fun x => x = h) m2 (fun x _ hh => hh.elim)) n1 (fun x _ hh => hh) (fun x (hx : x = h) _ => by rw [hx]; exact Ob_ok oC)
    exact this
  · rw [cJ_set]
    by_cases hi : i = k
    · rw [if_pos ⟨rfl, hi⟩, if_pos hi]
    · rw [if_neg (fun hh => hi hh.2), if_neg hi, Mk_cJ m2 (by omega) (fun hh => hh)]
def I2 (S : CS) (z : Nat) : Prop := I1o S z ∧ WdZ S (z + 227) (z + 22) (z + 6) 4 ∧ WdZ S (z + 412) (z + 22) (z + 6) 4 ∧ HiZ S (z + 597) ∧ CoZ S (z + 599)
theorem I2_Mk (h0 : I2 S z) (hm : Mk z ex (fun x => x = z) n u D S T) : I2 T z := ⟨I1o_Mk h0.1 hm, WdZ_Mk h0.2.1 hm (fun x x1 x2 => by omega), WdZ_Mk h0.2.2.1 hm (fun x x1 x2 => by omega), HiZ_Mk h0.2.2.2.1 hm (by omega) (by omega), CoZ_Mk h0.2.2.2.2 hm (by omega) (by omega)⟩
theorem init_3 {A0 : CS} (h0 : I2 A0 z) (hW : Wb A0) (hz : cZ A0 = z + 654) (hu : cU A0 = 16295) (hk : kd A0 z = 11) (hX : z + 661 ≤ X.1) (hU : 20000 ≤ X.2) : ∃ T, ((nwo X A0 4 2).bind fun S26 => (f4_init X S26 (cZ A0)).bind fun S27 => (pr S27 11 z 7 (cZ A0)).bind fun S28 => (nwo X S28 4 2).bind fun S29 => (f4_init X S29 (cZ S28)).bind fun S30 => (pr S30 11 z 8 (cZ S28)).bind fun S31 => (nwo X S31 7 2).bind fun S32 => (f7_init X S32 (cZ S31)).bind fun S33 => (pr S33 11 z 9 (cZ S31)).bind fun S34 => (nwa X S34 14 (7 : Int32)).bind fun S35 => (pr S35 11 z 10 (cZ S34)).bind fun S36 => (pi S36 11 z 11 (0 : Int32)).bind fun S37 => (pi S37 11 z 12 (-1 : Int32)).bind fun S38 => (pi S38 11 z 13 (1 : Int32)).bind fun S39 => some S39) = some T ∧ I2 T z ∧ (kd T (z + 654) = 4 ∧ kd T (z + 656) = 4 ∧ kd T (z + 658) = 7 ∧ kd T (z + 660) = 14 ∧ cN T (z + 660) = 7) ∧ (∀ i, cA T (z + 660) i = 0) ∧ (cI T z 11 = 0 ∧ cI T z 12 = -1 ∧ cI T z 13 = 1) ∧ (∀ i, cJ T z i = if i = 10 then some (z + 660) else if i = 9 then some (z + 658) else if i = 8 then some (z + 656) else if i = 7 then some (z + 654) else cJ A0 z i) ∧ cZ T = z + 661 ∧ cU T = 16564 ∧ kd T z = 11 ∧ ∃ D, D ≤ 35545 ∧ Mk z (z + 6) (fun x => x = z) 7 269 D A0 T := by
  have o0 := Ob_rf (z := z) (ex := z + 6) (h := z) hW hk (by omega) (Or.inl (by unfold okN; omega))
  obtain ⟨C1, r1, Z1, n1⟩ := op_mk (z := z) (ex := z + 6) (X := X) hW (by omega) (by omega)
  obtain ⟨q1, a1, b1, o1, z1, u1, j1⟩ := stageS (k := 7) o0 n1 (by omega) (by rw [Z1.2.1]; omega)
  have Y1 := OpN_Mk Z1 b1 (by omega)
  have G1 := I2_Mk h0 a1
  generalize hA1 : setJ C1 z 7 (some (cZ A0)) = A1 at *
  rw [hz] at z1 Y1 j1
  obtain ⟨C2, r2, Z2, n2⟩ := op_mk (z := z) (ex := z + 6) (X := X) a1.1 (by omega) (by omega)
  obtain ⟨q2, a2, b2, o2, z2, u2, j2⟩ := stageS (k := 8) o1 n2 (by omega) (by rw [Z2.2.1]; omega)
  have Y2 := OpN_Mk Z2 b2 (by omega)
  have Y12 := OpN_Mk Y1 a2 (by omega)
  have G2 := I2_Mk G1 a2
  have hz1 : cZ A1 = z + 656 := by omega
  generalize hA2 : setJ C2 z 8 (some (cZ A1)) = A2 at *
  rw [hz1] at z2 Y2 j2
  obtain ⟨C3, r3, Z3, n3⟩ := txt_mk (z := z) (ex := z + 6) (X := X) a2.1 (by omega) (by omega)
  obtain ⟨q3, a3, b3, o3, z3, u3, j3⟩ := stageS (k := 9) o2 n3 (by omega) (by rw [Z3.2.1]; omega)
  have Y3 := TxN_Mk Z3 b3 (by omega)
  have Y13 := OpN_Mk Y12 a3 (by omega)
  have Y23 := OpN_Mk Y2 a3 (by omega)
  have G3 := I2_Mk G2 a3
  have hz2 : cZ A2 = z + 658 := by omega
  generalize hA3 : setJ C3 z 9 (some (cZ A2)) = A3 at *
  rw [hz2] at z3 Y3 j3
  obtain ⟨A4, r4, o4, m4, c1, c2, _, c3, j4, _⟩ := Ob_arr (X := X) (k := 10) (ck := 14) (m := 7) o3 (Or.inl rfl) (by omega) (by omega) (by omega)
  have z4 := m4.2.1.1
  have u4 := m4.2.1.2
  have hz3 : cZ A3 = z + 660 := by omega
  have G4 := I2_Mk G3 m4
  have Y14 := OpN_Mk Y13 m4 (by omega)
  have Y24 := OpN_Mk Y23 m4 (by omega)
  have Y34 := TxN_Mk Y3 m4 (by omega)
  rw [hz3] at c1 c2 c3 j4 z4
  obtain ⟨q5, n5, o5⟩ := Ob_pi (k := 11) (v := 0) o4
  obtain ⟨q6, n6, o6⟩ := Ob_pi (k := 12) (v := -1) o5
  obtain ⟨q7, n7, o7⟩ := Ob_pi (k := 13) (v := 1) o6
  have G7 := I2_Mk (I2_Mk (I2_Mk G4 n5) n6) n7
  have hd1 := dW_n (z := z) (x := z + 654) (by unfold isBr; omega)
  have hd2 := dW_b (z := z) (x := z + 656)
  have mA := o7.1
  rw [hz, hz1] at mA
  refine ⟨_, ?_, G7, ⟨Y14.2.1, Y24.2.1, Y34.2.1, c1, c2⟩, c3, ⟨?_, ?_, ?_⟩, fun i => ?_, by show cZ A4 = _; omega, by show cU A4 = _; omega, o7.2.1, _, ?_, mA⟩
  · rw [r1, q1, Option.bind_some, r2, q2, Option.bind_some, r3, q3, Option.bind_some, show (7 : Int32) = nI 7 from rfl, r4, q5, Option.bind_some, q6, Option.bind_some, q7, Option.bind_some]
  · rw [cI_set, if_neg (by omega), cI_set, if_neg (by omega), cI_self]
  · rw [cI_set, if_neg (by omega), cI_self]
  · rw [cI_self]
  · show cJ A4 z i = _
    rw [j4, j3, j2, j1]
  · omega
/-- the room, when all begins -/
theorem S00_want : sumN (dfc z (S00 z)) (cZ (S00 z)) = 0 := by
  have : ∀ n, sumN (dfc z (S00 z)) n = 0 := by
    intro n
    induction n with
    | zero => rfl
    | succ n ih =>
      rw [sumN, ih]
      unfold dfc
      rw [show kd (S00 z) n = 99 from rfl, if_neg (by omega)]
  exact this _
set_option maxHeartbeats 4000000 in
theorem init_C (hX : z + 661 ≤ X.1) (hU : 20000 ≤ X.2) : ∃ S, f11_init X (bornO (S00 z) 11 14) z = some S ∧ CR S z A00 (fun _ => none) 0 0 ∧ cZ S = z + 661 ∧ cU S = 16564 ∧ Tt z S ≤ 725496 := by
  obtain ⟨T1, e1, i1, z1, u1, D1, d1, m1, k1⟩ := init_1 (z := z) hX hU
  obtain ⟨T2, e2, i2, j2, z2, u2, k2, D2, d2, m2⟩ := init_2 i1 m1.1 z1 u1 k1 hX hU
  obtain ⟨T3, e3, i3, ⟨y1, y2, y3, y4, y5⟩, ya, ⟨f1, f2, f3⟩, j3, z3, u3, k3, D3, d3, m3⟩ := init_3 i2 m2.1 z2 u2 k2 hX hU
  have m12 := Mk_trans m1 m2 (H := fun _ => False) (fun x hx (hh : x = z) => by
    have : x < z := hx
    omega) (fun x (hx : x = z) _ => by rw [hx, k1]; exact Or.inl (by unfold okN; omega))
  have m13 := Mk_trans m12 m3 (H := fun _ => False) (fun x hx (hh : x = z) => by
    have : x < z := hx
    omega) (fun x (hx : x = z) _ => by rw [hx, k2]; exact Or.inl (by unfold okN; omega))
  obtain ⟨⟨t1, w1, r1⟩, g1, g2, hh, cc⟩ := id i3
  obtain ⟨jt, jw, jr⟩ := i1.2.2.2
  have J : ∀ i, cJ T3 z i = if i = 10 then some (z + 660) else if i = 9 then some (z + 658) else if i = 8 then some (z + 656) else if i = 7 then some (z + 654) else if i = 6 then some (z + 599) else if i = 5 then some (z + 597) else if i = 4 then some (z + 412) else if i = 3 then some (z + 227) else cJ T1 z i := fun i => by rw [j3, j2]
  have hWf : Wf T3 := Wf_of m13.1 (fun x => by
    by_cases hx : x < z
    · exact okC_no (by rw [Mk_kd m13 (show x < cZ (S00 z) from hx), show kd (S00 z) x = 99 from rfl]; omega)
    · by_cases hx6 : x = z + 6
      · rw [hx6]
        refine ⟨fun h4 => ?_, fun k hk => ?_⟩
        · rw [w1.2.1.1] at h4; omega
        · rw [w1.2.1.1] at hk
          have : k = 4 := by omega
          subst this
          exact ⟨_, w1.2.2.2.1, w1.2.2.2.2.1, w1.2.2.2.2.2⟩
      · exact m13.2.2.2.2.1 x (show z ≤ x by omega) hx6)
  obtain ⟨gs, gj⟩ := WdZ_S g1
  obtain ⟨as, aj⟩ := WdZ_S g2
  obtain ⟨h1, h2, h3, h4, h5, ⟨h6, h7, h8⟩, h9⟩ := hh
  obtain ⟨c1, c2, c3, c4, ⟨s1, s2, s3⟩, c5, c6⟩ := cc
  obtain ⟨t2, t3, t4, t5, t6⟩ := t1
  refine ⟨T3, ?_, ⟨hWf, ⟨k3, ⟨?_, ?_, ?_, ?_, ?_, ?_, ?_, ?_, ?_, ?_, ?_⟩, ⟨t3, t4⟩, t5, ⟨h2, h3, h4, h5⟩, ⟨c2, c3⟩, ⟨⟨s1, s2⟩, c4⟩, s3, ⟨y1, y2, y3, y4, y5⟩⟩, ⟨t6, fun k hk => absurd hk (Nat.not_lt_zero _)⟩, ⟨f1, f2, fun k _ => ya k, f3⟩, ⟨w1.2.1, ⟨[], OpN_L w1.2.2.1⟩, r1.2.1, TxN_L r1.2.2, Nat.zero_le _, fun i o ho => ?_⟩, ⟨gs, g1.2.2.2.2.2.2.1.2, g1.2.2.2.2.2.2.1.1, TxN_L g1.2.2.2.1, fun i hi => absurd hi (Nat.not_lt_zero _), fun i hi => ⟨gj i hi, fun hc => absurd hc (Nat.not_lt_zero _)⟩⟩, ⟨as, fun i hi => ?_⟩, fun j hj => ⟨h9 j, fun k hk => by cases hk⟩, ⟨by omega, h6, h7, fun j W hW => ?_⟩, ⟨h8, ⟨c5, fun k hk => absurd hk (Nat.not_lt_zero _), fun k hk => absurd hk (Nat.not_lt_zero _)⟩, fun hx => ?_, Or.inl c6⟩⟩, z3, u3, ?_⟩
  · unfold f11_init
    rw [e1, e2]
    exact e3
  · rw [J]; exact jt
  · rw [J]; exact jw
  · rw [J]; exact jr
  · rw [J]; rfl
  · rw [J]; rfl
  · rw [J]; rfl
  · rw [J]; rfl
  · rw [J]; rfl
  · rw [J]; rfl
  · rw [J]; rfl
  · rw [J]; rfl
  · have ho' : ([] : List (Nat × List Int32))[i]? = some o := ho
    simp at ho'
  · obtain ⟨a, b, c⟩ := aj i hi
    exact ⟨a, b, fun hf => Bool.noConfusion hf⟩
  · have hW' : ([] : List Wd)[j]? = some W := hW
    simp at hW'
  · rw [c6] at hx
    exact absurd hx (show ¬ (-1 : Int32) = nI 0 by decide)
  · have := m13.2.2.2.2.2
    rw [S00_want] at this
    unfold Tt
    omega
end MK
