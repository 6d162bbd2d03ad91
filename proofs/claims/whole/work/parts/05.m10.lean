noncomputable def f12_letter (M : MS) (p1 : Int32) (p2 : Int32) : Option (Int32 × MS) :=
  if (gF M 31) = 0 then (
    some ((-1 : Int32), M)
  ) else (
    if p1 = (-1 : Int32) then (
      bn2 (
        if 0 ≤ p2 then (
          (ld M 30 (1 : Int32)).bind fun v11 =>
          bn2 (f12_was M v11 p2) fun v12 M13 =>
          some (v12, M13)
        ) else (
          some ((-1 : Int32), M)
        )
      ) fun v8 M9 =>
      some (v8, M9)
    ) else (
      (f12_isEditor M p1).bind fun v1 =>
      (
        if v1 = 0 then (
          some (-1 : Int32)
        ) else (
          (f12_its M p1 (21 : Int32)).bind fun v4 =>
          (f12_isIn p2.toInt64 (0 : Int64) (v4 - (1 : Int32)).toInt64).bind fun v5 =>
          if v5 = 0 then (
            some (-1 : Int32)
          ) else (
            (f12_of p1 ((24 : Int32) + p2)).bind fun v6 =>
            (ld M 30 v6).bind fun v7 =>
            some v7
          )
        )
      ).bind fun v2 =>
      some (v2, M)
    )
  )
theorem hd12_letter : yX12_letter.cls = "FarEditorsModel" ∧ yX12_letter.cls ≠ "java/lang/invoke/MethodHandle" ∧ yX12_letter.cls ≠ "java/lang/invoke/VarHandle" ∧ (parseMethodDescriptor yX12_letter.desc).map (fun d => d.parameters.length) = some 2 := by decide +kernel
set_option maxHeartbeats 4000000 in
set_option maxRecDepth 100000 in
theorem c12_letter (l : Launch) (D : va_G) (h : Nat) (q : Nat → Nat) (y : CyT) (zM uM z u : Nat) {M M' : MS} {p1 : Int32} {p2 : Int32} {r : Int32} (hf : f12_letter M p1 p2 = some (r, M')) : CT l D y yX12_letter cX12_letter 3 (some .int) 4 94 zM uM [.ref h, .int p1, .int p2] z u (mw h q y M) z u (mw h q y M') (some (.int r)) := by
  refine CT.of (by decide) (Nat.le_of_ble_eq_true rfl) (fun E hc hzz hnm => ?_)
  have hc : Cx E "FarEditorsModel" cX12_letter 3 := hc
  have hz := hzz.1
  have hT := hz.2.2.1
  show V E z u (mw h q y M) 0 [(0, .ref h), (1, .int p1), (2, .int p2)] []
  unfold f12_letter at hf
  refine V_aload_n hc dX12_letter_0 rfl 0 rfl ?_
  refine R_geti hc 31 rfl (by decide) w6_89 dX12_letter_1 ?_
  refine V_if_ne hc dX12_letter_4 rfl (fun hq4 => ?_) (fun hq4 => ?_)
  · rw [if_neg hq4] at hf
    refine V_iload_n hc dX12_letter_9 rfl 1 rfl ?_
    refine V_iconst hc (v := (-1 : Int32)) dX12_letter_10 rfl ?_
    refine V_icmp_ne hc dX12_letter_11 rfl (fun hq11 => ?_) (fun hq11 => ?_)
    · rw [if_neg hq11] at hf
      refine V_aload_n hc dX12_letter_34 rfl 0 rfl ?_
      refine V_iload_n hc dX12_letter_35 rfl 1 rfl ?_
      obtain ⟨v1, hv1, hf⟩ := mb hf
      refine R_callVi hc hz (As := [.int p1]) (c12_isEditor l D h q y _ _ _ _ hv1) w8_80 w8_82 wp7_13 w1_13 w8_83 hd12_isEditor ⟨Nat.le_of_ble_eq_true rfl, Nat.le_of_ble_eq_true rfl⟩ rfl rfl (Nat.le_of_ble_eq_true rfl) dX12_letter_36 ?_
      obtain ⟨v2, hv3, hf⟩ := mb hf
      have hJ39 : V E z u (mw h q y M) 78 [] [.int v2] := by
        obtain ⟨rfl, rfl⟩ := si2 hf
        exact V_iret hc hzz rfl rfl rfl rfl rfl dX12_letter_78
      refine V_if_eq hc dX12_letter_39 rfl (fun hq39 => ?_) (fun hq39 => ?_)
      · rw [if_pos hq39] at hv3
        refine V_iconst hc (v := (-1 : Int32)) dX12_letter_77 rfl ?_
        obtain rfl := Option.some.inj hv3
        exact V_sub [] rfl hJ39
      · rw [if_neg hq39] at hv3
        refine V_iload_n hc dX12_letter_42 rfl 2 rfl ?_
        refine V_i2l hc dX12_letter_43 ?_
        refine V_lconst hc (v := (0 : Int64)) dX12_letter_44 rfl ?_
        refine V_aload_n hc dX12_letter_45 rfl 0 rfl ?_
        refine V_iload_n hc dX12_letter_46 rfl 1 rfl ?_
        refine V_bipush hc (v := (21 : Int32)) dX12_letter_47 rfl ?_
        obtain ⟨v4, hv4, hv3⟩ := mb hv3
        refine R_callVi hc hz (As := [.int p1, .int (21 : Int32)]) (c12_its l D h q y _ _ _ _ hv4) w7_142 w7_144 wp5_7 w1_13 w7_145 hd12_its ⟨Nat.le_of_ble_eq_true rfl, Nat.le_of_ble_eq_true rfl⟩ rfl rfl (Nat.le_of_ble_eq_true rfl) dX12_letter_49 ?_
        refine V_iconst hc (v := (1 : Int32)) dX12_letter_52 rfl ?_
        refine V_isub hc dX12_letter_53 ?_
        refine V_i2l hc dX12_letter_54 ?_
        obtain ⟨v5, hv5, hv3⟩ := mb hv3
        refine R_callSi hc hz (As := [.long p2.toInt64, .long (0 : Int64), .long (v4 - (1 : Int32)).toInt64]) (c12_isIn l D h q y _ _ _ _ hv5) w7_34 w7_35 w1_13 w7_36 hd12_isIn ⟨Nat.le_of_ble_eq_true rfl, Nat.le_of_ble_eq_true rfl⟩ rfl rfl (Nat.le_of_ble_eq_true rfl) dX12_letter_55 ?_
        refine V_if_eq hc dX12_letter_58 rfl (fun hq58 => ?_) (fun hq58 => ?_)
        · rw [if_pos hq58] at hv3
          refine V_iconst hc (v := (-1 : Int32)) dX12_letter_77 rfl ?_
          obtain rfl := Option.some.inj hv3
          exact V_sub [] rfl hJ39
        · rw [if_neg hq58] at hv3
          refine V_aload_n hc dX12_letter_61 rfl 0 rfl ?_
          refine R_getr hc 30 rfl (by decide) w6_88 dX12_letter_62 ?_
          refine V_iload_n hc dX12_letter_65 rfl 1 rfl ?_
          refine V_bipush hc (v := (24 : Int32)) dX12_letter_66 rfl ?_
          refine V_iload_n hc dX12_letter_68 rfl 2 rfl ?_
          refine V_iadd hc dX12_letter_69 ?_
          obtain ⟨v6, hv6, hv3⟩ := mb hv3
          refine R_callSi hc hz (As := [.int p1, .int ((24 : Int32) + p2)]) (c12_of l D h q y _ _ _ _ hv6) w7_123 w7_124 w1_13 w7_125 hd12_of ⟨Nat.le_of_ble_eq_true rfl, Nat.le_of_ble_eq_true rfl⟩ rfl rfl (Nat.le_of_ble_eq_true rfl) dX12_letter_70 ?_
          obtain ⟨v7, hv7, hv3⟩ := mb hv3
          refine R_iald hc hT rfl hv7 dX12_letter_73 ?_
          refine V_goto hc dX12_letter_74 rfl ?_
          obtain rfl := Option.some.inj hv3
          exact V_sub [] rfl hJ39
    · rw [if_pos hq11] at hf
      refine V_iload_n hc dX12_letter_14 rfl 2 rfl ?_
      obtain ⟨v8, M9, hv10, hf⟩ := mb2 hf
      have hJ15 : V E z u (mw h q y M9) 33 [] [.int v8] := by
        obtain ⟨rfl, rfl⟩ := si2 hf
        exact V_iret hc hzz rfl rfl rfl rfl rfl dX12_letter_33
      refine V_if_ge hc dX12_letter_15 rfl (fun hq15 => ?_) (fun hq15 => ?_)
      · rw [if_pos hq15] at hv10
        refine V_aload_n hc dX12_letter_22 rfl 0 rfl ?_
        refine V_aload_n hc dX12_letter_23 rfl 0 rfl ?_
        refine R_getr hc 30 rfl (by decide) w6_88 dX12_letter_24 ?_
        refine V_iconst hc (v := (1 : Int32)) dX12_letter_27 rfl ?_
        obtain ⟨v11, hv11, hv10⟩ := mb hv10
        refine R_iald hc hT rfl hv11 dX12_letter_28 ?_
        refine V_iload_n hc dX12_letter_29 rfl 2 rfl ?_
        obtain ⟨v12, M13, hv12, hv10⟩ := mb2 hv10
        refine R_callVi hc hz (As := [.int v11, .int p2]) (c12_was l D h q y _ _ _ _ hv12) w8_88 w8_89 w8_90 w1_13 w8_91 hd12_was ⟨Nat.le_of_ble_eq_true rfl, Nat.le_of_ble_eq_true rfl⟩ rfl rfl (Nat.le_of_ble_eq_true rfl) dX12_letter_30 ?_
        obtain ⟨rfl, rfl⟩ := si2 hv10
        exact V_sub [] rfl hJ15
      · rw [if_neg hq15] at hv10
        refine V_iconst hc (v := (-1 : Int32)) dX12_letter_18 rfl ?_
        refine V_goto hc dX12_letter_19 rfl ?_
        obtain ⟨rfl, rfl⟩ := si2 hv10
        exact V_sub [] rfl hJ15
  · rw [if_pos hq4] at hf
    refine V_iconst hc (v := (-1 : Int32)) dX12_letter_7 rfl ?_
    obtain ⟨rfl, rfl⟩ := si2 hf
    exact V_iret hc hzz rfl rfl rfl rfl rfl dX12_letter_8
noncomputable def f12_kindOf (p1 : Int32) : Option (Int32) :=
  (
    if p1 = 0 then (
      some (0 : Int32)
    ) else (
      if p1 = (-1 : Int32) then (
        some (2 : Int32)
      ) else (
        some (1 : Int32)
      )
    )
  ).bind fun v1 =>
  some v1
theorem hd12_kindOf : yX12_kindOf.cls = "FarEditorsModel" ∧ yX12_kindOf.cls ≠ "java/lang/invoke/MethodHandle" ∧ yX12_kindOf.cls ≠ "java/lang/invoke/VarHandle" ∧ (parseMethodDescriptor yX12_kindOf.desc).map (fun d => d.parameters.length) = some 1 := by decide +kernel
set_option maxHeartbeats 4000000 in
set_option maxRecDepth 100000 in
theorem c12_kindOf (l : Launch) (D : va_G) (h : Nat) (q : Nat → Nat) (y : CyT) (zM uM z u : Nat) {M : MS} {p1 : Int32} {r : Int32} (hf : f12_kindOf p1 = some r) : CT l D y yX12_kindOf cX12_kindOf 1 (some .int) 0 0 zM uM [.int p1] z u (mw h q y M) z u (mw h q y M) (some (.int r)) := by
  refine CT.of (by decide) (Nat.le_of_ble_eq_true rfl) (fun E hc hzz hnm => ?_)
  have hc : Cx E "FarEditorsModel" cX12_kindOf 1 := hc
  have hz := hzz.1
  have hT := hz.2.2.1
  show V E z u (mw h q y M) 0 [(0, .int p1)] []
  unfold f12_kindOf at hf
  refine V_iload_n hc dX12_kindOf_0 rfl 0 rfl ?_
  obtain ⟨v1, hv2, hf⟩ := mb hf
  have hJ1 : V E z u (mw h q y M) 18 [] [.int v1] := by
    obtain rfl := Option.some.inj hf
    exact V_iret hc hzz rfl rfl rfl rfl rfl dX12_kindOf_18
  refine V_if_ne hc dX12_kindOf_1 rfl (fun hq1 => ?_) (fun hq1 => ?_)
  · rw [if_neg hq1] at hv2
    refine V_iload_n hc dX12_kindOf_8 rfl 0 rfl ?_
    refine V_iconst hc (v := (-1 : Int32)) dX12_kindOf_9 rfl ?_
    refine V_icmp_ne hc dX12_kindOf_10 rfl (fun hq10 => ?_) (fun hq10 => ?_)
    · rw [if_neg hq10] at hv2
      refine V_iconst hc (v := (1 : Int32)) dX12_kindOf_17 rfl ?_
      obtain rfl := Option.some.inj hv2
      exact V_sub [] rfl hJ1
    · rw [if_pos hq10] at hv2
      refine V_iconst hc (v := (2 : Int32)) dX12_kindOf_13 rfl ?_
      refine V_goto hc dX12_kindOf_14 rfl ?_
      obtain rfl := Option.some.inj hv2
      exact V_sub [] rfl hJ1
  · rw [if_pos hq1] at hv2
    refine V_iconst hc (v := (0 : Int32)) dX12_kindOf_4 rfl ?_
    refine V_goto hc dX12_kindOf_5 rfl ?_
    obtain rfl := Option.some.inj hv2
    exact V_sub [] rfl hJ1
noncomputable def L12_stepOfA_35 (c1 : Int32) (c2 : Int32) (c3 : Int32) (c4 : Int32) (c5 : Int32) (M : MS) : Nat → Int32 → Option (Int32)
  | 0, _ => none
  | n + 1, i6 =>
    if (gF M 25) ≤ i6 then (
      some i6
    ) else (
      (ld M 20 i6).bind fun v1 =>
      (f12_kindOf v1).bind fun v2 =>
      if v2 = c5 then (
        L12_stepOfA_35 c1 c2 c3 c4 c5 M n (i6 + (1 : Int32))
      ) else (
        some i6
      )
    )
noncomputable def L12_stepOfA_10 (c1 : Int32) (c2 : Int32) : Nat → Int32 → Int32 → MS → Option (Int32 × MS)
  | 0, _, _, _ => none
  | n + 1, i3, i4, M =>
    if (gF M 25) ≤ i4 then (
      some (i3, M)
    ) else (
      (ld M 20 i4).bind fun v1 =>
      (f12_kindOf v1).bind fun v2 =>
      (L12_stepOfA_35 c1 c2 i3 i4 v2 M FU i4).bind fun x3 =>
      (
        if (gF M 51) = c1 then (
          (
            if c2 = 0 then (
              some v2
            ) else (
              if c2 = (1 : Int32) then (
                some (x3 - i4)
              ) else (
                if v2 = (1 : Int32) then (
                  if c2 < (2 : Int32) then (
                    some (-1 : Int32)
                  ) else (
                    if (x3 - i4) ≤ (c2 - (2 : Int32)) then (
                      some (-1 : Int32)
                    ) else (
                      (ld M 20 ((i4 + c2) - (2 : Int32))).bind fun v9 =>
                      some v9
                    )
                  )
                ) else (
                  some (-1 : Int32)
                )
              )
            )
          ).bind fun v7 =>
          some v7
        ) else (
          some i3
        )
      ).bind fun x5 =>
      L12_stepOfA_10 c1 c2 n x5 x3 (sF M 51 ((gF M 51) + (1 : Int32)))
    )
noncomputable def f12_stepOfA (M : MS) (p1 : Int32) (p2 : Int32) : Option (Int32 × MS) :=
  bn2 (L12_stepOfA_10 p1 p2 FU (-1 : Int32) (0 : Int32) (sF M 51 (0 : Int32))) fun x1 M2 =>
  some (x1, M2)
theorem hd12_stepOfA : yX12_stepOfA.cls = "FarEditorsModel" ∧ yX12_stepOfA.cls ≠ "java/lang/invoke/MethodHandle" ∧ yX12_stepOfA.cls ≠ "java/lang/invoke/VarHandle" ∧ (parseMethodDescriptor yX12_stepOfA.desc).map (fun d => d.parameters.length) = some 2 := by decide +kernel
set_option maxHeartbeats 4000000 in
set_option maxRecDepth 100000 in
theorem L12_stepOfA_35_ok {E : CxT} {l : Launch} {D : va_G} {h : Nat} {q : Nat → Nat} {y : CyT} {zM uM z u : Nat} (hc : Cx E "FarEditorsModel" cX12_stepOfA 7) (hz : Cy E l D y 1 20 zM uM) (c1 : Int32) (c2 : Int32) (c3 : Int32) (c4 : Int32) (c5 : Int32) (M : MS) : ∀ (n : Nat) (i6 : Int32) {o6 : Int32}, L12_stepOfA_35 c1 c2 c3 c4 c5 M n i6 = some o6 → (hx0 : V E z u (mw h q y M) 65 [(0, .ref h), (1, .int c1), (2, .int c2), (3, .int c3), (4, .int c4), (5, .int c5), (6, .int o6)] []) → V E z u (mw h q y M) 35 [(0, .ref h), (1, .int c1), (2, .int c2), (3, .int c3), (4, .int c4), (5, .int c5), (6, .int i6)] [] := by
  have hT := hz.2.2.1
  intro n
  induction n with
  | zero => intro i6 o6 hf; cases hf
  | succ n ih =>
    intro i6 o6 hf hx0
    unfold L12_stepOfA_35 at hf
    refine V_iload hc dX12_stepOfA_35 6 rfl ?_
    refine V_aload_n hc dX12_stepOfA_37 rfl 0 rfl ?_
    refine R_geti hc 25 rfl (by decide) w6_83 dX12_stepOfA_38 ?_
    refine V_icmp_ge hc dX12_stepOfA_41 rfl (fun hq41 => ?_) (fun hq41 => ?_)
    · rw [if_pos hq41] at hf
      obtain rfl := Option.some.inj hf
      exact V_sub [0, 1, 2, 3, 4, 5, 6] rfl hx0
    · rw [if_neg hq41] at hf
      refine V_aload_n hc dX12_stepOfA_44 rfl 0 rfl ?_
      refine R_getr hc 20 rfl (by decide) w6_78 dX12_stepOfA_45 ?_
      refine V_iload hc dX12_stepOfA_48 6 rfl ?_
      obtain ⟨v1, hv1, hf⟩ := mb hf
      refine R_iald hc hT rfl hv1 dX12_stepOfA_50 ?_
      obtain ⟨v2, hv2, hf⟩ := mb hf
      refine R_callSi hc hz (As := [.int v1]) (c12_kindOf l D h q y _ _ _ _ hv2) w8_108 w8_109 w1_13 w8_110 hd12_kindOf ⟨Nat.le_of_ble_eq_true rfl, Nat.le_of_ble_eq_true rfl⟩ rfl rfl (Nat.le_of_ble_eq_true rfl) dX12_stepOfA_51 ?_
      refine V_iload hc dX12_stepOfA_54 5 rfl ?_
      refine V_icmp_ne hc dX12_stepOfA_56 rfl (fun hq56 => ?_) (fun hq56 => ?_)
      · rw [if_neg hq56] at hf
        obtain rfl := Option.some.inj hf
        exact V_sub [0, 1, 2, 3, 4, 5, 6] rfl hx0
      · rw [if_pos hq56] at hf
        refine V_iinc hc (j := 6) (v := (i6 + (1 : Int32))) dX12_stepOfA_59 rfl rfl (by decide) rfl ?_
        refine V_goto hc dX12_stepOfA_62 rfl ?_
        exact V_sub [1, 2, 3, 4, 5, 6, 0] rfl (ih _ hf hx0)
set_option maxHeartbeats 4000000 in
set_option maxRecDepth 100000 in
theorem L12_stepOfA_10_ok {E : CxT} {l : Launch} {D : va_G} {h : Nat} {q : Nat → Nat} {y : CyT} {zM uM z u : Nat} (hc : Cx E "FarEditorsModel" cX12_stepOfA 7) (hz : Cy E l D y 1 20 zM uM) (c1 : Int32) (c2 : Int32) : ∀ (n : Nat) (i3 : Int32) (i4 : Int32) (M : MS) {o3 : Int32} {Mo : MS}, L12_stepOfA_10 c1 c2 n i3 i4 M = some (o3, Mo) → (hx0 : V E z u (mw h q y Mo) 150 [(3, .int o3)] []) → V E z u (mw h q y M) 10 [(0, .ref h), (1, .int c1), (2, .int c2), (3, .int i3), (4, .int i4)] [] := by
  have hT := hz.2.2.1
  intro n
  induction n with
  | zero => intro i3 i4 M o3 Mo hf; cases hf
  | succ n ih =>
    intro i3 i4 M o3 Mo hf hx0
    unfold L12_stepOfA_10 at hf
    refine V_iload hc dX12_stepOfA_10 4 rfl ?_
    refine V_aload_n hc dX12_stepOfA_12 rfl 0 rfl ?_
    refine R_geti hc 25 rfl (by decide) w6_83 dX12_stepOfA_13 ?_
    refine V_icmp_ge hc dX12_stepOfA_16 rfl (fun hq16 => ?_) (fun hq16 => ?_)
    · rw [if_pos hq16] at hf
      obtain ⟨rfl, rfl⟩ := si2 hf
      exact V_sub [3] rfl hx0
    · rw [if_neg hq16] at hf
      refine V_aload_n hc dX12_stepOfA_19 rfl 0 rfl ?_
      refine R_getr hc 20 rfl (by decide) w6_78 dX12_stepOfA_20 ?_
      refine V_iload hc dX12_stepOfA_23 4 rfl ?_
      obtain ⟨v1, hv1, hf⟩ := mb hf
      refine R_iald hc hT rfl hv1 dX12_stepOfA_25 ?_
      obtain ⟨v2, hv2, hf⟩ := mb hf
      refine R_callSi hc hz (As := [.int v1]) (c12_kindOf l D h q y _ _ _ _ hv2) w8_108 w8_109 w1_13 w8_110 hd12_kindOf ⟨Nat.le_of_ble_eq_true rfl, Nat.le_of_ble_eq_true rfl⟩ rfl rfl (Nat.le_of_ble_eq_true rfl) dX12_stepOfA_26 ?_
      refine V_istore hc dX12_stepOfA_29 (by decide) rfl ?_
      refine V_iload hc dX12_stepOfA_31 5 rfl ?_
      refine V_istore hc dX12_stepOfA_33 (by decide) rfl ?_
      obtain ⟨x3, hv4, hf⟩ := mb hf
      refine V_sub [2, 3, 4, 5, 6, 1, 0] rfl (L12_stepOfA_35_ok hc hz c1 c2 i3 i4 v2 M FU _ hv4 ?_)
      refine V_aload_n hc dX12_stepOfA_65 rfl 0 rfl ?_
      refine R_geti hc 51 rfl (by decide) w6_109 dX12_stepOfA_66 ?_
      refine V_iload_n hc dX12_stepOfA_69 rfl 1 rfl ?_
      obtain ⟨x5, hv6, hf⟩ := mb hf
      have hJ70 : V E z u (mw h q y M) 133 [(0, .ref h), (1, .int c1), (2, .int c2), (3, .int x5), (6, .int x3)] [] := by
        refine V_aload_n hc dX12_stepOfA_133 rfl 0 rfl ?_
        refine V_dup hc dX12_stepOfA_134 rfl ?_
        refine R_geti hc 51 rfl (by decide) w6_109 dX12_stepOfA_135 ?_
        refine V_iconst hc (v := (1 : Int32)) dX12_stepOfA_138 rfl ?_
        refine V_iadd hc dX12_stepOfA_139 ?_
        refine R_puti hc 51 rfl (by decide) w6_109 rfl rfl rfl dX12_stepOfA_140 ?_
        refine V_iload hc dX12_stepOfA_143 4 rfl ?_
        refine V_istore hc dX12_stepOfA_145 (by decide) rfl ?_
        refine V_goto hc dX12_stepOfA_147 rfl ?_
        exact V_sub [1, 2, 3, 4, 0] rfl (ih _ _ _ hf hx0)
      refine V_icmp_ne hc dX12_stepOfA_70 rfl (fun hq70 => ?_) (fun hq70 => ?_)
      · rw [if_neg hq70] at hv6
        obtain rfl := Option.some.inj hv6
        exact V_sub [0, 1, 2, 3, 6] rfl hJ70
      · rw [if_pos hq70] at hv6
        refine V_iload_n hc dX12_stepOfA_73 rfl 2 rfl ?_
        obtain ⟨v7, hv8, hv6⟩ := mb hv6
        have hJ74 : V E z u (mw h q y M) 132 [(0, .ref h), (1, .int c1), (2, .int c2), (6, .int x3)] [.int v7] := by
          refine V_istore_n hc dX12_stepOfA_132 rfl (by decide) rfl ?_
          obtain rfl := Option.some.inj hv6
          exact V_sub [1, 2, 3, 0, 4] rfl hJ70
        refine V_if_ne hc dX12_stepOfA_74 rfl (fun hq74 => ?_) (fun hq74 => ?_)
        · rw [if_neg hq74] at hv8
          refine V_iload_n hc dX12_stepOfA_82 rfl 2 rfl ?_
          refine V_iconst hc (v := (1 : Int32)) dX12_stepOfA_83 rfl ?_
          refine V_icmp_ne hc dX12_stepOfA_84 rfl (fun hq84 => ?_) (fun hq84 => ?_)
          · rw [if_neg hq84] at hv8
            refine V_iload hc dX12_stepOfA_95 5 rfl ?_
            refine V_iconst hc (v := (1 : Int32)) dX12_stepOfA_97 rfl ?_
            refine V_icmp_ne hc dX12_stepOfA_98 rfl (fun hq98 => ?_) (fun hq98 => ?_)
            · rw [if_neg hq98] at hv8
              refine V_iconst hc (v := (-1 : Int32)) dX12_stepOfA_131 rfl ?_
              obtain rfl := Option.some.inj hv8
              exact V_sub [0, 1, 2, 6] rfl hJ74
            · rw [if_pos hq98] at hv8
              refine V_iload_n hc dX12_stepOfA_101 rfl 2 rfl ?_
              refine V_iconst hc (v := (2 : Int32)) dX12_stepOfA_102 rfl ?_
              refine V_icmp_lt hc dX12_stepOfA_103 rfl (fun hq103 => ?_) (fun hq103 => ?_)
              · rw [if_pos hq103] at hv8
                refine V_iconst hc (v := (-1 : Int32)) dX12_stepOfA_131 rfl ?_
                obtain rfl := Option.some.inj hv8
                exact V_sub [0, 1, 2, 6] rfl hJ74
              · rw [if_neg hq103] at hv8
                refine V_iload_n hc dX12_stepOfA_106 rfl 2 rfl ?_
                refine V_iconst hc (v := (2 : Int32)) dX12_stepOfA_107 rfl ?_
                refine V_isub hc dX12_stepOfA_108 ?_
                refine V_iload hc dX12_stepOfA_109 6 rfl ?_
                refine V_iload hc dX12_stepOfA_111 4 rfl ?_
                refine V_isub hc dX12_stepOfA_113 ?_
                refine V_icmp_ge hc dX12_stepOfA_114 rfl (fun hq114 => ?_) (fun hq114 => ?_)
                · rw [if_pos hq114] at hv8
                  refine V_iconst hc (v := (-1 : Int32)) dX12_stepOfA_131 rfl ?_
                  obtain rfl := Option.some.inj hv8
                  exact V_sub [0, 1, 2, 6] rfl hJ74
                · rw [if_neg hq114] at hv8
                  refine V_aload_n hc dX12_stepOfA_117 rfl 0 rfl ?_
                  refine R_getr hc 20 rfl (by decide) w6_78 dX12_stepOfA_118 ?_
                  refine V_iload hc dX12_stepOfA_121 4 rfl ?_
                  refine V_iload_n hc dX12_stepOfA_123 rfl 2 rfl ?_
                  refine V_iadd hc dX12_stepOfA_124 ?_
                  refine V_iconst hc (v := (2 : Int32)) dX12_stepOfA_125 rfl ?_
                  refine V_isub hc dX12_stepOfA_126 ?_
                  obtain ⟨v9, hv9, hv8⟩ := mb hv8
                  refine R_iald hc hT rfl hv9 dX12_stepOfA_127 ?_
                  refine V_goto hc dX12_stepOfA_128 rfl ?_
                  obtain rfl := Option.some.inj hv8
                  exact V_sub [0, 1, 2, 6] rfl hJ74
          · rw [if_pos hq84] at hv8
            refine V_iload hc dX12_stepOfA_87 6 rfl ?_
            refine V_iload hc dX12_stepOfA_89 4 rfl ?_
            refine V_isub hc dX12_stepOfA_91 ?_
            refine V_goto hc dX12_stepOfA_92 rfl ?_
            obtain rfl := Option.some.inj hv8
            exact V_sub [0, 1, 2, 6] rfl hJ74
        · rw [if_pos hq74] at hv8
          refine V_iload hc dX12_stepOfA_77 5 rfl ?_
          refine V_goto hc dX12_stepOfA_79 rfl ?_
          obtain rfl := Option.some.inj hv8
          exact V_sub [0, 1, 2, 6] rfl hJ74
set_option maxHeartbeats 4000000 in
set_option maxRecDepth 100000 in
theorem c12_stepOfA (l : Launch) (D : va_G) (h : Nat) (q : Nat → Nat) (y : CyT) (zM uM z u : Nat) {M M' : MS} {p1 : Int32} {p2 : Int32} {r : Int32} (hf : f12_stepOfA M p1 p2 = some (r, M')) : CT l D y yX12_stepOfA cX12_stepOfA 7 (some .int) 1 20 zM uM [.ref h, .int p1, .int p2] z u (mw h q y M) z u (mw h q y M') (some (.int r)) := by
  refine CT.of (by decide) (Nat.le_of_ble_eq_true rfl) (fun E hc hzz hnm => ?_)
  have hc : Cx E "FarEditorsModel" cX12_stepOfA 7 := hc
  have hz := hzz.1
  have hT := hz.2.2.1
  show V E z u (mw h q y M) 0 [(0, .ref h), (1, .int p1), (2, .int p2)] []
  unfold f12_stepOfA at hf
  refine V_aload_n hc dX12_stepOfA_0 rfl 0 rfl ?_
  refine V_iconst hc (v := (0 : Int32)) dX12_stepOfA_1 rfl ?_
  refine R_puti hc 51 rfl (by decide) w6_109 rfl rfl rfl dX12_stepOfA_2 ?_
  refine V_iconst hc (v := (-1 : Int32)) dX12_stepOfA_5 rfl ?_
  refine V_istore_n hc dX12_stepOfA_6 rfl (by decide) rfl ?_
  refine V_iconst hc (v := (0 : Int32)) dX12_stepOfA_7 rfl ?_
  refine V_istore hc dX12_stepOfA_8 (by decide) rfl ?_
  obtain ⟨x1, M2, hv3, hf⟩ := mb2 hf
  refine V_sub [2, 3, 4, 1, 0] rfl (L12_stepOfA_10_ok hc hz p1 p2 FU _ _ _ hv3 ?_)
  refine V_iload_n hc dX12_stepOfA_150 rfl 0 rfl ?_
  obtain ⟨rfl, rfl⟩ := si2 hf
  exact V_iret hc hzz rfl rfl rfl rfl rfl dX12_stepOfA_151
noncomputable def f12_isLatest (M : MS) (p1 : Int32) (p2 : Int32) : Option (Int32 × MS) :=
  if p2 = 0 then (
    some ((0 : Int32), M)
  ) else (
    (f12_entryAt M p1 (p2 - (1 : Int32))).bind fun v1 =>
    (f12_keptToA M (v1 + (1 : Int32))).bind fun M2 =>
    some ((1 : Int32), M2)
  )
theorem hd12_isLatest : yX12_isLatest.cls = "FarEditorsModel" ∧ yX12_isLatest.cls ≠ "java/lang/invoke/MethodHandle" ∧ yX12_isLatest.cls ≠ "java/lang/invoke/VarHandle" ∧ (parseMethodDescriptor yX12_isLatest.desc).map (fun d => d.parameters.length) = some 2 := by decide +kernel
set_option maxHeartbeats 4000000 in
set_option maxRecDepth 100000 in
theorem c12_isLatest (l : Launch) (D : va_G) (h : Nat) (q : Nat → Nat) (y : CyT) (zM uM z u : Nat) {M M' : MS} {p1 : Int32} {p2 : Int32} {r : Int32} (hf : f12_isLatest M p1 p2 = some (r, M')) : CT l D y yX12_isLatest cX12_isLatest 3 (some .boolean) 2 50 zM uM [.ref h, .int p1, .int p2] z u (mw h q y M) z u (mw h q y M') (some (.int r)) := by
  refine CT.of (by decide) (Nat.le_of_ble_eq_true rfl) (fun E hc hzz hnm => ?_)
  have hc : Cx E "FarEditorsModel" cX12_isLatest 3 := hc
  have hz := hzz.1
  have hT := hz.2.2.1
  show V E z u (mw h q y M) 0 [(0, .ref h), (1, .int p1), (2, .int p2)] []
  unfold f12_isLatest at hf
  refine V_iload_n hc dX12_isLatest_0 rfl 2 rfl ?_
  refine V_if_ne hc dX12_isLatest_1 rfl (fun hq1 => ?_) (fun hq1 => ?_)
  · rw [if_neg hq1] at hf
    refine V_aload_n hc dX12_isLatest_6 rfl 0 rfl ?_
    refine V_aload_n hc dX12_isLatest_7 rfl 0 rfl ?_
    refine V_iload_n hc dX12_isLatest_8 rfl 1 rfl ?_
    refine V_iload_n hc dX12_isLatest_9 rfl 2 rfl ?_
    refine V_iconst hc (v := (1 : Int32)) dX12_isLatest_10 rfl ?_
    refine V_isub hc dX12_isLatest_11 ?_
    obtain ⟨v1, hv1, hf⟩ := mb hf
    refine R_callVi hc hz (As := [.int p1, .int (p2 - (1 : Int32))]) (c12_entryAt l D h q y _ _ _ _ hv1) w7_184 w7_186 wp6_0 w1_13 w7_187 hd12_entryAt ⟨Nat.le_of_ble_eq_true rfl, Nat.le_of_ble_eq_true rfl⟩ rfl rfl (Nat.le_of_ble_eq_true rfl) dX12_isLatest_12 ?_
    refine V_iconst hc (v := (1 : Int32)) dX12_isLatest_15 rfl ?_
    refine V_iadd hc dX12_isLatest_16 ?_
    obtain ⟨M2, hM2, hf⟩ := mb hf
    refine R_callVv hc hz (As := [.int (v1 + (1 : Int32))]) (c12_keptToA l D h q y _ _ _ _ hM2) w7_225 w7_227 wp6_8 w1_13 w7_228 hd12_keptToA ⟨Nat.le_of_ble_eq_true rfl, Nat.le_of_ble_eq_true rfl⟩ rfl rfl (Nat.le_of_ble_eq_true rfl) dX12_isLatest_17 ?_
    refine V_iconst hc (v := (1 : Int32)) dX12_isLatest_20 rfl ?_
    obtain ⟨rfl, rfl⟩ := si2 hf
    exact V_iret hc hzz rfl rfl rfl rfl rfl dX12_isLatest_21
  · rw [if_pos hq1] at hf
    refine V_iconst hc (v := (0 : Int32)) dX12_isLatest_4 rfl ?_
    obtain ⟨rfl, rfl⟩ := si2 hf
    exact V_iret hc hzz rfl rfl rfl rfl rfl dX12_isLatest_5
noncomputable def f12_isThere (M : MS) (p1 : Int32) (p2 : Int32) : Option (Int32 × MS) :=
  if p2 = (0 : Int32) then (
    (f12_of p1 (264 : Int32)).bind fun v1 =>
    (f12_keptToA M v1).bind fun M2 =>
    (f12_its M2 p1 (17 : Int32)).bind fun v3 =>
    (
      if v3 = (1 : Int32) then (
        some (1 : Int32)
      ) else (
        some (0 : Int32)
      )
    ).bind fun v4 =>
    (bz v4).bind fun v6 =>
    some (v6, M2)
  ) else (
    if p2 = (1 : Int32) then (
      (f12_of p1 (1148 : Int32)).bind fun v7 =>
      (f12_keptToA M v7).bind fun M8 =>
      (f12_its M8 p1 (18 : Int32)).bind fun v9 =>
      (
        if v9 = (1 : Int32) then (
          some (1 : Int32)
        ) else (
          some (0 : Int32)
        )
      ).bind fun v10 =>
      (bz v10).bind fun v12 =>
      some (v12, M8)
    ) else (
      if p2 = (2 : Int32) then (
        (f12_of p1 (1590 : Int32)).bind fun v13 =>
        (f12_its M p1 (22 : Int32)).bind fun v14 =>
        bn2 (f12_isLatest M v13 v14) fun v15 M16 =>
        (bz v15).bind fun v17 =>
        some (v17, M16)
      ) else (
        if p2 = (3 : Int32) then (
          (f12_of p1 (2054 : Int32)).bind fun v18 =>
          (f12_its M p1 (23 : Int32)).bind fun v19 =>
          bn2 (f12_isLatest M v18 v19) fun v20 M21 =>
          (bz v20).bind fun v22 =>
          some (v22, M21)
        ) else (
          some ((0 : Int32), M)
        )
      )
    )
  )
theorem hd12_isThere : yX12_isThere.cls = "FarEditorsModel" ∧ yX12_isThere.cls ≠ "java/lang/invoke/MethodHandle" ∧ yX12_isThere.cls ≠ "java/lang/invoke/VarHandle" ∧ (parseMethodDescriptor yX12_isThere.desc).map (fun d => d.parameters.length) = some 2 := by decide +kernel
set_option maxHeartbeats 4000000 in
set_option maxRecDepth 100000 in
theorem c12_isThere (l : Launch) (D : va_G) (h : Nat) (q : Nat → Nat) (y : CyT) (zM uM z u : Nat) {M M' : MS} {p1 : Int32} {p2 : Int32} {r : Int32} (hf : f12_isThere M p1 p2 = some (r, M')) : CT l D y yX12_isThere cX12_isThere 3 (some .boolean) 3 72 zM uM [.ref h, .int p1, .int p2] z u (mw h q y M) z u (mw h q y M') (some (.int r)) := by
  refine CT.of (by decide) (Nat.le_of_ble_eq_true rfl) (fun E hc hzz hnm => ?_)
  have hc : Cx E "FarEditorsModel" cX12_isThere 3 := hc
  have hz := hzz.1
  have hT := hz.2.2.1
  show V E z u (mw h q y M) 0 [(0, .ref h), (1, .int p1), (2, .int p2)] []
  unfold f12_isThere at hf
  refine V_iload_n hc dX12_isThere_0 rfl 2 rfl ?_
  by_cases hs1_0 : p2 = (0 : Int32)
  · rw [if_pos hs1_0] at hf
    refine V_tableIn hc dX12_isThere_1 (by rw [hs1_0]; decide) (by rw [hs1_0]; decide) (off := 31) (by rw [hs1_0]; rfl) rfl ?_
    refine V_aload_n hc dX12_isThere_32 rfl 0 rfl ?_
    refine V_iload_n hc dX12_isThere_33 rfl 1 rfl ?_
    refine V_sipush hc (v := (264 : Int32)) dX12_isThere_34 rfl ?_
    obtain ⟨v1, hv1, hf⟩ := mb hf
    refine R_callSi hc hz (As := [.int p1, .int (264 : Int32)]) (c12_of l D h q y _ _ _ _ hv1) w7_123 w7_124 w1_13 w7_125 hd12_of ⟨Nat.le_of_ble_eq_true rfl, Nat.le_of_ble_eq_true rfl⟩ rfl rfl (Nat.le_of_ble_eq_true rfl) dX12_isThere_37 ?_
    obtain ⟨M2, hM2, hf⟩ := mb hf
    refine R_callVv hc hz (As := [.int v1]) (c12_keptToA l D h q y _ _ _ _ hM2) w7_225 w7_227 wp6_8 w1_13 w7_228 hd12_keptToA ⟨Nat.le_of_ble_eq_true rfl, Nat.le_of_ble_eq_true rfl⟩ rfl rfl (Nat.le_of_ble_eq_true rfl) dX12_isThere_40 ?_
    refine V_aload_n hc dX12_isThere_43 rfl 0 rfl ?_
    refine V_iload_n hc dX12_isThere_44 rfl 1 rfl ?_
    refine V_bipush hc (v := (17 : Int32)) dX12_isThere_45 rfl ?_
    obtain ⟨v3, hv3, hf⟩ := mb hf
    refine R_callVi hc hz (As := [.int p1, .int (17 : Int32)]) (c12_its l D h q y _ _ _ _ hv3) w7_142 w7_144 wp5_7 w1_13 w7_145 hd12_its ⟨Nat.le_of_ble_eq_true rfl, Nat.le_of_ble_eq_true rfl⟩ rfl rfl (Nat.le_of_ble_eq_true rfl) dX12_isThere_47 ?_
    refine V_iconst hc (v := (1 : Int32)) dX12_isThere_50 rfl ?_
    obtain ⟨v4, hv5, hf⟩ := mb hf
    have hJ51 : V E z u (mw h q y M2) 59 [] [.int v4] := by
      obtain ⟨v6, hv6, hf⟩ := mb hf
      obtain ⟨hbv6, rfl⟩ := bz_some hv6
      obtain ⟨rfl, rfl⟩ := si2 hf
      exact V_iret hc hzz (bz_nar hbv6) rfl rfl rfl rfl dX12_isThere_59
    refine V_icmp_ne hc dX12_isThere_51 rfl (fun hq51 => ?_) (fun hq51 => ?_)
    · rw [if_neg hq51] at hv5
      refine V_iconst hc (v := (0 : Int32)) dX12_isThere_58 rfl ?_
      obtain rfl := Option.some.inj hv5
      exact V_sub [] rfl hJ51
    · rw [if_pos hq51] at hv5
      refine V_iconst hc (v := (1 : Int32)) dX12_isThere_54 rfl ?_
      refine V_goto hc dX12_isThere_55 rfl ?_
      obtain rfl := Option.some.inj hv5
      exact V_sub [] rfl hJ51
  rw [if_neg hs1_0] at hf
  by_cases hs1_1 : p2 = (1 : Int32)
  · rw [if_pos hs1_1] at hf
    refine V_tableIn hc dX12_isThere_1 (by rw [hs1_1]; decide) (by rw [hs1_1]; decide) (off := 59) (by rw [hs1_1]; rfl) rfl ?_
    refine V_aload_n hc dX12_isThere_60 rfl 0 rfl ?_
    refine V_iload_n hc dX12_isThere_61 rfl 1 rfl ?_
    refine V_sipush hc (v := (1148 : Int32)) dX12_isThere_62 rfl ?_
    obtain ⟨v7, hv7, hf⟩ := mb hf
    refine R_callSi hc hz (As := [.int p1, .int (1148 : Int32)]) (c12_of l D h q y _ _ _ _ hv7) w7_123 w7_124 w1_13 w7_125 hd12_of ⟨Nat.le_of_ble_eq_true rfl, Nat.le_of_ble_eq_true rfl⟩ rfl rfl (Nat.le_of_ble_eq_true rfl) dX12_isThere_65 ?_
    obtain ⟨M8, hM8, hf⟩ := mb hf
    refine R_callVv hc hz (As := [.int v7]) (c12_keptToA l D h q y _ _ _ _ hM8) w7_225 w7_227 wp6_8 w1_13 w7_228 hd12_keptToA ⟨Nat.le_of_ble_eq_true rfl, Nat.le_of_ble_eq_true rfl⟩ rfl rfl (Nat.le_of_ble_eq_true rfl) dX12_isThere_68 ?_
    refine V_aload_n hc dX12_isThere_71 rfl 0 rfl ?_
    refine V_iload_n hc dX12_isThere_72 rfl 1 rfl ?_
    refine V_bipush hc (v := (18 : Int32)) dX12_isThere_73 rfl ?_
    obtain ⟨v9, hv9, hf⟩ := mb hf
    refine R_callVi hc hz (As := [.int p1, .int (18 : Int32)]) (c12_its l D h q y _ _ _ _ hv9) w7_142 w7_144 wp5_7 w1_13 w7_145 hd12_its ⟨Nat.le_of_ble_eq_true rfl, Nat.le_of_ble_eq_true rfl⟩ rfl rfl (Nat.le_of_ble_eq_true rfl) dX12_isThere_75 ?_
    refine V_iconst hc (v := (1 : Int32)) dX12_isThere_78 rfl ?_
    obtain ⟨v10, hv11, hf⟩ := mb hf
    have hJ79 : V E z u (mw h q y M8) 87 [] [.int v10] := by
      obtain ⟨v12, hv12, hf⟩ := mb hf
      obtain ⟨hbv12, rfl⟩ := bz_some hv12
      obtain ⟨rfl, rfl⟩ := si2 hf
      exact V_iret hc hzz (bz_nar hbv12) rfl rfl rfl rfl dX12_isThere_87
    refine V_icmp_ne hc dX12_isThere_79 rfl (fun hq79 => ?_) (fun hq79 => ?_)
    · rw [if_neg hq79] at hv11
      refine V_iconst hc (v := (0 : Int32)) dX12_isThere_86 rfl ?_
      obtain rfl := Option.some.inj hv11
      exact V_sub [] rfl hJ79
    · rw [if_pos hq79] at hv11
      refine V_iconst hc (v := (1 : Int32)) dX12_isThere_82 rfl ?_
      refine V_goto hc dX12_isThere_83 rfl ?_
      obtain rfl := Option.some.inj hv11
      exact V_sub [] rfl hJ79
  rw [if_neg hs1_1] at hf
  by_cases hs1_2 : p2 = (2 : Int32)
  · rw [if_pos hs1_2] at hf
    refine V_tableIn hc dX12_isThere_1 (by rw [hs1_2]; decide) (by rw [hs1_2]; decide) (off := 87) (by rw [hs1_2]; rfl) rfl ?_
    refine V_aload_n hc dX12_isThere_88 rfl 0 rfl ?_
    refine V_iload_n hc dX12_isThere_89 rfl 1 rfl ?_
    refine V_sipush hc (v := (1590 : Int32)) dX12_isThere_90 rfl ?_
    obtain ⟨v13, hv13, hf⟩ := mb hf
    refine R_callSi hc hz (As := [.int p1, .int (1590 : Int32)]) (c12_of l D h q y _ _ _ _ hv13) w7_123 w7_124 w1_13 w7_125 hd12_of ⟨Nat.le_of_ble_eq_true rfl, Nat.le_of_ble_eq_true rfl⟩ rfl rfl (Nat.le_of_ble_eq_true rfl) dX12_isThere_93 ?_
    refine V_aload_n hc dX12_isThere_96 rfl 0 rfl ?_
    refine V_iload_n hc dX12_isThere_97 rfl 1 rfl ?_
    refine V_bipush hc (v := (22 : Int32)) dX12_isThere_98 rfl ?_
    obtain ⟨v14, hv14, hf⟩ := mb hf
    refine R_callVi hc hz (As := [.int p1, .int (22 : Int32)]) (c12_its l D h q y _ _ _ _ hv14) w7_142 w7_144 wp5_7 w1_13 w7_145 hd12_its ⟨Nat.le_of_ble_eq_true rfl, Nat.le_of_ble_eq_true rfl⟩ rfl rfl (Nat.le_of_ble_eq_true rfl) dX12_isThere_100 ?_
    obtain ⟨v15, M16, hv15, hf⟩ := mb2 hf
    refine R_callVi hc hz (As := [.int v13, .int v14]) (c12_isLatest l D h q y _ _ _ _ hv15) w8_100 w8_102 wp7_15 w1_13 w8_103 hd12_isLatest ⟨Nat.le_of_ble_eq_true rfl, Nat.le_of_ble_eq_true rfl⟩ rfl rfl (Nat.le_of_ble_eq_true rfl) dX12_isThere_103 ?_
    obtain ⟨v17, hv17, hf⟩ := mb hf
    obtain ⟨hbv17, rfl⟩ := bz_some hv17
    obtain ⟨rfl, rfl⟩ := si2 hf
    exact V_iret hc hzz (bz_nar hbv17) rfl rfl rfl rfl dX12_isThere_106
  rw [if_neg hs1_2] at hf
  by_cases hs1_3 : p2 = (3 : Int32)
  · rw [if_pos hs1_3] at hf
    refine V_tableIn hc dX12_isThere_1 (by rw [hs1_3]; decide) (by rw [hs1_3]; decide) (off := 106) (by rw [hs1_3]; rfl) rfl ?_
    refine V_aload_n hc dX12_isThere_107 rfl 0 rfl ?_
    refine V_iload_n hc dX12_isThere_108 rfl 1 rfl ?_
    refine V_sipush hc (v := (2054 : Int32)) dX12_isThere_109 rfl ?_
    obtain ⟨v18, hv18, hf⟩ := mb hf
    refine R_callSi hc hz (As := [.int p1, .int (2054 : Int32)]) (c12_of l D h q y _ _ _ _ hv18) w7_123 w7_124 w1_13 w7_125 hd12_of ⟨Nat.le_of_ble_eq_true rfl, Nat.le_of_ble_eq_true rfl⟩ rfl rfl (Nat.le_of_ble_eq_true rfl) dX12_isThere_112 ?_
    refine V_aload_n hc dX12_isThere_115 rfl 0 rfl ?_
    refine V_iload_n hc dX12_isThere_116 rfl 1 rfl ?_
    refine V_bipush hc (v := (23 : Int32)) dX12_isThere_117 rfl ?_
    obtain ⟨v19, hv19, hf⟩ := mb hf
    refine R_callVi hc hz (As := [.int p1, .int (23 : Int32)]) (c12_its l D h q y _ _ _ _ hv19) w7_142 w7_144 wp5_7 w1_13 w7_145 hd12_its ⟨Nat.le_of_ble_eq_true rfl, Nat.le_of_ble_eq_true rfl⟩ rfl rfl (Nat.le_of_ble_eq_true rfl) dX12_isThere_119 ?_
    obtain ⟨v20, M21, hv20, hf⟩ := mb2 hf
    refine R_callVi hc hz (As := [.int v18, .int v19]) (c12_isLatest l D h q y _ _ _ _ hv20) w8_100 w8_102 wp7_15 w1_13 w8_103 hd12_isLatest ⟨Nat.le_of_ble_eq_true rfl, Nat.le_of_ble_eq_true rfl⟩ rfl rfl (Nat.le_of_ble_eq_true rfl) dX12_isThere_122 ?_
    obtain ⟨v22, hv22, hf⟩ := mb hf
    obtain ⟨hbv22, rfl⟩ := bz_some hv22
    obtain ⟨rfl, rfl⟩ := si2 hf
    exact V_iret hc hzz (bz_nar hbv22) rfl rfl rfl rfl dX12_isThere_125
  rw [if_neg hs1_3] at hf
  have hto : p2.toInt < 0 ∨ 3 < p2.toInt := by
    have ht0 : ¬ p2.toInt = 0 := fun hh => hs1_0 (Int32.toInt_inj.mp (hh.trans rfl))
    have ht1 : ¬ p2.toInt = 1 := fun hh => hs1_1 (Int32.toInt_inj.mp (hh.trans rfl))
    have ht2 : ¬ p2.toInt = 2 := fun hh => hs1_2 (Int32.toInt_inj.mp (hh.trans rfl))
    have ht3 : ¬ p2.toInt = 3 := fun hh => hs1_3 (Int32.toInt_inj.mp (hh.trans rfl))
    omega
  refine V_tableOut hc dX12_isThere_1 hto rfl ?_
  refine V_iconst hc (v := (0 : Int32)) dX12_isThere_126 rfl ?_
  obtain ⟨rfl, rfl⟩ := si2 hf
  exact V_iret hc hzz rfl rfl rfl rfl rfl dX12_isThere_127
noncomputable def f12_step (M : MS) (p1 : Int32) (p2 : Int32) (p3 : Int32) (p4 : Int32) : Option (Int32 × MS) :=
  (f12_isEditor M p1).bind fun v1 =>
  if v1 = 0 then (
    some ((-1 : Int32), M)
  ) else (
    if p3 < 0 then (
      some ((-1 : Int32), M)
    ) else (
      if p4 < 0 then (
        some ((-1 : Int32), M)
      ) else (
        bn2 (f12_isThere M p1 p2) fun v2 M3 =>
        if v2 = 0 then (
          some ((-1 : Int32), M3)
        ) else (
          bn2 (f12_stepOfA M3 p3 p4) fun v4 M5 =>
          some (v4, M5)
        )
      )
    )
  )
theorem hd12_step : yX12_step.cls = "FarEditorsModel" ∧ yX12_step.cls ≠ "java/lang/invoke/MethodHandle" ∧ yX12_step.cls ≠ "java/lang/invoke/VarHandle" ∧ (parseMethodDescriptor yX12_step.desc).map (fun d => d.parameters.length) = some 4 := by decide +kernel
set_option maxHeartbeats 4000000 in
set_option maxRecDepth 100000 in
theorem c12_step (l : Launch) (D : va_G) (h : Nat) (q : Nat → Nat) (y : CyT) (zM uM z u : Nat) {M M' : MS} {p1 : Int32} {p2 : Int32} {p3 : Int32} {p4 : Int32} {r : Int32} (hf : f12_step M p1 p2 p3 p4 = some (r, M')) : CT l D y yX12_step cX12_step 5 (some .int) 4 94 zM uM [.ref h, .int p1, .int p2, .int p3, .int p4] z u (mw h q y M) z u (mw h q y M') (some (.int r)) := by
  refine CT.of (by decide) (Nat.le_of_ble_eq_true rfl) (fun E hc hzz hnm => ?_)
  have hc : Cx E "FarEditorsModel" cX12_step 5 := hc
  have hz := hzz.1
  have hT := hz.2.2.1
  show V E z u (mw h q y M) 0 [(0, .ref h), (1, .int p1), (2, .int p2), (3, .int p3), (4, .int p4)] []
  unfold f12_step at hf
  refine V_aload_n hc dX12_step_0 rfl 0 rfl ?_
  refine V_iload_n hc dX12_step_1 rfl 1 rfl ?_
  obtain ⟨v1, hv1, hf⟩ := mb hf
  refine R_callVi hc hz (As := [.int p1]) (c12_isEditor l D h q y _ _ _ _ hv1) w8_80 w8_82 wp7_13 w1_13 w8_83 hd12_isEditor ⟨Nat.le_of_ble_eq_true rfl, Nat.le_of_ble_eq_true rfl⟩ rfl rfl (Nat.le_of_ble_eq_true rfl) dX12_step_2 ?_
  refine V_if_eq hc dX12_step_5 rfl (fun hq5 => ?_) (fun hq5 => ?_)
  · rw [if_pos hq5] at hf
    refine V_iconst hc (v := (-1 : Int32)) dX12_step_26 rfl ?_
    obtain ⟨rfl, rfl⟩ := si2 hf
    exact V_iret hc hzz rfl rfl rfl rfl rfl dX12_step_27
  · rw [if_neg hq5] at hf
    refine V_iload_n hc dX12_step_8 rfl 3 rfl ?_
    refine V_if_lt hc dX12_step_9 rfl (fun hq9 => ?_) (fun hq9 => ?_)
    · rw [if_pos hq9] at hf
      refine V_iconst hc (v := (-1 : Int32)) dX12_step_26 rfl ?_
      obtain ⟨rfl, rfl⟩ := si2 hf
      exact V_iret hc hzz rfl rfl rfl rfl rfl dX12_step_27
    · rw [if_neg hq9] at hf
      refine V_iload hc dX12_step_12 4 rfl ?_
      refine V_if_lt hc dX12_step_14 rfl (fun hq14 => ?_) (fun hq14 => ?_)
      · rw [if_pos hq14] at hf
        refine V_iconst hc (v := (-1 : Int32)) dX12_step_26 rfl ?_
        obtain ⟨rfl, rfl⟩ := si2 hf
        exact V_iret hc hzz rfl rfl rfl rfl rfl dX12_step_27
      · rw [if_neg hq14] at hf
        refine V_aload_n hc dX12_step_17 rfl 0 rfl ?_
        refine V_iload_n hc dX12_step_18 rfl 1 rfl ?_
        refine V_iload_n hc dX12_step_19 rfl 2 rfl ?_
        obtain ⟨v2, M3, hv2, hf⟩ := mb2 hf
        refine R_callVi hc hz (As := [.int p1, .int p2]) (c12_isThere l D h q y _ _ _ _ hv2) w8_96 w8_98 wp7_14 w1_13 w8_99 hd12_isThere ⟨Nat.le_of_ble_eq_true rfl, Nat.le_of_ble_eq_true rfl⟩ rfl rfl (Nat.le_of_ble_eq_true rfl) dX12_step_20 ?_
        refine V_if_ne hc dX12_step_23 rfl (fun hq23 => ?_) (fun hq23 => ?_)
        · rw [if_neg hq23] at hf
          refine V_aload_n hc dX12_step_28 rfl 0 rfl ?_
          refine V_iload_n hc dX12_step_29 rfl 3 rfl ?_
          refine V_iload hc dX12_step_30 4 rfl ?_
          obtain ⟨v4, M5, hv4, hf⟩ := mb2 hf
          refine R_callVi hc hz (As := [.int p3, .int p4]) (c12_stepOfA l D h q y _ _ _ _ hv4) w8_104 w8_106 wp8_0 w1_13 w8_107 hd12_stepOfA ⟨Nat.le_of_ble_eq_true rfl, Nat.le_of_ble_eq_true rfl⟩ rfl rfl (Nat.le_of_ble_eq_true rfl) dX12_step_32 ?_
          obtain ⟨rfl, rfl⟩ := si2 hf
          exact V_iret hc hzz rfl rfl rfl rfl rfl dX12_step_35
        · rw [if_pos hq23] at hf
          refine V_iconst hc (v := (-1 : Int32)) dX12_step_26 rfl ?_
          obtain ⟨rfl, rfl⟩ := si2 hf
          exact V_iret hc hzz rfl rfl rfl rfl rfl dX12_step_27
noncomputable def f12_isOpOfRow (M : MS) (p1 : Int32) : Option (Int32) :=
  (
    if (gF M 31) = 0 then (
      some (0 : Int32)
    ) else (
      (ld M 30 (1 : Int32)).bind fun v3 =>
      (f12_isIn p1.toInt64 (1 : Int64) v3.toInt64).bind fun v4 =>
      if v4 = 0 then (
        some (0 : Int32)
      ) else (
        some (1 : Int32)
      )
    )
  ).bind fun v1 =>
  (bz v1).bind fun v5 =>
  some v5
theorem hd12_isOpOfRow : yX12_isOpOfRow.cls = "FarEditorsModel" ∧ yX12_isOpOfRow.cls ≠ "java/lang/invoke/MethodHandle" ∧ yX12_isOpOfRow.cls ≠ "java/lang/invoke/VarHandle" ∧ (parseMethodDescriptor yX12_isOpOfRow.desc).map (fun d => d.parameters.length) = some 1 := by decide +kernel
set_option maxHeartbeats 4000000 in
set_option maxRecDepth 100000 in
theorem c12_isOpOfRow (l : Launch) (D : va_G) (h : Nat) (q : Nat → Nat) (y : CyT) (zM uM z u : Nat) {M : MS} {p1 : Int32} {r : Int32} (hf : f12_isOpOfRow M p1 = some r) : CT l D y yX12_isOpOfRow cX12_isOpOfRow 2 (some .boolean) 1 25 zM uM [.ref h, .int p1] z u (mw h q y M) z u (mw h q y M) (some (.int r)) := by
  refine CT.of (by decide) (Nat.le_of_ble_eq_true rfl) (fun E hc hzz hnm => ?_)
  have hc : Cx E "FarEditorsModel" cX12_isOpOfRow 2 := hc
  have hz := hzz.1
  have hT := hz.2.2.1
  show V E z u (mw h q y M) 0 [(0, .ref h), (1, .int p1)] []
  unfold f12_isOpOfRow at hf
  refine V_aload_n hc dX12_isOpOfRow_0 rfl 0 rfl ?_
  refine R_geti hc 31 rfl (by decide) w6_89 dX12_isOpOfRow_1 ?_
  obtain ⟨v1, hv2, hf⟩ := mb hf
  have hJ4 : V E z u (mw h q y M) 28 [] [.int v1] := by
    obtain ⟨v5, hv5, hf⟩ := mb hf
    obtain ⟨hbv5, rfl⟩ := bz_some hv5
    obtain rfl := Option.some.inj hf
    exact V_iret hc hzz (bz_nar hbv5) rfl rfl rfl rfl dX12_isOpOfRow_28
  refine V_if_eq hc dX12_isOpOfRow_4 rfl (fun hq4 => ?_) (fun hq4 => ?_)
  · rw [if_pos hq4] at hv2
    refine V_iconst hc (v := (0 : Int32)) dX12_isOpOfRow_27 rfl ?_
    obtain rfl := Option.some.inj hv2
    exact V_sub [] rfl hJ4
  · rw [if_neg hq4] at hv2
    refine V_iload_n hc dX12_isOpOfRow_7 rfl 1 rfl ?_
    refine V_i2l hc dX12_isOpOfRow_8 ?_
    refine V_lconst hc (v := (1 : Int64)) dX12_isOpOfRow_9 rfl ?_
    refine V_aload_n hc dX12_isOpOfRow_10 rfl 0 rfl ?_
    refine R_getr hc 30 rfl (by decide) w6_88 dX12_isOpOfRow_11 ?_
    refine V_iconst hc (v := (1 : Int32)) dX12_isOpOfRow_14 rfl ?_
    obtain ⟨v3, hv3, hv2⟩ := mb hv2
    refine R_iald hc hT rfl hv3 dX12_isOpOfRow_15 ?_
    refine V_i2l hc dX12_isOpOfRow_16 ?_
    obtain ⟨v4, hv4, hv2⟩ := mb hv2
    refine R_callSi hc hz (As := [.long p1.toInt64, .long (1 : Int64), .long v3.toInt64]) (c12_isIn l D h q y _ _ _ _ hv4) w7_34 w7_35 w1_13 w7_36 hd12_isIn ⟨Nat.le_of_ble_eq_true rfl, Nat.le_of_ble_eq_true rfl⟩ rfl rfl (Nat.le_of_ble_eq_true rfl) dX12_isOpOfRow_17 ?_
    refine V_if_eq hc dX12_isOpOfRow_20 rfl (fun hq20 => ?_) (fun hq20 => ?_)
    · rw [if_pos hq20] at hv2
      refine V_iconst hc (v := (0 : Int32)) dX12_isOpOfRow_27 rfl ?_
      obtain rfl := Option.some.inj hv2
      exact V_sub [] rfl hJ4
    · rw [if_neg hq20] at hv2
      refine V_iconst hc (v := (1 : Int32)) dX12_isOpOfRow_23 rfl ?_
      refine V_goto hc dX12_isOpOfRow_24 rfl ?_
      obtain rfl := Option.some.inj hv2
      exact V_sub [] rfl hJ4
noncomputable def f12_row (M : MS) (p1 : Int32) (p2 : Int32) (p3 : Int32) : Option (Int32 × MS) :=
  (f12_isOpOfRow M p1).bind fun v1 =>
  if v1 = 0 then (
    some ((-1 : Int32), M)
  ) else (
    if p2 < (-1 : Int32) then (
      some ((-1 : Int32), M)
    ) else (
      if 0 ≤ p3 then (
        (f12_opToA M (p1 - (1 : Int32))).bind fun M2 =>
        bn2 (f12_stepOfA M2 p2 p3) fun v3 M4 =>
        if p2 = (-1 : Int32) then (
          (
            if p3 = 0 then (
              (ld M4 36 (p1 - (1 : Int32))).bind fun v7 =>
              some v7
            ) else (
              if p3 = (1 : Int32) then (
                some (gF M4 51)
              ) else (
                some (-1 : Int32)
              )
            )
          ).bind fun v5 =>
          some (v5, M4)
        ) else (
          some (v3, M4)
        )
      ) else (
        some ((-1 : Int32), M)
      )
    )
  )
theorem hd12_row : yX12_row.cls = "FarEditorsModel" ∧ yX12_row.cls ≠ "java/lang/invoke/MethodHandle" ∧ yX12_row.cls ≠ "java/lang/invoke/VarHandle" ∧ (parseMethodDescriptor yX12_row.desc).map (fun d => d.parameters.length) = some 3 := by decide +kernel
set_option maxHeartbeats 4000000 in
set_option maxRecDepth 100000 in
theorem c12_row (l : Launch) (D : va_G) (h : Nat) (q : Nat → Nat) (y : CyT) (zM uM z u : Nat) {M M' : MS} {p1 : Int32} {p2 : Int32} {p3 : Int32} {r : Int32} (hf : f12_row M p1 p2 p3 = some (r, M')) : CT l D y yX12_row cX12_row 5 (some .int) 2 50 zM uM [.ref h, .int p1, .int p2, .int p3] z u (mw h q y M) z u (mw h q y M') (some (.int r)) := by
  refine CT.of (by decide) (Nat.le_of_ble_eq_true rfl) (fun E hc hzz hnm => ?_)
  have hc : Cx E "FarEditorsModel" cX12_row 5 := hc
  have hz := hzz.1
  have hT := hz.2.2.1
  show V E z u (mw h q y M) 0 [(0, .ref h), (1, .int p1), (2, .int p2), (3, .int p3)] []
  unfold f12_row at hf
  refine V_aload_n hc dX12_row_0 rfl 0 rfl ?_
  refine V_iload_n hc dX12_row_1 rfl 1 rfl ?_
  obtain ⟨v1, hv1, hf⟩ := mb hf
  refine R_callVi hc hz (As := [.int p1]) (c12_isOpOfRow l D h q y _ _ _ _ hv1) w8_115 w8_117 wp8_1 w1_13 w8_118 hd12_isOpOfRow ⟨Nat.le_of_ble_eq_true rfl, Nat.le_of_ble_eq_true rfl⟩ rfl rfl (Nat.le_of_ble_eq_true rfl) dX12_row_2 ?_
  refine V_if_eq hc dX12_row_5 rfl (fun hq5 => ?_) (fun hq5 => ?_)
  · rw [if_pos hq5] at hf
    refine V_iconst hc (v := (-1 : Int32)) dX12_row_17 rfl ?_
    obtain ⟨rfl, rfl⟩ := si2 hf
    exact V_iret hc hzz rfl rfl rfl rfl rfl dX12_row_18
  · rw [if_neg hq5] at hf
    refine V_iload_n hc dX12_row_8 rfl 2 rfl ?_
    refine V_iconst hc (v := (-1 : Int32)) dX12_row_9 rfl ?_
    refine V_icmp_lt hc dX12_row_10 rfl (fun hq10 => ?_) (fun hq10 => ?_)
    · rw [if_pos hq10] at hf
      refine V_iconst hc (v := (-1 : Int32)) dX12_row_17 rfl ?_
      obtain ⟨rfl, rfl⟩ := si2 hf
      exact V_iret hc hzz rfl rfl rfl rfl rfl dX12_row_18
    · rw [if_neg hq10] at hf
      refine V_iload_n hc dX12_row_13 rfl 3 rfl ?_
      refine V_if_ge hc dX12_row_14 rfl (fun hq14 => ?_) (fun hq14 => ?_)
      · rw [if_pos hq14] at hf
        refine V_aload_n hc dX12_row_19 rfl 0 rfl ?_
        refine V_iload_n hc dX12_row_20 rfl 1 rfl ?_
        refine V_iconst hc (v := (1 : Int32)) dX12_row_21 rfl ?_
        refine V_isub hc dX12_row_22 ?_
        obtain ⟨M2, hM2, hf⟩ := mb hf
        refine R_callVv hc hz (As := [.int (p1 - (1 : Int32))]) (c12_opToA l D h q y _ _ _ _ hM2) w8_119 w8_121 wp8_2 w1_13 w8_122 hd12_opToA ⟨Nat.le_of_ble_eq_true rfl, Nat.le_of_ble_eq_true rfl⟩ rfl rfl (Nat.le_of_ble_eq_true rfl) dX12_row_23 ?_
        refine V_aload_n hc dX12_row_26 rfl 0 rfl ?_
        refine V_iload_n hc dX12_row_27 rfl 2 rfl ?_
        refine V_iload_n hc dX12_row_28 rfl 3 rfl ?_
        obtain ⟨v3, M4, hv3, hf⟩ := mb2 hf
        refine R_callVi hc hz (As := [.int p2, .int p3]) (c12_stepOfA l D h q y _ _ _ _ hv3) w8_104 w8_106 wp8_0 w1_13 w8_107 hd12_stepOfA ⟨Nat.le_of_ble_eq_true rfl, Nat.le_of_ble_eq_true rfl⟩ rfl rfl (Nat.le_of_ble_eq_true rfl) dX12_row_29 ?_
        refine V_istore hc dX12_row_32 (by decide) rfl ?_
        refine V_iload_n hc dX12_row_34 rfl 3 rfl ?_
        refine V_iconst hc (v := (-1 : Int32)) dX12_row_35 rfl ?_
        refine V_icmp_eq hc dX12_row_36 rfl (fun hq36 => ?_) (fun hq36 => ?_)
        · rw [if_pos hq36] at hf
          refine V_iload_n hc dX12_row_42 rfl 4 rfl ?_
          obtain ⟨v5, hv6, hf⟩ := mb hf
          have hJ43 : V E z u (mw h q y M4) 70 [] [.int v5] := by
            obtain ⟨rfl, rfl⟩ := si2 hf
            exact V_iret hc hzz rfl rfl rfl rfl rfl dX12_row_70
          refine V_if_ne hc dX12_row_43 rfl (fun hq43 => ?_) (fun hq43 => ?_)
          · rw [if_neg hq43] at hv6
            refine V_iload_n hc dX12_row_57 rfl 4 rfl ?_
            refine V_iconst hc (v := (1 : Int32)) dX12_row_58 rfl ?_
            refine V_icmp_ne hc dX12_row_59 rfl (fun hq59 => ?_) (fun hq59 => ?_)
            · rw [if_neg hq59] at hv6
              refine V_iconst hc (v := (-1 : Int32)) dX12_row_69 rfl ?_
              obtain rfl := Option.some.inj hv6
              exact V_sub [] rfl hJ43
            · rw [if_pos hq59] at hv6
              refine V_aload_n hc dX12_row_62 rfl 1 rfl ?_
              refine R_geti hc 51 rfl (by decide) w6_109 dX12_row_63 ?_
              refine V_goto hc dX12_row_66 rfl ?_
              obtain rfl := Option.some.inj hv6
              exact V_sub [] rfl hJ43
          · rw [if_pos hq43] at hv6
            refine V_aload_n hc dX12_row_46 rfl 1 rfl ?_
            refine R_getr hc 36 rfl (by decide) w6_94 dX12_row_47 ?_
            refine V_iload_n hc dX12_row_50 rfl 2 rfl ?_
            refine V_iconst hc (v := (1 : Int32)) dX12_row_51 rfl ?_
            refine V_isub hc dX12_row_52 ?_
            obtain ⟨v7, hv7, hv6⟩ := mb hv6
            refine R_iald hc hT rfl hv7 dX12_row_53 ?_
            refine V_goto hc dX12_row_54 rfl ?_
            obtain rfl := Option.some.inj hv6
            exact V_sub [] rfl hJ43
        · rw [if_neg hq36] at hf
          refine V_iload hc dX12_row_39 0 rfl ?_
          obtain ⟨rfl, rfl⟩ := si2 hf
          exact V_iret hc hzz rfl rfl rfl rfl rfl dX12_row_41
      · rw [if_neg hq14] at hf
        refine V_iconst hc (v := (-1 : Int32)) dX12_row_17 rfl ?_
        obtain ⟨rfl, rfl⟩ := si2 hf
        exact V_iret hc hzz rfl rfl rfl rfl rfl dX12_row_18
noncomputable def f12_mark (M : MS) (p1 : Int32) (p2 : Int32) (p3 : Int32) : Option (Int32) :=
  (f12_isEditor M p1).bind fun v1 =>
  if v1 = 0 then (
    some (-1 : Int32)
  ) else (
    (f12_its M p1 (2 : Int32)).bind fun v2 =>
    (f12_isIn p2.toInt64 (0 : Int64) (v2 - (1 : Int32)).toInt64).bind fun v3 =>
    if v3 = 0 then (
      some (-1 : Int32)
    ) else (
      (f12_isIn p3.toInt64 (0 : Int64) (2 : Int64)).bind fun v4 =>
      if v4 = 0 then (
        some (-1 : Int32)
      ) else (
        (f12_of p1 (((3 : Int32) + ((3 : Int32) * p2)) + p3)).bind fun v5 =>
        (ld M 30 v5).bind fun v6 =>
        some v6
      )
    )
  )
theorem hd12_mark : yX12_mark.cls = "FarEditorsModel" ∧ yX12_mark.cls ≠ "java/lang/invoke/MethodHandle" ∧ yX12_mark.cls ≠ "java/lang/invoke/VarHandle" ∧ (parseMethodDescriptor yX12_mark.desc).map (fun d => d.parameters.length) = some 3 := by decide +kernel
set_option maxHeartbeats 4000000 in
set_option maxRecDepth 100000 in
theorem c12_mark (l : Launch) (D : va_G) (h : Nat) (q : Nat → Nat) (y : CyT) (zM uM z u : Nat) {M : MS} {p1 : Int32} {p2 : Int32} {p3 : Int32} {r : Int32} (hf : f12_mark M p1 p2 p3 = some r) : CT l D y yX12_mark cX12_mark 4 (some .int) 2 46 zM uM [.ref h, .int p1, .int p2, .int p3] z u (mw h q y M) z u (mw h q y M) (some (.int r)) := by
  refine CT.of (by decide) (Nat.le_of_ble_eq_true rfl) (fun E hc hzz hnm => ?_)
  have hc : Cx E "FarEditorsModel" cX12_mark 4 := hc
  have hz := hzz.1
  have hT := hz.2.2.1
  show V E z u (mw h q y M) 0 [(0, .ref h), (1, .int p1), (2, .int p2), (3, .int p3)] []
  unfold f12_mark at hf
  refine V_aload_n hc dX12_mark_0 rfl 0 rfl ?_
  refine V_iload_n hc dX12_mark_1 rfl 1 rfl ?_
  obtain ⟨v1, hv1, hf⟩ := mb hf
  refine R_callVi hc hz (As := [.int p1]) (c12_isEditor l D h q y _ _ _ _ hv1) w8_80 w8_82 wp7_13 w1_13 w8_83 hd12_isEditor ⟨Nat.le_of_ble_eq_true rfl, Nat.le_of_ble_eq_true rfl⟩ rfl rfl (Nat.le_of_ble_eq_true rfl) dX12_mark_2 ?_
  refine V_if_eq hc dX12_mark_5 rfl (fun hq5 => ?_) (fun hq5 => ?_)
  · rw [if_pos hq5] at hf
    refine V_iconst hc (v := (-1 : Int32)) dX12_mark_38 rfl ?_
    obtain rfl := Option.some.inj hf
    exact V_iret hc hzz rfl rfl rfl rfl rfl dX12_mark_39
  · rw [if_neg hq5] at hf
    refine V_iload_n hc dX12_mark_8 rfl 2 rfl ?_
    refine V_i2l hc dX12_mark_9 ?_
    refine V_lconst hc (v := (0 : Int64)) dX12_mark_10 rfl ?_
    refine V_aload_n hc dX12_mark_11 rfl 0 rfl ?_
    refine V_iload_n hc dX12_mark_12 rfl 1 rfl ?_
    refine V_iconst hc (v := (2 : Int32)) dX12_mark_13 rfl ?_
    obtain ⟨v2, hv2, hf⟩ := mb hf
    refine R_callVi hc hz (As := [.int p1, .int (2 : Int32)]) (c12_its l D h q y _ _ _ _ hv2) w7_142 w7_144 wp5_7 w1_13 w7_145 hd12_its ⟨Nat.le_of_ble_eq_true rfl, Nat.le_of_ble_eq_true rfl⟩ rfl rfl (Nat.le_of_ble_eq_true rfl) dX12_mark_14 ?_
    refine V_iconst hc (v := (1 : Int32)) dX12_mark_17 rfl ?_
    refine V_isub hc dX12_mark_18 ?_
    refine V_i2l hc dX12_mark_19 ?_
    obtain ⟨v3, hv3, hf⟩ := mb hf
    refine R_callSi hc hz (As := [.long p2.toInt64, .long (0 : Int64), .long (v2 - (1 : Int32)).toInt64]) (c12_isIn l D h q y _ _ _ _ hv3) w7_34 w7_35 w1_13 w7_36 hd12_isIn ⟨Nat.le_of_ble_eq_true rfl, Nat.le_of_ble_eq_true rfl⟩ rfl rfl (Nat.le_of_ble_eq_true rfl) dX12_mark_20 ?_
    refine V_if_eq hc dX12_mark_23 rfl (fun hq23 => ?_) (fun hq23 => ?_)
    · rw [if_pos hq23] at hf
      refine V_iconst hc (v := (-1 : Int32)) dX12_mark_38 rfl ?_
      obtain rfl := Option.some.inj hf
      exact V_iret hc hzz rfl rfl rfl rfl rfl dX12_mark_39
    · rw [if_neg hq23] at hf
      refine V_iload_n hc dX12_mark_26 rfl 3 rfl ?_
      refine V_i2l hc dX12_mark_27 ?_
      refine V_lconst hc (v := (0 : Int64)) dX12_mark_28 rfl ?_
      refine V_ldc2 hc w8_127 dX12_mark_29 ?_
      obtain ⟨v4, hv4, hf⟩ := mb hf
      refine R_callSi hc hz (As := [.long p3.toInt64, .long (0 : Int64), .long (2 : Int64)]) (c12_isIn l D h q y _ _ _ _ hv4) w7_34 w7_35 w1_13 w7_36 hd12_isIn ⟨Nat.le_of_ble_eq_true rfl, Nat.le_of_ble_eq_true rfl⟩ rfl rfl (Nat.le_of_ble_eq_true rfl) dX12_mark_32 ?_
      refine V_if_ne hc dX12_mark_35 rfl (fun hq35 => ?_) (fun hq35 => ?_)
      · rw [if_neg hq35] at hf
        refine V_aload_n hc dX12_mark_40 rfl 0 rfl ?_
        refine R_getr hc 30 rfl (by decide) w6_88 dX12_mark_41 ?_
        refine V_iload_n hc dX12_mark_44 rfl 1 rfl ?_
        refine V_iconst hc (v := (3 : Int32)) dX12_mark_45 rfl ?_
        refine V_iconst hc (v := (3 : Int32)) dX12_mark_46 rfl ?_
        refine V_iload_n hc dX12_mark_47 rfl 2 rfl ?_
        refine V_imul hc dX12_mark_48 ?_
        refine V_iadd hc dX12_mark_49 ?_
        refine V_iload_n hc dX12_mark_50 rfl 3 rfl ?_
        refine V_iadd hc dX12_mark_51 ?_
        obtain ⟨v5, hv5, hf⟩ := mb hf
        refine R_callSi hc hz (As := [.int p1, .int (((3 : Int32) + ((3 : Int32) * p2)) + p3)]) (c12_of l D h q y _ _ _ _ hv5) w7_123 w7_124 w1_13 w7_125 hd12_of ⟨Nat.le_of_ble_eq_true rfl, Nat.le_of_ble_eq_true rfl⟩ rfl rfl (Nat.le_of_ble_eq_true rfl) dX12_mark_52 ?_
        obtain ⟨v6, hv6, hf⟩ := mb hf
        refine R_iald hc hT rfl hv6 dX12_mark_55 ?_
        obtain rfl := Option.some.inj hf
        exact V_iret hc hzz rfl rfl rfl rfl rfl dX12_mark_56
      · rw [if_pos hq35] at hf
        refine V_iconst hc (v := (-1 : Int32)) dX12_mark_38 rfl ?_
        obtain rfl := Option.some.inj hf
        exact V_iret hc hzz rfl rfl rfl rfl rfl dX12_mark_39
