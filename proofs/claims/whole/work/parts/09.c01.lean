noncomputable def f4_begin (X : Nat × Nat) (S : CS) (h : Nat) (p1 : Int32) : Option (CS) :=
  (gr S 4 h 0).bind fun a1 =>
  (aln S 14 a1).bind fun v2 =>
  (
    if p1 ≤ v2 then (
      some S
    ) else (
      (gr S 4 h 0).bind fun a5 =>
      (aln S 14 a5).bind fun v6 =>
      (nwa X S 14 (if p1 < ((2 : Int32) * v6) then ((2 : Int32) * v6) else p1)).bind fun S7 =>
      (pr S7 4 h 0 (cZ S)).bind fun S8 =>
      some S8
    )
  ).bind fun S3 =>
  (pi S3 4 h 1 (0 : Int32)).bind fun S9 =>
  some S9
theorem hdX_X4_begin : yX4_begin.cls = "FarEditors$Op" ∧ yX4_begin.cls ≠ "java/lang/invoke/MethodHandle" ∧ yX4_begin.cls ≠ "java/lang/invoke/VarHandle" ∧ (parseMethodDescriptor yX4_begin.desc).map (fun d => d.parameters.length) = some 1 := by decide +kernel
set_option maxHeartbeats 4000000 in
set_option maxRecDepth 100000 in
theorem c4_begin (l : Launch) (D : va_G) (y : CyT) (X : Nat × Nat) (hX : X.2 ≤ 100000000) {S S' : CS} {h : Nat} {p1 : Int32} (hf : f4_begin X S h p1 = some S') : CT l D y yX4_begin cX4_begin 2 none 1 21 X.1 X.2 [.ref h, .int p1] (cZ S) (cU S) (cw y S) (cZ S') (cU S') (cw y S') none := by
  refine CT.of (by decide) (Nat.le_of_ble_eq_true rfl) (fun E hc hzz hnm => ?_)
  have hc : Cx E "FarEditors$Op" cX4_begin 2 := hc
  have hz := hzz.1
  have hT := hz.2.2.1
  show V E (cZ S) (cU S) (cw y S) 0 [(0, .ref h), (1, .int p1)] []
  unfold f4_begin at hf
  refine V_iload_n hc dX4_begin_0 rfl 1 rfl ?_
  refine V_aload_n hc dX4_begin_1 rfl 0 rfl ?_
  obtain ⟨a1, ha1, hf⟩ := mb hf
  refine C_getr hc rfl iW4 (by decide) 0 (by decide) rfl ha1 w1_101 dX4_begin_2 ?_
  obtain ⟨v2, hv2, hf⟩ := mb hf
  refine C_alen hc hT hv2 dX4_begin_5 ?_
  obtain ⟨S3, hv4, hf⟩ := mb hf
  have hJ6 : V E (cZ S3) (cU S3) (cw y S3) 26 [(0, .ref h)] [] := by
    refine V_aload_n hc dX4_begin_26 rfl 0 rfl ?_
    refine V_iconst hc (v := (0 : Int32)) dX4_begin_27 rfl ?_
    obtain ⟨S9, hS9, hf⟩ := mb hf
    refine C_puti hc rfl iW4 tyX4 tyX4_ok nmX4 (by decide) 1 (by decide) rfl hS9 w1_105 rfl rfl rfl dX4_begin_28 ?_
    obtain rfl := Option.some.inj hf
    exact V_vret hc hzz rfl rfl rfl rfl dX4_begin_31
  refine V_icmp_le hc dX4_begin_6 rfl (fun hq6 => ?_) (fun hq6 => ?_)
  · rw [if_pos hq6] at hv4
    obtain rfl := Option.some.inj hv4
    exact V_sub [0] rfl hJ6
  · rw [if_neg hq6] at hv4
    refine V_aload_n hc dX4_begin_9 rfl 0 rfl ?_
    refine V_iload_n hc dX4_begin_10 rfl 1 rfl ?_
    refine V_iconst hc (v := (2 : Int32)) dX4_begin_11 rfl ?_
    refine V_aload_n hc dX4_begin_12 rfl 0 rfl ?_
    obtain ⟨a5, ha5, hv4⟩ := mb hv4
    refine C_getr hc rfl iW4 (by decide) 0 (by decide) rfl ha5 w1_101 dX4_begin_13 ?_
    obtain ⟨v6, hv6, hv4⟩ := mb hv4
    refine C_alen hc hT hv6 dX4_begin_16 ?_
    refine V_imul hc dX4_begin_17 ?_
    refine C_max hc hz w4_24 w4_25 w1_18 w4_26 ⟨(Nat.le_of_ble_eq_true rfl), (Nat.le_of_ble_eq_true rfl)⟩ (Nat.le_of_ble_eq_true rfl) dX4_begin_18 ?_
    obtain ⟨S7, hS7, hv4⟩ := mb hv4
    refine C_newi hc hz hS7 hX w1_82 dX4_begin_21 ?_
    obtain ⟨S8, hS8, hv4⟩ := mb hv4
    refine C_putr hc rfl iW4 tyX4 tyX4_ok nmX4 (by decide) 0 (by decide) rfl hS8 w1_101 rfl rfl rfl dX4_begin_23 ?_
    obtain rfl := Option.some.inj hv4
    exact V_sub [0] rfl hJ6
noncomputable def f5_pass (S : CS) (h : Nat) (p1 : Int32) : Option (CS) :=
  (gi S 5 h 3).bind fun v1 =>
  (pi S 5 h 3 (v1 - p1)).bind fun S2 =>
  (gi S2 5 h 3).bind fun v3 =>
  (
    if 0 < v3 then (
      some S2
    ) else (
      (gi S2 5 h 1).bind fun v6 =>
      (gi S2 5 h 1).bind fun v7 =>
      (gr S2 5 h 0).bind fun a8 =>
      (gi S2 4 a8 1).bind fun v9 =>
      (
        if v9 ≤ v7 then (
          some (0 : Int32)
        ) else (
          some (1 : Int32)
        )
      ).bind fun v10 =>
      (pi S2 5 h 1 (v6 + v10)).bind fun S12 =>
      (gi S12 5 h 1).bind fun v13 =>
      (gr S12 5 h 0).bind fun a14 =>
      (gi S12 4 a14 1).bind fun v15 =>
      (
        if v15 ≤ v13 then (
          some (0 : Int32)
        ) else (
          (gr S12 5 h 0).bind fun a18 =>
          (gr S12 4 a18 0).bind fun a19 =>
          (gi S12 5 h 1).bind fun v20 =>
          (ldi S12 a19 v20).bind fun v21 =>
          some v21
        )
      ).bind fun v16 =>
      (pi S12 5 h 2 v16).bind fun S22 =>
      (gi S22 5 h 2).bind fun v23 =>
      (
        if 0 ≤ v23 then (
          (gi S22 5 h 2).bind fun v26 =>
          if v26 ≤ (31 : Int32) then (
            (gi S22 5 h 2).bind fun v27 =>
            if v27 ≤ 0 then (
              some (0 : Int32)
            ) else (
              some (1 : Int32)
            )
          ) else (
            (gi S22 5 h 2).bind fun v28 =>
            some (v28 - (31 : Int32))
          )
        ) else (
          (gi S22 5 h 2).bind fun v29 =>
          some (-v29)
        )
      ).bind fun v24 =>
      (pi S22 5 h 3 v24).bind fun S30 =>
      some S30
    )
  ).bind fun S4 =>
  some S4
theorem hdX_X5_pass : yX5_pass.cls = "FarEditors$Reader" ∧ yX5_pass.cls ≠ "java/lang/invoke/MethodHandle" ∧ yX5_pass.cls ≠ "java/lang/invoke/VarHandle" ∧ (parseMethodDescriptor yX5_pass.desc).map (fun d => d.parameters.length) = some 1 := by decide +kernel
set_option maxHeartbeats 4000000 in
set_option maxRecDepth 100000 in
theorem c5_pass (l : Launch) (D : va_G) (y : CyT) (zM uM : Nat) {S S' : CS} {h : Nat} {p1 : Int32} (hf : f5_pass S h p1 = some S') : CT l D y yX5_pass cX5_pass 2 none 0 0 zM uM [.ref h, .int p1] (cZ S) (cU S) (cw y S) (cZ S') (cU S') (cw y S') none := by
  refine CT.of (by decide) (Nat.le_of_ble_eq_true rfl) (fun E hc hzz hnm => ?_)
  have hc : Cx E "FarEditors$Reader" cX5_pass 2 := hc
  have hz := hzz.1
  have hT := hz.2.2.1
  show V E (cZ S) (cU S) (cw y S) 0 [(0, .ref h), (1, .int p1)] []
  unfold f5_pass at hf
  refine V_aload_n hc dX5_pass_0 rfl 0 rfl ?_
  refine V_dup hc dX5_pass_1 rfl ?_
  obtain ⟨v1, hv1, hf⟩ := mb hf
  refine C_geti hc rfl iW5 (by decide) 3 (by decide) rfl hv1 w1_118 dX5_pass_2 ?_
  refine V_iload_n hc dX5_pass_5 rfl 1 rfl ?_
  refine V_isub hc dX5_pass_6 ?_
  obtain ⟨S2, hS2, hf⟩ := mb hf
  refine C_puti hc rfl iW5 tyX5 tyX5_ok nmX5 (by decide) 3 (by decide) rfl hS2 w1_118 rfl rfl rfl dX5_pass_7 ?_
  refine V_aload_n hc dX5_pass_10 rfl 0 rfl ?_
  obtain ⟨v3, hv3, hf⟩ := mb hf
  refine C_geti hc rfl iW5 (by decide) 3 (by decide) rfl hv3 w1_118 dX5_pass_11 ?_
  obtain ⟨S4, hv5, hf⟩ := mb hf
  have hJ14 : V E (cZ S4) (cU S4) (cw y S4) 129 [] [] := by
    obtain rfl := Option.some.inj hf
    exact V_vret hc hzz rfl rfl rfl rfl dX5_pass_129
  refine V_if_gt hc dX5_pass_14 rfl (fun hq14 => ?_) (fun hq14 => ?_)
  · rw [if_pos hq14] at hv5
    obtain rfl := Option.some.inj hv5
    exact V_sub [] rfl hJ14
  · rw [if_neg hq14] at hv5
    refine V_aload_n hc dX5_pass_17 rfl 0 rfl ?_
    refine V_dup hc dX5_pass_18 rfl ?_
    obtain ⟨v6, hv6, hv5⟩ := mb hv5
    refine C_geti hc rfl iW5 (by decide) 1 (by decide) rfl hv6 w1_115 dX5_pass_19 ?_
    refine V_aload_n hc dX5_pass_22 rfl 0 rfl ?_
    obtain ⟨v7, hv7, hv5⟩ := mb hv5
    refine C_geti hc rfl iW5 (by decide) 1 (by decide) rfl hv7 w1_115 dX5_pass_23 ?_
    refine V_aload_n hc dX5_pass_26 rfl 0 rfl ?_
    obtain ⟨a8, ha8, hv5⟩ := mb hv5
    refine C_getr hc rfl iW5 (by decide) 0 (by decide) rfl ha8 w1_114 dX5_pass_27 ?_
    obtain ⟨v9, hv9, hv5⟩ := mb hv5
    refine C_geti hc rfl iW4 (by decide) 1 (by decide) rfl hv9 w1_107 dX5_pass_30 ?_
    obtain ⟨v10, hv11, hv5⟩ := mb hv5
    have hJ33 : V E (cZ S2) (cU S2) (cw y S2) 41 [(0, .ref h)] [.int v10, .int v6, .ref h] := by
      refine V_iadd hc dX5_pass_41 ?_
      obtain ⟨S12, hS12, hv5⟩ := mb hv5
      refine C_puti hc rfl iW5 tyX5 tyX5_ok nmX5 (by decide) 1 (by decide) rfl hS12 w1_115 rfl rfl rfl dX5_pass_42 ?_
      refine V_aload_n hc dX5_pass_45 rfl 0 rfl ?_
      refine V_aload_n hc dX5_pass_46 rfl 0 rfl ?_
      obtain ⟨v13, hv13, hv5⟩ := mb hv5
      refine C_geti hc rfl iW5 (by decide) 1 (by decide) rfl hv13 w1_115 dX5_pass_47 ?_
      refine V_aload_n hc dX5_pass_50 rfl 0 rfl ?_
      obtain ⟨a14, ha14, hv5⟩ := mb hv5
      refine C_getr hc rfl iW5 (by decide) 0 (by decide) rfl ha14 w1_114 dX5_pass_51 ?_
      obtain ⟨v15, hv15, hv5⟩ := mb hv5
      refine C_geti hc rfl iW4 (by decide) 1 (by decide) rfl hv15 w1_107 dX5_pass_54 ?_
      obtain ⟨v16, hv17, hv5⟩ := mb hv5
      have hJ57 : V E (cZ S12) (cU S12) (cw y S12) 76 [(0, .ref h)] [.int v16, .ref h] := by
        obtain ⟨S22, hS22, hv5⟩ := mb hv5
        refine C_puti hc rfl iW5 tyX5 tyX5_ok nmX5 (by decide) 2 (by decide) rfl hS22 w1_116 rfl rfl rfl dX5_pass_76 ?_
        refine V_aload_n hc dX5_pass_79 rfl 0 rfl ?_
        refine V_aload_n hc dX5_pass_80 rfl 0 rfl ?_
        obtain ⟨v23, hv23, hv5⟩ := mb hv5
        refine C_geti hc rfl iW5 (by decide) 2 (by decide) rfl hv23 w1_116 dX5_pass_81 ?_
        obtain ⟨v24, hv25, hv5⟩ := mb hv5
        have hJ84 : V E (cZ S22) (cU S22) (cw y S22) 126 [] [.int v24, .ref h] := by
          obtain ⟨S30, hS30, hv5⟩ := mb hv5
          refine C_puti hc rfl iW5 tyX5 tyX5_ok nmX5 (by decide) 3 (by decide) rfl hS30 w1_118 rfl rfl rfl dX5_pass_126 ?_
          obtain rfl := Option.some.inj hv5
          exact V_sub [] rfl hJ14
        refine V_if_ge hc dX5_pass_84 rfl (fun hq84 => ?_) (fun hq84 => ?_)
        · rw [if_pos hq84] at hv25
          refine V_aload_n hc dX5_pass_95 rfl 0 rfl ?_
          obtain ⟨v26, hv26, hv25⟩ := mb hv25
          refine C_geti hc rfl iW5 (by decide) 2 (by decide) rfl hv26 w1_116 dX5_pass_96 ?_
          refine V_bipush hc (v := (31 : Int32)) dX5_pass_99 rfl ?_
          refine V_icmp_le hc dX5_pass_101 rfl (fun hq101 => ?_) (fun hq101 => ?_)
          · rw [if_pos hq101] at hv25
            refine V_aload_n hc dX5_pass_114 rfl 0 rfl ?_
            obtain ⟨v27, hv27, hv25⟩ := mb hv25
            refine C_geti hc rfl iW5 (by decide) 2 (by decide) rfl hv27 w1_116 dX5_pass_115 ?_
            refine V_if_le hc dX5_pass_118 rfl (fun hq118 => ?_) (fun hq118 => ?_)
            · rw [if_pos hq118] at hv25
              refine V_iconst hc (v := (0 : Int32)) dX5_pass_125 rfl ?_
              obtain rfl := Option.some.inj hv25
              exact V_sub [] rfl hJ84
            · rw [if_neg hq118] at hv25
              refine V_iconst hc (v := (1 : Int32)) dX5_pass_121 rfl ?_
              refine V_goto hc dX5_pass_122 rfl ?_
              obtain rfl := Option.some.inj hv25
              exact V_sub [] rfl hJ84
          · rw [if_neg hq101] at hv25
            refine V_aload_n hc dX5_pass_104 rfl 0 rfl ?_
            obtain ⟨v28, hv28, hv25⟩ := mb hv25
            refine C_geti hc rfl iW5 (by decide) 2 (by decide) rfl hv28 w1_116 dX5_pass_105 ?_
            refine V_bipush hc (v := (31 : Int32)) dX5_pass_108 rfl ?_
            refine V_isub hc dX5_pass_110 ?_
            refine V_goto hc dX5_pass_111 rfl ?_
            obtain rfl := Option.some.inj hv25
            exact V_sub [] rfl hJ84
        · rw [if_neg hq84] at hv25
          refine V_aload_n hc dX5_pass_87 rfl 0 rfl ?_
          obtain ⟨v29, hv29, hv25⟩ := mb hv25
          refine C_geti hc rfl iW5 (by decide) 2 (by decide) rfl hv29 w1_116 dX5_pass_88 ?_
          refine V_ineg hc dX5_pass_91 ?_
          refine V_goto hc dX5_pass_92 rfl ?_
          obtain rfl := Option.some.inj hv25
          exact V_sub [] rfl hJ84
      refine V_icmp_ge hc dX5_pass_57 rfl (fun hq57 => ?_) (fun hq57 => ?_)
      · rw [if_pos hq57] at hv17
        refine V_iconst hc (v := (0 : Int32)) dX5_pass_75 rfl ?_
        obtain rfl := Option.some.inj hv17
        exact V_sub [0] rfl hJ57
      · rw [if_neg hq57] at hv17
        refine V_aload_n hc dX5_pass_60 rfl 0 rfl ?_
        obtain ⟨a18, ha18, hv17⟩ := mb hv17
        refine C_getr hc rfl iW5 (by decide) 0 (by decide) rfl ha18 w1_114 dX5_pass_61 ?_
        obtain ⟨a19, ha19, hv17⟩ := mb hv17
        refine C_getr hc rfl iW4 (by decide) 0 (by decide) rfl ha19 w1_103 dX5_pass_64 ?_
        refine V_aload_n hc dX5_pass_67 rfl 0 rfl ?_
        obtain ⟨v20, hv20, hv17⟩ := mb hv17
        refine C_geti hc rfl iW5 (by decide) 1 (by decide) rfl hv20 w1_115 dX5_pass_68 ?_
        obtain ⟨v21, hv21, hv17⟩ := mb hv17
        refine C_iald hc hT hv21 dX5_pass_71 ?_
        refine V_goto hc dX5_pass_72 rfl ?_
        obtain rfl := Option.some.inj hv17
        exact V_sub [0] rfl hJ57
    refine V_icmp_ge hc dX5_pass_33 rfl (fun hq33 => ?_) (fun hq33 => ?_)
    · rw [if_pos hq33] at hv11
      refine V_iconst hc (v := (0 : Int32)) dX5_pass_40 rfl ?_
      obtain rfl := Option.some.inj hv11
      exact V_sub [0] rfl hJ33
    · rw [if_neg hq33] at hv11
      refine V_iconst hc (v := (1 : Int32)) dX5_pass_36 rfl ?_
      refine V_goto hc dX5_pass_37 rfl ?_
      obtain rfl := Option.some.inj hv11
      exact V_sub [0] rfl hJ33
noncomputable def f5_open (S : CS) (h : Nat) (p1 : Nat) : Option (CS) :=
  (pr S 5 h 0 p1).bind fun S1 =>
  (pi S1 5 h 1 (-1 : Int32)).bind fun S2 =>
  (pi S2 5 h 3 (0 : Int32)).bind fun S3 =>
  (cal S3 5 h (f5_pass S3 h (0 : Int32))).bind fun S4 =>
  some S4
theorem hdX_X5_open : yX5_open.cls = "FarEditors$Reader" ∧ yX5_open.cls ≠ "java/lang/invoke/MethodHandle" ∧ yX5_open.cls ≠ "java/lang/invoke/VarHandle" ∧ (parseMethodDescriptor yX5_open.desc).map (fun d => d.parameters.length) = some 1 := by decide +kernel
set_option maxHeartbeats 4000000 in
set_option maxRecDepth 100000 in
theorem c5_open (l : Launch) (D : va_G) (y : CyT) (zM uM : Nat) {S S' : CS} {h : Nat} {p1 : Nat} (hf : f5_open S h p1 = some S') : CT l D y yX5_open cX5_open 2 none 1 21 zM uM [.ref h, .ref p1] (cZ S) (cU S) (cw y S) (cZ S') (cU S') (cw y S') none := by
  refine CT.of (by decide) (Nat.le_of_ble_eq_true rfl) (fun E hc hzz hnm => ?_)
  have hc : Cx E "FarEditors$Reader" cX5_open 2 := hc
  have hz := hzz.1
  have hT := hz.2.2.1
  show V E (cZ S) (cU S) (cw y S) 0 [(0, .ref h), (1, .ref p1)] []
  unfold f5_open at hf
  refine V_aload_n hc dX5_open_0 rfl 0 rfl ?_
  refine V_aload_n hc dX5_open_1 rfl 1 rfl ?_
  obtain ⟨S1, hS1, hf⟩ := mb hf
  refine C_putr hc rfl iW5 tyX5 tyX5_ok nmX5 (by decide) 0 (by decide) rfl hS1 w1_114 rfl rfl rfl dX5_open_2 ?_
  refine V_aload_n hc dX5_open_5 rfl 0 rfl ?_
  refine V_iconst hc (v := (-1 : Int32)) dX5_open_6 rfl ?_
  obtain ⟨S2, hS2, hf⟩ := mb hf
  refine C_puti hc rfl iW5 tyX5 tyX5_ok nmX5 (by decide) 1 (by decide) rfl hS2 w1_115 rfl rfl rfl dX5_open_7 ?_
  refine V_aload_n hc dX5_open_10 rfl 0 rfl ?_
  refine V_iconst hc (v := (0 : Int32)) dX5_open_11 rfl ?_
  obtain ⟨S3, hS3, hf⟩ := mb hf
  refine C_puti hc rfl iW5 tyX5 tyX5_ok nmX5 (by decide) 3 (by decide) rfl hS3 w1_118 rfl rfl rfl dX5_open_12 ?_
  refine V_aload_n hc dX5_open_15 rfl 0 rfl ?_
  refine V_iconst hc (v := (0 : Int32)) dX5_open_16 rfl ?_
  obtain ⟨S4, hS4, hf⟩ := mb hf
  obtain ⟨hkS4, hS4⟩ := og hS4
  refine C_callV hc hz (As := [.int (0 : Int32)]) hkS4 (by decide) (c5_pass l D y _ _ hS4) w4_31 w4_32 w4_33 w1_4 w4_34 hdX_X5_pass ⟨(Nat.le_of_ble_eq_true rfl), (Nat.le_of_ble_eq_true rfl)⟩ rfl rfl rfl (Nat.le_of_ble_eq_true rfl) dX5_open_17 ?_
  obtain rfl := Option.some.inj hf
  exact V_vret hc hzz rfl rfl rfl rfl dX5_open_20
noncomputable def f5_isAtPut (S : CS) (h : Nat) : Option (Int32) :=
  (gi S 5 h 2).bind fun v1 =>
  (
    if v1 ≤ 0 then (
      some (0 : Int32)
    ) else (
      (gi S 5 h 2).bind fun v4 =>
      if (31 : Int32) < v4 then (
        some (0 : Int32)
      ) else (
        some (1 : Int32)
      )
    )
  ).bind fun v2 =>
  (bz v2).bind fun v5 =>
  some v5
theorem hdX_X5_isAtPut : yX5_isAtPut.cls = "FarEditors$Reader" ∧ yX5_isAtPut.cls ≠ "java/lang/invoke/MethodHandle" ∧ yX5_isAtPut.cls ≠ "java/lang/invoke/VarHandle" ∧ (parseMethodDescriptor yX5_isAtPut.desc).map (fun d => d.parameters.length) = some 0 := by decide +kernel
set_option maxHeartbeats 4000000 in
set_option maxRecDepth 100000 in
theorem c5_isAtPut (l : Launch) (D : va_G) (y : CyT) (zM uM : Nat) {S : CS} {h : Nat} {r : Int32} (hf : f5_isAtPut S h = some r) : CT l D y yX5_isAtPut cX5_isAtPut 1 (some .boolean) 0 0 zM uM [.ref h] (cZ S) (cU S) (cw y S) (cZ S) (cU S) (cw y S) (some (.int r)) := by
  refine CT.of (by decide) (Nat.le_of_ble_eq_true rfl) (fun E hc hzz hnm => ?_)
  have hc : Cx E "FarEditors$Reader" cX5_isAtPut 1 := hc
  have hz := hzz.1
  have hT := hz.2.2.1
  show V E (cZ S) (cU S) (cw y S) 0 [(0, .ref h)] []
  unfold f5_isAtPut at hf
  refine V_aload_n hc dX5_isAtPut_0 rfl 0 rfl ?_
  obtain ⟨v1, hv1, hf⟩ := mb hf
  refine C_geti hc rfl iW5 (by decide) 2 (by decide) rfl hv1 w1_116 dX5_isAtPut_1 ?_
  obtain ⟨v2, hv3, hf⟩ := mb hf
  have hJ4 : V E (cZ S) (cU S) (cw y S) 21 [] [.int v2] := by
    obtain ⟨v5, hv5, hf⟩ := mb hf
    obtain ⟨hbv5, rfl⟩ := bz_some hv5
    obtain rfl := Option.some.inj hf
    exact V_iret hc hzz (bz_nar hbv5) rfl rfl rfl rfl dX5_isAtPut_21
  refine V_if_le hc dX5_isAtPut_4 rfl (fun hq4 => ?_) (fun hq4 => ?_)
  · rw [if_pos hq4] at hv3
    refine V_iconst hc (v := (0 : Int32)) dX5_isAtPut_20 rfl ?_
    obtain rfl := Option.some.inj hv3
    exact V_sub [] rfl hJ4
  · rw [if_neg hq4] at hv3
    refine V_aload_n hc dX5_isAtPut_7 rfl 0 rfl ?_
    obtain ⟨v4, hv4, hv3⟩ := mb hv3
    refine C_geti hc rfl iW5 (by decide) 2 (by decide) rfl hv4 w1_116 dX5_isAtPut_8 ?_
    refine V_bipush hc (v := (31 : Int32)) dX5_isAtPut_11 rfl ?_
    refine V_icmp_gt hc dX5_isAtPut_13 rfl (fun hq13 => ?_) (fun hq13 => ?_)
    · rw [if_pos hq13] at hv3
      refine V_iconst hc (v := (0 : Int32)) dX5_isAtPut_20 rfl ?_
      obtain rfl := Option.some.inj hv3
      exact V_sub [] rfl hJ4
    · rw [if_neg hq13] at hv3
      refine V_iconst hc (v := (1 : Int32)) dX5_isAtPut_16 rfl ?_
      refine V_goto hc dX5_isAtPut_17 rfl ?_
      obtain rfl := Option.some.inj hv3
      exact V_sub [] rfl hJ4
noncomputable def f4_addPut (S : CS) (h : Nat) (p1 : Int32) : Option (CS) :=
  (gi S 4 h 1).bind fun v1 =>
  (gr S 4 h 0).bind fun a2 =>
  (aln S 14 a2).bind fun v3 =>
  if v1 < v3 then (
    (gr S 4 h 0).bind fun a4 =>
    (gi S 4 h 1).bind fun v5 =>
    (sti S a4 v5 p1).bind fun S6 =>
    (gi S6 4 h 1).bind fun v7 =>
    (
      if v7 ≤ 0 then (
        some S6
      ) else (
        (gr S6 4 h 0).bind fun a10 =>
        (gi S6 4 h 1).bind fun v11 =>
        (ldi S6 a10 (v11 - (1 : Int32))).bind fun v12 =>
        if 0 ≤ v12 then (
          some S6
        ) else (
          (gr S6 4 h 0).bind fun a13 =>
          (gi S6 4 h 1).bind fun v14 =>
          (gr S6 4 h 0).bind fun a15 =>
          (gi S6 4 h 1).bind fun v16 =>
          (ldi S6 a15 (v16 - (1 : Int32))).bind fun v17 =>
          (sti S6 a13 v14 v17).bind fun S18 =>
          (gr S18 4 h 0).bind fun a19 =>
          (gi S18 4 h 1).bind fun v20 =>
          (sti S18 a19 (v20 - (1 : Int32)) p1).bind fun S21 =>
          some S21
        )
      )
    ).bind fun S8 =>
    (gi S8 4 h 1).bind fun v22 =>
    (pi S8 4 h 1 (v22 + (1 : Int32))).bind fun S23 =>
    some S23
  ) else (
    some S
  )
theorem hdX_X4_addPut : yX4_addPut.cls = "FarEditors$Op" ∧ yX4_addPut.cls ≠ "java/lang/invoke/MethodHandle" ∧ yX4_addPut.cls ≠ "java/lang/invoke/VarHandle" ∧ (parseMethodDescriptor yX4_addPut.desc).map (fun d => d.parameters.length) = some 1 := by decide +kernel
set_option maxHeartbeats 4000000 in
set_option maxRecDepth 100000 in
theorem c4_addPut (l : Launch) (D : va_G) (y : CyT) (zM uM : Nat) {S S' : CS} {h : Nat} {p1 : Int32} (hf : f4_addPut S h p1 = some S') : CT l D y yX4_addPut cX4_addPut 2 none 0 0 zM uM [.ref h, .int p1] (cZ S) (cU S) (cw y S) (cZ S') (cU S') (cw y S') none := by
  refine CT.of (by decide) (Nat.le_of_ble_eq_true rfl) (fun E hc hzz hnm => ?_)
  have hc : Cx E "FarEditors$Op" cX4_addPut 2 := hc
  have hz := hzz.1
  have hT := hz.2.2.1
  show V E (cZ S) (cU S) (cw y S) 0 [(0, .ref h), (1, .int p1)] []
  unfold f4_addPut at hf
  refine V_aload_n hc dX4_addPut_0 rfl 0 rfl ?_
  obtain ⟨v1, hv1, hf⟩ := mb hf
  refine C_geti hc rfl iW4 (by decide) 1 (by decide) rfl hv1 w1_105 dX4_addPut_1 ?_
  refine V_aload_n hc dX4_addPut_4 rfl 0 rfl ?_
  obtain ⟨a2, ha2, hf⟩ := mb hf
  refine C_getr hc rfl iW4 (by decide) 0 (by decide) rfl ha2 w1_101 dX4_addPut_5 ?_
  obtain ⟨v3, hv3, hf⟩ := mb hf
  refine C_alen hc hT hv3 dX4_addPut_8 ?_
  refine V_icmp_lt hc dX4_addPut_9 rfl (fun hq9 => ?_) (fun hq9 => ?_)
  · rw [if_pos hq9] at hf
    refine V_aload_n hc dX4_addPut_13 rfl 0 rfl ?_
    obtain ⟨a4, ha4, hf⟩ := mb hf
    refine C_getr hc rfl iW4 (by decide) 0 (by decide) rfl ha4 w1_101 dX4_addPut_14 ?_
    refine V_aload_n hc dX4_addPut_17 rfl 0 rfl ?_
    obtain ⟨v5, hv5, hf⟩ := mb hf
    refine C_geti hc rfl iW4 (by decide) 1 (by decide) rfl hv5 w1_105 dX4_addPut_18 ?_
    refine V_iload_n hc dX4_addPut_21 rfl 1 rfl ?_
    obtain ⟨S6, hS6, hf⟩ := mb hf
    refine C_iast hc hT hS6 dX4_addPut_22 ?_
    refine V_aload_n hc dX4_addPut_23 rfl 0 rfl ?_
    obtain ⟨v7, hv7, hf⟩ := mb hf
    refine C_geti hc rfl iW4 (by decide) 1 (by decide) rfl hv7 w1_105 dX4_addPut_24 ?_
    obtain ⟨S8, hv9, hf⟩ := mb hf
    have hJ27 : V E (cZ S8) (cU S8) (cw y S8) 76 [(0, .ref h)] [] := by
      refine V_aload_n hc dX4_addPut_76 rfl 0 rfl ?_
      refine V_dup hc dX4_addPut_77 rfl ?_
      obtain ⟨v22, hv22, hf⟩ := mb hf
      refine C_geti hc rfl iW4 (by decide) 1 (by decide) rfl hv22 w1_105 dX4_addPut_78 ?_
      refine V_iconst hc (v := (1 : Int32)) dX4_addPut_81 rfl ?_
      refine V_iadd hc dX4_addPut_82 ?_
      obtain ⟨S23, hS23, hf⟩ := mb hf
      refine C_puti hc rfl iW4 tyX4 tyX4_ok nmX4 (by decide) 1 (by decide) rfl hS23 w1_105 rfl rfl rfl dX4_addPut_83 ?_
      obtain rfl := Option.some.inj hf
      exact V_vret hc hzz rfl rfl rfl rfl dX4_addPut_86
    refine V_if_le hc dX4_addPut_27 rfl (fun hq27 => ?_) (fun hq27 => ?_)
    · rw [if_pos hq27] at hv9
      obtain rfl := Option.some.inj hv9
      exact V_sub [0] rfl hJ27
    · rw [if_neg hq27] at hv9
      refine V_aload_n hc dX4_addPut_30 rfl 0 rfl ?_
      obtain ⟨a10, ha10, hv9⟩ := mb hv9
      refine C_getr hc rfl iW4 (by decide) 0 (by decide) rfl ha10 w1_101 dX4_addPut_31 ?_
      refine V_aload_n hc dX4_addPut_34 rfl 0 rfl ?_
      obtain ⟨v11, hv11, hv9⟩ := mb hv9
      refine C_geti hc rfl iW4 (by decide) 1 (by decide) rfl hv11 w1_105 dX4_addPut_35 ?_
      refine V_iconst hc (v := (1 : Int32)) dX4_addPut_38 rfl ?_
      refine V_isub hc dX4_addPut_39 ?_
      obtain ⟨v12, hv12, hv9⟩ := mb hv9
      refine C_iald hc hT hv12 dX4_addPut_40 ?_
      refine V_if_ge hc dX4_addPut_41 rfl (fun hq41 => ?_) (fun hq41 => ?_)
      · rw [if_pos hq41] at hv9
        obtain rfl := Option.some.inj hv9
        exact V_sub [0] rfl hJ27
      · rw [if_neg hq41] at hv9
        refine V_aload_n hc dX4_addPut_44 rfl 0 rfl ?_
        obtain ⟨a13, ha13, hv9⟩ := mb hv9
        refine C_getr hc rfl iW4 (by decide) 0 (by decide) rfl ha13 w1_101 dX4_addPut_45 ?_
        refine V_aload_n hc dX4_addPut_48 rfl 0 rfl ?_
        obtain ⟨v14, hv14, hv9⟩ := mb hv9
        refine C_geti hc rfl iW4 (by decide) 1 (by decide) rfl hv14 w1_105 dX4_addPut_49 ?_
        refine V_aload_n hc dX4_addPut_52 rfl 0 rfl ?_
        obtain ⟨a15, ha15, hv9⟩ := mb hv9
        refine C_getr hc rfl iW4 (by decide) 0 (by decide) rfl ha15 w1_101 dX4_addPut_53 ?_
        refine V_aload_n hc dX4_addPut_56 rfl 0 rfl ?_
        obtain ⟨v16, hv16, hv9⟩ := mb hv9
        refine C_geti hc rfl iW4 (by decide) 1 (by decide) rfl hv16 w1_105 dX4_addPut_57 ?_
        refine V_iconst hc (v := (1 : Int32)) dX4_addPut_60 rfl ?_
        refine V_isub hc dX4_addPut_61 ?_
        obtain ⟨v17, hv17, hv9⟩ := mb hv9
        refine C_iald hc hT hv17 dX4_addPut_62 ?_
        obtain ⟨S18, hS18, hv9⟩ := mb hv9
        refine C_iast hc hT hS18 dX4_addPut_63 ?_
        refine V_aload_n hc dX4_addPut_64 rfl 0 rfl ?_
        obtain ⟨a19, ha19, hv9⟩ := mb hv9
        refine C_getr hc rfl iW4 (by decide) 0 (by decide) rfl ha19 w1_101 dX4_addPut_65 ?_
        refine V_aload_n hc dX4_addPut_68 rfl 0 rfl ?_
        obtain ⟨v20, hv20, hv9⟩ := mb hv9
        refine C_geti hc rfl iW4 (by decide) 1 (by decide) rfl hv20 w1_105 dX4_addPut_69 ?_
        refine V_iconst hc (v := (1 : Int32)) dX4_addPut_72 rfl ?_
        refine V_isub hc dX4_addPut_73 ?_
        refine V_iload_n hc dX4_addPut_74 rfl 1 rfl ?_
        obtain ⟨S21, hS21, hv9⟩ := mb hv9
        refine C_iast hc hT hS21 dX4_addPut_75 ?_
        obtain rfl := Option.some.inj hv9
        exact V_sub [0] rfl hJ27
  · rw [if_neg hq9] at hf
    obtain rfl := Option.some.inj hf
    exact V_vret hc hzz rfl rfl rfl rfl dX4_addPut_12
noncomputable def f4_addKeep (S : CS) (h : Nat) (p1 : Int32) : Option (CS) :=
  if 0 < p1 then (
    (gi S 4 h 1).bind fun v1 =>
    (
      if v1 ≤ 0 then (
        (gi S 4 h 1).bind fun v4 =>
        (gr S 4 h 0).bind fun a5 =>
        (aln S 14 a5).bind fun v6 =>
        if v6 ≤ v4 then (
          some S
        ) else (
          (gr S 4 h 0).bind fun a7 =>
          (gi S 4 h 1).bind fun v8 =>
          (pi S 4 h 1 (v8 + (1 : Int32))).bind fun S9 =>
          (sti S9 a7 v8 ((31 : Int32) + p1)).bind fun S10 =>
          some S10
        )
      ) else (
        (gr S 4 h 0).bind fun a11 =>
        (gi S 4 h 1).bind fun v12 =>
        (ldi S a11 (v12 - (1 : Int32))).bind fun v13 =>
        if v13 ≤ (31 : Int32) then (
          (gi S 4 h 1).bind fun v14 =>
          (gr S 4 h 0).bind fun a15 =>
          (aln S 14 a15).bind fun v16 =>
          if v16 ≤ v14 then (
            some S
          ) else (
            (gr S 4 h 0).bind fun a17 =>
            (gi S 4 h 1).bind fun v18 =>
            (pi S 4 h 1 (v18 + (1 : Int32))).bind fun S19 =>
            (sti S19 a17 v18 ((31 : Int32) + p1)).bind fun S20 =>
            some S20
          )
        ) else (
          (gr S 4 h 0).bind fun a21 =>
          (gi S 4 h 1).bind fun v22 =>
          (ldi S a21 (v22 - (1 : Int32))).bind fun v23 =>
          (sti S a21 (v22 - (1 : Int32)) (v23 + p1)).bind fun S24 =>
          some S24
        )
      )
    ).bind fun S2 =>
    some S2
  ) else (
    some S
  )
theorem hdX_X4_addKeep : yX4_addKeep.cls = "FarEditors$Op" ∧ yX4_addKeep.cls ≠ "java/lang/invoke/MethodHandle" ∧ yX4_addKeep.cls ≠ "java/lang/invoke/VarHandle" ∧ (parseMethodDescriptor yX4_addKeep.desc).map (fun d => d.parameters.length) = some 1 := by decide +kernel
set_option maxHeartbeats 4000000 in
set_option maxRecDepth 100000 in
theorem c4_addKeep (l : Launch) (D : va_G) (y : CyT) (zM uM : Nat) {S S' : CS} {h : Nat} {p1 : Int32} (hf : f4_addKeep S h p1 = some S') : CT l D y yX4_addKeep cX4_addKeep 2 none 0 0 zM uM [.ref h, .int p1] (cZ S) (cU S) (cw y S) (cZ S') (cU S') (cw y S') none := by
  refine CT.of (by decide) (Nat.le_of_ble_eq_true rfl) (fun E hc hzz hnm => ?_)
  have hc : Cx E "FarEditors$Op" cX4_addKeep 2 := hc
  have hz := hzz.1
  have hT := hz.2.2.1
  show V E (cZ S) (cU S) (cw y S) 0 [(0, .ref h), (1, .int p1)] []
  unfold f4_addKeep at hf
  refine V_iload_n hc dX4_addKeep_0 rfl 1 rfl ?_
  refine V_if_gt hc dX4_addKeep_1 rfl (fun hq1 => ?_) (fun hq1 => ?_)
  · rw [if_pos hq1] at hf
    refine V_aload_n hc dX4_addKeep_5 rfl 0 rfl ?_
    obtain ⟨v1, hv1, hf⟩ := mb hf
    refine C_geti hc rfl iW4 (by decide) 1 (by decide) rfl hv1 w1_105 dX4_addKeep_6 ?_
    obtain ⟨S2, hv3, hf⟩ := mb hf
    have hJ9 : V E (cZ S2) (cU S2) (cw y S2) 78 [] [] := by
      obtain rfl := Option.some.inj hf
      exact V_vret hc hzz rfl rfl rfl rfl dX4_addKeep_78
    refine V_if_le hc dX4_addKeep_9 rfl (fun hq9 => ?_) (fun hq9 => ?_)
    · rw [if_pos hq9] at hv3
      refine V_aload_n hc dX4_addKeep_46 rfl 0 rfl ?_
      obtain ⟨v4, hv4, hv3⟩ := mb hv3
      refine C_geti hc rfl iW4 (by decide) 1 (by decide) rfl hv4 w1_105 dX4_addKeep_47 ?_
      refine V_aload_n hc dX4_addKeep_50 rfl 0 rfl ?_
      obtain ⟨a5, ha5, hv3⟩ := mb hv3
      refine C_getr hc rfl iW4 (by decide) 0 (by decide) rfl ha5 w1_101 dX4_addKeep_51 ?_
      obtain ⟨v6, hv6, hv3⟩ := mb hv3
      refine C_alen hc hT hv6 dX4_addKeep_54 ?_
      refine V_icmp_ge hc dX4_addKeep_55 rfl (fun hq55 => ?_) (fun hq55 => ?_)
      · rw [if_pos hq55] at hv3
        obtain rfl := Option.some.inj hv3
        exact V_sub [] rfl hJ9
      · rw [if_neg hq55] at hv3
        refine V_aload_n hc dX4_addKeep_58 rfl 0 rfl ?_
        obtain ⟨a7, ha7, hv3⟩ := mb hv3
        refine C_getr hc rfl iW4 (by decide) 0 (by decide) rfl ha7 w1_101 dX4_addKeep_59 ?_
        refine V_aload_n hc dX4_addKeep_62 rfl 0 rfl ?_
        refine V_dup hc dX4_addKeep_63 rfl ?_
        obtain ⟨v8, hv8, hv3⟩ := mb hv3
        refine C_geti hc rfl iW4 (by decide) 1 (by decide) rfl hv8 w1_105 dX4_addKeep_64 ?_
        refine V_dup_x1 hc dX4_addKeep_67 rfl rfl ?_
        refine V_iconst hc (v := (1 : Int32)) dX4_addKeep_68 rfl ?_
        refine V_iadd hc dX4_addKeep_69 ?_
        obtain ⟨S9, hS9, hv3⟩ := mb hv3
        refine C_puti hc rfl iW4 tyX4 tyX4_ok nmX4 (by decide) 1 (by decide) rfl hS9 w1_105 rfl rfl rfl dX4_addKeep_70 ?_
        refine V_bipush hc (v := (31 : Int32)) dX4_addKeep_73 rfl ?_
        refine V_iload_n hc dX4_addKeep_75 rfl 1 rfl ?_
        refine V_iadd hc dX4_addKeep_76 ?_
        obtain ⟨S10, hS10, hv3⟩ := mb hv3
        refine C_iast hc hT hS10 dX4_addKeep_77 ?_
        obtain rfl := Option.some.inj hv3
        exact V_sub [] rfl hJ9
    · rw [if_neg hq9] at hv3
      refine V_aload_n hc dX4_addKeep_12 rfl 0 rfl ?_
      obtain ⟨a11, ha11, hv3⟩ := mb hv3
      refine C_getr hc rfl iW4 (by decide) 0 (by decide) rfl ha11 w1_101 dX4_addKeep_13 ?_
      refine V_aload_n hc dX4_addKeep_16 rfl 0 rfl ?_
      obtain ⟨v12, hv12, hv3⟩ := mb hv3
      refine C_geti hc rfl iW4 (by decide) 1 (by decide) rfl hv12 w1_105 dX4_addKeep_17 ?_
      refine V_iconst hc (v := (1 : Int32)) dX4_addKeep_20 rfl ?_
      refine V_isub hc dX4_addKeep_21 ?_
      obtain ⟨v13, hv13, hv3⟩ := mb hv3
      refine C_iald hc hT hv13 dX4_addKeep_22 ?_
      refine V_bipush hc (v := (31 : Int32)) dX4_addKeep_23 rfl ?_
      refine V_icmp_le hc dX4_addKeep_25 rfl (fun hq25 => ?_) (fun hq25 => ?_)
      · rw [if_pos hq25] at hv3
        refine V_aload_n hc dX4_addKeep_46 rfl 0 rfl ?_
        obtain ⟨v14, hv14, hv3⟩ := mb hv3
        refine C_geti hc rfl iW4 (by decide) 1 (by decide) rfl hv14 w1_105 dX4_addKeep_47 ?_
        refine V_aload_n hc dX4_addKeep_50 rfl 0 rfl ?_
        obtain ⟨a15, ha15, hv3⟩ := mb hv3
        refine C_getr hc rfl iW4 (by decide) 0 (by decide) rfl ha15 w1_101 dX4_addKeep_51 ?_
        obtain ⟨v16, hv16, hv3⟩ := mb hv3
        refine C_alen hc hT hv16 dX4_addKeep_54 ?_
        refine V_icmp_ge hc dX4_addKeep_55 rfl (fun hq55 => ?_) (fun hq55 => ?_)
        · rw [if_pos hq55] at hv3
          obtain rfl := Option.some.inj hv3
          exact V_sub [] rfl hJ9
        · rw [if_neg hq55] at hv3
          refine V_aload_n hc dX4_addKeep_58 rfl 0 rfl ?_
          obtain ⟨a17, ha17, hv3⟩ := mb hv3
          refine C_getr hc rfl iW4 (by decide) 0 (by decide) rfl ha17 w1_101 dX4_addKeep_59 ?_
          refine V_aload_n hc dX4_addKeep_62 rfl 0 rfl ?_
          refine V_dup hc dX4_addKeep_63 rfl ?_
          obtain ⟨v18, hv18, hv3⟩ := mb hv3
          refine C_geti hc rfl iW4 (by decide) 1 (by decide) rfl hv18 w1_105 dX4_addKeep_64 ?_
          refine V_dup_x1 hc dX4_addKeep_67 rfl rfl ?_
          refine V_iconst hc (v := (1 : Int32)) dX4_addKeep_68 rfl ?_
          refine V_iadd hc dX4_addKeep_69 ?_
          obtain ⟨S19, hS19, hv3⟩ := mb hv3
          refine C_puti hc rfl iW4 tyX4 tyX4_ok nmX4 (by decide) 1 (by decide) rfl hS19 w1_105 rfl rfl rfl dX4_addKeep_70 ?_
          refine V_bipush hc (v := (31 : Int32)) dX4_addKeep_73 rfl ?_
          refine V_iload_n hc dX4_addKeep_75 rfl 1 rfl ?_
          refine V_iadd hc dX4_addKeep_76 ?_
          obtain ⟨S20, hS20, hv3⟩ := mb hv3
          refine C_iast hc hT hS20 dX4_addKeep_77 ?_
          obtain rfl := Option.some.inj hv3
          exact V_sub [] rfl hJ9
      · rw [if_neg hq25] at hv3
        refine V_aload_n hc dX4_addKeep_28 rfl 0 rfl ?_
        obtain ⟨a21, ha21, hv3⟩ := mb hv3
        refine C_getr hc rfl iW4 (by decide) 0 (by decide) rfl ha21 w1_101 dX4_addKeep_29 ?_
        refine V_aload_n hc dX4_addKeep_32 rfl 0 rfl ?_
        obtain ⟨v22, hv22, hv3⟩ := mb hv3
        refine C_geti hc rfl iW4 (by decide) 1 (by decide) rfl hv22 w1_105 dX4_addKeep_33 ?_
        refine V_iconst hc (v := (1 : Int32)) dX4_addKeep_36 rfl ?_
        refine V_isub hc dX4_addKeep_37 ?_
        refine V_dup2 hc dX4_addKeep_38 rfl rfl ?_
        obtain ⟨v23, hv23, hv3⟩ := mb hv3
        refine C_iald hc hT hv23 dX4_addKeep_39 ?_
        refine V_iload_n hc dX4_addKeep_40 rfl 1 rfl ?_
        refine V_iadd hc dX4_addKeep_41 ?_
        obtain ⟨S24, hS24, hv3⟩ := mb hv3
        refine C_iast hc hT hS24 dX4_addKeep_42 ?_
        refine V_goto hc dX4_addKeep_43 rfl ?_
        obtain rfl := Option.some.inj hv3
        exact V_sub [] rfl hJ9
  · rw [if_neg hq1] at hf
    obtain rfl := Option.some.inj hf
    exact V_vret hc hzz rfl rfl rfl rfl dX4_addKeep_4
noncomputable def f5_isAtCut (S : CS) (h : Nat) : Option (Int32) :=
  (gi S 5 h 2).bind fun v1 =>
  (
    if 0 ≤ v1 then (
      some (0 : Int32)
    ) else (
      some (1 : Int32)
    )
  ).bind fun v2 =>
  (bz v2).bind fun v4 =>
  some v4
theorem hdX_X5_isAtCut : yX5_isAtCut.cls = "FarEditors$Reader" ∧ yX5_isAtCut.cls ≠ "java/lang/invoke/MethodHandle" ∧ yX5_isAtCut.cls ≠ "java/lang/invoke/VarHandle" ∧ (parseMethodDescriptor yX5_isAtCut.desc).map (fun d => d.parameters.length) = some 0 := by decide +kernel
set_option maxHeartbeats 4000000 in
set_option maxRecDepth 100000 in
theorem c5_isAtCut (l : Launch) (D : va_G) (y : CyT) (zM uM : Nat) {S : CS} {h : Nat} {r : Int32} (hf : f5_isAtCut S h = some r) : CT l D y yX5_isAtCut cX5_isAtCut 1 (some .boolean) 0 0 zM uM [.ref h] (cZ S) (cU S) (cw y S) (cZ S) (cU S) (cw y S) (some (.int r)) := by
  refine CT.of (by decide) (Nat.le_of_ble_eq_true rfl) (fun E hc hzz hnm => ?_)
  have hc : Cx E "FarEditors$Reader" cX5_isAtCut 1 := hc
  have hz := hzz.1
  have hT := hz.2.2.1
  show V E (cZ S) (cU S) (cw y S) 0 [(0, .ref h)] []
  unfold f5_isAtCut at hf
  refine V_aload_n hc dX5_isAtCut_0 rfl 0 rfl ?_
  obtain ⟨v1, hv1, hf⟩ := mb hf
  refine C_geti hc rfl iW5 (by decide) 2 (by decide) rfl hv1 w1_116 dX5_isAtCut_1 ?_
  obtain ⟨v2, hv3, hf⟩ := mb hf
  have hJ4 : V E (cZ S) (cU S) (cw y S) 12 [] [.int v2] := by
    obtain ⟨v4, hv4, hf⟩ := mb hf
    obtain ⟨hbv4, rfl⟩ := bz_some hv4
    obtain rfl := Option.some.inj hf
    exact V_iret hc hzz (bz_nar hbv4) rfl rfl rfl rfl dX5_isAtCut_12
  refine V_if_ge hc dX5_isAtCut_4 rfl (fun hq4 => ?_) (fun hq4 => ?_)
  · rw [if_pos hq4] at hv3
    refine V_iconst hc (v := (0 : Int32)) dX5_isAtCut_11 rfl ?_
    obtain rfl := Option.some.inj hv3
    exact V_sub [] rfl hJ4
  · rw [if_neg hq4] at hv3
    refine V_iconst hc (v := (1 : Int32)) dX5_isAtCut_7 rfl ?_
    refine V_goto hc dX5_isAtCut_8 rfl ?_
    obtain rfl := Option.some.inj hv3
    exact V_sub [] rfl hJ4
noncomputable def f4_addCut (S : CS) (h : Nat) (p1 : Int32) : Option (CS) :=
  if 0 < p1 then (
    (gi S 4 h 1).bind fun v1 =>
    (
      if v1 ≤ 0 then (
        (gi S 4 h 1).bind fun v4 =>
        (gr S 4 h 0).bind fun a5 =>
        (aln S 14 a5).bind fun v6 =>
        if v6 ≤ v4 then (
          some S
        ) else (
          (gr S 4 h 0).bind fun a7 =>
          (gi S 4 h 1).bind fun v8 =>
          (pi S 4 h 1 (v8 + (1 : Int32))).bind fun S9 =>
          (sti S9 a7 v8 (-p1)).bind fun S10 =>
          some S10
        )
      ) else (
        (gr S 4 h 0).bind fun a11 =>
        (gi S 4 h 1).bind fun v12 =>
        (ldi S a11 (v12 - (1 : Int32))).bind fun v13 =>
        if 0 ≤ v13 then (
          (gi S 4 h 1).bind fun v14 =>
          (gr S 4 h 0).bind fun a15 =>
          (aln S 14 a15).bind fun v16 =>
          if v16 ≤ v14 then (
            some S
          ) else (
            (gr S 4 h 0).bind fun a17 =>
            (gi S 4 h 1).bind fun v18 =>
            (pi S 4 h 1 (v18 + (1 : Int32))).bind fun S19 =>
            (sti S19 a17 v18 (-p1)).bind fun S20 =>
            some S20
          )
        ) else (
          (gr S 4 h 0).bind fun a21 =>
          (gi S 4 h 1).bind fun v22 =>
          (ldi S a21 (v22 - (1 : Int32))).bind fun v23 =>
          (sti S a21 (v22 - (1 : Int32)) (v23 - p1)).bind fun S24 =>
          some S24
        )
      )
    ).bind fun S2 =>
    some S2
  ) else (
    some S
  )
theorem hdX_X4_addCut : yX4_addCut.cls = "FarEditors$Op" ∧ yX4_addCut.cls ≠ "java/lang/invoke/MethodHandle" ∧ yX4_addCut.cls ≠ "java/lang/invoke/VarHandle" ∧ (parseMethodDescriptor yX4_addCut.desc).map (fun d => d.parameters.length) = some 1 := by decide +kernel
set_option maxHeartbeats 4000000 in
set_option maxRecDepth 100000 in
theorem c4_addCut (l : Launch) (D : va_G) (y : CyT) (zM uM : Nat) {S S' : CS} {h : Nat} {p1 : Int32} (hf : f4_addCut S h p1 = some S') : CT l D y yX4_addCut cX4_addCut 2 none 0 0 zM uM [.ref h, .int p1] (cZ S) (cU S) (cw y S) (cZ S') (cU S') (cw y S') none := by
  refine CT.of (by decide) (Nat.le_of_ble_eq_true rfl) (fun E hc hzz hnm => ?_)
  have hc : Cx E "FarEditors$Op" cX4_addCut 2 := hc
  have hz := hzz.1
  have hT := hz.2.2.1
  show V E (cZ S) (cU S) (cw y S) 0 [(0, .ref h), (1, .int p1)] []
  unfold f4_addCut at hf
  refine V_iload_n hc dX4_addCut_0 rfl 1 rfl ?_
  refine V_if_gt hc dX4_addCut_1 rfl (fun hq1 => ?_) (fun hq1 => ?_)
  · rw [if_pos hq1] at hf
    refine V_aload_n hc dX4_addCut_5 rfl 0 rfl ?_
    obtain ⟨v1, hv1, hf⟩ := mb hf
    refine C_geti hc rfl iW4 (by decide) 1 (by decide) rfl hv1 w1_105 dX4_addCut_6 ?_
    obtain ⟨S2, hv3, hf⟩ := mb hf
    have hJ9 : V E (cZ S2) (cU S2) (cw y S2) 74 [] [] := by
      obtain rfl := Option.some.inj hf
      exact V_vret hc hzz rfl rfl rfl rfl dX4_addCut_74
    refine V_if_le hc dX4_addCut_9 rfl (fun hq9 => ?_) (fun hq9 => ?_)
    · rw [if_pos hq9] at hv3
      refine V_aload_n hc dX4_addCut_44 rfl 0 rfl ?_
      obtain ⟨v4, hv4, hv3⟩ := mb hv3
      refine C_geti hc rfl iW4 (by decide) 1 (by decide) rfl hv4 w1_105 dX4_addCut_45 ?_
      refine V_aload_n hc dX4_addCut_48 rfl 0 rfl ?_
      obtain ⟨a5, ha5, hv3⟩ := mb hv3
      refine C_getr hc rfl iW4 (by decide) 0 (by decide) rfl ha5 w1_101 dX4_addCut_49 ?_
      obtain ⟨v6, hv6, hv3⟩ := mb hv3
      refine C_alen hc hT hv6 dX4_addCut_52 ?_
      refine V_icmp_ge hc dX4_addCut_53 rfl (fun hq53 => ?_) (fun hq53 => ?_)
      · rw [if_pos hq53] at hv3
        obtain rfl := Option.some.inj hv3
        exact V_sub [] rfl hJ9
      · rw [if_neg hq53] at hv3
        refine V_aload_n hc dX4_addCut_56 rfl 0 rfl ?_
        obtain ⟨a7, ha7, hv3⟩ := mb hv3
        refine C_getr hc rfl iW4 (by decide) 0 (by decide) rfl ha7 w1_101 dX4_addCut_57 ?_
        refine V_aload_n hc dX4_addCut_60 rfl 0 rfl ?_
        refine V_dup hc dX4_addCut_61 rfl ?_
        obtain ⟨v8, hv8, hv3⟩ := mb hv3
        refine C_geti hc rfl iW4 (by decide) 1 (by decide) rfl hv8 w1_105 dX4_addCut_62 ?_
        refine V_dup_x1 hc dX4_addCut_65 rfl rfl ?_
        refine V_iconst hc (v := (1 : Int32)) dX4_addCut_66 rfl ?_
        refine V_iadd hc dX4_addCut_67 ?_
        obtain ⟨S9, hS9, hv3⟩ := mb hv3
        refine C_puti hc rfl iW4 tyX4 tyX4_ok nmX4 (by decide) 1 (by decide) rfl hS9 w1_105 rfl rfl rfl dX4_addCut_68 ?_
        refine V_iload_n hc dX4_addCut_71 rfl 1 rfl ?_
        refine V_ineg hc dX4_addCut_72 ?_
        obtain ⟨S10, hS10, hv3⟩ := mb hv3
        refine C_iast hc hT hS10 dX4_addCut_73 ?_
        obtain rfl := Option.some.inj hv3
        exact V_sub [] rfl hJ9
    · rw [if_neg hq9] at hv3
      refine V_aload_n hc dX4_addCut_12 rfl 0 rfl ?_
      obtain ⟨a11, ha11, hv3⟩ := mb hv3
      refine C_getr hc rfl iW4 (by decide) 0 (by decide) rfl ha11 w1_101 dX4_addCut_13 ?_
      refine V_aload_n hc dX4_addCut_16 rfl 0 rfl ?_
      obtain ⟨v12, hv12, hv3⟩ := mb hv3
      refine C_geti hc rfl iW4 (by decide) 1 (by decide) rfl hv12 w1_105 dX4_addCut_17 ?_
      refine V_iconst hc (v := (1 : Int32)) dX4_addCut_20 rfl ?_
      refine V_isub hc dX4_addCut_21 ?_
      obtain ⟨v13, hv13, hv3⟩ := mb hv3
      refine C_iald hc hT hv13 dX4_addCut_22 ?_
      refine V_if_ge hc dX4_addCut_23 rfl (fun hq23 => ?_) (fun hq23 => ?_)
      · rw [if_pos hq23] at hv3
        refine V_aload_n hc dX4_addCut_44 rfl 0 rfl ?_
        obtain ⟨v14, hv14, hv3⟩ := mb hv3
        refine C_geti hc rfl iW4 (by decide) 1 (by decide) rfl hv14 w1_105 dX4_addCut_45 ?_
        refine V_aload_n hc dX4_addCut_48 rfl 0 rfl ?_
        obtain ⟨a15, ha15, hv3⟩ := mb hv3
        refine C_getr hc rfl iW4 (by decide) 0 (by decide) rfl ha15 w1_101 dX4_addCut_49 ?_
        obtain ⟨v16, hv16, hv3⟩ := mb hv3
        refine C_alen hc hT hv16 dX4_addCut_52 ?_
        refine V_icmp_ge hc dX4_addCut_53 rfl (fun hq53 => ?_) (fun hq53 => ?_)
        · rw [if_pos hq53] at hv3
          obtain rfl := Option.some.inj hv3
          exact V_sub [] rfl hJ9
        · rw [if_neg hq53] at hv3
          refine V_aload_n hc dX4_addCut_56 rfl 0 rfl ?_
          obtain ⟨a17, ha17, hv3⟩ := mb hv3
          refine C_getr hc rfl iW4 (by decide) 0 (by decide) rfl ha17 w1_101 dX4_addCut_57 ?_
          refine V_aload_n hc dX4_addCut_60 rfl 0 rfl ?_
          refine V_dup hc dX4_addCut_61 rfl ?_
          obtain ⟨v18, hv18, hv3⟩ := mb hv3
          refine C_geti hc rfl iW4 (by decide) 1 (by decide) rfl hv18 w1_105 dX4_addCut_62 ?_
          refine V_dup_x1 hc dX4_addCut_65 rfl rfl ?_
          refine V_iconst hc (v := (1 : Int32)) dX4_addCut_66 rfl ?_
          refine V_iadd hc dX4_addCut_67 ?_
          obtain ⟨S19, hS19, hv3⟩ := mb hv3
          refine C_puti hc rfl iW4 tyX4 tyX4_ok nmX4 (by decide) 1 (by decide) rfl hS19 w1_105 rfl rfl rfl dX4_addCut_68 ?_
          refine V_iload_n hc dX4_addCut_71 rfl 1 rfl ?_
          refine V_ineg hc dX4_addCut_72 ?_
          obtain ⟨S20, hS20, hv3⟩ := mb hv3
          refine C_iast hc hT hS20 dX4_addCut_73 ?_
          obtain rfl := Option.some.inj hv3
          exact V_sub [] rfl hJ9
      · rw [if_neg hq23] at hv3
        refine V_aload_n hc dX4_addCut_26 rfl 0 rfl ?_
        obtain ⟨a21, ha21, hv3⟩ := mb hv3
        refine C_getr hc rfl iW4 (by decide) 0 (by decide) rfl ha21 w1_101 dX4_addCut_27 ?_
        refine V_aload_n hc dX4_addCut_30 rfl 0 rfl ?_
        obtain ⟨v22, hv22, hv3⟩ := mb hv3
        refine C_geti hc rfl iW4 (by decide) 1 (by decide) rfl hv22 w1_105 dX4_addCut_31 ?_
        refine V_iconst hc (v := (1 : Int32)) dX4_addCut_34 rfl ?_
        refine V_isub hc dX4_addCut_35 ?_
        refine V_dup2 hc dX4_addCut_36 rfl rfl ?_
        obtain ⟨v23, hv23, hv3⟩ := mb hv3
        refine C_iald hc hT hv23 dX4_addCut_37 ?_
        refine V_iload_n hc dX4_addCut_38 rfl 1 rfl ?_
        refine V_isub hc dX4_addCut_39 ?_
        obtain ⟨S24, hS24, hv3⟩ := mb hv3
        refine C_iast hc hT hS24 dX4_addCut_40 ?_
        refine V_goto hc dX4_addCut_41 rfl ?_
        obtain rfl := Option.some.inj hv3
        exact V_sub [] rfl hJ9
  · rw [if_neg hq1] at hf
    obtain rfl := Option.some.inj hf
    exact V_vret hc hzz rfl rfl rfl rfl dX4_addCut_4
noncomputable def f9_turnCommon (S : CS) (h : Nat) : Option (CS) :=
  (gr S 9 h 0).bind fun a1 =>
  (gi S 5 a1 3).bind fun v2 =>
  (gr S 9 h 1).bind fun a3 =>
  (gi S 5 a3 3).bind fun v4 =>
  if 0 < (if v4 < v2 then v4 else v2) then (
    (gr S 9 h 0).bind fun a5 =>
    (cal S 5 a5 (f5_isAtCut S a5)).bind fun v6 =>
    (gr S 9 h 1).bind fun a7 =>
    (cal S 5 a7 (f5_isAtCut S a7)).bind fun v8 =>
    (
      if v6 = 0 then (
        if v8 = 0 then (
          (gr S 9 h 2).bind fun a19 =>
          (cal S 4 a19 (f4_addKeep S a19 (if v4 < v2 then v4 else v2))).bind fun S20 =>
          (gr S20 9 h 3).bind fun a21 =>
          (cal S20 4 a21 (f4_addKeep S20 a21 (if v4 < v2 then v4 else v2))).bind fun S22 =>
          some S22
        ) else (
          if v8 = 0 then (
            (gr S 9 h 2).bind fun a17 =>
            (cal S 4 a17 (f4_addCut S a17 (if v4 < v2 then v4 else v2))).bind fun S18 =>
            some S18
          ) else (
            if v6 = 0 then (
              (gr S 9 h 3).bind fun a15 =>
              (cal S 4 a15 (f4_addCut S a15 (if v4 < v2 then v4 else v2))).bind fun S16 =>
              some S16
            ) else (
              some S
            )
          )
        )
      ) else (
        if v8 = 0 then (
          (gr S 9 h 2).bind fun a13 =>
          (cal S 4 a13 (f4_addCut S a13 (if v4 < v2 then v4 else v2))).bind fun S14 =>
          some S14
        ) else (
          if v6 = 0 then (
            (gr S 9 h 3).bind fun a11 =>
            (cal S 4 a11 (f4_addCut S a11 (if v4 < v2 then v4 else v2))).bind fun S12 =>
            some S12
          ) else (
            some S
          )
        )
      )
    ).bind fun S9 =>
    (gr S9 9 h 0).bind fun a23 =>
    (cal S9 5 a23 (f5_pass S9 a23 (if v4 < v2 then v4 else v2))).bind fun S24 =>
    (gr S24 9 h 1).bind fun a25 =>
    (cal S24 5 a25 (f5_pass S24 a25 (if v4 < v2 then v4 else v2))).bind fun S26 =>
    some S26
  ) else (
    some S
  )
theorem hdX_X9_turnCommon : yX9_turnCommon.cls = "FarEditors$Weaver" ∧ yX9_turnCommon.cls ≠ "java/lang/invoke/MethodHandle" ∧ yX9_turnCommon.cls ≠ "java/lang/invoke/VarHandle" ∧ (parseMethodDescriptor yX9_turnCommon.desc).map (fun d => d.parameters.length) = some 0 := by decide +kernel
set_option maxHeartbeats 4000000 in
set_option maxRecDepth 100000 in
theorem c9_turnCommon (l : Launch) (D : va_G) (y : CyT) (zM uM : Nat) {S S' : CS} {h : Nat} (hf : f9_turnCommon S h = some S') : CT l D y yX9_turnCommon cX9_turnCommon 4 none 1 21 zM uM [.ref h] (cZ S) (cU S) (cw y S) (cZ S') (cU S') (cw y S') none := by
  refine CT.of (by decide) (Nat.le_of_ble_eq_true rfl) (fun E hc hzz hnm => ?_)
  have hc : Cx E "FarEditors$Weaver" cX9_turnCommon 4 := hc
  have hz := hzz.1
  have hT := hz.2.2.1
  show V E (cZ S) (cU S) (cw y S) 0 [(0, .ref h)] []
  unfold f9_turnCommon at hf
  refine V_aload_n hc dX9_turnCommon_0 rfl 0 rfl ?_
  obtain ⟨a1, ha1, hf⟩ := mb hf
  refine C_getr hc rfl iW9 (by decide) 0 (by decide) rfl ha1 w1_131 dX9_turnCommon_1 ?_
  obtain ⟨v2, hv2, hf⟩ := mb hf
  refine C_geti hc rfl iW5 (by decide) 3 (by decide) rfl hv2 w1_119 dX9_turnCommon_4 ?_
  refine V_aload_n hc dX9_turnCommon_7 rfl 0 rfl ?_
  obtain ⟨a3, ha3, hf⟩ := mb hf
  refine C_getr hc rfl iW9 (by decide) 1 (by decide) rfl ha3 w1_132 dX9_turnCommon_8 ?_
  obtain ⟨v4, hv4, hf⟩ := mb hf
  refine C_geti hc rfl iW5 (by decide) 3 (by decide) rfl hv4 w1_119 dX9_turnCommon_11 ?_
  refine C_min hc hz w4_52 w3_194 w1_18 w3_195 ⟨(Nat.le_of_ble_eq_true rfl), (Nat.le_of_ble_eq_true rfl)⟩ (Nat.le_of_ble_eq_true rfl) dX9_turnCommon_14 ?_
  refine V_istore_n hc dX9_turnCommon_17 rfl (by decide) rfl ?_
  refine V_iload_n hc dX9_turnCommon_18 rfl 0 rfl ?_
  refine V_if_gt hc dX9_turnCommon_19 rfl (fun hq19 => ?_) (fun hq19 => ?_)
  · rw [if_pos hq19] at hf
    refine V_aload_n hc dX9_turnCommon_23 rfl 1 rfl ?_
    obtain ⟨a5, ha5, hf⟩ := mb hf
    refine C_getr hc rfl iW9 (by decide) 0 (by decide) rfl ha5 w1_131 dX9_turnCommon_24 ?_
    obtain ⟨v6, hv6, hf⟩ := mb hf
    obtain ⟨hkv6, hv6⟩ := og hv6
    refine C_callV hc hz (As := []) hkv6 (by decide) (c5_isAtCut l D y _ _ hv6) w4_53 w4_54 w4_55 w1_4 w4_56 hdX_X5_isAtCut ⟨(Nat.le_of_ble_eq_true rfl), (Nat.le_of_ble_eq_true rfl)⟩ rfl rfl rfl (Nat.le_of_ble_eq_true rfl) dX9_turnCommon_27 ?_
    refine V_istore_n hc dX9_turnCommon_30 rfl (by decide) rfl ?_
    refine V_aload_n hc dX9_turnCommon_31 rfl 2 rfl ?_
    obtain ⟨a7, ha7, hf⟩ := mb hf
    refine C_getr hc rfl iW9 (by decide) 1 (by decide) rfl ha7 w1_132 dX9_turnCommon_32 ?_
    obtain ⟨v8, hv8, hf⟩ := mb hf
    obtain ⟨hkv8, hv8⟩ := og hv8
    refine C_callV hc hz (As := []) hkv8 (by decide) (c5_isAtCut l D y _ _ hv8) w4_53 w4_54 w4_55 w1_4 w4_56 hdX_X5_isAtCut ⟨(Nat.le_of_ble_eq_true rfl), (Nat.le_of_ble_eq_true rfl)⟩ rfl rfl rfl (Nat.le_of_ble_eq_true rfl) dX9_turnCommon_35 ?_
    refine V_istore_n hc dX9_turnCommon_38 rfl (by decide) rfl ?_
    refine V_iload_n hc dX9_turnCommon_39 rfl 1 rfl ?_
    obtain ⟨S9, hv10, hf⟩ := mb hf
    have hJ40 : V E (cZ S9) (cU S9) (cw y S9) 93 [(0, .ref h), (1, .int (if v4 < v2 then v4 else v2))] [] := by
      refine V_aload_n hc dX9_turnCommon_93 rfl 0 rfl ?_
      obtain ⟨a23, ha23, hf⟩ := mb hf
      refine C_getr hc rfl iW9 (by decide) 0 (by decide) rfl ha23 w1_131 dX9_turnCommon_94 ?_
      refine V_iload_n hc dX9_turnCommon_97 rfl 1 rfl ?_
      obtain ⟨S24, hS24, hf⟩ := mb hf
      obtain ⟨hkS24, hS24⟩ := og hS24
      refine C_callV hc hz (As := [.int (if v4 < v2 then v4 else v2)]) hkS24 (by decide) (c5_pass l D y _ _ hS24) w4_47 w4_32 w4_33 w1_4 w4_34 hdX_X5_pass ⟨(Nat.le_of_ble_eq_true rfl), (Nat.le_of_ble_eq_true rfl)⟩ rfl rfl rfl (Nat.le_of_ble_eq_true rfl) dX9_turnCommon_98 ?_
      refine V_aload_n hc dX9_turnCommon_101 rfl 0 rfl ?_
      obtain ⟨a25, ha25, hf⟩ := mb hf
      refine C_getr hc rfl iW9 (by decide) 1 (by decide) rfl ha25 w1_132 dX9_turnCommon_102 ?_
      refine V_iload_n hc dX9_turnCommon_105 rfl 1 rfl ?_
      obtain ⟨S26, hS26, hf⟩ := mb hf
      obtain ⟨hkS26, hS26⟩ := og hS26
      refine C_callV hc hz (As := [.int (if v4 < v2 then v4 else v2)]) hkS26 (by decide) (c5_pass l D y _ _ hS26) w4_47 w4_32 w4_33 w1_4 w4_34 hdX_X5_pass ⟨(Nat.le_of_ble_eq_true rfl), (Nat.le_of_ble_eq_true rfl)⟩ rfl rfl rfl (Nat.le_of_ble_eq_true rfl) dX9_turnCommon_106 ?_
      obtain rfl := Option.some.inj hf
      exact V_vret hc hzz rfl rfl rfl rfl dX9_turnCommon_109
    refine V_if_ne hc dX9_turnCommon_40 rfl (fun hq40 => ?_) (fun hq40 => ?_)
    · rw [if_neg hq40] at hv10
      refine V_iload_n hc dX9_turnCommon_66 rfl 0 rfl ?_
      refine V_if_ne hc dX9_turnCommon_67 rfl (fun hq67 => ?_) (fun hq67 => ?_)
      · rw [if_neg hq67] at hv10
        refine V_iload_n hc dX9_turnCommon_81 rfl 1 rfl ?_
        refine V_if_ne hc dX9_turnCommon_82 rfl (fun hq82 => ?_) (fun hq82 => ?_)
        · rw [if_neg hq82] at hv10
          obtain rfl := Option.some.inj hv10
          exact V_sub [3, 2] rfl hJ40
        · rw [if_pos hq82] at hv10
          refine V_aload_n hc dX9_turnCommon_85 rfl 3 rfl ?_
          obtain ⟨a11, ha11, hv10⟩ := mb hv10
          refine C_getr hc rfl iW9 (by decide) 3 (by decide) rfl ha11 w1_134 dX9_turnCommon_86 ?_
          refine V_iload_n hc dX9_turnCommon_89 rfl 2 rfl ?_
          obtain ⟨S12, hS12, hv10⟩ := mb hv10
          obtain ⟨hkS12, hS12⟩ := og hS12
          refine C_callV hc hz (As := [.int (if v4 < v2 then v4 else v2)]) hkS12 (by decide) (c4_addCut l D y _ _ hS12) w4_57 w4_58 w4_59 w1_5 w4_60 hdX_X4_addCut ⟨(Nat.le_of_ble_eq_true rfl), (Nat.le_of_ble_eq_true rfl)⟩ rfl rfl rfl (Nat.le_of_ble_eq_true rfl) dX9_turnCommon_90 ?_
          obtain rfl := Option.some.inj hv10
          exact V_sub [3, 2] rfl hJ40
      · rw [if_pos hq67] at hv10
        refine V_aload_n hc dX9_turnCommon_70 rfl 3 rfl ?_
        obtain ⟨a13, ha13, hv10⟩ := mb hv10
        refine C_getr hc rfl iW9 (by decide) 2 (by decide) rfl ha13 w1_133 dX9_turnCommon_71 ?_
        refine V_iload_n hc dX9_turnCommon_74 rfl 2 rfl ?_
        obtain ⟨S14, hS14, hv10⟩ := mb hv10
        obtain ⟨hkS14, hS14⟩ := og hS14
        refine C_callV hc hz (As := [.int (if v4 < v2 then v4 else v2)]) hkS14 (by decide) (c4_addCut l D y _ _ hS14) w4_57 w4_58 w4_59 w1_5 w4_60 hdX_X4_addCut ⟨(Nat.le_of_ble_eq_true rfl), (Nat.le_of_ble_eq_true rfl)⟩ rfl rfl rfl (Nat.le_of_ble_eq_true rfl) dX9_turnCommon_75 ?_
        refine V_goto hc dX9_turnCommon_78 rfl ?_
        obtain rfl := Option.some.inj hv10
        exact V_sub [3, 2] rfl hJ40
    · rw [if_pos hq40] at hv10
      refine V_iload_n hc dX9_turnCommon_43 rfl 0 rfl ?_
      refine V_if_ne hc dX9_turnCommon_44 rfl (fun hq44 => ?_) (fun hq44 => ?_)
      · rw [if_neg hq44] at hv10
        refine V_iload_n hc dX9_turnCommon_66 rfl 0 rfl ?_
        refine V_if_ne hc dX9_turnCommon_67 rfl (fun hq67 => ?_) (fun hq67 => ?_)
        · rw [if_neg hq67] at hv10
          refine V_iload_n hc dX9_turnCommon_81 rfl 1 rfl ?_
          refine V_if_ne hc dX9_turnCommon_82 rfl (fun hq82 => ?_) (fun hq82 => ?_)
          · rw [if_neg hq82] at hv10
            obtain rfl := Option.some.inj hv10
            exact V_sub [3, 2] rfl hJ40
          · rw [if_pos hq82] at hv10
            refine V_aload_n hc dX9_turnCommon_85 rfl 3 rfl ?_
            obtain ⟨a15, ha15, hv10⟩ := mb hv10
            refine C_getr hc rfl iW9 (by decide) 3 (by decide) rfl ha15 w1_134 dX9_turnCommon_86 ?_
            refine V_iload_n hc dX9_turnCommon_89 rfl 2 rfl ?_
            obtain ⟨S16, hS16, hv10⟩ := mb hv10
            obtain ⟨hkS16, hS16⟩ := og hS16
            refine C_callV hc hz (As := [.int (if v4 < v2 then v4 else v2)]) hkS16 (by decide) (c4_addCut l D y _ _ hS16) w4_57 w4_58 w4_59 w1_5 w4_60 hdX_X4_addCut ⟨(Nat.le_of_ble_eq_true rfl), (Nat.le_of_ble_eq_true rfl)⟩ rfl rfl rfl (Nat.le_of_ble_eq_true rfl) dX9_turnCommon_90 ?_
            obtain rfl := Option.some.inj hv10
            exact V_sub [3, 2] rfl hJ40
        · rw [if_pos hq67] at hv10
          refine V_aload_n hc dX9_turnCommon_70 rfl 3 rfl ?_
          obtain ⟨a17, ha17, hv10⟩ := mb hv10
          refine C_getr hc rfl iW9 (by decide) 2 (by decide) rfl ha17 w1_133 dX9_turnCommon_71 ?_
          refine V_iload_n hc dX9_turnCommon_74 rfl 2 rfl ?_
          obtain ⟨S18, hS18, hv10⟩ := mb hv10
          obtain ⟨hkS18, hS18⟩ := og hS18
          refine C_callV hc hz (As := [.int (if v4 < v2 then v4 else v2)]) hkS18 (by decide) (c4_addCut l D y _ _ hS18) w4_57 w4_58 w4_59 w1_5 w4_60 hdX_X4_addCut ⟨(Nat.le_of_ble_eq_true rfl), (Nat.le_of_ble_eq_true rfl)⟩ rfl rfl rfl (Nat.le_of_ble_eq_true rfl) dX9_turnCommon_75 ?_
          refine V_goto hc dX9_turnCommon_78 rfl ?_
          obtain rfl := Option.some.inj hv10
          exact V_sub [3, 2] rfl hJ40
      · rw [if_pos hq44] at hv10
        refine V_aload_n hc dX9_turnCommon_47 rfl 3 rfl ?_
        obtain ⟨a19, ha19, hv10⟩ := mb hv10
        refine C_getr hc rfl iW9 (by decide) 2 (by decide) rfl ha19 w1_133 dX9_turnCommon_48 ?_
        refine V_iload_n hc dX9_turnCommon_51 rfl 2 rfl ?_
        obtain ⟨S20, hS20, hv10⟩ := mb hv10
        obtain ⟨hkS20, hS20⟩ := og hS20
        refine C_callV hc hz (As := [.int (if v4 < v2 then v4 else v2)]) hkS20 (by decide) (c4_addKeep l D y _ _ hS20) w4_43 w4_44 w4_45 w1_5 w4_46 hdX_X4_addKeep ⟨(Nat.le_of_ble_eq_true rfl), (Nat.le_of_ble_eq_true rfl)⟩ rfl rfl rfl (Nat.le_of_ble_eq_true rfl) dX9_turnCommon_52 ?_
        refine V_aload_n hc dX9_turnCommon_55 rfl 3 rfl ?_
        obtain ⟨a21, ha21, hv10⟩ := mb hv10
        refine C_getr hc rfl iW9 (by decide) 3 (by decide) rfl ha21 w1_134 dX9_turnCommon_56 ?_
        refine V_iload_n hc dX9_turnCommon_59 rfl 2 rfl ?_
        obtain ⟨S22, hS22, hv10⟩ := mb hv10
        obtain ⟨hkS22, hS22⟩ := og hS22
        refine C_callV hc hz (As := [.int (if v4 < v2 then v4 else v2)]) hkS22 (by decide) (c4_addKeep l D y _ _ hS22) w4_43 w4_44 w4_45 w1_5 w4_46 hdX_X4_addKeep ⟨(Nat.le_of_ble_eq_true rfl), (Nat.le_of_ble_eq_true rfl)⟩ rfl rfl rfl (Nat.le_of_ble_eq_true rfl) dX9_turnCommon_60 ?_
        refine V_goto hc dX9_turnCommon_63 rfl ?_
        obtain rfl := Option.some.inj hv10
        exact V_sub [3, 2] rfl hJ40
  · rw [if_neg hq19] at hf
    obtain rfl := Option.some.inj hf
    exact V_vret hc hzz rfl rfl rfl rfl dX9_turnCommon_22
