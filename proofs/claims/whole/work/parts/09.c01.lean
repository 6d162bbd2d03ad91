noncomputable def f4_addKeep (S : CS) (h : Nat) (p1 : Int32) : Option (CS) :=
  if 0 < p1 then (
    (gi S 4 h 1).bind fun v1 =>
    (
      if v1 ≤ 0 then (
        (gi S 4 h 1).bind fun v4 =>
        (gr S 4 h 0).bind fun a5 =>
        (aln S 14 a5).bind fun v6 =>
        if v6 ≤ v4 then (
          some S
        ) else (
          (gr S 4 h 0).bind fun a7 =>
          (gi S 4 h 1).bind fun v8 =>
          (pi S 4 h 1 (v8 + (1 : Int32))).bind fun S9 =>
          (sti S9 a7 v8 ((31 : Int32) + p1)).bind fun S10 =>
          some S10
        )
      ) else (
        (gr S 4 h 0).bind fun a11 =>
        (gi S 4 h 1).bind fun v12 =>
        (ldi S a11 (v12 - (1 : Int32))).bind fun v13 =>
        if v13 ≤ (31 : Int32) then (
          (gi S 4 h 1).bind fun v14 =>
          (gr S 4 h 0).bind fun a15 =>
          (aln S 14 a15).bind fun v16 =>
          if v16 ≤ v14 then (
            some S
          ) else (
            (gr S 4 h 0).bind fun a17 =>
            (gi S 4 h 1).bind fun v18 =>
            (pi S 4 h 1 (v18 + (1 : Int32))).bind fun S19 =>
            (sti S19 a17 v18 ((31 : Int32) + p1)).bind fun S20 =>
            some S20
          )
        ) else (
          (gr S 4 h 0).bind fun a21 =>
          (gi S 4 h 1).bind fun v22 =>
          (ldi S a21 (v22 - (1 : Int32))).bind fun v23 =>
          (sti S a21 (v22 - (1 : Int32)) (v23 + p1)).bind fun S24 =>
          some S24
        )
      )
    ).bind fun S2 =>
    some S2
  ) else (
    some S
  )
theorem hdX_X4_addKeep : yX4_addKeep.cls = "FarEditors$Op" ∧ yX4_addKeep.cls ≠ "java/lang/invoke/MethodHandle" ∧ yX4_addKeep.cls ≠ "java/lang/invoke/VarHandle" ∧ (parseMethodDescriptor yX4_addKeep.desc).map (fun d => d.parameters.length) = some 1 := by decide +kernel
set_option maxHeartbeats 4000000 in
set_option maxRecDepth 100000 in
theorem c4_addKeep (l : Launch) (D : va_G) (y : CyT) (zM uM : Nat) {S S' : CS} {h : Nat} {p1 : Int32} (hf : f4_addKeep S h p1 = some S') : CT l D (tyL y) yX4_addKeep cX4_addKeep 2 none 0 0 zM uM [.ref h, .int p1] (cZ S) (cU S) (cw y S) (cZ S') (cU S') (cw y S') none := by
  refine CT.of (by decide) (Nat.le_of_ble_eq_true rfl) (fun E hc hz hnm => ?_)
  have hc : Cx E "FarEditors$Op" cX4_addKeep 2 := hc
  have hT := hz.2.2.1
  show V E (cZ S) (cU S) (cw y S) 0 [(0, .ref h), (1, .int p1)] []
  unfold f4_addKeep at hf
  refine V_iload_n hc dX4_addKeep_0 rfl 1 rfl ?_
  refine V_if_gt hc dX4_addKeep_1 rfl (fun hq1 => ?_) (fun hq1 => ?_)
  · rw [if_pos hq1] at hf
    refine V_aload_n hc dX4_addKeep_5 rfl 0 rfl ?_
    obtain ⟨v1, hv1, hf⟩ := mb hf
    refine C_geti hc rfl iW4 (by decide) 1 (by decide) rfl hv1 w1_105 dX4_addKeep_6 ?_
    obtain ⟨S2, hv3, hf⟩ := mb hf
    have hJ9 : V E (cZ S2) (cU S2) (cw y S2) 78 [] [] := by
      obtain rfl := Option.some.inj hf
      exact V_vret hc hz rfl rfl rfl rfl dX4_addKeep_78
    refine V_if_le hc dX4_addKeep_9 rfl (fun hq9 => ?_) (fun hq9 => ?_)
    · rw [if_pos hq9] at hv3
      refine V_aload_n hc dX4_addKeep_46 rfl 0 rfl ?_
      obtain ⟨v4, hv4, hv3⟩ := mb hv3
      refine C_geti hc rfl iW4 (by decide) 1 (by decide) rfl hv4 w1_105 dX4_addKeep_47 ?_
      refine V_aload_n hc dX4_addKeep_50 rfl 0 rfl ?_
      obtain ⟨a5, ha5, hv3⟩ := mb hv3
      refine C_getr hc rfl iW4 (by decide) 0 (by decide) rfl ha5 w1_101 dX4_addKeep_51 ?_
      obtain ⟨v6, hv6, hv3⟩ := mb hv3
      refine C_alen hc hT hv6 dX4_addKeep_54 ?_
      refine V_icmp_ge hc dX4_addKeep_55 rfl (fun hq55 => ?_) (fun hq55 => ?_)
      · rw [if_pos hq55] at hv3
        obtain rfl := Option.some.inj hv3
        exact V_sub [] rfl hJ9
      · rw [if_neg hq55] at hv3
        refine V_aload_n hc dX4_addKeep_58 rfl 0 rfl ?_
        obtain ⟨a7, ha7, hv3⟩ := mb hv3
        refine C_getr hc rfl iW4 (by decide) 0 (by decide) rfl ha7 w1_101 dX4_addKeep_59 ?_
        refine V_aload_n hc dX4_addKeep_62 rfl 0 rfl ?_
        refine V_dup hc dX4_addKeep_63 rfl ?_
        obtain ⟨v8, hv8, hv3⟩ := mb hv3
        refine C_geti hc rfl iW4 (by decide) 1 (by decide) rfl hv8 w1_105 dX4_addKeep_64 ?_
        refine V_dup_x1 hc dX4_addKeep_67 rfl rfl ?_
        refine V_iconst hc (v := (1 : Int32)) dX4_addKeep_68 rfl ?_
        refine V_iadd hc dX4_addKeep_69 ?_
        obtain ⟨S9, hS9, hv3⟩ := mb hv3
        refine C_puti hc rfl iW4 tyX4 tyX4_ok nmX4 (by decide) 1 (by decide) rfl hS9 w1_105 rfl rfl rfl dX4_addKeep_70 ?_
        refine V_bipush hc (v := (31 : Int32)) dX4_addKeep_73 rfl ?_
        refine V_iload_n hc dX4_addKeep_75 rfl 1 rfl ?_
        refine V_iadd hc dX4_addKeep_76 ?_
        obtain ⟨S10, hS10, hv3⟩ := mb hv3
        refine C_iast hc hT hS10 dX4_addKeep_77 ?_
        obtain rfl := Option.some.inj hv3
        exact V_sub [] rfl hJ9
    · rw [if_neg hq9] at hv3
      refine V_aload_n hc dX4_addKeep_12 rfl 0 rfl ?_
      obtain ⟨a11, ha11, hv3⟩ := mb hv3
      refine C_getr hc rfl iW4 (by decide) 0 (by decide) rfl ha11 w1_101 dX4_addKeep_13 ?_
      refine V_aload_n hc dX4_addKeep_16 rfl 0 rfl ?_
      obtain ⟨v12, hv12, hv3⟩ := mb hv3
      refine C_geti hc rfl iW4 (by decide) 1 (by decide) rfl hv12 w1_105 dX4_addKeep_17 ?_
      refine V_iconst hc (v := (1 : Int32)) dX4_addKeep_20 rfl ?_
      refine V_isub hc dX4_addKeep_21 ?_
      obtain ⟨v13, hv13, hv3⟩ := mb hv3
      refine C_iald hc hT hv13 dX4_addKeep_22 ?_
      refine V_bipush hc (v := (31 : Int32)) dX4_addKeep_23 rfl ?_
      refine V_icmp_le hc dX4_addKeep_25 rfl (fun hq25 => ?_) (fun hq25 => ?_)
      · rw [if_pos hq25] at hv3
        refine V_aload_n hc dX4_addKeep_46 rfl 0 rfl ?_
        obtain ⟨v14, hv14, hv3⟩ := mb hv3
        refine C_geti hc rfl iW4 (by decide) 1 (by decide) rfl hv14 w1_105 dX4_addKeep_47 ?_
        refine V_aload_n hc dX4_addKeep_50 rfl 0 rfl ?_
        obtain ⟨a15, ha15, hv3⟩ := mb hv3
        refine C_getr hc rfl iW4 (by decide) 0 (by decide) rfl ha15 w1_101 dX4_addKeep_51 ?_
        obtain ⟨v16, hv16, hv3⟩ := mb hv3
        refine C_alen hc hT hv16 dX4_addKeep_54 ?_
        refine V_icmp_ge hc dX4_addKeep_55 rfl (fun hq55 => ?_) (fun hq55 => ?_)
        · rw [if_pos hq55] at hv3
          obtain rfl := Option.some.inj hv3
          exact V_sub [] rfl hJ9
        · rw [if_neg hq55] at hv3
          refine V_aload_n hc dX4_addKeep_58 rfl 0 rfl ?_
          obtain ⟨a17, ha17, hv3⟩ := mb hv3
          refine C_getr hc rfl iW4 (by decide) 0 (by decide) rfl ha17 w1_101 dX4_addKeep_59 ?_
          refine V_aload_n hc dX4_addKeep_62 rfl 0 rfl ?_
          refine V_dup hc dX4_addKeep_63 rfl ?_
          obtain ⟨v18, hv18, hv3⟩ := mb hv3
          refine C_geti hc rfl iW4 (by decide) 1 (by decide) rfl hv18 w1_105 dX4_addKeep_64 ?_
          refine V_dup_x1 hc dX4_addKeep_67 rfl rfl ?_
          refine V_iconst hc (v := (1 : Int32)) dX4_addKeep_68 rfl ?_
          refine V_iadd hc dX4_addKeep_69 ?_
          obtain ⟨S19, hS19, hv3⟩ := mb hv3
          refine C_puti hc rfl iW4 tyX4 tyX4_ok nmX4 (by decide) 1 (by decide) rfl hS19 w1_105 rfl rfl rfl dX4_addKeep_70 ?_
          refine V_bipush hc (v := (31 : Int32)) dX4_addKeep_73 rfl ?_
          refine V_iload_n hc dX4_addKeep_75 rfl 1 rfl ?_
          refine V_iadd hc dX4_addKeep_76 ?_
          obtain ⟨S20, hS20, hv3⟩ := mb hv3
          refine C_iast hc hT hS20 dX4_addKeep_77 ?_
          obtain rfl := Option.some.inj hv3
          exact V_sub [] rfl hJ9
      · rw [if_neg hq25] at hv3
        refine V_aload_n hc dX4_addKeep_28 rfl 0 rfl ?_
        obtain ⟨a21, ha21, hv3⟩ := mb hv3
        refine C_getr hc rfl iW4 (by decide) 0 (by decide) rfl ha21 w1_101 dX4_addKeep_29 ?_
        refine V_aload_n hc dX4_addKeep_32 rfl 0 rfl ?_
        obtain ⟨v22, hv22, hv3⟩ := mb hv3
        refine C_geti hc rfl iW4 (by decide) 1 (by decide) rfl hv22 w1_105 dX4_addKeep_33 ?_
        refine V_iconst hc (v := (1 : Int32)) dX4_addKeep_36 rfl ?_
        refine V_isub hc dX4_addKeep_37 ?_
        refine V_dup2 hc dX4_addKeep_38 rfl rfl ?_
        obtain ⟨v23, hv23, hv3⟩ := mb hv3
        refine C_iald hc hT hv23 dX4_addKeep_39 ?_
        refine V_iload_n hc dX4_addKeep_40 rfl 1 rfl ?_
        refine V_iadd hc dX4_addKeep_41 ?_
        obtain ⟨S24, hS24, hv3⟩ := mb hv3
        refine C_iast hc hT hS24 dX4_addKeep_42 ?_
        refine V_goto hc dX4_addKeep_43 rfl ?_
        obtain rfl := Option.some.inj hv3
        exact V_sub [] rfl hJ9
  · rw [if_neg hq1] at hf
    obtain rfl := Option.some.inj hf
    exact V_vret hc hz rfl rfl rfl rfl dX4_addKeep_4
noncomputable def f5_isAtCut (S : CS) (h : Nat) : Option (Int32) :=
  (gi S 5 h 2).bind fun v1 =>
  (
    if 0 ≤ v1 then (
      some (0 : Int32)
    ) else (
      some (1 : Int32)
    )
  ).bind fun v2 =>
  (bz v2).bind fun v4 =>
  some v4
theorem hdX_X5_isAtCut : yX5_isAtCut.cls = "FarEditors$Reader" ∧ yX5_isAtCut.cls ≠ "java/lang/invoke/MethodHandle" ∧ yX5_isAtCut.cls ≠ "java/lang/invoke/VarHandle" ∧ (parseMethodDescriptor yX5_isAtCut.desc).map (fun d => d.parameters.length) = some 0 := by decide +kernel
set_option maxHeartbeats 4000000 in
set_option maxRecDepth 100000 in
theorem c5_isAtCut (l : Launch) (D : va_G) (y : CyT) (zM uM : Nat) {S : CS} {h : Nat} {r : Int32} (hf : f5_isAtCut S h = some r) : CT l D (tyL y) yX5_isAtCut cX5_isAtCut 1 (some .boolean) 0 0 zM uM [.ref h] (cZ S) (cU S) (cw y S) (cZ S) (cU S) (cw y S) (some (.int r)) := by
  refine CT.of (by decide) (Nat.le_of_ble_eq_true rfl) (fun E hc hz hnm => ?_)
  have hc : Cx E "FarEditors$Reader" cX5_isAtCut 1 := hc
  have hT := hz.2.2.1
  show V E (cZ S) (cU S) (cw y S) 0 [(0, .ref h)] []
  unfold f5_isAtCut at hf
  refine V_aload_n hc dX5_isAtCut_0 rfl 0 rfl ?_
  obtain ⟨v1, hv1, hf⟩ := mb hf
  refine C_geti hc rfl iW5 (by decide) 2 (by decide) rfl hv1 w1_116 dX5_isAtCut_1 ?_
  obtain ⟨v2, hv3, hf⟩ := mb hf
  have hJ4 : V E (cZ S) (cU S) (cw y S) 12 [] [.int v2] := by
    obtain ⟨v4, hv4, hf⟩ := mb hf
    obtain ⟨hbv4, rfl⟩ := bz_some hv4
    obtain rfl := Option.some.inj hf
    exact V_iret hc hz (bz_nar hbv4) rfl rfl rfl rfl dX5_isAtCut_12
  refine V_if_ge hc dX5_isAtCut_4 rfl (fun hq4 => ?_) (fun hq4 => ?_)
  · rw [if_pos hq4] at hv3
    refine V_iconst hc (v := (0 : Int32)) dX5_isAtCut_11 rfl ?_
    obtain rfl := Option.some.inj hv3
    exact V_sub [] rfl hJ4
  · rw [if_neg hq4] at hv3
    refine V_iconst hc (v := (1 : Int32)) dX5_isAtCut_7 rfl ?_
    refine V_goto hc dX5_isAtCut_8 rfl ?_
    obtain rfl := Option.some.inj hv3
    exact V_sub [] rfl hJ4
noncomputable def f4_addCut (S : CS) (h : Nat) (p1 : Int32) : Option (CS) :=
  if 0 < p1 then (
    (gi S 4 h 1).bind fun v1 =>
    (
      if v1 ≤ 0 then (
        (gi S 4 h 1).bind fun v4 =>
        (gr S 4 h 0).bind fun a5 =>
        (aln S 14 a5).bind fun v6 =>
        if v6 ≤ v4 then (
          some S
        ) else (
          (gr S 4 h 0).bind fun a7 =>
          (gi S 4 h 1).bind fun v8 =>
          (pi S 4 h 1 (v8 + (1 : Int32))).bind fun S9 =>
          (sti S9 a7 v8 (-p1)).bind fun S10 =>
          some S10
        )
      ) else (
        (gr S 4 h 0).bind fun a11 =>
        (gi S 4 h 1).bind fun v12 =>
        (ldi S a11 (v12 - (1 : Int32))).bind fun v13 =>
        if 0 ≤ v13 then (
          (gi S 4 h 1).bind fun v14 =>
          (gr S 4 h 0).bind fun a15 =>
          (aln S 14 a15).bind fun v16 =>
          if v16 ≤ v14 then (
            some S
          ) else (
            (gr S 4 h 0).bind fun a17 =>
            (gi S 4 h 1).bind fun v18 =>
            (pi S 4 h 1 (v18 + (1 : Int32))).bind fun S19 =>
            (sti S19 a17 v18 (-p1)).bind fun S20 =>
            some S20
          )
        ) else (
          (gr S 4 h 0).bind fun a21 =>
          (gi S 4 h 1).bind fun v22 =>
          (ldi S a21 (v22 - (1 : Int32))).bind fun v23 =>
          (sti S a21 (v22 - (1 : Int32)) (v23 - p1)).bind fun S24 =>
          some S24
        )
      )
    ).bind fun S2 =>
    some S2
  ) else (
    some S
  )
theorem hdX_X4_addCut : yX4_addCut.cls = "FarEditors$Op" ∧ yX4_addCut.cls ≠ "java/lang/invoke/MethodHandle" ∧ yX4_addCut.cls ≠ "java/lang/invoke/VarHandle" ∧ (parseMethodDescriptor yX4_addCut.desc).map (fun d => d.parameters.length) = some 1 := by decide +kernel
set_option maxHeartbeats 4000000 in
set_option maxRecDepth 100000 in
theorem c4_addCut (l : Launch) (D : va_G) (y : CyT) (zM uM : Nat) {S S' : CS} {h : Nat} {p1 : Int32} (hf : f4_addCut S h p1 = some S') : CT l D (tyL y) yX4_addCut cX4_addCut 2 none 0 0 zM uM [.ref h, .int p1] (cZ S) (cU S) (cw y S) (cZ S') (cU S') (cw y S') none := by
  refine CT.of (by decide) (Nat.le_of_ble_eq_true rfl) (fun E hc hz hnm => ?_)
  have hc : Cx E "FarEditors$Op" cX4_addCut 2 := hc
  have hT := hz.2.2.1
  show V E (cZ S) (cU S) (cw y S) 0 [(0, .ref h), (1, .int p1)] []
  unfold f4_addCut at hf
  refine V_iload_n hc dX4_addCut_0 rfl 1 rfl ?_
  refine V_if_gt hc dX4_addCut_1 rfl (fun hq1 => ?_) (fun hq1 => ?_)
  · rw [if_pos hq1] at hf
    refine V_aload_n hc dX4_addCut_5 rfl 0 rfl ?_
    obtain ⟨v1, hv1, hf⟩ := mb hf
    refine C_geti hc rfl iW4 (by decide) 1 (by decide) rfl hv1 w1_105 dX4_addCut_6 ?_
    obtain ⟨S2, hv3, hf⟩ := mb hf
    have hJ9 : V E (cZ S2) (cU S2) (cw y S2) 74 [] [] := by
      obtain rfl := Option.some.inj hf
      exact V_vret hc hz rfl rfl rfl rfl dX4_addCut_74
    refine V_if_le hc dX4_addCut_9 rfl (fun hq9 => ?_) (fun hq9 => ?_)
    · rw [if_pos hq9] at hv3
      refine V_aload_n hc dX4_addCut_44 rfl 0 rfl ?_
      obtain ⟨v4, hv4, hv3⟩ := mb hv3
      refine C_geti hc rfl iW4 (by decide) 1 (by decide) rfl hv4 w1_105 dX4_addCut_45 ?_
      refine V_aload_n hc dX4_addCut_48 rfl 0 rfl ?_
      obtain ⟨a5, ha5, hv3⟩ := mb hv3
      refine C_getr hc rfl iW4 (by decide) 0 (by decide) rfl ha5 w1_101 dX4_addCut_49 ?_
      obtain ⟨v6, hv6, hv3⟩ := mb hv3
      refine C_alen hc hT hv6 dX4_addCut_52 ?_
      refine V_icmp_ge hc dX4_addCut_53 rfl (fun hq53 => ?_) (fun hq53 => ?_)
      · rw [if_pos hq53] at hv3
        obtain rfl := Option.some.inj hv3
        exact V_sub [] rfl hJ9
      · rw [if_neg hq53] at hv3
        refine V_aload_n hc dX4_addCut_56 rfl 0 rfl ?_
        obtain ⟨a7, ha7, hv3⟩ := mb hv3
        refine C_getr hc rfl iW4 (by decide) 0 (by decide) rfl ha7 w1_101 dX4_addCut_57 ?_
        refine V_aload_n hc dX4_addCut_60 rfl 0 rfl ?_
        refine V_dup hc dX4_addCut_61 rfl ?_
        obtain ⟨v8, hv8, hv3⟩ := mb hv3
        refine C_geti hc rfl iW4 (by decide) 1 (by decide) rfl hv8 w1_105 dX4_addCut_62 ?_
        refine V_dup_x1 hc dX4_addCut_65 rfl rfl ?_
        refine V_iconst hc (v := (1 : Int32)) dX4_addCut_66 rfl ?_
        refine V_iadd hc dX4_addCut_67 ?_
        obtain ⟨S9, hS9, hv3⟩ := mb hv3
        refine C_puti hc rfl iW4 tyX4 tyX4_ok nmX4 (by decide) 1 (by decide) rfl hS9 w1_105 rfl rfl rfl dX4_addCut_68 ?_
        refine V_iload_n hc dX4_addCut_71 rfl 1 rfl ?_
        refine V_ineg hc dX4_addCut_72 ?_
        obtain ⟨S10, hS10, hv3⟩ := mb hv3
        refine C_iast hc hT hS10 dX4_addCut_73 ?_
        obtain rfl := Option.some.inj hv3
        exact V_sub [] rfl hJ9
    · rw [if_neg hq9] at hv3
      refine V_aload_n hc dX4_addCut_12 rfl 0 rfl ?_
      obtain ⟨a11, ha11, hv3⟩ := mb hv3
      refine C_getr hc rfl iW4 (by decide) 0 (by decide) rfl ha11 w1_101 dX4_addCut_13 ?_
      refine V_aload_n hc dX4_addCut_16 rfl 0 rfl ?_
      obtain ⟨v12, hv12, hv3⟩ := mb hv3
      refine C_geti hc rfl iW4 (by decide) 1 (by decide) rfl hv12 w1_105 dX4_addCut_17 ?_
      refine V_iconst hc (v := (1 : Int32)) dX4_addCut_20 rfl ?_
      refine V_isub hc dX4_addCut_21 ?_
      obtain ⟨v13, hv13, hv3⟩ := mb hv3
      refine C_iald hc hT hv13 dX4_addCut_22 ?_
      refine V_if_ge hc dX4_addCut_23 rfl (fun hq23 => ?_) (fun hq23 => ?_)
      · rw [if_pos hq23] at hv3
        refine V_aload_n hc dX4_addCut_44 rfl 0 rfl ?_
        obtain ⟨v14, hv14, hv3⟩ := mb hv3
        refine C_geti hc rfl iW4 (by decide) 1 (by decide) rfl hv14 w1_105 dX4_addCut_45 ?_
        refine V_aload_n hc dX4_addCut_48 rfl 0 rfl ?_
        obtain ⟨a15, ha15, hv3⟩ := mb hv3
        refine C_getr hc rfl iW4 (by decide) 0 (by decide) rfl ha15 w1_101 dX4_addCut_49 ?_
        obtain ⟨v16, hv16, hv3⟩ := mb hv3
        refine C_alen hc hT hv16 dX4_addCut_52 ?_
        refine V_icmp_ge hc dX4_addCut_53 rfl (fun hq53 => ?_) (fun hq53 => ?_)
        · rw [if_pos hq53] at hv3
          obtain rfl := Option.some.inj hv3
          exact V_sub [] rfl hJ9
        · rw [if_neg hq53] at hv3
          refine V_aload_n hc dX4_addCut_56 rfl 0 rfl ?_
          obtain ⟨a17, ha17, hv3⟩ := mb hv3
          refine C_getr hc rfl iW4 (by decide) 0 (by decide) rfl ha17 w1_101 dX4_addCut_57 ?_
          refine V_aload_n hc dX4_addCut_60 rfl 0 rfl ?_
          refine V_dup hc dX4_addCut_61 rfl ?_
          obtain ⟨v18, hv18, hv3⟩ := mb hv3
          refine C_geti hc rfl iW4 (by decide) 1 (by decide) rfl hv18 w1_105 dX4_addCut_62 ?_
          refine V_dup_x1 hc dX4_addCut_65 rfl rfl ?_
          refine V_iconst hc (v := (1 : Int32)) dX4_addCut_66 rfl ?_
          refine V_iadd hc dX4_addCut_67 ?_
          obtain ⟨S19, hS19, hv3⟩ := mb hv3
          refine C_puti hc rfl iW4 tyX4 tyX4_ok nmX4 (by decide) 1 (by decide) rfl hS19 w1_105 rfl rfl rfl dX4_addCut_68 ?_
          refine V_iload_n hc dX4_addCut_71 rfl 1 rfl ?_
          refine V_ineg hc dX4_addCut_72 ?_
          obtain ⟨S20, hS20, hv3⟩ := mb hv3
          refine C_iast hc hT hS20 dX4_addCut_73 ?_
          obtain rfl := Option.some.inj hv3
          exact V_sub [] rfl hJ9
      · rw [if_neg hq23] at hv3
        refine V_aload_n hc dX4_addCut_26 rfl 0 rfl ?_
        obtain ⟨a21, ha21, hv3⟩ := mb hv3
        refine C_getr hc rfl iW4 (by decide) 0 (by decide) rfl ha21 w1_101 dX4_addCut_27 ?_
        refine V_aload_n hc dX4_addCut_30 rfl 0 rfl ?_
        obtain ⟨v22, hv22, hv3⟩ := mb hv3
        refine C_geti hc rfl iW4 (by decide) 1 (by decide) rfl hv22 w1_105 dX4_addCut_31 ?_
        refine V_iconst hc (v := (1 : Int32)) dX4_addCut_34 rfl ?_
        refine V_isub hc dX4_addCut_35 ?_
        refine V_dup2 hc dX4_addCut_36 rfl rfl ?_
        obtain ⟨v23, hv23, hv3⟩ := mb hv3
        refine C_iald hc hT hv23 dX4_addCut_37 ?_
        refine V_iload_n hc dX4_addCut_38 rfl 1 rfl ?_
        refine V_isub hc dX4_addCut_39 ?_
        obtain ⟨S24, hS24, hv3⟩ := mb hv3
        refine C_iast hc hT hS24 dX4_addCut_40 ?_
        refine V_goto hc dX4_addCut_41 rfl ?_
        obtain rfl := Option.some.inj hv3
        exact V_sub [] rfl hJ9
  · rw [if_neg hq1] at hf
    obtain rfl := Option.some.inj hf
    exact V_vret hc hz rfl rfl rfl rfl dX4_addCut_4
noncomputable def f9_turnCommon (S : CS) (h : Nat) : Option (CS) :=
  (gr S 9 h 0).bind fun a1 =>
  (gi S 5 a1 3).bind fun v2 =>
  (gr S 9 h 1).bind fun a3 =>
  (gi S 5 a3 3).bind fun v4 =>
  if 0 < (if v4 < v2 then v4 else v2) then (
    (gr S 9 h 0).bind fun a5 =>
    (cal S 5 a5 (f5_isAtCut S a5)).bind fun v6 =>
    (gr S 9 h 1).bind fun a7 =>
    (cal S 5 a7 (f5_isAtCut S a7)).bind fun v8 =>
    (
      if v6 = 0 then (
        if v8 = 0 then (
          (gr S 9 h 2).bind fun a19 =>
          (cal S 4 a19 (f4_addKeep S a19 (if v4 < v2 then v4 else v2))).bind fun S20 =>
          (gr S20 9 h 3).bind fun a21 =>
          (cal S20 4 a21 (f4_addKeep S20 a21 (if v4 < v2 then v4 else v2))).bind fun S22 =>
          some S22
        ) else (
          if v8 = 0 then (
            (gr S 9 h 2).bind fun a17 =>
            (cal S 4 a17 (f4_addCut S a17 (if v4 < v2 then v4 else v2))).bind fun S18 =>
            some S18
          ) else (
            if v6 = 0 then (
              (gr S 9 h 3).bind fun a15 =>
              (cal S 4 a15 (f4_addCut S a15 (if v4 < v2 then v4 else v2))).bind fun S16 =>
              some S16
            ) else (
              some S
            )
          )
        )
      ) else (
        if v8 = 0 then (
          (gr S 9 h 2).bind fun a13 =>
          (cal S 4 a13 (f4_addCut S a13 (if v4 < v2 then v4 else v2))).bind fun S14 =>
          some S14
        ) else (
          if v6 = 0 then (
            (gr S 9 h 3).bind fun a11 =>
            (cal S 4 a11 (f4_addCut S a11 (if v4 < v2 then v4 else v2))).bind fun S12 =>
            some S12
          ) else (
            some S
          )
        )
      )
    ).bind fun S9 =>
    (gr S9 9 h 0).bind fun a23 =>
    (cal S9 5 a23 (f5_pass S9 a23 (if v4 < v2 then v4 else v2))).bind fun S24 =>
    (gr S24 9 h 1).bind fun a25 =>
    (cal S24 5 a25 (f5_pass S24 a25 (if v4 < v2 then v4 else v2))).bind fun S26 =>
    some S26
  ) else (
    some S
  )
theorem hdX_X9_turnCommon : yX9_turnCommon.cls = "FarEditors$Weaver" ∧ yX9_turnCommon.cls ≠ "java/lang/invoke/MethodHandle" ∧ yX9_turnCommon.cls ≠ "java/lang/invoke/VarHandle" ∧ (parseMethodDescriptor yX9_turnCommon.desc).map (fun d => d.parameters.length) = some 0 := by decide +kernel
set_option maxHeartbeats 4000000 in
set_option maxRecDepth 100000 in
theorem c9_turnCommon (l : Launch) (D : va_G) (y : CyT) (zM uM : Nat) {S S' : CS} {h : Nat} (hf : f9_turnCommon S h = some S') : CT l D (tyL y) yX9_turnCommon cX9_turnCommon 4 none 1 21 zM uM [.ref h] (cZ S) (cU S) (cw y S) (cZ S') (cU S') (cw y S') none := by
  refine CT.of (by decide) (Nat.le_of_ble_eq_true rfl) (fun E hc hz hnm => ?_)
  have hc : Cx E "FarEditors$Weaver" cX9_turnCommon 4 := hc
  have hT := hz.2.2.1
  show V E (cZ S) (cU S) (cw y S) 0 [(0, .ref h)] []
  unfold f9_turnCommon at hf
  refine V_aload_n hc dX9_turnCommon_0 rfl 0 rfl ?_
  obtain ⟨a1, ha1, hf⟩ := mb hf
  refine C_getr hc rfl iW9 (by decide) 0 (by decide) rfl ha1 w1_131 dX9_turnCommon_1 ?_
  obtain ⟨v2, hv2, hf⟩ := mb hf
  refine C_geti hc rfl iW5 (by decide) 3 (by decide) rfl hv2 w1_119 dX9_turnCommon_4 ?_
  refine V_aload_n hc dX9_turnCommon_7 rfl 0 rfl ?_
  obtain ⟨a3, ha3, hf⟩ := mb hf
  refine C_getr hc rfl iW9 (by decide) 1 (by decide) rfl ha3 w1_132 dX9_turnCommon_8 ?_
  obtain ⟨v4, hv4, hf⟩ := mb hf
  refine C_geti hc rfl iW5 (by decide) 3 (by decide) rfl hv4 w1_119 dX9_turnCommon_11 ?_
  refine C_min hc hz w4_52 w3_194 w1_18 w3_195 ⟨(Nat.le_of_ble_eq_true rfl), (Nat.le_of_ble_eq_true rfl)⟩ (Nat.le_of_ble_eq_true rfl) dX9_turnCommon_14 ?_
  refine V_istore_n hc dX9_turnCommon_17 rfl (by decide) rfl ?_
  refine V_iload_n hc dX9_turnCommon_18 rfl 0 rfl ?_
  refine V_if_gt hc dX9_turnCommon_19 rfl (fun hq19 => ?_) (fun hq19 => ?_)
  · rw [if_pos hq19] at hf
    refine V_aload_n hc dX9_turnCommon_23 rfl 1 rfl ?_
    obtain ⟨a5, ha5, hf⟩ := mb hf
    refine C_getr hc rfl iW9 (by decide) 0 (by decide) rfl ha5 w1_131 dX9_turnCommon_24 ?_
    obtain ⟨v6, hv6, hf⟩ := mb hf
    obtain ⟨hkv6, hv6⟩ := og hv6
    refine C_callV hc hz (As := []) hkv6 (by decide) (c5_isAtCut l D y _ _ hv6) w4_53 w4_54 w4_55 w1_4 w4_56 hdX_X5_isAtCut ⟨(Nat.le_of_ble_eq_true rfl), (Nat.le_of_ble_eq_true rfl)⟩ rfl rfl rfl (Nat.le_of_ble_eq_true rfl) dX9_turnCommon_27 ?_
    refine V_istore_n hc dX9_turnCommon_30 rfl (by decide) rfl ?_
    refine V_aload_n hc dX9_turnCommon_31 rfl 2 rfl ?_
    obtain ⟨a7, ha7, hf⟩ := mb hf
    refine C_getr hc rfl iW9 (by decide) 1 (by decide) rfl ha7 w1_132 dX9_turnCommon_32 ?_
    obtain ⟨v8, hv8, hf⟩ := mb hf
    obtain ⟨hkv8, hv8⟩ := og hv8
    refine C_callV hc hz (As := []) hkv8 (by decide) (c5_isAtCut l D y _ _ hv8) w4_53 w4_54 w4_55 w1_4 w4_56 hdX_X5_isAtCut ⟨(Nat.le_of_ble_eq_true rfl), (Nat.le_of_ble_eq_true rfl)⟩ rfl rfl rfl (Nat.le_of_ble_eq_true rfl) dX9_turnCommon_35 ?_
    refine V_istore_n hc dX9_turnCommon_38 rfl (by decide) rfl ?_
    refine V_iload_n hc dX9_turnCommon_39 rfl 1 rfl ?_
    obtain ⟨S9, hv10, hf⟩ := mb hf
    have hJ40 : V E (cZ S9) (cU S9) (cw y S9) 93 [(0, .ref h), (1, .int (if v4 < v2 then v4 else v2))] [] := by
      refine V_aload_n hc dX9_turnCommon_93 rfl 0 rfl ?_
      obtain ⟨a23, ha23, hf⟩ := mb hf
      refine C_getr hc rfl iW9 (by decide) 0 (by decide) rfl ha23 w1_131 dX9_turnCommon_94 ?_
      refine V_iload_n hc dX9_turnCommon_97 rfl 1 rfl ?_
      obtain ⟨S24, hS24, hf⟩ := mb hf
      obtain ⟨hkS24, hS24⟩ := og hS24
      refine C_callV hc hz (As := [.int (if v4 < v2 then v4 else v2)]) hkS24 (by decide) (c5_pass l D y _ _ hS24) w4_47 w4_32 w4_33 w1_4 w4_34 hdX_X5_pass ⟨(Nat.le_of_ble_eq_true rfl), (Nat.le_of_ble_eq_true rfl)⟩ rfl rfl rfl (Nat.le_of_ble_eq_true rfl) dX9_turnCommon_98 ?_
      refine V_aload_n hc dX9_turnCommon_101 rfl 0 rfl ?_
      obtain ⟨a25, ha25, hf⟩ := mb hf
      refine C_getr hc rfl iW9 (by decide) 1 (by decide) rfl ha25 w1_132 dX9_turnCommon_102 ?_
      refine V_iload_n hc dX9_turnCommon_105 rfl 1 rfl ?_
      obtain ⟨S26, hS26, hf⟩ := mb hf
      obtain ⟨hkS26, hS26⟩ := og hS26
      refine C_callV hc hz (As := [.int (if v4 < v2 then v4 else v2)]) hkS26 (by decide) (c5_pass l D y _ _ hS26) w4_47 w4_32 w4_33 w1_4 w4_34 hdX_X5_pass ⟨(Nat.le_of_ble_eq_true rfl), (Nat.le_of_ble_eq_true rfl)⟩ rfl rfl rfl (Nat.le_of_ble_eq_true rfl) dX9_turnCommon_106 ?_
      obtain rfl := Option.some.inj hf
      exact V_vret hc hz rfl rfl rfl rfl dX9_turnCommon_109
    refine V_if_ne hc dX9_turnCommon_40 rfl (fun hq40 => ?_) (fun hq40 => ?_)
    · rw [if_neg hq40] at hv10
      refine V_iload_n hc dX9_turnCommon_66 rfl 0 rfl ?_
      refine V_if_ne hc dX9_turnCommon_67 rfl (fun hq67 => ?_) (fun hq67 => ?_)
      · rw [if_neg hq67] at hv10
        refine V_iload_n hc dX9_turnCommon_81 rfl 1 rfl ?_
        refine V_if_ne hc dX9_turnCommon_82 rfl (fun hq82 => ?_) (fun hq82 => ?_)
        · rw [if_neg hq82] at hv10
          obtain rfl := Option.some.inj hv10
          exact V_sub [3, 2] rfl hJ40
        · rw [if_pos hq82] at hv10
          refine V_aload_n hc dX9_turnCommon_85 rfl 3 rfl ?_
          obtain ⟨a11, ha11, hv10⟩ := mb hv10
          refine C_getr hc rfl iW9 (by decide) 3 (by decide) rfl ha11 w1_134 dX9_turnCommon_86 ?_
          refine V_iload_n hc dX9_turnCommon_89 rfl 2 rfl ?_
          obtain ⟨S12, hS12, hv10⟩ := mb hv10
          obtain ⟨hkS12, hS12⟩ := og hS12
          refine C_callV hc hz (As := [.int (if v4 < v2 then v4 else v2)]) hkS12 (by decide) (c4_addCut l D y _ _ hS12) w4_57 w4_58 w4_59 w1_5 w4_60 hdX_X4_addCut ⟨(Nat.le_of_ble_eq_true rfl), (Nat.le_of_ble_eq_true rfl)⟩ rfl rfl rfl (Nat.le_of_ble_eq_true rfl) dX9_turnCommon_90 ?_
          obtain rfl := Option.some.inj hv10
          exact V_sub [3, 2] rfl hJ40
      · rw [if_pos hq67] at hv10
        refine V_aload_n hc dX9_turnCommon_70 rfl 3 rfl ?_
        obtain ⟨a13, ha13, hv10⟩ := mb hv10
        refine C_getr hc rfl iW9 (by decide) 2 (by decide) rfl ha13 w1_133 dX9_turnCommon_71 ?_
        refine V_iload_n hc dX9_turnCommon_74 rfl 2 rfl ?_
        obtain ⟨S14, hS14, hv10⟩ := mb hv10
        obtain ⟨hkS14, hS14⟩ := og hS14
        refine C_callV hc hz (As := [.int (if v4 < v2 then v4 else v2)]) hkS14 (by decide) (c4_addCut l D y _ _ hS14) w4_57 w4_58 w4_59 w1_5 w4_60 hdX_X4_addCut ⟨(Nat.le_of_ble_eq_true rfl), (Nat.le_of_ble_eq_true rfl)⟩ rfl rfl rfl (Nat.le_of_ble_eq_true rfl) dX9_turnCommon_75 ?_
        refine V_goto hc dX9_turnCommon_78 rfl ?_
        obtain rfl := Option.some.inj hv10
        exact V_sub [3, 2] rfl hJ40
    · rw [if_pos hq40] at hv10
      refine V_iload_n hc dX9_turnCommon_43 rfl 0 rfl ?_
      refine V_if_ne hc dX9_turnCommon_44 rfl (fun hq44 => ?_) (fun hq44 => ?_)
      · rw [if_neg hq44] at hv10
        refine V_iload_n hc dX9_turnCommon_66 rfl 0 rfl ?_
        refine V_if_ne hc dX9_turnCommon_67 rfl (fun hq67 => ?_) (fun hq67 => ?_)
        · rw [if_neg hq67] at hv10
          refine V_iload_n hc dX9_turnCommon_81 rfl 1 rfl ?_
          refine V_if_ne hc dX9_turnCommon_82 rfl (fun hq82 => ?_) (fun hq82 => ?_)
          · rw [if_neg hq82] at hv10
            obtain rfl := Option.some.inj hv10
            exact V_sub [3, 2] rfl hJ40
          · rw [if_pos hq82] at hv10
            refine V_aload_n hc dX9_turnCommon_85 rfl 3 rfl ?_
            obtain ⟨a15, ha15, hv10⟩ := mb hv10
            refine C_getr hc rfl iW9 (by decide) 3 (by decide) rfl ha15 w1_134 dX9_turnCommon_86 ?_
            refine V_iload_n hc dX9_turnCommon_89 rfl 2 rfl ?_
            obtain ⟨S16, hS16, hv10⟩ := mb hv10
            obtain ⟨hkS16, hS16⟩ := og hS16
            refine C_callV hc hz (As := [.int (if v4 < v2 then v4 else v2)]) hkS16 (by decide) (c4_addCut l D y _ _ hS16) w4_57 w4_58 w4_59 w1_5 w4_60 hdX_X4_addCut ⟨(Nat.le_of_ble_eq_true rfl), (Nat.le_of_ble_eq_true rfl)⟩ rfl rfl rfl (Nat.le_of_ble_eq_true rfl) dX9_turnCommon_90 ?_
            obtain rfl := Option.some.inj hv10
            exact V_sub [3, 2] rfl hJ40
        · rw [if_pos hq67] at hv10
          refine V_aload_n hc dX9_turnCommon_70 rfl 3 rfl ?_
          obtain ⟨a17, ha17, hv10⟩ := mb hv10
          refine C_getr hc rfl iW9 (by decide) 2 (by decide) rfl ha17 w1_133 dX9_turnCommon_71 ?_
          refine V_iload_n hc dX9_turnCommon_74 rfl 2 rfl ?_
          obtain ⟨S18, hS18, hv10⟩ := mb hv10
          obtain ⟨hkS18, hS18⟩ := og hS18
          refine C_callV hc hz (As := [.int (if v4 < v2 then v4 else v2)]) hkS18 (by decide) (c4_addCut l D y _ _ hS18) w4_57 w4_58 w4_59 w1_5 w4_60 hdX_X4_addCut ⟨(Nat.le_of_ble_eq_true rfl), (Nat.le_of_ble_eq_true rfl)⟩ rfl rfl rfl (Nat.le_of_ble_eq_true rfl) dX9_turnCommon_75 ?_
          refine V_goto hc dX9_turnCommon_78 rfl ?_
          obtain rfl := Option.some.inj hv10
          exact V_sub [3, 2] rfl hJ40
      · rw [if_pos hq44] at hv10
        refine V_aload_n hc dX9_turnCommon_47 rfl 3 rfl ?_
        obtain ⟨a19, ha19, hv10⟩ := mb hv10
        refine C_getr hc rfl iW9 (by decide) 2 (by decide) rfl ha19 w1_133 dX9_turnCommon_48 ?_
        refine V_iload_n hc dX9_turnCommon_51 rfl 2 rfl ?_
        obtain ⟨S20, hS20, hv10⟩ := mb hv10
        obtain ⟨hkS20, hS20⟩ := og hS20
        refine C_callV hc hz (As := [.int (if v4 < v2 then v4 else v2)]) hkS20 (by decide) (c4_addKeep l D y _ _ hS20) w4_43 w4_44 w4_45 w1_5 w4_46 hdX_X4_addKeep ⟨(Nat.le_of_ble_eq_true rfl), (Nat.le_of_ble_eq_true rfl)⟩ rfl rfl rfl (Nat.le_of_ble_eq_true rfl) dX9_turnCommon_52 ?_
        refine V_aload_n hc dX9_turnCommon_55 rfl 3 rfl ?_
        obtain ⟨a21, ha21, hv10⟩ := mb hv10
        refine C_getr hc rfl iW9 (by decide) 3 (by decide) rfl ha21 w1_134 dX9_turnCommon_56 ?_
        refine V_iload_n hc dX9_turnCommon_59 rfl 2 rfl ?_
        obtain ⟨S22, hS22, hv10⟩ := mb hv10
        obtain ⟨hkS22, hS22⟩ := og hS22
        refine C_callV hc hz (As := [.int (if v4 < v2 then v4 else v2)]) hkS22 (by decide) (c4_addKeep l D y _ _ hS22) w4_43 w4_44 w4_45 w1_5 w4_46 hdX_X4_addKeep ⟨(Nat.le_of_ble_eq_true rfl), (Nat.le_of_ble_eq_true rfl)⟩ rfl rfl rfl (Nat.le_of_ble_eq_true rfl) dX9_turnCommon_60 ?_
        refine V_goto hc dX9_turnCommon_63 rfl ?_
        obtain rfl := Option.some.inj hv10
        exact V_sub [3, 2] rfl hJ40
  · rw [if_neg hq19] at hf
    obtain rfl := Option.some.inj hf
    exact V_vret hc hz rfl rfl rfl rfl dX9_turnCommon_22
noncomputable def f4_swap (S : CS) (h : Nat) (p1 : Nat) : Option (CS) :=
  (gr S 4 h 0).bind fun a1 =>
  (gi S 4 h 1).bind fun v2 =>
  (gr S 4 p1 0).bind fun a3 =>
  (pr S 4 h 0 a3).bind fun S4 =>
  (gi S4 4 p1 1).bind fun v5 =>
  (pi S4 4 h 1 v5).bind fun S6 =>
  (pr S6 4 p1 0 a1).bind fun S7 =>
  (pi S7 4 p1 1 v2).bind fun S8 =>
  some S8
theorem hdX_X4_swap : yX4_swap.cls = "FarEditors$Op" ∧ yX4_swap.cls ≠ "java/lang/invoke/MethodHandle" ∧ yX4_swap.cls ≠ "java/lang/invoke/VarHandle" ∧ (parseMethodDescriptor yX4_swap.desc).map (fun d => d.parameters.length) = some 1 := by decide +kernel
set_option maxHeartbeats 4000000 in
set_option maxRecDepth 100000 in
theorem c4_swap (l : Launch) (D : va_G) (y : CyT) (zM uM : Nat) {S S' : CS} {h : Nat} {p1 : Nat} (hf : f4_swap S h p1 = some S') : CT l D (tyL y) yX4_swap cX4_swap 4 none 0 0 zM uM [.ref h, .ref p1] (cZ S) (cU S) (cw y S) (cZ S') (cU S') (cw y S') none := by
  refine CT.of (by decide) (Nat.le_of_ble_eq_true rfl) (fun E hc hz hnm => ?_)
  have hc : Cx E "FarEditors$Op" cX4_swap 4 := hc
  have hT := hz.2.2.1
  show V E (cZ S) (cU S) (cw y S) 0 [(0, .ref h), (1, .ref p1)] []
  unfold f4_swap at hf
  refine V_aload_n hc dX4_swap_0 rfl 0 rfl ?_
  obtain ⟨a1, ha1, hf⟩ := mb hf
  refine C_getr hc rfl iW4 (by decide) 0 (by decide) rfl ha1 w1_101 dX4_swap_1 ?_
  refine V_astore_n hc dX4_swap_4 rfl (by decide) rfl ?_
  refine V_aload_n hc dX4_swap_5 rfl 1 rfl ?_
  obtain ⟨v2, hv2, hf⟩ := mb hf
  refine C_geti hc rfl iW4 (by decide) 1 (by decide) rfl hv2 w1_105 dX4_swap_6 ?_
  refine V_istore_n hc dX4_swap_9 rfl (by decide) rfl ?_
  refine V_aload_n hc dX4_swap_10 rfl 2 rfl ?_
  refine V_aload_n hc dX4_swap_11 rfl 3 rfl ?_
  obtain ⟨a3, ha3, hf⟩ := mb hf
  refine C_getr hc rfl iW4 (by decide) 0 (by decide) rfl ha3 w1_101 dX4_swap_12 ?_
  obtain ⟨S4, hS4, hf⟩ := mb hf
  refine C_putr hc rfl iW4 tyX4 tyX4_ok nmX4 (by decide) 0 (by decide) rfl hS4 w1_101 rfl rfl rfl dX4_swap_15 ?_
  refine V_aload_n hc dX4_swap_18 rfl 2 rfl ?_
  refine V_aload_n hc dX4_swap_19 rfl 3 rfl ?_
  obtain ⟨v5, hv5, hf⟩ := mb hf
  refine C_geti hc rfl iW4 (by decide) 1 (by decide) rfl hv5 w1_105 dX4_swap_20 ?_
  obtain ⟨S6, hS6, hf⟩ := mb hf
  refine C_puti hc rfl iW4 tyX4 tyX4_ok nmX4 (by decide) 1 (by decide) rfl hS6 w1_105 rfl rfl rfl dX4_swap_23 ?_
  refine V_aload_n hc dX4_swap_26 rfl 3 rfl ?_
  refine V_aload_n hc dX4_swap_27 rfl 1 rfl ?_
  obtain ⟨S7, hS7, hf⟩ := mb hf
  refine C_putr hc rfl iW4 tyX4 tyX4_ok nmX4 (by decide) 0 (by decide) rfl hS7 w1_101 rfl rfl rfl dX4_swap_28 ?_
  refine V_aload_n hc dX4_swap_31 rfl 3 rfl ?_
  refine V_iload_n hc dX4_swap_32 rfl 0 rfl ?_
  obtain ⟨S8, hS8, hf⟩ := mb hf
  refine C_puti hc rfl iW4 tyX4 tyX4_ok nmX4 (by decide) 1 (by decide) rfl hS8 w1_105 rfl rfl rfl dX4_swap_33 ?_
  obtain rfl := Option.some.inj hf
  exact V_vret hc hz rfl rfl rfl rfl dX4_swap_36
noncomputable def f7_hasPlace (S : CS) (h : Nat) (p1 : Int32) : Option (Int32) :=
  (
    if p1 < 0 then (
      some (0 : Int32)
    ) else (
      (gi S 7 h 1).bind fun v3 =>
      if v3 ≤ p1 then (
        some (0 : Int32)
      ) else (
        some (1 : Int32)
      )
    )
  ).bind fun v1 =>
  (bz v1).bind fun v4 =>
  some v4
theorem hdX_X7_hasPlace : yX7_hasPlace.cls = "FarEditors$Text" ∧ yX7_hasPlace.cls ≠ "java/lang/invoke/MethodHandle" ∧ yX7_hasPlace.cls ≠ "java/lang/invoke/VarHandle" ∧ (parseMethodDescriptor yX7_hasPlace.desc).map (fun d => d.parameters.length) = some 1 := by decide +kernel
set_option maxHeartbeats 4000000 in
set_option maxRecDepth 100000 in
theorem c7_hasPlace (l : Launch) (D : va_G) (y : CyT) (zM uM : Nat) {S : CS} {h : Nat} {p1 : Int32} {r : Int32} (hf : f7_hasPlace S h p1 = some r) : CT l D (tyL y) yX7_hasPlace cX7_hasPlace 2 (some .boolean) 0 0 zM uM [.ref h, .int p1] (cZ S) (cU S) (cw y S) (cZ S) (cU S) (cw y S) (some (.int r)) := by
  refine CT.of (by decide) (Nat.le_of_ble_eq_true rfl) (fun E hc hz hnm => ?_)
  have hc : Cx E "FarEditors$Text" cX7_hasPlace 2 := hc
  have hT := hz.2.2.1
  show V E (cZ S) (cU S) (cw y S) 0 [(0, .ref h), (1, .int p1)] []
  unfold f7_hasPlace at hf
  refine V_iload_n hc dX7_hasPlace_0 rfl 1 rfl ?_
  obtain ⟨v1, hv2, hf⟩ := mb hf
  have hJ1 : V E (cZ S) (cU S) (cw y S) 17 [] [.int v1] := by
    obtain ⟨v4, hv4, hf⟩ := mb hf
    obtain ⟨hbv4, rfl⟩ := bz_some hv4
    obtain rfl := Option.some.inj hf
    exact V_iret hc hz (bz_nar hbv4) rfl rfl rfl rfl dX7_hasPlace_17
  refine V_if_lt hc dX7_hasPlace_1 rfl (fun hq1 => ?_) (fun hq1 => ?_)
  · rw [if_pos hq1] at hv2
    refine V_iconst hc (v := (0 : Int32)) dX7_hasPlace_16 rfl ?_
    obtain rfl := Option.some.inj hv2
    exact V_sub [] rfl hJ1
  · rw [if_neg hq1] at hv2
    refine V_iload_n hc dX7_hasPlace_4 rfl 1 rfl ?_
    refine V_aload_n hc dX7_hasPlace_5 rfl 0 rfl ?_
    obtain ⟨v3, hv3, hv2⟩ := mb hv2
    refine C_geti hc rfl iW7 (by decide) 1 (by decide) rfl hv3 w1_168 dX7_hasPlace_6 ?_
    refine V_icmp_ge hc dX7_hasPlace_9 rfl (fun hq9 => ?_) (fun hq9 => ?_)
    · rw [if_pos hq9] at hv2
      refine V_iconst hc (v := (0 : Int32)) dX7_hasPlace_16 rfl ?_
      obtain rfl := Option.some.inj hv2
      exact V_sub [] rfl hJ1
    · rw [if_neg hq9] at hv2
      refine V_iconst hc (v := (1 : Int32)) dX7_hasPlace_12 rfl ?_
      refine V_goto hc dX7_hasPlace_13 rfl ?_
      obtain rfl := Option.some.inj hv2
      exact V_sub [] rfl hJ1
noncomputable def f7_writerOf (S : CS) (h : Nat) (p1 : Int32) : Option (Int32) :=
  (cal S 7 h (f7_hasPlace S h p1)).bind fun v1 =>
  (
    if v1 = 0 then (
      some (0 : Int32)
    ) else (
      (gr S 7 h 0).bind fun a4 =>
      (ldi S a4 p1).bind fun v5 =>
      some (v5 >>> ((5 : Int32) &&& 31))
    )
  ).bind fun v2 =>
  some v2
theorem hdX_X7_writerOf : yX7_writerOf.cls = "FarEditors$Text" ∧ yX7_writerOf.cls ≠ "java/lang/invoke/MethodHandle" ∧ yX7_writerOf.cls ≠ "java/lang/invoke/VarHandle" ∧ (parseMethodDescriptor yX7_writerOf.desc).map (fun d => d.parameters.length) = some 1 := by decide +kernel
set_option maxHeartbeats 4000000 in
set_option maxRecDepth 100000 in
theorem c7_writerOf (l : Launch) (D : va_G) (y : CyT) (zM uM : Nat) {S : CS} {h : Nat} {p1 : Int32} {r : Int32} (hf : f7_writerOf S h p1 = some r) : CT l D (tyL y) yX7_writerOf cX7_writerOf 2 (some .int) 1 21 zM uM [.ref h, .int p1] (cZ S) (cU S) (cw y S) (cZ S) (cU S) (cw y S) (some (.int r)) := by
  refine CT.of (by decide) (Nat.le_of_ble_eq_true rfl) (fun E hc hz hnm => ?_)
  have hc : Cx E "FarEditors$Text" cX7_writerOf 2 := hc
  have hT := hz.2.2.1
  show V E (cZ S) (cU S) (cw y S) 0 [(0, .ref h), (1, .int p1)] []
  unfold f7_writerOf at hf
  refine V_aload_n hc dX7_writerOf_0 rfl 0 rfl ?_
  refine V_iload_n hc dX7_writerOf_1 rfl 1 rfl ?_
  obtain ⟨v1, hv1, hf⟩ := mb hf
  obtain ⟨hkv1, hv1⟩ := og hv1
  refine C_callV hc hz (As := [.int p1]) hkv1 (by decide) (c7_hasPlace l D y _ _ hv1) w4_73 w4_74 w4_75 w1_7 w4_76 hdX_X7_hasPlace ⟨(Nat.le_of_ble_eq_true rfl), (Nat.le_of_ble_eq_true rfl)⟩ rfl rfl rfl (Nat.le_of_ble_eq_true rfl) dX7_writerOf_2 ?_
  obtain ⟨v2, hv3, hf⟩ := mb hf
  have hJ5 : V E (cZ S) (cU S) (cw y S) 20 [] [.int v2] := by
    obtain rfl := Option.some.inj hf
    exact V_iret hc hz rfl rfl rfl rfl rfl dX7_writerOf_20
  refine V_if_eq hc dX7_writerOf_5 rfl (fun hq5 => ?_) (fun hq5 => ?_)
  · rw [if_pos hq5] at hv3
    refine V_iconst hc (v := (0 : Int32)) dX7_writerOf_19 rfl ?_
    obtain rfl := Option.some.inj hv3
    exact V_sub [] rfl hJ5
  · rw [if_neg hq5] at hv3
    refine V_aload_n hc dX7_writerOf_8 rfl 0 rfl ?_
    obtain ⟨a4, ha4, hv3⟩ := mb hv3
    refine C_getr hc rfl iW7 (by decide) 0 (by decide) rfl ha4 w1_166 dX7_writerOf_9 ?_
    refine V_iload_n hc dX7_writerOf_12 rfl 1 rfl ?_
    obtain ⟨v5, hv5, hv3⟩ := mb hv3
    refine C_iald hc hT hv5 dX7_writerOf_13 ?_
    refine V_iconst hc (v := (5 : Int32)) dX7_writerOf_14 rfl ?_
    refine V_ishr hc dX7_writerOf_15 ?_
    refine V_goto hc dX7_writerOf_16 rfl ?_
    obtain rfl := Option.some.inj hv3
    exact V_sub [] rfl hJ5
noncomputable def f10_ownerOf (S : CS) (h : Nat) (p1 : Int32) : Option (Int32) :=
  (
    if p1 < (1 : Int32) then (
      some (-1 : Int32)
    ) else (
      (gi S 10 h 11).bind fun v3 =>
      if v3 < p1 then (
        some (-1 : Int32)
      ) else (
        (gr S 10 h 0).bind fun a4 =>
        (gr S 6 a4 2).bind fun a5 =>
        (ldi S a5 (p1 - (1 : Int32))).bind fun v6 =>
        some v6
      )
    )
  ).bind fun v1 =>
  some v1
theorem hdX_X10_ownerOf : yX10_ownerOf.cls = "FarEditors$World" ∧ yX10_ownerOf.cls ≠ "java/lang/invoke/MethodHandle" ∧ yX10_ownerOf.cls ≠ "java/lang/invoke/VarHandle" ∧ (parseMethodDescriptor yX10_ownerOf.desc).map (fun d => d.parameters.length) = some 1 := by decide +kernel
set_option maxHeartbeats 4000000 in
set_option maxRecDepth 100000 in
theorem c10_ownerOf (l : Launch) (D : va_G) (y : CyT) (zM uM : Nat) {S : CS} {h : Nat} {p1 : Int32} {r : Int32} (hf : f10_ownerOf S h p1 = some r) : CT l D (tyL y) yX10_ownerOf cX10_ownerOf 2 (some .int) 0 0 zM uM [.ref h, .int p1] (cZ S) (cU S) (cw y S) (cZ S) (cU S) (cw y S) (some (.int r)) := by
  refine CT.of (by decide) (Nat.le_of_ble_eq_true rfl) (fun E hc hz hnm => ?_)
  have hc : Cx E "FarEditors$World" cX10_ownerOf 2 := hc
  have hT := hz.2.2.1
  show V E (cZ S) (cU S) (cw y S) 0 [(0, .ref h), (1, .int p1)] []
  unfold f10_ownerOf at hf
  refine V_iload_n hc dX10_ownerOf_0 rfl 1 rfl ?_
  refine V_iconst hc (v := (1 : Int32)) dX10_ownerOf_1 rfl ?_
  obtain ⟨v1, hv2, hf⟩ := mb hf
  have hJ2 : V E (cZ S) (cU S) (cw y S) 28 [] [.int v1] := by
    obtain rfl := Option.some.inj hf
    exact V_iret hc hz rfl rfl rfl rfl rfl dX10_ownerOf_28
  refine V_icmp_lt hc dX10_ownerOf_2 rfl (fun hq2 => ?_) (fun hq2 => ?_)
  · rw [if_pos hq2] at hv2
    refine V_iconst hc (v := (-1 : Int32)) dX10_ownerOf_27 rfl ?_
    obtain rfl := Option.some.inj hv2
    exact V_sub [] rfl hJ2
  · rw [if_neg hq2] at hv2
    refine V_iload_n hc dX10_ownerOf_5 rfl 1 rfl ?_
    refine V_aload_n hc dX10_ownerOf_6 rfl 0 rfl ?_
    obtain ⟨v3, hv3, hv2⟩ := mb hv2
    refine C_geti hc rfl iW10 (by decide) 11 (by decide) rfl hv3 w2_95 dX10_ownerOf_7 ?_
    refine V_icmp_gt hc dX10_ownerOf_10 rfl (fun hq10 => ?_) (fun hq10 => ?_)
    · rw [if_pos hq10] at hv2
      refine V_iconst hc (v := (-1 : Int32)) dX10_ownerOf_27 rfl ?_
      obtain rfl := Option.some.inj hv2
      exact V_sub [] rfl hJ2
    · rw [if_neg hq10] at hv2
      refine V_aload_n hc dX10_ownerOf_13 rfl 0 rfl ?_
      obtain ⟨a4, ha4, hv2⟩ := mb hv2
      refine C_getr hc rfl iW10 (by decide) 0 (by decide) rfl ha4 w2_71 dX10_ownerOf_14 ?_
      obtain ⟨a5, ha5, hv2⟩ := mb hv2
      refine C_getr hc rfl iW6 (by decide) 2 (by decide) rfl ha5 w1_187 dX10_ownerOf_17 ?_
      refine V_iload_n hc dX10_ownerOf_20 rfl 1 rfl ?_
      refine V_iconst hc (v := (1 : Int32)) dX10_ownerOf_21 rfl ?_
      refine V_isub hc dX10_ownerOf_22 ?_
      obtain ⟨v6, hv6, hv2⟩ := mb hv2
      refine C_iald hc hT hv6 dX10_ownerOf_23 ?_
      refine V_goto hc dX10_ownerOf_24 rfl ?_
      obtain rfl := Option.some.inj hv2
      exact V_sub [] rfl hJ2
noncomputable def f7_letterAt (S : CS) (h : Nat) (p1 : Int32) : Option (Int32) :=
  (cal S 7 h (f7_hasPlace S h p1)).bind fun v1 =>
  (
    if v1 = 0 then (
      some (0 : Int32)
    ) else (
      (gr S 7 h 0).bind fun a4 =>
      (ldi S a4 p1).bind fun v5 =>
      some (v5 &&& (31 : Int32))
    )
  ).bind fun v2 =>
  some v2
theorem hdX_X7_letterAt : yX7_letterAt.cls = "FarEditors$Text" ∧ yX7_letterAt.cls ≠ "java/lang/invoke/MethodHandle" ∧ yX7_letterAt.cls ≠ "java/lang/invoke/VarHandle" ∧ (parseMethodDescriptor yX7_letterAt.desc).map (fun d => d.parameters.length) = some 1 := by decide +kernel
set_option maxHeartbeats 4000000 in
set_option maxRecDepth 100000 in
theorem c7_letterAt (l : Launch) (D : va_G) (y : CyT) (zM uM : Nat) {S : CS} {h : Nat} {p1 : Int32} {r : Int32} (hf : f7_letterAt S h p1 = some r) : CT l D (tyL y) yX7_letterAt cX7_letterAt 2 (some .int) 1 21 zM uM [.ref h, .int p1] (cZ S) (cU S) (cw y S) (cZ S) (cU S) (cw y S) (some (.int r)) := by
  refine CT.of (by decide) (Nat.le_of_ble_eq_true rfl) (fun E hc hz hnm => ?_)
  have hc : Cx E "FarEditors$Text" cX7_letterAt 2 := hc
  have hT := hz.2.2.1
  show V E (cZ S) (cU S) (cw y S) 0 [(0, .ref h), (1, .int p1)] []
  unfold f7_letterAt at hf
  refine V_aload_n hc dX7_letterAt_0 rfl 0 rfl ?_
  refine V_iload_n hc dX7_letterAt_1 rfl 1 rfl ?_
  obtain ⟨v1, hv1, hf⟩ := mb hf
  obtain ⟨hkv1, hv1⟩ := og hv1
  refine C_callV hc hz (As := [.int p1]) hkv1 (by decide) (c7_hasPlace l D y _ _ hv1) w4_73 w4_74 w4_75 w1_7 w4_76 hdX_X7_hasPlace ⟨(Nat.le_of_ble_eq_true rfl), (Nat.le_of_ble_eq_true rfl)⟩ rfl rfl rfl (Nat.le_of_ble_eq_true rfl) dX7_letterAt_2 ?_
  obtain ⟨v2, hv3, hf⟩ := mb hf
  have hJ5 : V E (cZ S) (cU S) (cw y S) 21 [] [.int v2] := by
    obtain rfl := Option.some.inj hf
    exact V_iret hc hz rfl rfl rfl rfl rfl dX7_letterAt_21
  refine V_if_eq hc dX7_letterAt_5 rfl (fun hq5 => ?_) (fun hq5 => ?_)
  · rw [if_pos hq5] at hv3
    refine V_iconst hc (v := (0 : Int32)) dX7_letterAt_20 rfl ?_
    obtain rfl := Option.some.inj hv3
    exact V_sub [] rfl hJ5
  · rw [if_neg hq5] at hv3
    refine V_aload_n hc dX7_letterAt_8 rfl 0 rfl ?_
    obtain ⟨a4, ha4, hv3⟩ := mb hv3
    refine C_getr hc rfl iW7 (by decide) 0 (by decide) rfl ha4 w1_166 dX7_letterAt_9 ?_
    refine V_iload_n hc dX7_letterAt_12 rfl 1 rfl ?_
    obtain ⟨v5, hv5, hv3⟩ := mb hv3
    refine C_iald hc hT hv5 dX7_letterAt_13 ?_
    refine V_bipush hc (v := (31 : Int32)) dX7_letterAt_14 rfl ?_
    refine V_iand hc dX7_letterAt_16 ?_
    refine V_goto hc dX7_letterAt_17 rfl ?_
    obtain rfl := Option.some.inj hv3
    exact V_sub [] rfl hJ5
noncomputable def f4_init (X : Nat × Nat) (S : CS) (h : Nat) : Option (CS) :=
  (nwa X S 14 (8 : Int32)).bind fun S1 =>
  (pr S1 4 h 0 (cZ S)).bind fun S2 =>
  (pi S2 4 h 1 (0 : Int32)).bind fun S3 =>
  some S3
theorem hdX_X4_init : yX4_init.cls = "FarEditors$Op" ∧ yX4_init.cls ≠ "java/lang/invoke/MethodHandle" ∧ yX4_init.cls ≠ "java/lang/invoke/VarHandle" ∧ (parseMethodDescriptor yX4_init.desc).map (fun d => d.parameters.length) = some 0 := by decide +kernel
set_option maxHeartbeats 4000000 in
set_option maxRecDepth 100000 in
theorem c4_init (l : Launch) (D : va_G) (y : CyT) (X : Nat × Nat) (hX : X.2 ≤ 100000000) {S S' : CS} {h : Nat} (hf : f4_init X S h = some S') : CT l D (tyL y) yX4_init cX4_init 1 none 1 20 X.1 X.2 [.ref h] (cZ S) (cU S) (cw y S) (cZ S') (cU S') (cw y S') none := by
  refine CT.of (by decide) (Nat.le_of_ble_eq_true rfl) (fun E hc hz hnm => ?_)
  have hc : Cx E "FarEditors$Op" cX4_init 1 := hc
  have hnm : (xH E).name = "<init>" := hnm
  have hT := hz.2.2.1
  show V E (cZ S) (cU S) (cw y S) 0 [(0, .ref h)] []
  unfold f4_init at hf
  refine V_aload_n hc dX4_init_0 rfl 0 rfl ?_
  refine V_objInit hc hz w1_100 w1_27 w1_28 ⟨(Nat.le_of_ble_eq_true rfl), (Nat.le_of_ble_eq_true rfl)⟩ (Nat.le_of_ble_eq_true rfl) dX4_init_1 ?_
  refine V_aload_n hc dX4_init_4 rfl 0 rfl ?_
  refine V_bipush hc (v := (8 : Int32)) dX4_init_5 rfl ?_
  obtain ⟨S1, hS1, hf⟩ := mb hf
  refine C_newi hc hz hS1 hX w1_82 dX4_init_7 ?_
  obtain ⟨S2, hS2, hf⟩ := mb hf
  refine C_putr hc rfl iW4 tyX4 tyX4_ok nmX4 (by decide) 0 (by decide) rfl hS2 w1_101 rfl rfl rfl dX4_init_9 ?_
  refine V_aload_n hc dX4_init_12 rfl 0 rfl ?_
  refine V_iconst hc (v := (0 : Int32)) dX4_init_13 rfl ?_
  obtain ⟨S3, hS3, hf⟩ := mb hf
  refine C_puti hc rfl iW4 tyX4 tyX4_ok nmX4 (by decide) 1 (by decide) rfl hS3 w1_105 rfl rfl rfl dX4_init_14 ?_
  obtain rfl := Option.some.inj hf
  exact V_vret hc hz rfl rfl rfl rfl dX4_init_17
noncomputable def f1_init (X : Nat × Nat) (S : CS) (h : Nat) : Option (CS) :=
  (nwo X S 7 2).bind fun S1 =>
  (f7_init X S1 (cZ S)).bind fun S2 =>
  (pr S2 1 h 0 (cZ S)).bind fun S3 =>
  (nwo X S3 4 2).bind fun S4 =>
  (f4_init X S4 (cZ S3)).bind fun S5 =>
  (pr S5 1 h 1 (cZ S3)).bind fun S6 =>
  (nwo X S6 4 2).bind fun S7 =>
  (f4_init X S7 (cZ S6)).bind fun S8 =>
  (pr S8 1 h 2 (cZ S6)).bind fun S9 =>
  (nwo X S9 3 2).bind fun S10 =>
  (f3_init X S10 (cZ S9)).bind fun S11 =>
  (pr S11 1 h 3 (cZ S9)).bind fun S12 =>
  (nwo X S12 3 2).bind fun S13 =>
  (f3_init X S13 (cZ S12)).bind fun S14 =>
  (pr S14 1 h 4 (cZ S12)).bind fun S15 =>
  (nwa X S15 14 (12 : Int32)).bind fun S16 =>
  (pr S16 1 h 5 (cZ S15)).bind fun S17 =>
  (nwa X S17 14 (100 : Int32)).bind fun S18 =>
  (pr S18 1 h 6 (cZ S17)).bind fun S19 =>
  (pi S19 1 h 7 (0 : Int32)).bind fun S20 =>
  (pi S20 1 h 8 (0 : Int32)).bind fun S21 =>
  (pi S21 1 h 9 (0 : Int32)).bind fun S22 =>
  (pi S22 1 h 10 (1 : Int32)).bind fun S23 =>
  (pi S23 1 h 11 (-1 : Int32)).bind fun S24 =>
  (pi S24 1 h 12 (0 : Int32)).bind fun S25 =>
  (pi S25 1 h 13 (0 : Int32)).bind fun S26 =>
  (pi S26 1 h 14 (1 : Int32)).bind fun S27 =>
  some S27
theorem hdX_X1_init : yX1_init.cls = "FarEditors$Editor" ∧ yX1_init.cls ≠ "java/lang/invoke/MethodHandle" ∧ yX1_init.cls ≠ "java/lang/invoke/VarHandle" ∧ (parseMethodDescriptor yX1_init.desc).map (fun d => d.parameters.length) = some 0 := by decide +kernel
set_option maxHeartbeats 4000000 in
set_option maxRecDepth 100000 in
theorem c1_init (l : Launch) (D : va_G) (y : CyT) (X : Nat × Nat) (hX : X.2 ≤ 100000000) {S S' : CS} {h : Nat} (hf : f1_init X S h = some S') : CT l D (tyL y) yX1_init cX1_init 1 none 3 61 X.1 X.2 [.ref h] (cZ S) (cU S) (cw y S) (cZ S') (cU S') (cw y S') none := by
  refine CT.of (by decide) (Nat.le_of_ble_eq_true rfl) (fun E hc hz hnm => ?_)
  have hc : Cx E "FarEditors$Editor" cX1_init 1 := hc
  have hnm : (xH E).name = "<init>" := hnm
  have hT := hz.2.2.1
  show V E (cZ S) (cU S) (cw y S) 0 [(0, .ref h)] []
  unfold f1_init at hf
  refine V_aload_n hc dX1_init_0 rfl 0 rfl ?_
  refine V_objInit hc hz w1_210 w1_27 w1_28 ⟨(Nat.le_of_ble_eq_true rfl), (Nat.le_of_ble_eq_true rfl)⟩ (Nat.le_of_ble_eq_true rfl) dX1_init_1 ?_
  refine V_aload_n hc dX1_init_4 rfl 0 rfl ?_
  obtain ⟨S1, hS1, hf⟩ := mb hf
  refine C_new hc hz rfl iW7 tyX7 tyX7_ok df7 (by decide) hS1 w1_211 w1_161 w1_7 dX1_init_5 ?_
  refine V_dup hc dX1_init_8 rfl ?_
  obtain ⟨S2, hS2, hf⟩ := mb hf
  refine V_callI hc hz (As := []) (c7_init l D y X hX hS2) w1_212 w1_163 w1_7 w1_164 rfl hdX_X7_init.2 ⟨(Nat.le_of_ble_eq_true rfl), (Nat.le_of_ble_eq_true rfl)⟩ rfl rfl (Nat.le_of_ble_eq_true rfl) dX1_init_9 ?_
  obtain ⟨S3, hS3, hf⟩ := mb hf
  refine C_putrF hc hnm rfl iW1 tyX1 tyX1_ok nmX1 (by decide) 0 (by decide) rfl hS3 w1_237 rfl rfl rfl rfl dX1_init_12 ?_
  refine V_aload_n hc dX1_init_15 rfl 0 rfl ?_
  obtain ⟨S4, hS4, hf⟩ := mb hf
  refine C_new hc hz rfl iW4 tyX4 tyX4_ok df4 (by decide) hS4 w1_213 w1_96 w1_5 dX1_init_16 ?_
  refine V_dup hc dX1_init_19 rfl ?_
  obtain ⟨S5, hS5, hf⟩ := mb hf
  refine V_callI hc hz (As := []) (c4_init l D y X hX hS5) w1_214 w1_98 w1_5 w1_99 rfl hdX_X4_init.2 ⟨(Nat.le_of_ble_eq_true rfl), (Nat.le_of_ble_eq_true rfl)⟩ rfl rfl (Nat.le_of_ble_eq_true rfl) dX1_init_20 ?_
  obtain ⟨S6, hS6, hf⟩ := mb hf
  refine C_putrF hc hnm rfl iW1 tyX1 tyX1_ok nmX1 (by decide) 1 (by decide) rfl hS6 w2_0 rfl rfl rfl rfl dX1_init_23 ?_
  refine V_aload_n hc dX1_init_26 rfl 0 rfl ?_
  obtain ⟨S7, hS7, hf⟩ := mb hf
  refine C_new hc hz rfl iW4 tyX4 tyX4_ok df4 (by decide) hS7 w1_213 w1_96 w1_5 dX1_init_27 ?_
  refine V_dup hc dX1_init_30 rfl ?_
  obtain ⟨S8, hS8, hf⟩ := mb hf
  refine V_callI hc hz (As := []) (c4_init l D y X hX hS8) w1_214 w1_98 w1_5 w1_99 rfl hdX_X4_init.2 ⟨(Nat.le_of_ble_eq_true rfl), (Nat.le_of_ble_eq_true rfl)⟩ rfl rfl (Nat.le_of_ble_eq_true rfl) dX1_init_31 ?_
  obtain ⟨S9, hS9, hf⟩ := mb hf
  refine C_putrF hc hnm rfl iW1 tyX1 tyX1_ok nmX1 (by decide) 2 (by decide) rfl hS9 w2_3 rfl rfl rfl rfl dX1_init_34 ?_
  refine V_aload_n hc dX1_init_37 rfl 0 rfl ?_
  obtain ⟨S10, hS10, hf⟩ := mb hf
  refine C_new hc hz rfl iW3 tyX3 tyX3_ok df3 (by decide) hS10 w1_215 w1_216 w1_10 dX1_init_38 ?_
  refine V_dup hc dX1_init_41 rfl ?_
  obtain ⟨S11, hS11, hf⟩ := mb hf
  refine V_callI hc hz (As := []) (c3_init l D y X hX hS11) w1_217 w1_218 w1_10 w1_219 rfl hdX_X3_init.2 ⟨(Nat.le_of_ble_eq_true rfl), (Nat.le_of_ble_eq_true rfl)⟩ rfl rfl (Nat.le_of_ble_eq_true rfl) dX1_init_42 ?_
  obtain ⟨S12, hS12, hf⟩ := mb hf
  refine C_putrF hc hnm rfl iW1 tyX1 tyX1_ok nmX1 (by decide) 3 (by decide) rfl hS12 w2_6 rfl rfl rfl rfl dX1_init_45 ?_
  refine V_aload_n hc dX1_init_48 rfl 0 rfl ?_
  obtain ⟨S13, hS13, hf⟩ := mb hf
  refine C_new hc hz rfl iW3 tyX3 tyX3_ok df3 (by decide) hS13 w1_215 w1_216 w1_10 dX1_init_49 ?_
  refine V_dup hc dX1_init_52 rfl ?_
  obtain ⟨S14, hS14, hf⟩ := mb hf
  refine V_callI hc hz (As := []) (c3_init l D y X hX hS14) w1_217 w1_218 w1_10 w1_219 rfl hdX_X3_init.2 ⟨(Nat.le_of_ble_eq_true rfl), (Nat.le_of_ble_eq_true rfl)⟩ rfl rfl (Nat.le_of_ble_eq_true rfl) dX1_init_53 ?_
  obtain ⟨S15, hS15, hf⟩ := mb hf
  refine C_putrF hc hnm rfl iW1 tyX1 tyX1_ok nmX1 (by decide) 4 (by decide) rfl hS15 w2_9 rfl rfl rfl rfl dX1_init_56 ?_
  refine V_aload_n hc dX1_init_59 rfl 0 rfl ?_
  refine V_bipush hc (v := (12 : Int32)) dX1_init_60 rfl ?_
  obtain ⟨S16, hS16, hf⟩ := mb hf
  refine C_newi hc hz hS16 hX w1_82 dX1_init_62 ?_
  obtain ⟨S17, hS17, hf⟩ := mb hf
  refine C_putrF hc hnm rfl iW1 tyX1 tyX1_ok nmX1 (by decide) 5 (by decide) rfl hS17 w2_12 rfl rfl rfl rfl dX1_init_64 ?_
  refine V_aload_n hc dX1_init_67 rfl 0 rfl ?_
  refine V_bipush hc (v := (100 : Int32)) dX1_init_68 rfl ?_
  obtain ⟨S18, hS18, hf⟩ := mb hf
  refine C_newi hc hz hS18 hX w1_82 dX1_init_70 ?_
  obtain ⟨S19, hS19, hf⟩ := mb hf
  refine C_putrF hc hnm rfl iW1 tyX1 tyX1_ok nmX1 (by decide) 6 (by decide) rfl hS19 w2_14 rfl rfl rfl rfl dX1_init_72 ?_
  refine V_aload_n hc dX1_init_75 rfl 0 rfl ?_
  refine V_iconst hc (v := (0 : Int32)) dX1_init_76 rfl ?_
  obtain ⟨S20, hS20, hf⟩ := mb hf
  refine C_puti hc rfl iW1 tyX1 tyX1_ok nmX1 (by decide) 7 (by decide) rfl hS20 w2_16 rfl rfl rfl dX1_init_77 ?_
  refine V_aload_n hc dX1_init_80 rfl 0 rfl ?_
  refine V_iconst hc (v := (0 : Int32)) dX1_init_81 rfl ?_
  obtain ⟨S21, hS21, hf⟩ := mb hf
  refine C_puti hc rfl iW1 tyX1 tyX1_ok nmX1 (by decide) 8 (by decide) rfl hS21 w2_19 rfl rfl rfl dX1_init_82 ?_
  refine V_aload_n hc dX1_init_85 rfl 0 rfl ?_
  refine V_iconst hc (v := (0 : Int32)) dX1_init_86 rfl ?_
  obtain ⟨S22, hS22, hf⟩ := mb hf
  refine C_puti hc rfl iW1 tyX1 tyX1_ok nmX1 (by decide) 9 (by decide) rfl hS22 w2_22 rfl rfl rfl dX1_init_87 ?_
  refine V_aload_n hc dX1_init_90 rfl 0 rfl ?_
  refine V_iconst hc (v := (1 : Int32)) dX1_init_91 rfl ?_
  obtain ⟨S23, hS23, hf⟩ := mb hf
  refine C_puti hc rfl iW1 tyX1 tyX1_ok nmX1 (by decide) 10 (by decide) rfl hS23 w2_24 rfl rfl rfl dX1_init_92 ?_
  refine V_aload_n hc dX1_init_95 rfl 0 rfl ?_
  refine V_iconst hc (v := (-1 : Int32)) dX1_init_96 rfl ?_
  obtain ⟨S24, hS24, hf⟩ := mb hf
  refine C_puti hc rfl iW1 tyX1 tyX1_ok nmX1 (by decide) 11 (by decide) rfl hS24 w2_27 rfl rfl rfl dX1_init_97 ?_
  refine V_aload_n hc dX1_init_100 rfl 0 rfl ?_
  refine V_iconst hc (v := (0 : Int32)) dX1_init_101 rfl ?_
  obtain ⟨S25, hS25, hf⟩ := mb hf
  refine C_puti hc rfl iW1 tyX1 tyX1_ok nmX1 (by decide) 12 (by decide) rfl hS25 w2_31 rfl rfl rfl dX1_init_102 ?_
  refine V_aload_n hc dX1_init_105 rfl 0 rfl ?_
  refine V_iconst hc (v := (0 : Int32)) dX1_init_106 rfl ?_
  obtain ⟨S26, hS26, hf⟩ := mb hf
  refine C_puti hc rfl iW1 tyX1 tyX1_ok nmX1 (by decide) 13 (by decide) rfl hS26 w2_34 rfl rfl rfl dX1_init_107 ?_
  refine V_aload_n hc dX1_init_110 rfl 0 rfl ?_
  refine V_iconst hc (v := (1 : Int32)) dX1_init_111 rfl ?_
  obtain ⟨S27, hS27, hf⟩ := mb hf
  refine C_puti hc rfl iW1 tyX1 tyX1_ok nmX1 (by decide) 14 (by decide) rfl hS27 w2_37 rfl rfl rfl dX1_init_112 ?_
  obtain rfl := Option.some.inj hf
  exact V_vret hc hz rfl rfl rfl rfl dX1_init_115
