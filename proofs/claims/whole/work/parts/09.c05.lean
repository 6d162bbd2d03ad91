noncomputable def f9_init (X : Nat × Nat) (S : CS) (h : Nat) : Option (CS) :=
  (nwo X S 5 4).bind fun S1 =>
  (f5_init X S1 (cZ S)).bind fun S2 =>
  (pr S2 9 h 0 (cZ S)).bind fun S3 =>
  (nwo X S3 5 4).bind fun S4 =>
  (f5_init X S4 (cZ S3)).bind fun S5 =>
  (pr S5 9 h 1 (cZ S3)).bind fun S6 =>
  (nwo X S6 4 2).bind fun S7 =>
  (f4_init X S7 (cZ S6)).bind fun S8 =>
  (pr S8 9 h 2 (cZ S6)).bind fun S9 =>
  (nwo X S9 4 2).bind fun S10 =>
  (f4_init X S10 (cZ S9)).bind fun S11 =>
  (pr S11 9 h 3 (cZ S9)).bind fun S12 =>
  (nwa X S12 14 (240 : Int32)).bind fun S13 =>
  (pr S13 9 h 4 (cZ S12)).bind fun S14 =>
  (nwo X S14 4 2).bind fun S15 =>
  (f4_init X S15 (cZ S14)).bind fun S16 =>
  (pr S16 9 h 5 (cZ S14)).bind fun S17 =>
  (nwo X S17 4 2).bind fun S18 =>
  (f4_init X S18 (cZ S17)).bind fun S19 =>
  (pr S19 9 h 6 (cZ S17)).bind fun S20 =>
  some S20
theorem hdX_X9_init : yX9_init.cls = "FarEditors$Weaver" ∧ yX9_init.cls ≠ "java/lang/invoke/MethodHandle" ∧ yX9_init.cls ≠ "java/lang/invoke/VarHandle" ∧ (parseMethodDescriptor yX9_init.desc).map (fun d => d.parameters.length) = some 0 := by decide +kernel
set_option maxHeartbeats 4000000 in
set_option maxRecDepth 100000 in
theorem c9_init (l : Launch) (D : va_G) (y : CyT) (X : Nat × Nat) (hX : X.2 ≤ 100000000) {S S' : CS} {h : Nat} (hf : f9_init X S h = some S') : CT l D (tyL y) yX9_init cX9_init 1 none 3 60 X.1 X.2 [.ref h] (cZ S) (cU S) (cw y S) (cZ S') (cU S') (cw y S') none := by
  refine CT.of (by decide) (Nat.le_of_ble_eq_true rfl) (fun E hc hz hnm => ?_)
  have hc : Cx E "FarEditors$Weaver" cX9_init 1 := hc
  have hnm : (xH E).name = "<init>" := hnm
  have hT := hz.2.2.1
  show V E (cZ S) (cU S) (cw y S) 0 [(0, .ref h)] []
  unfold f9_init at hf
  refine V_aload_n hc dX9_init_0 rfl 0 rfl ?_
  refine V_objInit hc hz w1_88 w1_27 w1_28 ⟨(Nat.le_of_ble_eq_true rfl), (Nat.le_of_ble_eq_true rfl)⟩ (Nat.le_of_ble_eq_true rfl) dX9_init_1 ?_
  refine V_aload_n hc dX9_init_4 rfl 0 rfl ?_
  obtain ⟨S1, hS1, hf⟩ := mb hf
  refine C_new hc hz rfl iW5 tyX5 tyX5_ok df5 (by decide) hS1 w1_89 w1_90 w1_4 dX9_init_5 ?_
  refine V_dup hc dX9_init_8 rfl ?_
  obtain ⟨S2, hS2, hf⟩ := mb hf
  refine V_callI hc hz (As := []) (c5_init l D y X hX hS2) w1_91 w1_92 w1_4 w1_93 rfl hdX_X5_init.2 ⟨(Nat.le_of_ble_eq_true rfl), (Nat.le_of_ble_eq_true rfl)⟩ rfl rfl (Nat.le_of_ble_eq_true rfl) dX9_init_9 ?_
  obtain ⟨S3, hS3, hf⟩ := mb hf
  refine C_putrF hc hnm rfl iW9 tyX9 tyX9_ok nmX9 (by decide) 0 (by decide) rfl hS3 w1_131 rfl rfl rfl rfl dX9_init_12 ?_
  refine V_aload_n hc dX9_init_15 rfl 0 rfl ?_
  obtain ⟨S4, hS4, hf⟩ := mb hf
  refine C_new hc hz rfl iW5 tyX5 tyX5_ok df5 (by decide) hS4 w1_89 w1_90 w1_4 dX9_init_16 ?_
  refine V_dup hc dX9_init_19 rfl ?_
  obtain ⟨S5, hS5, hf⟩ := mb hf
  refine V_callI hc hz (As := []) (c5_init l D y X hX hS5) w1_91 w1_92 w1_4 w1_93 rfl hdX_X5_init.2 ⟨(Nat.le_of_ble_eq_true rfl), (Nat.le_of_ble_eq_true rfl)⟩ rfl rfl (Nat.le_of_ble_eq_true rfl) dX9_init_20 ?_
  obtain ⟨S6, hS6, hf⟩ := mb hf
  refine C_putrF hc hnm rfl iW9 tyX9 tyX9_ok nmX9 (by decide) 1 (by decide) rfl hS6 w1_132 rfl rfl rfl rfl dX9_init_23 ?_
  refine V_aload_n hc dX9_init_26 rfl 0 rfl ?_
  obtain ⟨S7, hS7, hf⟩ := mb hf
  refine C_new hc hz rfl iW4 tyX4 tyX4_ok df4 (by decide) hS7 w1_129 w1_96 w1_5 dX9_init_27 ?_
  refine V_dup hc dX9_init_30 rfl ?_
  obtain ⟨S8, hS8, hf⟩ := mb hf
  refine V_callI hc hz (As := []) (c4_init l D y X hX hS8) w1_130 w1_98 w1_5 w1_99 rfl hdX_X4_init.2 ⟨(Nat.le_of_ble_eq_true rfl), (Nat.le_of_ble_eq_true rfl)⟩ rfl rfl (Nat.le_of_ble_eq_true rfl) dX9_init_31 ?_
  obtain ⟨S9, hS9, hf⟩ := mb hf
  refine C_putrF hc hnm rfl iW9 tyX9 tyX9_ok nmX9 (by decide) 2 (by decide) rfl hS9 w1_133 rfl rfl rfl rfl dX9_init_34 ?_
  refine V_aload_n hc dX9_init_37 rfl 0 rfl ?_
  obtain ⟨S10, hS10, hf⟩ := mb hf
  refine C_new hc hz rfl iW4 tyX4 tyX4_ok df4 (by decide) hS10 w1_129 w1_96 w1_5 dX9_init_38 ?_
  refine V_dup hc dX9_init_41 rfl ?_
  obtain ⟨S11, hS11, hf⟩ := mb hf
  refine V_callI hc hz (As := []) (c4_init l D y X hX hS11) w1_130 w1_98 w1_5 w1_99 rfl hdX_X4_init.2 ⟨(Nat.le_of_ble_eq_true rfl), (Nat.le_of_ble_eq_true rfl)⟩ rfl rfl (Nat.le_of_ble_eq_true rfl) dX9_init_42 ?_
  obtain ⟨S12, hS12, hf⟩ := mb hf
  refine C_putrF hc hnm rfl iW9 tyX9 tyX9_ok nmX9 (by decide) 3 (by decide) rfl hS12 w1_134 rfl rfl rfl rfl dX9_init_45 ?_
  refine V_aload_n hc dX9_init_48 rfl 0 rfl ?_
  refine V_sipush hc (v := (240 : Int32)) dX9_init_49 rfl ?_
  obtain ⟨S13, hS13, hf⟩ := mb hf
  refine C_newi hc hz hS13 hX w1_82 dX9_init_52 ?_
  obtain ⟨S14, hS14, hf⟩ := mb hf
  refine C_putr hc rfl iW9 tyX9 tyX9_ok nmX9 (by decide) 4 (by decide) rfl hS14 w1_135 rfl rfl rfl dX9_init_54 ?_
  refine V_aload_n hc dX9_init_57 rfl 0 rfl ?_
  obtain ⟨S15, hS15, hf⟩ := mb hf
  refine C_new hc hz rfl iW4 tyX4 tyX4_ok df4 (by decide) hS15 w1_129 w1_96 w1_5 dX9_init_58 ?_
  refine V_dup hc dX9_init_61 rfl ?_
  obtain ⟨S16, hS16, hf⟩ := mb hf
  refine V_callI hc hz (As := []) (c4_init l D y X hX hS16) w1_130 w1_98 w1_5 w1_99 rfl hdX_X4_init.2 ⟨(Nat.le_of_ble_eq_true rfl), (Nat.le_of_ble_eq_true rfl)⟩ rfl rfl (Nat.le_of_ble_eq_true rfl) dX9_init_62 ?_
  obtain ⟨S17, hS17, hf⟩ := mb hf
  refine C_putrF hc hnm rfl iW9 tyX9 tyX9_ok nmX9 (by decide) 5 (by decide) rfl hS17 w1_136 rfl rfl rfl rfl dX9_init_65 ?_
  refine V_aload_n hc dX9_init_68 rfl 0 rfl ?_
  obtain ⟨S18, hS18, hf⟩ := mb hf
  refine C_new hc hz rfl iW4 tyX4 tyX4_ok df4 (by decide) hS18 w1_129 w1_96 w1_5 dX9_init_69 ?_
  refine V_dup hc dX9_init_72 rfl ?_
  obtain ⟨S19, hS19, hf⟩ := mb hf
  refine V_callI hc hz (As := []) (c4_init l D y X hX hS19) w1_130 w1_98 w1_5 w1_99 rfl hdX_X4_init.2 ⟨(Nat.le_of_ble_eq_true rfl), (Nat.le_of_ble_eq_true rfl)⟩ rfl rfl (Nat.le_of_ble_eq_true rfl) dX9_init_73 ?_
  obtain ⟨S20, hS20, hf⟩ := mb hf
  refine C_putrF hc hnm rfl iW9 tyX9 tyX9_ok nmX9 (by decide) 6 (by decide) rfl hS20 w1_138 rfl rfl rfl rfl dX9_init_76 ?_
  obtain rfl := Option.some.inj hf
  exact V_vret hc hz rfl rfl rfl rfl dX9_init_79
noncomputable def f9_composeCommon (S : CS) (h : Nat) : Option (CS) :=
  (gr S 9 h 0).bind fun a1 =>
  (gi S 5 a1 3).bind fun v2 =>
  (gr S 9 h 1).bind fun a3 =>
  (gi S 5 a3 3).bind fun v4 =>
  if 0 < (if v4 < v2 then v4 else v2) then (
    (gr S 9 h 1).bind fun a5 =>
    (cal S 5 a5 (f5_isAtCut S a5)).bind fun v6 =>
    (gr S 9 h 0).bind fun a7 =>
    (cal S 5 a7 (f5_isAtPut S a7)).bind fun v8 =>
    (
      if v8 = 0 then (
        if v6 = 0 then (
          (gr S 9 h 2).bind fun a15 =>
          (cal S 4 a15 (f4_addKeep S a15 (if v4 < v2 then v4 else v2))).bind fun S16 =>
          some S16
        ) else (
          (gr S 9 h 2).bind fun a17 =>
          (cal S 4 a17 (f4_addCut S a17 (if v4 < v2 then v4 else v2))).bind fun S18 =>
          some S18
        )
      ) else (
        if v6 = 0 then (
          (gr S 9 h 2).bind fun a11 =>
          (gr S 9 h 0).bind fun a12 =>
          (gi S 5 a12 2).bind fun v13 =>
          (cal S 4 a11 (f4_addPut S a11 v13)).bind fun S14 =>
          some S14
        ) else (
          some S
        )
      )
    ).bind fun S9 =>
    (gr S9 9 h 0).bind fun a19 =>
    (cal S9 5 a19 (f5_pass S9 a19 (if v4 < v2 then v4 else v2))).bind fun S20 =>
    (gr S20 9 h 1).bind fun a21 =>
    (cal S20 5 a21 (f5_pass S20 a21 (if v4 < v2 then v4 else v2))).bind fun S22 =>
    some S22
  ) else (
    some S
  )
theorem hdX_X9_composeCommon : yX9_composeCommon.cls = "FarEditors$Weaver" ∧ yX9_composeCommon.cls ≠ "java/lang/invoke/MethodHandle" ∧ yX9_composeCommon.cls ≠ "java/lang/invoke/VarHandle" ∧ (parseMethodDescriptor yX9_composeCommon.desc).map (fun d => d.parameters.length) = some 0 := by decide +kernel
set_option maxHeartbeats 4000000 in
set_option maxRecDepth 100000 in
theorem c9_composeCommon (l : Launch) (D : va_G) (y : CyT) (zM uM : Nat) {S S' : CS} {h : Nat} (hf : f9_composeCommon S h = some S') : CT l D (tyL y) yX9_composeCommon cX9_composeCommon 3 none 1 21 zM uM [.ref h] (cZ S) (cU S) (cw y S) (cZ S') (cU S') (cw y S') none := by
  refine CT.of (by decide) (Nat.le_of_ble_eq_true rfl) (fun E hc hz hnm => ?_)
  have hc : Cx E "FarEditors$Weaver" cX9_composeCommon 3 := hc
  have hT := hz.2.2.1
  show V E (cZ S) (cU S) (cw y S) 0 [(0, .ref h)] []
  unfold f9_composeCommon at hf
  refine V_aload_n hc dX9_composeCommon_0 rfl 0 rfl ?_
  obtain ⟨a1, ha1, hf⟩ := mb hf
  refine C_getr hc rfl iW9 (by decide) 0 (by decide) rfl ha1 w1_131 dX9_composeCommon_1 ?_
  obtain ⟨v2, hv2, hf⟩ := mb hf
  refine C_geti hc rfl iW5 (by decide) 3 (by decide) rfl hv2 w1_119 dX9_composeCommon_4 ?_
  refine V_aload_n hc dX9_composeCommon_7 rfl 0 rfl ?_
  obtain ⟨a3, ha3, hf⟩ := mb hf
  refine C_getr hc rfl iW9 (by decide) 1 (by decide) rfl ha3 w1_132 dX9_composeCommon_8 ?_
  obtain ⟨v4, hv4, hf⟩ := mb hf
  refine C_geti hc rfl iW5 (by decide) 3 (by decide) rfl hv4 w1_119 dX9_composeCommon_11 ?_
  refine C_min hc hz w4_52 w3_194 w1_18 w3_195 ⟨(Nat.le_of_ble_eq_true rfl), (Nat.le_of_ble_eq_true rfl)⟩ (Nat.le_of_ble_eq_true rfl) dX9_composeCommon_14 ?_
  refine V_istore_n hc dX9_composeCommon_17 rfl (by decide) rfl ?_
  refine V_iload_n hc dX9_composeCommon_18 rfl 0 rfl ?_
  refine V_if_gt hc dX9_composeCommon_19 rfl (fun hq19 => ?_) (fun hq19 => ?_)
  · rw [if_pos hq19] at hf
    refine V_aload_n hc dX9_composeCommon_23 rfl 1 rfl ?_
    obtain ⟨a5, ha5, hf⟩ := mb hf
    refine C_getr hc rfl iW9 (by decide) 1 (by decide) rfl ha5 w1_132 dX9_composeCommon_24 ?_
    obtain ⟨v6, hv6, hf⟩ := mb hf
    obtain ⟨hkv6, hv6⟩ := og hv6
    refine C_callV hc hz (As := []) hkv6 (by decide) (c5_isAtCut l D y _ _ hv6) w4_53 w4_54 w4_55 w1_4 w4_56 hdX_X5_isAtCut ⟨(Nat.le_of_ble_eq_true rfl), (Nat.le_of_ble_eq_true rfl)⟩ rfl rfl rfl (Nat.le_of_ble_eq_true rfl) dX9_composeCommon_27 ?_
    refine V_istore_n hc dX9_composeCommon_30 rfl (by decide) rfl ?_
    refine V_aload_n hc dX9_composeCommon_31 rfl 2 rfl ?_
    obtain ⟨a7, ha7, hf⟩ := mb hf
    refine C_getr hc rfl iW9 (by decide) 0 (by decide) rfl ha7 w1_131 dX9_composeCommon_32 ?_
    obtain ⟨v8, hv8, hf⟩ := mb hf
    obtain ⟨hkv8, hv8⟩ := og hv8
    refine C_callV hc hz (As := []) hkv8 (by decide) (c5_isAtPut l D y _ _ hv8) w4_35 w4_36 w4_37 w1_4 w4_38 hdX_X5_isAtPut ⟨(Nat.le_of_ble_eq_true rfl), (Nat.le_of_ble_eq_true rfl)⟩ rfl rfl rfl (Nat.le_of_ble_eq_true rfl) dX9_composeCommon_35 ?_
    obtain ⟨S9, hv10, hf⟩ := mb hf
    have hJ38 : V E (cZ S9) (cU S9) (cw y S9) 85 [(0, .ref h), (1, .int (if v4 < v2 then v4 else v2))] [] := by
      refine V_aload_n hc dX9_composeCommon_85 rfl 0 rfl ?_
      obtain ⟨a19, ha19, hf⟩ := mb hf
      refine C_getr hc rfl iW9 (by decide) 0 (by decide) rfl ha19 w1_131 dX9_composeCommon_86 ?_
      refine V_iload_n hc dX9_composeCommon_89 rfl 1 rfl ?_
      obtain ⟨S20, hS20, hf⟩ := mb hf
      obtain ⟨hkS20, hS20⟩ := og hS20
      refine C_callV hc hz (As := [.int (if v4 < v2 then v4 else v2)]) hkS20 (by decide) (c5_pass l D y _ _ hS20) w4_47 w4_32 w4_33 w1_4 w4_34 hdX_X5_pass ⟨(Nat.le_of_ble_eq_true rfl), (Nat.le_of_ble_eq_true rfl)⟩ rfl rfl rfl (Nat.le_of_ble_eq_true rfl) dX9_composeCommon_90 ?_
      refine V_aload_n hc dX9_composeCommon_93 rfl 0 rfl ?_
      obtain ⟨a21, ha21, hf⟩ := mb hf
      refine C_getr hc rfl iW9 (by decide) 1 (by decide) rfl ha21 w1_132 dX9_composeCommon_94 ?_
      refine V_iload_n hc dX9_composeCommon_97 rfl 1 rfl ?_
      obtain ⟨S22, hS22, hf⟩ := mb hf
      obtain ⟨hkS22, hS22⟩ := og hS22
      refine C_callV hc hz (As := [.int (if v4 < v2 then v4 else v2)]) hkS22 (by decide) (c5_pass l D y _ _ hS22) w4_47 w4_32 w4_33 w1_4 w4_34 hdX_X5_pass ⟨(Nat.le_of_ble_eq_true rfl), (Nat.le_of_ble_eq_true rfl)⟩ rfl rfl rfl (Nat.le_of_ble_eq_true rfl) dX9_composeCommon_98 ?_
      obtain rfl := Option.some.inj hf
      exact V_vret hc hz rfl rfl rfl rfl dX9_composeCommon_101
    refine V_if_ne hc dX9_composeCommon_38 rfl (fun hq38 => ?_) (fun hq38 => ?_)
    · rw [if_neg hq38] at hv10
      refine V_iload_n hc dX9_composeCommon_67 rfl 0 rfl ?_
      refine V_if_ne hc dX9_composeCommon_68 rfl (fun hq68 => ?_) (fun hq68 => ?_)
      · rw [if_neg hq68] at hv10
        obtain rfl := Option.some.inj hv10
        exact V_sub [2, 1] rfl hJ38
      · rw [if_pos hq68] at hv10
        refine V_aload_n hc dX9_composeCommon_71 rfl 2 rfl ?_
        obtain ⟨a11, ha11, hv10⟩ := mb hv10
        refine C_getr hc rfl iW9 (by decide) 2 (by decide) rfl ha11 w1_133 dX9_composeCommon_72 ?_
        refine V_aload_n hc dX9_composeCommon_75 rfl 2 rfl ?_
        obtain ⟨a12, ha12, hv10⟩ := mb hv10
        refine C_getr hc rfl iW9 (by decide) 0 (by decide) rfl ha12 w1_131 dX9_composeCommon_76 ?_
        obtain ⟨v13, hv13, hv10⟩ := mb hv10
        refine C_geti hc rfl iW5 (by decide) 2 (by decide) rfl hv13 w1_117 dX9_composeCommon_79 ?_
        obtain ⟨S14, hS14, hv10⟩ := mb hv10
        obtain ⟨hkS14, hS14⟩ := og hS14
        refine C_callV hc hz (As := [.int v13]) hkS14 (by decide) (c4_addPut l D y _ _ hS14) w4_39 w4_40 w4_41 w1_5 w4_42 hdX_X4_addPut ⟨(Nat.le_of_ble_eq_true rfl), (Nat.le_of_ble_eq_true rfl)⟩ rfl rfl rfl (Nat.le_of_ble_eq_true rfl) dX9_composeCommon_82 ?_
        obtain rfl := Option.some.inj hv10
        exact V_sub [2, 1] rfl hJ38
    · rw [if_pos hq38] at hv10
      refine V_iload_n hc dX9_composeCommon_41 rfl 0 rfl ?_
      refine V_if_eq hc dX9_composeCommon_42 rfl (fun hq42 => ?_) (fun hq42 => ?_)
      · rw [if_pos hq42] at hv10
        refine V_aload_n hc dX9_composeCommon_56 rfl 2 rfl ?_
        obtain ⟨a15, ha15, hv10⟩ := mb hv10
        refine C_getr hc rfl iW9 (by decide) 2 (by decide) rfl ha15 w1_133 dX9_composeCommon_57 ?_
        refine V_iload_n hc dX9_composeCommon_60 rfl 1 rfl ?_
        obtain ⟨S16, hS16, hv10⟩ := mb hv10
        obtain ⟨hkS16, hS16⟩ := og hS16
        refine C_callV hc hz (As := [.int (if v4 < v2 then v4 else v2)]) hkS16 (by decide) (c4_addKeep l D y _ _ hS16) w4_43 w4_44 w4_45 w1_5 w4_46 hdX_X4_addKeep ⟨(Nat.le_of_ble_eq_true rfl), (Nat.le_of_ble_eq_true rfl)⟩ rfl rfl rfl (Nat.le_of_ble_eq_true rfl) dX9_composeCommon_61 ?_
        refine V_goto hc dX9_composeCommon_64 rfl ?_
        obtain rfl := Option.some.inj hv10
        exact V_sub [2, 1] rfl hJ38
      · rw [if_neg hq42] at hv10
        refine V_aload_n hc dX9_composeCommon_45 rfl 2 rfl ?_
        obtain ⟨a17, ha17, hv10⟩ := mb hv10
        refine C_getr hc rfl iW9 (by decide) 2 (by decide) rfl ha17 w1_133 dX9_composeCommon_46 ?_
        refine V_iload_n hc dX9_composeCommon_49 rfl 1 rfl ?_
        obtain ⟨S18, hS18, hv10⟩ := mb hv10
        obtain ⟨hkS18, hS18⟩ := og hS18
        refine C_callV hc hz (As := [.int (if v4 < v2 then v4 else v2)]) hkS18 (by decide) (c4_addCut l D y _ _ hS18) w4_57 w4_58 w4_59 w1_5 w4_60 hdX_X4_addCut ⟨(Nat.le_of_ble_eq_true rfl), (Nat.le_of_ble_eq_true rfl)⟩ rfl rfl rfl (Nat.le_of_ble_eq_true rfl) dX9_composeCommon_50 ?_
        refine V_goto hc dX9_composeCommon_53 rfl ?_
        obtain rfl := Option.some.inj hv10
        exact V_sub [2, 1] rfl hJ38
  · rw [if_neg hq19] at hf
    obtain rfl := Option.some.inj hf
    exact V_vret hc hz rfl rfl rfl rfl dX9_composeCommon_22
noncomputable def f10_canPlace (S : CS) (h : Nat) (p1 : Int32) (p2 : Int32) : Option (Int32) :=
  (cal S 10 h (f10_knows S h p1)).bind fun v1 =>
  (
    if v1 = 0 then (
      some (0 : Int32)
    ) else (
      if p2 < 0 then (
        some (0 : Int32)
      ) else (
        (gr S 10 h 3).bind fun a4 =>
        (ldr S 16 a4 p1).bind fun a5 =>
        (gr S 1 a5 0).bind fun a6 =>
        (gi S 7 a6 1).bind fun v7 =>
        if v7 < p2 then (
          some (0 : Int32)
        ) else (
          some (1 : Int32)
        )
      )
    )
  ).bind fun v2 =>
  (bz v2).bind fun v8 =>
  some v8
theorem hdX_X10_canPlace : yX10_canPlace.cls = "FarEditors$World" ∧ yX10_canPlace.cls ≠ "java/lang/invoke/MethodHandle" ∧ yX10_canPlace.cls ≠ "java/lang/invoke/VarHandle" ∧ (parseMethodDescriptor yX10_canPlace.desc).map (fun d => d.parameters.length) = some 2 := by decide +kernel
set_option maxHeartbeats 4000000 in
set_option maxRecDepth 100000 in
theorem c10_canPlace (l : Launch) (D : va_G) (y : CyT) (zM uM : Nat) {S : CS} {h : Nat} {p1 : Int32} {p2 : Int32} {r : Int32} (hf : f10_canPlace S h p1 p2 = some r) : CT l D (tyL y) yX10_canPlace cX10_canPlace 3 (some .boolean) 1 21 zM uM [.ref h, .int p1, .int p2] (cZ S) (cU S) (cw y S) (cZ S) (cU S) (cw y S) (some (.int r)) := by
  refine CT.of (by decide) (Nat.le_of_ble_eq_true rfl) (fun E hc hz hnm => ?_)
  have hc : Cx E "FarEditors$World" cX10_canPlace 3 := hc
  have hT := hz.2.2.1
  show V E (cZ S) (cU S) (cw y S) 0 [(0, .ref h), (1, .int p1), (2, .int p2)] []
  unfold f10_canPlace at hf
  refine V_aload_n hc dX10_canPlace_0 rfl 0 rfl ?_
  refine V_iload_n hc dX10_canPlace_1 rfl 1 rfl ?_
  obtain ⟨v1, hv1, hf⟩ := mb hf
  obtain ⟨hkv1, hv1⟩ := og hv1
  refine C_callV hc hz (As := [.int p1]) hkv1 (by decide) (c10_knows l D y _ _ hv1) w4_6 w3_223 w3_224 w1_8 w3_225 hdX_X10_knows ⟨(Nat.le_of_ble_eq_true rfl), (Nat.le_of_ble_eq_true rfl)⟩ rfl rfl rfl (Nat.le_of_ble_eq_true rfl) dX10_canPlace_2 ?_
  obtain ⟨v2, hv3, hf⟩ := mb hf
  have hJ5 : V E (cZ S) (cU S) (cw y S) 33 [] [.int v2] := by
    obtain ⟨v8, hv8, hf⟩ := mb hf
    obtain ⟨hbv8, rfl⟩ := bz_some hv8
    obtain rfl := Option.some.inj hf
    exact V_iret hc hz (bz_nar hbv8) rfl rfl rfl rfl dX10_canPlace_33
  refine V_if_eq hc dX10_canPlace_5 rfl (fun hq5 => ?_) (fun hq5 => ?_)
  · rw [if_pos hq5] at hv3
    refine V_iconst hc (v := (0 : Int32)) dX10_canPlace_32 rfl ?_
    obtain rfl := Option.some.inj hv3
    exact V_sub [] rfl hJ5
  · rw [if_neg hq5] at hv3
    refine V_iload_n hc dX10_canPlace_8 rfl 2 rfl ?_
    refine V_if_lt hc dX10_canPlace_9 rfl (fun hq9 => ?_) (fun hq9 => ?_)
    · rw [if_pos hq9] at hv3
      refine V_iconst hc (v := (0 : Int32)) dX10_canPlace_32 rfl ?_
      obtain rfl := Option.some.inj hv3
      exact V_sub [] rfl hJ5
    · rw [if_neg hq9] at hv3
      refine V_iload_n hc dX10_canPlace_12 rfl 2 rfl ?_
      refine V_aload_n hc dX10_canPlace_13 rfl 0 rfl ?_
      obtain ⟨a4, ha4, hv3⟩ := mb hv3
      refine C_getr hc rfl iW10 (by decide) 3 (by decide) rfl ha4 w2_78 dX10_canPlace_14 ?_
      refine V_iload_n hc dX10_canPlace_17 rfl 1 rfl ?_
      obtain ⟨a5, ha5, hv3⟩ := mb hv3
      refine C_aald hc hT (by decide) (by decide) ha5 dX10_canPlace_18 ?_
      obtain ⟨a6, ha6, hv3⟩ := mb hv3
      refine C_getr hc rfl iW1 (by decide) 0 (by decide) rfl ha6 w1_239 dX10_canPlace_19 ?_
      obtain ⟨v7, hv7, hv3⟩ := mb hv3
      refine C_geti hc rfl iW7 (by decide) 1 (by decide) rfl hv7 w1_171 dX10_canPlace_22 ?_
      refine V_icmp_gt hc dX10_canPlace_25 rfl (fun hq25 => ?_) (fun hq25 => ?_)
      · rw [if_pos hq25] at hv3
        refine V_iconst hc (v := (0 : Int32)) dX10_canPlace_32 rfl ?_
        obtain rfl := Option.some.inj hv3
        exact V_sub [] rfl hJ5
      · rw [if_neg hq25] at hv3
        refine V_iconst hc (v := (1 : Int32)) dX10_canPlace_28 rfl ?_
        refine V_goto hc dX10_canPlace_29 rfl ?_
        obtain rfl := Option.some.inj hv3
        exact V_sub [] rfl hJ5
noncomputable def f10_canPut (S : CS) (h : Nat) (p1 : Int32) (p2 : Int32) (p3 : Int32) : Option (Int32) :=
  (cal S 10 h (f10_canPlace S h p1 p2)).bind fun v1 =>
  (
    if v1 = 0 then (
      some (0 : Int32)
    ) else (
      if p3 < (1 : Int32) then (
        some (0 : Int32)
      ) else (
        if (26 : Int32) < p3 then (
          some (0 : Int32)
        ) else (
          some (1 : Int32)
        )
      )
    )
  ).bind fun v2 =>
  (bz v2).bind fun v4 =>
  some v4
theorem hdX_X10_canPut : yX10_canPut.cls = "FarEditors$World" ∧ yX10_canPut.cls ≠ "java/lang/invoke/MethodHandle" ∧ yX10_canPut.cls ≠ "java/lang/invoke/VarHandle" ∧ (parseMethodDescriptor yX10_canPut.desc).map (fun d => d.parameters.length) = some 3 := by decide +kernel
set_option maxHeartbeats 4000000 in
set_option maxRecDepth 100000 in
theorem c10_canPut (l : Launch) (D : va_G) (y : CyT) (zM uM : Nat) {S : CS} {h : Nat} {p1 : Int32} {p2 : Int32} {p3 : Int32} {r : Int32} (hf : f10_canPut S h p1 p2 p3 = some r) : CT l D (tyL y) yX10_canPut cX10_canPut 4 (some .boolean) 2 43 zM uM [.ref h, .int p1, .int p2, .int p3] (cZ S) (cU S) (cw y S) (cZ S) (cU S) (cw y S) (some (.int r)) := by
  refine CT.of (by decide) (Nat.le_of_ble_eq_true rfl) (fun E hc hz hnm => ?_)
  have hc : Cx E "FarEditors$World" cX10_canPut 4 := hc
  have hT := hz.2.2.1
  show V E (cZ S) (cU S) (cw y S) 0 [(0, .ref h), (1, .int p1), (2, .int p2), (3, .int p3)] []
  unfold f10_canPut at hf
  refine V_aload_n hc dX10_canPut_0 rfl 0 rfl ?_
  refine V_iload_n hc dX10_canPut_1 rfl 1 rfl ?_
  refine V_iload_n hc dX10_canPut_2 rfl 2 rfl ?_
  obtain ⟨v1, hv1, hf⟩ := mb hf
  obtain ⟨hkv1, hv1⟩ := og hv1
  refine C_callV hc hz (As := [.int p1, .int p2]) hkv1 (by decide) (c10_canPlace l D y _ _ hv1) w4_180 w4_173 w4_174 w1_8 w4_175 hdX_X10_canPlace ⟨(Nat.le_of_ble_eq_true rfl), (Nat.le_of_ble_eq_true rfl)⟩ rfl rfl rfl (Nat.le_of_ble_eq_true rfl) dX10_canPut_3 ?_
  obtain ⟨v2, hv3, hf⟩ := mb hf
  have hJ6 : V E (cZ S) (cU S) (cw y S) 25 [] [.int v2] := by
    obtain ⟨v4, hv4, hf⟩ := mb hf
    obtain ⟨hbv4, rfl⟩ := bz_some hv4
    obtain rfl := Option.some.inj hf
    exact V_iret hc hz (bz_nar hbv4) rfl rfl rfl rfl dX10_canPut_25
  refine V_if_eq hc dX10_canPut_6 rfl (fun hq6 => ?_) (fun hq6 => ?_)
  · rw [if_pos hq6] at hv3
    refine V_iconst hc (v := (0 : Int32)) dX10_canPut_24 rfl ?_
    obtain rfl := Option.some.inj hv3
    exact V_sub [] rfl hJ6
  · rw [if_neg hq6] at hv3
    refine V_iload_n hc dX10_canPut_9 rfl 3 rfl ?_
    refine V_iconst hc (v := (1 : Int32)) dX10_canPut_10 rfl ?_
    refine V_icmp_lt hc dX10_canPut_11 rfl (fun hq11 => ?_) (fun hq11 => ?_)
    · rw [if_pos hq11] at hv3
      refine V_iconst hc (v := (0 : Int32)) dX10_canPut_24 rfl ?_
      obtain rfl := Option.some.inj hv3
      exact V_sub [] rfl hJ6
    · rw [if_neg hq11] at hv3
      refine V_iload_n hc dX10_canPut_14 rfl 3 rfl ?_
      refine V_bipush hc (v := (26 : Int32)) dX10_canPut_15 rfl ?_
      refine V_icmp_gt hc dX10_canPut_17 rfl (fun hq17 => ?_) (fun hq17 => ?_)
      · rw [if_pos hq17] at hv3
        refine V_iconst hc (v := (0 : Int32)) dX10_canPut_24 rfl ?_
        obtain rfl := Option.some.inj hv3
        exact V_sub [] rfl hJ6
      · rw [if_neg hq17] at hv3
        refine V_iconst hc (v := (1 : Int32)) dX10_canPut_20 rfl ?_
        refine V_goto hc dX10_canPut_21 rfl ?_
        obtain rfl := Option.some.inj hv3
        exact V_sub [] rfl hJ6
noncomputable def f10_canCut (S : CS) (h : Nat) (p1 : Int32) (p2 : Int32) (p3 : Int32) : Option (Int32) :=
  (cal S 10 h (f10_canPlace S h p1 p2)).bind fun v1 =>
  (
    if v1 = 0 then (
      some (0 : Int32)
    ) else (
      if p3 < (1 : Int32) then (
        some (0 : Int32)
      ) else (
        (gr S 10 h 3).bind fun a4 =>
        (ldr S 16 a4 p1).bind fun a5 =>
        (gr S 1 a5 0).bind fun a6 =>
        (gi S 7 a6 1).bind fun v7 =>
        if (v7 - p2) < p3 then (
          some (0 : Int32)
        ) else (
          some (1 : Int32)
        )
      )
    )
  ).bind fun v2 =>
  (bz v2).bind fun v8 =>
  some v8
theorem hdX_X10_canCut : yX10_canCut.cls = "FarEditors$World" ∧ yX10_canCut.cls ≠ "java/lang/invoke/MethodHandle" ∧ yX10_canCut.cls ≠ "java/lang/invoke/VarHandle" ∧ (parseMethodDescriptor yX10_canCut.desc).map (fun d => d.parameters.length) = some 3 := by decide +kernel
set_option maxHeartbeats 4000000 in
set_option maxRecDepth 100000 in
theorem c10_canCut (l : Launch) (D : va_G) (y : CyT) (zM uM : Nat) {S : CS} {h : Nat} {p1 : Int32} {p2 : Int32} {p3 : Int32} {r : Int32} (hf : f10_canCut S h p1 p2 p3 = some r) : CT l D (tyL y) yX10_canCut cX10_canCut 4 (some .boolean) 2 43 zM uM [.ref h, .int p1, .int p2, .int p3] (cZ S) (cU S) (cw y S) (cZ S) (cU S) (cw y S) (some (.int r)) := by
  refine CT.of (by decide) (Nat.le_of_ble_eq_true rfl) (fun E hc hz hnm => ?_)
  have hc : Cx E "FarEditors$World" cX10_canCut 4 := hc
  have hT := hz.2.2.1
  show V E (cZ S) (cU S) (cw y S) 0 [(0, .ref h), (1, .int p1), (2, .int p2), (3, .int p3)] []
  unfold f10_canCut at hf
  refine V_aload_n hc dX10_canCut_0 rfl 0 rfl ?_
  refine V_iload_n hc dX10_canCut_1 rfl 1 rfl ?_
  refine V_iload_n hc dX10_canCut_2 rfl 2 rfl ?_
  obtain ⟨v1, hv1, hf⟩ := mb hf
  obtain ⟨hkv1, hv1⟩ := og hv1
  refine C_callV hc hz (As := [.int p1, .int p2]) hkv1 (by decide) (c10_canPlace l D y _ _ hv1) w4_180 w4_173 w4_174 w1_8 w4_175 hdX_X10_canPlace ⟨(Nat.le_of_ble_eq_true rfl), (Nat.le_of_ble_eq_true rfl)⟩ rfl rfl rfl (Nat.le_of_ble_eq_true rfl) dX10_canCut_3 ?_
  obtain ⟨v2, hv3, hf⟩ := mb hf
  have hJ6 : V E (cZ S) (cU S) (cw y S) 37 [] [.int v2] := by
    obtain ⟨v8, hv8, hf⟩ := mb hf
    obtain ⟨hbv8, rfl⟩ := bz_some hv8
    obtain rfl := Option.some.inj hf
    exact V_iret hc hz (bz_nar hbv8) rfl rfl rfl rfl dX10_canCut_37
  refine V_if_eq hc dX10_canCut_6 rfl (fun hq6 => ?_) (fun hq6 => ?_)
  · rw [if_pos hq6] at hv3
    refine V_iconst hc (v := (0 : Int32)) dX10_canCut_36 rfl ?_
    obtain rfl := Option.some.inj hv3
    exact V_sub [] rfl hJ6
  · rw [if_neg hq6] at hv3
    refine V_iload_n hc dX10_canCut_9 rfl 3 rfl ?_
    refine V_iconst hc (v := (1 : Int32)) dX10_canCut_10 rfl ?_
    refine V_icmp_lt hc dX10_canCut_11 rfl (fun hq11 => ?_) (fun hq11 => ?_)
    · rw [if_pos hq11] at hv3
      refine V_iconst hc (v := (0 : Int32)) dX10_canCut_36 rfl ?_
      obtain rfl := Option.some.inj hv3
      exact V_sub [] rfl hJ6
    · rw [if_neg hq11] at hv3
      refine V_iload_n hc dX10_canCut_14 rfl 3 rfl ?_
      refine V_aload_n hc dX10_canCut_15 rfl 0 rfl ?_
      obtain ⟨a4, ha4, hv3⟩ := mb hv3
      refine C_getr hc rfl iW10 (by decide) 3 (by decide) rfl ha4 w2_78 dX10_canCut_16 ?_
      refine V_iload_n hc dX10_canCut_19 rfl 1 rfl ?_
      obtain ⟨a5, ha5, hv3⟩ := mb hv3
      refine C_aald hc hT (by decide) (by decide) ha5 dX10_canCut_20 ?_
      obtain ⟨a6, ha6, hv3⟩ := mb hv3
      refine C_getr hc rfl iW1 (by decide) 0 (by decide) rfl ha6 w1_239 dX10_canCut_21 ?_
      obtain ⟨v7, hv7, hv3⟩ := mb hv3
      refine C_geti hc rfl iW7 (by decide) 1 (by decide) rfl hv7 w1_171 dX10_canCut_24 ?_
      refine V_iload_n hc dX10_canCut_27 rfl 2 rfl ?_
      refine V_isub hc dX10_canCut_28 ?_
      refine V_icmp_gt hc dX10_canCut_29 rfl (fun hq29 => ?_) (fun hq29 => ?_)
      · rw [if_pos hq29] at hv3
        refine V_iconst hc (v := (0 : Int32)) dX10_canCut_36 rfl ?_
        obtain rfl := Option.some.inj hv3
        exact V_sub [] rfl hJ6
      · rw [if_neg hq29] at hv3
        refine V_iconst hc (v := (1 : Int32)) dX10_canCut_32 rfl ?_
        refine V_goto hc dX10_canCut_33 rfl ?_
        obtain rfl := Option.some.inj hv3
        exact V_sub [] rfl hJ6
noncomputable def f10_canMark (S : CS) (h : Nat) (p1 : Int32) (p2 : Int32) (p3 : Int32) (p4 : Int32) : Option (Int32) :=
  (cal S 10 h (f10_canPlace S h p1 p2)).bind fun v1 =>
  (
    if v1 = 0 then (
      some (0 : Int32)
    ) else (
      (cal S 10 h (f10_canPlace S h p1 p3)).bind fun v4 =>
      if v4 = 0 then (
        some (0 : Int32)
      ) else (
        if p3 < p2 then (
          some (0 : Int32)
        ) else (
          if p4 < 0 then (
            some (0 : Int32)
          ) else (
            if (3 : Int32) < p4 then (
              some (0 : Int32)
            ) else (
              (gr S 10 h 3).bind fun a5 =>
              (ldr S 16 a5 p1).bind fun a6 =>
              (gi S 1 a6 7).bind fun v7 =>
              if (4 : Int32) ≤ v7 then (
                some (0 : Int32)
              ) else (
                some (1 : Int32)
              )
            )
          )
        )
      )
    )
  ).bind fun v2 =>
  (bz v2).bind fun v8 =>
  some v8
theorem hdX_X10_canMark : yX10_canMark.cls = "FarEditors$World" ∧ yX10_canMark.cls ≠ "java/lang/invoke/MethodHandle" ∧ yX10_canMark.cls ≠ "java/lang/invoke/VarHandle" ∧ (parseMethodDescriptor yX10_canMark.desc).map (fun d => d.parameters.length) = some 4 := by decide +kernel
set_option maxHeartbeats 4000000 in
set_option maxRecDepth 100000 in
theorem c10_canMark (l : Launch) (D : va_G) (y : CyT) (zM uM : Nat) {S : CS} {h : Nat} {p1 : Int32} {p2 : Int32} {p3 : Int32} {p4 : Int32} {r : Int32} (hf : f10_canMark S h p1 p2 p3 p4 = some r) : CT l D (tyL y) yX10_canMark cX10_canMark 5 (some .boolean) 2 43 zM uM [.ref h, .int p1, .int p2, .int p3, .int p4] (cZ S) (cU S) (cw y S) (cZ S) (cU S) (cw y S) (some (.int r)) := by
  refine CT.of (by decide) (Nat.le_of_ble_eq_true rfl) (fun E hc hz hnm => ?_)
  have hc : Cx E "FarEditors$World" cX10_canMark 5 := hc
  have hT := hz.2.2.1
  show V E (cZ S) (cU S) (cw y S) 0 [(0, .ref h), (1, .int p1), (2, .int p2), (3, .int p3), (4, .int p4)] []
  unfold f10_canMark at hf
  refine V_aload_n hc dX10_canMark_0 rfl 0 rfl ?_
  refine V_iload_n hc dX10_canMark_1 rfl 1 rfl ?_
  refine V_iload_n hc dX10_canMark_2 rfl 2 rfl ?_
  obtain ⟨v1, hv1, hf⟩ := mb hf
  obtain ⟨hkv1, hv1⟩ := og hv1
  refine C_callV hc hz (As := [.int p1, .int p2]) hkv1 (by decide) (c10_canPlace l D y _ _ hv1) w4_180 w4_173 w4_174 w1_8 w4_175 hdX_X10_canPlace ⟨(Nat.le_of_ble_eq_true rfl), (Nat.le_of_ble_eq_true rfl)⟩ rfl rfl rfl (Nat.le_of_ble_eq_true rfl) dX10_canMark_3 ?_
  obtain ⟨v2, hv3, hf⟩ := mb hf
  have hJ6 : V E (cZ S) (cU S) (cw y S) 52 [] [.int v2] := by
    obtain ⟨v8, hv8, hf⟩ := mb hf
    obtain ⟨hbv8, rfl⟩ := bz_some hv8
    obtain rfl := Option.some.inj hf
    exact V_iret hc hz (bz_nar hbv8) rfl rfl rfl rfl dX10_canMark_52
  refine V_if_eq hc dX10_canMark_6 rfl (fun hq6 => ?_) (fun hq6 => ?_)
  · rw [if_pos hq6] at hv3
    refine V_iconst hc (v := (0 : Int32)) dX10_canMark_51 rfl ?_
    obtain rfl := Option.some.inj hv3
    exact V_sub [] rfl hJ6
  · rw [if_neg hq6] at hv3
    refine V_aload_n hc dX10_canMark_9 rfl 0 rfl ?_
    refine V_iload_n hc dX10_canMark_10 rfl 1 rfl ?_
    refine V_iload_n hc dX10_canMark_11 rfl 3 rfl ?_
    obtain ⟨v4, hv4, hv3⟩ := mb hv3
    obtain ⟨hkv4, hv4⟩ := og hv4
    refine C_callV hc hz (As := [.int p1, .int p3]) hkv4 (by decide) (c10_canPlace l D y _ _ hv4) w4_180 w4_173 w4_174 w1_8 w4_175 hdX_X10_canPlace ⟨(Nat.le_of_ble_eq_true rfl), (Nat.le_of_ble_eq_true rfl)⟩ rfl rfl rfl (Nat.le_of_ble_eq_true rfl) dX10_canMark_12 ?_
    refine V_if_eq hc dX10_canMark_15 rfl (fun hq15 => ?_) (fun hq15 => ?_)
    · rw [if_pos hq15] at hv3
      refine V_iconst hc (v := (0 : Int32)) dX10_canMark_51 rfl ?_
      obtain rfl := Option.some.inj hv3
      exact V_sub [] rfl hJ6
    · rw [if_neg hq15] at hv3
      refine V_iload_n hc dX10_canMark_18 rfl 2 rfl ?_
      refine V_iload_n hc dX10_canMark_19 rfl 3 rfl ?_
      refine V_icmp_gt hc dX10_canMark_20 rfl (fun hq20 => ?_) (fun hq20 => ?_)
      · rw [if_pos hq20] at hv3
        refine V_iconst hc (v := (0 : Int32)) dX10_canMark_51 rfl ?_
        obtain rfl := Option.some.inj hv3
        exact V_sub [] rfl hJ6
      · rw [if_neg hq20] at hv3
        refine V_iload hc dX10_canMark_23 4 rfl ?_
        refine V_if_lt hc dX10_canMark_25 rfl (fun hq25 => ?_) (fun hq25 => ?_)
        · rw [if_pos hq25] at hv3
          refine V_iconst hc (v := (0 : Int32)) dX10_canMark_51 rfl ?_
          obtain rfl := Option.some.inj hv3
          exact V_sub [] rfl hJ6
        · rw [if_neg hq25] at hv3
          refine V_iload hc dX10_canMark_28 4 rfl ?_
          refine V_iconst hc (v := (3 : Int32)) dX10_canMark_30 rfl ?_
          refine V_icmp_gt hc dX10_canMark_31 rfl (fun hq31 => ?_) (fun hq31 => ?_)
          · rw [if_pos hq31] at hv3
            refine V_iconst hc (v := (0 : Int32)) dX10_canMark_51 rfl ?_
            obtain rfl := Option.some.inj hv3
            exact V_sub [] rfl hJ6
          · rw [if_neg hq31] at hv3
            refine V_aload_n hc dX10_canMark_34 rfl 0 rfl ?_
            obtain ⟨a5, ha5, hv3⟩ := mb hv3
            refine C_getr hc rfl iW10 (by decide) 3 (by decide) rfl ha5 w2_78 dX10_canMark_35 ?_
            refine V_iload_n hc dX10_canMark_38 rfl 1 rfl ?_
            obtain ⟨a6, ha6, hv3⟩ := mb hv3
            refine C_aald hc hT (by decide) (by decide) ha6 dX10_canMark_39 ?_
            obtain ⟨v7, hv7, hv3⟩ := mb hv3
            refine C_geti hc rfl iW1 (by decide) 7 (by decide) rfl hv7 w2_18 dX10_canMark_40 ?_
            refine V_iconst hc (v := (4 : Int32)) dX10_canMark_43 rfl ?_
            refine V_icmp_ge hc dX10_canMark_44 rfl (fun hq44 => ?_) (fun hq44 => ?_)
            · rw [if_pos hq44] at hv3
              refine V_iconst hc (v := (0 : Int32)) dX10_canMark_51 rfl ?_
              obtain rfl := Option.some.inj hv3
              exact V_sub [] rfl hJ6
            · rw [if_neg hq44] at hv3
              refine V_iconst hc (v := (1 : Int32)) dX10_canMark_47 rfl ?_
              refine V_goto hc dX10_canMark_48 rfl ?_
              obtain rfl := Option.some.inj hv3
              exact V_sub [] rfl hJ6
noncomputable def f10_canTick (S : CS) (h : Nat) (p1 : Int32) : Option (Int32) :=
  (gi S 10 h 6).bind fun v1 =>
  (
    if v1 ≤ 0 then (
      some (0 : Int32)
    ) else (
      if p1 < (1 : Int32) then (
        some (0 : Int32)
      ) else (
        if (99 : Int32) < p1 then (
          some (0 : Int32)
        ) else (
          (gi S 10 h 8).bind fun v4 =>
          if (999 : Int32) < (v4 + p1) then (
            some (0 : Int32)
          ) else (
            some (1 : Int32)
          )
        )
      )
    )
  ).bind fun v2 =>
  (bz v2).bind fun v5 =>
  some v5
theorem hdX_X10_canTick : yX10_canTick.cls = "FarEditors$World" ∧ yX10_canTick.cls ≠ "java/lang/invoke/MethodHandle" ∧ yX10_canTick.cls ≠ "java/lang/invoke/VarHandle" ∧ (parseMethodDescriptor yX10_canTick.desc).map (fun d => d.parameters.length) = some 1 := by decide +kernel
set_option maxHeartbeats 4000000 in
set_option maxRecDepth 100000 in
theorem c10_canTick (l : Launch) (D : va_G) (y : CyT) (zM uM : Nat) {S : CS} {h : Nat} {p1 : Int32} {r : Int32} (hf : f10_canTick S h p1 = some r) : CT l D (tyL y) yX10_canTick cX10_canTick 2 (some .boolean) 0 0 zM uM [.ref h, .int p1] (cZ S) (cU S) (cw y S) (cZ S) (cU S) (cw y S) (some (.int r)) := by
  refine CT.of (by decide) (Nat.le_of_ble_eq_true rfl) (fun E hc hz hnm => ?_)
  have hc : Cx E "FarEditors$World" cX10_canTick 2 := hc
  have hT := hz.2.2.1
  show V E (cZ S) (cU S) (cw y S) 0 [(0, .ref h), (1, .int p1)] []
  unfold f10_canTick at hf
  refine V_aload_n hc dX10_canTick_0 rfl 0 rfl ?_
  obtain ⟨v1, hv1, hf⟩ := mb hf
  refine C_geti hc rfl iW10 (by decide) 6 (by decide) rfl hv1 w2_84 dX10_canTick_1 ?_
  obtain ⟨v2, hv3, hf⟩ := mb hf
  have hJ4 : V E (cZ S) (cU S) (cw y S) 35 [] [.int v2] := by
    obtain ⟨v5, hv5, hf⟩ := mb hf
    obtain ⟨hbv5, rfl⟩ := bz_some hv5
    obtain rfl := Option.some.inj hf
    exact V_iret hc hz (bz_nar hbv5) rfl rfl rfl rfl dX10_canTick_35
  refine V_if_le hc dX10_canTick_4 rfl (fun hq4 => ?_) (fun hq4 => ?_)
  · rw [if_pos hq4] at hv3
    refine V_iconst hc (v := (0 : Int32)) dX10_canTick_34 rfl ?_
    obtain rfl := Option.some.inj hv3
    exact V_sub [] rfl hJ4
  · rw [if_neg hq4] at hv3
    refine V_iload_n hc dX10_canTick_7 rfl 1 rfl ?_
    refine V_iconst hc (v := (1 : Int32)) dX10_canTick_8 rfl ?_
    refine V_icmp_lt hc dX10_canTick_9 rfl (fun hq9 => ?_) (fun hq9 => ?_)
    · rw [if_pos hq9] at hv3
      refine V_iconst hc (v := (0 : Int32)) dX10_canTick_34 rfl ?_
      obtain rfl := Option.some.inj hv3
      exact V_sub [] rfl hJ4
    · rw [if_neg hq9] at hv3
      refine V_iload_n hc dX10_canTick_12 rfl 1 rfl ?_
      refine V_bipush hc (v := (99 : Int32)) dX10_canTick_13 rfl ?_
      refine V_icmp_gt hc dX10_canTick_15 rfl (fun hq15 => ?_) (fun hq15 => ?_)
      · rw [if_pos hq15] at hv3
        refine V_iconst hc (v := (0 : Int32)) dX10_canTick_34 rfl ?_
        obtain rfl := Option.some.inj hv3
        exact V_sub [] rfl hJ4
      · rw [if_neg hq15] at hv3
        refine V_aload_n hc dX10_canTick_18 rfl 0 rfl ?_
        obtain ⟨v4, hv4, hv3⟩ := mb hv3
        refine C_geti hc rfl iW10 (by decide) 8 (by decide) rfl hv4 w2_89 dX10_canTick_19 ?_
        refine V_iload_n hc dX10_canTick_22 rfl 1 rfl ?_
        refine V_iadd hc dX10_canTick_23 ?_
        refine V_sipush hc (v := (999 : Int32)) dX10_canTick_24 rfl ?_
        refine V_icmp_gt hc dX10_canTick_27 rfl (fun hq27 => ?_) (fun hq27 => ?_)
        · rw [if_pos hq27] at hv3
          refine V_iconst hc (v := (0 : Int32)) dX10_canTick_34 rfl ?_
          obtain rfl := Option.some.inj hv3
          exact V_sub [] rfl hJ4
        · rw [if_neg hq27] at hv3
          refine V_iconst hc (v := (1 : Int32)) dX10_canTick_30 rfl ?_
          refine V_goto hc dX10_canTick_31 rfl ?_
          obtain rfl := Option.some.inj hv3
          exact V_sub [] rfl hJ4
noncomputable def f10_canEdit (S : CS) (h : Nat) (p1 : Nat) : Option (Int32) :=
  (cal S 4 p1 (f4_changesSomething S p1)).bind fun v1 =>
  (
    if v1 = 0 then (
      some (0 : Int32)
    ) else (
      (gi S 10 h 9).bind fun v4 =>
      if (100 : Int32) ≤ v4 then (
        some (0 : Int32)
      ) else (
        (gi S 10 h 10).bind fun v5 =>
        (cal S 4 p1 (f4_countPut S p1)).bind fun v6 =>
        if (200 : Int32) < (v5 + v6) then (
          some (0 : Int32)
        ) else (
          some (1 : Int32)
        )
      )
    )
  ).bind fun v2 =>
  (bz v2).bind fun v7 =>
  some v7
theorem hdX_X10_canEdit : yX10_canEdit.cls = "FarEditors$World" ∧ yX10_canEdit.cls ≠ "java/lang/invoke/MethodHandle" ∧ yX10_canEdit.cls ≠ "java/lang/invoke/VarHandle" ∧ (parseMethodDescriptor yX10_canEdit.desc).map (fun d => d.parameters.length) = some 1 := by decide +kernel
set_option maxHeartbeats 4000000 in
set_option maxRecDepth 100000 in
theorem c10_canEdit (l : Launch) (D : va_G) (y : CyT) (zM uM : Nat) {S : CS} {h : Nat} {p1 : Nat} {r : Int32} (hf : f10_canEdit S h p1 = some r) : CT l D (tyL y) yX10_canEdit cX10_canEdit 2 (some .boolean) 2 42 zM uM [.ref h, .ref p1] (cZ S) (cU S) (cw y S) (cZ S) (cU S) (cw y S) (some (.int r)) := by
  refine CT.of (by decide) (Nat.le_of_ble_eq_true rfl) (fun E hc hz hnm => ?_)
  have hc : Cx E "FarEditors$World" cX10_canEdit 2 := hc
  have hT := hz.2.2.1
  show V E (cZ S) (cU S) (cw y S) 0 [(0, .ref h), (1, .ref p1)] []
  unfold f10_canEdit at hf
  refine V_aload_n hc dX10_canEdit_0 rfl 1 rfl ?_
  obtain ⟨v1, hv1, hf⟩ := mb hf
  obtain ⟨hkv1, hv1⟩ := og hv1
  refine C_callV hc hz (As := []) hkv1 (by decide) (c4_changesSomething l D y _ _ hv1) w4_134 w4_135 w4_136 w1_5 w4_137 hdX_X4_changesSomething ⟨(Nat.le_of_ble_eq_true rfl), (Nat.le_of_ble_eq_true rfl)⟩ rfl rfl rfl (Nat.le_of_ble_eq_true rfl) dX10_canEdit_1 ?_
  obtain ⟨v2, hv3, hf⟩ := mb hf
  have hJ4 : V E (cZ S) (cU S) (cw y S) 36 [] [.int v2] := by
    obtain ⟨v7, hv7, hf⟩ := mb hf
    obtain ⟨hbv7, rfl⟩ := bz_some hv7
    obtain rfl := Option.some.inj hf
    exact V_iret hc hz (bz_nar hbv7) rfl rfl rfl rfl dX10_canEdit_36
  refine V_if_eq hc dX10_canEdit_4 rfl (fun hq4 => ?_) (fun hq4 => ?_)
  · rw [if_pos hq4] at hv3
    refine V_iconst hc (v := (0 : Int32)) dX10_canEdit_35 rfl ?_
    obtain rfl := Option.some.inj hv3
    exact V_sub [] rfl hJ4
  · rw [if_neg hq4] at hv3
    refine V_aload_n hc dX10_canEdit_7 rfl 0 rfl ?_
    obtain ⟨v4, hv4, hv3⟩ := mb hv3
    refine C_geti hc rfl iW10 (by decide) 9 (by decide) rfl hv4 w2_91 dX10_canEdit_8 ?_
    refine V_bipush hc (v := (100 : Int32)) dX10_canEdit_11 rfl ?_
    refine V_icmp_ge hc dX10_canEdit_13 rfl (fun hq13 => ?_) (fun hq13 => ?_)
    · rw [if_pos hq13] at hv3
      refine V_iconst hc (v := (0 : Int32)) dX10_canEdit_35 rfl ?_
      obtain rfl := Option.some.inj hv3
      exact V_sub [] rfl hJ4
    · rw [if_neg hq13] at hv3
      refine V_aload_n hc dX10_canEdit_16 rfl 0 rfl ?_
      obtain ⟨v5, hv5, hv3⟩ := mb hv3
      refine C_geti hc rfl iW10 (by decide) 10 (by decide) rfl hv5 w2_93 dX10_canEdit_17 ?_
      refine V_aload_n hc dX10_canEdit_20 rfl 1 rfl ?_
      obtain ⟨v6, hv6, hv3⟩ := mb hv3
      obtain ⟨hkv6, hv6⟩ := og hv6
      refine C_callV hc hz (As := []) hkv6 (by decide) (c4_countPut l D y _ _ hv6) w4_138 w4_139 w4_140 w1_5 w4_141 hdX_X4_countPut ⟨(Nat.le_of_ble_eq_true rfl), (Nat.le_of_ble_eq_true rfl)⟩ rfl rfl rfl (Nat.le_of_ble_eq_true rfl) dX10_canEdit_21 ?_
      refine V_iadd hc dX10_canEdit_24 ?_
      refine V_sipush hc (v := (200 : Int32)) dX10_canEdit_25 rfl ?_
      refine V_icmp_gt hc dX10_canEdit_28 rfl (fun hq28 => ?_) (fun hq28 => ?_)
      · rw [if_pos hq28] at hv3
        refine V_iconst hc (v := (0 : Int32)) dX10_canEdit_35 rfl ?_
        obtain rfl := Option.some.inj hv3
        exact V_sub [] rfl hJ4
      · rw [if_neg hq28] at hv3
        refine V_iconst hc (v := (1 : Int32)) dX10_canEdit_31 rfl ?_
        refine V_goto hc dX10_canEdit_32 rfl ?_
        obtain rfl := Option.some.inj hv3
        exact V_sub [] rfl hJ4
noncomputable def f10_makeEdit (X : Nat × Nat) (S : CS) (h : Nat) (p1 : Nat) (p2 : Nat) : Option (CS) :=
  (gi S 10 h 9).bind fun v1 =>
  (pi S 10 h 9 (v1 + (1 : Int32))).bind fun S2 =>
  (gi S2 10 h 10).bind fun v3 =>
  (cal S2 4 p2 (f4_countPut S2 p2)).bind fun v4 =>
  (pi S2 10 h 10 (v3 + v4)).bind fun S5 =>
  (cal S5 1 p1 (f1_carryPlaces S5 p1 p2 (1 : Int32))).bind fun S6 =>
  (gr S6 10 h 1).bind fun a7 =>
  (gr S6 1 p1 0).bind fun a8 =>
  (cal S6 9 a7 (f9_change S6 a7 a8 p2 (0 : Int32))).bind fun S9 =>
  (gi S9 1 p1 12).bind fun v10 =>
  (
    if v10 = 0 then (
      (gr S9 1 p1 1).bind fun a20 =>
      (cal S9 4 a20 (f4_copy X S9 a20 p2)).bind fun S21 =>
      (cal S21 1 p1 (f1_send S21 p1)).bind fun S22 =>
      some S22
    ) else (
      (gi S9 1 p1 13).bind fun v13 =>
      if v13 = 0 then (
        (gr S9 1 p1 2).bind fun a14 =>
        (cal S9 4 a14 (f4_copy X S9 a14 p2)).bind fun S15 =>
        (pi S15 1 p1 13 (1 : Int32)).bind fun S16 =>
        some S16
      ) else (
        (gr S9 10 h 1).bind fun a17 =>
        (gr S9 1 p1 2).bind fun a18 =>
        (cal S9 9 a17 (f9_compose X S9 a17 a18 p2)).bind fun S19 =>
        some S19
      )
    )
  ).bind fun S11 =>
  some S11
theorem hdX_X10_makeEdit : yX10_makeEdit.cls = "FarEditors$World" ∧ yX10_makeEdit.cls ≠ "java/lang/invoke/MethodHandle" ∧ yX10_makeEdit.cls ≠ "java/lang/invoke/VarHandle" ∧ (parseMethodDescriptor yX10_makeEdit.desc).map (fun d => d.parameters.length) = some 2 := by decide +kernel
set_option maxHeartbeats 4000000 in
set_option maxRecDepth 100000 in
theorem c10_makeEdit (l : Launch) (D : va_G) (y : CyT) (X : Nat × Nat) (hX : X.2 ≤ 100000000) {S S' : CS} {h : Nat} {p1 : Nat} {p2 : Nat} (hf : f10_makeEdit X S h p1 p2 = some S') : CT l D (tyL y) yX10_makeEdit cX10_makeEdit 3 none 3 71 X.1 X.2 [.ref h, .ref p1, .ref p2] (cZ S) (cU S) (cw y S) (cZ S') (cU S') (cw y S') none := by
  refine CT.of (by decide) (Nat.le_of_ble_eq_true rfl) (fun E hc hz hnm => ?_)
  have hc : Cx E "FarEditors$World" cX10_makeEdit 3 := hc
  have hT := hz.2.2.1
  show V E (cZ S) (cU S) (cw y S) 0 [(0, .ref h), (1, .ref p1), (2, .ref p2)] []
  unfold f10_makeEdit at hf
  refine V_aload_n hc dX10_makeEdit_0 rfl 0 rfl ?_
  refine V_dup hc dX10_makeEdit_1 rfl ?_
  obtain ⟨v1, hv1, hf⟩ := mb hf
  refine C_geti hc rfl iW10 (by decide) 9 (by decide) rfl hv1 w2_91 dX10_makeEdit_2 ?_
  refine V_iconst hc (v := (1 : Int32)) dX10_makeEdit_5 rfl ?_
  refine V_iadd hc dX10_makeEdit_6 ?_
  obtain ⟨S2, hS2, hf⟩ := mb hf
  refine C_puti hc rfl iW10 tyX10 tyX10_ok nmX10 (by decide) 9 (by decide) rfl hS2 w2_91 rfl rfl rfl dX10_makeEdit_7 ?_
  refine V_aload_n hc dX10_makeEdit_10 rfl 0 rfl ?_
  refine V_dup hc dX10_makeEdit_11 rfl ?_
  obtain ⟨v3, hv3, hf⟩ := mb hf
  refine C_geti hc rfl iW10 (by decide) 10 (by decide) rfl hv3 w2_93 dX10_makeEdit_12 ?_
  refine V_aload_n hc dX10_makeEdit_15 rfl 2 rfl ?_
  obtain ⟨v4, hv4, hf⟩ := mb hf
  obtain ⟨hkv4, hv4⟩ := og hv4
  refine C_callV hc hz (As := []) hkv4 (by decide) (c4_countPut l D y _ _ hv4) w4_138 w4_139 w4_140 w1_5 w4_141 hdX_X4_countPut ⟨(Nat.le_of_ble_eq_true rfl), (Nat.le_of_ble_eq_true rfl)⟩ rfl rfl rfl (Nat.le_of_ble_eq_true rfl) dX10_makeEdit_16 ?_
  refine V_iadd hc dX10_makeEdit_19 ?_
  obtain ⟨S5, hS5, hf⟩ := mb hf
  refine C_puti hc rfl iW10 tyX10 tyX10_ok nmX10 (by decide) 10 (by decide) rfl hS5 w2_93 rfl rfl rfl dX10_makeEdit_20 ?_
  refine V_aload_n hc dX10_makeEdit_23 rfl 1 rfl ?_
  refine V_aload_n hc dX10_makeEdit_24 rfl 2 rfl ?_
  refine V_iconst hc (v := (1 : Int32)) dX10_makeEdit_25 rfl ?_
  obtain ⟨S6, hS6, hf⟩ := mb hf
  obtain ⟨hkS6, hS6⟩ := og hS6
  refine C_callV hc hz (As := [.ref p2, .int (1 : Int32)]) hkS6 (by decide) (c1_carryPlaces l D y _ _ hS6) w4_99 w4_100 w4_101 w1_9 w4_102 hdX_X1_carryPlaces ⟨(Nat.le_of_ble_eq_true rfl), (Nat.le_of_ble_eq_true rfl)⟩ rfl rfl rfl (Nat.le_of_ble_eq_true rfl) dX10_makeEdit_26 ?_
  refine V_aload_n hc dX10_makeEdit_29 rfl 0 rfl ?_
  obtain ⟨a7, ha7, hf⟩ := mb hf
  refine C_getr hc rfl iW10 (by decide) 1 (by decide) rfl ha7 w2_73 dX10_makeEdit_30 ?_
  refine V_aload_n hc dX10_makeEdit_33 rfl 1 rfl ?_
  obtain ⟨a8, ha8, hf⟩ := mb hf
  refine C_getr hc rfl iW1 (by decide) 0 (by decide) rfl ha8 w1_239 dX10_makeEdit_34 ?_
  refine V_aload_n hc dX10_makeEdit_37 rfl 2 rfl ?_
  refine V_iconst hc (v := (0 : Int32)) dX10_makeEdit_38 rfl ?_
  obtain ⟨S9, hS9, hf⟩ := mb hf
  obtain ⟨hkS9, hS9⟩ := og hS9
  refine C_callV hc hz (As := [.ref a8, .ref p2, .int (0 : Int32)]) hkS9 (by decide) (c9_change l D y _ _ hS9) w4_81 w4_82 w4_83 w1_3 w4_84 hdX_X9_change ⟨(Nat.le_of_ble_eq_true rfl), (Nat.le_of_ble_eq_true rfl)⟩ rfl rfl rfl (Nat.le_of_ble_eq_true rfl) dX10_makeEdit_39 ?_
  refine V_aload_n hc dX10_makeEdit_42 rfl 1 rfl ?_
  obtain ⟨v10, hv10, hf⟩ := mb hf
  refine C_geti hc rfl iW1 (by decide) 12 (by decide) rfl hv10 w2_33 dX10_makeEdit_43 ?_
  obtain ⟨S11, hv12, hf⟩ := mb hf
  have hJ46 : V E (cZ S11) (cU S11) (cw y S11) 99 [] [] := by
    obtain rfl := Option.some.inj hf
    exact V_vret hc hz rfl rfl rfl rfl dX10_makeEdit_99
  refine V_if_ne hc dX10_makeEdit_46 rfl (fun hq46 => ?_) (fun hq46 => ?_)
  · rw [if_neg hq46] at hv12
    refine V_aload_n hc dX10_makeEdit_64 rfl 1 rfl ?_
    obtain ⟨v13, hv13, hv12⟩ := mb hv12
    refine C_geti hc rfl iW1 (by decide) 13 (by decide) rfl hv13 w2_36 dX10_makeEdit_65 ?_
    refine V_if_eq hc dX10_makeEdit_68 rfl (fun hq68 => ?_) (fun hq68 => ?_)
    · rw [if_pos hq68] at hv12
      refine V_aload_n hc dX10_makeEdit_86 rfl 1 rfl ?_
      obtain ⟨a14, ha14, hv12⟩ := mb hv12
      refine C_getr hc rfl iW1 (by decide) 2 (by decide) rfl ha14 w2_5 dX10_makeEdit_87 ?_
      refine V_aload_n hc dX10_makeEdit_90 rfl 2 rfl ?_
      obtain ⟨S15, hS15, hv12⟩ := mb hv12
      obtain ⟨hkS15, hS15⟩ := og hS15
      refine C_callV hc hz (As := [.ref p2]) hkS15 (by decide) (c4_copy l D y X hX hS15) w4_7 w4_8 w4_9 w1_5 w4_10 hdX_X4_copy ⟨(Nat.le_of_ble_eq_true rfl), (Nat.le_of_ble_eq_true rfl)⟩ rfl rfl rfl (Nat.le_of_ble_eq_true rfl) dX10_makeEdit_91 ?_
      refine V_aload_n hc dX10_makeEdit_94 rfl 1 rfl ?_
      refine V_iconst hc (v := (1 : Int32)) dX10_makeEdit_95 rfl ?_
      obtain ⟨S16, hS16, hv12⟩ := mb hv12
      refine C_puti hc rfl iW1 tyX1 tyX1_ok nmX1 (by decide) 13 (by decide) rfl hS16 w2_36 rfl rfl rfl dX10_makeEdit_96 ?_
      obtain rfl := Option.some.inj hv12
      exact V_sub [] rfl hJ46
    · rw [if_neg hq68] at hv12
      refine V_aload_n hc dX10_makeEdit_71 rfl 0 rfl ?_
      obtain ⟨a17, ha17, hv12⟩ := mb hv12
      refine C_getr hc rfl iW10 (by decide) 1 (by decide) rfl ha17 w2_73 dX10_makeEdit_72 ?_
      refine V_aload_n hc dX10_makeEdit_75 rfl 1 rfl ?_
      obtain ⟨a18, ha18, hv12⟩ := mb hv12
      refine C_getr hc rfl iW1 (by decide) 2 (by decide) rfl ha18 w2_5 dX10_makeEdit_76 ?_
      refine V_aload_n hc dX10_makeEdit_79 rfl 2 rfl ?_
      obtain ⟨S19, hS19, hv12⟩ := mb hv12
      obtain ⟨hkS19, hS19⟩ := og hS19
      refine C_callV hc hz (As := [.ref a18, .ref p2]) hkS19 (by decide) (c9_compose l D y X hX hS19) w4_164 w4_165 w4_166 w1_3 w4_167 hdX_X9_compose ⟨(Nat.le_of_ble_eq_true rfl), (Nat.le_of_ble_eq_true rfl)⟩ rfl rfl rfl (Nat.le_of_ble_eq_true rfl) dX10_makeEdit_80 ?_
      refine V_goto hc dX10_makeEdit_83 rfl ?_
      obtain rfl := Option.some.inj hv12
      exact V_sub [] rfl hJ46
  · rw [if_pos hq46] at hv12
    refine V_aload_n hc dX10_makeEdit_49 rfl 1 rfl ?_
    obtain ⟨a20, ha20, hv12⟩ := mb hv12
    refine C_getr hc rfl iW1 (by decide) 1 (by decide) rfl ha20 w2_2 dX10_makeEdit_50 ?_
    refine V_aload_n hc dX10_makeEdit_53 rfl 2 rfl ?_
    obtain ⟨S21, hS21, hv12⟩ := mb hv12
    obtain ⟨hkS21, hS21⟩ := og hS21
    refine C_callV hc hz (As := [.ref p2]) hkS21 (by decide) (c4_copy l D y X hX hS21) w4_7 w4_8 w4_9 w1_5 w4_10 hdX_X4_copy ⟨(Nat.le_of_ble_eq_true rfl), (Nat.le_of_ble_eq_true rfl)⟩ rfl rfl rfl (Nat.le_of_ble_eq_true rfl) dX10_makeEdit_54 ?_
    refine V_aload_n hc dX10_makeEdit_57 rfl 1 rfl ?_
    obtain ⟨S22, hS22, hv12⟩ := mb hv12
    obtain ⟨hkS22, hS22⟩ := og hS22
    refine C_callV hc hz (As := []) hkS22 (by decide) (c1_send l D y _ _ hS22) w4_163 w4_96 w4_97 w1_9 w4_98 hdX_X1_send ⟨(Nat.le_of_ble_eq_true rfl), (Nat.le_of_ble_eq_true rfl)⟩ rfl rfl rfl (Nat.le_of_ble_eq_true rfl) dX10_makeEdit_58 ?_
    refine V_goto hc dX10_makeEdit_61 rfl ?_
    obtain rfl := Option.some.inj hv12
    exact V_sub [] rfl hJ46
noncomputable def f10_editPlainly (X : Nat × Nat) (S : CS) (h : Nat) (p1 : Nat) (p2 : Nat) : Option (CS) :=
  (gr S 10 h 1).bind fun a1 =>
  (gr S 1 p1 0).bind fun a2 =>
  (gr S 1 p1 3).bind fun a3 =>
  bn2 (cal S 3 a3 (f3_addOne S a3)) fun a4 S5 =>
  (cal S5 9 a1 (f9_invert X S5 a1 p2 a2 a4)).bind fun S6 =>
  (gr S6 1 p1 4).bind fun a7 =>
  (pi S6 3 a7 1 (0 : Int32)).bind fun S8 =>
  (cal S8 10 h (f10_makeEdit X S8 h p1 p2)).bind fun S9 =>
  some S9
theorem hdX_X10_editPlainly : yX10_editPlainly.cls = "FarEditors$World" ∧ yX10_editPlainly.cls ≠ "java/lang/invoke/MethodHandle" ∧ yX10_editPlainly.cls ≠ "java/lang/invoke/VarHandle" ∧ (parseMethodDescriptor yX10_editPlainly.desc).map (fun d => d.parameters.length) = some 2 := by decide +kernel
set_option maxHeartbeats 4000000 in
set_option maxRecDepth 100000 in
theorem c10_editPlainly (l : Launch) (D : va_G) (y : CyT) (X : Nat × Nat) (hX : X.2 ≤ 100000000) {S S' : CS} {h : Nat} {p1 : Nat} {p2 : Nat} (hf : f10_editPlainly X S h p1 p2 = some S') : CT l D (tyL y) yX10_editPlainly cX10_editPlainly 3 none 4 93 X.1 X.2 [.ref h, .ref p1, .ref p2] (cZ S) (cU S) (cw y S) (cZ S') (cU S') (cw y S') none := by
  refine CT.of (by decide) (Nat.le_of_ble_eq_true rfl) (fun E hc hz hnm => ?_)
  have hc : Cx E "FarEditors$World" cX10_editPlainly 3 := hc
  have hT := hz.2.2.1
  show V E (cZ S) (cU S) (cw y S) 0 [(0, .ref h), (1, .ref p1), (2, .ref p2)] []
  unfold f10_editPlainly at hf
  refine V_aload_n hc dX10_editPlainly_0 rfl 0 rfl ?_
  obtain ⟨a1, ha1, hf⟩ := mb hf
  refine C_getr hc rfl iW10 (by decide) 1 (by decide) rfl ha1 w2_73 dX10_editPlainly_1 ?_
  refine V_aload_n hc dX10_editPlainly_4 rfl 2 rfl ?_
  refine V_aload_n hc dX10_editPlainly_5 rfl 1 rfl ?_
  obtain ⟨a2, ha2, hf⟩ := mb hf
  refine C_getr hc rfl iW1 (by decide) 0 (by decide) rfl ha2 w1_239 dX10_editPlainly_6 ?_
  refine V_aload_n hc dX10_editPlainly_9 rfl 1 rfl ?_
  obtain ⟨a3, ha3, hf⟩ := mb hf
  refine C_getr hc rfl iW1 (by decide) 3 (by decide) rfl ha3 w2_8 dX10_editPlainly_10 ?_
  obtain ⟨a4, S5, ha4, hf⟩ := mb2 hf
  obtain ⟨hka4, ha4⟩ := og ha4
  refine C_callV hc hz (As := []) hka4 (by decide) (c3_addOne l D y _ _ ha4) w4_146 w4_147 w4_148 w1_10 w4_149 hdX_X3_addOne ⟨(Nat.le_of_ble_eq_true rfl), (Nat.le_of_ble_eq_true rfl)⟩ rfl rfl rfl (Nat.le_of_ble_eq_true rfl) dX10_editPlainly_13 ?_
  obtain ⟨S6, hS6, hf⟩ := mb hf
  obtain ⟨hkS6, hS6⟩ := og hS6
  refine C_callV hc hz (As := [.ref p2, .ref a2, .ref a4]) hkS6 (by decide) (c9_invert l D y X hX hS6) w4_150 w4_151 w4_152 w1_3 w4_153 hdX_X9_invert ⟨(Nat.le_of_ble_eq_true rfl), (Nat.le_of_ble_eq_true rfl)⟩ rfl rfl rfl (Nat.le_of_ble_eq_true rfl) dX10_editPlainly_16 ?_
  refine V_aload_n hc dX10_editPlainly_19 rfl 1 rfl ?_
  obtain ⟨a7, ha7, hf⟩ := mb hf
  refine C_getr hc rfl iW1 (by decide) 4 (by decide) rfl ha7 w2_11 dX10_editPlainly_20 ?_
  refine V_iconst hc (v := (0 : Int32)) dX10_editPlainly_23 rfl ?_
  obtain ⟨S8, hS8, hf⟩ := mb hf
  refine C_puti hc rfl iW3 tyX3 tyX3_ok nmX3 (by decide) 1 (by decide) rfl hS8 w1_231 rfl rfl rfl dX10_editPlainly_24 ?_
  refine V_aload_n hc dX10_editPlainly_27 rfl 0 rfl ?_
  refine V_aload_n hc dX10_editPlainly_28 rfl 1 rfl ?_
  refine V_aload_n hc dX10_editPlainly_29 rfl 2 rfl ?_
  obtain ⟨S9, hS9, hf⟩ := mb hf
  obtain ⟨hkS9, hS9⟩ := og hS9
  refine C_callV hc hz (As := [.ref p1, .ref p2]) hkS9 (by decide) (c10_makeEdit l D y X hX hS9) w4_159 w4_161 wp3_0 w1_8 w4_162 hdX_X10_makeEdit ⟨(Nat.le_of_ble_eq_true rfl), (Nat.le_of_ble_eq_true rfl)⟩ rfl rfl rfl (Nat.le_of_ble_eq_true rfl) dX10_editPlainly_30 ?_
  obtain rfl := Option.some.inj hf
  exact V_vret hc hz rfl rfl rfl rfl dX10_editPlainly_33
