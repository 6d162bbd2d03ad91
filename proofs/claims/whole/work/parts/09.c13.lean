noncomputable def f10_canTick (S : CS) (h : Nat) (p1 : Int32) : Option (Int32) :=
  (gi S 10 h 6).bind fun v1 =>
  (
    if v1 ≤ 0 then (
      some (0 : Int32)
    ) else (
      if p1 < (1 : Int32) then (
        some (0 : Int32)
      ) else (
        if (99 : Int32) < p1 then (
          some (0 : Int32)
        ) else (
          (gi S 10 h 8).bind fun v4 =>
          if (999 : Int32) < (v4 + p1) then (
            some (0 : Int32)
          ) else (
            some (1 : Int32)
          )
        )
      )
    )
  ).bind fun v2 =>
  (bz v2).bind fun v5 =>
  some v5
theorem hdX_X10_canTick : yX10_canTick.cls = "FarEditors$World" ∧ yX10_canTick.cls ≠ "java/lang/invoke/MethodHandle" ∧ yX10_canTick.cls ≠ "java/lang/invoke/VarHandle" ∧ (parseMethodDescriptor yX10_canTick.desc).map (fun d => d.parameters.length) = some 1 := by decide +kernel
set_option maxHeartbeats 4000000 in
set_option maxRecDepth 100000 in
theorem c10_canTick (l : Launch) (D : va_G) (y : CyT) (zM uM : Nat) {S : CS} {h : Nat} {p1 : Int32} {r : Int32} (hf : f10_canTick S h p1 = some r) : CT l D y yX10_canTick cX10_canTick 2 (some .boolean) 0 0 zM uM [.ref h, .int p1] (cZ S) (cU S) (cw y S) (cZ S) (cU S) (cw y S) (some (.int r)) := by
  refine CT.of (by decide) (Nat.le_of_ble_eq_true rfl) (fun E hc hzz hnm => ?_)
  have hc : Cx E "FarEditors$World" cX10_canTick 2 := hc
  have hz := hzz.1
  have hT := hz.2.2.1
  show V E (cZ S) (cU S) (cw y S) 0 [(0, .ref h), (1, .int p1)] []
  unfold f10_canTick at hf
  refine V_aload_n hc dX10_canTick_0 rfl 0 rfl ?_
  obtain ⟨v1, hv1, hf⟩ := mb hf
  refine C_geti hc rfl iW10 (by decide) 6 (by decide) rfl hv1 w2_84 dX10_canTick_1 ?_
  obtain ⟨v2, hv3, hf⟩ := mb hf
  have hJ4 : V E (cZ S) (cU S) (cw y S) 35 [] [.int v2] := by
    obtain ⟨v5, hv5, hf⟩ := mb hf
    obtain ⟨hbv5, rfl⟩ := bz_some hv5
    obtain rfl := Option.some.inj hf
    exact V_iret hc hzz (bz_nar hbv5) rfl rfl rfl rfl dX10_canTick_35
  refine V_if_le hc dX10_canTick_4 rfl (fun hq4 => ?_) (fun hq4 => ?_)
  · rw [if_pos hq4] at hv3
    refine V_iconst hc (v := (0 : Int32)) dX10_canTick_34 rfl ?_
    obtain rfl := Option.some.inj hv3
    exact V_sub [] rfl hJ4
  · rw [if_neg hq4] at hv3
    refine V_iload_n hc dX10_canTick_7 rfl 1 rfl ?_
    refine V_iconst hc (v := (1 : Int32)) dX10_canTick_8 rfl ?_
    refine V_icmp_lt hc dX10_canTick_9 rfl (fun hq9 => ?_) (fun hq9 => ?_)
    · rw [if_pos hq9] at hv3
      refine V_iconst hc (v := (0 : Int32)) dX10_canTick_34 rfl ?_
      obtain rfl := Option.some.inj hv3
      exact V_sub [] rfl hJ4
    · rw [if_neg hq9] at hv3
      refine V_iload_n hc dX10_canTick_12 rfl 1 rfl ?_
      refine V_bipush hc (v := (99 : Int32)) dX10_canTick_13 rfl ?_
      refine V_icmp_gt hc dX10_canTick_15 rfl (fun hq15 => ?_) (fun hq15 => ?_)
      · rw [if_pos hq15] at hv3
        refine V_iconst hc (v := (0 : Int32)) dX10_canTick_34 rfl ?_
        obtain rfl := Option.some.inj hv3
        exact V_sub [] rfl hJ4
      · rw [if_neg hq15] at hv3
        refine V_aload_n hc dX10_canTick_18 rfl 0 rfl ?_
        obtain ⟨v4, hv4, hv3⟩ := mb hv3
        refine C_geti hc rfl iW10 (by decide) 8 (by decide) rfl hv4 w2_89 dX10_canTick_19 ?_
        refine V_iload_n hc dX10_canTick_22 rfl 1 rfl ?_
        refine V_iadd hc dX10_canTick_23 ?_
        refine V_sipush hc (v := (999 : Int32)) dX10_canTick_24 rfl ?_
        refine V_icmp_gt hc dX10_canTick_27 rfl (fun hq27 => ?_) (fun hq27 => ?_)
        · rw [if_pos hq27] at hv3
          refine V_iconst hc (v := (0 : Int32)) dX10_canTick_34 rfl ?_
          obtain rfl := Option.some.inj hv3
          exact V_sub [] rfl hJ4
        · rw [if_neg hq27] at hv3
          refine V_iconst hc (v := (1 : Int32)) dX10_canTick_30 rfl ?_
          refine V_goto hc dX10_canTick_31 rfl ?_
          obtain rfl := Option.some.inj hv3
          exact V_sub [] rfl hJ4
noncomputable def f10_canEdit (S : CS) (h : Nat) (p1 : Nat) : Option (Int32) :=
  (cal S 4 p1 (f4_changesSomething S p1)).bind fun v1 =>
  (
    if v1 = 0 then (
      some (0 : Int32)
    ) else (
      (gi S 10 h 9).bind fun v4 =>
      if (100 : Int32) ≤ v4 then (
        some (0 : Int32)
      ) else (
        (gi S 10 h 10).bind fun v5 =>
        (cal S 4 p1 (f4_countPut S p1)).bind fun v6 =>
        if (200 : Int32) < (v5 + v6) then (
          some (0 : Int32)
        ) else (
          some (1 : Int32)
        )
      )
    )
  ).bind fun v2 =>
  (bz v2).bind fun v7 =>
  some v7
theorem hdX_X10_canEdit : yX10_canEdit.cls = "FarEditors$World" ∧ yX10_canEdit.cls ≠ "java/lang/invoke/MethodHandle" ∧ yX10_canEdit.cls ≠ "java/lang/invoke/VarHandle" ∧ (parseMethodDescriptor yX10_canEdit.desc).map (fun d => d.parameters.length) = some 1 := by decide +kernel
set_option maxHeartbeats 4000000 in
set_option maxRecDepth 100000 in
theorem c10_canEdit (l : Launch) (D : va_G) (y : CyT) (zM uM : Nat) {S : CS} {h : Nat} {p1 : Nat} {r : Int32} (hf : f10_canEdit S h p1 = some r) : CT l D y yX10_canEdit cX10_canEdit 2 (some .boolean) 2 42 zM uM [.ref h, .ref p1] (cZ S) (cU S) (cw y S) (cZ S) (cU S) (cw y S) (some (.int r)) := by
  refine CT.of (by decide) (Nat.le_of_ble_eq_true rfl) (fun E hc hzz hnm => ?_)
  have hc : Cx E "FarEditors$World" cX10_canEdit 2 := hc
  have hz := hzz.1
  have hT := hz.2.2.1
  show V E (cZ S) (cU S) (cw y S) 0 [(0, .ref h), (1, .ref p1)] []
  unfold f10_canEdit at hf
  refine V_aload_n hc dX10_canEdit_0 rfl 1 rfl ?_
  obtain ⟨v1, hv1, hf⟩ := mb hf
  obtain ⟨hkv1, hv1⟩ := og hv1
  refine C_callV hc hz (As := []) hkv1 (by decide) (c4_changesSomething l D y _ _ hv1) w4_134 w4_135 w4_136 w1_5 w4_137 hdX_X4_changesSomething ⟨(Nat.le_of_ble_eq_true rfl), (Nat.le_of_ble_eq_true rfl)⟩ rfl rfl rfl (Nat.le_of_ble_eq_true rfl) dX10_canEdit_1 ?_
  obtain ⟨v2, hv3, hf⟩ := mb hf
  have hJ4 : V E (cZ S) (cU S) (cw y S) 36 [] [.int v2] := by
    obtain ⟨v7, hv7, hf⟩ := mb hf
    obtain ⟨hbv7, rfl⟩ := bz_some hv7
    obtain rfl := Option.some.inj hf
    exact V_iret hc hzz (bz_nar hbv7) rfl rfl rfl rfl dX10_canEdit_36
  refine V_if_eq hc dX10_canEdit_4 rfl (fun hq4 => ?_) (fun hq4 => ?_)
  · rw [if_pos hq4] at hv3
    refine V_iconst hc (v := (0 : Int32)) dX10_canEdit_35 rfl ?_
    obtain rfl := Option.some.inj hv3
    exact V_sub [] rfl hJ4
  · rw [if_neg hq4] at hv3
    refine V_aload_n hc dX10_canEdit_7 rfl 0 rfl ?_
    obtain ⟨v4, hv4, hv3⟩ := mb hv3
    refine C_geti hc rfl iW10 (by decide) 9 (by decide) rfl hv4 w2_91 dX10_canEdit_8 ?_
    refine V_bipush hc (v := (100 : Int32)) dX10_canEdit_11 rfl ?_
    refine V_icmp_ge hc dX10_canEdit_13 rfl (fun hq13 => ?_) (fun hq13 => ?_)
    · rw [if_pos hq13] at hv3
      refine V_iconst hc (v := (0 : Int32)) dX10_canEdit_35 rfl ?_
      obtain rfl := Option.some.inj hv3
      exact V_sub [] rfl hJ4
    · rw [if_neg hq13] at hv3
      refine V_aload_n hc dX10_canEdit_16 rfl 0 rfl ?_
      obtain ⟨v5, hv5, hv3⟩ := mb hv3
      refine C_geti hc rfl iW10 (by decide) 10 (by decide) rfl hv5 w2_93 dX10_canEdit_17 ?_
      refine V_aload_n hc dX10_canEdit_20 rfl 1 rfl ?_
      obtain ⟨v6, hv6, hv3⟩ := mb hv3
      obtain ⟨hkv6, hv6⟩ := og hv6
      refine C_callV hc hz (As := []) hkv6 (by decide) (c4_countPut l D y _ _ hv6) w4_138 w4_139 w4_140 w1_5 w4_141 hdX_X4_countPut ⟨(Nat.le_of_ble_eq_true rfl), (Nat.le_of_ble_eq_true rfl)⟩ rfl rfl rfl (Nat.le_of_ble_eq_true rfl) dX10_canEdit_21 ?_
      refine V_iadd hc dX10_canEdit_24 ?_
      refine V_sipush hc (v := (200 : Int32)) dX10_canEdit_25 rfl ?_
      refine V_icmp_gt hc dX10_canEdit_28 rfl (fun hq28 => ?_) (fun hq28 => ?_)
      · rw [if_pos hq28] at hv3
        refine V_iconst hc (v := (0 : Int32)) dX10_canEdit_35 rfl ?_
        obtain rfl := Option.some.inj hv3
        exact V_sub [] rfl hJ4
      · rw [if_neg hq28] at hv3
        refine V_iconst hc (v := (1 : Int32)) dX10_canEdit_31 rfl ?_
        refine V_goto hc dX10_canEdit_32 rfl ?_
        obtain rfl := Option.some.inj hv3
        exact V_sub [] rfl hJ4
noncomputable def f10_makeEdit (X : Nat × Nat) (S : CS) (h : Nat) (p1 : Nat) (p2 : Nat) : Option (CS) :=
  (gi S 10 h 9).bind fun v1 =>
  (pi S 10 h 9 (v1 + (1 : Int32))).bind fun S2 =>
  (gi S2 10 h 10).bind fun v3 =>
  (cal S2 4 p2 (f4_countPut S2 p2)).bind fun v4 =>
  (pi S2 10 h 10 (v3 + v4)).bind fun S5 =>
  (cal S5 1 p1 (f1_carryPlaces S5 p1 p2 (1 : Int32))).bind fun S6 =>
  (gr S6 10 h 1).bind fun a7 =>
  (gr S6 1 p1 0).bind fun a8 =>
  (cal S6 9 a7 (f9_change S6 a7 a8 p2 (0 : Int32))).bind fun S9 =>
  (gi S9 1 p1 12).bind fun v10 =>
  (
    if v10 = 0 then (
      (gr S9 1 p1 1).bind fun a20 =>
      (cal S9 4 a20 (f4_copy X S9 a20 p2)).bind fun S21 =>
      (cal S21 1 p1 (f1_send S21 p1)).bind fun S22 =>
      some S22
    ) else (
      (gi S9 1 p1 13).bind fun v13 =>
      if v13 = 0 then (
        (gr S9 1 p1 2).bind fun a14 =>
        (cal S9 4 a14 (f4_copy X S9 a14 p2)).bind fun S15 =>
        (pi S15 1 p1 13 (1 : Int32)).bind fun S16 =>
        some S16
      ) else (
        (gr S9 10 h 1).bind fun a17 =>
        (gr S9 1 p1 2).bind fun a18 =>
        (cal S9 9 a17 (f9_compose X S9 a17 a18 p2)).bind fun S19 =>
        some S19
      )
    )
  ).bind fun S11 =>
  some S11
theorem hdX_X10_makeEdit : yX10_makeEdit.cls = "FarEditors$World" ∧ yX10_makeEdit.cls ≠ "java/lang/invoke/MethodHandle" ∧ yX10_makeEdit.cls ≠ "java/lang/invoke/VarHandle" ∧ (parseMethodDescriptor yX10_makeEdit.desc).map (fun d => d.parameters.length) = some 2 := by decide +kernel
set_option maxHeartbeats 4000000 in
set_option maxRecDepth 100000 in
theorem c10_makeEdit (l : Launch) (D : va_G) (y : CyT) (X : Nat × Nat) (hX : X.2 ≤ 100000000) {S S' : CS} {h : Nat} {p1 : Nat} {p2 : Nat} (hf : f10_makeEdit X S h p1 p2 = some S') : CT l D y yX10_makeEdit cX10_makeEdit 3 none 3 71 X.1 X.2 [.ref h, .ref p1, .ref p2] (cZ S) (cU S) (cw y S) (cZ S') (cU S') (cw y S') none := by
  refine CT.of (by decide) (Nat.le_of_ble_eq_true rfl) (fun E hc hzz hnm => ?_)
  have hc : Cx E "FarEditors$World" cX10_makeEdit 3 := hc
  have hz := hzz.1
  have hT := hz.2.2.1
  show V E (cZ S) (cU S) (cw y S) 0 [(0, .ref h), (1, .ref p1), (2, .ref p2)] []
  unfold f10_makeEdit at hf
  refine V_aload_n hc dX10_makeEdit_0 rfl 0 rfl ?_
  refine V_dup hc dX10_makeEdit_1 rfl ?_
  obtain ⟨v1, hv1, hf⟩ := mb hf
  refine C_geti hc rfl iW10 (by decide) 9 (by decide) rfl hv1 w2_91 dX10_makeEdit_2 ?_
  refine V_iconst hc (v := (1 : Int32)) dX10_makeEdit_5 rfl ?_
  refine V_iadd hc dX10_makeEdit_6 ?_
  obtain ⟨S2, hS2, hf⟩ := mb hf
  refine C_puti hc rfl iW10 tyX10 tyX10_ok nmX10 (by decide) 9 (by decide) rfl hS2 w2_91 rfl rfl rfl dX10_makeEdit_7 ?_
  refine V_aload_n hc dX10_makeEdit_10 rfl 0 rfl ?_
  refine V_dup hc dX10_makeEdit_11 rfl ?_
  obtain ⟨v3, hv3, hf⟩ := mb hf
  refine C_geti hc rfl iW10 (by decide) 10 (by decide) rfl hv3 w2_93 dX10_makeEdit_12 ?_
  refine V_aload_n hc dX10_makeEdit_15 rfl 2 rfl ?_
  obtain ⟨v4, hv4, hf⟩ := mb hf
  obtain ⟨hkv4, hv4⟩ := og hv4
  refine C_callV hc hz (As := []) hkv4 (by decide) (c4_countPut l D y _ _ hv4) w4_138 w4_139 w4_140 w1_5 w4_141 hdX_X4_countPut ⟨(Nat.le_of_ble_eq_true rfl), (Nat.le_of_ble_eq_true rfl)⟩ rfl rfl rfl (Nat.le_of_ble_eq_true rfl) dX10_makeEdit_16 ?_
  refine V_iadd hc dX10_makeEdit_19 ?_
  obtain ⟨S5, hS5, hf⟩ := mb hf
  refine C_puti hc rfl iW10 tyX10 tyX10_ok nmX10 (by decide) 10 (by decide) rfl hS5 w2_93 rfl rfl rfl dX10_makeEdit_20 ?_
  refine V_aload_n hc dX10_makeEdit_23 rfl 1 rfl ?_
  refine V_aload_n hc dX10_makeEdit_24 rfl 2 rfl ?_
  refine V_iconst hc (v := (1 : Int32)) dX10_makeEdit_25 rfl ?_
  obtain ⟨S6, hS6, hf⟩ := mb hf
  obtain ⟨hkS6, hS6⟩ := og hS6
  refine C_callV hc hz (As := [.ref p2, .int (1 : Int32)]) hkS6 (by decide) (c1_carryPlaces l D y _ _ hS6) w4_99 w4_100 w4_101 w1_9 w4_102 hdX_X1_carryPlaces ⟨(Nat.le_of_ble_eq_true rfl), (Nat.le_of_ble_eq_true rfl)⟩ rfl rfl rfl (Nat.le_of_ble_eq_true rfl) dX10_makeEdit_26 ?_
  refine V_aload_n hc dX10_makeEdit_29 rfl 0 rfl ?_
  obtain ⟨a7, ha7, hf⟩ := mb hf
  refine C_getr hc rfl iW10 (by decide) 1 (by decide) rfl ha7 w2_73 dX10_makeEdit_30 ?_
  refine V_aload_n hc dX10_makeEdit_33 rfl 1 rfl ?_
  obtain ⟨a8, ha8, hf⟩ := mb hf
  refine C_getr hc rfl iW1 (by decide) 0 (by decide) rfl ha8 w1_239 dX10_makeEdit_34 ?_
  refine V_aload_n hc dX10_makeEdit_37 rfl 2 rfl ?_
  refine V_iconst hc (v := (0 : Int32)) dX10_makeEdit_38 rfl ?_
  obtain ⟨S9, hS9, hf⟩ := mb hf
  obtain ⟨hkS9, hS9⟩ := og hS9
  refine C_callV hc hz (As := [.ref a8, .ref p2, .int (0 : Int32)]) hkS9 (by decide) (c9_change l D y _ _ hS9) w4_81 w4_82 w4_83 w1_3 w4_84 hdX_X9_change ⟨(Nat.le_of_ble_eq_true rfl), (Nat.le_of_ble_eq_true rfl)⟩ rfl rfl rfl (Nat.le_of_ble_eq_true rfl) dX10_makeEdit_39 ?_
  refine V_aload_n hc dX10_makeEdit_42 rfl 1 rfl ?_
  obtain ⟨v10, hv10, hf⟩ := mb hf
  refine C_geti hc rfl iW1 (by decide) 12 (by decide) rfl hv10 w2_33 dX10_makeEdit_43 ?_
  obtain ⟨S11, hv12, hf⟩ := mb hf
  have hJ46 : V E (cZ S11) (cU S11) (cw y S11) 99 [] [] := by
    obtain rfl := Option.some.inj hf
    exact V_vret hc hzz rfl rfl rfl rfl dX10_makeEdit_99
  refine V_if_ne hc dX10_makeEdit_46 rfl (fun hq46 => ?_) (fun hq46 => ?_)
  · rw [if_neg hq46] at hv12
    refine V_aload_n hc dX10_makeEdit_64 rfl 1 rfl ?_
    obtain ⟨v13, hv13, hv12⟩ := mb hv12
    refine C_geti hc rfl iW1 (by decide) 13 (by decide) rfl hv13 w2_36 dX10_makeEdit_65 ?_
    refine V_if_eq hc dX10_makeEdit_68 rfl (fun hq68 => ?_) (fun hq68 => ?_)
    · rw [if_pos hq68] at hv12
      refine V_aload_n hc dX10_makeEdit_86 rfl 1 rfl ?_
      obtain ⟨a14, ha14, hv12⟩ := mb hv12
      refine C_getr hc rfl iW1 (by decide) 2 (by decide) rfl ha14 w2_5 dX10_makeEdit_87 ?_
      refine V_aload_n hc dX10_makeEdit_90 rfl 2 rfl ?_
      obtain ⟨S15, hS15, hv12⟩ := mb hv12
      obtain ⟨hkS15, hS15⟩ := og hS15
      refine C_callV hc hz (As := [.ref p2]) hkS15 (by decide) (c4_copy l D y X hX hS15) w4_7 w4_8 w4_9 w1_5 w4_10 hdX_X4_copy ⟨(Nat.le_of_ble_eq_true rfl), (Nat.le_of_ble_eq_true rfl)⟩ rfl rfl rfl (Nat.le_of_ble_eq_true rfl) dX10_makeEdit_91 ?_
      refine V_aload_n hc dX10_makeEdit_94 rfl 1 rfl ?_
      refine V_iconst hc (v := (1 : Int32)) dX10_makeEdit_95 rfl ?_
      obtain ⟨S16, hS16, hv12⟩ := mb hv12
      refine C_puti hc rfl iW1 tyX1 tyX1_ok nmX1 (by decide) 13 (by decide) rfl hS16 w2_36 rfl rfl rfl dX10_makeEdit_96 ?_
      obtain rfl := Option.some.inj hv12
      exact V_sub [] rfl hJ46
    · rw [if_neg hq68] at hv12
      refine V_aload_n hc dX10_makeEdit_71 rfl 0 rfl ?_
      obtain ⟨a17, ha17, hv12⟩ := mb hv12
      refine C_getr hc rfl iW10 (by decide) 1 (by decide) rfl ha17 w2_73 dX10_makeEdit_72 ?_
      refine V_aload_n hc dX10_makeEdit_75 rfl 1 rfl ?_
      obtain ⟨a18, ha18, hv12⟩ := mb hv12
      refine C_getr hc rfl iW1 (by decide) 2 (by decide) rfl ha18 w2_5 dX10_makeEdit_76 ?_
      refine V_aload_n hc dX10_makeEdit_79 rfl 2 rfl ?_
      obtain ⟨S19, hS19, hv12⟩ := mb hv12
      obtain ⟨hkS19, hS19⟩ := og hS19
      refine C_callV hc hz (As := [.ref a18, .ref p2]) hkS19 (by decide) (c9_compose l D y X hX hS19) w4_164 w4_165 w4_166 w1_3 w4_167 hdX_X9_compose ⟨(Nat.le_of_ble_eq_true rfl), (Nat.le_of_ble_eq_true rfl)⟩ rfl rfl rfl (Nat.le_of_ble_eq_true rfl) dX10_makeEdit_80 ?_
      refine V_goto hc dX10_makeEdit_83 rfl ?_
      obtain rfl := Option.some.inj hv12
      exact V_sub [] rfl hJ46
  · rw [if_pos hq46] at hv12
    refine V_aload_n hc dX10_makeEdit_49 rfl 1 rfl ?_
    obtain ⟨a20, ha20, hv12⟩ := mb hv12
    refine C_getr hc rfl iW1 (by decide) 1 (by decide) rfl ha20 w2_2 dX10_makeEdit_50 ?_
    refine V_aload_n hc dX10_makeEdit_53 rfl 2 rfl ?_
    obtain ⟨S21, hS21, hv12⟩ := mb hv12
    obtain ⟨hkS21, hS21⟩ := og hS21
    refine C_callV hc hz (As := [.ref p2]) hkS21 (by decide) (c4_copy l D y X hX hS21) w4_7 w4_8 w4_9 w1_5 w4_10 hdX_X4_copy ⟨(Nat.le_of_ble_eq_true rfl), (Nat.le_of_ble_eq_true rfl)⟩ rfl rfl rfl (Nat.le_of_ble_eq_true rfl) dX10_makeEdit_54 ?_
    refine V_aload_n hc dX10_makeEdit_57 rfl 1 rfl ?_
    obtain ⟨S22, hS22, hv12⟩ := mb hv12
    obtain ⟨hkS22, hS22⟩ := og hS22
    refine C_callV hc hz (As := []) hkS22 (by decide) (c1_send l D y _ _ hS22) w4_163 w4_96 w4_97 w1_9 w4_98 hdX_X1_send ⟨(Nat.le_of_ble_eq_true rfl), (Nat.le_of_ble_eq_true rfl)⟩ rfl rfl rfl (Nat.le_of_ble_eq_true rfl) dX10_makeEdit_58 ?_
    refine V_goto hc dX10_makeEdit_61 rfl ?_
    obtain rfl := Option.some.inj hv12
    exact V_sub [] rfl hJ46
noncomputable def f10_editPlainly (X : Nat × Nat) (S : CS) (h : Nat) (p1 : Nat) (p2 : Nat) : Option (CS) :=
  (gr S 10 h 1).bind fun a1 =>
  (gr S 1 p1 0).bind fun a2 =>
  (gr S 1 p1 3).bind fun a3 =>
  bn2 (cal S 3 a3 (f3_addOne S a3)) fun a4 S5 =>
  (cal S5 9 a1 (f9_invert X S5 a1 p2 a2 a4)).bind fun S6 =>
  (gr S6 1 p1 4).bind fun a7 =>
  (pi S6 3 a7 1 (0 : Int32)).bind fun S8 =>
  (cal S8 10 h (f10_makeEdit X S8 h p1 p2)).bind fun S9 =>
  some S9
theorem hdX_X10_editPlainly : yX10_editPlainly.cls = "FarEditors$World" ∧ yX10_editPlainly.cls ≠ "java/lang/invoke/MethodHandle" ∧ yX10_editPlainly.cls ≠ "java/lang/invoke/VarHandle" ∧ (parseMethodDescriptor yX10_editPlainly.desc).map (fun d => d.parameters.length) = some 2 := by decide +kernel
set_option maxHeartbeats 4000000 in
set_option maxRecDepth 100000 in
theorem c10_editPlainly (l : Launch) (D : va_G) (y : CyT) (X : Nat × Nat) (hX : X.2 ≤ 100000000) {S S' : CS} {h : Nat} {p1 : Nat} {p2 : Nat} (hf : f10_editPlainly X S h p1 p2 = some S') : CT l D y yX10_editPlainly cX10_editPlainly 3 none 4 93 X.1 X.2 [.ref h, .ref p1, .ref p2] (cZ S) (cU S) (cw y S) (cZ S') (cU S') (cw y S') none := by
  refine CT.of (by decide) (Nat.le_of_ble_eq_true rfl) (fun E hc hzz hnm => ?_)
  have hc : Cx E "FarEditors$World" cX10_editPlainly 3 := hc
  have hz := hzz.1
  have hT := hz.2.2.1
  show V E (cZ S) (cU S) (cw y S) 0 [(0, .ref h), (1, .ref p1), (2, .ref p2)] []
  unfold f10_editPlainly at hf
  refine V_aload_n hc dX10_editPlainly_0 rfl 0 rfl ?_
  obtain ⟨a1, ha1, hf⟩ := mb hf
  refine C_getr hc rfl iW10 (by decide) 1 (by decide) rfl ha1 w2_73 dX10_editPlainly_1 ?_
  refine V_aload_n hc dX10_editPlainly_4 rfl 2 rfl ?_
  refine V_aload_n hc dX10_editPlainly_5 rfl 1 rfl ?_
  obtain ⟨a2, ha2, hf⟩ := mb hf
  refine C_getr hc rfl iW1 (by decide) 0 (by decide) rfl ha2 w1_239 dX10_editPlainly_6 ?_
  refine V_aload_n hc dX10_editPlainly_9 rfl 1 rfl ?_
  obtain ⟨a3, ha3, hf⟩ := mb hf
  refine C_getr hc rfl iW1 (by decide) 3 (by decide) rfl ha3 w2_8 dX10_editPlainly_10 ?_
  obtain ⟨a4, S5, ha4, hf⟩ := mb2 hf
  obtain ⟨hka4, ha4⟩ := og ha4
  refine C_callV hc hz (As := []) hka4 (by decide) (c3_addOne l D y _ _ ha4) w4_146 w4_147 w4_148 w1_10 w4_149 hdX_X3_addOne ⟨(Nat.le_of_ble_eq_true rfl), (Nat.le_of_ble_eq_true rfl)⟩ rfl rfl rfl (Nat.le_of_ble_eq_true rfl) dX10_editPlainly_13 ?_
  obtain ⟨S6, hS6, hf⟩ := mb hf
  obtain ⟨hkS6, hS6⟩ := og hS6
  refine C_callV hc hz (As := [.ref p2, .ref a2, .ref a4]) hkS6 (by decide) (c9_invert l D y X hX hS6) w4_150 w4_151 w4_152 w1_3 w4_153 hdX_X9_invert ⟨(Nat.le_of_ble_eq_true rfl), (Nat.le_of_ble_eq_true rfl)⟩ rfl rfl rfl (Nat.le_of_ble_eq_true rfl) dX10_editPlainly_16 ?_
  refine V_aload_n hc dX10_editPlainly_19 rfl 1 rfl ?_
  obtain ⟨a7, ha7, hf⟩ := mb hf
  refine C_getr hc rfl iW1 (by decide) 4 (by decide) rfl ha7 w2_11 dX10_editPlainly_20 ?_
  refine V_iconst hc (v := (0 : Int32)) dX10_editPlainly_23 rfl ?_
  obtain ⟨S8, hS8, hf⟩ := mb hf
  refine C_puti hc rfl iW3 tyX3 tyX3_ok nmX3 (by decide) 1 (by decide) rfl hS8 w1_231 rfl rfl rfl dX10_editPlainly_24 ?_
  refine V_aload_n hc dX10_editPlainly_27 rfl 0 rfl ?_
  refine V_aload_n hc dX10_editPlainly_28 rfl 1 rfl ?_
  refine V_aload_n hc dX10_editPlainly_29 rfl 2 rfl ?_
  obtain ⟨S9, hS9, hf⟩ := mb hf
  obtain ⟨hkS9, hS9⟩ := og hS9
  refine C_callV hc hz (As := [.ref p1, .ref p2]) hkS9 (by decide) (c10_makeEdit l D y X hX hS9) w4_159 w4_161 wp3_0 w1_8 w4_162 hdX_X10_makeEdit ⟨(Nat.le_of_ble_eq_true rfl), (Nat.le_of_ble_eq_true rfl)⟩ rfl rfl rfl (Nat.le_of_ble_eq_true rfl) dX10_editPlainly_30 ?_
  obtain rfl := Option.some.inj hf
  exact V_vret hc hzz rfl rfl rfl rfl dX10_editPlainly_33
noncomputable def f10_editByInverse (X : Nat × Nat) (S : CS) (h : Nat) (p1 : Nat) (p2 : Nat) (p3 : Nat) (p4 : Int32) : Option (CS) :=
  if p4 < 0 then (
    some S
  ) else (
    (gi S 3 p2 1).bind fun v1 =>
    if p4 < v1 then (
      (gr S 3 p2 0).bind fun a2 =>
      (ldr S 17 a2 p4).bind fun a3 =>
      (pi S 3 p2 1 p4).bind fun S4 =>
      (gr S4 10 h 1).bind fun a5 =>
      (gr S4 1 p1 0).bind fun a6 =>
      bn2 (cal S4 3 p3 (f3_addOne S4 p3)) fun a7 S8 =>
      (cal S8 9 a5 (f9_invert X S8 a5 a3 a6 a7)).bind fun S9 =>
      (cal S9 10 h (f10_makeEdit X S9 h p1 a3)).bind fun S10 =>
      some S10
    ) else (
      some S
    )
  )
theorem hdX_X10_editByInverse : yX10_editByInverse.cls = "FarEditors$World" ∧ yX10_editByInverse.cls ≠ "java/lang/invoke/MethodHandle" ∧ yX10_editByInverse.cls ≠ "java/lang/invoke/VarHandle" ∧ (parseMethodDescriptor yX10_editByInverse.desc).map (fun d => d.parameters.length) = some 4 := by decide +kernel
set_option maxHeartbeats 4000000 in
set_option maxRecDepth 100000 in
theorem c10_editByInverse (l : Launch) (D : va_G) (y : CyT) (X : Nat × Nat) (hX : X.2 ≤ 100000000) {S S' : CS} {h : Nat} {p1 : Nat} {p2 : Nat} {p3 : Nat} {p4 : Int32} (hf : f10_editByInverse X S h p1 p2 p3 p4 = some S') : CT l D y yX10_editByInverse cX10_editByInverse 6 none 4 93 X.1 X.2 [.ref h, .ref p1, .ref p2, .ref p3, .int p4] (cZ S) (cU S) (cw y S) (cZ S') (cU S') (cw y S') none := by
  refine CT.of (by decide) (Nat.le_of_ble_eq_true rfl) (fun E hc hzz hnm => ?_)
  have hc : Cx E "FarEditors$World" cX10_editByInverse 6 := hc
  have hz := hzz.1
  have hT := hz.2.2.1
  show V E (cZ S) (cU S) (cw y S) 0 [(0, .ref h), (1, .ref p1), (2, .ref p2), (3, .ref p3), (4, .int p4)] []
  unfold f10_editByInverse at hf
  refine V_iload hc dX10_editByInverse_0 4 rfl ?_
  refine V_if_lt hc dX10_editByInverse_2 rfl (fun hq2 => ?_) (fun hq2 => ?_)
  · rw [if_pos hq2] at hf
    obtain rfl := Option.some.inj hf
    exact V_vret hc hzz rfl rfl rfl rfl dX10_editByInverse_14
  · rw [if_neg hq2] at hf
    refine V_iload hc dX10_editByInverse_5 4 rfl ?_
    refine V_aload_n hc dX10_editByInverse_7 rfl 2 rfl ?_
    obtain ⟨v1, hv1, hf⟩ := mb hf
    refine C_geti hc rfl iW3 (by decide) 1 (by decide) rfl hv1 w1_231 dX10_editByInverse_8 ?_
    refine V_icmp_lt hc dX10_editByInverse_11 rfl (fun hq11 => ?_) (fun hq11 => ?_)
    · rw [if_pos hq11] at hf
      refine V_aload_n hc dX10_editByInverse_15 rfl 2 rfl ?_
      obtain ⟨a2, ha2, hf⟩ := mb hf
      refine C_getr hc rfl iW3 (by decide) 0 (by decide) rfl ha2 w1_225 dX10_editByInverse_16 ?_
      refine V_iload hc dX10_editByInverse_19 4 rfl ?_
      obtain ⟨a3, ha3, hf⟩ := mb hf
      refine C_aald hc hT (by decide) (by decide) ha3 dX10_editByInverse_21 ?_
      refine V_astore hc dX10_editByInverse_22 (by decide) rfl ?_
      refine V_aload_n hc dX10_editByInverse_24 rfl 3 rfl ?_
      refine V_iload hc dX10_editByInverse_25 5 rfl ?_
      obtain ⟨S4, hS4, hf⟩ := mb hf
      refine C_puti hc rfl iW3 tyX3 tyX3_ok nmX3 (by decide) 1 (by decide) rfl hS4 w1_231 rfl rfl rfl dX10_editByInverse_27 ?_
      refine V_aload_n hc dX10_editByInverse_30 rfl 1 rfl ?_
      obtain ⟨a5, ha5, hf⟩ := mb hf
      refine C_getr hc rfl iW10 (by decide) 1 (by decide) rfl ha5 w2_73 dX10_editByInverse_31 ?_
      refine V_aload hc dX10_editByInverse_34 0 rfl ?_
      refine V_aload_n hc dX10_editByInverse_36 rfl 2 rfl ?_
      obtain ⟨a6, ha6, hf⟩ := mb hf
      refine C_getr hc rfl iW1 (by decide) 0 (by decide) rfl ha6 w1_239 dX10_editByInverse_37 ?_
      refine V_aload_n hc dX10_editByInverse_40 rfl 4 rfl ?_
      obtain ⟨a7, S8, ha7, hf⟩ := mb2 hf
      obtain ⟨hka7, ha7⟩ := og ha7
      refine C_callV hc hz (As := []) hka7 (by decide) (c3_addOne l D y _ _ ha7) w4_146 w4_147 w4_148 w1_10 w4_149 hdX_X3_addOne ⟨(Nat.le_of_ble_eq_true rfl), (Nat.le_of_ble_eq_true rfl)⟩ rfl rfl rfl (Nat.le_of_ble_eq_true rfl) dX10_editByInverse_41 ?_
      obtain ⟨S9, hS9, hf⟩ := mb hf
      obtain ⟨hkS9, hS9⟩ := og hS9
      refine C_callV hc hz (As := [.ref a3, .ref a6, .ref a7]) hkS9 (by decide) (c9_invert l D y X hX hS9) w4_150 w4_151 w4_152 w1_3 w4_153 hdX_X9_invert ⟨(Nat.le_of_ble_eq_true rfl), (Nat.le_of_ble_eq_true rfl)⟩ rfl rfl rfl (Nat.le_of_ble_eq_true rfl) dX10_editByInverse_44 ?_
      refine V_aload_n hc dX10_editByInverse_47 rfl 1 rfl ?_
      refine V_aload_n hc dX10_editByInverse_48 rfl 2 rfl ?_
      refine V_aload hc dX10_editByInverse_49 0 rfl ?_
      obtain ⟨S10, hS10, hf⟩ := mb hf
      obtain ⟨hkS10, hS10⟩ := og hS10
      refine C_callV hc hz (As := [.ref p1, .ref a3]) hkS10 (by decide) (c10_makeEdit l D y X hX hS10) w4_159 w4_161 wp3_0 w1_8 w4_162 hdX_X10_makeEdit ⟨(Nat.le_of_ble_eq_true rfl), (Nat.le_of_ble_eq_true rfl)⟩ rfl rfl rfl (Nat.le_of_ble_eq_true rfl) dX10_editByInverse_51 ?_
      obtain rfl := Option.some.inj hf
      exact V_vret hc hzz rfl rfl rfl rfl dX10_editByInverse_54
    · rw [if_neg hq11] at hf
      obtain rfl := Option.some.inj hf
      exact V_vret hc hzz rfl rfl rfl rfl dX10_editByInverse_14
noncomputable def f10_bringTo (X : Nat × Nat) (S : CS) (h : Nat) (p1 : Int32) : Option (CS) :=
  (gr S 10 h 3).bind fun a1 =>
  (ldr S 16 a1 p1).bind fun a2 =>
  (gr S 10 h 0).bind fun a3 =>
  (gr S 6 a3 2).bind fun a4 =>
  (gi S 1 a2 8).bind fun v5 =>
  (ldi S a4 v5).bind fun v6 =>
  (gr S 10 h 1).bind fun a7 =>
  (gr S 9 a7 5).bind fun a8 =>
  (gr S 10 h 0).bind fun a9 =>
  (gr S 6 a9 1).bind fun a10 =>
  (gi S 1 a2 8).bind fun v11 =>
  (ldr S 17 a10 v11).bind fun a12 =>
  (cal S 4 a8 (f4_copy X S a8 a12)).bind fun S13 =>
  (gi S13 1 a2 8).bind fun v14 =>
  (pi S13 1 a2 8 (v14 + (1 : Int32))).bind fun S15 =>
  if v6 = p1 then (
    (cal S15 1 a2 (f1_takeOwn S15 a2)).bind fun S42 =>
    some S42
  ) else (
    (cal S15 10 h (f10_isAhead S15 h p1 v6)).bind fun v16 =>
    (gi S15 1 a2 12).bind fun v17 =>
    (
      if v17 = 0 then (
        some S15
      ) else (
        (gr S15 10 h 1).bind fun a20 =>
        (gr S15 1 a2 1).bind fun a21 =>
        (cal S15 9 a20 (f9_turn X S15 a20 a21 a8 v16)).bind fun S22 =>
        some S22
      )
    ).bind fun S18 =>
    (gi S18 1 a2 13).bind fun v23 =>
    (
      if v23 = 0 then (
        some S18
      ) else (
        (gr S18 10 h 1).bind fun a26 =>
        (gr S18 1 a2 2).bind fun a27 =>
        (cal S18 9 a26 (f9_turn X S18 a26 a27 a8 v16)).bind fun S28 =>
        some S28
      )
    ).bind fun S24 =>
    (gi S24 10 h 5).bind fun v29 =>
    (
      if v29 = 0 then (
        some S24
      ) else (
        (cal S24 1 a2 (f1_carryPlaces S24 a2 a8 (0 : Int32))).bind fun S32 =>
        (gr S32 10 h 1).bind fun a33 =>
        (gr S32 1 a2 0).bind fun a34 =>
        (cal S32 9 a33 (f9_change S32 a33 a34 a8 (0 : Int32))).bind fun S35 =>
        (gr S35 10 h 1).bind fun a36 =>
        (gr S35 1 a2 3).bind fun a37 =>
        (cal S35 9 a36 (f9_turnAll X S35 a36 a37 v16)).bind fun S38 =>
        (gr S38 10 h 1).bind fun a39 =>
        (gr S38 1 a2 4).bind fun a40 =>
        (cal S38 9 a39 (f9_turnAll X S38 a39 a40 v16)).bind fun S41 =>
        some S41
      )
    ).bind fun S30 =>
    some S30
  )
theorem hdX_X10_bringTo : yX10_bringTo.cls = "FarEditors$World" ∧ yX10_bringTo.cls ≠ "java/lang/invoke/MethodHandle" ∧ yX10_bringTo.cls ≠ "java/lang/invoke/VarHandle" ∧ (parseMethodDescriptor yX10_bringTo.desc).map (fun d => d.parameters.length) = some 1 := by decide +kernel
set_option maxHeartbeats 4000000 in
set_option maxRecDepth 100000 in
theorem c10_bringTo (l : Launch) (D : va_G) (y : CyT) (X : Nat × Nat) (hX : X.2 ≤ 100000000) {S S' : CS} {h : Nat} {p1 : Int32} (hf : f10_bringTo X S h p1 = some S') : CT l D y yX10_bringTo cX10_bringTo 6 none 4 92 X.1 X.2 [.ref h, .int p1] (cZ S) (cU S) (cw y S) (cZ S') (cU S') (cw y S') none := by
  refine CT.of (by decide) (Nat.le_of_ble_eq_true rfl) (fun E hc hzz hnm => ?_)
  have hc : Cx E "FarEditors$World" cX10_bringTo 6 := hc
  have hz := hzz.1
  have hT := hz.2.2.1
  show V E (cZ S) (cU S) (cw y S) 0 [(0, .ref h), (1, .int p1)] []
  unfold f10_bringTo at hf
  refine V_aload_n hc dX10_bringTo_0 rfl 0 rfl ?_
  obtain ⟨a1, ha1, hf⟩ := mb hf
  refine C_getr hc rfl iW10 (by decide) 3 (by decide) rfl ha1 w2_78 dX10_bringTo_1 ?_
  refine V_iload_n hc dX10_bringTo_4 rfl 1 rfl ?_
  obtain ⟨a2, ha2, hf⟩ := mb hf
  refine C_aald hc hT (by decide) (by decide) ha2 dX10_bringTo_5 ?_
  refine V_astore_n hc dX10_bringTo_6 rfl (by decide) rfl ?_
  refine V_aload_n hc dX10_bringTo_7 rfl 1 rfl ?_
  obtain ⟨a3, ha3, hf⟩ := mb hf
  refine C_getr hc rfl iW10 (by decide) 0 (by decide) rfl ha3 w2_71 dX10_bringTo_8 ?_
  obtain ⟨a4, ha4, hf⟩ := mb hf
  refine C_getr hc rfl iW6 (by decide) 2 (by decide) rfl ha4 w1_187 dX10_bringTo_11 ?_
  refine V_aload_n hc dX10_bringTo_14 rfl 0 rfl ?_
  obtain ⟨v5, hv5, hf⟩ := mb hf
  refine C_geti hc rfl iW1 (by decide) 8 (by decide) rfl hv5 w2_20 dX10_bringTo_15 ?_
  obtain ⟨v6, hv6, hf⟩ := mb hf
  refine C_iald hc hT hv6 dX10_bringTo_18 ?_
  refine V_istore_n hc dX10_bringTo_19 rfl (by decide) rfl ?_
  refine V_aload_n hc dX10_bringTo_20 rfl 2 rfl ?_
  obtain ⟨a7, ha7, hf⟩ := mb hf
  refine C_getr hc rfl iW10 (by decide) 1 (by decide) rfl ha7 w2_73 dX10_bringTo_21 ?_
  obtain ⟨a8, ha8, hf⟩ := mb hf
  refine C_getr hc rfl iW9 (by decide) 5 (by decide) rfl ha8 w1_137 dX10_bringTo_24 ?_
  refine V_astore hc dX10_bringTo_27 (by decide) rfl ?_
  refine V_aload hc dX10_bringTo_29 0 rfl ?_
  refine V_aload_n hc dX10_bringTo_31 rfl 3 rfl ?_
  obtain ⟨a9, ha9, hf⟩ := mb hf
  refine C_getr hc rfl iW10 (by decide) 0 (by decide) rfl ha9 w2_71 dX10_bringTo_32 ?_
  obtain ⟨a10, ha10, hf⟩ := mb hf
  refine C_getr hc rfl iW6 (by decide) 1 (by decide) rfl ha10 w1_185 dX10_bringTo_35 ?_
  refine V_aload_n hc dX10_bringTo_38 rfl 2 rfl ?_
  obtain ⟨v11, hv11, hf⟩ := mb hf
  refine C_geti hc rfl iW1 (by decide) 8 (by decide) rfl hv11 w2_20 dX10_bringTo_39 ?_
  obtain ⟨a12, ha12, hf⟩ := mb hf
  refine C_aald hc hT (by decide) (by decide) ha12 dX10_bringTo_42 ?_
  obtain ⟨S13, hS13, hf⟩ := mb hf
  obtain ⟨hkS13, hS13⟩ := og hS13
  refine C_callV hc hz (As := [.ref a12]) hkS13 (by decide) (c4_copy l D y X hX hS13) w4_7 w4_8 w4_9 w1_5 w4_10 hdX_X4_copy ⟨(Nat.le_of_ble_eq_true rfl), (Nat.le_of_ble_eq_true rfl)⟩ rfl rfl rfl (Nat.le_of_ble_eq_true rfl) dX10_bringTo_43 ?_
  refine V_aload_n hc dX10_bringTo_46 rfl 2 rfl ?_
  refine V_dup hc dX10_bringTo_47 rfl ?_
  obtain ⟨v14, hv14, hf⟩ := mb hf
  refine C_geti hc rfl iW1 (by decide) 8 (by decide) rfl hv14 w2_20 dX10_bringTo_48 ?_
  refine V_iconst hc (v := (1 : Int32)) dX10_bringTo_51 rfl ?_
  refine V_iadd hc dX10_bringTo_52 ?_
  obtain ⟨S15, hS15, hf⟩ := mb hf
  refine C_puti hc rfl iW1 tyX1 tyX1_ok nmX1 (by decide) 8 (by decide) rfl hS15 w2_20 rfl rfl rfl dX10_bringTo_53 ?_
  refine V_iload_n hc dX10_bringTo_56 rfl 1 rfl ?_
  refine V_iload_n hc dX10_bringTo_57 rfl 4 rfl ?_
  refine V_icmp_ne hc dX10_bringTo_58 rfl (fun hq58 => ?_) (fun hq58 => ?_)
  · rw [if_neg hq58] at hf
    refine V_aload_n hc dX10_bringTo_66 rfl 3 rfl ?_
    refine V_iload_n hc dX10_bringTo_67 rfl 4 rfl ?_
    refine V_iload_n hc dX10_bringTo_68 rfl 1 rfl ?_
    obtain ⟨v16, hv16, hf⟩ := mb hf
    obtain ⟨hkv16, hv16⟩ := og hv16
    refine C_callV hc hz (As := [.int p1, .int v6]) hkv16 (by decide) (c10_isAhead l D y _ _ hv16) w4_12 w4_13 w4_14 w1_8 w4_15 hdX_X10_isAhead ⟨(Nat.le_of_ble_eq_true rfl), (Nat.le_of_ble_eq_true rfl)⟩ rfl rfl rfl (Nat.le_of_ble_eq_true rfl) dX10_bringTo_69 ?_
    refine V_istore hc dX10_bringTo_72 (by decide) rfl ?_
    refine V_aload_n hc dX10_bringTo_74 rfl 3 rfl ?_
    obtain ⟨v17, hv17, hf⟩ := mb hf
    refine C_geti hc rfl iW1 (by decide) 12 (by decide) rfl hv17 w2_33 dX10_bringTo_75 ?_
    obtain ⟨S18, hv19, hf⟩ := mb hf
    have hJ78 : V E (cZ S18) (cU S18) (cw y S18) 96 [(0, .ref h), (2, .ref a2), (4, .ref a8), (5, .int v16)] [] := by
      refine V_aload_n hc dX10_bringTo_96 rfl 1 rfl ?_
      obtain ⟨v23, hv23, hf⟩ := mb hf
      refine C_geti hc rfl iW1 (by decide) 13 (by decide) rfl hv23 w2_36 dX10_bringTo_97 ?_
      obtain ⟨S24, hv25, hf⟩ := mb hf
      have hJ100 : V E (cZ S24) (cU S24) (cw y S24) 118 [(0, .ref h), (2, .ref a2), (4, .ref a8), (5, .int v16)] [] := by
        refine V_aload_n hc dX10_bringTo_118 rfl 0 rfl ?_
        obtain ⟨v29, hv29, hf⟩ := mb hf
        refine C_geti hc rfl iW10 (by decide) 5 (by decide) rfl hv29 w2_83 dX10_bringTo_119 ?_
        obtain ⟨S30, hv31, hf⟩ := mb hf
        have hJ122 : V E (cZ S30) (cU S30) (cw y S30) 172 [] [] := by
          obtain rfl := Option.some.inj hf
          exact V_vret hc hzz rfl rfl rfl rfl dX10_bringTo_172
        refine V_if_eq hc dX10_bringTo_122 rfl (fun hq122 => ?_) (fun hq122 => ?_)
        · rw [if_pos hq122] at hv31
          obtain rfl := Option.some.inj hv31
          exact V_sub [] rfl hJ122
        · rw [if_neg hq122] at hv31
          refine V_aload_n hc dX10_bringTo_125 rfl 1 rfl ?_
          refine V_aload hc dX10_bringTo_126 2 rfl ?_
          refine V_iconst hc (v := (0 : Int32)) dX10_bringTo_128 rfl ?_
          obtain ⟨S32, hS32, hv31⟩ := mb hv31
          obtain ⟨hkS32, hS32⟩ := og hS32
          refine C_callV hc hz (As := [.ref a8, .int (0 : Int32)]) hkS32 (by decide) (c1_carryPlaces l D y _ _ hS32) w4_99 w4_100 w4_101 w1_9 w4_102 hdX_X1_carryPlaces ⟨(Nat.le_of_ble_eq_true rfl), (Nat.le_of_ble_eq_true rfl)⟩ rfl rfl rfl (Nat.le_of_ble_eq_true rfl) dX10_bringTo_129 ?_
          refine V_aload_n hc dX10_bringTo_132 rfl 0 rfl ?_
          obtain ⟨a33, ha33, hv31⟩ := mb hv31
          refine C_getr hc rfl iW10 (by decide) 1 (by decide) rfl ha33 w2_73 dX10_bringTo_133 ?_
          refine V_aload_n hc dX10_bringTo_136 rfl 1 rfl ?_
          obtain ⟨a34, ha34, hv31⟩ := mb hv31
          refine C_getr hc rfl iW1 (by decide) 0 (by decide) rfl ha34 w1_239 dX10_bringTo_137 ?_
          refine V_aload hc dX10_bringTo_140 2 rfl ?_
          refine V_iconst hc (v := (0 : Int32)) dX10_bringTo_142 rfl ?_
          obtain ⟨S35, hS35, hv31⟩ := mb hv31
          obtain ⟨hkS35, hS35⟩ := og hS35
          refine C_callV hc hz (As := [.ref a34, .ref a8, .int (0 : Int32)]) hkS35 (by decide) (c9_change l D y _ _ hS35) w4_81 w4_82 w4_83 w1_3 w4_84 hdX_X9_change ⟨(Nat.le_of_ble_eq_true rfl), (Nat.le_of_ble_eq_true rfl)⟩ rfl rfl rfl (Nat.le_of_ble_eq_true rfl) dX10_bringTo_143 ?_
          refine V_aload_n hc dX10_bringTo_146 rfl 0 rfl ?_
          obtain ⟨a36, ha36, hv31⟩ := mb hv31
          refine C_getr hc rfl iW10 (by decide) 1 (by decide) rfl ha36 w2_73 dX10_bringTo_147 ?_
          refine V_aload_n hc dX10_bringTo_150 rfl 1 rfl ?_
          obtain ⟨a37, ha37, hv31⟩ := mb hv31
          refine C_getr hc rfl iW1 (by decide) 3 (by decide) rfl ha37 w2_8 dX10_bringTo_151 ?_
          refine V_iload hc dX10_bringTo_154 3 rfl ?_
          obtain ⟨S38, hS38, hv31⟩ := mb hv31
          obtain ⟨hkS38, hS38⟩ := og hS38
          refine C_callV hc hz (As := [.ref a37, .int v16]) hkS38 (by decide) (c9_turnAll l D y X hX hS38) w4_112 w4_113 w4_114 w1_3 w4_115 hdX_X9_turnAll ⟨(Nat.le_of_ble_eq_true rfl), (Nat.le_of_ble_eq_true rfl)⟩ rfl rfl rfl (Nat.le_of_ble_eq_true rfl) dX10_bringTo_156 ?_
          refine V_aload_n hc dX10_bringTo_159 rfl 0 rfl ?_
          obtain ⟨a39, ha39, hv31⟩ := mb hv31
          refine C_getr hc rfl iW10 (by decide) 1 (by decide) rfl ha39 w2_73 dX10_bringTo_160 ?_
          refine V_aload_n hc dX10_bringTo_163 rfl 1 rfl ?_
          obtain ⟨a40, ha40, hv31⟩ := mb hv31
          refine C_getr hc rfl iW1 (by decide) 4 (by decide) rfl ha40 w2_11 dX10_bringTo_164 ?_
          refine V_iload hc dX10_bringTo_167 3 rfl ?_
          obtain ⟨S41, hS41, hv31⟩ := mb hv31
          obtain ⟨hkS41, hS41⟩ := og hS41
          refine C_callV hc hz (As := [.ref a40, .int v16]) hkS41 (by decide) (c9_turnAll l D y X hX hS41) w4_112 w4_113 w4_114 w1_3 w4_115 hdX_X9_turnAll ⟨(Nat.le_of_ble_eq_true rfl), (Nat.le_of_ble_eq_true rfl)⟩ rfl rfl rfl (Nat.le_of_ble_eq_true rfl) dX10_bringTo_169 ?_
          obtain rfl := Option.some.inj hv31
          exact V_sub [] rfl hJ122
      refine V_if_eq hc dX10_bringTo_100 rfl (fun hq100 => ?_) (fun hq100 => ?_)
      · rw [if_pos hq100] at hv25
        obtain rfl := Option.some.inj hv25
        exact V_sub [0, 1, 2, 3] rfl hJ100
      · rw [if_neg hq100] at hv25
        refine V_aload_n hc dX10_bringTo_103 rfl 0 rfl ?_
        obtain ⟨a26, ha26, hv25⟩ := mb hv25
        refine C_getr hc rfl iW10 (by decide) 1 (by decide) rfl ha26 w2_73 dX10_bringTo_104 ?_
        refine V_aload_n hc dX10_bringTo_107 rfl 1 rfl ?_
        obtain ⟨a27, ha27, hv25⟩ := mb hv25
        refine C_getr hc rfl iW1 (by decide) 2 (by decide) rfl ha27 w2_5 dX10_bringTo_108 ?_
        refine V_aload hc dX10_bringTo_111 2 rfl ?_
        refine V_iload hc dX10_bringTo_113 3 rfl ?_
        obtain ⟨S28, hS28, hv25⟩ := mb hv25
        obtain ⟨hkS28, hS28⟩ := og hS28
        refine C_callV hc hz (As := [.ref a27, .ref a8, .int v16]) hkS28 (by decide) (c9_turn l D y X hX hS28) w4_16 w4_17 w4_18 w1_3 w4_19 hdX_X9_turn ⟨(Nat.le_of_ble_eq_true rfl), (Nat.le_of_ble_eq_true rfl)⟩ rfl rfl rfl (Nat.le_of_ble_eq_true rfl) dX10_bringTo_115 ?_
        obtain rfl := Option.some.inj hv25
        exact V_sub [0, 1, 2, 3] rfl hJ100
    refine V_if_eq hc dX10_bringTo_78 rfl (fun hq78 => ?_) (fun hq78 => ?_)
    · rw [if_pos hq78] at hv19
      obtain rfl := Option.some.inj hv19
      exact V_sub [4, 3, 1, 0] rfl hJ78
    · rw [if_neg hq78] at hv19
      refine V_aload_n hc dX10_bringTo_81 rfl 4 rfl ?_
      obtain ⟨a20, ha20, hv19⟩ := mb hv19
      refine C_getr hc rfl iW10 (by decide) 1 (by decide) rfl ha20 w2_73 dX10_bringTo_82 ?_
      refine V_aload_n hc dX10_bringTo_85 rfl 3 rfl ?_
      obtain ⟨a21, ha21, hv19⟩ := mb hv19
      refine C_getr hc rfl iW1 (by decide) 1 (by decide) rfl ha21 w2_2 dX10_bringTo_86 ?_
      refine V_aload hc dX10_bringTo_89 1 rfl ?_
      refine V_iload hc dX10_bringTo_91 0 rfl ?_
      obtain ⟨S22, hS22, hv19⟩ := mb hv19
      obtain ⟨hkS22, hS22⟩ := og hS22
      refine C_callV hc hz (As := [.ref a21, .ref a8, .int v16]) hkS22 (by decide) (c9_turn l D y X hX hS22) w4_16 w4_17 w4_18 w1_3 w4_19 hdX_X9_turn ⟨(Nat.le_of_ble_eq_true rfl), (Nat.le_of_ble_eq_true rfl)⟩ rfl rfl rfl (Nat.le_of_ble_eq_true rfl) dX10_bringTo_93 ?_
      obtain rfl := Option.some.inj hv19
      exact V_sub [4, 3, 1, 0] rfl hJ78
  · rw [if_pos hq58] at hf
    refine V_aload_n hc dX10_bringTo_61 rfl 2 rfl ?_
    obtain ⟨S42, hS42, hf⟩ := mb hf
    obtain ⟨hkS42, hS42⟩ := og hS42
    refine C_callV hc hz (As := []) hkS42 (by decide) (c1_takeOwn l D y _ _ hS42) w4_90 w4_91 w4_92 w1_9 w4_93 hdX_X1_takeOwn ⟨(Nat.le_of_ble_eq_true rfl), (Nat.le_of_ble_eq_true rfl)⟩ rfl rfl rfl (Nat.le_of_ble_eq_true rfl) dX10_bringTo_62 ?_
    obtain rfl := Option.some.inj hf
    exact V_vret hc hzz rfl rfl rfl rfl dX10_bringTo_65
noncomputable def LX10_runTick_2 (h : Nat) : Nat → Int32 → CS → Option (CS)
  | 0, _, _ => none
  | n + 1, i1, S =>
    (gi S 10 h 6).bind fun v1 =>
    if v1 ≤ i1 then (
      some S
    ) else (
      (gr S 10 h 3).bind fun a2 =>
      (ldr S 16 a2 i1).bind fun a3 =>
      (gi S 1 a3 14).bind fun v4 =>
      (
        if v4 = 0 then (
          some S
        ) else (
          (gr S 10 h 3).bind fun a7 =>
          (ldr S 16 a7 i1).bind fun a8 =>
          (gi S 10 h 11).bind fun v9 =>
          (cal S 1 a8 (f1_passTick S a8 v9)).bind fun S10 =>
          some S10
        )
      ).bind fun S5 =>
      LX10_runTick_2 h n (i1 + (1 : Int32)) S5
    )
noncomputable def LX10_runTick_43 (X : Nat × Nat) (h : Nat) : Nat → Int32 → CS → Option (CS)
  | 0, _, _ => none
  | n + 1, i1, S =>
    (gi S 10 h 6).bind fun v1 =>
    if v1 ≤ i1 then (
      some S
    ) else (
      (gr S 10 h 3).bind fun a2 =>
      (ldr S 16 a2 i1).bind fun a3 =>
      (gi S 1 a3 14).bind fun v4 =>
      (
        if v4 = 0 then (
          some S
        ) else (
          (gr S 10 h 3).bind fun a7 =>
          (ldr S 16 a7 i1).bind fun a8 =>
          (gi S 1 a8 11).bind fun v9 =>
          if v9 = 0 then (
            (cal S 10 h (f10_takeFrom X S h i1)).bind fun S10 =>
            some S10
          ) else (
            some S
          )
        )
      ).bind fun S5 =>
      LX10_runTick_43 X h n (i1 + (1 : Int32)) S5
    )
noncomputable def LX10_runTick_108 (X : Nat × Nat) (h : Nat) (c1 : Int32) (c2 : Nat) : Nat → Int32 → CS → Option (CS)
  | 0, _, _ => none
  | n + 1, i3, S =>
    (gi S 10 h 11).bind fun v1 =>
    if v1 ≤ i3 then (
      some S
    ) else (
      (gi S 1 c2 14).bind fun v2 =>
      if v2 = 0 then (
        some S
      ) else (
        (gr S 1 c2 6).bind fun a3 =>
        (ldi S a3 i3).bind fun v4 =>
        if v4 = 0 then (
          (cal S 10 h (f10_bringTo X S h c1)).bind fun S5 =>
          LX10_runTick_108 X h c1 c2 n (i3 + (1 : Int32)) S5
        ) else (
          some S
        )
      )
    )
noncomputable def LX10_runTick_88 (X : Nat × Nat) (h : Nat) : Nat → Int32 → CS → Option (CS)
  | 0, _, _ => none
  | n + 1, i1, S =>
    (gi S 10 h 6).bind fun v1 =>
    if v1 ≤ i1 then (
      some S
    ) else (
      (gr S 10 h 3).bind fun a2 =>
      (ldr S 16 a2 i1).bind fun a3 =>
      (gi S 1 a3 8).bind fun v4 =>
      (LX10_runTick_108 X h i1 a3 FU v4 S).bind fun S5 =>
      LX10_runTick_88 X h n (i1 + (1 : Int32)) S5
    )
noncomputable def f10_runTick (X : Nat × Nat) (S : CS) (h : Nat) : Option (CS) :=
  (LX10_runTick_2 h FU (0 : Int32) S).bind fun S1 =>
  (LX10_runTick_43 X h FU (0 : Int32) S1).bind fun S3 =>
  (LX10_runTick_88 X h FU (0 : Int32) S3).bind fun S5 =>
  (gi S5 10 h 8).bind fun v7 =>
  (pi S5 10 h 8 (v7 + (1 : Int32))).bind fun S8 =>
  some S8
theorem hdX_X10_runTick : yX10_runTick.cls = "FarEditors$World" ∧ yX10_runTick.cls ≠ "java/lang/invoke/MethodHandle" ∧ yX10_runTick.cls ≠ "java/lang/invoke/VarHandle" ∧ (parseMethodDescriptor yX10_runTick.desc).map (fun d => d.parameters.length) = some 0 := by decide +kernel
set_option maxHeartbeats 4000000 in
set_option maxRecDepth 100000 in
theorem LX10_runTick_2_ok {E : CxT} {l : Launch} {D : va_G} {y : CyT} {zM uM : Nat} (hc : Cx E "FarEditors$World" cX10_runTick 4) (h : Nat) (hz : Cy E l D y 5 117 zM uM) : ∀ (n : Nat) (i1 : Int32) (S : CS) {So : CS}, LX10_runTick_2 h n i1 S = some So → (hx0 : V E (cZ So) (cU So) (cw y So) 41 [(0, .ref h)] []) → V E (cZ S) (cU S) (cw y S) 2 [(0, .ref h), (1, .int i1)] [] := by
  have hT := hz.2.2.1
  intro n
  induction n with
  | zero => intro i1 S So hf; cases hf
  | succ n ih =>
    intro i1 S So hf hx0
    unfold LX10_runTick_2 at hf
    refine V_iload_n hc dX10_runTick_2 rfl 1 rfl ?_
    refine V_aload_n hc dX10_runTick_3 rfl 0 rfl ?_
    obtain ⟨v1, hv1, hf⟩ := mb hf
    refine C_geti hc rfl iW10 (by decide) 6 (by decide) rfl hv1 w2_84 dX10_runTick_4 ?_
    refine V_icmp_ge hc dX10_runTick_7 rfl (fun hq7 => ?_) (fun hq7 => ?_)
    · rw [if_pos hq7] at hf
      obtain rfl := Option.some.inj hf
      exact V_sub [0] rfl hx0
    · rw [if_neg hq7] at hf
      refine V_aload_n hc dX10_runTick_10 rfl 0 rfl ?_
      obtain ⟨a2, ha2, hf⟩ := mb hf
      refine C_getr hc rfl iW10 (by decide) 3 (by decide) rfl ha2 w2_78 dX10_runTick_11 ?_
      refine V_iload_n hc dX10_runTick_14 rfl 1 rfl ?_
      obtain ⟨a3, ha3, hf⟩ := mb hf
      refine C_aald hc hT (by decide) (by decide) ha3 dX10_runTick_15 ?_
      obtain ⟨v4, hv4, hf⟩ := mb hf
      refine C_geti hc rfl iW1 (by decide) 14 (by decide) rfl hv4 w2_39 dX10_runTick_16 ?_
      obtain ⟨S5, hv6, hf⟩ := mb hf
      have hJ19 : V E (cZ S5) (cU S5) (cw y S5) 35 [(0, .ref h), (1, .int i1)] [] := by
        refine V_iinc hc (j := 1) (v := (i1 + (1 : Int32))) dX10_runTick_35 rfl rfl (by decide) rfl ?_
        refine V_goto hc dX10_runTick_38 rfl ?_
        exact V_sub [1, 0] rfl (ih _ _ hf hx0)
      refine V_if_eq hc dX10_runTick_19 rfl (fun hq19 => ?_) (fun hq19 => ?_)
      · rw [if_pos hq19] at hv6
        obtain rfl := Option.some.inj hv6
        exact V_sub [0, 1] rfl hJ19
      · rw [if_neg hq19] at hv6
        refine V_aload_n hc dX10_runTick_22 rfl 0 rfl ?_
        obtain ⟨a7, ha7, hv6⟩ := mb hv6
        refine C_getr hc rfl iW10 (by decide) 3 (by decide) rfl ha7 w2_78 dX10_runTick_23 ?_
        refine V_iload_n hc dX10_runTick_26 rfl 1 rfl ?_
        obtain ⟨a8, ha8, hv6⟩ := mb hv6
        refine C_aald hc hT (by decide) (by decide) ha8 dX10_runTick_27 ?_
        refine V_aload_n hc dX10_runTick_28 rfl 0 rfl ?_
        obtain ⟨v9, hv9, hv6⟩ := mb hv6
        refine C_geti hc rfl iW10 (by decide) 11 (by decide) rfl hv9 w2_95 dX10_runTick_29 ?_
        obtain ⟨S10, hS10, hv6⟩ := mb hv6
        obtain ⟨hkS10, hS10⟩ := og hS10
        refine C_callV hc hz (As := [.int v9]) hkS10 (by decide) (c1_passTick l D y _ _ hS10) w3_238 w3_239 w4_0 w1_9 w4_1 hdX_X1_passTick ⟨(Nat.le_of_ble_eq_true rfl), (Nat.le_of_ble_eq_true rfl)⟩ rfl rfl rfl (Nat.le_of_ble_eq_true rfl) dX10_runTick_32 ?_
        obtain rfl := Option.some.inj hv6
        exact V_sub [0, 1] rfl hJ19
set_option maxHeartbeats 4000000 in
set_option maxRecDepth 100000 in
theorem LX10_runTick_43_ok {E : CxT} {l : Launch} {D : va_G} {y : CyT}  (hc : Cx E "FarEditors$World" cX10_runTick 4) (X : Nat × Nat) (h : Nat) (hz : Cy E l D y 5 117 X.1 X.2) (hX : X.2 ≤ 100000000) : ∀ (n : Nat) (i1 : Int32) (S : CS) {So : CS}, LX10_runTick_43 X h n i1 S = some So → (hx0 : V E (cZ So) (cU So) (cw y So) 86 [(0, .ref h)] []) → V E (cZ S) (cU S) (cw y S) 43 [(0, .ref h), (1, .int i1)] [] := by
  have hT := hz.2.2.1
  intro n
  induction n with
  | zero => intro i1 S So hf; cases hf
  | succ n ih =>
    intro i1 S So hf hx0
    unfold LX10_runTick_43 at hf
    refine V_iload_n hc dX10_runTick_43 rfl 1 rfl ?_
    refine V_aload_n hc dX10_runTick_44 rfl 0 rfl ?_
    obtain ⟨v1, hv1, hf⟩ := mb hf
    refine C_geti hc rfl iW10 (by decide) 6 (by decide) rfl hv1 w2_84 dX10_runTick_45 ?_
    refine V_icmp_ge hc dX10_runTick_48 rfl (fun hq48 => ?_) (fun hq48 => ?_)
    · rw [if_pos hq48] at hf
      obtain rfl := Option.some.inj hf
      exact V_sub [0] rfl hx0
    · rw [if_neg hq48] at hf
      refine V_aload_n hc dX10_runTick_51 rfl 0 rfl ?_
      obtain ⟨a2, ha2, hf⟩ := mb hf
      refine C_getr hc rfl iW10 (by decide) 3 (by decide) rfl ha2 w2_78 dX10_runTick_52 ?_
      refine V_iload_n hc dX10_runTick_55 rfl 1 rfl ?_
      obtain ⟨a3, ha3, hf⟩ := mb hf
      refine C_aald hc hT (by decide) (by decide) ha3 dX10_runTick_56 ?_
      obtain ⟨v4, hv4, hf⟩ := mb hf
      refine C_geti hc rfl iW1 (by decide) 14 (by decide) rfl hv4 w2_39 dX10_runTick_57 ?_
      obtain ⟨S5, hv6, hf⟩ := mb hf
      have hJ60 : V E (cZ S5) (cU S5) (cw y S5) 80 [(0, .ref h), (1, .int i1)] [] := by
        refine V_iinc hc (j := 1) (v := (i1 + (1 : Int32))) dX10_runTick_80 rfl rfl (by decide) rfl ?_
        refine V_goto hc dX10_runTick_83 rfl ?_
        exact V_sub [1, 0] rfl (ih _ _ hf hx0)
      refine V_if_eq hc dX10_runTick_60 rfl (fun hq60 => ?_) (fun hq60 => ?_)
      · rw [if_pos hq60] at hv6
        obtain rfl := Option.some.inj hv6
        exact V_sub [0, 1] rfl hJ60
      · rw [if_neg hq60] at hv6
        refine V_aload_n hc dX10_runTick_63 rfl 0 rfl ?_
        obtain ⟨a7, ha7, hv6⟩ := mb hv6
        refine C_getr hc rfl iW10 (by decide) 3 (by decide) rfl ha7 w2_78 dX10_runTick_64 ?_
        refine V_iload_n hc dX10_runTick_67 rfl 1 rfl ?_
        obtain ⟨a8, ha8, hv6⟩ := mb hv6
        refine C_aald hc hT (by decide) (by decide) ha8 dX10_runTick_68 ?_
        obtain ⟨v9, hv9, hv6⟩ := mb hv6
        refine C_geti hc rfl iW1 (by decide) 11 (by decide) rfl hv9 w2_29 dX10_runTick_69 ?_
        refine V_if_ne hc dX10_runTick_72 rfl (fun hq72 => ?_) (fun hq72 => ?_)
        · rw [if_neg hq72] at hv6
          obtain rfl := Option.some.inj hv6
          exact V_sub [0, 1] rfl hJ60
        · rw [if_pos hq72] at hv6
          refine V_aload_n hc dX10_runTick_75 rfl 0 rfl ?_
          refine V_iload_n hc dX10_runTick_76 rfl 1 rfl ?_
          obtain ⟨S10, hS10, hv6⟩ := mb hv6
          obtain ⟨hkS10, hS10⟩ := og hS10
          refine C_callV hc hz (As := [.int i1]) hkS10 (by decide) (c10_takeFrom l D y X hX hS10) w4_2 w4_3 w4_4 w1_8 w4_5 hdX_X10_takeFrom ⟨(Nat.le_of_ble_eq_true rfl), (Nat.le_of_ble_eq_true rfl)⟩ rfl rfl rfl (Nat.le_of_ble_eq_true rfl) dX10_runTick_77 ?_
          obtain rfl := Option.some.inj hv6
          exact V_sub [0, 1] rfl hJ60
set_option maxHeartbeats 4000000 in
set_option maxRecDepth 100000 in
theorem LX10_runTick_108_ok {E : CxT} {l : Launch} {D : va_G} {y : CyT}  (hc : Cx E "FarEditors$World" cX10_runTick 4) (X : Nat × Nat) (h : Nat) (c1 : Int32) (c2 : Nat) (hz : Cy E l D y 5 117 X.1 X.2) (hX : X.2 ≤ 100000000) : ∀ (n : Nat) (i3 : Int32) (S : CS) {So : CS}, LX10_runTick_108 X h c1 c2 n i3 S = some So → (hx0 : V E (cZ So) (cU So) (cw y So) 143 [(0, .ref h), (1, .int c1)] []) → V E (cZ S) (cU S) (cw y S) 108 [(0, .ref h), (1, .int c1), (2, .ref c2), (3, .int i3)] [] := by
  have hT := hz.2.2.1
  intro n
  induction n with
  | zero => intro i3 S So hf; cases hf
  | succ n ih =>
    intro i3 S So hf hx0
    unfold LX10_runTick_108 at hf
    refine V_iload_n hc dX10_runTick_108 rfl 3 rfl ?_
    refine V_aload_n hc dX10_runTick_109 rfl 0 rfl ?_
    obtain ⟨v1, hv1, hf⟩ := mb hf
    refine C_geti hc rfl iW10 (by decide) 11 (by decide) rfl hv1 w2_95 dX10_runTick_110 ?_
    refine V_icmp_ge hc dX10_runTick_113 rfl (fun hq113 => ?_) (fun hq113 => ?_)
    · rw [if_pos hq113] at hf
      obtain rfl := Option.some.inj hf
      exact V_sub [0, 1] rfl hx0
    · rw [if_neg hq113] at hf
      refine V_aload_n hc dX10_runTick_116 rfl 2 rfl ?_
      obtain ⟨v2, hv2, hf⟩ := mb hf
      refine C_geti hc rfl iW1 (by decide) 14 (by decide) rfl hv2 w2_39 dX10_runTick_117 ?_
      refine V_if_eq hc dX10_runTick_120 rfl (fun hq120 => ?_) (fun hq120 => ?_)
      · rw [if_pos hq120] at hf
        obtain rfl := Option.some.inj hf
        exact V_sub [0, 1] rfl hx0
      · rw [if_neg hq120] at hf
        refine V_aload_n hc dX10_runTick_123 rfl 2 rfl ?_
        obtain ⟨a3, ha3, hf⟩ := mb hf
        refine C_getr hc rfl iW1 (by decide) 6 (by decide) rfl ha3 w2_15 dX10_runTick_124 ?_
        refine V_iload_n hc dX10_runTick_127 rfl 3 rfl ?_
        obtain ⟨v4, hv4, hf⟩ := mb hf
        refine C_iald hc hT hv4 dX10_runTick_128 ?_
        refine V_if_ne hc dX10_runTick_129 rfl (fun hq129 => ?_) (fun hq129 => ?_)
        · rw [if_neg hq129] at hf
          obtain rfl := Option.some.inj hf
          exact V_sub [0, 1] rfl hx0
        · rw [if_pos hq129] at hf
          refine V_aload_n hc dX10_runTick_132 rfl 0 rfl ?_
          refine V_iload_n hc dX10_runTick_133 rfl 1 rfl ?_
          obtain ⟨S5, hS5, hf⟩ := mb hf
          obtain ⟨hkS5, hS5⟩ := og hS5
          refine C_callV hc hz (As := [.int c1]) hkS5 (by decide) (c10_bringTo l D y X hX hS5) w4_86 w4_88 wp2_14 w1_8 w4_89 hdX_X10_bringTo ⟨(Nat.le_of_ble_eq_true rfl), (Nat.le_of_ble_eq_true rfl)⟩ rfl rfl rfl (Nat.le_of_ble_eq_true rfl) dX10_runTick_134 ?_
          refine V_iinc hc (j := 3) (v := (i3 + (1 : Int32))) dX10_runTick_137 rfl rfl (by decide) rfl ?_
          refine V_goto hc dX10_runTick_140 rfl ?_
          exact V_sub [1, 2, 3, 0] rfl (ih _ _ hf hx0)
set_option maxHeartbeats 4000000 in
set_option maxRecDepth 100000 in
theorem LX10_runTick_88_ok {E : CxT} {l : Launch} {D : va_G} {y : CyT}  (hc : Cx E "FarEditors$World" cX10_runTick 4) (X : Nat × Nat) (h : Nat) (hz : Cy E l D y 5 117 X.1 X.2) (hX : X.2 ≤ 100000000) : ∀ (n : Nat) (i1 : Int32) (S : CS) {So : CS}, LX10_runTick_88 X h n i1 S = some So → (hx0 : V E (cZ So) (cU So) (cw y So) 149 [(0, .ref h)] []) → V E (cZ S) (cU S) (cw y S) 88 [(0, .ref h), (1, .int i1)] [] := by
  have hT := hz.2.2.1
  intro n
  induction n with
  | zero => intro i1 S So hf; cases hf
  | succ n ih =>
    intro i1 S So hf hx0
    unfold LX10_runTick_88 at hf
    refine V_iload_n hc dX10_runTick_88 rfl 1 rfl ?_
    refine V_aload_n hc dX10_runTick_89 rfl 0 rfl ?_
    obtain ⟨v1, hv1, hf⟩ := mb hf
    refine C_geti hc rfl iW10 (by decide) 6 (by decide) rfl hv1 w2_84 dX10_runTick_90 ?_
    refine V_icmp_ge hc dX10_runTick_93 rfl (fun hq93 => ?_) (fun hq93 => ?_)
    · rw [if_pos hq93] at hf
      obtain rfl := Option.some.inj hf
      exact V_sub [0] rfl hx0
    · rw [if_neg hq93] at hf
      refine V_aload_n hc dX10_runTick_96 rfl 0 rfl ?_
      obtain ⟨a2, ha2, hf⟩ := mb hf
      refine C_getr hc rfl iW10 (by decide) 3 (by decide) rfl ha2 w2_78 dX10_runTick_97 ?_
      refine V_iload_n hc dX10_runTick_100 rfl 1 rfl ?_
      obtain ⟨a3, ha3, hf⟩ := mb hf
      refine C_aald hc hT (by decide) (by decide) ha3 dX10_runTick_101 ?_
      refine V_astore_n hc dX10_runTick_102 rfl (by decide) rfl ?_
      refine V_aload_n hc dX10_runTick_103 rfl 0 rfl ?_
      obtain ⟨v4, hv4, hf⟩ := mb hf
      refine C_geti hc rfl iW1 (by decide) 8 (by decide) rfl hv4 w2_20 dX10_runTick_104 ?_
      refine V_istore_n hc dX10_runTick_107 rfl (by decide) rfl ?_
      obtain ⟨S5, hv6, hf⟩ := mb hf
      refine V_sub [2, 3, 1, 0] rfl (LX10_runTick_108_ok hc X h i1 a3 hz hX FU _ _ hv6 ?_)
      refine V_iinc hc (j := 1) (v := (i1 + (1 : Int32))) dX10_runTick_143 rfl rfl (by decide) rfl ?_
      refine V_goto hc dX10_runTick_146 rfl ?_
      exact V_sub [1, 0] rfl (ih _ _ hf hx0)
set_option maxHeartbeats 4000000 in
set_option maxRecDepth 100000 in
theorem c10_runTick (l : Launch) (D : va_G) (y : CyT) (X : Nat × Nat) (hX : X.2 ≤ 100000000) {S S' : CS} {h : Nat} (hf : f10_runTick X S h = some S') : CT l D y yX10_runTick cX10_runTick 4 none 5 117 X.1 X.2 [.ref h] (cZ S) (cU S) (cw y S) (cZ S') (cU S') (cw y S') none := by
  refine CT.of (by decide) (Nat.le_of_ble_eq_true rfl) (fun E hc hzz hnm => ?_)
  have hc : Cx E "FarEditors$World" cX10_runTick 4 := hc
  have hz := hzz.1
  have hT := hz.2.2.1
  show V E (cZ S) (cU S) (cw y S) 0 [(0, .ref h)] []
  unfold f10_runTick at hf
  refine V_iconst hc (v := (0 : Int32)) dX10_runTick_0 rfl ?_
  refine V_istore_n hc dX10_runTick_1 rfl (by decide) rfl ?_
  obtain ⟨S1, hv2, hf⟩ := mb hf
  refine V_sub [1, 0] rfl (LX10_runTick_2_ok hc h hz FU _ _ hv2 ?_)
  refine V_iconst hc (v := (0 : Int32)) dX10_runTick_41 rfl ?_
  refine V_istore_n hc dX10_runTick_42 rfl (by decide) rfl ?_
  obtain ⟨S3, hv4, hf⟩ := mb hf
  refine V_sub [1, 0] rfl (LX10_runTick_43_ok hc X h hz hX FU _ _ hv4 ?_)
  refine V_iconst hc (v := (0 : Int32)) dX10_runTick_86 rfl ?_
  refine V_istore_n hc dX10_runTick_87 rfl (by decide) rfl ?_
  obtain ⟨S5, hv6, hf⟩ := mb hf
  refine V_sub [1, 0] rfl (LX10_runTick_88_ok hc X h hz hX FU _ _ hv6 ?_)
  refine V_aload_n hc dX10_runTick_149 rfl 0 rfl ?_
  refine V_dup hc dX10_runTick_150 rfl ?_
  obtain ⟨v7, hv7, hf⟩ := mb hf
  refine C_geti hc rfl iW10 (by decide) 8 (by decide) rfl hv7 w2_89 dX10_runTick_151 ?_
  refine V_iconst hc (v := (1 : Int32)) dX10_runTick_154 rfl ?_
  refine V_iadd hc dX10_runTick_155 ?_
  obtain ⟨S8, hS8, hf⟩ := mb hf
  refine C_puti hc rfl iW10 tyX10 tyX10_ok nmX10 (by decide) 8 (by decide) rfl hS8 w2_89 rfl rfl rfl dX10_runTick_156 ?_
  obtain rfl := Option.some.inj hf
  exact V_vret hc hzz rfl rfl rfl rfl dX10_runTick_159
