noncomputable def f7_copyLetters (S : CS) (h : Nat) (p1 : Nat) (p2 : Int32) : Option (CS) :=
  (aln S 14 p1).bind fun v1 =>
  (gr S 7 h 0).bind fun a2 =>
  (aln S 14 a2).bind fun v3 =>
  (pi S 7 h 1 (if (if v3 < v1 then v3 else v1) < p2 then (if v3 < v1 then v3 else v1) else p2)).bind fun S4 =>
  (gr S4 7 h 0).bind fun a5 =>
  (gi S4 7 h 1).bind fun v6 =>
  (cpy S4 p1 (0 : Int32) a5 (0 : Int32) v6).bind fun S7 =>
  some S7
theorem hdX_X7_copyLetters : yX7_copyLetters.cls = "FarEditors$Text" ∧ yX7_copyLetters.cls ≠ "java/lang/invoke/MethodHandle" ∧ yX7_copyLetters.cls ≠ "java/lang/invoke/VarHandle" ∧ (parseMethodDescriptor yX7_copyLetters.desc).map (fun d => d.parameters.length) = some 2 := by decide +kernel
set_option maxHeartbeats 4000000 in
set_option maxRecDepth 100000 in
theorem c7_copyLetters (l : Launch) (D : va_G) (y : CyT) (zM uM : Nat) {S S' : CS} {h : Nat} {p1 : Nat} {p2 : Int32} (hf : f7_copyLetters S h p1 p2 = some S') : CT l D (tyL y) yX7_copyLetters cX7_copyLetters 3 none 1 26 zM uM [.ref h, .ref p1, .int p2] (cZ S) (cU S) (cw y S) (cZ S') (cU S') (cw y S') none := by
  refine CT.of (by decide) (Nat.le_of_ble_eq_true rfl) (fun E hc hz hnm => ?_)
  have hc : Cx E "FarEditors$Text" cX7_copyLetters 3 := hc
  have hT := hz.2.2.1
  show V E (cZ S) (cU S) (cw y S) 0 [(0, .ref h), (1, .ref p1), (2, .int p2)] []
  unfold f7_copyLetters at hf
  refine V_aload_n hc dX7_copyLetters_0 rfl 0 rfl ?_
  refine V_iload_n hc dX7_copyLetters_1 rfl 2 rfl ?_
  refine V_aload_n hc dX7_copyLetters_2 rfl 1 rfl ?_
  obtain ⟨v1, hv1, hf⟩ := mb hf
  refine C_alen hc hT hv1 dX7_copyLetters_3 ?_
  refine V_aload_n hc dX7_copyLetters_4 rfl 0 rfl ?_
  obtain ⟨a2, ha2, hf⟩ := mb hf
  refine C_getr hc rfl iW7 (by decide) 0 (by decide) rfl ha2 w1_166 dX7_copyLetters_5 ?_
  obtain ⟨v3, hv3, hf⟩ := mb hf
  refine C_alen hc hT hv3 dX7_copyLetters_8 ?_
  refine C_min hc hz w3_193 w3_194 w1_18 w3_195 ⟨(Nat.le_of_ble_eq_true rfl), (Nat.le_of_ble_eq_true rfl)⟩ (Nat.le_of_ble_eq_true rfl) dX7_copyLetters_9 ?_
  refine C_min hc hz w3_193 w3_194 w1_18 w3_195 ⟨(Nat.le_of_ble_eq_true rfl), (Nat.le_of_ble_eq_true rfl)⟩ (Nat.le_of_ble_eq_true rfl) dX7_copyLetters_12 ?_
  obtain ⟨S4, hS4, hf⟩ := mb hf
  refine C_puti hc rfl iW7 tyX7 tyX7_ok nmX7 (by decide) 1 (by decide) rfl hS4 w1_168 rfl rfl rfl dX7_copyLetters_15 ?_
  refine V_aload_n hc dX7_copyLetters_18 rfl 1 rfl ?_
  refine V_iconst hc (v := (0 : Int32)) dX7_copyLetters_19 rfl ?_
  refine V_aload_n hc dX7_copyLetters_20 rfl 0 rfl ?_
  obtain ⟨a5, ha5, hf⟩ := mb hf
  refine C_getr hc rfl iW7 (by decide) 0 (by decide) rfl ha5 w1_166 dX7_copyLetters_21 ?_
  refine V_iconst hc (v := (0 : Int32)) dX7_copyLetters_24 rfl ?_
  refine V_aload_n hc dX7_copyLetters_25 rfl 0 rfl ?_
  obtain ⟨v6, hv6, hf⟩ := mb hf
  refine C_geti hc rfl iW7 (by decide) 1 (by decide) rfl hv6 w1_168 dX7_copyLetters_26 ?_
  obtain ⟨S7, hS7, hf⟩ := mb hf
  refine C_copy hc hz hS7 w3_196 w3_198 w3_197 w1_19 ⟨(Nat.le_of_ble_eq_true rfl), (Nat.le_of_ble_eq_true rfl)⟩ (Nat.le_of_ble_eq_true rfl) dX7_copyLetters_29 ?_
  obtain rfl := Option.some.inj hf
  exact V_vret hc hz rfl rfl rfl rfl dX7_copyLetters_32
noncomputable def f7_ask (S : CS) (h : Nat) (p1 : Int32) : Option (Int32) :=
  if p1 = (-1 : Int32) then (
    (gi S 7 h 1).bind fun v5 =>
    some v5
  ) else (
    (cal S 7 h (f7_hasPlace S h p1)).bind fun v1 =>
    (
      if v1 = 0 then (
        some (-1 : Int32)
      ) else (
        (cal S 7 h (f7_letterAt S h p1)).bind fun v4 =>
        some v4
      )
    ).bind fun v2 =>
    some v2
  )
theorem hdX_X7_ask : yX7_ask.cls = "FarEditors$Text" ∧ yX7_ask.cls ≠ "java/lang/invoke/MethodHandle" ∧ yX7_ask.cls ≠ "java/lang/invoke/VarHandle" ∧ (parseMethodDescriptor yX7_ask.desc).map (fun d => d.parameters.length) = some 1 := by decide +kernel
set_option maxHeartbeats 4000000 in
set_option maxRecDepth 100000 in
theorem c7_ask (l : Launch) (D : va_G) (y : CyT) (zM uM : Nat) {S : CS} {h : Nat} {p1 : Int32} {r : Int32} (hf : f7_ask S h p1 = some r) : CT l D (tyL y) yX7_ask cX7_ask 2 (some .int) 2 42 zM uM [.ref h, .int p1] (cZ S) (cU S) (cw y S) (cZ S) (cU S) (cw y S) (some (.int r)) := by
  refine CT.of (by decide) (Nat.le_of_ble_eq_true rfl) (fun E hc hz hnm => ?_)
  have hc : Cx E "FarEditors$Text" cX7_ask 2 := hc
  have hT := hz.2.2.1
  show V E (cZ S) (cU S) (cw y S) 0 [(0, .ref h), (1, .int p1)] []
  unfold f7_ask at hf
  refine V_iload_n hc dX7_ask_0 rfl 1 rfl ?_
  refine V_iconst hc (v := (-1 : Int32)) dX7_ask_1 rfl ?_
  refine V_icmp_ne hc dX7_ask_2 rfl (fun hq2 => ?_) (fun hq2 => ?_)
  · rw [if_neg hq2] at hf
    refine V_aload_n hc dX7_ask_10 rfl 0 rfl ?_
    refine V_iload_n hc dX7_ask_11 rfl 1 rfl ?_
    obtain ⟨v1, hv1, hf⟩ := mb hf
    obtain ⟨hkv1, hv1⟩ := og hv1
    refine C_callV hc hz (As := [.int p1]) hkv1 (by decide) (c7_hasPlace l D y _ _ hv1) w4_73 w4_74 w4_75 w1_7 w4_76 hdX_X7_hasPlace ⟨(Nat.le_of_ble_eq_true rfl), (Nat.le_of_ble_eq_true rfl)⟩ rfl rfl rfl (Nat.le_of_ble_eq_true rfl) dX7_ask_12 ?_
    obtain ⟨v2, hv3, hf⟩ := mb hf
    have hJ15 : V E (cZ S) (cU S) (cw y S) 27 [] [.int v2] := by
      obtain rfl := Option.some.inj hf
      exact V_iret hc hz rfl rfl rfl rfl rfl dX7_ask_27
    refine V_if_eq hc dX7_ask_15 rfl (fun hq15 => ?_) (fun hq15 => ?_)
    · rw [if_pos hq15] at hv3
      refine V_iconst hc (v := (-1 : Int32)) dX7_ask_26 rfl ?_
      obtain rfl := Option.some.inj hv3
      exact V_sub [] rfl hJ15
    · rw [if_neg hq15] at hv3
      refine V_aload_n hc dX7_ask_18 rfl 0 rfl ?_
      refine V_iload_n hc dX7_ask_19 rfl 1 rfl ?_
      obtain ⟨v4, hv4, hv3⟩ := mb hv3
      obtain ⟨hkv4, hv4⟩ := og hv4
      refine C_callV hc hz (As := [.int p1]) hkv4 (by decide) (c7_letterAt l D y _ _ hv4) w4_210 w4_156 w4_157 w1_7 w4_158 hdX_X7_letterAt ⟨(Nat.le_of_ble_eq_true rfl), (Nat.le_of_ble_eq_true rfl)⟩ rfl rfl rfl (Nat.le_of_ble_eq_true rfl) dX7_ask_20 ?_
      refine V_goto hc dX7_ask_23 rfl ?_
      obtain rfl := Option.some.inj hv3
      exact V_sub [] rfl hJ15
  · rw [if_pos hq2] at hf
    refine V_aload_n hc dX7_ask_5 rfl 0 rfl ?_
    obtain ⟨v5, hv5, hf⟩ := mb hf
    refine C_geti hc rfl iW7 (by decide) 1 (by decide) rfl hv5 w1_168 dX7_ask_6 ?_
    obtain rfl := Option.some.inj hf
    exact V_iret hc hz rfl rfl rfl rfl rfl dX7_ask_9
noncomputable def f8_init (X : Nat × Nat) (S : CS) (h : Nat) : Option (CS) :=
  (nwa X S 14 (1600 : Int32)).bind fun S1 =>
  (pr S1 8 h 0 (cZ S)).bind fun S2 =>
  (pi S2 8 h 1 (0 : Int32)).bind fun S3 =>
  (pi S3 8 h 2 (0 : Int32)).bind fun S4 =>
  (pi S4 8 h 3 (0 : Int32)).bind fun S5 =>
  (pi S5 8 h 4 (0 : Int32)).bind fun S6 =>
  (pi S6 8 h 5 (0 : Int32)).bind fun S7 =>
  (pi S7 8 h 6 (0 : Int32)).bind fun S8 =>
  (nwa X S8 14 (1600 : Int32)).bind fun S9 =>
  (pr S9 8 h 7 (cZ S8)).bind fun S10 =>
  (pi S10 8 h 8 (0 : Int32)).bind fun S11 =>
  (nwa X S11 14 (60 : Int32)).bind fun S12 =>
  (pr S12 8 h 9 (cZ S11)).bind fun S13 =>
  (nwa X S13 14 (240 : Int32)).bind fun S14 =>
  (pr S14 8 h 10 (cZ S13)).bind fun S15 =>
  (pi S15 8 h 11 (0 : Int32)).bind fun S16 =>
  some S16
theorem hdX_X8_init : yX8_init.cls = "FarEditors$Told" ∧ yX8_init.cls ≠ "java/lang/invoke/MethodHandle" ∧ yX8_init.cls ≠ "java/lang/invoke/VarHandle" ∧ (parseMethodDescriptor yX8_init.desc).map (fun d => d.parameters.length) = some 0 := by decide +kernel
set_option maxHeartbeats 4000000 in
set_option maxRecDepth 100000 in
theorem c8_init (l : Launch) (D : va_G) (y : CyT) (X : Nat × Nat) (hX : X.2 ≤ 100000000) {S S' : CS} {h : Nat} (hf : f8_init X S h = some S') : CT l D (tyL y) yX8_init cX8_init 1 none 1 20 X.1 X.2 [.ref h] (cZ S) (cU S) (cw y S) (cZ S') (cU S') (cw y S') none := by
  refine CT.of (by decide) (Nat.le_of_ble_eq_true rfl) (fun E hc hz hnm => ?_)
  have hc : Cx E "FarEditors$Told" cX8_init 1 := hc
  have hnm : (xH E).name = "<init>" := hnm
  have hT := hz.2.2.1
  show V E (cZ S) (cU S) (cw y S) 0 [(0, .ref h)] []
  unfold f8_init at hf
  refine V_aload_n hc dX8_init_0 rfl 0 rfl ?_
  refine V_objInit hc hz w1_34 w1_27 w1_28 ⟨(Nat.le_of_ble_eq_true rfl), (Nat.le_of_ble_eq_true rfl)⟩ (Nat.le_of_ble_eq_true rfl) dX8_init_1 ?_
  refine V_aload_n hc dX8_init_4 rfl 0 rfl ?_
  refine V_sipush hc (v := (1600 : Int32)) dX8_init_5 rfl ?_
  obtain ⟨S1, hS1, hf⟩ := mb hf
  refine C_newi hc hz hS1 hX w1_82 dX8_init_8 ?_
  obtain ⟨S2, hS2, hf⟩ := mb hf
  refine C_putrF hc hnm rfl iW8 tyX8 tyX8_ok nmX8 (by decide) 0 (by decide) rfl hS2 w1_35 rfl rfl rfl rfl dX8_init_10 ?_
  refine V_aload_n hc dX8_init_13 rfl 0 rfl ?_
  refine V_iconst hc (v := (0 : Int32)) dX8_init_14 rfl ?_
  obtain ⟨S3, hS3, hf⟩ := mb hf
  refine C_puti hc rfl iW8 tyX8 tyX8_ok nmX8 (by decide) 1 (by decide) rfl hS3 w1_37 rfl rfl rfl dX8_init_15 ?_
  refine V_aload_n hc dX8_init_18 rfl 0 rfl ?_
  refine V_iconst hc (v := (0 : Int32)) dX8_init_19 rfl ?_
  obtain ⟨S4, hS4, hf⟩ := mb hf
  refine C_puti hc rfl iW8 tyX8 tyX8_ok nmX8 (by decide) 2 (by decide) rfl hS4 w1_39 rfl rfl rfl dX8_init_20 ?_
  refine V_aload_n hc dX8_init_23 rfl 0 rfl ?_
  refine V_iconst hc (v := (0 : Int32)) dX8_init_24 rfl ?_
  obtain ⟨S5, hS5, hf⟩ := mb hf
  refine C_puti hc rfl iW8 tyX8 tyX8_ok nmX8 (by decide) 3 (by decide) rfl hS5 w1_41 rfl rfl rfl dX8_init_25 ?_
  refine V_aload_n hc dX8_init_28 rfl 0 rfl ?_
  refine V_iconst hc (v := (0 : Int32)) dX8_init_29 rfl ?_
  obtain ⟨S6, hS6, hf⟩ := mb hf
  refine C_puti hc rfl iW8 tyX8 tyX8_ok nmX8 (by decide) 4 (by decide) rfl hS6 w1_43 rfl rfl rfl dX8_init_30 ?_
  refine V_aload_n hc dX8_init_33 rfl 0 rfl ?_
  refine V_iconst hc (v := (0 : Int32)) dX8_init_34 rfl ?_
  obtain ⟨S7, hS7, hf⟩ := mb hf
  refine C_puti hc rfl iW8 tyX8 tyX8_ok nmX8 (by decide) 5 (by decide) rfl hS7 w1_45 rfl rfl rfl dX8_init_35 ?_
  refine V_aload_n hc dX8_init_38 rfl 0 rfl ?_
  refine V_iconst hc (v := (0 : Int32)) dX8_init_39 rfl ?_
  obtain ⟨S8, hS8, hf⟩ := mb hf
  refine C_puti hc rfl iW8 tyX8 tyX8_ok nmX8 (by decide) 6 (by decide) rfl hS8 w1_47 rfl rfl rfl dX8_init_40 ?_
  refine V_aload_n hc dX8_init_43 rfl 0 rfl ?_
  refine V_sipush hc (v := (1600 : Int32)) dX8_init_44 rfl ?_
  obtain ⟨S9, hS9, hf⟩ := mb hf
  refine C_newi hc hz hS9 hX w1_82 dX8_init_47 ?_
  obtain ⟨S10, hS10, hf⟩ := mb hf
  refine C_putrF hc hnm rfl iW8 tyX8 tyX8_ok nmX8 (by decide) 7 (by decide) rfl hS10 w1_49 rfl rfl rfl rfl dX8_init_49 ?_
  refine V_aload_n hc dX8_init_52 rfl 0 rfl ?_
  refine V_iconst hc (v := (0 : Int32)) dX8_init_53 rfl ?_
  obtain ⟨S11, hS11, hf⟩ := mb hf
  refine C_puti hc rfl iW8 tyX8 tyX8_ok nmX8 (by decide) 8 (by decide) rfl hS11 w1_51 rfl rfl rfl dX8_init_54 ?_
  refine V_aload_n hc dX8_init_57 rfl 0 rfl ?_
  refine V_bipush hc (v := (60 : Int32)) dX8_init_58 rfl ?_
  obtain ⟨S12, hS12, hf⟩ := mb hf
  refine C_newi hc hz hS12 hX w1_82 dX8_init_60 ?_
  obtain ⟨S13, hS13, hf⟩ := mb hf
  refine C_putrF hc hnm rfl iW8 tyX8 tyX8_ok nmX8 (by decide) 9 (by decide) rfl hS13 w1_53 rfl rfl rfl rfl dX8_init_62 ?_
  refine V_aload_n hc dX8_init_65 rfl 0 rfl ?_
  refine V_sipush hc (v := (240 : Int32)) dX8_init_66 rfl ?_
  obtain ⟨S14, hS14, hf⟩ := mb hf
  refine C_newi hc hz hS14 hX w1_82 dX8_init_69 ?_
  obtain ⟨S15, hS15, hf⟩ := mb hf
  refine C_putrF hc hnm rfl iW8 tyX8 tyX8_ok nmX8 (by decide) 10 (by decide) rfl hS15 w1_55 rfl rfl rfl rfl dX8_init_71 ?_
  refine V_aload_n hc dX8_init_74 rfl 0 rfl ?_
  refine V_iconst hc (v := (0 : Int32)) dX8_init_75 rfl ?_
  obtain ⟨S16, hS16, hf⟩ := mb hf
  refine C_puti hc rfl iW8 tyX8 tyX8_ok nmX8 (by decide) 11 (by decide) rfl hS16 w1_56 rfl rfl rfl dX8_init_76 ?_
  obtain rfl := Option.some.inj hf
  exact V_vret hc hz rfl rfl rfl rfl dX8_init_79
noncomputable def f8_hasRoom (S : CS) (h : Nat) (p1 : Int32) : Option (Int32) :=
  (gi S 8 h 1).bind fun v1 =>
  (gr S 8 h 0).bind fun a2 =>
  (aln S 14 a2).bind fun v3 =>
  (
    if v3 < (v1 + p1) then (
      some (0 : Int32)
    ) else (
      some (1 : Int32)
    )
  ).bind fun v4 =>
  (bz v4).bind fun v6 =>
  some v6
theorem hdX_X8_hasRoom : yX8_hasRoom.cls = "FarEditors$Told" ∧ yX8_hasRoom.cls ≠ "java/lang/invoke/MethodHandle" ∧ yX8_hasRoom.cls ≠ "java/lang/invoke/VarHandle" ∧ (parseMethodDescriptor yX8_hasRoom.desc).map (fun d => d.parameters.length) = some 1 := by decide +kernel
set_option maxHeartbeats 4000000 in
set_option maxRecDepth 100000 in
theorem c8_hasRoom (l : Launch) (D : va_G) (y : CyT) (zM uM : Nat) {S : CS} {h : Nat} {p1 : Int32} {r : Int32} (hf : f8_hasRoom S h p1 = some r) : CT l D (tyL y) yX8_hasRoom cX8_hasRoom 2 (some .boolean) 0 0 zM uM [.ref h, .int p1] (cZ S) (cU S) (cw y S) (cZ S) (cU S) (cw y S) (some (.int r)) := by
  refine CT.of (by decide) (Nat.le_of_ble_eq_true rfl) (fun E hc hz hnm => ?_)
  have hc : Cx E "FarEditors$Told" cX8_hasRoom 2 := hc
  have hT := hz.2.2.1
  show V E (cZ S) (cU S) (cw y S) 0 [(0, .ref h), (1, .int p1)] []
  unfold f8_hasRoom at hf
  refine V_aload_n hc dX8_hasRoom_0 rfl 0 rfl ?_
  obtain ⟨v1, hv1, hf⟩ := mb hf
  refine C_geti hc rfl iW8 (by decide) 1 (by decide) rfl hv1 w1_37 dX8_hasRoom_1 ?_
  refine V_iload_n hc dX8_hasRoom_4 rfl 1 rfl ?_
  refine V_iadd hc dX8_hasRoom_5 ?_
  refine V_aload_n hc dX8_hasRoom_6 rfl 0 rfl ?_
  obtain ⟨a2, ha2, hf⟩ := mb hf
  refine C_getr hc rfl iW8 (by decide) 0 (by decide) rfl ha2 w1_35 dX8_hasRoom_7 ?_
  obtain ⟨v3, hv3, hf⟩ := mb hf
  refine C_alen hc hT hv3 dX8_hasRoom_10 ?_
  obtain ⟨v4, hv5, hf⟩ := mb hf
  have hJ11 : V E (cZ S) (cU S) (cw y S) 19 [] [.int v4] := by
    obtain ⟨v6, hv6, hf⟩ := mb hf
    obtain ⟨hbv6, rfl⟩ := bz_some hv6
    obtain rfl := Option.some.inj hf
    exact V_iret hc hz (bz_nar hbv6) rfl rfl rfl rfl dX8_hasRoom_19
  refine V_icmp_gt hc dX8_hasRoom_11 rfl (fun hq11 => ?_) (fun hq11 => ?_)
  · rw [if_pos hq11] at hv5
    refine V_iconst hc (v := (0 : Int32)) dX8_hasRoom_18 rfl ?_
    obtain rfl := Option.some.inj hv5
    exact V_sub [] rfl hJ11
  · rw [if_neg hq11] at hv5
    refine V_iconst hc (v := (1 : Int32)) dX8_hasRoom_14 rfl ?_
    refine V_goto hc dX8_hasRoom_15 rfl ?_
    obtain rfl := Option.some.inj hv5
    exact V_sub [] rfl hJ11
noncomputable def f8_numberOf (S : CS) (h : Nat) (p1 : Int32) (p2 : Int32) : Option (Int32) :=
  (
    if (((4 : Int32) * p1) + p2) < 0 then (
      some (0 : Int32)
    ) else (
      (gr S 8 h 10).bind fun a3 =>
      (aln S 14 a3).bind fun v4 =>
      if v4 ≤ (((4 : Int32) * p1) + p2) then (
        some (0 : Int32)
      ) else (
        (gr S 8 h 10).bind fun a5 =>
        (ldi S a5 (((4 : Int32) * p1) + p2)).bind fun v6 =>
        some v6
      )
    )
  ).bind fun v1 =>
  some v1
theorem hdX_X8_numberOf : yX8_numberOf.cls = "FarEditors$Told" ∧ yX8_numberOf.cls ≠ "java/lang/invoke/MethodHandle" ∧ yX8_numberOf.cls ≠ "java/lang/invoke/VarHandle" ∧ (parseMethodDescriptor yX8_numberOf.desc).map (fun d => d.parameters.length) = some 2 := by decide +kernel
set_option maxHeartbeats 4000000 in
set_option maxRecDepth 100000 in
theorem c8_numberOf (l : Launch) (D : va_G) (y : CyT) (zM uM : Nat) {S : CS} {h : Nat} {p1 : Int32} {p2 : Int32} {r : Int32} (hf : f8_numberOf S h p1 p2 = some r) : CT l D (tyL y) yX8_numberOf cX8_numberOf 4 (some .int) 0 0 zM uM [.ref h, .int p1, .int p2] (cZ S) (cU S) (cw y S) (cZ S) (cU S) (cw y S) (some (.int r)) := by
  refine CT.of (by decide) (Nat.le_of_ble_eq_true rfl) (fun E hc hz hnm => ?_)
  have hc : Cx E "FarEditors$Told" cX8_numberOf 4 := hc
  have hT := hz.2.2.1
  show V E (cZ S) (cU S) (cw y S) 0 [(0, .ref h), (1, .int p1), (2, .int p2)] []
  unfold f8_numberOf at hf
  refine V_iconst hc (v := (4 : Int32)) dX8_numberOf_0 rfl ?_
  refine V_iload_n hc dX8_numberOf_1 rfl 1 rfl ?_
  refine V_imul hc dX8_numberOf_2 ?_
  refine V_iload_n hc dX8_numberOf_3 rfl 2 rfl ?_
  refine V_iadd hc dX8_numberOf_4 ?_
  refine V_istore_n hc dX8_numberOf_5 rfl (by decide) rfl ?_
  refine V_iload_n hc dX8_numberOf_6 rfl 0 rfl ?_
  obtain ⟨v1, hv2, hf⟩ := mb hf
  have hJ7 : V E (cZ S) (cU S) (cw y S) 29 [] [.int v1] := by
    obtain rfl := Option.some.inj hf
    exact V_iret hc hz rfl rfl rfl rfl rfl dX8_numberOf_29
  refine V_if_lt hc dX8_numberOf_7 rfl (fun hq7 => ?_) (fun hq7 => ?_)
  · rw [if_pos hq7] at hv2
    refine V_iconst hc (v := (0 : Int32)) dX8_numberOf_28 rfl ?_
    obtain rfl := Option.some.inj hv2
    exact V_sub [] rfl hJ7
  · rw [if_neg hq7] at hv2
    refine V_iload_n hc dX8_numberOf_10 rfl 0 rfl ?_
    refine V_aload_n hc dX8_numberOf_11 rfl 1 rfl ?_
    obtain ⟨a3, ha3, hv2⟩ := mb hv2
    refine C_getr hc rfl iW8 (by decide) 10 (by decide) rfl ha3 w1_55 dX8_numberOf_12 ?_
    obtain ⟨v4, hv4, hv2⟩ := mb hv2
    refine C_alen hc hT hv4 dX8_numberOf_15 ?_
    refine V_icmp_ge hc dX8_numberOf_16 rfl (fun hq16 => ?_) (fun hq16 => ?_)
    · rw [if_pos hq16] at hv2
      refine V_iconst hc (v := (0 : Int32)) dX8_numberOf_28 rfl ?_
      obtain rfl := Option.some.inj hv2
      exact V_sub [] rfl hJ7
    · rw [if_neg hq16] at hv2
      refine V_aload_n hc dX8_numberOf_19 rfl 1 rfl ?_
      obtain ⟨a5, ha5, hv2⟩ := mb hv2
      refine C_getr hc rfl iW8 (by decide) 10 (by decide) rfl ha5 w1_55 dX8_numberOf_20 ?_
      refine V_iload_n hc dX8_numberOf_23 rfl 0 rfl ?_
      obtain ⟨v6, hv6, hv2⟩ := mb hv2
      refine C_iald hc hT hv6 dX8_numberOf_24 ?_
      refine V_goto hc dX8_numberOf_25 rfl ?_
      obtain rfl := Option.some.inj hv2
      exact V_sub [] rfl hJ7
noncomputable def f8_open (S : CS) (h : Nat) : Option (CS) :=
  (pi S 8 h 11 (0 : Int32)).bind fun S1 =>
  (pi S1 8 h 2 (0 : Int32)).bind fun S2 =>
  (pi S2 8 h 4 (0 : Int32)).bind fun S3 =>
  (pi S3 8 h 8 (0 : Int32)).bind fun S4 =>
  some S4
theorem hdX_X8_open : yX8_open.cls = "FarEditors$Told" ∧ yX8_open.cls ≠ "java/lang/invoke/MethodHandle" ∧ yX8_open.cls ≠ "java/lang/invoke/VarHandle" ∧ (parseMethodDescriptor yX8_open.desc).map (fun d => d.parameters.length) = some 0 := by decide +kernel
set_option maxHeartbeats 4000000 in
set_option maxRecDepth 100000 in
theorem c8_open (l : Launch) (D : va_G) (y : CyT) (zM uM : Nat) {S S' : CS} {h : Nat} (hf : f8_open S h = some S') : CT l D (tyL y) yX8_open cX8_open 1 none 0 0 zM uM [.ref h] (cZ S) (cU S) (cw y S) (cZ S') (cU S') (cw y S') none := by
  refine CT.of (by decide) (Nat.le_of_ble_eq_true rfl) (fun E hc hz hnm => ?_)
  have hc : Cx E "FarEditors$Told" cX8_open 1 := hc
  have hT := hz.2.2.1
  show V E (cZ S) (cU S) (cw y S) 0 [(0, .ref h)] []
  unfold f8_open at hf
  refine V_aload_n hc dX8_open_0 rfl 0 rfl ?_
  refine V_iconst hc (v := (0 : Int32)) dX8_open_1 rfl ?_
  obtain ⟨S1, hS1, hf⟩ := mb hf
  refine C_puti hc rfl iW8 tyX8 tyX8_ok nmX8 (by decide) 11 (by decide) rfl hS1 w1_56 rfl rfl rfl dX8_open_2 ?_
  refine V_aload_n hc dX8_open_5 rfl 0 rfl ?_
  refine V_iconst hc (v := (0 : Int32)) dX8_open_6 rfl ?_
  obtain ⟨S2, hS2, hf⟩ := mb hf
  refine C_puti hc rfl iW8 tyX8 tyX8_ok nmX8 (by decide) 2 (by decide) rfl hS2 w1_39 rfl rfl rfl dX8_open_7 ?_
  refine V_aload_n hc dX8_open_10 rfl 0 rfl ?_
  refine V_iconst hc (v := (0 : Int32)) dX8_open_11 rfl ?_
  obtain ⟨S3, hS3, hf⟩ := mb hf
  refine C_puti hc rfl iW8 tyX8 tyX8_ok nmX8 (by decide) 4 (by decide) rfl hS3 w1_43 rfl rfl rfl dX8_open_12 ?_
  refine V_aload_n hc dX8_open_15 rfl 0 rfl ?_
  refine V_iconst hc (v := (0 : Int32)) dX8_open_16 rfl ?_
  obtain ⟨S4, hS4, hf⟩ := mb hf
  refine C_puti hc rfl iW8 tyX8 tyX8_ok nmX8 (by decide) 8 (by decide) rfl hS4 w1_51 rfl rfl rfl dX8_open_17 ?_
  obtain rfl := Option.some.inj hf
  exact V_vret hc hz rfl rfl rfl rfl dX8_open_20
noncomputable def f8_isAtLetter (S : CS) (h : Nat) : Option (Int32) :=
  (gi S 8 h 11).bind fun v1 =>
  (gi S 8 h 1).bind fun v2 =>
  (
    if v2 ≤ v1 then (
      some (0 : Int32)
    ) else (
      (gr S 8 h 0).bind fun a5 =>
      (gi S 8 h 11).bind fun v6 =>
      (ldi S a5 v6).bind fun v7 =>
      if v7 < (97 : Int32) then (
        some (0 : Int32)
      ) else (
        (gr S 8 h 0).bind fun a8 =>
        (gi S 8 h 11).bind fun v9 =>
        (ldi S a8 v9).bind fun v10 =>
        if (122 : Int32) < v10 then (
          some (0 : Int32)
        ) else (
          some (1 : Int32)
        )
      )
    )
  ).bind fun v3 =>
  (bz v3).bind fun v11 =>
  some v11
theorem hdX_X8_isAtLetter : yX8_isAtLetter.cls = "FarEditors$Told" ∧ yX8_isAtLetter.cls ≠ "java/lang/invoke/MethodHandle" ∧ yX8_isAtLetter.cls ≠ "java/lang/invoke/VarHandle" ∧ (parseMethodDescriptor yX8_isAtLetter.desc).map (fun d => d.parameters.length) = some 0 := by decide +kernel
set_option maxHeartbeats 4000000 in
set_option maxRecDepth 100000 in
theorem c8_isAtLetter (l : Launch) (D : va_G) (y : CyT) (zM uM : Nat) {S : CS} {h : Nat} {r : Int32} (hf : f8_isAtLetter S h = some r) : CT l D (tyL y) yX8_isAtLetter cX8_isAtLetter 1 (some .boolean) 0 0 zM uM [.ref h] (cZ S) (cU S) (cw y S) (cZ S) (cU S) (cw y S) (some (.int r)) := by
  refine CT.of (by decide) (Nat.le_of_ble_eq_true rfl) (fun E hc hz hnm => ?_)
  have hc : Cx E "FarEditors$Told" cX8_isAtLetter 1 := hc
  have hT := hz.2.2.1
  show V E (cZ S) (cU S) (cw y S) 0 [(0, .ref h)] []
  unfold f8_isAtLetter at hf
  refine V_aload_n hc dX8_isAtLetter_0 rfl 0 rfl ?_
  obtain ⟨v1, hv1, hf⟩ := mb hf
  refine C_geti hc rfl iW8 (by decide) 11 (by decide) rfl hv1 w1_56 dX8_isAtLetter_1 ?_
  refine V_aload_n hc dX8_isAtLetter_4 rfl 0 rfl ?_
  obtain ⟨v2, hv2, hf⟩ := mb hf
  refine C_geti hc rfl iW8 (by decide) 1 (by decide) rfl hv2 w1_37 dX8_isAtLetter_5 ?_
  obtain ⟨v3, hv4, hf⟩ := mb hf
  have hJ8 : V E (cZ S) (cU S) (cw y S) 44 [] [.int v3] := by
    obtain ⟨v11, hv11, hf⟩ := mb hf
    obtain ⟨hbv11, rfl⟩ := bz_some hv11
    obtain rfl := Option.some.inj hf
    exact V_iret hc hz (bz_nar hbv11) rfl rfl rfl rfl dX8_isAtLetter_44
  refine V_icmp_ge hc dX8_isAtLetter_8 rfl (fun hq8 => ?_) (fun hq8 => ?_)
  · rw [if_pos hq8] at hv4
    refine V_iconst hc (v := (0 : Int32)) dX8_isAtLetter_43 rfl ?_
    obtain rfl := Option.some.inj hv4
    exact V_sub [] rfl hJ8
  · rw [if_neg hq8] at hv4
    refine V_aload_n hc dX8_isAtLetter_11 rfl 0 rfl ?_
    obtain ⟨a5, ha5, hv4⟩ := mb hv4
    refine C_getr hc rfl iW8 (by decide) 0 (by decide) rfl ha5 w1_35 dX8_isAtLetter_12 ?_
    refine V_aload_n hc dX8_isAtLetter_15 rfl 0 rfl ?_
    obtain ⟨v6, hv6, hv4⟩ := mb hv4
    refine C_geti hc rfl iW8 (by decide) 11 (by decide) rfl hv6 w1_56 dX8_isAtLetter_16 ?_
    obtain ⟨v7, hv7, hv4⟩ := mb hv4
    refine C_iald hc hT hv7 dX8_isAtLetter_19 ?_
    refine V_bipush hc (v := (97 : Int32)) dX8_isAtLetter_20 rfl ?_
    refine V_icmp_lt hc dX8_isAtLetter_22 rfl (fun hq22 => ?_) (fun hq22 => ?_)
    · rw [if_pos hq22] at hv4
      refine V_iconst hc (v := (0 : Int32)) dX8_isAtLetter_43 rfl ?_
      obtain rfl := Option.some.inj hv4
      exact V_sub [] rfl hJ8
    · rw [if_neg hq22] at hv4
      refine V_aload_n hc dX8_isAtLetter_25 rfl 0 rfl ?_
      obtain ⟨a8, ha8, hv4⟩ := mb hv4
      refine C_getr hc rfl iW8 (by decide) 0 (by decide) rfl ha8 w1_35 dX8_isAtLetter_26 ?_
      refine V_aload_n hc dX8_isAtLetter_29 rfl 0 rfl ?_
      obtain ⟨v9, hv9, hv4⟩ := mb hv4
      refine C_geti hc rfl iW8 (by decide) 11 (by decide) rfl hv9 w1_56 dX8_isAtLetter_30 ?_
      obtain ⟨v10, hv10, hv4⟩ := mb hv4
      refine C_iald hc hT hv10 dX8_isAtLetter_33 ?_
      refine V_bipush hc (v := (122 : Int32)) dX8_isAtLetter_34 rfl ?_
      refine V_icmp_gt hc dX8_isAtLetter_36 rfl (fun hq36 => ?_) (fun hq36 => ?_)
      · rw [if_pos hq36] at hv4
        refine V_iconst hc (v := (0 : Int32)) dX8_isAtLetter_43 rfl ?_
        obtain rfl := Option.some.inj hv4
        exact V_sub [] rfl hJ8
      · rw [if_neg hq36] at hv4
        refine V_iconst hc (v := (1 : Int32)) dX8_isAtLetter_39 rfl ?_
        refine V_goto hc dX8_isAtLetter_40 rfl ?_
        obtain rfl := Option.some.inj hv4
        exact V_sub [] rfl hJ8
noncomputable def f8_fail (S : CS) (h : Nat) (p1 : Int32) (p2 : Int32) : Option (Int32 × CS) :=
  (pi S 8 h 2 p1).bind fun S1 =>
  (pi S1 8 h 3 p2).bind fun S2 =>
  some ((0 : Int32), S2)
theorem hdX_X8_fail : yX8_fail.cls = "FarEditors$Told" ∧ yX8_fail.cls ≠ "java/lang/invoke/MethodHandle" ∧ yX8_fail.cls ≠ "java/lang/invoke/VarHandle" ∧ (parseMethodDescriptor yX8_fail.desc).map (fun d => d.parameters.length) = some 2 := by decide +kernel
set_option maxHeartbeats 4000000 in
set_option maxRecDepth 100000 in
theorem c8_fail (l : Launch) (D : va_G) (y : CyT) (zM uM : Nat) {S S' : CS} {h : Nat} {p1 : Int32} {p2 : Int32} {r : Int32} (hf : f8_fail S h p1 p2 = some (r, S')) : CT l D (tyL y) yX8_fail cX8_fail 3 (some .boolean) 0 0 zM uM [.ref h, .int p1, .int p2] (cZ S) (cU S) (cw y S) (cZ S') (cU S') (cw y S') (some (.int r)) := by
  refine CT.of (by decide) (Nat.le_of_ble_eq_true rfl) (fun E hc hz hnm => ?_)
  have hc : Cx E "FarEditors$Told" cX8_fail 3 := hc
  have hT := hz.2.2.1
  show V E (cZ S) (cU S) (cw y S) 0 [(0, .ref h), (1, .int p1), (2, .int p2)] []
  unfold f8_fail at hf
  refine V_aload_n hc dX8_fail_0 rfl 0 rfl ?_
  refine V_iload_n hc dX8_fail_1 rfl 1 rfl ?_
  obtain ⟨S1, hS1, hf⟩ := mb hf
  refine C_puti hc rfl iW8 tyX8 tyX8_ok nmX8 (by decide) 2 (by decide) rfl hS1 w1_39 rfl rfl rfl dX8_fail_2 ?_
  refine V_aload_n hc dX8_fail_5 rfl 0 rfl ?_
  refine V_iload_n hc dX8_fail_6 rfl 2 rfl ?_
  obtain ⟨S2, hS2, hf⟩ := mb hf
  refine C_puti hc rfl iW8 tyX8 tyX8_ok nmX8 (by decide) 3 (by decide) rfl hS2 w1_41 rfl rfl rfl dX8_fail_7 ?_
  refine V_iconst hc (v := (0 : Int32)) dX8_fail_10 rfl ?_
  obtain ⟨rfl, rfl⟩ := si2 hf
  exact V_iret hc hz rfl rfl rfl rfl rfl dX8_fail_11
noncomputable def f8_isAtDigit (S : CS) (h : Nat) : Option (Int32) :=
  (gi S 8 h 11).bind fun v1 =>
  (gi S 8 h 1).bind fun v2 =>
  (
    if v2 ≤ v1 then (
      some (0 : Int32)
    ) else (
      (gr S 8 h 0).bind fun a5 =>
      (gi S 8 h 11).bind fun v6 =>
      (ldi S a5 v6).bind fun v7 =>
      if v7 < (48 : Int32) then (
        some (0 : Int32)
      ) else (
        (gr S 8 h 0).bind fun a8 =>
        (gi S 8 h 11).bind fun v9 =>
        (ldi S a8 v9).bind fun v10 =>
        if (57 : Int32) < v10 then (
          some (0 : Int32)
        ) else (
          some (1 : Int32)
        )
      )
    )
  ).bind fun v3 =>
  (bz v3).bind fun v11 =>
  some v11
theorem hdX_X8_isAtDigit : yX8_isAtDigit.cls = "FarEditors$Told" ∧ yX8_isAtDigit.cls ≠ "java/lang/invoke/MethodHandle" ∧ yX8_isAtDigit.cls ≠ "java/lang/invoke/VarHandle" ∧ (parseMethodDescriptor yX8_isAtDigit.desc).map (fun d => d.parameters.length) = some 0 := by decide +kernel
set_option maxHeartbeats 4000000 in
set_option maxRecDepth 100000 in
theorem c8_isAtDigit (l : Launch) (D : va_G) (y : CyT) (zM uM : Nat) {S : CS} {h : Nat} {r : Int32} (hf : f8_isAtDigit S h = some r) : CT l D (tyL y) yX8_isAtDigit cX8_isAtDigit 1 (some .boolean) 0 0 zM uM [.ref h] (cZ S) (cU S) (cw y S) (cZ S) (cU S) (cw y S) (some (.int r)) := by
  refine CT.of (by decide) (Nat.le_of_ble_eq_true rfl) (fun E hc hz hnm => ?_)
  have hc : Cx E "FarEditors$Told" cX8_isAtDigit 1 := hc
  have hT := hz.2.2.1
  show V E (cZ S) (cU S) (cw y S) 0 [(0, .ref h)] []
  unfold f8_isAtDigit at hf
  refine V_aload_n hc dX8_isAtDigit_0 rfl 0 rfl ?_
  obtain ⟨v1, hv1, hf⟩ := mb hf
  refine C_geti hc rfl iW8 (by decide) 11 (by decide) rfl hv1 w1_56 dX8_isAtDigit_1 ?_
  refine V_aload_n hc dX8_isAtDigit_4 rfl 0 rfl ?_
  obtain ⟨v2, hv2, hf⟩ := mb hf
  refine C_geti hc rfl iW8 (by decide) 1 (by decide) rfl hv2 w1_37 dX8_isAtDigit_5 ?_
  obtain ⟨v3, hv4, hf⟩ := mb hf
  have hJ8 : V E (cZ S) (cU S) (cw y S) 44 [] [.int v3] := by
    obtain ⟨v11, hv11, hf⟩ := mb hf
    obtain ⟨hbv11, rfl⟩ := bz_some hv11
    obtain rfl := Option.some.inj hf
    exact V_iret hc hz (bz_nar hbv11) rfl rfl rfl rfl dX8_isAtDigit_44
  refine V_icmp_ge hc dX8_isAtDigit_8 rfl (fun hq8 => ?_) (fun hq8 => ?_)
  · rw [if_pos hq8] at hv4
    refine V_iconst hc (v := (0 : Int32)) dX8_isAtDigit_43 rfl ?_
    obtain rfl := Option.some.inj hv4
    exact V_sub [] rfl hJ8
  · rw [if_neg hq8] at hv4
    refine V_aload_n hc dX8_isAtDigit_11 rfl 0 rfl ?_
    obtain ⟨a5, ha5, hv4⟩ := mb hv4
    refine C_getr hc rfl iW8 (by decide) 0 (by decide) rfl ha5 w1_35 dX8_isAtDigit_12 ?_
    refine V_aload_n hc dX8_isAtDigit_15 rfl 0 rfl ?_
    obtain ⟨v6, hv6, hv4⟩ := mb hv4
    refine C_geti hc rfl iW8 (by decide) 11 (by decide) rfl hv6 w1_56 dX8_isAtDigit_16 ?_
    obtain ⟨v7, hv7, hv4⟩ := mb hv4
    refine C_iald hc hT hv7 dX8_isAtDigit_19 ?_
    refine V_bipush hc (v := (48 : Int32)) dX8_isAtDigit_20 rfl ?_
    refine V_icmp_lt hc dX8_isAtDigit_22 rfl (fun hq22 => ?_) (fun hq22 => ?_)
    · rw [if_pos hq22] at hv4
      refine V_iconst hc (v := (0 : Int32)) dX8_isAtDigit_43 rfl ?_
      obtain rfl := Option.some.inj hv4
      exact V_sub [] rfl hJ8
    · rw [if_neg hq22] at hv4
      refine V_aload_n hc dX8_isAtDigit_25 rfl 0 rfl ?_
      obtain ⟨a8, ha8, hv4⟩ := mb hv4
      refine C_getr hc rfl iW8 (by decide) 0 (by decide) rfl ha8 w1_35 dX8_isAtDigit_26 ?_
      refine V_aload_n hc dX8_isAtDigit_29 rfl 0 rfl ?_
      obtain ⟨v9, hv9, hv4⟩ := mb hv4
      refine C_geti hc rfl iW8 (by decide) 11 (by decide) rfl hv9 w1_56 dX8_isAtDigit_30 ?_
      obtain ⟨v10, hv10, hv4⟩ := mb hv4
      refine C_iald hc hT hv10 dX8_isAtDigit_33 ?_
      refine V_bipush hc (v := (57 : Int32)) dX8_isAtDigit_34 rfl ?_
      refine V_icmp_gt hc dX8_isAtDigit_36 rfl (fun hq36 => ?_) (fun hq36 => ?_)
      · rw [if_pos hq36] at hv4
        refine V_iconst hc (v := (0 : Int32)) dX8_isAtDigit_43 rfl ?_
        obtain rfl := Option.some.inj hv4
        exact V_sub [] rfl hJ8
      · rw [if_neg hq36] at hv4
        refine V_iconst hc (v := (1 : Int32)) dX8_isAtDigit_39 rfl ?_
        refine V_goto hc dX8_isAtDigit_40 rfl ?_
        obtain rfl := Option.some.inj hv4
        exact V_sub [] rfl hJ8
noncomputable def f8_endsWell (S : CS) (h : Nat) : Option (Int32 × CS) :=
  (cal S 8 h (f8_isAtDigit S h)).bind fun v1 =>
  bn2 (
    if v1 = 0 then (
      some ((1 : Int32), S)
    ) else (
      (gi S 8 h 11).bind fun v5 =>
      bn2 (cal S 8 h (f8_fail S h (1 : Int32) v5)) fun v6 S7 =>
      if v6 = 0 then (
        some ((0 : Int32), S7)
      ) else (
        some ((1 : Int32), S7)
      )
    )
  ) fun v2 S3 =>
  (bz v2).bind fun v8 =>
  some (v8, S3)
theorem hdX_X8_endsWell : yX8_endsWell.cls = "FarEditors$Told" ∧ yX8_endsWell.cls ≠ "java/lang/invoke/MethodHandle" ∧ yX8_endsWell.cls ≠ "java/lang/invoke/VarHandle" ∧ (parseMethodDescriptor yX8_endsWell.desc).map (fun d => d.parameters.length) = some 0 := by decide +kernel
set_option maxHeartbeats 4000000 in
set_option maxRecDepth 100000 in
theorem c8_endsWell (l : Launch) (D : va_G) (y : CyT) (zM uM : Nat) {S S' : CS} {h : Nat} {r : Int32} (hf : f8_endsWell S h = some (r, S')) : CT l D (tyL y) yX8_endsWell cX8_endsWell 1 (some .boolean) 1 22 zM uM [.ref h] (cZ S) (cU S) (cw y S) (cZ S') (cU S') (cw y S') (some (.int r)) := by
  refine CT.of (by decide) (Nat.le_of_ble_eq_true rfl) (fun E hc hz hnm => ?_)
  have hc : Cx E "FarEditors$Told" cX8_endsWell 1 := hc
  have hT := hz.2.2.1
  show V E (cZ S) (cU S) (cw y S) 0 [(0, .ref h)] []
  unfold f8_endsWell at hf
  refine V_aload_n hc dX8_endsWell_0 rfl 0 rfl ?_
  obtain ⟨v1, hv1, hf⟩ := mb hf
  obtain ⟨hkv1, hv1⟩ := og hv1
  refine C_callV hc hz (As := []) hkv1 (by decide) (c8_isAtDigit l D y _ _ hv1) w3_121 w3_123 wp1_10 w1_2 w3_124 hdX_X8_isAtDigit ⟨(Nat.le_of_ble_eq_true rfl), (Nat.le_of_ble_eq_true rfl)⟩ rfl rfl rfl (Nat.le_of_ble_eq_true rfl) dX8_endsWell_1 ?_
  obtain ⟨v2, S3, hv4, hf⟩ := mb2 hf
  have hJ4 : V E (cZ S3) (cU S3) (cw y S3) 24 [] [.int v2] := by
    obtain ⟨v8, hv8, hf⟩ := mb hf
    obtain ⟨hbv8, rfl⟩ := bz_some hv8
    obtain ⟨rfl, rfl⟩ := si2 hf
    exact V_iret hc hz (bz_nar hbv8) rfl rfl rfl rfl dX8_endsWell_24
  refine V_if_eq hc dX8_endsWell_4 rfl (fun hq4 => ?_) (fun hq4 => ?_)
  · rw [if_pos hq4] at hv4
    refine V_iconst hc (v := (1 : Int32)) dX8_endsWell_19 rfl ?_
    refine V_goto hc dX8_endsWell_20 rfl ?_
    obtain ⟨rfl, rfl⟩ := si2 hv4
    exact V_sub [] rfl hJ4
  · rw [if_neg hq4] at hv4
    refine V_aload_n hc dX8_endsWell_7 rfl 0 rfl ?_
    refine V_iconst hc (v := (1 : Int32)) dX8_endsWell_8 rfl ?_
    refine V_aload_n hc dX8_endsWell_9 rfl 0 rfl ?_
    obtain ⟨v5, hv5, hv4⟩ := mb hv4
    refine C_geti hc rfl iW8 (by decide) 11 (by decide) rfl hv5 w1_56 dX8_endsWell_10 ?_
    obtain ⟨v6, S7, hv6, hv4⟩ := mb2 hv4
    obtain ⟨hkv6, hv6⟩ := og hv6
    refine C_callV hc hz (As := [.int (1 : Int32), .int v5]) hkv6 (by decide) (c8_fail l D y _ _ hv6) w3_113 w3_115 wp1_8 w1_2 w3_116 hdX_X8_fail ⟨(Nat.le_of_ble_eq_true rfl), (Nat.le_of_ble_eq_true rfl)⟩ rfl rfl rfl (Nat.le_of_ble_eq_true rfl) dX8_endsWell_13 ?_
    refine V_if_eq hc dX8_endsWell_16 rfl (fun hq16 => ?_) (fun hq16 => ?_)
    · rw [if_pos hq16] at hv4
      refine V_iconst hc (v := (0 : Int32)) dX8_endsWell_23 rfl ?_
      obtain ⟨rfl, rfl⟩ := si2 hv4
      exact V_sub [] rfl hJ4
    · rw [if_neg hq16] at hv4
      refine V_iconst hc (v := (1 : Int32)) dX8_endsWell_19 rfl ?_
      refine V_goto hc dX8_endsWell_20 rfl ?_
      obtain ⟨rfl, rfl⟩ := si2 hv4
      exact V_sub [] rfl hJ4
noncomputable def f8_readKeyword (S : CS) (h : Nat) : Option (Int32 × CS) :=
  (cal S 8 h (f8_skipBlanks S h)).bind fun S1 =>
  (gi S1 8 h 11).bind fun v2 =>
  bn2 (cal S1 8 h (f8_findKeyword S1 h)) fun v3 S4 =>
  if v3 = (-1 : Int32) then (
    bn2 (cal S4 8 h (f8_fail S4 h (1 : Int32) v2)) fun v5 S6 =>
    some ((-1 : Int32), S6)
  ) else (
    if v3 = (9 : Int32) then (
      bn2 (cal S4 8 h (f8_fail S4 h (1 : Int32) v2)) fun v7 S8 =>
      some ((-1 : Int32), S8)
    ) else (
      (
        if v3 = 0 then (
          some (1 : Int32)
        ) else (
          some (0 : Int32)
        )
      ).bind fun v9 =>
      (gi S4 8 h 4).bind fun v11 =>
      (
        if v11 = 0 then (
          some (1 : Int32)
        ) else (
          some (0 : Int32)
        )
      ).bind fun v12 =>
      if v9 = v12 then (
        bn2 (cal S4 8 h (f8_endsWell S4 h)) fun v14 S15 =>
        (
          if v14 = 0 then (
            some (-1 : Int32)
          ) else (
            some v3
          )
        ).bind fun v16 =>
        some (v16, S15)
      ) else (
        bn2 (cal S4 8 h (f8_fail S4 h (1 : Int32) v2)) fun v18 S19 =>
        some ((-1 : Int32), S19)
      )
    )
  )
theorem hdX_X8_readKeyword : yX8_readKeyword.cls = "FarEditors$Told" ∧ yX8_readKeyword.cls ≠ "java/lang/invoke/MethodHandle" ∧ yX8_readKeyword.cls ≠ "java/lang/invoke/VarHandle" ∧ (parseMethodDescriptor yX8_readKeyword.desc).map (fun d => d.parameters.length) = some 0 := by decide +kernel
set_option maxHeartbeats 4000000 in
set_option maxRecDepth 100000 in
theorem c8_readKeyword (l : Launch) (D : va_G) (y : CyT) (zM uM : Nat) {S S' : CS} {h : Nat} {r : Int32} (hf : f8_readKeyword S h = some (r, S')) : CT l D (tyL y) yX8_readKeyword cX8_readKeyword 3 (some .int) 5 106 zM uM [.ref h] (cZ S) (cU S) (cw y S) (cZ S') (cU S') (cw y S') (some (.int r)) := by
  refine CT.of (by decide) (Nat.le_of_ble_eq_true rfl) (fun E hc hz hnm => ?_)
  have hc : Cx E "FarEditors$Told" cX8_readKeyword 3 := hc
  have hT := hz.2.2.1
  show V E (cZ S) (cU S) (cw y S) 0 [(0, .ref h)] []
  unfold f8_readKeyword at hf
  refine V_aload_n hc dX8_readKeyword_0 rfl 0 rfl ?_
  obtain ⟨S1, hS1, hf⟩ := mb hf
  obtain ⟨hkS1, hS1⟩ := og hS1
  refine C_callV hc hz (As := []) hkS1 (by decide) (c8_skipBlanks l D y _ _ hS1) w3_36 w3_38 wp1_4 w1_2 w3_39 hdX_X8_skipBlanks ⟨(Nat.le_of_ble_eq_true rfl), (Nat.le_of_ble_eq_true rfl)⟩ rfl rfl rfl (Nat.le_of_ble_eq_true rfl) dX8_readKeyword_1 ?_
  refine V_aload_n hc dX8_readKeyword_4 rfl 0 rfl ?_
  obtain ⟨v2, hv2, hf⟩ := mb hf
  refine C_geti hc rfl iW8 (by decide) 11 (by decide) rfl hv2 w1_56 dX8_readKeyword_5 ?_
  refine V_istore_n hc dX8_readKeyword_8 rfl (by decide) rfl ?_
  refine V_aload_n hc dX8_readKeyword_9 rfl 1 rfl ?_
  obtain ⟨v3, S4, hv3, hf⟩ := mb2 hf
  obtain ⟨hkv3, hv3⟩ := og hv3
  refine C_callV hc hz (As := []) hkv3 (by decide) (c8_findKeyword l D y _ _ hv3) w3_40 w3_42 wp1_5 w1_2 w3_43 hdX_X8_findKeyword ⟨(Nat.le_of_ble_eq_true rfl), (Nat.le_of_ble_eq_true rfl)⟩ rfl rfl rfl (Nat.le_of_ble_eq_true rfl) dX8_readKeyword_10 ?_
  refine V_istore_n hc dX8_readKeyword_13 rfl (by decide) rfl ?_
  refine V_iload_n hc dX8_readKeyword_14 rfl 0 rfl ?_
  refine V_iconst hc (v := (-1 : Int32)) dX8_readKeyword_15 rfl ?_
  refine V_icmp_eq hc dX8_readKeyword_16 rfl (fun hq16 => ?_) (fun hq16 => ?_)
  · rw [if_pos hq16] at hf
    refine V_aload_n hc dX8_readKeyword_49 rfl 2 rfl ?_
    refine V_iconst hc (v := (1 : Int32)) dX8_readKeyword_50 rfl ?_
    refine V_iload_n hc dX8_readKeyword_51 rfl 1 rfl ?_
    obtain ⟨v5, S6, hv5, hf⟩ := mb2 hf
    obtain ⟨hkv5, hv5⟩ := og hv5
    refine C_callV hc hz (As := [.int (1 : Int32), .int v2]) hkv5 (by decide) (c8_fail l D y _ _ hv5) w3_113 w3_115 wp1_8 w1_2 w3_116 hdX_X8_fail ⟨(Nat.le_of_ble_eq_true rfl), (Nat.le_of_ble_eq_true rfl)⟩ rfl rfl rfl (Nat.le_of_ble_eq_true rfl) dX8_readKeyword_52 ?_
    refine V_pop hc dX8_readKeyword_55 rfl ?_
    refine V_iconst hc (v := (-1 : Int32)) dX8_readKeyword_56 rfl ?_
    obtain ⟨rfl, rfl⟩ := si2 hf
    exact V_iret hc hz rfl rfl rfl rfl rfl dX8_readKeyword_57
  · rw [if_neg hq16] at hf
    refine V_iload_n hc dX8_readKeyword_19 rfl 0 rfl ?_
    refine V_bipush hc (v := (9 : Int32)) dX8_readKeyword_20 rfl ?_
    refine V_icmp_eq hc dX8_readKeyword_22 rfl (fun hq22 => ?_) (fun hq22 => ?_)
    · rw [if_pos hq22] at hf
      refine V_aload_n hc dX8_readKeyword_49 rfl 2 rfl ?_
      refine V_iconst hc (v := (1 : Int32)) dX8_readKeyword_50 rfl ?_
      refine V_iload_n hc dX8_readKeyword_51 rfl 1 rfl ?_
      obtain ⟨v7, S8, hv7, hf⟩ := mb2 hf
      obtain ⟨hkv7, hv7⟩ := og hv7
      refine C_callV hc hz (As := [.int (1 : Int32), .int v2]) hkv7 (by decide) (c8_fail l D y _ _ hv7) w3_113 w3_115 wp1_8 w1_2 w3_116 hdX_X8_fail ⟨(Nat.le_of_ble_eq_true rfl), (Nat.le_of_ble_eq_true rfl)⟩ rfl rfl rfl (Nat.le_of_ble_eq_true rfl) dX8_readKeyword_52 ?_
      refine V_pop hc dX8_readKeyword_55 rfl ?_
      refine V_iconst hc (v := (-1 : Int32)) dX8_readKeyword_56 rfl ?_
      obtain ⟨rfl, rfl⟩ := si2 hf
      exact V_iret hc hz rfl rfl rfl rfl rfl dX8_readKeyword_57
    · rw [if_neg hq22] at hf
      refine V_iload_n hc dX8_readKeyword_25 rfl 0 rfl ?_
      obtain ⟨v9, hv10, hf⟩ := mb hf
      have hJ26 : V E (cZ S4) (cU S4) (cw y S4) 34 [(0, .ref h), (1, .int v2), (2, .int v3)] [.int v9] := by
        refine V_aload_n hc dX8_readKeyword_34 rfl 0 rfl ?_
        obtain ⟨v11, hv11, hf⟩ := mb hf
        refine C_geti hc rfl iW8 (by decide) 4 (by decide) rfl hv11 w1_43 dX8_readKeyword_35 ?_
        obtain ⟨v12, hv13, hf⟩ := mb hf
        have hJ38 : V E (cZ S4) (cU S4) (cw y S4) 46 [(0, .ref h), (1, .int v2), (2, .int v3)] [.int v12, .int v9] := by
          refine V_icmp_eq hc dX8_readKeyword_46 rfl (fun hq46 => ?_) (fun hq46 => ?_)
          · rw [if_pos hq46] at hf
            refine V_aload_n hc dX8_readKeyword_58 rfl 0 rfl ?_
            obtain ⟨v14, S15, hv14, hf⟩ := mb2 hf
            obtain ⟨hkv14, hv14⟩ := og hv14
            refine C_callV hc hz (As := []) hkv14 (by decide) (c8_endsWell l D y _ _ hv14) w3_117 w3_119 wp1_9 w1_2 w3_120 hdX_X8_endsWell ⟨(Nat.le_of_ble_eq_true rfl), (Nat.le_of_ble_eq_true rfl)⟩ rfl rfl rfl (Nat.le_of_ble_eq_true rfl) dX8_readKeyword_59 ?_
            obtain ⟨v16, hv17, hf⟩ := mb hf
            have hJ62 : V E (cZ S15) (cU S15) (cw y S15) 70 [] [.int v16] := by
              obtain ⟨rfl, rfl⟩ := si2 hf
              exact V_iret hc hz rfl rfl rfl rfl rfl dX8_readKeyword_70
            refine V_if_eq hc dX8_readKeyword_62 rfl (fun hq62 => ?_) (fun hq62 => ?_)
            · rw [if_pos hq62] at hv17
              refine V_iconst hc (v := (-1 : Int32)) dX8_readKeyword_69 rfl ?_
              obtain rfl := Option.some.inj hv17
              exact V_sub [] rfl hJ62
            · rw [if_neg hq62] at hv17
              refine V_iload_n hc dX8_readKeyword_65 rfl 2 rfl ?_
              refine V_goto hc dX8_readKeyword_66 rfl ?_
              obtain rfl := Option.some.inj hv17
              exact V_sub [] rfl hJ62
          · rw [if_neg hq46] at hf
            refine V_aload_n hc dX8_readKeyword_49 rfl 0 rfl ?_
            refine V_iconst hc (v := (1 : Int32)) dX8_readKeyword_50 rfl ?_
            refine V_iload_n hc dX8_readKeyword_51 rfl 1 rfl ?_
            obtain ⟨v18, S19, hv18, hf⟩ := mb2 hf
            obtain ⟨hkv18, hv18⟩ := og hv18
            refine C_callV hc hz (As := [.int (1 : Int32), .int v2]) hkv18 (by decide) (c8_fail l D y _ _ hv18) w3_113 w3_115 wp1_8 w1_2 w3_116 hdX_X8_fail ⟨(Nat.le_of_ble_eq_true rfl), (Nat.le_of_ble_eq_true rfl)⟩ rfl rfl rfl (Nat.le_of_ble_eq_true rfl) dX8_readKeyword_52 ?_
            refine V_pop hc dX8_readKeyword_55 rfl ?_
            refine V_iconst hc (v := (-1 : Int32)) dX8_readKeyword_56 rfl ?_
            obtain ⟨rfl, rfl⟩ := si2 hf
            exact V_iret hc hz rfl rfl rfl rfl rfl dX8_readKeyword_57
        refine V_if_ne hc dX8_readKeyword_38 rfl (fun hq38 => ?_) (fun hq38 => ?_)
        · rw [if_neg hq38] at hv13
          refine V_iconst hc (v := (0 : Int32)) dX8_readKeyword_45 rfl ?_
          obtain rfl := Option.some.inj hv13
          exact V_sub [0, 1, 2] rfl hJ38
        · rw [if_pos hq38] at hv13
          refine V_iconst hc (v := (1 : Int32)) dX8_readKeyword_41 rfl ?_
          refine V_goto hc dX8_readKeyword_42 rfl ?_
          obtain rfl := Option.some.inj hv13
          exact V_sub [0, 1, 2] rfl hJ38
      refine V_if_ne hc dX8_readKeyword_26 rfl (fun hq26 => ?_) (fun hq26 => ?_)
      · rw [if_neg hq26] at hv10
        refine V_iconst hc (v := (0 : Int32)) dX8_readKeyword_33 rfl ?_
        obtain rfl := Option.some.inj hv10
        exact V_sub [2, 1, 0] rfl hJ26
      · rw [if_pos hq26] at hv10
        refine V_iconst hc (v := (1 : Int32)) dX8_readKeyword_29 rfl ?_
        refine V_goto hc dX8_readKeyword_30 rfl ?_
        obtain rfl := Option.some.inj hv10
        exact V_sub [2, 1, 0] rfl hJ26
noncomputable def f8_addPart (S : CS) (h : Nat) (p1 : Int32) : Option (CS) :=
  (gi S 8 h 8).bind fun v1 =>
  (gr S 8 h 7).bind fun a2 =>
  (aln S 14 a2).bind fun v3 =>
  (
    if v3 ≤ v1 then (
      some S
    ) else (
      (gr S 8 h 7).bind fun a6 =>
      (gi S 8 h 8).bind fun v7 =>
      (pi S 8 h 8 (v7 + (1 : Int32))).bind fun S8 =>
      (sti S8 a6 v7 p1).bind fun S9 =>
      some S9
    )
  ).bind fun S4 =>
  some S4
theorem hdX_X8_addPart : yX8_addPart.cls = "FarEditors$Told" ∧ yX8_addPart.cls ≠ "java/lang/invoke/MethodHandle" ∧ yX8_addPart.cls ≠ "java/lang/invoke/VarHandle" ∧ (parseMethodDescriptor yX8_addPart.desc).map (fun d => d.parameters.length) = some 1 := by decide +kernel
set_option maxHeartbeats 4000000 in
set_option maxRecDepth 100000 in
theorem c8_addPart (l : Launch) (D : va_G) (y : CyT) (zM uM : Nat) {S S' : CS} {h : Nat} {p1 : Int32} (hf : f8_addPart S h p1 = some S') : CT l D (tyL y) yX8_addPart cX8_addPart 2 none 0 0 zM uM [.ref h, .int p1] (cZ S) (cU S) (cw y S) (cZ S') (cU S') (cw y S') none := by
  refine CT.of (by decide) (Nat.le_of_ble_eq_true rfl) (fun E hc hz hnm => ?_)
  have hc : Cx E "FarEditors$Told" cX8_addPart 2 := hc
  have hT := hz.2.2.1
  show V E (cZ S) (cU S) (cw y S) 0 [(0, .ref h), (1, .int p1)] []
  unfold f8_addPart at hf
  refine V_aload_n hc dX8_addPart_0 rfl 0 rfl ?_
  obtain ⟨v1, hv1, hf⟩ := mb hf
  refine C_geti hc rfl iW8 (by decide) 8 (by decide) rfl hv1 w1_51 dX8_addPart_1 ?_
  refine V_aload_n hc dX8_addPart_4 rfl 0 rfl ?_
  obtain ⟨a2, ha2, hf⟩ := mb hf
  refine C_getr hc rfl iW8 (by decide) 7 (by decide) rfl ha2 w1_49 dX8_addPart_5 ?_
  obtain ⟨v3, hv3, hf⟩ := mb hf
  refine C_alen hc hT hv3 dX8_addPart_8 ?_
  obtain ⟨S4, hv5, hf⟩ := mb hf
  have hJ9 : V E (cZ S4) (cU S4) (cw y S4) 29 [] [] := by
    obtain rfl := Option.some.inj hf
    exact V_vret hc hz rfl rfl rfl rfl dX8_addPart_29
  refine V_icmp_ge hc dX8_addPart_9 rfl (fun hq9 => ?_) (fun hq9 => ?_)
  · rw [if_pos hq9] at hv5
    obtain rfl := Option.some.inj hv5
    exact V_sub [] rfl hJ9
  · rw [if_neg hq9] at hv5
    refine V_aload_n hc dX8_addPart_12 rfl 0 rfl ?_
    obtain ⟨a6, ha6, hv5⟩ := mb hv5
    refine C_getr hc rfl iW8 (by decide) 7 (by decide) rfl ha6 w1_49 dX8_addPart_13 ?_
    refine V_aload_n hc dX8_addPart_16 rfl 0 rfl ?_
    refine V_dup hc dX8_addPart_17 rfl ?_
    obtain ⟨v7, hv7, hv5⟩ := mb hv5
    refine C_geti hc rfl iW8 (by decide) 8 (by decide) rfl hv7 w1_51 dX8_addPart_18 ?_
    refine V_dup_x1 hc dX8_addPart_21 rfl rfl ?_
    refine V_iconst hc (v := (1 : Int32)) dX8_addPart_22 rfl ?_
    refine V_iadd hc dX8_addPart_23 ?_
    obtain ⟨S8, hS8, hv5⟩ := mb hv5
    refine C_puti hc rfl iW8 tyX8 tyX8_ok nmX8 (by decide) 8 (by decide) rfl hS8 w1_51 rfl rfl rfl dX8_addPart_24 ?_
    refine V_iload_n hc dX8_addPart_27 rfl 1 rfl ?_
    obtain ⟨S9, hS9, hv5⟩ := mb hv5
    refine C_iast hc hT hS9 dX8_addPart_28 ?_
    obtain rfl := Option.some.inj hv5
    exact V_sub [] rfl hJ9
noncomputable def f8_setNumber (S : CS) (h : Nat) (p1 : Int32) (p2 : Int32) : Option (CS) :=
  (gi S 8 h 4).bind fun v1 =>
  (
    if (((4 : Int32) * v1) + p1) < 0 then (
      some S
    ) else (
      (gr S 8 h 10).bind fun a4 =>
      (aln S 14 a4).bind fun v5 =>
      if v5 ≤ (((4 : Int32) * v1) + p1) then (
        some S
      ) else (
        (gr S 8 h 10).bind fun a6 =>
        (sti S a6 (((4 : Int32) * v1) + p1) p2).bind fun S7 =>
        some S7
      )
    )
  ).bind fun S2 =>
  some S2
theorem hdX_X8_setNumber : yX8_setNumber.cls = "FarEditors$Told" ∧ yX8_setNumber.cls ≠ "java/lang/invoke/MethodHandle" ∧ yX8_setNumber.cls ≠ "java/lang/invoke/VarHandle" ∧ (parseMethodDescriptor yX8_setNumber.desc).map (fun d => d.parameters.length) = some 2 := by decide +kernel
set_option maxHeartbeats 4000000 in
set_option maxRecDepth 100000 in
theorem c8_setNumber (l : Launch) (D : va_G) (y : CyT) (zM uM : Nat) {S S' : CS} {h : Nat} {p1 : Int32} {p2 : Int32} (hf : f8_setNumber S h p1 p2 = some S') : CT l D (tyL y) yX8_setNumber cX8_setNumber 4 none 0 0 zM uM [.ref h, .int p1, .int p2] (cZ S) (cU S) (cw y S) (cZ S') (cU S') (cw y S') none := by
  refine CT.of (by decide) (Nat.le_of_ble_eq_true rfl) (fun E hc hz hnm => ?_)
  have hc : Cx E "FarEditors$Told" cX8_setNumber 4 := hc
  have hT := hz.2.2.1
  show V E (cZ S) (cU S) (cw y S) 0 [(0, .ref h), (1, .int p1), (2, .int p2)] []
  unfold f8_setNumber at hf
  refine V_iconst hc (v := (4 : Int32)) dX8_setNumber_0 rfl ?_
  refine V_aload_n hc dX8_setNumber_1 rfl 0 rfl ?_
  obtain ⟨v1, hv1, hf⟩ := mb hf
  refine C_geti hc rfl iW8 (by decide) 4 (by decide) rfl hv1 w1_43 dX8_setNumber_2 ?_
  refine V_imul hc dX8_setNumber_5 ?_
  refine V_iload_n hc dX8_setNumber_6 rfl 1 rfl ?_
  refine V_iadd hc dX8_setNumber_7 ?_
  refine V_istore_n hc dX8_setNumber_8 rfl (by decide) rfl ?_
  refine V_iload_n hc dX8_setNumber_9 rfl 0 rfl ?_
  obtain ⟨S2, hv3, hf⟩ := mb hf
  have hJ10 : V E (cZ S2) (cU S2) (cw y S2) 29 [] [] := by
    obtain rfl := Option.some.inj hf
    exact V_vret hc hz rfl rfl rfl rfl dX8_setNumber_29
  refine V_if_lt hc dX8_setNumber_10 rfl (fun hq10 => ?_) (fun hq10 => ?_)
  · rw [if_pos hq10] at hv3
    obtain rfl := Option.some.inj hv3
    exact V_sub [] rfl hJ10
  · rw [if_neg hq10] at hv3
    refine V_iload_n hc dX8_setNumber_13 rfl 0 rfl ?_
    refine V_aload_n hc dX8_setNumber_14 rfl 1 rfl ?_
    obtain ⟨a4, ha4, hv3⟩ := mb hv3
    refine C_getr hc rfl iW8 (by decide) 10 (by decide) rfl ha4 w1_55 dX8_setNumber_15 ?_
    obtain ⟨v5, hv5, hv3⟩ := mb hv3
    refine C_alen hc hT hv5 dX8_setNumber_18 ?_
    refine V_icmp_ge hc dX8_setNumber_19 rfl (fun hq19 => ?_) (fun hq19 => ?_)
    · rw [if_pos hq19] at hv3
      obtain rfl := Option.some.inj hv3
      exact V_sub [] rfl hJ10
    · rw [if_neg hq19] at hv3
      refine V_aload_n hc dX8_setNumber_22 rfl 1 rfl ?_
      obtain ⟨a6, ha6, hv3⟩ := mb hv3
      refine C_getr hc rfl iW8 (by decide) 10 (by decide) rfl ha6 w1_55 dX8_setNumber_23 ?_
      refine V_iload_n hc dX8_setNumber_26 rfl 0 rfl ?_
      refine V_iload_n hc dX8_setNumber_27 rfl 3 rfl ?_
      obtain ⟨S7, hS7, hv3⟩ := mb hv3
      refine C_iast hc hT hS7 dX8_setNumber_28 ?_
      obtain rfl := Option.some.inj hv3
      exact V_sub [] rfl hJ10
noncomputable def f8_readNumber (S : CS) (h : Nat) (p1 : Int32) (p2 : Int32) (p3 : Int32) : Option (Int32 × CS) :=
  bn2 (cal S 8 h (f8_readDigits S h p2 p3)) fun v1 S2 =>
  (cal S2 8 h (f8_setNumber S2 h p1 v1)).bind fun S3 =>
  (
    if v1 = (-1 : Int32) then (
      some (0 : Int32)
    ) else (
      some (1 : Int32)
    )
  ).bind fun v4 =>
  (bz v4).bind fun v6 =>
  some (v6, S3)
theorem hdX_X8_readNumber : yX8_readNumber.cls = "FarEditors$Told" ∧ yX8_readNumber.cls ≠ "java/lang/invoke/MethodHandle" ∧ yX8_readNumber.cls ≠ "java/lang/invoke/VarHandle" ∧ (parseMethodDescriptor yX8_readNumber.desc).map (fun d => d.parameters.length) = some 3 := by decide +kernel
set_option maxHeartbeats 4000000 in
set_option maxRecDepth 100000 in
theorem c8_readNumber (l : Launch) (D : va_G) (y : CyT) (zM uM : Nat) {S S' : CS} {h : Nat} {p1 : Int32} {p2 : Int32} {p3 : Int32} {r : Int32} (hf : f8_readNumber S h p1 p2 p3 = some (r, S')) : CT l D (tyL y) yX8_readNumber cX8_readNumber 5 (some .boolean) 2 46 zM uM [.ref h, .int p1, .int p2, .int p3] (cZ S) (cU S) (cw y S) (cZ S') (cU S') (cw y S') (some (.int r)) := by
  refine CT.of (by decide) (Nat.le_of_ble_eq_true rfl) (fun E hc hz hnm => ?_)
  have hc : Cx E "FarEditors$Told" cX8_readNumber 5 := hc
  have hT := hz.2.2.1
  show V E (cZ S) (cU S) (cw y S) 0 [(0, .ref h), (1, .int p1), (2, .int p2), (3, .int p3)] []
  unfold f8_readNumber at hf
  refine V_aload_n hc dX8_readNumber_0 rfl 0 rfl ?_
  refine V_iload_n hc dX8_readNumber_1 rfl 2 rfl ?_
  refine V_iload_n hc dX8_readNumber_2 rfl 3 rfl ?_
  obtain ⟨v1, S2, hv1, hf⟩ := mb2 hf
  obtain ⟨hkv1, hv1⟩ := og hv1
  refine C_callV hc hz (As := [.int p2, .int p3]) hkv1 (by decide) (c8_readDigits l D y _ _ hv1) w3_145 w3_147 wp2_0 w1_2 w3_148 hdX_X8_readDigits ⟨(Nat.le_of_ble_eq_true rfl), (Nat.le_of_ble_eq_true rfl)⟩ rfl rfl rfl (Nat.le_of_ble_eq_true rfl) dX8_readNumber_3 ?_
  refine V_istore hc dX8_readNumber_6 (by decide) rfl ?_
  refine V_aload_n hc dX8_readNumber_8 rfl 1 rfl ?_
  refine V_iload_n hc dX8_readNumber_9 rfl 2 rfl ?_
  refine V_iload hc dX8_readNumber_10 0 rfl ?_
  obtain ⟨S3, hS3, hf⟩ := mb hf
  obtain ⟨hkS3, hS3⟩ := og hS3
  refine C_callV hc hz (As := [.int p1, .int v1]) hkS3 (by decide) (c8_setNumber l D y _ _ hS3) w3_149 w3_151 wp2_1 w1_2 w3_152 hdX_X8_setNumber ⟨(Nat.le_of_ble_eq_true rfl), (Nat.le_of_ble_eq_true rfl)⟩ rfl rfl rfl (Nat.le_of_ble_eq_true rfl) dX8_readNumber_12 ?_
  refine V_iload hc dX8_readNumber_15 0 rfl ?_
  refine V_iconst hc (v := (-1 : Int32)) dX8_readNumber_17 rfl ?_
  obtain ⟨v4, hv5, hf⟩ := mb hf
  have hJ18 : V E (cZ S3) (cU S3) (cw y S3) 26 [] [.int v4] := by
    obtain ⟨v6, hv6, hf⟩ := mb hf
    obtain ⟨hbv6, rfl⟩ := bz_some hv6
    obtain ⟨rfl, rfl⟩ := si2 hf
    exact V_iret hc hz (bz_nar hbv6) rfl rfl rfl rfl dX8_readNumber_26
  refine V_icmp_eq hc dX8_readNumber_18 rfl (fun hq18 => ?_) (fun hq18 => ?_)
  · rw [if_pos hq18] at hv5
    refine V_iconst hc (v := (0 : Int32)) dX8_readNumber_25 rfl ?_
    obtain rfl := Option.some.inj hv5
    exact V_sub [] rfl hJ18
  · rw [if_neg hq18] at hv5
    refine V_iconst hc (v := (1 : Int32)) dX8_readNumber_21 rfl ?_
    refine V_goto hc dX8_readNumber_22 rfl ?_
    obtain rfl := Option.some.inj hv5
    exact V_sub [] rfl hJ18
