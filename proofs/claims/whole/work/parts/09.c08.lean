noncomputable def f7_copyLetters (S : CS) (h : Nat) (p1 : Nat) (p2 : Int32) : Option (CS) :=
  (aln S 14 p1).bind fun v1 =>
  (gr S 7 h 0).bind fun a2 =>
  (aln S 14 a2).bind fun v3 =>
  (pi S 7 h 1 (if (if v3 < v1 then v3 else v1) < p2 then (if v3 < v1 then v3 else v1) else p2)).bind fun S4 =>
  (gr S4 7 h 0).bind fun a5 =>
  (gi S4 7 h 1).bind fun v6 =>
  (cpy S4 p1 (0 : Int32) a5 (0 : Int32) v6).bind fun S7 =>
  some S7
theorem hdX_X7_copyLetters : yX7_copyLetters.cls = "FarEditors$Text" ∧ yX7_copyLetters.cls ≠ "java/lang/invoke/MethodHandle" ∧ yX7_copyLetters.cls ≠ "java/lang/invoke/VarHandle" ∧ (parseMethodDescriptor yX7_copyLetters.desc).map (fun d => d.parameters.length) = some 2 := by decide +kernel
set_option maxHeartbeats 4000000 in
set_option maxRecDepth 100000 in
theorem c7_copyLetters (l : Launch) (D : va_G) (y : CyT) (zM uM : Nat) {S S' : CS} {h : Nat} {p1 : Nat} {p2 : Int32} (hf : f7_copyLetters S h p1 p2 = some S') : CT l D y yX7_copyLetters cX7_copyLetters 3 none 1 26 zM uM [.ref h, .ref p1, .int p2] (cZ S) (cU S) (cw y S) (cZ S') (cU S') (cw y S') none := by
  refine CT.of (by decide) (Nat.le_of_ble_eq_true rfl) (fun E hc hzz hnm => ?_)
  have hc : Cx E "FarEditors$Text" cX7_copyLetters 3 := hc
  have hz := hzz.1
  have hT := hz.2.2.1
  show V E (cZ S) (cU S) (cw y S) 0 [(0, .ref h), (1, .ref p1), (2, .int p2)] []
  unfold f7_copyLetters at hf
  refine V_aload_n hc dX7_copyLetters_0 rfl 0 rfl ?_
  refine V_iload_n hc dX7_copyLetters_1 rfl 2 rfl ?_
  refine V_aload_n hc dX7_copyLetters_2 rfl 1 rfl ?_
  obtain ⟨v1, hv1, hf⟩ := mb hf
  refine C_alen hc hT hv1 dX7_copyLetters_3 ?_
  refine V_aload_n hc dX7_copyLetters_4 rfl 0 rfl ?_
  obtain ⟨a2, ha2, hf⟩ := mb hf
  refine C_getr hc rfl iW7 (by decide) 0 (by decide) rfl ha2 w1_166 dX7_copyLetters_5 ?_
  obtain ⟨v3, hv3, hf⟩ := mb hf
  refine C_alen hc hT hv3 dX7_copyLetters_8 ?_
  refine C_min hc hz w3_193 w3_194 w1_18 w3_195 ⟨(Nat.le_of_ble_eq_true rfl), (Nat.le_of_ble_eq_true rfl)⟩ (Nat.le_of_ble_eq_true rfl) dX7_copyLetters_9 ?_
  refine C_min hc hz w3_193 w3_194 w1_18 w3_195 ⟨(Nat.le_of_ble_eq_true rfl), (Nat.le_of_ble_eq_true rfl)⟩ (Nat.le_of_ble_eq_true rfl) dX7_copyLetters_12 ?_
  obtain ⟨S4, hS4, hf⟩ := mb hf
  refine C_puti hc rfl iW7 tyX7 tyX7_ok nmX7 (by decide) 1 (by decide) rfl hS4 w1_168 rfl rfl rfl dX7_copyLetters_15 ?_
  refine V_aload_n hc dX7_copyLetters_18 rfl 1 rfl ?_
  refine V_iconst hc (v := (0 : Int32)) dX7_copyLetters_19 rfl ?_
  refine V_aload_n hc dX7_copyLetters_20 rfl 0 rfl ?_
  obtain ⟨a5, ha5, hf⟩ := mb hf
  refine C_getr hc rfl iW7 (by decide) 0 (by decide) rfl ha5 w1_166 dX7_copyLetters_21 ?_
  refine V_iconst hc (v := (0 : Int32)) dX7_copyLetters_24 rfl ?_
  refine V_aload_n hc dX7_copyLetters_25 rfl 0 rfl ?_
  obtain ⟨v6, hv6, hf⟩ := mb hf
  refine C_geti hc rfl iW7 (by decide) 1 (by decide) rfl hv6 w1_168 dX7_copyLetters_26 ?_
  obtain ⟨S7, hS7, hf⟩ := mb hf
  refine C_copy hc hz hS7 w3_196 w3_198 w3_197 w1_19 ⟨(Nat.le_of_ble_eq_true rfl), (Nat.le_of_ble_eq_true rfl)⟩ (Nat.le_of_ble_eq_true rfl) dX7_copyLetters_29 ?_
  obtain rfl := Option.some.inj hf
  exact V_vret hc hzz rfl rfl rfl rfl dX7_copyLetters_32
noncomputable def f7_ask (S : CS) (h : Nat) (p1 : Int32) : Option (Int32) :=
  if p1 = (-1 : Int32) then (
    (gi S 7 h 1).bind fun v5 =>
    some v5
  ) else (
    (cal S 7 h (f7_hasPlace S h p1)).bind fun v1 =>
    (
      if v1 = 0 then (
        some (-1 : Int32)
      ) else (
        (cal S 7 h (f7_letterAt S h p1)).bind fun v4 =>
        some v4
      )
    ).bind fun v2 =>
    some v2
  )
theorem hdX_X7_ask : yX7_ask.cls = "FarEditors$Text" ∧ yX7_ask.cls ≠ "java/lang/invoke/MethodHandle" ∧ yX7_ask.cls ≠ "java/lang/invoke/VarHandle" ∧ (parseMethodDescriptor yX7_ask.desc).map (fun d => d.parameters.length) = some 1 := by decide +kernel
set_option maxHeartbeats 4000000 in
set_option maxRecDepth 100000 in
theorem c7_ask (l : Launch) (D : va_G) (y : CyT) (zM uM : Nat) {S : CS} {h : Nat} {p1 : Int32} {r : Int32} (hf : f7_ask S h p1 = some r) : CT l D y yX7_ask cX7_ask 2 (some .int) 2 42 zM uM [.ref h, .int p1] (cZ S) (cU S) (cw y S) (cZ S) (cU S) (cw y S) (some (.int r)) := by
  refine CT.of (by decide) (Nat.le_of_ble_eq_true rfl) (fun E hc hzz hnm => ?_)
  have hc : Cx E "FarEditors$Text" cX7_ask 2 := hc
  have hz := hzz.1
  have hT := hz.2.2.1
  show V E (cZ S) (cU S) (cw y S) 0 [(0, .ref h), (1, .int p1)] []
  unfold f7_ask at hf
  refine V_iload_n hc dX7_ask_0 rfl 1 rfl ?_
  refine V_iconst hc (v := (-1 : Int32)) dX7_ask_1 rfl ?_
  refine V_icmp_ne hc dX7_ask_2 rfl (fun hq2 => ?_) (fun hq2 => ?_)
  · rw [if_neg hq2] at hf
    refine V_aload_n hc dX7_ask_10 rfl 0 rfl ?_
    refine V_iload_n hc dX7_ask_11 rfl 1 rfl ?_
    obtain ⟨v1, hv1, hf⟩ := mb hf
    obtain ⟨hkv1, hv1⟩ := og hv1
    refine C_callV hc hz (As := [.int p1]) hkv1 (by decide) (c7_hasPlace l D y _ _ hv1) w4_73 w4_74 w4_75 w1_7 w4_76 hdX_X7_hasPlace ⟨(Nat.le_of_ble_eq_true rfl), (Nat.le_of_ble_eq_true rfl)⟩ rfl rfl rfl (Nat.le_of_ble_eq_true rfl) dX7_ask_12 ?_
    obtain ⟨v2, hv3, hf⟩ := mb hf
    have hJ15 : V E (cZ S) (cU S) (cw y S) 27 [] [.int v2] := by
      obtain rfl := Option.some.inj hf
      exact V_iret hc hzz rfl rfl rfl rfl rfl dX7_ask_27
    refine V_if_eq hc dX7_ask_15 rfl (fun hq15 => ?_) (fun hq15 => ?_)
    · rw [if_pos hq15] at hv3
      refine V_iconst hc (v := (-1 : Int32)) dX7_ask_26 rfl ?_
      obtain rfl := Option.some.inj hv3
      exact V_sub [] rfl hJ15
    · rw [if_neg hq15] at hv3
      refine V_aload_n hc dX7_ask_18 rfl 0 rfl ?_
      refine V_iload_n hc dX7_ask_19 rfl 1 rfl ?_
      obtain ⟨v4, hv4, hv3⟩ := mb hv3
      obtain ⟨hkv4, hv4⟩ := og hv4
      refine C_callV hc hz (As := [.int p1]) hkv4 (by decide) (c7_letterAt l D y _ _ hv4) w4_210 w4_156 w4_157 w1_7 w4_158 hdX_X7_letterAt ⟨(Nat.le_of_ble_eq_true rfl), (Nat.le_of_ble_eq_true rfl)⟩ rfl rfl rfl (Nat.le_of_ble_eq_true rfl) dX7_ask_20 ?_
      refine V_goto hc dX7_ask_23 rfl ?_
      obtain rfl := Option.some.inj hv3
      exact V_sub [] rfl hJ15
  · rw [if_pos hq2] at hf
    refine V_aload_n hc dX7_ask_5 rfl 0 rfl ?_
    obtain ⟨v5, hv5, hf⟩ := mb hf
    refine C_geti hc rfl iW7 (by decide) 1 (by decide) rfl hv5 w1_168 dX7_ask_6 ?_
    obtain rfl := Option.some.inj hf
    exact V_iret hc hzz rfl rfl rfl rfl rfl dX7_ask_9
noncomputable def f8_init (X : Nat × Nat) (S : CS) (h : Nat) : Option (CS) :=
  (nwa X S 14 (1600 : Int32)).bind fun S1 =>
  (pr S1 8 h 0 (cZ S)).bind fun S2 =>
  (pi S2 8 h 1 (0 : Int32)).bind fun S3 =>
  (pi S3 8 h 2 (0 : Int32)).bind fun S4 =>
  (pi S4 8 h 3 (0 : Int32)).bind fun S5 =>
  (pi S5 8 h 4 (0 : Int32)).bind fun S6 =>
  (pi S6 8 h 5 (0 : Int32)).bind fun S7 =>
  (pi S7 8 h 6 (0 : Int32)).bind fun S8 =>
  (nwa X S8 14 (1600 : Int32)).bind fun S9 =>
  (pr S9 8 h 7 (cZ S8)).bind fun S10 =>
  (pi S10 8 h 8 (0 : Int32)).bind fun S11 =>
  (nwa X S11 14 (60 : Int32)).bind fun S12 =>
  (pr S12 8 h 9 (cZ S11)).bind fun S13 =>
  (nwa X S13 14 (240 : Int32)).bind fun S14 =>
  (pr S14 8 h 10 (cZ S13)).bind fun S15 =>
  (pi S15 8 h 11 (0 : Int32)).bind fun S16 =>
  some S16
theorem hdX_X8_init : yX8_init.cls = "FarEditors$Told" ∧ yX8_init.cls ≠ "java/lang/invoke/MethodHandle" ∧ yX8_init.cls ≠ "java/lang/invoke/VarHandle" ∧ (parseMethodDescriptor yX8_init.desc).map (fun d => d.parameters.length) = some 0 := by decide +kernel
set_option maxHeartbeats 4000000 in
set_option maxRecDepth 100000 in
theorem c8_init (l : Launch) (D : va_G) (y : CyT) (X : Nat × Nat) (hX : X.2 ≤ 100000000) {S S' : CS} {h : Nat} (hf : f8_init X S h = some S') : CT l D y yX8_init cX8_init 1 none 1 20 X.1 X.2 [.ref h] (cZ S) (cU S) (cw y S) (cZ S') (cU S') (cw y S') none := by
  refine CT.of (by decide) (Nat.le_of_ble_eq_true rfl) (fun E hc hzz hnm => ?_)
  have hc : Cx E "FarEditors$Told" cX8_init 1 := hc
  have hnm : (xH E).name = "<init>" := hnm
  have hz := hzz.1
  have hT := hz.2.2.1
  show V E (cZ S) (cU S) (cw y S) 0 [(0, .ref h)] []
  unfold f8_init at hf
  refine V_aload_n hc dX8_init_0 rfl 0 rfl ?_
  refine V_objInit hc hz w1_34 w1_27 w1_28 ⟨(Nat.le_of_ble_eq_true rfl), (Nat.le_of_ble_eq_true rfl)⟩ (Nat.le_of_ble_eq_true rfl) dX8_init_1 ?_
  refine V_aload_n hc dX8_init_4 rfl 0 rfl ?_
  refine V_sipush hc (v := (1600 : Int32)) dX8_init_5 rfl ?_
  obtain ⟨S1, hS1, hf⟩ := mb hf
  refine C_newi hc hz hS1 hX w1_82 dX8_init_8 ?_
  obtain ⟨S2, hS2, hf⟩ := mb hf
  refine C_putrF hc hnm rfl iW8 tyX8 tyX8_ok nmX8 (by decide) 0 (by decide) rfl hS2 w1_35 rfl rfl rfl rfl dX8_init_10 ?_
  refine V_aload_n hc dX8_init_13 rfl 0 rfl ?_
  refine V_iconst hc (v := (0 : Int32)) dX8_init_14 rfl ?_
  obtain ⟨S3, hS3, hf⟩ := mb hf
  refine C_puti hc rfl iW8 tyX8 tyX8_ok nmX8 (by decide) 1 (by decide) rfl hS3 w1_37 rfl rfl rfl dX8_init_15 ?_
  refine V_aload_n hc dX8_init_18 rfl 0 rfl ?_
  refine V_iconst hc (v := (0 : Int32)) dX8_init_19 rfl ?_
  obtain ⟨S4, hS4, hf⟩ := mb hf
  refine C_puti hc rfl iW8 tyX8 tyX8_ok nmX8 (by decide) 2 (by decide) rfl hS4 w1_39 rfl rfl rfl dX8_init_20 ?_
  refine V_aload_n hc dX8_init_23 rfl 0 rfl ?_
  refine V_iconst hc (v := (0 : Int32)) dX8_init_24 rfl ?_
  obtain ⟨S5, hS5, hf⟩ := mb hf
  refine C_puti hc rfl iW8 tyX8 tyX8_ok nmX8 (by decide) 3 (by decide) rfl hS5 w1_41 rfl rfl rfl dX8_init_25 ?_
  refine V_aload_n hc dX8_init_28 rfl 0 rfl ?_
  refine V_iconst hc (v := (0 : Int32)) dX8_init_29 rfl ?_
  obtain ⟨S6, hS6, hf⟩ := mb hf
  refine C_puti hc rfl iW8 tyX8 tyX8_ok nmX8 (by decide) 4 (by decide) rfl hS6 w1_43 rfl rfl rfl dX8_init_30 ?_
  refine V_aload_n hc dX8_init_33 rfl 0 rfl ?_
  refine V_iconst hc (v := (0 : Int32)) dX8_init_34 rfl ?_
  obtain ⟨S7, hS7, hf⟩ := mb hf
  refine C_puti hc rfl iW8 tyX8 tyX8_ok nmX8 (by decide) 5 (by decide) rfl hS7 w1_45 rfl rfl rfl dX8_init_35 ?_
  refine V_aload_n hc dX8_init_38 rfl 0 rfl ?_
  refine V_iconst hc (v := (0 : Int32)) dX8_init_39 rfl ?_
  obtain ⟨S8, hS8, hf⟩ := mb hf
  refine C_puti hc rfl iW8 tyX8 tyX8_ok nmX8 (by decide) 6 (by decide) rfl hS8 w1_47 rfl rfl rfl dX8_init_40 ?_
  refine V_aload_n hc dX8_init_43 rfl 0 rfl ?_
  refine V_sipush hc (v := (1600 : Int32)) dX8_init_44 rfl ?_
  obtain ⟨S9, hS9, hf⟩ := mb hf
  refine C_newi hc hz hS9 hX w1_82 dX8_init_47 ?_
  obtain ⟨S10, hS10, hf⟩ := mb hf
  refine C_putrF hc hnm rfl iW8 tyX8 tyX8_ok nmX8 (by decide) 7 (by decide) rfl hS10 w1_49 rfl rfl rfl rfl dX8_init_49 ?_
  refine V_aload_n hc dX8_init_52 rfl 0 rfl ?_
  refine V_iconst hc (v := (0 : Int32)) dX8_init_53 rfl ?_
  obtain ⟨S11, hS11, hf⟩ := mb hf
  refine C_puti hc rfl iW8 tyX8 tyX8_ok nmX8 (by decide) 8 (by decide) rfl hS11 w1_51 rfl rfl rfl dX8_init_54 ?_
  refine V_aload_n hc dX8_init_57 rfl 0 rfl ?_
  refine V_bipush hc (v := (60 : Int32)) dX8_init_58 rfl ?_
  obtain ⟨S12, hS12, hf⟩ := mb hf
  refine C_newi hc hz hS12 hX w1_82 dX8_init_60 ?_
  obtain ⟨S13, hS13, hf⟩ := mb hf
  refine C_putrF hc hnm rfl iW8 tyX8 tyX8_ok nmX8 (by decide) 9 (by decide) rfl hS13 w1_53 rfl rfl rfl rfl dX8_init_62 ?_
  refine V_aload_n hc dX8_init_65 rfl 0 rfl ?_
  refine V_sipush hc (v := (240 : Int32)) dX8_init_66 rfl ?_
  obtain ⟨S14, hS14, hf⟩ := mb hf
  refine C_newi hc hz hS14 hX w1_82 dX8_init_69 ?_
  obtain ⟨S15, hS15, hf⟩ := mb hf
  refine C_putrF hc hnm rfl iW8 tyX8 tyX8_ok nmX8 (by decide) 10 (by decide) rfl hS15 w1_55 rfl rfl rfl rfl dX8_init_71 ?_
  refine V_aload_n hc dX8_init_74 rfl 0 rfl ?_
  refine V_iconst hc (v := (0 : Int32)) dX8_init_75 rfl ?_
  obtain ⟨S16, hS16, hf⟩ := mb hf
  refine C_puti hc rfl iW8 tyX8 tyX8_ok nmX8 (by decide) 11 (by decide) rfl hS16 w1_56 rfl rfl rfl dX8_init_76 ?_
  obtain rfl := Option.some.inj hf
  exact V_vret hc hzz rfl rfl rfl rfl dX8_init_79
noncomputable def f8_hasRoom (S : CS) (h : Nat) (p1 : Int32) : Option (Int32) :=
  (gi S 8 h 1).bind fun v1 =>
  (gr S 8 h 0).bind fun a2 =>
  (aln S 14 a2).bind fun v3 =>
  (
    if v3 < (v1 + p1) then (
      some (0 : Int32)
    ) else (
      some (1 : Int32)
    )
  ).bind fun v4 =>
  (bz v4).bind fun v6 =>
  some v6
theorem hdX_X8_hasRoom : yX8_hasRoom.cls = "FarEditors$Told" ∧ yX8_hasRoom.cls ≠ "java/lang/invoke/MethodHandle" ∧ yX8_hasRoom.cls ≠ "java/lang/invoke/VarHandle" ∧ (parseMethodDescriptor yX8_hasRoom.desc).map (fun d => d.parameters.length) = some 1 := by decide +kernel
set_option maxHeartbeats 4000000 in
set_option maxRecDepth 100000 in
theorem c8_hasRoom (l : Launch) (D : va_G) (y : CyT) (zM uM : Nat) {S : CS} {h : Nat} {p1 : Int32} {r : Int32} (hf : f8_hasRoom S h p1 = some r) : CT l D y yX8_hasRoom cX8_hasRoom 2 (some .boolean) 0 0 zM uM [.ref h, .int p1] (cZ S) (cU S) (cw y S) (cZ S) (cU S) (cw y S) (some (.int r)) := by
  refine CT.of (by decide) (Nat.le_of_ble_eq_true rfl) (fun E hc hzz hnm => ?_)
  have hc : Cx E "FarEditors$Told" cX8_hasRoom 2 := hc
  have hz := hzz.1
  have hT := hz.2.2.1
  show V E (cZ S) (cU S) (cw y S) 0 [(0, .ref h), (1, .int p1)] []
  unfold f8_hasRoom at hf
  refine V_aload_n hc dX8_hasRoom_0 rfl 0 rfl ?_
  obtain ⟨v1, hv1, hf⟩ := mb hf
  refine C_geti hc rfl iW8 (by decide) 1 (by decide) rfl hv1 w1_37 dX8_hasRoom_1 ?_
  refine V_iload_n hc dX8_hasRoom_4 rfl 1 rfl ?_
  refine V_iadd hc dX8_hasRoom_5 ?_
  refine V_aload_n hc dX8_hasRoom_6 rfl 0 rfl ?_
  obtain ⟨a2, ha2, hf⟩ := mb hf
  refine C_getr hc rfl iW8 (by decide) 0 (by decide) rfl ha2 w1_35 dX8_hasRoom_7 ?_
  obtain ⟨v3, hv3, hf⟩ := mb hf
  refine C_alen hc hT hv3 dX8_hasRoom_10 ?_
  obtain ⟨v4, hv5, hf⟩ := mb hf
  have hJ11 : V E (cZ S) (cU S) (cw y S) 19 [] [.int v4] := by
    obtain ⟨v6, hv6, hf⟩ := mb hf
    obtain ⟨hbv6, rfl⟩ := bz_some hv6
    obtain rfl := Option.some.inj hf
    exact V_iret hc hzz (bz_nar hbv6) rfl rfl rfl rfl dX8_hasRoom_19
  refine V_icmp_gt hc dX8_hasRoom_11 rfl (fun hq11 => ?_) (fun hq11 => ?_)
  · rw [if_pos hq11] at hv5
    refine V_iconst hc (v := (0 : Int32)) dX8_hasRoom_18 rfl ?_
    obtain rfl := Option.some.inj hv5
    exact V_sub [] rfl hJ11
  · rw [if_neg hq11] at hv5
    refine V_iconst hc (v := (1 : Int32)) dX8_hasRoom_14 rfl ?_
    refine V_goto hc dX8_hasRoom_15 rfl ?_
    obtain rfl := Option.some.inj hv5
    exact V_sub [] rfl hJ11
noncomputable def LX8_addNumber_3 (h : Nat) (c1 : Int32) : Nat → Int32 → CS → Option (CS)
  | 0, _, _ => none
  | n + 1, i2, S =>
    if i2 < 0 then (
      some S
    ) else (
      (gi S 8 h 1).bind fun v1 =>
      (gr S 8 h 0).bind fun a2 =>
      (aln S 14 a2).bind fun v3 =>
      if v3 ≤ v1 then (
        some S
      ) else (
        (gr S 8 h 0).bind fun a4 =>
        (gi S 8 h 1).bind fun v5 =>
        (pi S 8 h 1 (v5 + (1 : Int32))).bind fun S6 =>
        (sti S6 a4 v5 ((c1 >>> (i2 &&& 31)) &&& (255 : Int32))).bind fun S7 =>
        LX8_addNumber_3 h c1 n (i2 + (-8 : Int32)) S7
      )
    )
noncomputable def f8_addNumber (S : CS) (h : Nat) (p1 : Int32) : Option (CS) :=
  (LX8_addNumber_3 h p1 FU (24 : Int32) S).bind fun S1 =>
  some S1
theorem hdX_X8_addNumber : yX8_addNumber.cls = "FarEditors$Told" ∧ yX8_addNumber.cls ≠ "java/lang/invoke/MethodHandle" ∧ yX8_addNumber.cls ≠ "java/lang/invoke/VarHandle" ∧ (parseMethodDescriptor yX8_addNumber.desc).map (fun d => d.parameters.length) = some 1 := by decide +kernel
set_option maxHeartbeats 4000000 in
set_option maxRecDepth 100000 in
theorem LX8_addNumber_3_ok {E : CxT} {l : Launch} {D : va_G} {y : CyT} {zM uM : Nat} (hc : Cx E "FarEditors$Told" cX8_addNumber 3) (h : Nat) (c1 : Int32) (hz : Cy E l D y 0 0 zM uM) : ∀ (n : Nat) (i2 : Int32) (S : CS) {So : CS}, LX8_addNumber_3 h c1 n i2 S = some So → (hx0 : V E (cZ So) (cU So) (cw y So) 48 [] []) → V E (cZ S) (cU S) (cw y S) 3 [(0, .ref h), (1, .int c1), (2, .int i2)] [] := by
  have hT := hz.2.2.1
  intro n
  induction n with
  | zero => intro i2 S So hf; cases hf
  | succ n ih =>
    intro i2 S So hf hx0
    unfold LX8_addNumber_3 at hf
    refine V_iload_n hc dX8_addNumber_3 rfl 2 rfl ?_
    refine V_if_lt hc dX8_addNumber_4 rfl (fun hq4 => ?_) (fun hq4 => ?_)
    · rw [if_pos hq4] at hf
      obtain rfl := Option.some.inj hf
      exact V_sub [] rfl hx0
    · rw [if_neg hq4] at hf
      refine V_aload_n hc dX8_addNumber_7 rfl 0 rfl ?_
      obtain ⟨v1, hv1, hf⟩ := mb hf
      refine C_geti hc rfl iW8 (by decide) 1 (by decide) rfl hv1 w1_37 dX8_addNumber_8 ?_
      refine V_aload_n hc dX8_addNumber_11 rfl 0 rfl ?_
      obtain ⟨a2, ha2, hf⟩ := mb hf
      refine C_getr hc rfl iW8 (by decide) 0 (by decide) rfl ha2 w1_35 dX8_addNumber_12 ?_
      obtain ⟨v3, hv3, hf⟩ := mb hf
      refine C_alen hc hT hv3 dX8_addNumber_15 ?_
      refine V_icmp_ge hc dX8_addNumber_16 rfl (fun hq16 => ?_) (fun hq16 => ?_)
      · rw [if_pos hq16] at hf
        obtain rfl := Option.some.inj hf
        exact V_sub [] rfl hx0
      · rw [if_neg hq16] at hf
        refine V_aload_n hc dX8_addNumber_19 rfl 0 rfl ?_
        obtain ⟨a4, ha4, hf⟩ := mb hf
        refine C_getr hc rfl iW8 (by decide) 0 (by decide) rfl ha4 w1_35 dX8_addNumber_20 ?_
        refine V_aload_n hc dX8_addNumber_23 rfl 0 rfl ?_
        refine V_dup hc dX8_addNumber_24 rfl ?_
        obtain ⟨v5, hv5, hf⟩ := mb hf
        refine C_geti hc rfl iW8 (by decide) 1 (by decide) rfl hv5 w1_37 dX8_addNumber_25 ?_
        refine V_dup_x1 hc dX8_addNumber_28 rfl rfl ?_
        refine V_iconst hc (v := (1 : Int32)) dX8_addNumber_29 rfl ?_
        refine V_iadd hc dX8_addNumber_30 ?_
        obtain ⟨S6, hS6, hf⟩ := mb hf
        refine C_puti hc rfl iW8 tyX8 tyX8_ok nmX8 (by decide) 1 (by decide) rfl hS6 w1_37 rfl rfl rfl dX8_addNumber_31 ?_
        refine V_iload_n hc dX8_addNumber_34 rfl 1 rfl ?_
        refine V_iload_n hc dX8_addNumber_35 rfl 2 rfl ?_
        refine V_ishr hc dX8_addNumber_36 ?_
        refine V_sipush hc (v := (255 : Int32)) dX8_addNumber_37 rfl ?_
        refine V_iand hc dX8_addNumber_40 ?_
        obtain ⟨S7, hS7, hf⟩ := mb hf
        refine C_iast hc hT hS7 dX8_addNumber_41 ?_
        refine V_iinc hc (j := 2) (v := (i2 + (-8 : Int32))) dX8_addNumber_42 rfl rfl (by decide) rfl ?_
        refine V_goto hc dX8_addNumber_45 rfl ?_
        exact V_sub [1, 2, 0] rfl (ih _ _ hf hx0)
set_option maxHeartbeats 4000000 in
set_option maxRecDepth 100000 in
theorem c8_addNumber (l : Launch) (D : va_G) (y : CyT) (zM uM : Nat) {S S' : CS} {h : Nat} {p1 : Int32} (hf : f8_addNumber S h p1 = some S') : CT l D y yX8_addNumber cX8_addNumber 3 none 0 0 zM uM [.ref h, .int p1] (cZ S) (cU S) (cw y S) (cZ S') (cU S') (cw y S') none := by
  refine CT.of (by decide) (Nat.le_of_ble_eq_true rfl) (fun E hc hzz hnm => ?_)
  have hc : Cx E "FarEditors$Told" cX8_addNumber 3 := hc
  have hz := hzz.1
  have hT := hz.2.2.1
  show V E (cZ S) (cU S) (cw y S) 0 [(0, .ref h), (1, .int p1)] []
  unfold f8_addNumber at hf
  refine V_bipush hc (v := (24 : Int32)) dX8_addNumber_0 rfl ?_
  refine V_istore_n hc dX8_addNumber_2 rfl (by decide) rfl ?_
  obtain ⟨S1, hv2, hf⟩ := mb hf
  refine V_sub [1, 2, 0] rfl (LX8_addNumber_3_ok hc h p1 hz FU _ _ hv2 ?_)
  obtain rfl := Option.some.inj hf
  exact V_vret hc hzz rfl rfl rfl rfl dX8_addNumber_48
noncomputable def f8_numberOf (S : CS) (h : Nat) (p1 : Int32) (p2 : Int32) : Option (Int32) :=
  (
    if (((4 : Int32) * p1) + p2) < 0 then (
      some (0 : Int32)
    ) else (
      (gr S 8 h 10).bind fun a3 =>
      (aln S 14 a3).bind fun v4 =>
      if v4 ≤ (((4 : Int32) * p1) + p2) then (
        some (0 : Int32)
      ) else (
        (gr S 8 h 10).bind fun a5 =>
        (ldi S a5 (((4 : Int32) * p1) + p2)).bind fun v6 =>
        some v6
      )
    )
  ).bind fun v1 =>
  some v1
theorem hdX_X8_numberOf : yX8_numberOf.cls = "FarEditors$Told" ∧ yX8_numberOf.cls ≠ "java/lang/invoke/MethodHandle" ∧ yX8_numberOf.cls ≠ "java/lang/invoke/VarHandle" ∧ (parseMethodDescriptor yX8_numberOf.desc).map (fun d => d.parameters.length) = some 2 := by decide +kernel
set_option maxHeartbeats 4000000 in
set_option maxRecDepth 100000 in
theorem c8_numberOf (l : Launch) (D : va_G) (y : CyT) (zM uM : Nat) {S : CS} {h : Nat} {p1 : Int32} {p2 : Int32} {r : Int32} (hf : f8_numberOf S h p1 p2 = some r) : CT l D y yX8_numberOf cX8_numberOf 4 (some .int) 0 0 zM uM [.ref h, .int p1, .int p2] (cZ S) (cU S) (cw y S) (cZ S) (cU S) (cw y S) (some (.int r)) := by
  refine CT.of (by decide) (Nat.le_of_ble_eq_true rfl) (fun E hc hzz hnm => ?_)
  have hc : Cx E "FarEditors$Told" cX8_numberOf 4 := hc
  have hz := hzz.1
  have hT := hz.2.2.1
  show V E (cZ S) (cU S) (cw y S) 0 [(0, .ref h), (1, .int p1), (2, .int p2)] []
  unfold f8_numberOf at hf
  refine V_iconst hc (v := (4 : Int32)) dX8_numberOf_0 rfl ?_
  refine V_iload_n hc dX8_numberOf_1 rfl 1 rfl ?_
  refine V_imul hc dX8_numberOf_2 ?_
  refine V_iload_n hc dX8_numberOf_3 rfl 2 rfl ?_
  refine V_iadd hc dX8_numberOf_4 ?_
  refine V_istore_n hc dX8_numberOf_5 rfl (by decide) rfl ?_
  refine V_iload_n hc dX8_numberOf_6 rfl 0 rfl ?_
  obtain ⟨v1, hv2, hf⟩ := mb hf
  have hJ7 : V E (cZ S) (cU S) (cw y S) 29 [] [.int v1] := by
    obtain rfl := Option.some.inj hf
    exact V_iret hc hzz rfl rfl rfl rfl rfl dX8_numberOf_29
  refine V_if_lt hc dX8_numberOf_7 rfl (fun hq7 => ?_) (fun hq7 => ?_)
  · rw [if_pos hq7] at hv2
    refine V_iconst hc (v := (0 : Int32)) dX8_numberOf_28 rfl ?_
    obtain rfl := Option.some.inj hv2
    exact V_sub [] rfl hJ7
  · rw [if_neg hq7] at hv2
    refine V_iload_n hc dX8_numberOf_10 rfl 0 rfl ?_
    refine V_aload_n hc dX8_numberOf_11 rfl 1 rfl ?_
    obtain ⟨a3, ha3, hv2⟩ := mb hv2
    refine C_getr hc rfl iW8 (by decide) 10 (by decide) rfl ha3 w1_55 dX8_numberOf_12 ?_
    obtain ⟨v4, hv4, hv2⟩ := mb hv2
    refine C_alen hc hT hv4 dX8_numberOf_15 ?_
    refine V_icmp_ge hc dX8_numberOf_16 rfl (fun hq16 => ?_) (fun hq16 => ?_)
    · rw [if_pos hq16] at hv2
      refine V_iconst hc (v := (0 : Int32)) dX8_numberOf_28 rfl ?_
      obtain rfl := Option.some.inj hv2
      exact V_sub [] rfl hJ7
    · rw [if_neg hq16] at hv2
      refine V_aload_n hc dX8_numberOf_19 rfl 1 rfl ?_
      obtain ⟨a5, ha5, hv2⟩ := mb hv2
      refine C_getr hc rfl iW8 (by decide) 10 (by decide) rfl ha5 w1_55 dX8_numberOf_20 ?_
      refine V_iload_n hc dX8_numberOf_23 rfl 0 rfl ?_
      obtain ⟨v6, hv6, hv2⟩ := mb hv2
      refine C_iald hc hT hv6 dX8_numberOf_24 ?_
      refine V_goto hc dX8_numberOf_25 rfl ?_
      obtain rfl := Option.some.inj hv2
      exact V_sub [] rfl hJ7
noncomputable def f8_open (S : CS) (h : Nat) : Option (CS) :=
  (pi S 8 h 11 (0 : Int32)).bind fun S1 =>
  (pi S1 8 h 2 (0 : Int32)).bind fun S2 =>
  (pi S2 8 h 4 (0 : Int32)).bind fun S3 =>
  (pi S3 8 h 8 (0 : Int32)).bind fun S4 =>
  some S4
theorem hdX_X8_open : yX8_open.cls = "FarEditors$Told" ∧ yX8_open.cls ≠ "java/lang/invoke/MethodHandle" ∧ yX8_open.cls ≠ "java/lang/invoke/VarHandle" ∧ (parseMethodDescriptor yX8_open.desc).map (fun d => d.parameters.length) = some 0 := by decide +kernel
set_option maxHeartbeats 4000000 in
set_option maxRecDepth 100000 in
theorem c8_open (l : Launch) (D : va_G) (y : CyT) (zM uM : Nat) {S S' : CS} {h : Nat} (hf : f8_open S h = some S') : CT l D y yX8_open cX8_open 1 none 0 0 zM uM [.ref h] (cZ S) (cU S) (cw y S) (cZ S') (cU S') (cw y S') none := by
  refine CT.of (by decide) (Nat.le_of_ble_eq_true rfl) (fun E hc hzz hnm => ?_)
  have hc : Cx E "FarEditors$Told" cX8_open 1 := hc
  have hz := hzz.1
  have hT := hz.2.2.1
  show V E (cZ S) (cU S) (cw y S) 0 [(0, .ref h)] []
  unfold f8_open at hf
  refine V_aload_n hc dX8_open_0 rfl 0 rfl ?_
  refine V_iconst hc (v := (0 : Int32)) dX8_open_1 rfl ?_
  obtain ⟨S1, hS1, hf⟩ := mb hf
  refine C_puti hc rfl iW8 tyX8 tyX8_ok nmX8 (by decide) 11 (by decide) rfl hS1 w1_56 rfl rfl rfl dX8_open_2 ?_
  refine V_aload_n hc dX8_open_5 rfl 0 rfl ?_
  refine V_iconst hc (v := (0 : Int32)) dX8_open_6 rfl ?_
  obtain ⟨S2, hS2, hf⟩ := mb hf
  refine C_puti hc rfl iW8 tyX8 tyX8_ok nmX8 (by decide) 2 (by decide) rfl hS2 w1_39 rfl rfl rfl dX8_open_7 ?_
  refine V_aload_n hc dX8_open_10 rfl 0 rfl ?_
  refine V_iconst hc (v := (0 : Int32)) dX8_open_11 rfl ?_
  obtain ⟨S3, hS3, hf⟩ := mb hf
  refine C_puti hc rfl iW8 tyX8 tyX8_ok nmX8 (by decide) 4 (by decide) rfl hS3 w1_43 rfl rfl rfl dX8_open_12 ?_
  refine V_aload_n hc dX8_open_15 rfl 0 rfl ?_
  refine V_iconst hc (v := (0 : Int32)) dX8_open_16 rfl ?_
  obtain ⟨S4, hS4, hf⟩ := mb hf
  refine C_puti hc rfl iW8 tyX8 tyX8_ok nmX8 (by decide) 8 (by decide) rfl hS4 w1_51 rfl rfl rfl dX8_open_17 ?_
  obtain rfl := Option.some.inj hf
  exact V_vret hc hzz rfl rfl rfl rfl dX8_open_20
noncomputable def LX8_skipBlanks_0 (h : Nat) : Nat → CS → Option (CS)
  | 0, _ => none
  | n + 1, S =>
    (gi S 8 h 11).bind fun v1 =>
    (gi S 8 h 1).bind fun v2 =>
    if v2 ≤ v1 then (
      some S
    ) else (
      (gr S 8 h 0).bind fun a3 =>
      (gi S 8 h 11).bind fun v4 =>
      (ldi S a3 v4).bind fun v5 =>
      if v5 = (10 : Int32) then (
        (gi S 8 h 11).bind fun v6 =>
        (pi S 8 h 11 (v6 + (1 : Int32))).bind fun S7 =>
        LX8_skipBlanks_0 h n S7
      ) else (
        (gr S 8 h 0).bind fun a8 =>
        (gi S 8 h 11).bind fun v9 =>
        (ldi S a8 v9).bind fun v10 =>
        if v10 = (32 : Int32) then (
          (gi S 8 h 11).bind fun v11 =>
          (pi S 8 h 11 (v11 + (1 : Int32))).bind fun S12 =>
          LX8_skipBlanks_0 h n S12
        ) else (
          some S
        )
      )
    )
noncomputable def f8_skipBlanks (S : CS) (h : Nat) : Option (CS) :=
  (LX8_skipBlanks_0 h FU S).bind fun S1 =>
  some S1
theorem hdX_X8_skipBlanks : yX8_skipBlanks.cls = "FarEditors$Told" ∧ yX8_skipBlanks.cls ≠ "java/lang/invoke/MethodHandle" ∧ yX8_skipBlanks.cls ≠ "java/lang/invoke/VarHandle" ∧ (parseMethodDescriptor yX8_skipBlanks.desc).map (fun d => d.parameters.length) = some 0 := by decide +kernel
set_option maxHeartbeats 4000000 in
set_option maxRecDepth 100000 in
theorem LX8_skipBlanks_0_ok {E : CxT} {l : Launch} {D : va_G} {y : CyT} {zM uM : Nat} (hc : Cx E "FarEditors$Told" cX8_skipBlanks 1) (h : Nat) (hz : Cy E l D y 0 0 zM uM) : ∀ (n : Nat) (S : CS) {So : CS}, LX8_skipBlanks_0 h n S = some So → (hx0 : V E (cZ So) (cU So) (cw y So) 52 [] []) → V E (cZ S) (cU S) (cw y S) 0 [(0, .ref h)] [] := by
  have hT := hz.2.2.1
  intro n
  induction n with
  | zero => intro S So hf; cases hf
  | succ n ih =>
    intro S So hf hx0
    unfold LX8_skipBlanks_0 at hf
    refine V_aload_n hc dX8_skipBlanks_0 rfl 0 rfl ?_
    obtain ⟨v1, hv1, hf⟩ := mb hf
    refine C_geti hc rfl iW8 (by decide) 11 (by decide) rfl hv1 w1_56 dX8_skipBlanks_1 ?_
    refine V_aload_n hc dX8_skipBlanks_4 rfl 0 rfl ?_
    obtain ⟨v2, hv2, hf⟩ := mb hf
    refine C_geti hc rfl iW8 (by decide) 1 (by decide) rfl hv2 w1_37 dX8_skipBlanks_5 ?_
    refine V_icmp_ge hc dX8_skipBlanks_8 rfl (fun hq8 => ?_) (fun hq8 => ?_)
    · rw [if_pos hq8] at hf
      obtain rfl := Option.some.inj hf
      exact V_sub [] rfl hx0
    · rw [if_neg hq8] at hf
      refine V_aload_n hc dX8_skipBlanks_11 rfl 0 rfl ?_
      obtain ⟨a3, ha3, hf⟩ := mb hf
      refine C_getr hc rfl iW8 (by decide) 0 (by decide) rfl ha3 w1_35 dX8_skipBlanks_12 ?_
      refine V_aload_n hc dX8_skipBlanks_15 rfl 0 rfl ?_
      obtain ⟨v4, hv4, hf⟩ := mb hf
      refine C_geti hc rfl iW8 (by decide) 11 (by decide) rfl hv4 w1_56 dX8_skipBlanks_16 ?_
      obtain ⟨v5, hv5, hf⟩ := mb hf
      refine C_iald hc hT hv5 dX8_skipBlanks_19 ?_
      refine V_bipush hc (v := (10 : Int32)) dX8_skipBlanks_20 rfl ?_
      refine V_icmp_eq hc dX8_skipBlanks_22 rfl (fun hq22 => ?_) (fun hq22 => ?_)
      · rw [if_pos hq22] at hf
        refine V_aload_n hc dX8_skipBlanks_39 rfl 0 rfl ?_
        refine V_dup hc dX8_skipBlanks_40 rfl ?_
        obtain ⟨v6, hv6, hf⟩ := mb hf
        refine C_geti hc rfl iW8 (by decide) 11 (by decide) rfl hv6 w1_56 dX8_skipBlanks_41 ?_
        refine V_iconst hc (v := (1 : Int32)) dX8_skipBlanks_44 rfl ?_
        refine V_iadd hc dX8_skipBlanks_45 ?_
        obtain ⟨S7, hS7, hf⟩ := mb hf
        refine C_puti hc rfl iW8 tyX8 tyX8_ok nmX8 (by decide) 11 (by decide) rfl hS7 w1_56 rfl rfl rfl dX8_skipBlanks_46 ?_
        refine V_goto hc dX8_skipBlanks_49 rfl ?_
        exact V_sub [0] rfl (ih _ hf hx0)
      · rw [if_neg hq22] at hf
        refine V_aload_n hc dX8_skipBlanks_25 rfl 0 rfl ?_
        obtain ⟨a8, ha8, hf⟩ := mb hf
        refine C_getr hc rfl iW8 (by decide) 0 (by decide) rfl ha8 w1_35 dX8_skipBlanks_26 ?_
        refine V_aload_n hc dX8_skipBlanks_29 rfl 0 rfl ?_
        obtain ⟨v9, hv9, hf⟩ := mb hf
        refine C_geti hc rfl iW8 (by decide) 11 (by decide) rfl hv9 w1_56 dX8_skipBlanks_30 ?_
        obtain ⟨v10, hv10, hf⟩ := mb hf
        refine C_iald hc hT hv10 dX8_skipBlanks_33 ?_
        refine V_bipush hc (v := (32 : Int32)) dX8_skipBlanks_34 rfl ?_
        refine V_icmp_ne hc dX8_skipBlanks_36 rfl (fun hq36 => ?_) (fun hq36 => ?_)
        · rw [if_neg hq36] at hf
          obtain rfl := Option.some.inj hf
          exact V_sub [] rfl hx0
        · rw [if_pos hq36] at hf
          refine V_aload_n hc dX8_skipBlanks_39 rfl 0 rfl ?_
          refine V_dup hc dX8_skipBlanks_40 rfl ?_
          obtain ⟨v11, hv11, hf⟩ := mb hf
          refine C_geti hc rfl iW8 (by decide) 11 (by decide) rfl hv11 w1_56 dX8_skipBlanks_41 ?_
          refine V_iconst hc (v := (1 : Int32)) dX8_skipBlanks_44 rfl ?_
          refine V_iadd hc dX8_skipBlanks_45 ?_
          obtain ⟨S12, hS12, hf⟩ := mb hf
          refine C_puti hc rfl iW8 tyX8 tyX8_ok nmX8 (by decide) 11 (by decide) rfl hS12 w1_56 rfl rfl rfl dX8_skipBlanks_46 ?_
          refine V_goto hc dX8_skipBlanks_49 rfl ?_
          exact V_sub [0] rfl (ih _ hf hx0)
set_option maxHeartbeats 4000000 in
set_option maxRecDepth 100000 in
theorem c8_skipBlanks (l : Launch) (D : va_G) (y : CyT) (zM uM : Nat) {S S' : CS} {h : Nat} (hf : f8_skipBlanks S h = some S') : CT l D y yX8_skipBlanks cX8_skipBlanks 1 none 0 0 zM uM [.ref h] (cZ S) (cU S) (cw y S) (cZ S') (cU S') (cw y S') none := by
  refine CT.of (by decide) (Nat.le_of_ble_eq_true rfl) (fun E hc hzz hnm => ?_)
  have hc : Cx E "FarEditors$Told" cX8_skipBlanks 1 := hc
  have hz := hzz.1
  have hT := hz.2.2.1
  show V E (cZ S) (cU S) (cw y S) 0 [(0, .ref h)] []
  unfold f8_skipBlanks at hf
  obtain ⟨S1, hv2, hf⟩ := mb hf
  refine V_sub [0] rfl (LX8_skipBlanks_0_ok hc h hz FU _ hv2 ?_)
  obtain rfl := Option.some.inj hf
  exact V_vret hc hzz rfl rfl rfl rfl dX8_skipBlanks_52
noncomputable def f8_isAtLetter (S : CS) (h : Nat) : Option (Int32) :=
  (gi S 8 h 11).bind fun v1 =>
  (gi S 8 h 1).bind fun v2 =>
  (
    if v2 ≤ v1 then (
      some (0 : Int32)
    ) else (
      (gr S 8 h 0).bind fun a5 =>
      (gi S 8 h 11).bind fun v6 =>
      (ldi S a5 v6).bind fun v7 =>
      if v7 < (97 : Int32) then (
        some (0 : Int32)
      ) else (
        (gr S 8 h 0).bind fun a8 =>
        (gi S 8 h 11).bind fun v9 =>
        (ldi S a8 v9).bind fun v10 =>
        if (122 : Int32) < v10 then (
          some (0 : Int32)
        ) else (
          some (1 : Int32)
        )
      )
    )
  ).bind fun v3 =>
  (bz v3).bind fun v11 =>
  some v11
theorem hdX_X8_isAtLetter : yX8_isAtLetter.cls = "FarEditors$Told" ∧ yX8_isAtLetter.cls ≠ "java/lang/invoke/MethodHandle" ∧ yX8_isAtLetter.cls ≠ "java/lang/invoke/VarHandle" ∧ (parseMethodDescriptor yX8_isAtLetter.desc).map (fun d => d.parameters.length) = some 0 := by decide +kernel
set_option maxHeartbeats 4000000 in
set_option maxRecDepth 100000 in
theorem c8_isAtLetter (l : Launch) (D : va_G) (y : CyT) (zM uM : Nat) {S : CS} {h : Nat} {r : Int32} (hf : f8_isAtLetter S h = some r) : CT l D y yX8_isAtLetter cX8_isAtLetter 1 (some .boolean) 0 0 zM uM [.ref h] (cZ S) (cU S) (cw y S) (cZ S) (cU S) (cw y S) (some (.int r)) := by
  refine CT.of (by decide) (Nat.le_of_ble_eq_true rfl) (fun E hc hzz hnm => ?_)
  have hc : Cx E "FarEditors$Told" cX8_isAtLetter 1 := hc
  have hz := hzz.1
  have hT := hz.2.2.1
  show V E (cZ S) (cU S) (cw y S) 0 [(0, .ref h)] []
  unfold f8_isAtLetter at hf
  refine V_aload_n hc dX8_isAtLetter_0 rfl 0 rfl ?_
  obtain ⟨v1, hv1, hf⟩ := mb hf
  refine C_geti hc rfl iW8 (by decide) 11 (by decide) rfl hv1 w1_56 dX8_isAtLetter_1 ?_
  refine V_aload_n hc dX8_isAtLetter_4 rfl 0 rfl ?_
  obtain ⟨v2, hv2, hf⟩ := mb hf
  refine C_geti hc rfl iW8 (by decide) 1 (by decide) rfl hv2 w1_37 dX8_isAtLetter_5 ?_
  obtain ⟨v3, hv4, hf⟩ := mb hf
  have hJ8 : V E (cZ S) (cU S) (cw y S) 44 [] [.int v3] := by
    obtain ⟨v11, hv11, hf⟩ := mb hf
    obtain ⟨hbv11, rfl⟩ := bz_some hv11
    obtain rfl := Option.some.inj hf
    exact V_iret hc hzz (bz_nar hbv11) rfl rfl rfl rfl dX8_isAtLetter_44
  refine V_icmp_ge hc dX8_isAtLetter_8 rfl (fun hq8 => ?_) (fun hq8 => ?_)
  · rw [if_pos hq8] at hv4
    refine V_iconst hc (v := (0 : Int32)) dX8_isAtLetter_43 rfl ?_
    obtain rfl := Option.some.inj hv4
    exact V_sub [] rfl hJ8
  · rw [if_neg hq8] at hv4
    refine V_aload_n hc dX8_isAtLetter_11 rfl 0 rfl ?_
    obtain ⟨a5, ha5, hv4⟩ := mb hv4
    refine C_getr hc rfl iW8 (by decide) 0 (by decide) rfl ha5 w1_35 dX8_isAtLetter_12 ?_
    refine V_aload_n hc dX8_isAtLetter_15 rfl 0 rfl ?_
    obtain ⟨v6, hv6, hv4⟩ := mb hv4
    refine C_geti hc rfl iW8 (by decide) 11 (by decide) rfl hv6 w1_56 dX8_isAtLetter_16 ?_
    obtain ⟨v7, hv7, hv4⟩ := mb hv4
    refine C_iald hc hT hv7 dX8_isAtLetter_19 ?_
    refine V_bipush hc (v := (97 : Int32)) dX8_isAtLetter_20 rfl ?_
    refine V_icmp_lt hc dX8_isAtLetter_22 rfl (fun hq22 => ?_) (fun hq22 => ?_)
    · rw [if_pos hq22] at hv4
      refine V_iconst hc (v := (0 : Int32)) dX8_isAtLetter_43 rfl ?_
      obtain rfl := Option.some.inj hv4
      exact V_sub [] rfl hJ8
    · rw [if_neg hq22] at hv4
      refine V_aload_n hc dX8_isAtLetter_25 rfl 0 rfl ?_
      obtain ⟨a8, ha8, hv4⟩ := mb hv4
      refine C_getr hc rfl iW8 (by decide) 0 (by decide) rfl ha8 w1_35 dX8_isAtLetter_26 ?_
      refine V_aload_n hc dX8_isAtLetter_29 rfl 0 rfl ?_
      obtain ⟨v9, hv9, hv4⟩ := mb hv4
      refine C_geti hc rfl iW8 (by decide) 11 (by decide) rfl hv9 w1_56 dX8_isAtLetter_30 ?_
      obtain ⟨v10, hv10, hv4⟩ := mb hv4
      refine C_iald hc hT hv10 dX8_isAtLetter_33 ?_
      refine V_bipush hc (v := (122 : Int32)) dX8_isAtLetter_34 rfl ?_
      refine V_icmp_gt hc dX8_isAtLetter_36 rfl (fun hq36 => ?_) (fun hq36 => ?_)
      · rw [if_pos hq36] at hv4
        refine V_iconst hc (v := (0 : Int32)) dX8_isAtLetter_43 rfl ?_
        obtain rfl := Option.some.inj hv4
        exact V_sub [] rfl hJ8
      · rw [if_neg hq36] at hv4
        refine V_iconst hc (v := (1 : Int32)) dX8_isAtLetter_39 rfl ?_
        refine V_goto hc dX8_isAtLetter_40 rfl ?_
        obtain rfl := Option.some.inj hv4
        exact V_sub [] rfl hJ8
noncomputable def f8_nameOf (p1 : Int32) : Option (Nat) :=
  if p1 = (0 : Int32) then (
    some 0
  ) else (
    if p1 = (1 : Int32) then (
      some 1
    ) else (
      if p1 = (2 : Int32) then (
        some 2
      ) else (
        if p1 = (3 : Int32) then (
          some 3
        ) else (
          if p1 = (4 : Int32) then (
            some 4
          ) else (
            if p1 = (5 : Int32) then (
              some 5
            ) else (
              if p1 = (6 : Int32) then (
                some 6
              ) else (
                if p1 = (7 : Int32) then (
                  some 7
                ) else (
                  if p1 = (8 : Int32) then (
                    some 8
                  ) else (
                    some 9
                  )
                )
              )
            )
          )
        )
      )
    )
  )
theorem hdX_X8_nameOf : yX8_nameOf.cls = "FarEditors$Told" ∧ yX8_nameOf.cls ≠ "java/lang/invoke/MethodHandle" ∧ yX8_nameOf.cls ≠ "java/lang/invoke/VarHandle" ∧ (parseMethodDescriptor yX8_nameOf.desc).map (fun d => d.parameters.length) = some 1 := by decide +kernel
theorem n8_nameOf {p : Int32} {q : Nat} (hf : f8_nameOf p = some q) : q < 10 := by
  unfold f8_nameOf at hf
  repeat (split at hf; · cases hf; decide)
  cases hf; decide
set_option maxHeartbeats 4000000 in
set_option maxRecDepth 100000 in
theorem c8_nameOf (l : Launch) (D : va_G) (y : CyT) (zM uM : Nat) {S : CS} {p1 : Int32} {r : Nat} (hf : f8_nameOf p1 = some r) : CT l D y yX8_nameOf cX8_nameOf 1 (some (.object "java/lang/String")) 0 0 zM uM [.int p1] (cZ S) (cU S) (cw y S) (cZ S) (cU S) (cw y S) (some (.ref (aK y r))) := by
  refine CT.of (by decide) (Nat.le_of_ble_eq_true rfl) (fun E hc hzz hnm => ?_)
  have hc : Cx E "FarEditors$Told" cX8_nameOf 1 := hc
  have hz := hzz.1
  have hT := hz.2.2.1
  show V E (cZ S) (cU S) (cw y S) 0 [(0, .int p1)] []
  unfold f8_nameOf at hf
  refine V_iload_n hc dX8_nameOf_0 rfl 0 rfl ?_
  by_cases hs1_0 : p1 = (0 : Int32)
  · rw [if_pos hs1_0] at hf
    refine V_tableIn hc dX8_nameOf_1 (by rw [hs1_0]; decide) (by rw [hs1_0]; decide) (off := 51) (by rw [hs1_0]; rfl) rfl ?_
    refine V_ldcS hc (i := 0) (by decide) rfl dX8_nameOf_52 ?_
    rw [hT]
    obtain rfl := Option.some.inj hf
    exact V_aret hc hzz (Or.inl ⟨_, rfl⟩) rfl rfl rfl rfl dX8_nameOf_54
  rw [if_neg hs1_0] at hf
  by_cases hs1_1 : p1 = (1 : Int32)
  · rw [if_pos hs1_1] at hf
    refine V_tableIn hc dX8_nameOf_1 (by rw [hs1_1]; decide) (by rw [hs1_1]; decide) (off := 54) (by rw [hs1_1]; rfl) rfl ?_
    refine V_ldcS hc (i := 1) (by decide) rfl dX8_nameOf_55 ?_
    rw [hT]
    obtain rfl := Option.some.inj hf
    exact V_aret hc hzz (Or.inl ⟨_, rfl⟩) rfl rfl rfl rfl dX8_nameOf_57
  rw [if_neg hs1_1] at hf
  by_cases hs1_2 : p1 = (2 : Int32)
  · rw [if_pos hs1_2] at hf
    refine V_tableIn hc dX8_nameOf_1 (by rw [hs1_2]; decide) (by rw [hs1_2]; decide) (off := 57) (by rw [hs1_2]; rfl) rfl ?_
    refine V_ldcS hc (i := 2) (by decide) rfl dX8_nameOf_58 ?_
    rw [hT]
    obtain rfl := Option.some.inj hf
    exact V_aret hc hzz (Or.inl ⟨_, rfl⟩) rfl rfl rfl rfl dX8_nameOf_60
  rw [if_neg hs1_2] at hf
  by_cases hs1_3 : p1 = (3 : Int32)
  · rw [if_pos hs1_3] at hf
    refine V_tableIn hc dX8_nameOf_1 (by rw [hs1_3]; decide) (by rw [hs1_3]; decide) (off := 60) (by rw [hs1_3]; rfl) rfl ?_
    refine V_ldcS hc (i := 3) (by decide) rfl dX8_nameOf_61 ?_
    rw [hT]
    obtain rfl := Option.some.inj hf
    exact V_aret hc hzz (Or.inl ⟨_, rfl⟩) rfl rfl rfl rfl dX8_nameOf_63
  rw [if_neg hs1_3] at hf
  by_cases hs1_4 : p1 = (4 : Int32)
  · rw [if_pos hs1_4] at hf
    refine V_tableIn hc dX8_nameOf_1 (by rw [hs1_4]; decide) (by rw [hs1_4]; decide) (off := 63) (by rw [hs1_4]; rfl) rfl ?_
    refine V_ldcS hc (i := 4) (by decide) rfl dX8_nameOf_64 ?_
    rw [hT]
    obtain rfl := Option.some.inj hf
    exact V_aret hc hzz (Or.inl ⟨_, rfl⟩) rfl rfl rfl rfl dX8_nameOf_66
  rw [if_neg hs1_4] at hf
  by_cases hs1_5 : p1 = (5 : Int32)
  · rw [if_pos hs1_5] at hf
    refine V_tableIn hc dX8_nameOf_1 (by rw [hs1_5]; decide) (by rw [hs1_5]; decide) (off := 66) (by rw [hs1_5]; rfl) rfl ?_
    refine V_ldcS hc (i := 5) (by decide) rfl dX8_nameOf_67 ?_
    rw [hT]
    obtain rfl := Option.some.inj hf
    exact V_aret hc hzz (Or.inl ⟨_, rfl⟩) rfl rfl rfl rfl dX8_nameOf_69
  rw [if_neg hs1_5] at hf
  by_cases hs1_6 : p1 = (6 : Int32)
  · rw [if_pos hs1_6] at hf
    refine V_tableIn hc dX8_nameOf_1 (by rw [hs1_6]; decide) (by rw [hs1_6]; decide) (off := 69) (by rw [hs1_6]; rfl) rfl ?_
    refine V_ldcS hc (i := 6) (by decide) rfl dX8_nameOf_70 ?_
    rw [hT]
    obtain rfl := Option.some.inj hf
    exact V_aret hc hzz (Or.inl ⟨_, rfl⟩) rfl rfl rfl rfl dX8_nameOf_72
  rw [if_neg hs1_6] at hf
  by_cases hs1_7 : p1 = (7 : Int32)
  · rw [if_pos hs1_7] at hf
    refine V_tableIn hc dX8_nameOf_1 (by rw [hs1_7]; decide) (by rw [hs1_7]; decide) (off := 72) (by rw [hs1_7]; rfl) rfl ?_
    refine V_ldcS hc (i := 7) (by decide) rfl dX8_nameOf_73 ?_
    rw [hT]
    obtain rfl := Option.some.inj hf
    exact V_aret hc hzz (Or.inl ⟨_, rfl⟩) rfl rfl rfl rfl dX8_nameOf_75
  rw [if_neg hs1_7] at hf
  by_cases hs1_8 : p1 = (8 : Int32)
  · rw [if_pos hs1_8] at hf
    refine V_tableIn hc dX8_nameOf_1 (by rw [hs1_8]; decide) (by rw [hs1_8]; decide) (off := 75) (by rw [hs1_8]; rfl) rfl ?_
    refine V_ldcS hc (i := 8) (by decide) rfl dX8_nameOf_76 ?_
    rw [hT]
    obtain rfl := Option.some.inj hf
    exact V_aret hc hzz (Or.inl ⟨_, rfl⟩) rfl rfl rfl rfl dX8_nameOf_78
  rw [if_neg hs1_8] at hf
  have hto : p1.toInt < 0 ∨ 8 < p1.toInt := by
    have ht0 : ¬ p1.toInt = 0 := fun hh => hs1_0 (Int32.toInt_inj.mp (hh.trans rfl))
    have ht1 : ¬ p1.toInt = 1 := fun hh => hs1_1 (Int32.toInt_inj.mp (hh.trans rfl))
    have ht2 : ¬ p1.toInt = 2 := fun hh => hs1_2 (Int32.toInt_inj.mp (hh.trans rfl))
    have ht3 : ¬ p1.toInt = 3 := fun hh => hs1_3 (Int32.toInt_inj.mp (hh.trans rfl))
    have ht4 : ¬ p1.toInt = 4 := fun hh => hs1_4 (Int32.toInt_inj.mp (hh.trans rfl))
    have ht5 : ¬ p1.toInt = 5 := fun hh => hs1_5 (Int32.toInt_inj.mp (hh.trans rfl))
    have ht6 : ¬ p1.toInt = 6 := fun hh => hs1_6 (Int32.toInt_inj.mp (hh.trans rfl))
    have ht7 : ¬ p1.toInt = 7 := fun hh => hs1_7 (Int32.toInt_inj.mp (hh.trans rfl))
    have ht8 : ¬ p1.toInt = 8 := fun hh => hs1_8 (Int32.toInt_inj.mp (hh.trans rfl))
    omega
  refine V_tableOut hc dX8_nameOf_1 hto rfl ?_
  refine V_ldcS hc (i := 9) (by decide) rfl dX8_nameOf_79 ?_
  rw [hT]
  obtain rfl := Option.some.inj hf
  exact V_aret hc hzz (Or.inl ⟨_, rfl⟩) rfl rfl rfl rfl dX8_nameOf_81
noncomputable def LX8_isWord_22 (h : Nat) (s1 : Nat) (c2 : Int32) (S : CS) : Nat → Int32 → Int32 → Option (Int32)
  | 0, _, _ => none
  | n + 1, i3, i4 =>
    if (sl s1) ≤ i4 then (
      some i3
    ) else (
      if i3 = 0 then (
        some i3
      ) else (
        (gr S 8 h 0).bind fun a1 =>
        (ldi S a1 (c2 + i4)).bind fun v2 =>
        (sch s1 i4).bind fun v3 =>
        (
          if v2 = v3 then (
            some (1 : Int32)
          ) else (
            some (0 : Int32)
          )
        ).bind fun v4 =>
        LX8_isWord_22 h s1 c2 S n v4 (i4 + (1 : Int32))
      )
    )
noncomputable def f8_isWord (S : CS) (h : Nat) (p1 : Nat) (p2 : Int32) : Option (Int32) :=
  (gi S 8 h 11).bind fun v1 =>
  (
    if (sl p1) = (v1 - p2) then (
      some (1 : Int32)
    ) else (
      some (0 : Int32)
    )
  ).bind fun v2 =>
  (LX8_isWord_22 h p1 p2 S FU v2 (0 : Int32)).bind fun x4 =>
  (bz x4).bind fun v6 =>
  some v6
theorem hdX_X8_isWord : yX8_isWord.cls = "FarEditors$Told" ∧ yX8_isWord.cls ≠ "java/lang/invoke/MethodHandle" ∧ yX8_isWord.cls ≠ "java/lang/invoke/VarHandle" ∧ (parseMethodDescriptor yX8_isWord.desc).map (fun d => d.parameters.length) = some 2 := by decide +kernel
set_option maxHeartbeats 4000000 in
set_option maxRecDepth 100000 in
theorem LX8_isWord_22_ok {E : CxT} {l : Launch} {D : va_G} {y : CyT} {zM uM : Nat} (hc : Cx E "FarEditors$Told" cX8_isWord 5) (h : Nat) (s1 : Nat) (c2 : Int32) (S : CS) (hz : Cy E l D y 4 85 zM uM) (hs1 : s1 < 10) : ∀ (n : Nat) (i3 : Int32) (i4 : Int32) {o3 : Int32}, LX8_isWord_22 h s1 c2 S n i3 i4 = some o3 → (hx0 : V E (cZ S) (cU S) (cw y S) 65 [(3, .int o3)] []) → V E (cZ S) (cU S) (cw y S) 22 [(0, .ref h), (1, .ref (aK y s1)), (2, .int c2), (3, .int i3), (4, .int i4)] [] := by
  have hT := hz.2.2.1
  intro n
  induction n with
  | zero => intro i3 i4 o3 hf; cases hf
  | succ n ih =>
    intro i3 i4 o3 hf hx0
    unfold LX8_isWord_22 at hf
    refine V_iload hc dX8_isWord_22 4 rfl ?_
    refine V_aload_n hc dX8_isWord_24 rfl 1 rfl ?_
    refine V_callVS hc hz (As := []) hs1 (cS_l l D y _ _ _ _ _ hs1) w3_65 w3_66 w3_67 w1_14 w3_68 hdS_l ⟨(Nat.le_of_ble_eq_true rfl), (Nat.le_of_ble_eq_true rfl)⟩ rfl rfl (Nat.le_of_ble_eq_true rfl) dX8_isWord_25 ?_
    refine V_icmp_ge hc dX8_isWord_28 rfl (fun hq28 => ?_) (fun hq28 => ?_)
    · rw [if_pos hq28] at hf
      obtain rfl := Option.some.inj hf
      exact V_sub [3] rfl hx0
    · rw [if_neg hq28] at hf
      refine V_iload_n hc dX8_isWord_31 rfl 3 rfl ?_
      refine V_if_eq hc dX8_isWord_32 rfl (fun hq32 => ?_) (fun hq32 => ?_)
      · rw [if_pos hq32] at hf
        obtain rfl := Option.some.inj hf
        exact V_sub [3] rfl hx0
      · rw [if_neg hq32] at hf
        refine V_aload_n hc dX8_isWord_35 rfl 0 rfl ?_
        obtain ⟨a1, ha1, hf⟩ := mb hf
        refine C_getr hc rfl iW8 (by decide) 0 (by decide) rfl ha1 w1_35 dX8_isWord_36 ?_
        refine V_iload_n hc dX8_isWord_39 rfl 2 rfl ?_
        refine V_iload hc dX8_isWord_40 4 rfl ?_
        refine V_iadd hc dX8_isWord_42 ?_
        obtain ⟨v2, hv2, hf⟩ := mb hf
        refine C_iald hc hT hv2 dX8_isWord_43 ?_
        refine V_aload_n hc dX8_isWord_44 rfl 1 rfl ?_
        refine V_iload hc dX8_isWord_45 4 rfl ?_
        obtain ⟨v3, hv3, hf⟩ := mb hf
        refine V_callVS hc hz (As := [.int i4]) hs1 (cS_a l D y _ _ _ _ _ hs1 hv3) w3_75 w3_76 w3_77 w1_14 w3_78 hdS_a ⟨(Nat.le_of_ble_eq_true rfl), (Nat.le_of_ble_eq_true rfl)⟩ rfl rfl (Nat.le_of_ble_eq_true rfl) dX8_isWord_47 ?_
        obtain ⟨v4, hv5, hf⟩ := mb hf
        have hJ50 : V E (cZ S) (cU S) (cw y S) 58 [(0, .ref h), (1, .ref (aK y s1)), (2, .int c2), (4, .int i4)] [.int v4] := by
          refine V_istore_n hc dX8_isWord_58 rfl (by decide) rfl ?_
          refine V_iinc hc (j := 4) (v := (i4 + (1 : Int32))) dX8_isWord_59 rfl rfl (by decide) rfl ?_
          refine V_goto hc dX8_isWord_62 rfl ?_
          exact V_sub [2, 3, 4, 1, 0] rfl (ih _ _ hf hx0)
        refine V_icmp_ne hc dX8_isWord_50 rfl (fun hq50 => ?_) (fun hq50 => ?_)
        · rw [if_neg hq50] at hv5
          refine V_iconst hc (v := (0 : Int32)) dX8_isWord_57 rfl ?_
          obtain rfl := Option.some.inj hv5
          exact V_sub [0, 1, 2, 4] rfl hJ50
        · rw [if_pos hq50] at hv5
          refine V_iconst hc (v := (1 : Int32)) dX8_isWord_53 rfl ?_
          refine V_goto hc dX8_isWord_54 rfl ?_
          obtain rfl := Option.some.inj hv5
          exact V_sub [0, 1, 2, 4] rfl hJ50
set_option maxHeartbeats 4000000 in
set_option maxRecDepth 100000 in
theorem c8_isWord (l : Launch) (D : va_G) (y : CyT) (zM uM : Nat) {S : CS} {h : Nat} {p1 : Nat} {p2 : Int32} {r : Int32} (hp1 : p1 < 10) (hf : f8_isWord S h p1 p2 = some r) : CT l D y yX8_isWord cX8_isWord 5 (some .boolean) 4 85 zM uM [.ref h, .ref (aK y p1), .int p2] (cZ S) (cU S) (cw y S) (cZ S) (cU S) (cw y S) (some (.int r)) := by
  refine CT.of (by decide) (Nat.le_of_ble_eq_true rfl) (fun E hc hzz hnm => ?_)
  have hc : Cx E "FarEditors$Told" cX8_isWord 5 := hc
  have hz := hzz.1
  have hT := hz.2.2.1
  show V E (cZ S) (cU S) (cw y S) 0 [(0, .ref h), (1, .ref (aK y p1)), (2, .int p2)] []
  unfold f8_isWord at hf
  refine V_aload_n hc dX8_isWord_0 rfl 1 rfl ?_
  refine V_callVS hc hz (As := []) hp1 (cS_l l D y _ _ _ _ _ hp1) w3_65 w3_66 w3_67 w1_14 w3_68 hdS_l ⟨(Nat.le_of_ble_eq_true rfl), (Nat.le_of_ble_eq_true rfl)⟩ rfl rfl (Nat.le_of_ble_eq_true rfl) dX8_isWord_1 ?_
  refine V_aload_n hc dX8_isWord_4 rfl 0 rfl ?_
  obtain ⟨v1, hv1, hf⟩ := mb hf
  refine C_geti hc rfl iW8 (by decide) 11 (by decide) rfl hv1 w1_56 dX8_isWord_5 ?_
  refine V_iload_n hc dX8_isWord_8 rfl 2 rfl ?_
  refine V_isub hc dX8_isWord_9 ?_
  obtain ⟨v2, hv3, hf⟩ := mb hf
  have hJ10 : V E (cZ S) (cU S) (cw y S) 18 [(0, .ref h), (1, .ref (aK y p1)), (2, .int p2)] [.int v2] := by
    refine V_istore_n hc dX8_isWord_18 rfl (by decide) rfl ?_
    refine V_iconst hc (v := (0 : Int32)) dX8_isWord_19 rfl ?_
    refine V_istore hc dX8_isWord_20 (by decide) rfl ?_
    obtain ⟨x4, hv5, hf⟩ := mb hf
    refine V_sub [2, 3, 4, 1, 0] rfl (LX8_isWord_22_ok hc h p1 p2 S hz hp1 FU _ _ hv5 ?_)
    refine V_iload_n hc dX8_isWord_65 rfl 0 rfl ?_
    obtain ⟨v6, hv6, hf⟩ := mb hf
    obtain ⟨hbv6, rfl⟩ := bz_some hv6
    obtain rfl := Option.some.inj hf
    exact V_iret hc hzz (bz_nar hbv6) rfl rfl rfl rfl dX8_isWord_66
  refine V_icmp_ne hc dX8_isWord_10 rfl (fun hq10 => ?_) (fun hq10 => ?_)
  · rw [if_neg hq10] at hv3
    refine V_iconst hc (v := (0 : Int32)) dX8_isWord_17 rfl ?_
    obtain rfl := Option.some.inj hv3
    exact V_sub [0, 1, 2] rfl hJ10
  · rw [if_pos hq10] at hv3
    refine V_iconst hc (v := (1 : Int32)) dX8_isWord_13 rfl ?_
    refine V_goto hc dX8_isWord_14 rfl ?_
    obtain rfl := Option.some.inj hv3
    exact V_sub [0, 1, 2] rfl hJ10
noncomputable def LX8_findKeyword_5 (h : Nat) (c1 : Int32) : Nat → CS → Option (CS)
  | 0, _ => none
  | n + 1, S =>
    (gi S 8 h 11).bind fun v1 =>
    (gi S 8 h 1).bind fun v2 =>
    if v2 ≤ v1 then (
      some S
    ) else (
      (cal S 8 h (f8_isAtLetter S h)).bind fun v3 =>
      if v3 = 0 then (
        some S
      ) else (
        (gi S 8 h 11).bind fun v4 =>
        (pi S 8 h 11 (v4 + (1 : Int32))).bind fun S5 =>
        LX8_findKeyword_5 h c1 n S5
      )
    )
noncomputable def LX8_findKeyword_38 (h : Nat) (c1 : Int32) (S : CS) : Nat → Int32 → Option (Nat × Int32)
  | 0, _ => none
  | n + 1, i2 =>
    if (9 : Int32) < i2 then (
      some (1, i2)
    ) else (
      (f8_nameOf i2).bind fun a1 =>
      (cal S 8 h (f8_isWord S h a1 c1)).bind fun v2 =>
      if v2 = 0 then (
        LX8_findKeyword_38 h c1 S n (i2 + (1 : Int32))
      ) else (
        some (0, i2)
      )
    )
noncomputable def f8_findKeyword (S : CS) (h : Nat) : Option (Int32 × CS) :=
  (gi S 8 h 11).bind fun v1 =>
  (LX8_findKeyword_5 h v1 FU S).bind fun S2 =>
  bn2 (LX8_findKeyword_38 h v1 S2 FU (0 : Int32)) fun t4 x5 =>
  if t4 = 0 then (
    some (x5, S2)
  ) else (
    some ((-1 : Int32), S2)
  )
theorem hdX_X8_findKeyword : yX8_findKeyword.cls = "FarEditors$Told" ∧ yX8_findKeyword.cls ≠ "java/lang/invoke/MethodHandle" ∧ yX8_findKeyword.cls ≠ "java/lang/invoke/VarHandle" ∧ (parseMethodDescriptor yX8_findKeyword.desc).map (fun d => d.parameters.length) = some 0 := by decide +kernel
set_option maxHeartbeats 4000000 in
set_option maxRecDepth 100000 in
theorem LX8_findKeyword_5_ok {E : CxT} {l : Launch} {D : va_G} {y : CyT} {zM uM : Nat} (hc : Cx E "FarEditors$Told" cX8_findKeyword 3) (h : Nat) (c1 : Int32) (hz : Cy E l D y 5 109 zM uM) : ∀ (n : Nat) (S : CS) {So : CS}, LX8_findKeyword_5 h c1 n S = some So → (hx0 : V E (cZ So) (cU So) (cw y So) 36 [(0, .ref h), (1, .int c1)] []) → V E (cZ S) (cU S) (cw y S) 5 [(0, .ref h), (1, .int c1)] [] := by
  have hT := hz.2.2.1
  intro n
  induction n with
  | zero => intro S So hf; cases hf
  | succ n ih =>
    intro S So hf hx0
    unfold LX8_findKeyword_5 at hf
    refine V_aload_n hc dX8_findKeyword_5 rfl 0 rfl ?_
    obtain ⟨v1, hv1, hf⟩ := mb hf
    refine C_geti hc rfl iW8 (by decide) 11 (by decide) rfl hv1 w1_56 dX8_findKeyword_6 ?_
    refine V_aload_n hc dX8_findKeyword_9 rfl 0 rfl ?_
    obtain ⟨v2, hv2, hf⟩ := mb hf
    refine C_geti hc rfl iW8 (by decide) 1 (by decide) rfl hv2 w1_37 dX8_findKeyword_10 ?_
    refine V_icmp_ge hc dX8_findKeyword_13 rfl (fun hq13 => ?_) (fun hq13 => ?_)
    · rw [if_pos hq13] at hf
      obtain rfl := Option.some.inj hf
      exact V_sub [0, 1] rfl hx0
    · rw [if_neg hq13] at hf
      refine V_aload_n hc dX8_findKeyword_16 rfl 0 rfl ?_
      obtain ⟨v3, hv3, hf⟩ := mb hf
      obtain ⟨hkv3, hv3⟩ := og hv3
      refine C_callV hc hz (As := []) hkv3 (by decide) (c8_isAtLetter l D y _ _ hv3) w3_44 w3_46 wp1_6 w1_2 w3_47 hdX_X8_isAtLetter ⟨(Nat.le_of_ble_eq_true rfl), (Nat.le_of_ble_eq_true rfl)⟩ rfl rfl rfl (Nat.le_of_ble_eq_true rfl) dX8_findKeyword_17 ?_
      refine V_if_eq hc dX8_findKeyword_20 rfl (fun hq20 => ?_) (fun hq20 => ?_)
      · rw [if_pos hq20] at hf
        obtain rfl := Option.some.inj hf
        exact V_sub [0, 1] rfl hx0
      · rw [if_neg hq20] at hf
        refine V_aload_n hc dX8_findKeyword_23 rfl 0 rfl ?_
        refine V_dup hc dX8_findKeyword_24 rfl ?_
        obtain ⟨v4, hv4, hf⟩ := mb hf
        refine C_geti hc rfl iW8 (by decide) 11 (by decide) rfl hv4 w1_56 dX8_findKeyword_25 ?_
        refine V_iconst hc (v := (1 : Int32)) dX8_findKeyword_28 rfl ?_
        refine V_iadd hc dX8_findKeyword_29 ?_
        obtain ⟨S5, hS5, hf⟩ := mb hf
        refine C_puti hc rfl iW8 tyX8 tyX8_ok nmX8 (by decide) 11 (by decide) rfl hS5 w1_56 rfl rfl rfl dX8_findKeyword_30 ?_
        refine V_goto hc dX8_findKeyword_33 rfl ?_
        exact V_sub [0, 1] rfl (ih _ hf hx0)
set_option maxHeartbeats 4000000 in
set_option maxRecDepth 100000 in
theorem LX8_findKeyword_38_ok {E : CxT} {l : Launch} {D : va_G} {y : CyT} {zM uM : Nat} (hc : Cx E "FarEditors$Told" cX8_findKeyword 3) (h : Nat) (c1 : Int32) (S : CS) (hz : Cy E l D y 5 109 zM uM) : ∀ (n : Nat) (i2 : Int32) {t : Nat} {o2 : Int32}, LX8_findKeyword_38 h c1 S n i2 = some (t, o2) → (hx0 : t = 0 → V E (cZ S) (cU S) (cw y S) 56 [(2, .int o2)] []) → (hx1 : t = 1 → V E (cZ S) (cU S) (cw y S) 64 [] []) → V E (cZ S) (cU S) (cw y S) 38 [(0, .ref h), (1, .int c1), (2, .int i2)] [] := by
  have hT := hz.2.2.1
  intro n
  induction n with
  | zero => intro i2 t o2 hf; cases hf
  | succ n ih =>
    intro i2 t o2 hf hx0 hx1
    unfold LX8_findKeyword_38 at hf
    refine V_iload_n hc dX8_findKeyword_38 rfl 2 rfl ?_
    refine V_bipush hc (v := (9 : Int32)) dX8_findKeyword_39 rfl ?_
    refine V_icmp_gt hc dX8_findKeyword_41 rfl (fun hq41 => ?_) (fun hq41 => ?_)
    · rw [if_pos hq41] at hf
      obtain ⟨rfl, rfl⟩ := si2 hf
      exact V_sub [] rfl (hx1 rfl)
    · rw [if_neg hq41] at hf
      refine V_aload_n hc dX8_findKeyword_44 rfl 0 rfl ?_
      refine V_iload_n hc dX8_findKeyword_45 rfl 2 rfl ?_
      obtain ⟨a1, ha1, hf⟩ := mb hf
      refine V_callSX hc hz (As := [.int i2]) (c8_nameOf l D y _ _ ha1) w3_48 w3_49 w1_2 w3_50 hdX_X8_nameOf.2 ⟨(Nat.le_of_ble_eq_true rfl), (Nat.le_of_ble_eq_true rfl)⟩ rfl rfl (Nat.le_of_ble_eq_true rfl) dX8_findKeyword_46 ?_
      refine V_iload_n hc dX8_findKeyword_49 rfl 1 rfl ?_
      obtain ⟨v2, hv2, hf⟩ := mb hf
      obtain ⟨hkv2, hv2⟩ := og hv2
      refine C_callV hc hz (As := [.ref (aK y a1), .int c1]) hkv2 (by decide) (c8_isWord l D y _ _ (n8_nameOf ha1) hv2) w3_61 w3_63 wp1_7 w1_2 w3_64 hdX_X8_isWord ⟨(Nat.le_of_ble_eq_true rfl), (Nat.le_of_ble_eq_true rfl)⟩ rfl rfl rfl (Nat.le_of_ble_eq_true rfl) dX8_findKeyword_50 ?_
      refine V_if_eq hc dX8_findKeyword_53 rfl (fun hq53 => ?_) (fun hq53 => ?_)
      · rw [if_pos hq53] at hf
        refine V_iinc hc (j := 2) (v := (i2 + (1 : Int32))) dX8_findKeyword_58 rfl rfl (by decide) rfl ?_
        refine V_goto hc dX8_findKeyword_61 rfl ?_
        exact V_sub [1, 2, 0] rfl (ih _ hf hx0 hx1)
      · rw [if_neg hq53] at hf
        obtain ⟨rfl, rfl⟩ := si2 hf
        exact V_sub [2] rfl (hx0 rfl)
set_option maxHeartbeats 4000000 in
set_option maxRecDepth 100000 in
theorem c8_findKeyword (l : Launch) (D : va_G) (y : CyT) (zM uM : Nat) {S S' : CS} {h : Nat} {r : Int32} (hf : f8_findKeyword S h = some (r, S')) : CT l D y yX8_findKeyword cX8_findKeyword 3 (some .int) 5 109 zM uM [.ref h] (cZ S) (cU S) (cw y S) (cZ S') (cU S') (cw y S') (some (.int r)) := by
  refine CT.of (by decide) (Nat.le_of_ble_eq_true rfl) (fun E hc hzz hnm => ?_)
  have hc : Cx E "FarEditors$Told" cX8_findKeyword 3 := hc
  have hz := hzz.1
  have hT := hz.2.2.1
  show V E (cZ S) (cU S) (cw y S) 0 [(0, .ref h)] []
  unfold f8_findKeyword at hf
  refine V_aload_n hc dX8_findKeyword_0 rfl 0 rfl ?_
  obtain ⟨v1, hv1, hf⟩ := mb hf
  refine C_geti hc rfl iW8 (by decide) 11 (by decide) rfl hv1 w1_56 dX8_findKeyword_1 ?_
  refine V_istore_n hc dX8_findKeyword_4 rfl (by decide) rfl ?_
  obtain ⟨S2, hv3, hf⟩ := mb hf
  refine V_sub [1, 0] rfl (LX8_findKeyword_5_ok hc h v1 hz FU _ hv3 ?_)
  refine V_iconst hc (v := (0 : Int32)) dX8_findKeyword_36 rfl ?_
  refine V_istore_n hc dX8_findKeyword_37 rfl (by decide) rfl ?_
  obtain ⟨t4, x5, hv6, hf⟩ := mb2 hf
  refine V_sub [1, 2, 0] rfl (LX8_findKeyword_38_ok hc h v1 S2 hz FU _ hv6 (fun ht38_0 => ?_) (fun ht38_1 => ?_))
  · rw [if_pos ht38_0] at hf
    refine V_iload_n hc dX8_findKeyword_56 rfl 0 rfl ?_
    obtain ⟨rfl, rfl⟩ := si2 hf
    exact V_iret hc hzz rfl rfl rfl rfl rfl dX8_findKeyword_57
  · rw [if_neg (by rw [ht38_1]; decide)] at hf
    refine V_iconst hc (v := (-1 : Int32)) dX8_findKeyword_64 rfl ?_
    obtain ⟨rfl, rfl⟩ := si2 hf
    exact V_iret hc hzz rfl rfl rfl rfl rfl dX8_findKeyword_65
