noncomputable def f8_readText (S : CS) (h : Nat) : Option (Int32 × CS) :=
  bn2 (cal S 8 h (f8_readWord S h (40 : Int32))) fun v1 S2 =>
  if v1 = 0 then (
    some ((0 : Int32), S2)
  ) else (
    bn2 (cal S2 8 h (f8_endsWell S2 h)) fun v3 S4 =>
    if v3 = 0 then (
      some ((0 : Int32), S4)
    ) else (
      (gi S4 8 h 8).bind fun v5 =>
      (pi S4 8 h 6 v5).bind fun S6 =>
      (cal S6 8 h (f8_skipBlanks S6 h)).bind fun S7 =>
      (gi S7 8 h 11).bind fun v8 =>
      bn2 (cal S7 8 h (f8_findKeyword S7 h)) fun v9 S10 =>
      if v9 = (9 : Int32) then (
        bn2 (cal S10 8 h (f8_endsWell S10 h)) fun v11 S12 =>
        if v11 = 0 then (
          some ((0 : Int32), S12)
        ) else (
          bn2 (cal S12 8 h (f8_readNumber S12 h (0 : Int32) (2 : Int32) (4 : Int32))) fun v13 S14 =>
          if v13 = 0 then (
            some ((0 : Int32), S14)
          ) else (
            (gi S14 8 h 4).bind fun v15 =>
            (cal S14 8 h (f8_numberOf S14 h v15 (0 : Int32))).bind fun v16 =>
            (pi S14 8 h 5 v16).bind fun S17 =>
            some ((1 : Int32), S17)
          )
        )
      ) else (
        bn2 (cal S10 8 h (f8_fail S10 h (1 : Int32) v8)) fun v18 S19 =>
        (bz v18).bind fun v20 =>
        some (v20, S19)
      )
    )
  )
theorem hdX_X8_readText : yX8_readText.cls = "FarEditors$Told" ∧ yX8_readText.cls ≠ "java/lang/invoke/MethodHandle" ∧ yX8_readText.cls ≠ "java/lang/invoke/VarHandle" ∧ (parseMethodDescriptor yX8_readText.desc).map (fun d => d.parameters.length) = some 0 := by decide +kernel
set_option maxHeartbeats 4000000 in
set_option maxRecDepth 100000 in
theorem c8_readText (l : Launch) (D : va_G) (y : CyT) (zM uM : Nat) {S S' : CS} {h : Nat} {r : Int32} (hf : f8_readText S h = some (r, S')) : CT l D y yX8_readText cX8_readText 2 (some .boolean) 6 131 zM uM [.ref h] (cZ S) (cU S) (cw y S) (cZ S') (cU S') (cw y S') (some (.int r)) := by
  refine CT.of (by decide) (Nat.le_of_ble_eq_true rfl) (fun E hc hzz hnm => ?_)
  have hc : Cx E "FarEditors$Told" cX8_readText 2 := hc
  have hz := hzz.1
  have hT := hz.2.2.1
  show V E (cZ S) (cU S) (cw y S) 0 [(0, .ref h)] []
  unfold f8_readText at hf
  refine V_aload_n hc dX8_readText_0 rfl 0 rfl ?_
  refine V_bipush hc (v := (40 : Int32)) dX8_readText_1 rfl ?_
  obtain ⟨v1, S2, hv1, hf⟩ := mb2 hf
  obtain ⟨hkv1, hv1⟩ := og hv1
  refine C_callV hc hz (As := [.int (40 : Int32)]) hkv1 (by decide) (c8_readWord l D y _ _ hv1) w3_133 w3_135 wp1_13 w1_2 w3_136 hdX_X8_readWord ⟨(Nat.le_of_ble_eq_true rfl), (Nat.le_of_ble_eq_true rfl)⟩ rfl rfl rfl (Nat.le_of_ble_eq_true rfl) dX8_readText_3 ?_
  refine V_if_eq hc dX8_readText_6 rfl (fun hq6 => ?_) (fun hq6 => ?_)
  · rw [if_pos hq6] at hf
    refine V_iconst hc (v := (0 : Int32)) dX8_readText_16 rfl ?_
    obtain ⟨rfl, rfl⟩ := si2 hf
    exact V_iret hc hzz rfl rfl rfl rfl rfl dX8_readText_17
  · rw [if_neg hq6] at hf
    refine V_aload_n hc dX8_readText_9 rfl 0 rfl ?_
    obtain ⟨v3, S4, hv3, hf⟩ := mb2 hf
    obtain ⟨hkv3, hv3⟩ := og hv3
    refine C_callV hc hz (As := []) hkv3 (by decide) (c8_endsWell l D y _ _ hv3) w3_117 w3_119 wp1_9 w1_2 w3_120 hdX_X8_endsWell ⟨(Nat.le_of_ble_eq_true rfl), (Nat.le_of_ble_eq_true rfl)⟩ rfl rfl rfl (Nat.le_of_ble_eq_true rfl) dX8_readText_10 ?_
    refine V_if_ne hc dX8_readText_13 rfl (fun hq13 => ?_) (fun hq13 => ?_)
    · rw [if_neg hq13] at hf
      refine V_aload_n hc dX8_readText_18 rfl 0 rfl ?_
      refine V_aload_n hc dX8_readText_19 rfl 0 rfl ?_
      obtain ⟨v5, hv5, hf⟩ := mb hf
      refine C_geti hc rfl iW8 (by decide) 8 (by decide) rfl hv5 w1_51 dX8_readText_20 ?_
      obtain ⟨S6, hS6, hf⟩ := mb hf
      refine C_puti hc rfl iW8 tyX8 tyX8_ok nmX8 (by decide) 6 (by decide) rfl hS6 w1_47 rfl rfl rfl dX8_readText_23 ?_
      refine V_aload_n hc dX8_readText_26 rfl 0 rfl ?_
      obtain ⟨S7, hS7, hf⟩ := mb hf
      obtain ⟨hkS7, hS7⟩ := og hS7
      refine C_callV hc hz (As := []) hkS7 (by decide) (c8_skipBlanks l D y _ _ hS7) w3_36 w3_38 wp1_4 w1_2 w3_39 hdX_X8_skipBlanks ⟨(Nat.le_of_ble_eq_true rfl), (Nat.le_of_ble_eq_true rfl)⟩ rfl rfl rfl (Nat.le_of_ble_eq_true rfl) dX8_readText_27 ?_
      refine V_aload_n hc dX8_readText_30 rfl 0 rfl ?_
      obtain ⟨v8, hv8, hf⟩ := mb hf
      refine C_geti hc rfl iW8 (by decide) 11 (by decide) rfl hv8 w1_56 dX8_readText_31 ?_
      refine V_istore_n hc dX8_readText_34 rfl (by decide) rfl ?_
      refine V_aload_n hc dX8_readText_35 rfl 1 rfl ?_
      obtain ⟨v9, S10, hv9, hf⟩ := mb2 hf
      obtain ⟨hkv9, hv9⟩ := og hv9
      refine C_callV hc hz (As := []) hkv9 (by decide) (c8_findKeyword l D y _ _ hv9) w3_40 w3_42 wp1_5 w1_2 w3_43 hdX_X8_findKeyword ⟨(Nat.le_of_ble_eq_true rfl), (Nat.le_of_ble_eq_true rfl)⟩ rfl rfl rfl (Nat.le_of_ble_eq_true rfl) dX8_readText_36 ?_
      refine V_bipush hc (v := (9 : Int32)) dX8_readText_39 rfl ?_
      refine V_icmp_eq hc dX8_readText_41 rfl (fun hq41 => ?_) (fun hq41 => ?_)
      · rw [if_pos hq41] at hf
        refine V_aload_n hc dX8_readText_51 rfl 1 rfl ?_
        obtain ⟨v11, S12, hv11, hf⟩ := mb2 hf
        obtain ⟨hkv11, hv11⟩ := og hv11
        refine C_callV hc hz (As := []) hkv11 (by decide) (c8_endsWell l D y _ _ hv11) w3_117 w3_119 wp1_9 w1_2 w3_120 hdX_X8_endsWell ⟨(Nat.le_of_ble_eq_true rfl), (Nat.le_of_ble_eq_true rfl)⟩ rfl rfl rfl (Nat.le_of_ble_eq_true rfl) dX8_readText_52 ?_
        refine V_if_eq hc dX8_readText_55 rfl (fun hq55 => ?_) (fun hq55 => ?_)
        · rw [if_pos hq55] at hf
          refine V_iconst hc (v := (0 : Int32)) dX8_readText_68 rfl ?_
          obtain ⟨rfl, rfl⟩ := si2 hf
          exact V_iret hc hzz rfl rfl rfl rfl rfl dX8_readText_69
        · rw [if_neg hq55] at hf
          refine V_aload_n hc dX8_readText_58 rfl 1 rfl ?_
          refine V_iconst hc (v := (0 : Int32)) dX8_readText_59 rfl ?_
          refine V_iconst hc (v := (2 : Int32)) dX8_readText_60 rfl ?_
          refine V_iconst hc (v := (4 : Int32)) dX8_readText_61 rfl ?_
          obtain ⟨v13, S14, hv13, hf⟩ := mb2 hf
          obtain ⟨hkv13, hv13⟩ := og hv13
          refine C_callV hc hz (As := [.int (0 : Int32), .int (2 : Int32), .int (4 : Int32)]) hkv13 (by decide) (c8_readNumber l D y _ _ hv13) w3_141 w3_143 wp1_15 w1_2 w3_144 hdX_X8_readNumber ⟨(Nat.le_of_ble_eq_true rfl), (Nat.le_of_ble_eq_true rfl)⟩ rfl rfl rfl (Nat.le_of_ble_eq_true rfl) dX8_readText_62 ?_
          refine V_if_ne hc dX8_readText_65 rfl (fun hq65 => ?_) (fun hq65 => ?_)
          · rw [if_neg hq65] at hf
            refine V_aload_n hc dX8_readText_70 rfl 1 rfl ?_
            refine V_aload_n hc dX8_readText_71 rfl 1 rfl ?_
            refine V_aload_n hc dX8_readText_72 rfl 1 rfl ?_
            obtain ⟨v15, hv15, hf⟩ := mb hf
            refine C_geti hc rfl iW8 (by decide) 4 (by decide) rfl hv15 w1_43 dX8_readText_73 ?_
            refine V_iconst hc (v := (0 : Int32)) dX8_readText_76 rfl ?_
            obtain ⟨v16, hv16, hf⟩ := mb hf
            obtain ⟨hkv16, hv16⟩ := og hv16
            refine C_callV hc hz (As := [.int v15, .int (0 : Int32)]) hkv16 (by decide) (c8_numberOf l D y _ _ hv16) w3_153 w3_154 w3_155 w1_2 w3_156 hdX_X8_numberOf ⟨(Nat.le_of_ble_eq_true rfl), (Nat.le_of_ble_eq_true rfl)⟩ rfl rfl rfl (Nat.le_of_ble_eq_true rfl) dX8_readText_77 ?_
            obtain ⟨S17, hS17, hf⟩ := mb hf
            refine C_puti hc rfl iW8 tyX8 tyX8_ok nmX8 (by decide) 5 (by decide) rfl hS17 w1_45 rfl rfl rfl dX8_readText_80 ?_
            refine V_iconst hc (v := (1 : Int32)) dX8_readText_83 rfl ?_
            obtain ⟨rfl, rfl⟩ := si2 hf
            exact V_iret hc hzz rfl rfl rfl rfl rfl dX8_readText_84
          · rw [if_pos hq65] at hf
            refine V_iconst hc (v := (0 : Int32)) dX8_readText_68 rfl ?_
            obtain ⟨rfl, rfl⟩ := si2 hf
            exact V_iret hc hzz rfl rfl rfl rfl rfl dX8_readText_69
      · rw [if_neg hq41] at hf
        refine V_aload_n hc dX8_readText_44 rfl 1 rfl ?_
        refine V_iconst hc (v := (1 : Int32)) dX8_readText_45 rfl ?_
        refine V_iload_n hc dX8_readText_46 rfl 0 rfl ?_
        obtain ⟨v18, S19, hv18, hf⟩ := mb2 hf
        obtain ⟨hkv18, hv18⟩ := og hv18
        refine C_callV hc hz (As := [.int (1 : Int32), .int v8]) hkv18 (by decide) (c8_fail l D y _ _ hv18) w3_113 w3_115 wp1_8 w1_2 w3_116 hdX_X8_fail ⟨(Nat.le_of_ble_eq_true rfl), (Nat.le_of_ble_eq_true rfl)⟩ rfl rfl rfl (Nat.le_of_ble_eq_true rfl) dX8_readText_47 ?_
        obtain ⟨v20, hv20, hf⟩ := mb hf
        obtain ⟨hbv20, rfl⟩ := bz_some hv20
        obtain ⟨rfl, rfl⟩ := si2 hf
        exact V_iret hc hzz (bz_nar hbv20) rfl rfl rfl rfl dX8_readText_50
    · rw [if_pos hq13] at hf
      refine V_iconst hc (v := (0 : Int32)) dX8_readText_16 rfl ?_
      obtain ⟨rfl, rfl⟩ := si2 hf
      exact V_iret hc hzz rfl rfl rfl rfl rfl dX8_readText_17
noncomputable def f8_readEditor (S : CS) (h : Nat) : Option (Int32 × CS) :=
  (gi S 8 h 5).bind fun v1 =>
  bn2 (cal S 8 h (f8_readNumber S h (0 : Int32) (0 : Int32) (v1 - (1 : Int32)))) fun v2 S3 =>
  (bz v2).bind fun v4 =>
  some (v4, S3)
theorem hdX_X8_readEditor : yX8_readEditor.cls = "FarEditors$Told" ∧ yX8_readEditor.cls ≠ "java/lang/invoke/MethodHandle" ∧ yX8_readEditor.cls ≠ "java/lang/invoke/VarHandle" ∧ (parseMethodDescriptor yX8_readEditor.desc).map (fun d => d.parameters.length) = some 0 := by decide +kernel
set_option maxHeartbeats 4000000 in
set_option maxRecDepth 100000 in
theorem c8_readEditor (l : Launch) (D : va_G) (y : CyT) (zM uM : Nat) {S S' : CS} {h : Nat} {r : Int32} (hf : f8_readEditor S h = some (r, S')) : CT l D y yX8_readEditor cX8_readEditor 1 (some .boolean) 3 70 zM uM [.ref h] (cZ S) (cU S) (cw y S) (cZ S') (cU S') (cw y S') (some (.int r)) := by
  refine CT.of (by decide) (Nat.le_of_ble_eq_true rfl) (fun E hc hzz hnm => ?_)
  have hc : Cx E "FarEditors$Told" cX8_readEditor 1 := hc
  have hz := hzz.1
  have hT := hz.2.2.1
  show V E (cZ S) (cU S) (cw y S) 0 [(0, .ref h)] []
  unfold f8_readEditor at hf
  refine V_aload_n hc dX8_readEditor_0 rfl 0 rfl ?_
  refine V_iconst hc (v := (0 : Int32)) dX8_readEditor_1 rfl ?_
  refine V_iconst hc (v := (0 : Int32)) dX8_readEditor_2 rfl ?_
  refine V_aload_n hc dX8_readEditor_3 rfl 0 rfl ?_
  obtain ⟨v1, hv1, hf⟩ := mb hf
  refine C_geti hc rfl iW8 (by decide) 5 (by decide) rfl hv1 w1_45 dX8_readEditor_4 ?_
  refine V_iconst hc (v := (1 : Int32)) dX8_readEditor_7 rfl ?_
  refine V_isub hc dX8_readEditor_8 ?_
  obtain ⟨v2, S3, hv2, hf⟩ := mb2 hf
  obtain ⟨hkv2, hv2⟩ := og hv2
  refine C_callV hc hz (As := [.int (0 : Int32), .int (0 : Int32), .int (v1 - (1 : Int32))]) hkv2 (by decide) (c8_readNumber l D y _ _ hv2) w3_141 w3_143 wp1_15 w1_2 w3_144 hdX_X8_readNumber ⟨(Nat.le_of_ble_eq_true rfl), (Nat.le_of_ble_eq_true rfl)⟩ rfl rfl rfl (Nat.le_of_ble_eq_true rfl) dX8_readEditor_9 ?_
  obtain ⟨v4, hv4, hf⟩ := mb hf
  obtain ⟨hbv4, rfl⟩ := bz_some hv4
  obtain ⟨rfl, rfl⟩ := si2 hf
  exact V_iret hc hzz (bz_nar hbv4) rfl rfl rfl rfl dX8_readEditor_12
noncomputable def f8_look (S : CS) (h : Nat) : Option (Int32) :=
  (gi S 8 h 11).bind fun v1 =>
  (gi S 8 h 1).bind fun v2 =>
  (
    if v2 ≤ v1 then (
      some (-1 : Int32)
    ) else (
      (gr S 8 h 0).bind fun a5 =>
      (gi S 8 h 11).bind fun v6 =>
      (ldi S a5 v6).bind fun v7 =>
      some v7
    )
  ).bind fun v3 =>
  some v3
theorem hdX_X8_look : yX8_look.cls = "FarEditors$Told" ∧ yX8_look.cls ≠ "java/lang/invoke/MethodHandle" ∧ yX8_look.cls ≠ "java/lang/invoke/VarHandle" ∧ (parseMethodDescriptor yX8_look.desc).map (fun d => d.parameters.length) = some 0 := by decide +kernel
set_option maxHeartbeats 4000000 in
set_option maxRecDepth 100000 in
theorem c8_look (l : Launch) (D : va_G) (y : CyT) (zM uM : Nat) {S : CS} {h : Nat} {r : Int32} (hf : f8_look S h = some r) : CT l D y yX8_look cX8_look 1 (some .int) 0 0 zM uM [.ref h] (cZ S) (cU S) (cw y S) (cZ S) (cU S) (cw y S) (some (.int r)) := by
  refine CT.of (by decide) (Nat.le_of_ble_eq_true rfl) (fun E hc hzz hnm => ?_)
  have hc : Cx E "FarEditors$Told" cX8_look 1 := hc
  have hz := hzz.1
  have hT := hz.2.2.1
  show V E (cZ S) (cU S) (cw y S) 0 [(0, .ref h)] []
  unfold f8_look at hf
  refine V_aload_n hc dX8_look_0 rfl 0 rfl ?_
  obtain ⟨v1, hv1, hf⟩ := mb hf
  refine C_geti hc rfl iW8 (by decide) 11 (by decide) rfl hv1 w1_56 dX8_look_1 ?_
  refine V_aload_n hc dX8_look_4 rfl 0 rfl ?_
  obtain ⟨v2, hv2, hf⟩ := mb hf
  refine C_geti hc rfl iW8 (by decide) 1 (by decide) rfl hv2 w1_37 dX8_look_5 ?_
  obtain ⟨v3, hv4, hf⟩ := mb hf
  have hJ8 : V E (cZ S) (cU S) (cw y S) 24 [] [.int v3] := by
    obtain rfl := Option.some.inj hf
    exact V_iret hc hzz rfl rfl rfl rfl rfl dX8_look_24
  refine V_icmp_ge hc dX8_look_8 rfl (fun hq8 => ?_) (fun hq8 => ?_)
  · rw [if_pos hq8] at hv4
    refine V_iconst hc (v := (-1 : Int32)) dX8_look_23 rfl ?_
    obtain rfl := Option.some.inj hv4
    exact V_sub [] rfl hJ8
  · rw [if_neg hq8] at hv4
    refine V_aload_n hc dX8_look_11 rfl 0 rfl ?_
    obtain ⟨a5, ha5, hv4⟩ := mb hv4
    refine C_getr hc rfl iW8 (by decide) 0 (by decide) rfl ha5 w1_35 dX8_look_12 ?_
    refine V_aload_n hc dX8_look_15 rfl 0 rfl ?_
    obtain ⟨v6, hv6, hv4⟩ := mb hv4
    refine C_geti hc rfl iW8 (by decide) 11 (by decide) rfl hv6 w1_56 dX8_look_16 ?_
    obtain ⟨v7, hv7, hv4⟩ := mb hv4
    refine C_iald hc hT hv7 dX8_look_19 ?_
    refine V_goto hc dX8_look_20 rfl ?_
    obtain rfl := Option.some.inj hv4
    exact V_sub [] rfl hJ8
noncomputable def f8_isAtStep (S : CS) (h : Nat) : Option (Int32) :=
  (cal S 8 h (f8_isAtDigit S h)).bind fun v1 =>
  (
    if v1 = 0 then (
      (cal S 8 h (f8_look S h)).bind fun v4 =>
      if v4 = (43 : Int32) then (
        some (1 : Int32)
      ) else (
        (cal S 8 h (f8_look S h)).bind fun v5 =>
        if v5 = (45 : Int32) then (
          some (1 : Int32)
        ) else (
          some (0 : Int32)
        )
      )
    ) else (
      some (1 : Int32)
    )
  ).bind fun v2 =>
  (bz v2).bind fun v6 =>
  some v6
theorem hdX_X8_isAtStep : yX8_isAtStep.cls = "FarEditors$Told" ∧ yX8_isAtStep.cls ≠ "java/lang/invoke/MethodHandle" ∧ yX8_isAtStep.cls ≠ "java/lang/invoke/VarHandle" ∧ (parseMethodDescriptor yX8_isAtStep.desc).map (fun d => d.parameters.length) = some 0 := by decide +kernel
set_option maxHeartbeats 4000000 in
set_option maxRecDepth 100000 in
theorem c8_isAtStep (l : Launch) (D : va_G) (y : CyT) (zM uM : Nat) {S : CS} {h : Nat} {r : Int32} (hf : f8_isAtStep S h = some r) : CT l D y yX8_isAtStep cX8_isAtStep 1 (some .boolean) 1 20 zM uM [.ref h] (cZ S) (cU S) (cw y S) (cZ S) (cU S) (cw y S) (some (.int r)) := by
  refine CT.of (by decide) (Nat.le_of_ble_eq_true rfl) (fun E hc hzz hnm => ?_)
  have hc : Cx E "FarEditors$Told" cX8_isAtStep 1 := hc
  have hz := hzz.1
  have hT := hz.2.2.1
  show V E (cZ S) (cU S) (cw y S) 0 [(0, .ref h)] []
  unfold f8_isAtStep at hf
  refine V_aload_n hc dX8_isAtStep_0 rfl 0 rfl ?_
  obtain ⟨v1, hv1, hf⟩ := mb hf
  obtain ⟨hkv1, hv1⟩ := og hv1
  refine C_callV hc hz (As := []) hkv1 (by decide) (c8_isAtDigit l D y _ _ hv1) w3_121 w3_123 wp1_10 w1_2 w3_124 hdX_X8_isAtDigit ⟨(Nat.le_of_ble_eq_true rfl), (Nat.le_of_ble_eq_true rfl)⟩ rfl rfl rfl (Nat.le_of_ble_eq_true rfl) dX8_isAtStep_1 ?_
  obtain ⟨v2, hv3, hf⟩ := mb hf
  have hJ4 : V E (cZ S) (cU S) (cw y S) 30 [] [.int v2] := by
    obtain ⟨v6, hv6, hf⟩ := mb hf
    obtain ⟨hbv6, rfl⟩ := bz_some hv6
    obtain rfl := Option.some.inj hf
    exact V_iret hc hzz (bz_nar hbv6) rfl rfl rfl rfl dX8_isAtStep_30
  refine V_if_ne hc dX8_isAtStep_4 rfl (fun hq4 => ?_) (fun hq4 => ?_)
  · rw [if_neg hq4] at hv3
    refine V_iconst hc (v := (1 : Int32)) dX8_isAtStep_25 rfl ?_
    refine V_goto hc dX8_isAtStep_26 rfl ?_
    obtain rfl := Option.some.inj hv3
    exact V_sub [] rfl hJ4
  · rw [if_pos hq4] at hv3
    refine V_aload_n hc dX8_isAtStep_7 rfl 0 rfl ?_
    obtain ⟨v4, hv4, hv3⟩ := mb hv3
    obtain ⟨hkv4, hv4⟩ := og hv4
    refine C_callV hc hz (As := []) hkv4 (by decide) (c8_look l D y _ _ hv4) w3_169 w3_171 wp2_5 w1_2 w3_172 hdX_X8_look ⟨(Nat.le_of_ble_eq_true rfl), (Nat.le_of_ble_eq_true rfl)⟩ rfl rfl rfl (Nat.le_of_ble_eq_true rfl) dX8_isAtStep_8 ?_
    refine V_bipush hc (v := (43 : Int32)) dX8_isAtStep_11 rfl ?_
    refine V_icmp_eq hc dX8_isAtStep_13 rfl (fun hq13 => ?_) (fun hq13 => ?_)
    · rw [if_pos hq13] at hv3
      refine V_iconst hc (v := (1 : Int32)) dX8_isAtStep_25 rfl ?_
      refine V_goto hc dX8_isAtStep_26 rfl ?_
      obtain rfl := Option.some.inj hv3
      exact V_sub [] rfl hJ4
    · rw [if_neg hq13] at hv3
      refine V_aload_n hc dX8_isAtStep_16 rfl 0 rfl ?_
      obtain ⟨v5, hv5, hv3⟩ := mb hv3
      obtain ⟨hkv5, hv5⟩ := og hv5
      refine C_callV hc hz (As := []) hkv5 (by decide) (c8_look l D y _ _ hv5) w3_169 w3_171 wp2_5 w1_2 w3_172 hdX_X8_look ⟨(Nat.le_of_ble_eq_true rfl), (Nat.le_of_ble_eq_true rfl)⟩ rfl rfl rfl (Nat.le_of_ble_eq_true rfl) dX8_isAtStep_17 ?_
      refine V_bipush hc (v := (45 : Int32)) dX8_isAtStep_20 rfl ?_
      refine V_icmp_ne hc dX8_isAtStep_22 rfl (fun hq22 => ?_) (fun hq22 => ?_)
      · rw [if_neg hq22] at hv3
        refine V_iconst hc (v := (0 : Int32)) dX8_isAtStep_29 rfl ?_
        obtain rfl := Option.some.inj hv3
        exact V_sub [] rfl hJ4
      · rw [if_pos hq22] at hv3
        refine V_iconst hc (v := (1 : Int32)) dX8_isAtStep_25 rfl ?_
        refine V_goto hc dX8_isAtStep_26 rfl ?_
        obtain rfl := Option.some.inj hv3
        exact V_sub [] rfl hJ4
noncomputable def f8_readStep (S : CS) (h : Nat) : Option (Int32 × CS) :=
  (cal S 8 h (f8_look S h)).bind fun v1 =>
  if v1 = (43 : Int32) then (
    (gi S 8 h 11).bind fun v11 =>
    (pi S 8 h 11 (v11 + (1 : Int32))).bind fun S12 =>
    bn2 (cal S12 8 h (f8_readWord S12 h (20 : Int32))) fun v13 S14 =>
    (bz v13).bind fun v15 =>
    some (v15, S14)
  ) else (
    (
      if v1 = (45 : Int32) then (
        (gi S 8 h 11).bind fun v4 =>
        (pi S 8 h 11 (v4 + (1 : Int32))).bind fun S5 =>
        some S5
      ) else (
        some S
      )
    ).bind fun S2 =>
    bn2 (cal S2 8 h (f8_readDigits S2 h (1 : Int32) (99 : Int32))) fun v6 S7 =>
    if v6 = (-1 : Int32) then (
      some ((0 : Int32), S7)
    ) else (
      (
        if v1 = (45 : Int32) then (
          some (-v6)
        ) else (
          some ((31 : Int32) + v6)
        )
      ).bind fun v8 =>
      (cal S7 8 h (f8_addPart S7 h v8)).bind fun S10 =>
      some ((1 : Int32), S10)
    )
  )
theorem hdX_X8_readStep : yX8_readStep.cls = "FarEditors$Told" ∧ yX8_readStep.cls ≠ "java/lang/invoke/MethodHandle" ∧ yX8_readStep.cls ≠ "java/lang/invoke/VarHandle" ∧ (parseMethodDescriptor yX8_readStep.desc).map (fun d => d.parameters.length) = some 0 := by decide +kernel
set_option maxHeartbeats 4000000 in
set_option maxRecDepth 100000 in
theorem c8_readStep (l : Launch) (D : va_G) (y : CyT) (zM uM : Nat) {S S' : CS} {h : Nat} {r : Int32} (hf : f8_readStep S h = some (r, S')) : CT l D y yX8_readStep cX8_readStep 3 (some .boolean) 2 46 zM uM [.ref h] (cZ S) (cU S) (cw y S) (cZ S') (cU S') (cw y S') (some (.int r)) := by
  refine CT.of (by decide) (Nat.le_of_ble_eq_true rfl) (fun E hc hzz hnm => ?_)
  have hc : Cx E "FarEditors$Told" cX8_readStep 3 := hc
  have hz := hzz.1
  have hT := hz.2.2.1
  show V E (cZ S) (cU S) (cw y S) 0 [(0, .ref h)] []
  unfold f8_readStep at hf
  refine V_aload_n hc dX8_readStep_0 rfl 0 rfl ?_
  obtain ⟨v1, hv1, hf⟩ := mb hf
  obtain ⟨hkv1, hv1⟩ := og hv1
  refine C_callV hc hz (As := []) hkv1 (by decide) (c8_look l D y _ _ hv1) w3_169 w3_171 wp2_5 w1_2 w3_172 hdX_X8_look ⟨(Nat.le_of_ble_eq_true rfl), (Nat.le_of_ble_eq_true rfl)⟩ rfl rfl rfl (Nat.le_of_ble_eq_true rfl) dX8_readStep_1 ?_
  refine V_istore_n hc dX8_readStep_4 rfl (by decide) rfl ?_
  refine V_iload_n hc dX8_readStep_5 rfl 0 rfl ?_
  refine V_bipush hc (v := (43 : Int32)) dX8_readStep_6 rfl ?_
  refine V_icmp_ne hc dX8_readStep_8 rfl (fun hq8 => ?_) (fun hq8 => ?_)
  · rw [if_neg hq8] at hf
    refine V_iload_n hc dX8_readStep_28 rfl 0 rfl ?_
    refine V_bipush hc (v := (45 : Int32)) dX8_readStep_29 rfl ?_
    obtain ⟨S2, hv3, hf⟩ := mb hf
    have hJ31 : V E (cZ S2) (cU S2) (cw y S2) 44 [(0, .ref h), (1, .int v1)] [] := by
      refine V_aload_n hc dX8_readStep_44 rfl 0 rfl ?_
      refine V_iconst hc (v := (1 : Int32)) dX8_readStep_45 rfl ?_
      refine V_bipush hc (v := (99 : Int32)) dX8_readStep_46 rfl ?_
      obtain ⟨v6, S7, hv6, hf⟩ := mb2 hf
      obtain ⟨hkv6, hv6⟩ := og hv6
      refine C_callV hc hz (As := [.int (1 : Int32), .int (99 : Int32)]) hkv6 (by decide) (c8_readDigits l D y _ _ hv6) w3_145 w3_147 wp2_0 w1_2 w3_148 hdX_X8_readDigits ⟨(Nat.le_of_ble_eq_true rfl), (Nat.le_of_ble_eq_true rfl)⟩ rfl rfl rfl (Nat.le_of_ble_eq_true rfl) dX8_readStep_48 ?_
      refine V_istore_n hc dX8_readStep_51 rfl (by decide) rfl ?_
      refine V_iload_n hc dX8_readStep_52 rfl 0 rfl ?_
      refine V_iconst hc (v := (-1 : Int32)) dX8_readStep_53 rfl ?_
      refine V_icmp_ne hc dX8_readStep_54 rfl (fun hq54 => ?_) (fun hq54 => ?_)
      · rw [if_neg hq54] at hf
        refine V_aload_n hc dX8_readStep_59 rfl 1 rfl ?_
        refine V_iload_n hc dX8_readStep_60 rfl 2 rfl ?_
        refine V_bipush hc (v := (45 : Int32)) dX8_readStep_61 rfl ?_
        obtain ⟨v8, hv9, hf⟩ := mb hf
        have hJ63 : V E (cZ S7) (cU S7) (cw y S7) 75 [] [.int v8, .ref h] := by
          obtain ⟨S10, hS10, hf⟩ := mb hf
          obtain ⟨hkS10, hS10⟩ := og hS10
          refine C_callV hc hz (As := [.int v8]) hkS10 (by decide) (c8_addPart l D y _ _ hS10) w3_137 w3_139 wp1_14 w1_2 w3_140 hdX_X8_addPart ⟨(Nat.le_of_ble_eq_true rfl), (Nat.le_of_ble_eq_true rfl)⟩ rfl rfl rfl (Nat.le_of_ble_eq_true rfl) dX8_readStep_75 ?_
          refine V_iconst hc (v := (1 : Int32)) dX8_readStep_78 rfl ?_
          obtain ⟨rfl, rfl⟩ := si2 hf
          exact V_iret hc hzz rfl rfl rfl rfl rfl dX8_readStep_79
        refine V_icmp_ne hc dX8_readStep_63 rfl (fun hq63 => ?_) (fun hq63 => ?_)
        · rw [if_neg hq63] at hv9
          refine V_bipush hc (v := (31 : Int32)) dX8_readStep_71 rfl ?_
          refine V_iload_n hc dX8_readStep_73 rfl 0 rfl ?_
          refine V_iadd hc dX8_readStep_74 ?_
          obtain rfl := Option.some.inj hv9
          exact V_sub [] rfl hJ63
        · rw [if_pos hq63] at hv9
          refine V_iload_n hc dX8_readStep_66 rfl 0 rfl ?_
          refine V_ineg hc dX8_readStep_67 ?_
          refine V_goto hc dX8_readStep_68 rfl ?_
          obtain rfl := Option.some.inj hv9
          exact V_sub [] rfl hJ63
      · rw [if_pos hq54] at hf
        refine V_iconst hc (v := (0 : Int32)) dX8_readStep_57 rfl ?_
        obtain ⟨rfl, rfl⟩ := si2 hf
        exact V_iret hc hzz rfl rfl rfl rfl rfl dX8_readStep_58
    refine V_icmp_ne hc dX8_readStep_31 rfl (fun hq31 => ?_) (fun hq31 => ?_)
    · rw [if_neg hq31] at hv3
      obtain rfl := Option.some.inj hv3
      exact V_sub [1, 0] rfl hJ31
    · rw [if_pos hq31] at hv3
      refine V_aload_n hc dX8_readStep_34 rfl 1 rfl ?_
      refine V_dup hc dX8_readStep_35 rfl ?_
      obtain ⟨v4, hv4, hv3⟩ := mb hv3
      refine C_geti hc rfl iW8 (by decide) 11 (by decide) rfl hv4 w1_56 dX8_readStep_36 ?_
      refine V_iconst hc (v := (1 : Int32)) dX8_readStep_39 rfl ?_
      refine V_iadd hc dX8_readStep_40 ?_
      obtain ⟨S5, hS5, hv3⟩ := mb hv3
      refine C_puti hc rfl iW8 tyX8 tyX8_ok nmX8 (by decide) 11 (by decide) rfl hS5 w1_56 rfl rfl rfl dX8_readStep_41 ?_
      obtain rfl := Option.some.inj hv3
      exact V_sub [1, 0] rfl hJ31
  · rw [if_pos hq8] at hf
    refine V_aload_n hc dX8_readStep_11 rfl 1 rfl ?_
    refine V_dup hc dX8_readStep_12 rfl ?_
    obtain ⟨v11, hv11, hf⟩ := mb hf
    refine C_geti hc rfl iW8 (by decide) 11 (by decide) rfl hv11 w1_56 dX8_readStep_13 ?_
    refine V_iconst hc (v := (1 : Int32)) dX8_readStep_16 rfl ?_
    refine V_iadd hc dX8_readStep_17 ?_
    obtain ⟨S12, hS12, hf⟩ := mb hf
    refine C_puti hc rfl iW8 tyX8 tyX8_ok nmX8 (by decide) 11 (by decide) rfl hS12 w1_56 rfl rfl rfl dX8_readStep_18 ?_
    refine V_aload_n hc dX8_readStep_21 rfl 1 rfl ?_
    refine V_bipush hc (v := (20 : Int32)) dX8_readStep_22 rfl ?_
    obtain ⟨v13, S14, hv13, hf⟩ := mb2 hf
    obtain ⟨hkv13, hv13⟩ := og hv13
    refine C_callV hc hz (As := [.int (20 : Int32)]) hkv13 (by decide) (c8_readWord l D y _ _ hv13) w3_133 w3_135 wp1_13 w1_2 w3_136 hdX_X8_readWord ⟨(Nat.le_of_ble_eq_true rfl), (Nat.le_of_ble_eq_true rfl)⟩ rfl rfl rfl (Nat.le_of_ble_eq_true rfl) dX8_readStep_24 ?_
    obtain ⟨v15, hv15, hf⟩ := mb hf
    obtain ⟨hbv15, rfl⟩ := bz_some hv15
    obtain ⟨rfl, rfl⟩ := si2 hf
    exact V_iret hc hzz (bz_nar hbv15) rfl rfl rfl rfl dX8_readStep_27
noncomputable def LX8_readSteps_32 (h : Nat) (c1 : Int32) : Nat → Int32 → CS → Option (Nat × Int32 × CS)
  | 0, _, _ => none
  | n + 1, i2, S =>
    if (40 : Int32) ≤ i2 then (
      some (2, i2, S)
    ) else (
      (cal S 8 h (f8_isAtStep S h)).bind fun v1 =>
      if v1 = 0 then (
        some (2, i2, S)
      ) else (
        bn2 (cal S 8 h (f8_readStep S h)) fun v2 S3 =>
        if v2 = 0 then (
          some (0, i2, S3)
        ) else (
          if (40 : Int32) ≤ (i2 + (1 : Int32)) then (
            (cal S3 8 h (f8_skipBlanks S3 h)).bind fun S4 =>
            LX8_readSteps_32 h c1 n (i2 + (1 : Int32)) S4
          ) else (
            bn2 (cal S3 8 h (f8_endsWell S3 h)) fun v5 S6 =>
            if v5 = 0 then (
              some (1, (i2 + (1 : Int32)), S6)
            ) else (
              (cal S6 8 h (f8_skipBlanks S6 h)).bind fun S7 =>
              LX8_readSteps_32 h c1 n (i2 + (1 : Int32)) S7
            )
          )
        )
      )
    )
noncomputable def f8_readSteps (S : CS) (h : Nat) (p1 : Int32) : Option (Int32 × CS) :=
  (gi S 8 h 8).bind fun v1 =>
  (cal S 8 h (f8_setNumber S h (1 : Int32) v1)).bind fun S2 =>
  (cal S2 8 h (f8_skipBlanks S2 h)).bind fun S3 =>
  (cal S3 8 h (f8_isAtStep S3 h)).bind fun v4 =>
  if v4 = 0 then (
    (gi S3 8 h 11).bind fun v20 =>
    bn2 (cal S3 8 h (f8_fail S3 h (1 : Int32) v20)) fun v21 S22 =>
    (bz v21).bind fun v23 =>
    some (v23, S22)
  ) else (
    bn3 (LX8_readSteps_32 h p1 FU (0 : Int32) S3) fun t5 x6 S7 =>
    if t5 = 0 then (
      some ((0 : Int32), S7)
    ) else (
      if t5 = 1 then (
        some ((0 : Int32), S7)
      ) else (
        (gi S7 8 h 8).bind fun v9 =>
        (cal S7 8 h (f8_setNumber S7 h (2 : Int32) v9)).bind fun S10 =>
        bn2 (
          if x6 < (40 : Int32) then (
            some ((1 : Int32), S10)
          ) else (
            (cal S10 8 h (f8_look S10 h)).bind fun v14 =>
            if v14 = (-1 : Int32) then (
              some ((1 : Int32), S10)
            ) else (
              (cal S10 8 h (f8_look S10 h)).bind fun v15 =>
              if v15 = p1 then (
                some ((1 : Int32), S10)
              ) else (
                (gi S10 8 h 11).bind fun v16 =>
                bn2 (cal S10 8 h (f8_fail S10 h (5 : Int32) v16)) fun v17 S18 =>
                if v17 = 0 then (
                  some ((0 : Int32), S18)
                ) else (
                  some ((1 : Int32), S18)
                )
              )
            )
          )
        ) fun v11 S12 =>
        (bz v11).bind fun v19 =>
        some (v19, S12)
      )
    )
  )
theorem hdX_X8_readSteps : yX8_readSteps.cls = "FarEditors$Told" ∧ yX8_readSteps.cls ≠ "java/lang/invoke/MethodHandle" ∧ yX8_readSteps.cls ≠ "java/lang/invoke/VarHandle" ∧ (parseMethodDescriptor yX8_readSteps.desc).map (fun d => d.parameters.length) = some 1 := by decide +kernel
set_option maxHeartbeats 4000000 in
set_option maxRecDepth 100000 in
theorem LX8_readSteps_32_ok {E : CxT} {l : Launch} {D : va_G} {y : CyT} {zM uM : Nat} (hc : Cx E "FarEditors$Told" cX8_readSteps 3) (h : Nat) (c1 : Int32) (hz : Cy E l D y 3 68 zM uM) : ∀ (n : Nat) (i2 : Int32) (S : CS) {t : Nat} {o2 : Int32} {So : CS}, LX8_readSteps_32 h c1 n i2 S = some (t, o2, So) → (hx0 : t = 0 → V E (cZ So) (cU So) (cw y So) 52 [] []) → (hx1 : t = 1 → V E (cZ So) (cU So) (cw y So) 70 [] []) → (hx2 : t = 2 → V E (cZ So) (cU So) (cw y So) 79 [(0, .ref h), (1, .int c1), (2, .int o2)] []) → V E (cZ S) (cU S) (cw y S) 32 [(0, .ref h), (1, .int c1), (2, .int i2)] [] := by
  have hT := hz.2.2.1
  intro n
  induction n with
  | zero => intro i2 S t o2 So hf; cases hf
  | succ n ih =>
    intro i2 S t o2 So hf hx0 hx1 hx2
    unfold LX8_readSteps_32 at hf
    refine V_iload_n hc dX8_readSteps_32 rfl 2 rfl ?_
    refine V_bipush hc (v := (40 : Int32)) dX8_readSteps_33 rfl ?_
    refine V_icmp_ge hc dX8_readSteps_35 rfl (fun hq35 => ?_) (fun hq35 => ?_)
    · rw [if_pos hq35] at hf
      obtain ⟨rfl, rfl, rfl⟩ := si3 hf
      exact V_sub [0, 1, 2] rfl (hx2 rfl)
    · rw [if_neg hq35] at hf
      refine V_aload_n hc dX8_readSteps_38 rfl 0 rfl ?_
      obtain ⟨v1, hv1, hf⟩ := mb hf
      obtain ⟨hkv1, hv1⟩ := og hv1
      refine C_callV hc hz (As := []) hkv1 (by decide) (c8_isAtStep l D y _ _ hv1) w3_165 w3_167 wp2_4 w1_2 w3_168 hdX_X8_isAtStep ⟨(Nat.le_of_ble_eq_true rfl), (Nat.le_of_ble_eq_true rfl)⟩ rfl rfl rfl (Nat.le_of_ble_eq_true rfl) dX8_readSteps_39 ?_
      refine V_if_eq hc dX8_readSteps_42 rfl (fun hq42 => ?_) (fun hq42 => ?_)
      · rw [if_pos hq42] at hf
        obtain ⟨rfl, rfl, rfl⟩ := si3 hf
        exact V_sub [0, 1, 2] rfl (hx2 rfl)
      · rw [if_neg hq42] at hf
        refine V_aload_n hc dX8_readSteps_45 rfl 0 rfl ?_
        obtain ⟨v2, S3, hv2, hf⟩ := mb2 hf
        obtain ⟨hkv2, hv2⟩ := og hv2
        refine C_callV hc hz (As := []) hkv2 (by decide) (c8_readStep l D y _ _ hv2) w3_173 w3_175 wp2_6 w1_2 w3_176 hdX_X8_readStep ⟨(Nat.le_of_ble_eq_true rfl), (Nat.le_of_ble_eq_true rfl)⟩ rfl rfl rfl (Nat.le_of_ble_eq_true rfl) dX8_readSteps_46 ?_
        refine V_if_ne hc dX8_readSteps_49 rfl (fun hq49 => ?_) (fun hq49 => ?_)
        · rw [if_neg hq49] at hf
          refine V_iinc hc (j := 2) (v := (i2 + (1 : Int32))) dX8_readSteps_54 rfl rfl (by decide) rfl ?_
          refine V_iload_n hc dX8_readSteps_57 rfl 0 rfl ?_
          refine V_bipush hc (v := (40 : Int32)) dX8_readSteps_58 rfl ?_
          refine V_icmp_ge hc dX8_readSteps_60 rfl (fun hq60 => ?_) (fun hq60 => ?_)
          · rw [if_pos hq60] at hf
            refine V_aload_n hc dX8_readSteps_72 rfl 1 rfl ?_
            obtain ⟨S4, hS4, hf⟩ := mb hf
            obtain ⟨hkS4, hS4⟩ := og hS4
            refine C_callV hc hz (As := []) hkS4 (by decide) (c8_skipBlanks l D y _ _ hS4) w3_36 w3_38 wp1_4 w1_2 w3_39 hdX_X8_skipBlanks ⟨(Nat.le_of_ble_eq_true rfl), (Nat.le_of_ble_eq_true rfl)⟩ rfl rfl rfl (Nat.le_of_ble_eq_true rfl) dX8_readSteps_73 ?_
            refine V_goto hc dX8_readSteps_76 rfl ?_
            exact V_sub [1, 2, 0] rfl (ih _ _ hf hx0 hx1 hx2)
          · rw [if_neg hq60] at hf
            refine V_aload_n hc dX8_readSteps_63 rfl 1 rfl ?_
            obtain ⟨v5, S6, hv5, hf⟩ := mb2 hf
            obtain ⟨hkv5, hv5⟩ := og hv5
            refine C_callV hc hz (As := []) hkv5 (by decide) (c8_endsWell l D y _ _ hv5) w3_117 w3_119 wp1_9 w1_2 w3_120 hdX_X8_endsWell ⟨(Nat.le_of_ble_eq_true rfl), (Nat.le_of_ble_eq_true rfl)⟩ rfl rfl rfl (Nat.le_of_ble_eq_true rfl) dX8_readSteps_64 ?_
            refine V_if_ne hc dX8_readSteps_67 rfl (fun hq67 => ?_) (fun hq67 => ?_)
            · rw [if_neg hq67] at hf
              refine V_aload_n hc dX8_readSteps_72 rfl 1 rfl ?_
              obtain ⟨S7, hS7, hf⟩ := mb hf
              obtain ⟨hkS7, hS7⟩ := og hS7
              refine C_callV hc hz (As := []) hkS7 (by decide) (c8_skipBlanks l D y _ _ hS7) w3_36 w3_38 wp1_4 w1_2 w3_39 hdX_X8_skipBlanks ⟨(Nat.le_of_ble_eq_true rfl), (Nat.le_of_ble_eq_true rfl)⟩ rfl rfl rfl (Nat.le_of_ble_eq_true rfl) dX8_readSteps_73 ?_
              refine V_goto hc dX8_readSteps_76 rfl ?_
              exact V_sub [1, 2, 0] rfl (ih _ _ hf hx0 hx1 hx2)
            · rw [if_pos hq67] at hf
              obtain ⟨rfl, rfl, rfl⟩ := si3 hf
              exact V_sub [] rfl (hx1 rfl)
        · rw [if_pos hq49] at hf
          obtain ⟨rfl, rfl, rfl⟩ := si3 hf
          exact V_sub [] rfl (hx0 rfl)
set_option maxHeartbeats 4000000 in
set_option maxRecDepth 100000 in
theorem c8_readSteps (l : Launch) (D : va_G) (y : CyT) (zM uM : Nat) {S S' : CS} {h : Nat} {p1 : Int32} {r : Int32} (hf : f8_readSteps S h p1 = some (r, S')) : CT l D y yX8_readSteps cX8_readSteps 3 (some .boolean) 3 68 zM uM [.ref h, .int p1] (cZ S) (cU S) (cw y S) (cZ S') (cU S') (cw y S') (some (.int r)) := by
  refine CT.of (by decide) (Nat.le_of_ble_eq_true rfl) (fun E hc hzz hnm => ?_)
  have hc : Cx E "FarEditors$Told" cX8_readSteps 3 := hc
  have hz := hzz.1
  have hT := hz.2.2.1
  show V E (cZ S) (cU S) (cw y S) 0 [(0, .ref h), (1, .int p1)] []
  unfold f8_readSteps at hf
  refine V_aload_n hc dX8_readSteps_0 rfl 0 rfl ?_
  refine V_iconst hc (v := (1 : Int32)) dX8_readSteps_1 rfl ?_
  refine V_aload_n hc dX8_readSteps_2 rfl 0 rfl ?_
  obtain ⟨v1, hv1, hf⟩ := mb hf
  refine C_geti hc rfl iW8 (by decide) 8 (by decide) rfl hv1 w1_51 dX8_readSteps_3 ?_
  obtain ⟨S2, hS2, hf⟩ := mb hf
  obtain ⟨hkS2, hS2⟩ := og hS2
  refine C_callV hc hz (As := [.int (1 : Int32), .int v1]) hkS2 (by decide) (c8_setNumber l D y _ _ hS2) w3_149 w3_151 wp2_1 w1_2 w3_152 hdX_X8_setNumber ⟨(Nat.le_of_ble_eq_true rfl), (Nat.le_of_ble_eq_true rfl)⟩ rfl rfl rfl (Nat.le_of_ble_eq_true rfl) dX8_readSteps_6 ?_
  refine V_aload_n hc dX8_readSteps_9 rfl 0 rfl ?_
  obtain ⟨S3, hS3, hf⟩ := mb hf
  obtain ⟨hkS3, hS3⟩ := og hS3
  refine C_callV hc hz (As := []) hkS3 (by decide) (c8_skipBlanks l D y _ _ hS3) w3_36 w3_38 wp1_4 w1_2 w3_39 hdX_X8_skipBlanks ⟨(Nat.le_of_ble_eq_true rfl), (Nat.le_of_ble_eq_true rfl)⟩ rfl rfl rfl (Nat.le_of_ble_eq_true rfl) dX8_readSteps_10 ?_
  refine V_aload_n hc dX8_readSteps_13 rfl 0 rfl ?_
  obtain ⟨v4, hv4, hf⟩ := mb hf
  obtain ⟨hkv4, hv4⟩ := og hv4
  refine C_callV hc hz (As := []) hkv4 (by decide) (c8_isAtStep l D y _ _ hv4) w3_165 w3_167 wp2_4 w1_2 w3_168 hdX_X8_isAtStep ⟨(Nat.le_of_ble_eq_true rfl), (Nat.le_of_ble_eq_true rfl)⟩ rfl rfl rfl (Nat.le_of_ble_eq_true rfl) dX8_readSteps_14 ?_
  refine V_if_ne hc dX8_readSteps_17 rfl (fun hq17 => ?_) (fun hq17 => ?_)
  · rw [if_neg hq17] at hf
    refine V_iconst hc (v := (0 : Int32)) dX8_readSteps_30 rfl ?_
    refine V_istore_n hc dX8_readSteps_31 rfl (by decide) rfl ?_
    obtain ⟨t5, x6, S7, hv8, hf⟩ := mb3 hf
    refine V_sub [1, 2, 0] rfl (LX8_readSteps_32_ok hc h p1 hz FU _ _ hv8 (fun ht32_0 => ?_) (fun ht32_1 => ?_) (fun ht32_2 => ?_))
    · rw [if_pos ht32_0] at hf
      refine V_iconst hc (v := (0 : Int32)) dX8_readSteps_52 rfl ?_
      obtain ⟨rfl, rfl⟩ := si2 hf
      exact V_iret hc hzz rfl rfl rfl rfl rfl dX8_readSteps_53
    · rw [if_neg (by rw [ht32_1]; decide)] at hf
      rw [if_pos ht32_1] at hf
      refine V_iconst hc (v := (0 : Int32)) dX8_readSteps_70 rfl ?_
      obtain ⟨rfl, rfl⟩ := si2 hf
      exact V_iret hc hzz rfl rfl rfl rfl rfl dX8_readSteps_71
    · rw [if_neg (by rw [ht32_2]; decide)] at hf
      rw [if_neg (by rw [ht32_2]; decide)] at hf
      refine V_aload_n hc dX8_readSteps_79 rfl 0 rfl ?_
      refine V_iconst hc (v := (2 : Int32)) dX8_readSteps_80 rfl ?_
      refine V_aload_n hc dX8_readSteps_81 rfl 0 rfl ?_
      obtain ⟨v9, hv9, hf⟩ := mb hf
      refine C_geti hc rfl iW8 (by decide) 8 (by decide) rfl hv9 w1_51 dX8_readSteps_82 ?_
      obtain ⟨S10, hS10, hf⟩ := mb hf
      obtain ⟨hkS10, hS10⟩ := og hS10
      refine C_callV hc hz (As := [.int (2 : Int32), .int v9]) hkS10 (by decide) (c8_setNumber l D y _ _ hS10) w3_149 w3_151 wp2_1 w1_2 w3_152 hdX_X8_setNumber ⟨(Nat.le_of_ble_eq_true rfl), (Nat.le_of_ble_eq_true rfl)⟩ rfl rfl rfl (Nat.le_of_ble_eq_true rfl) dX8_readSteps_85 ?_
      refine V_iload_n hc dX8_readSteps_88 rfl 2 rfl ?_
      refine V_bipush hc (v := (40 : Int32)) dX8_readSteps_89 rfl ?_
      obtain ⟨v11, S12, hv13, hf⟩ := mb2 hf
      have hJ91 : V E (cZ S12) (cU S12) (cw y S12) 127 [] [.int v11] := by
        obtain ⟨v19, hv19, hf⟩ := mb hf
        obtain ⟨hbv19, rfl⟩ := bz_some hv19
        obtain ⟨rfl, rfl⟩ := si2 hf
        exact V_iret hc hzz (bz_nar hbv19) rfl rfl rfl rfl dX8_readSteps_127
      refine V_icmp_lt hc dX8_readSteps_91 rfl (fun hq91 => ?_) (fun hq91 => ?_)
      · rw [if_pos hq91] at hv13
        refine V_iconst hc (v := (1 : Int32)) dX8_readSteps_122 rfl ?_
        refine V_goto hc dX8_readSteps_123 rfl ?_
        obtain ⟨rfl, rfl⟩ := si2 hv13
        exact V_sub [] rfl hJ91
      · rw [if_neg hq91] at hv13
        refine V_aload_n hc dX8_readSteps_94 rfl 0 rfl ?_
        obtain ⟨v14, hv14, hv13⟩ := mb hv13
        obtain ⟨hkv14, hv14⟩ := og hv14
        refine C_callV hc hz (As := []) hkv14 (by decide) (c8_look l D y _ _ hv14) w3_169 w3_171 wp2_5 w1_2 w3_172 hdX_X8_look ⟨(Nat.le_of_ble_eq_true rfl), (Nat.le_of_ble_eq_true rfl)⟩ rfl rfl rfl (Nat.le_of_ble_eq_true rfl) dX8_readSteps_95 ?_
        refine V_iconst hc (v := (-1 : Int32)) dX8_readSteps_98 rfl ?_
        refine V_icmp_eq hc dX8_readSteps_99 rfl (fun hq99 => ?_) (fun hq99 => ?_)
        · rw [if_pos hq99] at hv13
          refine V_iconst hc (v := (1 : Int32)) dX8_readSteps_122 rfl ?_
          refine V_goto hc dX8_readSteps_123 rfl ?_
          obtain ⟨rfl, rfl⟩ := si2 hv13
          exact V_sub [] rfl hJ91
        · rw [if_neg hq99] at hv13
          refine V_aload_n hc dX8_readSteps_102 rfl 0 rfl ?_
          obtain ⟨v15, hv15, hv13⟩ := mb hv13
          obtain ⟨hkv15, hv15⟩ := og hv15
          refine C_callV hc hz (As := []) hkv15 (by decide) (c8_look l D y _ _ hv15) w3_169 w3_171 wp2_5 w1_2 w3_172 hdX_X8_look ⟨(Nat.le_of_ble_eq_true rfl), (Nat.le_of_ble_eq_true rfl)⟩ rfl rfl rfl (Nat.le_of_ble_eq_true rfl) dX8_readSteps_103 ?_
          refine V_iload_n hc dX8_readSteps_106 rfl 1 rfl ?_
          refine V_icmp_eq hc dX8_readSteps_107 rfl (fun hq107 => ?_) (fun hq107 => ?_)
          · rw [if_pos hq107] at hv13
            refine V_iconst hc (v := (1 : Int32)) dX8_readSteps_122 rfl ?_
            refine V_goto hc dX8_readSteps_123 rfl ?_
            obtain ⟨rfl, rfl⟩ := si2 hv13
            exact V_sub [] rfl hJ91
          · rw [if_neg hq107] at hv13
            refine V_aload_n hc dX8_readSteps_110 rfl 0 rfl ?_
            refine V_iconst hc (v := (5 : Int32)) dX8_readSteps_111 rfl ?_
            refine V_aload_n hc dX8_readSteps_112 rfl 0 rfl ?_
            obtain ⟨v16, hv16, hv13⟩ := mb hv13
            refine C_geti hc rfl iW8 (by decide) 11 (by decide) rfl hv16 w1_56 dX8_readSteps_113 ?_
            obtain ⟨v17, S18, hv17, hv13⟩ := mb2 hv13
            obtain ⟨hkv17, hv17⟩ := og hv17
            refine C_callV hc hz (As := [.int (5 : Int32), .int v16]) hkv17 (by decide) (c8_fail l D y _ _ hv17) w3_113 w3_115 wp1_8 w1_2 w3_116 hdX_X8_fail ⟨(Nat.le_of_ble_eq_true rfl), (Nat.le_of_ble_eq_true rfl)⟩ rfl rfl rfl (Nat.le_of_ble_eq_true rfl) dX8_readSteps_116 ?_
            refine V_if_eq hc dX8_readSteps_119 rfl (fun hq119 => ?_) (fun hq119 => ?_)
            · rw [if_pos hq119] at hv13
              refine V_iconst hc (v := (0 : Int32)) dX8_readSteps_126 rfl ?_
              obtain ⟨rfl, rfl⟩ := si2 hv13
              exact V_sub [] rfl hJ91
            · rw [if_neg hq119] at hv13
              refine V_iconst hc (v := (1 : Int32)) dX8_readSteps_122 rfl ?_
              refine V_goto hc dX8_readSteps_123 rfl ?_
              obtain ⟨rfl, rfl⟩ := si2 hv13
              exact V_sub [] rfl hJ91
  · rw [if_pos hq17] at hf
    refine V_aload_n hc dX8_readSteps_20 rfl 0 rfl ?_
    refine V_iconst hc (v := (1 : Int32)) dX8_readSteps_21 rfl ?_
    refine V_aload_n hc dX8_readSteps_22 rfl 0 rfl ?_
    obtain ⟨v20, hv20, hf⟩ := mb hf
    refine C_geti hc rfl iW8 (by decide) 11 (by decide) rfl hv20 w1_56 dX8_readSteps_23 ?_
    obtain ⟨v21, S22, hv21, hf⟩ := mb2 hf
    obtain ⟨hkv21, hv21⟩ := og hv21
    refine C_callV hc hz (As := [.int (1 : Int32), .int v20]) hkv21 (by decide) (c8_fail l D y _ _ hv21) w3_113 w3_115 wp1_8 w1_2 w3_116 hdX_X8_fail ⟨(Nat.le_of_ble_eq_true rfl), (Nat.le_of_ble_eq_true rfl)⟩ rfl rfl rfl (Nat.le_of_ble_eq_true rfl) dX8_readSteps_26 ?_
    obtain ⟨v23, hv23, hf⟩ := mb hf
    obtain ⟨hbv23, rfl⟩ := bz_some hv23
    obtain ⟨rfl, rfl⟩ := si2 hf
    exact V_iret hc hzz (bz_nar hbv23) rfl rfl rfl rfl dX8_readSteps_29
noncomputable def f8_readRest (S : CS) (h : Nat) (p1 : Int32) : Option (Int32 × CS) :=
  if p1 = (0 : Int32) then (
    bn2 (cal S 8 h (f8_readText S h)) fun v1 S2 =>
    (bz v1).bind fun v3 =>
    some (v3, S2)
  ) else (
    if p1 = (1 : Int32) then (
      bn2 (cal S 8 h (f8_readEditor S h)) fun v4 S5 =>
      bn2 (
        if v4 = 0 then (
          some ((0 : Int32), S5)
        ) else (
          bn2 (cal S5 8 h (f8_readNumber S5 h (1 : Int32) (0 : Int32) (9 : Int32))) fun v9 S10 =>
          if v9 = 0 then (
            some ((0 : Int32), S10)
          ) else (
            some ((1 : Int32), S10)
          )
        )
      ) fun v6 S7 =>
      (bz v6).bind fun v11 =>
      some (v11, S7)
    ) else (
      if p1 = (2 : Int32) then (
        bn2 (cal S 8 h (f8_readNumber S h (0 : Int32) (0 : Int32) (2 : Int32))) fun v12 S13 =>
        (bz v12).bind fun v14 =>
        some (v14, S13)
      ) else (
        if p1 = (3 : Int32) then (
          bn2 (cal S 8 h (f8_readEditor S h)) fun v15 S16 =>
          bn2 (
            if v15 = 0 then (
              some ((0 : Int32), S16)
            ) else (
              bn2 (cal S16 8 h (f8_readSteps S16 h (59 : Int32))) fun v20 S21 =>
              if v20 = 0 then (
                some ((0 : Int32), S21)
              ) else (
                some ((1 : Int32), S21)
              )
            )
          ) fun v17 S18 =>
          (bz v17).bind fun v22 =>
          some (v22, S18)
        ) else (
          if p1 = (4 : Int32) then (
            bn2 (cal S 8 h (f8_readEditor S h)) fun v23 S24 =>
            bn2 (
              if v23 = 0 then (
                some ((0 : Int32), S24)
              ) else (
                bn2 (cal S24 8 h (f8_readNumber S24 h (1 : Int32) (0 : Int32) (99 : Int32))) fun v28 S29 =>
                if v28 = 0 then (
                  some ((0 : Int32), S29)
                ) else (
                  some ((1 : Int32), S29)
                )
              )
            ) fun v25 S26 =>
            (bz v25).bind fun v30 =>
            some (v30, S26)
          ) else (
            if p1 = (5 : Int32) then (
              bn2 (cal S 8 h (f8_readEditor S h)) fun v31 S32 =>
              bn2 (
                if v31 = 0 then (
                  some ((0 : Int32), S32)
                ) else (
                  bn2 (cal S32 8 h (f8_readNumber S32 h (1 : Int32) (0 : Int32) (99 : Int32))) fun v36 S37 =>
                  if v36 = 0 then (
                    some ((0 : Int32), S37)
                  ) else (
                    bn2 (cal S37 8 h (f8_readNumber S37 h (2 : Int32) (0 : Int32) (99 : Int32))) fun v38 S39 =>
                    if v38 = 0 then (
                      some ((0 : Int32), S39)
                    ) else (
                      bn2 (cal S39 8 h (f8_readNumber S39 h (3 : Int32) (0 : Int32) (3 : Int32))) fun v40 S41 =>
                      if v40 = 0 then (
                        some ((0 : Int32), S41)
                      ) else (
                        some ((1 : Int32), S41)
                      )
                    )
                  )
                )
              ) fun v33 S34 =>
              (bz v33).bind fun v42 =>
              some (v42, S34)
            ) else (
              if p1 = (6 : Int32) then (
                bn2 (cal S 8 h (f8_readEditor S h)) fun v43 S44 =>
                (bz v43).bind fun v45 =>
                some (v45, S44)
              ) else (
                if p1 = (7 : Int32) then (
                  bn2 (cal S 8 h (f8_readEditor S h)) fun v46 S47 =>
                  (bz v46).bind fun v48 =>
                  some (v48, S47)
                ) else (
                  if p1 = (8 : Int32) then (
                    bn2 (cal S 8 h (f8_readNumber S h (0 : Int32) (1 : Int32) (99 : Int32))) fun v49 S50 =>
                    (bz v49).bind fun v51 =>
                    some (v51, S50)
                  ) else (
                    bn2 (cal S 8 h (f8_readEditor S h)) fun v52 S53 =>
                    (bz v52).bind fun v54 =>
                    some (v54, S53)
                  )
                )
              )
            )
          )
        )
      )
    )
  )
theorem hdX_X8_readRest : yX8_readRest.cls = "FarEditors$Told" ∧ yX8_readRest.cls ≠ "java/lang/invoke/MethodHandle" ∧ yX8_readRest.cls ≠ "java/lang/invoke/VarHandle" ∧ (parseMethodDescriptor yX8_readRest.desc).map (fun d => d.parameters.length) = some 1 := by decide +kernel
set_option maxHeartbeats 4000000 in
set_option maxRecDepth 100000 in
theorem c8_readRest (l : Launch) (D : va_G) (y : CyT) (zM uM : Nat) {S S' : CS} {h : Nat} {p1 : Int32} {r : Int32} (hf : f8_readRest S h p1 = some (r, S')) : CT l D y yX8_readRest cX8_readRest 2 (some .boolean) 7 152 zM uM [.ref h, .int p1] (cZ S) (cU S) (cw y S) (cZ S') (cU S') (cw y S') (some (.int r)) := by
  refine CT.of (by decide) (Nat.le_of_ble_eq_true rfl) (fun E hc hzz hnm => ?_)
  have hc : Cx E "FarEditors$Told" cX8_readRest 2 := hc
  have hz := hzz.1
  have hT := hz.2.2.1
  show V E (cZ S) (cU S) (cw y S) 0 [(0, .ref h), (1, .int p1)] []
  unfold f8_readRest at hf
  refine V_iload_n hc dX8_readRest_0 rfl 1 rfl ?_
  by_cases hs1_0 : p1 = (0 : Int32)
  · rw [if_pos hs1_0] at hf
    refine V_tableIn hc dX8_readRest_1 (by rw [hs1_0]; decide) (by rw [hs1_0]; decide) (off := 51) (by rw [hs1_0]; rfl) rfl ?_
    refine V_aload_n hc dX8_readRest_52 rfl 0 rfl ?_
    obtain ⟨v1, S2, hv1, hf⟩ := mb2 hf
    obtain ⟨hkv1, hv1⟩ := og hv1
    refine C_callV hc hz (As := []) hkv1 (by decide) (c8_readText l D y _ _ hv1) w3_129 w3_131 wp1_12 w1_2 w3_132 hdX_X8_readText ⟨(Nat.le_of_ble_eq_true rfl), (Nat.le_of_ble_eq_true rfl)⟩ rfl rfl rfl (Nat.le_of_ble_eq_true rfl) dX8_readRest_53 ?_
    obtain ⟨v3, hv3, hf⟩ := mb hf
    obtain ⟨hbv3, rfl⟩ := bz_some hv3
    obtain ⟨rfl, rfl⟩ := si2 hf
    exact V_iret hc hzz (bz_nar hbv3) rfl rfl rfl rfl dX8_readRest_56
  rw [if_neg hs1_0] at hf
  by_cases hs1_1 : p1 = (1 : Int32)
  · rw [if_pos hs1_1] at hf
    refine V_tableIn hc dX8_readRest_1 (by rw [hs1_1]; decide) (by rw [hs1_1]; decide) (off := 73) (by rw [hs1_1]; rfl) rfl ?_
    refine V_aload_n hc dX8_readRest_74 rfl 0 rfl ?_
    obtain ⟨v4, S5, hv4, hf⟩ := mb2 hf
    obtain ⟨hkv4, hv4⟩ := og hv4
    refine C_callV hc hz (As := []) hkv4 (by decide) (c8_readEditor l D y _ _ hv4) w3_157 w3_159 wp2_2 w1_2 w3_160 hdX_X8_readEditor ⟨(Nat.le_of_ble_eq_true rfl), (Nat.le_of_ble_eq_true rfl)⟩ rfl rfl rfl (Nat.le_of_ble_eq_true rfl) dX8_readRest_75 ?_
    obtain ⟨v6, S7, hv8, hf⟩ := mb2 hf
    have hJ78 : V E (cZ S7) (cU S7) (cw y S7) 97 [] [.int v6] := by
      obtain ⟨v11, hv11, hf⟩ := mb hf
      obtain ⟨hbv11, rfl⟩ := bz_some hv11
      obtain ⟨rfl, rfl⟩ := si2 hf
      exact V_iret hc hzz (bz_nar hbv11) rfl rfl rfl rfl dX8_readRest_97
    refine V_if_eq hc dX8_readRest_78 rfl (fun hq78 => ?_) (fun hq78 => ?_)
    · rw [if_pos hq78] at hv8
      refine V_iconst hc (v := (0 : Int32)) dX8_readRest_96 rfl ?_
      obtain ⟨rfl, rfl⟩ := si2 hv8
      exact V_sub [] rfl hJ78
    · rw [if_neg hq78] at hv8
      refine V_aload_n hc dX8_readRest_81 rfl 0 rfl ?_
      refine V_iconst hc (v := (1 : Int32)) dX8_readRest_82 rfl ?_
      refine V_iconst hc (v := (0 : Int32)) dX8_readRest_83 rfl ?_
      refine V_bipush hc (v := (9 : Int32)) dX8_readRest_84 rfl ?_
      obtain ⟨v9, S10, hv9, hv8⟩ := mb2 hv8
      obtain ⟨hkv9, hv9⟩ := og hv9
      refine C_callV hc hz (As := [.int (1 : Int32), .int (0 : Int32), .int (9 : Int32)]) hkv9 (by decide) (c8_readNumber l D y _ _ hv9) w3_141 w3_143 wp1_15 w1_2 w3_144 hdX_X8_readNumber ⟨(Nat.le_of_ble_eq_true rfl), (Nat.le_of_ble_eq_true rfl)⟩ rfl rfl rfl (Nat.le_of_ble_eq_true rfl) dX8_readRest_86 ?_
      refine V_if_eq hc dX8_readRest_89 rfl (fun hq89 => ?_) (fun hq89 => ?_)
      · rw [if_pos hq89] at hv8
        refine V_iconst hc (v := (0 : Int32)) dX8_readRest_96 rfl ?_
        obtain ⟨rfl, rfl⟩ := si2 hv8
        exact V_sub [] rfl hJ78
      · rw [if_neg hq89] at hv8
        refine V_iconst hc (v := (1 : Int32)) dX8_readRest_92 rfl ?_
        refine V_goto hc dX8_readRest_93 rfl ?_
        obtain ⟨rfl, rfl⟩ := si2 hv8
        exact V_sub [] rfl hJ78
  rw [if_neg hs1_1] at hf
  by_cases hs1_2 : p1 = (2 : Int32)
  · rw [if_pos hs1_2] at hf
    refine V_tableIn hc dX8_readRest_1 (by rw [hs1_2]; decide) (by rw [hs1_2]; decide) (off := 56) (by rw [hs1_2]; rfl) rfl ?_
    refine V_aload_n hc dX8_readRest_57 rfl 0 rfl ?_
    refine V_iconst hc (v := (0 : Int32)) dX8_readRest_58 rfl ?_
    refine V_iconst hc (v := (0 : Int32)) dX8_readRest_59 rfl ?_
    refine V_iconst hc (v := (2 : Int32)) dX8_readRest_60 rfl ?_
    obtain ⟨v12, S13, hv12, hf⟩ := mb2 hf
    obtain ⟨hkv12, hv12⟩ := og hv12
    refine C_callV hc hz (As := [.int (0 : Int32), .int (0 : Int32), .int (2 : Int32)]) hkv12 (by decide) (c8_readNumber l D y _ _ hv12) w3_141 w3_143 wp1_15 w1_2 w3_144 hdX_X8_readNumber ⟨(Nat.le_of_ble_eq_true rfl), (Nat.le_of_ble_eq_true rfl)⟩ rfl rfl rfl (Nat.le_of_ble_eq_true rfl) dX8_readRest_61 ?_
    obtain ⟨v14, hv14, hf⟩ := mb hf
    obtain ⟨hbv14, rfl⟩ := bz_some hv14
    obtain ⟨rfl, rfl⟩ := si2 hf
    exact V_iret hc hzz (bz_nar hbv14) rfl rfl rfl rfl dX8_readRest_64
  rw [if_neg hs1_2] at hf
  by_cases hs1_3 : p1 = (3 : Int32)
  · rw [if_pos hs1_3] at hf
    refine V_tableIn hc dX8_readRest_1 (by rw [hs1_3]; decide) (by rw [hs1_3]; decide) (off := 97) (by rw [hs1_3]; rfl) rfl ?_
    refine V_aload_n hc dX8_readRest_98 rfl 0 rfl ?_
    obtain ⟨v15, S16, hv15, hf⟩ := mb2 hf
    obtain ⟨hkv15, hv15⟩ := og hv15
    refine C_callV hc hz (As := []) hkv15 (by decide) (c8_readEditor l D y _ _ hv15) w3_157 w3_159 wp2_2 w1_2 w3_160 hdX_X8_readEditor ⟨(Nat.le_of_ble_eq_true rfl), (Nat.le_of_ble_eq_true rfl)⟩ rfl rfl rfl (Nat.le_of_ble_eq_true rfl) dX8_readRest_99 ?_
    obtain ⟨v17, S18, hv19, hf⟩ := mb2 hf
    have hJ102 : V E (cZ S18) (cU S18) (cw y S18) 119 [] [.int v17] := by
      obtain ⟨v22, hv22, hf⟩ := mb hf
      obtain ⟨hbv22, rfl⟩ := bz_some hv22
      obtain ⟨rfl, rfl⟩ := si2 hf
      exact V_iret hc hzz (bz_nar hbv22) rfl rfl rfl rfl dX8_readRest_119
    refine V_if_eq hc dX8_readRest_102 rfl (fun hq102 => ?_) (fun hq102 => ?_)
    · rw [if_pos hq102] at hv19
      refine V_iconst hc (v := (0 : Int32)) dX8_readRest_118 rfl ?_
      obtain ⟨rfl, rfl⟩ := si2 hv19
      exact V_sub [] rfl hJ102
    · rw [if_neg hq102] at hv19
      refine V_aload_n hc dX8_readRest_105 rfl 0 rfl ?_
      refine V_bipush hc (v := (59 : Int32)) dX8_readRest_106 rfl ?_
      obtain ⟨v20, S21, hv20, hv19⟩ := mb2 hv19
      obtain ⟨hkv20, hv20⟩ := og hv20
      refine C_callV hc hz (As := [.int (59 : Int32)]) hkv20 (by decide) (c8_readSteps l D y _ _ hv20) w3_161 w3_163 wp2_3 w1_2 w3_164 hdX_X8_readSteps ⟨(Nat.le_of_ble_eq_true rfl), (Nat.le_of_ble_eq_true rfl)⟩ rfl rfl rfl (Nat.le_of_ble_eq_true rfl) dX8_readRest_108 ?_
      refine V_if_eq hc dX8_readRest_111 rfl (fun hq111 => ?_) (fun hq111 => ?_)
      · rw [if_pos hq111] at hv19
        refine V_iconst hc (v := (0 : Int32)) dX8_readRest_118 rfl ?_
        obtain ⟨rfl, rfl⟩ := si2 hv19
        exact V_sub [] rfl hJ102
      · rw [if_neg hq111] at hv19
        refine V_iconst hc (v := (1 : Int32)) dX8_readRest_114 rfl ?_
        refine V_goto hc dX8_readRest_115 rfl ?_
        obtain ⟨rfl, rfl⟩ := si2 hv19
        exact V_sub [] rfl hJ102
  rw [if_neg hs1_3] at hf
  by_cases hs1_4 : p1 = (4 : Int32)
  · rw [if_pos hs1_4] at hf
    refine V_tableIn hc dX8_readRest_1 (by rw [hs1_4]; decide) (by rw [hs1_4]; decide) (off := 119) (by rw [hs1_4]; rfl) rfl ?_
    refine V_aload_n hc dX8_readRest_120 rfl 0 rfl ?_
    obtain ⟨v23, S24, hv23, hf⟩ := mb2 hf
    obtain ⟨hkv23, hv23⟩ := og hv23
    refine C_callV hc hz (As := []) hkv23 (by decide) (c8_readEditor l D y _ _ hv23) w3_157 w3_159 wp2_2 w1_2 w3_160 hdX_X8_readEditor ⟨(Nat.le_of_ble_eq_true rfl), (Nat.le_of_ble_eq_true rfl)⟩ rfl rfl rfl (Nat.le_of_ble_eq_true rfl) dX8_readRest_121 ?_
    obtain ⟨v25, S26, hv27, hf⟩ := mb2 hf
    have hJ124 : V E (cZ S26) (cU S26) (cw y S26) 143 [] [.int v25] := by
      obtain ⟨v30, hv30, hf⟩ := mb hf
      obtain ⟨hbv30, rfl⟩ := bz_some hv30
      obtain ⟨rfl, rfl⟩ := si2 hf
      exact V_iret hc hzz (bz_nar hbv30) rfl rfl rfl rfl dX8_readRest_143
    refine V_if_eq hc dX8_readRest_124 rfl (fun hq124 => ?_) (fun hq124 => ?_)
    · rw [if_pos hq124] at hv27
      refine V_iconst hc (v := (0 : Int32)) dX8_readRest_142 rfl ?_
      obtain ⟨rfl, rfl⟩ := si2 hv27
      exact V_sub [] rfl hJ124
    · rw [if_neg hq124] at hv27
      refine V_aload_n hc dX8_readRest_127 rfl 0 rfl ?_
      refine V_iconst hc (v := (1 : Int32)) dX8_readRest_128 rfl ?_
      refine V_iconst hc (v := (0 : Int32)) dX8_readRest_129 rfl ?_
      refine V_bipush hc (v := (99 : Int32)) dX8_readRest_130 rfl ?_
      obtain ⟨v28, S29, hv28, hv27⟩ := mb2 hv27
      obtain ⟨hkv28, hv28⟩ := og hv28
      refine C_callV hc hz (As := [.int (1 : Int32), .int (0 : Int32), .int (99 : Int32)]) hkv28 (by decide) (c8_readNumber l D y _ _ hv28) w3_141 w3_143 wp1_15 w1_2 w3_144 hdX_X8_readNumber ⟨(Nat.le_of_ble_eq_true rfl), (Nat.le_of_ble_eq_true rfl)⟩ rfl rfl rfl (Nat.le_of_ble_eq_true rfl) dX8_readRest_132 ?_
      refine V_if_eq hc dX8_readRest_135 rfl (fun hq135 => ?_) (fun hq135 => ?_)
      · rw [if_pos hq135] at hv27
        refine V_iconst hc (v := (0 : Int32)) dX8_readRest_142 rfl ?_
        obtain ⟨rfl, rfl⟩ := si2 hv27
        exact V_sub [] rfl hJ124
      · rw [if_neg hq135] at hv27
        refine V_iconst hc (v := (1 : Int32)) dX8_readRest_138 rfl ?_
        refine V_goto hc dX8_readRest_139 rfl ?_
        obtain ⟨rfl, rfl⟩ := si2 hv27
        exact V_sub [] rfl hJ124
  rw [if_neg hs1_4] at hf
  by_cases hs1_5 : p1 = (5 : Int32)
  · rw [if_pos hs1_5] at hf
    refine V_tableIn hc dX8_readRest_1 (by rw [hs1_5]; decide) (by rw [hs1_5]; decide) (off := 143) (by rw [hs1_5]; rfl) rfl ?_
    refine V_aload_n hc dX8_readRest_144 rfl 0 rfl ?_
    obtain ⟨v31, S32, hv31, hf⟩ := mb2 hf
    obtain ⟨hkv31, hv31⟩ := og hv31
    refine C_callV hc hz (As := []) hkv31 (by decide) (c8_readEditor l D y _ _ hv31) w3_157 w3_159 wp2_2 w1_2 w3_160 hdX_X8_readEditor ⟨(Nat.le_of_ble_eq_true rfl), (Nat.le_of_ble_eq_true rfl)⟩ rfl rfl rfl (Nat.le_of_ble_eq_true rfl) dX8_readRest_145 ?_
    obtain ⟨v33, S34, hv35, hf⟩ := mb2 hf
    have hJ148 : V E (cZ S34) (cU S34) (cw y S34) 188 [] [.int v33] := by
      obtain ⟨v42, hv42, hf⟩ := mb hf
      obtain ⟨hbv42, rfl⟩ := bz_some hv42
      obtain ⟨rfl, rfl⟩ := si2 hf
      exact V_iret hc hzz (bz_nar hbv42) rfl rfl rfl rfl dX8_readRest_188
    refine V_if_eq hc dX8_readRest_148 rfl (fun hq148 => ?_) (fun hq148 => ?_)
    · rw [if_pos hq148] at hv35
      refine V_iconst hc (v := (0 : Int32)) dX8_readRest_187 rfl ?_
      obtain ⟨rfl, rfl⟩ := si2 hv35
      exact V_sub [] rfl hJ148
    · rw [if_neg hq148] at hv35
      refine V_aload_n hc dX8_readRest_151 rfl 0 rfl ?_
      refine V_iconst hc (v := (1 : Int32)) dX8_readRest_152 rfl ?_
      refine V_iconst hc (v := (0 : Int32)) dX8_readRest_153 rfl ?_
      refine V_bipush hc (v := (99 : Int32)) dX8_readRest_154 rfl ?_
      obtain ⟨v36, S37, hv36, hv35⟩ := mb2 hv35
      obtain ⟨hkv36, hv36⟩ := og hv36
      refine C_callV hc hz (As := [.int (1 : Int32), .int (0 : Int32), .int (99 : Int32)]) hkv36 (by decide) (c8_readNumber l D y _ _ hv36) w3_141 w3_143 wp1_15 w1_2 w3_144 hdX_X8_readNumber ⟨(Nat.le_of_ble_eq_true rfl), (Nat.le_of_ble_eq_true rfl)⟩ rfl rfl rfl (Nat.le_of_ble_eq_true rfl) dX8_readRest_156 ?_
      refine V_if_eq hc dX8_readRest_159 rfl (fun hq159 => ?_) (fun hq159 => ?_)
      · rw [if_pos hq159] at hv35
        refine V_iconst hc (v := (0 : Int32)) dX8_readRest_187 rfl ?_
        obtain ⟨rfl, rfl⟩ := si2 hv35
        exact V_sub [] rfl hJ148
      · rw [if_neg hq159] at hv35
        refine V_aload_n hc dX8_readRest_162 rfl 0 rfl ?_
        refine V_iconst hc (v := (2 : Int32)) dX8_readRest_163 rfl ?_
        refine V_iconst hc (v := (0 : Int32)) dX8_readRest_164 rfl ?_
        refine V_bipush hc (v := (99 : Int32)) dX8_readRest_165 rfl ?_
        obtain ⟨v38, S39, hv38, hv35⟩ := mb2 hv35
        obtain ⟨hkv38, hv38⟩ := og hv38
        refine C_callV hc hz (As := [.int (2 : Int32), .int (0 : Int32), .int (99 : Int32)]) hkv38 (by decide) (c8_readNumber l D y _ _ hv38) w3_141 w3_143 wp1_15 w1_2 w3_144 hdX_X8_readNumber ⟨(Nat.le_of_ble_eq_true rfl), (Nat.le_of_ble_eq_true rfl)⟩ rfl rfl rfl (Nat.le_of_ble_eq_true rfl) dX8_readRest_167 ?_
        refine V_if_eq hc dX8_readRest_170 rfl (fun hq170 => ?_) (fun hq170 => ?_)
        · rw [if_pos hq170] at hv35
          refine V_iconst hc (v := (0 : Int32)) dX8_readRest_187 rfl ?_
          obtain ⟨rfl, rfl⟩ := si2 hv35
          exact V_sub [] rfl hJ148
        · rw [if_neg hq170] at hv35
          refine V_aload_n hc dX8_readRest_173 rfl 0 rfl ?_
          refine V_iconst hc (v := (3 : Int32)) dX8_readRest_174 rfl ?_
          refine V_iconst hc (v := (0 : Int32)) dX8_readRest_175 rfl ?_
          refine V_iconst hc (v := (3 : Int32)) dX8_readRest_176 rfl ?_
          obtain ⟨v40, S41, hv40, hv35⟩ := mb2 hv35
          obtain ⟨hkv40, hv40⟩ := og hv40
          refine C_callV hc hz (As := [.int (3 : Int32), .int (0 : Int32), .int (3 : Int32)]) hkv40 (by decide) (c8_readNumber l D y _ _ hv40) w3_141 w3_143 wp1_15 w1_2 w3_144 hdX_X8_readNumber ⟨(Nat.le_of_ble_eq_true rfl), (Nat.le_of_ble_eq_true rfl)⟩ rfl rfl rfl (Nat.le_of_ble_eq_true rfl) dX8_readRest_177 ?_
          refine V_if_eq hc dX8_readRest_180 rfl (fun hq180 => ?_) (fun hq180 => ?_)
          · rw [if_pos hq180] at hv35
            refine V_iconst hc (v := (0 : Int32)) dX8_readRest_187 rfl ?_
            obtain ⟨rfl, rfl⟩ := si2 hv35
            exact V_sub [] rfl hJ148
          · rw [if_neg hq180] at hv35
            refine V_iconst hc (v := (1 : Int32)) dX8_readRest_183 rfl ?_
            refine V_goto hc dX8_readRest_184 rfl ?_
            obtain ⟨rfl, rfl⟩ := si2 hv35
            exact V_sub [] rfl hJ148
  rw [if_neg hs1_5] at hf
  by_cases hs1_6 : p1 = (6 : Int32)
  · rw [if_pos hs1_6] at hf
    refine V_tableIn hc dX8_readRest_1 (by rw [hs1_6]; decide) (by rw [hs1_6]; decide) (off := 188) (by rw [hs1_6]; rfl) rfl ?_
    refine V_aload_n hc dX8_readRest_189 rfl 0 rfl ?_
    obtain ⟨v43, S44, hv43, hf⟩ := mb2 hf
    obtain ⟨hkv43, hv43⟩ := og hv43
    refine C_callV hc hz (As := []) hkv43 (by decide) (c8_readEditor l D y _ _ hv43) w3_157 w3_159 wp2_2 w1_2 w3_160 hdX_X8_readEditor ⟨(Nat.le_of_ble_eq_true rfl), (Nat.le_of_ble_eq_true rfl)⟩ rfl rfl rfl (Nat.le_of_ble_eq_true rfl) dX8_readRest_190 ?_
    obtain ⟨v45, hv45, hf⟩ := mb hf
    obtain ⟨hbv45, rfl⟩ := bz_some hv45
    obtain ⟨rfl, rfl⟩ := si2 hf
    exact V_iret hc hzz (bz_nar hbv45) rfl rfl rfl rfl dX8_readRest_193
  rw [if_neg hs1_6] at hf
  by_cases hs1_7 : p1 = (7 : Int32)
  · rw [if_pos hs1_7] at hf
    refine V_tableIn hc dX8_readRest_1 (by rw [hs1_7]; decide) (by rw [hs1_7]; decide) (off := 188) (by rw [hs1_7]; rfl) rfl ?_
    refine V_aload_n hc dX8_readRest_189 rfl 0 rfl ?_
    obtain ⟨v46, S47, hv46, hf⟩ := mb2 hf
    obtain ⟨hkv46, hv46⟩ := og hv46
    refine C_callV hc hz (As := []) hkv46 (by decide) (c8_readEditor l D y _ _ hv46) w3_157 w3_159 wp2_2 w1_2 w3_160 hdX_X8_readEditor ⟨(Nat.le_of_ble_eq_true rfl), (Nat.le_of_ble_eq_true rfl)⟩ rfl rfl rfl (Nat.le_of_ble_eq_true rfl) dX8_readRest_190 ?_
    obtain ⟨v48, hv48, hf⟩ := mb hf
    obtain ⟨hbv48, rfl⟩ := bz_some hv48
    obtain ⟨rfl, rfl⟩ := si2 hf
    exact V_iret hc hzz (bz_nar hbv48) rfl rfl rfl rfl dX8_readRest_193
  rw [if_neg hs1_7] at hf
  by_cases hs1_8 : p1 = (8 : Int32)
  · rw [if_pos hs1_8] at hf
    refine V_tableIn hc dX8_readRest_1 (by rw [hs1_8]; decide) (by rw [hs1_8]; decide) (off := 64) (by rw [hs1_8]; rfl) rfl ?_
    refine V_aload_n hc dX8_readRest_65 rfl 0 rfl ?_
    refine V_iconst hc (v := (0 : Int32)) dX8_readRest_66 rfl ?_
    refine V_iconst hc (v := (1 : Int32)) dX8_readRest_67 rfl ?_
    refine V_bipush hc (v := (99 : Int32)) dX8_readRest_68 rfl ?_
    obtain ⟨v49, S50, hv49, hf⟩ := mb2 hf
    obtain ⟨hkv49, hv49⟩ := og hv49
    refine C_callV hc hz (As := [.int (0 : Int32), .int (1 : Int32), .int (99 : Int32)]) hkv49 (by decide) (c8_readNumber l D y _ _ hv49) w3_141 w3_143 wp1_15 w1_2 w3_144 hdX_X8_readNumber ⟨(Nat.le_of_ble_eq_true rfl), (Nat.le_of_ble_eq_true rfl)⟩ rfl rfl rfl (Nat.le_of_ble_eq_true rfl) dX8_readRest_70 ?_
    obtain ⟨v51, hv51, hf⟩ := mb hf
    obtain ⟨hbv51, rfl⟩ := bz_some hv51
    obtain ⟨rfl, rfl⟩ := si2 hf
    exact V_iret hc hzz (bz_nar hbv51) rfl rfl rfl rfl dX8_readRest_73
  rw [if_neg hs1_8] at hf
  have hto : p1.toInt < 0 ∨ 8 < p1.toInt := by
    have ht0 : ¬ p1.toInt = 0 := fun hh => hs1_0 (Int32.toInt_inj.mp (hh.trans rfl))
    have ht1 : ¬ p1.toInt = 1 := fun hh => hs1_1 (Int32.toInt_inj.mp (hh.trans rfl))
    have ht2 : ¬ p1.toInt = 2 := fun hh => hs1_2 (Int32.toInt_inj.mp (hh.trans rfl))
    have ht3 : ¬ p1.toInt = 3 := fun hh => hs1_3 (Int32.toInt_inj.mp (hh.trans rfl))
    have ht4 : ¬ p1.toInt = 4 := fun hh => hs1_4 (Int32.toInt_inj.mp (hh.trans rfl))
    have ht5 : ¬ p1.toInt = 5 := fun hh => hs1_5 (Int32.toInt_inj.mp (hh.trans rfl))
    have ht6 : ¬ p1.toInt = 6 := fun hh => hs1_6 (Int32.toInt_inj.mp (hh.trans rfl))
    have ht7 : ¬ p1.toInt = 7 := fun hh => hs1_7 (Int32.toInt_inj.mp (hh.trans rfl))
    have ht8 : ¬ p1.toInt = 8 := fun hh => hs1_8 (Int32.toInt_inj.mp (hh.trans rfl))
    omega
  refine V_tableOut hc dX8_readRest_1 hto rfl ?_
  refine V_aload_n hc dX8_readRest_189 rfl 0 rfl ?_
  obtain ⟨v52, S53, hv52, hf⟩ := mb2 hf
  obtain ⟨hkv52, hv52⟩ := og hv52
  refine C_callV hc hz (As := []) hkv52 (by decide) (c8_readEditor l D y _ _ hv52) w3_157 w3_159 wp2_2 w1_2 w3_160 hdX_X8_readEditor ⟨(Nat.le_of_ble_eq_true rfl), (Nat.le_of_ble_eq_true rfl)⟩ rfl rfl rfl (Nat.le_of_ble_eq_true rfl) dX8_readRest_190 ?_
  obtain ⟨v54, hv54, hf⟩ := mb hf
  obtain ⟨hbv54, rfl⟩ := bz_some hv54
  obtain ⟨rfl, rfl⟩ := si2 hf
  exact V_iret hc hzz (bz_nar hbv54) rfl rfl rfl rfl dX8_readRest_193
