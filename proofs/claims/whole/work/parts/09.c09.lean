noncomputable def f8_fail (S : CS) (h : Nat) (p1 : Int32) (p2 : Int32) : Option (Int32 × CS) :=
  (pi S 8 h 2 p1).bind fun S1 =>
  (pi S1 8 h 3 p2).bind fun S2 =>
  some ((0 : Int32), S2)
theorem hdX_X8_fail : yX8_fail.cls = "FarEditors$Told" ∧ yX8_fail.cls ≠ "java/lang/invoke/MethodHandle" ∧ yX8_fail.cls ≠ "java/lang/invoke/VarHandle" ∧ (parseMethodDescriptor yX8_fail.desc).map (fun d => d.parameters.length) = some 2 := by decide +kernel
set_option maxHeartbeats 4000000 in
set_option maxRecDepth 100000 in
theorem c8_fail (l : Launch) (D : va_G) (y : CyT) (zM uM : Nat) {S S' : CS} {h : Nat} {p1 : Int32} {p2 : Int32} {r : Int32} (hf : f8_fail S h p1 p2 = some (r, S')) : CT l D y yX8_fail cX8_fail 3 (some .boolean) 0 0 zM uM [.ref h, .int p1, .int p2] (cZ S) (cU S) (cw y S) (cZ S') (cU S') (cw y S') (some (.int r)) := by
  refine CT.of (by decide) (Nat.le_of_ble_eq_true rfl) (fun E hc hzz hnm => ?_)
  have hc : Cx E "FarEditors$Told" cX8_fail 3 := hc
  have hz := hzz.1
  have hT := hz.2.2.1
  show V E (cZ S) (cU S) (cw y S) 0 [(0, .ref h), (1, .int p1), (2, .int p2)] []
  unfold f8_fail at hf
  refine V_aload_n hc dX8_fail_0 rfl 0 rfl ?_
  refine V_iload_n hc dX8_fail_1 rfl 1 rfl ?_
  obtain ⟨S1, hS1, hf⟩ := mb hf
  refine C_puti hc rfl iW8 tyX8 tyX8_ok nmX8 (by decide) 2 (by decide) rfl hS1 w1_39 rfl rfl rfl dX8_fail_2 ?_
  refine V_aload_n hc dX8_fail_5 rfl 0 rfl ?_
  refine V_iload_n hc dX8_fail_6 rfl 2 rfl ?_
  obtain ⟨S2, hS2, hf⟩ := mb hf
  refine C_puti hc rfl iW8 tyX8 tyX8_ok nmX8 (by decide) 3 (by decide) rfl hS2 w1_41 rfl rfl rfl dX8_fail_7 ?_
  refine V_iconst hc (v := (0 : Int32)) dX8_fail_10 rfl ?_
  obtain ⟨rfl, rfl⟩ := si2 hf
  exact V_iret hc hzz rfl rfl rfl rfl rfl dX8_fail_11
noncomputable def f8_isAtDigit (S : CS) (h : Nat) : Option (Int32) :=
  (gi S 8 h 11).bind fun v1 =>
  (gi S 8 h 1).bind fun v2 =>
  (
    if v2 ≤ v1 then (
      some (0 : Int32)
    ) else (
      (gr S 8 h 0).bind fun a5 =>
      (gi S 8 h 11).bind fun v6 =>
      (ldi S a5 v6).bind fun v7 =>
      if v7 < (48 : Int32) then (
        some (0 : Int32)
      ) else (
        (gr S 8 h 0).bind fun a8 =>
        (gi S 8 h 11).bind fun v9 =>
        (ldi S a8 v9).bind fun v10 =>
        if (57 : Int32) < v10 then (
          some (0 : Int32)
        ) else (
          some (1 : Int32)
        )
      )
    )
  ).bind fun v3 =>
  (bz v3).bind fun v11 =>
  some v11
theorem hdX_X8_isAtDigit : yX8_isAtDigit.cls = "FarEditors$Told" ∧ yX8_isAtDigit.cls ≠ "java/lang/invoke/MethodHandle" ∧ yX8_isAtDigit.cls ≠ "java/lang/invoke/VarHandle" ∧ (parseMethodDescriptor yX8_isAtDigit.desc).map (fun d => d.parameters.length) = some 0 := by decide +kernel
set_option maxHeartbeats 4000000 in
set_option maxRecDepth 100000 in
theorem c8_isAtDigit (l : Launch) (D : va_G) (y : CyT) (zM uM : Nat) {S : CS} {h : Nat} {r : Int32} (hf : f8_isAtDigit S h = some r) : CT l D y yX8_isAtDigit cX8_isAtDigit 1 (some .boolean) 0 0 zM uM [.ref h] (cZ S) (cU S) (cw y S) (cZ S) (cU S) (cw y S) (some (.int r)) := by
  refine CT.of (by decide) (Nat.le_of_ble_eq_true rfl) (fun E hc hzz hnm => ?_)
  have hc : Cx E "FarEditors$Told" cX8_isAtDigit 1 := hc
  have hz := hzz.1
  have hT := hz.2.2.1
  show V E (cZ S) (cU S) (cw y S) 0 [(0, .ref h)] []
  unfold f8_isAtDigit at hf
  refine V_aload_n hc dX8_isAtDigit_0 rfl 0 rfl ?_
  obtain ⟨v1, hv1, hf⟩ := mb hf
  refine C_geti hc rfl iW8 (by decide) 11 (by decide) rfl hv1 w1_56 dX8_isAtDigit_1 ?_
  refine V_aload_n hc dX8_isAtDigit_4 rfl 0 rfl ?_
  obtain ⟨v2, hv2, hf⟩ := mb hf
  refine C_geti hc rfl iW8 (by decide) 1 (by decide) rfl hv2 w1_37 dX8_isAtDigit_5 ?_
  obtain ⟨v3, hv4, hf⟩ := mb hf
  have hJ8 : V E (cZ S) (cU S) (cw y S) 44 [] [.int v3] := by
    obtain ⟨v11, hv11, hf⟩ := mb hf
    obtain ⟨hbv11, rfl⟩ := bz_some hv11
    obtain rfl := Option.some.inj hf
    exact V_iret hc hzz (bz_nar hbv11) rfl rfl rfl rfl dX8_isAtDigit_44
  refine V_icmp_ge hc dX8_isAtDigit_8 rfl (fun hq8 => ?_) (fun hq8 => ?_)
  · rw [if_pos hq8] at hv4
    refine V_iconst hc (v := (0 : Int32)) dX8_isAtDigit_43 rfl ?_
    obtain rfl := Option.some.inj hv4
    exact V_sub [] rfl hJ8
  · rw [if_neg hq8] at hv4
    refine V_aload_n hc dX8_isAtDigit_11 rfl 0 rfl ?_
    obtain ⟨a5, ha5, hv4⟩ := mb hv4
    refine C_getr hc rfl iW8 (by decide) 0 (by decide) rfl ha5 w1_35 dX8_isAtDigit_12 ?_
    refine V_aload_n hc dX8_isAtDigit_15 rfl 0 rfl ?_
    obtain ⟨v6, hv6, hv4⟩ := mb hv4
    refine C_geti hc rfl iW8 (by decide) 11 (by decide) rfl hv6 w1_56 dX8_isAtDigit_16 ?_
    obtain ⟨v7, hv7, hv4⟩ := mb hv4
    refine C_iald hc hT hv7 dX8_isAtDigit_19 ?_
    refine V_bipush hc (v := (48 : Int32)) dX8_isAtDigit_20 rfl ?_
    refine V_icmp_lt hc dX8_isAtDigit_22 rfl (fun hq22 => ?_) (fun hq22 => ?_)
    · rw [if_pos hq22] at hv4
      refine V_iconst hc (v := (0 : Int32)) dX8_isAtDigit_43 rfl ?_
      obtain rfl := Option.some.inj hv4
      exact V_sub [] rfl hJ8
    · rw [if_neg hq22] at hv4
      refine V_aload_n hc dX8_isAtDigit_25 rfl 0 rfl ?_
      obtain ⟨a8, ha8, hv4⟩ := mb hv4
      refine C_getr hc rfl iW8 (by decide) 0 (by decide) rfl ha8 w1_35 dX8_isAtDigit_26 ?_
      refine V_aload_n hc dX8_isAtDigit_29 rfl 0 rfl ?_
      obtain ⟨v9, hv9, hv4⟩ := mb hv4
      refine C_geti hc rfl iW8 (by decide) 11 (by decide) rfl hv9 w1_56 dX8_isAtDigit_30 ?_
      obtain ⟨v10, hv10, hv4⟩ := mb hv4
      refine C_iald hc hT hv10 dX8_isAtDigit_33 ?_
      refine V_bipush hc (v := (57 : Int32)) dX8_isAtDigit_34 rfl ?_
      refine V_icmp_gt hc dX8_isAtDigit_36 rfl (fun hq36 => ?_) (fun hq36 => ?_)
      · rw [if_pos hq36] at hv4
        refine V_iconst hc (v := (0 : Int32)) dX8_isAtDigit_43 rfl ?_
        obtain rfl := Option.some.inj hv4
        exact V_sub [] rfl hJ8
      · rw [if_neg hq36] at hv4
        refine V_iconst hc (v := (1 : Int32)) dX8_isAtDigit_39 rfl ?_
        refine V_goto hc dX8_isAtDigit_40 rfl ?_
        obtain rfl := Option.some.inj hv4
        exact V_sub [] rfl hJ8
noncomputable def f8_endsWell (S : CS) (h : Nat) : Option (Int32 × CS) :=
  (cal S 8 h (f8_isAtDigit S h)).bind fun v1 =>
  bn2 (
    if v1 = 0 then (
      some ((1 : Int32), S)
    ) else (
      (gi S 8 h 11).bind fun v5 =>
      bn2 (cal S 8 h (f8_fail S h (1 : Int32) v5)) fun v6 S7 =>
      if v6 = 0 then (
        some ((0 : Int32), S7)
      ) else (
        some ((1 : Int32), S7)
      )
    )
  ) fun v2 S3 =>
  (bz v2).bind fun v8 =>
  some (v8, S3)
theorem hdX_X8_endsWell : yX8_endsWell.cls = "FarEditors$Told" ∧ yX8_endsWell.cls ≠ "java/lang/invoke/MethodHandle" ∧ yX8_endsWell.cls ≠ "java/lang/invoke/VarHandle" ∧ (parseMethodDescriptor yX8_endsWell.desc).map (fun d => d.parameters.length) = some 0 := by decide +kernel
set_option maxHeartbeats 4000000 in
set_option maxRecDepth 100000 in
theorem c8_endsWell (l : Launch) (D : va_G) (y : CyT) (zM uM : Nat) {S S' : CS} {h : Nat} {r : Int32} (hf : f8_endsWell S h = some (r, S')) : CT l D y yX8_endsWell cX8_endsWell 1 (some .boolean) 1 22 zM uM [.ref h] (cZ S) (cU S) (cw y S) (cZ S') (cU S') (cw y S') (some (.int r)) := by
  refine CT.of (by decide) (Nat.le_of_ble_eq_true rfl) (fun E hc hzz hnm => ?_)
  have hc : Cx E "FarEditors$Told" cX8_endsWell 1 := hc
  have hz := hzz.1
  have hT := hz.2.2.1
  show V E (cZ S) (cU S) (cw y S) 0 [(0, .ref h)] []
  unfold f8_endsWell at hf
  refine V_aload_n hc dX8_endsWell_0 rfl 0 rfl ?_
  obtain ⟨v1, hv1, hf⟩ := mb hf
  obtain ⟨hkv1, hv1⟩ := og hv1
  refine C_callV hc hz (As := []) hkv1 (by decide) (c8_isAtDigit l D y _ _ hv1) w3_121 w3_123 wp1_10 w1_2 w3_124 hdX_X8_isAtDigit ⟨(Nat.le_of_ble_eq_true rfl), (Nat.le_of_ble_eq_true rfl)⟩ rfl rfl rfl (Nat.le_of_ble_eq_true rfl) dX8_endsWell_1 ?_
  obtain ⟨v2, S3, hv4, hf⟩ := mb2 hf
  have hJ4 : V E (cZ S3) (cU S3) (cw y S3) 24 [] [.int v2] := by
    obtain ⟨v8, hv8, hf⟩ := mb hf
    obtain ⟨hbv8, rfl⟩ := bz_some hv8
    obtain ⟨rfl, rfl⟩ := si2 hf
    exact V_iret hc hzz (bz_nar hbv8) rfl rfl rfl rfl dX8_endsWell_24
  refine V_if_eq hc dX8_endsWell_4 rfl (fun hq4 => ?_) (fun hq4 => ?_)
  · rw [if_pos hq4] at hv4
    refine V_iconst hc (v := (1 : Int32)) dX8_endsWell_19 rfl ?_
    refine V_goto hc dX8_endsWell_20 rfl ?_
    obtain ⟨rfl, rfl⟩ := si2 hv4
    exact V_sub [] rfl hJ4
  · rw [if_neg hq4] at hv4
    refine V_aload_n hc dX8_endsWell_7 rfl 0 rfl ?_
    refine V_iconst hc (v := (1 : Int32)) dX8_endsWell_8 rfl ?_
    refine V_aload_n hc dX8_endsWell_9 rfl 0 rfl ?_
    obtain ⟨v5, hv5, hv4⟩ := mb hv4
    refine C_geti hc rfl iW8 (by decide) 11 (by decide) rfl hv5 w1_56 dX8_endsWell_10 ?_
    obtain ⟨v6, S7, hv6, hv4⟩ := mb2 hv4
    obtain ⟨hkv6, hv6⟩ := og hv6
    refine C_callV hc hz (As := [.int (1 : Int32), .int v5]) hkv6 (by decide) (c8_fail l D y _ _ hv6) w3_113 w3_115 wp1_8 w1_2 w3_116 hdX_X8_fail ⟨(Nat.le_of_ble_eq_true rfl), (Nat.le_of_ble_eq_true rfl)⟩ rfl rfl rfl (Nat.le_of_ble_eq_true rfl) dX8_endsWell_13 ?_
    refine V_if_eq hc dX8_endsWell_16 rfl (fun hq16 => ?_) (fun hq16 => ?_)
    · rw [if_pos hq16] at hv4
      refine V_iconst hc (v := (0 : Int32)) dX8_endsWell_23 rfl ?_
      obtain ⟨rfl, rfl⟩ := si2 hv4
      exact V_sub [] rfl hJ4
    · rw [if_neg hq16] at hv4
      refine V_iconst hc (v := (1 : Int32)) dX8_endsWell_19 rfl ?_
      refine V_goto hc dX8_endsWell_20 rfl ?_
      obtain ⟨rfl, rfl⟩ := si2 hv4
      exact V_sub [] rfl hJ4
noncomputable def f8_readKeyword (S : CS) (h : Nat) : Option (Int32 × CS) :=
  (cal S 8 h (f8_skipBlanks S h)).bind fun S1 =>
  (gi S1 8 h 11).bind fun v2 =>
  bn2 (cal S1 8 h (f8_findKeyword S1 h)) fun v3 S4 =>
  if v3 = (-1 : Int32) then (
    bn2 (cal S4 8 h (f8_fail S4 h (1 : Int32) v2)) fun v5 S6 =>
    some ((-1 : Int32), S6)
  ) else (
    if v3 = (9 : Int32) then (
      bn2 (cal S4 8 h (f8_fail S4 h (1 : Int32) v2)) fun v7 S8 =>
      some ((-1 : Int32), S8)
    ) else (
      (
        if v3 = 0 then (
          some (1 : Int32)
        ) else (
          some (0 : Int32)
        )
      ).bind fun v9 =>
      (gi S4 8 h 4).bind fun v11 =>
      (
        if v11 = 0 then (
          some (1 : Int32)
        ) else (
          some (0 : Int32)
        )
      ).bind fun v12 =>
      if v9 = v12 then (
        bn2 (cal S4 8 h (f8_endsWell S4 h)) fun v14 S15 =>
        (
          if v14 = 0 then (
            some (-1 : Int32)
          ) else (
            some v3
          )
        ).bind fun v16 =>
        some (v16, S15)
      ) else (
        bn2 (cal S4 8 h (f8_fail S4 h (1 : Int32) v2)) fun v18 S19 =>
        some ((-1 : Int32), S19)
      )
    )
  )
theorem hdX_X8_readKeyword : yX8_readKeyword.cls = "FarEditors$Told" ∧ yX8_readKeyword.cls ≠ "java/lang/invoke/MethodHandle" ∧ yX8_readKeyword.cls ≠ "java/lang/invoke/VarHandle" ∧ (parseMethodDescriptor yX8_readKeyword.desc).map (fun d => d.parameters.length) = some 0 := by decide +kernel
set_option maxHeartbeats 4000000 in
set_option maxRecDepth 100000 in
theorem c8_readKeyword (l : Launch) (D : va_G) (y : CyT) (zM uM : Nat) {S S' : CS} {h : Nat} {r : Int32} (hf : f8_readKeyword S h = some (r, S')) : CT l D y yX8_readKeyword cX8_readKeyword 3 (some .int) 6 131 zM uM [.ref h] (cZ S) (cU S) (cw y S) (cZ S') (cU S') (cw y S') (some (.int r)) := by
  refine CT.of (by decide) (Nat.le_of_ble_eq_true rfl) (fun E hc hzz hnm => ?_)
  have hc : Cx E "FarEditors$Told" cX8_readKeyword 3 := hc
  have hz := hzz.1
  have hT := hz.2.2.1
  show V E (cZ S) (cU S) (cw y S) 0 [(0, .ref h)] []
  unfold f8_readKeyword at hf
  refine V_aload_n hc dX8_readKeyword_0 rfl 0 rfl ?_
  obtain ⟨S1, hS1, hf⟩ := mb hf
  obtain ⟨hkS1, hS1⟩ := og hS1
  refine C_callV hc hz (As := []) hkS1 (by decide) (c8_skipBlanks l D y _ _ hS1) w3_36 w3_38 wp1_4 w1_2 w3_39 hdX_X8_skipBlanks ⟨(Nat.le_of_ble_eq_true rfl), (Nat.le_of_ble_eq_true rfl)⟩ rfl rfl rfl (Nat.le_of_ble_eq_true rfl) dX8_readKeyword_1 ?_
  refine V_aload_n hc dX8_readKeyword_4 rfl 0 rfl ?_
  obtain ⟨v2, hv2, hf⟩ := mb hf
  refine C_geti hc rfl iW8 (by decide) 11 (by decide) rfl hv2 w1_56 dX8_readKeyword_5 ?_
  refine V_istore_n hc dX8_readKeyword_8 rfl (by decide) rfl ?_
  refine V_aload_n hc dX8_readKeyword_9 rfl 1 rfl ?_
  obtain ⟨v3, S4, hv3, hf⟩ := mb2 hf
  obtain ⟨hkv3, hv3⟩ := og hv3
  refine C_callV hc hz (As := []) hkv3 (by decide) (c8_findKeyword l D y _ _ hv3) w3_40 w3_42 wp1_5 w1_2 w3_43 hdX_X8_findKeyword ⟨(Nat.le_of_ble_eq_true rfl), (Nat.le_of_ble_eq_true rfl)⟩ rfl rfl rfl (Nat.le_of_ble_eq_true rfl) dX8_readKeyword_10 ?_
  refine V_istore_n hc dX8_readKeyword_13 rfl (by decide) rfl ?_
  refine V_iload_n hc dX8_readKeyword_14 rfl 0 rfl ?_
  refine V_iconst hc (v := (-1 : Int32)) dX8_readKeyword_15 rfl ?_
  refine V_icmp_eq hc dX8_readKeyword_16 rfl (fun hq16 => ?_) (fun hq16 => ?_)
  · rw [if_pos hq16] at hf
    refine V_aload_n hc dX8_readKeyword_49 rfl 2 rfl ?_
    refine V_iconst hc (v := (1 : Int32)) dX8_readKeyword_50 rfl ?_
    refine V_iload_n hc dX8_readKeyword_51 rfl 1 rfl ?_
    obtain ⟨v5, S6, hv5, hf⟩ := mb2 hf
    obtain ⟨hkv5, hv5⟩ := og hv5
    refine C_callV hc hz (As := [.int (1 : Int32), .int v2]) hkv5 (by decide) (c8_fail l D y _ _ hv5) w3_113 w3_115 wp1_8 w1_2 w3_116 hdX_X8_fail ⟨(Nat.le_of_ble_eq_true rfl), (Nat.le_of_ble_eq_true rfl)⟩ rfl rfl rfl (Nat.le_of_ble_eq_true rfl) dX8_readKeyword_52 ?_
    refine V_pop hc dX8_readKeyword_55 rfl ?_
    refine V_iconst hc (v := (-1 : Int32)) dX8_readKeyword_56 rfl ?_
    obtain ⟨rfl, rfl⟩ := si2 hf
    exact V_iret hc hzz rfl rfl rfl rfl rfl dX8_readKeyword_57
  · rw [if_neg hq16] at hf
    refine V_iload_n hc dX8_readKeyword_19 rfl 0 rfl ?_
    refine V_bipush hc (v := (9 : Int32)) dX8_readKeyword_20 rfl ?_
    refine V_icmp_eq hc dX8_readKeyword_22 rfl (fun hq22 => ?_) (fun hq22 => ?_)
    · rw [if_pos hq22] at hf
      refine V_aload_n hc dX8_readKeyword_49 rfl 2 rfl ?_
      refine V_iconst hc (v := (1 : Int32)) dX8_readKeyword_50 rfl ?_
      refine V_iload_n hc dX8_readKeyword_51 rfl 1 rfl ?_
      obtain ⟨v7, S8, hv7, hf⟩ := mb2 hf
      obtain ⟨hkv7, hv7⟩ := og hv7
      refine C_callV hc hz (As := [.int (1 : Int32), .int v2]) hkv7 (by decide) (c8_fail l D y _ _ hv7) w3_113 w3_115 wp1_8 w1_2 w3_116 hdX_X8_fail ⟨(Nat.le_of_ble_eq_true rfl), (Nat.le_of_ble_eq_true rfl)⟩ rfl rfl rfl (Nat.le_of_ble_eq_true rfl) dX8_readKeyword_52 ?_
      refine V_pop hc dX8_readKeyword_55 rfl ?_
      refine V_iconst hc (v := (-1 : Int32)) dX8_readKeyword_56 rfl ?_
      obtain ⟨rfl, rfl⟩ := si2 hf
      exact V_iret hc hzz rfl rfl rfl rfl rfl dX8_readKeyword_57
    · rw [if_neg hq22] at hf
      refine V_iload_n hc dX8_readKeyword_25 rfl 0 rfl ?_
      obtain ⟨v9, hv10, hf⟩ := mb hf
      have hJ26 : V E (cZ S4) (cU S4) (cw y S4) 34 [(0, .ref h), (1, .int v2), (2, .int v3)] [.int v9] := by
        refine V_aload_n hc dX8_readKeyword_34 rfl 0 rfl ?_
        obtain ⟨v11, hv11, hf⟩ := mb hf
        refine C_geti hc rfl iW8 (by decide) 4 (by decide) rfl hv11 w1_43 dX8_readKeyword_35 ?_
        obtain ⟨v12, hv13, hf⟩ := mb hf
        have hJ38 : V E (cZ S4) (cU S4) (cw y S4) 46 [(0, .ref h), (1, .int v2), (2, .int v3)] [.int v12, .int v9] := by
          refine V_icmp_eq hc dX8_readKeyword_46 rfl (fun hq46 => ?_) (fun hq46 => ?_)
          · rw [if_pos hq46] at hf
            refine V_aload_n hc dX8_readKeyword_58 rfl 0 rfl ?_
            obtain ⟨v14, S15, hv14, hf⟩ := mb2 hf
            obtain ⟨hkv14, hv14⟩ := og hv14
            refine C_callV hc hz (As := []) hkv14 (by decide) (c8_endsWell l D y _ _ hv14) w3_117 w3_119 wp1_9 w1_2 w3_120 hdX_X8_endsWell ⟨(Nat.le_of_ble_eq_true rfl), (Nat.le_of_ble_eq_true rfl)⟩ rfl rfl rfl (Nat.le_of_ble_eq_true rfl) dX8_readKeyword_59 ?_
            obtain ⟨v16, hv17, hf⟩ := mb hf
            have hJ62 : V E (cZ S15) (cU S15) (cw y S15) 70 [] [.int v16] := by
              obtain ⟨rfl, rfl⟩ := si2 hf
              exact V_iret hc hzz rfl rfl rfl rfl rfl dX8_readKeyword_70
            refine V_if_eq hc dX8_readKeyword_62 rfl (fun hq62 => ?_) (fun hq62 => ?_)
            · rw [if_pos hq62] at hv17
              refine V_iconst hc (v := (-1 : Int32)) dX8_readKeyword_69 rfl ?_
              obtain rfl := Option.some.inj hv17
              exact V_sub [] rfl hJ62
            · rw [if_neg hq62] at hv17
              refine V_iload_n hc dX8_readKeyword_65 rfl 2 rfl ?_
              refine V_goto hc dX8_readKeyword_66 rfl ?_
              obtain rfl := Option.some.inj hv17
              exact V_sub [] rfl hJ62
          · rw [if_neg hq46] at hf
            refine V_aload_n hc dX8_readKeyword_49 rfl 0 rfl ?_
            refine V_iconst hc (v := (1 : Int32)) dX8_readKeyword_50 rfl ?_
            refine V_iload_n hc dX8_readKeyword_51 rfl 1 rfl ?_
            obtain ⟨v18, S19, hv18, hf⟩ := mb2 hf
            obtain ⟨hkv18, hv18⟩ := og hv18
            refine C_callV hc hz (As := [.int (1 : Int32), .int v2]) hkv18 (by decide) (c8_fail l D y _ _ hv18) w3_113 w3_115 wp1_8 w1_2 w3_116 hdX_X8_fail ⟨(Nat.le_of_ble_eq_true rfl), (Nat.le_of_ble_eq_true rfl)⟩ rfl rfl rfl (Nat.le_of_ble_eq_true rfl) dX8_readKeyword_52 ?_
            refine V_pop hc dX8_readKeyword_55 rfl ?_
            refine V_iconst hc (v := (-1 : Int32)) dX8_readKeyword_56 rfl ?_
            obtain ⟨rfl, rfl⟩ := si2 hf
            exact V_iret hc hzz rfl rfl rfl rfl rfl dX8_readKeyword_57
        refine V_if_ne hc dX8_readKeyword_38 rfl (fun hq38 => ?_) (fun hq38 => ?_)
        · rw [if_neg hq38] at hv13
          refine V_iconst hc (v := (0 : Int32)) dX8_readKeyword_45 rfl ?_
          obtain rfl := Option.some.inj hv13
          exact V_sub [0, 1, 2] rfl hJ38
        · rw [if_pos hq38] at hv13
          refine V_iconst hc (v := (1 : Int32)) dX8_readKeyword_41 rfl ?_
          refine V_goto hc dX8_readKeyword_42 rfl ?_
          obtain rfl := Option.some.inj hv13
          exact V_sub [0, 1, 2] rfl hJ38
      refine V_if_ne hc dX8_readKeyword_26 rfl (fun hq26 => ?_) (fun hq26 => ?_)
      · rw [if_neg hq26] at hv10
        refine V_iconst hc (v := (0 : Int32)) dX8_readKeyword_33 rfl ?_
        obtain rfl := Option.some.inj hv10
        exact V_sub [2, 1, 0] rfl hJ26
      · rw [if_pos hq26] at hv10
        refine V_iconst hc (v := (1 : Int32)) dX8_readKeyword_29 rfl ?_
        refine V_goto hc dX8_readKeyword_30 rfl ?_
        obtain rfl := Option.some.inj hv10
        exact V_sub [2, 1, 0] rfl hJ26
noncomputable def f8_addPart (S : CS) (h : Nat) (p1 : Int32) : Option (CS) :=
  (gi S 8 h 8).bind fun v1 =>
  (gr S 8 h 7).bind fun a2 =>
  (aln S 14 a2).bind fun v3 =>
  (
    if v3 ≤ v1 then (
      some S
    ) else (
      (gr S 8 h 7).bind fun a6 =>
      (gi S 8 h 8).bind fun v7 =>
      (pi S 8 h 8 (v7 + (1 : Int32))).bind fun S8 =>
      (sti S8 a6 v7 p1).bind fun S9 =>
      some S9
    )
  ).bind fun S4 =>
  some S4
theorem hdX_X8_addPart : yX8_addPart.cls = "FarEditors$Told" ∧ yX8_addPart.cls ≠ "java/lang/invoke/MethodHandle" ∧ yX8_addPart.cls ≠ "java/lang/invoke/VarHandle" ∧ (parseMethodDescriptor yX8_addPart.desc).map (fun d => d.parameters.length) = some 1 := by decide +kernel
set_option maxHeartbeats 4000000 in
set_option maxRecDepth 100000 in
theorem c8_addPart (l : Launch) (D : va_G) (y : CyT) (zM uM : Nat) {S S' : CS} {h : Nat} {p1 : Int32} (hf : f8_addPart S h p1 = some S') : CT l D y yX8_addPart cX8_addPart 2 none 0 0 zM uM [.ref h, .int p1] (cZ S) (cU S) (cw y S) (cZ S') (cU S') (cw y S') none := by
  refine CT.of (by decide) (Nat.le_of_ble_eq_true rfl) (fun E hc hzz hnm => ?_)
  have hc : Cx E "FarEditors$Told" cX8_addPart 2 := hc
  have hz := hzz.1
  have hT := hz.2.2.1
  show V E (cZ S) (cU S) (cw y S) 0 [(0, .ref h), (1, .int p1)] []
  unfold f8_addPart at hf
  refine V_aload_n hc dX8_addPart_0 rfl 0 rfl ?_
  obtain ⟨v1, hv1, hf⟩ := mb hf
  refine C_geti hc rfl iW8 (by decide) 8 (by decide) rfl hv1 w1_51 dX8_addPart_1 ?_
  refine V_aload_n hc dX8_addPart_4 rfl 0 rfl ?_
  obtain ⟨a2, ha2, hf⟩ := mb hf
  refine C_getr hc rfl iW8 (by decide) 7 (by decide) rfl ha2 w1_49 dX8_addPart_5 ?_
  obtain ⟨v3, hv3, hf⟩ := mb hf
  refine C_alen hc hT hv3 dX8_addPart_8 ?_
  obtain ⟨S4, hv5, hf⟩ := mb hf
  have hJ9 : V E (cZ S4) (cU S4) (cw y S4) 29 [] [] := by
    obtain rfl := Option.some.inj hf
    exact V_vret hc hzz rfl rfl rfl rfl dX8_addPart_29
  refine V_icmp_ge hc dX8_addPart_9 rfl (fun hq9 => ?_) (fun hq9 => ?_)
  · rw [if_pos hq9] at hv5
    obtain rfl := Option.some.inj hv5
    exact V_sub [] rfl hJ9
  · rw [if_neg hq9] at hv5
    refine V_aload_n hc dX8_addPart_12 rfl 0 rfl ?_
    obtain ⟨a6, ha6, hv5⟩ := mb hv5
    refine C_getr hc rfl iW8 (by decide) 7 (by decide) rfl ha6 w1_49 dX8_addPart_13 ?_
    refine V_aload_n hc dX8_addPart_16 rfl 0 rfl ?_
    refine V_dup hc dX8_addPart_17 rfl ?_
    obtain ⟨v7, hv7, hv5⟩ := mb hv5
    refine C_geti hc rfl iW8 (by decide) 8 (by decide) rfl hv7 w1_51 dX8_addPart_18 ?_
    refine V_dup_x1 hc dX8_addPart_21 rfl rfl ?_
    refine V_iconst hc (v := (1 : Int32)) dX8_addPart_22 rfl ?_
    refine V_iadd hc dX8_addPart_23 ?_
    obtain ⟨S8, hS8, hv5⟩ := mb hv5
    refine C_puti hc rfl iW8 tyX8 tyX8_ok nmX8 (by decide) 8 (by decide) rfl hS8 w1_51 rfl rfl rfl dX8_addPart_24 ?_
    refine V_iload_n hc dX8_addPart_27 rfl 1 rfl ?_
    obtain ⟨S9, hS9, hv5⟩ := mb hv5
    refine C_iast hc hT hS9 dX8_addPart_28 ?_
    obtain rfl := Option.some.inj hv5
    exact V_sub [] rfl hJ9
noncomputable def LX8_readWord_9 (h : Nat) (c1 : Int32) (c2 : Int32) : Nat → CS → Option (CS)
  | 0, _ => none
  | n + 1, S =>
    (gi S 8 h 11).bind fun v1 =>
    (gi S 8 h 1).bind fun v2 =>
    if v2 ≤ v1 then (
      some S
    ) else (
      (gi S 8 h 11).bind fun v3 =>
      if c1 ≤ (v3 - c2) then (
        some S
      ) else (
        (cal S 8 h (f8_isAtLetter S h)).bind fun v4 =>
        if v4 = 0 then (
          some S
        ) else (
          (gr S 8 h 0).bind fun a5 =>
          (gi S 8 h 11).bind fun v6 =>
          (ldi S a5 v6).bind fun v7 =>
          (cal S 8 h (f8_addPart S h ((v7 - (97 : Int32)) + (1 : Int32)))).bind fun S8 =>
          (gi S8 8 h 11).bind fun v9 =>
          (pi S8 8 h 11 (v9 + (1 : Int32))).bind fun S10 =>
          LX8_readWord_9 h c1 c2 n S10
        )
      )
    )
noncomputable def f8_readWord (S : CS) (h : Nat) (p1 : Int32) : Option (Int32 × CS) :=
  (cal S 8 h (f8_skipBlanks S h)).bind fun S1 =>
  (gi S1 8 h 11).bind fun v2 =>
  (LX8_readWord_9 h p1 v2 FU S1).bind fun S3 =>
  (gi S3 8 h 11).bind fun v5 =>
  bn2 (
    if v5 ≤ v2 then (
      (gi S3 8 h 11).bind fun v9 =>
      bn2 (cal S3 8 h (f8_fail S3 h (1 : Int32) v9)) fun v10 S11 =>
      if v10 = 0 then (
        some ((0 : Int32), S11)
      ) else (
        some ((1 : Int32), S11)
      )
    ) else (
      (cal S3 8 h (f8_isAtLetter S3 h)).bind fun v12 =>
      if v12 = 0 then (
        some ((1 : Int32), S3)
      ) else (
        (gi S3 8 h 11).bind fun v13 =>
        bn2 (cal S3 8 h (f8_fail S3 h (1 : Int32) v13)) fun v14 S15 =>
        if v14 = 0 then (
          some ((0 : Int32), S15)
        ) else (
          some ((1 : Int32), S15)
        )
      )
    )
  ) fun v6 S7 =>
  (bz v6).bind fun v16 =>
  some (v16, S7)
theorem hdX_X8_readWord : yX8_readWord.cls = "FarEditors$Told" ∧ yX8_readWord.cls ≠ "java/lang/invoke/MethodHandle" ∧ yX8_readWord.cls ≠ "java/lang/invoke/VarHandle" ∧ (parseMethodDescriptor yX8_readWord.desc).map (fun d => d.parameters.length) = some 1 := by decide +kernel
set_option maxHeartbeats 4000000 in
set_option maxRecDepth 100000 in
theorem LX8_readWord_9_ok {E : CxT} {l : Launch} {D : va_G} {y : CyT} {zM uM : Nat} (hc : Cx E "FarEditors$Told" cX8_readWord 3) (h : Nat) (c1 : Int32) (c2 : Int32) (hz : Cy E l D y 1 22 zM uM) : ∀ (n : Nat) (S : CS) {So : CS}, LX8_readWord_9 h c1 c2 n S = some So → (hx0 : V E (cZ So) (cU So) (cw y So) 68 [(0, .ref h), (2, .int c2)] []) → V E (cZ S) (cU S) (cw y S) 9 [(0, .ref h), (1, .int c1), (2, .int c2)] [] := by
  have hT := hz.2.2.1
  intro n
  induction n with
  | zero => intro S So hf; cases hf
  | succ n ih =>
    intro S So hf hx0
    unfold LX8_readWord_9 at hf
    refine V_aload_n hc dX8_readWord_9 rfl 0 rfl ?_
    obtain ⟨v1, hv1, hf⟩ := mb hf
    refine C_geti hc rfl iW8 (by decide) 11 (by decide) rfl hv1 w1_56 dX8_readWord_10 ?_
    refine V_aload_n hc dX8_readWord_13 rfl 0 rfl ?_
    obtain ⟨v2, hv2, hf⟩ := mb hf
    refine C_geti hc rfl iW8 (by decide) 1 (by decide) rfl hv2 w1_37 dX8_readWord_14 ?_
    refine V_icmp_ge hc dX8_readWord_17 rfl (fun hq17 => ?_) (fun hq17 => ?_)
    · rw [if_pos hq17] at hf
      obtain rfl := Option.some.inj hf
      exact V_sub [0, 2] rfl hx0
    · rw [if_neg hq17] at hf
      refine V_aload_n hc dX8_readWord_20 rfl 0 rfl ?_
      obtain ⟨v3, hv3, hf⟩ := mb hf
      refine C_geti hc rfl iW8 (by decide) 11 (by decide) rfl hv3 w1_56 dX8_readWord_21 ?_
      refine V_iload_n hc dX8_readWord_24 rfl 2 rfl ?_
      refine V_isub hc dX8_readWord_25 ?_
      refine V_iload_n hc dX8_readWord_26 rfl 1 rfl ?_
      refine V_icmp_ge hc dX8_readWord_27 rfl (fun hq27 => ?_) (fun hq27 => ?_)
      · rw [if_pos hq27] at hf
        obtain rfl := Option.some.inj hf
        exact V_sub [0, 2] rfl hx0
      · rw [if_neg hq27] at hf
        refine V_aload_n hc dX8_readWord_30 rfl 0 rfl ?_
        obtain ⟨v4, hv4, hf⟩ := mb hf
        obtain ⟨hkv4, hv4⟩ := og hv4
        refine C_callV hc hz (As := []) hkv4 (by decide) (c8_isAtLetter l D y _ _ hv4) w3_44 w3_46 wp1_6 w1_2 w3_47 hdX_X8_isAtLetter ⟨(Nat.le_of_ble_eq_true rfl), (Nat.le_of_ble_eq_true rfl)⟩ rfl rfl rfl (Nat.le_of_ble_eq_true rfl) dX8_readWord_31 ?_
        refine V_if_eq hc dX8_readWord_34 rfl (fun hq34 => ?_) (fun hq34 => ?_)
        · rw [if_pos hq34] at hf
          obtain rfl := Option.some.inj hf
          exact V_sub [0, 2] rfl hx0
        · rw [if_neg hq34] at hf
          refine V_aload_n hc dX8_readWord_37 rfl 0 rfl ?_
          refine V_aload_n hc dX8_readWord_38 rfl 0 rfl ?_
          obtain ⟨a5, ha5, hf⟩ := mb hf
          refine C_getr hc rfl iW8 (by decide) 0 (by decide) rfl ha5 w1_35 dX8_readWord_39 ?_
          refine V_aload_n hc dX8_readWord_42 rfl 0 rfl ?_
          obtain ⟨v6, hv6, hf⟩ := mb hf
          refine C_geti hc rfl iW8 (by decide) 11 (by decide) rfl hv6 w1_56 dX8_readWord_43 ?_
          obtain ⟨v7, hv7, hf⟩ := mb hf
          refine C_iald hc hT hv7 dX8_readWord_46 ?_
          refine V_bipush hc (v := (97 : Int32)) dX8_readWord_47 rfl ?_
          refine V_isub hc dX8_readWord_49 ?_
          refine V_iconst hc (v := (1 : Int32)) dX8_readWord_50 rfl ?_
          refine V_iadd hc dX8_readWord_51 ?_
          obtain ⟨S8, hS8, hf⟩ := mb hf
          obtain ⟨hkS8, hS8⟩ := og hS8
          refine C_callV hc hz (As := [.int ((v7 - (97 : Int32)) + (1 : Int32))]) hkS8 (by decide) (c8_addPart l D y _ _ hS8) w3_137 w3_139 wp1_14 w1_2 w3_140 hdX_X8_addPart ⟨(Nat.le_of_ble_eq_true rfl), (Nat.le_of_ble_eq_true rfl)⟩ rfl rfl rfl (Nat.le_of_ble_eq_true rfl) dX8_readWord_52 ?_
          refine V_aload_n hc dX8_readWord_55 rfl 0 rfl ?_
          refine V_dup hc dX8_readWord_56 rfl ?_
          obtain ⟨v9, hv9, hf⟩ := mb hf
          refine C_geti hc rfl iW8 (by decide) 11 (by decide) rfl hv9 w1_56 dX8_readWord_57 ?_
          refine V_iconst hc (v := (1 : Int32)) dX8_readWord_60 rfl ?_
          refine V_iadd hc dX8_readWord_61 ?_
          obtain ⟨S10, hS10, hf⟩ := mb hf
          refine C_puti hc rfl iW8 tyX8 tyX8_ok nmX8 (by decide) 11 (by decide) rfl hS10 w1_56 rfl rfl rfl dX8_readWord_62 ?_
          refine V_goto hc dX8_readWord_65 rfl ?_
          exact V_sub [0, 1, 2] rfl (ih _ hf hx0)
set_option maxHeartbeats 4000000 in
set_option maxRecDepth 100000 in
theorem c8_readWord (l : Launch) (D : va_G) (y : CyT) (zM uM : Nat) {S S' : CS} {h : Nat} {p1 : Int32} {r : Int32} (hf : f8_readWord S h p1 = some (r, S')) : CT l D y yX8_readWord cX8_readWord 3 (some .boolean) 1 22 zM uM [.ref h, .int p1] (cZ S) (cU S) (cw y S) (cZ S') (cU S') (cw y S') (some (.int r)) := by
  refine CT.of (by decide) (Nat.le_of_ble_eq_true rfl) (fun E hc hzz hnm => ?_)
  have hc : Cx E "FarEditors$Told" cX8_readWord 3 := hc
  have hz := hzz.1
  have hT := hz.2.2.1
  show V E (cZ S) (cU S) (cw y S) 0 [(0, .ref h), (1, .int p1)] []
  unfold f8_readWord at hf
  refine V_aload_n hc dX8_readWord_0 rfl 0 rfl ?_
  obtain ⟨S1, hS1, hf⟩ := mb hf
  obtain ⟨hkS1, hS1⟩ := og hS1
  refine C_callV hc hz (As := []) hkS1 (by decide) (c8_skipBlanks l D y _ _ hS1) w3_36 w3_38 wp1_4 w1_2 w3_39 hdX_X8_skipBlanks ⟨(Nat.le_of_ble_eq_true rfl), (Nat.le_of_ble_eq_true rfl)⟩ rfl rfl rfl (Nat.le_of_ble_eq_true rfl) dX8_readWord_1 ?_
  refine V_aload_n hc dX8_readWord_4 rfl 0 rfl ?_
  obtain ⟨v2, hv2, hf⟩ := mb hf
  refine C_geti hc rfl iW8 (by decide) 11 (by decide) rfl hv2 w1_56 dX8_readWord_5 ?_
  refine V_istore_n hc dX8_readWord_8 rfl (by decide) rfl ?_
  obtain ⟨S3, hv4, hf⟩ := mb hf
  refine V_sub [1, 2, 0] rfl (LX8_readWord_9_ok hc h p1 v2 hz FU _ hv4 ?_)
  refine V_aload_n hc dX8_readWord_68 rfl 0 rfl ?_
  obtain ⟨v5, hv5, hf⟩ := mb hf
  refine C_geti hc rfl iW8 (by decide) 11 (by decide) rfl hv5 w1_56 dX8_readWord_69 ?_
  refine V_iload_n hc dX8_readWord_72 rfl 1 rfl ?_
  obtain ⟨v6, S7, hv8, hf⟩ := mb2 hf
  have hJ73 : V E (cZ S7) (cU S7) (cw y S7) 100 [] [.int v6] := by
    obtain ⟨v16, hv16, hf⟩ := mb hf
    obtain ⟨hbv16, rfl⟩ := bz_some hv16
    obtain ⟨rfl, rfl⟩ := si2 hf
    exact V_iret hc hzz (bz_nar hbv16) rfl rfl rfl rfl dX8_readWord_100
  refine V_icmp_le hc dX8_readWord_73 rfl (fun hq73 => ?_) (fun hq73 => ?_)
  · rw [if_pos hq73] at hv8
    refine V_aload_n hc dX8_readWord_83 rfl 0 rfl ?_
    refine V_iconst hc (v := (1 : Int32)) dX8_readWord_84 rfl ?_
    refine V_aload_n hc dX8_readWord_85 rfl 0 rfl ?_
    obtain ⟨v9, hv9, hv8⟩ := mb hv8
    refine C_geti hc rfl iW8 (by decide) 11 (by decide) rfl hv9 w1_56 dX8_readWord_86 ?_
    obtain ⟨v10, S11, hv10, hv8⟩ := mb2 hv8
    obtain ⟨hkv10, hv10⟩ := og hv10
    refine C_callV hc hz (As := [.int (1 : Int32), .int v9]) hkv10 (by decide) (c8_fail l D y _ _ hv10) w3_113 w3_115 wp1_8 w1_2 w3_116 hdX_X8_fail ⟨(Nat.le_of_ble_eq_true rfl), (Nat.le_of_ble_eq_true rfl)⟩ rfl rfl rfl (Nat.le_of_ble_eq_true rfl) dX8_readWord_89 ?_
    refine V_if_eq hc dX8_readWord_92 rfl (fun hq92 => ?_) (fun hq92 => ?_)
    · rw [if_pos hq92] at hv8
      refine V_iconst hc (v := (0 : Int32)) dX8_readWord_99 rfl ?_
      obtain ⟨rfl, rfl⟩ := si2 hv8
      exact V_sub [] rfl hJ73
    · rw [if_neg hq92] at hv8
      refine V_iconst hc (v := (1 : Int32)) dX8_readWord_95 rfl ?_
      refine V_goto hc dX8_readWord_96 rfl ?_
      obtain ⟨rfl, rfl⟩ := si2 hv8
      exact V_sub [] rfl hJ73
  · rw [if_neg hq73] at hv8
    refine V_aload_n hc dX8_readWord_76 rfl 0 rfl ?_
    obtain ⟨v12, hv12, hv8⟩ := mb hv8
    obtain ⟨hkv12, hv12⟩ := og hv12
    refine C_callV hc hz (As := []) hkv12 (by decide) (c8_isAtLetter l D y _ _ hv12) w3_44 w3_46 wp1_6 w1_2 w3_47 hdX_X8_isAtLetter ⟨(Nat.le_of_ble_eq_true rfl), (Nat.le_of_ble_eq_true rfl)⟩ rfl rfl rfl (Nat.le_of_ble_eq_true rfl) dX8_readWord_77 ?_
    refine V_if_eq hc dX8_readWord_80 rfl (fun hq80 => ?_) (fun hq80 => ?_)
    · rw [if_pos hq80] at hv8
      refine V_iconst hc (v := (1 : Int32)) dX8_readWord_95 rfl ?_
      refine V_goto hc dX8_readWord_96 rfl ?_
      obtain ⟨rfl, rfl⟩ := si2 hv8
      exact V_sub [] rfl hJ73
    · rw [if_neg hq80] at hv8
      refine V_aload_n hc dX8_readWord_83 rfl 0 rfl ?_
      refine V_iconst hc (v := (1 : Int32)) dX8_readWord_84 rfl ?_
      refine V_aload_n hc dX8_readWord_85 rfl 0 rfl ?_
      obtain ⟨v13, hv13, hv8⟩ := mb hv8
      refine C_geti hc rfl iW8 (by decide) 11 (by decide) rfl hv13 w1_56 dX8_readWord_86 ?_
      obtain ⟨v14, S15, hv14, hv8⟩ := mb2 hv8
      obtain ⟨hkv14, hv14⟩ := og hv14
      refine C_callV hc hz (As := [.int (1 : Int32), .int v13]) hkv14 (by decide) (c8_fail l D y _ _ hv14) w3_113 w3_115 wp1_8 w1_2 w3_116 hdX_X8_fail ⟨(Nat.le_of_ble_eq_true rfl), (Nat.le_of_ble_eq_true rfl)⟩ rfl rfl rfl (Nat.le_of_ble_eq_true rfl) dX8_readWord_89 ?_
      refine V_if_eq hc dX8_readWord_92 rfl (fun hq92 => ?_) (fun hq92 => ?_)
      · rw [if_pos hq92] at hv8
        refine V_iconst hc (v := (0 : Int32)) dX8_readWord_99 rfl ?_
        obtain ⟨rfl, rfl⟩ := si2 hv8
        exact V_sub [] rfl hJ73
      · rw [if_neg hq92] at hv8
        refine V_iconst hc (v := (1 : Int32)) dX8_readWord_95 rfl ?_
        refine V_goto hc dX8_readWord_96 rfl ?_
        obtain ⟨rfl, rfl⟩ := si2 hv8
        exact V_sub [] rfl hJ73
noncomputable def LX8_readDigits_12 (h : Nat) (c1 : Int32) (c2 : Int32) (c3 : Int32) : Nat → Int32 → CS → Option (Int32 × CS)
  | 0, _, _ => none
  | n + 1, i4, S =>
    (gi S 8 h 11).bind fun v1 =>
    (gi S 8 h 1).bind fun v2 =>
    if v2 ≤ v1 then (
      some (i4, S)
    ) else (
      (gi S 8 h 11).bind fun v3 =>
      if (2 : Int32) ≤ (v3 - c3) then (
        some (i4, S)
      ) else (
        (cal S 8 h (f8_isAtDigit S h)).bind fun v4 =>
        if v4 = 0 then (
          some (i4, S)
        ) else (
          (gr S 8 h 0).bind fun a5 =>
          (gi S 8 h 11).bind fun v6 =>
          (ldi S a5 v6).bind fun v7 =>
          (gi S 8 h 11).bind fun v8 =>
          (pi S 8 h 11 (v8 + (1 : Int32))).bind fun S9 =>
          LX8_readDigits_12 h c1 c2 c3 n ((((10 : Int32) * i4) + v7) - (48 : Int32)) S9
        )
      )
    )
noncomputable def f8_readDigits (S : CS) (h : Nat) (p1 : Int32) (p2 : Int32) : Option (Int32 × CS) :=
  (cal S 8 h (f8_skipBlanks S h)).bind fun S1 =>
  (gi S1 8 h 11).bind fun v2 =>
  bn2 (LX8_readDigits_12 h p1 p2 v2 FU (0 : Int32) S1) fun x3 S4 =>
  (gi S4 8 h 11).bind fun v6 =>
  if v6 = v2 then (
    (gi S4 8 h 11).bind fun v7 =>
    bn2 (cal S4 8 h (f8_fail S4 h (1 : Int32) v7)) fun v8 S9 =>
    some ((-1 : Int32), S9)
  ) else (
    (cal S4 8 h (f8_isAtDigit S4 h)).bind fun v10 =>
    if v10 = 0 then (
      if x3 < p1 then (
        bn2 (cal S4 8 h (f8_fail S4 h (2 : Int32) v2)) fun v11 S12 =>
        some ((-1 : Int32), S12)
      ) else (
        if x3 ≤ p2 then (
          some (x3, S4)
        ) else (
          bn2 (cal S4 8 h (f8_fail S4 h (2 : Int32) v2)) fun v13 S14 =>
          some ((-1 : Int32), S14)
        )
      )
    ) else (
      (gi S4 8 h 11).bind fun v15 =>
      bn2 (cal S4 8 h (f8_fail S4 h (1 : Int32) v15)) fun v16 S17 =>
      some ((-1 : Int32), S17)
    )
  )
theorem hdX_X8_readDigits : yX8_readDigits.cls = "FarEditors$Told" ∧ yX8_readDigits.cls ≠ "java/lang/invoke/MethodHandle" ∧ yX8_readDigits.cls ≠ "java/lang/invoke/VarHandle" ∧ (parseMethodDescriptor yX8_readDigits.desc).map (fun d => d.parameters.length) = some 2 := by decide +kernel
set_option maxHeartbeats 4000000 in
set_option maxRecDepth 100000 in
theorem LX8_readDigits_12_ok {E : CxT} {l : Launch} {D : va_G} {y : CyT} {zM uM : Nat} (hc : Cx E "FarEditors$Told" cX8_readDigits 5) (h : Nat) (c1 : Int32) (c2 : Int32) (c3 : Int32) (hz : Cy E l D y 1 22 zM uM) : ∀ (n : Nat) (i4 : Int32) (S : CS) {o4 : Int32} {So : CS}, LX8_readDigits_12 h c1 c2 c3 n i4 S = some (o4, So) → (hx0 : V E (cZ So) (cU So) (cw y So) 73 [(0, .ref h), (1, .int c1), (2, .int c2), (3, .int c3), (4, .int o4)] []) → V E (cZ S) (cU S) (cw y S) 12 [(0, .ref h), (1, .int c1), (2, .int c2), (3, .int c3), (4, .int i4)] [] := by
  have hT := hz.2.2.1
  intro n
  induction n with
  | zero => intro i4 S o4 So hf; cases hf
  | succ n ih =>
    intro i4 S o4 So hf hx0
    unfold LX8_readDigits_12 at hf
    refine V_aload_n hc dX8_readDigits_12 rfl 0 rfl ?_
    obtain ⟨v1, hv1, hf⟩ := mb hf
    refine C_geti hc rfl iW8 (by decide) 11 (by decide) rfl hv1 w1_56 dX8_readDigits_13 ?_
    refine V_aload_n hc dX8_readDigits_16 rfl 0 rfl ?_
    obtain ⟨v2, hv2, hf⟩ := mb hf
    refine C_geti hc rfl iW8 (by decide) 1 (by decide) rfl hv2 w1_37 dX8_readDigits_17 ?_
    refine V_icmp_ge hc dX8_readDigits_20 rfl (fun hq20 => ?_) (fun hq20 => ?_)
    · rw [if_pos hq20] at hf
      obtain ⟨rfl, rfl⟩ := si2 hf
      exact V_sub [0, 1, 2, 3, 4] rfl hx0
    · rw [if_neg hq20] at hf
      refine V_aload_n hc dX8_readDigits_23 rfl 0 rfl ?_
      obtain ⟨v3, hv3, hf⟩ := mb hf
      refine C_geti hc rfl iW8 (by decide) 11 (by decide) rfl hv3 w1_56 dX8_readDigits_24 ?_
      refine V_iload_n hc dX8_readDigits_27 rfl 3 rfl ?_
      refine V_isub hc dX8_readDigits_28 ?_
      refine V_iconst hc (v := (2 : Int32)) dX8_readDigits_29 rfl ?_
      refine V_icmp_ge hc dX8_readDigits_30 rfl (fun hq30 => ?_) (fun hq30 => ?_)
      · rw [if_pos hq30] at hf
        obtain ⟨rfl, rfl⟩ := si2 hf
        exact V_sub [0, 1, 2, 3, 4] rfl hx0
      · rw [if_neg hq30] at hf
        refine V_aload_n hc dX8_readDigits_33 rfl 0 rfl ?_
        obtain ⟨v4, hv4, hf⟩ := mb hf
        obtain ⟨hkv4, hv4⟩ := og hv4
        refine C_callV hc hz (As := []) hkv4 (by decide) (c8_isAtDigit l D y _ _ hv4) w3_121 w3_123 wp1_10 w1_2 w3_124 hdX_X8_isAtDigit ⟨(Nat.le_of_ble_eq_true rfl), (Nat.le_of_ble_eq_true rfl)⟩ rfl rfl rfl (Nat.le_of_ble_eq_true rfl) dX8_readDigits_34 ?_
        refine V_if_eq hc dX8_readDigits_37 rfl (fun hq37 => ?_) (fun hq37 => ?_)
        · rw [if_pos hq37] at hf
          obtain ⟨rfl, rfl⟩ := si2 hf
          exact V_sub [0, 1, 2, 3, 4] rfl hx0
        · rw [if_neg hq37] at hf
          refine V_bipush hc (v := (10 : Int32)) dX8_readDigits_40 rfl ?_
          refine V_iload hc dX8_readDigits_42 4 rfl ?_
          refine V_imul hc dX8_readDigits_44 ?_
          refine V_aload_n hc dX8_readDigits_45 rfl 0 rfl ?_
          obtain ⟨a5, ha5, hf⟩ := mb hf
          refine C_getr hc rfl iW8 (by decide) 0 (by decide) rfl ha5 w1_35 dX8_readDigits_46 ?_
          refine V_aload_n hc dX8_readDigits_49 rfl 0 rfl ?_
          obtain ⟨v6, hv6, hf⟩ := mb hf
          refine C_geti hc rfl iW8 (by decide) 11 (by decide) rfl hv6 w1_56 dX8_readDigits_50 ?_
          obtain ⟨v7, hv7, hf⟩ := mb hf
          refine C_iald hc hT hv7 dX8_readDigits_53 ?_
          refine V_iadd hc dX8_readDigits_54 ?_
          refine V_bipush hc (v := (48 : Int32)) dX8_readDigits_55 rfl ?_
          refine V_isub hc dX8_readDigits_57 ?_
          refine V_istore hc dX8_readDigits_58 (by decide) rfl ?_
          refine V_aload_n hc dX8_readDigits_60 rfl 1 rfl ?_
          refine V_dup hc dX8_readDigits_61 rfl ?_
          obtain ⟨v8, hv8, hf⟩ := mb hf
          refine C_geti hc rfl iW8 (by decide) 11 (by decide) rfl hv8 w1_56 dX8_readDigits_62 ?_
          refine V_iconst hc (v := (1 : Int32)) dX8_readDigits_65 rfl ?_
          refine V_iadd hc dX8_readDigits_66 ?_
          obtain ⟨S9, hS9, hf⟩ := mb hf
          refine C_puti hc rfl iW8 tyX8 tyX8_ok nmX8 (by decide) 11 (by decide) rfl hS9 w1_56 rfl rfl rfl dX8_readDigits_67 ?_
          refine V_goto hc dX8_readDigits_70 rfl ?_
          exact V_sub [1, 2, 3, 4, 0] rfl (ih _ _ hf hx0)
set_option maxHeartbeats 4000000 in
set_option maxRecDepth 100000 in
theorem c8_readDigits (l : Launch) (D : va_G) (y : CyT) (zM uM : Nat) {S S' : CS} {h : Nat} {p1 : Int32} {p2 : Int32} {r : Int32} (hf : f8_readDigits S h p1 p2 = some (r, S')) : CT l D y yX8_readDigits cX8_readDigits 5 (some .int) 1 22 zM uM [.ref h, .int p1, .int p2] (cZ S) (cU S) (cw y S) (cZ S') (cU S') (cw y S') (some (.int r)) := by
  refine CT.of (by decide) (Nat.le_of_ble_eq_true rfl) (fun E hc hzz hnm => ?_)
  have hc : Cx E "FarEditors$Told" cX8_readDigits 5 := hc
  have hz := hzz.1
  have hT := hz.2.2.1
  show V E (cZ S) (cU S) (cw y S) 0 [(0, .ref h), (1, .int p1), (2, .int p2)] []
  unfold f8_readDigits at hf
  refine V_aload_n hc dX8_readDigits_0 rfl 0 rfl ?_
  obtain ⟨S1, hS1, hf⟩ := mb hf
  obtain ⟨hkS1, hS1⟩ := og hS1
  refine C_callV hc hz (As := []) hkS1 (by decide) (c8_skipBlanks l D y _ _ hS1) w3_36 w3_38 wp1_4 w1_2 w3_39 hdX_X8_skipBlanks ⟨(Nat.le_of_ble_eq_true rfl), (Nat.le_of_ble_eq_true rfl)⟩ rfl rfl rfl (Nat.le_of_ble_eq_true rfl) dX8_readDigits_1 ?_
  refine V_aload_n hc dX8_readDigits_4 rfl 0 rfl ?_
  obtain ⟨v2, hv2, hf⟩ := mb hf
  refine C_geti hc rfl iW8 (by decide) 11 (by decide) rfl hv2 w1_56 dX8_readDigits_5 ?_
  refine V_istore_n hc dX8_readDigits_8 rfl (by decide) rfl ?_
  refine V_iconst hc (v := (0 : Int32)) dX8_readDigits_9 rfl ?_
  refine V_istore hc dX8_readDigits_10 (by decide) rfl ?_
  obtain ⟨x3, S4, hv5, hf⟩ := mb2 hf
  refine V_sub [2, 3, 4, 1, 0] rfl (LX8_readDigits_12_ok hc h p1 p2 v2 hz FU _ _ hv5 ?_)
  refine V_aload_n hc dX8_readDigits_73 rfl 0 rfl ?_
  obtain ⟨v6, hv6, hf⟩ := mb hf
  refine C_geti hc rfl iW8 (by decide) 11 (by decide) rfl hv6 w1_56 dX8_readDigits_74 ?_
  refine V_iload_n hc dX8_readDigits_77 rfl 3 rfl ?_
  refine V_icmp_eq hc dX8_readDigits_78 rfl (fun hq78 => ?_) (fun hq78 => ?_)
  · rw [if_pos hq78] at hf
    refine V_aload_n hc dX8_readDigits_88 rfl 0 rfl ?_
    refine V_iconst hc (v := (1 : Int32)) dX8_readDigits_89 rfl ?_
    refine V_aload_n hc dX8_readDigits_90 rfl 0 rfl ?_
    obtain ⟨v7, hv7, hf⟩ := mb hf
    refine C_geti hc rfl iW8 (by decide) 11 (by decide) rfl hv7 w1_56 dX8_readDigits_91 ?_
    obtain ⟨v8, S9, hv8, hf⟩ := mb2 hf
    obtain ⟨hkv8, hv8⟩ := og hv8
    refine C_callV hc hz (As := [.int (1 : Int32), .int v7]) hkv8 (by decide) (c8_fail l D y _ _ hv8) w3_113 w3_115 wp1_8 w1_2 w3_116 hdX_X8_fail ⟨(Nat.le_of_ble_eq_true rfl), (Nat.le_of_ble_eq_true rfl)⟩ rfl rfl rfl (Nat.le_of_ble_eq_true rfl) dX8_readDigits_94 ?_
    refine V_pop hc dX8_readDigits_97 rfl ?_
    refine V_iconst hc (v := (-1 : Int32)) dX8_readDigits_98 rfl ?_
    obtain ⟨rfl, rfl⟩ := si2 hf
    exact V_iret hc hzz rfl rfl rfl rfl rfl dX8_readDigits_99
  · rw [if_neg hq78] at hf
    refine V_aload_n hc dX8_readDigits_81 rfl 0 rfl ?_
    obtain ⟨v10, hv10, hf⟩ := mb hf
    obtain ⟨hkv10, hv10⟩ := og hv10
    refine C_callV hc hz (As := []) hkv10 (by decide) (c8_isAtDigit l D y _ _ hv10) w3_121 w3_123 wp1_10 w1_2 w3_124 hdX_X8_isAtDigit ⟨(Nat.le_of_ble_eq_true rfl), (Nat.le_of_ble_eq_true rfl)⟩ rfl rfl rfl (Nat.le_of_ble_eq_true rfl) dX8_readDigits_82 ?_
    refine V_if_eq hc dX8_readDigits_85 rfl (fun hq85 => ?_) (fun hq85 => ?_)
    · rw [if_pos hq85] at hf
      refine V_iload hc dX8_readDigits_100 4 rfl ?_
      refine V_iload_n hc dX8_readDigits_102 rfl 1 rfl ?_
      refine V_icmp_lt hc dX8_readDigits_103 rfl (fun hq103 => ?_) (fun hq103 => ?_)
      · rw [if_pos hq103] at hf
        refine V_aload_n hc dX8_readDigits_112 rfl 0 rfl ?_
        refine V_iconst hc (v := (2 : Int32)) dX8_readDigits_113 rfl ?_
        refine V_iload_n hc dX8_readDigits_114 rfl 3 rfl ?_
        obtain ⟨v11, S12, hv11, hf⟩ := mb2 hf
        obtain ⟨hkv11, hv11⟩ := og hv11
        refine C_callV hc hz (As := [.int (2 : Int32), .int v2]) hkv11 (by decide) (c8_fail l D y _ _ hv11) w3_113 w3_115 wp1_8 w1_2 w3_116 hdX_X8_fail ⟨(Nat.le_of_ble_eq_true rfl), (Nat.le_of_ble_eq_true rfl)⟩ rfl rfl rfl (Nat.le_of_ble_eq_true rfl) dX8_readDigits_115 ?_
        refine V_pop hc dX8_readDigits_118 rfl ?_
        refine V_iconst hc (v := (-1 : Int32)) dX8_readDigits_119 rfl ?_
        obtain ⟨rfl, rfl⟩ := si2 hf
        exact V_iret hc hzz rfl rfl rfl rfl rfl dX8_readDigits_120
      · rw [if_neg hq103] at hf
        refine V_iload hc dX8_readDigits_106 4 rfl ?_
        refine V_iload_n hc dX8_readDigits_108 rfl 2 rfl ?_
        refine V_icmp_le hc dX8_readDigits_109 rfl (fun hq109 => ?_) (fun hq109 => ?_)
        · rw [if_pos hq109] at hf
          refine V_iload hc dX8_readDigits_121 4 rfl ?_
          obtain ⟨rfl, rfl⟩ := si2 hf
          exact V_iret hc hzz rfl rfl rfl rfl rfl dX8_readDigits_123
        · rw [if_neg hq109] at hf
          refine V_aload_n hc dX8_readDigits_112 rfl 0 rfl ?_
          refine V_iconst hc (v := (2 : Int32)) dX8_readDigits_113 rfl ?_
          refine V_iload_n hc dX8_readDigits_114 rfl 3 rfl ?_
          obtain ⟨v13, S14, hv13, hf⟩ := mb2 hf
          obtain ⟨hkv13, hv13⟩ := og hv13
          refine C_callV hc hz (As := [.int (2 : Int32), .int v2]) hkv13 (by decide) (c8_fail l D y _ _ hv13) w3_113 w3_115 wp1_8 w1_2 w3_116 hdX_X8_fail ⟨(Nat.le_of_ble_eq_true rfl), (Nat.le_of_ble_eq_true rfl)⟩ rfl rfl rfl (Nat.le_of_ble_eq_true rfl) dX8_readDigits_115 ?_
          refine V_pop hc dX8_readDigits_118 rfl ?_
          refine V_iconst hc (v := (-1 : Int32)) dX8_readDigits_119 rfl ?_
          obtain ⟨rfl, rfl⟩ := si2 hf
          exact V_iret hc hzz rfl rfl rfl rfl rfl dX8_readDigits_120
    · rw [if_neg hq85] at hf
      refine V_aload_n hc dX8_readDigits_88 rfl 0 rfl ?_
      refine V_iconst hc (v := (1 : Int32)) dX8_readDigits_89 rfl ?_
      refine V_aload_n hc dX8_readDigits_90 rfl 0 rfl ?_
      obtain ⟨v15, hv15, hf⟩ := mb hf
      refine C_geti hc rfl iW8 (by decide) 11 (by decide) rfl hv15 w1_56 dX8_readDigits_91 ?_
      obtain ⟨v16, S17, hv16, hf⟩ := mb2 hf
      obtain ⟨hkv16, hv16⟩ := og hv16
      refine C_callV hc hz (As := [.int (1 : Int32), .int v15]) hkv16 (by decide) (c8_fail l D y _ _ hv16) w3_113 w3_115 wp1_8 w1_2 w3_116 hdX_X8_fail ⟨(Nat.le_of_ble_eq_true rfl), (Nat.le_of_ble_eq_true rfl)⟩ rfl rfl rfl (Nat.le_of_ble_eq_true rfl) dX8_readDigits_94 ?_
      refine V_pop hc dX8_readDigits_97 rfl ?_
      refine V_iconst hc (v := (-1 : Int32)) dX8_readDigits_98 rfl ?_
      obtain ⟨rfl, rfl⟩ := si2 hf
      exact V_iret hc hzz rfl rfl rfl rfl rfl dX8_readDigits_99
noncomputable def f8_setNumber (S : CS) (h : Nat) (p1 : Int32) (p2 : Int32) : Option (CS) :=
  (gi S 8 h 4).bind fun v1 =>
  (
    if (((4 : Int32) * v1) + p1) < 0 then (
      some S
    ) else (
      (gr S 8 h 10).bind fun a4 =>
      (aln S 14 a4).bind fun v5 =>
      if v5 ≤ (((4 : Int32) * v1) + p1) then (
        some S
      ) else (
        (gr S 8 h 10).bind fun a6 =>
        (sti S a6 (((4 : Int32) * v1) + p1) p2).bind fun S7 =>
        some S7
      )
    )
  ).bind fun S2 =>
  some S2
theorem hdX_X8_setNumber : yX8_setNumber.cls = "FarEditors$Told" ∧ yX8_setNumber.cls ≠ "java/lang/invoke/MethodHandle" ∧ yX8_setNumber.cls ≠ "java/lang/invoke/VarHandle" ∧ (parseMethodDescriptor yX8_setNumber.desc).map (fun d => d.parameters.length) = some 2 := by decide +kernel
set_option maxHeartbeats 4000000 in
set_option maxRecDepth 100000 in
theorem c8_setNumber (l : Launch) (D : va_G) (y : CyT) (zM uM : Nat) {S S' : CS} {h : Nat} {p1 : Int32} {p2 : Int32} (hf : f8_setNumber S h p1 p2 = some S') : CT l D y yX8_setNumber cX8_setNumber 4 none 0 0 zM uM [.ref h, .int p1, .int p2] (cZ S) (cU S) (cw y S) (cZ S') (cU S') (cw y S') none := by
  refine CT.of (by decide) (Nat.le_of_ble_eq_true rfl) (fun E hc hzz hnm => ?_)
  have hc : Cx E "FarEditors$Told" cX8_setNumber 4 := hc
  have hz := hzz.1
  have hT := hz.2.2.1
  show V E (cZ S) (cU S) (cw y S) 0 [(0, .ref h), (1, .int p1), (2, .int p2)] []
  unfold f8_setNumber at hf
  refine V_iconst hc (v := (4 : Int32)) dX8_setNumber_0 rfl ?_
  refine V_aload_n hc dX8_setNumber_1 rfl 0 rfl ?_
  obtain ⟨v1, hv1, hf⟩ := mb hf
  refine C_geti hc rfl iW8 (by decide) 4 (by decide) rfl hv1 w1_43 dX8_setNumber_2 ?_
  refine V_imul hc dX8_setNumber_5 ?_
  refine V_iload_n hc dX8_setNumber_6 rfl 1 rfl ?_
  refine V_iadd hc dX8_setNumber_7 ?_
  refine V_istore_n hc dX8_setNumber_8 rfl (by decide) rfl ?_
  refine V_iload_n hc dX8_setNumber_9 rfl 0 rfl ?_
  obtain ⟨S2, hv3, hf⟩ := mb hf
  have hJ10 : V E (cZ S2) (cU S2) (cw y S2) 29 [] [] := by
    obtain rfl := Option.some.inj hf
    exact V_vret hc hzz rfl rfl rfl rfl dX8_setNumber_29
  refine V_if_lt hc dX8_setNumber_10 rfl (fun hq10 => ?_) (fun hq10 => ?_)
  · rw [if_pos hq10] at hv3
    obtain rfl := Option.some.inj hv3
    exact V_sub [] rfl hJ10
  · rw [if_neg hq10] at hv3
    refine V_iload_n hc dX8_setNumber_13 rfl 0 rfl ?_
    refine V_aload_n hc dX8_setNumber_14 rfl 1 rfl ?_
    obtain ⟨a4, ha4, hv3⟩ := mb hv3
    refine C_getr hc rfl iW8 (by decide) 10 (by decide) rfl ha4 w1_55 dX8_setNumber_15 ?_
    obtain ⟨v5, hv5, hv3⟩ := mb hv3
    refine C_alen hc hT hv5 dX8_setNumber_18 ?_
    refine V_icmp_ge hc dX8_setNumber_19 rfl (fun hq19 => ?_) (fun hq19 => ?_)
    · rw [if_pos hq19] at hv3
      obtain rfl := Option.some.inj hv3
      exact V_sub [] rfl hJ10
    · rw [if_neg hq19] at hv3
      refine V_aload_n hc dX8_setNumber_22 rfl 1 rfl ?_
      obtain ⟨a6, ha6, hv3⟩ := mb hv3
      refine C_getr hc rfl iW8 (by decide) 10 (by decide) rfl ha6 w1_55 dX8_setNumber_23 ?_
      refine V_iload_n hc dX8_setNumber_26 rfl 0 rfl ?_
      refine V_iload_n hc dX8_setNumber_27 rfl 3 rfl ?_
      obtain ⟨S7, hS7, hv3⟩ := mb hv3
      refine C_iast hc hT hS7 dX8_setNumber_28 ?_
      obtain rfl := Option.some.inj hv3
      exact V_sub [] rfl hJ10
noncomputable def f8_readNumber (S : CS) (h : Nat) (p1 : Int32) (p2 : Int32) (p3 : Int32) : Option (Int32 × CS) :=
  bn2 (cal S 8 h (f8_readDigits S h p2 p3)) fun v1 S2 =>
  (cal S2 8 h (f8_setNumber S2 h p1 v1)).bind fun S3 =>
  (
    if v1 = (-1 : Int32) then (
      some (0 : Int32)
    ) else (
      some (1 : Int32)
    )
  ).bind fun v4 =>
  (bz v4).bind fun v6 =>
  some (v6, S3)
theorem hdX_X8_readNumber : yX8_readNumber.cls = "FarEditors$Told" ∧ yX8_readNumber.cls ≠ "java/lang/invoke/MethodHandle" ∧ yX8_readNumber.cls ≠ "java/lang/invoke/VarHandle" ∧ (parseMethodDescriptor yX8_readNumber.desc).map (fun d => d.parameters.length) = some 3 := by decide +kernel
set_option maxHeartbeats 4000000 in
set_option maxRecDepth 100000 in
theorem c8_readNumber (l : Launch) (D : va_G) (y : CyT) (zM uM : Nat) {S S' : CS} {h : Nat} {p1 : Int32} {p2 : Int32} {p3 : Int32} {r : Int32} (hf : f8_readNumber S h p1 p2 p3 = some (r, S')) : CT l D y yX8_readNumber cX8_readNumber 5 (some .boolean) 2 46 zM uM [.ref h, .int p1, .int p2, .int p3] (cZ S) (cU S) (cw y S) (cZ S') (cU S') (cw y S') (some (.int r)) := by
  refine CT.of (by decide) (Nat.le_of_ble_eq_true rfl) (fun E hc hzz hnm => ?_)
  have hc : Cx E "FarEditors$Told" cX8_readNumber 5 := hc
  have hz := hzz.1
  have hT := hz.2.2.1
  show V E (cZ S) (cU S) (cw y S) 0 [(0, .ref h), (1, .int p1), (2, .int p2), (3, .int p3)] []
  unfold f8_readNumber at hf
  refine V_aload_n hc dX8_readNumber_0 rfl 0 rfl ?_
  refine V_iload_n hc dX8_readNumber_1 rfl 2 rfl ?_
  refine V_iload_n hc dX8_readNumber_2 rfl 3 rfl ?_
  obtain ⟨v1, S2, hv1, hf⟩ := mb2 hf
  obtain ⟨hkv1, hv1⟩ := og hv1
  refine C_callV hc hz (As := [.int p2, .int p3]) hkv1 (by decide) (c8_readDigits l D y _ _ hv1) w3_145 w3_147 wp2_0 w1_2 w3_148 hdX_X8_readDigits ⟨(Nat.le_of_ble_eq_true rfl), (Nat.le_of_ble_eq_true rfl)⟩ rfl rfl rfl (Nat.le_of_ble_eq_true rfl) dX8_readNumber_3 ?_
  refine V_istore hc dX8_readNumber_6 (by decide) rfl ?_
  refine V_aload_n hc dX8_readNumber_8 rfl 1 rfl ?_
  refine V_iload_n hc dX8_readNumber_9 rfl 2 rfl ?_
  refine V_iload hc dX8_readNumber_10 0 rfl ?_
  obtain ⟨S3, hS3, hf⟩ := mb hf
  obtain ⟨hkS3, hS3⟩ := og hS3
  refine C_callV hc hz (As := [.int p1, .int v1]) hkS3 (by decide) (c8_setNumber l D y _ _ hS3) w3_149 w3_151 wp2_1 w1_2 w3_152 hdX_X8_setNumber ⟨(Nat.le_of_ble_eq_true rfl), (Nat.le_of_ble_eq_true rfl)⟩ rfl rfl rfl (Nat.le_of_ble_eq_true rfl) dX8_readNumber_12 ?_
  refine V_iload hc dX8_readNumber_15 0 rfl ?_
  refine V_iconst hc (v := (-1 : Int32)) dX8_readNumber_17 rfl ?_
  obtain ⟨v4, hv5, hf⟩ := mb hf
  have hJ18 : V E (cZ S3) (cU S3) (cw y S3) 26 [] [.int v4] := by
    obtain ⟨v6, hv6, hf⟩ := mb hf
    obtain ⟨hbv6, rfl⟩ := bz_some hv6
    obtain ⟨rfl, rfl⟩ := si2 hf
    exact V_iret hc hzz (bz_nar hbv6) rfl rfl rfl rfl dX8_readNumber_26
  refine V_icmp_eq hc dX8_readNumber_18 rfl (fun hq18 => ?_) (fun hq18 => ?_)
  · rw [if_pos hq18] at hv5
    refine V_iconst hc (v := (0 : Int32)) dX8_readNumber_25 rfl ?_
    obtain rfl := Option.some.inj hv5
    exact V_sub [] rfl hJ18
  · rw [if_neg hq18] at hv5
    refine V_iconst hc (v := (1 : Int32)) dX8_readNumber_21 rfl ?_
    refine V_goto hc dX8_readNumber_22 rfl ?_
    obtain rfl := Option.some.inj hv5
    exact V_sub [] rfl hJ18
