noncomputable def f11_letter (S : CS) (h : Nat) (p1 : Int32) (p2 : Int32) : Option (Int32) :=
  if 0 ≤ p2 then (
    if p1 = (-1 : Int32) then (
      (gr S 11 h 3).bind fun a10 =>
      (gr S 10 a10 2).bind fun a11 =>
      (cal S 7 a11 (f7_ask S a11 p2)).bind fun v12 =>
      some v12
    ) else (
      (gr S 11 h 3).bind fun a1 =>
      (cal S 10 a1 (f10_knows S a1 p1)).bind fun v2 =>
      (
        if v2 = 0 then (
          some (-1 : Int32)
        ) else (
          (gr S 11 h 3).bind fun a5 =>
          (gr S 10 a5 3).bind fun a6 =>
          (ldr S 16 a6 p1).bind fun a7 =>
          (gr S 1 a7 0).bind fun a8 =>
          (cal S 7 a8 (f7_ask S a8 p2)).bind fun v9 =>
          some v9
        )
      ).bind fun v3 =>
      some v3
    )
  ) else (
    some (-1 : Int32)
  )
theorem hdX_X11_letter : yX11_letter.cls = "FarEditors" ∧ yX11_letter.cls ≠ "java/lang/invoke/MethodHandle" ∧ yX11_letter.cls ≠ "java/lang/invoke/VarHandle" ∧ (parseMethodDescriptor yX11_letter.desc).map (fun d => d.parameters.length) = some 2 := by decide +kernel
set_option maxHeartbeats 4000000 in
set_option maxRecDepth 100000 in
theorem c11_letter (l : Launch) (D : va_G) (y : CyT) (zM uM : Nat) {S : CS} {h : Nat} {p1 : Int32} {p2 : Int32} {r : Int32} (hf : f11_letter S h p1 p2 = some r) : CT l D y yX11_letter cX11_letter 3 (some .int) 3 63 zM uM [.ref h, .int p1, .int p2] (cZ S) (cU S) (cw y S) (cZ S) (cU S) (cw y S) (some (.int r)) := by
  refine CT.of (by decide) (Nat.le_of_ble_eq_true rfl) (fun E hc hzz hnm => ?_)
  have hc : Cx E "FarEditors" cX11_letter 3 := hc
  have hz := hzz.1
  have hT := hz.2.2.1
  show V E (cZ S) (cU S) (cw y S) 0 [(0, .ref h), (1, .int p1), (2, .int p2)] []
  unfold f11_letter at hf
  refine V_iload_n hc dX11_letter_0 rfl 2 rfl ?_
  refine V_if_ge hc dX11_letter_1 rfl (fun hq1 => ?_) (fun hq1 => ?_)
  · rw [if_pos hq1] at hf
    refine V_iload_n hc dX11_letter_6 rfl 1 rfl ?_
    refine V_iconst hc (v := (-1 : Int32)) dX11_letter_7 rfl ?_
    refine V_icmp_ne hc dX11_letter_8 rfl (fun hq8 => ?_) (fun hq8 => ?_)
    · rw [if_neg hq8] at hf
      refine V_aload_n hc dX11_letter_23 rfl 0 rfl ?_
      obtain ⟨a1, ha1, hf⟩ := mb hf
      refine C_getr hc rfl iW11 (by decide) 3 (by decide) rfl ha1 w2_196 dX11_letter_24 ?_
      refine V_iload_n hc dX11_letter_27 rfl 1 rfl ?_
      obtain ⟨v2, hv2, hf⟩ := mb hf
      obtain ⟨hkv2, hv2⟩ := og hv2
      refine C_callV hc hz (As := [.int p1]) hkv2 (by decide) (c10_knows l D y _ _ hv2) w3_222 w3_223 w3_224 w1_8 w3_225 hdX_X10_knows ⟨(Nat.le_of_ble_eq_true rfl), (Nat.le_of_ble_eq_true rfl)⟩ rfl rfl rfl (Nat.le_of_ble_eq_true rfl) dX11_letter_28 ?_
      obtain ⟨v3, hv4, hf⟩ := mb hf
      have hJ31 : V E (cZ S) (cU S) (cw y S) 54 [] [.int v3] := by
        obtain rfl := Option.some.inj hf
        exact V_iret hc hzz rfl rfl rfl rfl rfl dX11_letter_54
      refine V_if_eq hc dX11_letter_31 rfl (fun hq31 => ?_) (fun hq31 => ?_)
      · rw [if_pos hq31] at hv4
        refine V_iconst hc (v := (-1 : Int32)) dX11_letter_53 rfl ?_
        obtain rfl := Option.some.inj hv4
        exact V_sub [] rfl hJ31
      · rw [if_neg hq31] at hv4
        refine V_aload_n hc dX11_letter_34 rfl 0 rfl ?_
        obtain ⟨a5, ha5, hv4⟩ := mb hv4
        refine C_getr hc rfl iW11 (by decide) 3 (by decide) rfl ha5 w2_196 dX11_letter_35 ?_
        obtain ⟨a6, ha6, hv4⟩ := mb hv4
        refine C_getr hc rfl iW10 (by decide) 3 (by decide) rfl ha6 w2_80 dX11_letter_38 ?_
        refine V_iload_n hc dX11_letter_41 rfl 1 rfl ?_
        obtain ⟨a7, ha7, hv4⟩ := mb hv4
        refine C_aald hc hT (by decide) (by decide) ha7 dX11_letter_42 ?_
        obtain ⟨a8, ha8, hv4⟩ := mb hv4
        refine C_getr hc rfl iW1 (by decide) 0 (by decide) rfl ha8 w1_238 dX11_letter_43 ?_
        refine V_iload_n hc dX11_letter_46 rfl 2 rfl ?_
        obtain ⟨v9, hv9, hv4⟩ := mb hv4
        obtain ⟨hkv9, hv9⟩ := og hv9
        refine C_callV hc hz (As := [.int p2]) hkv9 (by decide) (c7_ask l D y _ _ hv9) w4_206 w4_207 w4_208 w1_7 w4_209 hdX_X7_ask ⟨(Nat.le_of_ble_eq_true rfl), (Nat.le_of_ble_eq_true rfl)⟩ rfl rfl rfl (Nat.le_of_ble_eq_true rfl) dX11_letter_47 ?_
        refine V_goto hc dX11_letter_50 rfl ?_
        obtain rfl := Option.some.inj hv4
        exact V_sub [] rfl hJ31
    · rw [if_pos hq8] at hf
      refine V_aload_n hc dX11_letter_11 rfl 0 rfl ?_
      obtain ⟨a10, ha10, hf⟩ := mb hf
      refine C_getr hc rfl iW11 (by decide) 3 (by decide) rfl ha10 w2_196 dX11_letter_12 ?_
      obtain ⟨a11, ha11, hf⟩ := mb hf
      refine C_getr hc rfl iW10 (by decide) 2 (by decide) rfl ha11 w2_77 dX11_letter_15 ?_
      refine V_iload_n hc dX11_letter_18 rfl 2 rfl ?_
      obtain ⟨v12, hv12, hf⟩ := mb hf
      obtain ⟨hkv12, hv12⟩ := og hv12
      refine C_callV hc hz (As := [.int p2]) hkv12 (by decide) (c7_ask l D y _ _ hv12) w4_206 w4_207 w4_208 w1_7 w4_209 hdX_X7_ask ⟨(Nat.le_of_ble_eq_true rfl), (Nat.le_of_ble_eq_true rfl)⟩ rfl rfl rfl (Nat.le_of_ble_eq_true rfl) dX11_letter_19 ?_
      obtain rfl := Option.some.inj hf
      exact V_iret hc hzz rfl rfl rfl rfl rfl dX11_letter_22
  · rw [if_neg hq1] at hf
    refine V_iconst hc (v := (-1 : Int32)) dX11_letter_4 rfl ?_
    obtain rfl := Option.some.inj hf
    exact V_iret hc hzz rfl rfl rfl rfl rfl dX11_letter_5
noncomputable def f11_step (S : CS) (h : Nat) (p1 : Int32) (p2 : Int32) (p3 : Int32) (p4 : Int32) : Option (Int32) :=
  (gr S 11 h 3).bind fun a1 =>
  (cal S 10 a1 (f10_knows S a1 p1)).bind fun v2 =>
  if v2 = 0 then (
    some (-1 : Int32)
  ) else (
    (gr S 11 h 3).bind fun a3 =>
    (gr S 10 a3 3).bind fun a4 =>
    (ldr S 16 a4 p1).bind fun a5 =>
    if p2 = (0 : Int32) then (
      (gi S 1 a5 12).bind fun v6 =>
      (
        if v6 = 0 then (
          some (-1 : Int32)
        ) else (
          (gr S 1 a5 1).bind fun a9 =>
          (cal S 4 a9 (f4_ask S a9 p3 p4)).bind fun v10 =>
          some v10
        )
      ).bind fun v7 =>
      some v7
    ) else (
      if p2 = (1 : Int32) then (
        (gi S 1 a5 13).bind fun v11 =>
        (
          if v11 = 0 then (
            some (-1 : Int32)
          ) else (
            (gr S 1 a5 2).bind fun a14 =>
            (cal S 4 a14 (f4_ask S a14 p3 p4)).bind fun v15 =>
            some v15
          )
        ).bind fun v12 =>
        some v12
      ) else (
        if p2 = (2 : Int32) then (
          (gr S 1 a5 3).bind fun a16 =>
          (cal S 3 a16 (f3_askLatest S a16 p3 p4)).bind fun v17 =>
          some v17
        ) else (
          if p2 = (3 : Int32) then (
            (gr S 1 a5 4).bind fun a18 =>
            (cal S 3 a18 (f3_askLatest S a18 p3 p4)).bind fun v19 =>
            some v19
          ) else (
            some (-1 : Int32)
          )
        )
      )
    )
  )
theorem hdX_X11_step : yX11_step.cls = "FarEditors" ∧ yX11_step.cls ≠ "java/lang/invoke/MethodHandle" ∧ yX11_step.cls ≠ "java/lang/invoke/VarHandle" ∧ (parseMethodDescriptor yX11_step.desc).map (fun d => d.parameters.length) = some 4 := by decide +kernel
set_option maxHeartbeats 4000000 in
set_option maxRecDepth 100000 in
theorem c11_step (l : Launch) (D : va_G) (y : CyT) (zM uM : Nat) {S : CS} {h : Nat} {p1 : Int32} {p2 : Int32} {p3 : Int32} {p4 : Int32} {r : Int32} (hf : f11_step S h p1 p2 p3 p4 = some r) : CT l D y yX11_step cX11_step 6 (some .int) 5 110 zM uM [.ref h, .int p1, .int p2, .int p3, .int p4] (cZ S) (cU S) (cw y S) (cZ S) (cU S) (cw y S) (some (.int r)) := by
  refine CT.of (by decide) (Nat.le_of_ble_eq_true rfl) (fun E hc hzz hnm => ?_)
  have hc : Cx E "FarEditors" cX11_step 6 := hc
  have hz := hzz.1
  have hT := hz.2.2.1
  show V E (cZ S) (cU S) (cw y S) 0 [(0, .ref h), (1, .int p1), (2, .int p2), (3, .int p3), (4, .int p4)] []
  unfold f11_step at hf
  refine V_aload_n hc dX11_step_0 rfl 0 rfl ?_
  obtain ⟨a1, ha1, hf⟩ := mb hf
  refine C_getr hc rfl iW11 (by decide) 3 (by decide) rfl ha1 w2_196 dX11_step_1 ?_
  refine V_iload_n hc dX11_step_4 rfl 1 rfl ?_
  obtain ⟨v2, hv2, hf⟩ := mb hf
  obtain ⟨hkv2, hv2⟩ := og hv2
  refine C_callV hc hz (As := [.int p1]) hkv2 (by decide) (c10_knows l D y _ _ hv2) w3_222 w3_223 w3_224 w1_8 w3_225 hdX_X10_knows ⟨(Nat.le_of_ble_eq_true rfl), (Nat.le_of_ble_eq_true rfl)⟩ rfl rfl rfl (Nat.le_of_ble_eq_true rfl) dX11_step_5 ?_
  refine V_if_ne hc dX11_step_8 rfl (fun hq8 => ?_) (fun hq8 => ?_)
  · rw [if_neg hq8] at hf
    refine V_aload_n hc dX11_step_13 rfl 0 rfl ?_
    obtain ⟨a3, ha3, hf⟩ := mb hf
    refine C_getr hc rfl iW11 (by decide) 3 (by decide) rfl ha3 w2_196 dX11_step_14 ?_
    obtain ⟨a4, ha4, hf⟩ := mb hf
    refine C_getr hc rfl iW10 (by decide) 3 (by decide) rfl ha4 w2_80 dX11_step_17 ?_
    refine V_iload_n hc dX11_step_20 rfl 1 rfl ?_
    obtain ⟨a5, ha5, hf⟩ := mb hf
    refine C_aald hc hT (by decide) (by decide) ha5 dX11_step_21 ?_
    refine V_astore hc dX11_step_22 (by decide) rfl ?_
    refine V_iload_n hc dX11_step_24 rfl 3 rfl ?_
    by_cases hs25_0 : p2 = (0 : Int32)
    · rw [if_pos hs25_0] at hf
      refine V_tableIn hc dX11_step_25 (by rw [hs25_0]; decide) (by rw [hs25_0]; decide) (off := 31) (by rw [hs25_0]; rfl) rfl ?_
      refine V_aload hc dX11_step_56 0 rfl ?_
      obtain ⟨v6, hv6, hf⟩ := mb hf
      refine C_geti hc rfl iW1 (by decide) 12 (by decide) rfl hv6 w2_32 dX11_step_58 ?_
      obtain ⟨v7, hv8, hf⟩ := mb hf
      have hJ61 : V E (cZ S) (cU S) (cw y S) 79 [] [.int v7] := by
        obtain rfl := Option.some.inj hf
        exact V_iret hc hzz rfl rfl rfl rfl rfl dX11_step_79
      refine V_if_eq hc dX11_step_61 rfl (fun hq61 => ?_) (fun hq61 => ?_)
      · rw [if_pos hq61] at hv8
        refine V_iconst hc (v := (-1 : Int32)) dX11_step_78 rfl ?_
        obtain rfl := Option.some.inj hv8
        exact V_sub [] rfl hJ61
      · rw [if_neg hq61] at hv8
        refine V_aload hc dX11_step_64 0 rfl ?_
        obtain ⟨a9, ha9, hv8⟩ := mb hv8
        refine C_getr hc rfl iW1 (by decide) 1 (by decide) rfl ha9 w2_1 dX11_step_66 ?_
        refine V_iload_n hc dX11_step_69 rfl 4 rfl ?_
        refine V_iload hc dX11_step_70 5 rfl ?_
        obtain ⟨v10, hv10, hv8⟩ := mb hv8
        obtain ⟨hkv10, hv10⟩ := og hv10
        refine C_callV hc hz (As := [.int p3, .int p4]) hkv10 (by decide) (c4_ask l D y _ _ hv10) w4_215 w4_216 w4_217 w1_5 w4_218 hdX_X4_ask ⟨(Nat.le_of_ble_eq_true rfl), (Nat.le_of_ble_eq_true rfl)⟩ rfl rfl rfl (Nat.le_of_ble_eq_true rfl) dX11_step_72 ?_
        refine V_goto hc dX11_step_75 rfl ?_
        obtain rfl := Option.some.inj hv8
        exact V_sub [] rfl hJ61
    rw [if_neg hs25_0] at hf
    by_cases hs25_1 : p2 = (1 : Int32)
    · rw [if_pos hs25_1] at hf
      refine V_tableIn hc dX11_step_25 (by rw [hs25_1]; decide) (by rw [hs25_1]; decide) (off := 55) (by rw [hs25_1]; rfl) rfl ?_
      refine V_aload hc dX11_step_80 0 rfl ?_
      obtain ⟨v11, hv11, hf⟩ := mb hf
      refine C_geti hc rfl iW1 (by decide) 13 (by decide) rfl hv11 w2_35 dX11_step_82 ?_
      obtain ⟨v12, hv13, hf⟩ := mb hf
      have hJ85 : V E (cZ S) (cU S) (cw y S) 103 [] [.int v12] := by
        obtain rfl := Option.some.inj hf
        exact V_iret hc hzz rfl rfl rfl rfl rfl dX11_step_103
      refine V_if_eq hc dX11_step_85 rfl (fun hq85 => ?_) (fun hq85 => ?_)
      · rw [if_pos hq85] at hv13
        refine V_iconst hc (v := (-1 : Int32)) dX11_step_102 rfl ?_
        obtain rfl := Option.some.inj hv13
        exact V_sub [] rfl hJ85
      · rw [if_neg hq85] at hv13
        refine V_aload hc dX11_step_88 0 rfl ?_
        obtain ⟨a14, ha14, hv13⟩ := mb hv13
        refine C_getr hc rfl iW1 (by decide) 2 (by decide) rfl ha14 w2_4 dX11_step_90 ?_
        refine V_iload_n hc dX11_step_93 rfl 4 rfl ?_
        refine V_iload hc dX11_step_94 5 rfl ?_
        obtain ⟨v15, hv15, hv13⟩ := mb hv13
        obtain ⟨hkv15, hv15⟩ := og hv15
        refine C_callV hc hz (As := [.int p3, .int p4]) hkv15 (by decide) (c4_ask l D y _ _ hv15) w4_215 w4_216 w4_217 w1_5 w4_218 hdX_X4_ask ⟨(Nat.le_of_ble_eq_true rfl), (Nat.le_of_ble_eq_true rfl)⟩ rfl rfl rfl (Nat.le_of_ble_eq_true rfl) dX11_step_96 ?_
        refine V_goto hc dX11_step_99 rfl ?_
        obtain rfl := Option.some.inj hv13
        exact V_sub [] rfl hJ85
    rw [if_neg hs25_1] at hf
    by_cases hs25_2 : p2 = (2 : Int32)
    · rw [if_pos hs25_2] at hf
      refine V_tableIn hc dX11_step_25 (by rw [hs25_2]; decide) (by rw [hs25_2]; decide) (off := 79) (by rw [hs25_2]; rfl) rfl ?_
      refine V_aload hc dX11_step_104 0 rfl ?_
      obtain ⟨a16, ha16, hf⟩ := mb hf
      refine C_getr hc rfl iW1 (by decide) 3 (by decide) rfl ha16 w2_7 dX11_step_106 ?_
      refine V_iload_n hc dX11_step_109 rfl 4 rfl ?_
      refine V_iload hc dX11_step_110 5 rfl ?_
      obtain ⟨v17, hv17, hf⟩ := mb hf
      obtain ⟨hkv17, hv17⟩ := og hv17
      refine C_callV hc hz (As := [.int p3, .int p4]) hkv17 (by decide) (c3_askLatest l D y _ _ hv17) w4_235 w4_236 w4_237 w1_10 w4_238 hdX_X3_askLatest ⟨(Nat.le_of_ble_eq_true rfl), (Nat.le_of_ble_eq_true rfl)⟩ rfl rfl rfl (Nat.le_of_ble_eq_true rfl) dX11_step_112 ?_
      obtain rfl := Option.some.inj hf
      exact V_iret hc hzz rfl rfl rfl rfl rfl dX11_step_115
    rw [if_neg hs25_2] at hf
    by_cases hs25_3 : p2 = (3 : Int32)
    · rw [if_pos hs25_3] at hf
      refine V_tableIn hc dX11_step_25 (by rw [hs25_3]; decide) (by rw [hs25_3]; decide) (off := 91) (by rw [hs25_3]; rfl) rfl ?_
      refine V_aload hc dX11_step_116 0 rfl ?_
      obtain ⟨a18, ha18, hf⟩ := mb hf
      refine C_getr hc rfl iW1 (by decide) 4 (by decide) rfl ha18 w2_10 dX11_step_118 ?_
      refine V_iload_n hc dX11_step_121 rfl 4 rfl ?_
      refine V_iload hc dX11_step_122 5 rfl ?_
      obtain ⟨v19, hv19, hf⟩ := mb hf
      obtain ⟨hkv19, hv19⟩ := og hv19
      refine C_callV hc hz (As := [.int p3, .int p4]) hkv19 (by decide) (c3_askLatest l D y _ _ hv19) w4_235 w4_236 w4_237 w1_10 w4_238 hdX_X3_askLatest ⟨(Nat.le_of_ble_eq_true rfl), (Nat.le_of_ble_eq_true rfl)⟩ rfl rfl rfl (Nat.le_of_ble_eq_true rfl) dX11_step_124 ?_
      obtain rfl := Option.some.inj hf
      exact V_iret hc hzz rfl rfl rfl rfl rfl dX11_step_127
    rw [if_neg hs25_3] at hf
    have hto : p2.toInt < 0 ∨ 3 < p2.toInt := by
      have ht0 : ¬ p2.toInt = 0 := fun hh => hs25_0 (Int32.toInt_inj.mp (hh.trans rfl))
      have ht1 : ¬ p2.toInt = 1 := fun hh => hs25_1 (Int32.toInt_inj.mp (hh.trans rfl))
      have ht2 : ¬ p2.toInt = 2 := fun hh => hs25_2 (Int32.toInt_inj.mp (hh.trans rfl))
      have ht3 : ¬ p2.toInt = 3 := fun hh => hs25_3 (Int32.toInt_inj.mp (hh.trans rfl))
      omega
    refine V_tableOut hc dX11_step_25 hto rfl ?_
    refine V_iconst hc (v := (-1 : Int32)) dX11_step_128 rfl ?_
    obtain rfl := Option.some.inj hf
    exact V_iret hc hzz rfl rfl rfl rfl rfl dX11_step_129
  · rw [if_pos hq8] at hf
    refine V_iconst hc (v := (-1 : Int32)) dX11_step_11 rfl ?_
    obtain rfl := Option.some.inj hf
    exact V_iret hc hzz rfl rfl rfl rfl rfl dX11_step_12
noncomputable def f11_isTaken (S : CS) (h : Nat) (p1 : Int32) : Option (Int32) :=
  (
    if p1 < (1 : Int32) then (
      some (0 : Int32)
    ) else (
      (gr S 11 h 3).bind fun a3 =>
      (gi S 10 a3 11).bind fun v4 =>
      if v4 < p1 then (
        some (0 : Int32)
      ) else (
        some (1 : Int32)
      )
    )
  ).bind fun v1 =>
  (bz v1).bind fun v5 =>
  some v5
theorem hdX_X11_isTaken : yX11_isTaken.cls = "FarEditors" ∧ yX11_isTaken.cls ≠ "java/lang/invoke/MethodHandle" ∧ yX11_isTaken.cls ≠ "java/lang/invoke/VarHandle" ∧ (parseMethodDescriptor yX11_isTaken.desc).map (fun d => d.parameters.length) = some 1 := by decide +kernel
set_option maxHeartbeats 4000000 in
set_option maxRecDepth 100000 in
theorem c11_isTaken (l : Launch) (D : va_G) (y : CyT) (zM uM : Nat) {S : CS} {h : Nat} {p1 : Int32} {r : Int32} (hf : f11_isTaken S h p1 = some r) : CT l D y yX11_isTaken cX11_isTaken 2 (some .boolean) 0 0 zM uM [.ref h, .int p1] (cZ S) (cU S) (cw y S) (cZ S) (cU S) (cw y S) (some (.int r)) := by
  refine CT.of (by decide) (Nat.le_of_ble_eq_true rfl) (fun E hc hzz hnm => ?_)
  have hc : Cx E "FarEditors" cX11_isTaken 2 := hc
  have hz := hzz.1
  have hT := hz.2.2.1
  show V E (cZ S) (cU S) (cw y S) 0 [(0, .ref h), (1, .int p1)] []
  unfold f11_isTaken at hf
  refine V_iload_n hc dX11_isTaken_0 rfl 1 rfl ?_
  refine V_iconst hc (v := (1 : Int32)) dX11_isTaken_1 rfl ?_
  obtain ⟨v1, hv2, hf⟩ := mb hf
  have hJ2 : V E (cZ S) (cU S) (cw y S) 21 [] [.int v1] := by
    obtain ⟨v5, hv5, hf⟩ := mb hf
    obtain ⟨hbv5, rfl⟩ := bz_some hv5
    obtain rfl := Option.some.inj hf
    exact V_iret hc hzz (bz_nar hbv5) rfl rfl rfl rfl dX11_isTaken_21
  refine V_icmp_lt hc dX11_isTaken_2 rfl (fun hq2 => ?_) (fun hq2 => ?_)
  · rw [if_pos hq2] at hv2
    refine V_iconst hc (v := (0 : Int32)) dX11_isTaken_20 rfl ?_
    obtain rfl := Option.some.inj hv2
    exact V_sub [] rfl hJ2
  · rw [if_neg hq2] at hv2
    refine V_iload_n hc dX11_isTaken_5 rfl 1 rfl ?_
    refine V_aload_n hc dX11_isTaken_6 rfl 0 rfl ?_
    obtain ⟨a3, ha3, hv2⟩ := mb hv2
    refine C_getr hc rfl iW11 (by decide) 3 (by decide) rfl ha3 w2_196 dX11_isTaken_7 ?_
    obtain ⟨v4, hv4, hv2⟩ := mb hv2
    refine C_geti hc rfl iW10 (by decide) 11 (by decide) rfl hv4 w2_96 dX11_isTaken_10 ?_
    refine V_icmp_gt hc dX11_isTaken_13 rfl (fun hq13 => ?_) (fun hq13 => ?_)
    · rw [if_pos hq13] at hv2
      refine V_iconst hc (v := (0 : Int32)) dX11_isTaken_20 rfl ?_
      obtain rfl := Option.some.inj hv2
      exact V_sub [] rfl hJ2
    · rw [if_neg hq13] at hv2
      refine V_iconst hc (v := (1 : Int32)) dX11_isTaken_16 rfl ?_
      refine V_goto hc dX11_isTaken_17 rfl ?_
      obtain rfl := Option.some.inj hv2
      exact V_sub [] rfl hJ2
noncomputable def f11_row (S : CS) (h : Nat) (p1 : Int32) (p2 : Int32) (p3 : Int32) : Option (Int32) :=
  (cal S 11 h (f11_isTaken S h p1)).bind fun v1 =>
  if v1 = 0 then (
    some (-1 : Int32)
  ) else (
    (gr S 11 h 2).bind fun a2 =>
    (gr S 6 a2 1).bind fun a3 =>
    (ldr S 17 a3 (p1 - (1 : Int32))).bind fun a4 =>
    if p2 = (-1 : Int32) then (
      if p3 = 0 then (
        (gr S 11 h 2).bind fun a8 =>
        (gr S 6 a8 2).bind fun a9 =>
        (ldi S a9 (p1 - (1 : Int32))).bind fun v10 =>
        some v10
      ) else (
        (
          if p3 = (1 : Int32) then (
            (cal S 4 a4 (f4_countSteps S a4)).bind fun v7 =>
            some v7
          ) else (
            some (-1 : Int32)
          )
        ).bind fun v5 =>
        some v5
      )
    ) else (
      (cal S 4 a4 (f4_ask S a4 p2 p3)).bind fun v11 =>
      some v11
    )
  )
theorem hdX_X11_row : yX11_row.cls = "FarEditors" ∧ yX11_row.cls ≠ "java/lang/invoke/MethodHandle" ∧ yX11_row.cls ≠ "java/lang/invoke/VarHandle" ∧ (parseMethodDescriptor yX11_row.desc).map (fun d => d.parameters.length) = some 3 := by decide +kernel
set_option maxHeartbeats 4000000 in
set_option maxRecDepth 100000 in
theorem c11_row (l : Launch) (D : va_G) (y : CyT) (zM uM : Nat) {S : CS} {h : Nat} {p1 : Int32} {p2 : Int32} {p3 : Int32} {r : Int32} (hf : f11_row S h p1 p2 p3 = some r) : CT l D y yX11_row cX11_row 5 (some .int) 4 88 zM uM [.ref h, .int p1, .int p2, .int p3] (cZ S) (cU S) (cw y S) (cZ S) (cU S) (cw y S) (some (.int r)) := by
  refine CT.of (by decide) (Nat.le_of_ble_eq_true rfl) (fun E hc hzz hnm => ?_)
  have hc : Cx E "FarEditors" cX11_row 5 := hc
  have hz := hzz.1
  have hT := hz.2.2.1
  show V E (cZ S) (cU S) (cw y S) 0 [(0, .ref h), (1, .int p1), (2, .int p2), (3, .int p3)] []
  unfold f11_row at hf
  refine V_aload_n hc dX11_row_0 rfl 0 rfl ?_
  refine V_iload_n hc dX11_row_1 rfl 1 rfl ?_
  obtain ⟨v1, hv1, hf⟩ := mb hf
  obtain ⟨hkv1, hv1⟩ := og hv1
  refine C_callV hc hz (As := [.int p1]) hkv1 (by decide) (c11_isTaken l D y _ _ hv1) w5_4 w5_6 wp3_6 w1_1 w5_7 hdX_X11_isTaken ⟨(Nat.le_of_ble_eq_true rfl), (Nat.le_of_ble_eq_true rfl)⟩ rfl rfl rfl (Nat.le_of_ble_eq_true rfl) dX11_row_2 ?_
  refine V_if_ne hc dX11_row_5 rfl (fun hq5 => ?_) (fun hq5 => ?_)
  · rw [if_neg hq5] at hf
    refine V_aload_n hc dX11_row_10 rfl 0 rfl ?_
    obtain ⟨a2, ha2, hf⟩ := mb hf
    refine C_getr hc rfl iW11 (by decide) 2 (by decide) rfl ha2 w2_195 dX11_row_11 ?_
    obtain ⟨a3, ha3, hf⟩ := mb hf
    refine C_getr hc rfl iW6 (by decide) 1 (by decide) rfl ha3 w1_184 dX11_row_14 ?_
    refine V_iload_n hc dX11_row_17 rfl 1 rfl ?_
    refine V_iconst hc (v := (1 : Int32)) dX11_row_18 rfl ?_
    refine V_isub hc dX11_row_19 ?_
    obtain ⟨a4, ha4, hf⟩ := mb hf
    refine C_aald hc hT (by decide) (by decide) ha4 dX11_row_20 ?_
    refine V_astore hc dX11_row_21 (by decide) rfl ?_
    refine V_iload_n hc dX11_row_23 rfl 3 rfl ?_
    refine V_iconst hc (v := (-1 : Int32)) dX11_row_24 rfl ?_
    refine V_icmp_eq hc dX11_row_25 rfl (fun hq25 => ?_) (fun hq25 => ?_)
    · rw [if_pos hq25] at hf
      refine V_iload_n hc dX11_row_36 rfl 4 rfl ?_
      refine V_if_ne hc dX11_row_37 rfl (fun hq37 => ?_) (fun hq37 => ?_)
      · rw [if_neg hq37] at hf
        refine V_iload_n hc dX11_row_52 rfl 4 rfl ?_
        refine V_iconst hc (v := (1 : Int32)) dX11_row_53 rfl ?_
        obtain ⟨v5, hv6, hf⟩ := mb hf
        have hJ54 : V E (cZ S) (cU S) (cw y S) 66 [] [.int v5] := by
          obtain rfl := Option.some.inj hf
          exact V_iret hc hzz rfl rfl rfl rfl rfl dX11_row_66
        refine V_icmp_ne hc dX11_row_54 rfl (fun hq54 => ?_) (fun hq54 => ?_)
        · rw [if_neg hq54] at hv6
          refine V_iconst hc (v := (-1 : Int32)) dX11_row_65 rfl ?_
          obtain rfl := Option.some.inj hv6
          exact V_sub [] rfl hJ54
        · rw [if_pos hq54] at hv6
          refine V_aload hc dX11_row_57 0 rfl ?_
          obtain ⟨v7, hv7, hv6⟩ := mb hv6
          obtain ⟨hkv7, hv7⟩ := og hv7
          refine C_callV hc hz (As := []) hkv7 (by decide) (c4_countSteps l D y _ _ hv7) w5_8 w5_9 w5_10 w1_5 w5_11 hdX_X4_countSteps ⟨(Nat.le_of_ble_eq_true rfl), (Nat.le_of_ble_eq_true rfl)⟩ rfl rfl rfl (Nat.le_of_ble_eq_true rfl) dX11_row_59 ?_
          refine V_goto hc dX11_row_62 rfl ?_
          obtain rfl := Option.some.inj hv6
          exact V_sub [] rfl hJ54
      · rw [if_pos hq37] at hf
        refine V_aload_n hc dX11_row_40 rfl 1 rfl ?_
        obtain ⟨a8, ha8, hf⟩ := mb hf
        refine C_getr hc rfl iW11 (by decide) 2 (by decide) rfl ha8 w2_195 dX11_row_41 ?_
        obtain ⟨a9, ha9, hf⟩ := mb hf
        refine C_getr hc rfl iW6 (by decide) 2 (by decide) rfl ha9 w1_188 dX11_row_44 ?_
        refine V_iload_n hc dX11_row_47 rfl 2 rfl ?_
        refine V_iconst hc (v := (1 : Int32)) dX11_row_48 rfl ?_
        refine V_isub hc dX11_row_49 ?_
        obtain ⟨v10, hv10, hf⟩ := mb hf
        refine C_iald hc hT hv10 dX11_row_50 ?_
        obtain rfl := Option.some.inj hf
        exact V_iret hc hzz rfl rfl rfl rfl rfl dX11_row_51
    · rw [if_neg hq25] at hf
      refine V_aload hc dX11_row_28 0 rfl ?_
      refine V_iload_n hc dX11_row_30 rfl 3 rfl ?_
      refine V_iload_n hc dX11_row_31 rfl 4 rfl ?_
      obtain ⟨v11, hv11, hf⟩ := mb hf
      obtain ⟨hkv11, hv11⟩ := og hv11
      refine C_callV hc hz (As := [.int p2, .int p3]) hkv11 (by decide) (c4_ask l D y _ _ hv11) w4_215 w4_216 w4_217 w1_5 w4_218 hdX_X4_ask ⟨(Nat.le_of_ble_eq_true rfl), (Nat.le_of_ble_eq_true rfl)⟩ rfl rfl rfl (Nat.le_of_ble_eq_true rfl) dX11_row_32 ?_
      obtain rfl := Option.some.inj hf
      exact V_iret hc hzz rfl rfl rfl rfl rfl dX11_row_35
  · rw [if_pos hq5] at hf
    refine V_iconst hc (v := (-1 : Int32)) dX11_row_8 rfl ?_
    obtain rfl := Option.some.inj hf
    exact V_iret hc hzz rfl rfl rfl rfl rfl dX11_row_9
noncomputable def f11_mark (S : CS) (h : Nat) (p1 : Int32) (p2 : Int32) (p3 : Int32) : Option (Int32) :=
  (gr S 11 h 3).bind fun a1 =>
  (cal S 10 a1 (f10_knows S a1 p1)).bind fun v2 =>
  if v2 = 0 then (
    some (-1 : Int32)
  ) else (
    if p3 < 0 then (
      some (-1 : Int32)
    ) else (
      if p3 ≤ (2 : Int32) then (
        (gr S 11 h 3).bind fun a3 =>
        (gr S 10 a3 3).bind fun a4 =>
        (ldr S 16 a4 p1).bind fun a5 =>
        (cal S 1 a5 (f1_hasMark S a5 p2)).bind fun v6 =>
        (
          if v6 = 0 then (
            some (-1 : Int32)
          ) else (
            (gr S 1 a5 5).bind fun a9 =>
            (ldi S a9 (((3 : Int32) * p2) + p3)).bind fun v10 =>
            some v10
          )
        ).bind fun v7 =>
        some v7
      ) else (
        some (-1 : Int32)
      )
    )
  )
theorem hdX_X11_mark : yX11_mark.cls = "FarEditors" ∧ yX11_mark.cls ≠ "java/lang/invoke/MethodHandle" ∧ yX11_mark.cls ≠ "java/lang/invoke/VarHandle" ∧ (parseMethodDescriptor yX11_mark.desc).map (fun d => d.parameters.length) = some 3 := by decide +kernel
set_option maxHeartbeats 4000000 in
set_option maxRecDepth 100000 in
theorem c11_mark (l : Launch) (D : va_G) (y : CyT) (zM uM : Nat) {S : CS} {h : Nat} {p1 : Int32} {p2 : Int32} {p3 : Int32} {r : Int32} (hf : f11_mark S h p1 p2 p3 = some r) : CT l D y yX11_mark cX11_mark 5 (some .int) 1 21 zM uM [.ref h, .int p1, .int p2, .int p3] (cZ S) (cU S) (cw y S) (cZ S) (cU S) (cw y S) (some (.int r)) := by
  refine CT.of (by decide) (Nat.le_of_ble_eq_true rfl) (fun E hc hzz hnm => ?_)
  have hc : Cx E "FarEditors" cX11_mark 5 := hc
  have hz := hzz.1
  have hT := hz.2.2.1
  show V E (cZ S) (cU S) (cw y S) 0 [(0, .ref h), (1, .int p1), (2, .int p2), (3, .int p3)] []
  unfold f11_mark at hf
  refine V_aload_n hc dX11_mark_0 rfl 0 rfl ?_
  obtain ⟨a1, ha1, hf⟩ := mb hf
  refine C_getr hc rfl iW11 (by decide) 3 (by decide) rfl ha1 w2_196 dX11_mark_1 ?_
  refine V_iload_n hc dX11_mark_4 rfl 1 rfl ?_
  obtain ⟨v2, hv2, hf⟩ := mb hf
  obtain ⟨hkv2, hv2⟩ := og hv2
  refine C_callV hc hz (As := [.int p1]) hkv2 (by decide) (c10_knows l D y _ _ hv2) w3_222 w3_223 w3_224 w1_8 w3_225 hdX_X10_knows ⟨(Nat.le_of_ble_eq_true rfl), (Nat.le_of_ble_eq_true rfl)⟩ rfl rfl rfl (Nat.le_of_ble_eq_true rfl) dX11_mark_5 ?_
  refine V_if_eq hc dX11_mark_8 rfl (fun hq8 => ?_) (fun hq8 => ?_)
  · rw [if_pos hq8] at hf
    refine V_iconst hc (v := (-1 : Int32)) dX11_mark_20 rfl ?_
    obtain rfl := Option.some.inj hf
    exact V_iret hc hzz rfl rfl rfl rfl rfl dX11_mark_21
  · rw [if_neg hq8] at hf
    refine V_iload_n hc dX11_mark_11 rfl 3 rfl ?_
    refine V_if_lt hc dX11_mark_12 rfl (fun hq12 => ?_) (fun hq12 => ?_)
    · rw [if_pos hq12] at hf
      refine V_iconst hc (v := (-1 : Int32)) dX11_mark_20 rfl ?_
      obtain rfl := Option.some.inj hf
      exact V_iret hc hzz rfl rfl rfl rfl rfl dX11_mark_21
    · rw [if_neg hq12] at hf
      refine V_iload_n hc dX11_mark_15 rfl 3 rfl ?_
      refine V_iconst hc (v := (2 : Int32)) dX11_mark_16 rfl ?_
      refine V_icmp_le hc dX11_mark_17 rfl (fun hq17 => ?_) (fun hq17 => ?_)
      · rw [if_pos hq17] at hf
        refine V_aload_n hc dX11_mark_22 rfl 0 rfl ?_
        obtain ⟨a3, ha3, hf⟩ := mb hf
        refine C_getr hc rfl iW11 (by decide) 3 (by decide) rfl ha3 w2_196 dX11_mark_23 ?_
        obtain ⟨a4, ha4, hf⟩ := mb hf
        refine C_getr hc rfl iW10 (by decide) 3 (by decide) rfl ha4 w2_80 dX11_mark_26 ?_
        refine V_iload_n hc dX11_mark_29 rfl 1 rfl ?_
        obtain ⟨a5, ha5, hf⟩ := mb hf
        refine C_aald hc hT (by decide) (by decide) ha5 dX11_mark_30 ?_
        refine V_astore hc dX11_mark_31 (by decide) rfl ?_
        refine V_aload hc dX11_mark_33 0 rfl ?_
        refine V_iload_n hc dX11_mark_35 rfl 3 rfl ?_
        obtain ⟨v6, hv6, hf⟩ := mb hf
        obtain ⟨hkv6, hv6⟩ := og hv6
        refine C_callV hc hz (As := [.int p2]) hkv6 (by decide) (c1_hasMark l D y _ _ hv6) w5_16 w5_17 w5_18 w1_9 w5_19 hdX_X1_hasMark ⟨(Nat.le_of_ble_eq_true rfl), (Nat.le_of_ble_eq_true rfl)⟩ rfl rfl rfl (Nat.le_of_ble_eq_true rfl) dX11_mark_36 ?_
        obtain ⟨v7, hv8, hf⟩ := mb hf
        have hJ39 : V E (cZ S) (cU S) (cw y S) 57 [] [.int v7] := by
          obtain rfl := Option.some.inj hf
          exact V_iret hc hzz rfl rfl rfl rfl rfl dX11_mark_57
        refine V_if_eq hc dX11_mark_39 rfl (fun hq39 => ?_) (fun hq39 => ?_)
        · rw [if_pos hq39] at hv8
          refine V_iconst hc (v := (-1 : Int32)) dX11_mark_56 rfl ?_
          obtain rfl := Option.some.inj hv8
          exact V_sub [] rfl hJ39
        · rw [if_neg hq39] at hv8
          refine V_aload hc dX11_mark_42 0 rfl ?_
          obtain ⟨a9, ha9, hv8⟩ := mb hv8
          refine C_getr hc rfl iW1 (by decide) 5 (by decide) rfl ha9 w2_13 dX11_mark_44 ?_
          refine V_iconst hc (v := (3 : Int32)) dX11_mark_47 rfl ?_
          refine V_iload_n hc dX11_mark_48 rfl 3 rfl ?_
          refine V_imul hc dX11_mark_49 ?_
          refine V_iload_n hc dX11_mark_50 rfl 4 rfl ?_
          refine V_iadd hc dX11_mark_51 ?_
          obtain ⟨v10, hv10, hv8⟩ := mb hv8
          refine C_iald hc hT hv10 dX11_mark_52 ?_
          refine V_goto hc dX11_mark_53 rfl ?_
          obtain rfl := Option.some.inj hv8
          exact V_sub [] rfl hJ39
      · rw [if_neg hq17] at hf
        refine V_iconst hc (v := (-1 : Int32)) dX11_mark_20 rfl ?_
        obtain rfl := Option.some.inj hf
        exact V_iret hc hzz rfl rfl rfl rfl rfl dX11_mark_21
noncomputable def LX11_replay_16 (h : Nat) (c1 : Int32) : Nat → Int32 → CS → Option (CS)
  | 0, _, _ => none
  | n + 1, i2, S =>
    if c1 ≤ i2 then (
      some S
    ) else (
      (gr S 11 h 1).bind fun a1 =>
      (gr S 11 h 9).bind fun a2 =>
      (gr S 11 h 2).bind fun a3 =>
      (gr S 6 a3 1).bind fun a4 =>
      (ldr S 17 a4 i2).bind fun a5 =>
      (cal S 9 a1 (f9_change S a1 a2 a5 (0 : Int32))).bind fun S6 =>
      LX11_replay_16 h c1 n (i2 + (1 : Int32)) S6
    )
noncomputable def f11_replay (S : CS) (h : Nat) (p1 : Int32) : Option (CS) :=
  (gr S 11 h 9).bind fun a1 =>
  (gr S 11 h 2).bind fun a2 =>
  (gr S 6 a2 0).bind fun a3 =>
  (cal S 7 a1 (f7_copy S a1 a3)).bind fun S4 =>
  (LX11_replay_16 h p1 FU (0 : Int32) S4).bind fun S5 =>
  some S5
theorem hdX_X11_replay : yX11_replay.cls = "FarEditors" ∧ yX11_replay.cls ≠ "java/lang/invoke/MethodHandle" ∧ yX11_replay.cls ≠ "java/lang/invoke/VarHandle" ∧ (parseMethodDescriptor yX11_replay.desc).map (fun d => d.parameters.length) = some 1 := by decide +kernel
set_option maxHeartbeats 4000000 in
set_option maxRecDepth 100000 in
theorem LX11_replay_16_ok {E : CxT} {l : Launch} {D : va_G} {y : CyT} {zM uM : Nat} (hc : Cx E "FarEditors" cX11_replay 3) (h : Nat) (c1 : Int32) (hz : Cy E l D y 2 54 zM uM) : ∀ (n : Nat) (i2 : Int32) (S : CS) {So : CS}, LX11_replay_16 h c1 n i2 S = some So → (hx0 : V E (cZ So) (cU So) (cw y So) 48 [] []) → V E (cZ S) (cU S) (cw y S) 16 [(0, .ref h), (1, .int c1), (2, .int i2)] [] := by
  have hT := hz.2.2.1
  intro n
  induction n with
  | zero => intro i2 S So hf; cases hf
  | succ n ih =>
    intro i2 S So hf hx0
    unfold LX11_replay_16 at hf
    refine V_iload_n hc dX11_replay_16 rfl 2 rfl ?_
    refine V_iload_n hc dX11_replay_17 rfl 1 rfl ?_
    refine V_icmp_ge hc dX11_replay_18 rfl (fun hq18 => ?_) (fun hq18 => ?_)
    · rw [if_pos hq18] at hf
      obtain rfl := Option.some.inj hf
      exact V_sub [] rfl hx0
    · rw [if_neg hq18] at hf
      refine V_aload_n hc dX11_replay_21 rfl 0 rfl ?_
      obtain ⟨a1, ha1, hf⟩ := mb hf
      refine C_getr hc rfl iW11 (by decide) 1 (by decide) rfl ha1 w2_194 dX11_replay_22 ?_
      refine V_aload_n hc dX11_replay_25 rfl 0 rfl ?_
      obtain ⟨a2, ha2, hf⟩ := mb hf
      refine C_getr hc rfl iW11 (by decide) 9 (by decide) rfl ha2 w2_202 dX11_replay_26 ?_
      refine V_aload_n hc dX11_replay_29 rfl 0 rfl ?_
      obtain ⟨a3, ha3, hf⟩ := mb hf
      refine C_getr hc rfl iW11 (by decide) 2 (by decide) rfl ha3 w2_195 dX11_replay_30 ?_
      obtain ⟨a4, ha4, hf⟩ := mb hf
      refine C_getr hc rfl iW6 (by decide) 1 (by decide) rfl ha4 w1_184 dX11_replay_33 ?_
      refine V_iload_n hc dX11_replay_36 rfl 2 rfl ?_
      obtain ⟨a5, ha5, hf⟩ := mb hf
      refine C_aald hc hT (by decide) (by decide) ha5 dX11_replay_37 ?_
      refine V_iconst hc (v := (0 : Int32)) dX11_replay_38 rfl ?_
      obtain ⟨S6, hS6, hf⟩ := mb hf
      obtain ⟨hkS6, hS6⟩ := og hS6
      refine C_callV hc hz (As := [.ref a2, .ref a5, .int (0 : Int32)]) hkS6 (by decide) (c9_change l D y _ _ hS6) w5_29 w4_82 w4_83 w1_3 w4_84 hdX_X9_change ⟨(Nat.le_of_ble_eq_true rfl), (Nat.le_of_ble_eq_true rfl)⟩ rfl rfl rfl (Nat.le_of_ble_eq_true rfl) dX11_replay_39 ?_
      refine V_iinc hc (j := 2) (v := (i2 + (1 : Int32))) dX11_replay_42 rfl rfl (by decide) rfl ?_
      refine V_goto hc dX11_replay_45 rfl ?_
      exact V_sub [1, 2, 0] rfl (ih _ _ hf hx0)
set_option maxHeartbeats 4000000 in
set_option maxRecDepth 100000 in
theorem c11_replay (l : Launch) (D : va_G) (y : CyT) (zM uM : Nat) {S S' : CS} {h : Nat} {p1 : Int32} (hf : f11_replay S h p1 = some S') : CT l D y yX11_replay cX11_replay 3 none 2 54 zM uM [.ref h, .int p1] (cZ S) (cU S) (cw y S) (cZ S') (cU S') (cw y S') none := by
  refine CT.of (by decide) (Nat.le_of_ble_eq_true rfl) (fun E hc hzz hnm => ?_)
  have hc : Cx E "FarEditors" cX11_replay 3 := hc
  have hz := hzz.1
  have hT := hz.2.2.1
  show V E (cZ S) (cU S) (cw y S) 0 [(0, .ref h), (1, .int p1)] []
  unfold f11_replay at hf
  refine V_aload_n hc dX11_replay_0 rfl 0 rfl ?_
  obtain ⟨a1, ha1, hf⟩ := mb hf
  refine C_getr hc rfl iW11 (by decide) 9 (by decide) rfl ha1 w2_202 dX11_replay_1 ?_
  refine V_aload_n hc dX11_replay_4 rfl 0 rfl ?_
  obtain ⟨a2, ha2, hf⟩ := mb hf
  refine C_getr hc rfl iW11 (by decide) 2 (by decide) rfl ha2 w2_195 dX11_replay_5 ?_
  obtain ⟨a3, ha3, hf⟩ := mb hf
  refine C_getr hc rfl iW6 (by decide) 0 (by decide) rfl ha3 w1_182 dX11_replay_8 ?_
  obtain ⟨S4, hS4, hf⟩ := mb hf
  obtain ⟨hkS4, hS4⟩ := og hS4
  refine C_callV hc hz (As := [.ref a3]) hkS4 (by decide) (c7_copy l D y _ _ hS4) w5_28 w3_205 w3_206 w1_7 w3_207 hdX_X7_copy ⟨(Nat.le_of_ble_eq_true rfl), (Nat.le_of_ble_eq_true rfl)⟩ rfl rfl rfl (Nat.le_of_ble_eq_true rfl) dX11_replay_11 ?_
  refine V_iconst hc (v := (0 : Int32)) dX11_replay_14 rfl ?_
  refine V_istore_n hc dX11_replay_15 rfl (by decide) rfl ?_
  obtain ⟨S5, hv6, hf⟩ := mb hf
  refine V_sub [1, 2, 0] rfl (LX11_replay_16_ok hc h p1 hz FU _ _ hv6 ?_)
  obtain rfl := Option.some.inj hf
  exact V_vret hc hzz rfl rfl rfl rfl dX11_replay_48
noncomputable def f11_was (S : CS) (h : Nat) (p1 : Int32) (p2 : Int32) : Option (Int32 × CS) :=
  (gr S 11 h 3).bind fun a1 =>
  (gi S 10 a1 6).bind fun v2 =>
  if v2 = 0 then (
    some ((-1 : Int32), S)
  ) else (
    if p1 < 0 then (
      some ((-1 : Int32), S)
    ) else (
      (gr S 11 h 3).bind fun a3 =>
      (gi S 10 a3 11).bind fun v4 =>
      if p1 ≤ v4 then (
        (cal S 11 h (f11_replay S h p1)).bind fun S5 =>
        (gr S5 11 h 9).bind fun a6 =>
        (cal S5 7 a6 (f7_ask S5 a6 p2)).bind fun v7 =>
        some (v7, S5)
      ) else (
        some ((-1 : Int32), S)
      )
    )
  )
theorem hdX_X11_was : yX11_was.cls = "FarEditors" ∧ yX11_was.cls ≠ "java/lang/invoke/MethodHandle" ∧ yX11_was.cls ≠ "java/lang/invoke/VarHandle" ∧ (parseMethodDescriptor yX11_was.desc).map (fun d => d.parameters.length) = some 2 := by decide +kernel
set_option maxHeartbeats 4000000 in
set_option maxRecDepth 100000 in
theorem c11_was (l : Launch) (D : va_G) (y : CyT) (zM uM : Nat) {S S' : CS} {h : Nat} {p1 : Int32} {p2 : Int32} {r : Int32} (hf : f11_was S h p1 p2 = some (r, S')) : CT l D y yX11_was cX11_was 3 (some .int) 3 76 zM uM [.ref h, .int p1, .int p2] (cZ S) (cU S) (cw y S) (cZ S') (cU S') (cw y S') (some (.int r)) := by
  refine CT.of (by decide) (Nat.le_of_ble_eq_true rfl) (fun E hc hzz hnm => ?_)
  have hc : Cx E "FarEditors" cX11_was 3 := hc
  have hz := hzz.1
  have hT := hz.2.2.1
  show V E (cZ S) (cU S) (cw y S) 0 [(0, .ref h), (1, .int p1), (2, .int p2)] []
  unfold f11_was at hf
  refine V_aload_n hc dX11_was_0 rfl 0 rfl ?_
  obtain ⟨a1, ha1, hf⟩ := mb hf
  refine C_getr hc rfl iW11 (by decide) 3 (by decide) rfl ha1 w2_196 dX11_was_1 ?_
  obtain ⟨v2, hv2, hf⟩ := mb hf
  refine C_geti hc rfl iW10 (by decide) 6 (by decide) rfl hv2 w2_86 dX11_was_4 ?_
  refine V_if_eq hc dX11_was_7 rfl (fun hq7 => ?_) (fun hq7 => ?_)
  · rw [if_pos hq7] at hf
    refine V_iconst hc (v := (-1 : Int32)) dX11_was_25 rfl ?_
    obtain ⟨rfl, rfl⟩ := si2 hf
    exact V_iret hc hzz rfl rfl rfl rfl rfl dX11_was_26
  · rw [if_neg hq7] at hf
    refine V_iload_n hc dX11_was_10 rfl 1 rfl ?_
    refine V_if_lt hc dX11_was_11 rfl (fun hq11 => ?_) (fun hq11 => ?_)
    · rw [if_pos hq11] at hf
      refine V_iconst hc (v := (-1 : Int32)) dX11_was_25 rfl ?_
      obtain ⟨rfl, rfl⟩ := si2 hf
      exact V_iret hc hzz rfl rfl rfl rfl rfl dX11_was_26
    · rw [if_neg hq11] at hf
      refine V_iload_n hc dX11_was_14 rfl 1 rfl ?_
      refine V_aload_n hc dX11_was_15 rfl 0 rfl ?_
      obtain ⟨a3, ha3, hf⟩ := mb hf
      refine C_getr hc rfl iW11 (by decide) 3 (by decide) rfl ha3 w2_196 dX11_was_16 ?_
      obtain ⟨v4, hv4, hf⟩ := mb hf
      refine C_geti hc rfl iW10 (by decide) 11 (by decide) rfl hv4 w2_96 dX11_was_19 ?_
      refine V_icmp_le hc dX11_was_22 rfl (fun hq22 => ?_) (fun hq22 => ?_)
      · rw [if_pos hq22] at hf
        refine V_aload_n hc dX11_was_27 rfl 0 rfl ?_
        refine V_iload_n hc dX11_was_28 rfl 1 rfl ?_
        obtain ⟨S5, hS5, hf⟩ := mb hf
        obtain ⟨hkS5, hS5⟩ := og hS5
        refine C_callV hc hz (As := [.int p1]) hkS5 (by decide) (c11_replay l D y _ _ hS5) w5_24 w5_26 wp3_7 w1_1 w5_27 hdX_X11_replay ⟨(Nat.le_of_ble_eq_true rfl), (Nat.le_of_ble_eq_true rfl)⟩ rfl rfl rfl (Nat.le_of_ble_eq_true rfl) dX11_was_29 ?_
        refine V_aload_n hc dX11_was_32 rfl 0 rfl ?_
        obtain ⟨a6, ha6, hf⟩ := mb hf
        refine C_getr hc rfl iW11 (by decide) 9 (by decide) rfl ha6 w2_202 dX11_was_33 ?_
        refine V_iload_n hc dX11_was_36 rfl 2 rfl ?_
        obtain ⟨v7, hv7, hf⟩ := mb hf
        obtain ⟨hkv7, hv7⟩ := og hv7
        refine C_callV hc hz (As := [.int p2]) hkv7 (by decide) (c7_ask l D y _ _ hv7) w4_206 w4_207 w4_208 w1_7 w4_209 hdX_X7_ask ⟨(Nat.le_of_ble_eq_true rfl), (Nat.le_of_ble_eq_true rfl)⟩ rfl rfl rfl (Nat.le_of_ble_eq_true rfl) dX11_was_37 ?_
        obtain ⟨rfl, rfl⟩ := si2 hf
        exact V_iret hc hzz rfl rfl rfl rfl rfl dX11_was_40
      · rw [if_neg hq22] at hf
        refine V_iconst hc (v := (-1 : Int32)) dX11_was_25 rfl ?_
        obtain ⟨rfl, rfl⟩ := si2 hf
        exact V_iret hc hzz rfl rfl rfl rfl rfl dX11_was_26
noncomputable def f11_by (S : CS) (h : Nat) (p1 : Int32) (p2 : Int32) : Option (Int32) :=
  (gr S 11 h 3).bind fun a1 =>
  (gr S 10 a1 2).bind fun a2 =>
  (cal S 7 a2 (f7_hasPlace S a2 p1)).bind fun v3 =>
  if v3 = 0 then (
    some (-1 : Int32)
  ) else (
    if p2 < 0 then (
      some (-1 : Int32)
    ) else (
      if p2 ≤ (1 : Int32) then (
        (gr S 11 h 3).bind fun a4 =>
        (gr S 10 a4 2).bind fun a5 =>
        (cal S 7 a5 (f7_writerOf S a5 p1)).bind fun v6 =>
        (
          if p2 = 0 then (
            some v6
          ) else (
            (gr S 11 h 3).bind fun a9 =>
            (cal S 10 a9 (f10_ownerOf S a9 v6)).bind fun v10 =>
            some v10
          )
        ).bind fun v7 =>
        some v7
      ) else (
        some (-1 : Int32)
      )
    )
  )
theorem hdX_X11_by : yX11_by.cls = "FarEditors" ∧ yX11_by.cls ≠ "java/lang/invoke/MethodHandle" ∧ yX11_by.cls ≠ "java/lang/invoke/VarHandle" ∧ (parseMethodDescriptor yX11_by.desc).map (fun d => d.parameters.length) = some 2 := by decide +kernel
set_option maxHeartbeats 4000000 in
set_option maxRecDepth 100000 in
theorem c11_by (l : Launch) (D : va_G) (y : CyT) (zM uM : Nat) {S : CS} {h : Nat} {p1 : Int32} {p2 : Int32} {r : Int32} (hf : f11_by S h p1 p2 = some r) : CT l D y yX11_by cX11_by 4 (some .int) 2 42 zM uM [.ref h, .int p1, .int p2] (cZ S) (cU S) (cw y S) (cZ S) (cU S) (cw y S) (some (.int r)) := by
  refine CT.of (by decide) (Nat.le_of_ble_eq_true rfl) (fun E hc hzz hnm => ?_)
  have hc : Cx E "FarEditors" cX11_by 4 := hc
  have hz := hzz.1
  have hT := hz.2.2.1
  show V E (cZ S) (cU S) (cw y S) 0 [(0, .ref h), (1, .int p1), (2, .int p2)] []
  unfold f11_by at hf
  refine V_aload_n hc dX11_by_0 rfl 0 rfl ?_
  obtain ⟨a1, ha1, hf⟩ := mb hf
  refine C_getr hc rfl iW11 (by decide) 3 (by decide) rfl ha1 w2_196 dX11_by_1 ?_
  obtain ⟨a2, ha2, hf⟩ := mb hf
  refine C_getr hc rfl iW10 (by decide) 2 (by decide) rfl ha2 w2_77 dX11_by_4 ?_
  refine V_iload_n hc dX11_by_7 rfl 1 rfl ?_
  obtain ⟨v3, hv3, hf⟩ := mb hf
  obtain ⟨hkv3, hv3⟩ := og hv3
  refine C_callV hc hz (As := [.int p1]) hkv3 (by decide) (c7_hasPlace l D y _ _ hv3) w5_34 w4_74 w4_75 w1_7 w4_76 hdX_X7_hasPlace ⟨(Nat.le_of_ble_eq_true rfl), (Nat.le_of_ble_eq_true rfl)⟩ rfl rfl rfl (Nat.le_of_ble_eq_true rfl) dX11_by_8 ?_
  refine V_if_eq hc dX11_by_11 rfl (fun hq11 => ?_) (fun hq11 => ?_)
  · rw [if_pos hq11] at hf
    refine V_iconst hc (v := (-1 : Int32)) dX11_by_23 rfl ?_
    obtain rfl := Option.some.inj hf
    exact V_iret hc hzz rfl rfl rfl rfl rfl dX11_by_24
  · rw [if_neg hq11] at hf
    refine V_iload_n hc dX11_by_14 rfl 2 rfl ?_
    refine V_if_lt hc dX11_by_15 rfl (fun hq15 => ?_) (fun hq15 => ?_)
    · rw [if_pos hq15] at hf
      refine V_iconst hc (v := (-1 : Int32)) dX11_by_23 rfl ?_
      obtain rfl := Option.some.inj hf
      exact V_iret hc hzz rfl rfl rfl rfl rfl dX11_by_24
    · rw [if_neg hq15] at hf
      refine V_iload_n hc dX11_by_18 rfl 2 rfl ?_
      refine V_iconst hc (v := (1 : Int32)) dX11_by_19 rfl ?_
      refine V_icmp_le hc dX11_by_20 rfl (fun hq20 => ?_) (fun hq20 => ?_)
      · rw [if_pos hq20] at hf
        refine V_aload_n hc dX11_by_25 rfl 0 rfl ?_
        obtain ⟨a4, ha4, hf⟩ := mb hf
        refine C_getr hc rfl iW11 (by decide) 3 (by decide) rfl ha4 w2_196 dX11_by_26 ?_
        obtain ⟨a5, ha5, hf⟩ := mb hf
        refine C_getr hc rfl iW10 (by decide) 2 (by decide) rfl ha5 w2_77 dX11_by_29 ?_
        refine V_iload_n hc dX11_by_32 rfl 1 rfl ?_
        obtain ⟨v6, hv6, hf⟩ := mb hf
        obtain ⟨hkv6, hv6⟩ := og hv6
        refine C_callV hc hz (As := [.int p1]) hkv6 (by decide) (c7_writerOf l D y _ _ hv6) w5_35 w4_70 w4_71 w1_7 w4_72 hdX_X7_writerOf ⟨(Nat.le_of_ble_eq_true rfl), (Nat.le_of_ble_eq_true rfl)⟩ rfl rfl rfl (Nat.le_of_ble_eq_true rfl) dX11_by_33 ?_
        refine V_istore_n hc dX11_by_36 rfl (by decide) rfl ?_
        refine V_iload_n hc dX11_by_37 rfl 3 rfl ?_
        obtain ⟨v7, hv8, hf⟩ := mb hf
        have hJ38 : V E (cZ S) (cU S) (cw y S) 53 [] [.int v7] := by
          obtain rfl := Option.some.inj hf
          exact V_iret hc hzz rfl rfl rfl rfl rfl dX11_by_53
        refine V_if_ne hc dX11_by_38 rfl (fun hq38 => ?_) (fun hq38 => ?_)
        · rw [if_neg hq38] at hv8
          refine V_aload_n hc dX11_by_45 rfl 1 rfl ?_
          obtain ⟨a9, ha9, hv8⟩ := mb hv8
          refine C_getr hc rfl iW11 (by decide) 3 (by decide) rfl ha9 w2_196 dX11_by_46 ?_
          refine V_iload_n hc dX11_by_49 rfl 0 rfl ?_
          obtain ⟨v10, hv10, hv8⟩ := mb hv8
          obtain ⟨hkv10, hv10⟩ := og hv10
          refine C_callV hc hz (As := [.int v6]) hkv10 (by decide) (c10_ownerOf l D y _ _ hv10) w5_36 w4_78 w4_79 w1_8 w4_80 hdX_X10_ownerOf ⟨(Nat.le_of_ble_eq_true rfl), (Nat.le_of_ble_eq_true rfl)⟩ rfl rfl rfl (Nat.le_of_ble_eq_true rfl) dX11_by_50 ?_
          obtain rfl := Option.some.inj hv8
          exact V_sub [] rfl hJ38
        · rw [if_pos hq38] at hv8
          refine V_iload_n hc dX11_by_41 rfl 0 rfl ?_
          refine V_goto hc dX11_by_42 rfl ?_
          obtain rfl := Option.some.inj hv8
          exact V_sub [] rfl hJ38
      · rw [if_neg hq20] at hf
        refine V_iconst hc (v := (-1 : Int32)) dX11_by_23 rfl ?_
        obtain rfl := Option.some.inj hf
        exact V_iret hc hzz rfl rfl rfl rfl rfl dX11_by_24
noncomputable def f11_share (S : CS) (h : Nat) (p1 : Int32) (p2 : Int32) : Option (Int32) :=
  (gr S 11 h 3).bind fun a1 =>
  (cal S 10 a1 (f10_knows S a1 p1)).bind fun v2 =>
  if v2 = 0 then (
    some (-1 : Int32)
  ) else (
    if p2 = 0 then (
      (gr S 11 h 3).bind fun a8 =>
      (cal S 10 a8 (f10_countLettersBy S a8 p1)).bind fun v9 =>
      some v9
    ) else (
      (
        if p2 = (1 : Int32) then (
          (gr S 11 h 3).bind fun a5 =>
          (gr S 10 a5 4).bind fun a6 =>
          (ldi S a6 p1).bind fun v7 =>
          some v7
        ) else (
          some (-1 : Int32)
        )
      ).bind fun v3 =>
      some v3
    )
  )
theorem hdX_X11_share : yX11_share.cls = "FarEditors" ∧ yX11_share.cls ≠ "java/lang/invoke/MethodHandle" ∧ yX11_share.cls ≠ "java/lang/invoke/VarHandle" ∧ (parseMethodDescriptor yX11_share.desc).map (fun d => d.parameters.length) = some 2 := by decide +kernel
set_option maxHeartbeats 4000000 in
set_option maxRecDepth 100000 in
theorem c11_share (l : Launch) (D : va_G) (y : CyT) (zM uM : Nat) {S : CS} {h : Nat} {p1 : Int32} {p2 : Int32} {r : Int32} (hf : f11_share S h p1 p2 = some r) : CT l D y yX11_share cX11_share 3 (some .int) 3 65 zM uM [.ref h, .int p1, .int p2] (cZ S) (cU S) (cw y S) (cZ S) (cU S) (cw y S) (some (.int r)) := by
  refine CT.of (by decide) (Nat.le_of_ble_eq_true rfl) (fun E hc hzz hnm => ?_)
  have hc : Cx E "FarEditors" cX11_share 3 := hc
  have hz := hzz.1
  have hT := hz.2.2.1
  show V E (cZ S) (cU S) (cw y S) 0 [(0, .ref h), (1, .int p1), (2, .int p2)] []
  unfold f11_share at hf
  refine V_aload_n hc dX11_share_0 rfl 0 rfl ?_
  obtain ⟨a1, ha1, hf⟩ := mb hf
  refine C_getr hc rfl iW11 (by decide) 3 (by decide) rfl ha1 w2_196 dX11_share_1 ?_
  refine V_iload_n hc dX11_share_4 rfl 1 rfl ?_
  obtain ⟨v2, hv2, hf⟩ := mb hf
  obtain ⟨hkv2, hv2⟩ := og hv2
  refine C_callV hc hz (As := [.int p1]) hkv2 (by decide) (c10_knows l D y _ _ hv2) w3_222 w3_223 w3_224 w1_8 w3_225 hdX_X10_knows ⟨(Nat.le_of_ble_eq_true rfl), (Nat.le_of_ble_eq_true rfl)⟩ rfl rfl rfl (Nat.le_of_ble_eq_true rfl) dX11_share_5 ?_
  refine V_if_ne hc dX11_share_8 rfl (fun hq8 => ?_) (fun hq8 => ?_)
  · rw [if_neg hq8] at hf
    refine V_iload_n hc dX11_share_13 rfl 2 rfl ?_
    refine V_if_ne hc dX11_share_14 rfl (fun hq14 => ?_) (fun hq14 => ?_)
    · rw [if_neg hq14] at hf
      refine V_iload_n hc dX11_share_26 rfl 2 rfl ?_
      refine V_iconst hc (v := (1 : Int32)) dX11_share_27 rfl ?_
      obtain ⟨v3, hv4, hf⟩ := mb hf
      have hJ28 : V E (cZ S) (cU S) (cw y S) 44 [] [.int v3] := by
        obtain rfl := Option.some.inj hf
        exact V_iret hc hzz rfl rfl rfl rfl rfl dX11_share_44
      refine V_icmp_ne hc dX11_share_28 rfl (fun hq28 => ?_) (fun hq28 => ?_)
      · rw [if_neg hq28] at hv4
        refine V_iconst hc (v := (-1 : Int32)) dX11_share_43 rfl ?_
        obtain rfl := Option.some.inj hv4
        exact V_sub [] rfl hJ28
      · rw [if_pos hq28] at hv4
        refine V_aload_n hc dX11_share_31 rfl 0 rfl ?_
        obtain ⟨a5, ha5, hv4⟩ := mb hv4
        refine C_getr hc rfl iW11 (by decide) 3 (by decide) rfl ha5 w2_196 dX11_share_32 ?_
        obtain ⟨a6, ha6, hv4⟩ := mb hv4
        refine C_getr hc rfl iW10 (by decide) 4 (by decide) rfl ha6 w2_82 dX11_share_35 ?_
        refine V_iload_n hc dX11_share_38 rfl 1 rfl ?_
        obtain ⟨v7, hv7, hv4⟩ := mb hv4
        refine C_iald hc hT hv7 dX11_share_39 ?_
        refine V_goto hc dX11_share_40 rfl ?_
        obtain rfl := Option.some.inj hv4
        exact V_sub [] rfl hJ28
    · rw [if_pos hq14] at hf
      refine V_aload_n hc dX11_share_17 rfl 0 rfl ?_
      obtain ⟨a8, ha8, hf⟩ := mb hf
      refine C_getr hc rfl iW11 (by decide) 3 (by decide) rfl ha8 w2_196 dX11_share_18 ?_
      refine V_iload_n hc dX11_share_21 rfl 1 rfl ?_
      obtain ⟨v9, hv9, hf⟩ := mb hf
      obtain ⟨hkv9, hv9⟩ := og hv9
      refine C_callV hc hz (As := [.int p1]) hkv9 (by decide) (c10_countLettersBy l D y _ _ hv9) w5_41 w5_42 w5_43 w1_8 w5_44 hdX_X10_countLettersBy ⟨(Nat.le_of_ble_eq_true rfl), (Nat.le_of_ble_eq_true rfl)⟩ rfl rfl rfl (Nat.le_of_ble_eq_true rfl) dX11_share_22 ?_
      obtain rfl := Option.some.inj hf
      exact V_iret hc hzz rfl rfl rfl rfl rfl dX11_share_25
  · rw [if_pos hq8] at hf
    refine V_iconst hc (v := (-1 : Int32)) dX11_share_11 rfl ?_
    obtain rfl := Option.some.inj hf
    exact V_iret hc hzz rfl rfl rfl rfl rfl dX11_share_12
noncomputable def LX11_together_44 (X : Nat × Nat) (h : Nat) (c2 : Int32) (c3 : Int32) (c4 : Int32) : Nat → Int32 → CS → Option (CS)
  | 0, _, _ => none
  | n + 1, i5, S =>
    if c2 ≤ i5 then (
      some S
    ) else (
      (gr S 11 h 1).bind fun a1 =>
      (gr S 11 h 7).bind fun a2 =>
      (gr S 11 h 2).bind fun a3 =>
      (gr S 6 a3 1).bind fun a4 =>
      (ldr S 17 a4 i5).bind fun a5 =>
      (cal S 9 a1 (f9_compose X S a1 a2 a5)).bind fun S6 =>
      LX11_together_44 X h c2 c3 c4 n (i5 + (1 : Int32)) S6
    )
noncomputable def f11_together (X : Nat × Nat) (S : CS) (h : Nat) (p1 : Int32) (p2 : Int32) (p3 : Int32) (p4 : Int32) : Option (Int32 × CS) :=
  (cal S 11 h (f11_isTaken S h p1)).bind fun v1 =>
  if v1 = 0 then (
    some ((-1 : Int32), S)
  ) else (
    (cal S 11 h (f11_isTaken S h p2)).bind fun v2 =>
    if v2 = 0 then (
      some ((-1 : Int32), S)
    ) else (
      if p1 ≤ p2 then (
        (gr S 11 h 7).bind fun a3 =>
        (gr S 11 h 2).bind fun a4 =>
        (gr S 6 a4 1).bind fun a5 =>
        (ldr S 17 a5 (p1 - (1 : Int32))).bind fun a6 =>
        (cal S 4 a3 (f4_copy X S a3 a6)).bind fun S7 =>
        (LX11_together_44 X h p2 p3 p4 FU p1 S7).bind fun S8 =>
        if p3 = (-1 : Int32) then (
          (
            if p4 = (1 : Int32) then (
              (gr S8 11 h 7).bind fun a12 =>
              (cal S8 4 a12 (f4_countSteps S8 a12)).bind fun v13 =>
              some v13
            ) else (
              some (-1 : Int32)
            )
          ).bind fun v10 =>
          some (v10, S8)
        ) else (
          (gr S8 11 h 7).bind fun a14 =>
          (cal S8 4 a14 (f4_ask S8 a14 p3 p4)).bind fun v15 =>
          some (v15, S8)
        )
      ) else (
        some ((-1 : Int32), S)
      )
    )
  )
theorem hdX_X11_together : yX11_together.cls = "FarEditors" ∧ yX11_together.cls ≠ "java/lang/invoke/MethodHandle" ∧ yX11_together.cls ≠ "java/lang/invoke/VarHandle" ∧ (parseMethodDescriptor yX11_together.desc).map (fun d => d.parameters.length) = some 4 := by decide +kernel
set_option maxHeartbeats 4000000 in
set_option maxRecDepth 100000 in
theorem LX11_together_44_ok {E : CxT} {l : Launch} {D : va_G} {y : CyT}  (hc : Cx E "FarEditors" cX11_together 6) (X : Nat × Nat) (h : Nat) (c2 : Int32) (c3 : Int32) (c4 : Int32) (hz : Cy E l D y 4 88 X.1 X.2) (hX : X.2 ≤ 100000000) : ∀ (n : Nat) (i5 : Int32) (S : CS) {So : CS}, LX11_together_44 X h c2 c3 c4 n i5 S = some So → (hx0 : V E (cZ So) (cU So) (cw y So) 77 [(0, .ref h), (3, .int c3), (4, .int c4)] []) → V E (cZ S) (cU S) (cw y S) 44 [(0, .ref h), (2, .int c2), (3, .int c3), (4, .int c4), (5, .int i5)] [] := by
  have hT := hz.2.2.1
  intro n
  induction n with
  | zero => intro i5 S So hf; cases hf
  | succ n ih =>
    intro i5 S So hf hx0
    unfold LX11_together_44 at hf
    refine V_iload hc dX11_together_44 4 rfl ?_
    refine V_iload_n hc dX11_together_46 rfl 1 rfl ?_
    refine V_icmp_ge hc dX11_together_47 rfl (fun hq47 => ?_) (fun hq47 => ?_)
    · rw [if_pos hq47] at hf
      obtain rfl := Option.some.inj hf
      exact V_sub [0, 2, 3] rfl hx0
    · rw [if_neg hq47] at hf
      refine V_aload_n hc dX11_together_50 rfl 0 rfl ?_
      obtain ⟨a1, ha1, hf⟩ := mb hf
      refine C_getr hc rfl iW11 (by decide) 1 (by decide) rfl ha1 w2_194 dX11_together_51 ?_
      refine V_aload_n hc dX11_together_54 rfl 0 rfl ?_
      obtain ⟨a2, ha2, hf⟩ := mb hf
      refine C_getr hc rfl iW11 (by decide) 7 (by decide) rfl ha2 w2_200 dX11_together_55 ?_
      refine V_aload_n hc dX11_together_58 rfl 0 rfl ?_
      obtain ⟨a3, ha3, hf⟩ := mb hf
      refine C_getr hc rfl iW11 (by decide) 2 (by decide) rfl ha3 w2_195 dX11_together_59 ?_
      obtain ⟨a4, ha4, hf⟩ := mb hf
      refine C_getr hc rfl iW6 (by decide) 1 (by decide) rfl ha4 w1_184 dX11_together_62 ?_
      refine V_iload hc dX11_together_65 4 rfl ?_
      obtain ⟨a5, ha5, hf⟩ := mb hf
      refine C_aald hc hT (by decide) (by decide) ha5 dX11_together_67 ?_
      obtain ⟨S6, hS6, hf⟩ := mb hf
      obtain ⟨hkS6, hS6⟩ := og hS6
      refine C_callV hc hz (As := [.ref a2, .ref a5]) hkS6 (by decide) (c9_compose l D y X hX hS6) w5_50 w4_165 w4_166 w1_3 w4_167 hdX_X9_compose ⟨(Nat.le_of_ble_eq_true rfl), (Nat.le_of_ble_eq_true rfl)⟩ rfl rfl rfl (Nat.le_of_ble_eq_true rfl) dX11_together_68 ?_
      refine V_iinc hc (j := 4) (v := (i5 + (1 : Int32))) dX11_together_71 rfl rfl (by decide) rfl ?_
      refine V_goto hc dX11_together_74 rfl ?_
      exact V_sub [1, 2, 3, 4, 0] rfl (ih _ _ hf hx0)
set_option maxHeartbeats 4000000 in
set_option maxRecDepth 100000 in
theorem c11_together (l : Launch) (D : va_G) (y : CyT) (X : Nat × Nat) (hX : X.2 ≤ 100000000) {S S' : CS} {h : Nat} {p1 : Int32} {p2 : Int32} {p3 : Int32} {p4 : Int32} {r : Int32} (hf : f11_together X S h p1 p2 p3 p4 = some (r, S')) : CT l D y yX11_together cX11_together 6 (some .int) 4 88 X.1 X.2 [.ref h, .int p1, .int p2, .int p3, .int p4] (cZ S) (cU S) (cw y S) (cZ S') (cU S') (cw y S') (some (.int r)) := by
  refine CT.of (by decide) (Nat.le_of_ble_eq_true rfl) (fun E hc hzz hnm => ?_)
  have hc : Cx E "FarEditors" cX11_together 6 := hc
  have hz := hzz.1
  have hT := hz.2.2.1
  show V E (cZ S) (cU S) (cw y S) 0 [(0, .ref h), (1, .int p1), (2, .int p2), (3, .int p3), (4, .int p4)] []
  unfold f11_together at hf
  refine V_aload_n hc dX11_together_0 rfl 0 rfl ?_
  refine V_iload_n hc dX11_together_1 rfl 1 rfl ?_
  obtain ⟨v1, hv1, hf⟩ := mb hf
  obtain ⟨hkv1, hv1⟩ := og hv1
  refine C_callV hc hz (As := [.int p1]) hkv1 (by decide) (c11_isTaken l D y _ _ hv1) w5_4 w5_6 wp3_6 w1_1 w5_7 hdX_X11_isTaken ⟨(Nat.le_of_ble_eq_true rfl), (Nat.le_of_ble_eq_true rfl)⟩ rfl rfl rfl (Nat.le_of_ble_eq_true rfl) dX11_together_2 ?_
  refine V_if_eq hc dX11_together_5 rfl (fun hq5 => ?_) (fun hq5 => ?_)
  · rw [if_pos hq5] at hf
    refine V_iconst hc (v := (-1 : Int32)) dX11_together_21 rfl ?_
    obtain ⟨rfl, rfl⟩ := si2 hf
    exact V_iret hc hzz rfl rfl rfl rfl rfl dX11_together_22
  · rw [if_neg hq5] at hf
    refine V_aload_n hc dX11_together_8 rfl 0 rfl ?_
    refine V_iload_n hc dX11_together_9 rfl 2 rfl ?_
    obtain ⟨v2, hv2, hf⟩ := mb hf
    obtain ⟨hkv2, hv2⟩ := og hv2
    refine C_callV hc hz (As := [.int p2]) hkv2 (by decide) (c11_isTaken l D y _ _ hv2) w5_4 w5_6 wp3_6 w1_1 w5_7 hdX_X11_isTaken ⟨(Nat.le_of_ble_eq_true rfl), (Nat.le_of_ble_eq_true rfl)⟩ rfl rfl rfl (Nat.le_of_ble_eq_true rfl) dX11_together_10 ?_
    refine V_if_eq hc dX11_together_13 rfl (fun hq13 => ?_) (fun hq13 => ?_)
    · rw [if_pos hq13] at hf
      refine V_iconst hc (v := (-1 : Int32)) dX11_together_21 rfl ?_
      obtain ⟨rfl, rfl⟩ := si2 hf
      exact V_iret hc hzz rfl rfl rfl rfl rfl dX11_together_22
    · rw [if_neg hq13] at hf
      refine V_iload_n hc dX11_together_16 rfl 1 rfl ?_
      refine V_iload_n hc dX11_together_17 rfl 2 rfl ?_
      refine V_icmp_le hc dX11_together_18 rfl (fun hq18 => ?_) (fun hq18 => ?_)
      · rw [if_pos hq18] at hf
        refine V_aload_n hc dX11_together_23 rfl 0 rfl ?_
        obtain ⟨a3, ha3, hf⟩ := mb hf
        refine C_getr hc rfl iW11 (by decide) 7 (by decide) rfl ha3 w2_200 dX11_together_24 ?_
        refine V_aload_n hc dX11_together_27 rfl 0 rfl ?_
        obtain ⟨a4, ha4, hf⟩ := mb hf
        refine C_getr hc rfl iW11 (by decide) 2 (by decide) rfl ha4 w2_195 dX11_together_28 ?_
        obtain ⟨a5, ha5, hf⟩ := mb hf
        refine C_getr hc rfl iW6 (by decide) 1 (by decide) rfl ha5 w1_184 dX11_together_31 ?_
        refine V_iload_n hc dX11_together_34 rfl 1 rfl ?_
        refine V_iconst hc (v := (1 : Int32)) dX11_together_35 rfl ?_
        refine V_isub hc dX11_together_36 ?_
        obtain ⟨a6, ha6, hf⟩ := mb hf
        refine C_aald hc hT (by decide) (by decide) ha6 dX11_together_37 ?_
        obtain ⟨S7, hS7, hf⟩ := mb hf
        obtain ⟨hkS7, hS7⟩ := og hS7
        refine C_callV hc hz (As := [.ref a6]) hkS7 (by decide) (c4_copy l D y X hX hS7) w5_49 w4_8 w4_9 w1_5 w4_10 hdX_X4_copy ⟨(Nat.le_of_ble_eq_true rfl), (Nat.le_of_ble_eq_true rfl)⟩ rfl rfl rfl (Nat.le_of_ble_eq_true rfl) dX11_together_38 ?_
        refine V_iload_n hc dX11_together_41 rfl 1 rfl ?_
        refine V_istore hc dX11_together_42 (by decide) rfl ?_
        obtain ⟨S8, hv9, hf⟩ := mb hf
        refine V_sub [1, 3, 4, 5, 0] rfl (LX11_together_44_ok hc X h p2 p3 p4 hz hX FU _ _ hv9 ?_)
        refine V_iload_n hc dX11_together_77 rfl 1 rfl ?_
        refine V_iconst hc (v := (-1 : Int32)) dX11_together_78 rfl ?_
        refine V_icmp_eq hc dX11_together_79 rfl (fun hq79 => ?_) (fun hq79 => ?_)
        · rw [if_pos hq79] at hf
          refine V_iload hc dX11_together_93 2 rfl ?_
          refine V_iconst hc (v := (1 : Int32)) dX11_together_95 rfl ?_
          obtain ⟨v10, hv11, hf⟩ := mb hf
          have hJ96 : V E (cZ S8) (cU S8) (cw y S8) 110 [] [.int v10] := by
            obtain ⟨rfl, rfl⟩ := si2 hf
            exact V_iret hc hzz rfl rfl rfl rfl rfl dX11_together_110
          refine V_icmp_ne hc dX11_together_96 rfl (fun hq96 => ?_) (fun hq96 => ?_)
          · rw [if_neg hq96] at hv11
            refine V_iconst hc (v := (-1 : Int32)) dX11_together_109 rfl ?_
            obtain rfl := Option.some.inj hv11
            exact V_sub [] rfl hJ96
          · rw [if_pos hq96] at hv11
            refine V_aload_n hc dX11_together_99 rfl 0 rfl ?_
            obtain ⟨a12, ha12, hv11⟩ := mb hv11
            refine C_getr hc rfl iW11 (by decide) 7 (by decide) rfl ha12 w2_200 dX11_together_100 ?_
            obtain ⟨v13, hv13, hv11⟩ := mb hv11
            obtain ⟨hkv13, hv13⟩ := og hv13
            refine C_callV hc hz (As := []) hkv13 (by decide) (c4_countSteps l D y _ _ hv13) w5_8 w5_9 w5_10 w1_5 w5_11 hdX_X4_countSteps ⟨(Nat.le_of_ble_eq_true rfl), (Nat.le_of_ble_eq_true rfl)⟩ rfl rfl rfl (Nat.le_of_ble_eq_true rfl) dX11_together_103 ?_
            refine V_goto hc dX11_together_106 rfl ?_
            obtain rfl := Option.some.inj hv11
            exact V_sub [] rfl hJ96
        · rw [if_neg hq79] at hf
          refine V_aload_n hc dX11_together_82 rfl 0 rfl ?_
          obtain ⟨a14, ha14, hf⟩ := mb hf
          refine C_getr hc rfl iW11 (by decide) 7 (by decide) rfl ha14 w2_200 dX11_together_83 ?_
          refine V_iload_n hc dX11_together_86 rfl 1 rfl ?_
          refine V_iload hc dX11_together_87 2 rfl ?_
          obtain ⟨v15, hv15, hf⟩ := mb hf
          obtain ⟨hkv15, hv15⟩ := og hv15
          refine C_callV hc hz (As := [.int p3, .int p4]) hkv15 (by decide) (c4_ask l D y _ _ hv15) w4_215 w4_216 w4_217 w1_5 w4_218 hdX_X4_ask ⟨(Nat.le_of_ble_eq_true rfl), (Nat.le_of_ble_eq_true rfl)⟩ rfl rfl rfl (Nat.le_of_ble_eq_true rfl) dX11_together_89 ?_
          obtain ⟨rfl, rfl⟩ := si2 hf
          exact V_iret hc hzz rfl rfl rfl rfl rfl dX11_together_92
      · rw [if_neg hq18] at hf
        refine V_iconst hc (v := (-1 : Int32)) dX11_together_21 rfl ?_
        obtain ⟨rfl, rfl⟩ := si2 hf
        exact V_iret hc hzz rfl rfl rfl rfl rfl dX11_together_22
