noncomputable def f11_tells (X : Nat × Nat) (S : CS) (h : Nat) (p1 : Int32) : Option (Int32 × CS) :=
  (gr S 11 h 3).bind fun a1 =>
  (gi S 10 a1 6).bind fun v2 =>
  if v2 = 0 then (
    some ((-1 : Int32), S)
  ) else (
    if p1 < 0 then (
      some ((-1 : Int32), S)
    ) else (
      if p1 ≤ (1 : Int32) then (
        (cal S 11 h (f11_reckonEnds X S h)).bind fun S3 =>
        (gr S3 11 h 6).bind fun a4 =>
        (cal S3 0 a4 (f0_countFits S3 a4)).bind fun v5 =>
        if v5 = 0 then (
          some ((-1 : Int32), S3)
        ) else (
          (gr S3 11 h 6).bind fun a6 =>
          bn2 (cal S3 0 a6 (f0_findTelling S3 a6)) fun v7 S8 =>
          bn2 (
            if p1 = 0 then (
              some (v7, S8)
            ) else (
              (gr S8 11 h 6).bind fun a12 =>
              bn2 (cal S8 0 a12 (f0_countMostLeft S8 a12 v7)) fun v13 S14 =>
              some (v13, S14)
            )
          ) fun v9 S10 =>
          some (v9, S10)
        )
      ) else (
        some ((-1 : Int32), S)
      )
    )
  )
theorem hdX_X11_tells : yX11_tells.cls = "FarEditors" ∧ yX11_tells.cls ≠ "java/lang/invoke/MethodHandle" ∧ yX11_tells.cls ≠ "java/lang/invoke/VarHandle" ∧ (parseMethodDescriptor yX11_tells.desc).map (fun d => d.parameters.length) = some 1 := by decide +kernel
set_option maxHeartbeats 4000000 in
set_option maxRecDepth 100000 in
theorem c11_tells (l : Launch) (D : va_G) (y : CyT) (X : Nat × Nat) (hX : X.2 ≤ 100000000) {S S' : CS} {h : Nat} {p1 : Int32} {r : Int32} (hf : f11_tells X S h p1 = some (r, S')) : CT l D y yX11_tells cX11_tells 3 (some .int) 7 162 X.1 X.2 [.ref h, .int p1] (cZ S) (cU S) (cw y S) (cZ S') (cU S') (cw y S') (some (.int r)) := by
  refine CT.of (by decide) (Nat.le_of_ble_eq_true rfl) (fun E hc hzz hnm => ?_)
  have hc : Cx E "FarEditors" cX11_tells 3 := hc
  have hz := hzz.1
  have hT := hz.2.2.1
  show V E (cZ S) (cU S) (cw y S) 0 [(0, .ref h), (1, .int p1)] []
  unfold f11_tells at hf
  refine V_aload_n hc dX11_tells_0 rfl 0 rfl ?_
  obtain ⟨a1, ha1, hf⟩ := mb hf
  refine C_getr hc rfl iW11 (by decide) 3 (by decide) rfl ha1 w2_196 dX11_tells_1 ?_
  obtain ⟨v2, hv2, hf⟩ := mb hf
  refine C_geti hc rfl iW10 (by decide) 6 (by decide) rfl hv2 w2_86 dX11_tells_4 ?_
  refine V_if_eq hc dX11_tells_7 rfl (fun hq7 => ?_) (fun hq7 => ?_)
  · rw [if_pos hq7] at hf
    refine V_iconst hc (v := (-1 : Int32)) dX11_tells_19 rfl ?_
    obtain ⟨rfl, rfl⟩ := si2 hf
    exact V_iret hc hzz rfl rfl rfl rfl rfl dX11_tells_20
  · rw [if_neg hq7] at hf
    refine V_iload_n hc dX11_tells_10 rfl 1 rfl ?_
    refine V_if_lt hc dX11_tells_11 rfl (fun hq11 => ?_) (fun hq11 => ?_)
    · rw [if_pos hq11] at hf
      refine V_iconst hc (v := (-1 : Int32)) dX11_tells_19 rfl ?_
      obtain ⟨rfl, rfl⟩ := si2 hf
      exact V_iret hc hzz rfl rfl rfl rfl rfl dX11_tells_20
    · rw [if_neg hq11] at hf
      refine V_iload_n hc dX11_tells_14 rfl 1 rfl ?_
      refine V_iconst hc (v := (1 : Int32)) dX11_tells_15 rfl ?_
      refine V_icmp_le hc dX11_tells_16 rfl (fun hq16 => ?_) (fun hq16 => ?_)
      · rw [if_pos hq16] at hf
        refine V_aload_n hc dX11_tells_21 rfl 0 rfl ?_
        obtain ⟨S3, hS3, hf⟩ := mb hf
        obtain ⟨hkS3, hS3⟩ := og hS3
        refine C_callV hc hz (As := []) hkS3 (by decide) (c11_reckonEnds l D y X hX hS3) w5_89 w5_91 wp3_8 w1_1 w5_92 hdX_X11_reckonEnds ⟨(Nat.le_of_ble_eq_true rfl), (Nat.le_of_ble_eq_true rfl)⟩ rfl rfl rfl (Nat.le_of_ble_eq_true rfl) dX11_tells_22 ?_
        refine V_aload_n hc dX11_tells_25 rfl 0 rfl ?_
        obtain ⟨a4, ha4, hf⟩ := mb hf
        refine C_getr hc rfl iW11 (by decide) 6 (by decide) rfl ha4 w2_199 dX11_tells_26 ?_
        obtain ⟨v5, hv5, hf⟩ := mb hf
        obtain ⟨hkv5, hv5⟩ := og hv5
        refine C_callV hc hz (As := []) hkv5 (by decide) (c0_countFits l D y _ _ hv5) w5_134 w5_135 w5_136 w1_12 w5_137 hdX_X0_countFits ⟨(Nat.le_of_ble_eq_true rfl), (Nat.le_of_ble_eq_true rfl)⟩ rfl rfl rfl (Nat.le_of_ble_eq_true rfl) dX11_tells_29 ?_
        refine V_if_ne hc dX11_tells_32 rfl (fun hq32 => ?_) (fun hq32 => ?_)
        · rw [if_neg hq32] at hf
          refine V_aload_n hc dX11_tells_37 rfl 0 rfl ?_
          obtain ⟨a6, ha6, hf⟩ := mb hf
          refine C_getr hc rfl iW11 (by decide) 6 (by decide) rfl ha6 w2_199 dX11_tells_38 ?_
          obtain ⟨v7, S8, hv7, hf⟩ := mb2 hf
          obtain ⟨hkv7, hv7⟩ := og hv7
          refine C_callV hc hz (As := []) hkv7 (by decide) (c0_findTelling l D y _ _ hv7) w5_151 w5_152 w5_153 w1_12 w5_154 hdX_X0_findTelling ⟨(Nat.le_of_ble_eq_true rfl), (Nat.le_of_ble_eq_true rfl)⟩ rfl rfl rfl (Nat.le_of_ble_eq_true rfl) dX11_tells_41 ?_
          refine V_istore_n hc dX11_tells_44 rfl (by decide) rfl ?_
          refine V_iload_n hc dX11_tells_45 rfl 2 rfl ?_
          obtain ⟨v9, S10, hv11, hf⟩ := mb2 hf
          have hJ46 : V E (cZ S10) (cU S10) (cw y S10) 61 [] [.int v9] := by
            obtain ⟨rfl, rfl⟩ := si2 hf
            exact V_iret hc hzz rfl rfl rfl rfl rfl dX11_tells_61
          refine V_if_ne hc dX11_tells_46 rfl (fun hq46 => ?_) (fun hq46 => ?_)
          · rw [if_neg hq46] at hv11
            refine V_aload_n hc dX11_tells_53 rfl 1 rfl ?_
            obtain ⟨a12, ha12, hv11⟩ := mb hv11
            refine C_getr hc rfl iW11 (by decide) 6 (by decide) rfl ha12 w2_199 dX11_tells_54 ?_
            refine V_iload_n hc dX11_tells_57 rfl 0 rfl ?_
            obtain ⟨v13, S14, hv13, hv11⟩ := mb2 hv11
            obtain ⟨hkv13, hv13⟩ := og hv13
            refine C_callV hc hz (As := [.int v7]) hkv13 (by decide) (c0_countMostLeft l D y _ _ hv13) w5_163 w5_156 w5_157 w1_12 w5_158 hdX_X0_countMostLeft ⟨(Nat.le_of_ble_eq_true rfl), (Nat.le_of_ble_eq_true rfl)⟩ rfl rfl rfl (Nat.le_of_ble_eq_true rfl) dX11_tells_58 ?_
            obtain ⟨rfl, rfl⟩ := si2 hv11
            exact V_sub [] rfl hJ46
          · rw [if_pos hq46] at hv11
            refine V_iload_n hc dX11_tells_49 rfl 0 rfl ?_
            refine V_goto hc dX11_tells_50 rfl ?_
            obtain ⟨rfl, rfl⟩ := si2 hv11
            exact V_sub [] rfl hJ46
        · rw [if_pos hq32] at hf
          refine V_iconst hc (v := (-1 : Int32)) dX11_tells_35 rfl ?_
          obtain ⟨rfl, rfl⟩ := si2 hf
          exact V_iret hc hzz rfl rfl rfl rfl rfl dX11_tells_36
      · rw [if_neg hq16] at hf
        refine V_iconst hc (v := (-1 : Int32)) dX11_tells_19 rfl ?_
        obtain ⟨rfl, rfl⟩ := si2 hf
        exact V_iret hc hzz rfl rfl rfl rfl rfl dX11_tells_20
noncomputable def f11_editWithOp (X : Nat × Nat) (S : CS) (h : Nat) (p1 : Nat) : Option (Int32 × CS) :=
  (gr S 11 h 3).bind fun a1 =>
  (gr S 11 h 7).bind fun a2 =>
  (cal S 10 a1 (f10_canEdit S a1 a2)).bind fun v3 =>
  if v3 = 0 then (
    bn2 (cal S 11 h (f11_refuse S h (2 : Int32))) fun v12 S13 =>
    some (v12, S13)
  ) else (
    (gr S 11 h 5).bind fun a4 =>
    (gr S 11 h 3).bind fun a5 =>
    (cal S 2 a4 (f2_keep X S a4 a5)).bind fun S6 =>
    (gr S6 11 h 3).bind fun a7 =>
    (gr S6 11 h 7).bind fun a8 =>
    (cal S6 10 a7 (f10_editPlainly X S6 a7 p1 a8)).bind fun S9 =>
    (gr S9 1 p1 0).bind fun a10 =>
    (gi S9 7 a10 1).bind fun v11 =>
    some (v11, S9)
  )
theorem hdX_X11_editWithOp : yX11_editWithOp.cls = "FarEditors" ∧ yX11_editWithOp.cls ≠ "java/lang/invoke/MethodHandle" ∧ yX11_editWithOp.cls ≠ "java/lang/invoke/VarHandle" ∧ (parseMethodDescriptor yX11_editWithOp.desc).map (fun d => d.parameters.length) = some 1 := by decide +kernel
set_option maxHeartbeats 4000000 in
set_option maxRecDepth 100000 in
theorem c11_editWithOp (l : Launch) (D : va_G) (y : CyT) (X : Nat × Nat) (hX : X.2 ≤ 100000000) {S S' : CS} {h : Nat} {p1 : Nat} {r : Int32} (hf : f11_editWithOp X S h p1 = some (r, S')) : CT l D y yX11_editWithOp cX11_editWithOp 2 (some .int) 6 135 X.1 X.2 [.ref h, .ref p1] (cZ S) (cU S) (cw y S) (cZ S') (cU S') (cw y S') (some (.int r)) := by
  refine CT.of (by decide) (Nat.le_of_ble_eq_true rfl) (fun E hc hzz hnm => ?_)
  have hc : Cx E "FarEditors" cX11_editWithOp 2 := hc
  have hz := hzz.1
  have hT := hz.2.2.1
  show V E (cZ S) (cU S) (cw y S) 0 [(0, .ref h), (1, .ref p1)] []
  unfold f11_editWithOp at hf
  refine V_aload_n hc dX11_editWithOp_0 rfl 0 rfl ?_
  obtain ⟨a1, ha1, hf⟩ := mb hf
  refine C_getr hc rfl iW11 (by decide) 3 (by decide) rfl ha1 w2_196 dX11_editWithOp_1 ?_
  refine V_aload_n hc dX11_editWithOp_4 rfl 0 rfl ?_
  obtain ⟨a2, ha2, hf⟩ := mb hf
  refine C_getr hc rfl iW11 (by decide) 7 (by decide) rfl ha2 w2_200 dX11_editWithOp_5 ?_
  obtain ⟨v3, hv3, hf⟩ := mb hf
  obtain ⟨hkv3, hv3⟩ := og hv3
  refine C_callV hc hz (As := [.ref a2]) hkv3 (by decide) (c10_canEdit l D y _ _ hv3) w4_130 w4_131 w4_132 w1_8 w4_133 hdX_X10_canEdit ⟨(Nat.le_of_ble_eq_true rfl), (Nat.le_of_ble_eq_true rfl)⟩ rfl rfl rfl (Nat.le_of_ble_eq_true rfl) dX11_editWithOp_8 ?_
  refine V_if_ne hc dX11_editWithOp_11 rfl (fun hq11 => ?_) (fun hq11 => ?_)
  · rw [if_neg hq11] at hf
    refine V_aload_n hc dX11_editWithOp_20 rfl 0 rfl ?_
    obtain ⟨a4, ha4, hf⟩ := mb hf
    refine C_getr hc rfl iW11 (by decide) 5 (by decide) rfl ha4 w2_198 dX11_editWithOp_21 ?_
    refine V_aload_n hc dX11_editWithOp_24 rfl 0 rfl ?_
    obtain ⟨a5, ha5, hf⟩ := mb hf
    refine C_getr hc rfl iW11 (by decide) 3 (by decide) rfl ha5 w2_196 dX11_editWithOp_25 ?_
    obtain ⟨S6, hS6, hf⟩ := mb hf
    obtain ⟨hkS6, hS6⟩ := og hS6
    refine C_callV hc hz (As := [.ref a5]) hkS6 (by decide) (c2_keep l D y X hX hS6) w5_176 w5_177 w5_178 w1_11 w5_179 hdX_X2_keep ⟨(Nat.le_of_ble_eq_true rfl), (Nat.le_of_ble_eq_true rfl)⟩ rfl rfl rfl (Nat.le_of_ble_eq_true rfl) dX11_editWithOp_28 ?_
    refine V_aload_n hc dX11_editWithOp_31 rfl 0 rfl ?_
    obtain ⟨a7, ha7, hf⟩ := mb hf
    refine C_getr hc rfl iW11 (by decide) 3 (by decide) rfl ha7 w2_196 dX11_editWithOp_32 ?_
    refine V_aload_n hc dX11_editWithOp_35 rfl 1 rfl ?_
    refine V_aload_n hc dX11_editWithOp_36 rfl 0 rfl ?_
    obtain ⟨a8, ha8, hf⟩ := mb hf
    refine C_getr hc rfl iW11 (by decide) 7 (by decide) rfl ha8 w2_200 dX11_editWithOp_37 ?_
    obtain ⟨S9, hS9, hf⟩ := mb hf
    obtain ⟨hkS9, hS9⟩ := og hS9
    refine C_callV hc hz (As := [.ref p1, .ref a8]) hkS9 (by decide) (c10_editPlainly l D y X hX hS9) w4_142 w4_143 w4_144 w1_8 w4_145 hdX_X10_editPlainly ⟨(Nat.le_of_ble_eq_true rfl), (Nat.le_of_ble_eq_true rfl)⟩ rfl rfl rfl (Nat.le_of_ble_eq_true rfl) dX11_editWithOp_40 ?_
    refine V_aload_n hc dX11_editWithOp_43 rfl 1 rfl ?_
    obtain ⟨a10, ha10, hf⟩ := mb hf
    refine C_getr hc rfl iW1 (by decide) 0 (by decide) rfl ha10 w1_238 dX11_editWithOp_44 ?_
    obtain ⟨v11, hv11, hf⟩ := mb hf
    refine C_geti hc rfl iW7 (by decide) 1 (by decide) rfl hv11 w1_170 dX11_editWithOp_47 ?_
    obtain ⟨rfl, rfl⟩ := si2 hf
    exact V_iret hc hzz rfl rfl rfl rfl rfl dX11_editWithOp_50
  · rw [if_pos hq11] at hf
    refine V_aload_n hc dX11_editWithOp_14 rfl 0 rfl ?_
    refine V_iconst hc (v := (2 : Int32)) dX11_editWithOp_15 rfl ?_
    obtain ⟨v12, S13, hv12, hf⟩ := mb2 hf
    obtain ⟨hkv12, hv12⟩ := og hv12
    refine C_callV hc hz (As := [.int (2 : Int32)]) hkv12 (by decide) (c11_refuse l D y _ _ hv12) w3_4 w3_6 wp1_0 w1_1 w3_7 hdX_X11_refuse ⟨(Nat.le_of_ble_eq_true rfl), (Nat.le_of_ble_eq_true rfl)⟩ rfl rfl rfl (Nat.le_of_ble_eq_true rfl) dX11_editWithOp_16 ?_
    obtain ⟨rfl, rfl⟩ := si2 hf
    exact V_iret hc hzz rfl rfl rfl rfl rfl dX11_editWithOp_19
noncomputable def f11_edit (X : Nat × Nat) (S : CS) (h : Nat) (p1 : Int32) : Option (Int32 × CS) :=
  (gr S 11 h 3).bind fun a1 =>
  (cal S 10 a1 (f10_knows S a1 p1)).bind fun v2 =>
  if v2 = 0 then (
    (gr S 11 h 0).bind fun a25 =>
    (pi S 8 a25 1 (0 : Int32)).bind fun S26 =>
    bn2 (cal S26 11 h (f11_refuse S26 h (2 : Int32))) fun v27 S28 =>
    some (v27, S28)
  ) else (
    (gr S 11 h 0).bind fun a3 =>
    bn2 (cal S 8 a3 (f8_readOp S a3)) fun v4 S5 =>
    (cal S5 11 h (f11_noteFault S5 h)).bind fun S6 =>
    (gr S6 11 h 3).bind fun a7 =>
    (gr S6 10 a7 3).bind fun a8 =>
    (ldr S6 16 a8 p1).bind fun a9 =>
    if v4 = 0 then (
      bn2 (cal S6 11 h (f11_refuse S6 h (2 : Int32))) fun v10 S11 =>
      some (v10, S11)
    ) else (
      (gr S6 11 h 7).bind fun a12 =>
      (gr S6 11 h 0).bind fun a13 =>
      (gr S6 8 a13 7).bind fun a14 =>
      (gr S6 11 h 0).bind fun a15 =>
      (gi S6 8 a15 8).bind fun v16 =>
      (gr S6 1 a9 0).bind fun a17 =>
      (gi S6 7 a17 1).bind fun v18 =>
      bn2 (cal S6 4 a12 (f4_build X S6 a12 a14 (0 : Int32) v16 v18)) fun v19 S20 =>
      if v19 = 0 then (
        bn2 (cal S20 11 h (f11_refuse S20 h (2 : Int32))) fun v23 S24 =>
        some (v23, S24)
      ) else (
        bn2 (cal S20 11 h (f11_editWithOp X S20 h a9)) fun v21 S22 =>
        some (v21, S22)
      )
    )
  )
theorem hdX_X11_edit : yX11_edit.cls = "FarEditors" ∧ yX11_edit.cls ≠ "java/lang/invoke/MethodHandle" ∧ yX11_edit.cls ≠ "java/lang/invoke/VarHandle" ∧ (parseMethodDescriptor yX11_edit.desc).map (fun d => d.parameters.length) = some 1 := by decide +kernel
set_option maxHeartbeats 4000000 in
set_option maxRecDepth 100000 in
theorem c11_edit (l : Launch) (D : va_G) (y : CyT) (X : Nat × Nat) (hX : X.2 ≤ 100000000) {S S' : CS} {h : Nat} {p1 : Int32} {r : Int32} (hf : f11_edit X S h p1 = some (r, S')) : CT l D y yX11_edit cX11_edit 4 (some .int) 7 156 X.1 X.2 [.ref h, .int p1] (cZ S) (cU S) (cw y S) (cZ S') (cU S') (cw y S') (some (.int r)) := by
  refine CT.of (by decide) (Nat.le_of_ble_eq_true rfl) (fun E hc hzz hnm => ?_)
  have hc : Cx E "FarEditors" cX11_edit 4 := hc
  have hz := hzz.1
  have hT := hz.2.2.1
  show V E (cZ S) (cU S) (cw y S) 0 [(0, .ref h), (1, .int p1)] []
  unfold f11_edit at hf
  refine V_aload_n hc dX11_edit_0 rfl 0 rfl ?_
  obtain ⟨a1, ha1, hf⟩ := mb hf
  refine C_getr hc rfl iW11 (by decide) 3 (by decide) rfl ha1 w2_196 dX11_edit_1 ?_
  refine V_iload_n hc dX11_edit_4 rfl 1 rfl ?_
  obtain ⟨v2, hv2, hf⟩ := mb hf
  obtain ⟨hkv2, hv2⟩ := og hv2
  refine C_callV hc hz (As := [.int p1]) hkv2 (by decide) (c10_knows l D y _ _ hv2) w3_222 w3_223 w3_224 w1_8 w3_225 hdX_X10_knows ⟨(Nat.le_of_ble_eq_true rfl), (Nat.le_of_ble_eq_true rfl)⟩ rfl rfl rfl (Nat.le_of_ble_eq_true rfl) dX11_edit_5 ?_
  refine V_if_ne hc dX11_edit_8 rfl (fun hq8 => ?_) (fun hq8 => ?_)
  · rw [if_neg hq8] at hf
    refine V_aload_n hc dX11_edit_25 rfl 0 rfl ?_
    obtain ⟨a3, ha3, hf⟩ := mb hf
    refine C_getr hc rfl iW11 (by decide) 0 (by decide) rfl ha3 w2_193 dX11_edit_26 ?_
    obtain ⟨v4, S5, hv4, hf⟩ := mb2 hf
    obtain ⟨hkv4, hv4⟩ := og hv4
    refine C_callV hc hz (As := []) hkv4 (by decide) (c8_readOp l D y _ _ hv4) w5_168 w5_169 w5_170 w1_2 w5_171 hdX_X8_readOp ⟨(Nat.le_of_ble_eq_true rfl), (Nat.le_of_ble_eq_true rfl)⟩ rfl rfl rfl (Nat.le_of_ble_eq_true rfl) dX11_edit_29 ?_
    refine V_istore_n hc dX11_edit_32 rfl (by decide) rfl ?_
    refine V_aload_n hc dX11_edit_33 rfl 1 rfl ?_
    obtain ⟨S6, hS6, hf⟩ := mb hf
    obtain ⟨hkS6, hS6⟩ := og hS6
    refine C_callV hc hz (As := []) hkS6 (by decide) (c11_noteFault l D y _ _ hS6) w3_181 w3_183 wp2_8 w1_1 w3_184 hdX_X11_noteFault ⟨(Nat.le_of_ble_eq_true rfl), (Nat.le_of_ble_eq_true rfl)⟩ rfl rfl rfl (Nat.le_of_ble_eq_true rfl) dX11_edit_34 ?_
    refine V_aload_n hc dX11_edit_37 rfl 1 rfl ?_
    obtain ⟨a7, ha7, hf⟩ := mb hf
    refine C_getr hc rfl iW11 (by decide) 3 (by decide) rfl ha7 w2_196 dX11_edit_38 ?_
    obtain ⟨a8, ha8, hf⟩ := mb hf
    refine C_getr hc rfl iW10 (by decide) 3 (by decide) rfl ha8 w2_80 dX11_edit_41 ?_
    refine V_iload_n hc dX11_edit_44 rfl 2 rfl ?_
    obtain ⟨a9, ha9, hf⟩ := mb hf
    refine C_aald hc hT (by decide) (by decide) ha9 dX11_edit_45 ?_
    refine V_astore_n hc dX11_edit_46 rfl (by decide) rfl ?_
    refine V_iload_n hc dX11_edit_47 rfl 1 rfl ?_
    refine V_if_eq hc dX11_edit_48 rfl (fun hq48 => ?_) (fun hq48 => ?_)
    · rw [if_pos hq48] at hf
      refine V_aload_n hc dX11_edit_83 rfl 2 rfl ?_
      refine V_iconst hc (v := (2 : Int32)) dX11_edit_84 rfl ?_
      obtain ⟨v10, S11, hv10, hf⟩ := mb2 hf
      obtain ⟨hkv10, hv10⟩ := og hv10
      refine C_callV hc hz (As := [.int (2 : Int32)]) hkv10 (by decide) (c11_refuse l D y _ _ hv10) w3_4 w3_6 wp1_0 w1_1 w3_7 hdX_X11_refuse ⟨(Nat.le_of_ble_eq_true rfl), (Nat.le_of_ble_eq_true rfl)⟩ rfl rfl rfl (Nat.le_of_ble_eq_true rfl) dX11_edit_85 ?_
      obtain ⟨rfl, rfl⟩ := si2 hf
      exact V_iret hc hzz rfl rfl rfl rfl rfl dX11_edit_88
    · rw [if_neg hq48] at hf
      refine V_aload_n hc dX11_edit_51 rfl 2 rfl ?_
      obtain ⟨a12, ha12, hf⟩ := mb hf
      refine C_getr hc rfl iW11 (by decide) 7 (by decide) rfl ha12 w2_200 dX11_edit_52 ?_
      refine V_aload_n hc dX11_edit_55 rfl 2 rfl ?_
      obtain ⟨a13, ha13, hf⟩ := mb hf
      refine C_getr hc rfl iW11 (by decide) 0 (by decide) rfl ha13 w2_193 dX11_edit_56 ?_
      obtain ⟨a14, ha14, hf⟩ := mb hf
      refine C_getr hc rfl iW8 (by decide) 7 (by decide) rfl ha14 w1_50 dX11_edit_59 ?_
      refine V_iconst hc (v := (0 : Int32)) dX11_edit_62 rfl ?_
      refine V_aload_n hc dX11_edit_63 rfl 2 rfl ?_
      obtain ⟨a15, ha15, hf⟩ := mb hf
      refine C_getr hc rfl iW11 (by decide) 0 (by decide) rfl ha15 w2_193 dX11_edit_64 ?_
      obtain ⟨v16, hv16, hf⟩ := mb hf
      refine C_geti hc rfl iW8 (by decide) 8 (by decide) rfl hv16 w1_52 dX11_edit_67 ?_
      refine V_aload_n hc dX11_edit_70 rfl 0 rfl ?_
      obtain ⟨a17, ha17, hf⟩ := mb hf
      refine C_getr hc rfl iW1 (by decide) 0 (by decide) rfl ha17 w1_238 dX11_edit_71 ?_
      obtain ⟨v18, hv18, hf⟩ := mb hf
      refine C_geti hc rfl iW7 (by decide) 1 (by decide) rfl hv18 w1_170 dX11_edit_74 ?_
      obtain ⟨v19, S20, hv19, hf⟩ := mb2 hf
      obtain ⟨hkv19, hv19⟩ := og hv19
      refine C_callV hc hz (As := [.ref a14, .int (0 : Int32), .int v16, .int v18]) hkv19 (by decide) (c4_build l D y X hX hv19) w4_122 w4_123 w4_124 w1_5 w4_125 hdX_X4_build ⟨(Nat.le_of_ble_eq_true rfl), (Nat.le_of_ble_eq_true rfl)⟩ rfl rfl rfl (Nat.le_of_ble_eq_true rfl) dX11_edit_77 ?_
      refine V_if_ne hc dX11_edit_80 rfl (fun hq80 => ?_) (fun hq80 => ?_)
      · rw [if_neg hq80] at hf
        refine V_aload_n hc dX11_edit_89 rfl 2 rfl ?_
        refine V_aload_n hc dX11_edit_90 rfl 0 rfl ?_
        obtain ⟨v21, S22, hv21, hf⟩ := mb2 hf
        obtain ⟨hkv21, hv21⟩ := og hv21
        refine C_callV hc hz (As := [.ref a9]) hkv21 (by decide) (c11_editWithOp l D y X hX hv21) w5_172 w5_174 wp3_11 w1_1 w5_175 hdX_X11_editWithOp ⟨(Nat.le_of_ble_eq_true rfl), (Nat.le_of_ble_eq_true rfl)⟩ rfl rfl rfl (Nat.le_of_ble_eq_true rfl) dX11_edit_91 ?_
        obtain ⟨rfl, rfl⟩ := si2 hf
        exact V_iret hc hzz rfl rfl rfl rfl rfl dX11_edit_94
      · rw [if_pos hq80] at hf
        refine V_aload_n hc dX11_edit_83 rfl 2 rfl ?_
        refine V_iconst hc (v := (2 : Int32)) dX11_edit_84 rfl ?_
        obtain ⟨v23, S24, hv23, hf⟩ := mb2 hf
        obtain ⟨hkv23, hv23⟩ := og hv23
        refine C_callV hc hz (As := [.int (2 : Int32)]) hkv23 (by decide) (c11_refuse l D y _ _ hv23) w3_4 w3_6 wp1_0 w1_1 w3_7 hdX_X11_refuse ⟨(Nat.le_of_ble_eq_true rfl), (Nat.le_of_ble_eq_true rfl)⟩ rfl rfl rfl (Nat.le_of_ble_eq_true rfl) dX11_edit_85 ?_
        obtain ⟨rfl, rfl⟩ := si2 hf
        exact V_iret hc hzz rfl rfl rfl rfl rfl dX11_edit_88
  · rw [if_pos hq8] at hf
    refine V_aload_n hc dX11_edit_11 rfl 0 rfl ?_
    obtain ⟨a25, ha25, hf⟩ := mb hf
    refine C_getr hc rfl iW11 (by decide) 0 (by decide) rfl ha25 w2_193 dX11_edit_12 ?_
    refine V_iconst hc (v := (0 : Int32)) dX11_edit_15 rfl ?_
    obtain ⟨S26, hS26, hf⟩ := mb hf
    refine C_puti hc rfl iW8 tyX8 tyX8_ok nmX8 (by decide) 1 (by decide) rfl hS26 w1_38 rfl rfl rfl dX11_edit_16 ?_
    refine V_aload_n hc dX11_edit_19 rfl 0 rfl ?_
    refine V_iconst hc (v := (2 : Int32)) dX11_edit_20 rfl ?_
    obtain ⟨v27, S28, hv27, hf⟩ := mb2 hf
    obtain ⟨hkv27, hv27⟩ := og hv27
    refine C_callV hc hz (As := [.int (2 : Int32)]) hkv27 (by decide) (c11_refuse l D y _ _ hv27) w3_4 w3_6 wp1_0 w1_1 w3_7 hdX_X11_refuse ⟨(Nat.le_of_ble_eq_true rfl), (Nat.le_of_ble_eq_true rfl)⟩ rfl rfl rfl (Nat.le_of_ble_eq_true rfl) dX11_edit_21 ?_
    obtain ⟨rfl, rfl⟩ := si2 hf
    exact V_iret hc hzz rfl rfl rfl rfl rfl dX11_edit_24
noncomputable def f11_put (X : Nat × Nat) (S : CS) (h : Nat) (p1 : Int32) (p2 : Int32) (p3 : Int32) : Option (Int32 × CS) :=
  (gr S 11 h 3).bind fun a1 =>
  (cal S 10 a1 (f10_canPut S a1 p1 p2 p3)).bind fun v2 =>
  if v2 = 0 then (
    bn2 (cal S 11 h (f11_refuse S h (2 : Int32))) fun v12 S13 =>
    some (v12, S13)
  ) else (
    (gr S 11 h 3).bind fun a3 =>
    (gr S 10 a3 3).bind fun a4 =>
    (ldr S 16 a4 p1).bind fun a5 =>
    (gr S 11 h 7).bind fun a6 =>
    (gr S 1 a5 0).bind fun a7 =>
    (gi S 7 a7 1).bind fun v8 =>
    (cal S 4 a6 (f4_buildPut X S a6 p2 p3 v8)).bind fun S9 =>
    bn2 (cal S9 11 h (f11_editWithOp X S9 h a5)) fun v10 S11 =>
    some (v10, S11)
  )
theorem hdX_X11_put : yX11_put.cls = "FarEditors" ∧ yX11_put.cls ≠ "java/lang/invoke/MethodHandle" ∧ yX11_put.cls ≠ "java/lang/invoke/VarHandle" ∧ (parseMethodDescriptor yX11_put.desc).map (fun d => d.parameters.length) = some 3 := by decide +kernel
set_option maxHeartbeats 4000000 in
set_option maxRecDepth 100000 in
theorem c11_put (l : Launch) (D : va_G) (y : CyT) (X : Nat × Nat) (hX : X.2 ≤ 100000000) {S S' : CS} {h : Nat} {p1 : Int32} {p2 : Int32} {p3 : Int32} {r : Int32} (hf : f11_put X S h p1 p2 p3 = some (r, S')) : CT l D y yX11_put cX11_put 5 (some .int) 7 156 X.1 X.2 [.ref h, .int p1, .int p2, .int p3] (cZ S) (cU S) (cw y S) (cZ S') (cU S') (cw y S') (some (.int r)) := by
  refine CT.of (by decide) (Nat.le_of_ble_eq_true rfl) (fun E hc hzz hnm => ?_)
  have hc : Cx E "FarEditors" cX11_put 5 := hc
  have hz := hzz.1
  have hT := hz.2.2.1
  show V E (cZ S) (cU S) (cw y S) 0 [(0, .ref h), (1, .int p1), (2, .int p2), (3, .int p3)] []
  unfold f11_put at hf
  refine V_aload_n hc dX11_put_0 rfl 0 rfl ?_
  obtain ⟨a1, ha1, hf⟩ := mb hf
  refine C_getr hc rfl iW11 (by decide) 3 (by decide) rfl ha1 w2_196 dX11_put_1 ?_
  refine V_iload_n hc dX11_put_4 rfl 1 rfl ?_
  refine V_iload_n hc dX11_put_5 rfl 2 rfl ?_
  refine V_iload_n hc dX11_put_6 rfl 3 rfl ?_
  obtain ⟨v2, hv2, hf⟩ := mb hf
  obtain ⟨hkv2, hv2⟩ := og hv2
  refine C_callV hc hz (As := [.int p1, .int p2, .int p3]) hkv2 (by decide) (c10_canPut l D y _ _ hv2) w5_186 w5_187 w5_188 w1_8 w5_189 hdX_X10_canPut ⟨(Nat.le_of_ble_eq_true rfl), (Nat.le_of_ble_eq_true rfl)⟩ rfl rfl rfl (Nat.le_of_ble_eq_true rfl) dX11_put_7 ?_
  refine V_if_ne hc dX11_put_10 rfl (fun hq10 => ?_) (fun hq10 => ?_)
  · rw [if_neg hq10] at hf
    refine V_aload_n hc dX11_put_19 rfl 0 rfl ?_
    obtain ⟨a3, ha3, hf⟩ := mb hf
    refine C_getr hc rfl iW11 (by decide) 3 (by decide) rfl ha3 w2_196 dX11_put_20 ?_
    obtain ⟨a4, ha4, hf⟩ := mb hf
    refine C_getr hc rfl iW10 (by decide) 3 (by decide) rfl ha4 w2_80 dX11_put_23 ?_
    refine V_iload_n hc dX11_put_26 rfl 1 rfl ?_
    obtain ⟨a5, ha5, hf⟩ := mb hf
    refine C_aald hc hT (by decide) (by decide) ha5 dX11_put_27 ?_
    refine V_astore hc dX11_put_28 (by decide) rfl ?_
    refine V_aload_n hc dX11_put_30 rfl 1 rfl ?_
    obtain ⟨a6, ha6, hf⟩ := mb hf
    refine C_getr hc rfl iW11 (by decide) 7 (by decide) rfl ha6 w2_200 dX11_put_31 ?_
    refine V_iload_n hc dX11_put_34 rfl 3 rfl ?_
    refine V_iload_n hc dX11_put_35 rfl 4 rfl ?_
    refine V_aload hc dX11_put_36 0 rfl ?_
    obtain ⟨a7, ha7, hf⟩ := mb hf
    refine C_getr hc rfl iW1 (by decide) 0 (by decide) rfl ha7 w1_238 dX11_put_38 ?_
    obtain ⟨v8, hv8, hf⟩ := mb hf
    refine C_geti hc rfl iW7 (by decide) 1 (by decide) rfl hv8 w1_170 dX11_put_41 ?_
    obtain ⟨S9, hS9, hf⟩ := mb hf
    obtain ⟨hkS9, hS9⟩ := og hS9
    refine C_callV hc hz (As := [.int p2, .int p3, .int v8]) hkS9 (by decide) (c4_buildPut l D y X hX hS9) w5_190 w5_191 w5_192 w1_5 w5_193 hdX_X4_buildPut ⟨(Nat.le_of_ble_eq_true rfl), (Nat.le_of_ble_eq_true rfl)⟩ rfl rfl rfl (Nat.le_of_ble_eq_true rfl) dX11_put_44 ?_
    refine V_aload_n hc dX11_put_47 rfl 1 rfl ?_
    refine V_aload hc dX11_put_48 0 rfl ?_
    obtain ⟨v10, S11, hv10, hf⟩ := mb2 hf
    obtain ⟨hkv10, hv10⟩ := og hv10
    refine C_callV hc hz (As := [.ref a5]) hkv10 (by decide) (c11_editWithOp l D y X hX hv10) w5_172 w5_174 wp3_11 w1_1 w5_175 hdX_X11_editWithOp ⟨(Nat.le_of_ble_eq_true rfl), (Nat.le_of_ble_eq_true rfl)⟩ rfl rfl rfl (Nat.le_of_ble_eq_true rfl) dX11_put_50 ?_
    obtain ⟨rfl, rfl⟩ := si2 hf
    exact V_iret hc hzz rfl rfl rfl rfl rfl dX11_put_53
  · rw [if_pos hq10] at hf
    refine V_aload_n hc dX11_put_13 rfl 0 rfl ?_
    refine V_iconst hc (v := (2 : Int32)) dX11_put_14 rfl ?_
    obtain ⟨v12, S13, hv12, hf⟩ := mb2 hf
    obtain ⟨hkv12, hv12⟩ := og hv12
    refine C_callV hc hz (As := [.int (2 : Int32)]) hkv12 (by decide) (c11_refuse l D y _ _ hv12) w3_4 w3_6 wp1_0 w1_1 w3_7 hdX_X11_refuse ⟨(Nat.le_of_ble_eq_true rfl), (Nat.le_of_ble_eq_true rfl)⟩ rfl rfl rfl (Nat.le_of_ble_eq_true rfl) dX11_put_15 ?_
    obtain ⟨rfl, rfl⟩ := si2 hf
    exact V_iret hc hzz rfl rfl rfl rfl rfl dX11_put_18
noncomputable def f11_cut (X : Nat × Nat) (S : CS) (h : Nat) (p1 : Int32) (p2 : Int32) (p3 : Int32) : Option (Int32 × CS) :=
  (gr S 11 h 3).bind fun a1 =>
  (cal S 10 a1 (f10_canCut S a1 p1 p2 p3)).bind fun v2 =>
  if v2 = 0 then (
    bn2 (cal S 11 h (f11_refuse S h (2 : Int32))) fun v12 S13 =>
    some (v12, S13)
  ) else (
    (gr S 11 h 3).bind fun a3 =>
    (gr S 10 a3 3).bind fun a4 =>
    (ldr S 16 a4 p1).bind fun a5 =>
    (gr S 11 h 7).bind fun a6 =>
    (gr S 1 a5 0).bind fun a7 =>
    (gi S 7 a7 1).bind fun v8 =>
    (cal S 4 a6 (f4_buildCut X S a6 p2 p3 v8)).bind fun S9 =>
    bn2 (cal S9 11 h (f11_editWithOp X S9 h a5)) fun v10 S11 =>
    some (v10, S11)
  )
theorem hdX_X11_cut : yX11_cut.cls = "FarEditors" ∧ yX11_cut.cls ≠ "java/lang/invoke/MethodHandle" ∧ yX11_cut.cls ≠ "java/lang/invoke/VarHandle" ∧ (parseMethodDescriptor yX11_cut.desc).map (fun d => d.parameters.length) = some 3 := by decide +kernel
set_option maxHeartbeats 4000000 in
set_option maxRecDepth 100000 in
theorem c11_cut (l : Launch) (D : va_G) (y : CyT) (X : Nat × Nat) (hX : X.2 ≤ 100000000) {S S' : CS} {h : Nat} {p1 : Int32} {p2 : Int32} {p3 : Int32} {r : Int32} (hf : f11_cut X S h p1 p2 p3 = some (r, S')) : CT l D y yX11_cut cX11_cut 5 (some .int) 7 156 X.1 X.2 [.ref h, .int p1, .int p2, .int p3] (cZ S) (cU S) (cw y S) (cZ S') (cU S') (cw y S') (some (.int r)) := by
  refine CT.of (by decide) (Nat.le_of_ble_eq_true rfl) (fun E hc hzz hnm => ?_)
  have hc : Cx E "FarEditors" cX11_cut 5 := hc
  have hz := hzz.1
  have hT := hz.2.2.1
  show V E (cZ S) (cU S) (cw y S) 0 [(0, .ref h), (1, .int p1), (2, .int p2), (3, .int p3)] []
  unfold f11_cut at hf
  refine V_aload_n hc dX11_cut_0 rfl 0 rfl ?_
  obtain ⟨a1, ha1, hf⟩ := mb hf
  refine C_getr hc rfl iW11 (by decide) 3 (by decide) rfl ha1 w2_196 dX11_cut_1 ?_
  refine V_iload_n hc dX11_cut_4 rfl 1 rfl ?_
  refine V_iload_n hc dX11_cut_5 rfl 2 rfl ?_
  refine V_iload_n hc dX11_cut_6 rfl 3 rfl ?_
  obtain ⟨v2, hv2, hf⟩ := mb hf
  obtain ⟨hkv2, hv2⟩ := og hv2
  refine C_callV hc hz (As := [.int p1, .int p2, .int p3]) hkv2 (by decide) (c10_canCut l D y _ _ hv2) w5_198 w5_199 w5_200 w1_8 w5_201 hdX_X10_canCut ⟨(Nat.le_of_ble_eq_true rfl), (Nat.le_of_ble_eq_true rfl)⟩ rfl rfl rfl (Nat.le_of_ble_eq_true rfl) dX11_cut_7 ?_
  refine V_if_ne hc dX11_cut_10 rfl (fun hq10 => ?_) (fun hq10 => ?_)
  · rw [if_neg hq10] at hf
    refine V_aload_n hc dX11_cut_19 rfl 0 rfl ?_
    obtain ⟨a3, ha3, hf⟩ := mb hf
    refine C_getr hc rfl iW11 (by decide) 3 (by decide) rfl ha3 w2_196 dX11_cut_20 ?_
    obtain ⟨a4, ha4, hf⟩ := mb hf
    refine C_getr hc rfl iW10 (by decide) 3 (by decide) rfl ha4 w2_80 dX11_cut_23 ?_
    refine V_iload_n hc dX11_cut_26 rfl 1 rfl ?_
    obtain ⟨a5, ha5, hf⟩ := mb hf
    refine C_aald hc hT (by decide) (by decide) ha5 dX11_cut_27 ?_
    refine V_astore hc dX11_cut_28 (by decide) rfl ?_
    refine V_aload_n hc dX11_cut_30 rfl 1 rfl ?_
    obtain ⟨a6, ha6, hf⟩ := mb hf
    refine C_getr hc rfl iW11 (by decide) 7 (by decide) rfl ha6 w2_200 dX11_cut_31 ?_
    refine V_iload_n hc dX11_cut_34 rfl 3 rfl ?_
    refine V_iload_n hc dX11_cut_35 rfl 4 rfl ?_
    refine V_aload hc dX11_cut_36 0 rfl ?_
    obtain ⟨a7, ha7, hf⟩ := mb hf
    refine C_getr hc rfl iW1 (by decide) 0 (by decide) rfl ha7 w1_238 dX11_cut_38 ?_
    obtain ⟨v8, hv8, hf⟩ := mb hf
    refine C_geti hc rfl iW7 (by decide) 1 (by decide) rfl hv8 w1_170 dX11_cut_41 ?_
    obtain ⟨S9, hS9, hf⟩ := mb hf
    obtain ⟨hkS9, hS9⟩ := og hS9
    refine C_callV hc hz (As := [.int p2, .int p3, .int v8]) hkS9 (by decide) (c4_buildCut l D y X hX hS9) w5_202 w5_203 w5_204 w1_5 w5_205 hdX_X4_buildCut ⟨(Nat.le_of_ble_eq_true rfl), (Nat.le_of_ble_eq_true rfl)⟩ rfl rfl rfl (Nat.le_of_ble_eq_true rfl) dX11_cut_44 ?_
    refine V_aload_n hc dX11_cut_47 rfl 1 rfl ?_
    refine V_aload hc dX11_cut_48 0 rfl ?_
    obtain ⟨v10, S11, hv10, hf⟩ := mb2 hf
    obtain ⟨hkv10, hv10⟩ := og hv10
    refine C_callV hc hz (As := [.ref a5]) hkv10 (by decide) (c11_editWithOp l D y X hX hv10) w5_172 w5_174 wp3_11 w1_1 w5_175 hdX_X11_editWithOp ⟨(Nat.le_of_ble_eq_true rfl), (Nat.le_of_ble_eq_true rfl)⟩ rfl rfl rfl (Nat.le_of_ble_eq_true rfl) dX11_cut_50 ?_
    obtain ⟨rfl, rfl⟩ := si2 hf
    exact V_iret hc hzz rfl rfl rfl rfl rfl dX11_cut_53
  · rw [if_pos hq10] at hf
    refine V_aload_n hc dX11_cut_13 rfl 0 rfl ?_
    refine V_iconst hc (v := (2 : Int32)) dX11_cut_14 rfl ?_
    obtain ⟨v12, S13, hv12, hf⟩ := mb2 hf
    obtain ⟨hkv12, hv12⟩ := og hv12
    refine C_callV hc hz (As := [.int (2 : Int32)]) hkv12 (by decide) (c11_refuse l D y _ _ hv12) w3_4 w3_6 wp1_0 w1_1 w3_7 hdX_X11_refuse ⟨(Nat.le_of_ble_eq_true rfl), (Nat.le_of_ble_eq_true rfl)⟩ rfl rfl rfl (Nat.le_of_ble_eq_true rfl) dX11_cut_15 ?_
    obtain ⟨rfl, rfl⟩ := si2 hf
    exact V_iret hc hzz rfl rfl rfl rfl rfl dX11_cut_18
noncomputable def f11_type (X : Nat × Nat) (S : CS) (h : Nat) (p1 : Int32) (p2 : Int32) : Option (Int32 × CS) :=
  (gr S 11 h 3).bind fun a1 =>
  (cal S 10 a1 (f10_knows S a1 p1)).bind fun v2 =>
  if v2 = 0 then (
    bn2 (cal S 11 h (f11_refuse S h (2 : Int32))) fun v33 S34 =>
    some (v33, S34)
  ) else (
    (gr S 11 h 3).bind fun a3 =>
    (gr S 10 a3 3).bind fun a4 =>
    (ldr S 16 a4 p1).bind fun a5 =>
    (
      if p2 = 0 then (
        (gr S 11 h 3).bind fun a11 =>
        (gi S 1 a5 9).bind fun v12 =>
        (cal S 10 a11 (f10_canCut S a11 p1 (v12 - (1 : Int32)) (1 : Int32))).bind fun v13 =>
        some v13
      ) else (
        (gr S 11 h 3).bind fun a8 =>
        (gi S 1 a5 9).bind fun v9 =>
        (cal S 10 a8 (f10_canPut S a8 p1 v9 p2)).bind fun v10 =>
        some v10
      )
    ).bind fun v6 =>
    if v6 = 0 then (
      bn2 (cal S 11 h (f11_refuse S h (2 : Int32))) fun v31 S32 =>
      some (v31, S32)
    ) else (
      (
        if p2 = 0 then (
          (gr S 11 h 7).bind fun a21 =>
          (gi S 1 a5 9).bind fun v22 =>
          (gr S 1 a5 0).bind fun a23 =>
          (gi S 7 a23 1).bind fun v24 =>
          (cal S 4 a21 (f4_buildCut X S a21 (v22 - (1 : Int32)) (1 : Int32) v24)).bind fun S25 =>
          some S25
        ) else (
          (gr S 11 h 7).bind fun a16 =>
          (gi S 1 a5 9).bind fun v17 =>
          (gr S 1 a5 0).bind fun a18 =>
          (gi S 7 a18 1).bind fun v19 =>
          (cal S 4 a16 (f4_buildPut X S a16 v17 p2 v19)).bind fun S20 =>
          some S20
        )
      ).bind fun S14 =>
      bn2 (cal S14 11 h (f11_editWithOp X S14 h a5)) fun v26 S27 =>
      (
        if v26 = (-1 : Int32) then (
          some (-1 : Int32)
        ) else (
          (gi S27 1 a5 9).bind fun v30 =>
          some v30
        )
      ).bind fun v28 =>
      some (v28, S27)
    )
  )
theorem hdX_X11_type : yX11_type.cls = "FarEditors" ∧ yX11_type.cls ≠ "java/lang/invoke/MethodHandle" ∧ yX11_type.cls ≠ "java/lang/invoke/VarHandle" ∧ (parseMethodDescriptor yX11_type.desc).map (fun d => d.parameters.length) = some 2 := by decide +kernel
set_option maxHeartbeats 4000000 in
set_option maxRecDepth 100000 in
theorem c11_type (l : Launch) (D : va_G) (y : CyT) (X : Nat × Nat) (hX : X.2 ≤ 100000000) {S S' : CS} {h : Nat} {p1 : Int32} {p2 : Int32} {r : Int32} (hf : f11_type X S h p1 p2 = some (r, S')) : CT l D y yX11_type cX11_type 5 (some .int) 7 156 X.1 X.2 [.ref h, .int p1, .int p2] (cZ S) (cU S) (cw y S) (cZ S') (cU S') (cw y S') (some (.int r)) := by
  refine CT.of (by decide) (Nat.le_of_ble_eq_true rfl) (fun E hc hzz hnm => ?_)
  have hc : Cx E "FarEditors" cX11_type 5 := hc
  have hz := hzz.1
  have hT := hz.2.2.1
  show V E (cZ S) (cU S) (cw y S) 0 [(0, .ref h), (1, .int p1), (2, .int p2)] []
  unfold f11_type at hf
  refine V_aload_n hc dX11_type_0 rfl 0 rfl ?_
  obtain ⟨a1, ha1, hf⟩ := mb hf
  refine C_getr hc rfl iW11 (by decide) 3 (by decide) rfl ha1 w2_196 dX11_type_1 ?_
  refine V_iload_n hc dX11_type_4 rfl 1 rfl ?_
  obtain ⟨v2, hv2, hf⟩ := mb hf
  obtain ⟨hkv2, hv2⟩ := og hv2
  refine C_callV hc hz (As := [.int p1]) hkv2 (by decide) (c10_knows l D y _ _ hv2) w3_222 w3_223 w3_224 w1_8 w3_225 hdX_X10_knows ⟨(Nat.le_of_ble_eq_true rfl), (Nat.le_of_ble_eq_true rfl)⟩ rfl rfl rfl (Nat.le_of_ble_eq_true rfl) dX11_type_5 ?_
  refine V_if_ne hc dX11_type_8 rfl (fun hq8 => ?_) (fun hq8 => ?_)
  · rw [if_neg hq8] at hf
    refine V_aload_n hc dX11_type_17 rfl 0 rfl ?_
    obtain ⟨a3, ha3, hf⟩ := mb hf
    refine C_getr hc rfl iW11 (by decide) 3 (by decide) rfl ha3 w2_196 dX11_type_18 ?_
    obtain ⟨a4, ha4, hf⟩ := mb hf
    refine C_getr hc rfl iW10 (by decide) 3 (by decide) rfl ha4 w2_80 dX11_type_21 ?_
    refine V_iload_n hc dX11_type_24 rfl 1 rfl ?_
    obtain ⟨a5, ha5, hf⟩ := mb hf
    refine C_aald hc hT (by decide) (by decide) ha5 dX11_type_25 ?_
    refine V_astore_n hc dX11_type_26 rfl (by decide) rfl ?_
    refine V_iload_n hc dX11_type_27 rfl 3 rfl ?_
    obtain ⟨v6, hv7, hf⟩ := mb hf
    have hJ28 : V E (cZ S) (cU S) (cw y S) 62 [(0, .ref h), (2, .int p2), (3, .ref a5)] [.int v6] := by
      refine V_istore hc dX11_type_62 (by decide) rfl ?_
      refine V_iload hc dX11_type_64 0 rfl ?_
      refine V_if_ne hc dX11_type_66 rfl (fun hq66 => ?_) (fun hq66 => ?_)
      · rw [if_neg hq66] at hf
        refine V_iload_n hc dX11_type_75 rfl 2 rfl ?_
        obtain ⟨S14, hv15, hf⟩ := mb hf
        have hJ76 : V E (cZ S14) (cU S14) (cw y S14) 122 [(0, .ref h), (3, .ref a5)] [] := by
          refine V_aload_n hc dX11_type_122 rfl 0 rfl ?_
          refine V_aload_n hc dX11_type_123 rfl 1 rfl ?_
          obtain ⟨v26, S27, hv26, hf⟩ := mb2 hf
          obtain ⟨hkv26, hv26⟩ := og hv26
          refine C_callV hc hz (As := [.ref a5]) hkv26 (by decide) (c11_editWithOp l D y X hX hv26) w5_172 w5_174 wp3_11 w1_1 w5_175 hdX_X11_editWithOp ⟨(Nat.le_of_ble_eq_true rfl), (Nat.le_of_ble_eq_true rfl)⟩ rfl rfl rfl (Nat.le_of_ble_eq_true rfl) dX11_type_124 ?_
          refine V_iconst hc (v := (-1 : Int32)) dX11_type_127 rfl ?_
          obtain ⟨v28, hv29, hf⟩ := mb hf
          have hJ128 : V E (cZ S27) (cU S27) (cw y S27) 139 [] [.int v28] := by
            obtain ⟨rfl, rfl⟩ := si2 hf
            exact V_iret hc hzz rfl rfl rfl rfl rfl dX11_type_139
          refine V_icmp_ne hc dX11_type_128 rfl (fun hq128 => ?_) (fun hq128 => ?_)
          · rw [if_neg hq128] at hv29
            refine V_aload_n hc dX11_type_135 rfl 1 rfl ?_
            obtain ⟨v30, hv30, hv29⟩ := mb hv29
            refine C_geti hc rfl iW1 (by decide) 9 (by decide) rfl hv30 w2_23 dX11_type_136 ?_
            obtain rfl := Option.some.inj hv29
            exact V_sub [] rfl hJ128
          · rw [if_pos hq128] at hv29
            refine V_iconst hc (v := (-1 : Int32)) dX11_type_131 rfl ?_
            refine V_goto hc dX11_type_132 rfl ?_
            obtain rfl := Option.some.inj hv29
            exact V_sub [] rfl hJ128
        refine V_if_ne hc dX11_type_76 rfl (fun hq76 => ?_) (fun hq76 => ?_)
        · rw [if_neg hq76] at hv15
          refine V_aload_n hc dX11_type_103 rfl 1 rfl ?_
          obtain ⟨a16, ha16, hv15⟩ := mb hv15
          refine C_getr hc rfl iW11 (by decide) 7 (by decide) rfl ha16 w2_200 dX11_type_104 ?_
          refine V_aload_n hc dX11_type_107 rfl 3 rfl ?_
          obtain ⟨v17, hv17, hv15⟩ := mb hv15
          refine C_geti hc rfl iW1 (by decide) 9 (by decide) rfl hv17 w2_23 dX11_type_108 ?_
          refine V_iload_n hc dX11_type_111 rfl 2 rfl ?_
          refine V_aload_n hc dX11_type_112 rfl 3 rfl ?_
          obtain ⟨a18, ha18, hv15⟩ := mb hv15
          refine C_getr hc rfl iW1 (by decide) 0 (by decide) rfl ha18 w1_238 dX11_type_113 ?_
          obtain ⟨v19, hv19, hv15⟩ := mb hv15
          refine C_geti hc rfl iW7 (by decide) 1 (by decide) rfl hv19 w1_170 dX11_type_116 ?_
          obtain ⟨S20, hS20, hv15⟩ := mb hv15
          obtain ⟨hkS20, hS20⟩ := og hS20
          refine C_callV hc hz (As := [.int v17, .int p2, .int v19]) hkS20 (by decide) (c4_buildPut l D y X hX hS20) w5_190 w5_191 w5_192 w1_5 w5_193 hdX_X4_buildPut ⟨(Nat.le_of_ble_eq_true rfl), (Nat.le_of_ble_eq_true rfl)⟩ rfl rfl rfl (Nat.le_of_ble_eq_true rfl) dX11_type_119 ?_
          obtain rfl := Option.some.inj hv15
          exact V_sub [1, 3] rfl hJ76
        · rw [if_pos hq76] at hv15
          refine V_aload_n hc dX11_type_79 rfl 1 rfl ?_
          obtain ⟨a21, ha21, hv15⟩ := mb hv15
          refine C_getr hc rfl iW11 (by decide) 7 (by decide) rfl ha21 w2_200 dX11_type_80 ?_
          refine V_aload_n hc dX11_type_83 rfl 3 rfl ?_
          obtain ⟨v22, hv22, hv15⟩ := mb hv15
          refine C_geti hc rfl iW1 (by decide) 9 (by decide) rfl hv22 w2_23 dX11_type_84 ?_
          refine V_iconst hc (v := (1 : Int32)) dX11_type_87 rfl ?_
          refine V_isub hc dX11_type_88 ?_
          refine V_iconst hc (v := (1 : Int32)) dX11_type_89 rfl ?_
          refine V_aload_n hc dX11_type_90 rfl 3 rfl ?_
          obtain ⟨a23, ha23, hv15⟩ := mb hv15
          refine C_getr hc rfl iW1 (by decide) 0 (by decide) rfl ha23 w1_238 dX11_type_91 ?_
          obtain ⟨v24, hv24, hv15⟩ := mb hv15
          refine C_geti hc rfl iW7 (by decide) 1 (by decide) rfl hv24 w1_170 dX11_type_94 ?_
          obtain ⟨S25, hS25, hv15⟩ := mb hv15
          obtain ⟨hkS25, hS25⟩ := og hS25
          refine C_callV hc hz (As := [.int (v22 - (1 : Int32)), .int (1 : Int32), .int v24]) hkS25 (by decide) (c4_buildCut l D y X hX hS25) w5_202 w5_203 w5_204 w1_5 w5_205 hdX_X4_buildCut ⟨(Nat.le_of_ble_eq_true rfl), (Nat.le_of_ble_eq_true rfl)⟩ rfl rfl rfl (Nat.le_of_ble_eq_true rfl) dX11_type_97 ?_
          refine V_goto hc dX11_type_100 rfl ?_
          obtain rfl := Option.some.inj hv15
          exact V_sub [1, 3] rfl hJ76
      · rw [if_pos hq66] at hf
        refine V_aload_n hc dX11_type_69 rfl 1 rfl ?_
        refine V_iconst hc (v := (2 : Int32)) dX11_type_70 rfl ?_
        obtain ⟨v31, S32, hv31, hf⟩ := mb2 hf
        obtain ⟨hkv31, hv31⟩ := og hv31
        refine C_callV hc hz (As := [.int (2 : Int32)]) hkv31 (by decide) (c11_refuse l D y _ _ hv31) w3_4 w3_6 wp1_0 w1_1 w3_7 hdX_X11_refuse ⟨(Nat.le_of_ble_eq_true rfl), (Nat.le_of_ble_eq_true rfl)⟩ rfl rfl rfl (Nat.le_of_ble_eq_true rfl) dX11_type_71 ?_
        obtain ⟨rfl, rfl⟩ := si2 hf
        exact V_iret hc hzz rfl rfl rfl rfl rfl dX11_type_74
    refine V_if_ne hc dX11_type_28 rfl (fun hq28 => ?_) (fun hq28 => ?_)
    · rw [if_neg hq28] at hv7
      refine V_aload_n hc dX11_type_49 rfl 1 rfl ?_
      obtain ⟨a8, ha8, hv7⟩ := mb hv7
      refine C_getr hc rfl iW11 (by decide) 3 (by decide) rfl ha8 w2_196 dX11_type_50 ?_
      refine V_iload_n hc dX11_type_53 rfl 2 rfl ?_
      refine V_aload_n hc dX11_type_54 rfl 0 rfl ?_
      obtain ⟨v9, hv9, hv7⟩ := mb hv7
      refine C_geti hc rfl iW1 (by decide) 9 (by decide) rfl hv9 w2_23 dX11_type_55 ?_
      refine V_iload_n hc dX11_type_58 rfl 3 rfl ?_
      obtain ⟨v10, hv10, hv7⟩ := mb hv7
      obtain ⟨hkv10, hv10⟩ := og hv10
      refine C_callV hc hz (As := [.int p1, .int v9, .int p2]) hkv10 (by decide) (c10_canPut l D y _ _ hv10) w5_186 w5_187 w5_188 w1_8 w5_189 hdX_X10_canPut ⟨(Nat.le_of_ble_eq_true rfl), (Nat.le_of_ble_eq_true rfl)⟩ rfl rfl rfl (Nat.le_of_ble_eq_true rfl) dX11_type_59 ?_
      obtain rfl := Option.some.inj hv7
      exact V_sub [1, 3, 0] rfl hJ28
    · rw [if_pos hq28] at hv7
      refine V_aload_n hc dX11_type_31 rfl 1 rfl ?_
      obtain ⟨a11, ha11, hv7⟩ := mb hv7
      refine C_getr hc rfl iW11 (by decide) 3 (by decide) rfl ha11 w2_196 dX11_type_32 ?_
      refine V_iload_n hc dX11_type_35 rfl 2 rfl ?_
      refine V_aload_n hc dX11_type_36 rfl 0 rfl ?_
      obtain ⟨v12, hv12, hv7⟩ := mb hv7
      refine C_geti hc rfl iW1 (by decide) 9 (by decide) rfl hv12 w2_23 dX11_type_37 ?_
      refine V_iconst hc (v := (1 : Int32)) dX11_type_40 rfl ?_
      refine V_isub hc dX11_type_41 ?_
      refine V_iconst hc (v := (1 : Int32)) dX11_type_42 rfl ?_
      obtain ⟨v13, hv13, hv7⟩ := mb hv7
      obtain ⟨hkv13, hv13⟩ := og hv13
      refine C_callV hc hz (As := [.int p1, .int (v12 - (1 : Int32)), .int (1 : Int32)]) hkv13 (by decide) (c10_canCut l D y _ _ hv13) w5_198 w5_199 w5_200 w1_8 w5_201 hdX_X10_canCut ⟨(Nat.le_of_ble_eq_true rfl), (Nat.le_of_ble_eq_true rfl)⟩ rfl rfl rfl (Nat.le_of_ble_eq_true rfl) dX11_type_43 ?_
      refine V_goto hc dX11_type_46 rfl ?_
      obtain rfl := Option.some.inj hv7
      exact V_sub [1, 3, 0] rfl hJ28
  · rw [if_pos hq8] at hf
    refine V_aload_n hc dX11_type_11 rfl 0 rfl ?_
    refine V_iconst hc (v := (2 : Int32)) dX11_type_12 rfl ?_
    obtain ⟨v33, S34, hv33, hf⟩ := mb2 hf
    obtain ⟨hkv33, hv33⟩ := og hv33
    refine C_callV hc hz (As := [.int (2 : Int32)]) hkv33 (by decide) (c11_refuse l D y _ _ hv33) w3_4 w3_6 wp1_0 w1_1 w3_7 hdX_X11_refuse ⟨(Nat.le_of_ble_eq_true rfl), (Nat.le_of_ble_eq_true rfl)⟩ rfl rfl rfl (Nat.le_of_ble_eq_true rfl) dX11_type_13 ?_
    obtain ⟨rfl, rfl⟩ := si2 hf
    exact V_iret hc hzz rfl rfl rfl rfl rfl dX11_type_16
noncomputable def f11_cursor (X : Nat × Nat) (S : CS) (h : Nat) (p1 : Int32) (p2 : Int32) : Option (Int32 × CS) :=
  (gr S 11 h 3).bind fun a1 =>
  (cal S 10 a1 (f10_canPlace S a1 p1 p2)).bind fun v2 =>
  if v2 = 0 then (
    bn2 (cal S 11 h (f11_refuseFlatly S h (3 : Int32))) fun v3 S4 =>
    (bz v3).bind fun v5 =>
    some (v5, S4)
  ) else (
    (gr S 11 h 3).bind fun a6 =>
    (gr S 10 a6 3).bind fun a7 =>
    (ldr S 16 a7 p1).bind fun a8 =>
    (gi S 1 a8 9).bind fun v9 =>
    if v9 = p2 then (
      bn2 (cal S 11 h (f11_refuseFlatly S h (3 : Int32))) fun v17 S18 =>
      (bz v17).bind fun v19 =>
      some (v19, S18)
    ) else (
      (gr S 11 h 5).bind fun a10 =>
      (gr S 11 h 3).bind fun a11 =>
      (cal S 2 a10 (f2_keep X S a10 a11)).bind fun S12 =>
      (gr S12 11 h 3).bind fun a13 =>
      (gr S12 10 a13 3).bind fun a14 =>
      (ldr S12 16 a14 p1).bind fun a15 =>
      (pi S12 1 a15 9 p2).bind fun S16 =>
      some ((1 : Int32), S16)
    )
  )
theorem hdX_X11_cursor : yX11_cursor.cls = "FarEditors" ∧ yX11_cursor.cls ≠ "java/lang/invoke/MethodHandle" ∧ yX11_cursor.cls ≠ "java/lang/invoke/VarHandle" ∧ (parseMethodDescriptor yX11_cursor.desc).map (fun d => d.parameters.length) = some 2 := by decide +kernel
set_option maxHeartbeats 4000000 in
set_option maxRecDepth 100000 in
theorem c11_cursor (l : Launch) (D : va_G) (y : CyT) (X : Nat × Nat) (hX : X.2 ≤ 100000000) {S S' : CS} {h : Nat} {p1 : Int32} {p2 : Int32} {r : Int32} (hf : f11_cursor X S h p1 p2 = some (r, S')) : CT l D y yX11_cursor cX11_cursor 3 (some .boolean) 6 135 X.1 X.2 [.ref h, .int p1, .int p2] (cZ S) (cU S) (cw y S) (cZ S') (cU S') (cw y S') (some (.int r)) := by
  refine CT.of (by decide) (Nat.le_of_ble_eq_true rfl) (fun E hc hzz hnm => ?_)
  have hc : Cx E "FarEditors" cX11_cursor 3 := hc
  have hz := hzz.1
  have hT := hz.2.2.1
  show V E (cZ S) (cU S) (cw y S) 0 [(0, .ref h), (1, .int p1), (2, .int p2)] []
  unfold f11_cursor at hf
  refine V_aload_n hc dX11_cursor_0 rfl 0 rfl ?_
  obtain ⟨a1, ha1, hf⟩ := mb hf
  refine C_getr hc rfl iW11 (by decide) 3 (by decide) rfl ha1 w2_196 dX11_cursor_1 ?_
  refine V_iload_n hc dX11_cursor_4 rfl 1 rfl ?_
  refine V_iload_n hc dX11_cursor_5 rfl 2 rfl ?_
  obtain ⟨v2, hv2, hf⟩ := mb hf
  obtain ⟨hkv2, hv2⟩ := og hv2
  refine C_callV hc hz (As := [.int p1, .int p2]) hkv2 (by decide) (c10_canPlace l D y _ _ hv2) w4_172 w4_173 w4_174 w1_8 w4_175 hdX_X10_canPlace ⟨(Nat.le_of_ble_eq_true rfl), (Nat.le_of_ble_eq_true rfl)⟩ rfl rfl rfl (Nat.le_of_ble_eq_true rfl) dX11_cursor_6 ?_
  refine V_if_eq hc dX11_cursor_9 rfl (fun hq9 => ?_) (fun hq9 => ?_)
  · rw [if_pos hq9] at hf
    refine V_aload_n hc dX11_cursor_28 rfl 0 rfl ?_
    refine V_iconst hc (v := (3 : Int32)) dX11_cursor_29 rfl ?_
    obtain ⟨v3, S4, hv3, hf⟩ := mb2 hf
    obtain ⟨hkv3, hv3⟩ := og hv3
    refine C_callV hc hz (As := [.int (3 : Int32)]) hkv3 (by decide) (c11_refuseFlatly l D y _ _ hv3) w3_16 w3_18 wp1_1 w1_1 w3_19 hdX_X11_refuseFlatly ⟨(Nat.le_of_ble_eq_true rfl), (Nat.le_of_ble_eq_true rfl)⟩ rfl rfl rfl (Nat.le_of_ble_eq_true rfl) dX11_cursor_30 ?_
    obtain ⟨v5, hv5, hf⟩ := mb hf
    obtain ⟨hbv5, rfl⟩ := bz_some hv5
    obtain ⟨rfl, rfl⟩ := si2 hf
    exact V_iret hc hzz (bz_nar hbv5) rfl rfl rfl rfl dX11_cursor_33
  · rw [if_neg hq9] at hf
    refine V_aload_n hc dX11_cursor_12 rfl 0 rfl ?_
    obtain ⟨a6, ha6, hf⟩ := mb hf
    refine C_getr hc rfl iW11 (by decide) 3 (by decide) rfl ha6 w2_196 dX11_cursor_13 ?_
    obtain ⟨a7, ha7, hf⟩ := mb hf
    refine C_getr hc rfl iW10 (by decide) 3 (by decide) rfl ha7 w2_80 dX11_cursor_16 ?_
    refine V_iload_n hc dX11_cursor_19 rfl 1 rfl ?_
    obtain ⟨a8, ha8, hf⟩ := mb hf
    refine C_aald hc hT (by decide) (by decide) ha8 dX11_cursor_20 ?_
    obtain ⟨v9, hv9, hf⟩ := mb hf
    refine C_geti hc rfl iW1 (by decide) 9 (by decide) rfl hv9 w2_23 dX11_cursor_21 ?_
    refine V_iload_n hc dX11_cursor_24 rfl 2 rfl ?_
    refine V_icmp_ne hc dX11_cursor_25 rfl (fun hq25 => ?_) (fun hq25 => ?_)
    · rw [if_neg hq25] at hf
      refine V_aload_n hc dX11_cursor_34 rfl 0 rfl ?_
      obtain ⟨a10, ha10, hf⟩ := mb hf
      refine C_getr hc rfl iW11 (by decide) 5 (by decide) rfl ha10 w2_198 dX11_cursor_35 ?_
      refine V_aload_n hc dX11_cursor_38 rfl 0 rfl ?_
      obtain ⟨a11, ha11, hf⟩ := mb hf
      refine C_getr hc rfl iW11 (by decide) 3 (by decide) rfl ha11 w2_196 dX11_cursor_39 ?_
      obtain ⟨S12, hS12, hf⟩ := mb hf
      obtain ⟨hkS12, hS12⟩ := og hS12
      refine C_callV hc hz (As := [.ref a11]) hkS12 (by decide) (c2_keep l D y X hX hS12) w5_176 w5_177 w5_178 w1_11 w5_179 hdX_X2_keep ⟨(Nat.le_of_ble_eq_true rfl), (Nat.le_of_ble_eq_true rfl)⟩ rfl rfl rfl (Nat.le_of_ble_eq_true rfl) dX11_cursor_42 ?_
      refine V_aload_n hc dX11_cursor_45 rfl 0 rfl ?_
      obtain ⟨a13, ha13, hf⟩ := mb hf
      refine C_getr hc rfl iW11 (by decide) 3 (by decide) rfl ha13 w2_196 dX11_cursor_46 ?_
      obtain ⟨a14, ha14, hf⟩ := mb hf
      refine C_getr hc rfl iW10 (by decide) 3 (by decide) rfl ha14 w2_80 dX11_cursor_49 ?_
      refine V_iload_n hc dX11_cursor_52 rfl 1 rfl ?_
      obtain ⟨a15, ha15, hf⟩ := mb hf
      refine C_aald hc hT (by decide) (by decide) ha15 dX11_cursor_53 ?_
      refine V_iload_n hc dX11_cursor_54 rfl 2 rfl ?_
      obtain ⟨S16, hS16, hf⟩ := mb hf
      refine C_puti hc rfl iW1 tyX1 tyX1_ok nmX1 (by decide) 9 (by decide) rfl hS16 w2_23 rfl rfl rfl dX11_cursor_55 ?_
      refine V_iconst hc (v := (1 : Int32)) dX11_cursor_58 rfl ?_
      obtain ⟨rfl, rfl⟩ := si2 hf
      exact V_iret hc hzz rfl rfl rfl rfl rfl dX11_cursor_59
    · rw [if_pos hq25] at hf
      refine V_aload_n hc dX11_cursor_28 rfl 0 rfl ?_
      refine V_iconst hc (v := (3 : Int32)) dX11_cursor_29 rfl ?_
      obtain ⟨v17, S18, hv17, hf⟩ := mb2 hf
      obtain ⟨hkv17, hv17⟩ := og hv17
      refine C_callV hc hz (As := [.int (3 : Int32)]) hkv17 (by decide) (c11_refuseFlatly l D y _ _ hv17) w3_16 w3_18 wp1_1 w1_1 w3_19 hdX_X11_refuseFlatly ⟨(Nat.le_of_ble_eq_true rfl), (Nat.le_of_ble_eq_true rfl)⟩ rfl rfl rfl (Nat.le_of_ble_eq_true rfl) dX11_cursor_30 ?_
      obtain ⟨v19, hv19, hf⟩ := mb hf
      obtain ⟨hbv19, rfl⟩ := bz_some hv19
      obtain ⟨rfl, rfl⟩ := si2 hf
      exact V_iret hc hzz (bz_nar hbv19) rfl rfl rfl rfl dX11_cursor_33
noncomputable def f11_marks (X : Nat × Nat) (S : CS) (h : Nat) (p1 : Int32) (p2 : Int32) (p3 : Int32) (p4 : Int32) : Option (Int32 × CS) :=
  (gr S 11 h 3).bind fun a1 =>
  (cal S 10 a1 (f10_canMark S a1 p1 p2 p3 p4)).bind fun v2 =>
  if v2 = 0 then (
    bn2 (cal S 11 h (f11_refuse S h (3 : Int32))) fun v11 S12 =>
    some (v11, S12)
  ) else (
    (gr S 11 h 5).bind fun a3 =>
    (gr S 11 h 3).bind fun a4 =>
    (cal S 2 a3 (f2_keep X S a3 a4)).bind fun S5 =>
    (gr S5 11 h 3).bind fun a6 =>
    (gr S5 10 a6 3).bind fun a7 =>
    (ldr S5 16 a7 p1).bind fun a8 =>
    bn2 (cal S5 1 a8 (f1_addMark S5 a8 p2 p3 p4)) fun v9 S10 =>
    some (v9, S10)
  )
theorem hdX_X11_marks : yX11_marks.cls = "FarEditors" ∧ yX11_marks.cls ≠ "java/lang/invoke/MethodHandle" ∧ yX11_marks.cls ≠ "java/lang/invoke/VarHandle" ∧ (parseMethodDescriptor yX11_marks.desc).map (fun d => d.parameters.length) = some 4 := by decide +kernel
set_option maxHeartbeats 4000000 in
set_option maxRecDepth 100000 in
theorem c11_marks (l : Launch) (D : va_G) (y : CyT) (X : Nat × Nat) (hX : X.2 ≤ 100000000) {S S' : CS} {h : Nat} {p1 : Int32} {p2 : Int32} {p3 : Int32} {p4 : Int32} {r : Int32} (hf : f11_marks X S h p1 p2 p3 p4 = some (r, S')) : CT l D y yX11_marks cX11_marks 5 (some .int) 6 135 X.1 X.2 [.ref h, .int p1, .int p2, .int p3, .int p4] (cZ S) (cU S) (cw y S) (cZ S') (cU S') (cw y S') (some (.int r)) := by
  refine CT.of (by decide) (Nat.le_of_ble_eq_true rfl) (fun E hc hzz hnm => ?_)
  have hc : Cx E "FarEditors" cX11_marks 5 := hc
  have hz := hzz.1
  have hT := hz.2.2.1
  show V E (cZ S) (cU S) (cw y S) 0 [(0, .ref h), (1, .int p1), (2, .int p2), (3, .int p3), (4, .int p4)] []
  unfold f11_marks at hf
  refine V_aload_n hc dX11_marks_0 rfl 0 rfl ?_
  obtain ⟨a1, ha1, hf⟩ := mb hf
  refine C_getr hc rfl iW11 (by decide) 3 (by decide) rfl ha1 w2_196 dX11_marks_1 ?_
  refine V_iload_n hc dX11_marks_4 rfl 1 rfl ?_
  refine V_iload_n hc dX11_marks_5 rfl 2 rfl ?_
  refine V_iload_n hc dX11_marks_6 rfl 3 rfl ?_
  refine V_iload hc dX11_marks_7 4 rfl ?_
  obtain ⟨v2, hv2, hf⟩ := mb hf
  obtain ⟨hkv2, hv2⟩ := og hv2
  refine C_callV hc hz (As := [.int p1, .int p2, .int p3, .int p4]) hkv2 (by decide) (c10_canMark l D y _ _ hv2) w4_176 w4_177 w4_178 w1_8 w4_179 hdX_X10_canMark ⟨(Nat.le_of_ble_eq_true rfl), (Nat.le_of_ble_eq_true rfl)⟩ rfl rfl rfl (Nat.le_of_ble_eq_true rfl) dX11_marks_9 ?_
  refine V_if_ne hc dX11_marks_12 rfl (fun hq12 => ?_) (fun hq12 => ?_)
  · rw [if_neg hq12] at hf
    refine V_aload_n hc dX11_marks_21 rfl 0 rfl ?_
    obtain ⟨a3, ha3, hf⟩ := mb hf
    refine C_getr hc rfl iW11 (by decide) 5 (by decide) rfl ha3 w2_198 dX11_marks_22 ?_
    refine V_aload_n hc dX11_marks_25 rfl 0 rfl ?_
    obtain ⟨a4, ha4, hf⟩ := mb hf
    refine C_getr hc rfl iW11 (by decide) 3 (by decide) rfl ha4 w2_196 dX11_marks_26 ?_
    obtain ⟨S5, hS5, hf⟩ := mb hf
    obtain ⟨hkS5, hS5⟩ := og hS5
    refine C_callV hc hz (As := [.ref a4]) hkS5 (by decide) (c2_keep l D y X hX hS5) w5_176 w5_177 w5_178 w1_11 w5_179 hdX_X2_keep ⟨(Nat.le_of_ble_eq_true rfl), (Nat.le_of_ble_eq_true rfl)⟩ rfl rfl rfl (Nat.le_of_ble_eq_true rfl) dX11_marks_29 ?_
    refine V_aload_n hc dX11_marks_32 rfl 0 rfl ?_
    obtain ⟨a6, ha6, hf⟩ := mb hf
    refine C_getr hc rfl iW11 (by decide) 3 (by decide) rfl ha6 w2_196 dX11_marks_33 ?_
    obtain ⟨a7, ha7, hf⟩ := mb hf
    refine C_getr hc rfl iW10 (by decide) 3 (by decide) rfl ha7 w2_80 dX11_marks_36 ?_
    refine V_iload_n hc dX11_marks_39 rfl 1 rfl ?_
    obtain ⟨a8, ha8, hf⟩ := mb hf
    refine C_aald hc hT (by decide) (by decide) ha8 dX11_marks_40 ?_
    refine V_iload_n hc dX11_marks_41 rfl 2 rfl ?_
    refine V_iload_n hc dX11_marks_42 rfl 3 rfl ?_
    refine V_iload hc dX11_marks_43 4 rfl ?_
    obtain ⟨v9, S10, hv9, hf⟩ := mb2 hf
    obtain ⟨hkv9, hv9⟩ := og hv9
    refine C_callV hc hz (As := [.int p2, .int p3, .int p4]) hkv9 (by decide) (c1_addMark l D y _ _ hv9) w4_181 w4_182 w4_183 w1_9 w4_184 hdX_X1_addMark ⟨(Nat.le_of_ble_eq_true rfl), (Nat.le_of_ble_eq_true rfl)⟩ rfl rfl rfl (Nat.le_of_ble_eq_true rfl) dX11_marks_45 ?_
    obtain ⟨rfl, rfl⟩ := si2 hf
    exact V_iret hc hzz rfl rfl rfl rfl rfl dX11_marks_48
  · rw [if_pos hq12] at hf
    refine V_aload_n hc dX11_marks_15 rfl 0 rfl ?_
    refine V_iconst hc (v := (3 : Int32)) dX11_marks_16 rfl ?_
    obtain ⟨v11, S12, hv11, hf⟩ := mb2 hf
    obtain ⟨hkv11, hv11⟩ := og hv11
    refine C_callV hc hz (As := [.int (3 : Int32)]) hkv11 (by decide) (c11_refuse l D y _ _ hv11) w3_4 w3_6 wp1_0 w1_1 w3_7 hdX_X11_refuse ⟨(Nat.le_of_ble_eq_true rfl), (Nat.le_of_ble_eq_true rfl)⟩ rfl rfl rfl (Nat.le_of_ble_eq_true rfl) dX11_marks_17 ?_
    obtain ⟨rfl, rfl⟩ := si2 hf
    exact V_iret hc hzz rfl rfl rfl rfl rfl dX11_marks_20
noncomputable def f11_clears (X : Nat × Nat) (S : CS) (h : Nat) (p1 : Int32) (p2 : Int32) : Option (Int32 × CS) :=
  (gr S 11 h 3).bind fun a1 =>
  (cal S 10 a1 (f10_knows S a1 p1)).bind fun v2 =>
  if v2 = 0 then (
    bn2 (cal S 11 h (f11_refuseFlatly S h (3 : Int32))) fun v3 S4 =>
    (bz v3).bind fun v5 =>
    some (v5, S4)
  ) else (
    (gr S 11 h 3).bind fun a6 =>
    (gr S 10 a6 3).bind fun a7 =>
    (ldr S 16 a7 p1).bind fun a8 =>
    (cal S 1 a8 (f1_hasMark S a8 p2)).bind fun v9 =>
    if v9 = 0 then (
      bn2 (cal S 11 h (f11_refuseFlatly S h (3 : Int32))) fun v17 S18 =>
      (bz v17).bind fun v19 =>
      some (v19, S18)
    ) else (
      (gr S 11 h 5).bind fun a10 =>
      (gr S 11 h 3).bind fun a11 =>
      (cal S 2 a10 (f2_keep X S a10 a11)).bind fun S12 =>
      (gr S12 11 h 3).bind fun a13 =>
      (gr S12 10 a13 3).bind fun a14 =>
      (ldr S12 16 a14 p1).bind fun a15 =>
      (cal S12 1 a15 (f1_dropMark S12 a15 p2)).bind fun S16 =>
      some ((1 : Int32), S16)
    )
  )
theorem hdX_X11_clears : yX11_clears.cls = "FarEditors" ∧ yX11_clears.cls ≠ "java/lang/invoke/MethodHandle" ∧ yX11_clears.cls ≠ "java/lang/invoke/VarHandle" ∧ (parseMethodDescriptor yX11_clears.desc).map (fun d => d.parameters.length) = some 2 := by decide +kernel
set_option maxHeartbeats 4000000 in
set_option maxRecDepth 100000 in
theorem c11_clears (l : Launch) (D : va_G) (y : CyT) (X : Nat × Nat) (hX : X.2 ≤ 100000000) {S S' : CS} {h : Nat} {p1 : Int32} {p2 : Int32} {r : Int32} (hf : f11_clears X S h p1 p2 = some (r, S')) : CT l D y yX11_clears cX11_clears 3 (some .boolean) 6 135 X.1 X.2 [.ref h, .int p1, .int p2] (cZ S) (cU S) (cw y S) (cZ S') (cU S') (cw y S') (some (.int r)) := by
  refine CT.of (by decide) (Nat.le_of_ble_eq_true rfl) (fun E hc hzz hnm => ?_)
  have hc : Cx E "FarEditors" cX11_clears 3 := hc
  have hz := hzz.1
  have hT := hz.2.2.1
  show V E (cZ S) (cU S) (cw y S) 0 [(0, .ref h), (1, .int p1), (2, .int p2)] []
  unfold f11_clears at hf
  refine V_aload_n hc dX11_clears_0 rfl 0 rfl ?_
  obtain ⟨a1, ha1, hf⟩ := mb hf
  refine C_getr hc rfl iW11 (by decide) 3 (by decide) rfl ha1 w2_196 dX11_clears_1 ?_
  refine V_iload_n hc dX11_clears_4 rfl 1 rfl ?_
  obtain ⟨v2, hv2, hf⟩ := mb hf
  obtain ⟨hkv2, hv2⟩ := og hv2
  refine C_callV hc hz (As := [.int p1]) hkv2 (by decide) (c10_knows l D y _ _ hv2) w3_222 w3_223 w3_224 w1_8 w3_225 hdX_X10_knows ⟨(Nat.le_of_ble_eq_true rfl), (Nat.le_of_ble_eq_true rfl)⟩ rfl rfl rfl (Nat.le_of_ble_eq_true rfl) dX11_clears_5 ?_
  refine V_if_eq hc dX11_clears_8 rfl (fun hq8 => ?_) (fun hq8 => ?_)
  · rw [if_pos hq8] at hf
    refine V_aload_n hc dX11_clears_27 rfl 0 rfl ?_
    refine V_iconst hc (v := (3 : Int32)) dX11_clears_28 rfl ?_
    obtain ⟨v3, S4, hv3, hf⟩ := mb2 hf
    obtain ⟨hkv3, hv3⟩ := og hv3
    refine C_callV hc hz (As := [.int (3 : Int32)]) hkv3 (by decide) (c11_refuseFlatly l D y _ _ hv3) w3_16 w3_18 wp1_1 w1_1 w3_19 hdX_X11_refuseFlatly ⟨(Nat.le_of_ble_eq_true rfl), (Nat.le_of_ble_eq_true rfl)⟩ rfl rfl rfl (Nat.le_of_ble_eq_true rfl) dX11_clears_29 ?_
    obtain ⟨v5, hv5, hf⟩ := mb hf
    obtain ⟨hbv5, rfl⟩ := bz_some hv5
    obtain ⟨rfl, rfl⟩ := si2 hf
    exact V_iret hc hzz (bz_nar hbv5) rfl rfl rfl rfl dX11_clears_32
  · rw [if_neg hq8] at hf
    refine V_aload_n hc dX11_clears_11 rfl 0 rfl ?_
    obtain ⟨a6, ha6, hf⟩ := mb hf
    refine C_getr hc rfl iW11 (by decide) 3 (by decide) rfl ha6 w2_196 dX11_clears_12 ?_
    obtain ⟨a7, ha7, hf⟩ := mb hf
    refine C_getr hc rfl iW10 (by decide) 3 (by decide) rfl ha7 w2_80 dX11_clears_15 ?_
    refine V_iload_n hc dX11_clears_18 rfl 1 rfl ?_
    obtain ⟨a8, ha8, hf⟩ := mb hf
    refine C_aald hc hT (by decide) (by decide) ha8 dX11_clears_19 ?_
    refine V_iload_n hc dX11_clears_20 rfl 2 rfl ?_
    obtain ⟨v9, hv9, hf⟩ := mb hf
    obtain ⟨hkv9, hv9⟩ := og hv9
    refine C_callV hc hz (As := [.int p2]) hkv9 (by decide) (c1_hasMark l D y _ _ hv9) w5_16 w5_17 w5_18 w1_9 w5_19 hdX_X1_hasMark ⟨(Nat.le_of_ble_eq_true rfl), (Nat.le_of_ble_eq_true rfl)⟩ rfl rfl rfl (Nat.le_of_ble_eq_true rfl) dX11_clears_21 ?_
    refine V_if_ne hc dX11_clears_24 rfl (fun hq24 => ?_) (fun hq24 => ?_)
    · rw [if_neg hq24] at hf
      refine V_aload_n hc dX11_clears_33 rfl 0 rfl ?_
      obtain ⟨a10, ha10, hf⟩ := mb hf
      refine C_getr hc rfl iW11 (by decide) 5 (by decide) rfl ha10 w2_198 dX11_clears_34 ?_
      refine V_aload_n hc dX11_clears_37 rfl 0 rfl ?_
      obtain ⟨a11, ha11, hf⟩ := mb hf
      refine C_getr hc rfl iW11 (by decide) 3 (by decide) rfl ha11 w2_196 dX11_clears_38 ?_
      obtain ⟨S12, hS12, hf⟩ := mb hf
      obtain ⟨hkS12, hS12⟩ := og hS12
      refine C_callV hc hz (As := [.ref a11]) hkS12 (by decide) (c2_keep l D y X hX hS12) w5_176 w5_177 w5_178 w1_11 w5_179 hdX_X2_keep ⟨(Nat.le_of_ble_eq_true rfl), (Nat.le_of_ble_eq_true rfl)⟩ rfl rfl rfl (Nat.le_of_ble_eq_true rfl) dX11_clears_41 ?_
      refine V_aload_n hc dX11_clears_44 rfl 0 rfl ?_
      obtain ⟨a13, ha13, hf⟩ := mb hf
      refine C_getr hc rfl iW11 (by decide) 3 (by decide) rfl ha13 w2_196 dX11_clears_45 ?_
      obtain ⟨a14, ha14, hf⟩ := mb hf
      refine C_getr hc rfl iW10 (by decide) 3 (by decide) rfl ha14 w2_80 dX11_clears_48 ?_
      refine V_iload_n hc dX11_clears_51 rfl 1 rfl ?_
      obtain ⟨a15, ha15, hf⟩ := mb hf
      refine C_aald hc hT (by decide) (by decide) ha15 dX11_clears_52 ?_
      refine V_iload_n hc dX11_clears_53 rfl 2 rfl ?_
      obtain ⟨S16, hS16, hf⟩ := mb hf
      obtain ⟨hkS16, hS16⟩ := og hS16
      refine C_callV hc hz (As := [.int p2]) hkS16 (by decide) (c1_dropMark l D y _ _ hS16) w5_222 w5_223 w5_224 w1_9 w5_225 hdX_X1_dropMark ⟨(Nat.le_of_ble_eq_true rfl), (Nat.le_of_ble_eq_true rfl)⟩ rfl rfl rfl (Nat.le_of_ble_eq_true rfl) dX11_clears_54 ?_
      refine V_iconst hc (v := (1 : Int32)) dX11_clears_57 rfl ?_
      obtain ⟨rfl, rfl⟩ := si2 hf
      exact V_iret hc hzz rfl rfl rfl rfl rfl dX11_clears_58
    · rw [if_pos hq24] at hf
      refine V_aload_n hc dX11_clears_27 rfl 0 rfl ?_
      refine V_iconst hc (v := (3 : Int32)) dX11_clears_28 rfl ?_
      obtain ⟨v17, S18, hv17, hf⟩ := mb2 hf
      obtain ⟨hkv17, hv17⟩ := og hv17
      refine C_callV hc hz (As := [.int (3 : Int32)]) hkv17 (by decide) (c11_refuseFlatly l D y _ _ hv17) w3_16 w3_18 wp1_1 w1_1 w3_19 hdX_X11_refuseFlatly ⟨(Nat.le_of_ble_eq_true rfl), (Nat.le_of_ble_eq_true rfl)⟩ rfl rfl rfl (Nat.le_of_ble_eq_true rfl) dX11_clears_29 ?_
      obtain ⟨v19, hv19, hf⟩ := mb hf
      obtain ⟨hbv19, rfl⟩ := bz_some hv19
      obtain ⟨rfl, rfl⟩ := si2 hf
      exact V_iret hc hzz (bz_nar hbv19) rfl rfl rfl rfl dX11_clears_32
