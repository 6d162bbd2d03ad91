noncomputable def f11_changeByInverse (X : Nat × Nat) (S : CS) (h : Nat) (p1 : Nat) (p2 : Nat) (p3 : Nat) : Option (Int32 × CS) :=
  (cal S 3 p2 (f3_findLatestThatChanges S p2)).bind fun v1 =>
  if v1 = (-1 : Int32) then (
    bn2 (cal S 11 h (f11_refuse S h (2 : Int32))) fun v2 S3 =>
    some (v2, S3)
  ) else (
    (gr S 11 h 3).bind fun a4 =>
    (gr S 3 p2 0).bind fun a5 =>
    (ldr S 17 a5 v1).bind fun a6 =>
    (cal S 10 a4 (f10_canEdit S a4 a6)).bind fun v7 =>
    if v7 = 0 then (
      bn2 (cal S 11 h (f11_refuse S h (2 : Int32))) fun v15 S16 =>
      some (v15, S16)
    ) else (
      (gr S 11 h 5).bind fun a8 =>
      (gr S 11 h 3).bind fun a9 =>
      (cal S 2 a8 (f2_keep X S a8 a9)).bind fun S10 =>
      (gr S10 11 h 3).bind fun a11 =>
      (cal S10 10 a11 (f10_editByInverse X S10 a11 p1 p2 p3 v1)).bind fun S12 =>
      (gr S12 1 p1 0).bind fun a13 =>
      (gi S12 7 a13 1).bind fun v14 =>
      some (v14, S12)
    )
  )
theorem hdX_X11_changeByInverse : yX11_changeByInverse.cls = "FarEditors" ∧ yX11_changeByInverse.cls ≠ "java/lang/invoke/MethodHandle" ∧ yX11_changeByInverse.cls ≠ "java/lang/invoke/VarHandle" ∧ (parseMethodDescriptor yX11_changeByInverse.desc).map (fun d => d.parameters.length) = some 3 := by decide +kernel
set_option maxHeartbeats 4000000 in
set_option maxRecDepth 100000 in
theorem c11_changeByInverse (l : Launch) (D : va_G) (y : CyT) (X : Nat × Nat) (hX : X.2 ≤ 100000000) {S S' : CS} {h : Nat} {p1 : Nat} {p2 : Nat} {p3 : Nat} {r : Int32} (hf : f11_changeByInverse X S h p1 p2 p3 = some (r, S')) : CT l D y yX11_changeByInverse cX11_changeByInverse 5 (some .int) 6 135 X.1 X.2 [.ref h, .ref p1, .ref p2, .ref p3] (cZ S) (cU S) (cw y S) (cZ S') (cU S') (cw y S') (some (.int r)) := by
  refine CT.of (by decide) (Nat.le_of_ble_eq_true rfl) (fun E hc hzz hnm => ?_)
  have hc : Cx E "FarEditors" cX11_changeByInverse 5 := hc
  have hz := hzz.1
  have hT := hz.2.2.1
  show V E (cZ S) (cU S) (cw y S) 0 [(0, .ref h), (1, .ref p1), (2, .ref p2), (3, .ref p3)] []
  unfold f11_changeByInverse at hf
  refine V_aload_n hc dX11_changeByInverse_0 rfl 2 rfl ?_
  obtain ⟨v1, hv1, hf⟩ := mb hf
  obtain ⟨hkv1, hv1⟩ := og hv1
  refine C_callV hc hz (As := []) hkv1 (by decide) (c3_findLatestThatChanges l D y _ _ hv1) w5_234 w5_235 w5_236 w1_10 w5_237 hdX_X3_findLatestThatChanges ⟨(Nat.le_of_ble_eq_true rfl), (Nat.le_of_ble_eq_true rfl)⟩ rfl rfl rfl (Nat.le_of_ble_eq_true rfl) dX11_changeByInverse_1 ?_
  refine V_istore hc dX11_changeByInverse_4 (by decide) rfl ?_
  refine V_iload hc dX11_changeByInverse_6 0 rfl ?_
  refine V_iconst hc (v := (-1 : Int32)) dX11_changeByInverse_8 rfl ?_
  refine V_icmp_eq hc dX11_changeByInverse_9 rfl (fun hq9 => ?_) (fun hq9 => ?_)
  · rw [if_pos hq9] at hf
    refine V_aload_n hc dX11_changeByInverse_29 rfl 1 rfl ?_
    refine V_iconst hc (v := (2 : Int32)) dX11_changeByInverse_30 rfl ?_
    obtain ⟨v2, S3, hv2, hf⟩ := mb2 hf
    obtain ⟨hkv2, hv2⟩ := og hv2
    refine C_callV hc hz (As := [.int (2 : Int32)]) hkv2 (by decide) (c11_refuse l D y _ _ hv2) w3_4 w3_6 wp1_0 w1_1 w3_7 hdX_X11_refuse ⟨(Nat.le_of_ble_eq_true rfl), (Nat.le_of_ble_eq_true rfl)⟩ rfl rfl rfl (Nat.le_of_ble_eq_true rfl) dX11_changeByInverse_31 ?_
    obtain ⟨rfl, rfl⟩ := si2 hf
    exact V_iret hc hzz rfl rfl rfl rfl rfl dX11_changeByInverse_34
  · rw [if_neg hq9] at hf
    refine V_aload_n hc dX11_changeByInverse_12 rfl 1 rfl ?_
    obtain ⟨a4, ha4, hf⟩ := mb hf
    refine C_getr hc rfl iW11 (by decide) 3 (by decide) rfl ha4 w2_196 dX11_changeByInverse_13 ?_
    refine V_aload_n hc dX11_changeByInverse_16 rfl 3 rfl ?_
    obtain ⟨a5, ha5, hf⟩ := mb hf
    refine C_getr hc rfl iW3 (by decide) 0 (by decide) rfl ha5 w1_226 dX11_changeByInverse_17 ?_
    refine V_iload hc dX11_changeByInverse_20 0 rfl ?_
    obtain ⟨a6, ha6, hf⟩ := mb hf
    refine C_aald hc hT (by decide) (by decide) ha6 dX11_changeByInverse_22 ?_
    obtain ⟨v7, hv7, hf⟩ := mb hf
    obtain ⟨hkv7, hv7⟩ := og hv7
    refine C_callV hc hz (As := [.ref a6]) hkv7 (by decide) (c10_canEdit l D y _ _ hv7) w4_130 w4_131 w4_132 w1_8 w4_133 hdX_X10_canEdit ⟨(Nat.le_of_ble_eq_true rfl), (Nat.le_of_ble_eq_true rfl)⟩ rfl rfl rfl (Nat.le_of_ble_eq_true rfl) dX11_changeByInverse_23 ?_
    refine V_if_ne hc dX11_changeByInverse_26 rfl (fun hq26 => ?_) (fun hq26 => ?_)
    · rw [if_neg hq26] at hf
      refine V_aload_n hc dX11_changeByInverse_35 rfl 1 rfl ?_
      obtain ⟨a8, ha8, hf⟩ := mb hf
      refine C_getr hc rfl iW11 (by decide) 5 (by decide) rfl ha8 w2_198 dX11_changeByInverse_36 ?_
      refine V_aload_n hc dX11_changeByInverse_39 rfl 1 rfl ?_
      obtain ⟨a9, ha9, hf⟩ := mb hf
      refine C_getr hc rfl iW11 (by decide) 3 (by decide) rfl ha9 w2_196 dX11_changeByInverse_40 ?_
      obtain ⟨S10, hS10, hf⟩ := mb hf
      obtain ⟨hkS10, hS10⟩ := og hS10
      refine C_callV hc hz (As := [.ref a9]) hkS10 (by decide) (c2_keep l D y X hX hS10) w5_176 w5_177 w5_178 w1_11 w5_179 hdX_X2_keep ⟨(Nat.le_of_ble_eq_true rfl), (Nat.le_of_ble_eq_true rfl)⟩ rfl rfl rfl (Nat.le_of_ble_eq_true rfl) dX11_changeByInverse_43 ?_
      refine V_aload_n hc dX11_changeByInverse_46 rfl 1 rfl ?_
      obtain ⟨a11, ha11, hf⟩ := mb hf
      refine C_getr hc rfl iW11 (by decide) 3 (by decide) rfl ha11 w2_196 dX11_changeByInverse_47 ?_
      refine V_aload_n hc dX11_changeByInverse_50 rfl 2 rfl ?_
      refine V_aload_n hc dX11_changeByInverse_51 rfl 3 rfl ?_
      refine V_aload_n hc dX11_changeByInverse_52 rfl 4 rfl ?_
      refine V_iload hc dX11_changeByInverse_53 0 rfl ?_
      obtain ⟨S12, hS12, hf⟩ := mb hf
      obtain ⟨hkS12, hS12⟩ := og hS12
      refine C_callV hc hz (As := [.ref p1, .ref p2, .ref p3, .int v1]) hkS12 (by decide) (c10_editByInverse l D y X hX hS12) w5_239 w6_0 w6_1 w1_8 w6_2 hdX_X10_editByInverse ⟨(Nat.le_of_ble_eq_true rfl), (Nat.le_of_ble_eq_true rfl)⟩ rfl rfl rfl (Nat.le_of_ble_eq_true rfl) dX11_changeByInverse_55 ?_
      refine V_aload_n hc dX11_changeByInverse_58 rfl 2 rfl ?_
      obtain ⟨a13, ha13, hf⟩ := mb hf
      refine C_getr hc rfl iW1 (by decide) 0 (by decide) rfl ha13 w1_238 dX11_changeByInverse_59 ?_
      obtain ⟨v14, hv14, hf⟩ := mb hf
      refine C_geti hc rfl iW7 (by decide) 1 (by decide) rfl hv14 w1_170 dX11_changeByInverse_62 ?_
      obtain ⟨rfl, rfl⟩ := si2 hf
      exact V_iret hc hzz rfl rfl rfl rfl rfl dX11_changeByInverse_65
    · rw [if_pos hq26] at hf
      refine V_aload_n hc dX11_changeByInverse_29 rfl 1 rfl ?_
      refine V_iconst hc (v := (2 : Int32)) dX11_changeByInverse_30 rfl ?_
      obtain ⟨v15, S16, hv15, hf⟩ := mb2 hf
      obtain ⟨hkv15, hv15⟩ := og hv15
      refine C_callV hc hz (As := [.int (2 : Int32)]) hkv15 (by decide) (c11_refuse l D y _ _ hv15) w3_4 w3_6 wp1_0 w1_1 w3_7 hdX_X11_refuse ⟨(Nat.le_of_ble_eq_true rfl), (Nat.le_of_ble_eq_true rfl)⟩ rfl rfl rfl (Nat.le_of_ble_eq_true rfl) dX11_changeByInverse_31 ?_
      obtain ⟨rfl, rfl⟩ := si2 hf
      exact V_iret hc hzz rfl rfl rfl rfl rfl dX11_changeByInverse_34
noncomputable def f11_undo (X : Nat × Nat) (S : CS) (h : Nat) (p1 : Int32) : Option (Int32 × CS) :=
  (gr S 11 h 3).bind fun a1 =>
  (cal S 10 a1 (f10_knows S a1 p1)).bind fun v2 =>
  if v2 = 0 then (
    bn2 (cal S 11 h (f11_refuse S h (2 : Int32))) fun v10 S11 =>
    some (v10, S11)
  ) else (
    (gr S 11 h 3).bind fun a3 =>
    (gr S 10 a3 3).bind fun a4 =>
    (ldr S 16 a4 p1).bind fun a5 =>
    (gr S 1 a5 3).bind fun a6 =>
    (gr S 1 a5 4).bind fun a7 =>
    bn2 (cal S 11 h (f11_changeByInverse X S h a5 a6 a7)) fun v8 S9 =>
    some (v8, S9)
  )
theorem hdX_X11_undo : yX11_undo.cls = "FarEditors" ∧ yX11_undo.cls ≠ "java/lang/invoke/MethodHandle" ∧ yX11_undo.cls ≠ "java/lang/invoke/VarHandle" ∧ (parseMethodDescriptor yX11_undo.desc).map (fun d => d.parameters.length) = some 1 := by decide +kernel
set_option maxHeartbeats 4000000 in
set_option maxRecDepth 100000 in
theorem c11_undo (l : Launch) (D : va_G) (y : CyT) (X : Nat × Nat) (hX : X.2 ≤ 100000000) {S S' : CS} {h : Nat} {p1 : Int32} {r : Int32} (hf : f11_undo X S h p1 = some (r, S')) : CT l D y yX11_undo cX11_undo 3 (some .int) 7 159 X.1 X.2 [.ref h, .int p1] (cZ S) (cU S) (cw y S) (cZ S') (cU S') (cw y S') (some (.int r)) := by
  refine CT.of (by decide) (Nat.le_of_ble_eq_true rfl) (fun E hc hzz hnm => ?_)
  have hc : Cx E "FarEditors" cX11_undo 3 := hc
  have hz := hzz.1
  have hT := hz.2.2.1
  show V E (cZ S) (cU S) (cw y S) 0 [(0, .ref h), (1, .int p1)] []
  unfold f11_undo at hf
  refine V_aload_n hc dX11_undo_0 rfl 0 rfl ?_
  obtain ⟨a1, ha1, hf⟩ := mb hf
  refine C_getr hc rfl iW11 (by decide) 3 (by decide) rfl ha1 w2_196 dX11_undo_1 ?_
  refine V_iload_n hc dX11_undo_4 rfl 1 rfl ?_
  obtain ⟨v2, hv2, hf⟩ := mb hf
  obtain ⟨hkv2, hv2⟩ := og hv2
  refine C_callV hc hz (As := [.int p1]) hkv2 (by decide) (c10_knows l D y _ _ hv2) w3_222 w3_223 w3_224 w1_8 w3_225 hdX_X10_knows ⟨(Nat.le_of_ble_eq_true rfl), (Nat.le_of_ble_eq_true rfl)⟩ rfl rfl rfl (Nat.le_of_ble_eq_true rfl) dX11_undo_5 ?_
  refine V_if_ne hc dX11_undo_8 rfl (fun hq8 => ?_) (fun hq8 => ?_)
  · rw [if_neg hq8] at hf
    refine V_aload_n hc dX11_undo_17 rfl 0 rfl ?_
    obtain ⟨a3, ha3, hf⟩ := mb hf
    refine C_getr hc rfl iW11 (by decide) 3 (by decide) rfl ha3 w2_196 dX11_undo_18 ?_
    obtain ⟨a4, ha4, hf⟩ := mb hf
    refine C_getr hc rfl iW10 (by decide) 3 (by decide) rfl ha4 w2_80 dX11_undo_21 ?_
    refine V_iload_n hc dX11_undo_24 rfl 1 rfl ?_
    obtain ⟨a5, ha5, hf⟩ := mb hf
    refine C_aald hc hT (by decide) (by decide) ha5 dX11_undo_25 ?_
    refine V_astore_n hc dX11_undo_26 rfl (by decide) rfl ?_
    refine V_aload_n hc dX11_undo_27 rfl 1 rfl ?_
    refine V_aload_n hc dX11_undo_28 rfl 0 rfl ?_
    refine V_aload_n hc dX11_undo_29 rfl 0 rfl ?_
    obtain ⟨a6, ha6, hf⟩ := mb hf
    refine C_getr hc rfl iW1 (by decide) 3 (by decide) rfl ha6 w2_7 dX11_undo_30 ?_
    refine V_aload_n hc dX11_undo_33 rfl 0 rfl ?_
    obtain ⟨a7, ha7, hf⟩ := mb hf
    refine C_getr hc rfl iW1 (by decide) 4 (by decide) rfl ha7 w2_10 dX11_undo_34 ?_
    obtain ⟨v8, S9, hv8, hf⟩ := mb2 hf
    obtain ⟨hkv8, hv8⟩ := og hv8
    refine C_callV hc hz (As := [.ref a5, .ref a6, .ref a7]) hkv8 (by decide) (c11_changeByInverse l D y X hX hv8) w5_230 w5_232 wp3_12 w1_1 w5_233 hdX_X11_changeByInverse ⟨(Nat.le_of_ble_eq_true rfl), (Nat.le_of_ble_eq_true rfl)⟩ rfl rfl rfl (Nat.le_of_ble_eq_true rfl) dX11_undo_37 ?_
    obtain ⟨rfl, rfl⟩ := si2 hf
    exact V_iret hc hzz rfl rfl rfl rfl rfl dX11_undo_40
  · rw [if_pos hq8] at hf
    refine V_aload_n hc dX11_undo_11 rfl 0 rfl ?_
    refine V_iconst hc (v := (2 : Int32)) dX11_undo_12 rfl ?_
    obtain ⟨v10, S11, hv10, hf⟩ := mb2 hf
    obtain ⟨hkv10, hv10⟩ := og hv10
    refine C_callV hc hz (As := [.int (2 : Int32)]) hkv10 (by decide) (c11_refuse l D y _ _ hv10) w3_4 w3_6 wp1_0 w1_1 w3_7 hdX_X11_refuse ⟨(Nat.le_of_ble_eq_true rfl), (Nat.le_of_ble_eq_true rfl)⟩ rfl rfl rfl (Nat.le_of_ble_eq_true rfl) dX11_undo_13 ?_
    obtain ⟨rfl, rfl⟩ := si2 hf
    exact V_iret hc hzz rfl rfl rfl rfl rfl dX11_undo_16
noncomputable def f11_redo (X : Nat × Nat) (S : CS) (h : Nat) (p1 : Int32) : Option (Int32 × CS) :=
  (gr S 11 h 3).bind fun a1 =>
  (cal S 10 a1 (f10_knows S a1 p1)).bind fun v2 =>
  if v2 = 0 then (
    bn2 (cal S 11 h (f11_refuse S h (2 : Int32))) fun v10 S11 =>
    some (v10, S11)
  ) else (
    (gr S 11 h 3).bind fun a3 =>
    (gr S 10 a3 3).bind fun a4 =>
    (ldr S 16 a4 p1).bind fun a5 =>
    (gr S 1 a5 4).bind fun a6 =>
    (gr S 1 a5 3).bind fun a7 =>
    bn2 (cal S 11 h (f11_changeByInverse X S h a5 a6 a7)) fun v8 S9 =>
    some (v8, S9)
  )
theorem hdX_X11_redo : yX11_redo.cls = "FarEditors" ∧ yX11_redo.cls ≠ "java/lang/invoke/MethodHandle" ∧ yX11_redo.cls ≠ "java/lang/invoke/VarHandle" ∧ (parseMethodDescriptor yX11_redo.desc).map (fun d => d.parameters.length) = some 1 := by decide +kernel
set_option maxHeartbeats 4000000 in
set_option maxRecDepth 100000 in
theorem c11_redo (l : Launch) (D : va_G) (y : CyT) (X : Nat × Nat) (hX : X.2 ≤ 100000000) {S S' : CS} {h : Nat} {p1 : Int32} {r : Int32} (hf : f11_redo X S h p1 = some (r, S')) : CT l D y yX11_redo cX11_redo 3 (some .int) 7 159 X.1 X.2 [.ref h, .int p1] (cZ S) (cU S) (cw y S) (cZ S') (cU S') (cw y S') (some (.int r)) := by
  refine CT.of (by decide) (Nat.le_of_ble_eq_true rfl) (fun E hc hzz hnm => ?_)
  have hc : Cx E "FarEditors" cX11_redo 3 := hc
  have hz := hzz.1
  have hT := hz.2.2.1
  show V E (cZ S) (cU S) (cw y S) 0 [(0, .ref h), (1, .int p1)] []
  unfold f11_redo at hf
  refine V_aload_n hc dX11_redo_0 rfl 0 rfl ?_
  obtain ⟨a1, ha1, hf⟩ := mb hf
  refine C_getr hc rfl iW11 (by decide) 3 (by decide) rfl ha1 w2_196 dX11_redo_1 ?_
  refine V_iload_n hc dX11_redo_4 rfl 1 rfl ?_
  obtain ⟨v2, hv2, hf⟩ := mb hf
  obtain ⟨hkv2, hv2⟩ := og hv2
  refine C_callV hc hz (As := [.int p1]) hkv2 (by decide) (c10_knows l D y _ _ hv2) w3_222 w3_223 w3_224 w1_8 w3_225 hdX_X10_knows ⟨(Nat.le_of_ble_eq_true rfl), (Nat.le_of_ble_eq_true rfl)⟩ rfl rfl rfl (Nat.le_of_ble_eq_true rfl) dX11_redo_5 ?_
  refine V_if_ne hc dX11_redo_8 rfl (fun hq8 => ?_) (fun hq8 => ?_)
  · rw [if_neg hq8] at hf
    refine V_aload_n hc dX11_redo_17 rfl 0 rfl ?_
    obtain ⟨a3, ha3, hf⟩ := mb hf
    refine C_getr hc rfl iW11 (by decide) 3 (by decide) rfl ha3 w2_196 dX11_redo_18 ?_
    obtain ⟨a4, ha4, hf⟩ := mb hf
    refine C_getr hc rfl iW10 (by decide) 3 (by decide) rfl ha4 w2_80 dX11_redo_21 ?_
    refine V_iload_n hc dX11_redo_24 rfl 1 rfl ?_
    obtain ⟨a5, ha5, hf⟩ := mb hf
    refine C_aald hc hT (by decide) (by decide) ha5 dX11_redo_25 ?_
    refine V_astore_n hc dX11_redo_26 rfl (by decide) rfl ?_
    refine V_aload_n hc dX11_redo_27 rfl 1 rfl ?_
    refine V_aload_n hc dX11_redo_28 rfl 0 rfl ?_
    refine V_aload_n hc dX11_redo_29 rfl 0 rfl ?_
    obtain ⟨a6, ha6, hf⟩ := mb hf
    refine C_getr hc rfl iW1 (by decide) 4 (by decide) rfl ha6 w2_10 dX11_redo_30 ?_
    refine V_aload_n hc dX11_redo_33 rfl 0 rfl ?_
    obtain ⟨a7, ha7, hf⟩ := mb hf
    refine C_getr hc rfl iW1 (by decide) 3 (by decide) rfl ha7 w2_7 dX11_redo_34 ?_
    obtain ⟨v8, S9, hv8, hf⟩ := mb2 hf
    obtain ⟨hkv8, hv8⟩ := og hv8
    refine C_callV hc hz (As := [.ref a5, .ref a6, .ref a7]) hkv8 (by decide) (c11_changeByInverse l D y X hX hv8) w5_230 w5_232 wp3_12 w1_1 w5_233 hdX_X11_changeByInverse ⟨(Nat.le_of_ble_eq_true rfl), (Nat.le_of_ble_eq_true rfl)⟩ rfl rfl rfl (Nat.le_of_ble_eq_true rfl) dX11_redo_37 ?_
    obtain ⟨rfl, rfl⟩ := si2 hf
    exact V_iret hc hzz rfl rfl rfl rfl rfl dX11_redo_40
  · rw [if_pos hq8] at hf
    refine V_aload_n hc dX11_redo_11 rfl 0 rfl ?_
    refine V_iconst hc (v := (2 : Int32)) dX11_redo_12 rfl ?_
    obtain ⟨v10, S11, hv10, hf⟩ := mb2 hf
    obtain ⟨hkv10, hv10⟩ := og hv10
    refine C_callV hc hz (As := [.int (2 : Int32)]) hkv10 (by decide) (c11_refuse l D y _ _ hv10) w3_4 w3_6 wp1_0 w1_1 w3_7 hdX_X11_refuse ⟨(Nat.le_of_ble_eq_true rfl), (Nat.le_of_ble_eq_true rfl)⟩ rfl rfl rfl (Nat.le_of_ble_eq_true rfl) dX11_redo_13 ?_
    obtain ⟨rfl, rfl⟩ := si2 hf
    exact V_iret hc hzz rfl rfl rfl rfl rfl dX11_redo_16
noncomputable def f11_line (X : Nat × Nat) (S : CS) (h : Nat) (p1 : Int32) (p2 : Int32) : Option (Int32 × CS) :=
  (gr S 11 h 3).bind fun a1 =>
  (cal S 10 a1 (f10_knows S a1 p1)).bind fun v2 =>
  if v2 = 0 then (
    bn2 (cal S 11 h (f11_refuseFlatly S h (3 : Int32))) fun v3 S4 =>
    (bz v3).bind fun v5 =>
    some (v5, S4)
  ) else (
    (gr S 11 h 3).bind fun a6 =>
    (gr S 10 a6 3).bind fun a7 =>
    (ldr S 16 a7 p1).bind fun a8 =>
    (gi S 1 a8 14).bind fun v9 =>
    if v9 = p2 then (
      bn2 (cal S 11 h (f11_refuseFlatly S h (3 : Int32))) fun v18 S19 =>
      (bz v18).bind fun v20 =>
      some (v20, S19)
    ) else (
      (gr S 11 h 5).bind fun a10 =>
      (gr S 11 h 3).bind fun a11 =>
      (cal S 2 a10 (f2_keep X S a10 a11)).bind fun S12 =>
      (gr S12 11 h 3).bind fun a13 =>
      (gr S12 10 a13 3).bind fun a14 =>
      (ldr S12 16 a14 p1).bind fun a15 =>
      (bz p2).bind fun v16 =>
      (pi S12 1 a15 14 p2).bind fun S17 =>
      some ((1 : Int32), S17)
    )
  )
theorem hdX_X11_line : yX11_line.cls = "FarEditors" ∧ yX11_line.cls ≠ "java/lang/invoke/MethodHandle" ∧ yX11_line.cls ≠ "java/lang/invoke/VarHandle" ∧ (parseMethodDescriptor yX11_line.desc).map (fun d => d.parameters.length) = some 2 := by decide +kernel
set_option maxHeartbeats 4000000 in
set_option maxRecDepth 100000 in
theorem c11_line (l : Launch) (D : va_G) (y : CyT) (X : Nat × Nat) (hX : X.2 ≤ 100000000) {S S' : CS} {h : Nat} {p1 : Int32} {p2 : Int32} {r : Int32} (hf : f11_line X S h p1 p2 = some (r, S')) : CT l D y yX11_line cX11_line 3 (some .boolean) 6 135 X.1 X.2 [.ref h, .int p1, .int p2] (cZ S) (cU S) (cw y S) (cZ S') (cU S') (cw y S') (some (.int r)) := by
  refine CT.of (by decide) (Nat.le_of_ble_eq_true rfl) (fun E hc hzz hnm => ?_)
  have hc : Cx E "FarEditors" cX11_line 3 := hc
  have hz := hzz.1
  have hT := hz.2.2.1
  show V E (cZ S) (cU S) (cw y S) 0 [(0, .ref h), (1, .int p1), (2, .int p2)] []
  unfold f11_line at hf
  refine V_aload_n hc dX11_line_0 rfl 0 rfl ?_
  obtain ⟨a1, ha1, hf⟩ := mb hf
  refine C_getr hc rfl iW11 (by decide) 3 (by decide) rfl ha1 w2_196 dX11_line_1 ?_
  refine V_iload_n hc dX11_line_4 rfl 1 rfl ?_
  obtain ⟨v2, hv2, hf⟩ := mb hf
  obtain ⟨hkv2, hv2⟩ := og hv2
  refine C_callV hc hz (As := [.int p1]) hkv2 (by decide) (c10_knows l D y _ _ hv2) w3_222 w3_223 w3_224 w1_8 w3_225 hdX_X10_knows ⟨(Nat.le_of_ble_eq_true rfl), (Nat.le_of_ble_eq_true rfl)⟩ rfl rfl rfl (Nat.le_of_ble_eq_true rfl) dX11_line_5 ?_
  refine V_if_eq hc dX11_line_8 rfl (fun hq8 => ?_) (fun hq8 => ?_)
  · rw [if_pos hq8] at hf
    refine V_aload_n hc dX11_line_27 rfl 0 rfl ?_
    refine V_iconst hc (v := (3 : Int32)) dX11_line_28 rfl ?_
    obtain ⟨v3, S4, hv3, hf⟩ := mb2 hf
    obtain ⟨hkv3, hv3⟩ := og hv3
    refine C_callV hc hz (As := [.int (3 : Int32)]) hkv3 (by decide) (c11_refuseFlatly l D y _ _ hv3) w3_16 w3_18 wp1_1 w1_1 w3_19 hdX_X11_refuseFlatly ⟨(Nat.le_of_ble_eq_true rfl), (Nat.le_of_ble_eq_true rfl)⟩ rfl rfl rfl (Nat.le_of_ble_eq_true rfl) dX11_line_29 ?_
    obtain ⟨v5, hv5, hf⟩ := mb hf
    obtain ⟨hbv5, rfl⟩ := bz_some hv5
    obtain ⟨rfl, rfl⟩ := si2 hf
    exact V_iret hc hzz (bz_nar hbv5) rfl rfl rfl rfl dX11_line_32
  · rw [if_neg hq8] at hf
    refine V_aload_n hc dX11_line_11 rfl 0 rfl ?_
    obtain ⟨a6, ha6, hf⟩ := mb hf
    refine C_getr hc rfl iW11 (by decide) 3 (by decide) rfl ha6 w2_196 dX11_line_12 ?_
    obtain ⟨a7, ha7, hf⟩ := mb hf
    refine C_getr hc rfl iW10 (by decide) 3 (by decide) rfl ha7 w2_80 dX11_line_15 ?_
    refine V_iload_n hc dX11_line_18 rfl 1 rfl ?_
    obtain ⟨a8, ha8, hf⟩ := mb hf
    refine C_aald hc hT (by decide) (by decide) ha8 dX11_line_19 ?_
    obtain ⟨v9, hv9, hf⟩ := mb hf
    refine C_geti hc rfl iW1 (by decide) 14 (by decide) rfl hv9 w2_38 dX11_line_20 ?_
    refine V_iload_n hc dX11_line_23 rfl 2 rfl ?_
    refine V_icmp_ne hc dX11_line_24 rfl (fun hq24 => ?_) (fun hq24 => ?_)
    · rw [if_neg hq24] at hf
      refine V_aload_n hc dX11_line_33 rfl 0 rfl ?_
      obtain ⟨a10, ha10, hf⟩ := mb hf
      refine C_getr hc rfl iW11 (by decide) 5 (by decide) rfl ha10 w2_198 dX11_line_34 ?_
      refine V_aload_n hc dX11_line_37 rfl 0 rfl ?_
      obtain ⟨a11, ha11, hf⟩ := mb hf
      refine C_getr hc rfl iW11 (by decide) 3 (by decide) rfl ha11 w2_196 dX11_line_38 ?_
      obtain ⟨S12, hS12, hf⟩ := mb hf
      obtain ⟨hkS12, hS12⟩ := og hS12
      refine C_callV hc hz (As := [.ref a11]) hkS12 (by decide) (c2_keep l D y X hX hS12) w5_176 w5_177 w5_178 w1_11 w5_179 hdX_X2_keep ⟨(Nat.le_of_ble_eq_true rfl), (Nat.le_of_ble_eq_true rfl)⟩ rfl rfl rfl (Nat.le_of_ble_eq_true rfl) dX11_line_41 ?_
      refine V_aload_n hc dX11_line_44 rfl 0 rfl ?_
      obtain ⟨a13, ha13, hf⟩ := mb hf
      refine C_getr hc rfl iW11 (by decide) 3 (by decide) rfl ha13 w2_196 dX11_line_45 ?_
      obtain ⟨a14, ha14, hf⟩ := mb hf
      refine C_getr hc rfl iW10 (by decide) 3 (by decide) rfl ha14 w2_80 dX11_line_48 ?_
      refine V_iload_n hc dX11_line_51 rfl 1 rfl ?_
      obtain ⟨a15, ha15, hf⟩ := mb hf
      refine C_aald hc hT (by decide) (by decide) ha15 dX11_line_52 ?_
      refine V_iload_n hc dX11_line_53 rfl 2 rfl ?_
      obtain ⟨v16, hv16, hf⟩ := mb hf
      obtain ⟨hbv16, hev16⟩ := bz_some hv16
      subst hev16
      obtain ⟨S17, hS17, hf⟩ := mb hf
      refine C_puti hc rfl iW1 tyX1 tyX1_ok nmX1 (by decide) 14 (by decide) rfl hS17 w2_38 rfl (bz_nar hbv16) (bz_fits hbv16) dX11_line_54 ?_
      refine V_iconst hc (v := (1 : Int32)) dX11_line_57 rfl ?_
      obtain ⟨rfl, rfl⟩ := si2 hf
      exact V_iret hc hzz rfl rfl rfl rfl rfl dX11_line_58
    · rw [if_pos hq24] at hf
      refine V_aload_n hc dX11_line_27 rfl 0 rfl ?_
      refine V_iconst hc (v := (3 : Int32)) dX11_line_28 rfl ?_
      obtain ⟨v18, S19, hv18, hf⟩ := mb2 hf
      obtain ⟨hkv18, hv18⟩ := og hv18
      refine C_callV hc hz (As := [.int (3 : Int32)]) hkv18 (by decide) (c11_refuseFlatly l D y _ _ hv18) w3_16 w3_18 wp1_1 w1_1 w3_19 hdX_X11_refuseFlatly ⟨(Nat.le_of_ble_eq_true rfl), (Nat.le_of_ble_eq_true rfl)⟩ rfl rfl rfl (Nat.le_of_ble_eq_true rfl) dX11_line_29 ?_
      obtain ⟨v20, hv20, hf⟩ := mb hf
      obtain ⟨hbv20, rfl⟩ := bz_some hv20
      obtain ⟨rfl, rfl⟩ := si2 hf
      exact V_iret hc hzz (bz_nar hbv20) rfl rfl rfl rfl dX11_line_32
noncomputable def f11_delay (X : Nat × Nat) (S : CS) (h : Nat) (p1 : Int32) (p2 : Int32) : Option (Int32 × CS) :=
  (gr S 11 h 3).bind fun a1 =>
  (cal S 10 a1 (f10_knows S a1 p1)).bind fun v2 =>
  if v2 = 0 then (
    bn2 (cal S 11 h (f11_refuseFlatly S h (3 : Int32))) fun v3 S4 =>
    (bz v3).bind fun v5 =>
    some (v5, S4)
  ) else (
    if p2 < 0 then (
      bn2 (cal S 11 h (f11_refuseFlatly S h (3 : Int32))) fun v6 S7 =>
      (bz v6).bind fun v8 =>
      some (v8, S7)
    ) else (
      if (9 : Int32) < p2 then (
        bn2 (cal S 11 h (f11_refuseFlatly S h (3 : Int32))) fun v9 S10 =>
        (bz v9).bind fun v11 =>
        some (v11, S10)
      ) else (
        (gr S 11 h 3).bind fun a12 =>
        (gr S 10 a12 3).bind fun a13 =>
        (ldr S 16 a13 p1).bind fun a14 =>
        (gi S 1 a14 10).bind fun v15 =>
        if v15 = p2 then (
          bn2 (cal S 11 h (f11_refuseFlatly S h (3 : Int32))) fun v23 S24 =>
          (bz v23).bind fun v25 =>
          some (v25, S24)
        ) else (
          (gr S 11 h 5).bind fun a16 =>
          (gr S 11 h 3).bind fun a17 =>
          (cal S 2 a16 (f2_keep X S a16 a17)).bind fun S18 =>
          (gr S18 11 h 3).bind fun a19 =>
          (gr S18 10 a19 3).bind fun a20 =>
          (ldr S18 16 a20 p1).bind fun a21 =>
          (pi S18 1 a21 10 p2).bind fun S22 =>
          some ((1 : Int32), S22)
        )
      )
    )
  )
theorem hdX_X11_delay : yX11_delay.cls = "FarEditors" ∧ yX11_delay.cls ≠ "java/lang/invoke/MethodHandle" ∧ yX11_delay.cls ≠ "java/lang/invoke/VarHandle" ∧ (parseMethodDescriptor yX11_delay.desc).map (fun d => d.parameters.length) = some 2 := by decide +kernel
set_option maxHeartbeats 4000000 in
set_option maxRecDepth 100000 in
theorem c11_delay (l : Launch) (D : va_G) (y : CyT) (X : Nat × Nat) (hX : X.2 ≤ 100000000) {S S' : CS} {h : Nat} {p1 : Int32} {p2 : Int32} {r : Int32} (hf : f11_delay X S h p1 p2 = some (r, S')) : CT l D y yX11_delay cX11_delay 3 (some .boolean) 6 135 X.1 X.2 [.ref h, .int p1, .int p2] (cZ S) (cU S) (cw y S) (cZ S') (cU S') (cw y S') (some (.int r)) := by
  refine CT.of (by decide) (Nat.le_of_ble_eq_true rfl) (fun E hc hzz hnm => ?_)
  have hc : Cx E "FarEditors" cX11_delay 3 := hc
  have hz := hzz.1
  have hT := hz.2.2.1
  show V E (cZ S) (cU S) (cw y S) 0 [(0, .ref h), (1, .int p1), (2, .int p2)] []
  unfold f11_delay at hf
  refine V_aload_n hc dX11_delay_0 rfl 0 rfl ?_
  obtain ⟨a1, ha1, hf⟩ := mb hf
  refine C_getr hc rfl iW11 (by decide) 3 (by decide) rfl ha1 w2_196 dX11_delay_1 ?_
  refine V_iload_n hc dX11_delay_4 rfl 1 rfl ?_
  obtain ⟨v2, hv2, hf⟩ := mb hf
  obtain ⟨hkv2, hv2⟩ := og hv2
  refine C_callV hc hz (As := [.int p1]) hkv2 (by decide) (c10_knows l D y _ _ hv2) w3_222 w3_223 w3_224 w1_8 w3_225 hdX_X10_knows ⟨(Nat.le_of_ble_eq_true rfl), (Nat.le_of_ble_eq_true rfl)⟩ rfl rfl rfl (Nat.le_of_ble_eq_true rfl) dX11_delay_5 ?_
  refine V_if_eq hc dX11_delay_8 rfl (fun hq8 => ?_) (fun hq8 => ?_)
  · rw [if_pos hq8] at hf
    refine V_aload_n hc dX11_delay_37 rfl 0 rfl ?_
    refine V_iconst hc (v := (3 : Int32)) dX11_delay_38 rfl ?_
    obtain ⟨v3, S4, hv3, hf⟩ := mb2 hf
    obtain ⟨hkv3, hv3⟩ := og hv3
    refine C_callV hc hz (As := [.int (3 : Int32)]) hkv3 (by decide) (c11_refuseFlatly l D y _ _ hv3) w3_16 w3_18 wp1_1 w1_1 w3_19 hdX_X11_refuseFlatly ⟨(Nat.le_of_ble_eq_true rfl), (Nat.le_of_ble_eq_true rfl)⟩ rfl rfl rfl (Nat.le_of_ble_eq_true rfl) dX11_delay_39 ?_
    obtain ⟨v5, hv5, hf⟩ := mb hf
    obtain ⟨hbv5, rfl⟩ := bz_some hv5
    obtain ⟨rfl, rfl⟩ := si2 hf
    exact V_iret hc hzz (bz_nar hbv5) rfl rfl rfl rfl dX11_delay_42
  · rw [if_neg hq8] at hf
    refine V_iload_n hc dX11_delay_11 rfl 2 rfl ?_
    refine V_if_lt hc dX11_delay_12 rfl (fun hq12 => ?_) (fun hq12 => ?_)
    · rw [if_pos hq12] at hf
      refine V_aload_n hc dX11_delay_37 rfl 0 rfl ?_
      refine V_iconst hc (v := (3 : Int32)) dX11_delay_38 rfl ?_
      obtain ⟨v6, S7, hv6, hf⟩ := mb2 hf
      obtain ⟨hkv6, hv6⟩ := og hv6
      refine C_callV hc hz (As := [.int (3 : Int32)]) hkv6 (by decide) (c11_refuseFlatly l D y _ _ hv6) w3_16 w3_18 wp1_1 w1_1 w3_19 hdX_X11_refuseFlatly ⟨(Nat.le_of_ble_eq_true rfl), (Nat.le_of_ble_eq_true rfl)⟩ rfl rfl rfl (Nat.le_of_ble_eq_true rfl) dX11_delay_39 ?_
      obtain ⟨v8, hv8, hf⟩ := mb hf
      obtain ⟨hbv8, rfl⟩ := bz_some hv8
      obtain ⟨rfl, rfl⟩ := si2 hf
      exact V_iret hc hzz (bz_nar hbv8) rfl rfl rfl rfl dX11_delay_42
    · rw [if_neg hq12] at hf
      refine V_iload_n hc dX11_delay_15 rfl 2 rfl ?_
      refine V_bipush hc (v := (9 : Int32)) dX11_delay_16 rfl ?_
      refine V_icmp_gt hc dX11_delay_18 rfl (fun hq18 => ?_) (fun hq18 => ?_)
      · rw [if_pos hq18] at hf
        refine V_aload_n hc dX11_delay_37 rfl 0 rfl ?_
        refine V_iconst hc (v := (3 : Int32)) dX11_delay_38 rfl ?_
        obtain ⟨v9, S10, hv9, hf⟩ := mb2 hf
        obtain ⟨hkv9, hv9⟩ := og hv9
        refine C_callV hc hz (As := [.int (3 : Int32)]) hkv9 (by decide) (c11_refuseFlatly l D y _ _ hv9) w3_16 w3_18 wp1_1 w1_1 w3_19 hdX_X11_refuseFlatly ⟨(Nat.le_of_ble_eq_true rfl), (Nat.le_of_ble_eq_true rfl)⟩ rfl rfl rfl (Nat.le_of_ble_eq_true rfl) dX11_delay_39 ?_
        obtain ⟨v11, hv11, hf⟩ := mb hf
        obtain ⟨hbv11, rfl⟩ := bz_some hv11
        obtain ⟨rfl, rfl⟩ := si2 hf
        exact V_iret hc hzz (bz_nar hbv11) rfl rfl rfl rfl dX11_delay_42
      · rw [if_neg hq18] at hf
        refine V_aload_n hc dX11_delay_21 rfl 0 rfl ?_
        obtain ⟨a12, ha12, hf⟩ := mb hf
        refine C_getr hc rfl iW11 (by decide) 3 (by decide) rfl ha12 w2_196 dX11_delay_22 ?_
        obtain ⟨a13, ha13, hf⟩ := mb hf
        refine C_getr hc rfl iW10 (by decide) 3 (by decide) rfl ha13 w2_80 dX11_delay_25 ?_
        refine V_iload_n hc dX11_delay_28 rfl 1 rfl ?_
        obtain ⟨a14, ha14, hf⟩ := mb hf
        refine C_aald hc hT (by decide) (by decide) ha14 dX11_delay_29 ?_
        obtain ⟨v15, hv15, hf⟩ := mb hf
        refine C_geti hc rfl iW1 (by decide) 10 (by decide) rfl hv15 w2_25 dX11_delay_30 ?_
        refine V_iload_n hc dX11_delay_33 rfl 2 rfl ?_
        refine V_icmp_ne hc dX11_delay_34 rfl (fun hq34 => ?_) (fun hq34 => ?_)
        · rw [if_neg hq34] at hf
          refine V_aload_n hc dX11_delay_43 rfl 0 rfl ?_
          obtain ⟨a16, ha16, hf⟩ := mb hf
          refine C_getr hc rfl iW11 (by decide) 5 (by decide) rfl ha16 w2_198 dX11_delay_44 ?_
          refine V_aload_n hc dX11_delay_47 rfl 0 rfl ?_
          obtain ⟨a17, ha17, hf⟩ := mb hf
          refine C_getr hc rfl iW11 (by decide) 3 (by decide) rfl ha17 w2_196 dX11_delay_48 ?_
          obtain ⟨S18, hS18, hf⟩ := mb hf
          obtain ⟨hkS18, hS18⟩ := og hS18
          refine C_callV hc hz (As := [.ref a17]) hkS18 (by decide) (c2_keep l D y X hX hS18) w5_176 w5_177 w5_178 w1_11 w5_179 hdX_X2_keep ⟨(Nat.le_of_ble_eq_true rfl), (Nat.le_of_ble_eq_true rfl)⟩ rfl rfl rfl (Nat.le_of_ble_eq_true rfl) dX11_delay_51 ?_
          refine V_aload_n hc dX11_delay_54 rfl 0 rfl ?_
          obtain ⟨a19, ha19, hf⟩ := mb hf
          refine C_getr hc rfl iW11 (by decide) 3 (by decide) rfl ha19 w2_196 dX11_delay_55 ?_
          obtain ⟨a20, ha20, hf⟩ := mb hf
          refine C_getr hc rfl iW10 (by decide) 3 (by decide) rfl ha20 w2_80 dX11_delay_58 ?_
          refine V_iload_n hc dX11_delay_61 rfl 1 rfl ?_
          obtain ⟨a21, ha21, hf⟩ := mb hf
          refine C_aald hc hT (by decide) (by decide) ha21 dX11_delay_62 ?_
          refine V_iload_n hc dX11_delay_63 rfl 2 rfl ?_
          obtain ⟨S22, hS22, hf⟩ := mb hf
          refine C_puti hc rfl iW1 tyX1 tyX1_ok nmX1 (by decide) 10 (by decide) rfl hS22 w2_25 rfl rfl rfl dX11_delay_64 ?_
          refine V_iconst hc (v := (1 : Int32)) dX11_delay_67 rfl ?_
          obtain ⟨rfl, rfl⟩ := si2 hf
          exact V_iret hc hzz rfl rfl rfl rfl rfl dX11_delay_68
        · rw [if_pos hq34] at hf
          refine V_aload_n hc dX11_delay_37 rfl 0 rfl ?_
          refine V_iconst hc (v := (3 : Int32)) dX11_delay_38 rfl ?_
          obtain ⟨v23, S24, hv23, hf⟩ := mb2 hf
          obtain ⟨hkv23, hv23⟩ := og hv23
          refine C_callV hc hz (As := [.int (3 : Int32)]) hkv23 (by decide) (c11_refuseFlatly l D y _ _ hv23) w3_16 w3_18 wp1_1 w1_1 w3_19 hdX_X11_refuseFlatly ⟨(Nat.le_of_ble_eq_true rfl), (Nat.le_of_ble_eq_true rfl)⟩ rfl rfl rfl (Nat.le_of_ble_eq_true rfl) dX11_delay_39 ?_
          obtain ⟨v25, hv25, hf⟩ := mb hf
          obtain ⟨hbv25, rfl⟩ := bz_some hv25
          obtain ⟨rfl, rfl⟩ := si2 hf
          exact V_iret hc hzz (bz_nar hbv25) rfl rfl rfl rfl dX11_delay_42
noncomputable def LX11_ticks_38 (X : Nat × Nat) (h : Nat) (c1 : Int32) (c2 : Int32) : Nat → Int32 → CS → Option (CS)
  | 0, _, _ => none
  | n + 1, i3, S =>
    if c1 ≤ i3 then (
      some S
    ) else (
      (gr S 11 h 3).bind fun a1 =>
      (cal S 10 a1 (f10_runTick X S a1)).bind fun S2 =>
      LX11_ticks_38 X h c1 c2 n (i3 + (1 : Int32)) S2
    )
noncomputable def f11_ticks (X : Nat × Nat) (S : CS) (h : Nat) (p1 : Int32) : Option (Int32 × CS) :=
  (gr S 11 h 3).bind fun a1 =>
  (cal S 10 a1 (f10_canTick S a1 p1)).bind fun v2 =>
  if v2 = 0 then (
    bn2 (cal S 11 h (f11_refuse S h (4 : Int32))) fun v12 S13 =>
    some (v12, S13)
  ) else (
    (gr S 11 h 5).bind fun a3 =>
    (gr S 11 h 3).bind fun a4 =>
    (cal S 2 a3 (f2_keep X S a3 a4)).bind fun S5 =>
    (gr S5 11 h 3).bind fun a6 =>
    (gi S5 10 a6 11).bind fun v7 =>
    (LX11_ticks_38 X h p1 v7 FU (0 : Int32) S5).bind fun S8 =>
    (gr S8 11 h 3).bind fun a10 =>
    (gi S8 10 a10 11).bind fun v11 =>
    some ((v11 - v7), S8)
  )
theorem hdX_X11_ticks : yX11_ticks.cls = "FarEditors" ∧ yX11_ticks.cls ≠ "java/lang/invoke/MethodHandle" ∧ yX11_ticks.cls ≠ "java/lang/invoke/VarHandle" ∧ (parseMethodDescriptor yX11_ticks.desc).map (fun d => d.parameters.length) = some 1 := by decide +kernel
set_option maxHeartbeats 4000000 in
set_option maxRecDepth 100000 in
theorem LX11_ticks_38_ok {E : CxT} {l : Launch} {D : va_G} {y : CyT}  (hc : Cx E "FarEditors" cX11_ticks 4) (X : Nat × Nat) (h : Nat) (c1 : Int32) (c2 : Int32) (hz : Cy E l D y 6 140 X.1 X.2) (hX : X.2 ≤ 100000000) : ∀ (n : Nat) (i3 : Int32) (S : CS) {So : CS}, LX11_ticks_38 X h c1 c2 n i3 S = some So → (hx0 : V E (cZ So) (cU So) (cw y So) 56 [(0, .ref h), (2, .int c2)] []) → V E (cZ S) (cU S) (cw y S) 38 [(0, .ref h), (1, .int c1), (2, .int c2), (3, .int i3)] [] := by
  have hT := hz.2.2.1
  intro n
  induction n with
  | zero => intro i3 S So hf; cases hf
  | succ n ih =>
    intro i3 S So hf hx0
    unfold LX11_ticks_38 at hf
    refine V_iload_n hc dX11_ticks_38 rfl 3 rfl ?_
    refine V_iload_n hc dX11_ticks_39 rfl 1 rfl ?_
    refine V_icmp_ge hc dX11_ticks_40 rfl (fun hq40 => ?_) (fun hq40 => ?_)
    · rw [if_pos hq40] at hf
      obtain rfl := Option.some.inj hf
      exact V_sub [0, 2] rfl hx0
    · rw [if_neg hq40] at hf
      refine V_aload_n hc dX11_ticks_43 rfl 0 rfl ?_
      obtain ⟨a1, ha1, hf⟩ := mb hf
      refine C_getr hc rfl iW11 (by decide) 3 (by decide) rfl ha1 w2_196 dX11_ticks_44 ?_
      obtain ⟨S2, hS2, hf⟩ := mb hf
      obtain ⟨hkS2, hS2⟩ := og hS2
      refine C_callV hc hz (As := []) hkS2 (by decide) (c10_runTick l D y X hX hS2) w3_234 w3_235 w3_236 w1_8 w3_237 hdX_X10_runTick ⟨(Nat.le_of_ble_eq_true rfl), (Nat.le_of_ble_eq_true rfl)⟩ rfl rfl rfl (Nat.le_of_ble_eq_true rfl) dX11_ticks_47 ?_
      refine V_iinc hc (j := 3) (v := (i3 + (1 : Int32))) dX11_ticks_50 rfl rfl (by decide) rfl ?_
      refine V_goto hc dX11_ticks_53 rfl ?_
      exact V_sub [1, 2, 3, 0] rfl (ih _ _ hf hx0)
set_option maxHeartbeats 4000000 in
set_option maxRecDepth 100000 in
theorem c11_ticks (l : Launch) (D : va_G) (y : CyT) (X : Nat × Nat) (hX : X.2 ≤ 100000000) {S S' : CS} {h : Nat} {p1 : Int32} {r : Int32} (hf : f11_ticks X S h p1 = some (r, S')) : CT l D y yX11_ticks cX11_ticks 4 (some .int) 6 140 X.1 X.2 [.ref h, .int p1] (cZ S) (cU S) (cw y S) (cZ S') (cU S') (cw y S') (some (.int r)) := by
  refine CT.of (by decide) (Nat.le_of_ble_eq_true rfl) (fun E hc hzz hnm => ?_)
  have hc : Cx E "FarEditors" cX11_ticks 4 := hc
  have hz := hzz.1
  have hT := hz.2.2.1
  show V E (cZ S) (cU S) (cw y S) 0 [(0, .ref h), (1, .int p1)] []
  unfold f11_ticks at hf
  refine V_aload_n hc dX11_ticks_0 rfl 0 rfl ?_
  obtain ⟨a1, ha1, hf⟩ := mb hf
  refine C_getr hc rfl iW11 (by decide) 3 (by decide) rfl ha1 w2_196 dX11_ticks_1 ?_
  refine V_iload_n hc dX11_ticks_4 rfl 1 rfl ?_
  obtain ⟨v2, hv2, hf⟩ := mb hf
  obtain ⟨hkv2, hv2⟩ := og hv2
  refine C_callV hc hz (As := [.int p1]) hkv2 (by decide) (c10_canTick l D y _ _ hv2) w3_230 w3_231 w3_232 w1_8 w3_233 hdX_X10_canTick ⟨(Nat.le_of_ble_eq_true rfl), (Nat.le_of_ble_eq_true rfl)⟩ rfl rfl rfl (Nat.le_of_ble_eq_true rfl) dX11_ticks_5 ?_
  refine V_if_ne hc dX11_ticks_8 rfl (fun hq8 => ?_) (fun hq8 => ?_)
  · rw [if_neg hq8] at hf
    refine V_aload_n hc dX11_ticks_17 rfl 0 rfl ?_
    obtain ⟨a3, ha3, hf⟩ := mb hf
    refine C_getr hc rfl iW11 (by decide) 5 (by decide) rfl ha3 w2_198 dX11_ticks_18 ?_
    refine V_aload_n hc dX11_ticks_21 rfl 0 rfl ?_
    obtain ⟨a4, ha4, hf⟩ := mb hf
    refine C_getr hc rfl iW11 (by decide) 3 (by decide) rfl ha4 w2_196 dX11_ticks_22 ?_
    obtain ⟨S5, hS5, hf⟩ := mb hf
    obtain ⟨hkS5, hS5⟩ := og hS5
    refine C_callV hc hz (As := [.ref a4]) hkS5 (by decide) (c2_keep l D y X hX hS5) w5_176 w5_177 w5_178 w1_11 w5_179 hdX_X2_keep ⟨(Nat.le_of_ble_eq_true rfl), (Nat.le_of_ble_eq_true rfl)⟩ rfl rfl rfl (Nat.le_of_ble_eq_true rfl) dX11_ticks_25 ?_
    refine V_aload_n hc dX11_ticks_28 rfl 0 rfl ?_
    obtain ⟨a6, ha6, hf⟩ := mb hf
    refine C_getr hc rfl iW11 (by decide) 3 (by decide) rfl ha6 w2_196 dX11_ticks_29 ?_
    obtain ⟨v7, hv7, hf⟩ := mb hf
    refine C_geti hc rfl iW10 (by decide) 11 (by decide) rfl hv7 w2_96 dX11_ticks_32 ?_
    refine V_istore_n hc dX11_ticks_35 rfl (by decide) rfl ?_
    refine V_iconst hc (v := (0 : Int32)) dX11_ticks_36 rfl ?_
    refine V_istore_n hc dX11_ticks_37 rfl (by decide) rfl ?_
    obtain ⟨S8, hv9, hf⟩ := mb hf
    refine V_sub [2, 3, 1, 0] rfl (LX11_ticks_38_ok hc X h p1 v7 hz hX FU _ _ hv9 ?_)
    refine V_aload_n hc dX11_ticks_56 rfl 0 rfl ?_
    obtain ⟨a10, ha10, hf⟩ := mb hf
    refine C_getr hc rfl iW11 (by decide) 3 (by decide) rfl ha10 w2_196 dX11_ticks_57 ?_
    obtain ⟨v11, hv11, hf⟩ := mb hf
    refine C_geti hc rfl iW10 (by decide) 11 (by decide) rfl hv11 w2_96 dX11_ticks_60 ?_
    refine V_iload_n hc dX11_ticks_63 rfl 1 rfl ?_
    refine V_isub hc dX11_ticks_64 ?_
    obtain ⟨rfl, rfl⟩ := si2 hf
    exact V_iret hc hzz rfl rfl rfl rfl rfl dX11_ticks_65
  · rw [if_pos hq8] at hf
    refine V_aload_n hc dX11_ticks_11 rfl 0 rfl ?_
    refine V_iconst hc (v := (4 : Int32)) dX11_ticks_12 rfl ?_
    obtain ⟨v12, S13, hv12, hf⟩ := mb2 hf
    obtain ⟨hkv12, hv12⟩ := og hv12
    refine C_callV hc hz (As := [.int (4 : Int32)]) hkv12 (by decide) (c11_refuse l D y _ _ hv12) w3_4 w3_6 wp1_0 w1_1 w3_7 hdX_X11_refuse ⟨(Nat.le_of_ble_eq_true rfl), (Nat.le_of_ble_eq_true rfl)⟩ rfl rfl rfl (Nat.le_of_ble_eq_true rfl) dX11_ticks_13 ?_
    obtain ⟨rfl, rfl⟩ := si2 hf
    exact V_iret hc hzz rfl rfl rfl rfl rfl dX11_ticks_16
noncomputable def f11_draw (S : CS) (h : Nat) (p1 : Int32) : Option (Int32 × CS) :=
  (gi S 11 h 13).bind fun v1 =>
  (pi S 11 h 13 ((((1103515245 : Int64) * v1.toInt64) + (12345 : Int64)) &&& (2147483647 : Int64)).toInt32).bind fun S2 =>
  (
    if p1 ≤ 0 then (
      some (0 : Int32)
    ) else (
      if p1.toInt64 = 0 then none else
      some ((((((1103515245 : Int64) * v1.toInt64) + (12345 : Int64)) &&& (2147483647 : Int64)) / (64 : Int64)) - (((((1103515245 : Int64) * v1.toInt64) + (12345 : Int64)) &&& (2147483647 : Int64)) / (64 : Int64)) / p1.toInt64 * p1.toInt64).toInt32
    )
  ).bind fun v3 =>
  some (v3, S2)
theorem hdX_X11_draw : yX11_draw.cls = "FarEditors" ∧ yX11_draw.cls ≠ "java/lang/invoke/MethodHandle" ∧ yX11_draw.cls ≠ "java/lang/invoke/VarHandle" ∧ (parseMethodDescriptor yX11_draw.desc).map (fun d => d.parameters.length) = some 1 := by decide +kernel
set_option maxHeartbeats 4000000 in
set_option maxRecDepth 100000 in
theorem c11_draw (l : Launch) (D : va_G) (y : CyT) (zM uM : Nat) {S S' : CS} {h : Nat} {p1 : Int32} {r : Int32} (hf : f11_draw S h p1 = some (r, S')) : CT l D y yX11_draw cX11_draw 4 (some .int) 0 0 zM uM [.ref h, .int p1] (cZ S) (cU S) (cw y S) (cZ S') (cU S') (cw y S') (some (.int r)) := by
  refine CT.of (by decide) (Nat.le_of_ble_eq_true rfl) (fun E hc hzz hnm => ?_)
  have hc : Cx E "FarEditors" cX11_draw 4 := hc
  have hz := hzz.1
  have hT := hz.2.2.1
  show V E (cZ S) (cU S) (cw y S) 0 [(0, .ref h), (1, .int p1)] []
  unfold f11_draw at hf
  refine V_ldc2 hc w6_31 dX11_draw_0 ?_
  refine V_aload_n hc dX11_draw_3 rfl 0 rfl ?_
  obtain ⟨v1, hv1, hf⟩ := mb hf
  refine C_geti hc rfl iW11 (by decide) 13 (by decide) rfl hv1 w2_206 dX11_draw_4 ?_
  refine V_i2l hc dX11_draw_7 ?_
  refine V_lmul hc dX11_draw_8 ?_
  refine V_ldc2 hc w6_32 dX11_draw_9 ?_
  refine V_ladd hc dX11_draw_12 ?_
  refine V_ldc2 hc w6_33 dX11_draw_13 ?_
  refine V_land hc dX11_draw_16 ?_
  refine V_lstore_n hc dX11_draw_17 rfl (by decide) rfl ?_
  refine V_aload_n hc dX11_draw_18 rfl 1 rfl ?_
  refine V_lload_n hc dX11_draw_19 rfl 0 rfl ?_
  refine V_l2i hc dX11_draw_20 ?_
  obtain ⟨S2, hS2, hf⟩ := mb hf
  refine C_puti hc rfl iW11 tyX11 tyX11_ok nmX11 (by decide) 13 (by decide) rfl hS2 w2_206 rfl rfl rfl dX11_draw_21 ?_
  refine V_iload_n hc dX11_draw_24 rfl 2 rfl ?_
  obtain ⟨v3, hv4, hf⟩ := mb hf
  have hJ25 : V E (cZ S2) (cU S2) (cw y S2) 41 [] [.int v3] := by
    obtain ⟨rfl, rfl⟩ := si2 hf
    exact V_iret hc hzz rfl rfl rfl rfl rfl dX11_draw_41
  refine V_if_le hc dX11_draw_25 rfl (fun hq25 => ?_) (fun hq25 => ?_)
  · rw [if_pos hq25] at hv4
    refine V_iconst hc (v := (0 : Int32)) dX11_draw_40 rfl ?_
    obtain rfl := Option.some.inj hv4
    exact V_sub [] rfl hJ25
  · rw [if_neg hq25] at hv4
    refine V_lload_n hc dX11_draw_28 rfl 0 rfl ?_
    refine V_ldc2 hc w6_34 dX11_draw_29 ?_
    refine V_ldiv hc dX11_draw_32 (by decide) ?_
    refine V_iload_n hc dX11_draw_33 rfl 2 rfl ?_
    refine V_i2l hc dX11_draw_34 ?_
    have hn5 : ¬ p1.toInt64 = 0 := fun hh => by rw [if_pos hh] at hv4; cases hv4
    rw [if_neg hn5] at hv4
    refine V_lrem hc dX11_draw_35 hn5 ?_
    refine V_l2i hc dX11_draw_36 ?_
    refine V_goto hc dX11_draw_37 rfl ?_
    obtain rfl := Option.some.inj hv4
    exact V_sub [] rfl hJ25
noncomputable def f11_changeBySeed (X : Nat × Nat) (S : CS) (h : Nat) : Option (CS) :=
  bn2 (cal S 11 h (f11_draw S h (4 : Int32))) fun v1 S2 =>
  if v1 = (3 : Int32) then (
    (gr S2 11 h 3).bind fun a40 =>
    (cal S2 10 a40 (f10_canTick S2 a40 (1 : Int32))).bind fun v41 =>
    (
      if v41 = 0 then (
        some S2
      ) else (
        (gr S2 11 h 3).bind fun a44 =>
        (cal S2 10 a44 (f10_runTick X S2 a44)).bind fun S45 =>
        some S45
      )
    ).bind fun S42 =>
    some S42
  ) else (
    (gr S2 11 h 3).bind fun a3 =>
    (gi S2 10 a3 6).bind fun v4 =>
    bn2 (cal S2 11 h (f11_draw S2 h v4)) fun v5 S6 =>
    (gr S6 11 h 3).bind fun a7 =>
    (cal S6 10 a7 (f10_knows S6 a7 v5)).bind fun v8 =>
    if v8 = 0 then (
      some S6
    ) else (
      (gr S6 11 h 3).bind fun a9 =>
      (gr S6 10 a9 3).bind fun a10 =>
      (ldr S6 16 a10 v5).bind fun a11 =>
      (gr S6 1 a11 0).bind fun a12 =>
      (gi S6 7 a12 1).bind fun v13 =>
      if (2 : Int32) ≤ v1 then (
        if v13 ≤ 0 then (
          some S6
        ) else (
          (gr S6 11 h 7).bind fun a14 =>
          bn2 (cal S6 11 h (f11_draw S6 h v13)) fun v15 S16 =>
          (cal S16 4 a14 (f4_buildCut X S16 a14 v15 (1 : Int32) v13)).bind fun S17 =>
          (gr S17 11 h 3).bind fun a18 =>
          (gr S17 11 h 7).bind fun a19 =>
          (cal S17 10 a18 (f10_canEdit S17 a18 a19)).bind fun v20 =>
          (
            if v20 = 0 then (
              some S17
            ) else (
              (gr S17 11 h 3).bind fun a23 =>
              (gr S17 11 h 7).bind fun a24 =>
              (cal S17 10 a23 (f10_editPlainly X S17 a23 a11 a24)).bind fun S25 =>
              some S25
            )
          ).bind fun S21 =>
          some S21
        )
      ) else (
        bn2 (cal S6 11 h (f11_draw S6 h (v13 + (1 : Int32)))) fun v26 S27 =>
        (gr S27 11 h 7).bind fun a28 =>
        bn2 (cal S27 11 h (f11_draw S27 h (26 : Int32))) fun v29 S30 =>
        (cal S30 4 a28 (f4_buildPut X S30 a28 v26 (v29 + (1 : Int32)) v13)).bind fun S31 =>
        (gr S31 11 h 3).bind fun a32 =>
        (gr S31 11 h 7).bind fun a33 =>
        (cal S31 10 a32 (f10_canEdit S31 a32 a33)).bind fun v34 =>
        (
          if v34 = 0 then (
            some S31
          ) else (
            (gr S31 11 h 3).bind fun a37 =>
            (gr S31 11 h 7).bind fun a38 =>
            (cal S31 10 a37 (f10_editPlainly X S31 a37 a11 a38)).bind fun S39 =>
            some S39
          )
        ).bind fun S35 =>
        some S35
      )
    )
  )
theorem hdX_X11_changeBySeed : yX11_changeBySeed.cls = "FarEditors" ∧ yX11_changeBySeed.cls ≠ "java/lang/invoke/MethodHandle" ∧ yX11_changeBySeed.cls ≠ "java/lang/invoke/VarHandle" ∧ (parseMethodDescriptor yX11_changeBySeed.desc).map (fun d => d.parameters.length) = some 0 := by decide +kernel
set_option maxHeartbeats 4000000 in
set_option maxRecDepth 100000 in
theorem c11_changeBySeed (l : Launch) (D : va_G) (y : CyT) (X : Nat × Nat) (hX : X.2 ≤ 100000000) {S S' : CS} {h : Nat} (hf : f11_changeBySeed X S h = some S') : CT l D y yX11_changeBySeed cX11_changeBySeed 6 none 6 140 X.1 X.2 [.ref h] (cZ S) (cU S) (cw y S) (cZ S') (cU S') (cw y S') none := by
  refine CT.of (by decide) (Nat.le_of_ble_eq_true rfl) (fun E hc hzz hnm => ?_)
  have hc : Cx E "FarEditors" cX11_changeBySeed 6 := hc
  have hz := hzz.1
  have hT := hz.2.2.1
  show V E (cZ S) (cU S) (cw y S) 0 [(0, .ref h)] []
  unfold f11_changeBySeed at hf
  refine V_aload_n hc dX11_changeBySeed_0 rfl 0 rfl ?_
  refine V_iconst hc (v := (4 : Int32)) dX11_changeBySeed_1 rfl ?_
  obtain ⟨v1, S2, hv1, hf⟩ := mb2 hf
  obtain ⟨hkv1, hv1⟩ := og hv1
  refine C_callV hc hz (As := [.int (4 : Int32)]) hkv1 (by decide) (c11_draw l D y _ _ hv1) w6_27 w6_29 wp3_14 w1_1 w6_30 hdX_X11_draw ⟨(Nat.le_of_ble_eq_true rfl), (Nat.le_of_ble_eq_true rfl)⟩ rfl rfl rfl (Nat.le_of_ble_eq_true rfl) dX11_changeBySeed_2 ?_
  refine V_istore_n hc dX11_changeBySeed_5 rfl (by decide) rfl ?_
  refine V_iload_n hc dX11_changeBySeed_6 rfl 0 rfl ?_
  refine V_iconst hc (v := (3 : Int32)) dX11_changeBySeed_7 rfl ?_
  refine V_icmp_ne hc dX11_changeBySeed_8 rfl (fun hq8 => ?_) (fun hq8 => ?_)
  · rw [if_neg hq8] at hf
    refine V_aload_n hc dX11_changeBySeed_30 rfl 1 rfl ?_
    refine V_aload_n hc dX11_changeBySeed_31 rfl 1 rfl ?_
    obtain ⟨a3, ha3, hf⟩ := mb hf
    refine C_getr hc rfl iW11 (by decide) 3 (by decide) rfl ha3 w2_196 dX11_changeBySeed_32 ?_
    obtain ⟨v4, hv4, hf⟩ := mb hf
    refine C_geti hc rfl iW10 (by decide) 6 (by decide) rfl hv4 w2_86 dX11_changeBySeed_35 ?_
    obtain ⟨v5, S6, hv5, hf⟩ := mb2 hf
    obtain ⟨hkv5, hv5⟩ := og hv5
    refine C_callV hc hz (As := [.int v4]) hkv5 (by decide) (c11_draw l D y _ _ hv5) w6_27 w6_29 wp3_14 w1_1 w6_30 hdX_X11_draw ⟨(Nat.le_of_ble_eq_true rfl), (Nat.le_of_ble_eq_true rfl)⟩ rfl rfl rfl (Nat.le_of_ble_eq_true rfl) dX11_changeBySeed_38 ?_
    refine V_istore_n hc dX11_changeBySeed_41 rfl (by decide) rfl ?_
    refine V_aload_n hc dX11_changeBySeed_42 rfl 2 rfl ?_
    obtain ⟨a7, ha7, hf⟩ := mb hf
    refine C_getr hc rfl iW11 (by decide) 3 (by decide) rfl ha7 w2_196 dX11_changeBySeed_43 ?_
    refine V_iload_n hc dX11_changeBySeed_46 rfl 0 rfl ?_
    obtain ⟨v8, hv8, hf⟩ := mb hf
    obtain ⟨hkv8, hv8⟩ := og hv8
    refine C_callV hc hz (As := [.int v5]) hkv8 (by decide) (c10_knows l D y _ _ hv8) w3_222 w3_223 w3_224 w1_8 w3_225 hdX_X10_knows ⟨(Nat.le_of_ble_eq_true rfl), (Nat.le_of_ble_eq_true rfl)⟩ rfl rfl rfl (Nat.le_of_ble_eq_true rfl) dX11_changeBySeed_47 ?_
    refine V_if_ne hc dX11_changeBySeed_50 rfl (fun hq50 => ?_) (fun hq50 => ?_)
    · rw [if_neg hq50] at hf
      refine V_aload_n hc dX11_changeBySeed_54 rfl 2 rfl ?_
      obtain ⟨a9, ha9, hf⟩ := mb hf
      refine C_getr hc rfl iW11 (by decide) 3 (by decide) rfl ha9 w2_196 dX11_changeBySeed_55 ?_
      obtain ⟨a10, ha10, hf⟩ := mb hf
      refine C_getr hc rfl iW10 (by decide) 3 (by decide) rfl ha10 w2_80 dX11_changeBySeed_58 ?_
      refine V_iload_n hc dX11_changeBySeed_61 rfl 0 rfl ?_
      obtain ⟨a11, ha11, hf⟩ := mb hf
      refine C_aald hc hT (by decide) (by decide) ha11 dX11_changeBySeed_62 ?_
      refine V_astore_n hc dX11_changeBySeed_63 rfl (by decide) rfl ?_
      refine V_aload_n hc dX11_changeBySeed_64 rfl 0 rfl ?_
      obtain ⟨a12, ha12, hf⟩ := mb hf
      refine C_getr hc rfl iW1 (by decide) 0 (by decide) rfl ha12 w1_238 dX11_changeBySeed_65 ?_
      obtain ⟨v13, hv13, hf⟩ := mb hf
      refine C_geti hc rfl iW7 (by decide) 1 (by decide) rfl hv13 w1_170 dX11_changeBySeed_68 ?_
      refine V_istore hc dX11_changeBySeed_71 (by decide) rfl ?_
      refine V_iload_n hc dX11_changeBySeed_73 rfl 3 rfl ?_
      refine V_iconst hc (v := (2 : Int32)) dX11_changeBySeed_74 rfl ?_
      refine V_icmp_ge hc dX11_changeBySeed_75 rfl (fun hq75 => ?_) (fun hq75 => ?_)
      · rw [if_pos hq75] at hf
        refine V_iload hc dX11_changeBySeed_110 0 rfl ?_
        refine V_if_le hc dX11_changeBySeed_112 rfl (fun hq112 => ?_) (fun hq112 => ?_)
        · rw [if_pos hq112] at hf
          obtain rfl := Option.some.inj hf
          exact V_vret hc hzz rfl rfl rfl rfl dX11_changeBySeed_134
        · rw [if_neg hq112] at hf
          refine V_aload_n hc dX11_changeBySeed_115 rfl 4 rfl ?_
          obtain ⟨a14, ha14, hf⟩ := mb hf
          refine C_getr hc rfl iW11 (by decide) 7 (by decide) rfl ha14 w2_200 dX11_changeBySeed_116 ?_
          refine V_aload_n hc dX11_changeBySeed_119 rfl 4 rfl ?_
          refine V_iload hc dX11_changeBySeed_120 0 rfl ?_
          obtain ⟨v15, S16, hv15, hf⟩ := mb2 hf
          obtain ⟨hkv15, hv15⟩ := og hv15
          refine C_callV hc hz (As := [.int v13]) hkv15 (by decide) (c11_draw l D y _ _ hv15) w6_27 w6_29 wp3_14 w1_1 w6_30 hdX_X11_draw ⟨(Nat.le_of_ble_eq_true rfl), (Nat.le_of_ble_eq_true rfl)⟩ rfl rfl rfl (Nat.le_of_ble_eq_true rfl) dX11_changeBySeed_122 ?_
          refine V_iconst hc (v := (1 : Int32)) dX11_changeBySeed_125 rfl ?_
          refine V_iload hc dX11_changeBySeed_126 0 rfl ?_
          obtain ⟨S17, hS17, hf⟩ := mb hf
          obtain ⟨hkS17, hS17⟩ := og hS17
          refine C_callV hc hz (As := [.int v15, .int (1 : Int32), .int v13]) hkS17 (by decide) (c4_buildCut l D y X hX hS17) w5_202 w5_203 w5_204 w1_5 w5_205 hdX_X4_buildCut ⟨(Nat.le_of_ble_eq_true rfl), (Nat.le_of_ble_eq_true rfl)⟩ rfl rfl rfl (Nat.le_of_ble_eq_true rfl) dX11_changeBySeed_128 ?_
          refine V_goto hc dX11_changeBySeed_131 rfl ?_
          refine V_aload_n hc dX11_changeBySeed_135 rfl 4 rfl ?_
          obtain ⟨a18, ha18, hf⟩ := mb hf
          refine C_getr hc rfl iW11 (by decide) 3 (by decide) rfl ha18 w2_196 dX11_changeBySeed_136 ?_
          refine V_aload_n hc dX11_changeBySeed_139 rfl 4 rfl ?_
          obtain ⟨a19, ha19, hf⟩ := mb hf
          refine C_getr hc rfl iW11 (by decide) 7 (by decide) rfl ha19 w2_200 dX11_changeBySeed_140 ?_
          obtain ⟨v20, hv20, hf⟩ := mb hf
          obtain ⟨hkv20, hv20⟩ := og hv20
          refine C_callV hc hz (As := [.ref a19]) hkv20 (by decide) (c10_canEdit l D y _ _ hv20) w4_130 w4_131 w4_132 w1_8 w4_133 hdX_X10_canEdit ⟨(Nat.le_of_ble_eq_true rfl), (Nat.le_of_ble_eq_true rfl)⟩ rfl rfl rfl (Nat.le_of_ble_eq_true rfl) dX11_changeBySeed_143 ?_
          obtain ⟨S21, hv22, hf⟩ := mb hf
          have hJ146 : V E (cZ S21) (cU S21) (cw y S21) 161 [] [] := by
            obtain rfl := Option.some.inj hf
            exact V_vret hc hzz rfl rfl rfl rfl dX11_changeBySeed_161
          refine V_if_eq hc dX11_changeBySeed_146 rfl (fun hq146 => ?_) (fun hq146 => ?_)
          · rw [if_pos hq146] at hv22
            obtain rfl := Option.some.inj hv22
            exact V_sub [] rfl hJ146
          · rw [if_neg hq146] at hv22
            refine V_aload_n hc dX11_changeBySeed_149 rfl 4 rfl ?_
            obtain ⟨a23, ha23, hv22⟩ := mb hv22
            refine C_getr hc rfl iW11 (by decide) 3 (by decide) rfl ha23 w2_196 dX11_changeBySeed_150 ?_
            refine V_aload_n hc dX11_changeBySeed_153 rfl 1 rfl ?_
            refine V_aload_n hc dX11_changeBySeed_154 rfl 4 rfl ?_
            obtain ⟨a24, ha24, hv22⟩ := mb hv22
            refine C_getr hc rfl iW11 (by decide) 7 (by decide) rfl ha24 w2_200 dX11_changeBySeed_155 ?_
            obtain ⟨S25, hS25, hv22⟩ := mb hv22
            obtain ⟨hkS25, hS25⟩ := og hS25
            refine C_callV hc hz (As := [.ref a11, .ref a24]) hkS25 (by decide) (c10_editPlainly l D y X hX hS25) w4_142 w4_143 w4_144 w1_8 w4_145 hdX_X10_editPlainly ⟨(Nat.le_of_ble_eq_true rfl), (Nat.le_of_ble_eq_true rfl)⟩ rfl rfl rfl (Nat.le_of_ble_eq_true rfl) dX11_changeBySeed_158 ?_
            obtain rfl := Option.some.inj hv22
            exact V_sub [] rfl hJ146
      · rw [if_neg hq75] at hf
        refine V_aload_n hc dX11_changeBySeed_78 rfl 4 rfl ?_
        refine V_iload hc dX11_changeBySeed_79 0 rfl ?_
        refine V_iconst hc (v := (1 : Int32)) dX11_changeBySeed_81 rfl ?_
        refine V_iadd hc dX11_changeBySeed_82 ?_
        obtain ⟨v26, S27, hv26, hf⟩ := mb2 hf
        obtain ⟨hkv26, hv26⟩ := og hv26
        refine C_callV hc hz (As := [.int (v13 + (1 : Int32))]) hkv26 (by decide) (c11_draw l D y _ _ hv26) w6_27 w6_29 wp3_14 w1_1 w6_30 hdX_X11_draw ⟨(Nat.le_of_ble_eq_true rfl), (Nat.le_of_ble_eq_true rfl)⟩ rfl rfl rfl (Nat.le_of_ble_eq_true rfl) dX11_changeBySeed_83 ?_
        refine V_istore hc dX11_changeBySeed_86 (by decide) rfl ?_
        refine V_aload_n hc dX11_changeBySeed_88 rfl 5 rfl ?_
        obtain ⟨a28, ha28, hf⟩ := mb hf
        refine C_getr hc rfl iW11 (by decide) 7 (by decide) rfl ha28 w2_200 dX11_changeBySeed_89 ?_
        refine V_iload hc dX11_changeBySeed_92 0 rfl ?_
        refine V_aload_n hc dX11_changeBySeed_94 rfl 5 rfl ?_
        refine V_bipush hc (v := (26 : Int32)) dX11_changeBySeed_95 rfl ?_
        obtain ⟨v29, S30, hv29, hf⟩ := mb2 hf
        obtain ⟨hkv29, hv29⟩ := og hv29
        refine C_callV hc hz (As := [.int (26 : Int32)]) hkv29 (by decide) (c11_draw l D y _ _ hv29) w6_27 w6_29 wp3_14 w1_1 w6_30 hdX_X11_draw ⟨(Nat.le_of_ble_eq_true rfl), (Nat.le_of_ble_eq_true rfl)⟩ rfl rfl rfl (Nat.le_of_ble_eq_true rfl) dX11_changeBySeed_97 ?_
        refine V_iconst hc (v := (1 : Int32)) dX11_changeBySeed_100 rfl ?_
        refine V_iadd hc dX11_changeBySeed_101 ?_
        refine V_iload hc dX11_changeBySeed_102 1 rfl ?_
        obtain ⟨S31, hS31, hf⟩ := mb hf
        obtain ⟨hkS31, hS31⟩ := og hS31
        refine C_callV hc hz (As := [.int v26, .int (v29 + (1 : Int32)), .int v13]) hkS31 (by decide) (c4_buildPut l D y X hX hS31) w5_190 w5_191 w5_192 w1_5 w5_193 hdX_X4_buildPut ⟨(Nat.le_of_ble_eq_true rfl), (Nat.le_of_ble_eq_true rfl)⟩ rfl rfl rfl (Nat.le_of_ble_eq_true rfl) dX11_changeBySeed_104 ?_
        refine V_goto hc dX11_changeBySeed_107 rfl ?_
        refine V_aload_n hc dX11_changeBySeed_135 rfl 5 rfl ?_
        obtain ⟨a32, ha32, hf⟩ := mb hf
        refine C_getr hc rfl iW11 (by decide) 3 (by decide) rfl ha32 w2_196 dX11_changeBySeed_136 ?_
        refine V_aload_n hc dX11_changeBySeed_139 rfl 5 rfl ?_
        obtain ⟨a33, ha33, hf⟩ := mb hf
        refine C_getr hc rfl iW11 (by decide) 7 (by decide) rfl ha33 w2_200 dX11_changeBySeed_140 ?_
        obtain ⟨v34, hv34, hf⟩ := mb hf
        obtain ⟨hkv34, hv34⟩ := og hv34
        refine C_callV hc hz (As := [.ref a33]) hkv34 (by decide) (c10_canEdit l D y _ _ hv34) w4_130 w4_131 w4_132 w1_8 w4_133 hdX_X10_canEdit ⟨(Nat.le_of_ble_eq_true rfl), (Nat.le_of_ble_eq_true rfl)⟩ rfl rfl rfl (Nat.le_of_ble_eq_true rfl) dX11_changeBySeed_143 ?_
        obtain ⟨S35, hv36, hf⟩ := mb hf
        have hJ146 : V E (cZ S35) (cU S35) (cw y S35) 161 [] [] := by
          obtain rfl := Option.some.inj hf
          exact V_vret hc hzz rfl rfl rfl rfl dX11_changeBySeed_161
        refine V_if_eq hc dX11_changeBySeed_146 rfl (fun hq146 => ?_) (fun hq146 => ?_)
        · rw [if_pos hq146] at hv36
          obtain rfl := Option.some.inj hv36
          exact V_sub [] rfl hJ146
        · rw [if_neg hq146] at hv36
          refine V_aload_n hc dX11_changeBySeed_149 rfl 5 rfl ?_
          obtain ⟨a37, ha37, hv36⟩ := mb hv36
          refine C_getr hc rfl iW11 (by decide) 3 (by decide) rfl ha37 w2_196 dX11_changeBySeed_150 ?_
          refine V_aload_n hc dX11_changeBySeed_153 rfl 2 rfl ?_
          refine V_aload_n hc dX11_changeBySeed_154 rfl 5 rfl ?_
          obtain ⟨a38, ha38, hv36⟩ := mb hv36
          refine C_getr hc rfl iW11 (by decide) 7 (by decide) rfl ha38 w2_200 dX11_changeBySeed_155 ?_
          obtain ⟨S39, hS39, hv36⟩ := mb hv36
          obtain ⟨hkS39, hS39⟩ := og hS39
          refine C_callV hc hz (As := [.ref a11, .ref a38]) hkS39 (by decide) (c10_editPlainly l D y X hX hS39) w4_142 w4_143 w4_144 w1_8 w4_145 hdX_X10_editPlainly ⟨(Nat.le_of_ble_eq_true rfl), (Nat.le_of_ble_eq_true rfl)⟩ rfl rfl rfl (Nat.le_of_ble_eq_true rfl) dX11_changeBySeed_158 ?_
          obtain rfl := Option.some.inj hv36
          exact V_sub [] rfl hJ146
    · rw [if_pos hq50] at hf
      obtain rfl := Option.some.inj hf
      exact V_vret hc hzz rfl rfl rfl rfl dX11_changeBySeed_53
  · rw [if_pos hq8] at hf
    refine V_aload_n hc dX11_changeBySeed_11 rfl 1 rfl ?_
    obtain ⟨a40, ha40, hf⟩ := mb hf
    refine C_getr hc rfl iW11 (by decide) 3 (by decide) rfl ha40 w2_196 dX11_changeBySeed_12 ?_
    refine V_iconst hc (v := (1 : Int32)) dX11_changeBySeed_15 rfl ?_
    obtain ⟨v41, hv41, hf⟩ := mb hf
    obtain ⟨hkv41, hv41⟩ := og hv41
    refine C_callV hc hz (As := [.int (1 : Int32)]) hkv41 (by decide) (c10_canTick l D y _ _ hv41) w3_230 w3_231 w3_232 w1_8 w3_233 hdX_X10_canTick ⟨(Nat.le_of_ble_eq_true rfl), (Nat.le_of_ble_eq_true rfl)⟩ rfl rfl rfl (Nat.le_of_ble_eq_true rfl) dX11_changeBySeed_16 ?_
    obtain ⟨S42, hv43, hf⟩ := mb hf
    have hJ19 : V E (cZ S42) (cU S42) (cw y S42) 29 [] [] := by
      obtain rfl := Option.some.inj hf
      exact V_vret hc hzz rfl rfl rfl rfl dX11_changeBySeed_29
    refine V_if_eq hc dX11_changeBySeed_19 rfl (fun hq19 => ?_) (fun hq19 => ?_)
    · rw [if_pos hq19] at hv43
      obtain rfl := Option.some.inj hv43
      exact V_sub [] rfl hJ19
    · rw [if_neg hq19] at hv43
      refine V_aload_n hc dX11_changeBySeed_22 rfl 1 rfl ?_
      obtain ⟨a44, ha44, hv43⟩ := mb hv43
      refine C_getr hc rfl iW11 (by decide) 3 (by decide) rfl ha44 w2_196 dX11_changeBySeed_23 ?_
      obtain ⟨S45, hS45, hv43⟩ := mb hv43
      obtain ⟨hkS45, hS45⟩ := og hS45
      refine C_callV hc hz (As := []) hkS45 (by decide) (c10_runTick l D y X hX hS45) w3_234 w3_235 w3_236 w1_8 w3_237 hdX_X10_runTick ⟨(Nat.le_of_ble_eq_true rfl), (Nat.le_of_ble_eq_true rfl)⟩ rfl rfl rfl (Nat.le_of_ble_eq_true rfl) dX11_changeBySeed_26 ?_
      obtain rfl := Option.some.inj hv43
      exact V_sub [] rfl hJ19
noncomputable def LX11_chance_48 (X : Nat × Nat) (h : Nat) (c1 : Int32) (c2 : Int32) : Nat → Int32 → CS → Option (CS)
  | 0, _, _ => none
  | n + 1, i3, S =>
    if c1 ≤ i3 then (
      some S
    ) else (
      (cal S 11 h (f11_changeBySeed X S h)).bind fun S1 =>
      LX11_chance_48 X h c1 c2 n (i3 + (1 : Int32)) S1
    )
noncomputable def f11_chance (X : Nat × Nat) (S : CS) (h : Nat) (p1 : Int32) : Option (Int32 × CS) :=
  (gr S 11 h 3).bind fun a1 =>
  (gi S 10 a1 6).bind fun v2 =>
  if v2 = 0 then (
    bn2 (cal S 11 h (f11_refuse S h (4 : Int32))) fun v3 S4 =>
    some (v3, S4)
  ) else (
    if p1 < (1 : Int32) then (
      bn2 (cal S 11 h (f11_refuse S h (4 : Int32))) fun v5 S6 =>
      some (v5, S6)
    ) else (
      if p1 ≤ (40 : Int32) then (
        (gr S 11 h 5).bind fun a7 =>
        (gr S 11 h 3).bind fun a8 =>
        (cal S 2 a7 (f2_keep X S a7 a8)).bind fun S9 =>
        (gr S9 11 h 3).bind fun a10 =>
        (gi S9 10 a10 9).bind fun v11 =>
        (LX11_chance_48 X h p1 v11 FU (0 : Int32) S9).bind fun S12 =>
        (gr S12 11 h 3).bind fun a14 =>
        (gi S12 10 a14 9).bind fun v15 =>
        some ((v15 - v11), S12)
      ) else (
        bn2 (cal S 11 h (f11_refuse S h (4 : Int32))) fun v16 S17 =>
        some (v16, S17)
      )
    )
  )
theorem hdX_X11_chance : yX11_chance.cls = "FarEditors" ∧ yX11_chance.cls ≠ "java/lang/invoke/MethodHandle" ∧ yX11_chance.cls ≠ "java/lang/invoke/VarHandle" ∧ (parseMethodDescriptor yX11_chance.desc).map (fun d => d.parameters.length) = some 1 := by decide +kernel
set_option maxHeartbeats 4000000 in
set_option maxRecDepth 100000 in
theorem LX11_chance_48_ok {E : CxT} {l : Launch} {D : va_G} {y : CyT}  (hc : Cx E "FarEditors" cX11_chance 4) (X : Nat × Nat) (h : Nat) (c1 : Int32) (c2 : Int32) (hz : Cy E l D y 7 165 X.1 X.2) (hX : X.2 ≤ 100000000) : ∀ (n : Nat) (i3 : Int32) (S : CS) {So : CS}, LX11_chance_48 X h c1 c2 n i3 S = some So → (hx0 : V E (cZ So) (cU So) (cw y So) 63 [(0, .ref h), (2, .int c2)] []) → V E (cZ S) (cU S) (cw y S) 48 [(0, .ref h), (1, .int c1), (2, .int c2), (3, .int i3)] [] := by
  have hT := hz.2.2.1
  intro n
  induction n with
  | zero => intro i3 S So hf; cases hf
  | succ n ih =>
    intro i3 S So hf hx0
    unfold LX11_chance_48 at hf
    refine V_iload_n hc dX11_chance_48 rfl 3 rfl ?_
    refine V_iload_n hc dX11_chance_49 rfl 1 rfl ?_
    refine V_icmp_ge hc dX11_chance_50 rfl (fun hq50 => ?_) (fun hq50 => ?_)
    · rw [if_pos hq50] at hf
      obtain rfl := Option.some.inj hf
      exact V_sub [0, 2] rfl hx0
    · rw [if_neg hq50] at hf
      refine V_aload_n hc dX11_chance_53 rfl 0 rfl ?_
      obtain ⟨S1, hS1, hf⟩ := mb hf
      obtain ⟨hkS1, hS1⟩ := og hS1
      refine C_callV hc hz (As := []) hkS1 (by decide) (c11_changeBySeed l D y X hX hS1) w6_23 w6_25 wp3_13 w1_1 w6_26 hdX_X11_changeBySeed ⟨(Nat.le_of_ble_eq_true rfl), (Nat.le_of_ble_eq_true rfl)⟩ rfl rfl rfl (Nat.le_of_ble_eq_true rfl) dX11_chance_54 ?_
      refine V_iinc hc (j := 3) (v := (i3 + (1 : Int32))) dX11_chance_57 rfl rfl (by decide) rfl ?_
      refine V_goto hc dX11_chance_60 rfl ?_
      exact V_sub [1, 2, 3, 0] rfl (ih _ _ hf hx0)
set_option maxHeartbeats 4000000 in
set_option maxRecDepth 100000 in
theorem c11_chance (l : Launch) (D : va_G) (y : CyT) (X : Nat × Nat) (hX : X.2 ≤ 100000000) {S S' : CS} {h : Nat} {p1 : Int32} {r : Int32} (hf : f11_chance X S h p1 = some (r, S')) : CT l D y yX11_chance cX11_chance 4 (some .int) 7 165 X.1 X.2 [.ref h, .int p1] (cZ S) (cU S) (cw y S) (cZ S') (cU S') (cw y S') (some (.int r)) := by
  refine CT.of (by decide) (Nat.le_of_ble_eq_true rfl) (fun E hc hzz hnm => ?_)
  have hc : Cx E "FarEditors" cX11_chance 4 := hc
  have hz := hzz.1
  have hT := hz.2.2.1
  show V E (cZ S) (cU S) (cw y S) 0 [(0, .ref h), (1, .int p1)] []
  unfold f11_chance at hf
  refine V_aload_n hc dX11_chance_0 rfl 0 rfl ?_
  obtain ⟨a1, ha1, hf⟩ := mb hf
  refine C_getr hc rfl iW11 (by decide) 3 (by decide) rfl ha1 w2_196 dX11_chance_1 ?_
  obtain ⟨v2, hv2, hf⟩ := mb hf
  refine C_geti hc rfl iW10 (by decide) 6 (by decide) rfl hv2 w2_86 dX11_chance_4 ?_
  refine V_if_eq hc dX11_chance_7 rfl (fun hq7 => ?_) (fun hq7 => ?_)
  · rw [if_pos hq7] at hf
    refine V_aload_n hc dX11_chance_21 rfl 0 rfl ?_
    refine V_iconst hc (v := (4 : Int32)) dX11_chance_22 rfl ?_
    obtain ⟨v3, S4, hv3, hf⟩ := mb2 hf
    obtain ⟨hkv3, hv3⟩ := og hv3
    refine C_callV hc hz (As := [.int (4 : Int32)]) hkv3 (by decide) (c11_refuse l D y _ _ hv3) w3_4 w3_6 wp1_0 w1_1 w3_7 hdX_X11_refuse ⟨(Nat.le_of_ble_eq_true rfl), (Nat.le_of_ble_eq_true rfl)⟩ rfl rfl rfl (Nat.le_of_ble_eq_true rfl) dX11_chance_23 ?_
    obtain ⟨rfl, rfl⟩ := si2 hf
    exact V_iret hc hzz rfl rfl rfl rfl rfl dX11_chance_26
  · rw [if_neg hq7] at hf
    refine V_iload_n hc dX11_chance_10 rfl 1 rfl ?_
    refine V_iconst hc (v := (1 : Int32)) dX11_chance_11 rfl ?_
    refine V_icmp_lt hc dX11_chance_12 rfl (fun hq12 => ?_) (fun hq12 => ?_)
    · rw [if_pos hq12] at hf
      refine V_aload_n hc dX11_chance_21 rfl 0 rfl ?_
      refine V_iconst hc (v := (4 : Int32)) dX11_chance_22 rfl ?_
      obtain ⟨v5, S6, hv5, hf⟩ := mb2 hf
      obtain ⟨hkv5, hv5⟩ := og hv5
      refine C_callV hc hz (As := [.int (4 : Int32)]) hkv5 (by decide) (c11_refuse l D y _ _ hv5) w3_4 w3_6 wp1_0 w1_1 w3_7 hdX_X11_refuse ⟨(Nat.le_of_ble_eq_true rfl), (Nat.le_of_ble_eq_true rfl)⟩ rfl rfl rfl (Nat.le_of_ble_eq_true rfl) dX11_chance_23 ?_
      obtain ⟨rfl, rfl⟩ := si2 hf
      exact V_iret hc hzz rfl rfl rfl rfl rfl dX11_chance_26
    · rw [if_neg hq12] at hf
      refine V_iload_n hc dX11_chance_15 rfl 1 rfl ?_
      refine V_bipush hc (v := (40 : Int32)) dX11_chance_16 rfl ?_
      refine V_icmp_le hc dX11_chance_18 rfl (fun hq18 => ?_) (fun hq18 => ?_)
      · rw [if_pos hq18] at hf
        refine V_aload_n hc dX11_chance_27 rfl 0 rfl ?_
        obtain ⟨a7, ha7, hf⟩ := mb hf
        refine C_getr hc rfl iW11 (by decide) 5 (by decide) rfl ha7 w2_198 dX11_chance_28 ?_
        refine V_aload_n hc dX11_chance_31 rfl 0 rfl ?_
        obtain ⟨a8, ha8, hf⟩ := mb hf
        refine C_getr hc rfl iW11 (by decide) 3 (by decide) rfl ha8 w2_196 dX11_chance_32 ?_
        obtain ⟨S9, hS9, hf⟩ := mb hf
        obtain ⟨hkS9, hS9⟩ := og hS9
        refine C_callV hc hz (As := [.ref a8]) hkS9 (by decide) (c2_keep l D y X hX hS9) w5_176 w5_177 w5_178 w1_11 w5_179 hdX_X2_keep ⟨(Nat.le_of_ble_eq_true rfl), (Nat.le_of_ble_eq_true rfl)⟩ rfl rfl rfl (Nat.le_of_ble_eq_true rfl) dX11_chance_35 ?_
        refine V_aload_n hc dX11_chance_38 rfl 0 rfl ?_
        obtain ⟨a10, ha10, hf⟩ := mb hf
        refine C_getr hc rfl iW11 (by decide) 3 (by decide) rfl ha10 w2_196 dX11_chance_39 ?_
        obtain ⟨v11, hv11, hf⟩ := mb hf
        refine C_geti hc rfl iW10 (by decide) 9 (by decide) rfl hv11 w2_92 dX11_chance_42 ?_
        refine V_istore_n hc dX11_chance_45 rfl (by decide) rfl ?_
        refine V_iconst hc (v := (0 : Int32)) dX11_chance_46 rfl ?_
        refine V_istore_n hc dX11_chance_47 rfl (by decide) rfl ?_
        obtain ⟨S12, hv13, hf⟩ := mb hf
        refine V_sub [2, 3, 1, 0] rfl (LX11_chance_48_ok hc X h p1 v11 hz hX FU _ _ hv13 ?_)
        refine V_aload_n hc dX11_chance_63 rfl 0 rfl ?_
        obtain ⟨a14, ha14, hf⟩ := mb hf
        refine C_getr hc rfl iW11 (by decide) 3 (by decide) rfl ha14 w2_196 dX11_chance_64 ?_
        obtain ⟨v15, hv15, hf⟩ := mb hf
        refine C_geti hc rfl iW10 (by decide) 9 (by decide) rfl hv15 w2_92 dX11_chance_67 ?_
        refine V_iload_n hc dX11_chance_70 rfl 1 rfl ?_
        refine V_isub hc dX11_chance_71 ?_
        obtain ⟨rfl, rfl⟩ := si2 hf
        exact V_iret hc hzz rfl rfl rfl rfl rfl dX11_chance_72
      · rw [if_neg hq18] at hf
        refine V_aload_n hc dX11_chance_21 rfl 0 rfl ?_
        refine V_iconst hc (v := (4 : Int32)) dX11_chance_22 rfl ?_
        obtain ⟨v16, S17, hv16, hf⟩ := mb2 hf
        obtain ⟨hkv16, hv16⟩ := og hv16
        refine C_callV hc hz (As := [.int (4 : Int32)]) hkv16 (by decide) (c11_refuse l D y _ _ hv16) w3_4 w3_6 wp1_0 w1_1 w3_7 hdX_X11_refuse ⟨(Nat.le_of_ble_eq_true rfl), (Nat.le_of_ble_eq_true rfl)⟩ rfl rfl rfl (Nat.le_of_ble_eq_true rfl) dX11_chance_23 ?_
        obtain ⟨rfl, rfl⟩ := si2 hf
        exact V_iret hc hzz rfl rfl rfl rfl rfl dX11_chance_26
