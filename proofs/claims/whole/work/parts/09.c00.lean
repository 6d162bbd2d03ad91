noncomputable def f7_init (X : Nat × Nat) (S : CS) (h : Nat) : Option (CS) :=
  (nwa X S 14 (240 : Int32)).bind fun S1 =>
  (pr S1 7 h 0 (cZ S)).bind fun S2 =>
  (pi S2 7 h 1 (0 : Int32)).bind fun S3 =>
  some S3
theorem hdX_X7_init : yX7_init.cls = "FarEditors$Text" ∧ yX7_init.cls ≠ "java/lang/invoke/MethodHandle" ∧ yX7_init.cls ≠ "java/lang/invoke/VarHandle" ∧ (parseMethodDescriptor yX7_init.desc).map (fun d => d.parameters.length) = some 0 := by decide +kernel
set_option maxHeartbeats 4000000 in
set_option maxRecDepth 100000 in
theorem c7_init (l : Launch) (D : va_G) (y : CyT) (X : Nat × Nat) (hX : X.2 ≤ 100000000) {S S' : CS} {h : Nat} (hf : f7_init X S h = some S') : CT l D (tyL y) yX7_init cX7_init 1 none 1 20 X.1 X.2 [.ref h] (cZ S) (cU S) (cw y S) (cZ S') (cU S') (cw y S') none := by
  refine CT.of (by decide) (Nat.le_of_ble_eq_true rfl) (fun E hc hz hnm => ?_)
  have hc : Cx E "FarEditors$Text" cX7_init 1 := hc
  have hnm : (xH E).name = "<init>" := hnm
  have hT := hz.2.2.1
  show V E (cZ S) (cU S) (cw y S) 0 [(0, .ref h)] []
  unfold f7_init at hf
  refine V_aload_n hc dX7_init_0 rfl 0 rfl ?_
  refine V_objInit hc hz w1_165 w1_27 w1_28 ⟨(Nat.le_of_ble_eq_true rfl), (Nat.le_of_ble_eq_true rfl)⟩ (Nat.le_of_ble_eq_true rfl) dX7_init_1 ?_
  refine V_aload_n hc dX7_init_4 rfl 0 rfl ?_
  refine V_sipush hc (v := (240 : Int32)) dX7_init_5 rfl ?_
  obtain ⟨S1, hS1, hf⟩ := mb hf
  refine C_newi hc hz hS1 hX w1_82 dX7_init_8 ?_
  obtain ⟨S2, hS2, hf⟩ := mb hf
  refine C_putr hc rfl iW7 tyX7 tyX7_ok nmX7 (by decide) 0 (by decide) rfl hS2 w1_166 rfl rfl rfl dX7_init_10 ?_
  refine V_aload_n hc dX7_init_13 rfl 0 rfl ?_
  refine V_iconst hc (v := (0 : Int32)) dX7_init_14 rfl ?_
  obtain ⟨S3, hS3, hf⟩ := mb hf
  refine C_puti hc rfl iW7 tyX7 tyX7_ok nmX7 (by decide) 1 (by decide) rfl hS3 w1_168 rfl rfl rfl dX7_init_15 ?_
  obtain rfl := Option.some.inj hf
  exact V_vret hc hz rfl rfl rfl rfl dX7_init_18
noncomputable def f7_copy (S : CS) (h : Nat) (p1 : Nat) : Option (CS) :=
  (gr S 7 p1 0).bind fun a1 =>
  (gr S 7 h 0).bind fun a2 =>
  (gi S 7 p1 1).bind fun v3 =>
  (cpy S a1 (0 : Int32) a2 (0 : Int32) v3).bind fun S4 =>
  (gi S4 7 p1 1).bind fun v5 =>
  (pi S4 7 h 1 v5).bind fun S6 =>
  some S6
theorem hdX_X7_copy : yX7_copy.cls = "FarEditors$Text" ∧ yX7_copy.cls ≠ "java/lang/invoke/MethodHandle" ∧ yX7_copy.cls ≠ "java/lang/invoke/VarHandle" ∧ (parseMethodDescriptor yX7_copy.desc).map (fun d => d.parameters.length) = some 1 := by decide +kernel
set_option maxHeartbeats 4000000 in
set_option maxRecDepth 100000 in
theorem c7_copy (l : Launch) (D : va_G) (y : CyT) (zM uM : Nat) {S S' : CS} {h : Nat} {p1 : Nat} (hf : f7_copy S h p1 = some S') : CT l D (tyL y) yX7_copy cX7_copy 2 none 1 26 zM uM [.ref h, .ref p1] (cZ S) (cU S) (cw y S) (cZ S') (cU S') (cw y S') none := by
  refine CT.of (by decide) (Nat.le_of_ble_eq_true rfl) (fun E hc hz hnm => ?_)
  have hc : Cx E "FarEditors$Text" cX7_copy 2 := hc
  have hT := hz.2.2.1
  show V E (cZ S) (cU S) (cw y S) 0 [(0, .ref h), (1, .ref p1)] []
  unfold f7_copy at hf
  refine V_aload_n hc dX7_copy_0 rfl 1 rfl ?_
  obtain ⟨a1, ha1, hf⟩ := mb hf
  refine C_getr hc rfl iW7 (by decide) 0 (by decide) rfl ha1 w1_166 dX7_copy_1 ?_
  refine V_iconst hc (v := (0 : Int32)) dX7_copy_4 rfl ?_
  refine V_aload_n hc dX7_copy_5 rfl 0 rfl ?_
  obtain ⟨a2, ha2, hf⟩ := mb hf
  refine C_getr hc rfl iW7 (by decide) 0 (by decide) rfl ha2 w1_166 dX7_copy_6 ?_
  refine V_iconst hc (v := (0 : Int32)) dX7_copy_9 rfl ?_
  refine V_aload_n hc dX7_copy_10 rfl 1 rfl ?_
  obtain ⟨v3, hv3, hf⟩ := mb hf
  refine C_geti hc rfl iW7 (by decide) 1 (by decide) rfl hv3 w1_168 dX7_copy_11 ?_
  obtain ⟨S4, hS4, hf⟩ := mb hf
  refine C_copy hc hz hS4 w3_196 w3_198 w3_197 w1_19 ⟨(Nat.le_of_ble_eq_true rfl), (Nat.le_of_ble_eq_true rfl)⟩ (Nat.le_of_ble_eq_true rfl) dX7_copy_14 ?_
  refine V_aload_n hc dX7_copy_17 rfl 0 rfl ?_
  refine V_aload_n hc dX7_copy_18 rfl 1 rfl ?_
  obtain ⟨v5, hv5, hf⟩ := mb hf
  refine C_geti hc rfl iW7 (by decide) 1 (by decide) rfl hv5 w1_168 dX7_copy_19 ?_
  obtain ⟨S6, hS6, hf⟩ := mb hf
  refine C_puti hc rfl iW7 tyX7 tyX7_ok nmX7 (by decide) 1 (by decide) rfl hS6 w1_168 rfl rfl rfl dX7_copy_22 ?_
  obtain rfl := Option.some.inj hf
  exact V_vret hc hz rfl rfl rfl rfl dX7_copy_25
noncomputable def f4_copy (X : Nat × Nat) (S : CS) (h : Nat) (p1 : Nat) : Option (CS) :=
  (gi S 4 p1 1).bind fun v1 =>
  (gr S 4 h 0).bind fun a2 =>
  (aln S 14 a2).bind fun v3 =>
  (
    if v1 ≤ v3 then (
      some S
    ) else (
      (gr S 4 p1 0).bind fun a6 =>
      (aln S 14 a6).bind fun v7 =>
      (nwa X S 14 v7).bind fun S8 =>
      (pr S8 4 h 0 (cZ S)).bind fun S9 =>
      some S9
    )
  ).bind fun S4 =>
  (gr S4 4 p1 0).bind fun a10 =>
  (gr S4 4 h 0).bind fun a11 =>
  (gi S4 4 p1 1).bind fun v12 =>
  (cpy S4 a10 (0 : Int32) a11 (0 : Int32) v12).bind fun S13 =>
  (gi S13 4 p1 1).bind fun v14 =>
  (pi S13 4 h 1 v14).bind fun S15 =>
  some S15
theorem hdX_X4_copy : yX4_copy.cls = "FarEditors$Op" ∧ yX4_copy.cls ≠ "java/lang/invoke/MethodHandle" ∧ yX4_copy.cls ≠ "java/lang/invoke/VarHandle" ∧ (parseMethodDescriptor yX4_copy.desc).map (fun d => d.parameters.length) = some 1 := by decide +kernel
set_option maxHeartbeats 4000000 in
set_option maxRecDepth 100000 in
theorem c4_copy (l : Launch) (D : va_G) (y : CyT) (X : Nat × Nat) (hX : X.2 ≤ 100000000) {S S' : CS} {h : Nat} {p1 : Nat} (hf : f4_copy X S h p1 = some S') : CT l D (tyL y) yX4_copy cX4_copy 2 none 1 26 X.1 X.2 [.ref h, .ref p1] (cZ S) (cU S) (cw y S) (cZ S') (cU S') (cw y S') none := by
  refine CT.of (by decide) (Nat.le_of_ble_eq_true rfl) (fun E hc hz hnm => ?_)
  have hc : Cx E "FarEditors$Op" cX4_copy 2 := hc
  have hT := hz.2.2.1
  show V E (cZ S) (cU S) (cw y S) 0 [(0, .ref h), (1, .ref p1)] []
  unfold f4_copy at hf
  refine V_aload_n hc dX4_copy_0 rfl 1 rfl ?_
  obtain ⟨v1, hv1, hf⟩ := mb hf
  refine C_geti hc rfl iW4 (by decide) 1 (by decide) rfl hv1 w1_105 dX4_copy_1 ?_
  refine V_aload_n hc dX4_copy_4 rfl 0 rfl ?_
  obtain ⟨a2, ha2, hf⟩ := mb hf
  refine C_getr hc rfl iW4 (by decide) 0 (by decide) rfl ha2 w1_101 dX4_copy_5 ?_
  obtain ⟨v3, hv3, hf⟩ := mb hf
  refine C_alen hc hT hv3 dX4_copy_8 ?_
  obtain ⟨S4, hv5, hf⟩ := mb hf
  have hJ9 : V E (cZ S4) (cU S4) (cw y S4) 23 [(0, .ref h), (1, .ref p1)] [] := by
    refine V_aload_n hc dX4_copy_23 rfl 1 rfl ?_
    obtain ⟨a10, ha10, hf⟩ := mb hf
    refine C_getr hc rfl iW4 (by decide) 0 (by decide) rfl ha10 w1_101 dX4_copy_24 ?_
    refine V_iconst hc (v := (0 : Int32)) dX4_copy_27 rfl ?_
    refine V_aload_n hc dX4_copy_28 rfl 0 rfl ?_
    obtain ⟨a11, ha11, hf⟩ := mb hf
    refine C_getr hc rfl iW4 (by decide) 0 (by decide) rfl ha11 w1_101 dX4_copy_29 ?_
    refine V_iconst hc (v := (0 : Int32)) dX4_copy_32 rfl ?_
    refine V_aload_n hc dX4_copy_33 rfl 1 rfl ?_
    obtain ⟨v12, hv12, hf⟩ := mb hf
    refine C_geti hc rfl iW4 (by decide) 1 (by decide) rfl hv12 w1_105 dX4_copy_34 ?_
    obtain ⟨S13, hS13, hf⟩ := mb hf
    refine C_copy hc hz hS13 w4_11 w3_198 w3_197 w1_19 ⟨(Nat.le_of_ble_eq_true rfl), (Nat.le_of_ble_eq_true rfl)⟩ (Nat.le_of_ble_eq_true rfl) dX4_copy_37 ?_
    refine V_aload_n hc dX4_copy_40 rfl 0 rfl ?_
    refine V_aload_n hc dX4_copy_41 rfl 1 rfl ?_
    obtain ⟨v14, hv14, hf⟩ := mb hf
    refine C_geti hc rfl iW4 (by decide) 1 (by decide) rfl hv14 w1_105 dX4_copy_42 ?_
    obtain ⟨S15, hS15, hf⟩ := mb hf
    refine C_puti hc rfl iW4 tyX4 tyX4_ok nmX4 (by decide) 1 (by decide) rfl hS15 w1_105 rfl rfl rfl dX4_copy_45 ?_
    obtain rfl := Option.some.inj hf
    exact V_vret hc hz rfl rfl rfl rfl dX4_copy_48
  refine V_icmp_le hc dX4_copy_9 rfl (fun hq9 => ?_) (fun hq9 => ?_)
  · rw [if_pos hq9] at hv5
    obtain rfl := Option.some.inj hv5
    exact V_sub [0, 1] rfl hJ9
  · rw [if_neg hq9] at hv5
    refine V_aload_n hc dX4_copy_12 rfl 0 rfl ?_
    refine V_aload_n hc dX4_copy_13 rfl 1 rfl ?_
    obtain ⟨a6, ha6, hv5⟩ := mb hv5
    refine C_getr hc rfl iW4 (by decide) 0 (by decide) rfl ha6 w1_101 dX4_copy_14 ?_
    obtain ⟨v7, hv7, hv5⟩ := mb hv5
    refine C_alen hc hT hv7 dX4_copy_17 ?_
    obtain ⟨S8, hS8, hv5⟩ := mb hv5
    refine C_newi hc hz hS8 hX w1_82 dX4_copy_18 ?_
    obtain ⟨S9, hS9, hv5⟩ := mb hv5
    refine C_putr hc rfl iW4 tyX4 tyX4_ok nmX4 (by decide) 0 (by decide) rfl hS9 w1_101 rfl rfl rfl dX4_copy_20 ?_
    obtain rfl := Option.some.inj hv5
    exact V_sub [0, 1] rfl hJ9
noncomputable def f1_copyLine (X : Nat × Nat) (S : CS) (h : Nat) (p1 : Nat) : Option (CS) :=
  (gr S 1 h 1).bind fun a1 =>
  (gr S 1 p1 1).bind fun a2 =>
  (cal S 4 a1 (f4_copy X S a1 a2)).bind fun S3 =>
  (gr S3 1 h 2).bind fun a4 =>
  (gr S3 1 p1 2).bind fun a5 =>
  (cal S3 4 a4 (f4_copy X S3 a4 a5)).bind fun S6 =>
  (gr S6 1 p1 6).bind fun a7 =>
  (gr S6 1 h 6).bind fun a8 =>
  (gr S6 1 h 6).bind fun a9 =>
  (aln S6 14 a9).bind fun v10 =>
  (cpy S6 a7 (0 : Int32) a8 (0 : Int32) v10).bind fun S11 =>
  (gi S11 1 p1 8).bind fun v12 =>
  (pi S11 1 h 8 v12).bind fun S13 =>
  (gi S13 1 p1 10).bind fun v14 =>
  (pi S13 1 h 10 v14).bind fun S15 =>
  (gi S15 1 p1 11).bind fun v16 =>
  (pi S15 1 h 11 v16).bind fun S17 =>
  (gi S17 1 p1 12).bind fun v18 =>
  (bz v18).bind fun v19 =>
  (pi S17 1 h 12 v18).bind fun S20 =>
  (gi S20 1 p1 13).bind fun v21 =>
  (bz v21).bind fun v22 =>
  (pi S20 1 h 13 v21).bind fun S23 =>
  (gi S23 1 p1 14).bind fun v24 =>
  (bz v24).bind fun v25 =>
  (pi S23 1 h 14 v24).bind fun S26 =>
  some S26
theorem hdX_X1_copyLine : yX1_copyLine.cls = "FarEditors$Editor" ∧ yX1_copyLine.cls ≠ "java/lang/invoke/MethodHandle" ∧ yX1_copyLine.cls ≠ "java/lang/invoke/VarHandle" ∧ (parseMethodDescriptor yX1_copyLine.desc).map (fun d => d.parameters.length) = some 1 := by decide +kernel
set_option maxHeartbeats 4000000 in
set_option maxRecDepth 100000 in
theorem c1_copyLine (l : Launch) (D : va_G) (y : CyT) (X : Nat × Nat) (hX : X.2 ≤ 100000000) {S S' : CS} {h : Nat} {p1 : Nat} (hf : f1_copyLine X S h p1 = some S') : CT l D (tyL y) yX1_copyLine cX1_copyLine 2 none 2 47 X.1 X.2 [.ref h, .ref p1] (cZ S) (cU S) (cw y S) (cZ S') (cU S') (cw y S') none := by
  refine CT.of (by decide) (Nat.le_of_ble_eq_true rfl) (fun E hc hz hnm => ?_)
  have hc : Cx E "FarEditors$Editor" cX1_copyLine 2 := hc
  have hT := hz.2.2.1
  show V E (cZ S) (cU S) (cw y S) 0 [(0, .ref h), (1, .ref p1)] []
  unfold f1_copyLine at hf
  refine V_aload_n hc dX1_copyLine_0 rfl 0 rfl ?_
  obtain ⟨a1, ha1, hf⟩ := mb hf
  refine C_getr hc rfl iW1 (by decide) 1 (by decide) rfl ha1 w2_0 dX1_copyLine_1 ?_
  refine V_aload_n hc dX1_copyLine_4 rfl 1 rfl ?_
  obtain ⟨a2, ha2, hf⟩ := mb hf
  refine C_getr hc rfl iW1 (by decide) 1 (by decide) rfl ha2 w2_0 dX1_copyLine_5 ?_
  obtain ⟨S3, hS3, hf⟩ := mb hf
  obtain ⟨hkS3, hS3⟩ := og hS3
  refine C_callV hc hz (As := [.ref a2]) hkS3 (by decide) (c4_copy l D y X hX hS3) w5_62 w4_8 w4_9 w1_5 w4_10 hdX_X4_copy ⟨(Nat.le_of_ble_eq_true rfl), (Nat.le_of_ble_eq_true rfl)⟩ rfl rfl rfl (Nat.le_of_ble_eq_true rfl) dX1_copyLine_8 ?_
  refine V_aload_n hc dX1_copyLine_11 rfl 0 rfl ?_
  obtain ⟨a4, ha4, hf⟩ := mb hf
  refine C_getr hc rfl iW1 (by decide) 2 (by decide) rfl ha4 w2_3 dX1_copyLine_12 ?_
  refine V_aload_n hc dX1_copyLine_15 rfl 1 rfl ?_
  obtain ⟨a5, ha5, hf⟩ := mb hf
  refine C_getr hc rfl iW1 (by decide) 2 (by decide) rfl ha5 w2_3 dX1_copyLine_16 ?_
  obtain ⟨S6, hS6, hf⟩ := mb hf
  obtain ⟨hkS6, hS6⟩ := og hS6
  refine C_callV hc hz (As := [.ref a5]) hkS6 (by decide) (c4_copy l D y X hX hS6) w5_62 w4_8 w4_9 w1_5 w4_10 hdX_X4_copy ⟨(Nat.le_of_ble_eq_true rfl), (Nat.le_of_ble_eq_true rfl)⟩ rfl rfl rfl (Nat.le_of_ble_eq_true rfl) dX1_copyLine_19 ?_
  refine V_aload_n hc dX1_copyLine_22 rfl 1 rfl ?_
  obtain ⟨a7, ha7, hf⟩ := mb hf
  refine C_getr hc rfl iW1 (by decide) 6 (by decide) rfl ha7 w2_14 dX1_copyLine_23 ?_
  refine V_iconst hc (v := (0 : Int32)) dX1_copyLine_26 rfl ?_
  refine V_aload_n hc dX1_copyLine_27 rfl 0 rfl ?_
  obtain ⟨a8, ha8, hf⟩ := mb hf
  refine C_getr hc rfl iW1 (by decide) 6 (by decide) rfl ha8 w2_14 dX1_copyLine_28 ?_
  refine V_iconst hc (v := (0 : Int32)) dX1_copyLine_31 rfl ?_
  refine V_aload_n hc dX1_copyLine_32 rfl 0 rfl ?_
  obtain ⟨a9, ha9, hf⟩ := mb hf
  refine C_getr hc rfl iW1 (by decide) 6 (by decide) rfl ha9 w2_14 dX1_copyLine_33 ?_
  obtain ⟨v10, hv10, hf⟩ := mb hf
  refine C_alen hc hT hv10 dX1_copyLine_36 ?_
  obtain ⟨S11, hS11, hf⟩ := mb hf
  refine C_copy hc hz hS11 w5_63 w3_198 w3_197 w1_19 ⟨(Nat.le_of_ble_eq_true rfl), (Nat.le_of_ble_eq_true rfl)⟩ (Nat.le_of_ble_eq_true rfl) dX1_copyLine_37 ?_
  refine V_aload_n hc dX1_copyLine_40 rfl 0 rfl ?_
  refine V_aload_n hc dX1_copyLine_41 rfl 1 rfl ?_
  obtain ⟨v12, hv12, hf⟩ := mb hf
  refine C_geti hc rfl iW1 (by decide) 8 (by decide) rfl hv12 w2_19 dX1_copyLine_42 ?_
  obtain ⟨S13, hS13, hf⟩ := mb hf
  refine C_puti hc rfl iW1 tyX1 tyX1_ok nmX1 (by decide) 8 (by decide) rfl hS13 w2_19 rfl rfl rfl dX1_copyLine_45 ?_
  refine V_aload_n hc dX1_copyLine_48 rfl 0 rfl ?_
  refine V_aload_n hc dX1_copyLine_49 rfl 1 rfl ?_
  obtain ⟨v14, hv14, hf⟩ := mb hf
  refine C_geti hc rfl iW1 (by decide) 10 (by decide) rfl hv14 w2_24 dX1_copyLine_50 ?_
  obtain ⟨S15, hS15, hf⟩ := mb hf
  refine C_puti hc rfl iW1 tyX1 tyX1_ok nmX1 (by decide) 10 (by decide) rfl hS15 w2_24 rfl rfl rfl dX1_copyLine_53 ?_
  refine V_aload_n hc dX1_copyLine_56 rfl 0 rfl ?_
  refine V_aload_n hc dX1_copyLine_57 rfl 1 rfl ?_
  obtain ⟨v16, hv16, hf⟩ := mb hf
  refine C_geti hc rfl iW1 (by decide) 11 (by decide) rfl hv16 w2_27 dX1_copyLine_58 ?_
  obtain ⟨S17, hS17, hf⟩ := mb hf
  refine C_puti hc rfl iW1 tyX1 tyX1_ok nmX1 (by decide) 11 (by decide) rfl hS17 w2_27 rfl rfl rfl dX1_copyLine_61 ?_
  refine V_aload_n hc dX1_copyLine_64 rfl 0 rfl ?_
  refine V_aload_n hc dX1_copyLine_65 rfl 1 rfl ?_
  obtain ⟨v18, hv18, hf⟩ := mb hf
  refine C_geti hc rfl iW1 (by decide) 12 (by decide) rfl hv18 w2_31 dX1_copyLine_66 ?_
  obtain ⟨v19, hv19, hf⟩ := mb hf
  obtain ⟨hbv19, hev19⟩ := bz_some hv19
  subst hev19
  obtain ⟨S20, hS20, hf⟩ := mb hf
  refine C_puti hc rfl iW1 tyX1 tyX1_ok nmX1 (by decide) 12 (by decide) rfl hS20 w2_31 rfl (bz_nar hbv19) rfl dX1_copyLine_69 ?_
  refine V_aload_n hc dX1_copyLine_72 rfl 0 rfl ?_
  refine V_aload_n hc dX1_copyLine_73 rfl 1 rfl ?_
  obtain ⟨v21, hv21, hf⟩ := mb hf
  refine C_geti hc rfl iW1 (by decide) 13 (by decide) rfl hv21 w2_34 dX1_copyLine_74 ?_
  obtain ⟨v22, hv22, hf⟩ := mb hf
  obtain ⟨hbv22, hev22⟩ := bz_some hv22
  subst hev22
  obtain ⟨S23, hS23, hf⟩ := mb hf
  refine C_puti hc rfl iW1 tyX1 tyX1_ok nmX1 (by decide) 13 (by decide) rfl hS23 w2_34 rfl (bz_nar hbv22) rfl dX1_copyLine_77 ?_
  refine V_aload_n hc dX1_copyLine_80 rfl 0 rfl ?_
  refine V_aload_n hc dX1_copyLine_81 rfl 1 rfl ?_
  obtain ⟨v24, hv24, hf⟩ := mb hf
  refine C_geti hc rfl iW1 (by decide) 14 (by decide) rfl hv24 w2_37 dX1_copyLine_82 ?_
  obtain ⟨v25, hv25, hf⟩ := mb hf
  obtain ⟨hbv25, hev25⟩ := bz_some hv25
  subst hev25
  obtain ⟨S26, hS26, hf⟩ := mb hf
  refine C_puti hc rfl iW1 tyX1 tyX1_ok nmX1 (by decide) 14 (by decide) rfl hS26 w2_37 rfl (bz_nar hbv25) rfl dX1_copyLine_85 ?_
  obtain rfl := Option.some.inj hf
  exact V_vret hc hz rfl rfl rfl rfl dX1_copyLine_88
noncomputable def f1_copyText (X : Nat × Nat) (S : CS) (h : Nat) (p1 : Nat) : Option (CS) :=
  (gr S 1 h 0).bind fun a1 =>
  (gr S 1 p1 0).bind fun a2 =>
  (cal S 7 a1 (f7_copy S a1 a2)).bind fun S3 =>
  (gr S3 1 h 3).bind fun a4 =>
  (gr S3 1 p1 3).bind fun a5 =>
  (cal S3 3 a4 (f3_copy X S3 a4 a5)).bind fun S6 =>
  (gr S6 1 h 4).bind fun a7 =>
  (gr S6 1 p1 4).bind fun a8 =>
  (cal S6 3 a7 (f3_copy X S6 a7 a8)).bind fun S9 =>
  (gr S9 1 p1 5).bind fun a10 =>
  (gr S9 1 h 5).bind fun a11 =>
  (gr S9 1 h 5).bind fun a12 =>
  (aln S9 14 a12).bind fun v13 =>
  (cpy S9 a10 (0 : Int32) a11 (0 : Int32) v13).bind fun S14 =>
  (gi S14 1 p1 7).bind fun v15 =>
  (pi S14 1 h 7 v15).bind fun S16 =>
  (gi S16 1 p1 9).bind fun v17 =>
  (pi S16 1 h 9 v17).bind fun S18 =>
  some S18
theorem hdX_X1_copyText : yX1_copyText.cls = "FarEditors$Editor" ∧ yX1_copyText.cls ≠ "java/lang/invoke/MethodHandle" ∧ yX1_copyText.cls ≠ "java/lang/invoke/VarHandle" ∧ (parseMethodDescriptor yX1_copyText.desc).map (fun d => d.parameters.length) = some 1 := by decide +kernel
set_option maxHeartbeats 4000000 in
set_option maxRecDepth 100000 in
theorem c1_copyText (l : Launch) (D : va_G) (y : CyT) (X : Nat × Nat) (hX : X.2 ≤ 100000000) {S S' : CS} {h : Nat} {p1 : Nat} (hf : f1_copyText X S h p1 = some S') : CT l D (tyL y) yX1_copyText cX1_copyText 2 none 3 69 X.1 X.2 [.ref h, .ref p1] (cZ S) (cU S) (cw y S) (cZ S') (cU S') (cw y S') none := by
  refine CT.of (by decide) (Nat.le_of_ble_eq_true rfl) (fun E hc hz hnm => ?_)
  have hc : Cx E "FarEditors$Editor" cX1_copyText 2 := hc
  have hT := hz.2.2.1
  show V E (cZ S) (cU S) (cw y S) 0 [(0, .ref h), (1, .ref p1)] []
  unfold f1_copyText at hf
  refine V_aload_n hc dX1_copyText_0 rfl 0 rfl ?_
  obtain ⟨a1, ha1, hf⟩ := mb hf
  refine C_getr hc rfl iW1 (by decide) 0 (by decide) rfl ha1 w1_237 dX1_copyText_1 ?_
  refine V_aload_n hc dX1_copyText_4 rfl 1 rfl ?_
  obtain ⟨a2, ha2, hf⟩ := mb hf
  refine C_getr hc rfl iW1 (by decide) 0 (by decide) rfl ha2 w1_237 dX1_copyText_5 ?_
  obtain ⟨S3, hS3, hf⟩ := mb hf
  obtain ⟨hkS3, hS3⟩ := og hS3
  refine C_callV hc hz (As := [.ref a2]) hkS3 (by decide) (c7_copy l D y _ _ hS3) w3_212 w3_205 w3_206 w1_7 w3_207 hdX_X7_copy ⟨(Nat.le_of_ble_eq_true rfl), (Nat.le_of_ble_eq_true rfl)⟩ rfl rfl rfl (Nat.le_of_ble_eq_true rfl) dX1_copyText_8 ?_
  refine V_aload_n hc dX1_copyText_11 rfl 0 rfl ?_
  obtain ⟨a4, ha4, hf⟩ := mb hf
  refine C_getr hc rfl iW1 (by decide) 3 (by decide) rfl ha4 w2_6 dX1_copyText_12 ?_
  refine V_aload_n hc dX1_copyText_15 rfl 1 rfl ?_
  obtain ⟨a5, ha5, hf⟩ := mb hf
  refine C_getr hc rfl iW1 (by decide) 3 (by decide) rfl ha5 w2_6 dX1_copyText_16 ?_
  obtain ⟨S6, hS6, hf⟩ := mb hf
  obtain ⟨hkS6, hS6⟩ := og hS6
  refine C_callV hc hz (As := [.ref a5]) hkS6 (by decide) (c3_copy l D y X hX hS6) w5_68 w5_69 w5_70 w1_10 w5_71 hdX_X3_copy ⟨(Nat.le_of_ble_eq_true rfl), (Nat.le_of_ble_eq_true rfl)⟩ rfl rfl rfl (Nat.le_of_ble_eq_true rfl) dX1_copyText_19 ?_
  refine V_aload_n hc dX1_copyText_22 rfl 0 rfl ?_
  obtain ⟨a7, ha7, hf⟩ := mb hf
  refine C_getr hc rfl iW1 (by decide) 4 (by decide) rfl ha7 w2_9 dX1_copyText_23 ?_
  refine V_aload_n hc dX1_copyText_26 rfl 1 rfl ?_
  obtain ⟨a8, ha8, hf⟩ := mb hf
  refine C_getr hc rfl iW1 (by decide) 4 (by decide) rfl ha8 w2_9 dX1_copyText_27 ?_
  obtain ⟨S9, hS9, hf⟩ := mb hf
  obtain ⟨hkS9, hS9⟩ := og hS9
  refine C_callV hc hz (As := [.ref a8]) hkS9 (by decide) (c3_copy l D y X hX hS9) w5_68 w5_69 w5_70 w1_10 w5_71 hdX_X3_copy ⟨(Nat.le_of_ble_eq_true rfl), (Nat.le_of_ble_eq_true rfl)⟩ rfl rfl rfl (Nat.le_of_ble_eq_true rfl) dX1_copyText_30 ?_
  refine V_aload_n hc dX1_copyText_33 rfl 1 rfl ?_
  obtain ⟨a10, ha10, hf⟩ := mb hf
  refine C_getr hc rfl iW1 (by decide) 5 (by decide) rfl ha10 w2_12 dX1_copyText_34 ?_
  refine V_iconst hc (v := (0 : Int32)) dX1_copyText_37 rfl ?_
  refine V_aload_n hc dX1_copyText_38 rfl 0 rfl ?_
  obtain ⟨a11, ha11, hf⟩ := mb hf
  refine C_getr hc rfl iW1 (by decide) 5 (by decide) rfl ha11 w2_12 dX1_copyText_39 ?_
  refine V_iconst hc (v := (0 : Int32)) dX1_copyText_42 rfl ?_
  refine V_aload_n hc dX1_copyText_43 rfl 0 rfl ?_
  obtain ⟨a12, ha12, hf⟩ := mb hf
  refine C_getr hc rfl iW1 (by decide) 5 (by decide) rfl ha12 w2_12 dX1_copyText_44 ?_
  obtain ⟨v13, hv13, hf⟩ := mb hf
  refine C_alen hc hT hv13 dX1_copyText_47 ?_
  obtain ⟨S14, hS14, hf⟩ := mb hf
  refine C_copy hc hz hS14 w5_63 w3_198 w3_197 w1_19 ⟨(Nat.le_of_ble_eq_true rfl), (Nat.le_of_ble_eq_true rfl)⟩ (Nat.le_of_ble_eq_true rfl) dX1_copyText_48 ?_
  refine V_aload_n hc dX1_copyText_51 rfl 0 rfl ?_
  refine V_aload_n hc dX1_copyText_52 rfl 1 rfl ?_
  obtain ⟨v15, hv15, hf⟩ := mb hf
  refine C_geti hc rfl iW1 (by decide) 7 (by decide) rfl hv15 w2_16 dX1_copyText_53 ?_
  obtain ⟨S16, hS16, hf⟩ := mb hf
  refine C_puti hc rfl iW1 tyX1 tyX1_ok nmX1 (by decide) 7 (by decide) rfl hS16 w2_16 rfl rfl rfl dX1_copyText_56 ?_
  refine V_aload_n hc dX1_copyText_59 rfl 0 rfl ?_
  refine V_aload_n hc dX1_copyText_60 rfl 1 rfl ?_
  obtain ⟨v17, hv17, hf⟩ := mb hf
  refine C_geti hc rfl iW1 (by decide) 9 (by decide) rfl hv17 w2_22 dX1_copyText_61 ?_
  obtain ⟨S18, hS18, hf⟩ := mb hf
  refine C_puti hc rfl iW1 tyX1 tyX1_ok nmX1 (by decide) 9 (by decide) rfl hS18 w2_22 rfl rfl rfl dX1_copyText_64 ?_
  obtain rfl := Option.some.inj hf
  exact V_vret hc hz rfl rfl rfl rfl dX1_copyText_67
noncomputable def f10_knows (S : CS) (h : Nat) (p1 : Int32) : Option (Int32) :=
  (
    if p1 < 0 then (
      some (0 : Int32)
    ) else (
      (gi S 10 h 6).bind fun v3 =>
      if v3 ≤ p1 then (
        some (0 : Int32)
      ) else (
        (gr S 10 h 3).bind fun a4 =>
        (aln S 16 a4).bind fun v5 =>
        if v5 ≤ p1 then (
          some (0 : Int32)
        ) else (
          some (1 : Int32)
        )
      )
    )
  ).bind fun v1 =>
  (bz v1).bind fun v6 =>
  some v6
theorem hdX_X10_knows : yX10_knows.cls = "FarEditors$World" ∧ yX10_knows.cls ≠ "java/lang/invoke/MethodHandle" ∧ yX10_knows.cls ≠ "java/lang/invoke/VarHandle" ∧ (parseMethodDescriptor yX10_knows.desc).map (fun d => d.parameters.length) = some 1 := by decide +kernel
set_option maxHeartbeats 4000000 in
set_option maxRecDepth 100000 in
theorem c10_knows (l : Launch) (D : va_G) (y : CyT) (zM uM : Nat) {S : CS} {h : Nat} {p1 : Int32} {r : Int32} (hf : f10_knows S h p1 = some r) : CT l D (tyL y) yX10_knows cX10_knows 2 (some .boolean) 0 0 zM uM [.ref h, .int p1] (cZ S) (cU S) (cw y S) (cZ S) (cU S) (cw y S) (some (.int r)) := by
  refine CT.of (by decide) (Nat.le_of_ble_eq_true rfl) (fun E hc hz hnm => ?_)
  have hc : Cx E "FarEditors$World" cX10_knows 2 := hc
  have hT := hz.2.2.1
  show V E (cZ S) (cU S) (cw y S) 0 [(0, .ref h), (1, .int p1)] []
  unfold f10_knows at hf
  refine V_iload_n hc dX10_knows_0 rfl 1 rfl ?_
  obtain ⟨v1, hv2, hf⟩ := mb hf
  have hJ1 : V E (cZ S) (cU S) (cw y S) 26 [] [.int v1] := by
    obtain ⟨v6, hv6, hf⟩ := mb hf
    obtain ⟨hbv6, rfl⟩ := bz_some hv6
    obtain rfl := Option.some.inj hf
    exact V_iret hc hz (bz_nar hbv6) rfl rfl rfl rfl dX10_knows_26
  refine V_if_lt hc dX10_knows_1 rfl (fun hq1 => ?_) (fun hq1 => ?_)
  · rw [if_pos hq1] at hv2
    refine V_iconst hc (v := (0 : Int32)) dX10_knows_25 rfl ?_
    obtain rfl := Option.some.inj hv2
    exact V_sub [] rfl hJ1
  · rw [if_neg hq1] at hv2
    refine V_iload_n hc dX10_knows_4 rfl 1 rfl ?_
    refine V_aload_n hc dX10_knows_5 rfl 0 rfl ?_
    obtain ⟨v3, hv3, hv2⟩ := mb hv2
    refine C_geti hc rfl iW10 (by decide) 6 (by decide) rfl hv3 w2_84 dX10_knows_6 ?_
    refine V_icmp_ge hc dX10_knows_9 rfl (fun hq9 => ?_) (fun hq9 => ?_)
    · rw [if_pos hq9] at hv2
      refine V_iconst hc (v := (0 : Int32)) dX10_knows_25 rfl ?_
      obtain rfl := Option.some.inj hv2
      exact V_sub [] rfl hJ1
    · rw [if_neg hq9] at hv2
      refine V_iload_n hc dX10_knows_12 rfl 1 rfl ?_
      refine V_aload_n hc dX10_knows_13 rfl 0 rfl ?_
      obtain ⟨a4, ha4, hv2⟩ := mb hv2
      refine C_getr hc rfl iW10 (by decide) 3 (by decide) rfl ha4 w2_78 dX10_knows_14 ?_
      obtain ⟨v5, hv5, hv2⟩ := mb hv2
      refine C_alenr hc hT (by decide) (by decide) hv5 dX10_knows_17 ?_
      refine V_icmp_ge hc dX10_knows_18 rfl (fun hq18 => ?_) (fun hq18 => ?_)
      · rw [if_pos hq18] at hv2
        refine V_iconst hc (v := (0 : Int32)) dX10_knows_25 rfl ?_
        obtain rfl := Option.some.inj hv2
        exact V_sub [] rfl hJ1
      · rw [if_neg hq18] at hv2
        refine V_iconst hc (v := (1 : Int32)) dX10_knows_21 rfl ?_
        refine V_goto hc dX10_knows_22 rfl ?_
        obtain rfl := Option.some.inj hv2
        exact V_sub [] rfl hJ1
noncomputable def f10_isAhead (S : CS) (h : Nat) (p1 : Int32) (p2 : Int32) : Option (Int32) :=
  (gi S 10 h 7).bind fun v1 =>
  if v1 = 0 then (
    (
      if p2 ≤ p1 then (
        some (0 : Int32)
      ) else (
        some (1 : Int32)
      )
    ).bind fun v6 =>
    (bz v6).bind fun v8 =>
    some v8
  ) else (
    (gi S 10 h 7).bind fun v2 =>
    (
      if v2 = (1 : Int32) then (
        if p1 ≤ p2 then (
          some (0 : Int32)
        ) else (
          some (1 : Int32)
        )
      ) else (
        some (0 : Int32)
      )
    ).bind fun v3 =>
    (bz v3).bind fun v5 =>
    some v5
  )
theorem hdX_X10_isAhead : yX10_isAhead.cls = "FarEditors$World" ∧ yX10_isAhead.cls ≠ "java/lang/invoke/MethodHandle" ∧ yX10_isAhead.cls ≠ "java/lang/invoke/VarHandle" ∧ (parseMethodDescriptor yX10_isAhead.desc).map (fun d => d.parameters.length) = some 2 := by decide +kernel
set_option maxHeartbeats 4000000 in
set_option maxRecDepth 100000 in
theorem c10_isAhead (l : Launch) (D : va_G) (y : CyT) (zM uM : Nat) {S : CS} {h : Nat} {p1 : Int32} {p2 : Int32} {r : Int32} (hf : f10_isAhead S h p1 p2 = some r) : CT l D (tyL y) yX10_isAhead cX10_isAhead 3 (some .boolean) 0 0 zM uM [.ref h, .int p1, .int p2] (cZ S) (cU S) (cw y S) (cZ S) (cU S) (cw y S) (some (.int r)) := by
  refine CT.of (by decide) (Nat.le_of_ble_eq_true rfl) (fun E hc hz hnm => ?_)
  have hc : Cx E "FarEditors$World" cX10_isAhead 3 := hc
  have hT := hz.2.2.1
  show V E (cZ S) (cU S) (cw y S) 0 [(0, .ref h), (1, .int p1), (2, .int p2)] []
  unfold f10_isAhead at hf
  refine V_aload_n hc dX10_isAhead_0 rfl 0 rfl ?_
  obtain ⟨v1, hv1, hf⟩ := mb hf
  refine C_geti hc rfl iW10 (by decide) 7 (by decide) rfl hv1 w2_87 dX10_isAhead_1 ?_
  refine V_if_ne hc dX10_isAhead_4 rfl (fun hq4 => ?_) (fun hq4 => ?_)
  · rw [if_neg hq4] at hf
    refine V_aload_n hc dX10_isAhead_18 rfl 0 rfl ?_
    obtain ⟨v2, hv2, hf⟩ := mb hf
    refine C_geti hc rfl iW10 (by decide) 7 (by decide) rfl hv2 w2_87 dX10_isAhead_19 ?_
    refine V_iconst hc (v := (1 : Int32)) dX10_isAhead_22 rfl ?_
    obtain ⟨v3, hv4, hf⟩ := mb hf
    have hJ23 : V E (cZ S) (cU S) (cw y S) 36 [] [.int v3] := by
      obtain ⟨v5, hv5, hf⟩ := mb hf
      obtain ⟨hbv5, rfl⟩ := bz_some hv5
      obtain rfl := Option.some.inj hf
      exact V_iret hc hz (bz_nar hbv5) rfl rfl rfl rfl dX10_isAhead_36
    refine V_icmp_ne hc dX10_isAhead_23 rfl (fun hq23 => ?_) (fun hq23 => ?_)
    · rw [if_neg hq23] at hv4
      refine V_iconst hc (v := (0 : Int32)) dX10_isAhead_35 rfl ?_
      obtain rfl := Option.some.inj hv4
      exact V_sub [] rfl hJ23
    · rw [if_pos hq23] at hv4
      refine V_iload_n hc dX10_isAhead_26 rfl 1 rfl ?_
      refine V_iload_n hc dX10_isAhead_27 rfl 2 rfl ?_
      refine V_icmp_le hc dX10_isAhead_28 rfl (fun hq28 => ?_) (fun hq28 => ?_)
      · rw [if_pos hq28] at hv4
        refine V_iconst hc (v := (0 : Int32)) dX10_isAhead_35 rfl ?_
        obtain rfl := Option.some.inj hv4
        exact V_sub [] rfl hJ23
      · rw [if_neg hq28] at hv4
        refine V_iconst hc (v := (1 : Int32)) dX10_isAhead_31 rfl ?_
        refine V_goto hc dX10_isAhead_32 rfl ?_
        obtain rfl := Option.some.inj hv4
        exact V_sub [] rfl hJ23
  · rw [if_pos hq4] at hf
    refine V_iload_n hc dX10_isAhead_7 rfl 1 rfl ?_
    refine V_iload_n hc dX10_isAhead_8 rfl 2 rfl ?_
    obtain ⟨v6, hv7, hf⟩ := mb hf
    have hJ9 : V E (cZ S) (cU S) (cw y S) 17 [] [.int v6] := by
      obtain ⟨v8, hv8, hf⟩ := mb hf
      obtain ⟨hbv8, rfl⟩ := bz_some hv8
      obtain rfl := Option.some.inj hf
      exact V_iret hc hz (bz_nar hbv8) rfl rfl rfl rfl dX10_isAhead_17
    refine V_icmp_ge hc dX10_isAhead_9 rfl (fun hq9 => ?_) (fun hq9 => ?_)
    · rw [if_pos hq9] at hv7
      refine V_iconst hc (v := (0 : Int32)) dX10_isAhead_16 rfl ?_
      obtain rfl := Option.some.inj hv7
      exact V_sub [] rfl hJ9
    · rw [if_neg hq9] at hv7
      refine V_iconst hc (v := (1 : Int32)) dX10_isAhead_12 rfl ?_
      refine V_goto hc dX10_isAhead_13 rfl ?_
      obtain rfl := Option.some.inj hv7
      exact V_sub [] rfl hJ9
noncomputable def f4_begin (X : Nat × Nat) (S : CS) (h : Nat) (p1 : Int32) : Option (CS) :=
  (gr S 4 h 0).bind fun a1 =>
  (aln S 14 a1).bind fun v2 =>
  (
    if p1 ≤ v2 then (
      some S
    ) else (
      (gr S 4 h 0).bind fun a5 =>
      (aln S 14 a5).bind fun v6 =>
      (nwa X S 14 (if p1 < ((2 : Int32) * v6) then ((2 : Int32) * v6) else p1)).bind fun S7 =>
      (pr S7 4 h 0 (cZ S)).bind fun S8 =>
      some S8
    )
  ).bind fun S3 =>
  (pi S3 4 h 1 (0 : Int32)).bind fun S9 =>
  some S9
theorem hdX_X4_begin : yX4_begin.cls = "FarEditors$Op" ∧ yX4_begin.cls ≠ "java/lang/invoke/MethodHandle" ∧ yX4_begin.cls ≠ "java/lang/invoke/VarHandle" ∧ (parseMethodDescriptor yX4_begin.desc).map (fun d => d.parameters.length) = some 1 := by decide +kernel
set_option maxHeartbeats 4000000 in
set_option maxRecDepth 100000 in
theorem c4_begin (l : Launch) (D : va_G) (y : CyT) (X : Nat × Nat) (hX : X.2 ≤ 100000000) {S S' : CS} {h : Nat} {p1 : Int32} (hf : f4_begin X S h p1 = some S') : CT l D (tyL y) yX4_begin cX4_begin 2 none 1 21 X.1 X.2 [.ref h, .int p1] (cZ S) (cU S) (cw y S) (cZ S') (cU S') (cw y S') none := by
  refine CT.of (by decide) (Nat.le_of_ble_eq_true rfl) (fun E hc hz hnm => ?_)
  have hc : Cx E "FarEditors$Op" cX4_begin 2 := hc
  have hT := hz.2.2.1
  show V E (cZ S) (cU S) (cw y S) 0 [(0, .ref h), (1, .int p1)] []
  unfold f4_begin at hf
  refine V_iload_n hc dX4_begin_0 rfl 1 rfl ?_
  refine V_aload_n hc dX4_begin_1 rfl 0 rfl ?_
  obtain ⟨a1, ha1, hf⟩ := mb hf
  refine C_getr hc rfl iW4 (by decide) 0 (by decide) rfl ha1 w1_101 dX4_begin_2 ?_
  obtain ⟨v2, hv2, hf⟩ := mb hf
  refine C_alen hc hT hv2 dX4_begin_5 ?_
  obtain ⟨S3, hv4, hf⟩ := mb hf
  have hJ6 : V E (cZ S3) (cU S3) (cw y S3) 26 [(0, .ref h)] [] := by
    refine V_aload_n hc dX4_begin_26 rfl 0 rfl ?_
    refine V_iconst hc (v := (0 : Int32)) dX4_begin_27 rfl ?_
    obtain ⟨S9, hS9, hf⟩ := mb hf
    refine C_puti hc rfl iW4 tyX4 tyX4_ok nmX4 (by decide) 1 (by decide) rfl hS9 w1_105 rfl rfl rfl dX4_begin_28 ?_
    obtain rfl := Option.some.inj hf
    exact V_vret hc hz rfl rfl rfl rfl dX4_begin_31
  refine V_icmp_le hc dX4_begin_6 rfl (fun hq6 => ?_) (fun hq6 => ?_)
  · rw [if_pos hq6] at hv4
    obtain rfl := Option.some.inj hv4
    exact V_sub [0] rfl hJ6
  · rw [if_neg hq6] at hv4
    refine V_aload_n hc dX4_begin_9 rfl 0 rfl ?_
    refine V_iload_n hc dX4_begin_10 rfl 1 rfl ?_
    refine V_iconst hc (v := (2 : Int32)) dX4_begin_11 rfl ?_
    refine V_aload_n hc dX4_begin_12 rfl 0 rfl ?_
    obtain ⟨a5, ha5, hv4⟩ := mb hv4
    refine C_getr hc rfl iW4 (by decide) 0 (by decide) rfl ha5 w1_101 dX4_begin_13 ?_
    obtain ⟨v6, hv6, hv4⟩ := mb hv4
    refine C_alen hc hT hv6 dX4_begin_16 ?_
    refine V_imul hc dX4_begin_17 ?_
    refine C_max hc hz w4_24 w4_25 w1_18 w4_26 ⟨(Nat.le_of_ble_eq_true rfl), (Nat.le_of_ble_eq_true rfl)⟩ (Nat.le_of_ble_eq_true rfl) dX4_begin_18 ?_
    obtain ⟨S7, hS7, hv4⟩ := mb hv4
    refine C_newi hc hz hS7 hX w1_82 dX4_begin_21 ?_
    obtain ⟨S8, hS8, hv4⟩ := mb hv4
    refine C_putr hc rfl iW4 tyX4 tyX4_ok nmX4 (by decide) 0 (by decide) rfl hS8 w1_101 rfl rfl rfl dX4_begin_23 ?_
    obtain rfl := Option.some.inj hv4
    exact V_sub [0] rfl hJ6
noncomputable def f5_pass (S : CS) (h : Nat) (p1 : Int32) : Option (CS) :=
  (gi S 5 h 3).bind fun v1 =>
  (pi S 5 h 3 (v1 - p1)).bind fun S2 =>
  (gi S2 5 h 3).bind fun v3 =>
  (
    if 0 < v3 then (
      some S2
    ) else (
      (gi S2 5 h 1).bind fun v6 =>
      (gi S2 5 h 1).bind fun v7 =>
      (gr S2 5 h 0).bind fun a8 =>
      (gi S2 4 a8 1).bind fun v9 =>
      (
        if v9 ≤ v7 then (
          some (0 : Int32)
        ) else (
          some (1 : Int32)
        )
      ).bind fun v10 =>
      (pi S2 5 h 1 (v6 + v10)).bind fun S12 =>
      (gi S12 5 h 1).bind fun v13 =>
      (gr S12 5 h 0).bind fun a14 =>
      (gi S12 4 a14 1).bind fun v15 =>
      (
        if v15 ≤ v13 then (
          some (0 : Int32)
        ) else (
          (gr S12 5 h 0).bind fun a18 =>
          (gr S12 4 a18 0).bind fun a19 =>
          (gi S12 5 h 1).bind fun v20 =>
          (ldi S12 a19 v20).bind fun v21 =>
          some v21
        )
      ).bind fun v16 =>
      (pi S12 5 h 2 v16).bind fun S22 =>
      (gi S22 5 h 2).bind fun v23 =>
      (
        if 0 ≤ v23 then (
          (gi S22 5 h 2).bind fun v26 =>
          if v26 ≤ (31 : Int32) then (
            (gi S22 5 h 2).bind fun v27 =>
            if v27 ≤ 0 then (
              some (0 : Int32)
            ) else (
              some (1 : Int32)
            )
          ) else (
            (gi S22 5 h 2).bind fun v28 =>
            some (v28 - (31 : Int32))
          )
        ) else (
          (gi S22 5 h 2).bind fun v29 =>
          some (-v29)
        )
      ).bind fun v24 =>
      (pi S22 5 h 3 v24).bind fun S30 =>
      some S30
    )
  ).bind fun S4 =>
  some S4
theorem hdX_X5_pass : yX5_pass.cls = "FarEditors$Reader" ∧ yX5_pass.cls ≠ "java/lang/invoke/MethodHandle" ∧ yX5_pass.cls ≠ "java/lang/invoke/VarHandle" ∧ (parseMethodDescriptor yX5_pass.desc).map (fun d => d.parameters.length) = some 1 := by decide +kernel
set_option maxHeartbeats 4000000 in
set_option maxRecDepth 100000 in
theorem c5_pass (l : Launch) (D : va_G) (y : CyT) (zM uM : Nat) {S S' : CS} {h : Nat} {p1 : Int32} (hf : f5_pass S h p1 = some S') : CT l D (tyL y) yX5_pass cX5_pass 2 none 0 0 zM uM [.ref h, .int p1] (cZ S) (cU S) (cw y S) (cZ S') (cU S') (cw y S') none := by
  refine CT.of (by decide) (Nat.le_of_ble_eq_true rfl) (fun E hc hz hnm => ?_)
  have hc : Cx E "FarEditors$Reader" cX5_pass 2 := hc
  have hT := hz.2.2.1
  show V E (cZ S) (cU S) (cw y S) 0 [(0, .ref h), (1, .int p1)] []
  unfold f5_pass at hf
  refine V_aload_n hc dX5_pass_0 rfl 0 rfl ?_
  refine V_dup hc dX5_pass_1 rfl ?_
  obtain ⟨v1, hv1, hf⟩ := mb hf
  refine C_geti hc rfl iW5 (by decide) 3 (by decide) rfl hv1 w1_118 dX5_pass_2 ?_
  refine V_iload_n hc dX5_pass_5 rfl 1 rfl ?_
  refine V_isub hc dX5_pass_6 ?_
  obtain ⟨S2, hS2, hf⟩ := mb hf
  refine C_puti hc rfl iW5 tyX5 tyX5_ok nmX5 (by decide) 3 (by decide) rfl hS2 w1_118 rfl rfl rfl dX5_pass_7 ?_
  refine V_aload_n hc dX5_pass_10 rfl 0 rfl ?_
  obtain ⟨v3, hv3, hf⟩ := mb hf
  refine C_geti hc rfl iW5 (by decide) 3 (by decide) rfl hv3 w1_118 dX5_pass_11 ?_
  obtain ⟨S4, hv5, hf⟩ := mb hf
  have hJ14 : V E (cZ S4) (cU S4) (cw y S4) 129 [] [] := by
    obtain rfl := Option.some.inj hf
    exact V_vret hc hz rfl rfl rfl rfl dX5_pass_129
  refine V_if_gt hc dX5_pass_14 rfl (fun hq14 => ?_) (fun hq14 => ?_)
  · rw [if_pos hq14] at hv5
    obtain rfl := Option.some.inj hv5
    exact V_sub [] rfl hJ14
  · rw [if_neg hq14] at hv5
    refine V_aload_n hc dX5_pass_17 rfl 0 rfl ?_
    refine V_dup hc dX5_pass_18 rfl ?_
    obtain ⟨v6, hv6, hv5⟩ := mb hv5
    refine C_geti hc rfl iW5 (by decide) 1 (by decide) rfl hv6 w1_115 dX5_pass_19 ?_
    refine V_aload_n hc dX5_pass_22 rfl 0 rfl ?_
    obtain ⟨v7, hv7, hv5⟩ := mb hv5
    refine C_geti hc rfl iW5 (by decide) 1 (by decide) rfl hv7 w1_115 dX5_pass_23 ?_
    refine V_aload_n hc dX5_pass_26 rfl 0 rfl ?_
    obtain ⟨a8, ha8, hv5⟩ := mb hv5
    refine C_getr hc rfl iW5 (by decide) 0 (by decide) rfl ha8 w1_114 dX5_pass_27 ?_
    obtain ⟨v9, hv9, hv5⟩ := mb hv5
    refine C_geti hc rfl iW4 (by decide) 1 (by decide) rfl hv9 w1_107 dX5_pass_30 ?_
    obtain ⟨v10, hv11, hv5⟩ := mb hv5
    have hJ33 : V E (cZ S2) (cU S2) (cw y S2) 41 [(0, .ref h)] [.int v10, .int v6, .ref h] := by
      refine V_iadd hc dX5_pass_41 ?_
      obtain ⟨S12, hS12, hv5⟩ := mb hv5
      refine C_puti hc rfl iW5 tyX5 tyX5_ok nmX5 (by decide) 1 (by decide) rfl hS12 w1_115 rfl rfl rfl dX5_pass_42 ?_
      refine V_aload_n hc dX5_pass_45 rfl 0 rfl ?_
      refine V_aload_n hc dX5_pass_46 rfl 0 rfl ?_
      obtain ⟨v13, hv13, hv5⟩ := mb hv5
      refine C_geti hc rfl iW5 (by decide) 1 (by decide) rfl hv13 w1_115 dX5_pass_47 ?_
      refine V_aload_n hc dX5_pass_50 rfl 0 rfl ?_
      obtain ⟨a14, ha14, hv5⟩ := mb hv5
      refine C_getr hc rfl iW5 (by decide) 0 (by decide) rfl ha14 w1_114 dX5_pass_51 ?_
      obtain ⟨v15, hv15, hv5⟩ := mb hv5
      refine C_geti hc rfl iW4 (by decide) 1 (by decide) rfl hv15 w1_107 dX5_pass_54 ?_
      obtain ⟨v16, hv17, hv5⟩ := mb hv5
      have hJ57 : V E (cZ S12) (cU S12) (cw y S12) 76 [(0, .ref h)] [.int v16, .ref h] := by
        obtain ⟨S22, hS22, hv5⟩ := mb hv5
        refine C_puti hc rfl iW5 tyX5 tyX5_ok nmX5 (by decide) 2 (by decide) rfl hS22 w1_116 rfl rfl rfl dX5_pass_76 ?_
        refine V_aload_n hc dX5_pass_79 rfl 0 rfl ?_
        refine V_aload_n hc dX5_pass_80 rfl 0 rfl ?_
        obtain ⟨v23, hv23, hv5⟩ := mb hv5
        refine C_geti hc rfl iW5 (by decide) 2 (by decide) rfl hv23 w1_116 dX5_pass_81 ?_
        obtain ⟨v24, hv25, hv5⟩ := mb hv5
        have hJ84 : V E (cZ S22) (cU S22) (cw y S22) 126 [] [.int v24, .ref h] := by
          obtain ⟨S30, hS30, hv5⟩ := mb hv5
          refine C_puti hc rfl iW5 tyX5 tyX5_ok nmX5 (by decide) 3 (by decide) rfl hS30 w1_118 rfl rfl rfl dX5_pass_126 ?_
          obtain rfl := Option.some.inj hv5
          exact V_sub [] rfl hJ14
        refine V_if_ge hc dX5_pass_84 rfl (fun hq84 => ?_) (fun hq84 => ?_)
        · rw [if_pos hq84] at hv25
          refine V_aload_n hc dX5_pass_95 rfl 0 rfl ?_
          obtain ⟨v26, hv26, hv25⟩ := mb hv25
          refine C_geti hc rfl iW5 (by decide) 2 (by decide) rfl hv26 w1_116 dX5_pass_96 ?_
          refine V_bipush hc (v := (31 : Int32)) dX5_pass_99 rfl ?_
          refine V_icmp_le hc dX5_pass_101 rfl (fun hq101 => ?_) (fun hq101 => ?_)
          · rw [if_pos hq101] at hv25
            refine V_aload_n hc dX5_pass_114 rfl 0 rfl ?_
            obtain ⟨v27, hv27, hv25⟩ := mb hv25
            refine C_geti hc rfl iW5 (by decide) 2 (by decide) rfl hv27 w1_116 dX5_pass_115 ?_
            refine V_if_le hc dX5_pass_118 rfl (fun hq118 => ?_) (fun hq118 => ?_)
            · rw [if_pos hq118] at hv25
              refine V_iconst hc (v := (0 : Int32)) dX5_pass_125 rfl ?_
              obtain rfl := Option.some.inj hv25
              exact V_sub [] rfl hJ84
            · rw [if_neg hq118] at hv25
              refine V_iconst hc (v := (1 : Int32)) dX5_pass_121 rfl ?_
              refine V_goto hc dX5_pass_122 rfl ?_
              obtain rfl := Option.some.inj hv25
              exact V_sub [] rfl hJ84
          · rw [if_neg hq101] at hv25
            refine V_aload_n hc dX5_pass_104 rfl 0 rfl ?_
            obtain ⟨v28, hv28, hv25⟩ := mb hv25
            refine C_geti hc rfl iW5 (by decide) 2 (by decide) rfl hv28 w1_116 dX5_pass_105 ?_
            refine V_bipush hc (v := (31 : Int32)) dX5_pass_108 rfl ?_
            refine V_isub hc dX5_pass_110 ?_
            refine V_goto hc dX5_pass_111 rfl ?_
            obtain rfl := Option.some.inj hv25
            exact V_sub [] rfl hJ84
        · rw [if_neg hq84] at hv25
          refine V_aload_n hc dX5_pass_87 rfl 0 rfl ?_
          obtain ⟨v29, hv29, hv25⟩ := mb hv25
          refine C_geti hc rfl iW5 (by decide) 2 (by decide) rfl hv29 w1_116 dX5_pass_88 ?_
          refine V_ineg hc dX5_pass_91 ?_
          refine V_goto hc dX5_pass_92 rfl ?_
          obtain rfl := Option.some.inj hv25
          exact V_sub [] rfl hJ84
      refine V_icmp_ge hc dX5_pass_57 rfl (fun hq57 => ?_) (fun hq57 => ?_)
      · rw [if_pos hq57] at hv17
        refine V_iconst hc (v := (0 : Int32)) dX5_pass_75 rfl ?_
        obtain rfl := Option.some.inj hv17
        exact V_sub [0] rfl hJ57
      · rw [if_neg hq57] at hv17
        refine V_aload_n hc dX5_pass_60 rfl 0 rfl ?_
        obtain ⟨a18, ha18, hv17⟩ := mb hv17
        refine C_getr hc rfl iW5 (by decide) 0 (by decide) rfl ha18 w1_114 dX5_pass_61 ?_
        obtain ⟨a19, ha19, hv17⟩ := mb hv17
        refine C_getr hc rfl iW4 (by decide) 0 (by decide) rfl ha19 w1_103 dX5_pass_64 ?_
        refine V_aload_n hc dX5_pass_67 rfl 0 rfl ?_
        obtain ⟨v20, hv20, hv17⟩ := mb hv17
        refine C_geti hc rfl iW5 (by decide) 1 (by decide) rfl hv20 w1_115 dX5_pass_68 ?_
        obtain ⟨v21, hv21, hv17⟩ := mb hv17
        refine C_iald hc hT hv21 dX5_pass_71 ?_
        refine V_goto hc dX5_pass_72 rfl ?_
        obtain rfl := Option.some.inj hv17
        exact V_sub [0] rfl hJ57
    refine V_icmp_ge hc dX5_pass_33 rfl (fun hq33 => ?_) (fun hq33 => ?_)
    · rw [if_pos hq33] at hv11
      refine V_iconst hc (v := (0 : Int32)) dX5_pass_40 rfl ?_
      obtain rfl := Option.some.inj hv11
      exact V_sub [0] rfl hJ33
    · rw [if_neg hq33] at hv11
      refine V_iconst hc (v := (1 : Int32)) dX5_pass_36 rfl ?_
      refine V_goto hc dX5_pass_37 rfl ?_
      obtain rfl := Option.some.inj hv11
      exact V_sub [0] rfl hJ33
noncomputable def f5_open (S : CS) (h : Nat) (p1 : Nat) : Option (CS) :=
  (pr S 5 h 0 p1).bind fun S1 =>
  (pi S1 5 h 1 (-1 : Int32)).bind fun S2 =>
  (pi S2 5 h 3 (0 : Int32)).bind fun S3 =>
  (cal S3 5 h (f5_pass S3 h (0 : Int32))).bind fun S4 =>
  some S4
theorem hdX_X5_open : yX5_open.cls = "FarEditors$Reader" ∧ yX5_open.cls ≠ "java/lang/invoke/MethodHandle" ∧ yX5_open.cls ≠ "java/lang/invoke/VarHandle" ∧ (parseMethodDescriptor yX5_open.desc).map (fun d => d.parameters.length) = some 1 := by decide +kernel
set_option maxHeartbeats 4000000 in
set_option maxRecDepth 100000 in
theorem c5_open (l : Launch) (D : va_G) (y : CyT) (zM uM : Nat) {S S' : CS} {h : Nat} {p1 : Nat} (hf : f5_open S h p1 = some S') : CT l D (tyL y) yX5_open cX5_open 2 none 1 21 zM uM [.ref h, .ref p1] (cZ S) (cU S) (cw y S) (cZ S') (cU S') (cw y S') none := by
  refine CT.of (by decide) (Nat.le_of_ble_eq_true rfl) (fun E hc hz hnm => ?_)
  have hc : Cx E "FarEditors$Reader" cX5_open 2 := hc
  have hT := hz.2.2.1
  show V E (cZ S) (cU S) (cw y S) 0 [(0, .ref h), (1, .ref p1)] []
  unfold f5_open at hf
  refine V_aload_n hc dX5_open_0 rfl 0 rfl ?_
  refine V_aload_n hc dX5_open_1 rfl 1 rfl ?_
  obtain ⟨S1, hS1, hf⟩ := mb hf
  refine C_putr hc rfl iW5 tyX5 tyX5_ok nmX5 (by decide) 0 (by decide) rfl hS1 w1_114 rfl rfl rfl dX5_open_2 ?_
  refine V_aload_n hc dX5_open_5 rfl 0 rfl ?_
  refine V_iconst hc (v := (-1 : Int32)) dX5_open_6 rfl ?_
  obtain ⟨S2, hS2, hf⟩ := mb hf
  refine C_puti hc rfl iW5 tyX5 tyX5_ok nmX5 (by decide) 1 (by decide) rfl hS2 w1_115 rfl rfl rfl dX5_open_7 ?_
  refine V_aload_n hc dX5_open_10 rfl 0 rfl ?_
  refine V_iconst hc (v := (0 : Int32)) dX5_open_11 rfl ?_
  obtain ⟨S3, hS3, hf⟩ := mb hf
  refine C_puti hc rfl iW5 tyX5 tyX5_ok nmX5 (by decide) 3 (by decide) rfl hS3 w1_118 rfl rfl rfl dX5_open_12 ?_
  refine V_aload_n hc dX5_open_15 rfl 0 rfl ?_
  refine V_iconst hc (v := (0 : Int32)) dX5_open_16 rfl ?_
  obtain ⟨S4, hS4, hf⟩ := mb hf
  obtain ⟨hkS4, hS4⟩ := og hS4
  refine C_callV hc hz (As := [.int (0 : Int32)]) hkS4 (by decide) (c5_pass l D y _ _ hS4) w4_31 w4_32 w4_33 w1_4 w4_34 hdX_X5_pass ⟨(Nat.le_of_ble_eq_true rfl), (Nat.le_of_ble_eq_true rfl)⟩ rfl rfl rfl (Nat.le_of_ble_eq_true rfl) dX5_open_17 ?_
  obtain rfl := Option.some.inj hf
  exact V_vret hc hz rfl rfl rfl rfl dX5_open_20
noncomputable def f5_isAtPut (S : CS) (h : Nat) : Option (Int32) :=
  (gi S 5 h 2).bind fun v1 =>
  (
    if v1 ≤ 0 then (
      some (0 : Int32)
    ) else (
      (gi S 5 h 2).bind fun v4 =>
      if (31 : Int32) < v4 then (
        some (0 : Int32)
      ) else (
        some (1 : Int32)
      )
    )
  ).bind fun v2 =>
  (bz v2).bind fun v5 =>
  some v5
theorem hdX_X5_isAtPut : yX5_isAtPut.cls = "FarEditors$Reader" ∧ yX5_isAtPut.cls ≠ "java/lang/invoke/MethodHandle" ∧ yX5_isAtPut.cls ≠ "java/lang/invoke/VarHandle" ∧ (parseMethodDescriptor yX5_isAtPut.desc).map (fun d => d.parameters.length) = some 0 := by decide +kernel
set_option maxHeartbeats 4000000 in
set_option maxRecDepth 100000 in
theorem c5_isAtPut (l : Launch) (D : va_G) (y : CyT) (zM uM : Nat) {S : CS} {h : Nat} {r : Int32} (hf : f5_isAtPut S h = some r) : CT l D (tyL y) yX5_isAtPut cX5_isAtPut 1 (some .boolean) 0 0 zM uM [.ref h] (cZ S) (cU S) (cw y S) (cZ S) (cU S) (cw y S) (some (.int r)) := by
  refine CT.of (by decide) (Nat.le_of_ble_eq_true rfl) (fun E hc hz hnm => ?_)
  have hc : Cx E "FarEditors$Reader" cX5_isAtPut 1 := hc
  have hT := hz.2.2.1
  show V E (cZ S) (cU S) (cw y S) 0 [(0, .ref h)] []
  unfold f5_isAtPut at hf
  refine V_aload_n hc dX5_isAtPut_0 rfl 0 rfl ?_
  obtain ⟨v1, hv1, hf⟩ := mb hf
  refine C_geti hc rfl iW5 (by decide) 2 (by decide) rfl hv1 w1_116 dX5_isAtPut_1 ?_
  obtain ⟨v2, hv3, hf⟩ := mb hf
  have hJ4 : V E (cZ S) (cU S) (cw y S) 21 [] [.int v2] := by
    obtain ⟨v5, hv5, hf⟩ := mb hf
    obtain ⟨hbv5, rfl⟩ := bz_some hv5
    obtain rfl := Option.some.inj hf
    exact V_iret hc hz (bz_nar hbv5) rfl rfl rfl rfl dX5_isAtPut_21
  refine V_if_le hc dX5_isAtPut_4 rfl (fun hq4 => ?_) (fun hq4 => ?_)
  · rw [if_pos hq4] at hv3
    refine V_iconst hc (v := (0 : Int32)) dX5_isAtPut_20 rfl ?_
    obtain rfl := Option.some.inj hv3
    exact V_sub [] rfl hJ4
  · rw [if_neg hq4] at hv3
    refine V_aload_n hc dX5_isAtPut_7 rfl 0 rfl ?_
    obtain ⟨v4, hv4, hv3⟩ := mb hv3
    refine C_geti hc rfl iW5 (by decide) 2 (by decide) rfl hv4 w1_116 dX5_isAtPut_8 ?_
    refine V_bipush hc (v := (31 : Int32)) dX5_isAtPut_11 rfl ?_
    refine V_icmp_gt hc dX5_isAtPut_13 rfl (fun hq13 => ?_) (fun hq13 => ?_)
    · rw [if_pos hq13] at hv3
      refine V_iconst hc (v := (0 : Int32)) dX5_isAtPut_20 rfl ?_
      obtain rfl := Option.some.inj hv3
      exact V_sub [] rfl hJ4
    · rw [if_neg hq13] at hv3
      refine V_iconst hc (v := (1 : Int32)) dX5_isAtPut_16 rfl ?_
      refine V_goto hc dX5_isAtPut_17 rfl ?_
      obtain rfl := Option.some.inj hv3
      exact V_sub [] rfl hJ4
noncomputable def f4_addPut (S : CS) (h : Nat) (p1 : Int32) : Option (CS) :=
  (gi S 4 h 1).bind fun v1 =>
  (gr S 4 h 0).bind fun a2 =>
  (aln S 14 a2).bind fun v3 =>
  if v1 < v3 then (
    (gr S 4 h 0).bind fun a4 =>
    (gi S 4 h 1).bind fun v5 =>
    (sti S a4 v5 p1).bind fun S6 =>
    (gi S6 4 h 1).bind fun v7 =>
    (
      if v7 ≤ 0 then (
        some S6
      ) else (
        (gr S6 4 h 0).bind fun a10 =>
        (gi S6 4 h 1).bind fun v11 =>
        (ldi S6 a10 (v11 - (1 : Int32))).bind fun v12 =>
        if 0 ≤ v12 then (
          some S6
        ) else (
          (gr S6 4 h 0).bind fun a13 =>
          (gi S6 4 h 1).bind fun v14 =>
          (gr S6 4 h 0).bind fun a15 =>
          (gi S6 4 h 1).bind fun v16 =>
          (ldi S6 a15 (v16 - (1 : Int32))).bind fun v17 =>
          (sti S6 a13 v14 v17).bind fun S18 =>
          (gr S18 4 h 0).bind fun a19 =>
          (gi S18 4 h 1).bind fun v20 =>
          (sti S18 a19 (v20 - (1 : Int32)) p1).bind fun S21 =>
          some S21
        )
      )
    ).bind fun S8 =>
    (gi S8 4 h 1).bind fun v22 =>
    (pi S8 4 h 1 (v22 + (1 : Int32))).bind fun S23 =>
    some S23
  ) else (
    some S
  )
theorem hdX_X4_addPut : yX4_addPut.cls = "FarEditors$Op" ∧ yX4_addPut.cls ≠ "java/lang/invoke/MethodHandle" ∧ yX4_addPut.cls ≠ "java/lang/invoke/VarHandle" ∧ (parseMethodDescriptor yX4_addPut.desc).map (fun d => d.parameters.length) = some 1 := by decide +kernel
set_option maxHeartbeats 4000000 in
set_option maxRecDepth 100000 in
theorem c4_addPut (l : Launch) (D : va_G) (y : CyT) (zM uM : Nat) {S S' : CS} {h : Nat} {p1 : Int32} (hf : f4_addPut S h p1 = some S') : CT l D (tyL y) yX4_addPut cX4_addPut 2 none 0 0 zM uM [.ref h, .int p1] (cZ S) (cU S) (cw y S) (cZ S') (cU S') (cw y S') none := by
  refine CT.of (by decide) (Nat.le_of_ble_eq_true rfl) (fun E hc hz hnm => ?_)
  have hc : Cx E "FarEditors$Op" cX4_addPut 2 := hc
  have hT := hz.2.2.1
  show V E (cZ S) (cU S) (cw y S) 0 [(0, .ref h), (1, .int p1)] []
  unfold f4_addPut at hf
  refine V_aload_n hc dX4_addPut_0 rfl 0 rfl ?_
  obtain ⟨v1, hv1, hf⟩ := mb hf
  refine C_geti hc rfl iW4 (by decide) 1 (by decide) rfl hv1 w1_105 dX4_addPut_1 ?_
  refine V_aload_n hc dX4_addPut_4 rfl 0 rfl ?_
  obtain ⟨a2, ha2, hf⟩ := mb hf
  refine C_getr hc rfl iW4 (by decide) 0 (by decide) rfl ha2 w1_101 dX4_addPut_5 ?_
  obtain ⟨v3, hv3, hf⟩ := mb hf
  refine C_alen hc hT hv3 dX4_addPut_8 ?_
  refine V_icmp_lt hc dX4_addPut_9 rfl (fun hq9 => ?_) (fun hq9 => ?_)
  · rw [if_pos hq9] at hf
    refine V_aload_n hc dX4_addPut_13 rfl 0 rfl ?_
    obtain ⟨a4, ha4, hf⟩ := mb hf
    refine C_getr hc rfl iW4 (by decide) 0 (by decide) rfl ha4 w1_101 dX4_addPut_14 ?_
    refine V_aload_n hc dX4_addPut_17 rfl 0 rfl ?_
    obtain ⟨v5, hv5, hf⟩ := mb hf
    refine C_geti hc rfl iW4 (by decide) 1 (by decide) rfl hv5 w1_105 dX4_addPut_18 ?_
    refine V_iload_n hc dX4_addPut_21 rfl 1 rfl ?_
    obtain ⟨S6, hS6, hf⟩ := mb hf
    refine C_iast hc hT hS6 dX4_addPut_22 ?_
    refine V_aload_n hc dX4_addPut_23 rfl 0 rfl ?_
    obtain ⟨v7, hv7, hf⟩ := mb hf
    refine C_geti hc rfl iW4 (by decide) 1 (by decide) rfl hv7 w1_105 dX4_addPut_24 ?_
    obtain ⟨S8, hv9, hf⟩ := mb hf
    have hJ27 : V E (cZ S8) (cU S8) (cw y S8) 76 [(0, .ref h)] [] := by
      refine V_aload_n hc dX4_addPut_76 rfl 0 rfl ?_
      refine V_dup hc dX4_addPut_77 rfl ?_
      obtain ⟨v22, hv22, hf⟩ := mb hf
      refine C_geti hc rfl iW4 (by decide) 1 (by decide) rfl hv22 w1_105 dX4_addPut_78 ?_
      refine V_iconst hc (v := (1 : Int32)) dX4_addPut_81 rfl ?_
      refine V_iadd hc dX4_addPut_82 ?_
      obtain ⟨S23, hS23, hf⟩ := mb hf
      refine C_puti hc rfl iW4 tyX4 tyX4_ok nmX4 (by decide) 1 (by decide) rfl hS23 w1_105 rfl rfl rfl dX4_addPut_83 ?_
      obtain rfl := Option.some.inj hf
      exact V_vret hc hz rfl rfl rfl rfl dX4_addPut_86
    refine V_if_le hc dX4_addPut_27 rfl (fun hq27 => ?_) (fun hq27 => ?_)
    · rw [if_pos hq27] at hv9
      obtain rfl := Option.some.inj hv9
      exact V_sub [0] rfl hJ27
    · rw [if_neg hq27] at hv9
      refine V_aload_n hc dX4_addPut_30 rfl 0 rfl ?_
      obtain ⟨a10, ha10, hv9⟩ := mb hv9
      refine C_getr hc rfl iW4 (by decide) 0 (by decide) rfl ha10 w1_101 dX4_addPut_31 ?_
      refine V_aload_n hc dX4_addPut_34 rfl 0 rfl ?_
      obtain ⟨v11, hv11, hv9⟩ := mb hv9
      refine C_geti hc rfl iW4 (by decide) 1 (by decide) rfl hv11 w1_105 dX4_addPut_35 ?_
      refine V_iconst hc (v := (1 : Int32)) dX4_addPut_38 rfl ?_
      refine V_isub hc dX4_addPut_39 ?_
      obtain ⟨v12, hv12, hv9⟩ := mb hv9
      refine C_iald hc hT hv12 dX4_addPut_40 ?_
      refine V_if_ge hc dX4_addPut_41 rfl (fun hq41 => ?_) (fun hq41 => ?_)
      · rw [if_pos hq41] at hv9
        obtain rfl := Option.some.inj hv9
        exact V_sub [0] rfl hJ27
      · rw [if_neg hq41] at hv9
        refine V_aload_n hc dX4_addPut_44 rfl 0 rfl ?_
        obtain ⟨a13, ha13, hv9⟩ := mb hv9
        refine C_getr hc rfl iW4 (by decide) 0 (by decide) rfl ha13 w1_101 dX4_addPut_45 ?_
        refine V_aload_n hc dX4_addPut_48 rfl 0 rfl ?_
        obtain ⟨v14, hv14, hv9⟩ := mb hv9
        refine C_geti hc rfl iW4 (by decide) 1 (by decide) rfl hv14 w1_105 dX4_addPut_49 ?_
        refine V_aload_n hc dX4_addPut_52 rfl 0 rfl ?_
        obtain ⟨a15, ha15, hv9⟩ := mb hv9
        refine C_getr hc rfl iW4 (by decide) 0 (by decide) rfl ha15 w1_101 dX4_addPut_53 ?_
        refine V_aload_n hc dX4_addPut_56 rfl 0 rfl ?_
        obtain ⟨v16, hv16, hv9⟩ := mb hv9
        refine C_geti hc rfl iW4 (by decide) 1 (by decide) rfl hv16 w1_105 dX4_addPut_57 ?_
        refine V_iconst hc (v := (1 : Int32)) dX4_addPut_60 rfl ?_
        refine V_isub hc dX4_addPut_61 ?_
        obtain ⟨v17, hv17, hv9⟩ := mb hv9
        refine C_iald hc hT hv17 dX4_addPut_62 ?_
        obtain ⟨S18, hS18, hv9⟩ := mb hv9
        refine C_iast hc hT hS18 dX4_addPut_63 ?_
        refine V_aload_n hc dX4_addPut_64 rfl 0 rfl ?_
        obtain ⟨a19, ha19, hv9⟩ := mb hv9
        refine C_getr hc rfl iW4 (by decide) 0 (by decide) rfl ha19 w1_101 dX4_addPut_65 ?_
        refine V_aload_n hc dX4_addPut_68 rfl 0 rfl ?_
        obtain ⟨v20, hv20, hv9⟩ := mb hv9
        refine C_geti hc rfl iW4 (by decide) 1 (by decide) rfl hv20 w1_105 dX4_addPut_69 ?_
        refine V_iconst hc (v := (1 : Int32)) dX4_addPut_72 rfl ?_
        refine V_isub hc dX4_addPut_73 ?_
        refine V_iload_n hc dX4_addPut_74 rfl 1 rfl ?_
        obtain ⟨S21, hS21, hv9⟩ := mb hv9
        refine C_iast hc hT hS21 dX4_addPut_75 ?_
        obtain rfl := Option.some.inj hv9
        exact V_sub [0] rfl hJ27
  · rw [if_neg hq9] at hf
    obtain rfl := Option.some.inj hf
    exact V_vret hc hz rfl rfl rfl rfl dX4_addPut_12
