noncomputable def f1_begin (S : CS) (h : Nat) (p1 : Nat) : Option (CS) :=
  (gr S 1 h 0).bind fun a1 =>
  (cal S 7 a1 (f7_copy S a1 p1)).bind fun S2 =>
  (gr S2 1 h 3).bind fun a3 =>
  (pi S2 3 a3 1 (0 : Int32)).bind fun S4 =>
  (gr S4 1 h 4).bind fun a5 =>
  (pi S4 3 a5 1 (0 : Int32)).bind fun S6 =>
  (pi S6 1 h 7 (0 : Int32)).bind fun S7 =>
  (pi S7 1 h 8 (0 : Int32)).bind fun S8 =>
  (pi S8 1 h 9 (0 : Int32)).bind fun S9 =>
  (pi S9 1 h 10 (1 : Int32)).bind fun S10 =>
  (pi S10 1 h 11 (-1 : Int32)).bind fun S11 =>
  (pi S11 1 h 12 (0 : Int32)).bind fun S12 =>
  (pi S12 1 h 13 (0 : Int32)).bind fun S13 =>
  (pi S13 1 h 14 (1 : Int32)).bind fun S14 =>
  some S14
theorem hdX_X1_begin : yX1_begin.cls = "FarEditors$Editor" ∧ yX1_begin.cls ≠ "java/lang/invoke/MethodHandle" ∧ yX1_begin.cls ≠ "java/lang/invoke/VarHandle" ∧ (parseMethodDescriptor yX1_begin.desc).map (fun d => d.parameters.length) = some 1 := by decide +kernel
set_option maxHeartbeats 4000000 in
set_option maxRecDepth 100000 in
theorem c1_begin (l : Launch) (D : va_G) (y : CyT) (zM uM : Nat) {S S' : CS} {h : Nat} {p1 : Nat} (hf : f1_begin S h p1 = some S') : CT l D (tyL y) yX1_begin cX1_begin 2 none 2 47 zM uM [.ref h, .ref p1] (cZ S) (cU S) (cw y S) (cZ S') (cU S') (cw y S') none := by
  refine CT.of (by decide) (Nat.le_of_ble_eq_true rfl) (fun E hc hz hnm => ?_)
  have hc : Cx E "FarEditors$Editor" cX1_begin 2 := hc
  have hT := hz.2.2.1
  show V E (cZ S) (cU S) (cw y S) 0 [(0, .ref h), (1, .ref p1)] []
  unfold f1_begin at hf
  refine V_aload_n hc dX1_begin_0 rfl 0 rfl ?_
  obtain ⟨a1, ha1, hf⟩ := mb hf
  refine C_getr hc rfl iW1 (by decide) 0 (by decide) rfl ha1 w1_237 dX1_begin_1 ?_
  refine V_aload_n hc dX1_begin_4 rfl 1 rfl ?_
  obtain ⟨S2, hS2, hf⟩ := mb hf
  obtain ⟨hkS2, hS2⟩ := og hS2
  refine C_callV hc hz (As := [.ref p1]) hkS2 (by decide) (c7_copy l D y _ _ hS2) w3_212 w3_205 w3_206 w1_7 w3_207 hdX_X7_copy ⟨(Nat.le_of_ble_eq_true rfl), (Nat.le_of_ble_eq_true rfl)⟩ rfl rfl rfl (Nat.le_of_ble_eq_true rfl) dX1_begin_5 ?_
  refine V_aload_n hc dX1_begin_8 rfl 0 rfl ?_
  obtain ⟨a3, ha3, hf⟩ := mb hf
  refine C_getr hc rfl iW1 (by decide) 3 (by decide) rfl ha3 w2_6 dX1_begin_9 ?_
  refine V_iconst hc (v := (0 : Int32)) dX1_begin_12 rfl ?_
  obtain ⟨S4, hS4, hf⟩ := mb hf
  refine C_puti hc rfl iW3 tyX3 tyX3_ok nmX3 (by decide) 1 (by decide) rfl hS4 w1_228 rfl rfl rfl dX1_begin_13 ?_
  refine V_aload_n hc dX1_begin_16 rfl 0 rfl ?_
  obtain ⟨a5, ha5, hf⟩ := mb hf
  refine C_getr hc rfl iW1 (by decide) 4 (by decide) rfl ha5 w2_9 dX1_begin_17 ?_
  refine V_iconst hc (v := (0 : Int32)) dX1_begin_20 rfl ?_
  obtain ⟨S6, hS6, hf⟩ := mb hf
  refine C_puti hc rfl iW3 tyX3 tyX3_ok nmX3 (by decide) 1 (by decide) rfl hS6 w1_228 rfl rfl rfl dX1_begin_21 ?_
  refine V_aload_n hc dX1_begin_24 rfl 0 rfl ?_
  refine V_iconst hc (v := (0 : Int32)) dX1_begin_25 rfl ?_
  obtain ⟨S7, hS7, hf⟩ := mb hf
  refine C_puti hc rfl iW1 tyX1 tyX1_ok nmX1 (by decide) 7 (by decide) rfl hS7 w2_16 rfl rfl rfl dX1_begin_26 ?_
  refine V_aload_n hc dX1_begin_29 rfl 0 rfl ?_
  refine V_iconst hc (v := (0 : Int32)) dX1_begin_30 rfl ?_
  obtain ⟨S8, hS8, hf⟩ := mb hf
  refine C_puti hc rfl iW1 tyX1 tyX1_ok nmX1 (by decide) 8 (by decide) rfl hS8 w2_19 rfl rfl rfl dX1_begin_31 ?_
  refine V_aload_n hc dX1_begin_34 rfl 0 rfl ?_
  refine V_iconst hc (v := (0 : Int32)) dX1_begin_35 rfl ?_
  obtain ⟨S9, hS9, hf⟩ := mb hf
  refine C_puti hc rfl iW1 tyX1 tyX1_ok nmX1 (by decide) 9 (by decide) rfl hS9 w2_22 rfl rfl rfl dX1_begin_36 ?_
  refine V_aload_n hc dX1_begin_39 rfl 0 rfl ?_
  refine V_iconst hc (v := (1 : Int32)) dX1_begin_40 rfl ?_
  obtain ⟨S10, hS10, hf⟩ := mb hf
  refine C_puti hc rfl iW1 tyX1 tyX1_ok nmX1 (by decide) 10 (by decide) rfl hS10 w2_24 rfl rfl rfl dX1_begin_41 ?_
  refine V_aload_n hc dX1_begin_44 rfl 0 rfl ?_
  refine V_iconst hc (v := (-1 : Int32)) dX1_begin_45 rfl ?_
  obtain ⟨S11, hS11, hf⟩ := mb hf
  refine C_puti hc rfl iW1 tyX1 tyX1_ok nmX1 (by decide) 11 (by decide) rfl hS11 w2_27 rfl rfl rfl dX1_begin_46 ?_
  refine V_aload_n hc dX1_begin_49 rfl 0 rfl ?_
  refine V_iconst hc (v := (0 : Int32)) dX1_begin_50 rfl ?_
  obtain ⟨S12, hS12, hf⟩ := mb hf
  refine C_puti hc rfl iW1 tyX1 tyX1_ok nmX1 (by decide) 12 (by decide) rfl hS12 w2_31 rfl rfl rfl dX1_begin_51 ?_
  refine V_aload_n hc dX1_begin_54 rfl 0 rfl ?_
  refine V_iconst hc (v := (0 : Int32)) dX1_begin_55 rfl ?_
  obtain ⟨S13, hS13, hf⟩ := mb hf
  refine C_puti hc rfl iW1 tyX1 tyX1_ok nmX1 (by decide) 13 (by decide) rfl hS13 w2_34 rfl rfl rfl dX1_begin_56 ?_
  refine V_aload_n hc dX1_begin_59 rfl 0 rfl ?_
  refine V_iconst hc (v := (1 : Int32)) dX1_begin_60 rfl ?_
  obtain ⟨S14, hS14, hf⟩ := mb hf
  refine C_puti hc rfl iW1 tyX1 tyX1_ok nmX1 (by decide) 14 (by decide) rfl hS14 w2_37 rfl rfl rfl dX1_begin_61 ?_
  obtain rfl := Option.some.inj hf
  exact V_vret hc hz rfl rfl rfl rfl dX1_begin_64
noncomputable def f1_hasMark (S : CS) (h : Nat) (p1 : Int32) : Option (Int32) :=
  (
    if p1 < 0 then (
      some (0 : Int32)
    ) else (
      (gi S 1 h 7).bind fun v3 =>
      if v3 ≤ p1 then (
        some (0 : Int32)
      ) else (
        some (1 : Int32)
      )
    )
  ).bind fun v1 =>
  (bz v1).bind fun v4 =>
  some v4
theorem hdX_X1_hasMark : yX1_hasMark.cls = "FarEditors$Editor" ∧ yX1_hasMark.cls ≠ "java/lang/invoke/MethodHandle" ∧ yX1_hasMark.cls ≠ "java/lang/invoke/VarHandle" ∧ (parseMethodDescriptor yX1_hasMark.desc).map (fun d => d.parameters.length) = some 1 := by decide +kernel
set_option maxHeartbeats 4000000 in
set_option maxRecDepth 100000 in
theorem c1_hasMark (l : Launch) (D : va_G) (y : CyT) (zM uM : Nat) {S : CS} {h : Nat} {p1 : Int32} {r : Int32} (hf : f1_hasMark S h p1 = some r) : CT l D (tyL y) yX1_hasMark cX1_hasMark 2 (some .boolean) 0 0 zM uM [.ref h, .int p1] (cZ S) (cU S) (cw y S) (cZ S) (cU S) (cw y S) (some (.int r)) := by
  refine CT.of (by decide) (Nat.le_of_ble_eq_true rfl) (fun E hc hz hnm => ?_)
  have hc : Cx E "FarEditors$Editor" cX1_hasMark 2 := hc
  have hT := hz.2.2.1
  show V E (cZ S) (cU S) (cw y S) 0 [(0, .ref h), (1, .int p1)] []
  unfold f1_hasMark at hf
  refine V_iload_n hc dX1_hasMark_0 rfl 1 rfl ?_
  obtain ⟨v1, hv2, hf⟩ := mb hf
  have hJ1 : V E (cZ S) (cU S) (cw y S) 17 [] [.int v1] := by
    obtain ⟨v4, hv4, hf⟩ := mb hf
    obtain ⟨hbv4, rfl⟩ := bz_some hv4
    obtain rfl := Option.some.inj hf
    exact V_iret hc hz (bz_nar hbv4) rfl rfl rfl rfl dX1_hasMark_17
  refine V_if_lt hc dX1_hasMark_1 rfl (fun hq1 => ?_) (fun hq1 => ?_)
  · rw [if_pos hq1] at hv2
    refine V_iconst hc (v := (0 : Int32)) dX1_hasMark_16 rfl ?_
    obtain rfl := Option.some.inj hv2
    exact V_sub [] rfl hJ1
  · rw [if_neg hq1] at hv2
    refine V_iload_n hc dX1_hasMark_4 rfl 1 rfl ?_
    refine V_aload_n hc dX1_hasMark_5 rfl 0 rfl ?_
    obtain ⟨v3, hv3, hv2⟩ := mb hv2
    refine C_geti hc rfl iW1 (by decide) 7 (by decide) rfl hv3 w2_16 dX1_hasMark_6 ?_
    refine V_icmp_ge hc dX1_hasMark_9 rfl (fun hq9 => ?_) (fun hq9 => ?_)
    · rw [if_pos hq9] at hv2
      refine V_iconst hc (v := (0 : Int32)) dX1_hasMark_16 rfl ?_
      obtain rfl := Option.some.inj hv2
      exact V_sub [] rfl hJ1
    · rw [if_neg hq9] at hv2
      refine V_iconst hc (v := (1 : Int32)) dX1_hasMark_12 rfl ?_
      refine V_goto hc dX1_hasMark_13 rfl ?_
      obtain rfl := Option.some.inj hv2
      exact V_sub [] rfl hJ1
noncomputable def f1_addMark (S : CS) (h : Nat) (p1 : Int32) (p2 : Int32) (p3 : Int32) : Option (Int32 × CS) :=
  (gi S 1 h 7).bind fun v1 =>
  (gr S 1 h 5).bind fun a2 =>
  (aln S 14 a2).bind fun v3 =>
  if (((3 : Int32) * v1) + (2 : Int32)) < v3 then (
    (gr S 1 h 5).bind fun a4 =>
    (sti S a4 ((3 : Int32) * v1) p1).bind fun S5 =>
    (gr S5 1 h 5).bind fun a6 =>
    (sti S5 a6 (((3 : Int32) * v1) + (1 : Int32)) p2).bind fun S7 =>
    (gr S7 1 h 5).bind fun a8 =>
    (sti S7 a8 (((3 : Int32) * v1) + (2 : Int32)) p3).bind fun S9 =>
    (gi S9 1 h 7).bind fun v10 =>
    (pi S9 1 h 7 (v10 + (1 : Int32))).bind fun S11 =>
    some (v10, S11)
  ) else (
    some ((-1 : Int32), S)
  )
theorem hdX_X1_addMark : yX1_addMark.cls = "FarEditors$Editor" ∧ yX1_addMark.cls ≠ "java/lang/invoke/MethodHandle" ∧ yX1_addMark.cls ≠ "java/lang/invoke/VarHandle" ∧ (parseMethodDescriptor yX1_addMark.desc).map (fun d => d.parameters.length) = some 3 := by decide +kernel
set_option maxHeartbeats 4000000 in
set_option maxRecDepth 100000 in
theorem c1_addMark (l : Launch) (D : va_G) (y : CyT) (zM uM : Nat) {S S' : CS} {h : Nat} {p1 : Int32} {p2 : Int32} {p3 : Int32} {r : Int32} (hf : f1_addMark S h p1 p2 p3 = some (r, S')) : CT l D (tyL y) yX1_addMark cX1_addMark 5 (some .int) 0 0 zM uM [.ref h, .int p1, .int p2, .int p3] (cZ S) (cU S) (cw y S) (cZ S') (cU S') (cw y S') (some (.int r)) := by
  refine CT.of (by decide) (Nat.le_of_ble_eq_true rfl) (fun E hc hz hnm => ?_)
  have hc : Cx E "FarEditors$Editor" cX1_addMark 5 := hc
  have hT := hz.2.2.1
  show V E (cZ S) (cU S) (cw y S) 0 [(0, .ref h), (1, .int p1), (2, .int p2), (3, .int p3)] []
  unfold f1_addMark at hf
  refine V_iconst hc (v := (3 : Int32)) dX1_addMark_0 rfl ?_
  refine V_aload_n hc dX1_addMark_1 rfl 0 rfl ?_
  obtain ⟨v1, hv1, hf⟩ := mb hf
  refine C_geti hc rfl iW1 (by decide) 7 (by decide) rfl hv1 w2_16 dX1_addMark_2 ?_
  refine V_imul hc dX1_addMark_5 ?_
  refine V_istore hc dX1_addMark_6 (by decide) rfl ?_
  refine V_iload hc dX1_addMark_8 0 rfl ?_
  refine V_iconst hc (v := (2 : Int32)) dX1_addMark_10 rfl ?_
  refine V_iadd hc dX1_addMark_11 ?_
  refine V_aload_n hc dX1_addMark_12 rfl 1 rfl ?_
  obtain ⟨a2, ha2, hf⟩ := mb hf
  refine C_getr hc rfl iW1 (by decide) 5 (by decide) rfl ha2 w2_12 dX1_addMark_13 ?_
  obtain ⟨v3, hv3, hf⟩ := mb hf
  refine C_alen hc hT hv3 dX1_addMark_16 ?_
  refine V_icmp_lt hc dX1_addMark_17 rfl (fun hq17 => ?_) (fun hq17 => ?_)
  · rw [if_pos hq17] at hf
    refine V_aload_n hc dX1_addMark_22 rfl 1 rfl ?_
    obtain ⟨a4, ha4, hf⟩ := mb hf
    refine C_getr hc rfl iW1 (by decide) 5 (by decide) rfl ha4 w2_12 dX1_addMark_23 ?_
    refine V_iload hc dX1_addMark_26 0 rfl ?_
    refine V_iload_n hc dX1_addMark_28 rfl 2 rfl ?_
    obtain ⟨S5, hS5, hf⟩ := mb hf
    refine C_iast hc hT hS5 dX1_addMark_29 ?_
    refine V_aload_n hc dX1_addMark_30 rfl 1 rfl ?_
    obtain ⟨a6, ha6, hf⟩ := mb hf
    refine C_getr hc rfl iW1 (by decide) 5 (by decide) rfl ha6 w2_12 dX1_addMark_31 ?_
    refine V_iload hc dX1_addMark_34 0 rfl ?_
    refine V_iconst hc (v := (1 : Int32)) dX1_addMark_36 rfl ?_
    refine V_iadd hc dX1_addMark_37 ?_
    refine V_iload_n hc dX1_addMark_38 rfl 3 rfl ?_
    obtain ⟨S7, hS7, hf⟩ := mb hf
    refine C_iast hc hT hS7 dX1_addMark_39 ?_
    refine V_aload_n hc dX1_addMark_40 rfl 1 rfl ?_
    obtain ⟨a8, ha8, hf⟩ := mb hf
    refine C_getr hc rfl iW1 (by decide) 5 (by decide) rfl ha8 w2_12 dX1_addMark_41 ?_
    refine V_iload hc dX1_addMark_44 0 rfl ?_
    refine V_iconst hc (v := (2 : Int32)) dX1_addMark_46 rfl ?_
    refine V_iadd hc dX1_addMark_47 ?_
    refine V_iload_n hc dX1_addMark_48 rfl 4 rfl ?_
    obtain ⟨S9, hS9, hf⟩ := mb hf
    refine C_iast hc hT hS9 dX1_addMark_49 ?_
    refine V_aload_n hc dX1_addMark_50 rfl 1 rfl ?_
    refine V_dup hc dX1_addMark_51 rfl ?_
    obtain ⟨v10, hv10, hf⟩ := mb hf
    refine C_geti hc rfl iW1 (by decide) 7 (by decide) rfl hv10 w2_16 dX1_addMark_52 ?_
    refine V_dup_x1 hc dX1_addMark_55 rfl rfl ?_
    refine V_iconst hc (v := (1 : Int32)) dX1_addMark_56 rfl ?_
    refine V_iadd hc dX1_addMark_57 ?_
    obtain ⟨S11, hS11, hf⟩ := mb hf
    refine C_puti hc rfl iW1 tyX1 tyX1_ok nmX1 (by decide) 7 (by decide) rfl hS11 w2_16 rfl rfl rfl dX1_addMark_58 ?_
    obtain ⟨rfl, rfl⟩ := si2 hf
    exact V_iret hc hz rfl rfl rfl rfl rfl dX1_addMark_61
  · rw [if_neg hq17] at hf
    refine V_iconst hc (v := (-1 : Int32)) dX1_addMark_20 rfl ?_
    obtain ⟨rfl, rfl⟩ := si2 hf
    exact V_iret hc hz rfl rfl rfl rfl rfl dX1_addMark_21
noncomputable def f4_isPut (p1 : Int32) : Option (Int32) :=
  (
    if p1 ≤ 0 then (
      some (0 : Int32)
    ) else (
      if (31 : Int32) < p1 then (
        some (0 : Int32)
      ) else (
        some (1 : Int32)
      )
    )
  ).bind fun v1 =>
  (bz v1).bind fun v3 =>
  some v3
theorem hdX_X4_isPut : yX4_isPut.cls = "FarEditors$Op" ∧ yX4_isPut.cls ≠ "java/lang/invoke/MethodHandle" ∧ yX4_isPut.cls ≠ "java/lang/invoke/VarHandle" ∧ (parseMethodDescriptor yX4_isPut.desc).map (fun d => d.parameters.length) = some 1 := by decide +kernel
set_option maxHeartbeats 4000000 in
set_option maxRecDepth 100000 in
theorem c4_isPut (l : Launch) (D : va_G) (y : CyT) (zM uM : Nat) {S : CS} {p1 : Int32} {r : Int32} (hf : f4_isPut p1 = some r) : CT l D (tyL y) yX4_isPut cX4_isPut 1 (some .boolean) 0 0 zM uM [.int p1] (cZ S) (cU S) (cw y S) (cZ S) (cU S) (cw y S) (some (.int r)) := by
  refine CT.of (by decide) (Nat.le_of_ble_eq_true rfl) (fun E hc hz hnm => ?_)
  have hc : Cx E "FarEditors$Op" cX4_isPut 1 := hc
  have hT := hz.2.2.1
  show V E (cZ S) (cU S) (cw y S) 0 [(0, .int p1)] []
  unfold f4_isPut at hf
  refine V_iload_n hc dX4_isPut_0 rfl 0 rfl ?_
  obtain ⟨v1, hv2, hf⟩ := mb hf
  have hJ1 : V E (cZ S) (cU S) (cw y S) 15 [] [.int v1] := by
    obtain ⟨v3, hv3, hf⟩ := mb hf
    obtain ⟨hbv3, rfl⟩ := bz_some hv3
    obtain rfl := Option.some.inj hf
    exact V_iret hc hz (bz_nar hbv3) rfl rfl rfl rfl dX4_isPut_15
  refine V_if_le hc dX4_isPut_1 rfl (fun hq1 => ?_) (fun hq1 => ?_)
  · rw [if_pos hq1] at hv2
    refine V_iconst hc (v := (0 : Int32)) dX4_isPut_14 rfl ?_
    obtain rfl := Option.some.inj hv2
    exact V_sub [] rfl hJ1
  · rw [if_neg hq1] at hv2
    refine V_iload_n hc dX4_isPut_4 rfl 0 rfl ?_
    refine V_bipush hc (v := (31 : Int32)) dX4_isPut_5 rfl ?_
    refine V_icmp_gt hc dX4_isPut_7 rfl (fun hq7 => ?_) (fun hq7 => ?_)
    · rw [if_pos hq7] at hv2
      refine V_iconst hc (v := (0 : Int32)) dX4_isPut_14 rfl ?_
      obtain rfl := Option.some.inj hv2
      exact V_sub [] rfl hJ1
    · rw [if_neg hq7] at hv2
      refine V_iconst hc (v := (1 : Int32)) dX4_isPut_10 rfl ?_
      refine V_goto hc dX4_isPut_11 rfl ?_
      obtain rfl := Option.some.inj hv2
      exact V_sub [] rfl hJ1
noncomputable def f1_send (S : CS) (h : Nat) : Option (CS) :=
  (pi S 1 h 12 (1 : Int32)).bind fun S1 =>
  (gi S1 1 h 10).bind fun v2 =>
  (pi S1 1 h 11 v2).bind fun S3 =>
  some S3
theorem hdX_X1_send : yX1_send.cls = "FarEditors$Editor" ∧ yX1_send.cls ≠ "java/lang/invoke/MethodHandle" ∧ yX1_send.cls ≠ "java/lang/invoke/VarHandle" ∧ (parseMethodDescriptor yX1_send.desc).map (fun d => d.parameters.length) = some 0 := by decide +kernel
set_option maxHeartbeats 4000000 in
set_option maxRecDepth 100000 in
theorem c1_send (l : Launch) (D : va_G) (y : CyT) (zM uM : Nat) {S S' : CS} {h : Nat} (hf : f1_send S h = some S') : CT l D (tyL y) yX1_send cX1_send 1 none 0 0 zM uM [.ref h] (cZ S) (cU S) (cw y S) (cZ S') (cU S') (cw y S') none := by
  refine CT.of (by decide) (Nat.le_of_ble_eq_true rfl) (fun E hc hz hnm => ?_)
  have hc : Cx E "FarEditors$Editor" cX1_send 1 := hc
  have hT := hz.2.2.1
  show V E (cZ S) (cU S) (cw y S) 0 [(0, .ref h)] []
  unfold f1_send at hf
  refine V_aload_n hc dX1_send_0 rfl 0 rfl ?_
  refine V_iconst hc (v := (1 : Int32)) dX1_send_1 rfl ?_
  obtain ⟨S1, hS1, hf⟩ := mb hf
  refine C_puti hc rfl iW1 tyX1 tyX1_ok nmX1 (by decide) 12 (by decide) rfl hS1 w2_31 rfl rfl rfl dX1_send_2 ?_
  refine V_aload_n hc dX1_send_5 rfl 0 rfl ?_
  refine V_aload_n hc dX1_send_6 rfl 0 rfl ?_
  obtain ⟨v2, hv2, hf⟩ := mb hf
  refine C_geti hc rfl iW1 (by decide) 10 (by decide) rfl hv2 w2_24 dX1_send_7 ?_
  obtain ⟨S3, hS3, hf⟩ := mb hf
  refine C_puti hc rfl iW1 tyX1 tyX1_ok nmX1 (by decide) 11 (by decide) rfl hS3 w2_27 rfl rfl rfl dX1_send_10 ?_
  obtain rfl := Option.some.inj hf
  exact V_vret hc hz rfl rfl rfl rfl dX1_send_13
noncomputable def f1_takeOwn (S : CS) (h : Nat) : Option (CS) :=
  (pi S 1 h 12 (0 : Int32)).bind fun S1 =>
  (gi S1 1 h 13).bind fun v2 =>
  (
    if v2 = 0 then (
      some S1
    ) else (
      (gr S1 1 h 1).bind fun a5 =>
      (gr S1 1 h 2).bind fun a6 =>
      (cal S1 4 a5 (f4_swap S1 a5 a6)).bind fun S7 =>
      (pi S7 1 h 13 (0 : Int32)).bind fun S8 =>
      (cal S8 1 h (f1_send S8 h)).bind fun S9 =>
      some S9
    )
  ).bind fun S3 =>
  some S3
theorem hdX_X1_takeOwn : yX1_takeOwn.cls = "FarEditors$Editor" ∧ yX1_takeOwn.cls ≠ "java/lang/invoke/MethodHandle" ∧ yX1_takeOwn.cls ≠ "java/lang/invoke/VarHandle" ∧ (parseMethodDescriptor yX1_takeOwn.desc).map (fun d => d.parameters.length) = some 0 := by decide +kernel
set_option maxHeartbeats 4000000 in
set_option maxRecDepth 100000 in
theorem c1_takeOwn (l : Launch) (D : va_G) (y : CyT) (zM uM : Nat) {S S' : CS} {h : Nat} (hf : f1_takeOwn S h = some S') : CT l D (tyL y) yX1_takeOwn cX1_takeOwn 1 none 1 23 zM uM [.ref h] (cZ S) (cU S) (cw y S) (cZ S') (cU S') (cw y S') none := by
  refine CT.of (by decide) (Nat.le_of_ble_eq_true rfl) (fun E hc hz hnm => ?_)
  have hc : Cx E "FarEditors$Editor" cX1_takeOwn 1 := hc
  have hT := hz.2.2.1
  show V E (cZ S) (cU S) (cw y S) 0 [(0, .ref h)] []
  unfold f1_takeOwn at hf
  refine V_aload_n hc dX1_takeOwn_0 rfl 0 rfl ?_
  refine V_iconst hc (v := (0 : Int32)) dX1_takeOwn_1 rfl ?_
  obtain ⟨S1, hS1, hf⟩ := mb hf
  refine C_puti hc rfl iW1 tyX1 tyX1_ok nmX1 (by decide) 12 (by decide) rfl hS1 w2_31 rfl rfl rfl dX1_takeOwn_2 ?_
  refine V_aload_n hc dX1_takeOwn_5 rfl 0 rfl ?_
  obtain ⟨v2, hv2, hf⟩ := mb hf
  refine C_geti hc rfl iW1 (by decide) 13 (by decide) rfl hv2 w2_34 dX1_takeOwn_6 ?_
  obtain ⟨S3, hv4, hf⟩ := mb hf
  have hJ9 : V E (cZ S3) (cU S3) (cw y S3) 32 [] [] := by
    obtain rfl := Option.some.inj hf
    exact V_vret hc hz rfl rfl rfl rfl dX1_takeOwn_32
  refine V_if_eq hc dX1_takeOwn_9 rfl (fun hq9 => ?_) (fun hq9 => ?_)
  · rw [if_pos hq9] at hv4
    obtain rfl := Option.some.inj hv4
    exact V_sub [] rfl hJ9
  · rw [if_neg hq9] at hv4
    refine V_aload_n hc dX1_takeOwn_12 rfl 0 rfl ?_
    obtain ⟨a5, ha5, hv4⟩ := mb hv4
    refine C_getr hc rfl iW1 (by decide) 1 (by decide) rfl ha5 w2_0 dX1_takeOwn_13 ?_
    refine V_aload_n hc dX1_takeOwn_16 rfl 0 rfl ?_
    obtain ⟨a6, ha6, hv4⟩ := mb hv4
    refine C_getr hc rfl iW1 (by decide) 2 (by decide) rfl ha6 w2_3 dX1_takeOwn_17 ?_
    obtain ⟨S7, hS7, hv4⟩ := mb hv4
    obtain ⟨hkS7, hS7⟩ := og hS7
    refine C_callV hc hz (As := [.ref a6]) hkS7 (by decide) (c4_swap l D y _ _ hS7) w4_94 w4_62 w4_63 w1_5 w4_64 hdX_X4_swap ⟨(Nat.le_of_ble_eq_true rfl), (Nat.le_of_ble_eq_true rfl)⟩ rfl rfl rfl (Nat.le_of_ble_eq_true rfl) dX1_takeOwn_20 ?_
    refine V_aload_n hc dX1_takeOwn_23 rfl 0 rfl ?_
    refine V_iconst hc (v := (0 : Int32)) dX1_takeOwn_24 rfl ?_
    obtain ⟨S8, hS8, hv4⟩ := mb hv4
    refine C_puti hc rfl iW1 tyX1 tyX1_ok nmX1 (by decide) 13 (by decide) rfl hS8 w2_34 rfl rfl rfl dX1_takeOwn_25 ?_
    refine V_aload_n hc dX1_takeOwn_28 rfl 0 rfl ?_
    obtain ⟨S9, hS9, hv4⟩ := mb hv4
    obtain ⟨hkS9, hS9⟩ := og hS9
    refine C_callV hc hz (As := []) hkS9 (by decide) (c1_send l D y _ _ hS9) w4_95 w4_96 w4_97 w1_9 w4_98 hdX_X1_send ⟨(Nat.le_of_ble_eq_true rfl), (Nat.le_of_ble_eq_true rfl)⟩ rfl rfl rfl (Nat.le_of_ble_eq_true rfl) dX1_takeOwn_29 ?_
    obtain rfl := Option.some.inj hv4
    exact V_sub [] rfl hJ9
noncomputable def f2_init (X : Nat × Nat) (S : CS) (h : Nat) : Option (CS) :=
  (nwa X S 19 (20 : Int32)).bind fun S1 =>
  (pr S1 2 h 0 (cZ S)).bind fun S2 =>
  (pi S2 2 h 1 (0 : Int32)).bind fun S3 =>
  (pi S3 2 h 2 (0 : Int32)).bind fun S4 =>
  (pi S4 2 h 3 (0 : Int32)).bind fun S5 =>
  some S5
theorem hdX_X2_init : yX2_init.cls = "FarEditors$History" ∧ yX2_init.cls ≠ "java/lang/invoke/MethodHandle" ∧ yX2_init.cls ≠ "java/lang/invoke/VarHandle" ∧ (parseMethodDescriptor yX2_init.desc).map (fun d => d.parameters.length) = some 0 := by decide +kernel
set_option maxHeartbeats 4000000 in
set_option maxRecDepth 100000 in
theorem c2_init (l : Launch) (D : va_G) (y : CyT) (X : Nat × Nat) (hX : X.2 ≤ 100000000) {S S' : CS} {h : Nat} (hf : f2_init X S h = some S') : CT l D (tyL y) yX2_init cX2_init 1 none 1 20 X.1 X.2 [.ref h] (cZ S) (cU S) (cw y S) (cZ S') (cU S') (cw y S') none := by
  refine CT.of (by decide) (Nat.le_of_ble_eq_true rfl) (fun E hc hz hnm => ?_)
  have hc : Cx E "FarEditors$History" cX2_init 1 := hc
  have hnm : (xH E).name = "<init>" := hnm
  have hT := hz.2.2.1
  show V E (cZ S) (cU S) (cw y S) 0 [(0, .ref h)] []
  unfold f2_init at hf
  refine V_aload_n hc dX2_init_0 rfl 0 rfl ?_
  refine V_objInit hc hz w2_127 w1_27 w1_28 ⟨(Nat.le_of_ble_eq_true rfl), (Nat.le_of_ble_eq_true rfl)⟩ (Nat.le_of_ble_eq_true rfl) dX2_init_1 ?_
  refine V_aload_n hc dX2_init_4 rfl 0 rfl ?_
  refine V_bipush hc (v := (20 : Int32)) dX2_init_5 rfl ?_
  obtain ⟨S1, hS1, hf⟩ := mb hf
  refine C_newr hc hz (by decide) (by decide) hS1 hX w2_128 dX2_init_7 ?_
  obtain ⟨S2, hS2, hf⟩ := mb hf
  refine C_putrF hc hnm rfl iW2 tyX2 tyX2_ok nmX2 (by decide) 0 (by decide) rfl hS2 w2_130 rfl rfl rfl rfl dX2_init_10 ?_
  refine V_aload_n hc dX2_init_13 rfl 0 rfl ?_
  refine V_iconst hc (v := (0 : Int32)) dX2_init_14 rfl ?_
  obtain ⟨S3, hS3, hf⟩ := mb hf
  refine C_puti hc rfl iW2 tyX2 tyX2_ok nmX2 (by decide) 1 (by decide) rfl hS3 w2_131 rfl rfl rfl dX2_init_15 ?_
  refine V_aload_n hc dX2_init_18 rfl 0 rfl ?_
  refine V_iconst hc (v := (0 : Int32)) dX2_init_19 rfl ?_
  obtain ⟨S4, hS4, hf⟩ := mb hf
  refine C_puti hc rfl iW2 tyX2 tyX2_ok nmX2 (by decide) 2 (by decide) rfl hS4 w2_132 rfl rfl rfl dX2_init_20 ?_
  refine V_aload_n hc dX2_init_23 rfl 0 rfl ?_
  refine V_iconst hc (v := (0 : Int32)) dX2_init_24 rfl ?_
  obtain ⟨S5, hS5, hf⟩ := mb hf
  refine C_puti hc rfl iW2 tyX2 tyX2_ok nmX2 (by decide) 3 (by decide) rfl hS5 w2_134 rfl rfl rfl dX2_init_25 ?_
  obtain rfl := Option.some.inj hf
  exact V_vret hc hz rfl rfl rfl rfl dX2_init_28
noncomputable def f2_begin (S : CS) (h : Nat) : Option (CS) :=
  (pi S 2 h 2 (0 : Int32)).bind fun S1 =>
  (gi S1 2 h 3).bind fun v2 =>
  (pi S1 2 h 3 (v2 + (1 : Int32))).bind fun S3 =>
  some S3
theorem hdX_X2_begin : yX2_begin.cls = "FarEditors$History" ∧ yX2_begin.cls ≠ "java/lang/invoke/MethodHandle" ∧ yX2_begin.cls ≠ "java/lang/invoke/VarHandle" ∧ (parseMethodDescriptor yX2_begin.desc).map (fun d => d.parameters.length) = some 0 := by decide +kernel
set_option maxHeartbeats 4000000 in
set_option maxRecDepth 100000 in
theorem c2_begin (l : Launch) (D : va_G) (y : CyT) (zM uM : Nat) {S S' : CS} {h : Nat} (hf : f2_begin S h = some S') : CT l D (tyL y) yX2_begin cX2_begin 1 none 0 0 zM uM [.ref h] (cZ S) (cU S) (cw y S) (cZ S') (cU S') (cw y S') none := by
  refine CT.of (by decide) (Nat.le_of_ble_eq_true rfl) (fun E hc hz hnm => ?_)
  have hc : Cx E "FarEditors$History" cX2_begin 1 := hc
  have hT := hz.2.2.1
  show V E (cZ S) (cU S) (cw y S) 0 [(0, .ref h)] []
  unfold f2_begin at hf
  refine V_aload_n hc dX2_begin_0 rfl 0 rfl ?_
  refine V_iconst hc (v := (0 : Int32)) dX2_begin_1 rfl ?_
  obtain ⟨S1, hS1, hf⟩ := mb hf
  refine C_puti hc rfl iW2 tyX2 tyX2_ok nmX2 (by decide) 2 (by decide) rfl hS1 w2_132 rfl rfl rfl dX2_begin_2 ?_
  refine V_aload_n hc dX2_begin_5 rfl 0 rfl ?_
  refine V_dup hc dX2_begin_6 rfl ?_
  obtain ⟨v2, hv2, hf⟩ := mb hf
  refine C_geti hc rfl iW2 (by decide) 3 (by decide) rfl hv2 w2_134 dX2_begin_7 ?_
  refine V_iconst hc (v := (1 : Int32)) dX2_begin_10 rfl ?_
  refine V_iadd hc dX2_begin_11 ?_
  obtain ⟨S3, hS3, hf⟩ := mb hf
  refine C_puti hc rfl iW2 tyX2 tyX2_ok nmX2 (by decide) 3 (by decide) rfl hS3 w2_134 rfl rfl rfl dX2_begin_12 ?_
  obtain rfl := Option.some.inj hf
  exact V_vret hc hz rfl rfl rfl rfl dX2_begin_15
noncomputable def f2_keep (X : Nat × Nat) (S : CS) (h : Nat) (p1 : Nat) : Option (CS) :=
  (gi S 2 h 3).bind fun v1 =>
  (pi S 2 h 3 (v1 + (1 : Int32))).bind fun S2 =>
  (gi S2 2 h 1).bind fun v3 =>
  (gi S2 2 h 2).bind fun v4 =>
  (gi S2 2 h 2).bind fun v5 =>
  (
    if (20 : Int32) ≤ v5 then (
      (gi S2 2 h 1).bind fun v8 =>
      (pi S2 2 h 1 ((v8 + (1 : Int32)) - (v8 + (1 : Int32)) / (20 : Int32) * (20 : Int32))).bind fun S9 =>
      some S9
    ) else (
      (gi S2 2 h 2).bind fun v10 =>
      (pi S2 2 h 2 (v10 + (1 : Int32))).bind fun S11 =>
      some S11
    )
  ).bind fun S6 =>
  (gr S6 2 h 0).bind fun a12 =>
  (ldn S6 19 a12 ((v3 + v4) - (v3 + v4) / (20 : Int32) * (20 : Int32))).bind fun o13 =>
  (
    if o13 = none then (
      (gr S6 2 h 0).bind fun a16 =>
      (nwo X S6 10 12).bind fun S17 =>
      (gr S17 10 p1 0).bind fun a18 =>
      (gr S17 10 p1 1).bind fun a19 =>
      (f10_init X S17 (cZ S6) a18 a19).bind fun S20 =>
      (str S20 19 10 a16 ((v3 + v4) - (v3 + v4) / (20 : Int32) * (20 : Int32)) (cZ S6)).bind fun S21 =>
      some S21
    ) else (
      some S6
    )
  ).bind fun S14 =>
  (gr S14 2 h 0).bind fun a22 =>
  (ldr S14 19 a22 ((v3 + v4) - (v3 + v4) / (20 : Int32) * (20 : Int32))).bind fun a23 =>
  (cal S14 10 a23 (f10_copy X S14 a23 p1 (1 : Int32))).bind fun S24 =>
  some S24
theorem hdX_X2_keep : yX2_keep.cls = "FarEditors$History" ∧ yX2_keep.cls ≠ "java/lang/invoke/MethodHandle" ∧ yX2_keep.cls ≠ "java/lang/invoke/VarHandle" ∧ (parseMethodDescriptor yX2_keep.desc).map (fun d => d.parameters.length) = some 1 := by decide +kernel
set_option maxHeartbeats 4000000 in
set_option maxRecDepth 100000 in
theorem c2_keep (l : Launch) (D : va_G) (y : CyT) (X : Nat × Nat) (hX : X.2 ≤ 100000000) {S S' : CS} {h : Nat} {p1 : Nat} (hf : f2_keep X S h p1 = some S') : CT l D (tyL y) yX2_keep cX2_keep 3 none 5 113 X.1 X.2 [.ref h, .ref p1] (cZ S) (cU S) (cw y S) (cZ S') (cU S') (cw y S') none := by
  refine CT.of (by decide) (Nat.le_of_ble_eq_true rfl) (fun E hc hz hnm => ?_)
  have hc : Cx E "FarEditors$History" cX2_keep 3 := hc
  have hT := hz.2.2.1
  show V E (cZ S) (cU S) (cw y S) 0 [(0, .ref h), (1, .ref p1)] []
  unfold f2_keep at hf
  refine V_aload_n hc dX2_keep_0 rfl 0 rfl ?_
  refine V_dup hc dX2_keep_1 rfl ?_
  obtain ⟨v1, hv1, hf⟩ := mb hf
  refine C_geti hc rfl iW2 (by decide) 3 (by decide) rfl hv1 w2_134 dX2_keep_2 ?_
  refine V_iconst hc (v := (1 : Int32)) dX2_keep_5 rfl ?_
  refine V_iadd hc dX2_keep_6 ?_
  obtain ⟨S2, hS2, hf⟩ := mb hf
  refine C_puti hc rfl iW2 tyX2 tyX2_ok nmX2 (by decide) 3 (by decide) rfl hS2 w2_134 rfl rfl rfl dX2_keep_7 ?_
  refine V_aload_n hc dX2_keep_10 rfl 0 rfl ?_
  obtain ⟨v3, hv3, hf⟩ := mb hf
  refine C_geti hc rfl iW2 (by decide) 1 (by decide) rfl hv3 w2_131 dX2_keep_11 ?_
  refine V_aload_n hc dX2_keep_14 rfl 0 rfl ?_
  obtain ⟨v4, hv4, hf⟩ := mb hf
  refine C_geti hc rfl iW2 (by decide) 2 (by decide) rfl hv4 w2_132 dX2_keep_15 ?_
  refine V_iadd hc dX2_keep_18 ?_
  refine V_bipush hc (v := (20 : Int32)) dX2_keep_19 rfl ?_
  refine V_irem hc dX2_keep_21 (by decide) ?_
  refine V_istore_n hc dX2_keep_22 rfl (by decide) rfl ?_
  refine V_aload_n hc dX2_keep_23 rfl 1 rfl ?_
  obtain ⟨v5, hv5, hf⟩ := mb hf
  refine C_geti hc rfl iW2 (by decide) 2 (by decide) rfl hv5 w2_132 dX2_keep_24 ?_
  refine V_bipush hc (v := (20 : Int32)) dX2_keep_27 rfl ?_
  obtain ⟨S6, hv7, hf⟩ := mb hf
  have hJ29 : V E (cZ S6) (cU S6) (cw y S6) 58 [(0, .ref h), (1, .ref p1), (2, .int ((v3 + v4) - (v3 + v4) / (20 : Int32) * (20 : Int32)))] [] := by
    refine V_aload_n hc dX2_keep_58 rfl 0 rfl ?_
    obtain ⟨a12, ha12, hf⟩ := mb hf
    refine C_getr hc rfl iW2 (by decide) 0 (by decide) rfl ha12 w2_130 dX2_keep_59 ?_
    refine V_iload_n hc dX2_keep_62 rfl 2 rfl ?_
    obtain ⟨o13, ho13, hf⟩ := mb hf
    refine C_aaldn hc hT (by decide) (by decide) ho13 dX2_keep_63 ?_
    obtain ⟨S14, hv15, hf⟩ := mb hf
    have hJ64 : V E (cZ S14) (cU S14) (cw y S14) 88 [(0, .ref h), (1, .ref p1), (2, .int ((v3 + v4) - (v3 + v4) / (20 : Int32) * (20 : Int32)))] [] := by
      refine V_aload_n hc dX2_keep_88 rfl 0 rfl ?_
      obtain ⟨a22, ha22, hf⟩ := mb hf
      refine C_getr hc rfl iW2 (by decide) 0 (by decide) rfl ha22 w2_130 dX2_keep_89 ?_
      refine V_iload_n hc dX2_keep_92 rfl 2 rfl ?_
      obtain ⟨a23, ha23, hf⟩ := mb hf
      refine C_aald hc hT (by decide) (by decide) ha23 dX2_keep_93 ?_
      refine V_aload_n hc dX2_keep_94 rfl 1 rfl ?_
      refine V_iconst hc (v := (1 : Int32)) dX2_keep_95 rfl ?_
      obtain ⟨S24, hS24, hf⟩ := mb hf
      obtain ⟨hkS24, hS24⟩ := og hS24
      refine C_callV hc hz (As := [.ref p1, .int (1 : Int32)]) hkS24 (by decide) (c10_copy l D y X hX hS24) w5_173 w5_55 w5_56 w1_8 w5_57 hdX_X10_copy ⟨(Nat.le_of_ble_eq_true rfl), (Nat.le_of_ble_eq_true rfl)⟩ rfl rfl rfl (Nat.le_of_ble_eq_true rfl) dX2_keep_96 ?_
      obtain rfl := Option.some.inj hf
      exact V_vret hc hz rfl rfl rfl rfl dX2_keep_99
    refine V_ifnonnull hc dX2_keep_64 rfl (fun hq64 => ?_) (fun hq64 => ?_)
    · rw [if_neg hq64] at hv15
      obtain rfl := Option.some.inj hv15
      exact V_sub [0, 1, 2] rfl hJ64
    · rw [if_pos hq64] at hv15
      refine V_aload_n hc dX2_keep_67 rfl 0 rfl ?_
      obtain ⟨a16, ha16, hv15⟩ := mb hv15
      refine C_getr hc rfl iW2 (by decide) 0 (by decide) rfl ha16 w2_130 dX2_keep_68 ?_
      refine V_iload_n hc dX2_keep_71 rfl 2 rfl ?_
      obtain ⟨S17, hS17, hv15⟩ := mb hv15
      refine C_new hc hz rfl iW10 tyX10 tyX10_ok df10 (by decide) hS17 w2_128 w1_197 w1_8 dX2_keep_72 ?_
      refine V_dup hc dX2_keep_75 rfl ?_
      refine V_aload_n hc dX2_keep_76 rfl 1 rfl ?_
      obtain ⟨a18, ha18, hv15⟩ := mb hv15
      refine C_getr hc rfl iW10 (by decide) 0 (by decide) rfl ha18 w2_72 dX2_keep_77 ?_
      refine V_aload_n hc dX2_keep_80 rfl 1 rfl ?_
      obtain ⟨a19, ha19, hv15⟩ := mb hv15
      refine C_getr hc rfl iW10 (by decide) 1 (by decide) rfl ha19 w2_74 dX2_keep_81 ?_
      obtain ⟨S20, hS20, hv15⟩ := mb hv15
      refine V_callI hc hz (As := [.ref a18, .ref a19]) (c10_init l D y X hX hS20) w5_172 w1_199 w1_8 w1_200 rfl hdX_X10_init.2 ⟨(Nat.le_of_ble_eq_true rfl), (Nat.le_of_ble_eq_true rfl)⟩ rfl rfl (Nat.le_of_ble_eq_true rfl) dX2_keep_84 ?_
      obtain ⟨S21, hS21, hv15⟩ := mb hv15
      refine C_aast hc hT (by decide) (by decide) rfl rfl (by decide) hS21 dX2_keep_87 ?_
      obtain rfl := Option.some.inj hv15
      exact V_sub [0, 1, 2] rfl hJ64
  refine V_icmp_ge hc dX2_keep_29 rfl (fun hq29 => ?_) (fun hq29 => ?_)
  · rw [if_pos hq29] at hv7
    refine V_aload_n hc dX2_keep_45 rfl 1 rfl ?_
    refine V_aload_n hc dX2_keep_46 rfl 1 rfl ?_
    obtain ⟨v8, hv8, hv7⟩ := mb hv7
    refine C_geti hc rfl iW2 (by decide) 1 (by decide) rfl hv8 w2_131 dX2_keep_47 ?_
    refine V_iconst hc (v := (1 : Int32)) dX2_keep_50 rfl ?_
    refine V_iadd hc dX2_keep_51 ?_
    refine V_bipush hc (v := (20 : Int32)) dX2_keep_52 rfl ?_
    refine V_irem hc dX2_keep_54 (by decide) ?_
    obtain ⟨S9, hS9, hv7⟩ := mb hv7
    refine C_puti hc rfl iW2 tyX2 tyX2_ok nmX2 (by decide) 1 (by decide) rfl hS9 w2_131 rfl rfl rfl dX2_keep_55 ?_
    obtain rfl := Option.some.inj hv7
    exact V_sub [1, 2, 0] rfl hJ29
  · rw [if_neg hq29] at hv7
    refine V_aload_n hc dX2_keep_32 rfl 1 rfl ?_
    refine V_dup hc dX2_keep_33 rfl ?_
    obtain ⟨v10, hv10, hv7⟩ := mb hv7
    refine C_geti hc rfl iW2 (by decide) 2 (by decide) rfl hv10 w2_132 dX2_keep_34 ?_
    refine V_iconst hc (v := (1 : Int32)) dX2_keep_37 rfl ?_
    refine V_iadd hc dX2_keep_38 ?_
    obtain ⟨S11, hS11, hv7⟩ := mb hv7
    refine C_puti hc rfl iW2 tyX2 tyX2_ok nmX2 (by decide) 2 (by decide) rfl hS11 w2_132 rfl rfl rfl dX2_keep_39 ?_
    refine V_goto hc dX2_keep_42 rfl ?_
    obtain rfl := Option.some.inj hv7
    exact V_sub [1, 2, 0] rfl hJ29
noncomputable def f2_restore (X : Nat × Nat) (S : CS) (h : Nat) (p1 : Nat) : Option (Int32 × CS) :=
  (gi S 2 h 2).bind fun v1 =>
  (
    if v1 ≤ 0 then (
      some (0 : Int32)
    ) else (
      (gi S 2 h 1).bind fun v4 =>
      (gi S 2 h 2).bind fun v5 =>
      some (((v4 + v5) - (1 : Int32)) - ((v4 + v5) - (1 : Int32)) / (20 : Int32) * (20 : Int32))
    )
  ).bind fun v2 =>
  (gi S 2 h 2).bind fun v6 =>
  if v6 = 0 then (
    some ((0 : Int32), S)
  ) else (
    (gr S 2 h 0).bind fun a7 =>
    (ldn S 19 a7 v2).bind fun o8 =>
    if o8 = none then (
      some ((0 : Int32), S)
    ) else (
      (gi S 2 h 2).bind fun v9 =>
      (pi S 2 h 2 (v9 - (1 : Int32))).bind fun S10 =>
      (gi S10 2 h 3).bind fun v11 =>
      (pi S10 2 h 3 (v11 + (1 : Int32))).bind fun S12 =>
      (gr S12 2 h 0).bind fun a13 =>
      (ldr S12 19 a13 v2).bind fun a14 =>
      (cal S12 10 p1 (f10_copy X S12 p1 a14 (1 : Int32))).bind fun S15 =>
      some ((1 : Int32), S15)
    )
  )
theorem hdX_X2_restore : yX2_restore.cls = "FarEditors$History" ∧ yX2_restore.cls ≠ "java/lang/invoke/MethodHandle" ∧ yX2_restore.cls ≠ "java/lang/invoke/VarHandle" ∧ (parseMethodDescriptor yX2_restore.desc).map (fun d => d.parameters.length) = some 1 := by decide +kernel
set_option maxHeartbeats 4000000 in
set_option maxRecDepth 100000 in
theorem c2_restore (l : Launch) (D : va_G) (y : CyT) (X : Nat × Nat) (hX : X.2 ≤ 100000000) {S S' : CS} {h : Nat} {p1 : Nat} {r : Int32} (hf : f2_restore X S h p1 = some (r, S')) : CT l D (tyL y) yX2_restore cX2_restore 3 (some .boolean) 5 113 X.1 X.2 [.ref h, .ref p1] (cZ S) (cU S) (cw y S) (cZ S') (cU S') (cw y S') (some (.int r)) := by
  refine CT.of (by decide) (Nat.le_of_ble_eq_true rfl) (fun E hc hz hnm => ?_)
  have hc : Cx E "FarEditors$History" cX2_restore 3 := hc
  have hT := hz.2.2.1
  show V E (cZ S) (cU S) (cw y S) 0 [(0, .ref h), (1, .ref p1)] []
  unfold f2_restore at hf
  refine V_aload_n hc dX2_restore_0 rfl 0 rfl ?_
  obtain ⟨v1, hv1, hf⟩ := mb hf
  refine C_geti hc rfl iW2 (by decide) 2 (by decide) rfl hv1 w2_132 dX2_restore_1 ?_
  obtain ⟨v2, hv3, hf⟩ := mb hf
  have hJ4 : V E (cZ S) (cU S) (cw y S) 25 [(0, .ref h), (1, .ref p1)] [.int v2] := by
    refine V_istore_n hc dX2_restore_25 rfl (by decide) rfl ?_
    refine V_aload_n hc dX2_restore_26 rfl 1 rfl ?_
    obtain ⟨v6, hv6, hf⟩ := mb hf
    refine C_geti hc rfl iW2 (by decide) 2 (by decide) rfl hv6 w2_132 dX2_restore_27 ?_
    refine V_if_eq hc dX2_restore_30 rfl (fun hq30 => ?_) (fun hq30 => ?_)
    · rw [if_pos hq30] at hf
      refine V_iconst hc (v := (0 : Int32)) dX2_restore_42 rfl ?_
      obtain ⟨rfl, rfl⟩ := si2 hf
      exact V_iret hc hz rfl rfl rfl rfl rfl dX2_restore_43
    · rw [if_neg hq30] at hf
      refine V_aload_n hc dX2_restore_33 rfl 1 rfl ?_
      obtain ⟨a7, ha7, hf⟩ := mb hf
      refine C_getr hc rfl iW2 (by decide) 0 (by decide) rfl ha7 w2_130 dX2_restore_34 ?_
      refine V_iload_n hc dX2_restore_37 rfl 0 rfl ?_
      obtain ⟨o8, ho8, hf⟩ := mb hf
      refine C_aaldn hc hT (by decide) (by decide) ho8 dX2_restore_38 ?_
      refine V_ifnonnull hc dX2_restore_39 rfl (fun hq39 => ?_) (fun hq39 => ?_)
      · rw [if_neg hq39] at hf
        refine V_aload_n hc dX2_restore_44 rfl 1 rfl ?_
        refine V_dup hc dX2_restore_45 rfl ?_
        obtain ⟨v9, hv9, hf⟩ := mb hf
        refine C_geti hc rfl iW2 (by decide) 2 (by decide) rfl hv9 w2_132 dX2_restore_46 ?_
        refine V_iconst hc (v := (1 : Int32)) dX2_restore_49 rfl ?_
        refine V_isub hc dX2_restore_50 ?_
        obtain ⟨S10, hS10, hf⟩ := mb hf
        refine C_puti hc rfl iW2 tyX2 tyX2_ok nmX2 (by decide) 2 (by decide) rfl hS10 w2_132 rfl rfl rfl dX2_restore_51 ?_
        refine V_aload_n hc dX2_restore_54 rfl 1 rfl ?_
        refine V_dup hc dX2_restore_55 rfl ?_
        obtain ⟨v11, hv11, hf⟩ := mb hf
        refine C_geti hc rfl iW2 (by decide) 3 (by decide) rfl hv11 w2_134 dX2_restore_56 ?_
        refine V_iconst hc (v := (1 : Int32)) dX2_restore_59 rfl ?_
        refine V_iadd hc dX2_restore_60 ?_
        obtain ⟨S12, hS12, hf⟩ := mb hf
        refine C_puti hc rfl iW2 tyX2 tyX2_ok nmX2 (by decide) 3 (by decide) rfl hS12 w2_134 rfl rfl rfl dX2_restore_61 ?_
        refine V_aload_n hc dX2_restore_64 rfl 2 rfl ?_
        refine V_aload_n hc dX2_restore_65 rfl 1 rfl ?_
        obtain ⟨a13, ha13, hf⟩ := mb hf
        refine C_getr hc rfl iW2 (by decide) 0 (by decide) rfl ha13 w2_130 dX2_restore_66 ?_
        refine V_iload_n hc dX2_restore_69 rfl 0 rfl ?_
        obtain ⟨a14, ha14, hf⟩ := mb hf
        refine C_aald hc hT (by decide) (by decide) ha14 dX2_restore_70 ?_
        refine V_iconst hc (v := (1 : Int32)) dX2_restore_71 rfl ?_
        obtain ⟨S15, hS15, hf⟩ := mb hf
        obtain ⟨hkS15, hS15⟩ := og hS15
        refine C_callV hc hz (As := [.ref a14, .int (1 : Int32)]) hkS15 (by decide) (c10_copy l D y X hX hS15) w5_173 w5_55 w5_56 w1_8 w5_57 hdX_X10_copy ⟨(Nat.le_of_ble_eq_true rfl), (Nat.le_of_ble_eq_true rfl)⟩ rfl rfl rfl (Nat.le_of_ble_eq_true rfl) dX2_restore_72 ?_
        refine V_iconst hc (v := (1 : Int32)) dX2_restore_75 rfl ?_
        obtain ⟨rfl, rfl⟩ := si2 hf
        exact V_iret hc hz rfl rfl rfl rfl rfl dX2_restore_76
      · rw [if_pos hq39] at hf
        refine V_iconst hc (v := (0 : Int32)) dX2_restore_42 rfl ?_
        obtain ⟨rfl, rfl⟩ := si2 hf
        exact V_iret hc hz rfl rfl rfl rfl rfl dX2_restore_43
  refine V_if_le hc dX2_restore_4 rfl (fun hq4 => ?_) (fun hq4 => ?_)
  · rw [if_pos hq4] at hv3
    refine V_iconst hc (v := (0 : Int32)) dX2_restore_24 rfl ?_
    obtain rfl := Option.some.inj hv3
    exact V_sub [0, 1] rfl hJ4
  · rw [if_neg hq4] at hv3
    refine V_aload_n hc dX2_restore_7 rfl 0 rfl ?_
    obtain ⟨v4, hv4, hv3⟩ := mb hv3
    refine C_geti hc rfl iW2 (by decide) 1 (by decide) rfl hv4 w2_131 dX2_restore_8 ?_
    refine V_aload_n hc dX2_restore_11 rfl 0 rfl ?_
    obtain ⟨v5, hv5, hv3⟩ := mb hv3
    refine C_geti hc rfl iW2 (by decide) 2 (by decide) rfl hv5 w2_132 dX2_restore_12 ?_
    refine V_iadd hc dX2_restore_15 ?_
    refine V_iconst hc (v := (1 : Int32)) dX2_restore_16 rfl ?_
    refine V_isub hc dX2_restore_17 ?_
    refine V_bipush hc (v := (20 : Int32)) dX2_restore_18 rfl ?_
    refine V_irem hc dX2_restore_20 (by decide) ?_
    refine V_goto hc dX2_restore_21 rfl ?_
    obtain rfl := Option.some.inj hv3
    exact V_sub [0, 1] rfl hJ4
noncomputable def f4_askPut (S : CS) (h : Nat) (p1 : Int32) (p2 : Int32) (p3 : Int32) : Option (Int32) :=
  if p3 = 0 then (
    some (1 : Int32)
  ) else (
    if p3 = (1 : Int32) then (
      some (p2 - p1)
    ) else (
      (
        if (p2 - p1) ≤ (p3 - (2 : Int32)) then (
          some (-1 : Int32)
        ) else (
          (gr S 4 h 0).bind fun a3 =>
          (ldi S a3 ((p1 + p3) - (2 : Int32))).bind fun v4 =>
          some v4
        )
      ).bind fun v1 =>
      some v1
    )
  )
theorem hdX_X4_askPut : yX4_askPut.cls = "FarEditors$Op" ∧ yX4_askPut.cls ≠ "java/lang/invoke/MethodHandle" ∧ yX4_askPut.cls ≠ "java/lang/invoke/VarHandle" ∧ (parseMethodDescriptor yX4_askPut.desc).map (fun d => d.parameters.length) = some 3 := by decide +kernel
set_option maxHeartbeats 4000000 in
set_option maxRecDepth 100000 in
theorem c4_askPut (l : Launch) (D : va_G) (y : CyT) (zM uM : Nat) {S : CS} {h : Nat} {p1 : Int32} {p2 : Int32} {p3 : Int32} {r : Int32} (hf : f4_askPut S h p1 p2 p3 = some r) : CT l D (tyL y) yX4_askPut cX4_askPut 4 (some .int) 0 0 zM uM [.ref h, .int p1, .int p2, .int p3] (cZ S) (cU S) (cw y S) (cZ S) (cU S) (cw y S) (some (.int r)) := by
  refine CT.of (by decide) (Nat.le_of_ble_eq_true rfl) (fun E hc hz hnm => ?_)
  have hc : Cx E "FarEditors$Op" cX4_askPut 4 := hc
  have hT := hz.2.2.1
  show V E (cZ S) (cU S) (cw y S) 0 [(0, .ref h), (1, .int p1), (2, .int p2), (3, .int p3)] []
  unfold f4_askPut at hf
  refine V_iload_n hc dX4_askPut_0 rfl 3 rfl ?_
  refine V_if_ne hc dX4_askPut_1 rfl (fun hq1 => ?_) (fun hq1 => ?_)
  · rw [if_neg hq1] at hf
    refine V_iload_n hc dX4_askPut_6 rfl 3 rfl ?_
    refine V_iconst hc (v := (1 : Int32)) dX4_askPut_7 rfl ?_
    refine V_icmp_ne hc dX4_askPut_8 rfl (fun hq8 => ?_) (fun hq8 => ?_)
    · rw [if_neg hq8] at hf
      refine V_iload_n hc dX4_askPut_15 rfl 3 rfl ?_
      refine V_iconst hc (v := (2 : Int32)) dX4_askPut_16 rfl ?_
      refine V_isub hc dX4_askPut_17 ?_
      refine V_iload_n hc dX4_askPut_18 rfl 2 rfl ?_
      refine V_iload_n hc dX4_askPut_19 rfl 1 rfl ?_
      refine V_isub hc dX4_askPut_20 ?_
      obtain ⟨v1, hv2, hf⟩ := mb hf
      have hJ21 : V E (cZ S) (cU S) (cw y S) 38 [] [.int v1] := by
        obtain rfl := Option.some.inj hf
        exact V_iret hc hz rfl rfl rfl rfl rfl dX4_askPut_38
      refine V_icmp_ge hc dX4_askPut_21 rfl (fun hq21 => ?_) (fun hq21 => ?_)
      · rw [if_pos hq21] at hv2
        refine V_iconst hc (v := (-1 : Int32)) dX4_askPut_37 rfl ?_
        obtain rfl := Option.some.inj hv2
        exact V_sub [] rfl hJ21
      · rw [if_neg hq21] at hv2
        refine V_aload_n hc dX4_askPut_24 rfl 0 rfl ?_
        obtain ⟨a3, ha3, hv2⟩ := mb hv2
        refine C_getr hc rfl iW4 (by decide) 0 (by decide) rfl ha3 w1_101 dX4_askPut_25 ?_
        refine V_iload_n hc dX4_askPut_28 rfl 1 rfl ?_
        refine V_iload_n hc dX4_askPut_29 rfl 3 rfl ?_
        refine V_iadd hc dX4_askPut_30 ?_
        refine V_iconst hc (v := (2 : Int32)) dX4_askPut_31 rfl ?_
        refine V_isub hc dX4_askPut_32 ?_
        obtain ⟨v4, hv4, hv2⟩ := mb hv2
        refine C_iald hc hT hv4 dX4_askPut_33 ?_
        refine V_goto hc dX4_askPut_34 rfl ?_
        obtain rfl := Option.some.inj hv2
        exact V_sub [] rfl hJ21
    · rw [if_pos hq8] at hf
      refine V_iload_n hc dX4_askPut_11 rfl 2 rfl ?_
      refine V_iload_n hc dX4_askPut_12 rfl 1 rfl ?_
      refine V_isub hc dX4_askPut_13 ?_
      obtain rfl := Option.some.inj hf
      exact V_iret hc hz rfl rfl rfl rfl rfl dX4_askPut_14
  · rw [if_pos hq1] at hf
    refine V_iconst hc (v := (1 : Int32)) dX4_askPut_4 rfl ?_
    obtain rfl := Option.some.inj hf
    exact V_iret hc hz rfl rfl rfl rfl rfl dX4_askPut_5
noncomputable def f3_askLatest (S : CS) (h : Nat) (p1 : Int32) (p2 : Int32) : Option (Int32) :=
  (gi S 3 h 1).bind fun v1 =>
  (
    if v1 ≤ 0 then (
      some (-1 : Int32)
    ) else (
      (gr S 3 h 0).bind fun a4 =>
      (gi S 3 h 1).bind fun v5 =>
      (ldr S 17 a4 (v5 - (1 : Int32))).bind fun a6 =>
      (cal S 4 a6 (f4_ask S a6 p1 p2)).bind fun v7 =>
      some v7
    )
  ).bind fun v2 =>
  some v2
theorem hdX_X3_askLatest : yX3_askLatest.cls = "FarEditors$Inverses" ∧ yX3_askLatest.cls ≠ "java/lang/invoke/MethodHandle" ∧ yX3_askLatest.cls ≠ "java/lang/invoke/VarHandle" ∧ (parseMethodDescriptor yX3_askLatest.desc).map (fun d => d.parameters.length) = some 2 := by decide +kernel
set_option maxHeartbeats 4000000 in
set_option maxRecDepth 100000 in
theorem c3_askLatest (l : Launch) (D : va_G) (y : CyT) (zM uM : Nat) {S : CS} {h : Nat} {p1 : Int32} {p2 : Int32} {r : Int32} (hf : f3_askLatest S h p1 p2 = some r) : CT l D (tyL y) yX3_askLatest cX3_askLatest 3 (some .int) 3 66 zM uM [.ref h, .int p1, .int p2] (cZ S) (cU S) (cw y S) (cZ S) (cU S) (cw y S) (some (.int r)) := by
  refine CT.of (by decide) (Nat.le_of_ble_eq_true rfl) (fun E hc hz hnm => ?_)
  have hc : Cx E "FarEditors$Inverses" cX3_askLatest 3 := hc
  have hT := hz.2.2.1
  show V E (cZ S) (cU S) (cw y S) 0 [(0, .ref h), (1, .int p1), (2, .int p2)] []
  unfold f3_askLatest at hf
  refine V_aload_n hc dX3_askLatest_0 rfl 0 rfl ?_
  obtain ⟨v1, hv1, hf⟩ := mb hf
  refine C_geti hc rfl iW3 (by decide) 1 (by decide) rfl hv1 w1_227 dX3_askLatest_1 ?_
  obtain ⟨v2, hv3, hf⟩ := mb hf
  have hJ4 : V E (cZ S) (cU S) (cw y S) 27 [] [.int v2] := by
    obtain rfl := Option.some.inj hf
    exact V_iret hc hz rfl rfl rfl rfl rfl dX3_askLatest_27
  refine V_if_le hc dX3_askLatest_4 rfl (fun hq4 => ?_) (fun hq4 => ?_)
  · rw [if_pos hq4] at hv3
    refine V_iconst hc (v := (-1 : Int32)) dX3_askLatest_26 rfl ?_
    obtain rfl := Option.some.inj hv3
    exact V_sub [] rfl hJ4
  · rw [if_neg hq4] at hv3
    refine V_aload_n hc dX3_askLatest_7 rfl 0 rfl ?_
    obtain ⟨a4, ha4, hv3⟩ := mb hv3
    refine C_getr hc rfl iW3 (by decide) 0 (by decide) rfl ha4 w1_223 dX3_askLatest_8 ?_
    refine V_aload_n hc dX3_askLatest_11 rfl 0 rfl ?_
    obtain ⟨v5, hv5, hv3⟩ := mb hv3
    refine C_geti hc rfl iW3 (by decide) 1 (by decide) rfl hv5 w1_227 dX3_askLatest_12 ?_
    refine V_iconst hc (v := (1 : Int32)) dX3_askLatest_15 rfl ?_
    refine V_isub hc dX3_askLatest_16 ?_
    obtain ⟨a6, ha6, hv3⟩ := mb hv3
    refine C_aald hc hT (by decide) (by decide) ha6 dX3_askLatest_17 ?_
    refine V_iload_n hc dX3_askLatest_18 rfl 1 rfl ?_
    refine V_iload_n hc dX3_askLatest_19 rfl 2 rfl ?_
    obtain ⟨v7, hv7, hv3⟩ := mb hv3
    obtain ⟨hkv7, hv7⟩ := og hv7
    refine C_callV hc hz (As := [.int p1, .int p2]) hkv7 (by decide) (c4_ask l D y _ _ hv7) w4_231 w4_216 w4_217 w1_5 w4_218 hdX_X4_ask ⟨(Nat.le_of_ble_eq_true rfl), (Nat.le_of_ble_eq_true rfl)⟩ rfl rfl rfl (Nat.le_of_ble_eq_true rfl) dX3_askLatest_20 ?_
    refine V_goto hc dX3_askLatest_23 rfl ?_
    obtain rfl := Option.some.inj hv3
    exact V_sub [] rfl hJ4
noncomputable def f4_buildPut (X : Nat × Nat) (S : CS) (h : Nat) (p1 : Int32) (p2 : Int32) (p3 : Int32) : Option (CS) :=
  (cal S 4 h (f4_begin X S h (3 : Int32))).bind fun S1 =>
  (cal S1 4 h (f4_addKeep S1 h p1)).bind fun S2 =>
  (cal S2 4 h (f4_addPut S2 h p2)).bind fun S3 =>
  (cal S3 4 h (f4_addKeep S3 h (p3 - p1))).bind fun S4 =>
  some S4
theorem hdX_X4_buildPut : yX4_buildPut.cls = "FarEditors$Op" ∧ yX4_buildPut.cls ≠ "java/lang/invoke/MethodHandle" ∧ yX4_buildPut.cls ≠ "java/lang/invoke/VarHandle" ∧ (parseMethodDescriptor yX4_buildPut.desc).map (fun d => d.parameters.length) = some 3 := by decide +kernel
set_option maxHeartbeats 4000000 in
set_option maxRecDepth 100000 in
theorem c4_buildPut (l : Launch) (D : va_G) (y : CyT) (X : Nat × Nat) (hX : X.2 ≤ 100000000) {S S' : CS} {h : Nat} {p1 : Int32} {p2 : Int32} {p3 : Int32} (hf : f4_buildPut X S h p1 p2 p3 = some S') : CT l D (tyL y) yX4_buildPut cX4_buildPut 4 none 2 42 X.1 X.2 [.ref h, .int p1, .int p2, .int p3] (cZ S) (cU S) (cw y S) (cZ S') (cU S') (cw y S') none := by
  refine CT.of (by decide) (Nat.le_of_ble_eq_true rfl) (fun E hc hz hnm => ?_)
  have hc : Cx E "FarEditors$Op" cX4_buildPut 4 := hc
  have hT := hz.2.2.1
  show V E (cZ S) (cU S) (cw y S) 0 [(0, .ref h), (1, .int p1), (2, .int p2), (3, .int p3)] []
  unfold f4_buildPut at hf
  refine V_aload_n hc dX4_buildPut_0 rfl 0 rfl ?_
  refine V_iconst hc (v := (3 : Int32)) dX4_buildPut_1 rfl ?_
  obtain ⟨S1, hS1, hf⟩ := mb hf
  obtain ⟨hkS1, hS1⟩ := og hS1
  refine C_callV hc hz (As := [.int (3 : Int32)]) hkS1 (by decide) (c4_begin l D y X hX hS1) w4_126 w4_21 w4_22 w1_5 w4_23 hdX_X4_begin ⟨(Nat.le_of_ble_eq_true rfl), (Nat.le_of_ble_eq_true rfl)⟩ rfl rfl rfl (Nat.le_of_ble_eq_true rfl) dX4_buildPut_2 ?_
  refine V_aload_n hc dX4_buildPut_5 rfl 0 rfl ?_
  refine V_iload_n hc dX4_buildPut_6 rfl 1 rfl ?_
  obtain ⟨S2, hS2, hf⟩ := mb hf
  obtain ⟨hkS2, hS2⟩ := og hS2
  refine C_callV hc hz (As := [.int p1]) hkS2 (by decide) (c4_addKeep l D y _ _ hS2) w4_129 w4_44 w4_45 w1_5 w4_46 hdX_X4_addKeep ⟨(Nat.le_of_ble_eq_true rfl), (Nat.le_of_ble_eq_true rfl)⟩ rfl rfl rfl (Nat.le_of_ble_eq_true rfl) dX4_buildPut_7 ?_
  refine V_aload_n hc dX4_buildPut_10 rfl 0 rfl ?_
  refine V_iload_n hc dX4_buildPut_11 rfl 2 rfl ?_
  obtain ⟨S3, hS3, hf⟩ := mb hf
  obtain ⟨hkS3, hS3⟩ := og hS3
  refine C_callV hc hz (As := [.int p2]) hkS3 (by decide) (c4_addPut l D y _ _ hS3) w4_127 w4_40 w4_41 w1_5 w4_42 hdX_X4_addPut ⟨(Nat.le_of_ble_eq_true rfl), (Nat.le_of_ble_eq_true rfl)⟩ rfl rfl rfl (Nat.le_of_ble_eq_true rfl) dX4_buildPut_12 ?_
  refine V_aload_n hc dX4_buildPut_15 rfl 0 rfl ?_
  refine V_iload_n hc dX4_buildPut_16 rfl 3 rfl ?_
  refine V_iload_n hc dX4_buildPut_17 rfl 1 rfl ?_
  refine V_isub hc dX4_buildPut_18 ?_
  obtain ⟨S4, hS4, hf⟩ := mb hf
  obtain ⟨hkS4, hS4⟩ := og hS4
  refine C_callV hc hz (As := [.int (p3 - p1)]) hkS4 (by decide) (c4_addKeep l D y _ _ hS4) w4_129 w4_44 w4_45 w1_5 w4_46 hdX_X4_addKeep ⟨(Nat.le_of_ble_eq_true rfl), (Nat.le_of_ble_eq_true rfl)⟩ rfl rfl rfl (Nat.le_of_ble_eq_true rfl) dX4_buildPut_19 ?_
  obtain rfl := Option.some.inj hf
  exact V_vret hc hz rfl rfl rfl rfl dX4_buildPut_22
noncomputable def f4_buildCut (X : Nat × Nat) (S : CS) (h : Nat) (p1 : Int32) (p2 : Int32) (p3 : Int32) : Option (CS) :=
  (cal S 4 h (f4_begin X S h (3 : Int32))).bind fun S1 =>
  (cal S1 4 h (f4_addKeep S1 h p1)).bind fun S2 =>
  (cal S2 4 h (f4_addCut S2 h p2)).bind fun S3 =>
  (cal S3 4 h (f4_addKeep S3 h ((p3 - p1) - p2))).bind fun S4 =>
  some S4
theorem hdX_X4_buildCut : yX4_buildCut.cls = "FarEditors$Op" ∧ yX4_buildCut.cls ≠ "java/lang/invoke/MethodHandle" ∧ yX4_buildCut.cls ≠ "java/lang/invoke/VarHandle" ∧ (parseMethodDescriptor yX4_buildCut.desc).map (fun d => d.parameters.length) = some 3 := by decide +kernel
set_option maxHeartbeats 4000000 in
set_option maxRecDepth 100000 in
theorem c4_buildCut (l : Launch) (D : va_G) (y : CyT) (X : Nat × Nat) (hX : X.2 ≤ 100000000) {S S' : CS} {h : Nat} {p1 : Int32} {p2 : Int32} {p3 : Int32} (hf : f4_buildCut X S h p1 p2 p3 = some S') : CT l D (tyL y) yX4_buildCut cX4_buildCut 4 none 2 42 X.1 X.2 [.ref h, .int p1, .int p2, .int p3] (cZ S) (cU S) (cw y S) (cZ S') (cU S') (cw y S') none := by
  refine CT.of (by decide) (Nat.le_of_ble_eq_true rfl) (fun E hc hz hnm => ?_)
  have hc : Cx E "FarEditors$Op" cX4_buildCut 4 := hc
  have hT := hz.2.2.1
  show V E (cZ S) (cU S) (cw y S) 0 [(0, .ref h), (1, .int p1), (2, .int p2), (3, .int p3)] []
  unfold f4_buildCut at hf
  refine V_aload_n hc dX4_buildCut_0 rfl 0 rfl ?_
  refine V_iconst hc (v := (3 : Int32)) dX4_buildCut_1 rfl ?_
  obtain ⟨S1, hS1, hf⟩ := mb hf
  obtain ⟨hkS1, hS1⟩ := og hS1
  refine C_callV hc hz (As := [.int (3 : Int32)]) hkS1 (by decide) (c4_begin l D y X hX hS1) w4_126 w4_21 w4_22 w1_5 w4_23 hdX_X4_begin ⟨(Nat.le_of_ble_eq_true rfl), (Nat.le_of_ble_eq_true rfl)⟩ rfl rfl rfl (Nat.le_of_ble_eq_true rfl) dX4_buildCut_2 ?_
  refine V_aload_n hc dX4_buildCut_5 rfl 0 rfl ?_
  refine V_iload_n hc dX4_buildCut_6 rfl 1 rfl ?_
  obtain ⟨S2, hS2, hf⟩ := mb hf
  obtain ⟨hkS2, hS2⟩ := og hS2
  refine C_callV hc hz (As := [.int p1]) hkS2 (by decide) (c4_addKeep l D y _ _ hS2) w4_129 w4_44 w4_45 w1_5 w4_46 hdX_X4_addKeep ⟨(Nat.le_of_ble_eq_true rfl), (Nat.le_of_ble_eq_true rfl)⟩ rfl rfl rfl (Nat.le_of_ble_eq_true rfl) dX4_buildCut_7 ?_
  refine V_aload_n hc dX4_buildCut_10 rfl 0 rfl ?_
  refine V_iload_n hc dX4_buildCut_11 rfl 2 rfl ?_
  obtain ⟨S3, hS3, hf⟩ := mb hf
  obtain ⟨hkS3, hS3⟩ := og hS3
  refine C_callV hc hz (As := [.int p2]) hkS3 (by decide) (c4_addCut l D y _ _ hS3) w4_128 w4_58 w4_59 w1_5 w4_60 hdX_X4_addCut ⟨(Nat.le_of_ble_eq_true rfl), (Nat.le_of_ble_eq_true rfl)⟩ rfl rfl rfl (Nat.le_of_ble_eq_true rfl) dX4_buildCut_12 ?_
  refine V_aload_n hc dX4_buildCut_15 rfl 0 rfl ?_
  refine V_iload_n hc dX4_buildCut_16 rfl 3 rfl ?_
  refine V_iload_n hc dX4_buildCut_17 rfl 1 rfl ?_
  refine V_isub hc dX4_buildCut_18 ?_
  refine V_iload_n hc dX4_buildCut_19 rfl 2 rfl ?_
  refine V_isub hc dX4_buildCut_20 ?_
  obtain ⟨S4, hS4, hf⟩ := mb hf
  obtain ⟨hkS4, hS4⟩ := og hS4
  refine C_callV hc hz (As := [.int ((p3 - p1) - p2)]) hkS4 (by decide) (c4_addKeep l D y _ _ hS4) w4_129 w4_44 w4_45 w1_5 w4_46 hdX_X4_addKeep ⟨(Nat.le_of_ble_eq_true rfl), (Nat.le_of_ble_eq_true rfl)⟩ rfl rfl rfl (Nat.le_of_ble_eq_true rfl) dX4_buildCut_21 ?_
  obtain rfl := Option.some.inj hf
  exact V_vret hc hz rfl rfl rfl rfl dX4_buildCut_24
noncomputable def f5_init (X : Nat × Nat) (S : CS) (h : Nat) : Option (CS) :=
  (nwo X S 4 2).bind fun S1 =>
  (f4_init X S1 (cZ S)).bind fun S2 =>
  (pr S2 5 h 0 (cZ S)).bind fun S3 =>
  (pi S3 5 h 1 (0 : Int32)).bind fun S4 =>
  (pi S4 5 h 2 (0 : Int32)).bind fun S5 =>
  (pi S5 5 h 3 (0 : Int32)).bind fun S6 =>
  some S6
theorem hdX_X5_init : yX5_init.cls = "FarEditors$Reader" ∧ yX5_init.cls ≠ "java/lang/invoke/MethodHandle" ∧ yX5_init.cls ≠ "java/lang/invoke/VarHandle" ∧ (parseMethodDescriptor yX5_init.desc).map (fun d => d.parameters.length) = some 0 := by decide +kernel
set_option maxHeartbeats 4000000 in
set_option maxRecDepth 100000 in
theorem c5_init (l : Launch) (D : va_G) (y : CyT) (X : Nat × Nat) (hX : X.2 ≤ 100000000) {S S' : CS} {h : Nat} (hf : f5_init X S h = some S') : CT l D (tyL y) yX5_init cX5_init 1 none 2 40 X.1 X.2 [.ref h] (cZ S) (cU S) (cw y S) (cZ S') (cU S') (cw y S') none := by
  refine CT.of (by decide) (Nat.le_of_ble_eq_true rfl) (fun E hc hz hnm => ?_)
  have hc : Cx E "FarEditors$Reader" cX5_init 1 := hc
  have hnm : (xH E).name = "<init>" := hnm
  have hT := hz.2.2.1
  show V E (cZ S) (cU S) (cw y S) 0 [(0, .ref h)] []
  unfold f5_init at hf
  refine V_aload_n hc dX5_init_0 rfl 0 rfl ?_
  refine V_objInit hc hz w1_94 w1_27 w1_28 ⟨(Nat.le_of_ble_eq_true rfl), (Nat.le_of_ble_eq_true rfl)⟩ (Nat.le_of_ble_eq_true rfl) dX5_init_1 ?_
  refine V_aload_n hc dX5_init_4 rfl 0 rfl ?_
  obtain ⟨S1, hS1, hf⟩ := mb hf
  refine C_new hc hz rfl iW4 tyX4 tyX4_ok df4 (by decide) hS1 w1_95 w1_96 w1_5 dX5_init_5 ?_
  refine V_dup hc dX5_init_8 rfl ?_
  obtain ⟨S2, hS2, hf⟩ := mb hf
  refine V_callI hc hz (As := []) (c4_init l D y X hX hS2) w1_97 w1_98 w1_5 w1_99 rfl hdX_X4_init.2 ⟨(Nat.le_of_ble_eq_true rfl), (Nat.le_of_ble_eq_true rfl)⟩ rfl rfl (Nat.le_of_ble_eq_true rfl) dX5_init_9 ?_
  obtain ⟨S3, hS3, hf⟩ := mb hf
  refine C_putr hc rfl iW5 tyX5 tyX5_ok nmX5 (by decide) 0 (by decide) rfl hS3 w1_114 rfl rfl rfl dX5_init_12 ?_
  refine V_aload_n hc dX5_init_15 rfl 0 rfl ?_
  refine V_iconst hc (v := (0 : Int32)) dX5_init_16 rfl ?_
  obtain ⟨S4, hS4, hf⟩ := mb hf
  refine C_puti hc rfl iW5 tyX5 tyX5_ok nmX5 (by decide) 1 (by decide) rfl hS4 w1_115 rfl rfl rfl dX5_init_17 ?_
  refine V_aload_n hc dX5_init_20 rfl 0 rfl ?_
  refine V_iconst hc (v := (0 : Int32)) dX5_init_21 rfl ?_
  obtain ⟨S5, hS5, hf⟩ := mb hf
  refine C_puti hc rfl iW5 tyX5 tyX5_ok nmX5 (by decide) 2 (by decide) rfl hS5 w1_116 rfl rfl rfl dX5_init_22 ?_
  refine V_aload_n hc dX5_init_25 rfl 0 rfl ?_
  refine V_iconst hc (v := (0 : Int32)) dX5_init_26 rfl ?_
  obtain ⟨S6, hS6, hf⟩ := mb hf
  refine C_puti hc rfl iW5 tyX5 tyX5_ok nmX5 (by decide) 3 (by decide) rfl hS6 w1_118 rfl rfl rfl dX5_init_27 ?_
  obtain rfl := Option.some.inj hf
  exact V_vret hc hz rfl rfl rfl rfl dX5_init_30
