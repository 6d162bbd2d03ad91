noncomputable def f1_init (X : Nat × Nat) (S : CS) (h : Nat) : Option (CS) :=
  (nwo X S 7 2).bind fun S1 =>
  (f7_init X S1 (cZ S)).bind fun S2 =>
  (pr S2 1 h 0 (cZ S)).bind fun S3 =>
  (nwo X S3 4 2).bind fun S4 =>
  (f4_init X S4 (cZ S3)).bind fun S5 =>
  (pr S5 1 h 1 (cZ S3)).bind fun S6 =>
  (nwo X S6 4 2).bind fun S7 =>
  (f4_init X S7 (cZ S6)).bind fun S8 =>
  (pr S8 1 h 2 (cZ S6)).bind fun S9 =>
  (nwo X S9 3 2).bind fun S10 =>
  (f3_init X S10 (cZ S9)).bind fun S11 =>
  (pr S11 1 h 3 (cZ S9)).bind fun S12 =>
  (nwo X S12 3 2).bind fun S13 =>
  (f3_init X S13 (cZ S12)).bind fun S14 =>
  (pr S14 1 h 4 (cZ S12)).bind fun S15 =>
  (nwa X S15 14 (12 : Int32)).bind fun S16 =>
  (pr S16 1 h 5 (cZ S15)).bind fun S17 =>
  (nwa X S17 14 (100 : Int32)).bind fun S18 =>
  (pr S18 1 h 6 (cZ S17)).bind fun S19 =>
  (pi S19 1 h 7 (0 : Int32)).bind fun S20 =>
  (pi S20 1 h 8 (0 : Int32)).bind fun S21 =>
  (pi S21 1 h 9 (0 : Int32)).bind fun S22 =>
  (pi S22 1 h 10 (1 : Int32)).bind fun S23 =>
  (pi S23 1 h 11 (-1 : Int32)).bind fun S24 =>
  (pi S24 1 h 12 (0 : Int32)).bind fun S25 =>
  (pi S25 1 h 13 (0 : Int32)).bind fun S26 =>
  (pi S26 1 h 14 (1 : Int32)).bind fun S27 =>
  some S27
theorem hdX_X1_init : yX1_init.cls = "FarEditors$Editor" ∧ yX1_init.cls ≠ "java/lang/invoke/MethodHandle" ∧ yX1_init.cls ≠ "java/lang/invoke/VarHandle" ∧ (parseMethodDescriptor yX1_init.desc).map (fun d => d.parameters.length) = some 0 := by decide +kernel
set_option maxHeartbeats 4000000 in
set_option maxRecDepth 100000 in
theorem c1_init (l : Launch) (D : va_G) (y : CyT) (X : Nat × Nat) (hX : X.2 ≤ 100000000) {S S' : CS} {h : Nat} (hf : f1_init X S h = some S') : CT l D y yX1_init cX1_init 1 none 3 61 X.1 X.2 [.ref h] (cZ S) (cU S) (cw y S) (cZ S') (cU S') (cw y S') none := by
  refine CT.of (by decide) (Nat.le_of_ble_eq_true rfl) (fun E hc hzz hnm => ?_)
  have hc : Cx E "FarEditors$Editor" cX1_init 1 := hc
  have hnm : (xH E).name = "<init>" := hnm
  have hz := hzz.1
  have hT := hz.2.2.1
  show V E (cZ S) (cU S) (cw y S) 0 [(0, .ref h)] []
  unfold f1_init at hf
  refine V_aload_n hc dX1_init_0 rfl 0 rfl ?_
  refine V_objInit hc hz w1_210 w1_27 w1_28 ⟨(Nat.le_of_ble_eq_true rfl), (Nat.le_of_ble_eq_true rfl)⟩ (Nat.le_of_ble_eq_true rfl) dX1_init_1 ?_
  refine V_aload_n hc dX1_init_4 rfl 0 rfl ?_
  obtain ⟨S1, hS1, hf⟩ := mb hf
  refine C_new hc hz rfl iW7 tyX7 tyX7_ok df7 (by decide) hS1 w1_211 w1_161 w1_7 dX1_init_5 ?_
  refine V_dup hc dX1_init_8 rfl ?_
  obtain ⟨S2, hS2, hf⟩ := mb hf
  refine V_callI hc hz (As := []) (c7_init l D y X hX hS2) w1_212 w1_163 w1_7 w1_164 rfl hdX_X7_init.2 ⟨(Nat.le_of_ble_eq_true rfl), (Nat.le_of_ble_eq_true rfl)⟩ rfl rfl (Nat.le_of_ble_eq_true rfl) dX1_init_9 ?_
  obtain ⟨S3, hS3, hf⟩ := mb hf
  refine C_putrF hc hnm rfl iW1 tyX1 tyX1_ok nmX1 (by decide) 0 (by decide) rfl hS3 w1_237 rfl rfl rfl rfl dX1_init_12 ?_
  refine V_aload_n hc dX1_init_15 rfl 0 rfl ?_
  obtain ⟨S4, hS4, hf⟩ := mb hf
  refine C_new hc hz rfl iW4 tyX4 tyX4_ok df4 (by decide) hS4 w1_213 w1_96 w1_5 dX1_init_16 ?_
  refine V_dup hc dX1_init_19 rfl ?_
  obtain ⟨S5, hS5, hf⟩ := mb hf
  refine V_callI hc hz (As := []) (c4_init l D y X hX hS5) w1_214 w1_98 w1_5 w1_99 rfl hdX_X4_init.2 ⟨(Nat.le_of_ble_eq_true rfl), (Nat.le_of_ble_eq_true rfl)⟩ rfl rfl (Nat.le_of_ble_eq_true rfl) dX1_init_20 ?_
  obtain ⟨S6, hS6, hf⟩ := mb hf
  refine C_putrF hc hnm rfl iW1 tyX1 tyX1_ok nmX1 (by decide) 1 (by decide) rfl hS6 w2_0 rfl rfl rfl rfl dX1_init_23 ?_
  refine V_aload_n hc dX1_init_26 rfl 0 rfl ?_
  obtain ⟨S7, hS7, hf⟩ := mb hf
  refine C_new hc hz rfl iW4 tyX4 tyX4_ok df4 (by decide) hS7 w1_213 w1_96 w1_5 dX1_init_27 ?_
  refine V_dup hc dX1_init_30 rfl ?_
  obtain ⟨S8, hS8, hf⟩ := mb hf
  refine V_callI hc hz (As := []) (c4_init l D y X hX hS8) w1_214 w1_98 w1_5 w1_99 rfl hdX_X4_init.2 ⟨(Nat.le_of_ble_eq_true rfl), (Nat.le_of_ble_eq_true rfl)⟩ rfl rfl (Nat.le_of_ble_eq_true rfl) dX1_init_31 ?_
  obtain ⟨S9, hS9, hf⟩ := mb hf
  refine C_putrF hc hnm rfl iW1 tyX1 tyX1_ok nmX1 (by decide) 2 (by decide) rfl hS9 w2_3 rfl rfl rfl rfl dX1_init_34 ?_
  refine V_aload_n hc dX1_init_37 rfl 0 rfl ?_
  obtain ⟨S10, hS10, hf⟩ := mb hf
  refine C_new hc hz rfl iW3 tyX3 tyX3_ok df3 (by decide) hS10 w1_215 w1_216 w1_10 dX1_init_38 ?_
  refine V_dup hc dX1_init_41 rfl ?_
  obtain ⟨S11, hS11, hf⟩ := mb hf
  refine V_callI hc hz (As := []) (c3_init l D y X hX hS11) w1_217 w1_218 w1_10 w1_219 rfl hdX_X3_init.2 ⟨(Nat.le_of_ble_eq_true rfl), (Nat.le_of_ble_eq_true rfl)⟩ rfl rfl (Nat.le_of_ble_eq_true rfl) dX1_init_42 ?_
  obtain ⟨S12, hS12, hf⟩ := mb hf
  refine C_putrF hc hnm rfl iW1 tyX1 tyX1_ok nmX1 (by decide) 3 (by decide) rfl hS12 w2_6 rfl rfl rfl rfl dX1_init_45 ?_
  refine V_aload_n hc dX1_init_48 rfl 0 rfl ?_
  obtain ⟨S13, hS13, hf⟩ := mb hf
  refine C_new hc hz rfl iW3 tyX3 tyX3_ok df3 (by decide) hS13 w1_215 w1_216 w1_10 dX1_init_49 ?_
  refine V_dup hc dX1_init_52 rfl ?_
  obtain ⟨S14, hS14, hf⟩ := mb hf
  refine V_callI hc hz (As := []) (c3_init l D y X hX hS14) w1_217 w1_218 w1_10 w1_219 rfl hdX_X3_init.2 ⟨(Nat.le_of_ble_eq_true rfl), (Nat.le_of_ble_eq_true rfl)⟩ rfl rfl (Nat.le_of_ble_eq_true rfl) dX1_init_53 ?_
  obtain ⟨S15, hS15, hf⟩ := mb hf
  refine C_putrF hc hnm rfl iW1 tyX1 tyX1_ok nmX1 (by decide) 4 (by decide) rfl hS15 w2_9 rfl rfl rfl rfl dX1_init_56 ?_
  refine V_aload_n hc dX1_init_59 rfl 0 rfl ?_
  refine V_bipush hc (v := (12 : Int32)) dX1_init_60 rfl ?_
  obtain ⟨S16, hS16, hf⟩ := mb hf
  refine C_newi hc hz hS16 hX w1_82 dX1_init_62 ?_
  obtain ⟨S17, hS17, hf⟩ := mb hf
  refine C_putrF hc hnm rfl iW1 tyX1 tyX1_ok nmX1 (by decide) 5 (by decide) rfl hS17 w2_12 rfl rfl rfl rfl dX1_init_64 ?_
  refine V_aload_n hc dX1_init_67 rfl 0 rfl ?_
  refine V_bipush hc (v := (100 : Int32)) dX1_init_68 rfl ?_
  obtain ⟨S18, hS18, hf⟩ := mb hf
  refine C_newi hc hz hS18 hX w1_82 dX1_init_70 ?_
  obtain ⟨S19, hS19, hf⟩ := mb hf
  refine C_putrF hc hnm rfl iW1 tyX1 tyX1_ok nmX1 (by decide) 6 (by decide) rfl hS19 w2_14 rfl rfl rfl rfl dX1_init_72 ?_
  refine V_aload_n hc dX1_init_75 rfl 0 rfl ?_
  refine V_iconst hc (v := (0 : Int32)) dX1_init_76 rfl ?_
  obtain ⟨S20, hS20, hf⟩ := mb hf
  refine C_puti hc rfl iW1 tyX1 tyX1_ok nmX1 (by decide) 7 (by decide) rfl hS20 w2_16 rfl rfl rfl dX1_init_77 ?_
  refine V_aload_n hc dX1_init_80 rfl 0 rfl ?_
  refine V_iconst hc (v := (0 : Int32)) dX1_init_81 rfl ?_
  obtain ⟨S21, hS21, hf⟩ := mb hf
  refine C_puti hc rfl iW1 tyX1 tyX1_ok nmX1 (by decide) 8 (by decide) rfl hS21 w2_19 rfl rfl rfl dX1_init_82 ?_
  refine V_aload_n hc dX1_init_85 rfl 0 rfl ?_
  refine V_iconst hc (v := (0 : Int32)) dX1_init_86 rfl ?_
  obtain ⟨S22, hS22, hf⟩ := mb hf
  refine C_puti hc rfl iW1 tyX1 tyX1_ok nmX1 (by decide) 9 (by decide) rfl hS22 w2_22 rfl rfl rfl dX1_init_87 ?_
  refine V_aload_n hc dX1_init_90 rfl 0 rfl ?_
  refine V_iconst hc (v := (1 : Int32)) dX1_init_91 rfl ?_
  obtain ⟨S23, hS23, hf⟩ := mb hf
  refine C_puti hc rfl iW1 tyX1 tyX1_ok nmX1 (by decide) 10 (by decide) rfl hS23 w2_24 rfl rfl rfl dX1_init_92 ?_
  refine V_aload_n hc dX1_init_95 rfl 0 rfl ?_
  refine V_iconst hc (v := (-1 : Int32)) dX1_init_96 rfl ?_
  obtain ⟨S24, hS24, hf⟩ := mb hf
  refine C_puti hc rfl iW1 tyX1 tyX1_ok nmX1 (by decide) 11 (by decide) rfl hS24 w2_27 rfl rfl rfl dX1_init_97 ?_
  refine V_aload_n hc dX1_init_100 rfl 0 rfl ?_
  refine V_iconst hc (v := (0 : Int32)) dX1_init_101 rfl ?_
  obtain ⟨S25, hS25, hf⟩ := mb hf
  refine C_puti hc rfl iW1 tyX1 tyX1_ok nmX1 (by decide) 12 (by decide) rfl hS25 w2_31 rfl rfl rfl dX1_init_102 ?_
  refine V_aload_n hc dX1_init_105 rfl 0 rfl ?_
  refine V_iconst hc (v := (0 : Int32)) dX1_init_106 rfl ?_
  obtain ⟨S26, hS26, hf⟩ := mb hf
  refine C_puti hc rfl iW1 tyX1 tyX1_ok nmX1 (by decide) 13 (by decide) rfl hS26 w2_34 rfl rfl rfl dX1_init_107 ?_
  refine V_aload_n hc dX1_init_110 rfl 0 rfl ?_
  refine V_iconst hc (v := (1 : Int32)) dX1_init_111 rfl ?_
  obtain ⟨S27, hS27, hf⟩ := mb hf
  refine C_puti hc rfl iW1 tyX1 tyX1_ok nmX1 (by decide) 14 (by decide) rfl hS27 w2_37 rfl rfl rfl dX1_init_112 ?_
  obtain rfl := Option.some.inj hf
  exact V_vret hc hzz rfl rfl rfl rfl dX1_init_115
noncomputable def f1_begin (S : CS) (h : Nat) (p1 : Nat) : Option (CS) :=
  (gr S 1 h 0).bind fun a1 =>
  (cal S 7 a1 (f7_copy S a1 p1)).bind fun S2 =>
  (gr S2 1 h 3).bind fun a3 =>
  (pi S2 3 a3 1 (0 : Int32)).bind fun S4 =>
  (gr S4 1 h 4).bind fun a5 =>
  (pi S4 3 a5 1 (0 : Int32)).bind fun S6 =>
  (pi S6 1 h 7 (0 : Int32)).bind fun S7 =>
  (pi S7 1 h 8 (0 : Int32)).bind fun S8 =>
  (pi S8 1 h 9 (0 : Int32)).bind fun S9 =>
  (pi S9 1 h 10 (1 : Int32)).bind fun S10 =>
  (pi S10 1 h 11 (-1 : Int32)).bind fun S11 =>
  (pi S11 1 h 12 (0 : Int32)).bind fun S12 =>
  (pi S12 1 h 13 (0 : Int32)).bind fun S13 =>
  (pi S13 1 h 14 (1 : Int32)).bind fun S14 =>
  some S14
theorem hdX_X1_begin : yX1_begin.cls = "FarEditors$Editor" ∧ yX1_begin.cls ≠ "java/lang/invoke/MethodHandle" ∧ yX1_begin.cls ≠ "java/lang/invoke/VarHandle" ∧ (parseMethodDescriptor yX1_begin.desc).map (fun d => d.parameters.length) = some 1 := by decide +kernel
set_option maxHeartbeats 4000000 in
set_option maxRecDepth 100000 in
theorem c1_begin (l : Launch) (D : va_G) (y : CyT) (zM uM : Nat) {S S' : CS} {h : Nat} {p1 : Nat} (hf : f1_begin S h p1 = some S') : CT l D y yX1_begin cX1_begin 2 none 2 47 zM uM [.ref h, .ref p1] (cZ S) (cU S) (cw y S) (cZ S') (cU S') (cw y S') none := by
  refine CT.of (by decide) (Nat.le_of_ble_eq_true rfl) (fun E hc hzz hnm => ?_)
  have hc : Cx E "FarEditors$Editor" cX1_begin 2 := hc
  have hz := hzz.1
  have hT := hz.2.2.1
  show V E (cZ S) (cU S) (cw y S) 0 [(0, .ref h), (1, .ref p1)] []
  unfold f1_begin at hf
  refine V_aload_n hc dX1_begin_0 rfl 0 rfl ?_
  obtain ⟨a1, ha1, hf⟩ := mb hf
  refine C_getr hc rfl iW1 (by decide) 0 (by decide) rfl ha1 w1_237 dX1_begin_1 ?_
  refine V_aload_n hc dX1_begin_4 rfl 1 rfl ?_
  obtain ⟨S2, hS2, hf⟩ := mb hf
  obtain ⟨hkS2, hS2⟩ := og hS2
  refine C_callV hc hz (As := [.ref p1]) hkS2 (by decide) (c7_copy l D y _ _ hS2) w3_212 w3_205 w3_206 w1_7 w3_207 hdX_X7_copy ⟨(Nat.le_of_ble_eq_true rfl), (Nat.le_of_ble_eq_true rfl)⟩ rfl rfl rfl (Nat.le_of_ble_eq_true rfl) dX1_begin_5 ?_
  refine V_aload_n hc dX1_begin_8 rfl 0 rfl ?_
  obtain ⟨a3, ha3, hf⟩ := mb hf
  refine C_getr hc rfl iW1 (by decide) 3 (by decide) rfl ha3 w2_6 dX1_begin_9 ?_
  refine V_iconst hc (v := (0 : Int32)) dX1_begin_12 rfl ?_
  obtain ⟨S4, hS4, hf⟩ := mb hf
  refine C_puti hc rfl iW3 tyX3 tyX3_ok nmX3 (by decide) 1 (by decide) rfl hS4 w1_228 rfl rfl rfl dX1_begin_13 ?_
  refine V_aload_n hc dX1_begin_16 rfl 0 rfl ?_
  obtain ⟨a5, ha5, hf⟩ := mb hf
  refine C_getr hc rfl iW1 (by decide) 4 (by decide) rfl ha5 w2_9 dX1_begin_17 ?_
  refine V_iconst hc (v := (0 : Int32)) dX1_begin_20 rfl ?_
  obtain ⟨S6, hS6, hf⟩ := mb hf
  refine C_puti hc rfl iW3 tyX3 tyX3_ok nmX3 (by decide) 1 (by decide) rfl hS6 w1_228 rfl rfl rfl dX1_begin_21 ?_
  refine V_aload_n hc dX1_begin_24 rfl 0 rfl ?_
  refine V_iconst hc (v := (0 : Int32)) dX1_begin_25 rfl ?_
  obtain ⟨S7, hS7, hf⟩ := mb hf
  refine C_puti hc rfl iW1 tyX1 tyX1_ok nmX1 (by decide) 7 (by decide) rfl hS7 w2_16 rfl rfl rfl dX1_begin_26 ?_
  refine V_aload_n hc dX1_begin_29 rfl 0 rfl ?_
  refine V_iconst hc (v := (0 : Int32)) dX1_begin_30 rfl ?_
  obtain ⟨S8, hS8, hf⟩ := mb hf
  refine C_puti hc rfl iW1 tyX1 tyX1_ok nmX1 (by decide) 8 (by decide) rfl hS8 w2_19 rfl rfl rfl dX1_begin_31 ?_
  refine V_aload_n hc dX1_begin_34 rfl 0 rfl ?_
  refine V_iconst hc (v := (0 : Int32)) dX1_begin_35 rfl ?_
  obtain ⟨S9, hS9, hf⟩ := mb hf
  refine C_puti hc rfl iW1 tyX1 tyX1_ok nmX1 (by decide) 9 (by decide) rfl hS9 w2_22 rfl rfl rfl dX1_begin_36 ?_
  refine V_aload_n hc dX1_begin_39 rfl 0 rfl ?_
  refine V_iconst hc (v := (1 : Int32)) dX1_begin_40 rfl ?_
  obtain ⟨S10, hS10, hf⟩ := mb hf
  refine C_puti hc rfl iW1 tyX1 tyX1_ok nmX1 (by decide) 10 (by decide) rfl hS10 w2_24 rfl rfl rfl dX1_begin_41 ?_
  refine V_aload_n hc dX1_begin_44 rfl 0 rfl ?_
  refine V_iconst hc (v := (-1 : Int32)) dX1_begin_45 rfl ?_
  obtain ⟨S11, hS11, hf⟩ := mb hf
  refine C_puti hc rfl iW1 tyX1 tyX1_ok nmX1 (by decide) 11 (by decide) rfl hS11 w2_27 rfl rfl rfl dX1_begin_46 ?_
  refine V_aload_n hc dX1_begin_49 rfl 0 rfl ?_
  refine V_iconst hc (v := (0 : Int32)) dX1_begin_50 rfl ?_
  obtain ⟨S12, hS12, hf⟩ := mb hf
  refine C_puti hc rfl iW1 tyX1 tyX1_ok nmX1 (by decide) 12 (by decide) rfl hS12 w2_31 rfl rfl rfl dX1_begin_51 ?_
  refine V_aload_n hc dX1_begin_54 rfl 0 rfl ?_
  refine V_iconst hc (v := (0 : Int32)) dX1_begin_55 rfl ?_
  obtain ⟨S13, hS13, hf⟩ := mb hf
  refine C_puti hc rfl iW1 tyX1 tyX1_ok nmX1 (by decide) 13 (by decide) rfl hS13 w2_34 rfl rfl rfl dX1_begin_56 ?_
  refine V_aload_n hc dX1_begin_59 rfl 0 rfl ?_
  refine V_iconst hc (v := (1 : Int32)) dX1_begin_60 rfl ?_
  obtain ⟨S14, hS14, hf⟩ := mb hf
  refine C_puti hc rfl iW1 tyX1 tyX1_ok nmX1 (by decide) 14 (by decide) rfl hS14 w2_37 rfl rfl rfl dX1_begin_61 ?_
  obtain rfl := Option.some.inj hf
  exact V_vret hc hzz rfl rfl rfl rfl dX1_begin_64
noncomputable def f1_hasMark (S : CS) (h : Nat) (p1 : Int32) : Option (Int32) :=
  (
    if p1 < 0 then (
      some (0 : Int32)
    ) else (
      (gi S 1 h 7).bind fun v3 =>
      if v3 ≤ p1 then (
        some (0 : Int32)
      ) else (
        some (1 : Int32)
      )
    )
  ).bind fun v1 =>
  (bz v1).bind fun v4 =>
  some v4
theorem hdX_X1_hasMark : yX1_hasMark.cls = "FarEditors$Editor" ∧ yX1_hasMark.cls ≠ "java/lang/invoke/MethodHandle" ∧ yX1_hasMark.cls ≠ "java/lang/invoke/VarHandle" ∧ (parseMethodDescriptor yX1_hasMark.desc).map (fun d => d.parameters.length) = some 1 := by decide +kernel
set_option maxHeartbeats 4000000 in
set_option maxRecDepth 100000 in
theorem c1_hasMark (l : Launch) (D : va_G) (y : CyT) (zM uM : Nat) {S : CS} {h : Nat} {p1 : Int32} {r : Int32} (hf : f1_hasMark S h p1 = some r) : CT l D y yX1_hasMark cX1_hasMark 2 (some .boolean) 0 0 zM uM [.ref h, .int p1] (cZ S) (cU S) (cw y S) (cZ S) (cU S) (cw y S) (some (.int r)) := by
  refine CT.of (by decide) (Nat.le_of_ble_eq_true rfl) (fun E hc hzz hnm => ?_)
  have hc : Cx E "FarEditors$Editor" cX1_hasMark 2 := hc
  have hz := hzz.1
  have hT := hz.2.2.1
  show V E (cZ S) (cU S) (cw y S) 0 [(0, .ref h), (1, .int p1)] []
  unfold f1_hasMark at hf
  refine V_iload_n hc dX1_hasMark_0 rfl 1 rfl ?_
  obtain ⟨v1, hv2, hf⟩ := mb hf
  have hJ1 : V E (cZ S) (cU S) (cw y S) 17 [] [.int v1] := by
    obtain ⟨v4, hv4, hf⟩ := mb hf
    obtain ⟨hbv4, rfl⟩ := bz_some hv4
    obtain rfl := Option.some.inj hf
    exact V_iret hc hzz (bz_nar hbv4) rfl rfl rfl rfl dX1_hasMark_17
  refine V_if_lt hc dX1_hasMark_1 rfl (fun hq1 => ?_) (fun hq1 => ?_)
  · rw [if_pos hq1] at hv2
    refine V_iconst hc (v := (0 : Int32)) dX1_hasMark_16 rfl ?_
    obtain rfl := Option.some.inj hv2
    exact V_sub [] rfl hJ1
  · rw [if_neg hq1] at hv2
    refine V_iload_n hc dX1_hasMark_4 rfl 1 rfl ?_
    refine V_aload_n hc dX1_hasMark_5 rfl 0 rfl ?_
    obtain ⟨v3, hv3, hv2⟩ := mb hv2
    refine C_geti hc rfl iW1 (by decide) 7 (by decide) rfl hv3 w2_16 dX1_hasMark_6 ?_
    refine V_icmp_ge hc dX1_hasMark_9 rfl (fun hq9 => ?_) (fun hq9 => ?_)
    · rw [if_pos hq9] at hv2
      refine V_iconst hc (v := (0 : Int32)) dX1_hasMark_16 rfl ?_
      obtain rfl := Option.some.inj hv2
      exact V_sub [] rfl hJ1
    · rw [if_neg hq9] at hv2
      refine V_iconst hc (v := (1 : Int32)) dX1_hasMark_12 rfl ?_
      refine V_goto hc dX1_hasMark_13 rfl ?_
      obtain rfl := Option.some.inj hv2
      exact V_sub [] rfl hJ1
noncomputable def f1_addMark (S : CS) (h : Nat) (p1 : Int32) (p2 : Int32) (p3 : Int32) : Option (Int32 × CS) :=
  (gi S 1 h 7).bind fun v1 =>
  (gr S 1 h 5).bind fun a2 =>
  (aln S 14 a2).bind fun v3 =>
  if (((3 : Int32) * v1) + (2 : Int32)) < v3 then (
    (gr S 1 h 5).bind fun a4 =>
    (sti S a4 ((3 : Int32) * v1) p1).bind fun S5 =>
    (gr S5 1 h 5).bind fun a6 =>
    (sti S5 a6 (((3 : Int32) * v1) + (1 : Int32)) p2).bind fun S7 =>
    (gr S7 1 h 5).bind fun a8 =>
    (sti S7 a8 (((3 : Int32) * v1) + (2 : Int32)) p3).bind fun S9 =>
    (gi S9 1 h 7).bind fun v10 =>
    (pi S9 1 h 7 (v10 + (1 : Int32))).bind fun S11 =>
    some (v10, S11)
  ) else (
    some ((-1 : Int32), S)
  )
theorem hdX_X1_addMark : yX1_addMark.cls = "FarEditors$Editor" ∧ yX1_addMark.cls ≠ "java/lang/invoke/MethodHandle" ∧ yX1_addMark.cls ≠ "java/lang/invoke/VarHandle" ∧ (parseMethodDescriptor yX1_addMark.desc).map (fun d => d.parameters.length) = some 3 := by decide +kernel
set_option maxHeartbeats 4000000 in
set_option maxRecDepth 100000 in
theorem c1_addMark (l : Launch) (D : va_G) (y : CyT) (zM uM : Nat) {S S' : CS} {h : Nat} {p1 : Int32} {p2 : Int32} {p3 : Int32} {r : Int32} (hf : f1_addMark S h p1 p2 p3 = some (r, S')) : CT l D y yX1_addMark cX1_addMark 5 (some .int) 0 0 zM uM [.ref h, .int p1, .int p2, .int p3] (cZ S) (cU S) (cw y S) (cZ S') (cU S') (cw y S') (some (.int r)) := by
  refine CT.of (by decide) (Nat.le_of_ble_eq_true rfl) (fun E hc hzz hnm => ?_)
  have hc : Cx E "FarEditors$Editor" cX1_addMark 5 := hc
  have hz := hzz.1
  have hT := hz.2.2.1
  show V E (cZ S) (cU S) (cw y S) 0 [(0, .ref h), (1, .int p1), (2, .int p2), (3, .int p3)] []
  unfold f1_addMark at hf
  refine V_iconst hc (v := (3 : Int32)) dX1_addMark_0 rfl ?_
  refine V_aload_n hc dX1_addMark_1 rfl 0 rfl ?_
  obtain ⟨v1, hv1, hf⟩ := mb hf
  refine C_geti hc rfl iW1 (by decide) 7 (by decide) rfl hv1 w2_16 dX1_addMark_2 ?_
  refine V_imul hc dX1_addMark_5 ?_
  refine V_istore hc dX1_addMark_6 (by decide) rfl ?_
  refine V_iload hc dX1_addMark_8 0 rfl ?_
  refine V_iconst hc (v := (2 : Int32)) dX1_addMark_10 rfl ?_
  refine V_iadd hc dX1_addMark_11 ?_
  refine V_aload_n hc dX1_addMark_12 rfl 1 rfl ?_
  obtain ⟨a2, ha2, hf⟩ := mb hf
  refine C_getr hc rfl iW1 (by decide) 5 (by decide) rfl ha2 w2_12 dX1_addMark_13 ?_
  obtain ⟨v3, hv3, hf⟩ := mb hf
  refine C_alen hc hT hv3 dX1_addMark_16 ?_
  refine V_icmp_lt hc dX1_addMark_17 rfl (fun hq17 => ?_) (fun hq17 => ?_)
  · rw [if_pos hq17] at hf
    refine V_aload_n hc dX1_addMark_22 rfl 1 rfl ?_
    obtain ⟨a4, ha4, hf⟩ := mb hf
    refine C_getr hc rfl iW1 (by decide) 5 (by decide) rfl ha4 w2_12 dX1_addMark_23 ?_
    refine V_iload hc dX1_addMark_26 0 rfl ?_
    refine V_iload_n hc dX1_addMark_28 rfl 2 rfl ?_
    obtain ⟨S5, hS5, hf⟩ := mb hf
    refine C_iast hc hT hS5 dX1_addMark_29 ?_
    refine V_aload_n hc dX1_addMark_30 rfl 1 rfl ?_
    obtain ⟨a6, ha6, hf⟩ := mb hf
    refine C_getr hc rfl iW1 (by decide) 5 (by decide) rfl ha6 w2_12 dX1_addMark_31 ?_
    refine V_iload hc dX1_addMark_34 0 rfl ?_
    refine V_iconst hc (v := (1 : Int32)) dX1_addMark_36 rfl ?_
    refine V_iadd hc dX1_addMark_37 ?_
    refine V_iload_n hc dX1_addMark_38 rfl 3 rfl ?_
    obtain ⟨S7, hS7, hf⟩ := mb hf
    refine C_iast hc hT hS7 dX1_addMark_39 ?_
    refine V_aload_n hc dX1_addMark_40 rfl 1 rfl ?_
    obtain ⟨a8, ha8, hf⟩ := mb hf
    refine C_getr hc rfl iW1 (by decide) 5 (by decide) rfl ha8 w2_12 dX1_addMark_41 ?_
    refine V_iload hc dX1_addMark_44 0 rfl ?_
    refine V_iconst hc (v := (2 : Int32)) dX1_addMark_46 rfl ?_
    refine V_iadd hc dX1_addMark_47 ?_
    refine V_iload_n hc dX1_addMark_48 rfl 4 rfl ?_
    obtain ⟨S9, hS9, hf⟩ := mb hf
    refine C_iast hc hT hS9 dX1_addMark_49 ?_
    refine V_aload_n hc dX1_addMark_50 rfl 1 rfl ?_
    refine V_dup hc dX1_addMark_51 rfl ?_
    obtain ⟨v10, hv10, hf⟩ := mb hf
    refine C_geti hc rfl iW1 (by decide) 7 (by decide) rfl hv10 w2_16 dX1_addMark_52 ?_
    refine V_dup_x1 hc dX1_addMark_55 rfl rfl ?_
    refine V_iconst hc (v := (1 : Int32)) dX1_addMark_56 rfl ?_
    refine V_iadd hc dX1_addMark_57 ?_
    obtain ⟨S11, hS11, hf⟩ := mb hf
    refine C_puti hc rfl iW1 tyX1 tyX1_ok nmX1 (by decide) 7 (by decide) rfl hS11 w2_16 rfl rfl rfl dX1_addMark_58 ?_
    obtain ⟨rfl, rfl⟩ := si2 hf
    exact V_iret hc hzz rfl rfl rfl rfl rfl dX1_addMark_61
  · rw [if_neg hq17] at hf
    refine V_iconst hc (v := (-1 : Int32)) dX1_addMark_20 rfl ?_
    obtain ⟨rfl, rfl⟩ := si2 hf
    exact V_iret hc hzz rfl rfl rfl rfl rfl dX1_addMark_21
noncomputable def LX1_dropMark_4 (h : Nat) : Nat → Int32 → CS → Option (CS)
  | 0, _, _ => none
  | n + 1, i2, S =>
    if i2 < 0 then (
      some S
    ) else (
      (gr S 1 h 5).bind fun a1 =>
      (aln S 14 a1).bind fun v2 =>
      if v2 ≤ (i2 + (3 : Int32)) then (
        some S
      ) else (
        (gr S 1 h 5).bind fun a3 =>
        (gr S 1 h 5).bind fun a4 =>
        (ldi S a4 (i2 + (3 : Int32))).bind fun v5 =>
        (sti S a3 i2 v5).bind fun S6 =>
        LX1_dropMark_4 h n (i2 + (1 : Int32)) S6
      )
    )
noncomputable def f1_dropMark (S : CS) (h : Nat) (p1 : Int32) : Option (CS) :=
  (LX1_dropMark_4 h FU ((3 : Int32) * p1) S).bind fun S1 =>
  (gi S1 1 h 7).bind fun v3 =>
  (pi S1 1 h 7 (v3 - (1 : Int32))).bind fun S4 =>
  some S4
theorem hdX_X1_dropMark : yX1_dropMark.cls = "FarEditors$Editor" ∧ yX1_dropMark.cls ≠ "java/lang/invoke/MethodHandle" ∧ yX1_dropMark.cls ≠ "java/lang/invoke/VarHandle" ∧ (parseMethodDescriptor yX1_dropMark.desc).map (fun d => d.parameters.length) = some 1 := by decide +kernel
set_option maxHeartbeats 4000000 in
set_option maxRecDepth 100000 in
theorem LX1_dropMark_4_ok {E : CxT} {l : Launch} {D : va_G} {y : CyT} {zM uM : Nat} (hc : Cx E "FarEditors$Editor" cX1_dropMark 3) (h : Nat) (hz : Cy E l D y 0 0 zM uM) : ∀ (n : Nat) (i2 : Int32) (S : CS) {So : CS}, LX1_dropMark_4 h n i2 S = some So → (hx0 : V E (cZ So) (cU So) (cw y So) 39 [(0, .ref h)] []) → V E (cZ S) (cU S) (cw y S) 4 [(0, .ref h), (2, .int i2)] [] := by
  have hT := hz.2.2.1
  intro n
  induction n with
  | zero => intro i2 S So hf; cases hf
  | succ n ih =>
    intro i2 S So hf hx0
    unfold LX1_dropMark_4 at hf
    refine V_iload_n hc dX1_dropMark_4 rfl 1 rfl ?_
    refine V_if_lt hc dX1_dropMark_5 rfl (fun hq5 => ?_) (fun hq5 => ?_)
    · rw [if_pos hq5] at hf
      obtain rfl := Option.some.inj hf
      exact V_sub [0] rfl hx0
    · rw [if_neg hq5] at hf
      refine V_iload_n hc dX1_dropMark_8 rfl 1 rfl ?_
      refine V_iconst hc (v := (3 : Int32)) dX1_dropMark_9 rfl ?_
      refine V_iadd hc dX1_dropMark_10 ?_
      refine V_aload_n hc dX1_dropMark_11 rfl 0 rfl ?_
      obtain ⟨a1, ha1, hf⟩ := mb hf
      refine C_getr hc rfl iW1 (by decide) 5 (by decide) rfl ha1 w2_12 dX1_dropMark_12 ?_
      obtain ⟨v2, hv2, hf⟩ := mb hf
      refine C_alen hc hT hv2 dX1_dropMark_15 ?_
      refine V_icmp_ge hc dX1_dropMark_16 rfl (fun hq16 => ?_) (fun hq16 => ?_)
      · rw [if_pos hq16] at hf
        obtain rfl := Option.some.inj hf
        exact V_sub [0] rfl hx0
      · rw [if_neg hq16] at hf
        refine V_aload_n hc dX1_dropMark_19 rfl 0 rfl ?_
        obtain ⟨a3, ha3, hf⟩ := mb hf
        refine C_getr hc rfl iW1 (by decide) 5 (by decide) rfl ha3 w2_12 dX1_dropMark_20 ?_
        refine V_iload_n hc dX1_dropMark_23 rfl 1 rfl ?_
        refine V_aload_n hc dX1_dropMark_24 rfl 0 rfl ?_
        obtain ⟨a4, ha4, hf⟩ := mb hf
        refine C_getr hc rfl iW1 (by decide) 5 (by decide) rfl ha4 w2_12 dX1_dropMark_25 ?_
        refine V_iload_n hc dX1_dropMark_28 rfl 1 rfl ?_
        refine V_iconst hc (v := (3 : Int32)) dX1_dropMark_29 rfl ?_
        refine V_iadd hc dX1_dropMark_30 ?_
        obtain ⟨v5, hv5, hf⟩ := mb hf
        refine C_iald hc hT hv5 dX1_dropMark_31 ?_
        obtain ⟨S6, hS6, hf⟩ := mb hf
        refine C_iast hc hT hS6 dX1_dropMark_32 ?_
        refine V_iinc hc (j := 1) (v := (i2 + (1 : Int32))) dX1_dropMark_33 rfl rfl (by decide) rfl ?_
        refine V_goto hc dX1_dropMark_36 rfl ?_
        exact V_sub [1, 0] rfl (ih _ _ hf hx0)
set_option maxHeartbeats 4000000 in
set_option maxRecDepth 100000 in
theorem c1_dropMark (l : Launch) (D : va_G) (y : CyT) (zM uM : Nat) {S S' : CS} {h : Nat} {p1 : Int32} (hf : f1_dropMark S h p1 = some S') : CT l D y yX1_dropMark cX1_dropMark 3 none 0 0 zM uM [.ref h, .int p1] (cZ S) (cU S) (cw y S) (cZ S') (cU S') (cw y S') none := by
  refine CT.of (by decide) (Nat.le_of_ble_eq_true rfl) (fun E hc hzz hnm => ?_)
  have hc : Cx E "FarEditors$Editor" cX1_dropMark 3 := hc
  have hz := hzz.1
  have hT := hz.2.2.1
  show V E (cZ S) (cU S) (cw y S) 0 [(0, .ref h), (1, .int p1)] []
  unfold f1_dropMark at hf
  refine V_iconst hc (v := (3 : Int32)) dX1_dropMark_0 rfl ?_
  refine V_iload_n hc dX1_dropMark_1 rfl 1 rfl ?_
  refine V_imul hc dX1_dropMark_2 ?_
  refine V_istore_n hc dX1_dropMark_3 rfl (by decide) rfl ?_
  obtain ⟨S1, hv2, hf⟩ := mb hf
  refine V_sub [1, 0] rfl (LX1_dropMark_4_ok hc h hz FU _ _ hv2 ?_)
  refine V_aload_n hc dX1_dropMark_39 rfl 0 rfl ?_
  refine V_dup hc dX1_dropMark_40 rfl ?_
  obtain ⟨v3, hv3, hf⟩ := mb hf
  refine C_geti hc rfl iW1 (by decide) 7 (by decide) rfl hv3 w2_16 dX1_dropMark_41 ?_
  refine V_iconst hc (v := (1 : Int32)) dX1_dropMark_44 rfl ?_
  refine V_isub hc dX1_dropMark_45 ?_
  obtain ⟨S4, hS4, hf⟩ := mb hf
  refine C_puti hc rfl iW1 tyX1 tyX1_ok nmX1 (by decide) 7 (by decide) rfl hS4 w2_16 rfl rfl rfl dX1_dropMark_46 ?_
  obtain rfl := Option.some.inj hf
  exact V_vret hc hzz rfl rfl rfl rfl dX1_dropMark_49
noncomputable def f4_isPut (p1 : Int32) : Option (Int32) :=
  (
    if p1 ≤ 0 then (
      some (0 : Int32)
    ) else (
      if (31 : Int32) < p1 then (
        some (0 : Int32)
      ) else (
        some (1 : Int32)
      )
    )
  ).bind fun v1 =>
  (bz v1).bind fun v3 =>
  some v3
theorem hdX_X4_isPut : yX4_isPut.cls = "FarEditors$Op" ∧ yX4_isPut.cls ≠ "java/lang/invoke/MethodHandle" ∧ yX4_isPut.cls ≠ "java/lang/invoke/VarHandle" ∧ (parseMethodDescriptor yX4_isPut.desc).map (fun d => d.parameters.length) = some 1 := by decide +kernel
set_option maxHeartbeats 4000000 in
set_option maxRecDepth 100000 in
theorem c4_isPut (l : Launch) (D : va_G) (y : CyT) (zM uM : Nat) {S : CS} {p1 : Int32} {r : Int32} (hf : f4_isPut p1 = some r) : CT l D y yX4_isPut cX4_isPut 1 (some .boolean) 0 0 zM uM [.int p1] (cZ S) (cU S) (cw y S) (cZ S) (cU S) (cw y S) (some (.int r)) := by
  refine CT.of (by decide) (Nat.le_of_ble_eq_true rfl) (fun E hc hzz hnm => ?_)
  have hc : Cx E "FarEditors$Op" cX4_isPut 1 := hc
  have hz := hzz.1
  have hT := hz.2.2.1
  show V E (cZ S) (cU S) (cw y S) 0 [(0, .int p1)] []
  unfold f4_isPut at hf
  refine V_iload_n hc dX4_isPut_0 rfl 0 rfl ?_
  obtain ⟨v1, hv2, hf⟩ := mb hf
  have hJ1 : V E (cZ S) (cU S) (cw y S) 15 [] [.int v1] := by
    obtain ⟨v3, hv3, hf⟩ := mb hf
    obtain ⟨hbv3, rfl⟩ := bz_some hv3
    obtain rfl := Option.some.inj hf
    exact V_iret hc hzz (bz_nar hbv3) rfl rfl rfl rfl dX4_isPut_15
  refine V_if_le hc dX4_isPut_1 rfl (fun hq1 => ?_) (fun hq1 => ?_)
  · rw [if_pos hq1] at hv2
    refine V_iconst hc (v := (0 : Int32)) dX4_isPut_14 rfl ?_
    obtain rfl := Option.some.inj hv2
    exact V_sub [] rfl hJ1
  · rw [if_neg hq1] at hv2
    refine V_iload_n hc dX4_isPut_4 rfl 0 rfl ?_
    refine V_bipush hc (v := (31 : Int32)) dX4_isPut_5 rfl ?_
    refine V_icmp_gt hc dX4_isPut_7 rfl (fun hq7 => ?_) (fun hq7 => ?_)
    · rw [if_pos hq7] at hv2
      refine V_iconst hc (v := (0 : Int32)) dX4_isPut_14 rfl ?_
      obtain rfl := Option.some.inj hv2
      exact V_sub [] rfl hJ1
    · rw [if_neg hq7] at hv2
      refine V_iconst hc (v := (1 : Int32)) dX4_isPut_10 rfl ?_
      refine V_goto hc dX4_isPut_11 rfl ?_
      obtain rfl := Option.some.inj hv2
      exact V_sub [] rfl hJ1
noncomputable def LX4_carry_8 (h : Nat) (c1 : Int32) (c2 : Int32) (S : CS) : Nat → Int32 → Int32 → Int32 → Option (Int32)
  | 0, _, _, _ => none
  | n + 1, i3, i4, i5 =>
    (gi S 4 h 1).bind fun v1 =>
    if v1 ≤ i5 then (
      some i4
    ) else (
      if c1 < i3 then (
        some i4
      ) else (
        (gr S 4 h 0).bind fun a2 =>
        (ldi S a2 i5).bind fun v3 =>
        (f4_isPut v3).bind fun v4 =>
        bn2 (
          if v4 = 0 then (
            if 0 ≤ v3 then (
              some ((i3 + (v3 - (31 : Int32))), i4)
            ) else (
              some ((i3 - v3), (i4 - (if (c1 - i3) < (-v3) then (c1 - i3) else (-v3))))
            )
          ) else (
            (
              if i3 < c1 then (
                some (1 : Int32)
              ) else (
                if c2 = 0 then (
                  some (0 : Int32)
                ) else (
                  some (1 : Int32)
                )
              )
            ).bind fun v8 =>
            some (i3, (i4 + v8))
          )
        ) fun x5 x6 =>
        LX4_carry_8 h c1 c2 S n x5 x6 (i5 + (1 : Int32))
      )
    )
noncomputable def f4_carry (S : CS) (h : Nat) (p1 : Int32) (p2 : Int32) : Option (Int32) :=
  (LX4_carry_8 h p1 p2 S FU (0 : Int32) p1 (0 : Int32)).bind fun x1 =>
  some x1
theorem hdX_X4_carry : yX4_carry.cls = "FarEditors$Op" ∧ yX4_carry.cls ≠ "java/lang/invoke/MethodHandle" ∧ yX4_carry.cls ≠ "java/lang/invoke/VarHandle" ∧ (parseMethodDescriptor yX4_carry.desc).map (fun d => d.parameters.length) = some 2 := by decide +kernel
set_option maxHeartbeats 4000000 in
set_option maxRecDepth 100000 in
theorem LX4_carry_8_ok {E : CxT} {l : Launch} {D : va_G} {y : CyT} {zM uM : Nat} (hc : Cx E "FarEditors$Op" cX4_carry 7) (h : Nat) (c1 : Int32) (c2 : Int32) (S : CS) (hz : Cy E l D y 1 21 zM uM) : ∀ (n : Nat) (i3 : Int32) (i4 : Int32) (i5 : Int32) {o4 : Int32}, LX4_carry_8 h c1 c2 S n i3 i4 i5 = some o4 → (hx0 : V E (cZ S) (cU S) (cw y S) 102 [(4, .int o4)] []) → V E (cZ S) (cU S) (cw y S) 8 [(0, .ref h), (1, .int c1), (2, .int c2), (3, .int i3), (4, .int i4), (5, .int i5)] [] := by
  have hT := hz.2.2.1
  intro n
  induction n with
  | zero => intro i3 i4 i5 o4 hf; cases hf
  | succ n ih =>
    intro i3 i4 i5 o4 hf hx0
    unfold LX4_carry_8 at hf
    refine V_iload hc dX4_carry_8 5 rfl ?_
    refine V_aload_n hc dX4_carry_10 rfl 0 rfl ?_
    obtain ⟨v1, hv1, hf⟩ := mb hf
    refine C_geti hc rfl iW4 (by decide) 1 (by decide) rfl hv1 w1_105 dX4_carry_11 ?_
    refine V_icmp_ge hc dX4_carry_14 rfl (fun hq14 => ?_) (fun hq14 => ?_)
    · rw [if_pos hq14] at hf
      obtain rfl := Option.some.inj hf
      exact V_sub [4] rfl hx0
    · rw [if_neg hq14] at hf
      refine V_iload_n hc dX4_carry_17 rfl 3 rfl ?_
      refine V_iload_n hc dX4_carry_18 rfl 1 rfl ?_
      refine V_icmp_gt hc dX4_carry_19 rfl (fun hq19 => ?_) (fun hq19 => ?_)
      · rw [if_pos hq19] at hf
        obtain rfl := Option.some.inj hf
        exact V_sub [4] rfl hx0
      · rw [if_neg hq19] at hf
        refine V_aload_n hc dX4_carry_22 rfl 0 rfl ?_
        obtain ⟨a2, ha2, hf⟩ := mb hf
        refine C_getr hc rfl iW4 (by decide) 0 (by decide) rfl ha2 w1_101 dX4_carry_23 ?_
        refine V_iload hc dX4_carry_26 5 rfl ?_
        obtain ⟨v3, hv3, hf⟩ := mb hf
        refine C_iald hc hT hv3 dX4_carry_28 ?_
        refine V_istore hc dX4_carry_29 (by decide) rfl ?_
        refine V_iload hc dX4_carry_31 0 rfl ?_
        obtain ⟨v4, hv4, hf⟩ := mb hf
        refine V_callSX hc hz (As := [.int v3]) (c4_isPut l D y _ _ hv4) w4_107 w4_108 w1_5 w4_109 hdX_X4_isPut.2 ⟨(Nat.le_of_ble_eq_true rfl), (Nat.le_of_ble_eq_true rfl)⟩ rfl rfl (Nat.le_of_ble_eq_true rfl) dX4_carry_33 ?_
        obtain ⟨x5, x6, hv7, hf⟩ := mb2 hf
        have hJ36 : V E (cZ S) (cU S) (cw y S) 96 [(0, .ref h), (1, .int c1), (2, .int c2), (3, .int x5), (4, .int x6), (5, .int i5)] [] := by
          refine V_iinc hc (j := 5) (v := (i5 + (1 : Int32))) dX4_carry_96 rfl rfl (by decide) rfl ?_
          refine V_goto hc dX4_carry_99 rfl ?_
          exact V_sub [1, 2, 3, 4, 5, 0] rfl (ih _ _ _ hf hx0)
        refine V_if_eq hc dX4_carry_36 rfl (fun hq36 => ?_) (fun hq36 => ?_)
        · rw [if_pos hq36] at hv7
          refine V_iload hc dX4_carry_61 0 rfl ?_
          refine V_if_ge hc dX4_carry_63 rfl (fun hq63 => ?_) (fun hq63 => ?_)
          · rw [if_pos hq63] at hv7
            refine V_iload_n hc dX4_carry_88 rfl 4 rfl ?_
            refine V_iload hc dX4_carry_89 0 rfl ?_
            refine V_bipush hc (v := (31 : Int32)) dX4_carry_91 rfl ?_
            refine V_isub hc dX4_carry_93 ?_
            refine V_iadd hc dX4_carry_94 ?_
            refine V_istore_n hc dX4_carry_95 rfl (by decide) rfl ?_
            obtain ⟨rfl, rfl⟩ := si2 hv7
            exact V_sub [2, 3, 4, 0, 5, 6] rfl hJ36
          · rw [if_neg hq63] at hv7
            refine V_iload hc dX4_carry_66 5 rfl ?_
            refine V_iload hc dX4_carry_68 0 rfl ?_
            refine V_ineg hc dX4_carry_70 ?_
            refine V_iload_n hc dX4_carry_71 rfl 2 rfl ?_
            refine V_iload_n hc dX4_carry_72 rfl 4 rfl ?_
            refine V_isub hc dX4_carry_73 ?_
            refine C_min hc hz w4_110 w3_194 w1_18 w3_195 ⟨(Nat.le_of_ble_eq_true rfl), (Nat.le_of_ble_eq_true rfl)⟩ (Nat.le_of_ble_eq_true rfl) dX4_carry_74 ?_
            refine V_isub hc dX4_carry_77 ?_
            refine V_istore hc dX4_carry_78 (by decide) rfl ?_
            refine V_iload_n hc dX4_carry_80 rfl 5 rfl ?_
            refine V_iload hc dX4_carry_81 1 rfl ?_
            refine V_isub hc dX4_carry_83 ?_
            refine V_istore_n hc dX4_carry_84 rfl (by decide) rfl ?_
            refine V_goto hc dX4_carry_85 rfl ?_
            obtain ⟨rfl, rfl⟩ := si2 hv7
            exact V_sub [3, 4, 5, 0, 1, 6] rfl hJ36
        · rw [if_neg hq36] at hv7
          refine V_iload hc dX4_carry_39 5 rfl ?_
          refine V_iload_n hc dX4_carry_41 rfl 4 rfl ?_
          refine V_iload_n hc dX4_carry_42 rfl 2 rfl ?_
          obtain ⟨v8, hv9, hv7⟩ := mb hv7
          have hJ43 : V E (cZ S) (cU S) (cw y S) 55 [(0, .ref h), (1, .int c1), (2, .int c2), (3, .int i3), (5, .int i5)] [.int v8, .int i4] := by
            refine V_iadd hc dX4_carry_55 ?_
            refine V_istore hc dX4_carry_56 (by decide) rfl ?_
            refine V_goto hc dX4_carry_58 rfl ?_
            obtain ⟨rfl, rfl⟩ := si2 hv7
            exact V_sub [1, 2, 3, 4, 0, 5] rfl hJ36
          refine V_icmp_lt hc dX4_carry_43 rfl (fun hq43 => ?_) (fun hq43 => ?_)
          · rw [if_pos hq43] at hv9
            refine V_iconst hc (v := (1 : Int32)) dX4_carry_50 rfl ?_
            refine V_goto hc dX4_carry_51 rfl ?_
            obtain rfl := Option.some.inj hv9
            exact V_sub [1, 2, 3, 4, 6] rfl hJ43
          · rw [if_neg hq43] at hv9
            refine V_iload_n hc dX4_carry_46 rfl 3 rfl ?_
            refine V_if_eq hc dX4_carry_47 rfl (fun hq47 => ?_) (fun hq47 => ?_)
            · rw [if_pos hq47] at hv9
              refine V_iconst hc (v := (0 : Int32)) dX4_carry_54 rfl ?_
              obtain rfl := Option.some.inj hv9
              exact V_sub [1, 2, 3, 4, 6] rfl hJ43
            · rw [if_neg hq47] at hv9
              refine V_iconst hc (v := (1 : Int32)) dX4_carry_50 rfl ?_
              refine V_goto hc dX4_carry_51 rfl ?_
              obtain rfl := Option.some.inj hv9
              exact V_sub [1, 2, 3, 4, 6] rfl hJ43
set_option maxHeartbeats 4000000 in
set_option maxRecDepth 100000 in
theorem c4_carry (l : Launch) (D : va_G) (y : CyT) (zM uM : Nat) {S : CS} {h : Nat} {p1 : Int32} {p2 : Int32} {r : Int32} (hf : f4_carry S h p1 p2 = some r) : CT l D y yX4_carry cX4_carry 7 (some .int) 1 21 zM uM [.ref h, .int p1, .int p2] (cZ S) (cU S) (cw y S) (cZ S) (cU S) (cw y S) (some (.int r)) := by
  refine CT.of (by decide) (Nat.le_of_ble_eq_true rfl) (fun E hc hzz hnm => ?_)
  have hc : Cx E "FarEditors$Op" cX4_carry 7 := hc
  have hz := hzz.1
  have hT := hz.2.2.1
  show V E (cZ S) (cU S) (cw y S) 0 [(0, .ref h), (1, .int p1), (2, .int p2)] []
  unfold f4_carry at hf
  refine V_iconst hc (v := (0 : Int32)) dX4_carry_0 rfl ?_
  refine V_istore_n hc dX4_carry_1 rfl (by decide) rfl ?_
  refine V_iload_n hc dX4_carry_2 rfl 2 rfl ?_
  refine V_istore hc dX4_carry_3 (by decide) rfl ?_
  refine V_iconst hc (v := (0 : Int32)) dX4_carry_5 rfl ?_
  refine V_istore hc dX4_carry_6 (by decide) rfl ?_
  obtain ⟨x1, hv2, hf⟩ := mb hf
  refine V_sub [3, 4, 5, 2, 1, 0] rfl (LX4_carry_8_ok hc h p1 p2 S hz FU _ _ _ hv2 ?_)
  refine V_iload hc dX4_carry_102 0 rfl ?_
  obtain rfl := Option.some.inj hf
  exact V_iret hc hzz rfl rfl rfl rfl rfl dX4_carry_104
noncomputable def LX1_carryPlaces_15 (h : Nat) (c1 : Nat) : Nat → Int32 → CS → Option (CS)
  | 0, _, _ => none
  | n + 1, i3, S =>
    (gi S 1 h 7).bind fun v1 =>
    if ((3 : Int32) * v1) ≤ (i3 + (2 : Int32)) then (
      some S
    ) else (
      (gr S 1 h 5).bind fun a2 =>
      (aln S 14 a2).bind fun v3 =>
      if v3 ≤ (i3 + (2 : Int32)) then (
        some S
      ) else (
        (gr S 1 h 5).bind fun a4 =>
        (ldi S a4 (i3 + (2 : Int32))).bind fun v5 =>
        (gr S 1 h 5).bind fun a6 =>
        (gr S 1 h 5).bind fun a7 =>
        (ldi S a7 i3).bind fun v8 =>
        (
          if (v5 - v5 / (2 : Int32) * (2 : Int32)) = 0 then (
            some (1 : Int32)
          ) else (
            some (0 : Int32)
          )
        ).bind fun v9 =>
        (cal S 4 c1 (f4_carry S c1 v8 v9)).bind fun v11 =>
        (sti S a6 i3 v11).bind fun S12 =>
        (gr S12 1 h 5).bind fun a13 =>
        (gr S12 1 h 5).bind fun a14 =>
        (ldi S12 a14 i3).bind fun v15 =>
        (gr S12 1 h 5).bind fun a16 =>
        (ldi S12 a16 (i3 + (1 : Int32))).bind fun v17 =>
        (
          if v5 < (2 : Int32) then (
            some (0 : Int32)
          ) else (
            some (1 : Int32)
          )
        ).bind fun v18 =>
        (cal S12 4 c1 (f4_carry S12 c1 v17 v18)).bind fun v20 =>
        (sti S12 a13 (i3 + (1 : Int32)) (if v15 < v20 then v20 else v15)).bind fun S21 =>
        LX1_carryPlaces_15 h c1 n (i3 + (3 : Int32)) S21
      )
    )
noncomputable def f1_carryPlaces (S : CS) (h : Nat) (p1 : Nat) (p2 : Int32) : Option (CS) :=
  (gi S 1 h 9).bind fun v1 =>
  (cal S 4 p1 (f4_carry S p1 v1 p2)).bind fun v2 =>
  (pi S 1 h 9 v2).bind fun S3 =>
  (LX1_carryPlaces_15 h p1 FU (0 : Int32) S3).bind fun S4 =>
  some S4
theorem hdX_X1_carryPlaces : yX1_carryPlaces.cls = "FarEditors$Editor" ∧ yX1_carryPlaces.cls ≠ "java/lang/invoke/MethodHandle" ∧ yX1_carryPlaces.cls ≠ "java/lang/invoke/VarHandle" ∧ (parseMethodDescriptor yX1_carryPlaces.desc).map (fun d => d.parameters.length) = some 2 := by decide +kernel
set_option maxHeartbeats 4000000 in
set_option maxRecDepth 100000 in
theorem LX1_carryPlaces_15_ok {E : CxT} {l : Launch} {D : va_G} {y : CyT} {zM uM : Nat} (hc : Cx E "FarEditors$Editor" cX1_carryPlaces 5) (h : Nat) (c1 : Nat) (hz : Cy E l D y 2 47 zM uM) : ∀ (n : Nat) (i3 : Int32) (S : CS) {So : CS}, LX1_carryPlaces_15 h c1 n i3 S = some So → (hx0 : V E (cZ So) (cU So) (cw y So) 122 [] []) → V E (cZ S) (cU S) (cw y S) 15 [(0, .ref h), (1, .ref c1), (3, .int i3)] [] := by
  have hT := hz.2.2.1
  intro n
  induction n with
  | zero => intro i3 S So hf; cases hf
  | succ n ih =>
    intro i3 S So hf hx0
    unfold LX1_carryPlaces_15 at hf
    refine V_iload_n hc dX1_carryPlaces_15 rfl 2 rfl ?_
    refine V_iconst hc (v := (2 : Int32)) dX1_carryPlaces_16 rfl ?_
    refine V_iadd hc dX1_carryPlaces_17 ?_
    refine V_iconst hc (v := (3 : Int32)) dX1_carryPlaces_18 rfl ?_
    refine V_aload_n hc dX1_carryPlaces_19 rfl 0 rfl ?_
    obtain ⟨v1, hv1, hf⟩ := mb hf
    refine C_geti hc rfl iW1 (by decide) 7 (by decide) rfl hv1 w2_16 dX1_carryPlaces_20 ?_
    refine V_imul hc dX1_carryPlaces_23 ?_
    refine V_icmp_ge hc dX1_carryPlaces_24 rfl (fun hq24 => ?_) (fun hq24 => ?_)
    · rw [if_pos hq24] at hf
      obtain rfl := Option.some.inj hf
      exact V_sub [] rfl hx0
    · rw [if_neg hq24] at hf
      refine V_iload_n hc dX1_carryPlaces_27 rfl 2 rfl ?_
      refine V_iconst hc (v := (2 : Int32)) dX1_carryPlaces_28 rfl ?_
      refine V_iadd hc dX1_carryPlaces_29 ?_
      refine V_aload_n hc dX1_carryPlaces_30 rfl 0 rfl ?_
      obtain ⟨a2, ha2, hf⟩ := mb hf
      refine C_getr hc rfl iW1 (by decide) 5 (by decide) rfl ha2 w2_12 dX1_carryPlaces_31 ?_
      obtain ⟨v3, hv3, hf⟩ := mb hf
      refine C_alen hc hT hv3 dX1_carryPlaces_34 ?_
      refine V_icmp_ge hc dX1_carryPlaces_35 rfl (fun hq35 => ?_) (fun hq35 => ?_)
      · rw [if_pos hq35] at hf
        obtain rfl := Option.some.inj hf
        exact V_sub [] rfl hx0
      · rw [if_neg hq35] at hf
        refine V_aload_n hc dX1_carryPlaces_38 rfl 0 rfl ?_
        obtain ⟨a4, ha4, hf⟩ := mb hf
        refine C_getr hc rfl iW1 (by decide) 5 (by decide) rfl ha4 w2_12 dX1_carryPlaces_39 ?_
        refine V_iload_n hc dX1_carryPlaces_42 rfl 2 rfl ?_
        refine V_iconst hc (v := (2 : Int32)) dX1_carryPlaces_43 rfl ?_
        refine V_iadd hc dX1_carryPlaces_44 ?_
        obtain ⟨v5, hv5, hf⟩ := mb hf
        refine C_iald hc hT hv5 dX1_carryPlaces_45 ?_
        refine V_istore hc dX1_carryPlaces_46 (by decide) rfl ?_
        refine V_aload_n hc dX1_carryPlaces_48 rfl 1 rfl ?_
        obtain ⟨a6, ha6, hf⟩ := mb hf
        refine C_getr hc rfl iW1 (by decide) 5 (by decide) rfl ha6 w2_12 dX1_carryPlaces_49 ?_
        refine V_iload_n hc dX1_carryPlaces_52 rfl 3 rfl ?_
        refine V_aload_n hc dX1_carryPlaces_53 rfl 2 rfl ?_
        refine V_aload_n hc dX1_carryPlaces_54 rfl 1 rfl ?_
        obtain ⟨a7, ha7, hf⟩ := mb hf
        refine C_getr hc rfl iW1 (by decide) 5 (by decide) rfl ha7 w2_12 dX1_carryPlaces_55 ?_
        refine V_iload_n hc dX1_carryPlaces_58 rfl 3 rfl ?_
        obtain ⟨v8, hv8, hf⟩ := mb hf
        refine C_iald hc hT hv8 dX1_carryPlaces_59 ?_
        refine V_iload hc dX1_carryPlaces_60 0 rfl ?_
        refine V_iconst hc (v := (2 : Int32)) dX1_carryPlaces_62 rfl ?_
        refine V_irem hc dX1_carryPlaces_63 (by decide) ?_
        obtain ⟨v9, hv10, hf⟩ := mb hf
        have hJ64 : V E (cZ S) (cU S) (cw y S) 72 [(0, .ref h), (1, .ref c1), (3, .int i3), (4, .int v5)] [.int v9, .int v8, .ref c1, .int i3, .ref a6] := by
          obtain ⟨v11, hv11, hf⟩ := mb hf
          obtain ⟨hkv11, hv11⟩ := og hv11
          refine C_callV hc hz (As := [.int v8, .int v9]) hkv11 (by decide) (c4_carry l D y _ _ hv11) w4_103 w4_104 w4_105 w1_5 w4_106 hdX_X4_carry ⟨(Nat.le_of_ble_eq_true rfl), (Nat.le_of_ble_eq_true rfl)⟩ rfl rfl rfl (Nat.le_of_ble_eq_true rfl) dX1_carryPlaces_72 ?_
          obtain ⟨S12, hS12, hf⟩ := mb hf
          refine C_iast hc hT hS12 dX1_carryPlaces_75 ?_
          refine V_aload_n hc dX1_carryPlaces_76 rfl 0 rfl ?_
          obtain ⟨a13, ha13, hf⟩ := mb hf
          refine C_getr hc rfl iW1 (by decide) 5 (by decide) rfl ha13 w2_12 dX1_carryPlaces_77 ?_
          refine V_iload_n hc dX1_carryPlaces_80 rfl 2 rfl ?_
          refine V_iconst hc (v := (1 : Int32)) dX1_carryPlaces_81 rfl ?_
          refine V_iadd hc dX1_carryPlaces_82 ?_
          refine V_aload_n hc dX1_carryPlaces_83 rfl 0 rfl ?_
          obtain ⟨a14, ha14, hf⟩ := mb hf
          refine C_getr hc rfl iW1 (by decide) 5 (by decide) rfl ha14 w2_12 dX1_carryPlaces_84 ?_
          refine V_iload_n hc dX1_carryPlaces_87 rfl 2 rfl ?_
          obtain ⟨v15, hv15, hf⟩ := mb hf
          refine C_iald hc hT hv15 dX1_carryPlaces_88 ?_
          refine V_aload_n hc dX1_carryPlaces_89 rfl 1 rfl ?_
          refine V_aload_n hc dX1_carryPlaces_90 rfl 0 rfl ?_
          obtain ⟨a16, ha16, hf⟩ := mb hf
          refine C_getr hc rfl iW1 (by decide) 5 (by decide) rfl ha16 w2_12 dX1_carryPlaces_91 ?_
          refine V_iload_n hc dX1_carryPlaces_94 rfl 2 rfl ?_
          refine V_iconst hc (v := (1 : Int32)) dX1_carryPlaces_95 rfl ?_
          refine V_iadd hc dX1_carryPlaces_96 ?_
          obtain ⟨v17, hv17, hf⟩ := mb hf
          refine C_iald hc hT hv17 dX1_carryPlaces_97 ?_
          refine V_iload hc dX1_carryPlaces_98 3 rfl ?_
          refine V_iconst hc (v := (2 : Int32)) dX1_carryPlaces_100 rfl ?_
          obtain ⟨v18, hv19, hf⟩ := mb hf
          have hJ101 : V E (cZ S12) (cU S12) (cw y S12) 109 [(0, .ref h), (1, .ref c1), (3, .int i3)] [.int v18, .int v17, .ref c1, .int v15, .int (i3 + (1 : Int32)), .ref a13] := by
            obtain ⟨v20, hv20, hf⟩ := mb hf
            obtain ⟨hkv20, hv20⟩ := og hv20
            refine C_callV hc hz (As := [.int v17, .int v18]) hkv20 (by decide) (c4_carry l D y _ _ hv20) w4_103 w4_104 w4_105 w1_5 w4_106 hdX_X4_carry ⟨(Nat.le_of_ble_eq_true rfl), (Nat.le_of_ble_eq_true rfl)⟩ rfl rfl rfl (Nat.le_of_ble_eq_true rfl) dX1_carryPlaces_109 ?_
            refine C_max hc hz w4_111 w4_25 w1_18 w4_26 ⟨(Nat.le_of_ble_eq_true rfl), (Nat.le_of_ble_eq_true rfl)⟩ (Nat.le_of_ble_eq_true rfl) dX1_carryPlaces_112 ?_
            obtain ⟨S21, hS21, hf⟩ := mb hf
            refine C_iast hc hT hS21 dX1_carryPlaces_115 ?_
            refine V_iinc hc (j := 2) (v := (i3 + (3 : Int32))) dX1_carryPlaces_116 rfl rfl (by decide) rfl ?_
            refine V_goto hc dX1_carryPlaces_119 rfl ?_
            exact V_sub [1, 2, 0] rfl (ih _ _ hf hx0)
          refine V_icmp_lt hc dX1_carryPlaces_101 rfl (fun hq101 => ?_) (fun hq101 => ?_)
          · rw [if_pos hq101] at hv19
            refine V_iconst hc (v := (0 : Int32)) dX1_carryPlaces_108 rfl ?_
            obtain rfl := Option.some.inj hv19
            exact V_sub [0, 1, 2] rfl hJ101
          · rw [if_neg hq101] at hv19
            refine V_iconst hc (v := (1 : Int32)) dX1_carryPlaces_104 rfl ?_
            refine V_goto hc dX1_carryPlaces_105 rfl ?_
            obtain rfl := Option.some.inj hv19
            exact V_sub [0, 1, 2] rfl hJ101
        refine V_if_ne hc dX1_carryPlaces_64 rfl (fun hq64 => ?_) (fun hq64 => ?_)
        · rw [if_neg hq64] at hv10
          refine V_iconst hc (v := (0 : Int32)) dX1_carryPlaces_71 rfl ?_
          obtain rfl := Option.some.inj hv10
          exact V_sub [1, 2, 3, 0] rfl hJ64
        · rw [if_pos hq64] at hv10
          refine V_iconst hc (v := (1 : Int32)) dX1_carryPlaces_67 rfl ?_
          refine V_goto hc dX1_carryPlaces_68 rfl ?_
          obtain rfl := Option.some.inj hv10
          exact V_sub [1, 2, 3, 0] rfl hJ64
set_option maxHeartbeats 4000000 in
set_option maxRecDepth 100000 in
theorem c1_carryPlaces (l : Launch) (D : va_G) (y : CyT) (zM uM : Nat) {S S' : CS} {h : Nat} {p1 : Nat} {p2 : Int32} (hf : f1_carryPlaces S h p1 p2 = some S') : CT l D y yX1_carryPlaces cX1_carryPlaces 5 none 2 47 zM uM [.ref h, .ref p1, .int p2] (cZ S) (cU S) (cw y S) (cZ S') (cU S') (cw y S') none := by
  refine CT.of (by decide) (Nat.le_of_ble_eq_true rfl) (fun E hc hzz hnm => ?_)
  have hc : Cx E "FarEditors$Editor" cX1_carryPlaces 5 := hc
  have hz := hzz.1
  have hT := hz.2.2.1
  show V E (cZ S) (cU S) (cw y S) 0 [(0, .ref h), (1, .ref p1), (2, .int p2)] []
  unfold f1_carryPlaces at hf
  refine V_aload_n hc dX1_carryPlaces_0 rfl 0 rfl ?_
  refine V_aload_n hc dX1_carryPlaces_1 rfl 1 rfl ?_
  refine V_aload_n hc dX1_carryPlaces_2 rfl 0 rfl ?_
  obtain ⟨v1, hv1, hf⟩ := mb hf
  refine C_geti hc rfl iW1 (by decide) 9 (by decide) rfl hv1 w2_22 dX1_carryPlaces_3 ?_
  refine V_iload_n hc dX1_carryPlaces_6 rfl 2 rfl ?_
  obtain ⟨v2, hv2, hf⟩ := mb hf
  obtain ⟨hkv2, hv2⟩ := og hv2
  refine C_callV hc hz (As := [.int v1, .int p2]) hkv2 (by decide) (c4_carry l D y _ _ hv2) w4_103 w4_104 w4_105 w1_5 w4_106 hdX_X4_carry ⟨(Nat.le_of_ble_eq_true rfl), (Nat.le_of_ble_eq_true rfl)⟩ rfl rfl rfl (Nat.le_of_ble_eq_true rfl) dX1_carryPlaces_7 ?_
  obtain ⟨S3, hS3, hf⟩ := mb hf
  refine C_puti hc rfl iW1 tyX1 tyX1_ok nmX1 (by decide) 9 (by decide) rfl hS3 w2_22 rfl rfl rfl dX1_carryPlaces_10 ?_
  refine V_iconst hc (v := (0 : Int32)) dX1_carryPlaces_13 rfl ?_
  refine V_istore_n hc dX1_carryPlaces_14 rfl (by decide) rfl ?_
  obtain ⟨S4, hv5, hf⟩ := mb hf
  refine V_sub [1, 2, 0] rfl (LX1_carryPlaces_15_ok hc h p1 hz FU _ _ hv5 ?_)
  obtain rfl := Option.some.inj hf
  exact V_vret hc hzz rfl rfl rfl rfl dX1_carryPlaces_122
noncomputable def f1_send (S : CS) (h : Nat) : Option (CS) :=
  (pi S 1 h 12 (1 : Int32)).bind fun S1 =>
  (gi S1 1 h 10).bind fun v2 =>
  (pi S1 1 h 11 v2).bind fun S3 =>
  some S3
theorem hdX_X1_send : yX1_send.cls = "FarEditors$Editor" ∧ yX1_send.cls ≠ "java/lang/invoke/MethodHandle" ∧ yX1_send.cls ≠ "java/lang/invoke/VarHandle" ∧ (parseMethodDescriptor yX1_send.desc).map (fun d => d.parameters.length) = some 0 := by decide +kernel
set_option maxHeartbeats 4000000 in
set_option maxRecDepth 100000 in
theorem c1_send (l : Launch) (D : va_G) (y : CyT) (zM uM : Nat) {S S' : CS} {h : Nat} (hf : f1_send S h = some S') : CT l D y yX1_send cX1_send 1 none 0 0 zM uM [.ref h] (cZ S) (cU S) (cw y S) (cZ S') (cU S') (cw y S') none := by
  refine CT.of (by decide) (Nat.le_of_ble_eq_true rfl) (fun E hc hzz hnm => ?_)
  have hc : Cx E "FarEditors$Editor" cX1_send 1 := hc
  have hz := hzz.1
  have hT := hz.2.2.1
  show V E (cZ S) (cU S) (cw y S) 0 [(0, .ref h)] []
  unfold f1_send at hf
  refine V_aload_n hc dX1_send_0 rfl 0 rfl ?_
  refine V_iconst hc (v := (1 : Int32)) dX1_send_1 rfl ?_
  obtain ⟨S1, hS1, hf⟩ := mb hf
  refine C_puti hc rfl iW1 tyX1 tyX1_ok nmX1 (by decide) 12 (by decide) rfl hS1 w2_31 rfl rfl rfl dX1_send_2 ?_
  refine V_aload_n hc dX1_send_5 rfl 0 rfl ?_
  refine V_aload_n hc dX1_send_6 rfl 0 rfl ?_
  obtain ⟨v2, hv2, hf⟩ := mb hf
  refine C_geti hc rfl iW1 (by decide) 10 (by decide) rfl hv2 w2_24 dX1_send_7 ?_
  obtain ⟨S3, hS3, hf⟩ := mb hf
  refine C_puti hc rfl iW1 tyX1 tyX1_ok nmX1 (by decide) 11 (by decide) rfl hS3 w2_27 rfl rfl rfl dX1_send_10 ?_
  obtain rfl := Option.some.inj hf
  exact V_vret hc hzz rfl rfl rfl rfl dX1_send_13
noncomputable def f1_takeOwn (S : CS) (h : Nat) : Option (CS) :=
  (pi S 1 h 12 (0 : Int32)).bind fun S1 =>
  (gi S1 1 h 13).bind fun v2 =>
  (
    if v2 = 0 then (
      some S1
    ) else (
      (gr S1 1 h 1).bind fun a5 =>
      (gr S1 1 h 2).bind fun a6 =>
      (cal S1 4 a5 (f4_swap S1 a5 a6)).bind fun S7 =>
      (pi S7 1 h 13 (0 : Int32)).bind fun S8 =>
      (cal S8 1 h (f1_send S8 h)).bind fun S9 =>
      some S9
    )
  ).bind fun S3 =>
  some S3
theorem hdX_X1_takeOwn : yX1_takeOwn.cls = "FarEditors$Editor" ∧ yX1_takeOwn.cls ≠ "java/lang/invoke/MethodHandle" ∧ yX1_takeOwn.cls ≠ "java/lang/invoke/VarHandle" ∧ (parseMethodDescriptor yX1_takeOwn.desc).map (fun d => d.parameters.length) = some 0 := by decide +kernel
set_option maxHeartbeats 4000000 in
set_option maxRecDepth 100000 in
theorem c1_takeOwn (l : Launch) (D : va_G) (y : CyT) (zM uM : Nat) {S S' : CS} {h : Nat} (hf : f1_takeOwn S h = some S') : CT l D y yX1_takeOwn cX1_takeOwn 1 none 1 23 zM uM [.ref h] (cZ S) (cU S) (cw y S) (cZ S') (cU S') (cw y S') none := by
  refine CT.of (by decide) (Nat.le_of_ble_eq_true rfl) (fun E hc hzz hnm => ?_)
  have hc : Cx E "FarEditors$Editor" cX1_takeOwn 1 := hc
  have hz := hzz.1
  have hT := hz.2.2.1
  show V E (cZ S) (cU S) (cw y S) 0 [(0, .ref h)] []
  unfold f1_takeOwn at hf
  refine V_aload_n hc dX1_takeOwn_0 rfl 0 rfl ?_
  refine V_iconst hc (v := (0 : Int32)) dX1_takeOwn_1 rfl ?_
  obtain ⟨S1, hS1, hf⟩ := mb hf
  refine C_puti hc rfl iW1 tyX1 tyX1_ok nmX1 (by decide) 12 (by decide) rfl hS1 w2_31 rfl rfl rfl dX1_takeOwn_2 ?_
  refine V_aload_n hc dX1_takeOwn_5 rfl 0 rfl ?_
  obtain ⟨v2, hv2, hf⟩ := mb hf
  refine C_geti hc rfl iW1 (by decide) 13 (by decide) rfl hv2 w2_34 dX1_takeOwn_6 ?_
  obtain ⟨S3, hv4, hf⟩ := mb hf
  have hJ9 : V E (cZ S3) (cU S3) (cw y S3) 32 [] [] := by
    obtain rfl := Option.some.inj hf
    exact V_vret hc hzz rfl rfl rfl rfl dX1_takeOwn_32
  refine V_if_eq hc dX1_takeOwn_9 rfl (fun hq9 => ?_) (fun hq9 => ?_)
  · rw [if_pos hq9] at hv4
    obtain rfl := Option.some.inj hv4
    exact V_sub [] rfl hJ9
  · rw [if_neg hq9] at hv4
    refine V_aload_n hc dX1_takeOwn_12 rfl 0 rfl ?_
    obtain ⟨a5, ha5, hv4⟩ := mb hv4
    refine C_getr hc rfl iW1 (by decide) 1 (by decide) rfl ha5 w2_0 dX1_takeOwn_13 ?_
    refine V_aload_n hc dX1_takeOwn_16 rfl 0 rfl ?_
    obtain ⟨a6, ha6, hv4⟩ := mb hv4
    refine C_getr hc rfl iW1 (by decide) 2 (by decide) rfl ha6 w2_3 dX1_takeOwn_17 ?_
    obtain ⟨S7, hS7, hv4⟩ := mb hv4
    obtain ⟨hkS7, hS7⟩ := og hS7
    refine C_callV hc hz (As := [.ref a6]) hkS7 (by decide) (c4_swap l D y _ _ hS7) w4_94 w4_62 w4_63 w1_5 w4_64 hdX_X4_swap ⟨(Nat.le_of_ble_eq_true rfl), (Nat.le_of_ble_eq_true rfl)⟩ rfl rfl rfl (Nat.le_of_ble_eq_true rfl) dX1_takeOwn_20 ?_
    refine V_aload_n hc dX1_takeOwn_23 rfl 0 rfl ?_
    refine V_iconst hc (v := (0 : Int32)) dX1_takeOwn_24 rfl ?_
    obtain ⟨S8, hS8, hv4⟩ := mb hv4
    refine C_puti hc rfl iW1 tyX1 tyX1_ok nmX1 (by decide) 13 (by decide) rfl hS8 w2_34 rfl rfl rfl dX1_takeOwn_25 ?_
    refine V_aload_n hc dX1_takeOwn_28 rfl 0 rfl ?_
    obtain ⟨S9, hS9, hv4⟩ := mb hv4
    obtain ⟨hkS9, hS9⟩ := og hS9
    refine C_callV hc hz (As := []) hkS9 (by decide) (c1_send l D y _ _ hS9) w4_95 w4_96 w4_97 w1_9 w4_98 hdX_X1_send ⟨(Nat.le_of_ble_eq_true rfl), (Nat.le_of_ble_eq_true rfl)⟩ rfl rfl rfl (Nat.le_of_ble_eq_true rfl) dX1_takeOwn_29 ?_
    obtain rfl := Option.some.inj hv4
    exact V_sub [] rfl hJ9
