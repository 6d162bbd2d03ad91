noncomputable def f11_init (X : Nat × Nat) (S : CS) (h : Nat) : Option (CS) :=
  (nwo X S 8 12).bind fun S1 =>
  (f8_init X S1 (cZ S)).bind fun S2 =>
  (pr S2 11 h 0 (cZ S)).bind fun S3 =>
  (nwo X S3 9 7).bind fun S4 =>
  (f9_init X S4 (cZ S3)).bind fun S5 =>
  (pr S5 11 h 1 (cZ S3)).bind fun S6 =>
  (nwo X S6 6 3).bind fun S7 =>
  (f6_init X S7 (cZ S6)).bind fun S8 =>
  (pr S8 11 h 2 (cZ S6)).bind fun S9 =>
  (nwo X S9 10 12).bind fun S10 =>
  (gr S10 11 h 2).bind fun a11 =>
  (gr S10 11 h 1).bind fun a12 =>
  (f10_init X S10 (cZ S9) a11 a12).bind fun S13 =>
  (pr S13 11 h 3 (cZ S9)).bind fun S14 =>
  (nwo X S14 10 12).bind fun S15 =>
  (gr S15 11 h 2).bind fun a16 =>
  (gr S15 11 h 1).bind fun a17 =>
  (f10_init X S15 (cZ S14) a16 a17).bind fun S18 =>
  (pr S18 11 h 4 (cZ S14)).bind fun S19 =>
  (nwo X S19 2 4).bind fun S20 =>
  (f2_init X S20 (cZ S19)).bind fun S21 =>
  (pr S21 11 h 5 (cZ S19)).bind fun S22 =>
  (nwo X S22 0 10).bind fun S23 =>
  (f0_init X S23 (cZ S22)).bind fun S24 =>
  (pr S24 11 h 6 (cZ S22)).bind fun S25 =>
  (nwo X S25 4 2).bind fun S26 =>
  (f4_init X S26 (cZ S25)).bind fun S27 =>
  (pr S27 11 h 7 (cZ S25)).bind fun S28 =>
  (nwo X S28 4 2).bind fun S29 =>
  (f4_init X S29 (cZ S28)).bind fun S30 =>
  (pr S30 11 h 8 (cZ S28)).bind fun S31 =>
  (nwo X S31 7 2).bind fun S32 =>
  (f7_init X S32 (cZ S31)).bind fun S33 =>
  (pr S33 11 h 9 (cZ S31)).bind fun S34 =>
  (nwa X S34 14 (7 : Int32)).bind fun S35 =>
  (pr S35 11 h 10 (cZ S34)).bind fun S36 =>
  (pi S36 11 h 11 (0 : Int32)).bind fun S37 =>
  (pi S37 11 h 12 (-1 : Int32)).bind fun S38 =>
  (pi S38 11 h 13 (1 : Int32)).bind fun S39 =>
  some S39
theorem hdX_X11_init : yX11_init.cls = "FarEditors" ∧ yX11_init.cls ≠ "java/lang/invoke/MethodHandle" ∧ yX11_init.cls ≠ "java/lang/invoke/VarHandle" ∧ (parseMethodDescriptor yX11_init.desc).map (fun d => d.parameters.length) = some 0 := by decide +kernel
set_option maxHeartbeats 4000000 in
set_option maxRecDepth 100000 in
theorem c11_init (l : Launch) (D : va_G) (y : CyT) (X : Nat × Nat) (hX : X.2 ≤ 100000000) {S S' : CS} {h : Nat} (hf : f11_init X S h = some S') : CT l D y yX11_init cX11_init 1 none 5 104 X.1 X.2 [.ref h] (cZ S) (cU S) (cw y S) (cZ S') (cU S') (cw y S') none := by
  refine CT.of (by decide) (Nat.le_of_ble_eq_true rfl) (fun E hc hzz hnm => ?_)
  have hc : Cx E "FarEditors" cX11_init 1 := hc
  have hnm : (xH E).name = "<init>" := hnm
  have hz := hzz.1
  have hT := hz.2.2.1
  show V E (cZ S) (cU S) (cw y S) 0 [(0, .ref h)] []
  unfold f11_init at hf
  refine V_aload_n hc dX11_init_0 rfl 0 rfl ?_
  refine V_objInit hc hz w1_26 w1_27 w1_28 ⟨(Nat.le_of_ble_eq_true rfl), (Nat.le_of_ble_eq_true rfl)⟩ (Nat.le_of_ble_eq_true rfl) dX11_init_1 ?_
  refine V_aload_n hc dX11_init_4 rfl 0 rfl ?_
  obtain ⟨S1, hS1, hf⟩ := mb hf
  refine C_new hc hz rfl iW8 tyX8 tyX8_ok df8 (by decide) hS1 w1_29 w1_30 w1_2 dX11_init_5 ?_
  refine V_dup hc dX11_init_8 rfl ?_
  obtain ⟨S2, hS2, hf⟩ := mb hf
  refine V_callI hc hz (As := []) (c8_init l D y X hX hS2) w1_31 w1_32 w1_2 w1_33 rfl hdX_X8_init.2 ⟨(Nat.le_of_ble_eq_true rfl), (Nat.le_of_ble_eq_true rfl)⟩ rfl rfl (Nat.le_of_ble_eq_true rfl) dX11_init_9 ?_
  obtain ⟨S3, hS3, hf⟩ := mb hf
  refine C_putrF hc hnm rfl iW11 tyX11 tyX11_ok nmX11 (by decide) 0 (by decide) rfl hS3 w2_193 rfl rfl rfl rfl dX11_init_12 ?_
  refine V_aload_n hc dX11_init_15 rfl 0 rfl ?_
  obtain ⟨S4, hS4, hf⟩ := mb hf
  refine C_new hc hz rfl iW9 tyX9 tyX9_ok df9 (by decide) hS4 w1_83 w1_84 w1_3 dX11_init_16 ?_
  refine V_dup hc dX11_init_19 rfl ?_
  obtain ⟨S5, hS5, hf⟩ := mb hf
  refine V_callI hc hz (As := []) (c9_init l D y X hX hS5) w1_85 w1_86 w1_3 w1_87 rfl hdX_X9_init.2 ⟨(Nat.le_of_ble_eq_true rfl), (Nat.le_of_ble_eq_true rfl)⟩ rfl rfl (Nat.le_of_ble_eq_true rfl) dX11_init_20 ?_
  obtain ⟨S6, hS6, hf⟩ := mb hf
  refine C_putrF hc hnm rfl iW11 tyX11 tyX11_ok nmX11 (by decide) 1 (by decide) rfl hS6 w2_194 rfl rfl rfl rfl dX11_init_23 ?_
  refine V_aload_n hc dX11_init_26 rfl 0 rfl ?_
  obtain ⟨S7, hS7, hf⟩ := mb hf
  refine C_new hc hz rfl iW6 tyX6 tyX6_ok df6 (by decide) hS7 w1_154 w1_155 w1_6 dX11_init_27 ?_
  refine V_dup hc dX11_init_30 rfl ?_
  obtain ⟨S8, hS8, hf⟩ := mb hf
  refine V_callI hc hz (As := []) (c6_init l D y X hX hS8) w1_156 w1_157 w1_6 w1_158 rfl hdX_X6_init.2 ⟨(Nat.le_of_ble_eq_true rfl), (Nat.le_of_ble_eq_true rfl)⟩ rfl rfl (Nat.le_of_ble_eq_true rfl) dX11_init_31 ?_
  obtain ⟨S9, hS9, hf⟩ := mb hf
  refine C_putrF hc hnm rfl iW11 tyX11 tyX11_ok nmX11 (by decide) 2 (by decide) rfl hS9 w2_195 rfl rfl rfl rfl dX11_init_34 ?_
  refine V_aload_n hc dX11_init_37 rfl 0 rfl ?_
  obtain ⟨S10, hS10, hf⟩ := mb hf
  refine C_new hc hz rfl iW10 tyX10 tyX10_ok df10 (by decide) hS10 w1_196 w1_197 w1_8 dX11_init_38 ?_
  refine V_dup hc dX11_init_41 rfl ?_
  refine V_aload_n hc dX11_init_42 rfl 0 rfl ?_
  obtain ⟨a11, ha11, hf⟩ := mb hf
  refine C_getr hc rfl iW11 (by decide) 2 (by decide) rfl ha11 w2_195 dX11_init_43 ?_
  refine V_aload_n hc dX11_init_46 rfl 0 rfl ?_
  obtain ⟨a12, ha12, hf⟩ := mb hf
  refine C_getr hc rfl iW11 (by decide) 1 (by decide) rfl ha12 w2_194 dX11_init_47 ?_
  obtain ⟨S13, hS13, hf⟩ := mb hf
  refine V_callI hc hz (As := [.ref a11, .ref a12]) (c10_init l D y X hX hS13) w1_198 w1_199 w1_8 w1_200 rfl hdX_X10_init.2 ⟨(Nat.le_of_ble_eq_true rfl), (Nat.le_of_ble_eq_true rfl)⟩ rfl rfl (Nat.le_of_ble_eq_true rfl) dX11_init_50 ?_
  obtain ⟨S14, hS14, hf⟩ := mb hf
  refine C_putrF hc hnm rfl iW11 tyX11 tyX11_ok nmX11 (by decide) 3 (by decide) rfl hS14 w2_196 rfl rfl rfl rfl dX11_init_53 ?_
  refine V_aload_n hc dX11_init_56 rfl 0 rfl ?_
  obtain ⟨S15, hS15, hf⟩ := mb hf
  refine C_new hc hz rfl iW10 tyX10 tyX10_ok df10 (by decide) hS15 w1_196 w1_197 w1_8 dX11_init_57 ?_
  refine V_dup hc dX11_init_60 rfl ?_
  refine V_aload_n hc dX11_init_61 rfl 0 rfl ?_
  obtain ⟨a16, ha16, hf⟩ := mb hf
  refine C_getr hc rfl iW11 (by decide) 2 (by decide) rfl ha16 w2_195 dX11_init_62 ?_
  refine V_aload_n hc dX11_init_65 rfl 0 rfl ?_
  obtain ⟨a17, ha17, hf⟩ := mb hf
  refine C_getr hc rfl iW11 (by decide) 1 (by decide) rfl ha17 w2_194 dX11_init_66 ?_
  obtain ⟨S18, hS18, hf⟩ := mb hf
  refine V_callI hc hz (As := [.ref a16, .ref a17]) (c10_init l D y X hX hS18) w1_198 w1_199 w1_8 w1_200 rfl hdX_X10_init.2 ⟨(Nat.le_of_ble_eq_true rfl), (Nat.le_of_ble_eq_true rfl)⟩ rfl rfl (Nat.le_of_ble_eq_true rfl) dX11_init_69 ?_
  obtain ⟨S19, hS19, hf⟩ := mb hf
  refine C_putrF hc hnm rfl iW11 tyX11 tyX11_ok nmX11 (by decide) 4 (by decide) rfl hS19 w2_197 rfl rfl rfl rfl dX11_init_72 ?_
  refine V_aload_n hc dX11_init_75 rfl 0 rfl ?_
  obtain ⟨S20, hS20, hf⟩ := mb hf
  refine C_new hc hz rfl iW2 tyX2 tyX2_ok df2 (by decide) hS20 w2_122 w2_123 w1_11 dX11_init_76 ?_
  refine V_dup hc dX11_init_79 rfl ?_
  obtain ⟨S21, hS21, hf⟩ := mb hf
  refine V_callI hc hz (As := []) (c2_init l D y X hX hS21) w2_124 w2_125 w1_11 w2_126 rfl hdX_X2_init.2 ⟨(Nat.le_of_ble_eq_true rfl), (Nat.le_of_ble_eq_true rfl)⟩ rfl rfl (Nat.le_of_ble_eq_true rfl) dX11_init_80 ?_
  obtain ⟨S22, hS22, hf⟩ := mb hf
  refine C_putrF hc hnm rfl iW11 tyX11 tyX11_ok nmX11 (by decide) 5 (by decide) rfl hS22 w2_198 rfl rfl rfl rfl dX11_init_83 ?_
  refine V_aload_n hc dX11_init_86 rfl 0 rfl ?_
  obtain ⟨S23, hS23, hf⟩ := mb hf
  refine C_new hc hz rfl iW0 tyX0 tyX0_ok df0 (by decide) hS23 w2_145 w2_146 w1_12 dX11_init_87 ?_
  refine V_dup hc dX11_init_90 rfl ?_
  obtain ⟨S24, hS24, hf⟩ := mb hf
  refine V_callI hc hz (As := []) (c0_init l D y X hX hS24) w2_147 w2_148 w1_12 w2_149 rfl hdX_X0_init.2 ⟨(Nat.le_of_ble_eq_true rfl), (Nat.le_of_ble_eq_true rfl)⟩ rfl rfl (Nat.le_of_ble_eq_true rfl) dX11_init_91 ?_
  obtain ⟨S25, hS25, hf⟩ := mb hf
  refine C_putrF hc hnm rfl iW11 tyX11 tyX11_ok nmX11 (by decide) 6 (by decide) rfl hS25 w2_199 rfl rfl rfl rfl dX11_init_94 ?_
  refine V_aload_n hc dX11_init_97 rfl 0 rfl ?_
  obtain ⟨S26, hS26, hf⟩ := mb hf
  refine C_new hc hz rfl iW4 tyX4 tyX4_ok df4 (by decide) hS26 w2_189 w1_96 w1_5 dX11_init_98 ?_
  refine V_dup hc dX11_init_101 rfl ?_
  obtain ⟨S27, hS27, hf⟩ := mb hf
  refine V_callI hc hz (As := []) (c4_init l D y X hX hS27) w2_190 w1_98 w1_5 w1_99 rfl hdX_X4_init.2 ⟨(Nat.le_of_ble_eq_true rfl), (Nat.le_of_ble_eq_true rfl)⟩ rfl rfl (Nat.le_of_ble_eq_true rfl) dX11_init_102 ?_
  obtain ⟨S28, hS28, hf⟩ := mb hf
  refine C_putrF hc hnm rfl iW11 tyX11 tyX11_ok nmX11 (by decide) 7 (by decide) rfl hS28 w2_200 rfl rfl rfl rfl dX11_init_105 ?_
  refine V_aload_n hc dX11_init_108 rfl 0 rfl ?_
  obtain ⟨S29, hS29, hf⟩ := mb hf
  refine C_new hc hz rfl iW4 tyX4 tyX4_ok df4 (by decide) hS29 w2_189 w1_96 w1_5 dX11_init_109 ?_
  refine V_dup hc dX11_init_112 rfl ?_
  obtain ⟨S30, hS30, hf⟩ := mb hf
  refine V_callI hc hz (As := []) (c4_init l D y X hX hS30) w2_190 w1_98 w1_5 w1_99 rfl hdX_X4_init.2 ⟨(Nat.le_of_ble_eq_true rfl), (Nat.le_of_ble_eq_true rfl)⟩ rfl rfl (Nat.le_of_ble_eq_true rfl) dX11_init_113 ?_
  obtain ⟨S31, hS31, hf⟩ := mb hf
  refine C_putrF hc hnm rfl iW11 tyX11 tyX11_ok nmX11 (by decide) 8 (by decide) rfl hS31 w2_201 rfl rfl rfl rfl dX11_init_116 ?_
  refine V_aload_n hc dX11_init_119 rfl 0 rfl ?_
  obtain ⟨S32, hS32, hf⟩ := mb hf
  refine C_new hc hz rfl iW7 tyX7 tyX7_ok df7 (by decide) hS32 w2_191 w1_161 w1_7 dX11_init_120 ?_
  refine V_dup hc dX11_init_123 rfl ?_
  obtain ⟨S33, hS33, hf⟩ := mb hf
  refine V_callI hc hz (As := []) (c7_init l D y X hX hS33) w2_192 w1_163 w1_7 w1_164 rfl hdX_X7_init.2 ⟨(Nat.le_of_ble_eq_true rfl), (Nat.le_of_ble_eq_true rfl)⟩ rfl rfl (Nat.le_of_ble_eq_true rfl) dX11_init_124 ?_
  obtain ⟨S34, hS34, hf⟩ := mb hf
  refine C_putrF hc hnm rfl iW11 tyX11 tyX11_ok nmX11 (by decide) 9 (by decide) rfl hS34 w2_202 rfl rfl rfl rfl dX11_init_127 ?_
  refine V_aload_n hc dX11_init_130 rfl 0 rfl ?_
  refine V_bipush hc (v := (7 : Int32)) dX11_init_131 rfl ?_
  obtain ⟨S35, hS35, hf⟩ := mb hf
  refine C_newi hc hz hS35 hX w1_82 dX11_init_133 ?_
  obtain ⟨S36, hS36, hf⟩ := mb hf
  refine C_putrF hc hnm rfl iW11 tyX11 tyX11_ok nmX11 (by decide) 10 (by decide) rfl hS36 w2_203 rfl rfl rfl rfl dX11_init_135 ?_
  refine V_aload_n hc dX11_init_138 rfl 0 rfl ?_
  refine V_iconst hc (v := (0 : Int32)) dX11_init_139 rfl ?_
  obtain ⟨S37, hS37, hf⟩ := mb hf
  refine C_puti hc rfl iW11 tyX11 tyX11_ok nmX11 (by decide) 11 (by decide) rfl hS37 w2_204 rfl rfl rfl dX11_init_140 ?_
  refine V_aload_n hc dX11_init_143 rfl 0 rfl ?_
  refine V_iconst hc (v := (-1 : Int32)) dX11_init_144 rfl ?_
  obtain ⟨S38, hS38, hf⟩ := mb hf
  refine C_puti hc rfl iW11 tyX11 tyX11_ok nmX11 (by decide) 12 (by decide) rfl hS38 w2_205 rfl rfl rfl dX11_init_145 ?_
  refine V_aload_n hc dX11_init_148 rfl 0 rfl ?_
  refine V_iconst hc (v := (1 : Int32)) dX11_init_149 rfl ?_
  obtain ⟨S39, hS39, hf⟩ := mb hf
  refine C_puti hc rfl iW11 tyX11 tyX11_ok nmX11 (by decide) 13 (by decide) rfl hS39 w2_206 rfl rfl rfl dX11_init_150 ?_
  obtain rfl := Option.some.inj hf
  exact V_vret hc hzz rfl rfl rfl rfl dX11_init_153
noncomputable def f11_refuse (S : CS) (h : Nat) (p1 : Int32) : Option (Int32 × CS) :=
  (
    if p1 < 0 then (
      some S
    ) else (
      (gr S 11 h 10).bind fun a3 =>
      (aln S 14 a3).bind fun v4 =>
      if v4 ≤ p1 then (
        some S
      ) else (
        (gr S 11 h 10).bind fun a5 =>
        (ldi S a5 p1).bind fun v6 =>
        (sti S a5 p1 (v6 + (1 : Int32))).bind fun S7 =>
        some S7
      )
    )
  ).bind fun S1 =>
  some ((-1 : Int32), S1)
theorem hdX_X11_refuse : yX11_refuse.cls = "FarEditors" ∧ yX11_refuse.cls ≠ "java/lang/invoke/MethodHandle" ∧ yX11_refuse.cls ≠ "java/lang/invoke/VarHandle" ∧ (parseMethodDescriptor yX11_refuse.desc).map (fun d => d.parameters.length) = some 1 := by decide +kernel
set_option maxHeartbeats 4000000 in
set_option maxRecDepth 100000 in
theorem c11_refuse (l : Launch) (D : va_G) (y : CyT) (zM uM : Nat) {S S' : CS} {h : Nat} {p1 : Int32} {r : Int32} (hf : f11_refuse S h p1 = some (r, S')) : CT l D y yX11_refuse cX11_refuse 2 (some .int) 0 0 zM uM [.ref h, .int p1] (cZ S) (cU S) (cw y S) (cZ S') (cU S') (cw y S') (some (.int r)) := by
  refine CT.of (by decide) (Nat.le_of_ble_eq_true rfl) (fun E hc hzz hnm => ?_)
  have hc : Cx E "FarEditors" cX11_refuse 2 := hc
  have hz := hzz.1
  have hT := hz.2.2.1
  show V E (cZ S) (cU S) (cw y S) 0 [(0, .ref h), (1, .int p1)] []
  unfold f11_refuse at hf
  refine V_iload_n hc dX11_refuse_0 rfl 1 rfl ?_
  obtain ⟨S1, hv2, hf⟩ := mb hf
  have hJ1 : V E (cZ S1) (cU S1) (cw y S1) 23 [] [] := by
    refine V_iconst hc (v := (-1 : Int32)) dX11_refuse_23 rfl ?_
    obtain ⟨rfl, rfl⟩ := si2 hf
    exact V_iret hc hzz rfl rfl rfl rfl rfl dX11_refuse_24
  refine V_if_lt hc dX11_refuse_1 rfl (fun hq1 => ?_) (fun hq1 => ?_)
  · rw [if_pos hq1] at hv2
    obtain rfl := Option.some.inj hv2
    exact V_sub [] rfl hJ1
  · rw [if_neg hq1] at hv2
    refine V_iload_n hc dX11_refuse_4 rfl 1 rfl ?_
    refine V_aload_n hc dX11_refuse_5 rfl 0 rfl ?_
    obtain ⟨a3, ha3, hv2⟩ := mb hv2
    refine C_getr hc rfl iW11 (by decide) 10 (by decide) rfl ha3 w2_203 dX11_refuse_6 ?_
    obtain ⟨v4, hv4, hv2⟩ := mb hv2
    refine C_alen hc hT hv4 dX11_refuse_9 ?_
    refine V_icmp_ge hc dX11_refuse_10 rfl (fun hq10 => ?_) (fun hq10 => ?_)
    · rw [if_pos hq10] at hv2
      obtain rfl := Option.some.inj hv2
      exact V_sub [] rfl hJ1
    · rw [if_neg hq10] at hv2
      refine V_aload_n hc dX11_refuse_13 rfl 0 rfl ?_
      obtain ⟨a5, ha5, hv2⟩ := mb hv2
      refine C_getr hc rfl iW11 (by decide) 10 (by decide) rfl ha5 w2_203 dX11_refuse_14 ?_
      refine V_iload_n hc dX11_refuse_17 rfl 1 rfl ?_
      refine V_dup2 hc dX11_refuse_18 rfl rfl ?_
      obtain ⟨v6, hv6, hv2⟩ := mb hv2
      refine C_iald hc hT hv6 dX11_refuse_19 ?_
      refine V_iconst hc (v := (1 : Int32)) dX11_refuse_20 rfl ?_
      refine V_iadd hc dX11_refuse_21 ?_
      obtain ⟨S7, hS7, hv2⟩ := mb hv2
      refine C_iast hc hT hS7 dX11_refuse_22 ?_
      obtain rfl := Option.some.inj hv2
      exact V_sub [] rfl hJ1
noncomputable def f11_feed (S : CS) (h : Nat) (p1 : Int32) (p2 : Int32) (p3 : Int32) (p4 : Int32) (p5 : Int32) : Option (Int32 × CS) :=
  (gr S 11 h 0).bind fun a1 =>
  (cal S 8 a1 (f8_hasRoom S a1 (20 : Int32))).bind fun v2 =>
  if v2 = 0 then (
    bn2 (cal S 11 h (f11_refuse S h (0 : Int32))) fun v15 S16 =>
    some (v15, S16)
  ) else (
    (gr S 11 h 0).bind fun a3 =>
    (cal S 8 a3 (f8_addNumber S a3 p1)).bind fun S4 =>
    (gr S4 11 h 0).bind fun a5 =>
    (cal S4 8 a5 (f8_addNumber S4 a5 p2)).bind fun S6 =>
    (gr S6 11 h 0).bind fun a7 =>
    (cal S6 8 a7 (f8_addNumber S6 a7 p3)).bind fun S8 =>
    (gr S8 11 h 0).bind fun a9 =>
    (cal S8 8 a9 (f8_addNumber S8 a9 p4)).bind fun S10 =>
    (gr S10 11 h 0).bind fun a11 =>
    (cal S10 8 a11 (f8_addNumber S10 a11 p5)).bind fun S12 =>
    (gr S12 11 h 0).bind fun a13 =>
    (gi S12 8 a13 1).bind fun v14 =>
    some (v14, S12)
  )
theorem hdX_X11_feed : yX11_feed.cls = "FarEditors" ∧ yX11_feed.cls ≠ "java/lang/invoke/MethodHandle" ∧ yX11_feed.cls ≠ "java/lang/invoke/VarHandle" ∧ (parseMethodDescriptor yX11_feed.desc).map (fun d => d.parameters.length) = some 5 := by decide +kernel
set_option maxHeartbeats 4000000 in
set_option maxRecDepth 100000 in
theorem c11_feed (l : Launch) (D : va_G) (y : CyT) (zM uM : Nat) {S S' : CS} {h : Nat} {p1 : Int32} {p2 : Int32} {p3 : Int32} {p4 : Int32} {p5 : Int32} {r : Int32} (hf : f11_feed S h p1 p2 p3 p4 p5 = some (r, S')) : CT l D y yX11_feed cX11_feed 6 (some .int) 1 22 zM uM [.ref h, .int p1, .int p2, .int p3, .int p4, .int p5] (cZ S) (cU S) (cw y S) (cZ S') (cU S') (cw y S') (some (.int r)) := by
  refine CT.of (by decide) (Nat.le_of_ble_eq_true rfl) (fun E hc hzz hnm => ?_)
  have hc : Cx E "FarEditors" cX11_feed 6 := hc
  have hz := hzz.1
  have hT := hz.2.2.1
  show V E (cZ S) (cU S) (cw y S) 0 [(0, .ref h), (1, .int p1), (2, .int p2), (3, .int p3), (4, .int p4), (5, .int p5)] []
  unfold f11_feed at hf
  refine V_aload_n hc dX11_feed_0 rfl 0 rfl ?_
  obtain ⟨a1, ha1, hf⟩ := mb hf
  refine C_getr hc rfl iW11 (by decide) 0 (by decide) rfl ha1 w2_193 dX11_feed_1 ?_
  refine V_bipush hc (v := (20 : Int32)) dX11_feed_4 rfl ?_
  obtain ⟨v2, hv2, hf⟩ := mb hf
  obtain ⟨hkv2, hv2⟩ := og hv2
  refine C_callV hc hz (As := [.int (20 : Int32)]) hkv2 (by decide) (c8_hasRoom l D y _ _ hv2) w3_0 w3_1 w3_2 w1_2 w3_3 hdX_X8_hasRoom ⟨(Nat.le_of_ble_eq_true rfl), (Nat.le_of_ble_eq_true rfl)⟩ rfl rfl rfl (Nat.le_of_ble_eq_true rfl) dX11_feed_6 ?_
  refine V_if_ne hc dX11_feed_9 rfl (fun hq9 => ?_) (fun hq9 => ?_)
  · rw [if_neg hq9] at hf
    refine V_aload_n hc dX11_feed_18 rfl 0 rfl ?_
    obtain ⟨a3, ha3, hf⟩ := mb hf
    refine C_getr hc rfl iW11 (by decide) 0 (by decide) rfl ha3 w2_193 dX11_feed_19 ?_
    refine V_iload_n hc dX11_feed_22 rfl 1 rfl ?_
    obtain ⟨S4, hS4, hf⟩ := mb hf
    obtain ⟨hkS4, hS4⟩ := og hS4
    refine C_callV hc hz (As := [.int p1]) hkS4 (by decide) (c8_addNumber l D y _ _ hS4) w3_8 w3_9 w3_10 w1_2 w3_11 hdX_X8_addNumber ⟨(Nat.le_of_ble_eq_true rfl), (Nat.le_of_ble_eq_true rfl)⟩ rfl rfl rfl (Nat.le_of_ble_eq_true rfl) dX11_feed_23 ?_
    refine V_aload_n hc dX11_feed_26 rfl 0 rfl ?_
    obtain ⟨a5, ha5, hf⟩ := mb hf
    refine C_getr hc rfl iW11 (by decide) 0 (by decide) rfl ha5 w2_193 dX11_feed_27 ?_
    refine V_iload_n hc dX11_feed_30 rfl 2 rfl ?_
    obtain ⟨S6, hS6, hf⟩ := mb hf
    obtain ⟨hkS6, hS6⟩ := og hS6
    refine C_callV hc hz (As := [.int p2]) hkS6 (by decide) (c8_addNumber l D y _ _ hS6) w3_8 w3_9 w3_10 w1_2 w3_11 hdX_X8_addNumber ⟨(Nat.le_of_ble_eq_true rfl), (Nat.le_of_ble_eq_true rfl)⟩ rfl rfl rfl (Nat.le_of_ble_eq_true rfl) dX11_feed_31 ?_
    refine V_aload_n hc dX11_feed_34 rfl 0 rfl ?_
    obtain ⟨a7, ha7, hf⟩ := mb hf
    refine C_getr hc rfl iW11 (by decide) 0 (by decide) rfl ha7 w2_193 dX11_feed_35 ?_
    refine V_iload_n hc dX11_feed_38 rfl 3 rfl ?_
    obtain ⟨S8, hS8, hf⟩ := mb hf
    obtain ⟨hkS8, hS8⟩ := og hS8
    refine C_callV hc hz (As := [.int p3]) hkS8 (by decide) (c8_addNumber l D y _ _ hS8) w3_8 w3_9 w3_10 w1_2 w3_11 hdX_X8_addNumber ⟨(Nat.le_of_ble_eq_true rfl), (Nat.le_of_ble_eq_true rfl)⟩ rfl rfl rfl (Nat.le_of_ble_eq_true rfl) dX11_feed_39 ?_
    refine V_aload_n hc dX11_feed_42 rfl 0 rfl ?_
    obtain ⟨a9, ha9, hf⟩ := mb hf
    refine C_getr hc rfl iW11 (by decide) 0 (by decide) rfl ha9 w2_193 dX11_feed_43 ?_
    refine V_iload hc dX11_feed_46 4 rfl ?_
    obtain ⟨S10, hS10, hf⟩ := mb hf
    obtain ⟨hkS10, hS10⟩ := og hS10
    refine C_callV hc hz (As := [.int p4]) hkS10 (by decide) (c8_addNumber l D y _ _ hS10) w3_8 w3_9 w3_10 w1_2 w3_11 hdX_X8_addNumber ⟨(Nat.le_of_ble_eq_true rfl), (Nat.le_of_ble_eq_true rfl)⟩ rfl rfl rfl (Nat.le_of_ble_eq_true rfl) dX11_feed_48 ?_
    refine V_aload_n hc dX11_feed_51 rfl 0 rfl ?_
    obtain ⟨a11, ha11, hf⟩ := mb hf
    refine C_getr hc rfl iW11 (by decide) 0 (by decide) rfl ha11 w2_193 dX11_feed_52 ?_
    refine V_iload hc dX11_feed_55 5 rfl ?_
    obtain ⟨S12, hS12, hf⟩ := mb hf
    obtain ⟨hkS12, hS12⟩ := og hS12
    refine C_callV hc hz (As := [.int p5]) hkS12 (by decide) (c8_addNumber l D y _ _ hS12) w3_8 w3_9 w3_10 w1_2 w3_11 hdX_X8_addNumber ⟨(Nat.le_of_ble_eq_true rfl), (Nat.le_of_ble_eq_true rfl)⟩ rfl rfl rfl (Nat.le_of_ble_eq_true rfl) dX11_feed_57 ?_
    refine V_aload_n hc dX11_feed_60 rfl 0 rfl ?_
    obtain ⟨a13, ha13, hf⟩ := mb hf
    refine C_getr hc rfl iW11 (by decide) 0 (by decide) rfl ha13 w2_193 dX11_feed_61 ?_
    obtain ⟨v14, hv14, hf⟩ := mb hf
    refine C_geti hc rfl iW8 (by decide) 1 (by decide) rfl hv14 w1_38 dX11_feed_64 ?_
    obtain ⟨rfl, rfl⟩ := si2 hf
    exact V_iret hc hzz rfl rfl rfl rfl rfl dX11_feed_67
  · rw [if_pos hq9] at hf
    refine V_aload_n hc dX11_feed_12 rfl 0 rfl ?_
    refine V_iconst hc (v := (0 : Int32)) dX11_feed_13 rfl ?_
    obtain ⟨v15, S16, hv15, hf⟩ := mb2 hf
    obtain ⟨hkv15, hv15⟩ := og hv15
    refine C_callV hc hz (As := [.int (0 : Int32)]) hkv15 (by decide) (c11_refuse l D y _ _ hv15) w3_4 w3_6 wp1_0 w1_1 w3_7 hdX_X11_refuse ⟨(Nat.le_of_ble_eq_true rfl), (Nat.le_of_ble_eq_true rfl)⟩ rfl rfl rfl (Nat.le_of_ble_eq_true rfl) dX11_feed_14 ?_
    obtain ⟨rfl, rfl⟩ := si2 hf
    exact V_iret hc hzz rfl rfl rfl rfl rfl dX11_feed_17
noncomputable def f11_refuseFlatly (S : CS) (h : Nat) (p1 : Int32) : Option (Int32 × CS) :=
  bn2 (cal S 11 h (f11_refuse S h p1)) fun v1 S2 =>
  some ((0 : Int32), S2)
theorem hdX_X11_refuseFlatly : yX11_refuseFlatly.cls = "FarEditors" ∧ yX11_refuseFlatly.cls ≠ "java/lang/invoke/MethodHandle" ∧ yX11_refuseFlatly.cls ≠ "java/lang/invoke/VarHandle" ∧ (parseMethodDescriptor yX11_refuseFlatly.desc).map (fun d => d.parameters.length) = some 1 := by decide +kernel
set_option maxHeartbeats 4000000 in
set_option maxRecDepth 100000 in
theorem c11_refuseFlatly (l : Launch) (D : va_G) (y : CyT) (zM uM : Nat) {S S' : CS} {h : Nat} {p1 : Int32} {r : Int32} (hf : f11_refuseFlatly S h p1 = some (r, S')) : CT l D y yX11_refuseFlatly cX11_refuseFlatly 2 (some .boolean) 1 21 zM uM [.ref h, .int p1] (cZ S) (cU S) (cw y S) (cZ S') (cU S') (cw y S') (some (.int r)) := by
  refine CT.of (by decide) (Nat.le_of_ble_eq_true rfl) (fun E hc hzz hnm => ?_)
  have hc : Cx E "FarEditors" cX11_refuseFlatly 2 := hc
  have hz := hzz.1
  have hT := hz.2.2.1
  show V E (cZ S) (cU S) (cw y S) 0 [(0, .ref h), (1, .int p1)] []
  unfold f11_refuseFlatly at hf
  refine V_aload_n hc dX11_refuseFlatly_0 rfl 0 rfl ?_
  refine V_iload_n hc dX11_refuseFlatly_1 rfl 1 rfl ?_
  obtain ⟨v1, S2, hv1, hf⟩ := mb2 hf
  obtain ⟨hkv1, hv1⟩ := og hv1
  refine C_callV hc hz (As := [.int p1]) hkv1 (by decide) (c11_refuse l D y _ _ hv1) w3_4 w3_6 wp1_0 w1_1 w3_7 hdX_X11_refuse ⟨(Nat.le_of_ble_eq_true rfl), (Nat.le_of_ble_eq_true rfl)⟩ rfl rfl rfl (Nat.le_of_ble_eq_true rfl) dX11_refuseFlatly_2 ?_
  refine V_pop hc dX11_refuseFlatly_5 rfl ?_
  refine V_iconst hc (v := (0 : Int32)) dX11_refuseFlatly_6 rfl ?_
  obtain ⟨rfl, rfl⟩ := si2 hf
  exact V_iret hc hzz rfl rfl rfl rfl rfl dX11_refuseFlatly_7
noncomputable def f11_end (S : CS) (h : Nat) (p1 : Int32) : Option (Int32 × CS) :=
  if p1 < 0 then (
    bn2 (cal S 11 h (f11_refuseFlatly S h (0 : Int32))) fun v1 S2 =>
    (bz v1).bind fun v3 =>
    some (v3, S2)
  ) else (
    (gr S 11 h 0).bind fun a4 =>
    (gi S 8 a4 1).bind fun v5 =>
    if p1 ≤ v5 then (
      (gr S 11 h 0).bind fun a6 =>
      (pi S 8 a6 1 p1).bind fun S7 =>
      some ((1 : Int32), S7)
    ) else (
      bn2 (cal S 11 h (f11_refuseFlatly S h (0 : Int32))) fun v8 S9 =>
      (bz v8).bind fun v10 =>
      some (v10, S9)
    )
  )
theorem hdX_X11_end : yX11_end.cls = "FarEditors" ∧ yX11_end.cls ≠ "java/lang/invoke/MethodHandle" ∧ yX11_end.cls ≠ "java/lang/invoke/VarHandle" ∧ (parseMethodDescriptor yX11_end.desc).map (fun d => d.parameters.length) = some 1 := by decide +kernel
set_option maxHeartbeats 4000000 in
set_option maxRecDepth 100000 in
theorem c11_end (l : Launch) (D : va_G) (y : CyT) (zM uM : Nat) {S S' : CS} {h : Nat} {p1 : Int32} {r : Int32} (hf : f11_end S h p1 = some (r, S')) : CT l D y yX11_end cX11_end 2 (some .boolean) 2 42 zM uM [.ref h, .int p1] (cZ S) (cU S) (cw y S) (cZ S') (cU S') (cw y S') (some (.int r)) := by
  refine CT.of (by decide) (Nat.le_of_ble_eq_true rfl) (fun E hc hzz hnm => ?_)
  have hc : Cx E "FarEditors" cX11_end 2 := hc
  have hz := hzz.1
  have hT := hz.2.2.1
  show V E (cZ S) (cU S) (cw y S) 0 [(0, .ref h), (1, .int p1)] []
  unfold f11_end at hf
  refine V_iload_n hc dX11_end_0 rfl 1 rfl ?_
  refine V_if_lt hc dX11_end_1 rfl (fun hq1 => ?_) (fun hq1 => ?_)
  · rw [if_pos hq1] at hf
    refine V_aload_n hc dX11_end_15 rfl 0 rfl ?_
    refine V_iconst hc (v := (0 : Int32)) dX11_end_16 rfl ?_
    obtain ⟨v1, S2, hv1, hf⟩ := mb2 hf
    obtain ⟨hkv1, hv1⟩ := og hv1
    refine C_callV hc hz (As := [.int (0 : Int32)]) hkv1 (by decide) (c11_refuseFlatly l D y _ _ hv1) w3_16 w3_18 wp1_1 w1_1 w3_19 hdX_X11_refuseFlatly ⟨(Nat.le_of_ble_eq_true rfl), (Nat.le_of_ble_eq_true rfl)⟩ rfl rfl rfl (Nat.le_of_ble_eq_true rfl) dX11_end_17 ?_
    obtain ⟨v3, hv3, hf⟩ := mb hf
    obtain ⟨hbv3, rfl⟩ := bz_some hv3
    obtain ⟨rfl, rfl⟩ := si2 hf
    exact V_iret hc hzz (bz_nar hbv3) rfl rfl rfl rfl dX11_end_20
  · rw [if_neg hq1] at hf
    refine V_iload_n hc dX11_end_4 rfl 1 rfl ?_
    refine V_aload_n hc dX11_end_5 rfl 0 rfl ?_
    obtain ⟨a4, ha4, hf⟩ := mb hf
    refine C_getr hc rfl iW11 (by decide) 0 (by decide) rfl ha4 w2_193 dX11_end_6 ?_
    obtain ⟨v5, hv5, hf⟩ := mb hf
    refine C_geti hc rfl iW8 (by decide) 1 (by decide) rfl hv5 w1_38 dX11_end_9 ?_
    refine V_icmp_le hc dX11_end_12 rfl (fun hq12 => ?_) (fun hq12 => ?_)
    · rw [if_pos hq12] at hf
      refine V_aload_n hc dX11_end_21 rfl 0 rfl ?_
      obtain ⟨a6, ha6, hf⟩ := mb hf
      refine C_getr hc rfl iW11 (by decide) 0 (by decide) rfl ha6 w2_193 dX11_end_22 ?_
      refine V_iload_n hc dX11_end_25 rfl 1 rfl ?_
      obtain ⟨S7, hS7, hf⟩ := mb hf
      refine C_puti hc rfl iW8 tyX8 tyX8_ok nmX8 (by decide) 1 (by decide) rfl hS7 w1_38 rfl rfl rfl dX11_end_26 ?_
      refine V_iconst hc (v := (1 : Int32)) dX11_end_29 rfl ?_
      obtain ⟨rfl, rfl⟩ := si2 hf
      exact V_iret hc hzz rfl rfl rfl rfl rfl dX11_end_30
    · rw [if_neg hq12] at hf
      refine V_aload_n hc dX11_end_15 rfl 0 rfl ?_
      refine V_iconst hc (v := (0 : Int32)) dX11_end_16 rfl ?_
      obtain ⟨v8, S9, hv8, hf⟩ := mb2 hf
      obtain ⟨hkv8, hv8⟩ := og hv8
      refine C_callV hc hz (As := [.int (0 : Int32)]) hkv8 (by decide) (c11_refuseFlatly l D y _ _ hv8) w3_16 w3_18 wp1_1 w1_1 w3_19 hdX_X11_refuseFlatly ⟨(Nat.le_of_ble_eq_true rfl), (Nat.le_of_ble_eq_true rfl)⟩ rfl rfl rfl (Nat.le_of_ble_eq_true rfl) dX11_end_17 ?_
      obtain ⟨v10, hv10, hf⟩ := mb hf
      obtain ⟨hbv10, rfl⟩ := bz_some hv10
      obtain ⟨rfl, rfl⟩ := si2 hf
      exact V_iret hc hzz (bz_nar hbv10) rfl rfl rfl rfl dX11_end_20
noncomputable def f11_noteFault (S : CS) (h : Nat) : Option (CS) :=
  (gr S 11 h 0).bind fun a1 =>
  (gi S 8 a1 2).bind fun v2 =>
  (pi S 11 h 11 v2).bind fun S3 =>
  (gr S3 11 h 0).bind fun a4 =>
  (gi S3 8 a4 2).bind fun v5 =>
  (
    if v5 = 0 then (
      some (-1 : Int32)
    ) else (
      (gr S3 11 h 0).bind fun a8 =>
      (gi S3 8 a8 3).bind fun v9 =>
      some v9
    )
  ).bind fun v6 =>
  (pi S3 11 h 12 v6).bind fun S10 =>
  some S10
theorem hdX_X11_noteFault : yX11_noteFault.cls = "FarEditors" ∧ yX11_noteFault.cls ≠ "java/lang/invoke/MethodHandle" ∧ yX11_noteFault.cls ≠ "java/lang/invoke/VarHandle" ∧ (parseMethodDescriptor yX11_noteFault.desc).map (fun d => d.parameters.length) = some 0 := by decide +kernel
set_option maxHeartbeats 4000000 in
set_option maxRecDepth 100000 in
theorem c11_noteFault (l : Launch) (D : va_G) (y : CyT) (zM uM : Nat) {S S' : CS} {h : Nat} (hf : f11_noteFault S h = some S') : CT l D y yX11_noteFault cX11_noteFault 1 none 0 0 zM uM [.ref h] (cZ S) (cU S) (cw y S) (cZ S') (cU S') (cw y S') none := by
  refine CT.of (by decide) (Nat.le_of_ble_eq_true rfl) (fun E hc hzz hnm => ?_)
  have hc : Cx E "FarEditors" cX11_noteFault 1 := hc
  have hz := hzz.1
  have hT := hz.2.2.1
  show V E (cZ S) (cU S) (cw y S) 0 [(0, .ref h)] []
  unfold f11_noteFault at hf
  refine V_aload_n hc dX11_noteFault_0 rfl 0 rfl ?_
  refine V_aload_n hc dX11_noteFault_1 rfl 0 rfl ?_
  obtain ⟨a1, ha1, hf⟩ := mb hf
  refine C_getr hc rfl iW11 (by decide) 0 (by decide) rfl ha1 w2_193 dX11_noteFault_2 ?_
  obtain ⟨v2, hv2, hf⟩ := mb hf
  refine C_geti hc rfl iW8 (by decide) 2 (by decide) rfl hv2 w1_40 dX11_noteFault_5 ?_
  obtain ⟨S3, hS3, hf⟩ := mb hf
  refine C_puti hc rfl iW11 tyX11 tyX11_ok nmX11 (by decide) 11 (by decide) rfl hS3 w2_204 rfl rfl rfl dX11_noteFault_8 ?_
  refine V_aload_n hc dX11_noteFault_11 rfl 0 rfl ?_
  refine V_aload_n hc dX11_noteFault_12 rfl 0 rfl ?_
  obtain ⟨a4, ha4, hf⟩ := mb hf
  refine C_getr hc rfl iW11 (by decide) 0 (by decide) rfl ha4 w2_193 dX11_noteFault_13 ?_
  obtain ⟨v5, hv5, hf⟩ := mb hf
  refine C_geti hc rfl iW8 (by decide) 2 (by decide) rfl hv5 w1_40 dX11_noteFault_16 ?_
  obtain ⟨v6, hv7, hf⟩ := mb hf
  have hJ19 : V E (cZ S3) (cU S3) (cw y S3) 33 [] [.int v6, .ref h] := by
    obtain ⟨S10, hS10, hf⟩ := mb hf
    refine C_puti hc rfl iW11 tyX11 tyX11_ok nmX11 (by decide) 12 (by decide) rfl hS10 w2_205 rfl rfl rfl dX11_noteFault_33 ?_
    obtain rfl := Option.some.inj hf
    exact V_vret hc hzz rfl rfl rfl rfl dX11_noteFault_36
  refine V_if_ne hc dX11_noteFault_19 rfl (fun hq19 => ?_) (fun hq19 => ?_)
  · rw [if_neg hq19] at hv7
    refine V_aload_n hc dX11_noteFault_26 rfl 0 rfl ?_
    obtain ⟨a8, ha8, hv7⟩ := mb hv7
    refine C_getr hc rfl iW11 (by decide) 0 (by decide) rfl ha8 w2_193 dX11_noteFault_27 ?_
    obtain ⟨v9, hv9, hv7⟩ := mb hv7
    refine C_geti hc rfl iW8 (by decide) 3 (by decide) rfl hv9 w1_42 dX11_noteFault_30 ?_
    obtain rfl := Option.some.inj hv7
    exact V_sub [] rfl hJ19
  · rw [if_pos hq19] at hv7
    refine V_iconst hc (v := (-1 : Int32)) dX11_noteFault_22 rfl ?_
    refine V_goto hc dX11_noteFault_23 rfl ?_
    obtain rfl := Option.some.inj hv7
    exact V_sub [] rfl hJ19
noncomputable def f11_beginAsTold (S : CS) (h : Nat) : Option (CS) :=
  (gr S 11 h 2).bind fun a1 =>
  (gr S 6 a1 0).bind fun a2 =>
  (gr S 11 h 0).bind fun a3 =>
  (gr S 8 a3 7).bind fun a4 =>
  (gr S 11 h 0).bind fun a5 =>
  (gi S 8 a5 6).bind fun v6 =>
  (cal S 7 a2 (f7_copyLetters S a2 a4 v6)).bind fun S7 =>
  (gr S7 11 h 3).bind fun a8 =>
  (gr S7 11 h 0).bind fun a9 =>
  (gi S7 8 a9 5).bind fun v10 =>
  (cal S7 10 a8 (f10_begin S7 a8 v10)).bind fun S11 =>
  (gr S11 11 h 5).bind fun a12 =>
  (cal S11 2 a12 (f2_begin S11 a12)).bind fun S13 =>
  (gr S13 11 h 6).bind fun a14 =>
  (pi S13 0 a14 8 (0 : Int32)).bind fun S15 =>
  some S15
theorem hdX_X11_beginAsTold : yX11_beginAsTold.cls = "FarEditors" ∧ yX11_beginAsTold.cls ≠ "java/lang/invoke/MethodHandle" ∧ yX11_beginAsTold.cls ≠ "java/lang/invoke/VarHandle" ∧ (parseMethodDescriptor yX11_beginAsTold.desc).map (fun d => d.parameters.length) = some 0 := by decide +kernel
set_option maxHeartbeats 4000000 in
set_option maxRecDepth 100000 in
theorem c11_beginAsTold (l : Launch) (D : va_G) (y : CyT) (zM uM : Nat) {S S' : CS} {h : Nat} (hf : f11_beginAsTold S h = some S') : CT l D y yX11_beginAsTold cX11_beginAsTold 1 none 4 90 zM uM [.ref h] (cZ S) (cU S) (cw y S) (cZ S') (cU S') (cw y S') none := by
  refine CT.of (by decide) (Nat.le_of_ble_eq_true rfl) (fun E hc hzz hnm => ?_)
  have hc : Cx E "FarEditors" cX11_beginAsTold 1 := hc
  have hz := hzz.1
  have hT := hz.2.2.1
  show V E (cZ S) (cU S) (cw y S) 0 [(0, .ref h)] []
  unfold f11_beginAsTold at hf
  refine V_aload_n hc dX11_beginAsTold_0 rfl 0 rfl ?_
  obtain ⟨a1, ha1, hf⟩ := mb hf
  refine C_getr hc rfl iW11 (by decide) 2 (by decide) rfl ha1 w2_195 dX11_beginAsTold_1 ?_
  obtain ⟨a2, ha2, hf⟩ := mb hf
  refine C_getr hc rfl iW6 (by decide) 0 (by decide) rfl ha2 w1_182 dX11_beginAsTold_4 ?_
  refine V_aload_n hc dX11_beginAsTold_7 rfl 0 rfl ?_
  obtain ⟨a3, ha3, hf⟩ := mb hf
  refine C_getr hc rfl iW11 (by decide) 0 (by decide) rfl ha3 w2_193 dX11_beginAsTold_8 ?_
  obtain ⟨a4, ha4, hf⟩ := mb hf
  refine C_getr hc rfl iW8 (by decide) 7 (by decide) rfl ha4 w1_50 dX11_beginAsTold_11 ?_
  refine V_aload_n hc dX11_beginAsTold_14 rfl 0 rfl ?_
  obtain ⟨a5, ha5, hf⟩ := mb hf
  refine C_getr hc rfl iW11 (by decide) 0 (by decide) rfl ha5 w2_193 dX11_beginAsTold_15 ?_
  obtain ⟨v6, hv6, hf⟩ := mb hf
  refine C_geti hc rfl iW8 (by decide) 6 (by decide) rfl hv6 w1_48 dX11_beginAsTold_18 ?_
  obtain ⟨S7, hS7, hf⟩ := mb hf
  obtain ⟨hkS7, hS7⟩ := og hS7
  refine C_callV hc hz (As := [.ref a4, .int v6]) hkS7 (by decide) (c7_copyLetters l D y _ _ hS7) w3_189 w3_190 w3_191 w1_7 w3_192 hdX_X7_copyLetters ⟨(Nat.le_of_ble_eq_true rfl), (Nat.le_of_ble_eq_true rfl)⟩ rfl rfl rfl (Nat.le_of_ble_eq_true rfl) dX11_beginAsTold_21 ?_
  refine V_aload_n hc dX11_beginAsTold_24 rfl 0 rfl ?_
  obtain ⟨a8, ha8, hf⟩ := mb hf
  refine C_getr hc rfl iW11 (by decide) 3 (by decide) rfl ha8 w2_196 dX11_beginAsTold_25 ?_
  refine V_aload_n hc dX11_beginAsTold_28 rfl 0 rfl ?_
  obtain ⟨a9, ha9, hf⟩ := mb hf
  refine C_getr hc rfl iW11 (by decide) 0 (by decide) rfl ha9 w2_193 dX11_beginAsTold_29 ?_
  obtain ⟨v10, hv10, hf⟩ := mb hf
  refine C_geti hc rfl iW8 (by decide) 5 (by decide) rfl hv10 w1_46 dX11_beginAsTold_32 ?_
  obtain ⟨S11, hS11, hf⟩ := mb hf
  obtain ⟨hkS11, hS11⟩ := og hS11
  refine C_callV hc hz (As := [.int v10]) hkS11 (by decide) (c10_begin l D y _ _ hS11) w3_199 w3_200 w3_201 w1_8 w3_202 hdX_X10_begin ⟨(Nat.le_of_ble_eq_true rfl), (Nat.le_of_ble_eq_true rfl)⟩ rfl rfl rfl (Nat.le_of_ble_eq_true rfl) dX11_beginAsTold_35 ?_
  refine V_aload_n hc dX11_beginAsTold_38 rfl 0 rfl ?_
  obtain ⟨a12, ha12, hf⟩ := mb hf
  refine C_getr hc rfl iW11 (by decide) 5 (by decide) rfl ha12 w2_198 dX11_beginAsTold_39 ?_
  obtain ⟨S13, hS13, hf⟩ := mb hf
  obtain ⟨hkS13, hS13⟩ := og hS13
  refine C_callV hc hz (As := []) hkS13 (by decide) (c2_begin l D y _ _ hS13) w3_213 w3_214 w3_215 w1_11 w3_216 hdX_X2_begin ⟨(Nat.le_of_ble_eq_true rfl), (Nat.le_of_ble_eq_true rfl)⟩ rfl rfl rfl (Nat.le_of_ble_eq_true rfl) dX11_beginAsTold_42 ?_
  refine V_aload_n hc dX11_beginAsTold_45 rfl 0 rfl ?_
  obtain ⟨a14, ha14, hf⟩ := mb hf
  refine C_getr hc rfl iW11 (by decide) 6 (by decide) rfl ha14 w2_199 dX11_beginAsTold_46 ?_
  refine V_iconst hc (v := (0 : Int32)) dX11_beginAsTold_49 rfl ?_
  obtain ⟨S15, hS15, hf⟩ := mb hf
  refine C_puti hc rfl iW0 tyX0 tyX0_ok nmX0 (by decide) 8 (by decide) rfl hS15 w2_165 rfl rfl rfl dX11_beginAsTold_50 ?_
  obtain rfl := Option.some.inj hf
  exact V_vret hc hzz rfl rfl rfl rfl dX11_beginAsTold_53
noncomputable def f11_settle (S : CS) (h : Nat) (p1 : Int32) : Option (CS) :=
  (gr S 11 h 0).bind fun a1 =>
  (cal S 8 a1 (f8_numberOf S a1 p1 (0 : Int32))).bind fun v2 =>
  (gr S 11 h 0).bind fun a3 =>
  (gr S 8 a3 9).bind fun a4 =>
  (ldi S a4 p1).bind fun v5 =>
  (
    if v5 = (2 : Int32) then (
      (gr S 11 h 3).bind fun a19 =>
      (pi S 10 a19 7 v2).bind fun S20 =>
      some S20
    ) else (
      (gr S 11 h 0).bind fun a8 =>
      (gr S 8 a8 9).bind fun a9 =>
      (ldi S a9 p1).bind fun v10 =>
      if v10 = (1 : Int32) then (
        (gr S 11 h 3).bind fun a11 =>
        (cal S 10 a11 (f10_knows S a11 v2)).bind fun v12 =>
        if v12 = 0 then (
          some S
        ) else (
          (gr S 11 h 3).bind fun a13 =>
          (gr S 10 a13 3).bind fun a14 =>
          (ldr S 16 a14 v2).bind fun a15 =>
          (gr S 11 h 0).bind fun a16 =>
          (cal S 8 a16 (f8_numberOf S a16 p1 (1 : Int32))).bind fun v17 =>
          (pi S 1 a15 10 v17).bind fun S18 =>
          some S18
        )
      ) else (
        some S
      )
    )
  ).bind fun S6 =>
  some S6
theorem hdX_X11_settle : yX11_settle.cls = "FarEditors" ∧ yX11_settle.cls ≠ "java/lang/invoke/MethodHandle" ∧ yX11_settle.cls ≠ "java/lang/invoke/VarHandle" ∧ (parseMethodDescriptor yX11_settle.desc).map (fun d => d.parameters.length) = some 1 := by decide +kernel
set_option maxHeartbeats 4000000 in
set_option maxRecDepth 100000 in
theorem c11_settle (l : Launch) (D : va_G) (y : CyT) (zM uM : Nat) {S S' : CS} {h : Nat} {p1 : Int32} (hf : f11_settle S h p1 = some S') : CT l D y yX11_settle cX11_settle 3 none 1 23 zM uM [.ref h, .int p1] (cZ S) (cU S) (cw y S) (cZ S') (cU S') (cw y S') none := by
  refine CT.of (by decide) (Nat.le_of_ble_eq_true rfl) (fun E hc hzz hnm => ?_)
  have hc : Cx E "FarEditors" cX11_settle 3 := hc
  have hz := hzz.1
  have hT := hz.2.2.1
  show V E (cZ S) (cU S) (cw y S) 0 [(0, .ref h), (1, .int p1)] []
  unfold f11_settle at hf
  refine V_aload_n hc dX11_settle_0 rfl 0 rfl ?_
  obtain ⟨a1, ha1, hf⟩ := mb hf
  refine C_getr hc rfl iW11 (by decide) 0 (by decide) rfl ha1 w2_193 dX11_settle_1 ?_
  refine V_iload_n hc dX11_settle_4 rfl 1 rfl ?_
  refine V_iconst hc (v := (0 : Int32)) dX11_settle_5 rfl ?_
  obtain ⟨v2, hv2, hf⟩ := mb hf
  obtain ⟨hkv2, hv2⟩ := og hv2
  refine C_callV hc hz (As := [.int p1, .int (0 : Int32)]) hkv2 (by decide) (c8_numberOf l D y _ _ hv2) w3_221 w3_154 w3_155 w1_2 w3_156 hdX_X8_numberOf ⟨(Nat.le_of_ble_eq_true rfl), (Nat.le_of_ble_eq_true rfl)⟩ rfl rfl rfl (Nat.le_of_ble_eq_true rfl) dX11_settle_6 ?_
  refine V_istore_n hc dX11_settle_9 rfl (by decide) rfl ?_
  refine V_aload_n hc dX11_settle_10 rfl 1 rfl ?_
  obtain ⟨a3, ha3, hf⟩ := mb hf
  refine C_getr hc rfl iW11 (by decide) 0 (by decide) rfl ha3 w2_193 dX11_settle_11 ?_
  obtain ⟨a4, ha4, hf⟩ := mb hf
  refine C_getr hc rfl iW8 (by decide) 9 (by decide) rfl ha4 w1_54 dX11_settle_14 ?_
  refine V_iload_n hc dX11_settle_17 rfl 2 rfl ?_
  obtain ⟨v5, hv5, hf⟩ := mb hf
  refine C_iald hc hT hv5 dX11_settle_18 ?_
  refine V_iconst hc (v := (2 : Int32)) dX11_settle_19 rfl ?_
  obtain ⟨S6, hv7, hf⟩ := mb hf
  have hJ20 : V E (cZ S6) (cU S6) (cw y S6) 79 [] [] := by
    obtain rfl := Option.some.inj hf
    exact V_vret hc hzz rfl rfl rfl rfl dX11_settle_79
  refine V_icmp_ne hc dX11_settle_20 rfl (fun hq20 => ?_) (fun hq20 => ?_)
  · rw [if_neg hq20] at hv7
    refine V_aload_n hc dX11_settle_34 rfl 1 rfl ?_
    obtain ⟨a8, ha8, hv7⟩ := mb hv7
    refine C_getr hc rfl iW11 (by decide) 0 (by decide) rfl ha8 w2_193 dX11_settle_35 ?_
    obtain ⟨a9, ha9, hv7⟩ := mb hv7
    refine C_getr hc rfl iW8 (by decide) 9 (by decide) rfl ha9 w1_54 dX11_settle_38 ?_
    refine V_iload_n hc dX11_settle_41 rfl 2 rfl ?_
    obtain ⟨v10, hv10, hv7⟩ := mb hv7
    refine C_iald hc hT hv10 dX11_settle_42 ?_
    refine V_iconst hc (v := (1 : Int32)) dX11_settle_43 rfl ?_
    refine V_icmp_ne hc dX11_settle_44 rfl (fun hq44 => ?_) (fun hq44 => ?_)
    · rw [if_neg hq44] at hv7
      obtain rfl := Option.some.inj hv7
      exact V_sub [] rfl hJ20
    · rw [if_pos hq44] at hv7
      refine V_aload_n hc dX11_settle_47 rfl 1 rfl ?_
      obtain ⟨a11, ha11, hv7⟩ := mb hv7
      refine C_getr hc rfl iW11 (by decide) 3 (by decide) rfl ha11 w2_196 dX11_settle_48 ?_
      refine V_iload_n hc dX11_settle_51 rfl 0 rfl ?_
      obtain ⟨v12, hv12, hv7⟩ := mb hv7
      obtain ⟨hkv12, hv12⟩ := og hv12
      refine C_callV hc hz (As := [.int v2]) hkv12 (by decide) (c10_knows l D y _ _ hv12) w3_222 w3_223 w3_224 w1_8 w3_225 hdX_X10_knows ⟨(Nat.le_of_ble_eq_true rfl), (Nat.le_of_ble_eq_true rfl)⟩ rfl rfl rfl (Nat.le_of_ble_eq_true rfl) dX11_settle_52 ?_
      refine V_if_eq hc dX11_settle_55 rfl (fun hq55 => ?_) (fun hq55 => ?_)
      · rw [if_pos hq55] at hv7
        obtain rfl := Option.some.inj hv7
        exact V_sub [] rfl hJ20
      · rw [if_neg hq55] at hv7
        refine V_aload_n hc dX11_settle_58 rfl 1 rfl ?_
        obtain ⟨a13, ha13, hv7⟩ := mb hv7
        refine C_getr hc rfl iW11 (by decide) 3 (by decide) rfl ha13 w2_196 dX11_settle_59 ?_
        obtain ⟨a14, ha14, hv7⟩ := mb hv7
        refine C_getr hc rfl iW10 (by decide) 3 (by decide) rfl ha14 w2_80 dX11_settle_62 ?_
        refine V_iload_n hc dX11_settle_65 rfl 0 rfl ?_
        obtain ⟨a15, ha15, hv7⟩ := mb hv7
        refine C_aald hc hT (by decide) (by decide) ha15 dX11_settle_66 ?_
        refine V_aload_n hc dX11_settle_67 rfl 1 rfl ?_
        obtain ⟨a16, ha16, hv7⟩ := mb hv7
        refine C_getr hc rfl iW11 (by decide) 0 (by decide) rfl ha16 w2_193 dX11_settle_68 ?_
        refine V_iload_n hc dX11_settle_71 rfl 2 rfl ?_
        refine V_iconst hc (v := (1 : Int32)) dX11_settle_72 rfl ?_
        obtain ⟨v17, hv17, hv7⟩ := mb hv7
        obtain ⟨hkv17, hv17⟩ := og hv17
        refine C_callV hc hz (As := [.int p1, .int (1 : Int32)]) hkv17 (by decide) (c8_numberOf l D y _ _ hv17) w3_221 w3_154 w3_155 w1_2 w3_156 hdX_X8_numberOf ⟨(Nat.le_of_ble_eq_true rfl), (Nat.le_of_ble_eq_true rfl)⟩ rfl rfl rfl (Nat.le_of_ble_eq_true rfl) dX11_settle_73 ?_
        obtain ⟨S18, hS18, hv7⟩ := mb hv7
        refine C_puti hc rfl iW1 tyX1 tyX1_ok nmX1 (by decide) 10 (by decide) rfl hS18 w2_25 rfl rfl rfl dX11_settle_76 ?_
        obtain rfl := Option.some.inj hv7
        exact V_sub [] rfl hJ20
  · rw [if_pos hq20] at hv7
    refine V_aload_n hc dX11_settle_23 rfl 1 rfl ?_
    obtain ⟨a19, ha19, hv7⟩ := mb hv7
    refine C_getr hc rfl iW11 (by decide) 3 (by decide) rfl ha19 w2_196 dX11_settle_24 ?_
    refine V_iload_n hc dX11_settle_27 rfl 0 rfl ?_
    obtain ⟨S20, hS20, hv7⟩ := mb hv7
    refine C_puti hc rfl iW10 tyX10 tyX10_ok nmX10 (by decide) 7 (by decide) rfl hS20 w2_88 rfl rfl rfl dX11_settle_28 ?_
    refine V_goto hc dX11_settle_31 rfl ?_
    obtain rfl := Option.some.inj hv7
    exact V_sub [] rfl hJ20
noncomputable def f11_performFor (X : Nat × Nat) (S : CS) (h : Nat) (p1 : Int32) (p2 : Int32) : Option (CS) :=
  (gr S 11 h 3).bind fun a1 =>
  (gr S 10 a1 3).bind fun a2 =>
  (ldr S 16 a2 p1).bind fun a3 =>
  (gr S 11 h 0).bind fun a4 =>
  (cal S 8 a4 (f8_numberOf S a4 p2 (1 : Int32))).bind fun v5 =>
  (gr S 11 h 0).bind fun a6 =>
  (cal S 8 a6 (f8_numberOf S a6 p2 (2 : Int32))).bind fun v7 =>
  (gr S 11 h 0).bind fun a8 =>
  (cal S 8 a8 (f8_numberOf S a8 p2 (3 : Int32))).bind fun v9 =>
  (gr S 11 h 0).bind fun a10 =>
  (gr S 8 a10 9).bind fun a11 =>
  (ldi S a11 p2).bind fun v12 =>
  if v12 = (3 : Int32) then (
    (gr S 11 h 7).bind fun a13 =>
    (gr S 11 h 0).bind fun a14 =>
    (gr S 8 a14 7).bind fun a15 =>
    (gr S 1 a3 0).bind fun a16 =>
    (gi S 7 a16 1).bind fun v17 =>
    bn2 (cal S 4 a13 (f4_build X S a13 a15 v5 v7 v17)) fun v18 S19 =>
    (
      if v18 = 0 then (
        some S19
      ) else (
        (gr S19 11 h 3).bind fun a22 =>
        (gr S19 11 h 7).bind fun a23 =>
        (cal S19 10 a22 (f10_canEdit S19 a22 a23)).bind fun v24 =>
        if v24 = 0 then (
          some S19
        ) else (
          (gr S19 11 h 3).bind fun a25 =>
          (gr S19 11 h 7).bind fun a26 =>
          (cal S19 10 a25 (f10_editPlainly X S19 a25 a3 a26)).bind fun S27 =>
          some S27
        )
      )
    ).bind fun S20 =>
    some S20
  ) else (
    if v12 = (4 : Int32) then (
      (gr S 11 h 3).bind fun a28 =>
      (cal S 10 a28 (f10_canPlace S a28 p1 v5)).bind fun v29 =>
      (
        if v29 = 0 then (
          some S
        ) else (
          (pi S 1 a3 9 v5).bind fun S32 =>
          some S32
        )
      ).bind fun S30 =>
      some S30
    ) else (
      if v12 = (5 : Int32) then (
        (gr S 11 h 3).bind fun a33 =>
        (cal S 10 a33 (f10_canMark S a33 p1 v5 v7 v9)).bind fun v34 =>
        (
          if v34 = 0 then (
            some S
          ) else (
            bn2 (cal S 1 a3 (f1_addMark S a3 v5 v7 v9)) fun v37 S38 =>
            some S38
          )
        ).bind fun S35 =>
        some S35
      ) else (
        if v12 = (6 : Int32) then (
          (gr S 11 h 0).bind fun a39 =>
          (gr S 8 a39 9).bind fun a40 =>
          (ldi S a40 p2).bind fun v41 =>
          (
            if v41 = (7 : Int32) then (
              some (1 : Int32)
            ) else (
              some (0 : Int32)
            )
          ).bind fun v42 =>
          (bz v42).bind fun v44 =>
          (pi S 1 a3 14 v42).bind fun S45 =>
          some S45
        ) else (
          if v12 = (7 : Int32) then (
            (gr S 11 h 0).bind fun a46 =>
            (gr S 8 a46 9).bind fun a47 =>
            (ldi S a47 p2).bind fun v48 =>
            (
              if v48 = (7 : Int32) then (
                some (1 : Int32)
              ) else (
                some (0 : Int32)
              )
            ).bind fun v49 =>
            (bz v49).bind fun v51 =>
            (pi S 1 a3 14 v49).bind fun S52 =>
            some S52
          ) else (
            some S
          )
        )
      )
    )
  )
theorem hdX_X11_performFor : yX11_performFor.cls = "FarEditors" ∧ yX11_performFor.cls ≠ "java/lang/invoke/MethodHandle" ∧ yX11_performFor.cls ≠ "java/lang/invoke/VarHandle" ∧ (parseMethodDescriptor yX11_performFor.desc).map (fun d => d.parameters.length) = some 2 := by decide +kernel
set_option maxHeartbeats 4000000 in
set_option maxRecDepth 100000 in
theorem c11_performFor (l : Launch) (D : va_G) (y : CyT) (X : Nat × Nat) (hX : X.2 ≤ 100000000) {S S' : CS} {h : Nat} {p1 : Int32} {p2 : Int32} (hf : f11_performFor X S h p1 p2 = some S') : CT l D y yX11_performFor cX11_performFor 7 none 5 115 X.1 X.2 [.ref h, .int p1, .int p2] (cZ S) (cU S) (cw y S) (cZ S') (cU S') (cw y S') none := by
  refine CT.of (by decide) (Nat.le_of_ble_eq_true rfl) (fun E hc hzz hnm => ?_)
  have hc : Cx E "FarEditors" cX11_performFor 7 := hc
  have hz := hzz.1
  have hT := hz.2.2.1
  show V E (cZ S) (cU S) (cw y S) 0 [(0, .ref h), (1, .int p1), (2, .int p2)] []
  unfold f11_performFor at hf
  refine V_aload_n hc dX11_performFor_0 rfl 0 rfl ?_
  obtain ⟨a1, ha1, hf⟩ := mb hf
  refine C_getr hc rfl iW11 (by decide) 3 (by decide) rfl ha1 w2_196 dX11_performFor_1 ?_
  obtain ⟨a2, ha2, hf⟩ := mb hf
  refine C_getr hc rfl iW10 (by decide) 3 (by decide) rfl ha2 w2_80 dX11_performFor_4 ?_
  refine V_iload_n hc dX11_performFor_7 rfl 1 rfl ?_
  obtain ⟨a3, ha3, hf⟩ := mb hf
  refine C_aald hc hT (by decide) (by decide) ha3 dX11_performFor_8 ?_
  refine V_astore_n hc dX11_performFor_9 rfl (by decide) rfl ?_
  refine V_aload_n hc dX11_performFor_10 rfl 1 rfl ?_
  obtain ⟨a4, ha4, hf⟩ := mb hf
  refine C_getr hc rfl iW11 (by decide) 0 (by decide) rfl ha4 w2_193 dX11_performFor_11 ?_
  refine V_iload_n hc dX11_performFor_14 rfl 3 rfl ?_
  refine V_iconst hc (v := (1 : Int32)) dX11_performFor_15 rfl ?_
  obtain ⟨v5, hv5, hf⟩ := mb hf
  obtain ⟨hkv5, hv5⟩ := og hv5
  refine C_callV hc hz (As := [.int p2, .int (1 : Int32)]) hkv5 (by decide) (c8_numberOf l D y _ _ hv5) w3_221 w3_154 w3_155 w1_2 w3_156 hdX_X8_numberOf ⟨(Nat.le_of_ble_eq_true rfl), (Nat.le_of_ble_eq_true rfl)⟩ rfl rfl rfl (Nat.le_of_ble_eq_true rfl) dX11_performFor_16 ?_
  refine V_istore hc dX11_performFor_19 (by decide) rfl ?_
  refine V_aload_n hc dX11_performFor_21 rfl 2 rfl ?_
  obtain ⟨a6, ha6, hf⟩ := mb hf
  refine C_getr hc rfl iW11 (by decide) 0 (by decide) rfl ha6 w2_193 dX11_performFor_22 ?_
  refine V_iload_n hc dX11_performFor_25 rfl 4 rfl ?_
  refine V_iconst hc (v := (2 : Int32)) dX11_performFor_26 rfl ?_
  obtain ⟨v7, hv7, hf⟩ := mb hf
  obtain ⟨hkv7, hv7⟩ := og hv7
  refine C_callV hc hz (As := [.int p2, .int (2 : Int32)]) hkv7 (by decide) (c8_numberOf l D y _ _ hv7) w3_221 w3_154 w3_155 w1_2 w3_156 hdX_X8_numberOf ⟨(Nat.le_of_ble_eq_true rfl), (Nat.le_of_ble_eq_true rfl)⟩ rfl rfl rfl (Nat.le_of_ble_eq_true rfl) dX11_performFor_27 ?_
  refine V_istore hc dX11_performFor_30 (by decide) rfl ?_
  refine V_aload_n hc dX11_performFor_32 rfl 3 rfl ?_
  obtain ⟨a8, ha8, hf⟩ := mb hf
  refine C_getr hc rfl iW11 (by decide) 0 (by decide) rfl ha8 w2_193 dX11_performFor_33 ?_
  refine V_iload_n hc dX11_performFor_36 rfl 5 rfl ?_
  refine V_iconst hc (v := (3 : Int32)) dX11_performFor_37 rfl ?_
  obtain ⟨v9, hv9, hf⟩ := mb hf
  obtain ⟨hkv9, hv9⟩ := og hv9
  refine C_callV hc hz (As := [.int p2, .int (3 : Int32)]) hkv9 (by decide) (c8_numberOf l D y _ _ hv9) w3_221 w3_154 w3_155 w1_2 w3_156 hdX_X8_numberOf ⟨(Nat.le_of_ble_eq_true rfl), (Nat.le_of_ble_eq_true rfl)⟩ rfl rfl rfl (Nat.le_of_ble_eq_true rfl) dX11_performFor_38 ?_
  refine V_istore hc dX11_performFor_41 (by decide) rfl ?_
  refine V_aload_n hc dX11_performFor_43 rfl 4 rfl ?_
  obtain ⟨a10, ha10, hf⟩ := mb hf
  refine C_getr hc rfl iW11 (by decide) 0 (by decide) rfl ha10 w2_193 dX11_performFor_44 ?_
  obtain ⟨a11, ha11, hf⟩ := mb hf
  refine C_getr hc rfl iW8 (by decide) 9 (by decide) rfl ha11 w1_54 dX11_performFor_47 ?_
  refine V_iload_n hc dX11_performFor_50 rfl 6 rfl ?_
  obtain ⟨v12, hv12, hf⟩ := mb hf
  refine C_iald hc hT hv12 dX11_performFor_51 ?_
  by_cases hs52_3 : v12 = (3 : Int32)
  · rw [if_pos hs52_3] at hf
    refine V_tableIn hc dX11_performFor_52 (by rw [hs52_3]; decide) (by rw [hs52_3]; decide) (off := 36) (by rw [hs52_3]; rfl) rfl ?_
    refine V_aload_n hc dX11_performFor_88 rfl 4 rfl ?_
    obtain ⟨a13, ha13, hf⟩ := mb hf
    refine C_getr hc rfl iW11 (by decide) 7 (by decide) rfl ha13 w2_200 dX11_performFor_89 ?_
    refine V_aload_n hc dX11_performFor_92 rfl 4 rfl ?_
    obtain ⟨a14, ha14, hf⟩ := mb hf
    refine C_getr hc rfl iW11 (by decide) 0 (by decide) rfl ha14 w2_193 dX11_performFor_93 ?_
    obtain ⟨a15, ha15, hf⟩ := mb hf
    refine C_getr hc rfl iW8 (by decide) 7 (by decide) rfl ha15 w1_50 dX11_performFor_96 ?_
    refine V_iload hc dX11_performFor_99 2 rfl ?_
    refine V_iload hc dX11_performFor_101 1 rfl ?_
    refine V_aload_n hc dX11_performFor_103 rfl 3 rfl ?_
    obtain ⟨a16, ha16, hf⟩ := mb hf
    refine C_getr hc rfl iW1 (by decide) 0 (by decide) rfl ha16 w1_238 dX11_performFor_104 ?_
    obtain ⟨v17, hv17, hf⟩ := mb hf
    refine C_geti hc rfl iW7 (by decide) 1 (by decide) rfl hv17 w1_170 dX11_performFor_107 ?_
    obtain ⟨v18, S19, hv18, hf⟩ := mb2 hf
    obtain ⟨hkv18, hv18⟩ := og hv18
    refine C_callV hc hz (As := [.ref a15, .int v5, .int v7, .int v17]) hkv18 (by decide) (c4_build l D y X hX hv18) w4_122 w4_123 w4_124 w1_5 w4_125 hdX_X4_build ⟨(Nat.le_of_ble_eq_true rfl), (Nat.le_of_ble_eq_true rfl)⟩ rfl rfl rfl (Nat.le_of_ble_eq_true rfl) dX11_performFor_110 ?_
    obtain ⟨S20, hv21, hf⟩ := mb hf
    have hJ113 : V E (cZ S20) (cU S20) (cw y S20) 224 [] [] := by
      obtain rfl := Option.some.inj hf
      exact V_vret hc hzz rfl rfl rfl rfl dX11_performFor_224
    refine V_if_eq hc dX11_performFor_113 rfl (fun hq113 => ?_) (fun hq113 => ?_)
    · rw [if_pos hq113] at hv21
      obtain rfl := Option.some.inj hv21
      exact V_sub [] rfl hJ113
    · rw [if_neg hq113] at hv21
      refine V_aload_n hc dX11_performFor_116 rfl 4 rfl ?_
      obtain ⟨a22, ha22, hv21⟩ := mb hv21
      refine C_getr hc rfl iW11 (by decide) 3 (by decide) rfl ha22 w2_196 dX11_performFor_117 ?_
      refine V_aload_n hc dX11_performFor_120 rfl 4 rfl ?_
      obtain ⟨a23, ha23, hv21⟩ := mb hv21
      refine C_getr hc rfl iW11 (by decide) 7 (by decide) rfl ha23 w2_200 dX11_performFor_121 ?_
      obtain ⟨v24, hv24, hv21⟩ := mb hv21
      obtain ⟨hkv24, hv24⟩ := og hv24
      refine C_callV hc hz (As := [.ref a23]) hkv24 (by decide) (c10_canEdit l D y _ _ hv24) w4_130 w4_131 w4_132 w1_8 w4_133 hdX_X10_canEdit ⟨(Nat.le_of_ble_eq_true rfl), (Nat.le_of_ble_eq_true rfl)⟩ rfl rfl rfl (Nat.le_of_ble_eq_true rfl) dX11_performFor_124 ?_
      refine V_if_eq hc dX11_performFor_127 rfl (fun hq127 => ?_) (fun hq127 => ?_)
      · rw [if_pos hq127] at hv21
        obtain rfl := Option.some.inj hv21
        exact V_sub [] rfl hJ113
      · rw [if_neg hq127] at hv21
        refine V_aload_n hc dX11_performFor_130 rfl 4 rfl ?_
        obtain ⟨a25, ha25, hv21⟩ := mb hv21
        refine C_getr hc rfl iW11 (by decide) 3 (by decide) rfl ha25 w2_196 dX11_performFor_131 ?_
        refine V_aload_n hc dX11_performFor_134 rfl 3 rfl ?_
        refine V_aload_n hc dX11_performFor_135 rfl 4 rfl ?_
        obtain ⟨a26, ha26, hv21⟩ := mb hv21
        refine C_getr hc rfl iW11 (by decide) 7 (by decide) rfl ha26 w2_200 dX11_performFor_136 ?_
        obtain ⟨S27, hS27, hv21⟩ := mb hv21
        obtain ⟨hkS27, hS27⟩ := og hS27
        refine C_callV hc hz (As := [.ref a3, .ref a26]) hkS27 (by decide) (c10_editPlainly l D y X hX hS27) w4_142 w4_143 w4_144 w1_8 w4_145 hdX_X10_editPlainly ⟨(Nat.le_of_ble_eq_true rfl), (Nat.le_of_ble_eq_true rfl)⟩ rfl rfl rfl (Nat.le_of_ble_eq_true rfl) dX11_performFor_139 ?_
        refine V_goto hc dX11_performFor_142 rfl ?_
        obtain rfl := Option.some.inj hv21
        exact V_sub [] rfl hJ113
  rw [if_neg hs52_3] at hf
  by_cases hs52_4 : v12 = (4 : Int32)
  · rw [if_pos hs52_4] at hf
    refine V_tableIn hc dX11_performFor_52 (by rw [hs52_4]; decide) (by rw [hs52_4]; decide) (off := 93) (by rw [hs52_4]; rfl) rfl ?_
    refine V_aload_n hc dX11_performFor_145 rfl 4 rfl ?_
    obtain ⟨a28, ha28, hf⟩ := mb hf
    refine C_getr hc rfl iW11 (by decide) 3 (by decide) rfl ha28 w2_196 dX11_performFor_146 ?_
    refine V_iload_n hc dX11_performFor_149 rfl 5 rfl ?_
    refine V_iload hc dX11_performFor_150 2 rfl ?_
    obtain ⟨v29, hv29, hf⟩ := mb hf
    obtain ⟨hkv29, hv29⟩ := og hv29
    refine C_callV hc hz (As := [.int p1, .int v5]) hkv29 (by decide) (c10_canPlace l D y _ _ hv29) w4_172 w4_173 w4_174 w1_8 w4_175 hdX_X10_canPlace ⟨(Nat.le_of_ble_eq_true rfl), (Nat.le_of_ble_eq_true rfl)⟩ rfl rfl rfl (Nat.le_of_ble_eq_true rfl) dX11_performFor_152 ?_
    obtain ⟨S30, hv31, hf⟩ := mb hf
    have hJ155 : V E (cZ S30) (cU S30) (cw y S30) 224 [] [] := by
      obtain rfl := Option.some.inj hf
      exact V_vret hc hzz rfl rfl rfl rfl dX11_performFor_224
    refine V_if_eq hc dX11_performFor_155 rfl (fun hq155 => ?_) (fun hq155 => ?_)
    · rw [if_pos hq155] at hv31
      obtain rfl := Option.some.inj hv31
      exact V_sub [] rfl hJ155
    · rw [if_neg hq155] at hv31
      refine V_aload_n hc dX11_performFor_158 rfl 3 rfl ?_
      refine V_iload hc dX11_performFor_159 2 rfl ?_
      obtain ⟨S32, hS32, hv31⟩ := mb hv31
      refine C_puti hc rfl iW1 tyX1 tyX1_ok nmX1 (by decide) 9 (by decide) rfl hS32 w2_23 rfl rfl rfl dX11_performFor_161 ?_
      refine V_goto hc dX11_performFor_164 rfl ?_
      obtain rfl := Option.some.inj hv31
      exact V_sub [] rfl hJ155
  rw [if_neg hs52_4] at hf
  by_cases hs52_5 : v12 = (5 : Int32)
  · rw [if_pos hs52_5] at hf
    refine V_tableIn hc dX11_performFor_52 (by rw [hs52_5]; decide) (by rw [hs52_5]; decide) (off := 115) (by rw [hs52_5]; rfl) rfl ?_
    refine V_aload_n hc dX11_performFor_167 rfl 4 rfl ?_
    obtain ⟨a33, ha33, hf⟩ := mb hf
    refine C_getr hc rfl iW11 (by decide) 3 (by decide) rfl ha33 w2_196 dX11_performFor_168 ?_
    refine V_iload_n hc dX11_performFor_171 rfl 5 rfl ?_
    refine V_iload hc dX11_performFor_172 2 rfl ?_
    refine V_iload hc dX11_performFor_174 1 rfl ?_
    refine V_iload hc dX11_performFor_176 0 rfl ?_
    obtain ⟨v34, hv34, hf⟩ := mb hf
    obtain ⟨hkv34, hv34⟩ := og hv34
    refine C_callV hc hz (As := [.int p1, .int v5, .int v7, .int v9]) hkv34 (by decide) (c10_canMark l D y _ _ hv34) w4_176 w4_177 w4_178 w1_8 w4_179 hdX_X10_canMark ⟨(Nat.le_of_ble_eq_true rfl), (Nat.le_of_ble_eq_true rfl)⟩ rfl rfl rfl (Nat.le_of_ble_eq_true rfl) dX11_performFor_178 ?_
    obtain ⟨S35, hv36, hf⟩ := mb hf
    have hJ181 : V E (cZ S35) (cU S35) (cw y S35) 224 [] [] := by
      obtain rfl := Option.some.inj hf
      exact V_vret hc hzz rfl rfl rfl rfl dX11_performFor_224
    refine V_if_eq hc dX11_performFor_181 rfl (fun hq181 => ?_) (fun hq181 => ?_)
    · rw [if_pos hq181] at hv36
      obtain rfl := Option.some.inj hv36
      exact V_sub [] rfl hJ181
    · rw [if_neg hq181] at hv36
      refine V_aload_n hc dX11_performFor_184 rfl 3 rfl ?_
      refine V_iload hc dX11_performFor_185 2 rfl ?_
      refine V_iload hc dX11_performFor_187 1 rfl ?_
      refine V_iload hc dX11_performFor_189 0 rfl ?_
      obtain ⟨v37, S38, hv37, hv36⟩ := mb2 hv36
      obtain ⟨hkv37, hv37⟩ := og hv37
      refine C_callV hc hz (As := [.int v5, .int v7, .int v9]) hkv37 (by decide) (c1_addMark l D y _ _ hv37) w4_181 w4_182 w4_183 w1_9 w4_184 hdX_X1_addMark ⟨(Nat.le_of_ble_eq_true rfl), (Nat.le_of_ble_eq_true rfl)⟩ rfl rfl rfl (Nat.le_of_ble_eq_true rfl) dX11_performFor_191 ?_
      refine V_pop hc dX11_performFor_194 rfl ?_
      refine V_goto hc dX11_performFor_195 rfl ?_
      obtain rfl := Option.some.inj hv36
      exact V_sub [] rfl hJ181
  rw [if_neg hs52_5] at hf
  by_cases hs52_6 : v12 = (6 : Int32)
  · rw [if_pos hs52_6] at hf
    refine V_tableIn hc dX11_performFor_52 (by rw [hs52_6]; decide) (by rw [hs52_6]; decide) (off := 146) (by rw [hs52_6]; rfl) rfl ?_
    refine V_aload_n hc dX11_performFor_198 rfl 3 rfl ?_
    refine V_aload_n hc dX11_performFor_199 rfl 4 rfl ?_
    obtain ⟨a39, ha39, hf⟩ := mb hf
    refine C_getr hc rfl iW11 (by decide) 0 (by decide) rfl ha39 w2_193 dX11_performFor_200 ?_
    obtain ⟨a40, ha40, hf⟩ := mb hf
    refine C_getr hc rfl iW8 (by decide) 9 (by decide) rfl ha40 w1_54 dX11_performFor_203 ?_
    refine V_iload_n hc dX11_performFor_206 rfl 6 rfl ?_
    obtain ⟨v41, hv41, hf⟩ := mb hf
    refine C_iald hc hT hv41 dX11_performFor_207 ?_
    refine V_bipush hc (v := (7 : Int32)) dX11_performFor_208 rfl ?_
    obtain ⟨v42, hv43, hf⟩ := mb hf
    have hJ210 : V E (cZ S) (cU S) (cw y S) 218 [] [.int v42, .ref a3] := by
      obtain ⟨v44, hv44, hf⟩ := mb hf
      obtain ⟨hbv44, hev44⟩ := bz_some hv44
      subst hev44
      obtain ⟨S45, hS45, hf⟩ := mb hf
      refine C_puti hc rfl iW1 tyX1 tyX1_ok nmX1 (by decide) 14 (by decide) rfl hS45 w2_38 rfl (bz_nar hbv44) (bz_fits hbv44) dX11_performFor_218 ?_
      refine V_goto hc dX11_performFor_221 rfl ?_
      obtain rfl := Option.some.inj hf
      exact V_vret hc hzz rfl rfl rfl rfl dX11_performFor_224
    refine V_icmp_ne hc dX11_performFor_210 rfl (fun hq210 => ?_) (fun hq210 => ?_)
    · rw [if_neg hq210] at hv43
      refine V_iconst hc (v := (0 : Int32)) dX11_performFor_217 rfl ?_
      obtain rfl := Option.some.inj hv43
      exact V_sub [] rfl hJ210
    · rw [if_pos hq210] at hv43
      refine V_iconst hc (v := (1 : Int32)) dX11_performFor_213 rfl ?_
      refine V_goto hc dX11_performFor_214 rfl ?_
      obtain rfl := Option.some.inj hv43
      exact V_sub [] rfl hJ210
  rw [if_neg hs52_6] at hf
  by_cases hs52_7 : v12 = (7 : Int32)
  · rw [if_pos hs52_7] at hf
    refine V_tableIn hc dX11_performFor_52 (by rw [hs52_7]; decide) (by rw [hs52_7]; decide) (off := 146) (by rw [hs52_7]; rfl) rfl ?_
    refine V_aload_n hc dX11_performFor_198 rfl 3 rfl ?_
    refine V_aload_n hc dX11_performFor_199 rfl 4 rfl ?_
    obtain ⟨a46, ha46, hf⟩ := mb hf
    refine C_getr hc rfl iW11 (by decide) 0 (by decide) rfl ha46 w2_193 dX11_performFor_200 ?_
    obtain ⟨a47, ha47, hf⟩ := mb hf
    refine C_getr hc rfl iW8 (by decide) 9 (by decide) rfl ha47 w1_54 dX11_performFor_203 ?_
    refine V_iload_n hc dX11_performFor_206 rfl 6 rfl ?_
    obtain ⟨v48, hv48, hf⟩ := mb hf
    refine C_iald hc hT hv48 dX11_performFor_207 ?_
    refine V_bipush hc (v := (7 : Int32)) dX11_performFor_208 rfl ?_
    obtain ⟨v49, hv50, hf⟩ := mb hf
    have hJ210 : V E (cZ S) (cU S) (cw y S) 218 [] [.int v49, .ref a3] := by
      obtain ⟨v51, hv51, hf⟩ := mb hf
      obtain ⟨hbv51, hev51⟩ := bz_some hv51
      subst hev51
      obtain ⟨S52, hS52, hf⟩ := mb hf
      refine C_puti hc rfl iW1 tyX1 tyX1_ok nmX1 (by decide) 14 (by decide) rfl hS52 w2_38 rfl (bz_nar hbv51) (bz_fits hbv51) dX11_performFor_218 ?_
      refine V_goto hc dX11_performFor_221 rfl ?_
      obtain rfl := Option.some.inj hf
      exact V_vret hc hzz rfl rfl rfl rfl dX11_performFor_224
    refine V_icmp_ne hc dX11_performFor_210 rfl (fun hq210 => ?_) (fun hq210 => ?_)
    · rw [if_neg hq210] at hv50
      refine V_iconst hc (v := (0 : Int32)) dX11_performFor_217 rfl ?_
      obtain rfl := Option.some.inj hv50
      exact V_sub [] rfl hJ210
    · rw [if_pos hq210] at hv50
      refine V_iconst hc (v := (1 : Int32)) dX11_performFor_213 rfl ?_
      refine V_goto hc dX11_performFor_214 rfl ?_
      obtain rfl := Option.some.inj hv50
      exact V_sub [] rfl hJ210
  rw [if_neg hs52_7] at hf
  have hto : v12.toInt < 3 ∨ 7 < v12.toInt := by
    have ht3 : ¬ v12.toInt = 3 := fun hh => hs52_3 (Int32.toInt_inj.mp (hh.trans rfl))
    have ht4 : ¬ v12.toInt = 4 := fun hh => hs52_4 (Int32.toInt_inj.mp (hh.trans rfl))
    have ht5 : ¬ v12.toInt = 5 := fun hh => hs52_5 (Int32.toInt_inj.mp (hh.trans rfl))
    have ht6 : ¬ v12.toInt = 6 := fun hh => hs52_6 (Int32.toInt_inj.mp (hh.trans rfl))
    have ht7 : ¬ v12.toInt = 7 := fun hh => hs52_7 (Int32.toInt_inj.mp (hh.trans rfl))
    omega
  refine V_tableOut hc dX11_performFor_52 hto rfl ?_
  obtain rfl := Option.some.inj hf
  exact V_vret hc hzz rfl rfl rfl rfl dX11_performFor_224
