noncomputable def LX11_without_61 (X : Nat × Nat) (h : Nat) (c2 : Int32) (c3 : Nat) (c4 : Int32) : Nat → Int32 → CS → Option (CS)
  | 0, _, _ => none
  | n + 1, i5, S =>
    (gr S 11 h 3).bind fun a1 =>
    (gi S 10 a1 11).bind fun v2 =>
    if v2 ≤ i5 then (
      some S
    ) else (
      (gr S 11 h 8).bind fun a3 =>
      (gr S 11 h 2).bind fun a4 =>
      (gr S 6 a4 1).bind fun a5 =>
      (ldr S 17 a5 i5).bind fun a6 =>
      (cal S 4 a3 (f4_copy X S a3 a6)).bind fun S7 =>
      (gr S7 11 h 1).bind fun a8 =>
      (gr S7 11 h 8).bind fun a9 =>
      (gr S7 11 h 3).bind fun a10 =>
      (gr S7 11 h 2).bind fun a11 =>
      (gr S7 6 a11 2).bind fun a12 =>
      (ldi S7 a12 i5).bind fun v13 =>
      (cal S7 10 a10 (f10_isAhead S7 a10 c4 v13)).bind fun v14 =>
      (cal S7 9 a8 (f9_turn X S7 a8 c3 a9 v14)).bind fun S15 =>
      LX11_without_61 X h c2 c3 c4 n (i5 + (1 : Int32)) S15
    )
noncomputable def f11_without (X : Nat × Nat) (S : CS) (h : Nat) (p1 : Int32) (p2 : Int32) : Option (Int32 × CS) :=
  (cal S 11 h (f11_isTaken S h p1)).bind fun v1 =>
  if v1 = 0 then (
    some ((-1 : Int32), S)
  ) else (
    (cal S 11 h (f11_replay S h (p1 - (1 : Int32)))).bind fun S2 =>
    (gr S2 11 h 7).bind fun a3 =>
    (gr S2 11 h 1).bind fun a4 =>
    (gr S2 11 h 2).bind fun a5 =>
    (gr S2 6 a5 1).bind fun a6 =>
    (ldr S2 17 a6 (p1 - (1 : Int32))).bind fun a7 =>
    (gr S2 11 h 9).bind fun a8 =>
    (cal S2 9 a4 (f9_invert X S2 a4 a7 a8 a3)).bind fun S9 =>
    (gr S9 11 h 2).bind fun a10 =>
    (gr S9 6 a10 2).bind fun a11 =>
    (ldi S9 a11 (p1 - (1 : Int32))).bind fun v12 =>
    (LX11_without_61 X h p2 a3 v12 FU p1 S9).bind fun S13 =>
    (gr S13 11 h 9).bind fun a15 =>
    (gr S13 11 h 3).bind fun a16 =>
    (gr S13 10 a16 2).bind fun a17 =>
    (cal S13 7 a15 (f7_copy S13 a15 a17)).bind fun S18 =>
    (gr S18 11 h 1).bind fun a19 =>
    (gr S18 11 h 9).bind fun a20 =>
    (cal S18 9 a19 (f9_change S18 a19 a20 a3 (0 : Int32))).bind fun S21 =>
    (gr S21 11 h 9).bind fun a22 =>
    (cal S21 7 a22 (f7_ask S21 a22 p2)).bind fun v23 =>
    some (v23, S21)
  )
theorem hdX_X11_without : yX11_without.cls = "FarEditors" ∧ yX11_without.cls ≠ "java/lang/invoke/MethodHandle" ∧ yX11_without.cls ≠ "java/lang/invoke/VarHandle" ∧ (parseMethodDescriptor yX11_without.desc).map (fun d => d.parameters.length) = some 2 := by decide +kernel
set_option maxHeartbeats 4000000 in
set_option maxRecDepth 100000 in
theorem LX11_without_61_ok {E : CxT} {l : Launch} {D : va_G} {y : CyT}  (hc : Cx E "FarEditors" cX11_without 6) (X : Nat × Nat) (h : Nat) (c2 : Int32) (c3 : Nat) (c4 : Int32) (hz : Cy E l D y 3 76 X.1 X.2) (hX : X.2 ≤ 100000000) : ∀ (n : Nat) (i5 : Int32) (S : CS) {So : CS}, LX11_without_61 X h c2 c3 c4 n i5 S = some So → (hx0 : V E (cZ So) (cU So) (cw y So) 127 [(0, .ref h), (2, .int c2), (3, .ref c3)] []) → V E (cZ S) (cU S) (cw y S) 61 [(0, .ref h), (2, .int c2), (3, .ref c3), (4, .int c4), (5, .int i5)] [] := by
  have hT := hz.2.2.1
  intro n
  induction n with
  | zero => intro i5 S So hf; cases hf
  | succ n ih =>
    intro i5 S So hf hx0
    unfold LX11_without_61 at hf
    refine V_iload hc dX11_without_61 4 rfl ?_
    refine V_aload_n hc dX11_without_63 rfl 0 rfl ?_
    obtain ⟨a1, ha1, hf⟩ := mb hf
    refine C_getr hc rfl iW11 (by decide) 3 (by decide) rfl ha1 w2_196 dX11_without_64 ?_
    obtain ⟨v2, hv2, hf⟩ := mb hf
    refine C_geti hc rfl iW10 (by decide) 11 (by decide) rfl hv2 w2_96 dX11_without_67 ?_
    refine V_icmp_ge hc dX11_without_70 rfl (fun hq70 => ?_) (fun hq70 => ?_)
    · rw [if_pos hq70] at hf
      obtain rfl := Option.some.inj hf
      exact V_sub [0, 1, 2] rfl hx0
    · rw [if_neg hq70] at hf
      refine V_aload_n hc dX11_without_73 rfl 0 rfl ?_
      obtain ⟨a3, ha3, hf⟩ := mb hf
      refine C_getr hc rfl iW11 (by decide) 8 (by decide) rfl ha3 w2_201 dX11_without_74 ?_
      refine V_aload_n hc dX11_without_77 rfl 0 rfl ?_
      obtain ⟨a4, ha4, hf⟩ := mb hf
      refine C_getr hc rfl iW11 (by decide) 2 (by decide) rfl ha4 w2_195 dX11_without_78 ?_
      obtain ⟨a5, ha5, hf⟩ := mb hf
      refine C_getr hc rfl iW6 (by decide) 1 (by decide) rfl ha5 w1_184 dX11_without_81 ?_
      refine V_iload hc dX11_without_84 4 rfl ?_
      obtain ⟨a6, ha6, hf⟩ := mb hf
      refine C_aald hc hT (by decide) (by decide) ha6 dX11_without_86 ?_
      obtain ⟨S7, hS7, hf⟩ := mb hf
      obtain ⟨hkS7, hS7⟩ := og hS7
      refine C_callV hc hz (As := [.ref a6]) hkS7 (by decide) (c4_copy l D y X hX hS7) w5_49 w4_8 w4_9 w1_5 w4_10 hdX_X4_copy ⟨(Nat.le_of_ble_eq_true rfl), (Nat.le_of_ble_eq_true rfl)⟩ rfl rfl rfl (Nat.le_of_ble_eq_true rfl) dX11_without_87 ?_
      refine V_aload_n hc dX11_without_90 rfl 0 rfl ?_
      obtain ⟨a8, ha8, hf⟩ := mb hf
      refine C_getr hc rfl iW11 (by decide) 1 (by decide) rfl ha8 w2_194 dX11_without_91 ?_
      refine V_aload_n hc dX11_without_94 rfl 2 rfl ?_
      refine V_aload_n hc dX11_without_95 rfl 0 rfl ?_
      obtain ⟨a9, ha9, hf⟩ := mb hf
      refine C_getr hc rfl iW11 (by decide) 8 (by decide) rfl ha9 w2_201 dX11_without_96 ?_
      refine V_aload_n hc dX11_without_99 rfl 0 rfl ?_
      obtain ⟨a10, ha10, hf⟩ := mb hf
      refine C_getr hc rfl iW11 (by decide) 3 (by decide) rfl ha10 w2_196 dX11_without_100 ?_
      refine V_iload hc dX11_without_103 3 rfl ?_
      refine V_aload_n hc dX11_without_105 rfl 0 rfl ?_
      obtain ⟨a11, ha11, hf⟩ := mb hf
      refine C_getr hc rfl iW11 (by decide) 2 (by decide) rfl ha11 w2_195 dX11_without_106 ?_
      obtain ⟨a12, ha12, hf⟩ := mb hf
      refine C_getr hc rfl iW6 (by decide) 2 (by decide) rfl ha12 w1_188 dX11_without_109 ?_
      refine V_iload hc dX11_without_112 4 rfl ?_
      obtain ⟨v13, hv13, hf⟩ := mb hf
      refine C_iald hc hT hv13 dX11_without_114 ?_
      obtain ⟨v14, hv14, hf⟩ := mb hf
      obtain ⟨hkv14, hv14⟩ := og hv14
      refine C_callV hc hz (As := [.int c4, .int v13]) hkv14 (by decide) (c10_isAhead l D y _ _ hv14) w5_56 w4_13 w4_14 w1_8 w4_15 hdX_X10_isAhead ⟨(Nat.le_of_ble_eq_true rfl), (Nat.le_of_ble_eq_true rfl)⟩ rfl rfl rfl (Nat.le_of_ble_eq_true rfl) dX11_without_115 ?_
      obtain ⟨S15, hS15, hf⟩ := mb hf
      obtain ⟨hkS15, hS15⟩ := og hS15
      refine C_callV hc hz (As := [.ref c3, .ref a9, .int v14]) hkS15 (by decide) (c9_turn l D y X hX hS15) w5_57 w4_17 w4_18 w1_3 w4_19 hdX_X9_turn ⟨(Nat.le_of_ble_eq_true rfl), (Nat.le_of_ble_eq_true rfl)⟩ rfl rfl rfl (Nat.le_of_ble_eq_true rfl) dX11_without_118 ?_
      refine V_iinc hc (j := 4) (v := (i5 + (1 : Int32))) dX11_without_121 rfl rfl (by decide) rfl ?_
      refine V_goto hc dX11_without_124 rfl ?_
      exact V_sub [1, 2, 3, 4, 0] rfl (ih _ _ hf hx0)
set_option maxHeartbeats 4000000 in
set_option maxRecDepth 100000 in
theorem c11_without (l : Launch) (D : va_G) (y : CyT) (X : Nat × Nat) (hX : X.2 ≤ 100000000) {S S' : CS} {h : Nat} {p1 : Int32} {p2 : Int32} {r : Int32} (hf : f11_without X S h p1 p2 = some (r, S')) : CT l D y yX11_without cX11_without 6 (some .int) 3 76 X.1 X.2 [.ref h, .int p1, .int p2] (cZ S) (cU S) (cw y S) (cZ S') (cU S') (cw y S') (some (.int r)) := by
  refine CT.of (by decide) (Nat.le_of_ble_eq_true rfl) (fun E hc hzz hnm => ?_)
  have hc : Cx E "FarEditors" cX11_without 6 := hc
  have hz := hzz.1
  have hT := hz.2.2.1
  show V E (cZ S) (cU S) (cw y S) 0 [(0, .ref h), (1, .int p1), (2, .int p2)] []
  unfold f11_without at hf
  refine V_aload_n hc dX11_without_0 rfl 0 rfl ?_
  refine V_iload_n hc dX11_without_1 rfl 1 rfl ?_
  obtain ⟨v1, hv1, hf⟩ := mb hf
  obtain ⟨hkv1, hv1⟩ := og hv1
  refine C_callV hc hz (As := [.int p1]) hkv1 (by decide) (c11_isTaken l D y _ _ hv1) w5_4 w5_6 wp3_6 w1_1 w5_7 hdX_X11_isTaken ⟨(Nat.le_of_ble_eq_true rfl), (Nat.le_of_ble_eq_true rfl)⟩ rfl rfl rfl (Nat.le_of_ble_eq_true rfl) dX11_without_2 ?_
  refine V_if_ne hc dX11_without_5 rfl (fun hq5 => ?_) (fun hq5 => ?_)
  · rw [if_neg hq5] at hf
    refine V_aload_n hc dX11_without_10 rfl 0 rfl ?_
    refine V_iload_n hc dX11_without_11 rfl 1 rfl ?_
    refine V_iconst hc (v := (1 : Int32)) dX11_without_12 rfl ?_
    refine V_isub hc dX11_without_13 ?_
    obtain ⟨S2, hS2, hf⟩ := mb hf
    obtain ⟨hkS2, hS2⟩ := og hS2
    refine C_callV hc hz (As := [.int (p1 - (1 : Int32))]) hkS2 (by decide) (c11_replay l D y _ _ hS2) w5_24 w5_26 wp3_7 w1_1 w5_27 hdX_X11_replay ⟨(Nat.le_of_ble_eq_true rfl), (Nat.le_of_ble_eq_true rfl)⟩ rfl rfl rfl (Nat.le_of_ble_eq_true rfl) dX11_without_14 ?_
    refine V_aload_n hc dX11_without_17 rfl 0 rfl ?_
    obtain ⟨a3, ha3, hf⟩ := mb hf
    refine C_getr hc rfl iW11 (by decide) 7 (by decide) rfl ha3 w2_200 dX11_without_18 ?_
    refine V_astore_n hc dX11_without_21 rfl (by decide) rfl ?_
    refine V_aload_n hc dX11_without_22 rfl 1 rfl ?_
    obtain ⟨a4, ha4, hf⟩ := mb hf
    refine C_getr hc rfl iW11 (by decide) 1 (by decide) rfl ha4 w2_194 dX11_without_23 ?_
    refine V_aload_n hc dX11_without_26 rfl 1 rfl ?_
    obtain ⟨a5, ha5, hf⟩ := mb hf
    refine C_getr hc rfl iW11 (by decide) 2 (by decide) rfl ha5 w2_195 dX11_without_27 ?_
    obtain ⟨a6, ha6, hf⟩ := mb hf
    refine C_getr hc rfl iW6 (by decide) 1 (by decide) rfl ha6 w1_184 dX11_without_30 ?_
    refine V_iload_n hc dX11_without_33 rfl 2 rfl ?_
    refine V_iconst hc (v := (1 : Int32)) dX11_without_34 rfl ?_
    refine V_isub hc dX11_without_35 ?_
    obtain ⟨a7, ha7, hf⟩ := mb hf
    refine C_aald hc hT (by decide) (by decide) ha7 dX11_without_36 ?_
    refine V_aload_n hc dX11_without_37 rfl 1 rfl ?_
    obtain ⟨a8, ha8, hf⟩ := mb hf
    refine C_getr hc rfl iW11 (by decide) 9 (by decide) rfl ha8 w2_202 dX11_without_38 ?_
    refine V_aload_n hc dX11_without_41 rfl 0 rfl ?_
    obtain ⟨S9, hS9, hf⟩ := mb hf
    obtain ⟨hkS9, hS9⟩ := og hS9
    refine C_callV hc hz (As := [.ref a7, .ref a8, .ref a3]) hkS9 (by decide) (c9_invert l D y X hX hS9) w5_55 w4_151 w4_152 w1_3 w4_153 hdX_X9_invert ⟨(Nat.le_of_ble_eq_true rfl), (Nat.le_of_ble_eq_true rfl)⟩ rfl rfl rfl (Nat.le_of_ble_eq_true rfl) dX11_without_42 ?_
    refine V_aload_n hc dX11_without_45 rfl 1 rfl ?_
    obtain ⟨a10, ha10, hf⟩ := mb hf
    refine C_getr hc rfl iW11 (by decide) 2 (by decide) rfl ha10 w2_195 dX11_without_46 ?_
    obtain ⟨a11, ha11, hf⟩ := mb hf
    refine C_getr hc rfl iW6 (by decide) 2 (by decide) rfl ha11 w1_188 dX11_without_49 ?_
    refine V_iload_n hc dX11_without_52 rfl 2 rfl ?_
    refine V_iconst hc (v := (1 : Int32)) dX11_without_53 rfl ?_
    refine V_isub hc dX11_without_54 ?_
    obtain ⟨v12, hv12, hf⟩ := mb hf
    refine C_iald hc hT hv12 dX11_without_55 ?_
    refine V_istore hc dX11_without_56 (by decide) rfl ?_
    refine V_iload_n hc dX11_without_58 rfl 3 rfl ?_
    refine V_istore hc dX11_without_59 (by decide) rfl ?_
    obtain ⟨S13, hv14, hf⟩ := mb hf
    refine V_sub [3, 5, 2, 1, 0] rfl (LX11_without_61_ok hc X h p2 a3 v12 hz hX FU _ _ hv14 ?_)
    refine V_aload_n hc dX11_without_127 rfl 0 rfl ?_
    obtain ⟨a15, ha15, hf⟩ := mb hf
    refine C_getr hc rfl iW11 (by decide) 9 (by decide) rfl ha15 w2_202 dX11_without_128 ?_
    refine V_aload_n hc dX11_without_131 rfl 0 rfl ?_
    obtain ⟨a16, ha16, hf⟩ := mb hf
    refine C_getr hc rfl iW11 (by decide) 3 (by decide) rfl ha16 w2_196 dX11_without_132 ?_
    obtain ⟨a17, ha17, hf⟩ := mb hf
    refine C_getr hc rfl iW10 (by decide) 2 (by decide) rfl ha17 w2_77 dX11_without_135 ?_
    obtain ⟨S18, hS18, hf⟩ := mb hf
    obtain ⟨hkS18, hS18⟩ := og hS18
    refine C_callV hc hz (As := [.ref a17]) hkS18 (by decide) (c7_copy l D y _ _ hS18) w5_28 w3_205 w3_206 w1_7 w3_207 hdX_X7_copy ⟨(Nat.le_of_ble_eq_true rfl), (Nat.le_of_ble_eq_true rfl)⟩ rfl rfl rfl (Nat.le_of_ble_eq_true rfl) dX11_without_138 ?_
    refine V_aload_n hc dX11_without_141 rfl 0 rfl ?_
    obtain ⟨a19, ha19, hf⟩ := mb hf
    refine C_getr hc rfl iW11 (by decide) 1 (by decide) rfl ha19 w2_194 dX11_without_142 ?_
    refine V_aload_n hc dX11_without_145 rfl 0 rfl ?_
    obtain ⟨a20, ha20, hf⟩ := mb hf
    refine C_getr hc rfl iW11 (by decide) 9 (by decide) rfl ha20 w2_202 dX11_without_146 ?_
    refine V_aload_n hc dX11_without_149 rfl 2 rfl ?_
    refine V_iconst hc (v := (0 : Int32)) dX11_without_150 rfl ?_
    obtain ⟨S21, hS21, hf⟩ := mb hf
    obtain ⟨hkS21, hS21⟩ := og hS21
    refine C_callV hc hz (As := [.ref a20, .ref a3, .int (0 : Int32)]) hkS21 (by decide) (c9_change l D y _ _ hS21) w5_29 w4_82 w4_83 w1_3 w4_84 hdX_X9_change ⟨(Nat.le_of_ble_eq_true rfl), (Nat.le_of_ble_eq_true rfl)⟩ rfl rfl rfl (Nat.le_of_ble_eq_true rfl) dX11_without_151 ?_
    refine V_aload_n hc dX11_without_154 rfl 0 rfl ?_
    obtain ⟨a22, ha22, hf⟩ := mb hf
    refine C_getr hc rfl iW11 (by decide) 9 (by decide) rfl ha22 w2_202 dX11_without_155 ?_
    refine V_iload_n hc dX11_without_158 rfl 1 rfl ?_
    obtain ⟨v23, hv23, hf⟩ := mb hf
    obtain ⟨hkv23, hv23⟩ := og hv23
    refine C_callV hc hz (As := [.int p2]) hkv23 (by decide) (c7_ask l D y _ _ hv23) w4_206 w4_207 w4_208 w1_7 w4_209 hdX_X7_ask ⟨(Nat.le_of_ble_eq_true rfl), (Nat.le_of_ble_eq_true rfl)⟩ rfl rfl rfl (Nat.le_of_ble_eq_true rfl) dX11_without_159 ?_
    obtain ⟨rfl, rfl⟩ := si2 hf
    exact V_iret hc hzz rfl rfl rfl rfl rfl dX11_without_162
  · rw [if_pos hq5] at hf
    refine V_iconst hc (v := (-1 : Int32)) dX11_without_8 rfl ?_
    obtain ⟨rfl, rfl⟩ := si2 hf
    exact V_iret hc hzz rfl rfl rfl rfl rfl dX11_without_9
noncomputable def LX11_quiet_26 (X : Nat × Nat) (h : Nat) : Nat → Int32 → CS → Option (Nat × Int32 × CS)
  | 0, _, _ => none
  | n + 1, i1, S =>
    if (99 : Int32) < i1 then (
      some (1, i1, S)
    ) else (
      (gr S 11 h 4).bind fun a1 =>
      (gi S 10 a1 8).bind fun v2 =>
      if (999 : Int32) < v2 then (
        some (1, i1, S)
      ) else (
        (gr S 11 h 4).bind fun a3 =>
        (cal S 10 a3 (f10_onTheirWay S a3)).bind fun v4 =>
        if v4 = 0 then (
          some (0, i1, S)
        ) else (
          (gr S 11 h 4).bind fun a5 =>
          (cal S 10 a5 (f10_runTick X S a5)).bind fun S6 =>
          LX11_quiet_26 X h n (i1 + (1 : Int32)) S6
        )
      )
    )
noncomputable def f11_quiet (X : Nat × Nat) (S : CS) (h : Nat) : Option (Int32 × CS) :=
  (gr S 11 h 3).bind fun a1 =>
  (gi S 10 a1 6).bind fun v2 =>
  if v2 = 0 then (
    some ((-1 : Int32), S)
  ) else (
    (gr S 11 h 4).bind fun a3 =>
    (gr S 11 h 3).bind fun a4 =>
    (cal S 10 a3 (f10_copy X S a3 a4 (0 : Int32))).bind fun S5 =>
    bn3 (LX11_quiet_26 X h FU (0 : Int32) S5) fun t6 x7 S8 =>
    if t6 = 0 then (
      some (x7, S8)
    ) else (
      some ((-1 : Int32), S8)
    )
  )
theorem hdX_X11_quiet : yX11_quiet.cls = "FarEditors" ∧ yX11_quiet.cls ≠ "java/lang/invoke/MethodHandle" ∧ yX11_quiet.cls ≠ "java/lang/invoke/VarHandle" ∧ (parseMethodDescriptor yX11_quiet.desc).map (fun d => d.parameters.length) = some 0 := by decide +kernel
set_option maxHeartbeats 4000000 in
set_option maxRecDepth 100000 in
theorem LX11_quiet_26_ok {E : CxT} {l : Launch} {D : va_G} {y : CyT}  (hc : Cx E "FarEditors" cX11_quiet 2) (X : Nat × Nat) (h : Nat) (hz : Cy E l D y 6 140 X.1 X.2) (hX : X.2 ≤ 100000000) : ∀ (n : Nat) (i1 : Int32) (S : CS) {t : Nat} {o1 : Int32} {So : CS}, LX11_quiet_26 X h n i1 S = some (t, o1, So) → (hx0 : t = 0 → V E (cZ So) (cU So) (cw y So) 55 [(1, .int o1)] []) → (hx1 : t = 1 → V E (cZ So) (cU So) (cw y So) 70 [] []) → V E (cZ S) (cU S) (cw y S) 26 [(0, .ref h), (1, .int i1)] [] := by
  have hT := hz.2.2.1
  intro n
  induction n with
  | zero => intro i1 S t o1 So hf; cases hf
  | succ n ih =>
    intro i1 S t o1 So hf hx0 hx1
    unfold LX11_quiet_26 at hf
    refine V_iload_n hc dX11_quiet_26 rfl 1 rfl ?_
    refine V_bipush hc (v := (99 : Int32)) dX11_quiet_27 rfl ?_
    refine V_icmp_gt hc dX11_quiet_29 rfl (fun hq29 => ?_) (fun hq29 => ?_)
    · rw [if_pos hq29] at hf
      obtain ⟨rfl, rfl, rfl⟩ := si3 hf
      exact V_sub [] rfl (hx1 rfl)
    · rw [if_neg hq29] at hf
      refine V_aload_n hc dX11_quiet_32 rfl 0 rfl ?_
      obtain ⟨a1, ha1, hf⟩ := mb hf
      refine C_getr hc rfl iW11 (by decide) 4 (by decide) rfl ha1 w2_197 dX11_quiet_33 ?_
      obtain ⟨v2, hv2, hf⟩ := mb hf
      refine C_geti hc rfl iW10 (by decide) 8 (by decide) rfl hv2 w2_90 dX11_quiet_36 ?_
      refine V_sipush hc (v := (999 : Int32)) dX11_quiet_39 rfl ?_
      refine V_icmp_gt hc dX11_quiet_42 rfl (fun hq42 => ?_) (fun hq42 => ?_)
      · rw [if_pos hq42] at hf
        obtain ⟨rfl, rfl, rfl⟩ := si3 hf
        exact V_sub [] rfl (hx1 rfl)
      · rw [if_neg hq42] at hf
        refine V_aload_n hc dX11_quiet_45 rfl 0 rfl ?_
        obtain ⟨a3, ha3, hf⟩ := mb hf
        refine C_getr hc rfl iW11 (by decide) 4 (by decide) rfl ha3 w2_197 dX11_quiet_46 ?_
        obtain ⟨v4, hv4, hf⟩ := mb hf
        obtain ⟨hkv4, hv4⟩ := og hv4
        refine C_callV hc hz (As := []) hkv4 (by decide) (c10_onTheirWay l D y _ _ hv4) w4_194 w4_195 w4_196 w1_8 w4_197 hdX_X10_onTheirWay ⟨(Nat.le_of_ble_eq_true rfl), (Nat.le_of_ble_eq_true rfl)⟩ rfl rfl rfl (Nat.le_of_ble_eq_true rfl) dX11_quiet_49 ?_
        refine V_if_ne hc dX11_quiet_52 rfl (fun hq52 => ?_) (fun hq52 => ?_)
        · rw [if_neg hq52] at hf
          refine V_aload_n hc dX11_quiet_57 rfl 0 rfl ?_
          obtain ⟨a5, ha5, hf⟩ := mb hf
          refine C_getr hc rfl iW11 (by decide) 4 (by decide) rfl ha5 w2_197 dX11_quiet_58 ?_
          obtain ⟨S6, hS6, hf⟩ := mb hf
          obtain ⟨hkS6, hS6⟩ := og hS6
          refine C_callV hc hz (As := []) hkS6 (by decide) (c10_runTick l D y X hX hS6) w3_234 w3_235 w3_236 w1_8 w3_237 hdX_X10_runTick ⟨(Nat.le_of_ble_eq_true rfl), (Nat.le_of_ble_eq_true rfl)⟩ rfl rfl rfl (Nat.le_of_ble_eq_true rfl) dX11_quiet_61 ?_
          refine V_iinc hc (j := 1) (v := (i1 + (1 : Int32))) dX11_quiet_64 rfl rfl (by decide) rfl ?_
          refine V_goto hc dX11_quiet_67 rfl ?_
          exact V_sub [1, 0] rfl (ih _ _ hf hx0 hx1)
        · rw [if_pos hq52] at hf
          obtain ⟨rfl, rfl, rfl⟩ := si3 hf
          exact V_sub [1] rfl (hx0 rfl)
set_option maxHeartbeats 4000000 in
set_option maxRecDepth 100000 in
theorem c11_quiet (l : Launch) (D : va_G) (y : CyT) (X : Nat × Nat) (hX : X.2 ≤ 100000000) {S S' : CS} {h : Nat} {r : Int32} (hf : f11_quiet X S h = some (r, S')) : CT l D y yX11_quiet cX11_quiet 2 (some .int) 6 140 X.1 X.2 [.ref h] (cZ S) (cU S) (cw y S) (cZ S') (cU S') (cw y S') (some (.int r)) := by
  refine CT.of (by decide) (Nat.le_of_ble_eq_true rfl) (fun E hc hzz hnm => ?_)
  have hc : Cx E "FarEditors" cX11_quiet 2 := hc
  have hz := hzz.1
  have hT := hz.2.2.1
  show V E (cZ S) (cU S) (cw y S) 0 [(0, .ref h)] []
  unfold f11_quiet at hf
  refine V_aload_n hc dX11_quiet_0 rfl 0 rfl ?_
  obtain ⟨a1, ha1, hf⟩ := mb hf
  refine C_getr hc rfl iW11 (by decide) 3 (by decide) rfl ha1 w2_196 dX11_quiet_1 ?_
  obtain ⟨v2, hv2, hf⟩ := mb hf
  refine C_geti hc rfl iW10 (by decide) 6 (by decide) rfl hv2 w2_86 dX11_quiet_4 ?_
  refine V_if_ne hc dX11_quiet_7 rfl (fun hq7 => ?_) (fun hq7 => ?_)
  · rw [if_neg hq7] at hf
    refine V_aload_n hc dX11_quiet_12 rfl 0 rfl ?_
    obtain ⟨a3, ha3, hf⟩ := mb hf
    refine C_getr hc rfl iW11 (by decide) 4 (by decide) rfl ha3 w2_197 dX11_quiet_13 ?_
    refine V_aload_n hc dX11_quiet_16 rfl 0 rfl ?_
    obtain ⟨a4, ha4, hf⟩ := mb hf
    refine C_getr hc rfl iW11 (by decide) 3 (by decide) rfl ha4 w2_196 dX11_quiet_17 ?_
    refine V_iconst hc (v := (0 : Int32)) dX11_quiet_20 rfl ?_
    obtain ⟨S5, hS5, hf⟩ := mb hf
    obtain ⟨hkS5, hS5⟩ := og hS5
    refine C_callV hc hz (As := [.ref a4, .int (0 : Int32)]) hkS5 (by decide) (c10_copy l D y X hX hS5) w5_62 w5_63 w5_64 w1_8 w5_65 hdX_X10_copy ⟨(Nat.le_of_ble_eq_true rfl), (Nat.le_of_ble_eq_true rfl)⟩ rfl rfl rfl (Nat.le_of_ble_eq_true rfl) dX11_quiet_21 ?_
    refine V_iconst hc (v := (0 : Int32)) dX11_quiet_24 rfl ?_
    refine V_istore_n hc dX11_quiet_25 rfl (by decide) rfl ?_
    obtain ⟨t6, x7, S8, hv9, hf⟩ := mb3 hf
    refine V_sub [1, 0] rfl (LX11_quiet_26_ok hc X h hz hX FU _ _ hv9 (fun ht26_0 => ?_) (fun ht26_1 => ?_))
    · rw [if_pos ht26_0] at hf
      refine V_iload_n hc dX11_quiet_55 rfl 0 rfl ?_
      obtain ⟨rfl, rfl⟩ := si2 hf
      exact V_iret hc hzz rfl rfl rfl rfl rfl dX11_quiet_56
    · rw [if_neg (by rw [ht26_1]; decide)] at hf
      refine V_iconst hc (v := (-1 : Int32)) dX11_quiet_70 rfl ?_
      obtain ⟨rfl, rfl⟩ := si2 hf
      exact V_iret hc hzz rfl rfl rfl rfl rfl dX11_quiet_71
  · rw [if_pos hq7] at hf
    refine V_iconst hc (v := (-1 : Int32)) dX11_quiet_10 rfl ?_
    obtain ⟨rfl, rfl⟩ := si2 hf
    exact V_iret hc hzz rfl rfl rfl rfl rfl dX11_quiet_11
noncomputable def LX11_later_51 (X : Nat × Nat) (h : Nat) (c1 : Int32) (c2 : Int32) : Nat → Int32 → CS → Option (CS)
  | 0, _, _ => none
  | n + 1, i3, S =>
    if c1 ≤ i3 then (
      some S
    ) else (
      (gr S 11 h 4).bind fun a1 =>
      (cal S 10 a1 (f10_runTick X S a1)).bind fun S2 =>
      LX11_later_51 X h c1 c2 n (i3 + (1 : Int32)) S2
    )
noncomputable def f11_later (X : Nat × Nat) (S : CS) (h : Nat) (p1 : Int32) (p2 : Int32) : Option (Int32 × CS) :=
  (gr S 11 h 3).bind fun a1 =>
  (gi S 10 a1 6).bind fun v2 =>
  if v2 = 0 then (
    some ((-1 : Int32), S)
  ) else (
    if p1 < 0 then (
      some ((-1 : Int32), S)
    ) else (
      if (99 : Int32) < p1 then (
        some ((-1 : Int32), S)
      ) else (
        (gr S 11 h 3).bind fun a3 =>
        (gi S 10 a3 8).bind fun v4 =>
        if (v4 + p1) ≤ (999 : Int32) then (
          (gr S 11 h 4).bind fun a5 =>
          (gr S 11 h 3).bind fun a6 =>
          (cal S 10 a5 (f10_copy X S a5 a6 (0 : Int32))).bind fun S7 =>
          (LX11_later_51 X h p1 p2 FU (0 : Int32) S7).bind fun S8 =>
          (gr S8 11 h 4).bind fun a10 =>
          (gr S8 10 a10 2).bind fun a11 =>
          (cal S8 7 a11 (f7_ask S8 a11 p2)).bind fun v12 =>
          some (v12, S8)
        ) else (
          some ((-1 : Int32), S)
        )
      )
    )
  )
theorem hdX_X11_later : yX11_later.cls = "FarEditors" ∧ yX11_later.cls ≠ "java/lang/invoke/MethodHandle" ∧ yX11_later.cls ≠ "java/lang/invoke/VarHandle" ∧ (parseMethodDescriptor yX11_later.desc).map (fun d => d.parameters.length) = some 2 := by decide +kernel
set_option maxHeartbeats 4000000 in
set_option maxRecDepth 100000 in
theorem LX11_later_51_ok {E : CxT} {l : Launch} {D : va_G} {y : CyT}  (hc : Cx E "FarEditors" cX11_later 4) (X : Nat × Nat) (h : Nat) (c1 : Int32) (c2 : Int32) (hz : Cy E l D y 6 140 X.1 X.2) (hX : X.2 ≤ 100000000) : ∀ (n : Nat) (i3 : Int32) (S : CS) {So : CS}, LX11_later_51 X h c1 c2 n i3 S = some So → (hx0 : V E (cZ So) (cU So) (cw y So) 69 [(0, .ref h), (2, .int c2)] []) → V E (cZ S) (cU S) (cw y S) 51 [(0, .ref h), (1, .int c1), (2, .int c2), (3, .int i3)] [] := by
  have hT := hz.2.2.1
  intro n
  induction n with
  | zero => intro i3 S So hf; cases hf
  | succ n ih =>
    intro i3 S So hf hx0
    unfold LX11_later_51 at hf
    refine V_iload_n hc dX11_later_51 rfl 3 rfl ?_
    refine V_iload_n hc dX11_later_52 rfl 1 rfl ?_
    refine V_icmp_ge hc dX11_later_53 rfl (fun hq53 => ?_) (fun hq53 => ?_)
    · rw [if_pos hq53] at hf
      obtain rfl := Option.some.inj hf
      exact V_sub [0, 2] rfl hx0
    · rw [if_neg hq53] at hf
      refine V_aload_n hc dX11_later_56 rfl 0 rfl ?_
      obtain ⟨a1, ha1, hf⟩ := mb hf
      refine C_getr hc rfl iW11 (by decide) 4 (by decide) rfl ha1 w2_197 dX11_later_57 ?_
      obtain ⟨S2, hS2, hf⟩ := mb hf
      obtain ⟨hkS2, hS2⟩ := og hS2
      refine C_callV hc hz (As := []) hkS2 (by decide) (c10_runTick l D y X hX hS2) w3_234 w3_235 w3_236 w1_8 w3_237 hdX_X10_runTick ⟨(Nat.le_of_ble_eq_true rfl), (Nat.le_of_ble_eq_true rfl)⟩ rfl rfl rfl (Nat.le_of_ble_eq_true rfl) dX11_later_60 ?_
      refine V_iinc hc (j := 3) (v := (i3 + (1 : Int32))) dX11_later_63 rfl rfl (by decide) rfl ?_
      refine V_goto hc dX11_later_66 rfl ?_
      exact V_sub [1, 2, 3, 0] rfl (ih _ _ hf hx0)
set_option maxHeartbeats 4000000 in
set_option maxRecDepth 100000 in
theorem c11_later (l : Launch) (D : va_G) (y : CyT) (X : Nat × Nat) (hX : X.2 ≤ 100000000) {S S' : CS} {h : Nat} {p1 : Int32} {p2 : Int32} {r : Int32} (hf : f11_later X S h p1 p2 = some (r, S')) : CT l D y yX11_later cX11_later 4 (some .int) 6 140 X.1 X.2 [.ref h, .int p1, .int p2] (cZ S) (cU S) (cw y S) (cZ S') (cU S') (cw y S') (some (.int r)) := by
  refine CT.of (by decide) (Nat.le_of_ble_eq_true rfl) (fun E hc hzz hnm => ?_)
  have hc : Cx E "FarEditors" cX11_later 4 := hc
  have hz := hzz.1
  have hT := hz.2.2.1
  show V E (cZ S) (cU S) (cw y S) 0 [(0, .ref h), (1, .int p1), (2, .int p2)] []
  unfold f11_later at hf
  refine V_aload_n hc dX11_later_0 rfl 0 rfl ?_
  obtain ⟨a1, ha1, hf⟩ := mb hf
  refine C_getr hc rfl iW11 (by decide) 3 (by decide) rfl ha1 w2_196 dX11_later_1 ?_
  obtain ⟨v2, hv2, hf⟩ := mb hf
  refine C_geti hc rfl iW10 (by decide) 6 (by decide) rfl hv2 w2_86 dX11_later_4 ?_
  refine V_if_eq hc dX11_later_7 rfl (fun hq7 => ?_) (fun hq7 => ?_)
  · rw [if_pos hq7] at hf
    refine V_iconst hc (v := (-1 : Int32)) dX11_later_35 rfl ?_
    obtain ⟨rfl, rfl⟩ := si2 hf
    exact V_iret hc hzz rfl rfl rfl rfl rfl dX11_later_36
  · rw [if_neg hq7] at hf
    refine V_iload_n hc dX11_later_10 rfl 1 rfl ?_
    refine V_if_lt hc dX11_later_11 rfl (fun hq11 => ?_) (fun hq11 => ?_)
    · rw [if_pos hq11] at hf
      refine V_iconst hc (v := (-1 : Int32)) dX11_later_35 rfl ?_
      obtain ⟨rfl, rfl⟩ := si2 hf
      exact V_iret hc hzz rfl rfl rfl rfl rfl dX11_later_36
    · rw [if_neg hq11] at hf
      refine V_iload_n hc dX11_later_14 rfl 1 rfl ?_
      refine V_bipush hc (v := (99 : Int32)) dX11_later_15 rfl ?_
      refine V_icmp_gt hc dX11_later_17 rfl (fun hq17 => ?_) (fun hq17 => ?_)
      · rw [if_pos hq17] at hf
        refine V_iconst hc (v := (-1 : Int32)) dX11_later_35 rfl ?_
        obtain ⟨rfl, rfl⟩ := si2 hf
        exact V_iret hc hzz rfl rfl rfl rfl rfl dX11_later_36
      · rw [if_neg hq17] at hf
        refine V_aload_n hc dX11_later_20 rfl 0 rfl ?_
        obtain ⟨a3, ha3, hf⟩ := mb hf
        refine C_getr hc rfl iW11 (by decide) 3 (by decide) rfl ha3 w2_196 dX11_later_21 ?_
        obtain ⟨v4, hv4, hf⟩ := mb hf
        refine C_geti hc rfl iW10 (by decide) 8 (by decide) rfl hv4 w2_90 dX11_later_24 ?_
        refine V_iload_n hc dX11_later_27 rfl 1 rfl ?_
        refine V_iadd hc dX11_later_28 ?_
        refine V_sipush hc (v := (999 : Int32)) dX11_later_29 rfl ?_
        refine V_icmp_le hc dX11_later_32 rfl (fun hq32 => ?_) (fun hq32 => ?_)
        · rw [if_pos hq32] at hf
          refine V_aload_n hc dX11_later_37 rfl 0 rfl ?_
          obtain ⟨a5, ha5, hf⟩ := mb hf
          refine C_getr hc rfl iW11 (by decide) 4 (by decide) rfl ha5 w2_197 dX11_later_38 ?_
          refine V_aload_n hc dX11_later_41 rfl 0 rfl ?_
          obtain ⟨a6, ha6, hf⟩ := mb hf
          refine C_getr hc rfl iW11 (by decide) 3 (by decide) rfl ha6 w2_196 dX11_later_42 ?_
          refine V_iconst hc (v := (0 : Int32)) dX11_later_45 rfl ?_
          obtain ⟨S7, hS7, hf⟩ := mb hf
          obtain ⟨hkS7, hS7⟩ := og hS7
          refine C_callV hc hz (As := [.ref a6, .int (0 : Int32)]) hkS7 (by decide) (c10_copy l D y X hX hS7) w5_62 w5_63 w5_64 w1_8 w5_65 hdX_X10_copy ⟨(Nat.le_of_ble_eq_true rfl), (Nat.le_of_ble_eq_true rfl)⟩ rfl rfl rfl (Nat.le_of_ble_eq_true rfl) dX11_later_46 ?_
          refine V_iconst hc (v := (0 : Int32)) dX11_later_49 rfl ?_
          refine V_istore_n hc dX11_later_50 rfl (by decide) rfl ?_
          obtain ⟨S8, hv9, hf⟩ := mb hf
          refine V_sub [1, 2, 3, 0] rfl (LX11_later_51_ok hc X h p1 p2 hz hX FU _ _ hv9 ?_)
          refine V_aload_n hc dX11_later_69 rfl 0 rfl ?_
          obtain ⟨a10, ha10, hf⟩ := mb hf
          refine C_getr hc rfl iW11 (by decide) 4 (by decide) rfl ha10 w2_197 dX11_later_70 ?_
          obtain ⟨a11, ha11, hf⟩ := mb hf
          refine C_getr hc rfl iW10 (by decide) 2 (by decide) rfl ha11 w2_77 dX11_later_73 ?_
          refine V_iload_n hc dX11_later_76 rfl 1 rfl ?_
          obtain ⟨v12, hv12, hf⟩ := mb hf
          obtain ⟨hkv12, hv12⟩ := og hv12
          refine C_callV hc hz (As := [.int p2]) hkv12 (by decide) (c7_ask l D y _ _ hv12) w4_206 w4_207 w4_208 w1_7 w4_209 hdX_X7_ask ⟨(Nat.le_of_ble_eq_true rfl), (Nat.le_of_ble_eq_true rfl)⟩ rfl rfl rfl (Nat.le_of_ble_eq_true rfl) dX11_later_77 ?_
          obtain ⟨rfl, rfl⟩ := si2 hf
          exact V_iret hc hzz rfl rfl rfl rfl rfl dX11_later_80
        · rw [if_neg hq32] at hf
          refine V_iconst hc (v := (-1 : Int32)) dX11_later_35 rfl ?_
          obtain ⟨rfl, rfl⟩ := si2 hf
          exact V_iret hc hzz rfl rfl rfl rfl rfl dX11_later_36
noncomputable def f11_reckonEnds (X : Nat × Nat) (S : CS) (h : Nat) : Option (CS) :=
  (gr S 11 h 6).bind fun a1 =>
  (gi S 0 a1 9).bind fun v2 =>
  (gr S 11 h 5).bind fun a3 =>
  (gi S 2 a3 3).bind fun v4 =>
  (
    if v2 = v4 then (
      some S
    ) else (
      (gr S 11 h 6).bind fun a7 =>
      (gr S 11 h 3).bind fun a8 =>
      (gr S 11 h 4).bind fun a9 =>
      (cal S 0 a7 (f0_reckon X S a7 a8 a9)).bind fun S10 =>
      (gr S10 11 h 6).bind fun a11 =>
      (gr S10 11 h 5).bind fun a12 =>
      (gi S10 2 a12 3).bind fun v13 =>
      (pi S10 0 a11 9 v13).bind fun S14 =>
      some S14
    )
  ).bind fun S5 =>
  some S5
theorem hdX_X11_reckonEnds : yX11_reckonEnds.cls = "FarEditors" ∧ yX11_reckonEnds.cls ≠ "java/lang/invoke/MethodHandle" ∧ yX11_reckonEnds.cls ≠ "java/lang/invoke/VarHandle" ∧ (parseMethodDescriptor yX11_reckonEnds.desc).map (fun d => d.parameters.length) = some 0 := by decide +kernel
set_option maxHeartbeats 4000000 in
set_option maxRecDepth 100000 in
theorem c11_reckonEnds (l : Launch) (D : va_G) (y : CyT) (X : Nat × Nat) (hX : X.2 ≤ 100000000) {S S' : CS} {h : Nat} (hf : f11_reckonEnds X S h = some S') : CT l D y yX11_reckonEnds cX11_reckonEnds 1 none 6 142 X.1 X.2 [.ref h] (cZ S) (cU S) (cw y S) (cZ S') (cU S') (cw y S') none := by
  refine CT.of (by decide) (Nat.le_of_ble_eq_true rfl) (fun E hc hzz hnm => ?_)
  have hc : Cx E "FarEditors" cX11_reckonEnds 1 := hc
  have hz := hzz.1
  have hT := hz.2.2.1
  show V E (cZ S) (cU S) (cw y S) 0 [(0, .ref h)] []
  unfold f11_reckonEnds at hf
  refine V_aload_n hc dX11_reckonEnds_0 rfl 0 rfl ?_
  obtain ⟨a1, ha1, hf⟩ := mb hf
  refine C_getr hc rfl iW11 (by decide) 6 (by decide) rfl ha1 w2_199 dX11_reckonEnds_1 ?_
  obtain ⟨v2, hv2, hf⟩ := mb hf
  refine C_geti hc rfl iW0 (by decide) 9 (by decide) rfl hv2 w2_167 dX11_reckonEnds_4 ?_
  refine V_aload_n hc dX11_reckonEnds_7 rfl 0 rfl ?_
  obtain ⟨a3, ha3, hf⟩ := mb hf
  refine C_getr hc rfl iW11 (by decide) 5 (by decide) rfl ha3 w2_198 dX11_reckonEnds_8 ?_
  obtain ⟨v4, hv4, hf⟩ := mb hf
  refine C_geti hc rfl iW2 (by decide) 3 (by decide) rfl hv4 w2_135 dX11_reckonEnds_11 ?_
  obtain ⟨S5, hv6, hf⟩ := mb hf
  have hJ14 : V E (cZ S5) (cU S5) (cw y S5) 46 [] [] := by
    obtain rfl := Option.some.inj hf
    exact V_vret hc hzz rfl rfl rfl rfl dX11_reckonEnds_46
  refine V_icmp_eq hc dX11_reckonEnds_14 rfl (fun hq14 => ?_) (fun hq14 => ?_)
  · rw [if_pos hq14] at hv6
    obtain rfl := Option.some.inj hv6
    exact V_sub [] rfl hJ14
  · rw [if_neg hq14] at hv6
    refine V_aload_n hc dX11_reckonEnds_17 rfl 0 rfl ?_
    obtain ⟨a7, ha7, hv6⟩ := mb hv6
    refine C_getr hc rfl iW11 (by decide) 6 (by decide) rfl ha7 w2_199 dX11_reckonEnds_18 ?_
    refine V_aload_n hc dX11_reckonEnds_21 rfl 0 rfl ?_
    obtain ⟨a8, ha8, hv6⟩ := mb hv6
    refine C_getr hc rfl iW11 (by decide) 3 (by decide) rfl ha8 w2_196 dX11_reckonEnds_22 ?_
    refine V_aload_n hc dX11_reckonEnds_25 rfl 0 rfl ?_
    obtain ⟨a9, ha9, hv6⟩ := mb hv6
    refine C_getr hc rfl iW11 (by decide) 4 (by decide) rfl ha9 w2_197 dX11_reckonEnds_26 ?_
    obtain ⟨S10, hS10, hv6⟩ := mb hv6
    obtain ⟨hkS10, hS10⟩ := og hS10
    refine C_callV hc hz (As := [.ref a8, .ref a9]) hkS10 (by decide) (c0_reckon l D y X hX hS10) w5_93 w5_94 w5_95 w1_12 w5_96 hdX_X0_reckon ⟨(Nat.le_of_ble_eq_true rfl), (Nat.le_of_ble_eq_true rfl)⟩ rfl rfl rfl (Nat.le_of_ble_eq_true rfl) dX11_reckonEnds_29 ?_
    refine V_aload_n hc dX11_reckonEnds_32 rfl 0 rfl ?_
    obtain ⟨a11, ha11, hv6⟩ := mb hv6
    refine C_getr hc rfl iW11 (by decide) 6 (by decide) rfl ha11 w2_199 dX11_reckonEnds_33 ?_
    refine V_aload_n hc dX11_reckonEnds_36 rfl 0 rfl ?_
    obtain ⟨a12, ha12, hv6⟩ := mb hv6
    refine C_getr hc rfl iW11 (by decide) 5 (by decide) rfl ha12 w2_198 dX11_reckonEnds_37 ?_
    obtain ⟨v13, hv13, hv6⟩ := mb hv6
    refine C_geti hc rfl iW2 (by decide) 3 (by decide) rfl hv13 w2_135 dX11_reckonEnds_40 ?_
    obtain ⟨S14, hS14, hv6⟩ := mb hv6
    refine C_puti hc rfl iW0 tyX0 tyX0_ok nmX0 (by decide) 9 (by decide) rfl hS14 w2_167 rfl rfl rfl dX11_reckonEnds_43 ?_
    obtain rfl := Option.some.inj hv6
    exact V_sub [] rfl hJ14
noncomputable def f11_orders (X : Nat × Nat) (S : CS) (h : Nat) (p1 : Int32) : Option (Int32 × CS) :=
  (gr S 11 h 3).bind fun a1 =>
  (gi S 10 a1 6).bind fun v2 =>
  if v2 = 0 then (
    some ((-1 : Int32), S)
  ) else (
    if p1 < 0 then (
      some ((-1 : Int32), S)
    ) else (
      if p1 ≤ (1 : Int32) then (
        (cal S 11 h (f11_reckonEnds X S h)).bind fun S3 =>
        (
          if p1 = 0 then (
            (gr S3 11 h 6).bind fun a8 =>
            (gi S3 0 a8 7).bind fun v9 =>
            some v9
          ) else (
            (gr S3 11 h 6).bind fun a6 =>
            (cal S3 0 a6 (f0_countUnlike S3 a6)).bind fun v7 =>
            some v7
          )
        ).bind fun v4 =>
        some (v4, S3)
      ) else (
        some ((-1 : Int32), S)
      )
    )
  )
theorem hdX_X11_orders : yX11_orders.cls = "FarEditors" ∧ yX11_orders.cls ≠ "java/lang/invoke/MethodHandle" ∧ yX11_orders.cls ≠ "java/lang/invoke/VarHandle" ∧ (parseMethodDescriptor yX11_orders.desc).map (fun d => d.parameters.length) = some 1 := by decide +kernel
set_option maxHeartbeats 4000000 in
set_option maxRecDepth 100000 in
theorem c11_orders (l : Launch) (D : va_G) (y : CyT) (X : Nat × Nat) (hX : X.2 ≤ 100000000) {S S' : CS} {h : Nat} {p1 : Int32} {r : Int32} (hf : f11_orders X S h p1 = some (r, S')) : CT l D y yX11_orders cX11_orders 2 (some .int) 7 162 X.1 X.2 [.ref h, .int p1] (cZ S) (cU S) (cw y S) (cZ S') (cU S') (cw y S') (some (.int r)) := by
  refine CT.of (by decide) (Nat.le_of_ble_eq_true rfl) (fun E hc hzz hnm => ?_)
  have hc : Cx E "FarEditors" cX11_orders 2 := hc
  have hz := hzz.1
  have hT := hz.2.2.1
  show V E (cZ S) (cU S) (cw y S) 0 [(0, .ref h), (1, .int p1)] []
  unfold f11_orders at hf
  refine V_aload_n hc dX11_orders_0 rfl 0 rfl ?_
  obtain ⟨a1, ha1, hf⟩ := mb hf
  refine C_getr hc rfl iW11 (by decide) 3 (by decide) rfl ha1 w2_196 dX11_orders_1 ?_
  obtain ⟨v2, hv2, hf⟩ := mb hf
  refine C_geti hc rfl iW10 (by decide) 6 (by decide) rfl hv2 w2_86 dX11_orders_4 ?_
  refine V_if_eq hc dX11_orders_7 rfl (fun hq7 => ?_) (fun hq7 => ?_)
  · rw [if_pos hq7] at hf
    refine V_iconst hc (v := (-1 : Int32)) dX11_orders_19 rfl ?_
    obtain ⟨rfl, rfl⟩ := si2 hf
    exact V_iret hc hzz rfl rfl rfl rfl rfl dX11_orders_20
  · rw [if_neg hq7] at hf
    refine V_iload_n hc dX11_orders_10 rfl 1 rfl ?_
    refine V_if_lt hc dX11_orders_11 rfl (fun hq11 => ?_) (fun hq11 => ?_)
    · rw [if_pos hq11] at hf
      refine V_iconst hc (v := (-1 : Int32)) dX11_orders_19 rfl ?_
      obtain ⟨rfl, rfl⟩ := si2 hf
      exact V_iret hc hzz rfl rfl rfl rfl rfl dX11_orders_20
    · rw [if_neg hq11] at hf
      refine V_iload_n hc dX11_orders_14 rfl 1 rfl ?_
      refine V_iconst hc (v := (1 : Int32)) dX11_orders_15 rfl ?_
      refine V_icmp_le hc dX11_orders_16 rfl (fun hq16 => ?_) (fun hq16 => ?_)
      · rw [if_pos hq16] at hf
        refine V_aload_n hc dX11_orders_21 rfl 0 rfl ?_
        obtain ⟨S3, hS3, hf⟩ := mb hf
        obtain ⟨hkS3, hS3⟩ := og hS3
        refine C_callV hc hz (As := []) hkS3 (by decide) (c11_reckonEnds l D y X hX hS3) w5_89 w5_91 wp3_8 w1_1 w5_92 hdX_X11_reckonEnds ⟨(Nat.le_of_ble_eq_true rfl), (Nat.le_of_ble_eq_true rfl)⟩ rfl rfl rfl (Nat.le_of_ble_eq_true rfl) dX11_orders_22 ?_
        refine V_iload_n hc dX11_orders_25 rfl 1 rfl ?_
        obtain ⟨v4, hv5, hf⟩ := mb hf
        have hJ26 : V E (cZ S3) (cU S3) (cw y S3) 46 [] [.int v4] := by
          obtain ⟨rfl, rfl⟩ := si2 hf
          exact V_iret hc hzz rfl rfl rfl rfl rfl dX11_orders_46
        refine V_if_ne hc dX11_orders_26 rfl (fun hq26 => ?_) (fun hq26 => ?_)
        · rw [if_neg hq26] at hv5
          refine V_aload_n hc dX11_orders_39 rfl 0 rfl ?_
          obtain ⟨a6, ha6, hv5⟩ := mb hv5
          refine C_getr hc rfl iW11 (by decide) 6 (by decide) rfl ha6 w2_199 dX11_orders_40 ?_
          obtain ⟨v7, hv7, hv5⟩ := mb hv5
          obtain ⟨hkv7, hv7⟩ := og hv7
          refine C_callV hc hz (As := []) hkv7 (by decide) (c0_countUnlike l D y _ _ hv7) w5_105 w5_106 w5_107 w1_12 w5_108 hdX_X0_countUnlike ⟨(Nat.le_of_ble_eq_true rfl), (Nat.le_of_ble_eq_true rfl)⟩ rfl rfl rfl (Nat.le_of_ble_eq_true rfl) dX11_orders_43 ?_
          obtain rfl := Option.some.inj hv5
          exact V_sub [] rfl hJ26
        · rw [if_pos hq26] at hv5
          refine V_aload_n hc dX11_orders_29 rfl 0 rfl ?_
          obtain ⟨a8, ha8, hv5⟩ := mb hv5
          refine C_getr hc rfl iW11 (by decide) 6 (by decide) rfl ha8 w2_199 dX11_orders_30 ?_
          obtain ⟨v9, hv9, hv5⟩ := mb hv5
          refine C_geti hc rfl iW0 (by decide) 7 (by decide) rfl hv9 w2_163 dX11_orders_33 ?_
          refine V_goto hc dX11_orders_36 rfl ?_
          obtain rfl := Option.some.inj hv5
          exact V_sub [] rfl hJ26
      · rw [if_neg hq16] at hf
        refine V_iconst hc (v := (-1 : Int32)) dX11_orders_19 rfl ?_
        obtain ⟨rfl, rfl⟩ := si2 hf
        exact V_iret hc hzz rfl rfl rfl rfl rfl dX11_orders_20
noncomputable def f11_ends (X : Nat × Nat) (S : CS) (h : Nat) (p1 : Int32) (p2 : Int32) : Option (Int32 × CS) :=
  (gr S 11 h 3).bind fun a1 =>
  (gi S 10 a1 6).bind fun v2 =>
  if v2 = 0 then (
    some ((-1 : Int32), S)
  ) else (
    (cal S 11 h (f11_reckonEnds X S h)).bind fun S3 =>
    (
      if p1 < 0 then (
        some (-1 : Int32)
      ) else (
        (gr S3 11 h 6).bind fun a6 =>
        (gi S3 0 a6 7).bind fun v7 =>
        if v7 ≤ p1 then (
          some (-1 : Int32)
        ) else (
          (gr S3 11 h 6).bind fun a8 =>
          (gr S3 0 a8 0).bind fun a9 =>
          (ldr S3 18 a9 p1).bind fun a10 =>
          (cal S3 7 a10 (f7_ask S3 a10 p2)).bind fun v11 =>
          some v11
        )
      )
    ).bind fun v4 =>
    some (v4, S3)
  )
theorem hdX_X11_ends : yX11_ends.cls = "FarEditors" ∧ yX11_ends.cls ≠ "java/lang/invoke/MethodHandle" ∧ yX11_ends.cls ≠ "java/lang/invoke/VarHandle" ∧ (parseMethodDescriptor yX11_ends.desc).map (fun d => d.parameters.length) = some 2 := by decide +kernel
set_option maxHeartbeats 4000000 in
set_option maxRecDepth 100000 in
theorem c11_ends (l : Launch) (D : va_G) (y : CyT) (X : Nat × Nat) (hX : X.2 ≤ 100000000) {S S' : CS} {h : Nat} {p1 : Int32} {p2 : Int32} {r : Int32} (hf : f11_ends X S h p1 p2 = some (r, S')) : CT l D y yX11_ends cX11_ends 3 (some .int) 7 162 X.1 X.2 [.ref h, .int p1, .int p2] (cZ S) (cU S) (cw y S) (cZ S') (cU S') (cw y S') (some (.int r)) := by
  refine CT.of (by decide) (Nat.le_of_ble_eq_true rfl) (fun E hc hzz hnm => ?_)
  have hc : Cx E "FarEditors" cX11_ends 3 := hc
  have hz := hzz.1
  have hT := hz.2.2.1
  show V E (cZ S) (cU S) (cw y S) 0 [(0, .ref h), (1, .int p1), (2, .int p2)] []
  unfold f11_ends at hf
  refine V_aload_n hc dX11_ends_0 rfl 0 rfl ?_
  obtain ⟨a1, ha1, hf⟩ := mb hf
  refine C_getr hc rfl iW11 (by decide) 3 (by decide) rfl ha1 w2_196 dX11_ends_1 ?_
  obtain ⟨v2, hv2, hf⟩ := mb hf
  refine C_geti hc rfl iW10 (by decide) 6 (by decide) rfl hv2 w2_86 dX11_ends_4 ?_
  refine V_if_ne hc dX11_ends_7 rfl (fun hq7 => ?_) (fun hq7 => ?_)
  · rw [if_neg hq7] at hf
    refine V_aload_n hc dX11_ends_12 rfl 0 rfl ?_
    obtain ⟨S3, hS3, hf⟩ := mb hf
    obtain ⟨hkS3, hS3⟩ := og hS3
    refine C_callV hc hz (As := []) hkS3 (by decide) (c11_reckonEnds l D y X hX hS3) w5_89 w5_91 wp3_8 w1_1 w5_92 hdX_X11_reckonEnds ⟨(Nat.le_of_ble_eq_true rfl), (Nat.le_of_ble_eq_true rfl)⟩ rfl rfl rfl (Nat.le_of_ble_eq_true rfl) dX11_ends_13 ?_
    refine V_iload_n hc dX11_ends_16 rfl 1 rfl ?_
    obtain ⟨v4, hv5, hf⟩ := mb hf
    have hJ17 : V E (cZ S3) (cU S3) (cw y S3) 48 [] [.int v4] := by
      obtain ⟨rfl, rfl⟩ := si2 hf
      exact V_iret hc hzz rfl rfl rfl rfl rfl dX11_ends_48
    refine V_if_lt hc dX11_ends_17 rfl (fun hq17 => ?_) (fun hq17 => ?_)
    · rw [if_pos hq17] at hv5
      refine V_iconst hc (v := (-1 : Int32)) dX11_ends_47 rfl ?_
      obtain rfl := Option.some.inj hv5
      exact V_sub [] rfl hJ17
    · rw [if_neg hq17] at hv5
      refine V_iload_n hc dX11_ends_20 rfl 1 rfl ?_
      refine V_aload_n hc dX11_ends_21 rfl 0 rfl ?_
      obtain ⟨a6, ha6, hv5⟩ := mb hv5
      refine C_getr hc rfl iW11 (by decide) 6 (by decide) rfl ha6 w2_199 dX11_ends_22 ?_
      obtain ⟨v7, hv7, hv5⟩ := mb hv5
      refine C_geti hc rfl iW0 (by decide) 7 (by decide) rfl hv7 w2_163 dX11_ends_25 ?_
      refine V_icmp_ge hc dX11_ends_28 rfl (fun hq28 => ?_) (fun hq28 => ?_)
      · rw [if_pos hq28] at hv5
        refine V_iconst hc (v := (-1 : Int32)) dX11_ends_47 rfl ?_
        obtain rfl := Option.some.inj hv5
        exact V_sub [] rfl hJ17
      · rw [if_neg hq28] at hv5
        refine V_aload_n hc dX11_ends_31 rfl 0 rfl ?_
        obtain ⟨a8, ha8, hv5⟩ := mb hv5
        refine C_getr hc rfl iW11 (by decide) 6 (by decide) rfl ha8 w2_199 dX11_ends_32 ?_
        obtain ⟨a9, ha9, hv5⟩ := mb hv5
        refine C_getr hc rfl iW0 (by decide) 0 (by decide) rfl ha9 w2_155 dX11_ends_35 ?_
        refine V_iload_n hc dX11_ends_38 rfl 1 rfl ?_
        obtain ⟨a10, ha10, hv5⟩ := mb hv5
        refine C_aald hc hT (by decide) (by decide) ha10 dX11_ends_39 ?_
        refine V_iload_n hc dX11_ends_40 rfl 2 rfl ?_
        obtain ⟨v11, hv11, hv5⟩ := mb hv5
        obtain ⟨hkv11, hv11⟩ := og hv11
        refine C_callV hc hz (As := [.int p2]) hkv11 (by decide) (c7_ask l D y _ _ hv11) w4_206 w4_207 w4_208 w1_7 w4_209 hdX_X7_ask ⟨(Nat.le_of_ble_eq_true rfl), (Nat.le_of_ble_eq_true rfl)⟩ rfl rfl rfl (Nat.le_of_ble_eq_true rfl) dX11_ends_41 ?_
        refine V_goto hc dX11_ends_44 rfl ?_
        obtain rfl := Option.some.inj hv5
        exact V_sub [] rfl hJ17
  · rw [if_pos hq7] at hf
    refine V_iconst hc (v := (-1 : Int32)) dX11_ends_10 rfl ?_
    obtain ⟨rfl, rfl⟩ := si2 hf
    exact V_iret hc hzz rfl rfl rfl rfl rfl dX11_ends_11
noncomputable def f11_see (S : CS) (h : Nat) : Option (Int32 × CS) :=
  (gr S 11 h 0).bind fun a1 =>
  (gi S 8 a1 1).bind fun v2 =>
  (gr S 11 h 0).bind fun a3 =>
  (pi S 8 a3 1 (0 : Int32)).bind fun S4 =>
  (gr S4 11 h 3).bind fun a5 =>
  (gi S4 10 a5 6).bind fun v6 =>
  if v6 = 0 then (
    bn2 (cal S4 11 h (f11_refuse S4 h (1 : Int32))) fun v7 S8 =>
    some (v7, S8)
  ) else (
    (gr S4 11 h 6).bind fun a9 =>
    (gr S4 11 h 0).bind fun a10 =>
    (gr S4 8 a10 0).bind fun a11 =>
    (cal S4 0 a9 (f0_canSee S4 a9 a11 v2)).bind fun v12 =>
    if v12 = 0 then (
      bn2 (cal S4 11 h (f11_refuse S4 h (1 : Int32))) fun v19 S20 =>
      some (v19, S20)
    ) else (
      (gr S4 11 h 6).bind fun a13 =>
      (gr S4 11 h 0).bind fun a14 =>
      (gr S4 8 a14 0).bind fun a15 =>
      (cal S4 0 a13 (f0_setSeen S4 a13 a15 v2)).bind fun S16 =>
      (gr S16 11 h 6).bind fun a17 =>
      (gi S16 0 a17 8).bind fun v18 =>
      some (v18, S16)
    )
  )
theorem hdX_X11_see : yX11_see.cls = "FarEditors" ∧ yX11_see.cls ≠ "java/lang/invoke/MethodHandle" ∧ yX11_see.cls ≠ "java/lang/invoke/VarHandle" ∧ (parseMethodDescriptor yX11_see.desc).map (fun d => d.parameters.length) = some 0 := by decide +kernel
set_option maxHeartbeats 4000000 in
set_option maxRecDepth 100000 in
theorem c11_see (l : Launch) (D : va_G) (y : CyT) (zM uM : Nat) {S S' : CS} {h : Nat} {r : Int32} (hf : f11_see S h = some (r, S')) : CT l D y yX11_see cX11_see 2 (some .int) 2 44 zM uM [.ref h] (cZ S) (cU S) (cw y S) (cZ S') (cU S') (cw y S') (some (.int r)) := by
  refine CT.of (by decide) (Nat.le_of_ble_eq_true rfl) (fun E hc hzz hnm => ?_)
  have hc : Cx E "FarEditors" cX11_see 2 := hc
  have hz := hzz.1
  have hT := hz.2.2.1
  show V E (cZ S) (cU S) (cw y S) 0 [(0, .ref h)] []
  unfold f11_see at hf
  refine V_aload_n hc dX11_see_0 rfl 0 rfl ?_
  obtain ⟨a1, ha1, hf⟩ := mb hf
  refine C_getr hc rfl iW11 (by decide) 0 (by decide) rfl ha1 w2_193 dX11_see_1 ?_
  obtain ⟨v2, hv2, hf⟩ := mb hf
  refine C_geti hc rfl iW8 (by decide) 1 (by decide) rfl hv2 w1_38 dX11_see_4 ?_
  refine V_istore_n hc dX11_see_7 rfl (by decide) rfl ?_
  refine V_aload_n hc dX11_see_8 rfl 1 rfl ?_
  obtain ⟨a3, ha3, hf⟩ := mb hf
  refine C_getr hc rfl iW11 (by decide) 0 (by decide) rfl ha3 w2_193 dX11_see_9 ?_
  refine V_iconst hc (v := (0 : Int32)) dX11_see_12 rfl ?_
  obtain ⟨S4, hS4, hf⟩ := mb hf
  refine C_puti hc rfl iW8 tyX8 tyX8_ok nmX8 (by decide) 1 (by decide) rfl hS4 w1_38 rfl rfl rfl dX11_see_13 ?_
  refine V_aload_n hc dX11_see_16 rfl 1 rfl ?_
  obtain ⟨a5, ha5, hf⟩ := mb hf
  refine C_getr hc rfl iW11 (by decide) 3 (by decide) rfl ha5 w2_196 dX11_see_17 ?_
  obtain ⟨v6, hv6, hf⟩ := mb hf
  refine C_geti hc rfl iW10 (by decide) 6 (by decide) rfl hv6 w2_86 dX11_see_20 ?_
  refine V_if_eq hc dX11_see_23 rfl (fun hq23 => ?_) (fun hq23 => ?_)
  · rw [if_pos hq23] at hf
    refine V_aload_n hc dX11_see_44 rfl 1 rfl ?_
    refine V_iconst hc (v := (1 : Int32)) dX11_see_45 rfl ?_
    obtain ⟨v7, S8, hv7, hf⟩ := mb2 hf
    obtain ⟨hkv7, hv7⟩ := og hv7
    refine C_callV hc hz (As := [.int (1 : Int32)]) hkv7 (by decide) (c11_refuse l D y _ _ hv7) w3_4 w3_6 wp1_0 w1_1 w3_7 hdX_X11_refuse ⟨(Nat.le_of_ble_eq_true rfl), (Nat.le_of_ble_eq_true rfl)⟩ rfl rfl rfl (Nat.le_of_ble_eq_true rfl) dX11_see_46 ?_
    obtain ⟨rfl, rfl⟩ := si2 hf
    exact V_iret hc hzz rfl rfl rfl rfl rfl dX11_see_49
  · rw [if_neg hq23] at hf
    refine V_aload_n hc dX11_see_26 rfl 1 rfl ?_
    obtain ⟨a9, ha9, hf⟩ := mb hf
    refine C_getr hc rfl iW11 (by decide) 6 (by decide) rfl ha9 w2_199 dX11_see_27 ?_
    refine V_aload_n hc dX11_see_30 rfl 1 rfl ?_
    obtain ⟨a10, ha10, hf⟩ := mb hf
    refine C_getr hc rfl iW11 (by decide) 0 (by decide) rfl ha10 w2_193 dX11_see_31 ?_
    obtain ⟨a11, ha11, hf⟩ := mb hf
    refine C_getr hc rfl iW8 (by decide) 0 (by decide) rfl ha11 w1_36 dX11_see_34 ?_
    refine V_iload_n hc dX11_see_37 rfl 0 rfl ?_
    obtain ⟨v12, hv12, hf⟩ := mb hf
    obtain ⟨hkv12, hv12⟩ := og hv12
    refine C_callV hc hz (As := [.ref a11, .int v2]) hkv12 (by decide) (c0_canSee l D y _ _ hv12) w5_121 w5_122 w5_123 w1_12 w5_124 hdX_X0_canSee ⟨(Nat.le_of_ble_eq_true rfl), (Nat.le_of_ble_eq_true rfl)⟩ rfl rfl rfl (Nat.le_of_ble_eq_true rfl) dX11_see_38 ?_
    refine V_if_ne hc dX11_see_41 rfl (fun hq41 => ?_) (fun hq41 => ?_)
    · rw [if_neg hq41] at hf
      refine V_aload_n hc dX11_see_50 rfl 1 rfl ?_
      obtain ⟨a13, ha13, hf⟩ := mb hf
      refine C_getr hc rfl iW11 (by decide) 6 (by decide) rfl ha13 w2_199 dX11_see_51 ?_
      refine V_aload_n hc dX11_see_54 rfl 1 rfl ?_
      obtain ⟨a14, ha14, hf⟩ := mb hf
      refine C_getr hc rfl iW11 (by decide) 0 (by decide) rfl ha14 w2_193 dX11_see_55 ?_
      obtain ⟨a15, ha15, hf⟩ := mb hf
      refine C_getr hc rfl iW8 (by decide) 0 (by decide) rfl ha15 w1_36 dX11_see_58 ?_
      refine V_iload_n hc dX11_see_61 rfl 0 rfl ?_
      obtain ⟨S16, hS16, hf⟩ := mb hf
      obtain ⟨hkS16, hS16⟩ := og hS16
      refine C_callV hc hz (As := [.ref a15, .int v2]) hkS16 (by decide) (c0_setSeen l D y _ _ hS16) w5_125 w5_126 w5_127 w1_12 w5_128 hdX_X0_setSeen ⟨(Nat.le_of_ble_eq_true rfl), (Nat.le_of_ble_eq_true rfl)⟩ rfl rfl rfl (Nat.le_of_ble_eq_true rfl) dX11_see_62 ?_
      refine V_aload_n hc dX11_see_65 rfl 1 rfl ?_
      obtain ⟨a17, ha17, hf⟩ := mb hf
      refine C_getr hc rfl iW11 (by decide) 6 (by decide) rfl ha17 w2_199 dX11_see_66 ?_
      obtain ⟨v18, hv18, hf⟩ := mb hf
      refine C_geti hc rfl iW0 (by decide) 8 (by decide) rfl hv18 w2_165 dX11_see_69 ?_
      obtain ⟨rfl, rfl⟩ := si2 hf
      exact V_iret hc hzz rfl rfl rfl rfl rfl dX11_see_72
    · rw [if_pos hq41] at hf
      refine V_aload_n hc dX11_see_44 rfl 1 rfl ?_
      refine V_iconst hc (v := (1 : Int32)) dX11_see_45 rfl ?_
      obtain ⟨v19, S20, hv19, hf⟩ := mb2 hf
      obtain ⟨hkv19, hv19⟩ := og hv19
      refine C_callV hc hz (As := [.int (1 : Int32)]) hkv19 (by decide) (c11_refuse l D y _ _ hv19) w3_4 w3_6 wp1_0 w1_1 w3_7 hdX_X11_refuse ⟨(Nat.le_of_ble_eq_true rfl), (Nat.le_of_ble_eq_true rfl)⟩ rfl rfl rfl (Nat.le_of_ble_eq_true rfl) dX11_see_46 ?_
      obtain ⟨rfl, rfl⟩ := si2 hf
      exact V_iret hc hzz rfl rfl rfl rfl rfl dX11_see_49
noncomputable def f11_fits (X : Nat × Nat) (S : CS) (h : Nat) (p1 : Int32) : Option (Int32 × CS) :=
  (gr S 11 h 3).bind fun a1 =>
  (gi S 10 a1 6).bind fun v2 =>
  if v2 = 0 then (
    some ((-1 : Int32), S)
  ) else (
    if (-1 : Int32) ≤ p1 then (
      (cal S 11 h (f11_reckonEnds X S h)).bind fun S3 =>
      (
        if p1 = (-1 : Int32) then (
          (gr S3 11 h 6).bind fun a8 =>
          (cal S3 0 a8 (f0_countFits S3 a8)).bind fun v9 =>
          some v9
        ) else (
          (gr S3 11 h 6).bind fun a6 =>
          (cal S3 0 a6 (f0_findFit S3 a6 p1)).bind fun v7 =>
          some v7
        )
      ).bind fun v4 =>
      some (v4, S3)
    ) else (
      some ((-1 : Int32), S)
    )
  )
theorem hdX_X11_fits : yX11_fits.cls = "FarEditors" ∧ yX11_fits.cls ≠ "java/lang/invoke/MethodHandle" ∧ yX11_fits.cls ≠ "java/lang/invoke/VarHandle" ∧ (parseMethodDescriptor yX11_fits.desc).map (fun d => d.parameters.length) = some 1 := by decide +kernel
set_option maxHeartbeats 4000000 in
set_option maxRecDepth 100000 in
theorem c11_fits (l : Launch) (D : va_G) (y : CyT) (X : Nat × Nat) (hX : X.2 ≤ 100000000) {S S' : CS} {h : Nat} {p1 : Int32} {r : Int32} (hf : f11_fits X S h p1 = some (r, S')) : CT l D y yX11_fits cX11_fits 2 (some .int) 7 162 X.1 X.2 [.ref h, .int p1] (cZ S) (cU S) (cw y S) (cZ S') (cU S') (cw y S') (some (.int r)) := by
  refine CT.of (by decide) (Nat.le_of_ble_eq_true rfl) (fun E hc hzz hnm => ?_)
  have hc : Cx E "FarEditors" cX11_fits 2 := hc
  have hz := hzz.1
  have hT := hz.2.2.1
  show V E (cZ S) (cU S) (cw y S) 0 [(0, .ref h), (1, .int p1)] []
  unfold f11_fits at hf
  refine V_aload_n hc dX11_fits_0 rfl 0 rfl ?_
  obtain ⟨a1, ha1, hf⟩ := mb hf
  refine C_getr hc rfl iW11 (by decide) 3 (by decide) rfl ha1 w2_196 dX11_fits_1 ?_
  obtain ⟨v2, hv2, hf⟩ := mb hf
  refine C_geti hc rfl iW10 (by decide) 6 (by decide) rfl hv2 w2_86 dX11_fits_4 ?_
  refine V_if_eq hc dX11_fits_7 rfl (fun hq7 => ?_) (fun hq7 => ?_)
  · rw [if_pos hq7] at hf
    refine V_iconst hc (v := (-1 : Int32)) dX11_fits_15 rfl ?_
    obtain ⟨rfl, rfl⟩ := si2 hf
    exact V_iret hc hzz rfl rfl rfl rfl rfl dX11_fits_16
  · rw [if_neg hq7] at hf
    refine V_iload_n hc dX11_fits_10 rfl 1 rfl ?_
    refine V_iconst hc (v := (-1 : Int32)) dX11_fits_11 rfl ?_
    refine V_icmp_ge hc dX11_fits_12 rfl (fun hq12 => ?_) (fun hq12 => ?_)
    · rw [if_pos hq12] at hf
      refine V_aload_n hc dX11_fits_17 rfl 0 rfl ?_
      obtain ⟨S3, hS3, hf⟩ := mb hf
      obtain ⟨hkS3, hS3⟩ := og hS3
      refine C_callV hc hz (As := []) hkS3 (by decide) (c11_reckonEnds l D y X hX hS3) w5_89 w5_91 wp3_8 w1_1 w5_92 hdX_X11_reckonEnds ⟨(Nat.le_of_ble_eq_true rfl), (Nat.le_of_ble_eq_true rfl)⟩ rfl rfl rfl (Nat.le_of_ble_eq_true rfl) dX11_fits_18 ?_
      refine V_iload_n hc dX11_fits_21 rfl 1 rfl ?_
      refine V_iconst hc (v := (-1 : Int32)) dX11_fits_22 rfl ?_
      obtain ⟨v4, hv5, hf⟩ := mb hf
      have hJ23 : V E (cZ S3) (cU S3) (cw y S3) 44 [] [.int v4] := by
        obtain ⟨rfl, rfl⟩ := si2 hf
        exact V_iret hc hzz rfl rfl rfl rfl rfl dX11_fits_44
      refine V_icmp_ne hc dX11_fits_23 rfl (fun hq23 => ?_) (fun hq23 => ?_)
      · rw [if_neg hq23] at hv5
        refine V_aload_n hc dX11_fits_36 rfl 0 rfl ?_
        obtain ⟨a6, ha6, hv5⟩ := mb hv5
        refine C_getr hc rfl iW11 (by decide) 6 (by decide) rfl ha6 w2_199 dX11_fits_37 ?_
        refine V_iload_n hc dX11_fits_40 rfl 1 rfl ?_
        obtain ⟨v7, hv7, hv5⟩ := mb hv5
        obtain ⟨hkv7, hv7⟩ := og hv7
        refine C_callV hc hz (As := [.int p1]) hkv7 (by decide) (c0_findFit l D y _ _ hv7) w5_143 w5_144 w5_145 w1_12 w5_146 hdX_X0_findFit ⟨(Nat.le_of_ble_eq_true rfl), (Nat.le_of_ble_eq_true rfl)⟩ rfl rfl rfl (Nat.le_of_ble_eq_true rfl) dX11_fits_41 ?_
        obtain rfl := Option.some.inj hv5
        exact V_sub [] rfl hJ23
      · rw [if_pos hq23] at hv5
        refine V_aload_n hc dX11_fits_26 rfl 0 rfl ?_
        obtain ⟨a8, ha8, hv5⟩ := mb hv5
        refine C_getr hc rfl iW11 (by decide) 6 (by decide) rfl ha8 w2_199 dX11_fits_27 ?_
        obtain ⟨v9, hv9, hv5⟩ := mb hv5
        obtain ⟨hkv9, hv9⟩ := og hv9
        refine C_callV hc hz (As := []) hkv9 (by decide) (c0_countFits l D y _ _ hv9) w5_134 w5_135 w5_136 w1_12 w5_137 hdX_X0_countFits ⟨(Nat.le_of_ble_eq_true rfl), (Nat.le_of_ble_eq_true rfl)⟩ rfl rfl rfl (Nat.le_of_ble_eq_true rfl) dX11_fits_30 ?_
        refine V_goto hc dX11_fits_33 rfl ?_
        obtain rfl := Option.some.inj hv5
        exact V_sub [] rfl hJ23
    · rw [if_neg hq12] at hf
      refine V_iconst hc (v := (-1 : Int32)) dX11_fits_15 rfl ?_
      obtain ⟨rfl, rfl⟩ := si2 hf
      exact V_iret hc hzz rfl rfl rfl rfl rfl dX11_fits_16
