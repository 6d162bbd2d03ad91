noncomputable def LX10_takeFrom_58 (X : Nat × Nat) (h : Nat) (c1 : Int32) (c2 : Nat) (c3 : Nat) : Nat → Int32 → CS → Option (CS)
  | 0, _, _ => none
  | n + 1, i4, S =>
    (gi S 10 h 11).bind fun v1 =>
    if v1 ≤ i4 then (
      some S
    ) else (
      (gr S 10 h 1).bind fun a2 =>
      (gr S 9 a2 5).bind fun a3 =>
      (gr S 10 h 0).bind fun a4 =>
      (gr S 6 a4 1).bind fun a5 =>
      (ldr S 17 a5 i4).bind fun a6 =>
      (cal S 4 a3 (f4_copy X S a3 a6)).bind fun S7 =>
      (gr S7 10 h 1).bind fun a8 =>
      (gr S7 10 h 1).bind fun a9 =>
      (gr S7 9 a9 5).bind fun a10 =>
      (gr S7 10 h 0).bind fun a11 =>
      (gr S7 6 a11 2).bind fun a12 =>
      (ldi S7 a12 i4).bind fun v13 =>
      (cal S7 10 h (f10_isAhead S7 h c1 v13)).bind fun v14 =>
      (cal S7 9 a8 (f9_turn X S7 a8 c3 a10 v14)).bind fun S15 =>
      LX10_takeFrom_58 X h c1 c2 c3 n (i4 + (1 : Int32)) S15
    )
noncomputable def LX10_takeFrom_154 (h : Nat) (c2 : Nat) (c3 : Nat) : Nat → Int32 → CS → Option (CS)
  | 0, _, _ => none
  | n + 1, i4, S =>
    (gi S 10 h 6).bind fun v1 =>
    if v1 ≤ i4 then (
      some S
    ) else (
      (gr S 10 h 3).bind fun a2 =>
      (ldr S 16 a2 i4).bind fun a3 =>
      (gr S 1 a3 6).bind fun a4 =>
      (gi S 10 h 11).bind fun v5 =>
      (gr S 10 h 3).bind fun a6 =>
      (ldr S 16 a6 i4).bind fun a7 =>
      (gi S 1 a7 10).bind fun v8 =>
      (sti S a4 v5 v8).bind fun S9 =>
      LX10_takeFrom_154 h c2 c3 n (i4 + (1 : Int32)) S9
    )
noncomputable def f10_takeFrom (X : Nat × Nat) (S : CS) (h : Nat) (p1 : Int32) : Option (CS) :=
  (cal S 10 h (f10_knows S h p1)).bind fun v1 =>
  if v1 = 0 then (
    some S
  ) else (
    (gi S 10 h 11).bind fun v2 =>
    (gr S 10 h 0).bind fun a3 =>
    (gr S 6 a3 1).bind fun a4 =>
    (aln S 17 a4).bind fun v5 =>
    if v2 < v5 then (
      (gr S 10 h 3).bind fun a6 =>
      (ldr S 16 a6 p1).bind fun a7 =>
      (gr S 10 h 0).bind fun a8 =>
      (gr S 6 a8 1).bind fun a9 =>
      (gi S 10 h 11).bind fun v10 =>
      (ldr S 17 a9 v10).bind fun a11 =>
      (gr S 1 a7 1).bind fun a12 =>
      (cal S 4 a11 (f4_copy X S a11 a12)).bind fun S13 =>
      (gi S13 1 a7 8).bind fun v14 =>
      (LX10_takeFrom_58 X h p1 a7 a11 FU v14 S13).bind fun S15 =>
      (gr S15 10 h 4).bind fun a17 =>
      (ldi S15 a17 p1).bind fun v18 =>
      (cal S15 10 h (f10_countForeignCuts S15 h a11 p1)).bind fun v19 =>
      (sti S15 a17 p1 (v18 + v19)).bind fun S20 =>
      (gr S20 10 h 0).bind fun a21 =>
      (gr S20 6 a21 2).bind fun a22 =>
      (gi S20 10 h 11).bind fun v23 =>
      (sti S20 a22 v23 p1).bind fun S24 =>
      (LX10_takeFrom_154 h a7 a11 FU (0 : Int32) S24).bind fun S25 =>
      (gi S25 10 h 11).bind fun v27 =>
      (pi S25 10 h 11 (v27 + (1 : Int32))).bind fun S28 =>
      (gr S28 10 h 1).bind fun a29 =>
      (gr S28 10 h 2).bind fun a30 =>
      (gi S28 10 h 11).bind fun v31 =>
      (cal S28 9 a29 (f9_change S28 a29 a30 a11 v31)).bind fun S32 =>
      (pi S32 1 a7 11 (-1 : Int32)).bind fun S33 =>
      some S33
    ) else (
      some S
    )
  )
theorem hdX_X10_takeFrom : yX10_takeFrom.cls = "FarEditors$World" ∧ yX10_takeFrom.cls ≠ "java/lang/invoke/MethodHandle" ∧ yX10_takeFrom.cls ≠ "java/lang/invoke/VarHandle" ∧ (parseMethodDescriptor yX10_takeFrom.desc).map (fun d => d.parameters.length) = some 1 := by decide +kernel
set_option maxHeartbeats 4000000 in
set_option maxRecDepth 100000 in
theorem LX10_takeFrom_58_ok {E : CxT} {l : Launch} {D : va_G} {y : CyT}  (hc : Cx E "FarEditors$World" cX10_takeFrom 5) (X : Nat × Nat) (h : Nat) (c1 : Int32) (c2 : Nat) (c3 : Nat) (hz : Cy E l D y 3 69 X.1 X.2) (hX : X.2 ≤ 100000000) : ∀ (n : Nat) (i4 : Int32) (S : CS) {So : CS}, LX10_takeFrom_58 X h c1 c2 c3 n i4 S = some So → (hx0 : V E (cZ So) (cU So) (cw y So) 123 [(0, .ref h), (1, .int c1), (2, .ref c2), (3, .ref c3)] []) → V E (cZ S) (cU S) (cw y S) 58 [(0, .ref h), (1, .int c1), (2, .ref c2), (3, .ref c3), (4, .int i4)] [] := by
  have hT := hz.2.2.1
  intro n
  induction n with
  | zero => intro i4 S So hf; cases hf
  | succ n ih =>
    intro i4 S So hf hx0
    unfold LX10_takeFrom_58 at hf
    refine V_iload hc dX10_takeFrom_58 4 rfl ?_
    refine V_aload_n hc dX10_takeFrom_60 rfl 0 rfl ?_
    obtain ⟨v1, hv1, hf⟩ := mb hf
    refine C_geti hc rfl iW10 (by decide) 11 (by decide) rfl hv1 w2_95 dX10_takeFrom_61 ?_
    refine V_icmp_ge hc dX10_takeFrom_64 rfl (fun hq64 => ?_) (fun hq64 => ?_)
    · rw [if_pos hq64] at hf
      obtain rfl := Option.some.inj hf
      exact V_sub [0, 1, 2, 3] rfl hx0
    · rw [if_neg hq64] at hf
      refine V_aload_n hc dX10_takeFrom_67 rfl 0 rfl ?_
      obtain ⟨a2, ha2, hf⟩ := mb hf
      refine C_getr hc rfl iW10 (by decide) 1 (by decide) rfl ha2 w2_73 dX10_takeFrom_68 ?_
      obtain ⟨a3, ha3, hf⟩ := mb hf
      refine C_getr hc rfl iW9 (by decide) 5 (by decide) rfl ha3 w1_137 dX10_takeFrom_71 ?_
      refine V_aload_n hc dX10_takeFrom_74 rfl 0 rfl ?_
      obtain ⟨a4, ha4, hf⟩ := mb hf
      refine C_getr hc rfl iW10 (by decide) 0 (by decide) rfl ha4 w2_71 dX10_takeFrom_75 ?_
      obtain ⟨a5, ha5, hf⟩ := mb hf
      refine C_getr hc rfl iW6 (by decide) 1 (by decide) rfl ha5 w1_185 dX10_takeFrom_78 ?_
      refine V_iload hc dX10_takeFrom_81 4 rfl ?_
      obtain ⟨a6, ha6, hf⟩ := mb hf
      refine C_aald hc hT (by decide) (by decide) ha6 dX10_takeFrom_83 ?_
      obtain ⟨S7, hS7, hf⟩ := mb hf
      obtain ⟨hkS7, hS7⟩ := og hS7
      refine C_callV hc hz (As := [.ref a6]) hkS7 (by decide) (c4_copy l D y X hX hS7) w4_7 w4_8 w4_9 w1_5 w4_10 hdX_X4_copy ⟨(Nat.le_of_ble_eq_true rfl), (Nat.le_of_ble_eq_true rfl)⟩ rfl rfl rfl (Nat.le_of_ble_eq_true rfl) dX10_takeFrom_84 ?_
      refine V_aload_n hc dX10_takeFrom_87 rfl 0 rfl ?_
      obtain ⟨a8, ha8, hf⟩ := mb hf
      refine C_getr hc rfl iW10 (by decide) 1 (by decide) rfl ha8 w2_73 dX10_takeFrom_88 ?_
      refine V_aload_n hc dX10_takeFrom_91 rfl 3 rfl ?_
      refine V_aload_n hc dX10_takeFrom_92 rfl 0 rfl ?_
      obtain ⟨a9, ha9, hf⟩ := mb hf
      refine C_getr hc rfl iW10 (by decide) 1 (by decide) rfl ha9 w2_73 dX10_takeFrom_93 ?_
      obtain ⟨a10, ha10, hf⟩ := mb hf
      refine C_getr hc rfl iW9 (by decide) 5 (by decide) rfl ha10 w1_137 dX10_takeFrom_96 ?_
      refine V_aload_n hc dX10_takeFrom_99 rfl 0 rfl ?_
      refine V_iload_n hc dX10_takeFrom_100 rfl 1 rfl ?_
      refine V_aload_n hc dX10_takeFrom_101 rfl 0 rfl ?_
      obtain ⟨a11, ha11, hf⟩ := mb hf
      refine C_getr hc rfl iW10 (by decide) 0 (by decide) rfl ha11 w2_71 dX10_takeFrom_102 ?_
      obtain ⟨a12, ha12, hf⟩ := mb hf
      refine C_getr hc rfl iW6 (by decide) 2 (by decide) rfl ha12 w1_187 dX10_takeFrom_105 ?_
      refine V_iload hc dX10_takeFrom_108 4 rfl ?_
      obtain ⟨v13, hv13, hf⟩ := mb hf
      refine C_iald hc hT hv13 dX10_takeFrom_110 ?_
      obtain ⟨v14, hv14, hf⟩ := mb hf
      obtain ⟨hkv14, hv14⟩ := og hv14
      refine C_callV hc hz (As := [.int c1, .int v13]) hkv14 (by decide) (c10_isAhead l D y _ _ hv14) w4_12 w4_13 w4_14 w1_8 w4_15 hdX_X10_isAhead ⟨(Nat.le_of_ble_eq_true rfl), (Nat.le_of_ble_eq_true rfl)⟩ rfl rfl rfl (Nat.le_of_ble_eq_true rfl) dX10_takeFrom_111 ?_
      obtain ⟨S15, hS15, hf⟩ := mb hf
      obtain ⟨hkS15, hS15⟩ := og hS15
      refine C_callV hc hz (As := [.ref c3, .ref a10, .int v14]) hkS15 (by decide) (c9_turn l D y X hX hS15) w4_16 w4_17 w4_18 w1_3 w4_19 hdX_X9_turn ⟨(Nat.le_of_ble_eq_true rfl), (Nat.le_of_ble_eq_true rfl)⟩ rfl rfl rfl (Nat.le_of_ble_eq_true rfl) dX10_takeFrom_114 ?_
      refine V_iinc hc (j := 4) (v := (i4 + (1 : Int32))) dX10_takeFrom_117 rfl rfl (by decide) rfl ?_
      refine V_goto hc dX10_takeFrom_120 rfl ?_
      exact V_sub [1, 2, 3, 4, 0] rfl (ih _ _ hf hx0)
set_option maxHeartbeats 4000000 in
set_option maxRecDepth 100000 in
theorem LX10_takeFrom_154_ok {E : CxT} {l : Launch} {D : va_G} {y : CyT} {zM uM : Nat} (hc : Cx E "FarEditors$World" cX10_takeFrom 5) (h : Nat) (c2 : Nat) (c3 : Nat) (hz : Cy E l D y 3 69 zM uM) : ∀ (n : Nat) (i4 : Int32) (S : CS) {So : CS}, LX10_takeFrom_154 h c2 c3 n i4 S = some So → (hx0 : V E (cZ So) (cU So) (cw y So) 194 [(0, .ref h), (2, .ref c2), (3, .ref c3)] []) → V E (cZ S) (cU S) (cw y S) 154 [(0, .ref h), (2, .ref c2), (3, .ref c3), (4, .int i4)] [] := by
  have hT := hz.2.2.1
  intro n
  induction n with
  | zero => intro i4 S So hf; cases hf
  | succ n ih =>
    intro i4 S So hf hx0
    unfold LX10_takeFrom_154 at hf
    refine V_iload hc dX10_takeFrom_154 3 rfl ?_
    refine V_aload_n hc dX10_takeFrom_156 rfl 0 rfl ?_
    obtain ⟨v1, hv1, hf⟩ := mb hf
    refine C_geti hc rfl iW10 (by decide) 6 (by decide) rfl hv1 w2_84 dX10_takeFrom_157 ?_
    refine V_icmp_ge hc dX10_takeFrom_160 rfl (fun hq160 => ?_) (fun hq160 => ?_)
    · rw [if_pos hq160] at hf
      obtain rfl := Option.some.inj hf
      exact V_sub [0, 1, 2] rfl hx0
    · rw [if_neg hq160] at hf
      refine V_aload_n hc dX10_takeFrom_163 rfl 0 rfl ?_
      obtain ⟨a2, ha2, hf⟩ := mb hf
      refine C_getr hc rfl iW10 (by decide) 3 (by decide) rfl ha2 w2_78 dX10_takeFrom_164 ?_
      refine V_iload hc dX10_takeFrom_167 3 rfl ?_
      obtain ⟨a3, ha3, hf⟩ := mb hf
      refine C_aald hc hT (by decide) (by decide) ha3 dX10_takeFrom_169 ?_
      obtain ⟨a4, ha4, hf⟩ := mb hf
      refine C_getr hc rfl iW1 (by decide) 6 (by decide) rfl ha4 w2_15 dX10_takeFrom_170 ?_
      refine V_aload_n hc dX10_takeFrom_173 rfl 0 rfl ?_
      obtain ⟨v5, hv5, hf⟩ := mb hf
      refine C_geti hc rfl iW10 (by decide) 11 (by decide) rfl hv5 w2_95 dX10_takeFrom_174 ?_
      refine V_aload_n hc dX10_takeFrom_177 rfl 0 rfl ?_
      obtain ⟨a6, ha6, hf⟩ := mb hf
      refine C_getr hc rfl iW10 (by decide) 3 (by decide) rfl ha6 w2_78 dX10_takeFrom_178 ?_
      refine V_iload hc dX10_takeFrom_181 3 rfl ?_
      obtain ⟨a7, ha7, hf⟩ := mb hf
      refine C_aald hc hT (by decide) (by decide) ha7 dX10_takeFrom_183 ?_
      obtain ⟨v8, hv8, hf⟩ := mb hf
      refine C_geti hc rfl iW1 (by decide) 10 (by decide) rfl hv8 w2_26 dX10_takeFrom_184 ?_
      obtain ⟨S9, hS9, hf⟩ := mb hf
      refine C_iast hc hT hS9 dX10_takeFrom_187 ?_
      refine V_iinc hc (j := 3) (v := (i4 + (1 : Int32))) dX10_takeFrom_188 rfl rfl (by decide) rfl ?_
      refine V_goto hc dX10_takeFrom_191 rfl ?_
      exact V_sub [1, 2, 3, 0] rfl (ih _ _ hf hx0)
set_option maxHeartbeats 4000000 in
set_option maxRecDepth 100000 in
theorem c10_takeFrom (l : Launch) (D : va_G) (y : CyT) (X : Nat × Nat) (hX : X.2 ≤ 100000000) {S S' : CS} {h : Nat} {p1 : Int32} (hf : f10_takeFrom X S h p1 = some S') : CT l D y yX10_takeFrom cX10_takeFrom 5 none 3 69 X.1 X.2 [.ref h, .int p1] (cZ S) (cU S) (cw y S) (cZ S') (cU S') (cw y S') none := by
  refine CT.of (by decide) (Nat.le_of_ble_eq_true rfl) (fun E hc hzz hnm => ?_)
  have hc : Cx E "FarEditors$World" cX10_takeFrom 5 := hc
  have hz := hzz.1
  have hT := hz.2.2.1
  show V E (cZ S) (cU S) (cw y S) 0 [(0, .ref h), (1, .int p1)] []
  unfold f10_takeFrom at hf
  refine V_aload_n hc dX10_takeFrom_0 rfl 0 rfl ?_
  refine V_iload_n hc dX10_takeFrom_1 rfl 1 rfl ?_
  obtain ⟨v1, hv1, hf⟩ := mb hf
  obtain ⟨hkv1, hv1⟩ := og hv1
  refine C_callV hc hz (As := [.int p1]) hkv1 (by decide) (c10_knows l D y _ _ hv1) w4_6 w3_223 w3_224 w1_8 w3_225 hdX_X10_knows ⟨(Nat.le_of_ble_eq_true rfl), (Nat.le_of_ble_eq_true rfl)⟩ rfl rfl rfl (Nat.le_of_ble_eq_true rfl) dX10_takeFrom_2 ?_
  refine V_if_eq hc dX10_takeFrom_5 rfl (fun hq5 => ?_) (fun hq5 => ?_)
  · rw [if_pos hq5] at hf
    obtain rfl := Option.some.inj hf
    exact V_vret hc hzz rfl rfl rfl rfl dX10_takeFrom_23
  · rw [if_neg hq5] at hf
    refine V_aload_n hc dX10_takeFrom_8 rfl 0 rfl ?_
    obtain ⟨v2, hv2, hf⟩ := mb hf
    refine C_geti hc rfl iW10 (by decide) 11 (by decide) rfl hv2 w2_95 dX10_takeFrom_9 ?_
    refine V_aload_n hc dX10_takeFrom_12 rfl 0 rfl ?_
    obtain ⟨a3, ha3, hf⟩ := mb hf
    refine C_getr hc rfl iW10 (by decide) 0 (by decide) rfl ha3 w2_71 dX10_takeFrom_13 ?_
    obtain ⟨a4, ha4, hf⟩ := mb hf
    refine C_getr hc rfl iW6 (by decide) 1 (by decide) rfl ha4 w1_185 dX10_takeFrom_16 ?_
    obtain ⟨v5, hv5, hf⟩ := mb hf
    refine C_alenr hc hT (by decide) (by decide) hv5 dX10_takeFrom_19 ?_
    refine V_icmp_lt hc dX10_takeFrom_20 rfl (fun hq20 => ?_) (fun hq20 => ?_)
    · rw [if_pos hq20] at hf
      refine V_aload_n hc dX10_takeFrom_24 rfl 0 rfl ?_
      obtain ⟨a6, ha6, hf⟩ := mb hf
      refine C_getr hc rfl iW10 (by decide) 3 (by decide) rfl ha6 w2_78 dX10_takeFrom_25 ?_
      refine V_iload_n hc dX10_takeFrom_28 rfl 1 rfl ?_
      obtain ⟨a7, ha7, hf⟩ := mb hf
      refine C_aald hc hT (by decide) (by decide) ha7 dX10_takeFrom_29 ?_
      refine V_astore_n hc dX10_takeFrom_30 rfl (by decide) rfl ?_
      refine V_aload_n hc dX10_takeFrom_31 rfl 1 rfl ?_
      obtain ⟨a8, ha8, hf⟩ := mb hf
      refine C_getr hc rfl iW10 (by decide) 0 (by decide) rfl ha8 w2_71 dX10_takeFrom_32 ?_
      obtain ⟨a9, ha9, hf⟩ := mb hf
      refine C_getr hc rfl iW6 (by decide) 1 (by decide) rfl ha9 w1_185 dX10_takeFrom_35 ?_
      refine V_aload_n hc dX10_takeFrom_38 rfl 1 rfl ?_
      obtain ⟨v10, hv10, hf⟩ := mb hf
      refine C_geti hc rfl iW10 (by decide) 11 (by decide) rfl hv10 w2_95 dX10_takeFrom_39 ?_
      obtain ⟨a11, ha11, hf⟩ := mb hf
      refine C_aald hc hT (by decide) (by decide) ha11 dX10_takeFrom_42 ?_
      refine V_astore_n hc dX10_takeFrom_43 rfl (by decide) rfl ?_
      refine V_aload_n hc dX10_takeFrom_44 rfl 0 rfl ?_
      refine V_aload_n hc dX10_takeFrom_45 rfl 1 rfl ?_
      obtain ⟨a12, ha12, hf⟩ := mb hf
      refine C_getr hc rfl iW1 (by decide) 1 (by decide) rfl ha12 w2_2 dX10_takeFrom_46 ?_
      obtain ⟨S13, hS13, hf⟩ := mb hf
      obtain ⟨hkS13, hS13⟩ := og hS13
      refine C_callV hc hz (As := [.ref a12]) hkS13 (by decide) (c4_copy l D y X hX hS13) w4_7 w4_8 w4_9 w1_5 w4_10 hdX_X4_copy ⟨(Nat.le_of_ble_eq_true rfl), (Nat.le_of_ble_eq_true rfl)⟩ rfl rfl rfl (Nat.le_of_ble_eq_true rfl) dX10_takeFrom_49 ?_
      refine V_aload_n hc dX10_takeFrom_52 rfl 1 rfl ?_
      obtain ⟨v14, hv14, hf⟩ := mb hf
      refine C_geti hc rfl iW1 (by decide) 8 (by decide) rfl hv14 w2_20 dX10_takeFrom_53 ?_
      refine V_istore hc dX10_takeFrom_56 (by decide) rfl ?_
      obtain ⟨S15, hv16, hf⟩ := mb hf
      refine V_sub [3, 4, 2, 1, 0] rfl (LX10_takeFrom_58_ok hc X h p1 a7 a11 hz hX FU _ _ hv16 ?_)
      refine V_aload_n hc dX10_takeFrom_123 rfl 0 rfl ?_
      obtain ⟨a17, ha17, hf⟩ := mb hf
      refine C_getr hc rfl iW10 (by decide) 4 (by decide) rfl ha17 w2_81 dX10_takeFrom_124 ?_
      refine V_iload_n hc dX10_takeFrom_127 rfl 1 rfl ?_
      refine V_dup2 hc dX10_takeFrom_128 rfl rfl ?_
      obtain ⟨v18, hv18, hf⟩ := mb hf
      refine C_iald hc hT hv18 dX10_takeFrom_129 ?_
      refine V_aload_n hc dX10_takeFrom_130 rfl 0 rfl ?_
      refine V_aload_n hc dX10_takeFrom_131 rfl 3 rfl ?_
      refine V_iload_n hc dX10_takeFrom_132 rfl 1 rfl ?_
      obtain ⟨v19, hv19, hf⟩ := mb hf
      obtain ⟨hkv19, hv19⟩ := og hv19
      refine C_callV hc hz (As := [.ref a11, .int p1]) hkv19 (by decide) (c10_countForeignCuts l D y _ _ hv19) w4_65 w4_67 wp2_13 w1_8 w4_68 hdX_X10_countForeignCuts ⟨(Nat.le_of_ble_eq_true rfl), (Nat.le_of_ble_eq_true rfl)⟩ rfl rfl rfl (Nat.le_of_ble_eq_true rfl) dX10_takeFrom_133 ?_
      refine V_iadd hc dX10_takeFrom_136 ?_
      obtain ⟨S20, hS20, hf⟩ := mb hf
      refine C_iast hc hT hS20 dX10_takeFrom_137 ?_
      refine V_aload_n hc dX10_takeFrom_138 rfl 0 rfl ?_
      obtain ⟨a21, ha21, hf⟩ := mb hf
      refine C_getr hc rfl iW10 (by decide) 0 (by decide) rfl ha21 w2_71 dX10_takeFrom_139 ?_
      obtain ⟨a22, ha22, hf⟩ := mb hf
      refine C_getr hc rfl iW6 (by decide) 2 (by decide) rfl ha22 w1_187 dX10_takeFrom_142 ?_
      refine V_aload_n hc dX10_takeFrom_145 rfl 0 rfl ?_
      obtain ⟨v23, hv23, hf⟩ := mb hf
      refine C_geti hc rfl iW10 (by decide) 11 (by decide) rfl hv23 w2_95 dX10_takeFrom_146 ?_
      refine V_iload_n hc dX10_takeFrom_149 rfl 1 rfl ?_
      obtain ⟨S24, hS24, hf⟩ := mb hf
      refine C_iast hc hT hS24 dX10_takeFrom_150 ?_
      refine V_iconst hc (v := (0 : Int32)) dX10_takeFrom_151 rfl ?_
      refine V_istore hc dX10_takeFrom_152 (by decide) rfl ?_
      obtain ⟨S25, hv26, hf⟩ := mb hf
      refine V_sub [1, 3, 4, 0] rfl (LX10_takeFrom_154_ok hc h a7 a11 hz FU _ _ hv26 ?_)
      refine V_aload_n hc dX10_takeFrom_194 rfl 0 rfl ?_
      refine V_dup hc dX10_takeFrom_195 rfl ?_
      obtain ⟨v27, hv27, hf⟩ := mb hf
      refine C_geti hc rfl iW10 (by decide) 11 (by decide) rfl hv27 w2_95 dX10_takeFrom_196 ?_
      refine V_iconst hc (v := (1 : Int32)) dX10_takeFrom_199 rfl ?_
      refine V_iadd hc dX10_takeFrom_200 ?_
      obtain ⟨S28, hS28, hf⟩ := mb hf
      refine C_puti hc rfl iW10 tyX10 tyX10_ok nmX10 (by decide) 11 (by decide) rfl hS28 w2_95 rfl rfl rfl dX10_takeFrom_201 ?_
      refine V_aload_n hc dX10_takeFrom_204 rfl 0 rfl ?_
      obtain ⟨a29, ha29, hf⟩ := mb hf
      refine C_getr hc rfl iW10 (by decide) 1 (by decide) rfl ha29 w2_73 dX10_takeFrom_205 ?_
      refine V_aload_n hc dX10_takeFrom_208 rfl 0 rfl ?_
      obtain ⟨a30, ha30, hf⟩ := mb hf
      refine C_getr hc rfl iW10 (by decide) 2 (by decide) rfl ha30 w2_75 dX10_takeFrom_209 ?_
      refine V_aload_n hc dX10_takeFrom_212 rfl 2 rfl ?_
      refine V_aload_n hc dX10_takeFrom_213 rfl 0 rfl ?_
      obtain ⟨v31, hv31, hf⟩ := mb hf
      refine C_geti hc rfl iW10 (by decide) 11 (by decide) rfl hv31 w2_95 dX10_takeFrom_214 ?_
      obtain ⟨S32, hS32, hf⟩ := mb hf
      obtain ⟨hkS32, hS32⟩ := og hS32
      refine C_callV hc hz (As := [.ref a30, .ref a11, .int v31]) hkS32 (by decide) (c9_change l D y _ _ hS32) w4_81 w4_82 w4_83 w1_3 w4_84 hdX_X9_change ⟨(Nat.le_of_ble_eq_true rfl), (Nat.le_of_ble_eq_true rfl)⟩ rfl rfl rfl (Nat.le_of_ble_eq_true rfl) dX10_takeFrom_217 ?_
      refine V_aload_n hc dX10_takeFrom_220 rfl 1 rfl ?_
      refine V_iconst hc (v := (-1 : Int32)) dX10_takeFrom_221 rfl ?_
      obtain ⟨S33, hS33, hf⟩ := mb hf
      refine C_puti hc rfl iW1 tyX1 tyX1_ok nmX1 (by decide) 11 (by decide) rfl hS33 w2_29 rfl rfl rfl dX10_takeFrom_222 ?_
      obtain rfl := Option.some.inj hf
      exact V_vret hc hzz rfl rfl rfl rfl dX10_takeFrom_225
    · rw [if_neg hq20] at hf
      obtain rfl := Option.some.inj hf
      exact V_vret hc hzz rfl rfl rfl rfl dX10_takeFrom_23
noncomputable def LX0_takeInOrder_31 (X : Nat × Nat) (h : Nat) (c2 : Nat) : Nat → Int32 → Int32 → Int32 → CS → Option (CS)
  | 0, _, _, _, _ => none
  | n + 1, i3, i4, i5, S =>
    if i5 ≤ 0 then (
      some S
    ) else (
      if i5 = 0 then none else
      (
        if (i4 / i5) ≤ 0 then (
          some (0 : Int32)
        ) else (
          if (i4 / i5) = 0 then none else
          some (i3 / (i4 / i5))
        )
      ).bind fun v2 =>
      (
        if i5 ≤ v2 then (
          some S
        ) else (
          (gr S 0 h 2).bind fun a7 =>
          (ldi S a7 v2).bind fun v8 =>
          (cal S 10 c2 (f10_takeFrom X S c2 v8)).bind fun S9 =>
          (gr S9 0 h 2).bind fun a10 =>
          (gr S9 0 h 2).bind fun a11 =>
          (cpy S9 a10 (v2 + (1 : Int32)) a11 v2 ((i5 - v2) - (1 : Int32))).bind fun S12 =>
          some S12
        )
      ).bind fun S5 =>
      LX0_takeInOrder_31 X h c2 n (i3 - (v2 * (i4 / i5))) (i4 / i5) (i5 + (-1 : Int32)) S5
    )
noncomputable def f0_takeInOrder (X : Nat × Nat) (S : CS) (h : Nat) (p1 : Int32) (p2 : Nat) : Option (CS) :=
  (gr S 0 h 1).bind fun a1 =>
  (gr S 0 h 2).bind fun a2 =>
  (gi S 0 h 6).bind fun v3 =>
  (cpy S a1 (0 : Int32) a2 (0 : Int32) v3).bind fun S4 =>
  (gi S4 0 h 7).bind fun v5 =>
  (gi S4 0 h 6).bind fun v6 =>
  (LX0_takeInOrder_31 X h p2 FU p1 v5 v6 S4).bind fun S7 =>
  some S7
theorem hdX_X0_takeInOrder : yX0_takeInOrder.cls = "FarEditors$Comings" ∧ yX0_takeInOrder.cls ≠ "java/lang/invoke/MethodHandle" ∧ yX0_takeInOrder.cls ≠ "java/lang/invoke/VarHandle" ∧ (parseMethodDescriptor yX0_takeInOrder.desc).map (fun d => d.parameters.length) = some 2 := by decide +kernel
set_option maxHeartbeats 4000000 in
set_option maxRecDepth 100000 in
theorem LX0_takeInOrder_31_ok {E : CxT} {l : Launch} {D : va_G} {y : CyT}  (hc : Cx E "FarEditors$Comings" cX0_takeInOrder 7) (X : Nat × Nat) (h : Nat) (c2 : Nat) (hz : Cy E l D y 4 93 X.1 X.2) (hX : X.2 ≤ 100000000) : ∀ (n : Nat) (i3 : Int32) (i4 : Int32) (i5 : Int32) (S : CS) {So : CS}, LX0_takeInOrder_31 X h c2 n i3 i4 i5 S = some So → (hx0 : V E (cZ So) (cU So) (cw y So) 114 [] []) → V E (cZ S) (cU S) (cw y S) 31 [(0, .ref h), (2, .ref c2), (3, .int i3), (4, .int i4), (5, .int i5)] [] := by
  have hT := hz.2.2.1
  intro n
  induction n with
  | zero => intro i3 i4 i5 S So hf; cases hf
  | succ n ih =>
    intro i3 i4 i5 S So hf hx0
    unfold LX0_takeInOrder_31 at hf
    refine V_iload hc dX0_takeInOrder_31 4 rfl ?_
    refine V_if_le hc dX0_takeInOrder_33 rfl (fun hq33 => ?_) (fun hq33 => ?_)
    · rw [if_pos hq33] at hf
      obtain rfl := Option.some.inj hf
      exact V_sub [] rfl hx0
    · rw [if_neg hq33] at hf
      refine V_iload hc dX0_takeInOrder_36 3 rfl ?_
      refine V_iload hc dX0_takeInOrder_38 4 rfl ?_
      have hn1 : ¬ i5 = 0 := fun hh => by rw [if_pos hh] at hf; cases hf
      rw [if_neg hn1] at hf
      refine V_idiv hc dX0_takeInOrder_40 hn1 ?_
      refine V_istore hc dX0_takeInOrder_41 (by decide) rfl ?_
      refine V_iload hc dX0_takeInOrder_43 0 rfl ?_
      obtain ⟨v2, hv3, hf⟩ := mb hf
      have hJ45 : V E (cZ S) (cU S) (cw y S) 56 [(0, .ref h), (2, .ref c2), (3, .int i3), (4, .int (i4 / i5)), (5, .int i5)] [.int v2] := by
        refine V_istore hc dX0_takeInOrder_56 (by decide) rfl ?_
        refine V_iload_n hc dX0_takeInOrder_58 rfl 3 rfl ?_
        refine V_iload hc dX0_takeInOrder_59 0 rfl ?_
        refine V_iload hc dX0_takeInOrder_61 4 rfl ?_
        refine V_imul hc dX0_takeInOrder_63 ?_
        refine V_isub hc dX0_takeInOrder_64 ?_
        refine V_istore_n hc dX0_takeInOrder_65 rfl (by decide) rfl ?_
        refine V_iload hc dX0_takeInOrder_66 1 rfl ?_
        refine V_iload hc dX0_takeInOrder_68 5 rfl ?_
        obtain ⟨S5, hv6, hf⟩ := mb hf
        have hJ70 : V E (cZ S5) (cU S5) (cw y S5) 108 [(0, .ref h), (2, .ref c2), (3, .int (i3 - (v2 * (i4 / i5)))), (4, .int (i4 / i5)), (5, .int i5)] [] := by
          refine V_iinc hc (j := 4) (v := (i5 + (-1 : Int32))) dX0_takeInOrder_108 rfl rfl (by decide) rfl ?_
          refine V_goto hc dX0_takeInOrder_111 rfl ?_
          exact V_sub [1, 2, 3, 4, 0] rfl (ih _ _ _ _ hf hx0)
        refine V_icmp_ge hc dX0_takeInOrder_70 rfl (fun hq70 => ?_) (fun hq70 => ?_)
        · rw [if_pos hq70] at hv6
          obtain rfl := Option.some.inj hv6
          exact V_sub [2, 3, 0, 4, 5] rfl hJ70
        · rw [if_neg hq70] at hv6
          refine V_aload_n hc dX0_takeInOrder_73 rfl 3 rfl ?_
          refine V_aload_n hc dX0_takeInOrder_74 rfl 2 rfl ?_
          obtain ⟨a7, ha7, hv6⟩ := mb hv6
          refine C_getr hc rfl iW0 (by decide) 2 (by decide) rfl ha7 w2_157 dX0_takeInOrder_75 ?_
          refine V_iload hc dX0_takeInOrder_78 1 rfl ?_
          obtain ⟨v8, hv8, hv6⟩ := mb hv6
          refine C_iald hc hT hv8 dX0_takeInOrder_80 ?_
          obtain ⟨S9, hS9, hv6⟩ := mb hv6
          obtain ⟨hkS9, hS9⟩ := og hS9
          refine C_callV hc hz (As := [.int v8]) hkS9 (by decide) (c10_takeFrom l D y X hX hS9) w5_103 w4_3 w4_4 w1_8 w4_5 hdX_X10_takeFrom ⟨(Nat.le_of_ble_eq_true rfl), (Nat.le_of_ble_eq_true rfl)⟩ rfl rfl rfl (Nat.le_of_ble_eq_true rfl) dX0_takeInOrder_81 ?_
          refine V_aload_n hc dX0_takeInOrder_84 rfl 2 rfl ?_
          obtain ⟨a10, ha10, hv6⟩ := mb hv6
          refine C_getr hc rfl iW0 (by decide) 2 (by decide) rfl ha10 w2_157 dX0_takeInOrder_85 ?_
          refine V_iload hc dX0_takeInOrder_88 1 rfl ?_
          refine V_iconst hc (v := (1 : Int32)) dX0_takeInOrder_90 rfl ?_
          refine V_iadd hc dX0_takeInOrder_91 ?_
          refine V_aload_n hc dX0_takeInOrder_92 rfl 2 rfl ?_
          obtain ⟨a11, ha11, hv6⟩ := mb hv6
          refine C_getr hc rfl iW0 (by decide) 2 (by decide) rfl ha11 w2_157 dX0_takeInOrder_93 ?_
          refine V_iload hc dX0_takeInOrder_96 1 rfl ?_
          refine V_iload hc dX0_takeInOrder_98 5 rfl ?_
          refine V_iload hc dX0_takeInOrder_100 1 rfl ?_
          refine V_isub hc dX0_takeInOrder_102 ?_
          refine V_iconst hc (v := (1 : Int32)) dX0_takeInOrder_103 rfl ?_
          refine V_isub hc dX0_takeInOrder_104 ?_
          obtain ⟨S12, hS12, hv6⟩ := mb hv6
          refine C_copy hc hz hS12 w5_102 w3_198 w3_197 w1_19 ⟨(Nat.le_of_ble_eq_true rfl), (Nat.le_of_ble_eq_true rfl)⟩ (Nat.le_of_ble_eq_true rfl) dX0_takeInOrder_105 ?_
          obtain rfl := Option.some.inj hv6
          exact V_sub [2, 3, 0, 4, 5] rfl hJ70
      refine V_if_le hc dX0_takeInOrder_45 rfl (fun hq45 => ?_) (fun hq45 => ?_)
      · rw [if_pos hq45] at hv3
        refine V_iconst hc (v := (0 : Int32)) dX0_takeInOrder_55 rfl ?_
        obtain rfl := Option.some.inj hv3
        exact V_sub [1, 2, 3, 0, 4] rfl hJ45
      · rw [if_neg hq45] at hv3
        refine V_iload_n hc dX0_takeInOrder_48 rfl 3 rfl ?_
        refine V_iload hc dX0_takeInOrder_49 0 rfl ?_
        have hn4 : ¬ (i4 / i5) = 0 := fun hh => by rw [if_pos hh] at hv3; cases hv3
        rw [if_neg hn4] at hv3
        refine V_idiv hc dX0_takeInOrder_51 hn4 ?_
        refine V_goto hc dX0_takeInOrder_52 rfl ?_
        obtain rfl := Option.some.inj hv3
        exact V_sub [1, 2, 3, 0, 4] rfl hJ45
set_option maxHeartbeats 4000000 in
set_option maxRecDepth 100000 in
theorem c0_takeInOrder (l : Launch) (D : va_G) (y : CyT) (X : Nat × Nat) (hX : X.2 ≤ 100000000) {S S' : CS} {h : Nat} {p1 : Int32} {p2 : Nat} (hf : f0_takeInOrder X S h p1 p2 = some S') : CT l D y yX0_takeInOrder cX0_takeInOrder 7 none 4 93 X.1 X.2 [.ref h, .int p1, .ref p2] (cZ S) (cU S) (cw y S) (cZ S') (cU S') (cw y S') none := by
  refine CT.of (by decide) (Nat.le_of_ble_eq_true rfl) (fun E hc hzz hnm => ?_)
  have hc : Cx E "FarEditors$Comings" cX0_takeInOrder 7 := hc
  have hz := hzz.1
  have hT := hz.2.2.1
  show V E (cZ S) (cU S) (cw y S) 0 [(0, .ref h), (1, .int p1), (2, .ref p2)] []
  unfold f0_takeInOrder at hf
  refine V_aload_n hc dX0_takeInOrder_0 rfl 0 rfl ?_
  obtain ⟨a1, ha1, hf⟩ := mb hf
  refine C_getr hc rfl iW0 (by decide) 1 (by decide) rfl ha1 w2_156 dX0_takeInOrder_1 ?_
  refine V_iconst hc (v := (0 : Int32)) dX0_takeInOrder_4 rfl ?_
  refine V_aload_n hc dX0_takeInOrder_5 rfl 0 rfl ?_
  obtain ⟨a2, ha2, hf⟩ := mb hf
  refine C_getr hc rfl iW0 (by decide) 2 (by decide) rfl ha2 w2_157 dX0_takeInOrder_6 ?_
  refine V_iconst hc (v := (0 : Int32)) dX0_takeInOrder_9 rfl ?_
  refine V_aload_n hc dX0_takeInOrder_10 rfl 0 rfl ?_
  obtain ⟨v3, hv3, hf⟩ := mb hf
  refine C_geti hc rfl iW0 (by decide) 6 (by decide) rfl hv3 w2_161 dX0_takeInOrder_11 ?_
  obtain ⟨S4, hS4, hf⟩ := mb hf
  refine C_copy hc hz hS4 w5_102 w3_198 w3_197 w1_19 ⟨(Nat.le_of_ble_eq_true rfl), (Nat.le_of_ble_eq_true rfl)⟩ (Nat.le_of_ble_eq_true rfl) dX0_takeInOrder_14 ?_
  refine V_iload_n hc dX0_takeInOrder_17 rfl 1 rfl ?_
  refine V_istore_n hc dX0_takeInOrder_18 rfl (by decide) rfl ?_
  refine V_aload_n hc dX0_takeInOrder_19 rfl 1 rfl ?_
  obtain ⟨v5, hv5, hf⟩ := mb hf
  refine C_geti hc rfl iW0 (by decide) 7 (by decide) rfl hv5 w2_162 dX0_takeInOrder_20 ?_
  refine V_istore hc dX0_takeInOrder_23 (by decide) rfl ?_
  refine V_aload_n hc dX0_takeInOrder_25 rfl 2 rfl ?_
  obtain ⟨v6, hv6, hf⟩ := mb hf
  refine C_geti hc rfl iW0 (by decide) 6 (by decide) rfl hv6 w2_161 dX0_takeInOrder_26 ?_
  refine V_istore hc dX0_takeInOrder_29 (by decide) rfl ?_
  obtain ⟨S7, hv8, hf⟩ := mb hf
  refine V_sub [3, 5, 2, 1, 0] rfl (LX0_takeInOrder_31_ok hc X h p2 hz hX FU _ _ _ _ hv8 ?_)
  obtain rfl := Option.some.inj hf
  exact V_vret hc hzz rfl rfl rfl rfl dX0_takeInOrder_114
noncomputable def LX0_reckon_12 (h : Nat) (c1 : Nat) (c2 : Nat) : Nat → Int32 → CS → Option (CS)
  | 0, _, _ => none
  | n + 1, i3, S =>
    (gi S 10 c1 6).bind fun v1 =>
    if v1 ≤ i3 then (
      some S
    ) else (
      (gr S 0 h 1).bind fun a2 =>
      (aln S 14 a2).bind fun v3 =>
      if v3 ≤ i3 then (
        some S
      ) else (
        (gr S 10 c1 3).bind fun a4 =>
        (ldr S 16 a4 i3).bind fun a5 =>
        (gi S 1 a5 11).bind fun v6 =>
        (
          if v6 = (-1 : Int32) then (
            some S
          ) else (
            (gr S 0 h 1).bind fun a9 =>
            (gi S 0 h 6).bind fun v10 =>
            (pi S 0 h 6 (v10 + (1 : Int32))).bind fun S11 =>
            (sti S11 a9 v10 i3).bind fun S12 =>
            (gi S12 0 h 7).bind fun v13 =>
            (gi S12 0 h 6).bind fun v14 =>
            (pi S12 0 h 7 (v13 * v14)).bind fun S15 =>
            some S15
          )
        ).bind fun S7 =>
        LX0_reckon_12 h c1 c2 n (i3 + (1 : Int32)) S7
      )
    )
noncomputable def LX0_reckon_80 (X : Nat × Nat) (h : Nat) (c1 : Nat) (c2 : Nat) : Nat → Int32 → CS → Option (CS)
  | 0, _, _ => none
  | n + 1, i3, S =>
    (gi S 0 h 7).bind fun v1 =>
    if v1 ≤ i3 then (
      some S
    ) else (
      (gr S 0 h 0).bind fun a2 =>
      (aln S 18 a2).bind fun v3 =>
      if v3 ≤ i3 then (
        some S
      ) else (
        (cal S 10 c2 (f10_copy X S c2 c1 (0 : Int32))).bind fun S4 =>
        (cal S4 0 h (f0_takeInOrder X S4 h i3 c2)).bind fun S5 =>
        (gr S5 0 h 0).bind fun a6 =>
        (ldr S5 18 a6 i3).bind fun a7 =>
        (gr S5 10 c2 2).bind fun a8 =>
        (cal S5 7 a7 (f7_copy S5 a7 a8)).bind fun S9 =>
        LX0_reckon_80 X h c1 c2 n (i3 + (1 : Int32)) S9
      )
    )
noncomputable def f0_reckon (X : Nat × Nat) (S : CS) (h : Nat) (p1 : Nat) (p2 : Nat) : Option (CS) :=
  (pi S 0 h 6 (0 : Int32)).bind fun S1 =>
  (pi S1 0 h 7 (1 : Int32)).bind fun S2 =>
  (LX0_reckon_12 h p1 p2 FU (0 : Int32) S2).bind fun S3 =>
  (LX0_reckon_80 X h p1 p2 FU (0 : Int32) S3).bind fun S5 =>
  some S5
theorem hdX_X0_reckon : yX0_reckon.cls = "FarEditors$Comings" ∧ yX0_reckon.cls ≠ "java/lang/invoke/MethodHandle" ∧ yX0_reckon.cls ≠ "java/lang/invoke/VarHandle" ∧ (parseMethodDescriptor yX0_reckon.desc).map (fun d => d.parameters.length) = some 2 := by decide +kernel
set_option maxHeartbeats 4000000 in
set_option maxRecDepth 100000 in
theorem LX0_reckon_12_ok {E : CxT} {l : Launch} {D : va_G} {y : CyT} {zM uM : Nat} (hc : Cx E "FarEditors$Comings" cX0_reckon 4) (h : Nat) (c1 : Nat) (c2 : Nat) (hz : Cy E l D y 5 119 zM uM) : ∀ (n : Nat) (i3 : Int32) (S : CS) {So : CS}, LX0_reckon_12 h c1 c2 n i3 S = some So → (hx0 : V E (cZ So) (cU So) (cw y So) 78 [(0, .ref h), (1, .ref c1), (2, .ref c2)] []) → V E (cZ S) (cU S) (cw y S) 12 [(0, .ref h), (1, .ref c1), (2, .ref c2), (3, .int i3)] [] := by
  have hT := hz.2.2.1
  intro n
  induction n with
  | zero => intro i3 S So hf; cases hf
  | succ n ih =>
    intro i3 S So hf hx0
    unfold LX0_reckon_12 at hf
    refine V_iload_n hc dX0_reckon_12 rfl 3 rfl ?_
    refine V_aload_n hc dX0_reckon_13 rfl 1 rfl ?_
    obtain ⟨v1, hv1, hf⟩ := mb hf
    refine C_geti hc rfl iW10 (by decide) 6 (by decide) rfl hv1 w2_85 dX0_reckon_14 ?_
    refine V_icmp_ge hc dX0_reckon_17 rfl (fun hq17 => ?_) (fun hq17 => ?_)
    · rw [if_pos hq17] at hf
      obtain rfl := Option.some.inj hf
      exact V_sub [0, 1, 2] rfl hx0
    · rw [if_neg hq17] at hf
      refine V_iload_n hc dX0_reckon_20 rfl 3 rfl ?_
      refine V_aload_n hc dX0_reckon_21 rfl 0 rfl ?_
      obtain ⟨a2, ha2, hf⟩ := mb hf
      refine C_getr hc rfl iW0 (by decide) 1 (by decide) rfl ha2 w2_156 dX0_reckon_22 ?_
      obtain ⟨v3, hv3, hf⟩ := mb hf
      refine C_alen hc hT hv3 dX0_reckon_25 ?_
      refine V_icmp_ge hc dX0_reckon_26 rfl (fun hq26 => ?_) (fun hq26 => ?_)
      · rw [if_pos hq26] at hf
        obtain rfl := Option.some.inj hf
        exact V_sub [0, 1, 2] rfl hx0
      · rw [if_neg hq26] at hf
        refine V_aload_n hc dX0_reckon_29 rfl 1 rfl ?_
        obtain ⟨a4, ha4, hf⟩ := mb hf
        refine C_getr hc rfl iW10 (by decide) 3 (by decide) rfl ha4 w2_79 dX0_reckon_30 ?_
        refine V_iload_n hc dX0_reckon_33 rfl 3 rfl ?_
        obtain ⟨a5, ha5, hf⟩ := mb hf
        refine C_aald hc hT (by decide) (by decide) ha5 dX0_reckon_34 ?_
        obtain ⟨v6, hv6, hf⟩ := mb hf
        refine C_geti hc rfl iW1 (by decide) 11 (by decide) rfl hv6 w2_28 dX0_reckon_35 ?_
        refine V_iconst hc (v := (-1 : Int32)) dX0_reckon_38 rfl ?_
        obtain ⟨S7, hv8, hf⟩ := mb hf
        have hJ39 : V E (cZ S7) (cU S7) (cw y S7) 72 [(0, .ref h), (1, .ref c1), (2, .ref c2), (3, .int i3)] [] := by
          refine V_iinc hc (j := 3) (v := (i3 + (1 : Int32))) dX0_reckon_72 rfl rfl (by decide) rfl ?_
          refine V_goto hc dX0_reckon_75 rfl ?_
          exact V_sub [1, 2, 3, 0] rfl (ih _ _ hf hx0)
        refine V_icmp_eq hc dX0_reckon_39 rfl (fun hq39 => ?_) (fun hq39 => ?_)
        · rw [if_pos hq39] at hv8
          obtain rfl := Option.some.inj hv8
          exact V_sub [0, 1, 2, 3] rfl hJ39
        · rw [if_neg hq39] at hv8
          refine V_aload_n hc dX0_reckon_42 rfl 0 rfl ?_
          obtain ⟨a9, ha9, hv8⟩ := mb hv8
          refine C_getr hc rfl iW0 (by decide) 1 (by decide) rfl ha9 w2_156 dX0_reckon_43 ?_
          refine V_aload_n hc dX0_reckon_46 rfl 0 rfl ?_
          refine V_dup hc dX0_reckon_47 rfl ?_
          obtain ⟨v10, hv10, hv8⟩ := mb hv8
          refine C_geti hc rfl iW0 (by decide) 6 (by decide) rfl hv10 w2_161 dX0_reckon_48 ?_
          refine V_dup_x1 hc dX0_reckon_51 rfl rfl ?_
          refine V_iconst hc (v := (1 : Int32)) dX0_reckon_52 rfl ?_
          refine V_iadd hc dX0_reckon_53 ?_
          obtain ⟨S11, hS11, hv8⟩ := mb hv8
          refine C_puti hc rfl iW0 tyX0 tyX0_ok nmX0 (by decide) 6 (by decide) rfl hS11 w2_161 rfl rfl rfl dX0_reckon_54 ?_
          refine V_iload_n hc dX0_reckon_57 rfl 3 rfl ?_
          obtain ⟨S12, hS12, hv8⟩ := mb hv8
          refine C_iast hc hT hS12 dX0_reckon_58 ?_
          refine V_aload_n hc dX0_reckon_59 rfl 0 rfl ?_
          refine V_dup hc dX0_reckon_60 rfl ?_
          obtain ⟨v13, hv13, hv8⟩ := mb hv8
          refine C_geti hc rfl iW0 (by decide) 7 (by decide) rfl hv13 w2_162 dX0_reckon_61 ?_
          refine V_aload_n hc dX0_reckon_64 rfl 0 rfl ?_
          obtain ⟨v14, hv14, hv8⟩ := mb hv8
          refine C_geti hc rfl iW0 (by decide) 6 (by decide) rfl hv14 w2_161 dX0_reckon_65 ?_
          refine V_imul hc dX0_reckon_68 ?_
          obtain ⟨S15, hS15, hv8⟩ := mb hv8
          refine C_puti hc rfl iW0 tyX0 tyX0_ok nmX0 (by decide) 7 (by decide) rfl hS15 w2_162 rfl rfl rfl dX0_reckon_69 ?_
          obtain rfl := Option.some.inj hv8
          exact V_sub [0, 1, 2, 3] rfl hJ39
set_option maxHeartbeats 4000000 in
set_option maxRecDepth 100000 in
theorem LX0_reckon_80_ok {E : CxT} {l : Launch} {D : va_G} {y : CyT}  (hc : Cx E "FarEditors$Comings" cX0_reckon 4) (X : Nat × Nat) (h : Nat) (c1 : Nat) (c2 : Nat) (hz : Cy E l D y 5 119 X.1 X.2) (hX : X.2 ≤ 100000000) : ∀ (n : Nat) (i3 : Int32) (S : CS) {So : CS}, LX0_reckon_80 X h c1 c2 n i3 S = some So → (hx0 : V E (cZ So) (cU So) (cw y So) 128 [] []) → V E (cZ S) (cU S) (cw y S) 80 [(0, .ref h), (1, .ref c1), (2, .ref c2), (3, .int i3)] [] := by
  have hT := hz.2.2.1
  intro n
  induction n with
  | zero => intro i3 S So hf; cases hf
  | succ n ih =>
    intro i3 S So hf hx0
    unfold LX0_reckon_80 at hf
    refine V_iload_n hc dX0_reckon_80 rfl 3 rfl ?_
    refine V_aload_n hc dX0_reckon_81 rfl 0 rfl ?_
    obtain ⟨v1, hv1, hf⟩ := mb hf
    refine C_geti hc rfl iW0 (by decide) 7 (by decide) rfl hv1 w2_162 dX0_reckon_82 ?_
    refine V_icmp_ge hc dX0_reckon_85 rfl (fun hq85 => ?_) (fun hq85 => ?_)
    · rw [if_pos hq85] at hf
      obtain rfl := Option.some.inj hf
      exact V_sub [] rfl hx0
    · rw [if_neg hq85] at hf
      refine V_iload_n hc dX0_reckon_88 rfl 3 rfl ?_
      refine V_aload_n hc dX0_reckon_89 rfl 0 rfl ?_
      obtain ⟨a2, ha2, hf⟩ := mb hf
      refine C_getr hc rfl iW0 (by decide) 0 (by decide) rfl ha2 w2_154 dX0_reckon_90 ?_
      obtain ⟨v3, hv3, hf⟩ := mb hf
      refine C_alenr hc hT (by decide) (by decide) hv3 dX0_reckon_93 ?_
      refine V_icmp_ge hc dX0_reckon_94 rfl (fun hq94 => ?_) (fun hq94 => ?_)
      · rw [if_pos hq94] at hf
        obtain rfl := Option.some.inj hf
        exact V_sub [] rfl hx0
      · rw [if_neg hq94] at hf
        refine V_aload_n hc dX0_reckon_97 rfl 2 rfl ?_
        refine V_aload_n hc dX0_reckon_98 rfl 1 rfl ?_
        refine V_iconst hc (v := (0 : Int32)) dX0_reckon_99 rfl ?_
        obtain ⟨S4, hS4, hf⟩ := mb hf
        obtain ⟨hkS4, hS4⟩ := og hS4
        refine C_callV hc hz (As := [.ref c1, .int (0 : Int32)]) hkS4 (by decide) (c10_copy l D y X hX hS4) w5_97 w5_63 w5_64 w1_8 w5_65 hdX_X10_copy ⟨(Nat.le_of_ble_eq_true rfl), (Nat.le_of_ble_eq_true rfl)⟩ rfl rfl rfl (Nat.le_of_ble_eq_true rfl) dX0_reckon_100 ?_
        refine V_aload_n hc dX0_reckon_103 rfl 0 rfl ?_
        refine V_iload_n hc dX0_reckon_104 rfl 3 rfl ?_
        refine V_aload_n hc dX0_reckon_105 rfl 2 rfl ?_
        obtain ⟨S5, hS5, hf⟩ := mb hf
        obtain ⟨hkS5, hS5⟩ := og hS5
        refine C_callV hc hz (As := [.int i3, .ref c2]) hkS5 (by decide) (c0_takeInOrder l D y X hX hS5) w5_98 w5_100 wp3_9 w1_12 w5_101 hdX_X0_takeInOrder ⟨(Nat.le_of_ble_eq_true rfl), (Nat.le_of_ble_eq_true rfl)⟩ rfl rfl rfl (Nat.le_of_ble_eq_true rfl) dX0_reckon_106 ?_
        refine V_aload_n hc dX0_reckon_109 rfl 0 rfl ?_
        obtain ⟨a6, ha6, hf⟩ := mb hf
        refine C_getr hc rfl iW0 (by decide) 0 (by decide) rfl ha6 w2_154 dX0_reckon_110 ?_
        refine V_iload_n hc dX0_reckon_113 rfl 3 rfl ?_
        obtain ⟨a7, ha7, hf⟩ := mb hf
        refine C_aald hc hT (by decide) (by decide) ha7 dX0_reckon_114 ?_
        refine V_aload_n hc dX0_reckon_115 rfl 2 rfl ?_
        obtain ⟨a8, ha8, hf⟩ := mb hf
        refine C_getr hc rfl iW10 (by decide) 2 (by decide) rfl ha8 w2_76 dX0_reckon_116 ?_
        obtain ⟨S9, hS9, hf⟩ := mb hf
        obtain ⟨hkS9, hS9⟩ := og hS9
        refine C_callV hc hz (As := [.ref a8]) hkS9 (by decide) (c7_copy l D y _ _ hS9) w5_104 w3_205 w3_206 w1_7 w3_207 hdX_X7_copy ⟨(Nat.le_of_ble_eq_true rfl), (Nat.le_of_ble_eq_true rfl)⟩ rfl rfl rfl (Nat.le_of_ble_eq_true rfl) dX0_reckon_119 ?_
        refine V_iinc hc (j := 3) (v := (i3 + (1 : Int32))) dX0_reckon_122 rfl rfl (by decide) rfl ?_
        refine V_goto hc dX0_reckon_125 rfl ?_
        exact V_sub [1, 2, 3, 0] rfl (ih _ _ hf hx0)
set_option maxHeartbeats 4000000 in
set_option maxRecDepth 100000 in
theorem c0_reckon (l : Launch) (D : va_G) (y : CyT) (X : Nat × Nat) (hX : X.2 ≤ 100000000) {S S' : CS} {h : Nat} {p1 : Nat} {p2 : Nat} (hf : f0_reckon X S h p1 p2 = some S') : CT l D y yX0_reckon cX0_reckon 4 none 5 119 X.1 X.2 [.ref h, .ref p1, .ref p2] (cZ S) (cU S) (cw y S) (cZ S') (cU S') (cw y S') none := by
  refine CT.of (by decide) (Nat.le_of_ble_eq_true rfl) (fun E hc hzz hnm => ?_)
  have hc : Cx E "FarEditors$Comings" cX0_reckon 4 := hc
  have hz := hzz.1
  have hT := hz.2.2.1
  show V E (cZ S) (cU S) (cw y S) 0 [(0, .ref h), (1, .ref p1), (2, .ref p2)] []
  unfold f0_reckon at hf
  refine V_aload_n hc dX0_reckon_0 rfl 0 rfl ?_
  refine V_iconst hc (v := (0 : Int32)) dX0_reckon_1 rfl ?_
  obtain ⟨S1, hS1, hf⟩ := mb hf
  refine C_puti hc rfl iW0 tyX0 tyX0_ok nmX0 (by decide) 6 (by decide) rfl hS1 w2_161 rfl rfl rfl dX0_reckon_2 ?_
  refine V_aload_n hc dX0_reckon_5 rfl 0 rfl ?_
  refine V_iconst hc (v := (1 : Int32)) dX0_reckon_6 rfl ?_
  obtain ⟨S2, hS2, hf⟩ := mb hf
  refine C_puti hc rfl iW0 tyX0 tyX0_ok nmX0 (by decide) 7 (by decide) rfl hS2 w2_162 rfl rfl rfl dX0_reckon_7 ?_
  refine V_iconst hc (v := (0 : Int32)) dX0_reckon_10 rfl ?_
  refine V_istore_n hc dX0_reckon_11 rfl (by decide) rfl ?_
  obtain ⟨S3, hv4, hf⟩ := mb hf
  refine V_sub [1, 2, 3, 0] rfl (LX0_reckon_12_ok hc h p1 p2 hz FU _ _ hv4 ?_)
  refine V_iconst hc (v := (0 : Int32)) dX0_reckon_78 rfl ?_
  refine V_istore_n hc dX0_reckon_79 rfl (by decide) rfl ?_
  obtain ⟨S5, hv6, hf⟩ := mb hf
  refine V_sub [1, 2, 3, 0] rfl (LX0_reckon_80_ok hc X h p1 p2 hz hX FU _ _ hv6 ?_)
  obtain rfl := Option.some.inj hf
  exact V_vret hc hzz rfl rfl rfl rfl dX0_reckon_128
noncomputable def f7_letterAt (S : CS) (h : Nat) (p1 : Int32) : Option (Int32) :=
  (cal S 7 h (f7_hasPlace S h p1)).bind fun v1 =>
  (
    if v1 = 0 then (
      some (0 : Int32)
    ) else (
      (gr S 7 h 0).bind fun a4 =>
      (ldi S a4 p1).bind fun v5 =>
      some (v5 &&& (31 : Int32))
    )
  ).bind fun v2 =>
  some v2
theorem hdX_X7_letterAt : yX7_letterAt.cls = "FarEditors$Text" ∧ yX7_letterAt.cls ≠ "java/lang/invoke/MethodHandle" ∧ yX7_letterAt.cls ≠ "java/lang/invoke/VarHandle" ∧ (parseMethodDescriptor yX7_letterAt.desc).map (fun d => d.parameters.length) = some 1 := by decide +kernel
set_option maxHeartbeats 4000000 in
set_option maxRecDepth 100000 in
theorem c7_letterAt (l : Launch) (D : va_G) (y : CyT) (zM uM : Nat) {S : CS} {h : Nat} {p1 : Int32} {r : Int32} (hf : f7_letterAt S h p1 = some r) : CT l D y yX7_letterAt cX7_letterAt 2 (some .int) 1 21 zM uM [.ref h, .int p1] (cZ S) (cU S) (cw y S) (cZ S) (cU S) (cw y S) (some (.int r)) := by
  refine CT.of (by decide) (Nat.le_of_ble_eq_true rfl) (fun E hc hzz hnm => ?_)
  have hc : Cx E "FarEditors$Text" cX7_letterAt 2 := hc
  have hz := hzz.1
  have hT := hz.2.2.1
  show V E (cZ S) (cU S) (cw y S) 0 [(0, .ref h), (1, .int p1)] []
  unfold f7_letterAt at hf
  refine V_aload_n hc dX7_letterAt_0 rfl 0 rfl ?_
  refine V_iload_n hc dX7_letterAt_1 rfl 1 rfl ?_
  obtain ⟨v1, hv1, hf⟩ := mb hf
  obtain ⟨hkv1, hv1⟩ := og hv1
  refine C_callV hc hz (As := [.int p1]) hkv1 (by decide) (c7_hasPlace l D y _ _ hv1) w4_73 w4_74 w4_75 w1_7 w4_76 hdX_X7_hasPlace ⟨(Nat.le_of_ble_eq_true rfl), (Nat.le_of_ble_eq_true rfl)⟩ rfl rfl rfl (Nat.le_of_ble_eq_true rfl) dX7_letterAt_2 ?_
  obtain ⟨v2, hv3, hf⟩ := mb hf
  have hJ5 : V E (cZ S) (cU S) (cw y S) 21 [] [.int v2] := by
    obtain rfl := Option.some.inj hf
    exact V_iret hc hzz rfl rfl rfl rfl rfl dX7_letterAt_21
  refine V_if_eq hc dX7_letterAt_5 rfl (fun hq5 => ?_) (fun hq5 => ?_)
  · rw [if_pos hq5] at hv3
    refine V_iconst hc (v := (0 : Int32)) dX7_letterAt_20 rfl ?_
    obtain rfl := Option.some.inj hv3
    exact V_sub [] rfl hJ5
  · rw [if_neg hq5] at hv3
    refine V_aload_n hc dX7_letterAt_8 rfl 0 rfl ?_
    obtain ⟨a4, ha4, hv3⟩ := mb hv3
    refine C_getr hc rfl iW7 (by decide) 0 (by decide) rfl ha4 w1_166 dX7_letterAt_9 ?_
    refine V_iload_n hc dX7_letterAt_12 rfl 1 rfl ?_
    obtain ⟨v5, hv5, hv3⟩ := mb hv3
    refine C_iald hc hT hv5 dX7_letterAt_13 ?_
    refine V_bipush hc (v := (31 : Int32)) dX7_letterAt_14 rfl ?_
    refine V_iand hc dX7_letterAt_16 ?_
    refine V_goto hc dX7_letterAt_17 rfl ?_
    obtain rfl := Option.some.inj hv3
    exact V_sub [] rfl hJ5
noncomputable def LX7_isLike_19 (h : Nat) (c1 : Nat) (S : CS) : Nat → Int32 → Int32 → Option (Int32)
  | 0, _, _ => none
  | n + 1, i2, i3 =>
    (gi S 7 h 1).bind fun v1 =>
    if v1 ≤ i3 then (
      some i2
    ) else (
      if i2 = 0 then (
        some i2
      ) else (
        (cal S 7 h (f7_letterAt S h i3)).bind fun v2 =>
        (cal S 7 c1 (f7_letterAt S c1 i3)).bind fun v3 =>
        (
          if v2 = v3 then (
            some (1 : Int32)
          ) else (
            some (0 : Int32)
          )
        ).bind fun v4 =>
        LX7_isLike_19 h c1 S n v4 (i3 + (1 : Int32))
      )
    )
noncomputable def f7_isLike (S : CS) (h : Nat) (p1 : Nat) : Option (Int32) :=
  (gi S 7 h 1).bind fun v1 =>
  (gi S 7 p1 1).bind fun v2 =>
  (
    if v1 = v2 then (
      some (1 : Int32)
    ) else (
      some (0 : Int32)
    )
  ).bind fun v3 =>
  (LX7_isLike_19 h p1 S FU v3 (0 : Int32)).bind fun x5 =>
  (bz x5).bind fun v7 =>
  some v7
theorem hdX_X7_isLike : yX7_isLike.cls = "FarEditors$Text" ∧ yX7_isLike.cls ≠ "java/lang/invoke/MethodHandle" ∧ yX7_isLike.cls ≠ "java/lang/invoke/VarHandle" ∧ (parseMethodDescriptor yX7_isLike.desc).map (fun d => d.parameters.length) = some 1 := by decide +kernel
set_option maxHeartbeats 4000000 in
set_option maxRecDepth 100000 in
theorem LX7_isLike_19_ok {E : CxT} {l : Launch} {D : va_G} {y : CyT} {zM uM : Nat} (hc : Cx E "FarEditors$Text" cX7_isLike 4) (h : Nat) (c1 : Nat) (S : CS) (hz : Cy E l D y 2 42 zM uM) : ∀ (n : Nat) (i2 : Int32) (i3 : Int32) {o2 : Int32}, LX7_isLike_19 h c1 S n i2 i3 = some o2 → (hx0 : V E (cZ S) (cU S) (cw y S) 56 [(2, .int o2)] []) → V E (cZ S) (cU S) (cw y S) 19 [(0, .ref h), (1, .ref c1), (2, .int i2), (3, .int i3)] [] := by
  have hT := hz.2.2.1
  intro n
  induction n with
  | zero => intro i2 i3 o2 hf; cases hf
  | succ n ih =>
    intro i2 i3 o2 hf hx0
    unfold LX7_isLike_19 at hf
    refine V_iload_n hc dX7_isLike_19 rfl 3 rfl ?_
    refine V_aload_n hc dX7_isLike_20 rfl 0 rfl ?_
    obtain ⟨v1, hv1, hf⟩ := mb hf
    refine C_geti hc rfl iW7 (by decide) 1 (by decide) rfl hv1 w1_168 dX7_isLike_21 ?_
    refine V_icmp_ge hc dX7_isLike_24 rfl (fun hq24 => ?_) (fun hq24 => ?_)
    · rw [if_pos hq24] at hf
      obtain rfl := Option.some.inj hf
      exact V_sub [2] rfl hx0
    · rw [if_neg hq24] at hf
      refine V_iload_n hc dX7_isLike_27 rfl 2 rfl ?_
      refine V_if_eq hc dX7_isLike_28 rfl (fun hq28 => ?_) (fun hq28 => ?_)
      · rw [if_pos hq28] at hf
        obtain rfl := Option.some.inj hf
        exact V_sub [2] rfl hx0
      · rw [if_neg hq28] at hf
        refine V_aload_n hc dX7_isLike_31 rfl 0 rfl ?_
        refine V_iload_n hc dX7_isLike_32 rfl 3 rfl ?_
        obtain ⟨v2, hv2, hf⟩ := mb hf
        obtain ⟨hkv2, hv2⟩ := og hv2
        refine C_callV hc hz (As := [.int i3]) hkv2 (by decide) (c7_letterAt l D y _ _ hv2) w4_210 w4_156 w4_157 w1_7 w4_158 hdX_X7_letterAt ⟨(Nat.le_of_ble_eq_true rfl), (Nat.le_of_ble_eq_true rfl)⟩ rfl rfl rfl (Nat.le_of_ble_eq_true rfl) dX7_isLike_33 ?_
        refine V_aload_n hc dX7_isLike_36 rfl 1 rfl ?_
        refine V_iload_n hc dX7_isLike_37 rfl 3 rfl ?_
        obtain ⟨v3, hv3, hf⟩ := mb hf
        obtain ⟨hkv3, hv3⟩ := og hv3
        refine C_callV hc hz (As := [.int i3]) hkv3 (by decide) (c7_letterAt l D y _ _ hv3) w4_210 w4_156 w4_157 w1_7 w4_158 hdX_X7_letterAt ⟨(Nat.le_of_ble_eq_true rfl), (Nat.le_of_ble_eq_true rfl)⟩ rfl rfl rfl (Nat.le_of_ble_eq_true rfl) dX7_isLike_38 ?_
        obtain ⟨v4, hv5, hf⟩ := mb hf
        have hJ41 : V E (cZ S) (cU S) (cw y S) 49 [(0, .ref h), (1, .ref c1), (3, .int i3)] [.int v4] := by
          refine V_istore_n hc dX7_isLike_49 rfl (by decide) rfl ?_
          refine V_iinc hc (j := 3) (v := (i3 + (1 : Int32))) dX7_isLike_50 rfl rfl (by decide) rfl ?_
          refine V_goto hc dX7_isLike_53 rfl ?_
          exact V_sub [2, 3, 1, 0] rfl (ih _ _ hf hx0)
        refine V_icmp_ne hc dX7_isLike_41 rfl (fun hq41 => ?_) (fun hq41 => ?_)
        · rw [if_neg hq41] at hv5
          refine V_iconst hc (v := (0 : Int32)) dX7_isLike_48 rfl ?_
          obtain rfl := Option.some.inj hv5
          exact V_sub [0, 1, 3] rfl hJ41
        · rw [if_pos hq41] at hv5
          refine V_iconst hc (v := (1 : Int32)) dX7_isLike_44 rfl ?_
          refine V_goto hc dX7_isLike_45 rfl ?_
          obtain rfl := Option.some.inj hv5
          exact V_sub [0, 1, 3] rfl hJ41
set_option maxHeartbeats 4000000 in
set_option maxRecDepth 100000 in
theorem c7_isLike (l : Launch) (D : va_G) (y : CyT) (zM uM : Nat) {S : CS} {h : Nat} {p1 : Nat} {r : Int32} (hf : f7_isLike S h p1 = some r) : CT l D y yX7_isLike cX7_isLike 4 (some .boolean) 2 42 zM uM [.ref h, .ref p1] (cZ S) (cU S) (cw y S) (cZ S) (cU S) (cw y S) (some (.int r)) := by
  refine CT.of (by decide) (Nat.le_of_ble_eq_true rfl) (fun E hc hzz hnm => ?_)
  have hc : Cx E "FarEditors$Text" cX7_isLike 4 := hc
  have hz := hzz.1
  have hT := hz.2.2.1
  show V E (cZ S) (cU S) (cw y S) 0 [(0, .ref h), (1, .ref p1)] []
  unfold f7_isLike at hf
  refine V_aload_n hc dX7_isLike_0 rfl 0 rfl ?_
  obtain ⟨v1, hv1, hf⟩ := mb hf
  refine C_geti hc rfl iW7 (by decide) 1 (by decide) rfl hv1 w1_168 dX7_isLike_1 ?_
  refine V_aload_n hc dX7_isLike_4 rfl 1 rfl ?_
  obtain ⟨v2, hv2, hf⟩ := mb hf
  refine C_geti hc rfl iW7 (by decide) 1 (by decide) rfl hv2 w1_168 dX7_isLike_5 ?_
  obtain ⟨v3, hv4, hf⟩ := mb hf
  have hJ8 : V E (cZ S) (cU S) (cw y S) 16 [(0, .ref h), (1, .ref p1)] [.int v3] := by
    refine V_istore_n hc dX7_isLike_16 rfl (by decide) rfl ?_
    refine V_iconst hc (v := (0 : Int32)) dX7_isLike_17 rfl ?_
    refine V_istore_n hc dX7_isLike_18 rfl (by decide) rfl ?_
    obtain ⟨x5, hv6, hf⟩ := mb hf
    refine V_sub [2, 3, 1, 0] rfl (LX7_isLike_19_ok hc h p1 S hz FU _ _ hv6 ?_)
    refine V_iload_n hc dX7_isLike_56 rfl 0 rfl ?_
    obtain ⟨v7, hv7, hf⟩ := mb hf
    obtain ⟨hbv7, rfl⟩ := bz_some hv7
    obtain rfl := Option.some.inj hf
    exact V_iret hc hzz (bz_nar hbv7) rfl rfl rfl rfl dX7_isLike_57
  refine V_icmp_ne hc dX7_isLike_8 rfl (fun hq8 => ?_) (fun hq8 => ?_)
  · rw [if_neg hq8] at hv4
    refine V_iconst hc (v := (0 : Int32)) dX7_isLike_15 rfl ?_
    obtain rfl := Option.some.inj hv4
    exact V_sub [0, 1] rfl hJ8
  · rw [if_pos hq8] at hv4
    refine V_iconst hc (v := (1 : Int32)) dX7_isLike_11 rfl ?_
    refine V_goto hc dX7_isLike_12 rfl ?_
    obtain rfl := Option.some.inj hv4
    exact V_sub [0, 1] rfl hJ8
noncomputable def LX0_countUnlike_17 (h : Nat) (c1 : Int32) (c2 : Int32) (S : CS) : Nat → Int32 → Int32 → Option (Int32)
  | 0, _, _ => none
  | n + 1, i3, i4 =>
    if c2 ≤ i4 then (
      some i3
    ) else (
      if i3 = 0 then (
        some i3
      ) else (
        (gr S 0 h 0).bind fun a1 =>
        (ldr S 18 a1 c2).bind fun a2 =>
        (gr S 0 h 0).bind fun a3 =>
        (ldr S 18 a3 i4).bind fun a4 =>
        (cal S 7 a2 (f7_isLike S a2 a4)).bind fun v5 =>
        (
          if v5 = 0 then (
            some (1 : Int32)
          ) else (
            some (0 : Int32)
          )
        ).bind fun v6 =>
        LX0_countUnlike_17 h c1 c2 S n v6 (i4 + (1 : Int32))
      )
    )
noncomputable def LX0_countUnlike_4 (h : Nat) (S : CS) : Nat → Int32 → Int32 → Option (Int32)
  | 0, _, _ => none
  | n + 1, i1, i2 =>
    (gi S 0 h 7).bind fun v1 =>
    if v1 ≤ i2 then (
      some i1
    ) else (
      (LX0_countUnlike_17 h i1 i2 S FU (1 : Int32) (0 : Int32)).bind fun x2 =>
      (
        if x2 = 0 then (
          some (0 : Int32)
        ) else (
          some (1 : Int32)
        )
      ).bind fun v4 =>
      LX0_countUnlike_4 h S n (i1 + v4) (i2 + (1 : Int32))
    )
noncomputable def f0_countUnlike (S : CS) (h : Nat) : Option (Int32) :=
  (LX0_countUnlike_4 h S FU (0 : Int32) (0 : Int32)).bind fun x1 =>
  some x1
theorem hdX_X0_countUnlike : yX0_countUnlike.cls = "FarEditors$Comings" ∧ yX0_countUnlike.cls ≠ "java/lang/invoke/MethodHandle" ∧ yX0_countUnlike.cls ≠ "java/lang/invoke/VarHandle" ∧ (parseMethodDescriptor yX0_countUnlike.desc).map (fun d => d.parameters.length) = some 0 := by decide +kernel
set_option maxHeartbeats 4000000 in
set_option maxRecDepth 100000 in
theorem LX0_countUnlike_17_ok {E : CxT} {l : Launch} {D : va_G} {y : CyT} {zM uM : Nat} (hc : Cx E "FarEditors$Comings" cX0_countUnlike 5) (h : Nat) (c1 : Int32) (c2 : Int32) (S : CS) (hz : Cy E l D y 3 65 zM uM) : ∀ (n : Nat) (i3 : Int32) (i4 : Int32) {o3 : Int32}, LX0_countUnlike_17 h c1 c2 S n i3 i4 = some o3 → (hx0 : V E (cZ S) (cU S) (cw y S) 58 [(0, .ref h), (1, .int c1), (2, .int c2), (3, .int o3)] []) → V E (cZ S) (cU S) (cw y S) 17 [(0, .ref h), (1, .int c1), (2, .int c2), (3, .int i3), (4, .int i4)] [] := by
  have hT := hz.2.2.1
  intro n
  induction n with
  | zero => intro i3 i4 o3 hf; cases hf
  | succ n ih =>
    intro i3 i4 o3 hf hx0
    unfold LX0_countUnlike_17 at hf
    refine V_iload hc dX0_countUnlike_17 4 rfl ?_
    refine V_iload_n hc dX0_countUnlike_19 rfl 2 rfl ?_
    refine V_icmp_ge hc dX0_countUnlike_20 rfl (fun hq20 => ?_) (fun hq20 => ?_)
    · rw [if_pos hq20] at hf
      obtain rfl := Option.some.inj hf
      exact V_sub [0, 1, 2, 3] rfl hx0
    · rw [if_neg hq20] at hf
      refine V_iload_n hc dX0_countUnlike_23 rfl 3 rfl ?_
      refine V_if_eq hc dX0_countUnlike_24 rfl (fun hq24 => ?_) (fun hq24 => ?_)
      · rw [if_pos hq24] at hf
        obtain rfl := Option.some.inj hf
        exact V_sub [0, 1, 2, 3] rfl hx0
      · rw [if_neg hq24] at hf
        refine V_aload_n hc dX0_countUnlike_27 rfl 0 rfl ?_
        obtain ⟨a1, ha1, hf⟩ := mb hf
        refine C_getr hc rfl iW0 (by decide) 0 (by decide) rfl ha1 w2_154 dX0_countUnlike_28 ?_
        refine V_iload_n hc dX0_countUnlike_31 rfl 2 rfl ?_
        obtain ⟨a2, ha2, hf⟩ := mb hf
        refine C_aald hc hT (by decide) (by decide) ha2 dX0_countUnlike_32 ?_
        refine V_aload_n hc dX0_countUnlike_33 rfl 0 rfl ?_
        obtain ⟨a3, ha3, hf⟩ := mb hf
        refine C_getr hc rfl iW0 (by decide) 0 (by decide) rfl ha3 w2_154 dX0_countUnlike_34 ?_
        refine V_iload hc dX0_countUnlike_37 4 rfl ?_
        obtain ⟨a4, ha4, hf⟩ := mb hf
        refine C_aald hc hT (by decide) (by decide) ha4 dX0_countUnlike_39 ?_
        obtain ⟨v5, hv5, hf⟩ := mb hf
        obtain ⟨hkv5, hv5⟩ := og hv5
        refine C_callV hc hz (As := [.ref a4]) hkv5 (by decide) (c7_isLike l D y _ _ hv5) w5_109 w5_110 w5_111 w1_7 w5_112 hdX_X7_isLike ⟨(Nat.le_of_ble_eq_true rfl), (Nat.le_of_ble_eq_true rfl)⟩ rfl rfl rfl (Nat.le_of_ble_eq_true rfl) dX0_countUnlike_40 ?_
        obtain ⟨v6, hv7, hf⟩ := mb hf
        have hJ43 : V E (cZ S) (cU S) (cw y S) 51 [(0, .ref h), (1, .int c1), (2, .int c2), (4, .int i4)] [.int v6] := by
          refine V_istore_n hc dX0_countUnlike_51 rfl (by decide) rfl ?_
          refine V_iinc hc (j := 4) (v := (i4 + (1 : Int32))) dX0_countUnlike_52 rfl rfl (by decide) rfl ?_
          refine V_goto hc dX0_countUnlike_55 rfl ?_
          exact V_sub [2, 3, 4, 1, 0] rfl (ih _ _ hf hx0)
        refine V_if_ne hc dX0_countUnlike_43 rfl (fun hq43 => ?_) (fun hq43 => ?_)
        · rw [if_neg hq43] at hv7
          refine V_iconst hc (v := (0 : Int32)) dX0_countUnlike_50 rfl ?_
          obtain rfl := Option.some.inj hv7
          exact V_sub [0, 1, 2, 4] rfl hJ43
        · rw [if_pos hq43] at hv7
          refine V_iconst hc (v := (1 : Int32)) dX0_countUnlike_46 rfl ?_
          refine V_goto hc dX0_countUnlike_47 rfl ?_
          obtain rfl := Option.some.inj hv7
          exact V_sub [0, 1, 2, 4] rfl hJ43
set_option maxHeartbeats 4000000 in
set_option maxRecDepth 100000 in
theorem LX0_countUnlike_4_ok {E : CxT} {l : Launch} {D : va_G} {y : CyT} {zM uM : Nat} (hc : Cx E "FarEditors$Comings" cX0_countUnlike 5) (h : Nat) (S : CS) (hz : Cy E l D y 3 65 zM uM) : ∀ (n : Nat) (i1 : Int32) (i2 : Int32) {o1 : Int32}, LX0_countUnlike_4 h S n i1 i2 = some o1 → (hx0 : V E (cZ S) (cU S) (cw y S) 76 [(1, .int o1)] []) → V E (cZ S) (cU S) (cw y S) 4 [(0, .ref h), (1, .int i1), (2, .int i2)] [] := by
  have hT := hz.2.2.1
  intro n
  induction n with
  | zero => intro i1 i2 o1 hf; cases hf
  | succ n ih =>
    intro i1 i2 o1 hf hx0
    unfold LX0_countUnlike_4 at hf
    refine V_iload_n hc dX0_countUnlike_4 rfl 2 rfl ?_
    refine V_aload_n hc dX0_countUnlike_5 rfl 0 rfl ?_
    obtain ⟨v1, hv1, hf⟩ := mb hf
    refine C_geti hc rfl iW0 (by decide) 7 (by decide) rfl hv1 w2_162 dX0_countUnlike_6 ?_
    refine V_icmp_ge hc dX0_countUnlike_9 rfl (fun hq9 => ?_) (fun hq9 => ?_)
    · rw [if_pos hq9] at hf
      obtain rfl := Option.some.inj hf
      exact V_sub [1] rfl hx0
    · rw [if_neg hq9] at hf
      refine V_iconst hc (v := (1 : Int32)) dX0_countUnlike_12 rfl ?_
      refine V_istore_n hc dX0_countUnlike_13 rfl (by decide) rfl ?_
      refine V_iconst hc (v := (0 : Int32)) dX0_countUnlike_14 rfl ?_
      refine V_istore hc dX0_countUnlike_15 (by decide) rfl ?_
      obtain ⟨x2, hv3, hf⟩ := mb hf
      refine V_sub [2, 3, 4, 1, 0] rfl (LX0_countUnlike_17_ok hc h i1 i2 S hz FU _ _ hv3 ?_)
      refine V_iload_n hc dX0_countUnlike_58 rfl 1 rfl ?_
      refine V_iload_n hc dX0_countUnlike_59 rfl 3 rfl ?_
      obtain ⟨v4, hv5, hf⟩ := mb hf
      have hJ60 : V E (cZ S) (cU S) (cw y S) 68 [(0, .ref h), (2, .int i2)] [.int v4, .int i1] := by
        refine V_iadd hc dX0_countUnlike_68 ?_
        refine V_istore_n hc dX0_countUnlike_69 rfl (by decide) rfl ?_
        refine V_iinc hc (j := 2) (v := (i2 + (1 : Int32))) dX0_countUnlike_70 rfl rfl (by decide) rfl ?_
        refine V_goto hc dX0_countUnlike_73 rfl ?_
        exact V_sub [2, 1, 0] rfl (ih _ _ hf hx0)
      refine V_if_eq hc dX0_countUnlike_60 rfl (fun hq60 => ?_) (fun hq60 => ?_)
      · rw [if_pos hq60] at hv5
        refine V_iconst hc (v := (0 : Int32)) dX0_countUnlike_67 rfl ?_
        obtain rfl := Option.some.inj hv5
        exact V_sub [0, 2] rfl hJ60
      · rw [if_neg hq60] at hv5
        refine V_iconst hc (v := (1 : Int32)) dX0_countUnlike_63 rfl ?_
        refine V_goto hc dX0_countUnlike_64 rfl ?_
        obtain rfl := Option.some.inj hv5
        exact V_sub [0, 2] rfl hJ60
set_option maxHeartbeats 4000000 in
set_option maxRecDepth 100000 in
theorem c0_countUnlike (l : Launch) (D : va_G) (y : CyT) (zM uM : Nat) {S : CS} {h : Nat} {r : Int32} (hf : f0_countUnlike S h = some r) : CT l D y yX0_countUnlike cX0_countUnlike 5 (some .int) 3 65 zM uM [.ref h] (cZ S) (cU S) (cw y S) (cZ S) (cU S) (cw y S) (some (.int r)) := by
  refine CT.of (by decide) (Nat.le_of_ble_eq_true rfl) (fun E hc hzz hnm => ?_)
  have hc : Cx E "FarEditors$Comings" cX0_countUnlike 5 := hc
  have hz := hzz.1
  have hT := hz.2.2.1
  show V E (cZ S) (cU S) (cw y S) 0 [(0, .ref h)] []
  unfold f0_countUnlike at hf
  refine V_iconst hc (v := (0 : Int32)) dX0_countUnlike_0 rfl ?_
  refine V_istore_n hc dX0_countUnlike_1 rfl (by decide) rfl ?_
  refine V_iconst hc (v := (0 : Int32)) dX0_countUnlike_2 rfl ?_
  refine V_istore_n hc dX0_countUnlike_3 rfl (by decide) rfl ?_
  obtain ⟨x1, hv2, hf⟩ := mb hf
  refine V_sub [2, 1, 0] rfl (LX0_countUnlike_4_ok hc h S hz FU _ _ hv2 ?_)
  refine V_iload_n hc dX0_countUnlike_76 rfl 0 rfl ?_
  obtain rfl := Option.some.inj hf
  exact V_iret hc hzz rfl rfl rfl rfl rfl dX0_countUnlike_77
