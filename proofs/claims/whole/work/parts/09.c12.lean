noncomputable def LX9_compose_37 (h : Nat) (c1 : Nat) (c3 : Int32) : Nat → Int32 → CS → Option (CS)
  | 0, _, _ => none
  | n + 1, i4, S =>
    if c3 ≤ i4 then (
      some S
    ) else (
      (gr S 9 h 0).bind fun a1 =>
      (cal S 5 a1 (f5_isAtCut S a1)).bind fun v2 =>
      (
        if v2 = 0 then (
          (gr S 9 h 1).bind fun a5 =>
          (cal S 5 a5 (f5_isAtPut S a5)).bind fun v6 =>
          if v6 = 0 then (
            (cal S 9 h (f9_composeCommon S h)).bind fun S7 =>
            some S7
          ) else (
            (gr S 9 h 2).bind fun a8 =>
            (gr S 9 h 1).bind fun a9 =>
            (gi S 5 a9 2).bind fun v10 =>
            (cal S 4 a8 (f4_addPut S a8 v10)).bind fun S11 =>
            (gr S11 9 h 1).bind fun a12 =>
            (cal S11 5 a12 (f5_pass S11 a12 (1 : Int32))).bind fun S13 =>
            some S13
          )
        ) else (
          (gr S 9 h 2).bind fun a14 =>
          (gr S 9 h 0).bind fun a15 =>
          (gi S 5 a15 3).bind fun v16 =>
          (cal S 4 a14 (f4_addCut S a14 v16)).bind fun S17 =>
          (gr S17 9 h 0).bind fun a18 =>
          (gr S17 9 h 0).bind fun a19 =>
          (gi S17 5 a19 3).bind fun v20 =>
          (cal S17 5 a18 (f5_pass S17 a18 v20)).bind fun S21 =>
          some S21
        )
      ).bind fun S3 =>
      LX9_compose_37 h c1 c3 n (i4 + (1 : Int32)) S3
    )
noncomputable def f9_compose (X : Nat × Nat) (S : CS) (h : Nat) (p1 : Nat) (p2 : Nat) : Option (CS) :=
  (gi S 4 p1 1).bind fun v1 =>
  (gi S 4 p2 1).bind fun v2 =>
  (gr S 9 h 2).bind fun a3 =>
  (cal S 4 a3 (f4_begin X S a3 (v1 + v2))).bind fun S4 =>
  (gr S4 9 h 0).bind fun a5 =>
  (cal S4 5 a5 (f5_open S4 a5 p1)).bind fun S6 =>
  (gr S6 9 h 1).bind fun a7 =>
  (cal S6 5 a7 (f5_open S6 a7 p2)).bind fun S8 =>
  (LX9_compose_37 h p1 (v1 + v2) FU (0 : Int32) S8).bind fun S9 =>
  (gr S9 9 h 2).bind fun a11 =>
  (cal S9 4 p1 (f4_swap S9 p1 a11)).bind fun S12 =>
  some S12
theorem hdX_X9_compose : yX9_compose.cls = "FarEditors$Weaver" ∧ yX9_compose.cls ≠ "java/lang/invoke/MethodHandle" ∧ yX9_compose.cls ≠ "java/lang/invoke/VarHandle" ∧ (parseMethodDescriptor yX9_compose.desc).map (fun d => d.parameters.length) = some 2 := by decide +kernel
set_option maxHeartbeats 4000000 in
set_option maxRecDepth 100000 in
theorem LX9_compose_37_ok {E : CxT} {l : Launch} {D : va_G} {y : CyT} {zM uM : Nat} (hc : Cx E "FarEditors$Weaver" cX9_compose 5) (h : Nat) (c1 : Nat) (c3 : Int32) (hz : Cy E l D y 2 43 zM uM) : ∀ (n : Nat) (i4 : Int32) (S : CS) {So : CS}, LX9_compose_37 h c1 c3 n i4 S = some So → (hx0 : V E (cZ So) (cU So) (cw y So) 129 [(0, .ref h), (1, .ref c1)] []) → V E (cZ S) (cU S) (cw y S) 37 [(0, .ref h), (1, .ref c1), (3, .int c3), (4, .int i4)] [] := by
  have hT := hz.2.2.1
  intro n
  induction n with
  | zero => intro i4 S So hf; cases hf
  | succ n ih =>
    intro i4 S So hf hx0
    unfold LX9_compose_37 at hf
    refine V_iload hc dX9_compose_37 3 rfl ?_
    refine V_iload_n hc dX9_compose_39 rfl 2 rfl ?_
    refine V_icmp_ge hc dX9_compose_40 rfl (fun hq40 => ?_) (fun hq40 => ?_)
    · rw [if_pos hq40] at hf
      obtain rfl := Option.some.inj hf
      exact V_sub [0, 1] rfl hx0
    · rw [if_neg hq40] at hf
      refine V_aload_n hc dX9_compose_43 rfl 0 rfl ?_
      obtain ⟨a1, ha1, hf⟩ := mb hf
      refine C_getr hc rfl iW9 (by decide) 0 (by decide) rfl ha1 w1_131 dX9_compose_44 ?_
      obtain ⟨v2, hv2, hf⟩ := mb hf
      obtain ⟨hkv2, hv2⟩ := og hv2
      refine C_callV hc hz (As := []) hkv2 (by decide) (c5_isAtCut l D y _ _ hv2) w4_53 w4_54 w4_55 w1_4 w4_56 hdX_X5_isAtCut ⟨(Nat.le_of_ble_eq_true rfl), (Nat.le_of_ble_eq_true rfl)⟩ rfl rfl rfl (Nat.le_of_ble_eq_true rfl) dX9_compose_47 ?_
      obtain ⟨S3, hv4, hf⟩ := mb hf
      have hJ50 : V E (cZ S3) (cU S3) (cw y S3) 123 [(0, .ref h), (1, .ref c1), (3, .int c3), (4, .int i4)] [] := by
        refine V_iinc hc (j := 3) (v := (i4 + (1 : Int32))) dX9_compose_123 rfl rfl (by decide) rfl ?_
        refine V_goto hc dX9_compose_126 rfl ?_
        exact V_sub [1, 2, 3, 0] rfl (ih _ _ hf hx0)
      refine V_if_eq hc dX9_compose_50 rfl (fun hq50 => ?_) (fun hq50 => ?_)
      · rw [if_pos hq50] at hv4
        refine V_aload_n hc dX9_compose_84 rfl 0 rfl ?_
        obtain ⟨a5, ha5, hv4⟩ := mb hv4
        refine C_getr hc rfl iW9 (by decide) 1 (by decide) rfl ha5 w1_132 dX9_compose_85 ?_
        obtain ⟨v6, hv6, hv4⟩ := mb hv4
        obtain ⟨hkv6, hv6⟩ := og hv6
        refine C_callV hc hz (As := []) hkv6 (by decide) (c5_isAtPut l D y _ _ hv6) w4_35 w4_36 w4_37 w1_4 w4_38 hdX_X5_isAtPut ⟨(Nat.le_of_ble_eq_true rfl), (Nat.le_of_ble_eq_true rfl)⟩ rfl rfl rfl (Nat.le_of_ble_eq_true rfl) dX9_compose_88 ?_
        refine V_if_eq hc dX9_compose_91 rfl (fun hq91 => ?_) (fun hq91 => ?_)
        · rw [if_pos hq91] at hv4
          refine V_aload_n hc dX9_compose_119 rfl 0 rfl ?_
          obtain ⟨S7, hS7, hv4⟩ := mb hv4
          obtain ⟨hkS7, hS7⟩ := og hS7
          refine C_callV hc hz (As := []) hkS7 (by decide) (c9_composeCommon l D y _ _ hS7) w4_168 w4_170 wp3_1 w1_3 w4_171 hdX_X9_composeCommon ⟨(Nat.le_of_ble_eq_true rfl), (Nat.le_of_ble_eq_true rfl)⟩ rfl rfl rfl (Nat.le_of_ble_eq_true rfl) dX9_compose_120 ?_
          obtain rfl := Option.some.inj hv4
          exact V_sub [0, 1, 2, 3] rfl hJ50
        · rw [if_neg hq91] at hv4
          refine V_aload_n hc dX9_compose_94 rfl 0 rfl ?_
          obtain ⟨a8, ha8, hv4⟩ := mb hv4
          refine C_getr hc rfl iW9 (by decide) 2 (by decide) rfl ha8 w1_133 dX9_compose_95 ?_
          refine V_aload_n hc dX9_compose_98 rfl 0 rfl ?_
          obtain ⟨a9, ha9, hv4⟩ := mb hv4
          refine C_getr hc rfl iW9 (by decide) 1 (by decide) rfl ha9 w1_132 dX9_compose_99 ?_
          obtain ⟨v10, hv10, hv4⟩ := mb hv4
          refine C_geti hc rfl iW5 (by decide) 2 (by decide) rfl hv10 w1_117 dX9_compose_102 ?_
          obtain ⟨S11, hS11, hv4⟩ := mb hv4
          obtain ⟨hkS11, hS11⟩ := og hS11
          refine C_callV hc hz (As := [.int v10]) hkS11 (by decide) (c4_addPut l D y _ _ hS11) w4_39 w4_40 w4_41 w1_5 w4_42 hdX_X4_addPut ⟨(Nat.le_of_ble_eq_true rfl), (Nat.le_of_ble_eq_true rfl)⟩ rfl rfl rfl (Nat.le_of_ble_eq_true rfl) dX9_compose_105 ?_
          refine V_aload_n hc dX9_compose_108 rfl 0 rfl ?_
          obtain ⟨a12, ha12, hv4⟩ := mb hv4
          refine C_getr hc rfl iW9 (by decide) 1 (by decide) rfl ha12 w1_132 dX9_compose_109 ?_
          refine V_iconst hc (v := (1 : Int32)) dX9_compose_112 rfl ?_
          obtain ⟨S13, hS13, hv4⟩ := mb hv4
          obtain ⟨hkS13, hS13⟩ := og hS13
          refine C_callV hc hz (As := [.int (1 : Int32)]) hkS13 (by decide) (c5_pass l D y _ _ hS13) w4_47 w4_32 w4_33 w1_4 w4_34 hdX_X5_pass ⟨(Nat.le_of_ble_eq_true rfl), (Nat.le_of_ble_eq_true rfl)⟩ rfl rfl rfl (Nat.le_of_ble_eq_true rfl) dX9_compose_113 ?_
          refine V_goto hc dX9_compose_116 rfl ?_
          obtain rfl := Option.some.inj hv4
          exact V_sub [0, 1, 2, 3] rfl hJ50
      · rw [if_neg hq50] at hv4
        refine V_aload_n hc dX9_compose_53 rfl 0 rfl ?_
        obtain ⟨a14, ha14, hv4⟩ := mb hv4
        refine C_getr hc rfl iW9 (by decide) 2 (by decide) rfl ha14 w1_133 dX9_compose_54 ?_
        refine V_aload_n hc dX9_compose_57 rfl 0 rfl ?_
        obtain ⟨a15, ha15, hv4⟩ := mb hv4
        refine C_getr hc rfl iW9 (by decide) 0 (by decide) rfl ha15 w1_131 dX9_compose_58 ?_
        obtain ⟨v16, hv16, hv4⟩ := mb hv4
        refine C_geti hc rfl iW5 (by decide) 3 (by decide) rfl hv16 w1_119 dX9_compose_61 ?_
        obtain ⟨S17, hS17, hv4⟩ := mb hv4
        obtain ⟨hkS17, hS17⟩ := og hS17
        refine C_callV hc hz (As := [.int v16]) hkS17 (by decide) (c4_addCut l D y _ _ hS17) w4_57 w4_58 w4_59 w1_5 w4_60 hdX_X4_addCut ⟨(Nat.le_of_ble_eq_true rfl), (Nat.le_of_ble_eq_true rfl)⟩ rfl rfl rfl (Nat.le_of_ble_eq_true rfl) dX9_compose_64 ?_
        refine V_aload_n hc dX9_compose_67 rfl 0 rfl ?_
        obtain ⟨a18, ha18, hv4⟩ := mb hv4
        refine C_getr hc rfl iW9 (by decide) 0 (by decide) rfl ha18 w1_131 dX9_compose_68 ?_
        refine V_aload_n hc dX9_compose_71 rfl 0 rfl ?_
        obtain ⟨a19, ha19, hv4⟩ := mb hv4
        refine C_getr hc rfl iW9 (by decide) 0 (by decide) rfl ha19 w1_131 dX9_compose_72 ?_
        obtain ⟨v20, hv20, hv4⟩ := mb hv4
        refine C_geti hc rfl iW5 (by decide) 3 (by decide) rfl hv20 w1_119 dX9_compose_75 ?_
        obtain ⟨S21, hS21, hv4⟩ := mb hv4
        obtain ⟨hkS21, hS21⟩ := og hS21
        refine C_callV hc hz (As := [.int v20]) hkS21 (by decide) (c5_pass l D y _ _ hS21) w4_47 w4_32 w4_33 w1_4 w4_34 hdX_X5_pass ⟨(Nat.le_of_ble_eq_true rfl), (Nat.le_of_ble_eq_true rfl)⟩ rfl rfl rfl (Nat.le_of_ble_eq_true rfl) dX9_compose_78 ?_
        refine V_goto hc dX9_compose_81 rfl ?_
        obtain rfl := Option.some.inj hv4
        exact V_sub [0, 1, 2, 3] rfl hJ50
set_option maxHeartbeats 4000000 in
set_option maxRecDepth 100000 in
theorem c9_compose (l : Launch) (D : va_G) (y : CyT) (X : Nat × Nat) (hX : X.2 ≤ 100000000) {S S' : CS} {h : Nat} {p1 : Nat} {p2 : Nat} (hf : f9_compose X S h p1 p2 = some S') : CT l D y yX9_compose cX9_compose 5 none 2 43 X.1 X.2 [.ref h, .ref p1, .ref p2] (cZ S) (cU S) (cw y S) (cZ S') (cU S') (cw y S') none := by
  refine CT.of (by decide) (Nat.le_of_ble_eq_true rfl) (fun E hc hzz hnm => ?_)
  have hc : Cx E "FarEditors$Weaver" cX9_compose 5 := hc
  have hz := hzz.1
  have hT := hz.2.2.1
  show V E (cZ S) (cU S) (cw y S) 0 [(0, .ref h), (1, .ref p1), (2, .ref p2)] []
  unfold f9_compose at hf
  refine V_aload_n hc dX9_compose_0 rfl 1 rfl ?_
  obtain ⟨v1, hv1, hf⟩ := mb hf
  refine C_geti hc rfl iW4 (by decide) 1 (by decide) rfl hv1 w1_106 dX9_compose_1 ?_
  refine V_aload_n hc dX9_compose_4 rfl 2 rfl ?_
  obtain ⟨v2, hv2, hf⟩ := mb hf
  refine C_geti hc rfl iW4 (by decide) 1 (by decide) rfl hv2 w1_106 dX9_compose_5 ?_
  refine V_iadd hc dX9_compose_8 ?_
  refine V_istore_n hc dX9_compose_9 rfl (by decide) rfl ?_
  refine V_aload_n hc dX9_compose_10 rfl 1 rfl ?_
  obtain ⟨a3, ha3, hf⟩ := mb hf
  refine C_getr hc rfl iW9 (by decide) 2 (by decide) rfl ha3 w1_133 dX9_compose_11 ?_
  refine V_iload_n hc dX9_compose_14 rfl 0 rfl ?_
  obtain ⟨S4, hS4, hf⟩ := mb hf
  obtain ⟨hkS4, hS4⟩ := og hS4
  refine C_callV hc hz (As := [.int (v1 + v2)]) hkS4 (by decide) (c4_begin l D y X hX hS4) w4_20 w4_21 w4_22 w1_5 w4_23 hdX_X4_begin ⟨(Nat.le_of_ble_eq_true rfl), (Nat.le_of_ble_eq_true rfl)⟩ rfl rfl rfl (Nat.le_of_ble_eq_true rfl) dX9_compose_15 ?_
  refine V_aload_n hc dX9_compose_18 rfl 1 rfl ?_
  obtain ⟨a5, ha5, hf⟩ := mb hf
  refine C_getr hc rfl iW9 (by decide) 0 (by decide) rfl ha5 w1_131 dX9_compose_19 ?_
  refine V_aload_n hc dX9_compose_22 rfl 2 rfl ?_
  obtain ⟨S6, hS6, hf⟩ := mb hf
  obtain ⟨hkS6, hS6⟩ := og hS6
  refine C_callV hc hz (As := [.ref p1]) hkS6 (by decide) (c5_open l D y _ _ hS6) w4_27 w4_28 w4_29 w1_4 w4_30 hdX_X5_open ⟨(Nat.le_of_ble_eq_true rfl), (Nat.le_of_ble_eq_true rfl)⟩ rfl rfl rfl (Nat.le_of_ble_eq_true rfl) dX9_compose_23 ?_
  refine V_aload_n hc dX9_compose_26 rfl 1 rfl ?_
  obtain ⟨a7, ha7, hf⟩ := mb hf
  refine C_getr hc rfl iW9 (by decide) 1 (by decide) rfl ha7 w1_132 dX9_compose_27 ?_
  refine V_aload_n hc dX9_compose_30 rfl 3 rfl ?_
  obtain ⟨S8, hS8, hf⟩ := mb hf
  obtain ⟨hkS8, hS8⟩ := og hS8
  refine C_callV hc hz (As := [.ref p2]) hkS8 (by decide) (c5_open l D y _ _ hS8) w4_27 w4_28 w4_29 w1_4 w4_30 hdX_X5_open ⟨(Nat.le_of_ble_eq_true rfl), (Nat.le_of_ble_eq_true rfl)⟩ rfl rfl rfl (Nat.le_of_ble_eq_true rfl) dX9_compose_31 ?_
  refine V_iconst hc (v := (0 : Int32)) dX9_compose_34 rfl ?_
  refine V_istore hc dX9_compose_35 (by decide) rfl ?_
  obtain ⟨S9, hv10, hf⟩ := mb hf
  refine V_sub [2, 3, 1, 0] rfl (LX9_compose_37_ok hc h p1 (v1 + v2) hz FU _ _ hv10 ?_)
  refine V_aload_n hc dX9_compose_129 rfl 1 rfl ?_
  refine V_aload_n hc dX9_compose_130 rfl 0 rfl ?_
  obtain ⟨a11, ha11, hf⟩ := mb hf
  refine C_getr hc rfl iW9 (by decide) 2 (by decide) rfl ha11 w1_133 dX9_compose_131 ?_
  obtain ⟨S12, hS12, hf⟩ := mb hf
  obtain ⟨hkS12, hS12⟩ := og hS12
  refine C_callV hc hz (As := [.ref a11]) hkS12 (by decide) (c4_swap l D y _ _ hS12) w4_61 w4_62 w4_63 w1_5 w4_64 hdX_X4_swap ⟨(Nat.le_of_ble_eq_true rfl), (Nat.le_of_ble_eq_true rfl)⟩ rfl rfl rfl (Nat.le_of_ble_eq_true rfl) dX9_compose_134 ?_
  obtain rfl := Option.some.inj hf
  exact V_vret hc hzz rfl rfl rfl rfl dX9_compose_137
noncomputable def LX9_turnAll_18 (X : Nat × Nat) (h : Nat) (c1 : Nat) (c2 : Int32) : Nat → Int32 → CS → Option (CS)
  | 0, _, _ => none
  | n + 1, i3, S =>
    if i3 < 0 then (
      some S
    ) else (
      (gr S 3 c1 0).bind fun a1 =>
      (ldr S 17 a1 i3).bind fun a2 =>
      (gr S 9 h 6).bind fun a3 =>
      (cal S 9 h (f9_turn X S h a2 a3 c2)).bind fun S4 =>
      LX9_turnAll_18 X h c1 c2 n (i3 + (-1 : Int32)) S4
    )
noncomputable def f9_turnAll (X : Nat × Nat) (S : CS) (h : Nat) (p1 : Nat) (p2 : Int32) : Option (CS) :=
  (gr S 9 h 6).bind fun a1 =>
  (gr S 9 h 5).bind fun a2 =>
  (cal S 4 a1 (f4_copy X S a1 a2)).bind fun S3 =>
  (gi S3 3 p1 1).bind fun v4 =>
  (LX9_turnAll_18 X h p1 p2 FU (v4 - (1 : Int32)) S3).bind fun S5 =>
  some S5
theorem hdX_X9_turnAll : yX9_turnAll.cls = "FarEditors$Weaver" ∧ yX9_turnAll.cls ≠ "java/lang/invoke/MethodHandle" ∧ yX9_turnAll.cls ≠ "java/lang/invoke/VarHandle" ∧ (parseMethodDescriptor yX9_turnAll.desc).map (fun d => d.parameters.length) = some 2 := by decide +kernel
set_option maxHeartbeats 4000000 in
set_option maxRecDepth 100000 in
theorem LX9_turnAll_18_ok {E : CxT} {l : Launch} {D : va_G} {y : CyT}  (hc : Cx E "FarEditors$Weaver" cX9_turnAll 4) (X : Nat × Nat) (h : Nat) (c1 : Nat) (c2 : Int32) (hz : Cy E l D y 3 69 X.1 X.2) (hX : X.2 ≤ 100000000) : ∀ (n : Nat) (i3 : Int32) (S : CS) {So : CS}, LX9_turnAll_18 X h c1 c2 n i3 S = some So → (hx0 : V E (cZ So) (cU So) (cw y So) 43 [] []) → V E (cZ S) (cU S) (cw y S) 18 [(0, .ref h), (1, .ref c1), (2, .int c2), (3, .int i3)] [] := by
  have hT := hz.2.2.1
  intro n
  induction n with
  | zero => intro i3 S So hf; cases hf
  | succ n ih =>
    intro i3 S So hf hx0
    unfold LX9_turnAll_18 at hf
    refine V_iload_n hc dX9_turnAll_18 rfl 3 rfl ?_
    refine V_if_lt hc dX9_turnAll_19 rfl (fun hq19 => ?_) (fun hq19 => ?_)
    · rw [if_pos hq19] at hf
      obtain rfl := Option.some.inj hf
      exact V_sub [] rfl hx0
    · rw [if_neg hq19] at hf
      refine V_aload_n hc dX9_turnAll_22 rfl 0 rfl ?_
      refine V_aload_n hc dX9_turnAll_23 rfl 1 rfl ?_
      obtain ⟨a1, ha1, hf⟩ := mb hf
      refine C_getr hc rfl iW3 (by decide) 0 (by decide) rfl ha1 w1_224 dX9_turnAll_24 ?_
      refine V_iload_n hc dX9_turnAll_27 rfl 3 rfl ?_
      obtain ⟨a2, ha2, hf⟩ := mb hf
      refine C_aald hc hT (by decide) (by decide) ha2 dX9_turnAll_28 ?_
      refine V_aload_n hc dX9_turnAll_29 rfl 0 rfl ?_
      obtain ⟨a3, ha3, hf⟩ := mb hf
      refine C_getr hc rfl iW9 (by decide) 6 (by decide) rfl ha3 w1_138 dX9_turnAll_30 ?_
      refine V_iload_n hc dX9_turnAll_33 rfl 2 rfl ?_
      obtain ⟨S4, hS4, hf⟩ := mb hf
      obtain ⟨hkS4, hS4⟩ := og hS4
      refine C_callV hc hz (As := [.ref a2, .ref a3, .int c2]) hkS4 (by decide) (c9_turn l D y X hX hS4) w4_117 w4_17 w4_18 w1_3 w4_19 hdX_X9_turn ⟨(Nat.le_of_ble_eq_true rfl), (Nat.le_of_ble_eq_true rfl)⟩ rfl rfl rfl (Nat.le_of_ble_eq_true rfl) dX9_turnAll_34 ?_
      refine V_iinc hc (j := 3) (v := (i3 + (-1 : Int32))) dX9_turnAll_37 rfl rfl (by decide) rfl ?_
      refine V_goto hc dX9_turnAll_40 rfl ?_
      exact V_sub [1, 2, 3, 0] rfl (ih _ _ hf hx0)
set_option maxHeartbeats 4000000 in
set_option maxRecDepth 100000 in
theorem c9_turnAll (l : Launch) (D : va_G) (y : CyT) (X : Nat × Nat) (hX : X.2 ≤ 100000000) {S S' : CS} {h : Nat} {p1 : Nat} {p2 : Int32} (hf : f9_turnAll X S h p1 p2 = some S') : CT l D y yX9_turnAll cX9_turnAll 4 none 3 69 X.1 X.2 [.ref h, .ref p1, .int p2] (cZ S) (cU S) (cw y S) (cZ S') (cU S') (cw y S') none := by
  refine CT.of (by decide) (Nat.le_of_ble_eq_true rfl) (fun E hc hzz hnm => ?_)
  have hc : Cx E "FarEditors$Weaver" cX9_turnAll 4 := hc
  have hz := hzz.1
  have hT := hz.2.2.1
  show V E (cZ S) (cU S) (cw y S) 0 [(0, .ref h), (1, .ref p1), (2, .int p2)] []
  unfold f9_turnAll at hf
  refine V_aload_n hc dX9_turnAll_0 rfl 0 rfl ?_
  obtain ⟨a1, ha1, hf⟩ := mb hf
  refine C_getr hc rfl iW9 (by decide) 6 (by decide) rfl ha1 w1_138 dX9_turnAll_1 ?_
  refine V_aload_n hc dX9_turnAll_4 rfl 0 rfl ?_
  obtain ⟨a2, ha2, hf⟩ := mb hf
  refine C_getr hc rfl iW9 (by decide) 5 (by decide) rfl ha2 w1_136 dX9_turnAll_5 ?_
  obtain ⟨S3, hS3, hf⟩ := mb hf
  obtain ⟨hkS3, hS3⟩ := og hS3
  refine C_callV hc hz (As := [.ref a2]) hkS3 (by decide) (c4_copy l D y X hX hS3) w4_116 w4_8 w4_9 w1_5 w4_10 hdX_X4_copy ⟨(Nat.le_of_ble_eq_true rfl), (Nat.le_of_ble_eq_true rfl)⟩ rfl rfl rfl (Nat.le_of_ble_eq_true rfl) dX9_turnAll_8 ?_
  refine V_aload_n hc dX9_turnAll_11 rfl 1 rfl ?_
  obtain ⟨v4, hv4, hf⟩ := mb hf
  refine C_geti hc rfl iW3 (by decide) 1 (by decide) rfl hv4 w1_229 dX9_turnAll_12 ?_
  refine V_iconst hc (v := (1 : Int32)) dX9_turnAll_15 rfl ?_
  refine V_isub hc dX9_turnAll_16 ?_
  refine V_istore_n hc dX9_turnAll_17 rfl (by decide) rfl ?_
  obtain ⟨S5, hv6, hf⟩ := mb hf
  refine V_sub [1, 2, 3, 0] rfl (LX9_turnAll_18_ok hc X h p1 p2 hz hX FU _ _ hv6 ?_)
  obtain rfl := Option.some.inj hf
  exact V_vret hc hzz rfl rfl rfl rfl dX9_turnAll_43
noncomputable def LX10_begin_29 (h : Nat) : Nat → Int32 → CS → Option (CS)
  | 0, _, _ => none
  | n + 1, i2, S =>
    (gr S 10 h 3).bind fun a1 =>
    (aln S 16 a1).bind fun v2 =>
    if v2 ≤ i2 then (
      some S
    ) else (
      (gr S 10 h 3).bind fun a3 =>
      (ldr S 16 a3 i2).bind fun a4 =>
      (gr S 10 h 0).bind fun a5 =>
      (gr S 6 a5 0).bind fun a6 =>
      (cal S 1 a4 (f1_begin S a4 a6)).bind fun S7 =>
      (gr S7 10 h 4).bind fun a8 =>
      (sti S7 a8 i2 (0 : Int32)).bind fun S9 =>
      LX10_begin_29 h n (i2 + (1 : Int32)) S9
    )
noncomputable def f10_begin (S : CS) (h : Nat) (p1 : Int32) : Option (CS) :=
  (gr S 10 h 3).bind fun a1 =>
  (aln S 16 a1).bind fun v2 =>
  (pi S 10 h 6 (if v2 < p1 then v2 else p1)).bind fun S3 =>
  (gr S3 10 h 2).bind fun a4 =>
  (gr S3 10 h 0).bind fun a5 =>
  (gr S3 6 a5 0).bind fun a6 =>
  (cal S3 7 a4 (f7_copy S3 a4 a6)).bind fun S7 =>
  (LX10_begin_29 h FU (0 : Int32) S7).bind fun S8 =>
  (pi S8 10 h 7 (0 : Int32)).bind fun S10 =>
  (pi S10 10 h 8 (0 : Int32)).bind fun S11 =>
  (pi S11 10 h 9 (0 : Int32)).bind fun S12 =>
  (pi S12 10 h 10 (0 : Int32)).bind fun S13 =>
  (pi S13 10 h 11 (0 : Int32)).bind fun S14 =>
  some S14
theorem hdX_X10_begin : yX10_begin.cls = "FarEditors$World" ∧ yX10_begin.cls ≠ "java/lang/invoke/MethodHandle" ∧ yX10_begin.cls ≠ "java/lang/invoke/VarHandle" ∧ (parseMethodDescriptor yX10_begin.desc).map (fun d => d.parameters.length) = some 1 := by decide +kernel
set_option maxHeartbeats 4000000 in
set_option maxRecDepth 100000 in
theorem LX10_begin_29_ok {E : CxT} {l : Launch} {D : va_G} {y : CyT} {zM uM : Nat} (hc : Cx E "FarEditors$World" cX10_begin 3) (h : Nat) (hz : Cy E l D y 3 68 zM uM) : ∀ (n : Nat) (i2 : Int32) (S : CS) {So : CS}, LX10_begin_29 h n i2 S = some So → (hx0 : V E (cZ So) (cU So) (cw y So) 67 [(0, .ref h)] []) → V E (cZ S) (cU S) (cw y S) 29 [(0, .ref h), (2, .int i2)] [] := by
  have hT := hz.2.2.1
  intro n
  induction n with
  | zero => intro i2 S So hf; cases hf
  | succ n ih =>
    intro i2 S So hf hx0
    unfold LX10_begin_29 at hf
    refine V_iload_n hc dX10_begin_29 rfl 1 rfl ?_
    refine V_aload_n hc dX10_begin_30 rfl 0 rfl ?_
    obtain ⟨a1, ha1, hf⟩ := mb hf
    refine C_getr hc rfl iW10 (by decide) 3 (by decide) rfl ha1 w2_78 dX10_begin_31 ?_
    obtain ⟨v2, hv2, hf⟩ := mb hf
    refine C_alenr hc hT (by decide) (by decide) hv2 dX10_begin_34 ?_
    refine V_icmp_ge hc dX10_begin_35 rfl (fun hq35 => ?_) (fun hq35 => ?_)
    · rw [if_pos hq35] at hf
      obtain rfl := Option.some.inj hf
      exact V_sub [0] rfl hx0
    · rw [if_neg hq35] at hf
      refine V_aload_n hc dX10_begin_38 rfl 0 rfl ?_
      obtain ⟨a3, ha3, hf⟩ := mb hf
      refine C_getr hc rfl iW10 (by decide) 3 (by decide) rfl ha3 w2_78 dX10_begin_39 ?_
      refine V_iload_n hc dX10_begin_42 rfl 1 rfl ?_
      obtain ⟨a4, ha4, hf⟩ := mb hf
      refine C_aald hc hT (by decide) (by decide) ha4 dX10_begin_43 ?_
      refine V_aload_n hc dX10_begin_44 rfl 0 rfl ?_
      obtain ⟨a5, ha5, hf⟩ := mb hf
      refine C_getr hc rfl iW10 (by decide) 0 (by decide) rfl ha5 w2_71 dX10_begin_45 ?_
      obtain ⟨a6, ha6, hf⟩ := mb hf
      refine C_getr hc rfl iW6 (by decide) 0 (by decide) rfl ha6 w1_181 dX10_begin_48 ?_
      obtain ⟨S7, hS7, hf⟩ := mb hf
      obtain ⟨hkS7, hS7⟩ := og hS7
      refine C_callV hc hz (As := [.ref a6]) hkS7 (by decide) (c1_begin l D y _ _ hS7) w3_208 w3_209 w3_210 w1_9 w3_211 hdX_X1_begin ⟨(Nat.le_of_ble_eq_true rfl), (Nat.le_of_ble_eq_true rfl)⟩ rfl rfl rfl (Nat.le_of_ble_eq_true rfl) dX10_begin_51 ?_
      refine V_aload_n hc dX10_begin_54 rfl 0 rfl ?_
      obtain ⟨a8, ha8, hf⟩ := mb hf
      refine C_getr hc rfl iW10 (by decide) 4 (by decide) rfl ha8 w2_81 dX10_begin_55 ?_
      refine V_iload_n hc dX10_begin_58 rfl 1 rfl ?_
      refine V_iconst hc (v := (0 : Int32)) dX10_begin_59 rfl ?_
      obtain ⟨S9, hS9, hf⟩ := mb hf
      refine C_iast hc hT hS9 dX10_begin_60 ?_
      refine V_iinc hc (j := 1) (v := (i2 + (1 : Int32))) dX10_begin_61 rfl rfl (by decide) rfl ?_
      refine V_goto hc dX10_begin_64 rfl ?_
      exact V_sub [1, 0] rfl (ih _ _ hf hx0)
set_option maxHeartbeats 4000000 in
set_option maxRecDepth 100000 in
theorem c10_begin (l : Launch) (D : va_G) (y : CyT) (zM uM : Nat) {S S' : CS} {h : Nat} {p1 : Int32} (hf : f10_begin S h p1 = some S') : CT l D y yX10_begin cX10_begin 3 none 3 68 zM uM [.ref h, .int p1] (cZ S) (cU S) (cw y S) (cZ S') (cU S') (cw y S') none := by
  refine CT.of (by decide) (Nat.le_of_ble_eq_true rfl) (fun E hc hzz hnm => ?_)
  have hc : Cx E "FarEditors$World" cX10_begin 3 := hc
  have hz := hzz.1
  have hT := hz.2.2.1
  show V E (cZ S) (cU S) (cw y S) 0 [(0, .ref h), (1, .int p1)] []
  unfold f10_begin at hf
  refine V_aload_n hc dX10_begin_0 rfl 0 rfl ?_
  refine V_iload_n hc dX10_begin_1 rfl 1 rfl ?_
  refine V_aload_n hc dX10_begin_2 rfl 0 rfl ?_
  obtain ⟨a1, ha1, hf⟩ := mb hf
  refine C_getr hc rfl iW10 (by decide) 3 (by decide) rfl ha1 w2_78 dX10_begin_3 ?_
  obtain ⟨v2, hv2, hf⟩ := mb hf
  refine C_alenr hc hT (by decide) (by decide) hv2 dX10_begin_6 ?_
  refine C_min hc hz w3_203 w3_194 w1_18 w3_195 ⟨(Nat.le_of_ble_eq_true rfl), (Nat.le_of_ble_eq_true rfl)⟩ (Nat.le_of_ble_eq_true rfl) dX10_begin_7 ?_
  obtain ⟨S3, hS3, hf⟩ := mb hf
  refine C_puti hc rfl iW10 tyX10 tyX10_ok nmX10 (by decide) 6 (by decide) rfl hS3 w2_84 rfl rfl rfl dX10_begin_10 ?_
  refine V_aload_n hc dX10_begin_13 rfl 0 rfl ?_
  obtain ⟨a4, ha4, hf⟩ := mb hf
  refine C_getr hc rfl iW10 (by decide) 2 (by decide) rfl ha4 w2_75 dX10_begin_14 ?_
  refine V_aload_n hc dX10_begin_17 rfl 0 rfl ?_
  obtain ⟨a5, ha5, hf⟩ := mb hf
  refine C_getr hc rfl iW10 (by decide) 0 (by decide) rfl ha5 w2_71 dX10_begin_18 ?_
  obtain ⟨a6, ha6, hf⟩ := mb hf
  refine C_getr hc rfl iW6 (by decide) 0 (by decide) rfl ha6 w1_181 dX10_begin_21 ?_
  obtain ⟨S7, hS7, hf⟩ := mb hf
  obtain ⟨hkS7, hS7⟩ := og hS7
  refine C_callV hc hz (As := [.ref a6]) hkS7 (by decide) (c7_copy l D y _ _ hS7) w3_204 w3_205 w3_206 w1_7 w3_207 hdX_X7_copy ⟨(Nat.le_of_ble_eq_true rfl), (Nat.le_of_ble_eq_true rfl)⟩ rfl rfl rfl (Nat.le_of_ble_eq_true rfl) dX10_begin_24 ?_
  refine V_iconst hc (v := (0 : Int32)) dX10_begin_27 rfl ?_
  refine V_istore_n hc dX10_begin_28 rfl (by decide) rfl ?_
  obtain ⟨S8, hv9, hf⟩ := mb hf
  refine V_sub [1, 0] rfl (LX10_begin_29_ok hc h hz FU _ _ hv9 ?_)
  refine V_aload_n hc dX10_begin_67 rfl 0 rfl ?_
  refine V_iconst hc (v := (0 : Int32)) dX10_begin_68 rfl ?_
  obtain ⟨S10, hS10, hf⟩ := mb hf
  refine C_puti hc rfl iW10 tyX10 tyX10_ok nmX10 (by decide) 7 (by decide) rfl hS10 w2_87 rfl rfl rfl dX10_begin_69 ?_
  refine V_aload_n hc dX10_begin_72 rfl 0 rfl ?_
  refine V_iconst hc (v := (0 : Int32)) dX10_begin_73 rfl ?_
  obtain ⟨S11, hS11, hf⟩ := mb hf
  refine C_puti hc rfl iW10 tyX10 tyX10_ok nmX10 (by decide) 8 (by decide) rfl hS11 w2_89 rfl rfl rfl dX10_begin_74 ?_
  refine V_aload_n hc dX10_begin_77 rfl 0 rfl ?_
  refine V_iconst hc (v := (0 : Int32)) dX10_begin_78 rfl ?_
  obtain ⟨S12, hS12, hf⟩ := mb hf
  refine C_puti hc rfl iW10 tyX10 tyX10_ok nmX10 (by decide) 9 (by decide) rfl hS12 w2_91 rfl rfl rfl dX10_begin_79 ?_
  refine V_aload_n hc dX10_begin_82 rfl 0 rfl ?_
  refine V_iconst hc (v := (0 : Int32)) dX10_begin_83 rfl ?_
  obtain ⟨S13, hS13, hf⟩ := mb hf
  refine C_puti hc rfl iW10 tyX10 tyX10_ok nmX10 (by decide) 10 (by decide) rfl hS13 w2_93 rfl rfl rfl dX10_begin_84 ?_
  refine V_aload_n hc dX10_begin_87 rfl 0 rfl ?_
  refine V_iconst hc (v := (0 : Int32)) dX10_begin_88 rfl ?_
  obtain ⟨S14, hS14, hf⟩ := mb hf
  refine C_puti hc rfl iW10 tyX10 tyX10_ok nmX10 (by decide) 11 (by decide) rfl hS14 w2_95 rfl rfl rfl dX10_begin_89 ?_
  obtain rfl := Option.some.inj hf
  exact V_vret hc hzz rfl rfl rfl rfl dX10_begin_92
noncomputable def LX10_onTheirWay_4 (h : Nat) (S : CS) : Nat → Int32 → Int32 → Option (Int32)
  | 0, _, _ => none
  | n + 1, i1, i2 =>
    (gi S 10 h 6).bind fun v1 =>
    if v1 ≤ i2 then (
      some i1
    ) else (
      (gi S 10 h 11).bind fun v2 =>
      (gr S 10 h 3).bind fun a3 =>
      (ldr S 16 a3 i2).bind fun a4 =>
      (gi S 1 a4 8).bind fun v5 =>
      (gr S 10 h 3).bind fun a6 =>
      (ldr S 16 a6 i2).bind fun a7 =>
      (gi S 1 a7 11).bind fun v8 =>
      (
        if v8 = (-1 : Int32) then (
          some (0 : Int32)
        ) else (
          some (1 : Int32)
        )
      ).bind fun v9 =>
      LX10_onTheirWay_4 h S n (i1 + ((v2 - v5) + v9)) (i2 + (1 : Int32))
    )
noncomputable def f10_onTheirWay (S : CS) (h : Nat) : Option (Int32) :=
  (LX10_onTheirWay_4 h S FU (0 : Int32) (0 : Int32)).bind fun x1 =>
  some x1
theorem hdX_X10_onTheirWay : yX10_onTheirWay.cls = "FarEditors$World" ∧ yX10_onTheirWay.cls ≠ "java/lang/invoke/MethodHandle" ∧ yX10_onTheirWay.cls ≠ "java/lang/invoke/VarHandle" ∧ (parseMethodDescriptor yX10_onTheirWay.desc).map (fun d => d.parameters.length) = some 0 := by decide +kernel
set_option maxHeartbeats 4000000 in
set_option maxRecDepth 100000 in
theorem LX10_onTheirWay_4_ok {E : CxT} {l : Launch} {D : va_G} {y : CyT} {zM uM : Nat} (hc : Cx E "FarEditors$World" cX10_onTheirWay 3) (h : Nat) (S : CS) (hz : Cy E l D y 0 0 zM uM) : ∀ (n : Nat) (i1 : Int32) (i2 : Int32) {o1 : Int32}, LX10_onTheirWay_4 h S n i1 i2 = some o1 → (hx0 : V E (cZ S) (cU S) (cw y S) 54 [(1, .int o1)] []) → V E (cZ S) (cU S) (cw y S) 4 [(0, .ref h), (1, .int i1), (2, .int i2)] [] := by
  have hT := hz.2.2.1
  intro n
  induction n with
  | zero => intro i1 i2 o1 hf; cases hf
  | succ n ih =>
    intro i1 i2 o1 hf hx0
    unfold LX10_onTheirWay_4 at hf
    refine V_iload_n hc dX10_onTheirWay_4 rfl 2 rfl ?_
    refine V_aload_n hc dX10_onTheirWay_5 rfl 0 rfl ?_
    obtain ⟨v1, hv1, hf⟩ := mb hf
    refine C_geti hc rfl iW10 (by decide) 6 (by decide) rfl hv1 w2_84 dX10_onTheirWay_6 ?_
    refine V_icmp_ge hc dX10_onTheirWay_9 rfl (fun hq9 => ?_) (fun hq9 => ?_)
    · rw [if_pos hq9] at hf
      obtain rfl := Option.some.inj hf
      exact V_sub [1] rfl hx0
    · rw [if_neg hq9] at hf
      refine V_iload_n hc dX10_onTheirWay_12 rfl 1 rfl ?_
      refine V_aload_n hc dX10_onTheirWay_13 rfl 0 rfl ?_
      obtain ⟨v2, hv2, hf⟩ := mb hf
      refine C_geti hc rfl iW10 (by decide) 11 (by decide) rfl hv2 w2_95 dX10_onTheirWay_14 ?_
      refine V_aload_n hc dX10_onTheirWay_17 rfl 0 rfl ?_
      obtain ⟨a3, ha3, hf⟩ := mb hf
      refine C_getr hc rfl iW10 (by decide) 3 (by decide) rfl ha3 w2_78 dX10_onTheirWay_18 ?_
      refine V_iload_n hc dX10_onTheirWay_21 rfl 2 rfl ?_
      obtain ⟨a4, ha4, hf⟩ := mb hf
      refine C_aald hc hT (by decide) (by decide) ha4 dX10_onTheirWay_22 ?_
      obtain ⟨v5, hv5, hf⟩ := mb hf
      refine C_geti hc rfl iW1 (by decide) 8 (by decide) rfl hv5 w2_20 dX10_onTheirWay_23 ?_
      refine V_isub hc dX10_onTheirWay_26 ?_
      refine V_aload_n hc dX10_onTheirWay_27 rfl 0 rfl ?_
      obtain ⟨a6, ha6, hf⟩ := mb hf
      refine C_getr hc rfl iW10 (by decide) 3 (by decide) rfl ha6 w2_78 dX10_onTheirWay_28 ?_
      refine V_iload_n hc dX10_onTheirWay_31 rfl 2 rfl ?_
      obtain ⟨a7, ha7, hf⟩ := mb hf
      refine C_aald hc hT (by decide) (by decide) ha7 dX10_onTheirWay_32 ?_
      obtain ⟨v8, hv8, hf⟩ := mb hf
      refine C_geti hc rfl iW1 (by decide) 11 (by decide) rfl hv8 w2_29 dX10_onTheirWay_33 ?_
      refine V_iconst hc (v := (-1 : Int32)) dX10_onTheirWay_36 rfl ?_
      obtain ⟨v9, hv10, hf⟩ := mb hf
      have hJ37 : V E (cZ S) (cU S) (cw y S) 45 [(0, .ref h), (2, .int i2)] [.int v9, .int (v2 - v5), .int i1] := by
        refine V_iadd hc dX10_onTheirWay_45 ?_
        refine V_iadd hc dX10_onTheirWay_46 ?_
        refine V_istore_n hc dX10_onTheirWay_47 rfl (by decide) rfl ?_
        refine V_iinc hc (j := 2) (v := (i2 + (1 : Int32))) dX10_onTheirWay_48 rfl rfl (by decide) rfl ?_
        refine V_goto hc dX10_onTheirWay_51 rfl ?_
        exact V_sub [2, 1, 0] rfl (ih _ _ hf hx0)
      refine V_icmp_ne hc dX10_onTheirWay_37 rfl (fun hq37 => ?_) (fun hq37 => ?_)
      · rw [if_neg hq37] at hv10
        refine V_iconst hc (v := (1 : Int32)) dX10_onTheirWay_44 rfl ?_
        obtain rfl := Option.some.inj hv10
        exact V_sub [0, 2] rfl hJ37
      · rw [if_pos hq37] at hv10
        refine V_iconst hc (v := (0 : Int32)) dX10_onTheirWay_40 rfl ?_
        refine V_goto hc dX10_onTheirWay_41 rfl ?_
        obtain rfl := Option.some.inj hv10
        exact V_sub [0, 2] rfl hJ37
set_option maxHeartbeats 4000000 in
set_option maxRecDepth 100000 in
theorem c10_onTheirWay (l : Launch) (D : va_G) (y : CyT) (zM uM : Nat) {S : CS} {h : Nat} {r : Int32} (hf : f10_onTheirWay S h = some r) : CT l D y yX10_onTheirWay cX10_onTheirWay 3 (some .int) 0 0 zM uM [.ref h] (cZ S) (cU S) (cw y S) (cZ S) (cU S) (cw y S) (some (.int r)) := by
  refine CT.of (by decide) (Nat.le_of_ble_eq_true rfl) (fun E hc hzz hnm => ?_)
  have hc : Cx E "FarEditors$World" cX10_onTheirWay 3 := hc
  have hz := hzz.1
  have hT := hz.2.2.1
  show V E (cZ S) (cU S) (cw y S) 0 [(0, .ref h)] []
  unfold f10_onTheirWay at hf
  refine V_iconst hc (v := (0 : Int32)) dX10_onTheirWay_0 rfl ?_
  refine V_istore_n hc dX10_onTheirWay_1 rfl (by decide) rfl ?_
  refine V_iconst hc (v := (0 : Int32)) dX10_onTheirWay_2 rfl ?_
  refine V_istore_n hc dX10_onTheirWay_3 rfl (by decide) rfl ?_
  obtain ⟨x1, hv2, hf⟩ := mb hf
  refine V_sub [2, 1, 0] rfl (LX10_onTheirWay_4_ok hc h S hz FU _ _ hv2 ?_)
  refine V_iload_n hc dX10_onTheirWay_54 rfl 0 rfl ?_
  obtain rfl := Option.some.inj hf
  exact V_iret hc hzz rfl rfl rfl rfl rfl dX10_onTheirWay_55
noncomputable def LX10_countLettersBy_4 (h : Nat) (c1 : Int32) (S : CS) : Nat → Int32 → Int32 → Option (Int32)
  | 0, _, _ => none
  | n + 1, i2, i3 =>
    (gr S 10 h 2).bind fun a1 =>
    (gi S 7 a1 1).bind fun v2 =>
    if v2 ≤ i3 then (
      some i2
    ) else (
      (gr S 10 h 2).bind fun a3 =>
      (cal S 7 a3 (f7_writerOf S a3 i3)).bind fun v4 =>
      (cal S 10 h (f10_ownerOf S h v4)).bind fun v5 =>
      (
        if v5 = c1 then (
          some (1 : Int32)
        ) else (
          some (0 : Int32)
        )
      ).bind fun v6 =>
      LX10_countLettersBy_4 h c1 S n (i2 + v6) (i3 + (1 : Int32))
    )
noncomputable def f10_countLettersBy (S : CS) (h : Nat) (p1 : Int32) : Option (Int32) :=
  (LX10_countLettersBy_4 h p1 S FU (0 : Int32) (0 : Int32)).bind fun x1 =>
  some x1
theorem hdX_X10_countLettersBy : yX10_countLettersBy.cls = "FarEditors$World" ∧ yX10_countLettersBy.cls ≠ "java/lang/invoke/MethodHandle" ∧ yX10_countLettersBy.cls ≠ "java/lang/invoke/VarHandle" ∧ (parseMethodDescriptor yX10_countLettersBy.desc).map (fun d => d.parameters.length) = some 1 := by decide +kernel
set_option maxHeartbeats 4000000 in
set_option maxRecDepth 100000 in
theorem LX10_countLettersBy_4_ok {E : CxT} {l : Launch} {D : va_G} {y : CyT} {zM uM : Nat} (hc : Cx E "FarEditors$World" cX10_countLettersBy 4) (h : Nat) (c1 : Int32) (S : CS) (hz : Cy E l D y 2 42 zM uM) : ∀ (n : Nat) (i2 : Int32) (i3 : Int32) {o2 : Int32}, LX10_countLettersBy_4 h c1 S n i2 i3 = some o2 → (hx0 : V E (cZ S) (cU S) (cw y S) 45 [(2, .int o2)] []) → V E (cZ S) (cU S) (cw y S) 4 [(0, .ref h), (1, .int c1), (2, .int i2), (3, .int i3)] [] := by
  have hT := hz.2.2.1
  intro n
  induction n with
  | zero => intro i2 i3 o2 hf; cases hf
  | succ n ih =>
    intro i2 i3 o2 hf hx0
    unfold LX10_countLettersBy_4 at hf
    refine V_iload_n hc dX10_countLettersBy_4 rfl 3 rfl ?_
    refine V_aload_n hc dX10_countLettersBy_5 rfl 0 rfl ?_
    obtain ⟨a1, ha1, hf⟩ := mb hf
    refine C_getr hc rfl iW10 (by decide) 2 (by decide) rfl ha1 w2_75 dX10_countLettersBy_6 ?_
    obtain ⟨v2, hv2, hf⟩ := mb hf
    refine C_geti hc rfl iW7 (by decide) 1 (by decide) rfl hv2 w1_171 dX10_countLettersBy_9 ?_
    refine V_icmp_ge hc dX10_countLettersBy_12 rfl (fun hq12 => ?_) (fun hq12 => ?_)
    · rw [if_pos hq12] at hf
      obtain rfl := Option.some.inj hf
      exact V_sub [2] rfl hx0
    · rw [if_neg hq12] at hf
      refine V_iload_n hc dX10_countLettersBy_15 rfl 2 rfl ?_
      refine V_aload_n hc dX10_countLettersBy_16 rfl 0 rfl ?_
      refine V_aload_n hc dX10_countLettersBy_17 rfl 0 rfl ?_
      obtain ⟨a3, ha3, hf⟩ := mb hf
      refine C_getr hc rfl iW10 (by decide) 2 (by decide) rfl ha3 w2_75 dX10_countLettersBy_18 ?_
      refine V_iload_n hc dX10_countLettersBy_21 rfl 3 rfl ?_
      obtain ⟨v4, hv4, hf⟩ := mb hf
      obtain ⟨hkv4, hv4⟩ := og hv4
      refine C_callV hc hz (As := [.int i3]) hkv4 (by decide) (c7_writerOf l D y _ _ hv4) w4_69 w4_70 w4_71 w1_7 w4_72 hdX_X7_writerOf ⟨(Nat.le_of_ble_eq_true rfl), (Nat.le_of_ble_eq_true rfl)⟩ rfl rfl rfl (Nat.le_of_ble_eq_true rfl) dX10_countLettersBy_22 ?_
      obtain ⟨v5, hv5, hf⟩ := mb hf
      obtain ⟨hkv5, hv5⟩ := og hv5
      refine C_callV hc hz (As := [.int v4]) hkv5 (by decide) (c10_ownerOf l D y _ _ hv5) w4_77 w4_78 w4_79 w1_8 w4_80 hdX_X10_ownerOf ⟨(Nat.le_of_ble_eq_true rfl), (Nat.le_of_ble_eq_true rfl)⟩ rfl rfl rfl (Nat.le_of_ble_eq_true rfl) dX10_countLettersBy_25 ?_
      refine V_iload_n hc dX10_countLettersBy_28 rfl 1 rfl ?_
      obtain ⟨v6, hv7, hf⟩ := mb hf
      have hJ29 : V E (cZ S) (cU S) (cw y S) 37 [(0, .ref h), (1, .int c1), (3, .int i3)] [.int v6, .int i2] := by
        refine V_iadd hc dX10_countLettersBy_37 ?_
        refine V_istore_n hc dX10_countLettersBy_38 rfl (by decide) rfl ?_
        refine V_iinc hc (j := 3) (v := (i3 + (1 : Int32))) dX10_countLettersBy_39 rfl rfl (by decide) rfl ?_
        refine V_goto hc dX10_countLettersBy_42 rfl ?_
        exact V_sub [2, 3, 1, 0] rfl (ih _ _ hf hx0)
      refine V_icmp_ne hc dX10_countLettersBy_29 rfl (fun hq29 => ?_) (fun hq29 => ?_)
      · rw [if_neg hq29] at hv7
        refine V_iconst hc (v := (0 : Int32)) dX10_countLettersBy_36 rfl ?_
        obtain rfl := Option.some.inj hv7
        exact V_sub [0, 1, 3] rfl hJ29
      · rw [if_pos hq29] at hv7
        refine V_iconst hc (v := (1 : Int32)) dX10_countLettersBy_32 rfl ?_
        refine V_goto hc dX10_countLettersBy_33 rfl ?_
        obtain rfl := Option.some.inj hv7
        exact V_sub [0, 1, 3] rfl hJ29
set_option maxHeartbeats 4000000 in
set_option maxRecDepth 100000 in
theorem c10_countLettersBy (l : Launch) (D : va_G) (y : CyT) (zM uM : Nat) {S : CS} {h : Nat} {p1 : Int32} {r : Int32} (hf : f10_countLettersBy S h p1 = some r) : CT l D y yX10_countLettersBy cX10_countLettersBy 4 (some .int) 2 42 zM uM [.ref h, .int p1] (cZ S) (cU S) (cw y S) (cZ S) (cU S) (cw y S) (some (.int r)) := by
  refine CT.of (by decide) (Nat.le_of_ble_eq_true rfl) (fun E hc hzz hnm => ?_)
  have hc : Cx E "FarEditors$World" cX10_countLettersBy 4 := hc
  have hz := hzz.1
  have hT := hz.2.2.1
  show V E (cZ S) (cU S) (cw y S) 0 [(0, .ref h), (1, .int p1)] []
  unfold f10_countLettersBy at hf
  refine V_iconst hc (v := (0 : Int32)) dX10_countLettersBy_0 rfl ?_
  refine V_istore_n hc dX10_countLettersBy_1 rfl (by decide) rfl ?_
  refine V_iconst hc (v := (0 : Int32)) dX10_countLettersBy_2 rfl ?_
  refine V_istore_n hc dX10_countLettersBy_3 rfl (by decide) rfl ?_
  obtain ⟨x1, hv2, hf⟩ := mb hf
  refine V_sub [2, 3, 1, 0] rfl (LX10_countLettersBy_4_ok hc h p1 S hz FU _ _ hv2 ?_)
  refine V_iload_n hc dX10_countLettersBy_45 rfl 0 rfl ?_
  obtain rfl := Option.some.inj hf
  exact V_iret hc hzz rfl rfl rfl rfl rfl dX10_countLettersBy_46
noncomputable def f10_canPlace (S : CS) (h : Nat) (p1 : Int32) (p2 : Int32) : Option (Int32) :=
  (cal S 10 h (f10_knows S h p1)).bind fun v1 =>
  (
    if v1 = 0 then (
      some (0 : Int32)
    ) else (
      if p2 < 0 then (
        some (0 : Int32)
      ) else (
        (gr S 10 h 3).bind fun a4 =>
        (ldr S 16 a4 p1).bind fun a5 =>
        (gr S 1 a5 0).bind fun a6 =>
        (gi S 7 a6 1).bind fun v7 =>
        if v7 < p2 then (
          some (0 : Int32)
        ) else (
          some (1 : Int32)
        )
      )
    )
  ).bind fun v2 =>
  (bz v2).bind fun v8 =>
  some v8
theorem hdX_X10_canPlace : yX10_canPlace.cls = "FarEditors$World" ∧ yX10_canPlace.cls ≠ "java/lang/invoke/MethodHandle" ∧ yX10_canPlace.cls ≠ "java/lang/invoke/VarHandle" ∧ (parseMethodDescriptor yX10_canPlace.desc).map (fun d => d.parameters.length) = some 2 := by decide +kernel
set_option maxHeartbeats 4000000 in
set_option maxRecDepth 100000 in
theorem c10_canPlace (l : Launch) (D : va_G) (y : CyT) (zM uM : Nat) {S : CS} {h : Nat} {p1 : Int32} {p2 : Int32} {r : Int32} (hf : f10_canPlace S h p1 p2 = some r) : CT l D y yX10_canPlace cX10_canPlace 3 (some .boolean) 1 21 zM uM [.ref h, .int p1, .int p2] (cZ S) (cU S) (cw y S) (cZ S) (cU S) (cw y S) (some (.int r)) := by
  refine CT.of (by decide) (Nat.le_of_ble_eq_true rfl) (fun E hc hzz hnm => ?_)
  have hc : Cx E "FarEditors$World" cX10_canPlace 3 := hc
  have hz := hzz.1
  have hT := hz.2.2.1
  show V E (cZ S) (cU S) (cw y S) 0 [(0, .ref h), (1, .int p1), (2, .int p2)] []
  unfold f10_canPlace at hf
  refine V_aload_n hc dX10_canPlace_0 rfl 0 rfl ?_
  refine V_iload_n hc dX10_canPlace_1 rfl 1 rfl ?_
  obtain ⟨v1, hv1, hf⟩ := mb hf
  obtain ⟨hkv1, hv1⟩ := og hv1
  refine C_callV hc hz (As := [.int p1]) hkv1 (by decide) (c10_knows l D y _ _ hv1) w4_6 w3_223 w3_224 w1_8 w3_225 hdX_X10_knows ⟨(Nat.le_of_ble_eq_true rfl), (Nat.le_of_ble_eq_true rfl)⟩ rfl rfl rfl (Nat.le_of_ble_eq_true rfl) dX10_canPlace_2 ?_
  obtain ⟨v2, hv3, hf⟩ := mb hf
  have hJ5 : V E (cZ S) (cU S) (cw y S) 33 [] [.int v2] := by
    obtain ⟨v8, hv8, hf⟩ := mb hf
    obtain ⟨hbv8, rfl⟩ := bz_some hv8
    obtain rfl := Option.some.inj hf
    exact V_iret hc hzz (bz_nar hbv8) rfl rfl rfl rfl dX10_canPlace_33
  refine V_if_eq hc dX10_canPlace_5 rfl (fun hq5 => ?_) (fun hq5 => ?_)
  · rw [if_pos hq5] at hv3
    refine V_iconst hc (v := (0 : Int32)) dX10_canPlace_32 rfl ?_
    obtain rfl := Option.some.inj hv3
    exact V_sub [] rfl hJ5
  · rw [if_neg hq5] at hv3
    refine V_iload_n hc dX10_canPlace_8 rfl 2 rfl ?_
    refine V_if_lt hc dX10_canPlace_9 rfl (fun hq9 => ?_) (fun hq9 => ?_)
    · rw [if_pos hq9] at hv3
      refine V_iconst hc (v := (0 : Int32)) dX10_canPlace_32 rfl ?_
      obtain rfl := Option.some.inj hv3
      exact V_sub [] rfl hJ5
    · rw [if_neg hq9] at hv3
      refine V_iload_n hc dX10_canPlace_12 rfl 2 rfl ?_
      refine V_aload_n hc dX10_canPlace_13 rfl 0 rfl ?_
      obtain ⟨a4, ha4, hv3⟩ := mb hv3
      refine C_getr hc rfl iW10 (by decide) 3 (by decide) rfl ha4 w2_78 dX10_canPlace_14 ?_
      refine V_iload_n hc dX10_canPlace_17 rfl 1 rfl ?_
      obtain ⟨a5, ha5, hv3⟩ := mb hv3
      refine C_aald hc hT (by decide) (by decide) ha5 dX10_canPlace_18 ?_
      obtain ⟨a6, ha6, hv3⟩ := mb hv3
      refine C_getr hc rfl iW1 (by decide) 0 (by decide) rfl ha6 w1_239 dX10_canPlace_19 ?_
      obtain ⟨v7, hv7, hv3⟩ := mb hv3
      refine C_geti hc rfl iW7 (by decide) 1 (by decide) rfl hv7 w1_171 dX10_canPlace_22 ?_
      refine V_icmp_gt hc dX10_canPlace_25 rfl (fun hq25 => ?_) (fun hq25 => ?_)
      · rw [if_pos hq25] at hv3
        refine V_iconst hc (v := (0 : Int32)) dX10_canPlace_32 rfl ?_
        obtain rfl := Option.some.inj hv3
        exact V_sub [] rfl hJ5
      · rw [if_neg hq25] at hv3
        refine V_iconst hc (v := (1 : Int32)) dX10_canPlace_28 rfl ?_
        refine V_goto hc dX10_canPlace_29 rfl ?_
        obtain rfl := Option.some.inj hv3
        exact V_sub [] rfl hJ5
noncomputable def f10_canPut (S : CS) (h : Nat) (p1 : Int32) (p2 : Int32) (p3 : Int32) : Option (Int32) :=
  (cal S 10 h (f10_canPlace S h p1 p2)).bind fun v1 =>
  (
    if v1 = 0 then (
      some (0 : Int32)
    ) else (
      if p3 < (1 : Int32) then (
        some (0 : Int32)
      ) else (
        if (26 : Int32) < p3 then (
          some (0 : Int32)
        ) else (
          some (1 : Int32)
        )
      )
    )
  ).bind fun v2 =>
  (bz v2).bind fun v4 =>
  some v4
theorem hdX_X10_canPut : yX10_canPut.cls = "FarEditors$World" ∧ yX10_canPut.cls ≠ "java/lang/invoke/MethodHandle" ∧ yX10_canPut.cls ≠ "java/lang/invoke/VarHandle" ∧ (parseMethodDescriptor yX10_canPut.desc).map (fun d => d.parameters.length) = some 3 := by decide +kernel
set_option maxHeartbeats 4000000 in
set_option maxRecDepth 100000 in
theorem c10_canPut (l : Launch) (D : va_G) (y : CyT) (zM uM : Nat) {S : CS} {h : Nat} {p1 : Int32} {p2 : Int32} {p3 : Int32} {r : Int32} (hf : f10_canPut S h p1 p2 p3 = some r) : CT l D y yX10_canPut cX10_canPut 4 (some .boolean) 2 43 zM uM [.ref h, .int p1, .int p2, .int p3] (cZ S) (cU S) (cw y S) (cZ S) (cU S) (cw y S) (some (.int r)) := by
  refine CT.of (by decide) (Nat.le_of_ble_eq_true rfl) (fun E hc hzz hnm => ?_)
  have hc : Cx E "FarEditors$World" cX10_canPut 4 := hc
  have hz := hzz.1
  have hT := hz.2.2.1
  show V E (cZ S) (cU S) (cw y S) 0 [(0, .ref h), (1, .int p1), (2, .int p2), (3, .int p3)] []
  unfold f10_canPut at hf
  refine V_aload_n hc dX10_canPut_0 rfl 0 rfl ?_
  refine V_iload_n hc dX10_canPut_1 rfl 1 rfl ?_
  refine V_iload_n hc dX10_canPut_2 rfl 2 rfl ?_
  obtain ⟨v1, hv1, hf⟩ := mb hf
  obtain ⟨hkv1, hv1⟩ := og hv1
  refine C_callV hc hz (As := [.int p1, .int p2]) hkv1 (by decide) (c10_canPlace l D y _ _ hv1) w4_180 w4_173 w4_174 w1_8 w4_175 hdX_X10_canPlace ⟨(Nat.le_of_ble_eq_true rfl), (Nat.le_of_ble_eq_true rfl)⟩ rfl rfl rfl (Nat.le_of_ble_eq_true rfl) dX10_canPut_3 ?_
  obtain ⟨v2, hv3, hf⟩ := mb hf
  have hJ6 : V E (cZ S) (cU S) (cw y S) 25 [] [.int v2] := by
    obtain ⟨v4, hv4, hf⟩ := mb hf
    obtain ⟨hbv4, rfl⟩ := bz_some hv4
    obtain rfl := Option.some.inj hf
    exact V_iret hc hzz (bz_nar hbv4) rfl rfl rfl rfl dX10_canPut_25
  refine V_if_eq hc dX10_canPut_6 rfl (fun hq6 => ?_) (fun hq6 => ?_)
  · rw [if_pos hq6] at hv3
    refine V_iconst hc (v := (0 : Int32)) dX10_canPut_24 rfl ?_
    obtain rfl := Option.some.inj hv3
    exact V_sub [] rfl hJ6
  · rw [if_neg hq6] at hv3
    refine V_iload_n hc dX10_canPut_9 rfl 3 rfl ?_
    refine V_iconst hc (v := (1 : Int32)) dX10_canPut_10 rfl ?_
    refine V_icmp_lt hc dX10_canPut_11 rfl (fun hq11 => ?_) (fun hq11 => ?_)
    · rw [if_pos hq11] at hv3
      refine V_iconst hc (v := (0 : Int32)) dX10_canPut_24 rfl ?_
      obtain rfl := Option.some.inj hv3
      exact V_sub [] rfl hJ6
    · rw [if_neg hq11] at hv3
      refine V_iload_n hc dX10_canPut_14 rfl 3 rfl ?_
      refine V_bipush hc (v := (26 : Int32)) dX10_canPut_15 rfl ?_
      refine V_icmp_gt hc dX10_canPut_17 rfl (fun hq17 => ?_) (fun hq17 => ?_)
      · rw [if_pos hq17] at hv3
        refine V_iconst hc (v := (0 : Int32)) dX10_canPut_24 rfl ?_
        obtain rfl := Option.some.inj hv3
        exact V_sub [] rfl hJ6
      · rw [if_neg hq17] at hv3
        refine V_iconst hc (v := (1 : Int32)) dX10_canPut_20 rfl ?_
        refine V_goto hc dX10_canPut_21 rfl ?_
        obtain rfl := Option.some.inj hv3
        exact V_sub [] rfl hJ6
noncomputable def f10_canCut (S : CS) (h : Nat) (p1 : Int32) (p2 : Int32) (p3 : Int32) : Option (Int32) :=
  (cal S 10 h (f10_canPlace S h p1 p2)).bind fun v1 =>
  (
    if v1 = 0 then (
      some (0 : Int32)
    ) else (
      if p3 < (1 : Int32) then (
        some (0 : Int32)
      ) else (
        (gr S 10 h 3).bind fun a4 =>
        (ldr S 16 a4 p1).bind fun a5 =>
        (gr S 1 a5 0).bind fun a6 =>
        (gi S 7 a6 1).bind fun v7 =>
        if (v7 - p2) < p3 then (
          some (0 : Int32)
        ) else (
          some (1 : Int32)
        )
      )
    )
  ).bind fun v2 =>
  (bz v2).bind fun v8 =>
  some v8
theorem hdX_X10_canCut : yX10_canCut.cls = "FarEditors$World" ∧ yX10_canCut.cls ≠ "java/lang/invoke/MethodHandle" ∧ yX10_canCut.cls ≠ "java/lang/invoke/VarHandle" ∧ (parseMethodDescriptor yX10_canCut.desc).map (fun d => d.parameters.length) = some 3 := by decide +kernel
set_option maxHeartbeats 4000000 in
set_option maxRecDepth 100000 in
theorem c10_canCut (l : Launch) (D : va_G) (y : CyT) (zM uM : Nat) {S : CS} {h : Nat} {p1 : Int32} {p2 : Int32} {p3 : Int32} {r : Int32} (hf : f10_canCut S h p1 p2 p3 = some r) : CT l D y yX10_canCut cX10_canCut 4 (some .boolean) 2 43 zM uM [.ref h, .int p1, .int p2, .int p3] (cZ S) (cU S) (cw y S) (cZ S) (cU S) (cw y S) (some (.int r)) := by
  refine CT.of (by decide) (Nat.le_of_ble_eq_true rfl) (fun E hc hzz hnm => ?_)
  have hc : Cx E "FarEditors$World" cX10_canCut 4 := hc
  have hz := hzz.1
  have hT := hz.2.2.1
  show V E (cZ S) (cU S) (cw y S) 0 [(0, .ref h), (1, .int p1), (2, .int p2), (3, .int p3)] []
  unfold f10_canCut at hf
  refine V_aload_n hc dX10_canCut_0 rfl 0 rfl ?_
  refine V_iload_n hc dX10_canCut_1 rfl 1 rfl ?_
  refine V_iload_n hc dX10_canCut_2 rfl 2 rfl ?_
  obtain ⟨v1, hv1, hf⟩ := mb hf
  obtain ⟨hkv1, hv1⟩ := og hv1
  refine C_callV hc hz (As := [.int p1, .int p2]) hkv1 (by decide) (c10_canPlace l D y _ _ hv1) w4_180 w4_173 w4_174 w1_8 w4_175 hdX_X10_canPlace ⟨(Nat.le_of_ble_eq_true rfl), (Nat.le_of_ble_eq_true rfl)⟩ rfl rfl rfl (Nat.le_of_ble_eq_true rfl) dX10_canCut_3 ?_
  obtain ⟨v2, hv3, hf⟩ := mb hf
  have hJ6 : V E (cZ S) (cU S) (cw y S) 37 [] [.int v2] := by
    obtain ⟨v8, hv8, hf⟩ := mb hf
    obtain ⟨hbv8, rfl⟩ := bz_some hv8
    obtain rfl := Option.some.inj hf
    exact V_iret hc hzz (bz_nar hbv8) rfl rfl rfl rfl dX10_canCut_37
  refine V_if_eq hc dX10_canCut_6 rfl (fun hq6 => ?_) (fun hq6 => ?_)
  · rw [if_pos hq6] at hv3
    refine V_iconst hc (v := (0 : Int32)) dX10_canCut_36 rfl ?_
    obtain rfl := Option.some.inj hv3
    exact V_sub [] rfl hJ6
  · rw [if_neg hq6] at hv3
    refine V_iload_n hc dX10_canCut_9 rfl 3 rfl ?_
    refine V_iconst hc (v := (1 : Int32)) dX10_canCut_10 rfl ?_
    refine V_icmp_lt hc dX10_canCut_11 rfl (fun hq11 => ?_) (fun hq11 => ?_)
    · rw [if_pos hq11] at hv3
      refine V_iconst hc (v := (0 : Int32)) dX10_canCut_36 rfl ?_
      obtain rfl := Option.some.inj hv3
      exact V_sub [] rfl hJ6
    · rw [if_neg hq11] at hv3
      refine V_iload_n hc dX10_canCut_14 rfl 3 rfl ?_
      refine V_aload_n hc dX10_canCut_15 rfl 0 rfl ?_
      obtain ⟨a4, ha4, hv3⟩ := mb hv3
      refine C_getr hc rfl iW10 (by decide) 3 (by decide) rfl ha4 w2_78 dX10_canCut_16 ?_
      refine V_iload_n hc dX10_canCut_19 rfl 1 rfl ?_
      obtain ⟨a5, ha5, hv3⟩ := mb hv3
      refine C_aald hc hT (by decide) (by decide) ha5 dX10_canCut_20 ?_
      obtain ⟨a6, ha6, hv3⟩ := mb hv3
      refine C_getr hc rfl iW1 (by decide) 0 (by decide) rfl ha6 w1_239 dX10_canCut_21 ?_
      obtain ⟨v7, hv7, hv3⟩ := mb hv3
      refine C_geti hc rfl iW7 (by decide) 1 (by decide) rfl hv7 w1_171 dX10_canCut_24 ?_
      refine V_iload_n hc dX10_canCut_27 rfl 2 rfl ?_
      refine V_isub hc dX10_canCut_28 ?_
      refine V_icmp_gt hc dX10_canCut_29 rfl (fun hq29 => ?_) (fun hq29 => ?_)
      · rw [if_pos hq29] at hv3
        refine V_iconst hc (v := (0 : Int32)) dX10_canCut_36 rfl ?_
        obtain rfl := Option.some.inj hv3
        exact V_sub [] rfl hJ6
      · rw [if_neg hq29] at hv3
        refine V_iconst hc (v := (1 : Int32)) dX10_canCut_32 rfl ?_
        refine V_goto hc dX10_canCut_33 rfl ?_
        obtain rfl := Option.some.inj hv3
        exact V_sub [] rfl hJ6
noncomputable def f10_canMark (S : CS) (h : Nat) (p1 : Int32) (p2 : Int32) (p3 : Int32) (p4 : Int32) : Option (Int32) :=
  (cal S 10 h (f10_canPlace S h p1 p2)).bind fun v1 =>
  (
    if v1 = 0 then (
      some (0 : Int32)
    ) else (
      (cal S 10 h (f10_canPlace S h p1 p3)).bind fun v4 =>
      if v4 = 0 then (
        some (0 : Int32)
      ) else (
        if p3 < p2 then (
          some (0 : Int32)
        ) else (
          if p4 < 0 then (
            some (0 : Int32)
          ) else (
            if (3 : Int32) < p4 then (
              some (0 : Int32)
            ) else (
              (gr S 10 h 3).bind fun a5 =>
              (ldr S 16 a5 p1).bind fun a6 =>
              (gi S 1 a6 7).bind fun v7 =>
              if (4 : Int32) ≤ v7 then (
                some (0 : Int32)
              ) else (
                some (1 : Int32)
              )
            )
          )
        )
      )
    )
  ).bind fun v2 =>
  (bz v2).bind fun v8 =>
  some v8
theorem hdX_X10_canMark : yX10_canMark.cls = "FarEditors$World" ∧ yX10_canMark.cls ≠ "java/lang/invoke/MethodHandle" ∧ yX10_canMark.cls ≠ "java/lang/invoke/VarHandle" ∧ (parseMethodDescriptor yX10_canMark.desc).map (fun d => d.parameters.length) = some 4 := by decide +kernel
set_option maxHeartbeats 4000000 in
set_option maxRecDepth 100000 in
theorem c10_canMark (l : Launch) (D : va_G) (y : CyT) (zM uM : Nat) {S : CS} {h : Nat} {p1 : Int32} {p2 : Int32} {p3 : Int32} {p4 : Int32} {r : Int32} (hf : f10_canMark S h p1 p2 p3 p4 = some r) : CT l D y yX10_canMark cX10_canMark 5 (some .boolean) 2 43 zM uM [.ref h, .int p1, .int p2, .int p3, .int p4] (cZ S) (cU S) (cw y S) (cZ S) (cU S) (cw y S) (some (.int r)) := by
  refine CT.of (by decide) (Nat.le_of_ble_eq_true rfl) (fun E hc hzz hnm => ?_)
  have hc : Cx E "FarEditors$World" cX10_canMark 5 := hc
  have hz := hzz.1
  have hT := hz.2.2.1
  show V E (cZ S) (cU S) (cw y S) 0 [(0, .ref h), (1, .int p1), (2, .int p2), (3, .int p3), (4, .int p4)] []
  unfold f10_canMark at hf
  refine V_aload_n hc dX10_canMark_0 rfl 0 rfl ?_
  refine V_iload_n hc dX10_canMark_1 rfl 1 rfl ?_
  refine V_iload_n hc dX10_canMark_2 rfl 2 rfl ?_
  obtain ⟨v1, hv1, hf⟩ := mb hf
  obtain ⟨hkv1, hv1⟩ := og hv1
  refine C_callV hc hz (As := [.int p1, .int p2]) hkv1 (by decide) (c10_canPlace l D y _ _ hv1) w4_180 w4_173 w4_174 w1_8 w4_175 hdX_X10_canPlace ⟨(Nat.le_of_ble_eq_true rfl), (Nat.le_of_ble_eq_true rfl)⟩ rfl rfl rfl (Nat.le_of_ble_eq_true rfl) dX10_canMark_3 ?_
  obtain ⟨v2, hv3, hf⟩ := mb hf
  have hJ6 : V E (cZ S) (cU S) (cw y S) 52 [] [.int v2] := by
    obtain ⟨v8, hv8, hf⟩ := mb hf
    obtain ⟨hbv8, rfl⟩ := bz_some hv8
    obtain rfl := Option.some.inj hf
    exact V_iret hc hzz (bz_nar hbv8) rfl rfl rfl rfl dX10_canMark_52
  refine V_if_eq hc dX10_canMark_6 rfl (fun hq6 => ?_) (fun hq6 => ?_)
  · rw [if_pos hq6] at hv3
    refine V_iconst hc (v := (0 : Int32)) dX10_canMark_51 rfl ?_
    obtain rfl := Option.some.inj hv3
    exact V_sub [] rfl hJ6
  · rw [if_neg hq6] at hv3
    refine V_aload_n hc dX10_canMark_9 rfl 0 rfl ?_
    refine V_iload_n hc dX10_canMark_10 rfl 1 rfl ?_
    refine V_iload_n hc dX10_canMark_11 rfl 3 rfl ?_
    obtain ⟨v4, hv4, hv3⟩ := mb hv3
    obtain ⟨hkv4, hv4⟩ := og hv4
    refine C_callV hc hz (As := [.int p1, .int p3]) hkv4 (by decide) (c10_canPlace l D y _ _ hv4) w4_180 w4_173 w4_174 w1_8 w4_175 hdX_X10_canPlace ⟨(Nat.le_of_ble_eq_true rfl), (Nat.le_of_ble_eq_true rfl)⟩ rfl rfl rfl (Nat.le_of_ble_eq_true rfl) dX10_canMark_12 ?_
    refine V_if_eq hc dX10_canMark_15 rfl (fun hq15 => ?_) (fun hq15 => ?_)
    · rw [if_pos hq15] at hv3
      refine V_iconst hc (v := (0 : Int32)) dX10_canMark_51 rfl ?_
      obtain rfl := Option.some.inj hv3
      exact V_sub [] rfl hJ6
    · rw [if_neg hq15] at hv3
      refine V_iload_n hc dX10_canMark_18 rfl 2 rfl ?_
      refine V_iload_n hc dX10_canMark_19 rfl 3 rfl ?_
      refine V_icmp_gt hc dX10_canMark_20 rfl (fun hq20 => ?_) (fun hq20 => ?_)
      · rw [if_pos hq20] at hv3
        refine V_iconst hc (v := (0 : Int32)) dX10_canMark_51 rfl ?_
        obtain rfl := Option.some.inj hv3
        exact V_sub [] rfl hJ6
      · rw [if_neg hq20] at hv3
        refine V_iload hc dX10_canMark_23 4 rfl ?_
        refine V_if_lt hc dX10_canMark_25 rfl (fun hq25 => ?_) (fun hq25 => ?_)
        · rw [if_pos hq25] at hv3
          refine V_iconst hc (v := (0 : Int32)) dX10_canMark_51 rfl ?_
          obtain rfl := Option.some.inj hv3
          exact V_sub [] rfl hJ6
        · rw [if_neg hq25] at hv3
          refine V_iload hc dX10_canMark_28 4 rfl ?_
          refine V_iconst hc (v := (3 : Int32)) dX10_canMark_30 rfl ?_
          refine V_icmp_gt hc dX10_canMark_31 rfl (fun hq31 => ?_) (fun hq31 => ?_)
          · rw [if_pos hq31] at hv3
            refine V_iconst hc (v := (0 : Int32)) dX10_canMark_51 rfl ?_
            obtain rfl := Option.some.inj hv3
            exact V_sub [] rfl hJ6
          · rw [if_neg hq31] at hv3
            refine V_aload_n hc dX10_canMark_34 rfl 0 rfl ?_
            obtain ⟨a5, ha5, hv3⟩ := mb hv3
            refine C_getr hc rfl iW10 (by decide) 3 (by decide) rfl ha5 w2_78 dX10_canMark_35 ?_
            refine V_iload_n hc dX10_canMark_38 rfl 1 rfl ?_
            obtain ⟨a6, ha6, hv3⟩ := mb hv3
            refine C_aald hc hT (by decide) (by decide) ha6 dX10_canMark_39 ?_
            obtain ⟨v7, hv7, hv3⟩ := mb hv3
            refine C_geti hc rfl iW1 (by decide) 7 (by decide) rfl hv7 w2_18 dX10_canMark_40 ?_
            refine V_iconst hc (v := (4 : Int32)) dX10_canMark_43 rfl ?_
            refine V_icmp_ge hc dX10_canMark_44 rfl (fun hq44 => ?_) (fun hq44 => ?_)
            · rw [if_pos hq44] at hv3
              refine V_iconst hc (v := (0 : Int32)) dX10_canMark_51 rfl ?_
              obtain rfl := Option.some.inj hv3
              exact V_sub [] rfl hJ6
            · rw [if_neg hq44] at hv3
              refine V_iconst hc (v := (1 : Int32)) dX10_canMark_47 rfl ?_
              refine V_goto hc dX10_canMark_48 rfl ?_
              obtain rfl := Option.some.inj hv3
              exact V_sub [] rfl hJ6
