noncomputable def LX1_passTick_22 (h : Nat) (c1 : Int32) : Nat → Int32 → CS → Option (CS)
  | 0, _, _ => none
  | n + 1, i2, S =>
    if c1 ≤ i2 then (
      some S
    ) else (
      (gr S 1 h 6).bind fun a1 =>
      (aln S 14 a1).bind fun v2 =>
      if v2 ≤ i2 then (
        some S
      ) else (
        (gr S 1 h 6).bind fun a3 =>
        (ldi S a3 i2).bind fun v4 =>
        (
          if v4 ≤ 0 then (
            some S
          ) else (
            (gr S 1 h 6).bind fun a7 =>
            (ldi S a7 i2).bind fun v8 =>
            (sti S a7 i2 (v8 - (1 : Int32))).bind fun S9 =>
            some S9
          )
        ).bind fun S5 =>
        LX1_passTick_22 h c1 n (i2 + (1 : Int32)) S5
      )
    )
noncomputable def f1_passTick (S : CS) (h : Nat) (p1 : Int32) : Option (CS) :=
  (gi S 1 h 11).bind fun v1 =>
  (
    if v1 ≤ 0 then (
      some S
    ) else (
      (gi S 1 h 11).bind fun v4 =>
      (pi S 1 h 11 (v4 - (1 : Int32))).bind fun S5 =>
      some S5
    )
  ).bind fun S2 =>
  (gi S2 1 h 8).bind fun v6 =>
  (LX1_passTick_22 h p1 FU v6 S2).bind fun S7 =>
  some S7
theorem hdX_X1_passTick : yX1_passTick.cls = "FarEditors$Editor" ∧ yX1_passTick.cls ≠ "java/lang/invoke/MethodHandle" ∧ yX1_passTick.cls ≠ "java/lang/invoke/VarHandle" ∧ (parseMethodDescriptor yX1_passTick.desc).map (fun d => d.parameters.length) = some 1 := by decide +kernel
set_option maxHeartbeats 4000000 in
set_option maxRecDepth 100000 in
theorem LX1_passTick_22_ok {E : CxT} {l : Launch} {D : va_G} {y : CyT} {zM uM : Nat} (hc : Cx E "FarEditors$Editor" cX1_passTick 3) (h : Nat) (c1 : Int32) (hz : Cy E l D y 0 0 zM uM) : ∀ (n : Nat) (i2 : Int32) (S : CS) {So : CS}, LX1_passTick_22 h c1 n i2 S = some So → (hx0 : V E (cZ So) (cU So) (cw y So) 61 [] []) → V E (cZ S) (cU S) (cw y S) 22 [(0, .ref h), (1, .int c1), (2, .int i2)] [] := by
  have hT := hz.2.2.1
  intro n
  induction n with
  | zero => intro i2 S So hf; cases hf
  | succ n ih =>
    intro i2 S So hf hx0
    unfold LX1_passTick_22 at hf
    refine V_iload_n hc dX1_passTick_22 rfl 2 rfl ?_
    refine V_iload_n hc dX1_passTick_23 rfl 1 rfl ?_
    refine V_icmp_ge hc dX1_passTick_24 rfl (fun hq24 => ?_) (fun hq24 => ?_)
    · rw [if_pos hq24] at hf
      obtain rfl := Option.some.inj hf
      exact V_sub [] rfl hx0
    · rw [if_neg hq24] at hf
      refine V_iload_n hc dX1_passTick_27 rfl 2 rfl ?_
      refine V_aload_n hc dX1_passTick_28 rfl 0 rfl ?_
      obtain ⟨a1, ha1, hf⟩ := mb hf
      refine C_getr hc rfl iW1 (by decide) 6 (by decide) rfl ha1 w2_14 dX1_passTick_29 ?_
      obtain ⟨v2, hv2, hf⟩ := mb hf
      refine C_alen hc hT hv2 dX1_passTick_32 ?_
      refine V_icmp_ge hc dX1_passTick_33 rfl (fun hq33 => ?_) (fun hq33 => ?_)
      · rw [if_pos hq33] at hf
        obtain rfl := Option.some.inj hf
        exact V_sub [] rfl hx0
      · rw [if_neg hq33] at hf
        refine V_aload_n hc dX1_passTick_36 rfl 0 rfl ?_
        obtain ⟨a3, ha3, hf⟩ := mb hf
        refine C_getr hc rfl iW1 (by decide) 6 (by decide) rfl ha3 w2_14 dX1_passTick_37 ?_
        refine V_iload_n hc dX1_passTick_40 rfl 2 rfl ?_
        obtain ⟨v4, hv4, hf⟩ := mb hf
        refine C_iald hc hT hv4 dX1_passTick_41 ?_
        obtain ⟨S5, hv6, hf⟩ := mb hf
        have hJ42 : V E (cZ S5) (cU S5) (cw y S5) 55 [(0, .ref h), (1, .int c1), (2, .int i2)] [] := by
          refine V_iinc hc (j := 2) (v := (i2 + (1 : Int32))) dX1_passTick_55 rfl rfl (by decide) rfl ?_
          refine V_goto hc dX1_passTick_58 rfl ?_
          exact V_sub [1, 2, 0] rfl (ih _ _ hf hx0)
        refine V_if_le hc dX1_passTick_42 rfl (fun hq42 => ?_) (fun hq42 => ?_)
        · rw [if_pos hq42] at hv6
          obtain rfl := Option.some.inj hv6
          exact V_sub [0, 1, 2] rfl hJ42
        · rw [if_neg hq42] at hv6
          refine V_aload_n hc dX1_passTick_45 rfl 0 rfl ?_
          obtain ⟨a7, ha7, hv6⟩ := mb hv6
          refine C_getr hc rfl iW1 (by decide) 6 (by decide) rfl ha7 w2_14 dX1_passTick_46 ?_
          refine V_iload_n hc dX1_passTick_49 rfl 2 rfl ?_
          refine V_dup2 hc dX1_passTick_50 rfl rfl ?_
          obtain ⟨v8, hv8, hv6⟩ := mb hv6
          refine C_iald hc hT hv8 dX1_passTick_51 ?_
          refine V_iconst hc (v := (1 : Int32)) dX1_passTick_52 rfl ?_
          refine V_isub hc dX1_passTick_53 ?_
          obtain ⟨S9, hS9, hv6⟩ := mb hv6
          refine C_iast hc hT hS9 dX1_passTick_54 ?_
          obtain rfl := Option.some.inj hv6
          exact V_sub [0, 1, 2] rfl hJ42
set_option maxHeartbeats 4000000 in
set_option maxRecDepth 100000 in
theorem c1_passTick (l : Launch) (D : va_G) (y : CyT) (zM uM : Nat) {S S' : CS} {h : Nat} {p1 : Int32} (hf : f1_passTick S h p1 = some S') : CT l D y yX1_passTick cX1_passTick 3 none 0 0 zM uM [.ref h, .int p1] (cZ S) (cU S) (cw y S) (cZ S') (cU S') (cw y S') none := by
  refine CT.of (by decide) (Nat.le_of_ble_eq_true rfl) (fun E hc hzz hnm => ?_)
  have hc : Cx E "FarEditors$Editor" cX1_passTick 3 := hc
  have hz := hzz.1
  have hT := hz.2.2.1
  show V E (cZ S) (cU S) (cw y S) 0 [(0, .ref h), (1, .int p1)] []
  unfold f1_passTick at hf
  refine V_aload_n hc dX1_passTick_0 rfl 0 rfl ?_
  obtain ⟨v1, hv1, hf⟩ := mb hf
  refine C_geti hc rfl iW1 (by decide) 11 (by decide) rfl hv1 w2_27 dX1_passTick_1 ?_
  obtain ⟨S2, hv3, hf⟩ := mb hf
  have hJ4 : V E (cZ S2) (cU S2) (cw y S2) 17 [(0, .ref h), (1, .int p1)] [] := by
    refine V_aload_n hc dX1_passTick_17 rfl 0 rfl ?_
    obtain ⟨v6, hv6, hf⟩ := mb hf
    refine C_geti hc rfl iW1 (by decide) 8 (by decide) rfl hv6 w2_19 dX1_passTick_18 ?_
    refine V_istore_n hc dX1_passTick_21 rfl (by decide) rfl ?_
    obtain ⟨S7, hv8, hf⟩ := mb hf
    refine V_sub [1, 2, 0] rfl (LX1_passTick_22_ok hc h p1 hz FU _ _ hv8 ?_)
    obtain rfl := Option.some.inj hf
    exact V_vret hc hzz rfl rfl rfl rfl dX1_passTick_61
  refine V_if_le hc dX1_passTick_4 rfl (fun hq4 => ?_) (fun hq4 => ?_)
  · rw [if_pos hq4] at hv3
    obtain rfl := Option.some.inj hv3
    exact V_sub [0, 1] rfl hJ4
  · rw [if_neg hq4] at hv3
    refine V_aload_n hc dX1_passTick_7 rfl 0 rfl ?_
    refine V_dup hc dX1_passTick_8 rfl ?_
    obtain ⟨v4, hv4, hv3⟩ := mb hv3
    refine C_geti hc rfl iW1 (by decide) 11 (by decide) rfl hv4 w2_27 dX1_passTick_9 ?_
    refine V_iconst hc (v := (1 : Int32)) dX1_passTick_12 rfl ?_
    refine V_isub hc dX1_passTick_13 ?_
    obtain ⟨S5, hS5, hv3⟩ := mb hv3
    refine C_puti hc rfl iW1 tyX1 tyX1_ok nmX1 (by decide) 11 (by decide) rfl hS5 w2_27 rfl rfl rfl dX1_passTick_14 ?_
    obtain rfl := Option.some.inj hv3
    exact V_sub [0, 1] rfl hJ4
noncomputable def f2_init (X : Nat × Nat) (S : CS) (h : Nat) : Option (CS) :=
  (nwa X S 19 (20 : Int32)).bind fun S1 =>
  (pr S1 2 h 0 (cZ S)).bind fun S2 =>
  (pi S2 2 h 1 (0 : Int32)).bind fun S3 =>
  (pi S3 2 h 2 (0 : Int32)).bind fun S4 =>
  (pi S4 2 h 3 (0 : Int32)).bind fun S5 =>
  some S5
theorem hdX_X2_init : yX2_init.cls = "FarEditors$History" ∧ yX2_init.cls ≠ "java/lang/invoke/MethodHandle" ∧ yX2_init.cls ≠ "java/lang/invoke/VarHandle" ∧ (parseMethodDescriptor yX2_init.desc).map (fun d => d.parameters.length) = some 0 := by decide +kernel
set_option maxHeartbeats 4000000 in
set_option maxRecDepth 100000 in
theorem c2_init (l : Launch) (D : va_G) (y : CyT) (X : Nat × Nat) (hX : X.2 ≤ 100000000) {S S' : CS} {h : Nat} (hf : f2_init X S h = some S') : CT l D y yX2_init cX2_init 1 none 1 20 X.1 X.2 [.ref h] (cZ S) (cU S) (cw y S) (cZ S') (cU S') (cw y S') none := by
  refine CT.of (by decide) (Nat.le_of_ble_eq_true rfl) (fun E hc hzz hnm => ?_)
  have hc : Cx E "FarEditors$History" cX2_init 1 := hc
  have hnm : (xH E).name = "<init>" := hnm
  have hz := hzz.1
  have hT := hz.2.2.1
  show V E (cZ S) (cU S) (cw y S) 0 [(0, .ref h)] []
  unfold f2_init at hf
  refine V_aload_n hc dX2_init_0 rfl 0 rfl ?_
  refine V_objInit hc hz w2_127 w1_27 w1_28 ⟨(Nat.le_of_ble_eq_true rfl), (Nat.le_of_ble_eq_true rfl)⟩ (Nat.le_of_ble_eq_true rfl) dX2_init_1 ?_
  refine V_aload_n hc dX2_init_4 rfl 0 rfl ?_
  refine V_bipush hc (v := (20 : Int32)) dX2_init_5 rfl ?_
  obtain ⟨S1, hS1, hf⟩ := mb hf
  refine C_newr hc hz (by decide) (by decide) hS1 hX w2_128 dX2_init_7 ?_
  obtain ⟨S2, hS2, hf⟩ := mb hf
  refine C_putrF hc hnm rfl iW2 tyX2 tyX2_ok nmX2 (by decide) 0 (by decide) rfl hS2 w2_130 rfl rfl rfl rfl dX2_init_10 ?_
  refine V_aload_n hc dX2_init_13 rfl 0 rfl ?_
  refine V_iconst hc (v := (0 : Int32)) dX2_init_14 rfl ?_
  obtain ⟨S3, hS3, hf⟩ := mb hf
  refine C_puti hc rfl iW2 tyX2 tyX2_ok nmX2 (by decide) 1 (by decide) rfl hS3 w2_131 rfl rfl rfl dX2_init_15 ?_
  refine V_aload_n hc dX2_init_18 rfl 0 rfl ?_
  refine V_iconst hc (v := (0 : Int32)) dX2_init_19 rfl ?_
  obtain ⟨S4, hS4, hf⟩ := mb hf
  refine C_puti hc rfl iW2 tyX2 tyX2_ok nmX2 (by decide) 2 (by decide) rfl hS4 w2_132 rfl rfl rfl dX2_init_20 ?_
  refine V_aload_n hc dX2_init_23 rfl 0 rfl ?_
  refine V_iconst hc (v := (0 : Int32)) dX2_init_24 rfl ?_
  obtain ⟨S5, hS5, hf⟩ := mb hf
  refine C_puti hc rfl iW2 tyX2 tyX2_ok nmX2 (by decide) 3 (by decide) rfl hS5 w2_134 rfl rfl rfl dX2_init_25 ?_
  obtain rfl := Option.some.inj hf
  exact V_vret hc hzz rfl rfl rfl rfl dX2_init_28
noncomputable def f2_begin (S : CS) (h : Nat) : Option (CS) :=
  (pi S 2 h 2 (0 : Int32)).bind fun S1 =>
  (gi S1 2 h 3).bind fun v2 =>
  (pi S1 2 h 3 (v2 + (1 : Int32))).bind fun S3 =>
  some S3
theorem hdX_X2_begin : yX2_begin.cls = "FarEditors$History" ∧ yX2_begin.cls ≠ "java/lang/invoke/MethodHandle" ∧ yX2_begin.cls ≠ "java/lang/invoke/VarHandle" ∧ (parseMethodDescriptor yX2_begin.desc).map (fun d => d.parameters.length) = some 0 := by decide +kernel
set_option maxHeartbeats 4000000 in
set_option maxRecDepth 100000 in
theorem c2_begin (l : Launch) (D : va_G) (y : CyT) (zM uM : Nat) {S S' : CS} {h : Nat} (hf : f2_begin S h = some S') : CT l D y yX2_begin cX2_begin 1 none 0 0 zM uM [.ref h] (cZ S) (cU S) (cw y S) (cZ S') (cU S') (cw y S') none := by
  refine CT.of (by decide) (Nat.le_of_ble_eq_true rfl) (fun E hc hzz hnm => ?_)
  have hc : Cx E "FarEditors$History" cX2_begin 1 := hc
  have hz := hzz.1
  have hT := hz.2.2.1
  show V E (cZ S) (cU S) (cw y S) 0 [(0, .ref h)] []
  unfold f2_begin at hf
  refine V_aload_n hc dX2_begin_0 rfl 0 rfl ?_
  refine V_iconst hc (v := (0 : Int32)) dX2_begin_1 rfl ?_
  obtain ⟨S1, hS1, hf⟩ := mb hf
  refine C_puti hc rfl iW2 tyX2 tyX2_ok nmX2 (by decide) 2 (by decide) rfl hS1 w2_132 rfl rfl rfl dX2_begin_2 ?_
  refine V_aload_n hc dX2_begin_5 rfl 0 rfl ?_
  refine V_dup hc dX2_begin_6 rfl ?_
  obtain ⟨v2, hv2, hf⟩ := mb hf
  refine C_geti hc rfl iW2 (by decide) 3 (by decide) rfl hv2 w2_134 dX2_begin_7 ?_
  refine V_iconst hc (v := (1 : Int32)) dX2_begin_10 rfl ?_
  refine V_iadd hc dX2_begin_11 ?_
  obtain ⟨S3, hS3, hf⟩ := mb hf
  refine C_puti hc rfl iW2 tyX2 tyX2_ok nmX2 (by decide) 3 (by decide) rfl hS3 w2_134 rfl rfl rfl dX2_begin_12 ?_
  obtain rfl := Option.some.inj hf
  exact V_vret hc hzz rfl rfl rfl rfl dX2_begin_15
noncomputable def LX10_init_77 (X : Nat × Nat) (h : Nat) : Nat → Int32 → CS → Option (CS)
  | 0, _, _ => none
  | n + 1, i3, S =>
    (gr S 10 h 3).bind fun a1 =>
    (aln S 16 a1).bind fun v2 =>
    if v2 ≤ i3 then (
      some S
    ) else (
      (gr S 10 h 3).bind fun a3 =>
      (nwo X S 1 15).bind fun S4 =>
      (f1_init X S4 (cZ S)).bind fun S5 =>
      (str S5 16 1 a3 i3 (cZ S)).bind fun S6 =>
      LX10_init_77 X h n (i3 + (1 : Int32)) S6
    )
noncomputable def f10_init (X : Nat × Nat) (S : CS) (h : Nat) (p1 : Nat) (p2 : Nat) : Option (CS) :=
  (nwo X S 7 2).bind fun S1 =>
  (f7_init X S1 (cZ S)).bind fun S2 =>
  (pr S2 10 h 2 (cZ S)).bind fun S3 =>
  (nwa X S3 16 (4 : Int32)).bind fun S4 =>
  (pr S4 10 h 3 (cZ S3)).bind fun S5 =>
  (nwa X S5 14 (4 : Int32)).bind fun S6 =>
  (pr S6 10 h 4 (cZ S5)).bind fun S7 =>
  (pi S7 10 h 5 (1 : Int32)).bind fun S8 =>
  (pi S8 10 h 6 (0 : Int32)).bind fun S9 =>
  (pi S9 10 h 7 (0 : Int32)).bind fun S10 =>
  (pi S10 10 h 8 (0 : Int32)).bind fun S11 =>
  (pi S11 10 h 9 (0 : Int32)).bind fun S12 =>
  (pi S12 10 h 10 (0 : Int32)).bind fun S13 =>
  (pi S13 10 h 11 (0 : Int32)).bind fun S14 =>
  (pr S14 10 h 0 p1).bind fun S15 =>
  (pr S15 10 h 1 p2).bind fun S16 =>
  (LX10_init_77 X h FU (0 : Int32) S16).bind fun S17 =>
  some S17
theorem hdX_X10_init : yX10_init.cls = "FarEditors$World" ∧ yX10_init.cls ≠ "java/lang/invoke/MethodHandle" ∧ yX10_init.cls ≠ "java/lang/invoke/VarHandle" ∧ (parseMethodDescriptor yX10_init.desc).map (fun d => d.parameters.length) = some 2 := by decide +kernel
set_option maxHeartbeats 4000000 in
set_option maxRecDepth 100000 in
theorem LX10_init_77_ok {E : CxT} {l : Launch} {D : va_G} {y : CyT}  (hc : Cx E "FarEditors$World" cX10_init 4) (X : Nat × Nat) (h : Nat) (hz : Cy E l D y 4 81 X.1 X.2) (hX : X.2 ≤ 100000000) : ∀ (n : Nat) (i3 : Int32) (S : CS) {So : CS}, LX10_init_77 X h n i3 S = some So → (hx0 : V E (cZ So) (cU So) (cw y So) 105 [] []) → V E (cZ S) (cU S) (cw y S) 77 [(0, .ref h), (3, .int i3)] [] := by
  have hT := hz.2.2.1
  intro n
  induction n with
  | zero => intro i3 S So hf; cases hf
  | succ n ih =>
    intro i3 S So hf hx0
    unfold LX10_init_77 at hf
    refine V_iload_n hc dX10_init_77 rfl 1 rfl ?_
    refine V_aload_n hc dX10_init_78 rfl 0 rfl ?_
    obtain ⟨a1, ha1, hf⟩ := mb hf
    refine C_getr hc rfl iW10 (by decide) 3 (by decide) rfl ha1 w2_78 dX10_init_79 ?_
    obtain ⟨v2, hv2, hf⟩ := mb hf
    refine C_alenr hc hT (by decide) (by decide) hv2 dX10_init_82 ?_
    refine V_icmp_ge hc dX10_init_83 rfl (fun hq83 => ?_) (fun hq83 => ?_)
    · rw [if_pos hq83] at hf
      obtain rfl := Option.some.inj hf
      exact V_sub [] rfl hx0
    · rw [if_neg hq83] at hf
      refine V_aload_n hc dX10_init_86 rfl 0 rfl ?_
      obtain ⟨a3, ha3, hf⟩ := mb hf
      refine C_getr hc rfl iW10 (by decide) 3 (by decide) rfl ha3 w2_78 dX10_init_87 ?_
      refine V_iload_n hc dX10_init_90 rfl 1 rfl ?_
      obtain ⟨S4, hS4, hf⟩ := mb hf
      refine C_new hc hz rfl iW1 tyX1 tyX1_ok df1 (by decide) hS4 w1_204 w1_206 w1_9 dX10_init_91 ?_
      refine V_dup hc dX10_init_94 rfl ?_
      obtain ⟨S5, hS5, hf⟩ := mb hf
      refine V_callI hc hz (As := []) (c1_init l D y X hX hS5) w1_207 w1_208 w1_9 w1_209 rfl hdX_X1_init.2 ⟨(Nat.le_of_ble_eq_true rfl), (Nat.le_of_ble_eq_true rfl)⟩ rfl rfl (Nat.le_of_ble_eq_true rfl) dX10_init_95 ?_
      obtain ⟨S6, hS6, hf⟩ := mb hf
      refine C_aast hc hT (by decide) (by decide) rfl rfl (by decide) hS6 dX10_init_98 ?_
      refine V_iinc hc (j := 1) (v := (i3 + (1 : Int32))) dX10_init_99 rfl rfl (by decide) rfl ?_
      refine V_goto hc dX10_init_102 rfl ?_
      exact V_sub [1, 0] rfl (ih _ _ hf hx0)
set_option maxHeartbeats 4000000 in
set_option maxRecDepth 100000 in
theorem c10_init (l : Launch) (D : va_G) (y : CyT) (X : Nat × Nat) (hX : X.2 ≤ 100000000) {S S' : CS} {h : Nat} {p1 : Nat} {p2 : Nat} (hf : f10_init X S h p1 p2 = some S') : CT l D y yX10_init cX10_init 4 none 4 81 X.1 X.2 [.ref h, .ref p1, .ref p2] (cZ S) (cU S) (cw y S) (cZ S') (cU S') (cw y S') none := by
  refine CT.of (by decide) (Nat.le_of_ble_eq_true rfl) (fun E hc hzz hnm => ?_)
  have hc : Cx E "FarEditors$World" cX10_init 4 := hc
  have hnm : (xH E).name = "<init>" := hnm
  have hz := hzz.1
  have hT := hz.2.2.1
  show V E (cZ S) (cU S) (cw y S) 0 [(0, .ref h), (1, .ref p1), (2, .ref p2)] []
  unfold f10_init at hf
  refine V_aload_n hc dX10_init_0 rfl 0 rfl ?_
  refine V_objInit hc hz w1_201 w1_27 w1_28 ⟨(Nat.le_of_ble_eq_true rfl), (Nat.le_of_ble_eq_true rfl)⟩ (Nat.le_of_ble_eq_true rfl) dX10_init_1 ?_
  refine V_aload_n hc dX10_init_4 rfl 0 rfl ?_
  obtain ⟨S1, hS1, hf⟩ := mb hf
  refine C_new hc hz rfl iW7 tyX7 tyX7_ok df7 (by decide) hS1 w1_202 w1_161 w1_7 dX10_init_5 ?_
  refine V_dup hc dX10_init_8 rfl ?_
  obtain ⟨S2, hS2, hf⟩ := mb hf
  refine V_callI hc hz (As := []) (c7_init l D y X hX hS2) w1_203 w1_163 w1_7 w1_164 rfl hdX_X7_init.2 ⟨(Nat.le_of_ble_eq_true rfl), (Nat.le_of_ble_eq_true rfl)⟩ rfl rfl (Nat.le_of_ble_eq_true rfl) dX10_init_9 ?_
  obtain ⟨S3, hS3, hf⟩ := mb hf
  refine C_putrF hc hnm rfl iW10 tyX10 tyX10_ok nmX10 (by decide) 2 (by decide) rfl hS3 w2_75 rfl rfl rfl rfl dX10_init_12 ?_
  refine V_aload_n hc dX10_init_15 rfl 0 rfl ?_
  refine V_iconst hc (v := (4 : Int32)) dX10_init_16 rfl ?_
  obtain ⟨S4, hS4, hf⟩ := mb hf
  refine C_newr hc hz (by decide) (by decide) hS4 hX w1_204 dX10_init_17 ?_
  obtain ⟨S5, hS5, hf⟩ := mb hf
  refine C_putrF hc hnm rfl iW10 tyX10 tyX10_ok nmX10 (by decide) 3 (by decide) rfl hS5 w2_78 rfl rfl rfl rfl dX10_init_20 ?_
  refine V_aload_n hc dX10_init_23 rfl 0 rfl ?_
  refine V_iconst hc (v := (4 : Int32)) dX10_init_24 rfl ?_
  obtain ⟨S6, hS6, hf⟩ := mb hf
  refine C_newi hc hz hS6 hX w1_82 dX10_init_25 ?_
  obtain ⟨S7, hS7, hf⟩ := mb hf
  refine C_putrF hc hnm rfl iW10 tyX10 tyX10_ok nmX10 (by decide) 4 (by decide) rfl hS7 w2_81 rfl rfl rfl rfl dX10_init_27 ?_
  refine V_aload_n hc dX10_init_30 rfl 0 rfl ?_
  refine V_iconst hc (v := (1 : Int32)) dX10_init_31 rfl ?_
  obtain ⟨S8, hS8, hf⟩ := mb hf
  refine C_puti hc rfl iW10 tyX10 tyX10_ok nmX10 (by decide) 5 (by decide) rfl hS8 w2_83 rfl rfl rfl dX10_init_32 ?_
  refine V_aload_n hc dX10_init_35 rfl 0 rfl ?_
  refine V_iconst hc (v := (0 : Int32)) dX10_init_36 rfl ?_
  obtain ⟨S9, hS9, hf⟩ := mb hf
  refine C_puti hc rfl iW10 tyX10 tyX10_ok nmX10 (by decide) 6 (by decide) rfl hS9 w2_84 rfl rfl rfl dX10_init_37 ?_
  refine V_aload_n hc dX10_init_40 rfl 0 rfl ?_
  refine V_iconst hc (v := (0 : Int32)) dX10_init_41 rfl ?_
  obtain ⟨S10, hS10, hf⟩ := mb hf
  refine C_puti hc rfl iW10 tyX10 tyX10_ok nmX10 (by decide) 7 (by decide) rfl hS10 w2_87 rfl rfl rfl dX10_init_42 ?_
  refine V_aload_n hc dX10_init_45 rfl 0 rfl ?_
  refine V_iconst hc (v := (0 : Int32)) dX10_init_46 rfl ?_
  obtain ⟨S11, hS11, hf⟩ := mb hf
  refine C_puti hc rfl iW10 tyX10 tyX10_ok nmX10 (by decide) 8 (by decide) rfl hS11 w2_89 rfl rfl rfl dX10_init_47 ?_
  refine V_aload_n hc dX10_init_50 rfl 0 rfl ?_
  refine V_iconst hc (v := (0 : Int32)) dX10_init_51 rfl ?_
  obtain ⟨S12, hS12, hf⟩ := mb hf
  refine C_puti hc rfl iW10 tyX10 tyX10_ok nmX10 (by decide) 9 (by decide) rfl hS12 w2_91 rfl rfl rfl dX10_init_52 ?_
  refine V_aload_n hc dX10_init_55 rfl 0 rfl ?_
  refine V_iconst hc (v := (0 : Int32)) dX10_init_56 rfl ?_
  obtain ⟨S13, hS13, hf⟩ := mb hf
  refine C_puti hc rfl iW10 tyX10 tyX10_ok nmX10 (by decide) 10 (by decide) rfl hS13 w2_93 rfl rfl rfl dX10_init_57 ?_
  refine V_aload_n hc dX10_init_60 rfl 0 rfl ?_
  refine V_iconst hc (v := (0 : Int32)) dX10_init_61 rfl ?_
  obtain ⟨S14, hS14, hf⟩ := mb hf
  refine C_puti hc rfl iW10 tyX10 tyX10_ok nmX10 (by decide) 11 (by decide) rfl hS14 w2_95 rfl rfl rfl dX10_init_62 ?_
  refine V_aload_n hc dX10_init_65 rfl 0 rfl ?_
  refine V_aload_n hc dX10_init_66 rfl 1 rfl ?_
  obtain ⟨S15, hS15, hf⟩ := mb hf
  refine C_putrF hc hnm rfl iW10 tyX10 tyX10_ok nmX10 (by decide) 0 (by decide) rfl hS15 w2_71 rfl rfl rfl rfl dX10_init_67 ?_
  refine V_aload_n hc dX10_init_70 rfl 0 rfl ?_
  refine V_aload_n hc dX10_init_71 rfl 2 rfl ?_
  obtain ⟨S16, hS16, hf⟩ := mb hf
  refine C_putrF hc hnm rfl iW10 tyX10 tyX10_ok nmX10 (by decide) 1 (by decide) rfl hS16 w2_73 rfl rfl rfl rfl dX10_init_72 ?_
  refine V_iconst hc (v := (0 : Int32)) dX10_init_75 rfl ?_
  refine V_istore_n hc dX10_init_76 rfl (by decide) rfl ?_
  obtain ⟨S17, hv18, hf⟩ := mb hf
  refine V_sub [1, 0] rfl (LX10_init_77_ok hc X h hz hX FU _ _ hv18 ?_)
  obtain rfl := Option.some.inj hf
  exact V_vret hc hzz rfl rfl rfl rfl dX10_init_105
noncomputable def f2_keep (X : Nat × Nat) (S : CS) (h : Nat) (p1 : Nat) : Option (CS) :=
  (gi S 2 h 3).bind fun v1 =>
  (pi S 2 h 3 (v1 + (1 : Int32))).bind fun S2 =>
  (gi S2 2 h 1).bind fun v3 =>
  (gi S2 2 h 2).bind fun v4 =>
  (gi S2 2 h 2).bind fun v5 =>
  (
    if (20 : Int32) ≤ v5 then (
      (gi S2 2 h 1).bind fun v8 =>
      (pi S2 2 h 1 ((v8 + (1 : Int32)) - (v8 + (1 : Int32)) / (20 : Int32) * (20 : Int32))).bind fun S9 =>
      some S9
    ) else (
      (gi S2 2 h 2).bind fun v10 =>
      (pi S2 2 h 2 (v10 + (1 : Int32))).bind fun S11 =>
      some S11
    )
  ).bind fun S6 =>
  (gr S6 2 h 0).bind fun a12 =>
  (ldn S6 19 a12 ((v3 + v4) - (v3 + v4) / (20 : Int32) * (20 : Int32))).bind fun o13 =>
  (
    if o13 = none then (
      (gr S6 2 h 0).bind fun a16 =>
      (nwo X S6 10 12).bind fun S17 =>
      (gr S17 10 p1 0).bind fun a18 =>
      (gr S17 10 p1 1).bind fun a19 =>
      (f10_init X S17 (cZ S6) a18 a19).bind fun S20 =>
      (str S20 19 10 a16 ((v3 + v4) - (v3 + v4) / (20 : Int32) * (20 : Int32)) (cZ S6)).bind fun S21 =>
      some S21
    ) else (
      some S6
    )
  ).bind fun S14 =>
  (gr S14 2 h 0).bind fun a22 =>
  (ldr S14 19 a22 ((v3 + v4) - (v3 + v4) / (20 : Int32) * (20 : Int32))).bind fun a23 =>
  (cal S14 10 a23 (f10_copy X S14 a23 p1 (1 : Int32))).bind fun S24 =>
  some S24
theorem hdX_X2_keep : yX2_keep.cls = "FarEditors$History" ∧ yX2_keep.cls ≠ "java/lang/invoke/MethodHandle" ∧ yX2_keep.cls ≠ "java/lang/invoke/VarHandle" ∧ (parseMethodDescriptor yX2_keep.desc).map (fun d => d.parameters.length) = some 1 := by decide +kernel
set_option maxHeartbeats 4000000 in
set_option maxRecDepth 100000 in
theorem c2_keep (l : Launch) (D : va_G) (y : CyT) (X : Nat × Nat) (hX : X.2 ≤ 100000000) {S S' : CS} {h : Nat} {p1 : Nat} (hf : f2_keep X S h p1 = some S') : CT l D y yX2_keep cX2_keep 3 none 5 113 X.1 X.2 [.ref h, .ref p1] (cZ S) (cU S) (cw y S) (cZ S') (cU S') (cw y S') none := by
  refine CT.of (by decide) (Nat.le_of_ble_eq_true rfl) (fun E hc hzz hnm => ?_)
  have hc : Cx E "FarEditors$History" cX2_keep 3 := hc
  have hz := hzz.1
  have hT := hz.2.2.1
  show V E (cZ S) (cU S) (cw y S) 0 [(0, .ref h), (1, .ref p1)] []
  unfold f2_keep at hf
  refine V_aload_n hc dX2_keep_0 rfl 0 rfl ?_
  refine V_dup hc dX2_keep_1 rfl ?_
  obtain ⟨v1, hv1, hf⟩ := mb hf
  refine C_geti hc rfl iW2 (by decide) 3 (by decide) rfl hv1 w2_134 dX2_keep_2 ?_
  refine V_iconst hc (v := (1 : Int32)) dX2_keep_5 rfl ?_
  refine V_iadd hc dX2_keep_6 ?_
  obtain ⟨S2, hS2, hf⟩ := mb hf
  refine C_puti hc rfl iW2 tyX2 tyX2_ok nmX2 (by decide) 3 (by decide) rfl hS2 w2_134 rfl rfl rfl dX2_keep_7 ?_
  refine V_aload_n hc dX2_keep_10 rfl 0 rfl ?_
  obtain ⟨v3, hv3, hf⟩ := mb hf
  refine C_geti hc rfl iW2 (by decide) 1 (by decide) rfl hv3 w2_131 dX2_keep_11 ?_
  refine V_aload_n hc dX2_keep_14 rfl 0 rfl ?_
  obtain ⟨v4, hv4, hf⟩ := mb hf
  refine C_geti hc rfl iW2 (by decide) 2 (by decide) rfl hv4 w2_132 dX2_keep_15 ?_
  refine V_iadd hc dX2_keep_18 ?_
  refine V_bipush hc (v := (20 : Int32)) dX2_keep_19 rfl ?_
  refine V_irem hc dX2_keep_21 (by decide) ?_
  refine V_istore_n hc dX2_keep_22 rfl (by decide) rfl ?_
  refine V_aload_n hc dX2_keep_23 rfl 1 rfl ?_
  obtain ⟨v5, hv5, hf⟩ := mb hf
  refine C_geti hc rfl iW2 (by decide) 2 (by decide) rfl hv5 w2_132 dX2_keep_24 ?_
  refine V_bipush hc (v := (20 : Int32)) dX2_keep_27 rfl ?_
  obtain ⟨S6, hv7, hf⟩ := mb hf
  have hJ29 : V E (cZ S6) (cU S6) (cw y S6) 58 [(0, .ref h), (1, .ref p1), (2, .int ((v3 + v4) - (v3 + v4) / (20 : Int32) * (20 : Int32)))] [] := by
    refine V_aload_n hc dX2_keep_58 rfl 0 rfl ?_
    obtain ⟨a12, ha12, hf⟩ := mb hf
    refine C_getr hc rfl iW2 (by decide) 0 (by decide) rfl ha12 w2_130 dX2_keep_59 ?_
    refine V_iload_n hc dX2_keep_62 rfl 2 rfl ?_
    obtain ⟨o13, ho13, hf⟩ := mb hf
    refine C_aaldn hc hT (by decide) (by decide) ho13 dX2_keep_63 ?_
    obtain ⟨S14, hv15, hf⟩ := mb hf
    have hJ64 : V E (cZ S14) (cU S14) (cw y S14) 88 [(0, .ref h), (1, .ref p1), (2, .int ((v3 + v4) - (v3 + v4) / (20 : Int32) * (20 : Int32)))] [] := by
      refine V_aload_n hc dX2_keep_88 rfl 0 rfl ?_
      obtain ⟨a22, ha22, hf⟩ := mb hf
      refine C_getr hc rfl iW2 (by decide) 0 (by decide) rfl ha22 w2_130 dX2_keep_89 ?_
      refine V_iload_n hc dX2_keep_92 rfl 2 rfl ?_
      obtain ⟨a23, ha23, hf⟩ := mb hf
      refine C_aald hc hT (by decide) (by decide) ha23 dX2_keep_93 ?_
      refine V_aload_n hc dX2_keep_94 rfl 1 rfl ?_
      refine V_iconst hc (v := (1 : Int32)) dX2_keep_95 rfl ?_
      obtain ⟨S24, hS24, hf⟩ := mb hf
      obtain ⟨hkS24, hS24⟩ := og hS24
      refine C_callV hc hz (As := [.ref p1, .int (1 : Int32)]) hkS24 (by decide) (c10_copy l D y X hX hS24) w5_181 w5_63 w5_64 w1_8 w5_65 hdX_X10_copy ⟨(Nat.le_of_ble_eq_true rfl), (Nat.le_of_ble_eq_true rfl)⟩ rfl rfl rfl (Nat.le_of_ble_eq_true rfl) dX2_keep_96 ?_
      obtain rfl := Option.some.inj hf
      exact V_vret hc hzz rfl rfl rfl rfl dX2_keep_99
    refine V_ifnonnull hc dX2_keep_64 rfl (fun hq64 => ?_) (fun hq64 => ?_)
    · rw [if_neg hq64] at hv15
      obtain rfl := Option.some.inj hv15
      exact V_sub [0, 1, 2] rfl hJ64
    · rw [if_pos hq64] at hv15
      refine V_aload_n hc dX2_keep_67 rfl 0 rfl ?_
      obtain ⟨a16, ha16, hv15⟩ := mb hv15
      refine C_getr hc rfl iW2 (by decide) 0 (by decide) rfl ha16 w2_130 dX2_keep_68 ?_
      refine V_iload_n hc dX2_keep_71 rfl 2 rfl ?_
      obtain ⟨S17, hS17, hv15⟩ := mb hv15
      refine C_new hc hz rfl iW10 tyX10 tyX10_ok df10 (by decide) hS17 w2_128 w1_197 w1_8 dX2_keep_72 ?_
      refine V_dup hc dX2_keep_75 rfl ?_
      refine V_aload_n hc dX2_keep_76 rfl 1 rfl ?_
      obtain ⟨a18, ha18, hv15⟩ := mb hv15
      refine C_getr hc rfl iW10 (by decide) 0 (by decide) rfl ha18 w2_72 dX2_keep_77 ?_
      refine V_aload_n hc dX2_keep_80 rfl 1 rfl ?_
      obtain ⟨a19, ha19, hv15⟩ := mb hv15
      refine C_getr hc rfl iW10 (by decide) 1 (by decide) rfl ha19 w2_74 dX2_keep_81 ?_
      obtain ⟨S20, hS20, hv15⟩ := mb hv15
      refine V_callI hc hz (As := [.ref a18, .ref a19]) (c10_init l D y X hX hS20) w5_180 w1_199 w1_8 w1_200 rfl hdX_X10_init.2 ⟨(Nat.le_of_ble_eq_true rfl), (Nat.le_of_ble_eq_true rfl)⟩ rfl rfl (Nat.le_of_ble_eq_true rfl) dX2_keep_84 ?_
      obtain ⟨S21, hS21, hv15⟩ := mb hv15
      refine C_aast hc hT (by decide) (by decide) rfl rfl (by decide) hS21 dX2_keep_87 ?_
      obtain rfl := Option.some.inj hv15
      exact V_sub [0, 1, 2] rfl hJ64
  refine V_icmp_ge hc dX2_keep_29 rfl (fun hq29 => ?_) (fun hq29 => ?_)
  · rw [if_pos hq29] at hv7
    refine V_aload_n hc dX2_keep_45 rfl 1 rfl ?_
    refine V_aload_n hc dX2_keep_46 rfl 1 rfl ?_
    obtain ⟨v8, hv8, hv7⟩ := mb hv7
    refine C_geti hc rfl iW2 (by decide) 1 (by decide) rfl hv8 w2_131 dX2_keep_47 ?_
    refine V_iconst hc (v := (1 : Int32)) dX2_keep_50 rfl ?_
    refine V_iadd hc dX2_keep_51 ?_
    refine V_bipush hc (v := (20 : Int32)) dX2_keep_52 rfl ?_
    refine V_irem hc dX2_keep_54 (by decide) ?_
    obtain ⟨S9, hS9, hv7⟩ := mb hv7
    refine C_puti hc rfl iW2 tyX2 tyX2_ok nmX2 (by decide) 1 (by decide) rfl hS9 w2_131 rfl rfl rfl dX2_keep_55 ?_
    obtain rfl := Option.some.inj hv7
    exact V_sub [1, 2, 0] rfl hJ29
  · rw [if_neg hq29] at hv7
    refine V_aload_n hc dX2_keep_32 rfl 1 rfl ?_
    refine V_dup hc dX2_keep_33 rfl ?_
    obtain ⟨v10, hv10, hv7⟩ := mb hv7
    refine C_geti hc rfl iW2 (by decide) 2 (by decide) rfl hv10 w2_132 dX2_keep_34 ?_
    refine V_iconst hc (v := (1 : Int32)) dX2_keep_37 rfl ?_
    refine V_iadd hc dX2_keep_38 ?_
    obtain ⟨S11, hS11, hv7⟩ := mb hv7
    refine C_puti hc rfl iW2 tyX2 tyX2_ok nmX2 (by decide) 2 (by decide) rfl hS11 w2_132 rfl rfl rfl dX2_keep_39 ?_
    refine V_goto hc dX2_keep_42 rfl ?_
    obtain rfl := Option.some.inj hv7
    exact V_sub [1, 2, 0] rfl hJ29
noncomputable def f2_restore (X : Nat × Nat) (S : CS) (h : Nat) (p1 : Nat) : Option (Int32 × CS) :=
  (gi S 2 h 2).bind fun v1 =>
  (
    if v1 ≤ 0 then (
      some (0 : Int32)
    ) else (
      (gi S 2 h 1).bind fun v4 =>
      (gi S 2 h 2).bind fun v5 =>
      some (((v4 + v5) - (1 : Int32)) - ((v4 + v5) - (1 : Int32)) / (20 : Int32) * (20 : Int32))
    )
  ).bind fun v2 =>
  (gi S 2 h 2).bind fun v6 =>
  if v6 = 0 then (
    some ((0 : Int32), S)
  ) else (
    (gr S 2 h 0).bind fun a7 =>
    (ldn S 19 a7 v2).bind fun o8 =>
    if o8 = none then (
      some ((0 : Int32), S)
    ) else (
      (gi S 2 h 2).bind fun v9 =>
      (pi S 2 h 2 (v9 - (1 : Int32))).bind fun S10 =>
      (gi S10 2 h 3).bind fun v11 =>
      (pi S10 2 h 3 (v11 + (1 : Int32))).bind fun S12 =>
      (gr S12 2 h 0).bind fun a13 =>
      (ldr S12 19 a13 v2).bind fun a14 =>
      (cal S12 10 p1 (f10_copy X S12 p1 a14 (1 : Int32))).bind fun S15 =>
      some ((1 : Int32), S15)
    )
  )
theorem hdX_X2_restore : yX2_restore.cls = "FarEditors$History" ∧ yX2_restore.cls ≠ "java/lang/invoke/MethodHandle" ∧ yX2_restore.cls ≠ "java/lang/invoke/VarHandle" ∧ (parseMethodDescriptor yX2_restore.desc).map (fun d => d.parameters.length) = some 1 := by decide +kernel
set_option maxHeartbeats 4000000 in
set_option maxRecDepth 100000 in
theorem c2_restore (l : Launch) (D : va_G) (y : CyT) (X : Nat × Nat) (hX : X.2 ≤ 100000000) {S S' : CS} {h : Nat} {p1 : Nat} {r : Int32} (hf : f2_restore X S h p1 = some (r, S')) : CT l D y yX2_restore cX2_restore 3 (some .boolean) 5 113 X.1 X.2 [.ref h, .ref p1] (cZ S) (cU S) (cw y S) (cZ S') (cU S') (cw y S') (some (.int r)) := by
  refine CT.of (by decide) (Nat.le_of_ble_eq_true rfl) (fun E hc hzz hnm => ?_)
  have hc : Cx E "FarEditors$History" cX2_restore 3 := hc
  have hz := hzz.1
  have hT := hz.2.2.1
  show V E (cZ S) (cU S) (cw y S) 0 [(0, .ref h), (1, .ref p1)] []
  unfold f2_restore at hf
  refine V_aload_n hc dX2_restore_0 rfl 0 rfl ?_
  obtain ⟨v1, hv1, hf⟩ := mb hf
  refine C_geti hc rfl iW2 (by decide) 2 (by decide) rfl hv1 w2_132 dX2_restore_1 ?_
  obtain ⟨v2, hv3, hf⟩ := mb hf
  have hJ4 : V E (cZ S) (cU S) (cw y S) 25 [(0, .ref h), (1, .ref p1)] [.int v2] := by
    refine V_istore_n hc dX2_restore_25 rfl (by decide) rfl ?_
    refine V_aload_n hc dX2_restore_26 rfl 1 rfl ?_
    obtain ⟨v6, hv6, hf⟩ := mb hf
    refine C_geti hc rfl iW2 (by decide) 2 (by decide) rfl hv6 w2_132 dX2_restore_27 ?_
    refine V_if_eq hc dX2_restore_30 rfl (fun hq30 => ?_) (fun hq30 => ?_)
    · rw [if_pos hq30] at hf
      refine V_iconst hc (v := (0 : Int32)) dX2_restore_42 rfl ?_
      obtain ⟨rfl, rfl⟩ := si2 hf
      exact V_iret hc hzz rfl rfl rfl rfl rfl dX2_restore_43
    · rw [if_neg hq30] at hf
      refine V_aload_n hc dX2_restore_33 rfl 1 rfl ?_
      obtain ⟨a7, ha7, hf⟩ := mb hf
      refine C_getr hc rfl iW2 (by decide) 0 (by decide) rfl ha7 w2_130 dX2_restore_34 ?_
      refine V_iload_n hc dX2_restore_37 rfl 0 rfl ?_
      obtain ⟨o8, ho8, hf⟩ := mb hf
      refine C_aaldn hc hT (by decide) (by decide) ho8 dX2_restore_38 ?_
      refine V_ifnonnull hc dX2_restore_39 rfl (fun hq39 => ?_) (fun hq39 => ?_)
      · rw [if_neg hq39] at hf
        refine V_aload_n hc dX2_restore_44 rfl 1 rfl ?_
        refine V_dup hc dX2_restore_45 rfl ?_
        obtain ⟨v9, hv9, hf⟩ := mb hf
        refine C_geti hc rfl iW2 (by decide) 2 (by decide) rfl hv9 w2_132 dX2_restore_46 ?_
        refine V_iconst hc (v := (1 : Int32)) dX2_restore_49 rfl ?_
        refine V_isub hc dX2_restore_50 ?_
        obtain ⟨S10, hS10, hf⟩ := mb hf
        refine C_puti hc rfl iW2 tyX2 tyX2_ok nmX2 (by decide) 2 (by decide) rfl hS10 w2_132 rfl rfl rfl dX2_restore_51 ?_
        refine V_aload_n hc dX2_restore_54 rfl 1 rfl ?_
        refine V_dup hc dX2_restore_55 rfl ?_
        obtain ⟨v11, hv11, hf⟩ := mb hf
        refine C_geti hc rfl iW2 (by decide) 3 (by decide) rfl hv11 w2_134 dX2_restore_56 ?_
        refine V_iconst hc (v := (1 : Int32)) dX2_restore_59 rfl ?_
        refine V_iadd hc dX2_restore_60 ?_
        obtain ⟨S12, hS12, hf⟩ := mb hf
        refine C_puti hc rfl iW2 tyX2 tyX2_ok nmX2 (by decide) 3 (by decide) rfl hS12 w2_134 rfl rfl rfl dX2_restore_61 ?_
        refine V_aload_n hc dX2_restore_64 rfl 2 rfl ?_
        refine V_aload_n hc dX2_restore_65 rfl 1 rfl ?_
        obtain ⟨a13, ha13, hf⟩ := mb hf
        refine C_getr hc rfl iW2 (by decide) 0 (by decide) rfl ha13 w2_130 dX2_restore_66 ?_
        refine V_iload_n hc dX2_restore_69 rfl 0 rfl ?_
        obtain ⟨a14, ha14, hf⟩ := mb hf
        refine C_aald hc hT (by decide) (by decide) ha14 dX2_restore_70 ?_
        refine V_iconst hc (v := (1 : Int32)) dX2_restore_71 rfl ?_
        obtain ⟨S15, hS15, hf⟩ := mb hf
        obtain ⟨hkS15, hS15⟩ := og hS15
        refine C_callV hc hz (As := [.ref a14, .int (1 : Int32)]) hkS15 (by decide) (c10_copy l D y X hX hS15) w5_181 w5_63 w5_64 w1_8 w5_65 hdX_X10_copy ⟨(Nat.le_of_ble_eq_true rfl), (Nat.le_of_ble_eq_true rfl)⟩ rfl rfl rfl (Nat.le_of_ble_eq_true rfl) dX2_restore_72 ?_
        refine V_iconst hc (v := (1 : Int32)) dX2_restore_75 rfl ?_
        obtain ⟨rfl, rfl⟩ := si2 hf
        exact V_iret hc hzz rfl rfl rfl rfl rfl dX2_restore_76
      · rw [if_pos hq39] at hf
        refine V_iconst hc (v := (0 : Int32)) dX2_restore_42 rfl ?_
        obtain ⟨rfl, rfl⟩ := si2 hf
        exact V_iret hc hzz rfl rfl rfl rfl rfl dX2_restore_43
  refine V_if_le hc dX2_restore_4 rfl (fun hq4 => ?_) (fun hq4 => ?_)
  · rw [if_pos hq4] at hv3
    refine V_iconst hc (v := (0 : Int32)) dX2_restore_24 rfl ?_
    obtain rfl := Option.some.inj hv3
    exact V_sub [0, 1] rfl hJ4
  · rw [if_neg hq4] at hv3
    refine V_aload_n hc dX2_restore_7 rfl 0 rfl ?_
    obtain ⟨v4, hv4, hv3⟩ := mb hv3
    refine C_geti hc rfl iW2 (by decide) 1 (by decide) rfl hv4 w2_131 dX2_restore_8 ?_
    refine V_aload_n hc dX2_restore_11 rfl 0 rfl ?_
    obtain ⟨v5, hv5, hv3⟩ := mb hv3
    refine C_geti hc rfl iW2 (by decide) 2 (by decide) rfl hv5 w2_132 dX2_restore_12 ?_
    refine V_iadd hc dX2_restore_15 ?_
    refine V_iconst hc (v := (1 : Int32)) dX2_restore_16 rfl ?_
    refine V_isub hc dX2_restore_17 ?_
    refine V_bipush hc (v := (20 : Int32)) dX2_restore_18 rfl ?_
    refine V_irem hc dX2_restore_20 (by decide) ?_
    refine V_goto hc dX2_restore_21 rfl ?_
    obtain rfl := Option.some.inj hv3
    exact V_sub [0, 1] rfl hJ4
noncomputable def LX3_addOne_38 (h : Nat) (c1 : Nat) : Nat → Int32 → CS → Option (CS)
  | 0, _, _ => none
  | n + 1, i2, S =>
    (gi S 3 h 1).bind fun v1 =>
    if v1 ≤ i2 then (
      some S
    ) else (
      (gr S 3 h 0).bind fun a2 =>
      (gr S 3 h 0).bind fun a3 =>
      (ldr S 17 a3 i2).bind fun a4 =>
      (str S 17 4 a2 (i2 - (1 : Int32)) a4).bind fun S5 =>
      LX3_addOne_38 h c1 n (i2 + (1 : Int32)) S5
    )
noncomputable def f3_addOne (S : CS) (h : Nat) : Option (Nat × CS) :=
  (gi S 3 h 1).bind fun v1 =>
  (gr S 3 h 0).bind fun a2 =>
  (aln S 17 a2).bind fun v3 =>
  if v3 ≤ v1 then (
    (gr S 3 h 0).bind fun a4 =>
    (ldr S 17 a4 (0 : Int32)).bind fun a5 =>
    (LX3_addOne_38 h a5 FU (1 : Int32) S).bind fun S6 =>
    (gr S6 3 h 0).bind fun a8 =>
    (gi S6 3 h 1).bind fun v9 =>
    (str S6 17 4 a8 (v9 - (1 : Int32)) a5).bind fun S10 =>
    some (a5, S10)
  ) else (
    (gr S 3 h 0).bind fun a11 =>
    (gi S 3 h 1).bind fun v12 =>
    (pi S 3 h 1 (v12 + (1 : Int32))).bind fun S13 =>
    (ldr S13 17 a11 v12).bind fun a14 =>
    some (a14, S13)
  )
theorem hdX_X3_addOne : yX3_addOne.cls = "FarEditors$Inverses" ∧ yX3_addOne.cls ≠ "java/lang/invoke/MethodHandle" ∧ yX3_addOne.cls ≠ "java/lang/invoke/VarHandle" ∧ (parseMethodDescriptor yX3_addOne.desc).map (fun d => d.parameters.length) = some 0 := by decide +kernel
set_option maxHeartbeats 4000000 in
set_option maxRecDepth 100000 in
theorem LX3_addOne_38_ok {E : CxT} {l : Launch} {D : va_G} {y : CyT} {zM uM : Nat} (hc : Cx E "FarEditors$Inverses" cX3_addOne 3) (h : Nat) (c1 : Nat) (hz : Cy E l D y 0 0 zM uM) : ∀ (n : Nat) (i2 : Int32) (S : CS) {So : CS}, LX3_addOne_38 h c1 n i2 S = some So → (hx0 : V E (cZ So) (cU So) (cw y So) 66 [(0, .ref h), (1, .ref c1)] []) → V E (cZ S) (cU S) (cw y S) 38 [(0, .ref h), (1, .ref c1), (2, .int i2)] [] := by
  have hT := hz.2.2.1
  intro n
  induction n with
  | zero => intro i2 S So hf; cases hf
  | succ n ih =>
    intro i2 S So hf hx0
    unfold LX3_addOne_38 at hf
    refine V_iload_n hc dX3_addOne_38 rfl 2 rfl ?_
    refine V_aload_n hc dX3_addOne_39 rfl 0 rfl ?_
    obtain ⟨v1, hv1, hf⟩ := mb hf
    refine C_geti hc rfl iW3 (by decide) 1 (by decide) rfl hv1 w1_227 dX3_addOne_40 ?_
    refine V_icmp_ge hc dX3_addOne_43 rfl (fun hq43 => ?_) (fun hq43 => ?_)
    · rw [if_pos hq43] at hf
      obtain rfl := Option.some.inj hf
      exact V_sub [0, 1] rfl hx0
    · rw [if_neg hq43] at hf
      refine V_aload_n hc dX3_addOne_46 rfl 0 rfl ?_
      obtain ⟨a2, ha2, hf⟩ := mb hf
      refine C_getr hc rfl iW3 (by decide) 0 (by decide) rfl ha2 w1_223 dX3_addOne_47 ?_
      refine V_iload_n hc dX3_addOne_50 rfl 2 rfl ?_
      refine V_iconst hc (v := (1 : Int32)) dX3_addOne_51 rfl ?_
      refine V_isub hc dX3_addOne_52 ?_
      refine V_aload_n hc dX3_addOne_53 rfl 0 rfl ?_
      obtain ⟨a3, ha3, hf⟩ := mb hf
      refine C_getr hc rfl iW3 (by decide) 0 (by decide) rfl ha3 w1_223 dX3_addOne_54 ?_
      refine V_iload_n hc dX3_addOne_57 rfl 2 rfl ?_
      obtain ⟨a4, ha4, hf⟩ := mb hf
      refine C_aald hc hT (by decide) (by decide) ha4 dX3_addOne_58 ?_
      obtain ⟨S5, hS5, hf⟩ := mb hf
      refine C_aast hc hT (by decide) (by decide) rfl rfl (by decide) hS5 dX3_addOne_59 ?_
      refine V_iinc hc (j := 2) (v := (i2 + (1 : Int32))) dX3_addOne_60 rfl rfl (by decide) rfl ?_
      refine V_goto hc dX3_addOne_63 rfl ?_
      exact V_sub [1, 2, 0] rfl (ih _ _ hf hx0)
set_option maxHeartbeats 4000000 in
set_option maxRecDepth 100000 in
theorem c3_addOne (l : Launch) (D : va_G) (y : CyT) (zM uM : Nat) {S S' : CS} {h : Nat} {r : Nat} (hf : f3_addOne S h = some (r, S')) : CT l D y yX3_addOne cX3_addOne 3 (some (.object "FarEditors$Op")) 0 0 zM uM [.ref h] (cZ S) (cU S) (cw y S) (cZ S') (cU S') (cw y S') (some (.ref r)) := by
  refine CT.of (by decide) (Nat.le_of_ble_eq_true rfl) (fun E hc hzz hnm => ?_)
  have hc : Cx E "FarEditors$Inverses" cX3_addOne 3 := hc
  have hz := hzz.1
  have hT := hz.2.2.1
  show V E (cZ S) (cU S) (cw y S) 0 [(0, .ref h)] []
  unfold f3_addOne at hf
  refine V_aload_n hc dX3_addOne_0 rfl 0 rfl ?_
  obtain ⟨v1, hv1, hf⟩ := mb hf
  refine C_geti hc rfl iW3 (by decide) 1 (by decide) rfl hv1 w1_227 dX3_addOne_1 ?_
  refine V_aload_n hc dX3_addOne_4 rfl 0 rfl ?_
  obtain ⟨a2, ha2, hf⟩ := mb hf
  refine C_getr hc rfl iW3 (by decide) 0 (by decide) rfl ha2 w1_223 dX3_addOne_5 ?_
  obtain ⟨v3, hv3, hf⟩ := mb hf
  refine C_alenr hc hT (by decide) (by decide) hv3 dX3_addOne_8 ?_
  refine V_icmp_ge hc dX3_addOne_9 rfl (fun hq9 => ?_) (fun hq9 => ?_)
  · rw [if_pos hq9] at hf
    refine V_aload_n hc dX3_addOne_29 rfl 0 rfl ?_
    obtain ⟨a4, ha4, hf⟩ := mb hf
    refine C_getr hc rfl iW3 (by decide) 0 (by decide) rfl ha4 w1_223 dX3_addOne_30 ?_
    refine V_iconst hc (v := (0 : Int32)) dX3_addOne_33 rfl ?_
    obtain ⟨a5, ha5, hf⟩ := mb hf
    refine C_aald hc hT (by decide) (by decide) ha5 dX3_addOne_34 ?_
    refine V_astore_n hc dX3_addOne_35 rfl (by decide) rfl ?_
    refine V_iconst hc (v := (1 : Int32)) dX3_addOne_36 rfl ?_
    refine V_istore_n hc dX3_addOne_37 rfl (by decide) rfl ?_
    obtain ⟨S6, hv7, hf⟩ := mb hf
    refine V_sub [2, 1, 0] rfl (LX3_addOne_38_ok hc h a5 hz FU _ _ hv7 ?_)
    refine V_aload_n hc dX3_addOne_66 rfl 0 rfl ?_
    obtain ⟨a8, ha8, hf⟩ := mb hf
    refine C_getr hc rfl iW3 (by decide) 0 (by decide) rfl ha8 w1_223 dX3_addOne_67 ?_
    refine V_aload_n hc dX3_addOne_70 rfl 0 rfl ?_
    obtain ⟨v9, hv9, hf⟩ := mb hf
    refine C_geti hc rfl iW3 (by decide) 1 (by decide) rfl hv9 w1_227 dX3_addOne_71 ?_
    refine V_iconst hc (v := (1 : Int32)) dX3_addOne_74 rfl ?_
    refine V_isub hc dX3_addOne_75 ?_
    refine V_aload_n hc dX3_addOne_76 rfl 1 rfl ?_
    obtain ⟨S10, hS10, hf⟩ := mb hf
    refine C_aast hc hT (by decide) (by decide) rfl rfl (by decide) hS10 dX3_addOne_77 ?_
    refine V_aload_n hc dX3_addOne_78 rfl 1 rfl ?_
    obtain ⟨rfl, rfl⟩ := si2 hf
    exact V_aret hc hzz (Or.inl ⟨_, rfl⟩) rfl rfl rfl rfl dX3_addOne_79
  · rw [if_neg hq9] at hf
    refine V_aload_n hc dX3_addOne_12 rfl 0 rfl ?_
    obtain ⟨a11, ha11, hf⟩ := mb hf
    refine C_getr hc rfl iW3 (by decide) 0 (by decide) rfl ha11 w1_223 dX3_addOne_13 ?_
    refine V_aload_n hc dX3_addOne_16 rfl 0 rfl ?_
    refine V_dup hc dX3_addOne_17 rfl ?_
    obtain ⟨v12, hv12, hf⟩ := mb hf
    refine C_geti hc rfl iW3 (by decide) 1 (by decide) rfl hv12 w1_227 dX3_addOne_18 ?_
    refine V_dup_x1 hc dX3_addOne_21 rfl rfl ?_
    refine V_iconst hc (v := (1 : Int32)) dX3_addOne_22 rfl ?_
    refine V_iadd hc dX3_addOne_23 ?_
    obtain ⟨S13, hS13, hf⟩ := mb hf
    refine C_puti hc rfl iW3 tyX3 tyX3_ok nmX3 (by decide) 1 (by decide) rfl hS13 w1_227 rfl rfl rfl dX3_addOne_24 ?_
    obtain ⟨a14, ha14, hf⟩ := mb hf
    refine C_aald hc hT (by decide) (by decide) ha14 dX3_addOne_27 ?_
    obtain ⟨rfl, rfl⟩ := si2 hf
    exact V_aret hc hzz (Or.inl ⟨_, rfl⟩) rfl rfl rfl rfl dX3_addOne_28
noncomputable def LX4_changesSomething_2 (h : Nat) (S : CS) : Nat → Int32 → Option (Nat)
  | 0, _ => none
  | n + 1, i1 =>
    (gi S 4 h 1).bind fun v1 =>
    if v1 ≤ i1 then (
      some 1
    ) else (
      (gr S 4 h 0).bind fun a2 =>
      (ldi S a2 i1).bind fun v3 =>
      if (31 : Int32) < v3 then (
        LX4_changesSomething_2 h S n (i1 + (1 : Int32))
      ) else (
        some 0
      )
    )
noncomputable def f4_changesSomething (S : CS) (h : Nat) : Option (Int32) :=
  (LX4_changesSomething_2 h S FU (0 : Int32)).bind fun t1 =>
  if t1 = 0 then (
    some (1 : Int32)
  ) else (
    some (0 : Int32)
  )
theorem hdX_X4_changesSomething : yX4_changesSomething.cls = "FarEditors$Op" ∧ yX4_changesSomething.cls ≠ "java/lang/invoke/MethodHandle" ∧ yX4_changesSomething.cls ≠ "java/lang/invoke/VarHandle" ∧ (parseMethodDescriptor yX4_changesSomething.desc).map (fun d => d.parameters.length) = some 0 := by decide +kernel
set_option maxHeartbeats 4000000 in
set_option maxRecDepth 100000 in
theorem LX4_changesSomething_2_ok {E : CxT} {l : Launch} {D : va_G} {y : CyT} {zM uM : Nat} (hc : Cx E "FarEditors$Op" cX4_changesSomething 2) (h : Nat) (S : CS) (hz : Cy E l D y 0 0 zM uM) : ∀ (n : Nat) (i1 : Int32) {t : Nat}, LX4_changesSomething_2 h S n i1 = some t → (hx0 : t = 0 → V E (cZ S) (cU S) (cw y S) 21 [] []) → (hx1 : t = 1 → V E (cZ S) (cU S) (cw y S) 29 [] []) → V E (cZ S) (cU S) (cw y S) 2 [(0, .ref h), (1, .int i1)] [] := by
  have hT := hz.2.2.1
  intro n
  induction n with
  | zero => intro i1 t hf; cases hf
  | succ n ih =>
    intro i1 t hf hx0 hx1
    unfold LX4_changesSomething_2 at hf
    refine V_iload_n hc dX4_changesSomething_2 rfl 1 rfl ?_
    refine V_aload_n hc dX4_changesSomething_3 rfl 0 rfl ?_
    obtain ⟨v1, hv1, hf⟩ := mb hf
    refine C_geti hc rfl iW4 (by decide) 1 (by decide) rfl hv1 w1_105 dX4_changesSomething_4 ?_
    refine V_icmp_ge hc dX4_changesSomething_7 rfl (fun hq7 => ?_) (fun hq7 => ?_)
    · rw [if_pos hq7] at hf
      obtain rfl := Option.some.inj hf
      exact V_sub [] rfl (hx1 rfl)
    · rw [if_neg hq7] at hf
      refine V_aload_n hc dX4_changesSomething_10 rfl 0 rfl ?_
      obtain ⟨a2, ha2, hf⟩ := mb hf
      refine C_getr hc rfl iW4 (by decide) 0 (by decide) rfl ha2 w1_101 dX4_changesSomething_11 ?_
      refine V_iload_n hc dX4_changesSomething_14 rfl 1 rfl ?_
      obtain ⟨v3, hv3, hf⟩ := mb hf
      refine C_iald hc hT hv3 dX4_changesSomething_15 ?_
      refine V_bipush hc (v := (31 : Int32)) dX4_changesSomething_16 rfl ?_
      refine V_icmp_gt hc dX4_changesSomething_18 rfl (fun hq18 => ?_) (fun hq18 => ?_)
      · rw [if_pos hq18] at hf
        refine V_iinc hc (j := 1) (v := (i1 + (1 : Int32))) dX4_changesSomething_23 rfl rfl (by decide) rfl ?_
        refine V_goto hc dX4_changesSomething_26 rfl ?_
        exact V_sub [1, 0] rfl (ih _ hf hx0 hx1)
      · rw [if_neg hq18] at hf
        obtain rfl := Option.some.inj hf
        exact V_sub [] rfl (hx0 rfl)
set_option maxHeartbeats 4000000 in
set_option maxRecDepth 100000 in
theorem c4_changesSomething (l : Launch) (D : va_G) (y : CyT) (zM uM : Nat) {S : CS} {h : Nat} {r : Int32} (hf : f4_changesSomething S h = some r) : CT l D y yX4_changesSomething cX4_changesSomething 2 (some .boolean) 0 0 zM uM [.ref h] (cZ S) (cU S) (cw y S) (cZ S) (cU S) (cw y S) (some (.int r)) := by
  refine CT.of (by decide) (Nat.le_of_ble_eq_true rfl) (fun E hc hzz hnm => ?_)
  have hc : Cx E "FarEditors$Op" cX4_changesSomething 2 := hc
  have hz := hzz.1
  have hT := hz.2.2.1
  show V E (cZ S) (cU S) (cw y S) 0 [(0, .ref h)] []
  unfold f4_changesSomething at hf
  refine V_iconst hc (v := (0 : Int32)) dX4_changesSomething_0 rfl ?_
  refine V_istore_n hc dX4_changesSomething_1 rfl (by decide) rfl ?_
  obtain ⟨t1, hv2, hf⟩ := mb hf
  refine V_sub [1, 0] rfl (LX4_changesSomething_2_ok hc h S hz FU _ hv2 (fun ht2_0 => ?_) (fun ht2_1 => ?_))
  · rw [if_pos ht2_0] at hf
    refine V_iconst hc (v := (1 : Int32)) dX4_changesSomething_21 rfl ?_
    obtain rfl := Option.some.inj hf
    exact V_iret hc hzz rfl rfl rfl rfl rfl dX4_changesSomething_22
  · rw [if_neg (by rw [ht2_1]; decide)] at hf
    refine V_iconst hc (v := (0 : Int32)) dX4_changesSomething_29 rfl ?_
    obtain rfl := Option.some.inj hf
    exact V_iret hc hzz rfl rfl rfl rfl rfl dX4_changesSomething_30
noncomputable def LX3_findLatestThatChanges_7 (h : Nat) (S : CS) : Nat → Int32 → Option (Int32)
  | 0, _ => none
  | n + 1, i1 =>
    if i1 < 0 then (
      some i1
    ) else (
      (gr S 3 h 0).bind fun a1 =>
      (ldr S 17 a1 i1).bind fun a2 =>
      (cal S 4 a2 (f4_changesSomething S a2)).bind fun v3 =>
      if v3 = 0 then (
        LX3_findLatestThatChanges_7 h S n (i1 + (-1 : Int32))
      ) else (
        some i1
      )
    )
noncomputable def f3_findLatestThatChanges (S : CS) (h : Nat) : Option (Int32) :=
  (gi S 3 h 1).bind fun v1 =>
  (LX3_findLatestThatChanges_7 h S FU (v1 - (1 : Int32))).bind fun x2 =>
  (
    if x2 < 0 then (
      some (-1 : Int32)
    ) else (
      some x2
    )
  ).bind fun v4 =>
  some v4
theorem hdX_X3_findLatestThatChanges : yX3_findLatestThatChanges.cls = "FarEditors$Inverses" ∧ yX3_findLatestThatChanges.cls ≠ "java/lang/invoke/MethodHandle" ∧ yX3_findLatestThatChanges.cls ≠ "java/lang/invoke/VarHandle" ∧ (parseMethodDescriptor yX3_findLatestThatChanges.desc).map (fun d => d.parameters.length) = some 0 := by decide +kernel
set_option maxHeartbeats 4000000 in
set_option maxRecDepth 100000 in
theorem LX3_findLatestThatChanges_7_ok {E : CxT} {l : Launch} {D : va_G} {y : CyT} {zM uM : Nat} (hc : Cx E "FarEditors$Inverses" cX3_findLatestThatChanges 2) (h : Nat) (S : CS) (hz : Cy E l D y 1 21 zM uM) : ∀ (n : Nat) (i1 : Int32) {o1 : Int32}, LX3_findLatestThatChanges_7 h S n i1 = some o1 → (hx0 : V E (cZ S) (cU S) (cw y S) 29 [(1, .int o1)] []) → V E (cZ S) (cU S) (cw y S) 7 [(0, .ref h), (1, .int i1)] [] := by
  have hT := hz.2.2.1
  intro n
  induction n with
  | zero => intro i1 o1 hf; cases hf
  | succ n ih =>
    intro i1 o1 hf hx0
    unfold LX3_findLatestThatChanges_7 at hf
    refine V_iload_n hc dX3_findLatestThatChanges_7 rfl 1 rfl ?_
    refine V_if_lt hc dX3_findLatestThatChanges_8 rfl (fun hq8 => ?_) (fun hq8 => ?_)
    · rw [if_pos hq8] at hf
      obtain rfl := Option.some.inj hf
      exact V_sub [1] rfl hx0
    · rw [if_neg hq8] at hf
      refine V_aload_n hc dX3_findLatestThatChanges_11 rfl 0 rfl ?_
      obtain ⟨a1, ha1, hf⟩ := mb hf
      refine C_getr hc rfl iW3 (by decide) 0 (by decide) rfl ha1 w1_223 dX3_findLatestThatChanges_12 ?_
      refine V_iload_n hc dX3_findLatestThatChanges_15 rfl 1 rfl ?_
      obtain ⟨a2, ha2, hf⟩ := mb hf
      refine C_aald hc hT (by decide) (by decide) ha2 dX3_findLatestThatChanges_16 ?_
      obtain ⟨v3, hv3, hf⟩ := mb hf
      obtain ⟨hkv3, hv3⟩ := og hv3
      refine C_callV hc hz (As := []) hkv3 (by decide) (c4_changesSomething l D y _ _ hv3) w5_238 w4_135 w4_136 w1_5 w4_137 hdX_X4_changesSomething ⟨(Nat.le_of_ble_eq_true rfl), (Nat.le_of_ble_eq_true rfl)⟩ rfl rfl rfl (Nat.le_of_ble_eq_true rfl) dX3_findLatestThatChanges_17 ?_
      refine V_if_ne hc dX3_findLatestThatChanges_20 rfl (fun hq20 => ?_) (fun hq20 => ?_)
      · rw [if_neg hq20] at hf
        obtain rfl := Option.some.inj hf
        exact V_sub [1] rfl hx0
      · rw [if_pos hq20] at hf
        refine V_iinc hc (j := 1) (v := (i1 + (-1 : Int32))) dX3_findLatestThatChanges_23 rfl rfl (by decide) rfl ?_
        refine V_goto hc dX3_findLatestThatChanges_26 rfl ?_
        exact V_sub [1, 0] rfl (ih _ hf hx0)
set_option maxHeartbeats 4000000 in
set_option maxRecDepth 100000 in
theorem c3_findLatestThatChanges (l : Launch) (D : va_G) (y : CyT) (zM uM : Nat) {S : CS} {h : Nat} {r : Int32} (hf : f3_findLatestThatChanges S h = some r) : CT l D y yX3_findLatestThatChanges cX3_findLatestThatChanges 2 (some .int) 1 21 zM uM [.ref h] (cZ S) (cU S) (cw y S) (cZ S) (cU S) (cw y S) (some (.int r)) := by
  refine CT.of (by decide) (Nat.le_of_ble_eq_true rfl) (fun E hc hzz hnm => ?_)
  have hc : Cx E "FarEditors$Inverses" cX3_findLatestThatChanges 2 := hc
  have hz := hzz.1
  have hT := hz.2.2.1
  show V E (cZ S) (cU S) (cw y S) 0 [(0, .ref h)] []
  unfold f3_findLatestThatChanges at hf
  refine V_aload_n hc dX3_findLatestThatChanges_0 rfl 0 rfl ?_
  obtain ⟨v1, hv1, hf⟩ := mb hf
  refine C_geti hc rfl iW3 (by decide) 1 (by decide) rfl hv1 w1_227 dX3_findLatestThatChanges_1 ?_
  refine V_iconst hc (v := (1 : Int32)) dX3_findLatestThatChanges_4 rfl ?_
  refine V_isub hc dX3_findLatestThatChanges_5 ?_
  refine V_istore_n hc dX3_findLatestThatChanges_6 rfl (by decide) rfl ?_
  obtain ⟨x2, hv3, hf⟩ := mb hf
  refine V_sub [1, 0] rfl (LX3_findLatestThatChanges_7_ok hc h S hz FU _ hv3 ?_)
  refine V_iload_n hc dX3_findLatestThatChanges_29 rfl 0 rfl ?_
  obtain ⟨v4, hv5, hf⟩ := mb hf
  have hJ30 : V E (cZ S) (cU S) (cw y S) 38 [] [.int v4] := by
    obtain rfl := Option.some.inj hf
    exact V_iret hc hzz rfl rfl rfl rfl rfl dX3_findLatestThatChanges_38
  refine V_if_lt hc dX3_findLatestThatChanges_30 rfl (fun hq30 => ?_) (fun hq30 => ?_)
  · rw [if_pos hq30] at hv5
    refine V_iconst hc (v := (-1 : Int32)) dX3_findLatestThatChanges_37 rfl ?_
    obtain rfl := Option.some.inj hv5
    exact V_sub [] rfl hJ30
  · rw [if_neg hq30] at hv5
    refine V_iload_n hc dX3_findLatestThatChanges_33 rfl 0 rfl ?_
    refine V_goto hc dX3_findLatestThatChanges_34 rfl ?_
    obtain rfl := Option.some.inj hv5
    exact V_sub [] rfl hJ30
noncomputable def f4_beginsStep (S : CS) (h : Nat) (p1 : Int32) : Option (Int32) :=
  (
    if p1 = 0 then (
      some (1 : Int32)
    ) else (
      (gr S 4 h 0).bind fun a3 =>
      (ldi S a3 p1).bind fun v4 =>
      (f4_isPut v4).bind fun v5 =>
      if v5 = 0 then (
        some (1 : Int32)
      ) else (
        (gr S 4 h 0).bind fun a6 =>
        (ldi S a6 (p1 - (1 : Int32))).bind fun v7 =>
        (f4_isPut v7).bind fun v8 =>
        if v8 = 0 then (
          some (1 : Int32)
        ) else (
          some (0 : Int32)
        )
      )
    )
  ).bind fun v1 =>
  (bz v1).bind fun v9 =>
  some v9
theorem hdX_X4_beginsStep : yX4_beginsStep.cls = "FarEditors$Op" ∧ yX4_beginsStep.cls ≠ "java/lang/invoke/MethodHandle" ∧ yX4_beginsStep.cls ≠ "java/lang/invoke/VarHandle" ∧ (parseMethodDescriptor yX4_beginsStep.desc).map (fun d => d.parameters.length) = some 1 := by decide +kernel
set_option maxHeartbeats 4000000 in
set_option maxRecDepth 100000 in
theorem c4_beginsStep (l : Launch) (D : va_G) (y : CyT) (zM uM : Nat) {S : CS} {h : Nat} {p1 : Int32} {r : Int32} (hf : f4_beginsStep S h p1 = some r) : CT l D y yX4_beginsStep cX4_beginsStep 2 (some .boolean) 1 20 zM uM [.ref h, .int p1] (cZ S) (cU S) (cw y S) (cZ S) (cU S) (cw y S) (some (.int r)) := by
  refine CT.of (by decide) (Nat.le_of_ble_eq_true rfl) (fun E hc hzz hnm => ?_)
  have hc : Cx E "FarEditors$Op" cX4_beginsStep 2 := hc
  have hz := hzz.1
  have hT := hz.2.2.1
  show V E (cZ S) (cU S) (cw y S) 0 [(0, .ref h), (1, .int p1)] []
  unfold f4_beginsStep at hf
  refine V_iload_n hc dX4_beginsStep_0 rfl 1 rfl ?_
  obtain ⟨v1, hv2, hf⟩ := mb hf
  have hJ1 : V E (cZ S) (cU S) (cw y S) 35 [] [.int v1] := by
    obtain ⟨v9, hv9, hf⟩ := mb hf
    obtain ⟨hbv9, rfl⟩ := bz_some hv9
    obtain rfl := Option.some.inj hf
    exact V_iret hc hzz (bz_nar hbv9) rfl rfl rfl rfl dX4_beginsStep_35
  refine V_if_eq hc dX4_beginsStep_1 rfl (fun hq1 => ?_) (fun hq1 => ?_)
  · rw [if_pos hq1] at hv2
    refine V_iconst hc (v := (1 : Int32)) dX4_beginsStep_30 rfl ?_
    refine V_goto hc dX4_beginsStep_31 rfl ?_
    obtain rfl := Option.some.inj hv2
    exact V_sub [] rfl hJ1
  · rw [if_neg hq1] at hv2
    refine V_aload_n hc dX4_beginsStep_4 rfl 0 rfl ?_
    obtain ⟨a3, ha3, hv2⟩ := mb hv2
    refine C_getr hc rfl iW4 (by decide) 0 (by decide) rfl ha3 w1_101 dX4_beginsStep_5 ?_
    refine V_iload_n hc dX4_beginsStep_8 rfl 1 rfl ?_
    obtain ⟨v4, hv4, hv2⟩ := mb hv2
    refine C_iald hc hT hv4 dX4_beginsStep_9 ?_
    obtain ⟨v5, hv5, hv2⟩ := mb hv2
    refine V_callSX hc hz (As := [.int v4]) (c4_isPut l D y _ _ hv5) w4_107 w4_108 w1_5 w4_109 hdX_X4_isPut.2 ⟨(Nat.le_of_ble_eq_true rfl), (Nat.le_of_ble_eq_true rfl)⟩ rfl rfl (Nat.le_of_ble_eq_true rfl) dX4_beginsStep_10 ?_
    refine V_if_eq hc dX4_beginsStep_13 rfl (fun hq13 => ?_) (fun hq13 => ?_)
    · rw [if_pos hq13] at hv2
      refine V_iconst hc (v := (1 : Int32)) dX4_beginsStep_30 rfl ?_
      refine V_goto hc dX4_beginsStep_31 rfl ?_
      obtain rfl := Option.some.inj hv2
      exact V_sub [] rfl hJ1
    · rw [if_neg hq13] at hv2
      refine V_aload_n hc dX4_beginsStep_16 rfl 0 rfl ?_
      obtain ⟨a6, ha6, hv2⟩ := mb hv2
      refine C_getr hc rfl iW4 (by decide) 0 (by decide) rfl ha6 w1_101 dX4_beginsStep_17 ?_
      refine V_iload_n hc dX4_beginsStep_20 rfl 1 rfl ?_
      refine V_iconst hc (v := (1 : Int32)) dX4_beginsStep_21 rfl ?_
      refine V_isub hc dX4_beginsStep_22 ?_
      obtain ⟨v7, hv7, hv2⟩ := mb hv2
      refine C_iald hc hT hv7 dX4_beginsStep_23 ?_
      obtain ⟨v8, hv8, hv2⟩ := mb hv2
      refine V_callSX hc hz (As := [.int v7]) (c4_isPut l D y _ _ hv8) w4_107 w4_108 w1_5 w4_109 hdX_X4_isPut.2 ⟨(Nat.le_of_ble_eq_true rfl), (Nat.le_of_ble_eq_true rfl)⟩ rfl rfl (Nat.le_of_ble_eq_true rfl) dX4_beginsStep_24 ?_
      refine V_if_ne hc dX4_beginsStep_27 rfl (fun hq27 => ?_) (fun hq27 => ?_)
      · rw [if_neg hq27] at hv2
        refine V_iconst hc (v := (0 : Int32)) dX4_beginsStep_34 rfl ?_
        obtain rfl := Option.some.inj hv2
        exact V_sub [] rfl hJ1
      · rw [if_pos hq27] at hv2
        refine V_iconst hc (v := (1 : Int32)) dX4_beginsStep_30 rfl ?_
        refine V_goto hc dX4_beginsStep_31 rfl ?_
        obtain rfl := Option.some.inj hv2
        exact V_sub [] rfl hJ1
