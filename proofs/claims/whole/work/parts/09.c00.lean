noncomputable def f7_init (X : Nat × Nat) (S : CS) (h : Nat) : Option (CS) :=
  (nwa X S 14 (240 : Int32)).bind fun S1 =>
  (pr S1 7 h 0 (cZ S)).bind fun S2 =>
  (pi S2 7 h 1 (0 : Int32)).bind fun S3 =>
  some S3
theorem hdX_X7_init : yX7_init.cls = "FarEditors$Text" ∧ yX7_init.cls ≠ "java/lang/invoke/MethodHandle" ∧ yX7_init.cls ≠ "java/lang/invoke/VarHandle" ∧ (parseMethodDescriptor yX7_init.desc).map (fun d => d.parameters.length) = some 0 := by decide +kernel
set_option maxHeartbeats 4000000 in
set_option maxRecDepth 100000 in
theorem c7_init (l : Launch) (D : va_G) (y : CyT) (X : Nat × Nat) (hX : X.2 ≤ 100000000) {S S' : CS} {h : Nat} (hf : f7_init X S h = some S') : CT l D y yX7_init cX7_init 1 none 1 20 X.1 X.2 [.ref h] (cZ S) (cU S) (cw y S) (cZ S') (cU S') (cw y S') none := by
  refine CT.of (by decide) (Nat.le_of_ble_eq_true rfl) (fun E hc hzz hnm => ?_)
  have hc : Cx E "FarEditors$Text" cX7_init 1 := hc
  have hnm : (xH E).name = "<init>" := hnm
  have hz := hzz.1
  have hT := hz.2.2.1
  show V E (cZ S) (cU S) (cw y S) 0 [(0, .ref h)] []
  unfold f7_init at hf
  refine V_aload_n hc dX7_init_0 rfl 0 rfl ?_
  refine V_objInit hc hz w1_165 w1_27 w1_28 ⟨(Nat.le_of_ble_eq_true rfl), (Nat.le_of_ble_eq_true rfl)⟩ (Nat.le_of_ble_eq_true rfl) dX7_init_1 ?_
  refine V_aload_n hc dX7_init_4 rfl 0 rfl ?_
  refine V_sipush hc (v := (240 : Int32)) dX7_init_5 rfl ?_
  obtain ⟨S1, hS1, hf⟩ := mb hf
  refine C_newi hc hz hS1 hX w1_82 dX7_init_8 ?_
  obtain ⟨S2, hS2, hf⟩ := mb hf
  refine C_putr hc rfl iW7 tyX7 tyX7_ok nmX7 (by decide) 0 (by decide) rfl hS2 w1_166 rfl rfl rfl dX7_init_10 ?_
  refine V_aload_n hc dX7_init_13 rfl 0 rfl ?_
  refine V_iconst hc (v := (0 : Int32)) dX7_init_14 rfl ?_
  obtain ⟨S3, hS3, hf⟩ := mb hf
  refine C_puti hc rfl iW7 tyX7 tyX7_ok nmX7 (by decide) 1 (by decide) rfl hS3 w1_168 rfl rfl rfl dX7_init_15 ?_
  obtain rfl := Option.some.inj hf
  exact V_vret hc hzz rfl rfl rfl rfl dX7_init_18
noncomputable def LX0_init_73 (X : Nat × Nat) (h : Nat) : Nat → Int32 → CS → Option (CS)
  | 0, _, _ => none
  | n + 1, i1, S =>
    (gr S 0 h 0).bind fun a1 =>
    (aln S 18 a1).bind fun v2 =>
    if v2 ≤ i1 then (
      some S
    ) else (
      (gr S 0 h 0).bind fun a3 =>
      (nwo X S 7 2).bind fun S4 =>
      (f7_init X S4 (cZ S)).bind fun S5 =>
      (str S5 18 7 a3 i1 (cZ S)).bind fun S6 =>
      LX0_init_73 X h n (i1 + (1 : Int32)) S6
    )
noncomputable def f0_init (X : Nat × Nat) (S : CS) (h : Nat) : Option (CS) :=
  (nwa X S 18 (24 : Int32)).bind fun S1 =>
  (pr S1 0 h 0 (cZ S)).bind fun S2 =>
  (nwa X S2 14 (4 : Int32)).bind fun S3 =>
  (pr S3 0 h 1 (cZ S2)).bind fun S4 =>
  (nwa X S4 14 (4 : Int32)).bind fun S5 =>
  (pr S5 0 h 2 (cZ S4)).bind fun S6 =>
  (nwa X S6 14 (16 : Int32)).bind fun S7 =>
  (pr S7 0 h 3 (cZ S6)).bind fun S8 =>
  (nwa X S8 14 (16 : Int32)).bind fun S9 =>
  (pr S9 0 h 4 (cZ S8)).bind fun S10 =>
  (nwa X S10 14 (27 : Int32)).bind fun S11 =>
  (pr S11 0 h 5 (cZ S10)).bind fun S12 =>
  (pi S12 0 h 6 (0 : Int32)).bind fun S13 =>
  (pi S13 0 h 7 (0 : Int32)).bind fun S14 =>
  (pi S14 0 h 8 (0 : Int32)).bind fun S15 =>
  (pi S15 0 h 9 (-1 : Int32)).bind fun S16 =>
  (LX0_init_73 X h FU (0 : Int32) S16).bind fun S17 =>
  some S17
theorem hdX_X0_init : yX0_init.cls = "FarEditors$Comings" ∧ yX0_init.cls ≠ "java/lang/invoke/MethodHandle" ∧ yX0_init.cls ≠ "java/lang/invoke/VarHandle" ∧ (parseMethodDescriptor yX0_init.desc).map (fun d => d.parameters.length) = some 0 := by decide +kernel
set_option maxHeartbeats 4000000 in
set_option maxRecDepth 100000 in
theorem LX0_init_73_ok {E : CxT} {l : Launch} {D : va_G} {y : CyT}  (hc : Cx E "FarEditors$Comings" cX0_init 2) (X : Nat × Nat) (h : Nat) (hz : Cy E l D y 2 40 X.1 X.2) (hX : X.2 ≤ 100000000) : ∀ (n : Nat) (i1 : Int32) (S : CS) {So : CS}, LX0_init_73 X h n i1 S = some So → (hx0 : V E (cZ So) (cU So) (cw y So) 101 [] []) → V E (cZ S) (cU S) (cw y S) 73 [(0, .ref h), (1, .int i1)] [] := by
  have hT := hz.2.2.1
  intro n
  induction n with
  | zero => intro i1 S So hf; cases hf
  | succ n ih =>
    intro i1 S So hf hx0
    unfold LX0_init_73 at hf
    refine V_iload_n hc dX0_init_73 rfl 1 rfl ?_
    refine V_aload_n hc dX0_init_74 rfl 0 rfl ?_
    obtain ⟨a1, ha1, hf⟩ := mb hf
    refine C_getr hc rfl iW0 (by decide) 0 (by decide) rfl ha1 w2_154 dX0_init_75 ?_
    obtain ⟨v2, hv2, hf⟩ := mb hf
    refine C_alenr hc hT (by decide) (by decide) hv2 dX0_init_78 ?_
    refine V_icmp_ge hc dX0_init_79 rfl (fun hq79 => ?_) (fun hq79 => ?_)
    · rw [if_pos hq79] at hf
      obtain rfl := Option.some.inj hf
      exact V_sub [] rfl hx0
    · rw [if_neg hq79] at hf
      refine V_aload_n hc dX0_init_82 rfl 0 rfl ?_
      obtain ⟨a3, ha3, hf⟩ := mb hf
      refine C_getr hc rfl iW0 (by decide) 0 (by decide) rfl ha3 w2_154 dX0_init_83 ?_
      refine V_iload_n hc dX0_init_86 rfl 1 rfl ?_
      obtain ⟨S4, hS4, hf⟩ := mb hf
      refine C_new hc hz rfl iW7 tyX7 tyX7_ok df7 (by decide) hS4 w2_151 w1_161 w1_7 dX0_init_87 ?_
      refine V_dup hc dX0_init_90 rfl ?_
      obtain ⟨S5, hS5, hf⟩ := mb hf
      refine V_callI hc hz (As := []) (c7_init l D y X hX hS5) w2_153 w1_163 w1_7 w1_164 rfl hdX_X7_init.2 ⟨(Nat.le_of_ble_eq_true rfl), (Nat.le_of_ble_eq_true rfl)⟩ rfl rfl (Nat.le_of_ble_eq_true rfl) dX0_init_91 ?_
      obtain ⟨S6, hS6, hf⟩ := mb hf
      refine C_aast hc hT (by decide) (by decide) rfl rfl (by decide) hS6 dX0_init_94 ?_
      refine V_iinc hc (j := 1) (v := (i1 + (1 : Int32))) dX0_init_95 rfl rfl (by decide) rfl ?_
      refine V_goto hc dX0_init_98 rfl ?_
      exact V_sub [1, 0] rfl (ih _ _ hf hx0)
set_option maxHeartbeats 4000000 in
set_option maxRecDepth 100000 in
theorem c0_init (l : Launch) (D : va_G) (y : CyT) (X : Nat × Nat) (hX : X.2 ≤ 100000000) {S S' : CS} {h : Nat} (hf : f0_init X S h = some S') : CT l D y yX0_init cX0_init 2 none 2 40 X.1 X.2 [.ref h] (cZ S) (cU S) (cw y S) (cZ S') (cU S') (cw y S') none := by
  refine CT.of (by decide) (Nat.le_of_ble_eq_true rfl) (fun E hc hzz hnm => ?_)
  have hc : Cx E "FarEditors$Comings" cX0_init 2 := hc
  have hnm : (xH E).name = "<init>" := hnm
  have hz := hzz.1
  have hT := hz.2.2.1
  show V E (cZ S) (cU S) (cw y S) 0 [(0, .ref h)] []
  unfold f0_init at hf
  refine V_aload_n hc dX0_init_0 rfl 0 rfl ?_
  refine V_objInit hc hz w2_150 w1_27 w1_28 ⟨(Nat.le_of_ble_eq_true rfl), (Nat.le_of_ble_eq_true rfl)⟩ (Nat.le_of_ble_eq_true rfl) dX0_init_1 ?_
  refine V_aload_n hc dX0_init_4 rfl 0 rfl ?_
  refine V_bipush hc (v := (24 : Int32)) dX0_init_5 rfl ?_
  obtain ⟨S1, hS1, hf⟩ := mb hf
  refine C_newr hc hz (by decide) (by decide) hS1 hX w2_151 dX0_init_7 ?_
  obtain ⟨S2, hS2, hf⟩ := mb hf
  refine C_putrF hc hnm rfl iW0 tyX0 tyX0_ok nmX0 (by decide) 0 (by decide) rfl hS2 w2_154 rfl rfl rfl rfl dX0_init_10 ?_
  refine V_aload_n hc dX0_init_13 rfl 0 rfl ?_
  refine V_iconst hc (v := (4 : Int32)) dX0_init_14 rfl ?_
  obtain ⟨S3, hS3, hf⟩ := mb hf
  refine C_newi hc hz hS3 hX w1_82 dX0_init_15 ?_
  obtain ⟨S4, hS4, hf⟩ := mb hf
  refine C_putrF hc hnm rfl iW0 tyX0 tyX0_ok nmX0 (by decide) 1 (by decide) rfl hS4 w2_156 rfl rfl rfl rfl dX0_init_17 ?_
  refine V_aload_n hc dX0_init_20 rfl 0 rfl ?_
  refine V_iconst hc (v := (4 : Int32)) dX0_init_21 rfl ?_
  obtain ⟨S5, hS5, hf⟩ := mb hf
  refine C_newi hc hz hS5 hX w1_82 dX0_init_22 ?_
  obtain ⟨S6, hS6, hf⟩ := mb hf
  refine C_putrF hc hnm rfl iW0 tyX0 tyX0_ok nmX0 (by decide) 2 (by decide) rfl hS6 w2_157 rfl rfl rfl rfl dX0_init_24 ?_
  refine V_aload_n hc dX0_init_27 rfl 0 rfl ?_
  refine V_bipush hc (v := (16 : Int32)) dX0_init_28 rfl ?_
  obtain ⟨S7, hS7, hf⟩ := mb hf
  refine C_newi hc hz hS7 hX w1_82 dX0_init_30 ?_
  obtain ⟨S8, hS8, hf⟩ := mb hf
  refine C_putrF hc hnm rfl iW0 tyX0 tyX0_ok nmX0 (by decide) 3 (by decide) rfl hS8 w2_158 rfl rfl rfl rfl dX0_init_32 ?_
  refine V_aload_n hc dX0_init_35 rfl 0 rfl ?_
  refine V_bipush hc (v := (16 : Int32)) dX0_init_36 rfl ?_
  obtain ⟨S9, hS9, hf⟩ := mb hf
  refine C_newi hc hz hS9 hX w1_82 dX0_init_38 ?_
  obtain ⟨S10, hS10, hf⟩ := mb hf
  refine C_putrF hc hnm rfl iW0 tyX0 tyX0_ok nmX0 (by decide) 4 (by decide) rfl hS10 w2_159 rfl rfl rfl rfl dX0_init_40 ?_
  refine V_aload_n hc dX0_init_43 rfl 0 rfl ?_
  refine V_bipush hc (v := (27 : Int32)) dX0_init_44 rfl ?_
  obtain ⟨S11, hS11, hf⟩ := mb hf
  refine C_newi hc hz hS11 hX w1_82 dX0_init_46 ?_
  obtain ⟨S12, hS12, hf⟩ := mb hf
  refine C_putrF hc hnm rfl iW0 tyX0 tyX0_ok nmX0 (by decide) 5 (by decide) rfl hS12 w2_160 rfl rfl rfl rfl dX0_init_48 ?_
  refine V_aload_n hc dX0_init_51 rfl 0 rfl ?_
  refine V_iconst hc (v := (0 : Int32)) dX0_init_52 rfl ?_
  obtain ⟨S13, hS13, hf⟩ := mb hf
  refine C_puti hc rfl iW0 tyX0 tyX0_ok nmX0 (by decide) 6 (by decide) rfl hS13 w2_161 rfl rfl rfl dX0_init_53 ?_
  refine V_aload_n hc dX0_init_56 rfl 0 rfl ?_
  refine V_iconst hc (v := (0 : Int32)) dX0_init_57 rfl ?_
  obtain ⟨S14, hS14, hf⟩ := mb hf
  refine C_puti hc rfl iW0 tyX0 tyX0_ok nmX0 (by decide) 7 (by decide) rfl hS14 w2_162 rfl rfl rfl dX0_init_58 ?_
  refine V_aload_n hc dX0_init_61 rfl 0 rfl ?_
  refine V_iconst hc (v := (0 : Int32)) dX0_init_62 rfl ?_
  obtain ⟨S15, hS15, hf⟩ := mb hf
  refine C_puti hc rfl iW0 tyX0 tyX0_ok nmX0 (by decide) 8 (by decide) rfl hS15 w2_164 rfl rfl rfl dX0_init_63 ?_
  refine V_aload_n hc dX0_init_66 rfl 0 rfl ?_
  refine V_iconst hc (v := (-1 : Int32)) dX0_init_67 rfl ?_
  obtain ⟨S16, hS16, hf⟩ := mb hf
  refine C_puti hc rfl iW0 tyX0 tyX0_ok nmX0 (by decide) 9 (by decide) rfl hS16 w2_166 rfl rfl rfl dX0_init_68 ?_
  refine V_iconst hc (v := (0 : Int32)) dX0_init_71 rfl ?_
  refine V_istore_n hc dX0_init_72 rfl (by decide) rfl ?_
  obtain ⟨S17, hv18, hf⟩ := mb hf
  refine V_sub [1, 0] rfl (LX0_init_73_ok hc X h hz hX FU _ _ hv18 ?_)
  obtain rfl := Option.some.inj hf
  exact V_vret hc hzz rfl rfl rfl rfl dX0_init_101
noncomputable def f7_copy (S : CS) (h : Nat) (p1 : Nat) : Option (CS) :=
  (gr S 7 p1 0).bind fun a1 =>
  (gr S 7 h 0).bind fun a2 =>
  (gi S 7 p1 1).bind fun v3 =>
  (cpy S a1 (0 : Int32) a2 (0 : Int32) v3).bind fun S4 =>
  (gi S4 7 p1 1).bind fun v5 =>
  (pi S4 7 h 1 v5).bind fun S6 =>
  some S6
theorem hdX_X7_copy : yX7_copy.cls = "FarEditors$Text" ∧ yX7_copy.cls ≠ "java/lang/invoke/MethodHandle" ∧ yX7_copy.cls ≠ "java/lang/invoke/VarHandle" ∧ (parseMethodDescriptor yX7_copy.desc).map (fun d => d.parameters.length) = some 1 := by decide +kernel
set_option maxHeartbeats 4000000 in
set_option maxRecDepth 100000 in
theorem c7_copy (l : Launch) (D : va_G) (y : CyT) (zM uM : Nat) {S S' : CS} {h : Nat} {p1 : Nat} (hf : f7_copy S h p1 = some S') : CT l D y yX7_copy cX7_copy 2 none 1 26 zM uM [.ref h, .ref p1] (cZ S) (cU S) (cw y S) (cZ S') (cU S') (cw y S') none := by
  refine CT.of (by decide) (Nat.le_of_ble_eq_true rfl) (fun E hc hzz hnm => ?_)
  have hc : Cx E "FarEditors$Text" cX7_copy 2 := hc
  have hz := hzz.1
  have hT := hz.2.2.1
  show V E (cZ S) (cU S) (cw y S) 0 [(0, .ref h), (1, .ref p1)] []
  unfold f7_copy at hf
  refine V_aload_n hc dX7_copy_0 rfl 1 rfl ?_
  obtain ⟨a1, ha1, hf⟩ := mb hf
  refine C_getr hc rfl iW7 (by decide) 0 (by decide) rfl ha1 w1_166 dX7_copy_1 ?_
  refine V_iconst hc (v := (0 : Int32)) dX7_copy_4 rfl ?_
  refine V_aload_n hc dX7_copy_5 rfl 0 rfl ?_
  obtain ⟨a2, ha2, hf⟩ := mb hf
  refine C_getr hc rfl iW7 (by decide) 0 (by decide) rfl ha2 w1_166 dX7_copy_6 ?_
  refine V_iconst hc (v := (0 : Int32)) dX7_copy_9 rfl ?_
  refine V_aload_n hc dX7_copy_10 rfl 1 rfl ?_
  obtain ⟨v3, hv3, hf⟩ := mb hf
  refine C_geti hc rfl iW7 (by decide) 1 (by decide) rfl hv3 w1_168 dX7_copy_11 ?_
  obtain ⟨S4, hS4, hf⟩ := mb hf
  refine C_copy hc hz hS4 w3_196 w3_198 w3_197 w1_19 ⟨(Nat.le_of_ble_eq_true rfl), (Nat.le_of_ble_eq_true rfl)⟩ (Nat.le_of_ble_eq_true rfl) dX7_copy_14 ?_
  refine V_aload_n hc dX7_copy_17 rfl 0 rfl ?_
  refine V_aload_n hc dX7_copy_18 rfl 1 rfl ?_
  obtain ⟨v5, hv5, hf⟩ := mb hf
  refine C_geti hc rfl iW7 (by decide) 1 (by decide) rfl hv5 w1_168 dX7_copy_19 ?_
  obtain ⟨S6, hS6, hf⟩ := mb hf
  refine C_puti hc rfl iW7 tyX7 tyX7_ok nmX7 (by decide) 1 (by decide) rfl hS6 w1_168 rfl rfl rfl dX7_copy_22 ?_
  obtain rfl := Option.some.inj hf
  exact V_vret hc hzz rfl rfl rfl rfl dX7_copy_25
noncomputable def f4_copy (X : Nat × Nat) (S : CS) (h : Nat) (p1 : Nat) : Option (CS) :=
  (gi S 4 p1 1).bind fun v1 =>
  (gr S 4 h 0).bind fun a2 =>
  (aln S 14 a2).bind fun v3 =>
  (
    if v1 ≤ v3 then (
      some S
    ) else (
      (gr S 4 p1 0).bind fun a6 =>
      (aln S 14 a6).bind fun v7 =>
      (nwa X S 14 v7).bind fun S8 =>
      (pr S8 4 h 0 (cZ S)).bind fun S9 =>
      some S9
    )
  ).bind fun S4 =>
  (gr S4 4 p1 0).bind fun a10 =>
  (gr S4 4 h 0).bind fun a11 =>
  (gi S4 4 p1 1).bind fun v12 =>
  (cpy S4 a10 (0 : Int32) a11 (0 : Int32) v12).bind fun S13 =>
  (gi S13 4 p1 1).bind fun v14 =>
  (pi S13 4 h 1 v14).bind fun S15 =>
  some S15
theorem hdX_X4_copy : yX4_copy.cls = "FarEditors$Op" ∧ yX4_copy.cls ≠ "java/lang/invoke/MethodHandle" ∧ yX4_copy.cls ≠ "java/lang/invoke/VarHandle" ∧ (parseMethodDescriptor yX4_copy.desc).map (fun d => d.parameters.length) = some 1 := by decide +kernel
set_option maxHeartbeats 4000000 in
set_option maxRecDepth 100000 in
theorem c4_copy (l : Launch) (D : va_G) (y : CyT) (X : Nat × Nat) (hX : X.2 ≤ 100000000) {S S' : CS} {h : Nat} {p1 : Nat} (hf : f4_copy X S h p1 = some S') : CT l D y yX4_copy cX4_copy 2 none 1 26 X.1 X.2 [.ref h, .ref p1] (cZ S) (cU S) (cw y S) (cZ S') (cU S') (cw y S') none := by
  refine CT.of (by decide) (Nat.le_of_ble_eq_true rfl) (fun E hc hzz hnm => ?_)
  have hc : Cx E "FarEditors$Op" cX4_copy 2 := hc
  have hz := hzz.1
  have hT := hz.2.2.1
  show V E (cZ S) (cU S) (cw y S) 0 [(0, .ref h), (1, .ref p1)] []
  unfold f4_copy at hf
  refine V_aload_n hc dX4_copy_0 rfl 1 rfl ?_
  obtain ⟨v1, hv1, hf⟩ := mb hf
  refine C_geti hc rfl iW4 (by decide) 1 (by decide) rfl hv1 w1_105 dX4_copy_1 ?_
  refine V_aload_n hc dX4_copy_4 rfl 0 rfl ?_
  obtain ⟨a2, ha2, hf⟩ := mb hf
  refine C_getr hc rfl iW4 (by decide) 0 (by decide) rfl ha2 w1_101 dX4_copy_5 ?_
  obtain ⟨v3, hv3, hf⟩ := mb hf
  refine C_alen hc hT hv3 dX4_copy_8 ?_
  obtain ⟨S4, hv5, hf⟩ := mb hf
  have hJ9 : V E (cZ S4) (cU S4) (cw y S4) 23 [(0, .ref h), (1, .ref p1)] [] := by
    refine V_aload_n hc dX4_copy_23 rfl 1 rfl ?_
    obtain ⟨a10, ha10, hf⟩ := mb hf
    refine C_getr hc rfl iW4 (by decide) 0 (by decide) rfl ha10 w1_101 dX4_copy_24 ?_
    refine V_iconst hc (v := (0 : Int32)) dX4_copy_27 rfl ?_
    refine V_aload_n hc dX4_copy_28 rfl 0 rfl ?_
    obtain ⟨a11, ha11, hf⟩ := mb hf
    refine C_getr hc rfl iW4 (by decide) 0 (by decide) rfl ha11 w1_101 dX4_copy_29 ?_
    refine V_iconst hc (v := (0 : Int32)) dX4_copy_32 rfl ?_
    refine V_aload_n hc dX4_copy_33 rfl 1 rfl ?_
    obtain ⟨v12, hv12, hf⟩ := mb hf
    refine C_geti hc rfl iW4 (by decide) 1 (by decide) rfl hv12 w1_105 dX4_copy_34 ?_
    obtain ⟨S13, hS13, hf⟩ := mb hf
    refine C_copy hc hz hS13 w4_11 w3_198 w3_197 w1_19 ⟨(Nat.le_of_ble_eq_true rfl), (Nat.le_of_ble_eq_true rfl)⟩ (Nat.le_of_ble_eq_true rfl) dX4_copy_37 ?_
    refine V_aload_n hc dX4_copy_40 rfl 0 rfl ?_
    refine V_aload_n hc dX4_copy_41 rfl 1 rfl ?_
    obtain ⟨v14, hv14, hf⟩ := mb hf
    refine C_geti hc rfl iW4 (by decide) 1 (by decide) rfl hv14 w1_105 dX4_copy_42 ?_
    obtain ⟨S15, hS15, hf⟩ := mb hf
    refine C_puti hc rfl iW4 tyX4 tyX4_ok nmX4 (by decide) 1 (by decide) rfl hS15 w1_105 rfl rfl rfl dX4_copy_45 ?_
    obtain rfl := Option.some.inj hf
    exact V_vret hc hzz rfl rfl rfl rfl dX4_copy_48
  refine V_icmp_le hc dX4_copy_9 rfl (fun hq9 => ?_) (fun hq9 => ?_)
  · rw [if_pos hq9] at hv5
    obtain rfl := Option.some.inj hv5
    exact V_sub [0, 1] rfl hJ9
  · rw [if_neg hq9] at hv5
    refine V_aload_n hc dX4_copy_12 rfl 0 rfl ?_
    refine V_aload_n hc dX4_copy_13 rfl 1 rfl ?_
    obtain ⟨a6, ha6, hv5⟩ := mb hv5
    refine C_getr hc rfl iW4 (by decide) 0 (by decide) rfl ha6 w1_101 dX4_copy_14 ?_
    obtain ⟨v7, hv7, hv5⟩ := mb hv5
    refine C_alen hc hT hv7 dX4_copy_17 ?_
    obtain ⟨S8, hS8, hv5⟩ := mb hv5
    refine C_newi hc hz hS8 hX w1_82 dX4_copy_18 ?_
    obtain ⟨S9, hS9, hv5⟩ := mb hv5
    refine C_putr hc rfl iW4 tyX4 tyX4_ok nmX4 (by decide) 0 (by decide) rfl hS9 w1_101 rfl rfl rfl dX4_copy_20 ?_
    obtain rfl := Option.some.inj hv5
    exact V_sub [0, 1] rfl hJ9
noncomputable def f1_copyLine (X : Nat × Nat) (S : CS) (h : Nat) (p1 : Nat) : Option (CS) :=
  (gr S 1 h 1).bind fun a1 =>
  (gr S 1 p1 1).bind fun a2 =>
  (cal S 4 a1 (f4_copy X S a1 a2)).bind fun S3 =>
  (gr S3 1 h 2).bind fun a4 =>
  (gr S3 1 p1 2).bind fun a5 =>
  (cal S3 4 a4 (f4_copy X S3 a4 a5)).bind fun S6 =>
  (gr S6 1 p1 6).bind fun a7 =>
  (gr S6 1 h 6).bind fun a8 =>
  (gr S6 1 h 6).bind fun a9 =>
  (aln S6 14 a9).bind fun v10 =>
  (cpy S6 a7 (0 : Int32) a8 (0 : Int32) v10).bind fun S11 =>
  (gi S11 1 p1 8).bind fun v12 =>
  (pi S11 1 h 8 v12).bind fun S13 =>
  (gi S13 1 p1 10).bind fun v14 =>
  (pi S13 1 h 10 v14).bind fun S15 =>
  (gi S15 1 p1 11).bind fun v16 =>
  (pi S15 1 h 11 v16).bind fun S17 =>
  (gi S17 1 p1 12).bind fun v18 =>
  (bz v18).bind fun v19 =>
  (pi S17 1 h 12 v18).bind fun S20 =>
  (gi S20 1 p1 13).bind fun v21 =>
  (bz v21).bind fun v22 =>
  (pi S20 1 h 13 v21).bind fun S23 =>
  (gi S23 1 p1 14).bind fun v24 =>
  (bz v24).bind fun v25 =>
  (pi S23 1 h 14 v24).bind fun S26 =>
  some S26
theorem hdX_X1_copyLine : yX1_copyLine.cls = "FarEditors$Editor" ∧ yX1_copyLine.cls ≠ "java/lang/invoke/MethodHandle" ∧ yX1_copyLine.cls ≠ "java/lang/invoke/VarHandle" ∧ (parseMethodDescriptor yX1_copyLine.desc).map (fun d => d.parameters.length) = some 1 := by decide +kernel
set_option maxHeartbeats 4000000 in
set_option maxRecDepth 100000 in
theorem c1_copyLine (l : Launch) (D : va_G) (y : CyT) (X : Nat × Nat) (hX : X.2 ≤ 100000000) {S S' : CS} {h : Nat} {p1 : Nat} (hf : f1_copyLine X S h p1 = some S') : CT l D y yX1_copyLine cX1_copyLine 2 none 2 47 X.1 X.2 [.ref h, .ref p1] (cZ S) (cU S) (cw y S) (cZ S') (cU S') (cw y S') none := by
  refine CT.of (by decide) (Nat.le_of_ble_eq_true rfl) (fun E hc hzz hnm => ?_)
  have hc : Cx E "FarEditors$Editor" cX1_copyLine 2 := hc
  have hz := hzz.1
  have hT := hz.2.2.1
  show V E (cZ S) (cU S) (cw y S) 0 [(0, .ref h), (1, .ref p1)] []
  unfold f1_copyLine at hf
  refine V_aload_n hc dX1_copyLine_0 rfl 0 rfl ?_
  obtain ⟨a1, ha1, hf⟩ := mb hf
  refine C_getr hc rfl iW1 (by decide) 1 (by decide) rfl ha1 w2_0 dX1_copyLine_1 ?_
  refine V_aload_n hc dX1_copyLine_4 rfl 1 rfl ?_
  obtain ⟨a2, ha2, hf⟩ := mb hf
  refine C_getr hc rfl iW1 (by decide) 1 (by decide) rfl ha2 w2_0 dX1_copyLine_5 ?_
  obtain ⟨S3, hS3, hf⟩ := mb hf
  obtain ⟨hkS3, hS3⟩ := og hS3
  refine C_callV hc hz (As := [.ref a2]) hkS3 (by decide) (c4_copy l D y X hX hS3) w5_70 w4_8 w4_9 w1_5 w4_10 hdX_X4_copy ⟨(Nat.le_of_ble_eq_true rfl), (Nat.le_of_ble_eq_true rfl)⟩ rfl rfl rfl (Nat.le_of_ble_eq_true rfl) dX1_copyLine_8 ?_
  refine V_aload_n hc dX1_copyLine_11 rfl 0 rfl ?_
  obtain ⟨a4, ha4, hf⟩ := mb hf
  refine C_getr hc rfl iW1 (by decide) 2 (by decide) rfl ha4 w2_3 dX1_copyLine_12 ?_
  refine V_aload_n hc dX1_copyLine_15 rfl 1 rfl ?_
  obtain ⟨a5, ha5, hf⟩ := mb hf
  refine C_getr hc rfl iW1 (by decide) 2 (by decide) rfl ha5 w2_3 dX1_copyLine_16 ?_
  obtain ⟨S6, hS6, hf⟩ := mb hf
  obtain ⟨hkS6, hS6⟩ := og hS6
  refine C_callV hc hz (As := [.ref a5]) hkS6 (by decide) (c4_copy l D y X hX hS6) w5_70 w4_8 w4_9 w1_5 w4_10 hdX_X4_copy ⟨(Nat.le_of_ble_eq_true rfl), (Nat.le_of_ble_eq_true rfl)⟩ rfl rfl rfl (Nat.le_of_ble_eq_true rfl) dX1_copyLine_19 ?_
  refine V_aload_n hc dX1_copyLine_22 rfl 1 rfl ?_
  obtain ⟨a7, ha7, hf⟩ := mb hf
  refine C_getr hc rfl iW1 (by decide) 6 (by decide) rfl ha7 w2_14 dX1_copyLine_23 ?_
  refine V_iconst hc (v := (0 : Int32)) dX1_copyLine_26 rfl ?_
  refine V_aload_n hc dX1_copyLine_27 rfl 0 rfl ?_
  obtain ⟨a8, ha8, hf⟩ := mb hf
  refine C_getr hc rfl iW1 (by decide) 6 (by decide) rfl ha8 w2_14 dX1_copyLine_28 ?_
  refine V_iconst hc (v := (0 : Int32)) dX1_copyLine_31 rfl ?_
  refine V_aload_n hc dX1_copyLine_32 rfl 0 rfl ?_
  obtain ⟨a9, ha9, hf⟩ := mb hf
  refine C_getr hc rfl iW1 (by decide) 6 (by decide) rfl ha9 w2_14 dX1_copyLine_33 ?_
  obtain ⟨v10, hv10, hf⟩ := mb hf
  refine C_alen hc hT hv10 dX1_copyLine_36 ?_
  obtain ⟨S11, hS11, hf⟩ := mb hf
  refine C_copy hc hz hS11 w5_71 w3_198 w3_197 w1_19 ⟨(Nat.le_of_ble_eq_true rfl), (Nat.le_of_ble_eq_true rfl)⟩ (Nat.le_of_ble_eq_true rfl) dX1_copyLine_37 ?_
  refine V_aload_n hc dX1_copyLine_40 rfl 0 rfl ?_
  refine V_aload_n hc dX1_copyLine_41 rfl 1 rfl ?_
  obtain ⟨v12, hv12, hf⟩ := mb hf
  refine C_geti hc rfl iW1 (by decide) 8 (by decide) rfl hv12 w2_19 dX1_copyLine_42 ?_
  obtain ⟨S13, hS13, hf⟩ := mb hf
  refine C_puti hc rfl iW1 tyX1 tyX1_ok nmX1 (by decide) 8 (by decide) rfl hS13 w2_19 rfl rfl rfl dX1_copyLine_45 ?_
  refine V_aload_n hc dX1_copyLine_48 rfl 0 rfl ?_
  refine V_aload_n hc dX1_copyLine_49 rfl 1 rfl ?_
  obtain ⟨v14, hv14, hf⟩ := mb hf
  refine C_geti hc rfl iW1 (by decide) 10 (by decide) rfl hv14 w2_24 dX1_copyLine_50 ?_
  obtain ⟨S15, hS15, hf⟩ := mb hf
  refine C_puti hc rfl iW1 tyX1 tyX1_ok nmX1 (by decide) 10 (by decide) rfl hS15 w2_24 rfl rfl rfl dX1_copyLine_53 ?_
  refine V_aload_n hc dX1_copyLine_56 rfl 0 rfl ?_
  refine V_aload_n hc dX1_copyLine_57 rfl 1 rfl ?_
  obtain ⟨v16, hv16, hf⟩ := mb hf
  refine C_geti hc rfl iW1 (by decide) 11 (by decide) rfl hv16 w2_27 dX1_copyLine_58 ?_
  obtain ⟨S17, hS17, hf⟩ := mb hf
  refine C_puti hc rfl iW1 tyX1 tyX1_ok nmX1 (by decide) 11 (by decide) rfl hS17 w2_27 rfl rfl rfl dX1_copyLine_61 ?_
  refine V_aload_n hc dX1_copyLine_64 rfl 0 rfl ?_
  refine V_aload_n hc dX1_copyLine_65 rfl 1 rfl ?_
  obtain ⟨v18, hv18, hf⟩ := mb hf
  refine C_geti hc rfl iW1 (by decide) 12 (by decide) rfl hv18 w2_31 dX1_copyLine_66 ?_
  obtain ⟨v19, hv19, hf⟩ := mb hf
  obtain ⟨hbv19, hev19⟩ := bz_some hv19
  subst hev19
  obtain ⟨S20, hS20, hf⟩ := mb hf
  refine C_puti hc rfl iW1 tyX1 tyX1_ok nmX1 (by decide) 12 (by decide) rfl hS20 w2_31 rfl (bz_nar hbv19) (bz_fits hbv19) dX1_copyLine_69 ?_
  refine V_aload_n hc dX1_copyLine_72 rfl 0 rfl ?_
  refine V_aload_n hc dX1_copyLine_73 rfl 1 rfl ?_
  obtain ⟨v21, hv21, hf⟩ := mb hf
  refine C_geti hc rfl iW1 (by decide) 13 (by decide) rfl hv21 w2_34 dX1_copyLine_74 ?_
  obtain ⟨v22, hv22, hf⟩ := mb hf
  obtain ⟨hbv22, hev22⟩ := bz_some hv22
  subst hev22
  obtain ⟨S23, hS23, hf⟩ := mb hf
  refine C_puti hc rfl iW1 tyX1 tyX1_ok nmX1 (by decide) 13 (by decide) rfl hS23 w2_34 rfl (bz_nar hbv22) (bz_fits hbv22) dX1_copyLine_77 ?_
  refine V_aload_n hc dX1_copyLine_80 rfl 0 rfl ?_
  refine V_aload_n hc dX1_copyLine_81 rfl 1 rfl ?_
  obtain ⟨v24, hv24, hf⟩ := mb hf
  refine C_geti hc rfl iW1 (by decide) 14 (by decide) rfl hv24 w2_37 dX1_copyLine_82 ?_
  obtain ⟨v25, hv25, hf⟩ := mb hf
  obtain ⟨hbv25, hev25⟩ := bz_some hv25
  subst hev25
  obtain ⟨S26, hS26, hf⟩ := mb hf
  refine C_puti hc rfl iW1 tyX1 tyX1_ok nmX1 (by decide) 14 (by decide) rfl hS26 w2_37 rfl (bz_nar hbv25) (bz_fits hbv25) dX1_copyLine_85 ?_
  obtain rfl := Option.some.inj hf
  exact V_vret hc hzz rfl rfl rfl rfl dX1_copyLine_88
noncomputable def LX3_copy_2 (X : Nat × Nat) (h : Nat) (c1 : Nat) : Nat → Int32 → CS → Option (CS)
  | 0, _, _ => none
  | n + 1, i2, S =>
    (gi S 3 c1 1).bind fun v1 =>
    if v1 ≤ i2 then (
      some S
    ) else (
      (gr S 3 h 0).bind fun a2 =>
      (ldr S 17 a2 i2).bind fun a3 =>
      (gr S 3 c1 0).bind fun a4 =>
      (ldr S 17 a4 i2).bind fun a5 =>
      (cal S 4 a3 (f4_copy X S a3 a5)).bind fun S6 =>
      LX3_copy_2 X h c1 n (i2 + (1 : Int32)) S6
    )
noncomputable def f3_copy (X : Nat × Nat) (S : CS) (h : Nat) (p1 : Nat) : Option (CS) :=
  (LX3_copy_2 X h p1 FU (0 : Int32) S).bind fun S1 =>
  (gi S1 3 p1 1).bind fun v3 =>
  (pi S1 3 h 1 v3).bind fun S4 =>
  some S4
theorem hdX_X3_copy : yX3_copy.cls = "FarEditors$Inverses" ∧ yX3_copy.cls ≠ "java/lang/invoke/MethodHandle" ∧ yX3_copy.cls ≠ "java/lang/invoke/VarHandle" ∧ (parseMethodDescriptor yX3_copy.desc).map (fun d => d.parameters.length) = some 1 := by decide +kernel
set_option maxHeartbeats 4000000 in
set_option maxRecDepth 100000 in
theorem LX3_copy_2_ok {E : CxT} {l : Launch} {D : va_G} {y : CyT}  (hc : Cx E "FarEditors$Inverses" cX3_copy 3) (X : Nat × Nat) (h : Nat) (c1 : Nat) (hz : Cy E l D y 2 47 X.1 X.2) (hX : X.2 ≤ 100000000) : ∀ (n : Nat) (i2 : Int32) (S : CS) {So : CS}, LX3_copy_2 X h c1 n i2 S = some So → (hx0 : V E (cZ So) (cU So) (cw y So) 31 [(0, .ref h), (1, .ref c1)] []) → V E (cZ S) (cU S) (cw y S) 2 [(0, .ref h), (1, .ref c1), (2, .int i2)] [] := by
  have hT := hz.2.2.1
  intro n
  induction n with
  | zero => intro i2 S So hf; cases hf
  | succ n ih =>
    intro i2 S So hf hx0
    unfold LX3_copy_2 at hf
    refine V_iload_n hc dX3_copy_2 rfl 2 rfl ?_
    refine V_aload_n hc dX3_copy_3 rfl 1 rfl ?_
    obtain ⟨v1, hv1, hf⟩ := mb hf
    refine C_geti hc rfl iW3 (by decide) 1 (by decide) rfl hv1 w1_227 dX3_copy_4 ?_
    refine V_icmp_ge hc dX3_copy_7 rfl (fun hq7 => ?_) (fun hq7 => ?_)
    · rw [if_pos hq7] at hf
      obtain rfl := Option.some.inj hf
      exact V_sub [0, 1] rfl hx0
    · rw [if_neg hq7] at hf
      refine V_aload_n hc dX3_copy_10 rfl 0 rfl ?_
      obtain ⟨a2, ha2, hf⟩ := mb hf
      refine C_getr hc rfl iW3 (by decide) 0 (by decide) rfl ha2 w1_223 dX3_copy_11 ?_
      refine V_iload_n hc dX3_copy_14 rfl 2 rfl ?_
      obtain ⟨a3, ha3, hf⟩ := mb hf
      refine C_aald hc hT (by decide) (by decide) ha3 dX3_copy_15 ?_
      refine V_aload_n hc dX3_copy_16 rfl 1 rfl ?_
      obtain ⟨a4, ha4, hf⟩ := mb hf
      refine C_getr hc rfl iW3 (by decide) 0 (by decide) rfl ha4 w1_223 dX3_copy_17 ?_
      refine V_iload_n hc dX3_copy_20 rfl 2 rfl ?_
      obtain ⟨a5, ha5, hf⟩ := mb hf
      refine C_aald hc hT (by decide) (by decide) ha5 dX3_copy_21 ?_
      obtain ⟨S6, hS6, hf⟩ := mb hf
      obtain ⟨hkS6, hS6⟩ := og hS6
      refine C_callV hc hz (As := [.ref a5]) hkS6 (by decide) (c4_copy l D y X hX hS6) w5_80 w4_8 w4_9 w1_5 w4_10 hdX_X4_copy ⟨(Nat.le_of_ble_eq_true rfl), (Nat.le_of_ble_eq_true rfl)⟩ rfl rfl rfl (Nat.le_of_ble_eq_true rfl) dX3_copy_22 ?_
      refine V_iinc hc (j := 2) (v := (i2 + (1 : Int32))) dX3_copy_25 rfl rfl (by decide) rfl ?_
      refine V_goto hc dX3_copy_28 rfl ?_
      exact V_sub [1, 2, 0] rfl (ih _ _ hf hx0)
set_option maxHeartbeats 4000000 in
set_option maxRecDepth 100000 in
theorem c3_copy (l : Launch) (D : va_G) (y : CyT) (X : Nat × Nat) (hX : X.2 ≤ 100000000) {S S' : CS} {h : Nat} {p1 : Nat} (hf : f3_copy X S h p1 = some S') : CT l D y yX3_copy cX3_copy 3 none 2 47 X.1 X.2 [.ref h, .ref p1] (cZ S) (cU S) (cw y S) (cZ S') (cU S') (cw y S') none := by
  refine CT.of (by decide) (Nat.le_of_ble_eq_true rfl) (fun E hc hzz hnm => ?_)
  have hc : Cx E "FarEditors$Inverses" cX3_copy 3 := hc
  have hz := hzz.1
  have hT := hz.2.2.1
  show V E (cZ S) (cU S) (cw y S) 0 [(0, .ref h), (1, .ref p1)] []
  unfold f3_copy at hf
  refine V_iconst hc (v := (0 : Int32)) dX3_copy_0 rfl ?_
  refine V_istore_n hc dX3_copy_1 rfl (by decide) rfl ?_
  obtain ⟨S1, hv2, hf⟩ := mb hf
  refine V_sub [1, 2, 0] rfl (LX3_copy_2_ok hc X h p1 hz hX FU _ _ hv2 ?_)
  refine V_aload_n hc dX3_copy_31 rfl 0 rfl ?_
  refine V_aload_n hc dX3_copy_32 rfl 1 rfl ?_
  obtain ⟨v3, hv3, hf⟩ := mb hf
  refine C_geti hc rfl iW3 (by decide) 1 (by decide) rfl hv3 w1_227 dX3_copy_33 ?_
  obtain ⟨S4, hS4, hf⟩ := mb hf
  refine C_puti hc rfl iW3 tyX3 tyX3_ok nmX3 (by decide) 1 (by decide) rfl hS4 w1_227 rfl rfl rfl dX3_copy_36 ?_
  obtain rfl := Option.some.inj hf
  exact V_vret hc hzz rfl rfl rfl rfl dX3_copy_39
noncomputable def f1_copyText (X : Nat × Nat) (S : CS) (h : Nat) (p1 : Nat) : Option (CS) :=
  (gr S 1 h 0).bind fun a1 =>
  (gr S 1 p1 0).bind fun a2 =>
  (cal S 7 a1 (f7_copy S a1 a2)).bind fun S3 =>
  (gr S3 1 h 3).bind fun a4 =>
  (gr S3 1 p1 3).bind fun a5 =>
  (cal S3 3 a4 (f3_copy X S3 a4 a5)).bind fun S6 =>
  (gr S6 1 h 4).bind fun a7 =>
  (gr S6 1 p1 4).bind fun a8 =>
  (cal S6 3 a7 (f3_copy X S6 a7 a8)).bind fun S9 =>
  (gr S9 1 p1 5).bind fun a10 =>
  (gr S9 1 h 5).bind fun a11 =>
  (gr S9 1 h 5).bind fun a12 =>
  (aln S9 14 a12).bind fun v13 =>
  (cpy S9 a10 (0 : Int32) a11 (0 : Int32) v13).bind fun S14 =>
  (gi S14 1 p1 7).bind fun v15 =>
  (pi S14 1 h 7 v15).bind fun S16 =>
  (gi S16 1 p1 9).bind fun v17 =>
  (pi S16 1 h 9 v17).bind fun S18 =>
  some S18
theorem hdX_X1_copyText : yX1_copyText.cls = "FarEditors$Editor" ∧ yX1_copyText.cls ≠ "java/lang/invoke/MethodHandle" ∧ yX1_copyText.cls ≠ "java/lang/invoke/VarHandle" ∧ (parseMethodDescriptor yX1_copyText.desc).map (fun d => d.parameters.length) = some 1 := by decide +kernel
set_option maxHeartbeats 4000000 in
set_option maxRecDepth 100000 in
theorem c1_copyText (l : Launch) (D : va_G) (y : CyT) (X : Nat × Nat) (hX : X.2 ≤ 100000000) {S S' : CS} {h : Nat} {p1 : Nat} (hf : f1_copyText X S h p1 = some S') : CT l D y yX1_copyText cX1_copyText 2 none 3 69 X.1 X.2 [.ref h, .ref p1] (cZ S) (cU S) (cw y S) (cZ S') (cU S') (cw y S') none := by
  refine CT.of (by decide) (Nat.le_of_ble_eq_true rfl) (fun E hc hzz hnm => ?_)
  have hc : Cx E "FarEditors$Editor" cX1_copyText 2 := hc
  have hz := hzz.1
  have hT := hz.2.2.1
  show V E (cZ S) (cU S) (cw y S) 0 [(0, .ref h), (1, .ref p1)] []
  unfold f1_copyText at hf
  refine V_aload_n hc dX1_copyText_0 rfl 0 rfl ?_
  obtain ⟨a1, ha1, hf⟩ := mb hf
  refine C_getr hc rfl iW1 (by decide) 0 (by decide) rfl ha1 w1_237 dX1_copyText_1 ?_
  refine V_aload_n hc dX1_copyText_4 rfl 1 rfl ?_
  obtain ⟨a2, ha2, hf⟩ := mb hf
  refine C_getr hc rfl iW1 (by decide) 0 (by decide) rfl ha2 w1_237 dX1_copyText_5 ?_
  obtain ⟨S3, hS3, hf⟩ := mb hf
  obtain ⟨hkS3, hS3⟩ := og hS3
  refine C_callV hc hz (As := [.ref a2]) hkS3 (by decide) (c7_copy l D y _ _ hS3) w3_212 w3_205 w3_206 w1_7 w3_207 hdX_X7_copy ⟨(Nat.le_of_ble_eq_true rfl), (Nat.le_of_ble_eq_true rfl)⟩ rfl rfl rfl (Nat.le_of_ble_eq_true rfl) dX1_copyText_8 ?_
  refine V_aload_n hc dX1_copyText_11 rfl 0 rfl ?_
  obtain ⟨a4, ha4, hf⟩ := mb hf
  refine C_getr hc rfl iW1 (by decide) 3 (by decide) rfl ha4 w2_6 dX1_copyText_12 ?_
  refine V_aload_n hc dX1_copyText_15 rfl 1 rfl ?_
  obtain ⟨a5, ha5, hf⟩ := mb hf
  refine C_getr hc rfl iW1 (by decide) 3 (by decide) rfl ha5 w2_6 dX1_copyText_16 ?_
  obtain ⟨S6, hS6, hf⟩ := mb hf
  obtain ⟨hkS6, hS6⟩ := og hS6
  refine C_callV hc hz (As := [.ref a5]) hkS6 (by decide) (c3_copy l D y X hX hS6) w5_76 w5_77 w5_78 w1_10 w5_79 hdX_X3_copy ⟨(Nat.le_of_ble_eq_true rfl), (Nat.le_of_ble_eq_true rfl)⟩ rfl rfl rfl (Nat.le_of_ble_eq_true rfl) dX1_copyText_19 ?_
  refine V_aload_n hc dX1_copyText_22 rfl 0 rfl ?_
  obtain ⟨a7, ha7, hf⟩ := mb hf
  refine C_getr hc rfl iW1 (by decide) 4 (by decide) rfl ha7 w2_9 dX1_copyText_23 ?_
  refine V_aload_n hc dX1_copyText_26 rfl 1 rfl ?_
  obtain ⟨a8, ha8, hf⟩ := mb hf
  refine C_getr hc rfl iW1 (by decide) 4 (by decide) rfl ha8 w2_9 dX1_copyText_27 ?_
  obtain ⟨S9, hS9, hf⟩ := mb hf
  obtain ⟨hkS9, hS9⟩ := og hS9
  refine C_callV hc hz (As := [.ref a8]) hkS9 (by decide) (c3_copy l D y X hX hS9) w5_76 w5_77 w5_78 w1_10 w5_79 hdX_X3_copy ⟨(Nat.le_of_ble_eq_true rfl), (Nat.le_of_ble_eq_true rfl)⟩ rfl rfl rfl (Nat.le_of_ble_eq_true rfl) dX1_copyText_30 ?_
  refine V_aload_n hc dX1_copyText_33 rfl 1 rfl ?_
  obtain ⟨a10, ha10, hf⟩ := mb hf
  refine C_getr hc rfl iW1 (by decide) 5 (by decide) rfl ha10 w2_12 dX1_copyText_34 ?_
  refine V_iconst hc (v := (0 : Int32)) dX1_copyText_37 rfl ?_
  refine V_aload_n hc dX1_copyText_38 rfl 0 rfl ?_
  obtain ⟨a11, ha11, hf⟩ := mb hf
  refine C_getr hc rfl iW1 (by decide) 5 (by decide) rfl ha11 w2_12 dX1_copyText_39 ?_
  refine V_iconst hc (v := (0 : Int32)) dX1_copyText_42 rfl ?_
  refine V_aload_n hc dX1_copyText_43 rfl 0 rfl ?_
  obtain ⟨a12, ha12, hf⟩ := mb hf
  refine C_getr hc rfl iW1 (by decide) 5 (by decide) rfl ha12 w2_12 dX1_copyText_44 ?_
  obtain ⟨v13, hv13, hf⟩ := mb hf
  refine C_alen hc hT hv13 dX1_copyText_47 ?_
  obtain ⟨S14, hS14, hf⟩ := mb hf
  refine C_copy hc hz hS14 w5_71 w3_198 w3_197 w1_19 ⟨(Nat.le_of_ble_eq_true rfl), (Nat.le_of_ble_eq_true rfl)⟩ (Nat.le_of_ble_eq_true rfl) dX1_copyText_48 ?_
  refine V_aload_n hc dX1_copyText_51 rfl 0 rfl ?_
  refine V_aload_n hc dX1_copyText_52 rfl 1 rfl ?_
  obtain ⟨v15, hv15, hf⟩ := mb hf
  refine C_geti hc rfl iW1 (by decide) 7 (by decide) rfl hv15 w2_16 dX1_copyText_53 ?_
  obtain ⟨S16, hS16, hf⟩ := mb hf
  refine C_puti hc rfl iW1 tyX1 tyX1_ok nmX1 (by decide) 7 (by decide) rfl hS16 w2_16 rfl rfl rfl dX1_copyText_56 ?_
  refine V_aload_n hc dX1_copyText_59 rfl 0 rfl ?_
  refine V_aload_n hc dX1_copyText_60 rfl 1 rfl ?_
  obtain ⟨v17, hv17, hf⟩ := mb hf
  refine C_geti hc rfl iW1 (by decide) 9 (by decide) rfl hv17 w2_22 dX1_copyText_61 ?_
  obtain ⟨S18, hS18, hf⟩ := mb hf
  refine C_puti hc rfl iW1 tyX1 tyX1_ok nmX1 (by decide) 9 (by decide) rfl hS18 w2_22 rfl rfl rfl dX1_copyText_64 ?_
  obtain rfl := Option.some.inj hf
  exact V_vret hc hzz rfl rfl rfl rfl dX1_copyText_67
noncomputable def LX10_copy_66 (X : Nat × Nat) (h : Nat) (c1 : Nat) (c2 : Int32) : Nat → Int32 → CS → Option (CS)
  | 0, _, _ => none
  | n + 1, i3, S =>
    (gi S 10 h 6).bind fun v1 =>
    if v1 ≤ i3 then (
      some S
    ) else (
      (gr S 10 h 4).bind fun a2 =>
      (gr S 10 c1 4).bind fun a3 =>
      (ldi S a3 i3).bind fun v4 =>
      (sti S a2 i3 v4).bind fun S5 =>
      (gr S5 10 h 3).bind fun a6 =>
      (ldr S5 16 a6 i3).bind fun a7 =>
      (gr S5 10 c1 3).bind fun a8 =>
      (ldr S5 16 a8 i3).bind fun a9 =>
      (cal S5 1 a7 (f1_copyLine X S5 a7 a9)).bind fun S10 =>
      (
        if c2 = 0 then (
          some S10
        ) else (
          (gr S10 10 h 3).bind fun a13 =>
          (ldr S10 16 a13 i3).bind fun a14 =>
          (gr S10 10 c1 3).bind fun a15 =>
          (ldr S10 16 a15 i3).bind fun a16 =>
          (cal S10 1 a14 (f1_copyText X S10 a14 a16)).bind fun S17 =>
          some S17
        )
      ).bind fun S11 =>
      LX10_copy_66 X h c1 c2 n (i3 + (1 : Int32)) S11
    )
noncomputable def f10_copy (X : Nat × Nat) (S : CS) (h : Nat) (p1 : Nat) (p2 : Int32) : Option (CS) :=
  (bz p2).bind fun v1 =>
  (pi S 10 h 5 p2).bind fun S2 =>
  (gi S2 10 p1 6).bind fun v3 =>
  (pi S2 10 h 6 v3).bind fun S4 =>
  (gi S4 10 p1 7).bind fun v5 =>
  (pi S4 10 h 7 v5).bind fun S6 =>
  (gi S6 10 p1 8).bind fun v7 =>
  (pi S6 10 h 8 v7).bind fun S8 =>
  (gi S8 10 p1 9).bind fun v9 =>
  (pi S8 10 h 9 v9).bind fun S10 =>
  (gi S10 10 p1 10).bind fun v11 =>
  (pi S10 10 h 10 v11).bind fun S12 =>
  (gi S12 10 p1 11).bind fun v13 =>
  (pi S12 10 h 11 v13).bind fun S14 =>
  (gr S14 10 h 2).bind fun a15 =>
  (gr S14 10 p1 2).bind fun a16 =>
  (cal S14 7 a15 (f7_copy S14 a15 a16)).bind fun S17 =>
  (LX10_copy_66 X h p1 p2 FU (0 : Int32) S17).bind fun S18 =>
  some S18
theorem hdX_X10_copy : yX10_copy.cls = "FarEditors$World" ∧ yX10_copy.cls ≠ "java/lang/invoke/MethodHandle" ∧ yX10_copy.cls ≠ "java/lang/invoke/VarHandle" ∧ (parseMethodDescriptor yX10_copy.desc).map (fun d => d.parameters.length) = some 2 := by decide +kernel
set_option maxHeartbeats 4000000 in
set_option maxRecDepth 100000 in
theorem LX10_copy_66_ok {E : CxT} {l : Launch} {D : va_G} {y : CyT}  (hc : Cx E "FarEditors$World" cX10_copy 4) (X : Nat × Nat) (h : Nat) (c1 : Nat) (c2 : Int32) (hz : Cy E l D y 4 90 X.1 X.2) (hX : X.2 ≤ 100000000) : ∀ (n : Nat) (i3 : Int32) (S : CS) {So : CS}, LX10_copy_66 X h c1 c2 n i3 S = some So → (hx0 : V E (cZ So) (cU So) (cw y So) 126 [] []) → V E (cZ S) (cU S) (cw y S) 66 [(0, .ref h), (1, .ref c1), (2, .int c2), (3, .int i3)] [] := by
  have hT := hz.2.2.1
  intro n
  induction n with
  | zero => intro i3 S So hf; cases hf
  | succ n ih =>
    intro i3 S So hf hx0
    unfold LX10_copy_66 at hf
    refine V_iload_n hc dX10_copy_66 rfl 3 rfl ?_
    refine V_aload_n hc dX10_copy_67 rfl 0 rfl ?_
    obtain ⟨v1, hv1, hf⟩ := mb hf
    refine C_geti hc rfl iW10 (by decide) 6 (by decide) rfl hv1 w2_84 dX10_copy_68 ?_
    refine V_icmp_ge hc dX10_copy_71 rfl (fun hq71 => ?_) (fun hq71 => ?_)
    · rw [if_pos hq71] at hf
      obtain rfl := Option.some.inj hf
      exact V_sub [] rfl hx0
    · rw [if_neg hq71] at hf
      refine V_aload_n hc dX10_copy_74 rfl 0 rfl ?_
      obtain ⟨a2, ha2, hf⟩ := mb hf
      refine C_getr hc rfl iW10 (by decide) 4 (by decide) rfl ha2 w2_81 dX10_copy_75 ?_
      refine V_iload_n hc dX10_copy_78 rfl 3 rfl ?_
      refine V_aload_n hc dX10_copy_79 rfl 1 rfl ?_
      obtain ⟨a3, ha3, hf⟩ := mb hf
      refine C_getr hc rfl iW10 (by decide) 4 (by decide) rfl ha3 w2_81 dX10_copy_80 ?_
      refine V_iload_n hc dX10_copy_83 rfl 3 rfl ?_
      obtain ⟨v4, hv4, hf⟩ := mb hf
      refine C_iald hc hT hv4 dX10_copy_84 ?_
      obtain ⟨S5, hS5, hf⟩ := mb hf
      refine C_iast hc hT hS5 dX10_copy_85 ?_
      refine V_aload_n hc dX10_copy_86 rfl 0 rfl ?_
      obtain ⟨a6, ha6, hf⟩ := mb hf
      refine C_getr hc rfl iW10 (by decide) 3 (by decide) rfl ha6 w2_78 dX10_copy_87 ?_
      refine V_iload_n hc dX10_copy_90 rfl 3 rfl ?_
      obtain ⟨a7, ha7, hf⟩ := mb hf
      refine C_aald hc hT (by decide) (by decide) ha7 dX10_copy_91 ?_
      refine V_aload_n hc dX10_copy_92 rfl 1 rfl ?_
      obtain ⟨a8, ha8, hf⟩ := mb hf
      refine C_getr hc rfl iW10 (by decide) 3 (by decide) rfl ha8 w2_78 dX10_copy_93 ?_
      refine V_iload_n hc dX10_copy_96 rfl 3 rfl ?_
      obtain ⟨a9, ha9, hf⟩ := mb hf
      refine C_aald hc hT (by decide) (by decide) ha9 dX10_copy_97 ?_
      obtain ⟨S10, hS10, hf⟩ := mb hf
      obtain ⟨hkS10, hS10⟩ := og hS10
      refine C_callV hc hz (As := [.ref a9]) hkS10 (by decide) (c1_copyLine l D y X hX hS10) w5_66 w5_67 w5_68 w1_9 w5_69 hdX_X1_copyLine ⟨(Nat.le_of_ble_eq_true rfl), (Nat.le_of_ble_eq_true rfl)⟩ rfl rfl rfl (Nat.le_of_ble_eq_true rfl) dX10_copy_98 ?_
      refine V_iload_n hc dX10_copy_101 rfl 2 rfl ?_
      obtain ⟨S11, hv12, hf⟩ := mb hf
      have hJ102 : V E (cZ S11) (cU S11) (cw y S11) 120 [(0, .ref h), (1, .ref c1), (2, .int c2), (3, .int i3)] [] := by
        refine V_iinc hc (j := 3) (v := (i3 + (1 : Int32))) dX10_copy_120 rfl rfl (by decide) rfl ?_
        refine V_goto hc dX10_copy_123 rfl ?_
        exact V_sub [1, 2, 3, 0] rfl (ih _ _ hf hx0)
      refine V_if_eq hc dX10_copy_102 rfl (fun hq102 => ?_) (fun hq102 => ?_)
      · rw [if_pos hq102] at hv12
        obtain rfl := Option.some.inj hv12
        exact V_sub [0, 1, 2, 3] rfl hJ102
      · rw [if_neg hq102] at hv12
        refine V_aload_n hc dX10_copy_105 rfl 0 rfl ?_
        obtain ⟨a13, ha13, hv12⟩ := mb hv12
        refine C_getr hc rfl iW10 (by decide) 3 (by decide) rfl ha13 w2_78 dX10_copy_106 ?_
        refine V_iload_n hc dX10_copy_109 rfl 3 rfl ?_
        obtain ⟨a14, ha14, hv12⟩ := mb hv12
        refine C_aald hc hT (by decide) (by decide) ha14 dX10_copy_110 ?_
        refine V_aload_n hc dX10_copy_111 rfl 1 rfl ?_
        obtain ⟨a15, ha15, hv12⟩ := mb hv12
        refine C_getr hc rfl iW10 (by decide) 3 (by decide) rfl ha15 w2_78 dX10_copy_112 ?_
        refine V_iload_n hc dX10_copy_115 rfl 3 rfl ?_
        obtain ⟨a16, ha16, hv12⟩ := mb hv12
        refine C_aald hc hT (by decide) (by decide) ha16 dX10_copy_116 ?_
        obtain ⟨S17, hS17, hv12⟩ := mb hv12
        obtain ⟨hkS17, hS17⟩ := og hS17
        refine C_callV hc hz (As := [.ref a16]) hkS17 (by decide) (c1_copyText l D y X hX hS17) w5_72 w5_73 w5_74 w1_9 w5_75 hdX_X1_copyText ⟨(Nat.le_of_ble_eq_true rfl), (Nat.le_of_ble_eq_true rfl)⟩ rfl rfl rfl (Nat.le_of_ble_eq_true rfl) dX10_copy_117 ?_
        obtain rfl := Option.some.inj hv12
        exact V_sub [0, 1, 2, 3] rfl hJ102
set_option maxHeartbeats 4000000 in
set_option maxRecDepth 100000 in
theorem c10_copy (l : Launch) (D : va_G) (y : CyT) (X : Nat × Nat) (hX : X.2 ≤ 100000000) {S S' : CS} {h : Nat} {p1 : Nat} {p2 : Int32} (hf : f10_copy X S h p1 p2 = some S') : CT l D y yX10_copy cX10_copy 4 none 4 90 X.1 X.2 [.ref h, .ref p1, .int p2] (cZ S) (cU S) (cw y S) (cZ S') (cU S') (cw y S') none := by
  refine CT.of (by decide) (Nat.le_of_ble_eq_true rfl) (fun E hc hzz hnm => ?_)
  have hc : Cx E "FarEditors$World" cX10_copy 4 := hc
  have hz := hzz.1
  have hT := hz.2.2.1
  show V E (cZ S) (cU S) (cw y S) 0 [(0, .ref h), (1, .ref p1), (2, .int p2)] []
  unfold f10_copy at hf
  refine V_aload_n hc dX10_copy_0 rfl 0 rfl ?_
  refine V_iload_n hc dX10_copy_1 rfl 2 rfl ?_
  obtain ⟨v1, hv1, hf⟩ := mb hf
  obtain ⟨hbv1, hev1⟩ := bz_some hv1
  subst hev1
  obtain ⟨S2, hS2, hf⟩ := mb hf
  refine C_puti hc rfl iW10 tyX10 tyX10_ok nmX10 (by decide) 5 (by decide) rfl hS2 w2_83 rfl (bz_nar hbv1) (bz_fits hbv1) dX10_copy_2 ?_
  refine V_aload_n hc dX10_copy_5 rfl 0 rfl ?_
  refine V_aload_n hc dX10_copy_6 rfl 1 rfl ?_
  obtain ⟨v3, hv3, hf⟩ := mb hf
  refine C_geti hc rfl iW10 (by decide) 6 (by decide) rfl hv3 w2_84 dX10_copy_7 ?_
  obtain ⟨S4, hS4, hf⟩ := mb hf
  refine C_puti hc rfl iW10 tyX10 tyX10_ok nmX10 (by decide) 6 (by decide) rfl hS4 w2_84 rfl rfl rfl dX10_copy_10 ?_
  refine V_aload_n hc dX10_copy_13 rfl 0 rfl ?_
  refine V_aload_n hc dX10_copy_14 rfl 1 rfl ?_
  obtain ⟨v5, hv5, hf⟩ := mb hf
  refine C_geti hc rfl iW10 (by decide) 7 (by decide) rfl hv5 w2_87 dX10_copy_15 ?_
  obtain ⟨S6, hS6, hf⟩ := mb hf
  refine C_puti hc rfl iW10 tyX10 tyX10_ok nmX10 (by decide) 7 (by decide) rfl hS6 w2_87 rfl rfl rfl dX10_copy_18 ?_
  refine V_aload_n hc dX10_copy_21 rfl 0 rfl ?_
  refine V_aload_n hc dX10_copy_22 rfl 1 rfl ?_
  obtain ⟨v7, hv7, hf⟩ := mb hf
  refine C_geti hc rfl iW10 (by decide) 8 (by decide) rfl hv7 w2_89 dX10_copy_23 ?_
  obtain ⟨S8, hS8, hf⟩ := mb hf
  refine C_puti hc rfl iW10 tyX10 tyX10_ok nmX10 (by decide) 8 (by decide) rfl hS8 w2_89 rfl rfl rfl dX10_copy_26 ?_
  refine V_aload_n hc dX10_copy_29 rfl 0 rfl ?_
  refine V_aload_n hc dX10_copy_30 rfl 1 rfl ?_
  obtain ⟨v9, hv9, hf⟩ := mb hf
  refine C_geti hc rfl iW10 (by decide) 9 (by decide) rfl hv9 w2_91 dX10_copy_31 ?_
  obtain ⟨S10, hS10, hf⟩ := mb hf
  refine C_puti hc rfl iW10 tyX10 tyX10_ok nmX10 (by decide) 9 (by decide) rfl hS10 w2_91 rfl rfl rfl dX10_copy_34 ?_
  refine V_aload_n hc dX10_copy_37 rfl 0 rfl ?_
  refine V_aload_n hc dX10_copy_38 rfl 1 rfl ?_
  obtain ⟨v11, hv11, hf⟩ := mb hf
  refine C_geti hc rfl iW10 (by decide) 10 (by decide) rfl hv11 w2_93 dX10_copy_39 ?_
  obtain ⟨S12, hS12, hf⟩ := mb hf
  refine C_puti hc rfl iW10 tyX10 tyX10_ok nmX10 (by decide) 10 (by decide) rfl hS12 w2_93 rfl rfl rfl dX10_copy_42 ?_
  refine V_aload_n hc dX10_copy_45 rfl 0 rfl ?_
  refine V_aload_n hc dX10_copy_46 rfl 1 rfl ?_
  obtain ⟨v13, hv13, hf⟩ := mb hf
  refine C_geti hc rfl iW10 (by decide) 11 (by decide) rfl hv13 w2_95 dX10_copy_47 ?_
  obtain ⟨S14, hS14, hf⟩ := mb hf
  refine C_puti hc rfl iW10 tyX10 tyX10_ok nmX10 (by decide) 11 (by decide) rfl hS14 w2_95 rfl rfl rfl dX10_copy_50 ?_
  refine V_aload_n hc dX10_copy_53 rfl 0 rfl ?_
  obtain ⟨a15, ha15, hf⟩ := mb hf
  refine C_getr hc rfl iW10 (by decide) 2 (by decide) rfl ha15 w2_75 dX10_copy_54 ?_
  refine V_aload_n hc dX10_copy_57 rfl 1 rfl ?_
  obtain ⟨a16, ha16, hf⟩ := mb hf
  refine C_getr hc rfl iW10 (by decide) 2 (by decide) rfl ha16 w2_75 dX10_copy_58 ?_
  obtain ⟨S17, hS17, hf⟩ := mb hf
  obtain ⟨hkS17, hS17⟩ := og hS17
  refine C_callV hc hz (As := [.ref a16]) hkS17 (by decide) (c7_copy l D y _ _ hS17) w3_204 w3_205 w3_206 w1_7 w3_207 hdX_X7_copy ⟨(Nat.le_of_ble_eq_true rfl), (Nat.le_of_ble_eq_true rfl)⟩ rfl rfl rfl (Nat.le_of_ble_eq_true rfl) dX10_copy_61 ?_
  refine V_iconst hc (v := (0 : Int32)) dX10_copy_64 rfl ?_
  refine V_istore_n hc dX10_copy_65 rfl (by decide) rfl ?_
  obtain ⟨S18, hv19, hf⟩ := mb hf
  refine V_sub [1, 2, 3, 0] rfl (LX10_copy_66_ok hc X h p1 p2 hz hX FU _ _ hv19 ?_)
  obtain rfl := Option.some.inj hf
  exact V_vret hc hzz rfl rfl rfl rfl dX10_copy_126
noncomputable def f10_knows (S : CS) (h : Nat) (p1 : Int32) : Option (Int32) :=
  (
    if p1 < 0 then (
      some (0 : Int32)
    ) else (
      (gi S 10 h 6).bind fun v3 =>
      if v3 ≤ p1 then (
        some (0 : Int32)
      ) else (
        (gr S 10 h 3).bind fun a4 =>
        (aln S 16 a4).bind fun v5 =>
        if v5 ≤ p1 then (
          some (0 : Int32)
        ) else (
          some (1 : Int32)
        )
      )
    )
  ).bind fun v1 =>
  (bz v1).bind fun v6 =>
  some v6
theorem hdX_X10_knows : yX10_knows.cls = "FarEditors$World" ∧ yX10_knows.cls ≠ "java/lang/invoke/MethodHandle" ∧ yX10_knows.cls ≠ "java/lang/invoke/VarHandle" ∧ (parseMethodDescriptor yX10_knows.desc).map (fun d => d.parameters.length) = some 1 := by decide +kernel
set_option maxHeartbeats 4000000 in
set_option maxRecDepth 100000 in
theorem c10_knows (l : Launch) (D : va_G) (y : CyT) (zM uM : Nat) {S : CS} {h : Nat} {p1 : Int32} {r : Int32} (hf : f10_knows S h p1 = some r) : CT l D y yX10_knows cX10_knows 2 (some .boolean) 0 0 zM uM [.ref h, .int p1] (cZ S) (cU S) (cw y S) (cZ S) (cU S) (cw y S) (some (.int r)) := by
  refine CT.of (by decide) (Nat.le_of_ble_eq_true rfl) (fun E hc hzz hnm => ?_)
  have hc : Cx E "FarEditors$World" cX10_knows 2 := hc
  have hz := hzz.1
  have hT := hz.2.2.1
  show V E (cZ S) (cU S) (cw y S) 0 [(0, .ref h), (1, .int p1)] []
  unfold f10_knows at hf
  refine V_iload_n hc dX10_knows_0 rfl 1 rfl ?_
  obtain ⟨v1, hv2, hf⟩ := mb hf
  have hJ1 : V E (cZ S) (cU S) (cw y S) 26 [] [.int v1] := by
    obtain ⟨v6, hv6, hf⟩ := mb hf
    obtain ⟨hbv6, rfl⟩ := bz_some hv6
    obtain rfl := Option.some.inj hf
    exact V_iret hc hzz (bz_nar hbv6) rfl rfl rfl rfl dX10_knows_26
  refine V_if_lt hc dX10_knows_1 rfl (fun hq1 => ?_) (fun hq1 => ?_)
  · rw [if_pos hq1] at hv2
    refine V_iconst hc (v := (0 : Int32)) dX10_knows_25 rfl ?_
    obtain rfl := Option.some.inj hv2
    exact V_sub [] rfl hJ1
  · rw [if_neg hq1] at hv2
    refine V_iload_n hc dX10_knows_4 rfl 1 rfl ?_
    refine V_aload_n hc dX10_knows_5 rfl 0 rfl ?_
    obtain ⟨v3, hv3, hv2⟩ := mb hv2
    refine C_geti hc rfl iW10 (by decide) 6 (by decide) rfl hv3 w2_84 dX10_knows_6 ?_
    refine V_icmp_ge hc dX10_knows_9 rfl (fun hq9 => ?_) (fun hq9 => ?_)
    · rw [if_pos hq9] at hv2
      refine V_iconst hc (v := (0 : Int32)) dX10_knows_25 rfl ?_
      obtain rfl := Option.some.inj hv2
      exact V_sub [] rfl hJ1
    · rw [if_neg hq9] at hv2
      refine V_iload_n hc dX10_knows_12 rfl 1 rfl ?_
      refine V_aload_n hc dX10_knows_13 rfl 0 rfl ?_
      obtain ⟨a4, ha4, hv2⟩ := mb hv2
      refine C_getr hc rfl iW10 (by decide) 3 (by decide) rfl ha4 w2_78 dX10_knows_14 ?_
      obtain ⟨v5, hv5, hv2⟩ := mb hv2
      refine C_alenr hc hT (by decide) (by decide) hv5 dX10_knows_17 ?_
      refine V_icmp_ge hc dX10_knows_18 rfl (fun hq18 => ?_) (fun hq18 => ?_)
      · rw [if_pos hq18] at hv2
        refine V_iconst hc (v := (0 : Int32)) dX10_knows_25 rfl ?_
        obtain rfl := Option.some.inj hv2
        exact V_sub [] rfl hJ1
      · rw [if_neg hq18] at hv2
        refine V_iconst hc (v := (1 : Int32)) dX10_knows_21 rfl ?_
        refine V_goto hc dX10_knows_22 rfl ?_
        obtain rfl := Option.some.inj hv2
        exact V_sub [] rfl hJ1
noncomputable def f10_isAhead (S : CS) (h : Nat) (p1 : Int32) (p2 : Int32) : Option (Int32) :=
  (gi S 10 h 7).bind fun v1 =>
  if v1 = 0 then (
    (
      if p2 ≤ p1 then (
        some (0 : Int32)
      ) else (
        some (1 : Int32)
      )
    ).bind fun v6 =>
    (bz v6).bind fun v8 =>
    some v8
  ) else (
    (gi S 10 h 7).bind fun v2 =>
    (
      if v2 = (1 : Int32) then (
        if p1 ≤ p2 then (
          some (0 : Int32)
        ) else (
          some (1 : Int32)
        )
      ) else (
        some (0 : Int32)
      )
    ).bind fun v3 =>
    (bz v3).bind fun v5 =>
    some v5
  )
theorem hdX_X10_isAhead : yX10_isAhead.cls = "FarEditors$World" ∧ yX10_isAhead.cls ≠ "java/lang/invoke/MethodHandle" ∧ yX10_isAhead.cls ≠ "java/lang/invoke/VarHandle" ∧ (parseMethodDescriptor yX10_isAhead.desc).map (fun d => d.parameters.length) = some 2 := by decide +kernel
set_option maxHeartbeats 4000000 in
set_option maxRecDepth 100000 in
theorem c10_isAhead (l : Launch) (D : va_G) (y : CyT) (zM uM : Nat) {S : CS} {h : Nat} {p1 : Int32} {p2 : Int32} {r : Int32} (hf : f10_isAhead S h p1 p2 = some r) : CT l D y yX10_isAhead cX10_isAhead 3 (some .boolean) 0 0 zM uM [.ref h, .int p1, .int p2] (cZ S) (cU S) (cw y S) (cZ S) (cU S) (cw y S) (some (.int r)) := by
  refine CT.of (by decide) (Nat.le_of_ble_eq_true rfl) (fun E hc hzz hnm => ?_)
  have hc : Cx E "FarEditors$World" cX10_isAhead 3 := hc
  have hz := hzz.1
  have hT := hz.2.2.1
  show V E (cZ S) (cU S) (cw y S) 0 [(0, .ref h), (1, .int p1), (2, .int p2)] []
  unfold f10_isAhead at hf
  refine V_aload_n hc dX10_isAhead_0 rfl 0 rfl ?_
  obtain ⟨v1, hv1, hf⟩ := mb hf
  refine C_geti hc rfl iW10 (by decide) 7 (by decide) rfl hv1 w2_87 dX10_isAhead_1 ?_
  refine V_if_ne hc dX10_isAhead_4 rfl (fun hq4 => ?_) (fun hq4 => ?_)
  · rw [if_neg hq4] at hf
    refine V_aload_n hc dX10_isAhead_18 rfl 0 rfl ?_
    obtain ⟨v2, hv2, hf⟩ := mb hf
    refine C_geti hc rfl iW10 (by decide) 7 (by decide) rfl hv2 w2_87 dX10_isAhead_19 ?_
    refine V_iconst hc (v := (1 : Int32)) dX10_isAhead_22 rfl ?_
    obtain ⟨v3, hv4, hf⟩ := mb hf
    have hJ23 : V E (cZ S) (cU S) (cw y S) 36 [] [.int v3] := by
      obtain ⟨v5, hv5, hf⟩ := mb hf
      obtain ⟨hbv5, rfl⟩ := bz_some hv5
      obtain rfl := Option.some.inj hf
      exact V_iret hc hzz (bz_nar hbv5) rfl rfl rfl rfl dX10_isAhead_36
    refine V_icmp_ne hc dX10_isAhead_23 rfl (fun hq23 => ?_) (fun hq23 => ?_)
    · rw [if_neg hq23] at hv4
      refine V_iconst hc (v := (0 : Int32)) dX10_isAhead_35 rfl ?_
      obtain rfl := Option.some.inj hv4
      exact V_sub [] rfl hJ23
    · rw [if_pos hq23] at hv4
      refine V_iload_n hc dX10_isAhead_26 rfl 1 rfl ?_
      refine V_iload_n hc dX10_isAhead_27 rfl 2 rfl ?_
      refine V_icmp_le hc dX10_isAhead_28 rfl (fun hq28 => ?_) (fun hq28 => ?_)
      · rw [if_pos hq28] at hv4
        refine V_iconst hc (v := (0 : Int32)) dX10_isAhead_35 rfl ?_
        obtain rfl := Option.some.inj hv4
        exact V_sub [] rfl hJ23
      · rw [if_neg hq28] at hv4
        refine V_iconst hc (v := (1 : Int32)) dX10_isAhead_31 rfl ?_
        refine V_goto hc dX10_isAhead_32 rfl ?_
        obtain rfl := Option.some.inj hv4
        exact V_sub [] rfl hJ23
  · rw [if_pos hq4] at hf
    refine V_iload_n hc dX10_isAhead_7 rfl 1 rfl ?_
    refine V_iload_n hc dX10_isAhead_8 rfl 2 rfl ?_
    obtain ⟨v6, hv7, hf⟩ := mb hf
    have hJ9 : V E (cZ S) (cU S) (cw y S) 17 [] [.int v6] := by
      obtain ⟨v8, hv8, hf⟩ := mb hf
      obtain ⟨hbv8, rfl⟩ := bz_some hv8
      obtain rfl := Option.some.inj hf
      exact V_iret hc hzz (bz_nar hbv8) rfl rfl rfl rfl dX10_isAhead_17
    refine V_icmp_ge hc dX10_isAhead_9 rfl (fun hq9 => ?_) (fun hq9 => ?_)
    · rw [if_pos hq9] at hv7
      refine V_iconst hc (v := (0 : Int32)) dX10_isAhead_16 rfl ?_
      obtain rfl := Option.some.inj hv7
      exact V_sub [] rfl hJ9
    · rw [if_neg hq9] at hv7
      refine V_iconst hc (v := (1 : Int32)) dX10_isAhead_12 rfl ?_
      refine V_goto hc dX10_isAhead_13 rfl ?_
      obtain rfl := Option.some.inj hv7
      exact V_sub [] rfl hJ9
