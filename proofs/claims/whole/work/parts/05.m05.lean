noncomputable def f12_pushes (M : MS) (p1 : Int32) (p2 : Int32) (p3 : Int32) : Option (MS) :=
  (f12_of p1 p2).bind fun v1 =>
  (f12_of p1 p3).bind fun v2 =>
  (ld M 30 v2).bind fun v3 =>
  (
    if v3 = (8 : Int32) then (
      (f12_dropsOldest M v1 (8 : Int32)).bind fun M6 =>
      (ld M6 30 v2).bind fun v7 =>
      (sd M6 30 v2 (v7 - (1 : Int32))).bind fun M8 =>
      some M8
    ) else (
      some M
    )
  ).bind fun M4 =>
  (ld M4 30 v2).bind fun v9 =>
  (f12_entryAt M4 v1 v9).bind fun v10 =>
  (f12_keepsC M4 (v10 + (1 : Int32))).bind fun M11 =>
  (ld M11 30 (v10 + (1 : Int32))).bind fun v12 =>
  (sd M11 30 v10 v12).bind fun M13 =>
  (ld M13 30 v2).bind fun v14 =>
  (sd M13 30 v2 (v14 + (1 : Int32))).bind fun M15 =>
  some M15
theorem hd12_pushes : yX12_pushes.cls = "FarEditorsModel" ∧ yX12_pushes.cls ≠ "java/lang/invoke/MethodHandle" ∧ yX12_pushes.cls ≠ "java/lang/invoke/VarHandle" ∧ (parseMethodDescriptor yX12_pushes.desc).map (fun d => d.parameters.length) = some 3 := by decide +kernel
set_option maxHeartbeats 4000000 in
set_option maxRecDepth 100000 in
theorem c12_pushes (l : Launch) (D : va_G) (h : Nat) (q : Nat → Nat) (y : CyT) (zM uM z u : Nat) {M M' : MS} {p1 : Int32} {p2 : Int32} {p3 : Int32} (hf : f12_pushes M p1 p2 p3 = some M') : CT l D y yX12_pushes cX12_pushes 7 none 2 49 zM uM [.ref h, .int p1, .int p2, .int p3] z u (mw h q y M) z u (mw h q y M') none := by
  refine CT.of (by decide) (Nat.le_of_ble_eq_true rfl) (fun E hc hzz hnm => ?_)
  have hc : Cx E "FarEditorsModel" cX12_pushes 7 := hc
  have hz := hzz.1
  have hT := hz.2.2.1
  show V E z u (mw h q y M) 0 [(0, .ref h), (1, .int p1), (2, .int p2), (3, .int p3)] []
  unfold f12_pushes at hf
  refine V_iload_n hc dX12_pushes_0 rfl 1 rfl ?_
  refine V_iload_n hc dX12_pushes_1 rfl 2 rfl ?_
  obtain ⟨v1, hv1, hf⟩ := mb hf
  refine R_callSi hc hz (As := [.int p1, .int p2]) (c12_of l D h q y _ _ _ _ hv1) w7_123 w7_124 w1_13 w7_125 hd12_of ⟨Nat.le_of_ble_eq_true rfl, Nat.le_of_ble_eq_true rfl⟩ rfl rfl (Nat.le_of_ble_eq_true rfl) dX12_pushes_2 ?_
  refine V_istore hc dX12_pushes_5 (by decide) rfl ?_
  refine V_iload_n hc dX12_pushes_7 rfl 2 rfl ?_
  refine V_iload_n hc dX12_pushes_8 rfl 4 rfl ?_
  obtain ⟨v2, hv2, hf⟩ := mb hf
  refine R_callSi hc hz (As := [.int p1, .int p3]) (c12_of l D h q y _ _ _ _ hv2) w7_123 w7_124 w1_13 w7_125 hd12_of ⟨Nat.le_of_ble_eq_true rfl, Nat.le_of_ble_eq_true rfl⟩ rfl rfl (Nat.le_of_ble_eq_true rfl) dX12_pushes_9 ?_
  refine V_istore hc dX12_pushes_12 (by decide) rfl ?_
  refine V_aload_n hc dX12_pushes_14 rfl 2 rfl ?_
  refine R_getr hc 30 rfl (by decide) w6_88 dX12_pushes_15 ?_
  refine V_iload hc dX12_pushes_18 0 rfl ?_
  obtain ⟨v3, hv3, hf⟩ := mb hf
  refine R_iald hc hT rfl hv3 dX12_pushes_20 ?_
  refine V_bipush hc (v := (8 : Int32)) dX12_pushes_21 rfl ?_
  obtain ⟨M4, hv5, hf⟩ := mb hf
  have hJ23 : V E z u (mw h q y M4) 45 [(0, .ref h), (4, .int v1), (5, .int v2)] [] := by
    refine V_aload_n hc dX12_pushes_45 rfl 0 rfl ?_
    refine V_iload hc dX12_pushes_46 1 rfl ?_
    refine V_aload_n hc dX12_pushes_48 rfl 0 rfl ?_
    refine R_getr hc 30 rfl (by decide) w6_88 dX12_pushes_49 ?_
    refine V_iload hc dX12_pushes_52 2 rfl ?_
    obtain ⟨v9, hv9, hf⟩ := mb hf
    refine R_iald hc hT rfl hv9 dX12_pushes_54 ?_
    obtain ⟨v10, hv10, hf⟩ := mb hf
    refine R_callVi hc hz (As := [.int v1, .int v9]) (c12_entryAt l D h q y _ _ _ _ hv10) w7_184 w7_186 wp6_0 w1_13 w7_187 hd12_entryAt ⟨Nat.le_of_ble_eq_true rfl, Nat.le_of_ble_eq_true rfl⟩ rfl rfl (Nat.le_of_ble_eq_true rfl) dX12_pushes_55 ?_
    refine V_istore hc dX12_pushes_58 (by decide) rfl ?_
    refine V_aload_n hc dX12_pushes_60 rfl 1 rfl ?_
    refine V_iload hc dX12_pushes_61 0 rfl ?_
    refine V_iconst hc (v := (1 : Int32)) dX12_pushes_63 rfl ?_
    refine V_iadd hc dX12_pushes_64 ?_
    obtain ⟨M11, hM11, hf⟩ := mb hf
    refine R_callVv hc hz (As := [.int (v10 + (1 : Int32))]) (c12_keepsC l D h q y _ _ _ _ hM11) w7_188 w7_190 wp6_1 w1_13 w7_191 hd12_keepsC ⟨Nat.le_of_ble_eq_true rfl, Nat.le_of_ble_eq_true rfl⟩ rfl rfl (Nat.le_of_ble_eq_true rfl) dX12_pushes_65 ?_
    refine V_aload_n hc dX12_pushes_68 rfl 1 rfl ?_
    refine R_getr hc 30 rfl (by decide) w6_88 dX12_pushes_69 ?_
    refine V_iload hc dX12_pushes_72 0 rfl ?_
    refine V_aload_n hc dX12_pushes_74 rfl 1 rfl ?_
    refine R_getr hc 30 rfl (by decide) w6_88 dX12_pushes_75 ?_
    refine V_iload hc dX12_pushes_78 0 rfl ?_
    refine V_iconst hc (v := (1 : Int32)) dX12_pushes_80 rfl ?_
    refine V_iadd hc dX12_pushes_81 ?_
    obtain ⟨v12, hv12, hf⟩ := mb hf
    refine R_iald hc hT rfl hv12 dX12_pushes_82 ?_
    obtain ⟨M13, hM13, hf⟩ := mb hf
    refine R_iast hc hT rfl hM13 dX12_pushes_83 ?_
    refine V_aload_n hc dX12_pushes_84 rfl 1 rfl ?_
    refine R_getr hc 30 rfl (by decide) w6_88 dX12_pushes_85 ?_
    refine V_iload hc dX12_pushes_88 3 rfl ?_
    refine V_dup2 hc dX12_pushes_90 rfl rfl ?_
    obtain ⟨v14, hv14, hf⟩ := mb hf
    refine R_iald hc hT rfl hv14 dX12_pushes_91 ?_
    refine V_iconst hc (v := (1 : Int32)) dX12_pushes_92 rfl ?_
    refine V_iadd hc dX12_pushes_93 ?_
    obtain ⟨M15, hM15, hf⟩ := mb hf
    refine R_iast hc hT rfl hM15 dX12_pushes_94 ?_
    obtain rfl := Option.some.inj hf
    exact V_vret hc hzz rfl rfl rfl rfl dX12_pushes_95
  refine V_icmp_ne hc dX12_pushes_23 rfl (fun hq23 => ?_) (fun hq23 => ?_)
  · rw [if_neg hq23] at hv5
    obtain rfl := Option.some.inj hv5
    exact V_sub [2, 1, 0] rfl hJ23
  · rw [if_pos hq23] at hv5
    refine V_aload_n hc dX12_pushes_26 rfl 2 rfl ?_
    refine V_iload hc dX12_pushes_27 1 rfl ?_
    refine V_bipush hc (v := (8 : Int32)) dX12_pushes_29 rfl ?_
    obtain ⟨M6, hM6, hv5⟩ := mb hv5
    refine R_callVv hc hz (As := [.int v1, .int (8 : Int32)]) (c12_dropsOldest l D h q y _ _ _ _ hM6) w7_180 w7_182 wp5_15 w1_13 w7_183 hd12_dropsOldest ⟨Nat.le_of_ble_eq_true rfl, Nat.le_of_ble_eq_true rfl⟩ rfl rfl (Nat.le_of_ble_eq_true rfl) dX12_pushes_31 ?_
    refine V_aload_n hc dX12_pushes_34 rfl 2 rfl ?_
    refine R_getr hc 30 rfl (by decide) w6_88 dX12_pushes_35 ?_
    refine V_iload hc dX12_pushes_38 0 rfl ?_
    refine V_dup2 hc dX12_pushes_40 rfl rfl ?_
    obtain ⟨v7, hv7, hv5⟩ := mb hv5
    refine R_iald hc hT rfl hv7 dX12_pushes_41 ?_
    refine V_iconst hc (v := (1 : Int32)) dX12_pushes_42 rfl ?_
    refine V_isub hc dX12_pushes_43 ?_
    obtain ⟨M8, hM8, hv5⟩ := mb hv5
    refine R_iast hc hT rfl hM8 dX12_pushes_44 ?_
    obtain rfl := Option.some.inj hv5
    exact V_sub [2, 1, 0] rfl hJ23
noncomputable def L12_carriesStack_10 (c1 : Int32) (c2 : Int32) (c4 : Int32) (c5 : Int32) : Nat → Int32 → MS → Option (MS)
  | 0, _, _ => none
  | n + 1, i6, M =>
    if (gF M 26) ≤ i6 then (
      some M
    ) else (
      (ld M 21 i6).bind fun v1 =>
      (sd M 41 i6 v1).bind fun M2 =>
      L12_carriesStack_10 c1 c2 c4 c5 n (i6 + (1 : Int32)) M2
    )
noncomputable def L12_carriesStack_56 (c1 : Int32) (c2 : Int32) (c5 : Int32) (c6 : Int32) : Nat → Int32 → MS → Option (MS)
  | 0, _, _ => none
  | n + 1, i7, M =>
    if i7 < 0 then (
      some M
    ) else (
      (f12_entryAt M c5 i7).bind fun v1 =>
      (f12_keptToA M (v1 + (1 : Int32))).bind fun M2 =>
      (f12_isAhead M2 c1 c2).bind fun v3 =>
      (f12_turns M2 v3).bind fun M4 =>
      (f12_keepsC M4 (v1 + (1 : Int32))).bind fun M5 =>
      (f12_takesDAsB M5).bind fun M6 =>
      L12_carriesStack_56 c1 c2 c5 c6 n (i7 + (-1 : Int32)) M6
    )
noncomputable def L12_carriesStack_110 (c6 : Int32) : Nat → Int32 → MS → Option (MS)
  | 0, _, _ => none
  | n + 1, i7, M =>
    if c6 ≤ i7 then (
      some M
    ) else (
      (ld M 41 i7).bind fun v1 =>
      (sd M 21 i7 v1).bind fun M2 =>
      L12_carriesStack_110 c6 n (i7 + (1 : Int32)) M2
    )
noncomputable def f12_carriesStack (M : MS) (p1 : Int32) (p2 : Int32) (p3 : Int32) (p4 : Int32) : Option (MS) :=
  (f12_of p1 p3).bind fun v1 =>
  (L12_carriesStack_10 p1 p2 p4 v1 FU (0 : Int32) M).bind fun M2 =>
  (f12_its M2 p1 p4).bind fun v4 =>
  (L12_carriesStack_56 p1 p2 v1 (gF M2 26) FU (v4 - (1 : Int32)) M2).bind fun M5 =>
  (L12_carriesStack_110 (gF M2 26) FU (0 : Int32) M5).bind fun M7 =>
  some (sF M7 26 (gF M2 26))
theorem hd12_carriesStack : yX12_carriesStack.cls = "FarEditorsModel" ∧ yX12_carriesStack.cls ≠ "java/lang/invoke/MethodHandle" ∧ yX12_carriesStack.cls ≠ "java/lang/invoke/VarHandle" ∧ (parseMethodDescriptor yX12_carriesStack.desc).map (fun d => d.parameters.length) = some 4 := by decide +kernel
set_option maxHeartbeats 4000000 in
set_option maxRecDepth 100000 in
theorem L12_carriesStack_10_ok {E : CxT} {l : Launch} {D : va_G} {h : Nat} {q : Nat → Nat} {y : CyT} {zM uM z u : Nat} (hc : Cx E "FarEditorsModel" cX12_carriesStack 9) (hz : Cy E l D y 2 51 zM uM) (c1 : Int32) (c2 : Int32) (c4 : Int32) (c5 : Int32) : ∀ (n : Nat) (i6 : Int32) (M : MS) {Mo : MS}, L12_carriesStack_10 c1 c2 c4 c5 n i6 M = some Mo → (hx0 : V E z u (mw h q y Mo) 39 [(0, .ref h), (1, .int c1), (2, .int c2), (4, .int c4), (5, .int c5)] []) → V E z u (mw h q y M) 10 [(0, .ref h), (1, .int c1), (2, .int c2), (4, .int c4), (5, .int c5), (6, .int i6)] [] := by
  have hT := hz.2.2.1
  intro n
  induction n with
  | zero => intro i6 M Mo hf; cases hf
  | succ n ih =>
    intro i6 M Mo hf hx0
    unfold L12_carriesStack_10 at hf
    refine V_iload hc dX12_carriesStack_10 5 rfl ?_
    refine V_aload_n hc dX12_carriesStack_12 rfl 0 rfl ?_
    refine R_geti hc 26 rfl (by decide) w6_84 dX12_carriesStack_13 ?_
    refine V_icmp_ge hc dX12_carriesStack_16 rfl (fun hq16 => ?_) (fun hq16 => ?_)
    · rw [if_pos hq16] at hf
      obtain rfl := Option.some.inj hf
      exact V_sub [0, 1, 2, 3, 4] rfl hx0
    · rw [if_neg hq16] at hf
      refine V_aload_n hc dX12_carriesStack_19 rfl 0 rfl ?_
      refine R_getr hc 41 rfl (by decide) w6_99 dX12_carriesStack_20 ?_
      refine V_iload hc dX12_carriesStack_23 5 rfl ?_
      refine V_aload_n hc dX12_carriesStack_25 rfl 0 rfl ?_
      refine R_getr hc 21 rfl (by decide) w6_79 dX12_carriesStack_26 ?_
      refine V_iload hc dX12_carriesStack_29 5 rfl ?_
      obtain ⟨v1, hv1, hf⟩ := mb hf
      refine R_iald hc hT rfl hv1 dX12_carriesStack_31 ?_
      obtain ⟨M2, hM2, hf⟩ := mb hf
      refine R_iast hc hT rfl hM2 dX12_carriesStack_32 ?_
      refine V_iinc hc (j := 5) (v := (i6 + (1 : Int32))) dX12_carriesStack_33 rfl rfl (by decide) rfl ?_
      refine V_goto hc dX12_carriesStack_36 rfl ?_
      exact V_sub [1, 2, 3, 4, 5, 0] rfl (ih _ _ hf hx0)
set_option maxHeartbeats 4000000 in
set_option maxRecDepth 100000 in
theorem L12_carriesStack_56_ok {E : CxT} {l : Launch} {D : va_G} {h : Nat} {q : Nat → Nat} {y : CyT} {zM uM z u : Nat} (hc : Cx E "FarEditorsModel" cX12_carriesStack 9) (hz : Cy E l D y 2 51 zM uM) (c1 : Int32) (c2 : Int32) (c5 : Int32) (c6 : Int32) : ∀ (n : Nat) (i7 : Int32) (M : MS) {Mo : MS}, L12_carriesStack_56 c1 c2 c5 c6 n i7 M = some Mo → (hx0 : V E z u (mw h q y Mo) 107 [(0, .ref h), (6, .int c6)] []) → V E z u (mw h q y M) 56 [(0, .ref h), (1, .int c1), (2, .int c2), (5, .int c5), (6, .int c6), (7, .int i7)] [] := by
  have hT := hz.2.2.1
  intro n
  induction n with
  | zero => intro i7 M Mo hf; cases hf
  | succ n ih =>
    intro i7 M Mo hf hx0
    unfold L12_carriesStack_56 at hf
    refine V_iload hc dX12_carriesStack_56 5 rfl ?_
    refine V_if_lt hc dX12_carriesStack_58 rfl (fun hq58 => ?_) (fun hq58 => ?_)
    · rw [if_pos hq58] at hf
      obtain rfl := Option.some.inj hf
      exact V_sub [0, 4] rfl hx0
    · rw [if_neg hq58] at hf
      refine V_aload_n hc dX12_carriesStack_61 rfl 0 rfl ?_
      refine V_iload hc dX12_carriesStack_62 3 rfl ?_
      refine V_iload hc dX12_carriesStack_64 5 rfl ?_
      obtain ⟨v1, hv1, hf⟩ := mb hf
      refine R_callVi hc hz (As := [.int c5, .int i7]) (c12_entryAt l D h q y _ _ _ _ hv1) w7_184 w7_186 wp6_0 w1_13 w7_187 hd12_entryAt ⟨Nat.le_of_ble_eq_true rfl, Nat.le_of_ble_eq_true rfl⟩ rfl rfl (Nat.le_of_ble_eq_true rfl) dX12_carriesStack_66 ?_
      refine V_istore hc dX12_carriesStack_69 (by decide) rfl ?_
      refine V_aload_n hc dX12_carriesStack_71 rfl 1 rfl ?_
      refine V_iload hc dX12_carriesStack_72 0 rfl ?_
      refine V_iconst hc (v := (1 : Int32)) dX12_carriesStack_74 rfl ?_
      refine V_iadd hc dX12_carriesStack_75 ?_
      obtain ⟨M2, hM2, hf⟩ := mb hf
      refine R_callVv hc hz (As := [.int (v1 + (1 : Int32))]) (c12_keptToA l D h q y _ _ _ _ hM2) w7_225 w7_227 wp6_8 w1_13 w7_228 hd12_keptToA ⟨Nat.le_of_ble_eq_true rfl, Nat.le_of_ble_eq_true rfl⟩ rfl rfl (Nat.le_of_ble_eq_true rfl) dX12_carriesStack_76 ?_
      refine V_aload_n hc dX12_carriesStack_79 rfl 1 rfl ?_
      refine V_aload_n hc dX12_carriesStack_80 rfl 1 rfl ?_
      refine V_iload_n hc dX12_carriesStack_81 rfl 2 rfl ?_
      refine V_iload_n hc dX12_carriesStack_82 rfl 3 rfl ?_
      obtain ⟨v3, hv3, hf⟩ := mb hf
      refine R_callVi hc hz (As := [.int c1, .int c2]) (c12_isAhead l D h q y _ _ _ _ hv3) w8_28 w8_30 wp7_2 w1_13 w8_31 hd12_isAhead ⟨Nat.le_of_ble_eq_true rfl, Nat.le_of_ble_eq_true rfl⟩ rfl rfl (Nat.le_of_ble_eq_true rfl) dX12_carriesStack_83 ?_
      obtain ⟨M4, hM4, hf⟩ := mb hf
      refine R_callVv hc hz (As := [.int v3]) (c12_turns l D h q y _ _ _ _ hM4) w8_32 w8_34 wp7_3 w1_13 w8_35 hd12_turns ⟨Nat.le_of_ble_eq_true rfl, Nat.le_of_ble_eq_true rfl⟩ rfl rfl (Nat.le_of_ble_eq_true rfl) dX12_carriesStack_86 ?_
      refine V_aload_n hc dX12_carriesStack_89 rfl 1 rfl ?_
      refine V_iload hc dX12_carriesStack_90 0 rfl ?_
      refine V_iconst hc (v := (1 : Int32)) dX12_carriesStack_92 rfl ?_
      refine V_iadd hc dX12_carriesStack_93 ?_
      obtain ⟨M5, hM5, hf⟩ := mb hf
      refine R_callVv hc hz (As := [.int (v1 + (1 : Int32))]) (c12_keepsC l D h q y _ _ _ _ hM5) w7_188 w7_190 wp6_1 w1_13 w7_191 hd12_keepsC ⟨Nat.le_of_ble_eq_true rfl, Nat.le_of_ble_eq_true rfl⟩ rfl rfl (Nat.le_of_ble_eq_true rfl) dX12_carriesStack_94 ?_
      refine V_aload_n hc dX12_carriesStack_97 rfl 1 rfl ?_
      obtain ⟨M6, hM6, hf⟩ := mb hf
      refine R_callVv hc hz (As := []) (c12_takesDAsB l D h q y _ _ _ _ hM6) w8_52 w8_54 wp7_8 w1_13 w8_55 hd12_takesDAsB ⟨Nat.le_of_ble_eq_true rfl, Nat.le_of_ble_eq_true rfl⟩ rfl rfl (Nat.le_of_ble_eq_true rfl) dX12_carriesStack_98 ?_
      refine V_iinc hc (j := 6) (v := (i7 + (-1 : Int32))) dX12_carriesStack_101 rfl rfl (by decide) rfl ?_
      refine V_goto hc dX12_carriesStack_104 rfl ?_
      exact V_sub [2, 3, 4, 5, 6, 0] rfl (ih _ _ hf hx0)
set_option maxHeartbeats 4000000 in
set_option maxRecDepth 100000 in
theorem L12_carriesStack_110_ok {E : CxT} {l : Launch} {D : va_G} {h : Nat} {q : Nat → Nat} {y : CyT} {zM uM z u : Nat} (hc : Cx E "FarEditorsModel" cX12_carriesStack 9) (hz : Cy E l D y 2 51 zM uM) (c6 : Int32) : ∀ (n : Nat) (i7 : Int32) (M : MS) {Mo : MS}, L12_carriesStack_110 c6 n i7 M = some Mo → (hx0 : V E z u (mw h q y Mo) 137 [(0, .ref h), (6, .int c6)] []) → V E z u (mw h q y M) 110 [(0, .ref h), (6, .int c6), (7, .int i7)] [] := by
  have hT := hz.2.2.1
  intro n
  induction n with
  | zero => intro i7 M Mo hf; cases hf
  | succ n ih =>
    intro i7 M Mo hf hx0
    unfold L12_carriesStack_110 at hf
    refine V_iload hc dX12_carriesStack_110 2 rfl ?_
    refine V_iload hc dX12_carriesStack_112 1 rfl ?_
    refine V_icmp_ge hc dX12_carriesStack_114 rfl (fun hq114 => ?_) (fun hq114 => ?_)
    · rw [if_pos hq114] at hf
      obtain rfl := Option.some.inj hf
      exact V_sub [0, 1] rfl hx0
    · rw [if_neg hq114] at hf
      refine V_aload_n hc dX12_carriesStack_117 rfl 0 rfl ?_
      refine R_getr hc 21 rfl (by decide) w6_79 dX12_carriesStack_118 ?_
      refine V_iload hc dX12_carriesStack_121 2 rfl ?_
      refine V_aload_n hc dX12_carriesStack_123 rfl 0 rfl ?_
      refine R_getr hc 41 rfl (by decide) w6_99 dX12_carriesStack_124 ?_
      refine V_iload hc dX12_carriesStack_127 2 rfl ?_
      obtain ⟨v1, hv1, hf⟩ := mb hf
      refine R_iald hc hT rfl hv1 dX12_carriesStack_129 ?_
      obtain ⟨M2, hM2, hf⟩ := mb hf
      refine R_iast hc hT rfl hM2 dX12_carriesStack_130 ?_
      refine V_iinc hc (j := 2) (v := (i7 + (1 : Int32))) dX12_carriesStack_131 rfl rfl (by decide) rfl ?_
      refine V_goto hc dX12_carriesStack_134 rfl ?_
      exact V_sub [1, 2, 0] rfl (ih _ _ hf hx0)
set_option maxHeartbeats 4000000 in
set_option maxRecDepth 100000 in
theorem c12_carriesStack (l : Launch) (D : va_G) (h : Nat) (q : Nat → Nat) (y : CyT) (zM uM z u : Nat) {M M' : MS} {p1 : Int32} {p2 : Int32} {p3 : Int32} {p4 : Int32} (hf : f12_carriesStack M p1 p2 p3 p4 = some M') : CT l D y yX12_carriesStack cX12_carriesStack 9 none 2 51 zM uM [.ref h, .int p1, .int p2, .int p3, .int p4] z u (mw h q y M) z u (mw h q y M') none := by
  refine CT.of (by decide) (Nat.le_of_ble_eq_true rfl) (fun E hc hzz hnm => ?_)
  have hc : Cx E "FarEditorsModel" cX12_carriesStack 9 := hc
  have hz := hzz.1
  have hT := hz.2.2.1
  show V E z u (mw h q y M) 0 [(0, .ref h), (1, .int p1), (2, .int p2), (3, .int p3), (4, .int p4)] []
  unfold f12_carriesStack at hf
  refine V_iload_n hc dX12_carriesStack_0 rfl 1 rfl ?_
  refine V_iload_n hc dX12_carriesStack_1 rfl 3 rfl ?_
  obtain ⟨v1, hv1, hf⟩ := mb hf
  refine R_callSi hc hz (As := [.int p1, .int p3]) (c12_of l D h q y _ _ _ _ hv1) w7_123 w7_124 w1_13 w7_125 hd12_of ⟨Nat.le_of_ble_eq_true rfl, Nat.le_of_ble_eq_true rfl⟩ rfl rfl (Nat.le_of_ble_eq_true rfl) dX12_carriesStack_2 ?_
  refine V_istore hc dX12_carriesStack_5 (by decide) rfl ?_
  refine V_iconst hc (v := (0 : Int32)) dX12_carriesStack_7 rfl ?_
  refine V_istore hc dX12_carriesStack_8 (by decide) rfl ?_
  obtain ⟨M2, hv3, hf⟩ := mb hf
  refine V_sub [2, 3, 4, 6, 1, 0] rfl (L12_carriesStack_10_ok hc hz p1 p2 p4 v1 FU _ _ hv3 ?_)
  refine V_aload_n hc dX12_carriesStack_39 rfl 0 rfl ?_
  refine R_geti hc 26 rfl (by decide) w6_84 dX12_carriesStack_40 ?_
  refine V_istore hc dX12_carriesStack_43 (by decide) rfl ?_
  refine V_aload_n hc dX12_carriesStack_45 rfl 1 rfl ?_
  refine V_iload_n hc dX12_carriesStack_46 rfl 2 rfl ?_
  refine V_iload hc dX12_carriesStack_47 4 rfl ?_
  obtain ⟨v4, hv4, hf⟩ := mb hf
  refine R_callVi hc hz (As := [.int p1, .int p4]) (c12_its l D h q y _ _ _ _ hv4) w7_142 w7_144 wp5_7 w1_13 w7_145 hd12_its ⟨Nat.le_of_ble_eq_true rfl, Nat.le_of_ble_eq_true rfl⟩ rfl rfl (Nat.le_of_ble_eq_true rfl) dX12_carriesStack_49 ?_
  refine V_iconst hc (v := (1 : Int32)) dX12_carriesStack_52 rfl ?_
  refine V_isub hc dX12_carriesStack_53 ?_
  refine V_istore hc dX12_carriesStack_54 (by decide) rfl ?_
  obtain ⟨M5, hv6, hf⟩ := mb hf
  refine V_sub [2, 3, 4, 6, 1, 0] rfl (L12_carriesStack_56_ok hc hz p1 p2 v1 (gF M2 26) FU _ _ hv6 ?_)
  refine V_iconst hc (v := (0 : Int32)) dX12_carriesStack_107 rfl ?_
  refine V_istore hc dX12_carriesStack_108 (by decide) rfl ?_
  obtain ⟨M7, hv8, hf⟩ := mb hf
  refine V_sub [1, 2, 0] rfl (L12_carriesStack_110_ok hc hz (gF M2 26) FU _ _ hv8 ?_)
  refine V_aload_n hc dX12_carriesStack_137 rfl 0 rfl ?_
  refine V_iload hc dX12_carriesStack_138 1 rfl ?_
  refine R_puti hc 26 rfl (by decide) w6_84 rfl rfl rfl dX12_carriesStack_140 ?_
  obtain rfl := Option.some.inj hf
  exact V_vret hc hzz rfl rfl rfl rfl dX12_carriesStack_143
noncomputable def L12_marksCarried_3 (c1 : Int32) (a2 : Nat) (c3 : Int32) : Nat → Int32 → MS → Option (MS)
  | 0, _, _ => none
  | n + 1, i4, M =>
    (f12_its M c1 (2 : Int32)).bind fun v1 =>
    if v1 ≤ i4 then (
      some M
    ) else (
      (f12_of c1 ((3 : Int32) + ((3 : Int32) * i4))).bind fun v2 =>
      (ld M 30 (v2 + (2 : Int32))).bind fun v3 =>
      (ld M 30 v2).bind fun v4 =>
      (
        if (v3 - v3 / (2 : Int32) * (2 : Int32)) = 0 then (
          some (1 : Int32)
        ) else (
          some (0 : Int32)
        )
      ).bind fun v5 =>
      (f12_carried M a2 c3 v4 v5).bind fun v7 =>
      (sd M 30 v2 v7).bind fun M8 =>
      (ld M8 30 (v2 + (1 : Int32))).bind fun v9 =>
      (
        if v3 ≤ (1 : Int32) then (
          some (0 : Int32)
        ) else (
          some (1 : Int32)
        )
      ).bind fun v10 =>
      (f12_carried M8 a2 c3 v9 v10).bind fun v12 =>
      (sd M8 30 (v2 + (1 : Int32)) v12).bind fun M13 =>
      (ld M13 30 (v2 + (1 : Int32))).bind fun v14 =>
      (ld M13 30 v2).bind fun v15 =>
      (
        if v15 ≤ v14 then (
          some M13
        ) else (
          (ld M13 30 v2).bind fun v18 =>
          (sd M13 30 (v2 + (1 : Int32)) v18).bind fun M19 =>
          some M19
        )
      ).bind fun M16 =>
      L12_marksCarried_3 c1 a2 c3 n (i4 + (1 : Int32)) M16
    )
noncomputable def f12_marksCarried (M : MS) (p1 : Int32) (a2 : Nat) (p3 : Int32) : Option (MS) :=
  (L12_marksCarried_3 p1 a2 p3 FU (0 : Int32) M).bind fun M1 =>
  some M1
theorem hd12_marksCarried : yX12_marksCarried.cls = "FarEditorsModel" ∧ yX12_marksCarried.cls ≠ "java/lang/invoke/MethodHandle" ∧ yX12_marksCarried.cls ≠ "java/lang/invoke/VarHandle" ∧ (parseMethodDescriptor yX12_marksCarried.desc).map (fun d => d.parameters.length) = some 3 := by decide +kernel
set_option maxHeartbeats 4000000 in
set_option maxRecDepth 100000 in
theorem L12_marksCarried_3_ok {E : CxT} {l : Launch} {D : va_G} {h : Nat} {q : Nat → Nat} {y : CyT} {zM uM z u : Nat} (hc : Cx E "FarEditorsModel" cX12_marksCarried 7) (hz : Cy E l D y 1 26 zM uM) (c1 : Int32) (a2 : Nat) (c3 : Int32) (ha2 : mKi a2 = 1) : ∀ (n : Nat) (i4 : Int32) (M : MS) {Mo : MS}, L12_marksCarried_3 c1 a2 c3 n i4 M = some Mo → (hx0 : V E z u (mw h q y Mo) 143 [] []) → V E z u (mw h q y M) 3 [(0, .ref h), (1, .int c1), (2, .ref (q a2)), (3, .int c3), (4, .int i4)] [] := by
  have hT := hz.2.2.1
  intro n
  induction n with
  | zero => intro i4 M Mo hf; cases hf
  | succ n ih =>
    intro i4 M Mo hf hx0
    unfold L12_marksCarried_3 at hf
    refine V_iload hc dX12_marksCarried_3 4 rfl ?_
    refine V_aload_n hc dX12_marksCarried_5 rfl 0 rfl ?_
    refine V_iload_n hc dX12_marksCarried_6 rfl 1 rfl ?_
    refine V_iconst hc (v := (2 : Int32)) dX12_marksCarried_7 rfl ?_
    obtain ⟨v1, hv1, hf⟩ := mb hf
    refine R_callVi hc hz (As := [.int c1, .int (2 : Int32)]) (c12_its l D h q y _ _ _ _ hv1) w7_142 w7_144 wp5_7 w1_13 w7_145 hd12_its ⟨Nat.le_of_ble_eq_true rfl, Nat.le_of_ble_eq_true rfl⟩ rfl rfl (Nat.le_of_ble_eq_true rfl) dX12_marksCarried_8 ?_
    refine V_icmp_ge hc dX12_marksCarried_11 rfl (fun hq11 => ?_) (fun hq11 => ?_)
    · rw [if_pos hq11] at hf
      obtain rfl := Option.some.inj hf
      exact V_sub [] rfl hx0
    · rw [if_neg hq11] at hf
      refine V_iload_n hc dX12_marksCarried_14 rfl 1 rfl ?_
      refine V_iconst hc (v := (3 : Int32)) dX12_marksCarried_15 rfl ?_
      refine V_iconst hc (v := (3 : Int32)) dX12_marksCarried_16 rfl ?_
      refine V_iload hc dX12_marksCarried_17 4 rfl ?_
      refine V_imul hc dX12_marksCarried_19 ?_
      refine V_iadd hc dX12_marksCarried_20 ?_
      obtain ⟨v2, hv2, hf⟩ := mb hf
      refine R_callSi hc hz (As := [.int c1, .int ((3 : Int32) + ((3 : Int32) * i4))]) (c12_of l D h q y _ _ _ _ hv2) w7_123 w7_124 w1_13 w7_125 hd12_of ⟨Nat.le_of_ble_eq_true rfl, Nat.le_of_ble_eq_true rfl⟩ rfl rfl (Nat.le_of_ble_eq_true rfl) dX12_marksCarried_21 ?_
      refine V_istore hc dX12_marksCarried_24 (by decide) rfl ?_
      refine V_aload_n hc dX12_marksCarried_26 rfl 1 rfl ?_
      refine R_getr hc 30 rfl (by decide) w6_88 dX12_marksCarried_27 ?_
      refine V_iload hc dX12_marksCarried_30 0 rfl ?_
      refine V_iconst hc (v := (2 : Int32)) dX12_marksCarried_32 rfl ?_
      refine V_iadd hc dX12_marksCarried_33 ?_
      obtain ⟨v3, hv3, hf⟩ := mb hf
      refine R_iald hc hT rfl hv3 dX12_marksCarried_34 ?_
      refine V_istore hc dX12_marksCarried_35 (by decide) rfl ?_
      refine V_aload_n hc dX12_marksCarried_37 rfl 2 rfl ?_
      refine R_getr hc 30 rfl (by decide) w6_88 dX12_marksCarried_38 ?_
      refine V_iload hc dX12_marksCarried_41 1 rfl ?_
      refine V_aload_n hc dX12_marksCarried_43 rfl 4 rfl ?_
      refine V_iload_n hc dX12_marksCarried_44 rfl 5 rfl ?_
      refine V_aload_n hc dX12_marksCarried_45 rfl 2 rfl ?_
      refine R_getr hc 30 rfl (by decide) w6_88 dX12_marksCarried_46 ?_
      refine V_iload hc dX12_marksCarried_49 1 rfl ?_
      obtain ⟨v4, hv4, hf⟩ := mb hf
      refine R_iald hc hT rfl hv4 dX12_marksCarried_51 ?_
      refine V_iload hc dX12_marksCarried_52 0 rfl ?_
      refine V_iconst hc (v := (2 : Int32)) dX12_marksCarried_54 rfl ?_
      refine V_irem hc dX12_marksCarried_55 (by decide) ?_
      obtain ⟨v5, hv6, hf⟩ := mb hf
      have hJ56 : V E z u (mw h q y M) 64 [(0, .ref h), (1, .int c1), (2, .ref (q a2)), (3, .int c3), (4, .int i4), (5, .int v2), (6, .int v3)] [.int v5, .int v4, .int c3, .ref (q a2), .int v2, .ref (q 30)] := by
        obtain ⟨v7, hv7, hf⟩ := mb hf
        refine R_callSi hc hz (As := [.ref (q a2), .int c3, .int v4, .int v5]) (c12_carried l D h q y _ _ _ _ ha2 hv7) w7_206 w7_207 w1_13 w7_208 hd12_carried ⟨Nat.le_of_ble_eq_true rfl, Nat.le_of_ble_eq_true rfl⟩ rfl rfl (Nat.le_of_ble_eq_true rfl) dX12_marksCarried_64 ?_
        obtain ⟨M8, hM8, hf⟩ := mb hf
        refine R_iast hc hT rfl hM8 dX12_marksCarried_67 ?_
        refine V_aload_n hc dX12_marksCarried_68 rfl 0 rfl ?_
        refine R_getr hc 30 rfl (by decide) w6_88 dX12_marksCarried_69 ?_
        refine V_iload hc dX12_marksCarried_72 5 rfl ?_
        refine V_iconst hc (v := (1 : Int32)) dX12_marksCarried_74 rfl ?_
        refine V_iadd hc dX12_marksCarried_75 ?_
        refine V_aload_n hc dX12_marksCarried_76 rfl 2 rfl ?_
        refine V_iload_n hc dX12_marksCarried_77 rfl 3 rfl ?_
        refine V_aload_n hc dX12_marksCarried_78 rfl 0 rfl ?_
        refine R_getr hc 30 rfl (by decide) w6_88 dX12_marksCarried_79 ?_
        refine V_iload hc dX12_marksCarried_82 5 rfl ?_
        refine V_iconst hc (v := (1 : Int32)) dX12_marksCarried_84 rfl ?_
        refine V_iadd hc dX12_marksCarried_85 ?_
        obtain ⟨v9, hv9, hf⟩ := mb hf
        refine R_iald hc hT rfl hv9 dX12_marksCarried_86 ?_
        refine V_iload hc dX12_marksCarried_87 6 rfl ?_
        refine V_iconst hc (v := (1 : Int32)) dX12_marksCarried_89 rfl ?_
        obtain ⟨v10, hv11, hf⟩ := mb hf
        have hJ90 : V E z u (mw h q y M8) 98 [(0, .ref h), (1, .int c1), (2, .ref (q a2)), (3, .int c3), (4, .int i4), (5, .int v2)] [.int v10, .int v9, .int c3, .ref (q a2), .int (v2 + (1 : Int32)), .ref (q 30)] := by
          obtain ⟨v12, hv12, hf⟩ := mb hf
          refine R_callSi hc hz (As := [.ref (q a2), .int c3, .int v9, .int v10]) (c12_carried l D h q y _ _ _ _ ha2 hv12) w7_206 w7_207 w1_13 w7_208 hd12_carried ⟨Nat.le_of_ble_eq_true rfl, Nat.le_of_ble_eq_true rfl⟩ rfl rfl (Nat.le_of_ble_eq_true rfl) dX12_marksCarried_98 ?_
          obtain ⟨M13, hM13, hf⟩ := mb hf
          refine R_iast hc hT rfl hM13 dX12_marksCarried_101 ?_
          refine V_aload_n hc dX12_marksCarried_102 rfl 0 rfl ?_
          refine R_getr hc 30 rfl (by decide) w6_88 dX12_marksCarried_103 ?_
          refine V_iload hc dX12_marksCarried_106 5 rfl ?_
          refine V_iconst hc (v := (1 : Int32)) dX12_marksCarried_108 rfl ?_
          refine V_iadd hc dX12_marksCarried_109 ?_
          obtain ⟨v14, hv14, hf⟩ := mb hf
          refine R_iald hc hT rfl hv14 dX12_marksCarried_110 ?_
          refine V_aload_n hc dX12_marksCarried_111 rfl 0 rfl ?_
          refine R_getr hc 30 rfl (by decide) w6_88 dX12_marksCarried_112 ?_
          refine V_iload hc dX12_marksCarried_115 5 rfl ?_
          obtain ⟨v15, hv15, hf⟩ := mb hf
          refine R_iald hc hT rfl hv15 dX12_marksCarried_117 ?_
          obtain ⟨M16, hv17, hf⟩ := mb hf
          have hJ118 : V E z u (mw h q y M16) 137 [(0, .ref h), (1, .int c1), (2, .ref (q a2)), (3, .int c3), (4, .int i4)] [] := by
            refine V_iinc hc (j := 4) (v := (i4 + (1 : Int32))) dX12_marksCarried_137 rfl rfl (by decide) rfl ?_
            refine V_goto hc dX12_marksCarried_140 rfl ?_
            exact V_sub [1, 2, 3, 4, 0] rfl (ih _ _ hf hx0)
          refine V_icmp_ge hc dX12_marksCarried_118 rfl (fun hq118 => ?_) (fun hq118 => ?_)
          · rw [if_pos hq118] at hv17
            obtain rfl := Option.some.inj hv17
            exact V_sub [0, 1, 2, 3, 4] rfl hJ118
          · rw [if_neg hq118] at hv17
            refine V_aload_n hc dX12_marksCarried_121 rfl 0 rfl ?_
            refine R_getr hc 30 rfl (by decide) w6_88 dX12_marksCarried_122 ?_
            refine V_iload hc dX12_marksCarried_125 5 rfl ?_
            refine V_iconst hc (v := (1 : Int32)) dX12_marksCarried_127 rfl ?_
            refine V_iadd hc dX12_marksCarried_128 ?_
            refine V_aload_n hc dX12_marksCarried_129 rfl 0 rfl ?_
            refine R_getr hc 30 rfl (by decide) w6_88 dX12_marksCarried_130 ?_
            refine V_iload hc dX12_marksCarried_133 5 rfl ?_
            obtain ⟨v18, hv18, hv17⟩ := mb hv17
            refine R_iald hc hT rfl hv18 dX12_marksCarried_135 ?_
            obtain ⟨M19, hM19, hv17⟩ := mb hv17
            refine R_iast hc hT rfl hM19 dX12_marksCarried_136 ?_
            obtain rfl := Option.some.inj hv17
            exact V_sub [0, 1, 2, 3, 4] rfl hJ118
        refine V_icmp_le hc dX12_marksCarried_90 rfl (fun hq90 => ?_) (fun hq90 => ?_)
        · rw [if_pos hq90] at hv11
          refine V_iconst hc (v := (0 : Int32)) dX12_marksCarried_97 rfl ?_
          obtain rfl := Option.some.inj hv11
          exact V_sub [0, 1, 2, 3, 4, 5] rfl hJ90
        · rw [if_neg hq90] at hv11
          refine V_iconst hc (v := (1 : Int32)) dX12_marksCarried_93 rfl ?_
          refine V_goto hc dX12_marksCarried_94 rfl ?_
          obtain rfl := Option.some.inj hv11
          exact V_sub [0, 1, 2, 3, 4, 5] rfl hJ90
      refine V_if_ne hc dX12_marksCarried_56 rfl (fun hq56 => ?_) (fun hq56 => ?_)
      · rw [if_neg hq56] at hv6
        refine V_iconst hc (v := (0 : Int32)) dX12_marksCarried_63 rfl ?_
        obtain rfl := Option.some.inj hv6
        exact V_sub [2, 3, 4, 5, 6, 1, 0] rfl hJ56
      · rw [if_pos hq56] at hv6
        refine V_iconst hc (v := (1 : Int32)) dX12_marksCarried_59 rfl ?_
        refine V_goto hc dX12_marksCarried_60 rfl ?_
        obtain rfl := Option.some.inj hv6
        exact V_sub [2, 3, 4, 5, 6, 1, 0] rfl hJ56
set_option maxHeartbeats 4000000 in
set_option maxRecDepth 100000 in
theorem c12_marksCarried (l : Launch) (D : va_G) (h : Nat) (q : Nat → Nat) (y : CyT) (zM uM z u : Nat) {M M' : MS} {p1 : Int32} {a2 : Nat} {p3 : Int32} (ha2 : mKi a2 = 1) (hf : f12_marksCarried M p1 a2 p3 = some M') : CT l D y yX12_marksCarried cX12_marksCarried 7 none 1 26 zM uM [.ref h, .int p1, .ref (q a2), .int p3] z u (mw h q y M) z u (mw h q y M') none := by
  refine CT.of (by decide) (Nat.le_of_ble_eq_true rfl) (fun E hc hzz hnm => ?_)
  have hc : Cx E "FarEditorsModel" cX12_marksCarried 7 := hc
  have hz := hzz.1
  have hT := hz.2.2.1
  show V E z u (mw h q y M) 0 [(0, .ref h), (1, .int p1), (2, .ref (q a2)), (3, .int p3)] []
  unfold f12_marksCarried at hf
  refine V_iconst hc (v := (0 : Int32)) dX12_marksCarried_0 rfl ?_
  refine V_istore hc dX12_marksCarried_1 (by decide) rfl ?_
  obtain ⟨M1, hv2, hf⟩ := mb hf
  refine V_sub [1, 2, 3, 4, 0] rfl (L12_marksCarried_3_ok hc hz p1 a2 p3 ha2 FU _ _ hv2 ?_)
  obtain rfl := Option.some.inj hf
  exact V_vret hc hzz rfl rfl rfl rfl dX12_marksCarried_143
noncomputable def f12_textChanged (M : MS) (p1 : Int32) (a2 : Nat) (p3 : Int32) (p4 : Int32) : Option (MS) :=
  (f12_of p1 (21 : Int32)).bind fun v1 =>
  (f12_of p1 (24 : Int32)).bind fun v2 =>
  bn2 (f12_changes M 30 v2 a2 p3) fun v3 M4 =>
  (sd M4 30 v1 v3).bind fun M5 =>
  (f12_of p1 (1 : Int32)).bind fun v6 =>
  (f12_its M5 p1 (1 : Int32)).bind fun v7 =>
  (f12_carried M5 a2 p3 v7 p4).bind fun v8 =>
  (sd M5 30 v6 v8).bind fun M9 =>
  (f12_marksCarried M9 p1 a2 p3).bind fun M10 =>
  some M10
theorem hd12_textChanged : yX12_textChanged.cls = "FarEditorsModel" ∧ yX12_textChanged.cls ≠ "java/lang/invoke/MethodHandle" ∧ yX12_textChanged.cls ≠ "java/lang/invoke/VarHandle" ∧ (parseMethodDescriptor yX12_textChanged.desc).map (fun d => d.parameters.length) = some 4 := by decide +kernel
set_option maxHeartbeats 4000000 in
set_option maxRecDepth 100000 in
theorem c12_textChanged (l : Launch) (D : va_G) (h : Nat) (q : Nat → Nat) (y : CyT) (zM uM z u : Nat) {M M' : MS} {p1 : Int32} {a2 : Nat} {p3 : Int32} {p4 : Int32} (ha2 : mKi a2 = 1) (hf : f12_textChanged M p1 a2 p3 p4 = some M') : CT l D y yX12_textChanged cX12_textChanged 5 none 2 52 zM uM [.ref h, .int p1, .ref (q a2), .int p3, .int p4] z u (mw h q y M) z u (mw h q y M') none := by
  refine CT.of (by decide) (Nat.le_of_ble_eq_true rfl) (fun E hc hzz hnm => ?_)
  have hc : Cx E "FarEditorsModel" cX12_textChanged 5 := hc
  have hz := hzz.1
  have hT := hz.2.2.1
  show V E z u (mw h q y M) 0 [(0, .ref h), (1, .int p1), (2, .ref (q a2)), (3, .int p3), (4, .int p4)] []
  unfold f12_textChanged at hf
  refine V_aload_n hc dX12_textChanged_0 rfl 0 rfl ?_
  refine R_getr hc 30 rfl (by decide) w6_88 dX12_textChanged_1 ?_
  refine V_iload_n hc dX12_textChanged_4 rfl 1 rfl ?_
  refine V_bipush hc (v := (21 : Int32)) dX12_textChanged_5 rfl ?_
  obtain ⟨v1, hv1, hf⟩ := mb hf
  refine R_callSi hc hz (As := [.int p1, .int (21 : Int32)]) (c12_of l D h q y _ _ _ _ hv1) w7_123 w7_124 w1_13 w7_125 hd12_of ⟨Nat.le_of_ble_eq_true rfl, Nat.le_of_ble_eq_true rfl⟩ rfl rfl (Nat.le_of_ble_eq_true rfl) dX12_textChanged_7 ?_
  refine V_aload_n hc dX12_textChanged_10 rfl 0 rfl ?_
  refine V_aload_n hc dX12_textChanged_11 rfl 0 rfl ?_
  refine R_getr hc 30 rfl (by decide) w6_88 dX12_textChanged_12 ?_
  refine V_iload_n hc dX12_textChanged_15 rfl 1 rfl ?_
  refine V_bipush hc (v := (24 : Int32)) dX12_textChanged_16 rfl ?_
  obtain ⟨v2, hv2, hf⟩ := mb hf
  refine R_callSi hc hz (As := [.int p1, .int (24 : Int32)]) (c12_of l D h q y _ _ _ _ hv2) w7_123 w7_124 w1_13 w7_125 hd12_of ⟨Nat.le_of_ble_eq_true rfl, Nat.le_of_ble_eq_true rfl⟩ rfl rfl (Nat.le_of_ble_eq_true rfl) dX12_textChanged_18 ?_
  refine V_aload_n hc dX12_textChanged_21 rfl 2 rfl ?_
  refine V_iload_n hc dX12_textChanged_22 rfl 3 rfl ?_
  obtain ⟨v3, M4, hv3, hf⟩ := mb2 hf
  refine R_callVi hc hz (As := [.ref (q 30), .int v2, .ref (q a2), .int p3]) (c12_changes l D h q y _ _ _ _ rfl ha2 hv3) w7_202 w7_204 wp6_3 w1_13 w7_205 hd12_changes ⟨Nat.le_of_ble_eq_true rfl, Nat.le_of_ble_eq_true rfl⟩ rfl rfl (Nat.le_of_ble_eq_true rfl) dX12_textChanged_23 ?_
  obtain ⟨M5, hM5, hf⟩ := mb hf
  refine R_iast hc hT rfl hM5 dX12_textChanged_26 ?_
  refine V_aload_n hc dX12_textChanged_27 rfl 0 rfl ?_
  refine R_getr hc 30 rfl (by decide) w6_88 dX12_textChanged_28 ?_
  refine V_iload_n hc dX12_textChanged_31 rfl 1 rfl ?_
  refine V_iconst hc (v := (1 : Int32)) dX12_textChanged_32 rfl ?_
  obtain ⟨v6, hv6, hf⟩ := mb hf
  refine R_callSi hc hz (As := [.int p1, .int (1 : Int32)]) (c12_of l D h q y _ _ _ _ hv6) w7_123 w7_124 w1_13 w7_125 hd12_of ⟨Nat.le_of_ble_eq_true rfl, Nat.le_of_ble_eq_true rfl⟩ rfl rfl (Nat.le_of_ble_eq_true rfl) dX12_textChanged_33 ?_
  refine V_aload_n hc dX12_textChanged_36 rfl 2 rfl ?_
  refine V_iload_n hc dX12_textChanged_37 rfl 3 rfl ?_
  refine V_aload_n hc dX12_textChanged_38 rfl 0 rfl ?_
  refine V_iload_n hc dX12_textChanged_39 rfl 1 rfl ?_
  refine V_iconst hc (v := (1 : Int32)) dX12_textChanged_40 rfl ?_
  obtain ⟨v7, hv7, hf⟩ := mb hf
  refine R_callVi hc hz (As := [.int p1, .int (1 : Int32)]) (c12_its l D h q y _ _ _ _ hv7) w7_142 w7_144 wp5_7 w1_13 w7_145 hd12_its ⟨Nat.le_of_ble_eq_true rfl, Nat.le_of_ble_eq_true rfl⟩ rfl rfl (Nat.le_of_ble_eq_true rfl) dX12_textChanged_41 ?_
  refine V_iload hc dX12_textChanged_44 4 rfl ?_
  obtain ⟨v8, hv8, hf⟩ := mb hf
  refine R_callSi hc hz (As := [.ref (q a2), .int p3, .int v7, .int p4]) (c12_carried l D h q y _ _ _ _ ha2 hv8) w7_206 w7_207 w1_13 w7_208 hd12_carried ⟨Nat.le_of_ble_eq_true rfl, Nat.le_of_ble_eq_true rfl⟩ rfl rfl (Nat.le_of_ble_eq_true rfl) dX12_textChanged_46 ?_
  obtain ⟨M9, hM9, hf⟩ := mb hf
  refine R_iast hc hT rfl hM9 dX12_textChanged_49 ?_
  refine V_aload_n hc dX12_textChanged_50 rfl 0 rfl ?_
  refine V_iload_n hc dX12_textChanged_51 rfl 1 rfl ?_
  refine V_aload_n hc dX12_textChanged_52 rfl 2 rfl ?_
  refine V_iload_n hc dX12_textChanged_53 rfl 3 rfl ?_
  obtain ⟨M10, hM10, hf⟩ := mb hf
  refine R_callVv hc hz (As := [.int p1, .ref (q a2), .int p3]) (c12_marksCarried l D h q y _ _ _ _ ha2 hM10) w7_209 w7_211 wp6_4 w1_13 w7_212 hd12_marksCarried ⟨Nat.le_of_ble_eq_true rfl, Nat.le_of_ble_eq_true rfl⟩ rfl rfl (Nat.le_of_ble_eq_true rfl) dX12_textChanged_54 ?_
  obtain rfl := Option.some.inj hf
  exact V_vret hc hzz rfl rfl rfl rfl dX12_textChanged_57
noncomputable def f12_sends (M : MS) (p1 : Int32) : Option (MS) :=
  (f12_of p1 (706 : Int32)).bind fun v1 =>
  (f12_of p1 (264 : Int32)).bind fun v2 =>
  (f12_copiesOp M v1 v2).bind fun M3 =>
  (f12_of p1 (20 : Int32)).bind fun v4 =>
  (f12_its M3 p1 (0 : Int32)).bind fun v5 =>
  (sd M3 30 v4 v5).bind fun M6 =>
  (f12_of p1 (19 : Int32)).bind fun v7 =>
  (f12_its M6 p1 (16 : Int32)).bind fun v8 =>
  (sd M6 30 v7 v8).bind fun M9 =>
  (f12_of p1 (17 : Int32)).bind fun v10 =>
  (sd M9 30 v10 (1 : Int32)).bind fun M11 =>
  some M11
theorem hd12_sends : yX12_sends.cls = "FarEditorsModel" ∧ yX12_sends.cls ≠ "java/lang/invoke/MethodHandle" ∧ yX12_sends.cls ≠ "java/lang/invoke/VarHandle" ∧ (parseMethodDescriptor yX12_sends.desc).map (fun d => d.parameters.length) = some 1 := by decide +kernel
set_option maxHeartbeats 4000000 in
set_option maxRecDepth 100000 in
theorem c12_sends (l : Launch) (D : va_G) (h : Nat) (q : Nat → Nat) (y : CyT) (zM uM z u : Nat) {M M' : MS} {p1 : Int32} (hf : f12_sends M p1 = some M') : CT l D y yX12_sends cX12_sends 2 none 1 23 zM uM [.ref h, .int p1] z u (mw h q y M) z u (mw h q y M') none := by
  refine CT.of (by decide) (Nat.le_of_ble_eq_true rfl) (fun E hc hzz hnm => ?_)
  have hc : Cx E "FarEditorsModel" cX12_sends 2 := hc
  have hz := hzz.1
  have hT := hz.2.2.1
  show V E z u (mw h q y M) 0 [(0, .ref h), (1, .int p1)] []
  unfold f12_sends at hf
  refine V_aload_n hc dX12_sends_0 rfl 0 rfl ?_
  refine V_iload_n hc dX12_sends_1 rfl 1 rfl ?_
  refine V_sipush hc (v := (706 : Int32)) dX12_sends_2 rfl ?_
  obtain ⟨v1, hv1, hf⟩ := mb hf
  refine R_callSi hc hz (As := [.int p1, .int (706 : Int32)]) (c12_of l D h q y _ _ _ _ hv1) w7_123 w7_124 w1_13 w7_125 hd12_of ⟨Nat.le_of_ble_eq_true rfl, Nat.le_of_ble_eq_true rfl⟩ rfl rfl (Nat.le_of_ble_eq_true rfl) dX12_sends_5 ?_
  refine V_iload_n hc dX12_sends_8 rfl 1 rfl ?_
  refine V_sipush hc (v := (264 : Int32)) dX12_sends_9 rfl ?_
  obtain ⟨v2, hv2, hf⟩ := mb hf
  refine R_callSi hc hz (As := [.int p1, .int (264 : Int32)]) (c12_of l D h q y _ _ _ _ hv2) w7_123 w7_124 w1_13 w7_125 hd12_of ⟨Nat.le_of_ble_eq_true rfl, Nat.le_of_ble_eq_true rfl⟩ rfl rfl (Nat.le_of_ble_eq_true rfl) dX12_sends_12 ?_
  obtain ⟨M3, hM3, hf⟩ := mb hf
  refine R_callVv hc hz (As := [.int v1, .int v2]) (c12_copiesOp l D h q y _ _ _ _ hM3) w7_221 w7_223 wp6_7 w1_13 w7_224 hd12_copiesOp ⟨Nat.le_of_ble_eq_true rfl, Nat.le_of_ble_eq_true rfl⟩ rfl rfl (Nat.le_of_ble_eq_true rfl) dX12_sends_15 ?_
  refine V_aload_n hc dX12_sends_18 rfl 0 rfl ?_
  refine R_getr hc 30 rfl (by decide) w6_88 dX12_sends_19 ?_
  refine V_iload_n hc dX12_sends_22 rfl 1 rfl ?_
  refine V_bipush hc (v := (20 : Int32)) dX12_sends_23 rfl ?_
  obtain ⟨v4, hv4, hf⟩ := mb hf
  refine R_callSi hc hz (As := [.int p1, .int (20 : Int32)]) (c12_of l D h q y _ _ _ _ hv4) w7_123 w7_124 w1_13 w7_125 hd12_of ⟨Nat.le_of_ble_eq_true rfl, Nat.le_of_ble_eq_true rfl⟩ rfl rfl (Nat.le_of_ble_eq_true rfl) dX12_sends_25 ?_
  refine V_aload_n hc dX12_sends_28 rfl 0 rfl ?_
  refine V_iload_n hc dX12_sends_29 rfl 1 rfl ?_
  refine V_iconst hc (v := (0 : Int32)) dX12_sends_30 rfl ?_
  obtain ⟨v5, hv5, hf⟩ := mb hf
  refine R_callVi hc hz (As := [.int p1, .int (0 : Int32)]) (c12_its l D h q y _ _ _ _ hv5) w7_142 w7_144 wp5_7 w1_13 w7_145 hd12_its ⟨Nat.le_of_ble_eq_true rfl, Nat.le_of_ble_eq_true rfl⟩ rfl rfl (Nat.le_of_ble_eq_true rfl) dX12_sends_31 ?_
  obtain ⟨M6, hM6, hf⟩ := mb hf
  refine R_iast hc hT rfl hM6 dX12_sends_34 ?_
  refine V_aload_n hc dX12_sends_35 rfl 0 rfl ?_
  refine R_getr hc 30 rfl (by decide) w6_88 dX12_sends_36 ?_
  refine V_iload_n hc dX12_sends_39 rfl 1 rfl ?_
  refine V_bipush hc (v := (19 : Int32)) dX12_sends_40 rfl ?_
  obtain ⟨v7, hv7, hf⟩ := mb hf
  refine R_callSi hc hz (As := [.int p1, .int (19 : Int32)]) (c12_of l D h q y _ _ _ _ hv7) w7_123 w7_124 w1_13 w7_125 hd12_of ⟨Nat.le_of_ble_eq_true rfl, Nat.le_of_ble_eq_true rfl⟩ rfl rfl (Nat.le_of_ble_eq_true rfl) dX12_sends_42 ?_
  refine V_aload_n hc dX12_sends_45 rfl 0 rfl ?_
  refine V_iload_n hc dX12_sends_46 rfl 1 rfl ?_
  refine V_bipush hc (v := (16 : Int32)) dX12_sends_47 rfl ?_
  obtain ⟨v8, hv8, hf⟩ := mb hf
  refine R_callVi hc hz (As := [.int p1, .int (16 : Int32)]) (c12_its l D h q y _ _ _ _ hv8) w7_142 w7_144 wp5_7 w1_13 w7_145 hd12_its ⟨Nat.le_of_ble_eq_true rfl, Nat.le_of_ble_eq_true rfl⟩ rfl rfl (Nat.le_of_ble_eq_true rfl) dX12_sends_49 ?_
  obtain ⟨M9, hM9, hf⟩ := mb hf
  refine R_iast hc hT rfl hM9 dX12_sends_52 ?_
  refine V_aload_n hc dX12_sends_53 rfl 0 rfl ?_
  refine R_getr hc 30 rfl (by decide) w6_88 dX12_sends_54 ?_
  refine V_iload_n hc dX12_sends_57 rfl 1 rfl ?_
  refine V_bipush hc (v := (17 : Int32)) dX12_sends_58 rfl ?_
  obtain ⟨v10, hv10, hf⟩ := mb hf
  refine R_callSi hc hz (As := [.int p1, .int (17 : Int32)]) (c12_of l D h q y _ _ _ _ hv10) w7_123 w7_124 w1_13 w7_125 hd12_of ⟨Nat.le_of_ble_eq_true rfl, Nat.le_of_ble_eq_true rfl⟩ rfl rfl (Nat.le_of_ble_eq_true rfl) dX12_sends_60 ?_
  refine V_iconst hc (v := (1 : Int32)) dX12_sends_63 rfl ?_
  obtain ⟨M11, hM11, hf⟩ := mb hf
  refine R_iast hc hT rfl hM11 dX12_sends_64 ?_
  obtain rfl := Option.some.inj hf
  exact V_vret hc hzz rfl rfl rfl rfl dX12_sends_65
noncomputable def f12_canEdit (M : MS) : Option (Int32) :=
  (f12_isIdle M 20 (gF M 25)).bind fun v1 =>
  (
    if v1 = 0 then (
      (ld M 30 (2 : Int32)).bind fun v4 =>
      if (100 : Int32) ≤ v4 then (
        some (0 : Int32)
      ) else (
        (ld M 30 (3 : Int32)).bind fun v5 =>
        (f12_putsOf M 20 (gF M 25)).bind fun v6 =>
        if (200 : Int32) < (v5 + v6) then (
          some (0 : Int32)
        ) else (
          some (1 : Int32)
        )
      )
    ) else (
      some (0 : Int32)
    )
  ).bind fun v2 =>
  (bz v2).bind fun v7 =>
  some v7
theorem hd12_canEdit : yX12_canEdit.cls = "FarEditorsModel" ∧ yX12_canEdit.cls ≠ "java/lang/invoke/MethodHandle" ∧ yX12_canEdit.cls ≠ "java/lang/invoke/VarHandle" ∧ (parseMethodDescriptor yX12_canEdit.desc).map (fun d => d.parameters.length) = some 0 := by decide +kernel
set_option maxHeartbeats 4000000 in
set_option maxRecDepth 100000 in
theorem c12_canEdit (l : Launch) (D : va_G) (h : Nat) (q : Nat → Nat) (y : CyT) (zM uM z u : Nat) {M : MS} {r : Int32} (hf : f12_canEdit M = some r) : CT l D y yX12_canEdit cX12_canEdit 1 (some .boolean) 1 23 zM uM [.ref h] z u (mw h q y M) z u (mw h q y M) (some (.int r)) := by
  refine CT.of (by decide) (Nat.le_of_ble_eq_true rfl) (fun E hc hzz hnm => ?_)
  have hc : Cx E "FarEditorsModel" cX12_canEdit 1 := hc
  have hz := hzz.1
  have hT := hz.2.2.1
  show V E z u (mw h q y M) 0 [(0, .ref h)] []
  unfold f12_canEdit at hf
  refine V_aload_n hc dX12_canEdit_0 rfl 0 rfl ?_
  refine R_getr hc 20 rfl (by decide) w6_78 dX12_canEdit_1 ?_
  refine V_aload_n hc dX12_canEdit_4 rfl 0 rfl ?_
  refine R_geti hc 25 rfl (by decide) w6_83 dX12_canEdit_5 ?_
  obtain ⟨v1, hv1, hf⟩ := mb hf
  refine R_callSi hc hz (As := [.ref (q 20), .int (gF M 25)]) (c12_isIdle l D h q y _ _ _ _ rfl hv1) w7_158 w7_159 w1_13 w7_160 hd12_isIdle ⟨Nat.le_of_ble_eq_true rfl, Nat.le_of_ble_eq_true rfl⟩ rfl rfl (Nat.le_of_ble_eq_true rfl) dX12_canEdit_8 ?_
  obtain ⟨v2, hv3, hf⟩ := mb hf
  have hJ11 : V E z u (mw h q y M) 54 [] [.int v2] := by
    obtain ⟨v7, hv7, hf⟩ := mb hf
    obtain ⟨hbv7, rfl⟩ := bz_some hv7
    obtain rfl := Option.some.inj hf
    exact V_iret hc hzz (bz_nar hbv7) rfl rfl rfl rfl dX12_canEdit_54
  refine V_if_ne hc dX12_canEdit_11 rfl (fun hq11 => ?_) (fun hq11 => ?_)
  · rw [if_neg hq11] at hv3
    refine V_iconst hc (v := (0 : Int32)) dX12_canEdit_53 rfl ?_
    obtain rfl := Option.some.inj hv3
    exact V_sub [] rfl hJ11
  · rw [if_pos hq11] at hv3
    refine V_aload_n hc dX12_canEdit_14 rfl 0 rfl ?_
    refine R_getr hc 30 rfl (by decide) w6_88 dX12_canEdit_15 ?_
    refine V_iconst hc (v := (2 : Int32)) dX12_canEdit_18 rfl ?_
    obtain ⟨v4, hv4, hv3⟩ := mb hv3
    refine R_iald hc hT rfl hv4 dX12_canEdit_19 ?_
    refine V_bipush hc (v := (100 : Int32)) dX12_canEdit_20 rfl ?_
    refine V_icmp_ge hc dX12_canEdit_22 rfl (fun hq22 => ?_) (fun hq22 => ?_)
    · rw [if_pos hq22] at hv3
      refine V_iconst hc (v := (0 : Int32)) dX12_canEdit_53 rfl ?_
      obtain rfl := Option.some.inj hv3
      exact V_sub [] rfl hJ11
    · rw [if_neg hq22] at hv3
      refine V_aload_n hc dX12_canEdit_25 rfl 0 rfl ?_
      refine R_getr hc 30 rfl (by decide) w6_88 dX12_canEdit_26 ?_
      refine V_iconst hc (v := (3 : Int32)) dX12_canEdit_29 rfl ?_
      obtain ⟨v5, hv5, hv3⟩ := mb hv3
      refine R_iald hc hT rfl hv5 dX12_canEdit_30 ?_
      refine V_aload_n hc dX12_canEdit_31 rfl 0 rfl ?_
      refine R_getr hc 20 rfl (by decide) w6_78 dX12_canEdit_32 ?_
      refine V_aload_n hc dX12_canEdit_35 rfl 0 rfl ?_
      refine R_geti hc 25 rfl (by decide) w6_83 dX12_canEdit_36 ?_
      obtain ⟨v6, hv6, hv3⟩ := mb hv3
      refine R_callSi hc hz (As := [.ref (q 20), .int (gF M 25)]) (c12_putsOf l D h q y _ _ _ _ rfl hv6) w7_161 w7_162 w1_13 w7_163 hd12_putsOf ⟨Nat.le_of_ble_eq_true rfl, Nat.le_of_ble_eq_true rfl⟩ rfl rfl (Nat.le_of_ble_eq_true rfl) dX12_canEdit_39 ?_
      refine V_iadd hc dX12_canEdit_42 ?_
      refine V_sipush hc (v := (200 : Int32)) dX12_canEdit_43 rfl ?_
      refine V_icmp_gt hc dX12_canEdit_46 rfl (fun hq46 => ?_) (fun hq46 => ?_)
      · rw [if_pos hq46] at hv3
        refine V_iconst hc (v := (0 : Int32)) dX12_canEdit_53 rfl ?_
        obtain rfl := Option.some.inj hv3
        exact V_sub [] rfl hJ11
      · rw [if_neg hq46] at hv3
        refine V_iconst hc (v := (1 : Int32)) dX12_canEdit_49 rfl ?_
        refine V_goto hc dX12_canEdit_50 rfl ?_
        obtain rfl := Option.some.inj hv3
        exact V_sub [] rfl hJ11
noncomputable def f12_keepsA (M : MS) (p1 : Int32) : Option (MS) :=
  bn2 (f12_gathers M 20 (gF M 25) 30 (p1 + (2 : Int32))) fun v1 M2 =>
  (sd M2 30 p1 v1).bind fun M3 =>
  (f12_oldOf M3 20 (gF M3 25)).bind fun v4 =>
  (sd M3 30 (p1 + (1 : Int32)) v4).bind fun M5 =>
  some M5
theorem hd12_keepsA : yX12_keepsA.cls = "FarEditorsModel" ∧ yX12_keepsA.cls ≠ "java/lang/invoke/MethodHandle" ∧ yX12_keepsA.cls ≠ "java/lang/invoke/VarHandle" ∧ (parseMethodDescriptor yX12_keepsA.desc).map (fun d => d.parameters.length) = some 1 := by decide +kernel
set_option maxHeartbeats 4000000 in
set_option maxRecDepth 100000 in
theorem c12_keepsA (l : Launch) (D : va_G) (h : Nat) (q : Nat → Nat) (y : CyT) (zM uM z u : Nat) {M M' : MS} {p1 : Int32} (hf : f12_keepsA M p1 = some M') : CT l D y yX12_keepsA cX12_keepsA 2 none 1 26 zM uM [.ref h, .int p1] z u (mw h q y M) z u (mw h q y M') none := by
  refine CT.of (by decide) (Nat.le_of_ble_eq_true rfl) (fun E hc hzz hnm => ?_)
  have hc : Cx E "FarEditorsModel" cX12_keepsA 2 := hc
  have hz := hzz.1
  have hT := hz.2.2.1
  show V E z u (mw h q y M) 0 [(0, .ref h), (1, .int p1)] []
  unfold f12_keepsA at hf
  refine V_aload_n hc dX12_keepsA_0 rfl 0 rfl ?_
  refine R_getr hc 30 rfl (by decide) w6_88 dX12_keepsA_1 ?_
  refine V_iload_n hc dX12_keepsA_4 rfl 1 rfl ?_
  refine V_aload_n hc dX12_keepsA_5 rfl 0 rfl ?_
  refine R_getr hc 20 rfl (by decide) w6_78 dX12_keepsA_6 ?_
  refine V_aload_n hc dX12_keepsA_9 rfl 0 rfl ?_
  refine R_geti hc 25 rfl (by decide) w6_83 dX12_keepsA_10 ?_
  refine V_aload_n hc dX12_keepsA_13 rfl 0 rfl ?_
  refine R_getr hc 30 rfl (by decide) w6_88 dX12_keepsA_14 ?_
  refine V_iload_n hc dX12_keepsA_17 rfl 1 rfl ?_
  refine V_iconst hc (v := (2 : Int32)) dX12_keepsA_18 rfl ?_
  refine V_iadd hc dX12_keepsA_19 ?_
  obtain ⟨v1, M2, hv1, hf⟩ := mb2 hf
  refine R_callSi hc hz (As := [.ref (q 20), .int (gF M 25), .ref (q 30), .int (p1 + (2 : Int32))]) (c12_gathers l D h q y _ _ _ _ rfl rfl hv1) w7_192 w7_193 w1_13 w7_194 hd12_gathers ⟨Nat.le_of_ble_eq_true rfl, Nat.le_of_ble_eq_true rfl⟩ rfl rfl (Nat.le_of_ble_eq_true rfl) dX12_keepsA_20 ?_
  obtain ⟨M3, hM3, hf⟩ := mb hf
  refine R_iast hc hT rfl hM3 dX12_keepsA_23 ?_
  refine V_aload_n hc dX12_keepsA_24 rfl 0 rfl ?_
  refine R_getr hc 30 rfl (by decide) w6_88 dX12_keepsA_25 ?_
  refine V_iload_n hc dX12_keepsA_28 rfl 1 rfl ?_
  refine V_iconst hc (v := (1 : Int32)) dX12_keepsA_29 rfl ?_
  refine V_iadd hc dX12_keepsA_30 ?_
  refine V_aload_n hc dX12_keepsA_31 rfl 0 rfl ?_
  refine R_getr hc 20 rfl (by decide) w6_78 dX12_keepsA_32 ?_
  refine V_aload_n hc dX12_keepsA_35 rfl 0 rfl ?_
  refine R_geti hc 25 rfl (by decide) w6_83 dX12_keepsA_36 ?_
  obtain ⟨v4, hv4, hf⟩ := mb hf
  refine R_callSi hc hz (As := [.ref (q 20), .int (gF M3 25)]) (c12_oldOf l D h q y _ _ _ _ rfl hv4) w7_195 w7_196 w1_13 w7_197 hd12_oldOf ⟨Nat.le_of_ble_eq_true rfl, Nat.le_of_ble_eq_true rfl⟩ rfl rfl (Nat.le_of_ble_eq_true rfl) dX12_keepsA_39 ?_
  obtain ⟨M5, hM5, hf⟩ := mb hf
  refine R_iast hc hT rfl hM5 dX12_keepsA_42 ?_
  obtain rfl := Option.some.inj hf
  exact V_vret hc hzz rfl rfl rfl rfl dX12_keepsA_43
noncomputable def L12_edits_153 (c1 : Int32) : Nat → Int32 → MS → Option (MS)
  | 0, _, _ => none
  | n + 1, i3, M =>
    if (gF M 25) ≤ i3 then (
      some M
    ) else (
      (ld M 20 i3).bind fun v1 =>
      (sd M 21 i3 v1).bind fun M2 =>
      L12_edits_153 c1 n (i3 + (1 : Int32)) M2
    )
noncomputable def f12_edits (M : MS) (p1 : Int32) (p2 : Int32) : Option (MS) :=
  (ld M 30 (2 : Int32)).bind fun v1 =>
  (sd M 30 (2 : Int32) (v1 + (1 : Int32))).bind fun M2 =>
  (ld M2 30 (3 : Int32)).bind fun v3 =>
  (f12_putsOf M2 20 (gF M2 25)).bind fun v4 =>
  (sd M2 30 (3 : Int32) (v3 + v4)).bind fun M5 =>
  (f12_of p1 (24 : Int32)).bind fun v6 =>
  (f12_inverts M5 30 v6).bind fun M7 =>
  (
    if p2 = (1 : Int32) then (
      some (2054 : Int32)
    ) else (
      some (1590 : Int32)
    )
  ).bind fun v8 =>
  (
    if p2 = (1 : Int32) then (
      some (23 : Int32)
    ) else (
      some (22 : Int32)
    )
  ).bind fun v10 =>
  (f12_pushes M7 p1 v8 v10).bind fun M12 =>
  (
    if p2 = 0 then (
      (f12_of p1 (23 : Int32)).bind fun v15 =>
      (sd M12 30 v15 (0 : Int32)).bind fun M16 =>
      some M16
    ) else (
      some M12
    )
  ).bind fun M13 =>
  (f12_textChanged M13 p1 20 (gF M13 25) (1 : Int32)).bind fun M17 =>
  (f12_its M17 p1 (17 : Int32)).bind fun v18 =>
  if v18 = 0 then (
    (f12_of p1 (264 : Int32)).bind fun v32 =>
    (f12_keepsA M17 v32).bind fun M33 =>
    (f12_sends M33 p1).bind fun M34 =>
    some M34
  ) else (
    (f12_its M17 p1 (18 : Int32)).bind fun v19 =>
    (
      if v19 = (1 : Int32) then (
        (L12_edits_153 p1 FU (0 : Int32) (sF M17 26 (gF M17 25))).bind fun M22 =>
        (f12_of p1 (1148 : Int32)).bind fun v24 =>
        (f12_keptToA M22 v24).bind fun M25 =>
        (f12_joins M25).bind fun M26 =>
        (f12_takesCAsA M26).bind fun M27 =>
        some M27
      ) else (
        some M17
      )
    ).bind fun M20 =>
    (f12_of p1 (1148 : Int32)).bind fun v28 =>
    (f12_keepsA M20 v28).bind fun M29 =>
    (f12_of p1 (18 : Int32)).bind fun v30 =>
    (sd M29 30 v30 (1 : Int32)).bind fun M31 =>
    some M31
  )
theorem hd12_edits : yX12_edits.cls = "FarEditorsModel" ∧ yX12_edits.cls ≠ "java/lang/invoke/MethodHandle" ∧ yX12_edits.cls ≠ "java/lang/invoke/VarHandle" ∧ (parseMethodDescriptor yX12_edits.desc).map (fun d => d.parameters.length) = some 2 := by decide +kernel
set_option maxHeartbeats 4000000 in
set_option maxRecDepth 100000 in
theorem L12_edits_153_ok {E : CxT} {l : Launch} {D : va_G} {h : Nat} {q : Nat → Nat} {y : CyT} {zM uM z u : Nat} (hc : Cx E "FarEditorsModel" cX12_edits 4) (hz : Cy E l D y 3 76 zM uM) (c1 : Int32) : ∀ (n : Nat) (i3 : Int32) (M : MS) {Mo : MS}, L12_edits_153 c1 n i3 M = some Mo → (hx0 : V E z u (mw h q y Mo) 179 [(0, .ref h), (1, .int c1)] []) → V E z u (mw h q y M) 153 [(0, .ref h), (1, .int c1), (3, .int i3)] [] := by
  have hT := hz.2.2.1
  intro n
  induction n with
  | zero => intro i3 M Mo hf; cases hf
  | succ n ih =>
    intro i3 M Mo hf hx0
    unfold L12_edits_153 at hf
    refine V_iload_n hc dX12_edits_153 rfl 2 rfl ?_
    refine V_aload_n hc dX12_edits_154 rfl 0 rfl ?_
    refine R_geti hc 25 rfl (by decide) w6_83 dX12_edits_155 ?_
    refine V_icmp_ge hc dX12_edits_158 rfl (fun hq158 => ?_) (fun hq158 => ?_)
    · rw [if_pos hq158] at hf
      obtain rfl := Option.some.inj hf
      exact V_sub [0, 1] rfl hx0
    · rw [if_neg hq158] at hf
      refine V_aload_n hc dX12_edits_161 rfl 0 rfl ?_
      refine R_getr hc 21 rfl (by decide) w6_79 dX12_edits_162 ?_
      refine V_iload_n hc dX12_edits_165 rfl 2 rfl ?_
      refine V_aload_n hc dX12_edits_166 rfl 0 rfl ?_
      refine R_getr hc 20 rfl (by decide) w6_78 dX12_edits_167 ?_
      refine V_iload_n hc dX12_edits_170 rfl 2 rfl ?_
      obtain ⟨v1, hv1, hf⟩ := mb hf
      refine R_iald hc hT rfl hv1 dX12_edits_171 ?_
      obtain ⟨M2, hM2, hf⟩ := mb hf
      refine R_iast hc hT rfl hM2 dX12_edits_172 ?_
      refine V_iinc hc (j := 2) (v := (i3 + (1 : Int32))) dX12_edits_173 rfl rfl (by decide) rfl ?_
      refine V_goto hc dX12_edits_176 rfl ?_
      exact V_sub [1, 2, 0] rfl (ih _ _ hf hx0)
set_option maxHeartbeats 4000000 in
set_option maxRecDepth 100000 in
theorem c12_edits (l : Launch) (D : va_G) (h : Nat) (q : Nat → Nat) (y : CyT) (zM uM z u : Nat) {M M' : MS} {p1 : Int32} {p2 : Int32} (hf : f12_edits M p1 p2 = some M') : CT l D y yX12_edits cX12_edits 4 none 3 76 zM uM [.ref h, .int p1, .int p2] z u (mw h q y M) z u (mw h q y M') none := by
  refine CT.of (by decide) (Nat.le_of_ble_eq_true rfl) (fun E hc hzz hnm => ?_)
  have hc : Cx E "FarEditorsModel" cX12_edits 4 := hc
  have hz := hzz.1
  have hT := hz.2.2.1
  show V E z u (mw h q y M) 0 [(0, .ref h), (1, .int p1), (2, .int p2)] []
  unfold f12_edits at hf
  refine V_aload_n hc dX12_edits_0 rfl 0 rfl ?_
  refine R_getr hc 30 rfl (by decide) w6_88 dX12_edits_1 ?_
  refine V_iconst hc (v := (2 : Int32)) dX12_edits_4 rfl ?_
  refine V_dup2 hc dX12_edits_5 rfl rfl ?_
  obtain ⟨v1, hv1, hf⟩ := mb hf
  refine R_iald hc hT rfl hv1 dX12_edits_6 ?_
  refine V_iconst hc (v := (1 : Int32)) dX12_edits_7 rfl ?_
  refine V_iadd hc dX12_edits_8 ?_
  obtain ⟨M2, hM2, hf⟩ := mb hf
  refine R_iast hc hT rfl hM2 dX12_edits_9 ?_
  refine V_aload_n hc dX12_edits_10 rfl 0 rfl ?_
  refine R_getr hc 30 rfl (by decide) w6_88 dX12_edits_11 ?_
  refine V_iconst hc (v := (3 : Int32)) dX12_edits_14 rfl ?_
  refine V_dup2 hc dX12_edits_15 rfl rfl ?_
  obtain ⟨v3, hv3, hf⟩ := mb hf
  refine R_iald hc hT rfl hv3 dX12_edits_16 ?_
  refine V_aload_n hc dX12_edits_17 rfl 0 rfl ?_
  refine R_getr hc 20 rfl (by decide) w6_78 dX12_edits_18 ?_
  refine V_aload_n hc dX12_edits_21 rfl 0 rfl ?_
  refine R_geti hc 25 rfl (by decide) w6_83 dX12_edits_22 ?_
  obtain ⟨v4, hv4, hf⟩ := mb hf
  refine R_callSi hc hz (As := [.ref (q 20), .int (gF M2 25)]) (c12_putsOf l D h q y _ _ _ _ rfl hv4) w7_161 w7_162 w1_13 w7_163 hd12_putsOf ⟨Nat.le_of_ble_eq_true rfl, Nat.le_of_ble_eq_true rfl⟩ rfl rfl (Nat.le_of_ble_eq_true rfl) dX12_edits_25 ?_
  refine V_iadd hc dX12_edits_28 ?_
  obtain ⟨M5, hM5, hf⟩ := mb hf
  refine R_iast hc hT rfl hM5 dX12_edits_29 ?_
  refine V_aload_n hc dX12_edits_30 rfl 0 rfl ?_
  refine V_aload_n hc dX12_edits_31 rfl 0 rfl ?_
  refine R_getr hc 30 rfl (by decide) w6_88 dX12_edits_32 ?_
  refine V_iload_n hc dX12_edits_35 rfl 1 rfl ?_
  refine V_bipush hc (v := (24 : Int32)) dX12_edits_36 rfl ?_
  obtain ⟨v6, hv6, hf⟩ := mb hf
  refine R_callSi hc hz (As := [.int p1, .int (24 : Int32)]) (c12_of l D h q y _ _ _ _ hv6) w7_123 w7_124 w1_13 w7_125 hd12_of ⟨Nat.le_of_ble_eq_true rfl, Nat.le_of_ble_eq_true rfl⟩ rfl rfl (Nat.le_of_ble_eq_true rfl) dX12_edits_38 ?_
  obtain ⟨M7, hM7, hf⟩ := mb hf
  refine R_callVv hc hz (As := [.ref (q 30), .int v6]) (c12_inverts l D h q y _ _ _ _ rfl hM7) w7_168 w7_170 wp5_12 w1_13 w7_171 hd12_inverts ⟨Nat.le_of_ble_eq_true rfl, Nat.le_of_ble_eq_true rfl⟩ rfl rfl (Nat.le_of_ble_eq_true rfl) dX12_edits_41 ?_
  refine V_aload_n hc dX12_edits_44 rfl 0 rfl ?_
  refine V_iload_n hc dX12_edits_45 rfl 1 rfl ?_
  refine V_iload_n hc dX12_edits_46 rfl 2 rfl ?_
  refine V_iconst hc (v := (1 : Int32)) dX12_edits_47 rfl ?_
  obtain ⟨v8, hv9, hf⟩ := mb hf
  have hJ48 : V E z u (mw h q y M7) 60 [(0, .ref h), (1, .int p1), (2, .int p2)] [.int v8, .int p1, .ref h] := by
    refine V_iload_n hc dX12_edits_60 rfl 2 rfl ?_
    refine V_iconst hc (v := (1 : Int32)) dX12_edits_61 rfl ?_
    obtain ⟨v10, hv11, hf⟩ := mb hf
    have hJ62 : V E z u (mw h q y M7) 72 [(0, .ref h), (1, .int p1), (2, .int p2)] [.int v10, .int v8, .int p1, .ref h] := by
      obtain ⟨M12, hM12, hf⟩ := mb hf
      refine R_callVv hc hz (As := [.int p1, .int v8, .int v10]) (c12_pushes l D h q y _ _ _ _ hM12) w7_176 w7_178 wp5_14 w1_13 w7_179 hd12_pushes ⟨Nat.le_of_ble_eq_true rfl, Nat.le_of_ble_eq_true rfl⟩ rfl rfl (Nat.le_of_ble_eq_true rfl) dX12_edits_72 ?_
      refine V_iload_n hc dX12_edits_75 rfl 2 rfl ?_
      obtain ⟨M13, hv14, hf⟩ := mb hf
      have hJ76 : V E z u (mw h q y M13) 91 [(0, .ref h), (1, .int p1)] [] := by
        refine V_aload_n hc dX12_edits_91 rfl 0 rfl ?_
        refine V_iload_n hc dX12_edits_92 rfl 1 rfl ?_
        refine V_aload_n hc dX12_edits_93 rfl 0 rfl ?_
        refine R_getr hc 20 rfl (by decide) w6_78 dX12_edits_94 ?_
        refine V_aload_n hc dX12_edits_97 rfl 0 rfl ?_
        refine R_geti hc 25 rfl (by decide) w6_83 dX12_edits_98 ?_
        refine V_iconst hc (v := (1 : Int32)) dX12_edits_101 rfl ?_
        obtain ⟨M17, hM17, hf⟩ := mb hf
        refine R_callVv hc hz (As := [.int p1, .ref (q 20), .int (gF M13 25), .int (1 : Int32)]) (c12_textChanged l D h q y _ _ _ _ rfl hM17) w7_198 w7_200 wp6_2 w1_13 w7_201 hd12_textChanged ⟨Nat.le_of_ble_eq_true rfl, Nat.le_of_ble_eq_true rfl⟩ rfl rfl (Nat.le_of_ble_eq_true rfl) dX12_edits_102 ?_
        refine V_aload_n hc dX12_edits_105 rfl 0 rfl ?_
        refine V_iload_n hc dX12_edits_106 rfl 1 rfl ?_
        refine V_bipush hc (v := (17 : Int32)) dX12_edits_107 rfl ?_
        obtain ⟨v18, hv18, hf⟩ := mb hf
        refine R_callVi hc hz (As := [.int p1, .int (17 : Int32)]) (c12_its l D h q y _ _ _ _ hv18) w7_142 w7_144 wp5_7 w1_13 w7_145 hd12_its ⟨Nat.le_of_ble_eq_true rfl, Nat.le_of_ble_eq_true rfl⟩ rfl rfl (Nat.le_of_ble_eq_true rfl) dX12_edits_109 ?_
        refine V_if_ne hc dX12_edits_112 rfl (fun hq112 => ?_) (fun hq112 => ?_)
        · rw [if_neg hq112] at hf
          refine V_aload_n hc dX12_edits_132 rfl 0 rfl ?_
          refine V_iload_n hc dX12_edits_133 rfl 1 rfl ?_
          refine V_bipush hc (v := (18 : Int32)) dX12_edits_134 rfl ?_
          obtain ⟨v19, hv19, hf⟩ := mb hf
          refine R_callVi hc hz (As := [.int p1, .int (18 : Int32)]) (c12_its l D h q y _ _ _ _ hv19) w7_142 w7_144 wp5_7 w1_13 w7_145 hd12_its ⟨Nat.le_of_ble_eq_true rfl, Nat.le_of_ble_eq_true rfl⟩ rfl rfl (Nat.le_of_ble_eq_true rfl) dX12_edits_136 ?_
          refine V_iconst hc (v := (1 : Int32)) dX12_edits_139 rfl ?_
          obtain ⟨M20, hv21, hf⟩ := mb hf
          have hJ140 : V E z u (mw h q y M20) 198 [(0, .ref h), (1, .int p1)] [] := by
            refine V_aload_n hc dX12_edits_198 rfl 0 rfl ?_
            refine V_iload_n hc dX12_edits_199 rfl 1 rfl ?_
            refine V_sipush hc (v := (1148 : Int32)) dX12_edits_200 rfl ?_
            obtain ⟨v28, hv28, hf⟩ := mb hf
            refine R_callSi hc hz (As := [.int p1, .int (1148 : Int32)]) (c12_of l D h q y _ _ _ _ hv28) w7_123 w7_124 w1_13 w7_125 hd12_of ⟨Nat.le_of_ble_eq_true rfl, Nat.le_of_ble_eq_true rfl⟩ rfl rfl (Nat.le_of_ble_eq_true rfl) dX12_edits_203 ?_
            obtain ⟨M29, hM29, hf⟩ := mb hf
            refine R_callVv hc hz (As := [.int v28]) (c12_keepsA l D h q y _ _ _ _ hM29) w7_213 w7_215 wp6_5 w1_13 w7_216 hd12_keepsA ⟨Nat.le_of_ble_eq_true rfl, Nat.le_of_ble_eq_true rfl⟩ rfl rfl (Nat.le_of_ble_eq_true rfl) dX12_edits_206 ?_
            refine V_aload_n hc dX12_edits_209 rfl 0 rfl ?_
            refine R_getr hc 30 rfl (by decide) w6_88 dX12_edits_210 ?_
            refine V_iload_n hc dX12_edits_213 rfl 1 rfl ?_
            refine V_bipush hc (v := (18 : Int32)) dX12_edits_214 rfl ?_
            obtain ⟨v30, hv30, hf⟩ := mb hf
            refine R_callSi hc hz (As := [.int p1, .int (18 : Int32)]) (c12_of l D h q y _ _ _ _ hv30) w7_123 w7_124 w1_13 w7_125 hd12_of ⟨Nat.le_of_ble_eq_true rfl, Nat.le_of_ble_eq_true rfl⟩ rfl rfl (Nat.le_of_ble_eq_true rfl) dX12_edits_216 ?_
            refine V_iconst hc (v := (1 : Int32)) dX12_edits_219 rfl ?_
            obtain ⟨M31, hM31, hf⟩ := mb hf
            refine R_iast hc hT rfl hM31 dX12_edits_220 ?_
            obtain rfl := Option.some.inj hf
            exact V_vret hc hzz rfl rfl rfl rfl dX12_edits_221
          refine V_icmp_ne hc dX12_edits_140 rfl (fun hq140 => ?_) (fun hq140 => ?_)
          · rw [if_neg hq140] at hv21
            obtain rfl := Option.some.inj hv21
            exact V_sub [0, 1] rfl hJ140
          · rw [if_pos hq140] at hv21
            refine V_aload_n hc dX12_edits_143 rfl 0 rfl ?_
            refine V_aload_n hc dX12_edits_144 rfl 0 rfl ?_
            refine R_geti hc 25 rfl (by decide) w6_83 dX12_edits_145 ?_
            refine R_puti hc 26 rfl (by decide) w6_84 rfl rfl rfl dX12_edits_148 ?_
            refine V_iconst hc (v := (0 : Int32)) dX12_edits_151 rfl ?_
            refine V_istore_n hc dX12_edits_152 rfl (by decide) rfl ?_
            obtain ⟨M22, hv23, hv21⟩ := mb hv21
            refine V_sub [1, 2, 0] rfl (L12_edits_153_ok hc hz p1 FU _ _ hv23 ?_)
            refine V_aload_n hc dX12_edits_179 rfl 0 rfl ?_
            refine V_iload_n hc dX12_edits_180 rfl 1 rfl ?_
            refine V_sipush hc (v := (1148 : Int32)) dX12_edits_181 rfl ?_
            obtain ⟨v24, hv24, hv21⟩ := mb hv21
            refine R_callSi hc hz (As := [.int p1, .int (1148 : Int32)]) (c12_of l D h q y _ _ _ _ hv24) w7_123 w7_124 w1_13 w7_125 hd12_of ⟨Nat.le_of_ble_eq_true rfl, Nat.le_of_ble_eq_true rfl⟩ rfl rfl (Nat.le_of_ble_eq_true rfl) dX12_edits_184 ?_
            obtain ⟨M25, hM25, hv21⟩ := mb hv21
            refine R_callVv hc hz (As := [.int v24]) (c12_keptToA l D h q y _ _ _ _ hM25) w7_225 w7_227 wp6_8 w1_13 w7_228 hd12_keptToA ⟨Nat.le_of_ble_eq_true rfl, Nat.le_of_ble_eq_true rfl⟩ rfl rfl (Nat.le_of_ble_eq_true rfl) dX12_edits_187 ?_
            refine V_aload_n hc dX12_edits_190 rfl 0 rfl ?_
            obtain ⟨M26, hM26, hv21⟩ := mb hv21
            refine R_callVv hc hz (As := []) (c12_joins l D h q y _ _ _ _ hM26) w7_232 w7_234 wp6_9 w1_13 w7_235 hd12_joins ⟨Nat.le_of_ble_eq_true rfl, Nat.le_of_ble_eq_true rfl⟩ rfl rfl (Nat.le_of_ble_eq_true rfl) dX12_edits_191 ?_
            refine V_aload_n hc dX12_edits_194 rfl 0 rfl ?_
            obtain ⟨M27, hM27, hv21⟩ := mb hv21
            refine R_callVv hc hz (As := []) (c12_takesCAsA l D h q y _ _ _ _ hM27) w7_236 w7_238 wp6_10 w1_13 w7_239 hd12_takesCAsA ⟨Nat.le_of_ble_eq_true rfl, Nat.le_of_ble_eq_true rfl⟩ rfl rfl (Nat.le_of_ble_eq_true rfl) dX12_edits_195 ?_
            obtain rfl := Option.some.inj hv21
            exact V_sub [0, 1] rfl hJ140
        · rw [if_pos hq112] at hf
          refine V_aload_n hc dX12_edits_115 rfl 0 rfl ?_
          refine V_iload_n hc dX12_edits_116 rfl 1 rfl ?_
          refine V_sipush hc (v := (264 : Int32)) dX12_edits_117 rfl ?_
          obtain ⟨v32, hv32, hf⟩ := mb hf
          refine R_callSi hc hz (As := [.int p1, .int (264 : Int32)]) (c12_of l D h q y _ _ _ _ hv32) w7_123 w7_124 w1_13 w7_125 hd12_of ⟨Nat.le_of_ble_eq_true rfl, Nat.le_of_ble_eq_true rfl⟩ rfl rfl (Nat.le_of_ble_eq_true rfl) dX12_edits_120 ?_
          obtain ⟨M33, hM33, hf⟩ := mb hf
          refine R_callVv hc hz (As := [.int v32]) (c12_keepsA l D h q y _ _ _ _ hM33) w7_213 w7_215 wp6_5 w1_13 w7_216 hd12_keepsA ⟨Nat.le_of_ble_eq_true rfl, Nat.le_of_ble_eq_true rfl⟩ rfl rfl (Nat.le_of_ble_eq_true rfl) dX12_edits_123 ?_
          refine V_aload_n hc dX12_edits_126 rfl 0 rfl ?_
          refine V_iload_n hc dX12_edits_127 rfl 1 rfl ?_
          obtain ⟨M34, hM34, hf⟩ := mb hf
          refine R_callVv hc hz (As := [.int p1]) (c12_sends l D h q y _ _ _ _ hM34) w7_217 w7_219 wp6_6 w1_13 w7_220 hd12_sends ⟨Nat.le_of_ble_eq_true rfl, Nat.le_of_ble_eq_true rfl⟩ rfl rfl (Nat.le_of_ble_eq_true rfl) dX12_edits_128 ?_
          obtain rfl := Option.some.inj hf
          exact V_vret hc hzz rfl rfl rfl rfl dX12_edits_131
      refine V_if_ne hc dX12_edits_76 rfl (fun hq76 => ?_) (fun hq76 => ?_)
      · rw [if_neg hq76] at hv14
        obtain rfl := Option.some.inj hv14
        exact V_sub [0, 1] rfl hJ76
      · rw [if_pos hq76] at hv14
        refine V_aload_n hc dX12_edits_79 rfl 0 rfl ?_
        refine R_getr hc 30 rfl (by decide) w6_88 dX12_edits_80 ?_
        refine V_iload_n hc dX12_edits_83 rfl 1 rfl ?_
        refine V_bipush hc (v := (23 : Int32)) dX12_edits_84 rfl ?_
        obtain ⟨v15, hv15, hv14⟩ := mb hv14
        refine R_callSi hc hz (As := [.int p1, .int (23 : Int32)]) (c12_of l D h q y _ _ _ _ hv15) w7_123 w7_124 w1_13 w7_125 hd12_of ⟨Nat.le_of_ble_eq_true rfl, Nat.le_of_ble_eq_true rfl⟩ rfl rfl (Nat.le_of_ble_eq_true rfl) dX12_edits_86 ?_
        refine V_iconst hc (v := (0 : Int32)) dX12_edits_89 rfl ?_
        obtain ⟨M16, hM16, hv14⟩ := mb hv14
        refine R_iast hc hT rfl hM16 dX12_edits_90 ?_
        obtain rfl := Option.some.inj hv14
        exact V_sub [0, 1] rfl hJ76
    refine V_icmp_ne hc dX12_edits_62 rfl (fun hq62 => ?_) (fun hq62 => ?_)
    · rw [if_neg hq62] at hv11
      refine V_bipush hc (v := (22 : Int32)) dX12_edits_70 rfl ?_
      obtain rfl := Option.some.inj hv11
      exact V_sub [0, 1, 2] rfl hJ62
    · rw [if_pos hq62] at hv11
      refine V_bipush hc (v := (23 : Int32)) dX12_edits_65 rfl ?_
      refine V_goto hc dX12_edits_67 rfl ?_
      obtain rfl := Option.some.inj hv11
      exact V_sub [0, 1, 2] rfl hJ62
  refine V_icmp_ne hc dX12_edits_48 rfl (fun hq48 => ?_) (fun hq48 => ?_)
  · rw [if_neg hq48] at hv9
    refine V_sipush hc (v := (1590 : Int32)) dX12_edits_57 rfl ?_
    obtain rfl := Option.some.inj hv9
    exact V_sub [0, 1, 2] rfl hJ48
  · rw [if_pos hq48] at hv9
    refine V_sipush hc (v := (2054 : Int32)) dX12_edits_51 rfl ?_
    refine V_goto hc dX12_edits_54 rfl ?_
    obtain rfl := Option.some.inj hv9
    exact V_sub [0, 1, 2] rfl hJ48
