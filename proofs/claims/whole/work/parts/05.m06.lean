noncomputable def L12_sentTurned_19 (c1 : Int32) : Nat → Int32 → MS → Option (MS)
  | 0, _, _ => none
  | n + 1, i2, M =>
    (ld M 30 (1 : Int32)).bind fun v1 =>
    if v1 ≤ i2 then (
      some M
    ) else (
      (f12_opToB M i2).bind fun M2 =>
      (ld M2 36 i2).bind fun v3 =>
      (f12_isAhead M2 c1 v3).bind fun v4 =>
      (f12_turns M2 v4).bind fun M5 =>
      (f12_takesCAsA M5).bind fun M6 =>
      L12_sentTurned_19 c1 n (i2 + (1 : Int32)) M6
    )
noncomputable def f12_sentTurned (M : MS) (p1 : Int32) : Option (MS) :=
  (f12_of p1 (706 : Int32)).bind fun v1 =>
  (f12_keptToA M v1).bind fun M2 =>
  (f12_its M2 p1 (20 : Int32)).bind fun v3 =>
  (L12_sentTurned_19 p1 FU v3 M2).bind fun M4 =>
  some M4
theorem hd12_sentTurned : yX12_sentTurned.cls = "FarEditorsModel" ∧ yX12_sentTurned.cls ≠ "java/lang/invoke/MethodHandle" ∧ yX12_sentTurned.cls ≠ "java/lang/invoke/VarHandle" ∧ (parseMethodDescriptor yX12_sentTurned.desc).map (fun d => d.parameters.length) = some 1 := by decide +kernel
set_option maxHeartbeats 4000000 in
set_option maxRecDepth 100000 in
theorem L12_sentTurned_19_ok {E : CxT} {l : Launch} {D : va_G} {h : Nat} {q : Nat → Nat} {y : CyT} {zM uM z u : Nat} (hc : Cx E "FarEditorsModel" cX12_sentTurned 3) (hz : Cy E l D y 2 51 zM uM) (c1 : Int32) : ∀ (n : Nat) (i2 : Int32) (M : MS) {Mo : MS}, L12_sentTurned_19 c1 n i2 M = some Mo → (hx0 : V E z u (mw h q y Mo) 59 [] []) → V E z u (mw h q y M) 19 [(0, .ref h), (1, .int c1), (2, .int i2)] [] := by
  have hT := hz.2.2.1
  intro n
  induction n with
  | zero => intro i2 M Mo hf; cases hf
  | succ n ih =>
    intro i2 M Mo hf hx0
    unfold L12_sentTurned_19 at hf
    refine V_iload_n hc dX12_sentTurned_19 rfl 2 rfl ?_
    refine V_aload_n hc dX12_sentTurned_20 rfl 0 rfl ?_
    refine R_getr hc 30 rfl (by decide) w6_88 dX12_sentTurned_21 ?_
    refine V_iconst hc (v := (1 : Int32)) dX12_sentTurned_24 rfl ?_
    obtain ⟨v1, hv1, hf⟩ := mb hf
    refine R_iald hc hT rfl hv1 dX12_sentTurned_25 ?_
    refine V_icmp_ge hc dX12_sentTurned_26 rfl (fun hq26 => ?_) (fun hq26 => ?_)
    · rw [if_pos hq26] at hf
      obtain rfl := Option.some.inj hf
      exact V_sub [] rfl hx0
    · rw [if_neg hq26] at hf
      refine V_aload_n hc dX12_sentTurned_29 rfl 0 rfl ?_
      refine V_iload_n hc dX12_sentTurned_30 rfl 2 rfl ?_
      obtain ⟨M2, hM2, hf⟩ := mb hf
      refine R_callVv hc hz (As := [.int i2]) (c12_opToB l D h q y _ _ _ _ hM2) w8_24 w8_26 wp7_1 w1_13 w8_27 hd12_opToB ⟨Nat.le_of_ble_eq_true rfl, Nat.le_of_ble_eq_true rfl⟩ rfl rfl (Nat.le_of_ble_eq_true rfl) dX12_sentTurned_31 ?_
      refine V_aload_n hc dX12_sentTurned_34 rfl 0 rfl ?_
      refine V_aload_n hc dX12_sentTurned_35 rfl 0 rfl ?_
      refine V_iload_n hc dX12_sentTurned_36 rfl 1 rfl ?_
      refine V_aload_n hc dX12_sentTurned_37 rfl 0 rfl ?_
      refine R_getr hc 36 rfl (by decide) w6_94 dX12_sentTurned_38 ?_
      refine V_iload_n hc dX12_sentTurned_41 rfl 2 rfl ?_
      obtain ⟨v3, hv3, hf⟩ := mb hf
      refine R_iald hc hT rfl hv3 dX12_sentTurned_42 ?_
      obtain ⟨v4, hv4, hf⟩ := mb hf
      refine R_callVi hc hz (As := [.int c1, .int v3]) (c12_isAhead l D h q y _ _ _ _ hv4) w8_28 w8_30 wp7_2 w1_13 w8_31 hd12_isAhead ⟨Nat.le_of_ble_eq_true rfl, Nat.le_of_ble_eq_true rfl⟩ rfl rfl (Nat.le_of_ble_eq_true rfl) dX12_sentTurned_43 ?_
      obtain ⟨M5, hM5, hf⟩ := mb hf
      refine R_callVv hc hz (As := [.int v4]) (c12_turns l D h q y _ _ _ _ hM5) w8_32 w8_34 wp7_3 w1_13 w8_35 hd12_turns ⟨Nat.le_of_ble_eq_true rfl, Nat.le_of_ble_eq_true rfl⟩ rfl rfl (Nat.le_of_ble_eq_true rfl) dX12_sentTurned_46 ?_
      refine V_aload_n hc dX12_sentTurned_49 rfl 0 rfl ?_
      obtain ⟨M6, hM6, hf⟩ := mb hf
      refine R_callVv hc hz (As := []) (c12_takesCAsA l D h q y _ _ _ _ hM6) w7_236 w7_238 wp6_10 w1_13 w7_239 hd12_takesCAsA ⟨Nat.le_of_ble_eq_true rfl, Nat.le_of_ble_eq_true rfl⟩ rfl rfl (Nat.le_of_ble_eq_true rfl) dX12_sentTurned_50 ?_
      refine V_iinc hc (j := 2) (v := (i2 + (1 : Int32))) dX12_sentTurned_53 rfl rfl (by decide) rfl ?_
      refine V_goto hc dX12_sentTurned_56 rfl ?_
      exact V_sub [1, 2, 0] rfl (ih _ _ hf hx0)
set_option maxHeartbeats 4000000 in
set_option maxRecDepth 100000 in
theorem c12_sentTurned (l : Launch) (D : va_G) (h : Nat) (q : Nat → Nat) (y : CyT) (zM uM z u : Nat) {M M' : MS} {p1 : Int32} (hf : f12_sentTurned M p1 = some M') : CT l D y yX12_sentTurned cX12_sentTurned 3 none 2 51 zM uM [.ref h, .int p1] z u (mw h q y M) z u (mw h q y M') none := by
  refine CT.of (by decide) (Nat.le_of_ble_eq_true rfl) (fun E hc hzz hnm => ?_)
  have hc : Cx E "FarEditorsModel" cX12_sentTurned 3 := hc
  have hz := hzz.1
  have hT := hz.2.2.1
  show V E z u (mw h q y M) 0 [(0, .ref h), (1, .int p1)] []
  unfold f12_sentTurned at hf
  refine V_aload_n hc dX12_sentTurned_0 rfl 0 rfl ?_
  refine V_iload_n hc dX12_sentTurned_1 rfl 1 rfl ?_
  refine V_sipush hc (v := (706 : Int32)) dX12_sentTurned_2 rfl ?_
  obtain ⟨v1, hv1, hf⟩ := mb hf
  refine R_callSi hc hz (As := [.int p1, .int (706 : Int32)]) (c12_of l D h q y _ _ _ _ hv1) w7_123 w7_124 w1_13 w7_125 hd12_of ⟨Nat.le_of_ble_eq_true rfl, Nat.le_of_ble_eq_true rfl⟩ rfl rfl (Nat.le_of_ble_eq_true rfl) dX12_sentTurned_5 ?_
  obtain ⟨M2, hM2, hf⟩ := mb hf
  refine R_callVv hc hz (As := [.int v1]) (c12_keptToA l D h q y _ _ _ _ hM2) w7_225 w7_227 wp6_8 w1_13 w7_228 hd12_keptToA ⟨Nat.le_of_ble_eq_true rfl, Nat.le_of_ble_eq_true rfl⟩ rfl rfl (Nat.le_of_ble_eq_true rfl) dX12_sentTurned_8 ?_
  refine V_aload_n hc dX12_sentTurned_11 rfl 0 rfl ?_
  refine V_iload_n hc dX12_sentTurned_12 rfl 1 rfl ?_
  refine V_bipush hc (v := (20 : Int32)) dX12_sentTurned_13 rfl ?_
  obtain ⟨v3, hv3, hf⟩ := mb hf
  refine R_callVi hc hz (As := [.int p1, .int (20 : Int32)]) (c12_its l D h q y _ _ _ _ hv3) w7_142 w7_144 wp5_7 w1_13 w7_145 hd12_its ⟨Nat.le_of_ble_eq_true rfl, Nat.le_of_ble_eq_true rfl⟩ rfl rfl (Nat.le_of_ble_eq_true rfl) dX12_sentTurned_15 ?_
  refine V_istore_n hc dX12_sentTurned_18 rfl (by decide) rfl ?_
  obtain ⟨M4, hv5, hf⟩ := mb hf
  refine V_sub [1, 2, 0] rfl (L12_sentTurned_19_ok hc hz p1 FU _ _ hv5 ?_)
  obtain rfl := Option.some.inj hf
  exact V_vret hc hzz rfl rfl rfl rfl dX12_sentTurned_59
noncomputable def L12_serverTakes_118 (c2 : Int32) : Nat → Int32 → MS → Option (MS)
  | 0, _, _ => none
  | n + 1, i3, M =>
    if (gF M 32) ≤ i3 then (
      some M
    ) else (
      (f12_of i3 ((2518 : Int32) + c2)).bind fun v1 =>
      (f12_its M i3 (16 : Int32)).bind fun v2 =>
      (sd M 30 v1 v2).bind fun M3 =>
      L12_serverTakes_118 c2 n (i3 + (1 : Int32)) M3
    )
noncomputable def f12_serverTakes (M : MS) (p1 : Int32) : Option (MS) :=
  (f12_sentTurned M p1).bind fun M1 =>
  (ld M1 30 (1 : Int32)).bind fun v2 =>
  (sd M1 36 v2 p1).bind fun M3 =>
  (f12_oldOf M3 20 (gF M3 25)).bind fun v4 =>
  (sd M3 37 v2 v4).bind fun M5 =>
  (
    if v2 = 0 then (
      some (0 : Int32)
    ) else (
      (ld M5 38 (v2 - (1 : Int32))).bind fun v8 =>
      (ld M5 39 (v2 - (1 : Int32))).bind fun v9 =>
      some (v8 + v9)
    )
  ).bind fun v6 =>
  (sd M5 38 v2 v6).bind fun M10 =>
  (ld M10 38 v2).bind fun v11 =>
  bn2 (f12_gathers M10 20 (gF M10 25) 40 v11) fun v12 M13 =>
  (sd M13 39 v2 v12).bind fun M14 =>
  (ld M14 30 (1 : Int32)).bind fun v15 =>
  (sd M14 30 (1 : Int32) (v15 + (1 : Int32))).bind fun M16 =>
  (f12_of p1 (19 : Int32)).bind fun v17 =>
  (sd M16 30 v17 (-1 : Int32)).bind fun M18 =>
  (L12_serverTakes_118 v2 FU (0 : Int32) M18).bind fun M19 =>
  some M19
theorem hd12_serverTakes : yX12_serverTakes.cls = "FarEditorsModel" ∧ yX12_serverTakes.cls ≠ "java/lang/invoke/MethodHandle" ∧ yX12_serverTakes.cls ≠ "java/lang/invoke/VarHandle" ∧ (parseMethodDescriptor yX12_serverTakes.desc).map (fun d => d.parameters.length) = some 1 := by decide +kernel
set_option maxHeartbeats 4000000 in
set_option maxRecDepth 100000 in
theorem L12_serverTakes_118_ok {E : CxT} {l : Launch} {D : va_G} {h : Nat} {q : Nat → Nat} {y : CyT} {zM uM z u : Nat} (hc : Cx E "FarEditorsModel" cX12_serverTakes 4) (hz : Cy E l D y 3 73 zM uM) (c2 : Int32) : ∀ (n : Nat) (i3 : Int32) (M : MS) {Mo : MS}, L12_serverTakes_118 c2 n i3 M = some Mo → (hx0 : V E z u (mw h q y Mo) 153 [] []) → V E z u (mw h q y M) 118 [(0, .ref h), (2, .int c2), (3, .int i3)] [] := by
  have hT := hz.2.2.1
  intro n
  induction n with
  | zero => intro i3 M Mo hf; cases hf
  | succ n ih =>
    intro i3 M Mo hf hx0
    unfold L12_serverTakes_118 at hf
    refine V_iload_n hc dX12_serverTakes_118 rfl 2 rfl ?_
    refine V_aload_n hc dX12_serverTakes_119 rfl 0 rfl ?_
    refine R_geti hc 32 rfl (by decide) w6_90 dX12_serverTakes_120 ?_
    refine V_icmp_ge hc dX12_serverTakes_123 rfl (fun hq123 => ?_) (fun hq123 => ?_)
    · rw [if_pos hq123] at hf
      obtain rfl := Option.some.inj hf
      exact V_sub [] rfl hx0
    · rw [if_neg hq123] at hf
      refine V_aload_n hc dX12_serverTakes_126 rfl 0 rfl ?_
      refine R_getr hc 30 rfl (by decide) w6_88 dX12_serverTakes_127 ?_
      refine V_iload_n hc dX12_serverTakes_130 rfl 2 rfl ?_
      refine V_sipush hc (v := (2518 : Int32)) dX12_serverTakes_131 rfl ?_
      refine V_iload_n hc dX12_serverTakes_134 rfl 1 rfl ?_
      refine V_iadd hc dX12_serverTakes_135 ?_
      obtain ⟨v1, hv1, hf⟩ := mb hf
      refine R_callSi hc hz (As := [.int i3, .int ((2518 : Int32) + c2)]) (c12_of l D h q y _ _ _ _ hv1) w7_123 w7_124 w1_13 w7_125 hd12_of ⟨Nat.le_of_ble_eq_true rfl, Nat.le_of_ble_eq_true rfl⟩ rfl rfl (Nat.le_of_ble_eq_true rfl) dX12_serverTakes_136 ?_
      refine V_aload_n hc dX12_serverTakes_139 rfl 0 rfl ?_
      refine V_iload_n hc dX12_serverTakes_140 rfl 2 rfl ?_
      refine V_bipush hc (v := (16 : Int32)) dX12_serverTakes_141 rfl ?_
      obtain ⟨v2, hv2, hf⟩ := mb hf
      refine R_callVi hc hz (As := [.int i3, .int (16 : Int32)]) (c12_its l D h q y _ _ _ _ hv2) w7_142 w7_144 wp5_7 w1_13 w7_145 hd12_its ⟨Nat.le_of_ble_eq_true rfl, Nat.le_of_ble_eq_true rfl⟩ rfl rfl (Nat.le_of_ble_eq_true rfl) dX12_serverTakes_143 ?_
      obtain ⟨M3, hM3, hf⟩ := mb hf
      refine R_iast hc hT rfl hM3 dX12_serverTakes_146 ?_
      refine V_iinc hc (j := 2) (v := (i3 + (1 : Int32))) dX12_serverTakes_147 rfl rfl (by decide) rfl ?_
      refine V_goto hc dX12_serverTakes_150 rfl ?_
      exact V_sub [1, 2, 0] rfl (ih _ _ hf hx0)
set_option maxHeartbeats 4000000 in
set_option maxRecDepth 100000 in
theorem c12_serverTakes (l : Launch) (D : va_G) (h : Nat) (q : Nat → Nat) (y : CyT) (zM uM z u : Nat) {M M' : MS} {p1 : Int32} (hf : f12_serverTakes M p1 = some M') : CT l D y yX12_serverTakes cX12_serverTakes 4 none 3 73 zM uM [.ref h, .int p1] z u (mw h q y M) z u (mw h q y M') none := by
  refine CT.of (by decide) (Nat.le_of_ble_eq_true rfl) (fun E hc hzz hnm => ?_)
  have hc : Cx E "FarEditorsModel" cX12_serverTakes 4 := hc
  have hz := hzz.1
  have hT := hz.2.2.1
  show V E z u (mw h q y M) 0 [(0, .ref h), (1, .int p1)] []
  unfold f12_serverTakes at hf
  refine V_aload_n hc dX12_serverTakes_0 rfl 0 rfl ?_
  refine V_iload_n hc dX12_serverTakes_1 rfl 1 rfl ?_
  obtain ⟨M1, hM1, hf⟩ := mb hf
  refine R_callVv hc hz (As := [.int p1]) (c12_sentTurned l D h q y _ _ _ _ hM1) w8_20 w8_22 wp7_0 w1_13 w8_23 hd12_sentTurned ⟨Nat.le_of_ble_eq_true rfl, Nat.le_of_ble_eq_true rfl⟩ rfl rfl (Nat.le_of_ble_eq_true rfl) dX12_serverTakes_2 ?_
  refine V_aload_n hc dX12_serverTakes_5 rfl 0 rfl ?_
  refine R_getr hc 30 rfl (by decide) w6_88 dX12_serverTakes_6 ?_
  refine V_iconst hc (v := (1 : Int32)) dX12_serverTakes_9 rfl ?_
  obtain ⟨v2, hv2, hf⟩ := mb hf
  refine R_iald hc hT rfl hv2 dX12_serverTakes_10 ?_
  refine V_istore_n hc dX12_serverTakes_11 rfl (by decide) rfl ?_
  refine V_aload_n hc dX12_serverTakes_12 rfl 1 rfl ?_
  refine R_getr hc 36 rfl (by decide) w6_94 dX12_serverTakes_13 ?_
  refine V_iload_n hc dX12_serverTakes_16 rfl 0 rfl ?_
  refine V_iload_n hc dX12_serverTakes_17 rfl 2 rfl ?_
  obtain ⟨M3, hM3, hf⟩ := mb hf
  refine R_iast hc hT rfl hM3 dX12_serverTakes_18 ?_
  refine V_aload_n hc dX12_serverTakes_19 rfl 1 rfl ?_
  refine R_getr hc 37 rfl (by decide) w6_95 dX12_serverTakes_20 ?_
  refine V_iload_n hc dX12_serverTakes_23 rfl 0 rfl ?_
  refine V_aload_n hc dX12_serverTakes_24 rfl 1 rfl ?_
  refine R_getr hc 20 rfl (by decide) w6_78 dX12_serverTakes_25 ?_
  refine V_aload_n hc dX12_serverTakes_28 rfl 1 rfl ?_
  refine R_geti hc 25 rfl (by decide) w6_83 dX12_serverTakes_29 ?_
  obtain ⟨v4, hv4, hf⟩ := mb hf
  refine R_callSi hc hz (As := [.ref (q 20), .int (gF M3 25)]) (c12_oldOf l D h q y _ _ _ _ rfl hv4) w7_195 w7_196 w1_13 w7_197 hd12_oldOf ⟨Nat.le_of_ble_eq_true rfl, Nat.le_of_ble_eq_true rfl⟩ rfl rfl (Nat.le_of_ble_eq_true rfl) dX12_serverTakes_32 ?_
  obtain ⟨M5, hM5, hf⟩ := mb hf
  refine R_iast hc hT rfl hM5 dX12_serverTakes_35 ?_
  refine V_aload_n hc dX12_serverTakes_36 rfl 1 rfl ?_
  refine R_getr hc 38 rfl (by decide) w6_96 dX12_serverTakes_37 ?_
  refine V_iload_n hc dX12_serverTakes_40 rfl 0 rfl ?_
  refine V_iload_n hc dX12_serverTakes_41 rfl 0 rfl ?_
  obtain ⟨v6, hv7, hf⟩ := mb hf
  have hJ42 : V E z u (mw h q y M5) 66 [(0, .ref h), (1, .int p1), (2, .int v2)] [.int v6, .int v2, .ref (q 38)] := by
    obtain ⟨M10, hM10, hf⟩ := mb hf
    refine R_iast hc hT rfl hM10 dX12_serverTakes_66 ?_
    refine V_aload_n hc dX12_serverTakes_67 rfl 0 rfl ?_
    refine R_getr hc 39 rfl (by decide) w6_97 dX12_serverTakes_68 ?_
    refine V_iload_n hc dX12_serverTakes_71 rfl 2 rfl ?_
    refine V_aload_n hc dX12_serverTakes_72 rfl 0 rfl ?_
    refine R_getr hc 20 rfl (by decide) w6_78 dX12_serverTakes_73 ?_
    refine V_aload_n hc dX12_serverTakes_76 rfl 0 rfl ?_
    refine R_geti hc 25 rfl (by decide) w6_83 dX12_serverTakes_77 ?_
    refine V_aload_n hc dX12_serverTakes_80 rfl 0 rfl ?_
    refine R_getr hc 40 rfl (by decide) w6_98 dX12_serverTakes_81 ?_
    refine V_aload_n hc dX12_serverTakes_84 rfl 0 rfl ?_
    refine R_getr hc 38 rfl (by decide) w6_96 dX12_serverTakes_85 ?_
    refine V_iload_n hc dX12_serverTakes_88 rfl 2 rfl ?_
    obtain ⟨v11, hv11, hf⟩ := mb hf
    refine R_iald hc hT rfl hv11 dX12_serverTakes_89 ?_
    obtain ⟨v12, M13, hv12, hf⟩ := mb2 hf
    refine R_callSi hc hz (As := [.ref (q 20), .int (gF M10 25), .ref (q 40), .int v11]) (c12_gathers l D h q y _ _ _ _ rfl rfl hv12) w7_192 w7_193 w1_13 w7_194 hd12_gathers ⟨Nat.le_of_ble_eq_true rfl, Nat.le_of_ble_eq_true rfl⟩ rfl rfl (Nat.le_of_ble_eq_true rfl) dX12_serverTakes_90 ?_
    obtain ⟨M14, hM14, hf⟩ := mb hf
    refine R_iast hc hT rfl hM14 dX12_serverTakes_93 ?_
    refine V_aload_n hc dX12_serverTakes_94 rfl 0 rfl ?_
    refine R_getr hc 30 rfl (by decide) w6_88 dX12_serverTakes_95 ?_
    refine V_iconst hc (v := (1 : Int32)) dX12_serverTakes_98 rfl ?_
    refine V_dup2 hc dX12_serverTakes_99 rfl rfl ?_
    obtain ⟨v15, hv15, hf⟩ := mb hf
    refine R_iald hc hT rfl hv15 dX12_serverTakes_100 ?_
    refine V_iconst hc (v := (1 : Int32)) dX12_serverTakes_101 rfl ?_
    refine V_iadd hc dX12_serverTakes_102 ?_
    obtain ⟨M16, hM16, hf⟩ := mb hf
    refine R_iast hc hT rfl hM16 dX12_serverTakes_103 ?_
    refine V_aload_n hc dX12_serverTakes_104 rfl 0 rfl ?_
    refine R_getr hc 30 rfl (by decide) w6_88 dX12_serverTakes_105 ?_
    refine V_iload_n hc dX12_serverTakes_108 rfl 1 rfl ?_
    refine V_bipush hc (v := (19 : Int32)) dX12_serverTakes_109 rfl ?_
    obtain ⟨v17, hv17, hf⟩ := mb hf
    refine R_callSi hc hz (As := [.int p1, .int (19 : Int32)]) (c12_of l D h q y _ _ _ _ hv17) w7_123 w7_124 w1_13 w7_125 hd12_of ⟨Nat.le_of_ble_eq_true rfl, Nat.le_of_ble_eq_true rfl⟩ rfl rfl (Nat.le_of_ble_eq_true rfl) dX12_serverTakes_111 ?_
    refine V_iconst hc (v := (-1 : Int32)) dX12_serverTakes_114 rfl ?_
    obtain ⟨M18, hM18, hf⟩ := mb hf
    refine R_iast hc hT rfl hM18 dX12_serverTakes_115 ?_
    refine V_iconst hc (v := (0 : Int32)) dX12_serverTakes_116 rfl ?_
    refine V_istore_n hc dX12_serverTakes_117 rfl (by decide) rfl ?_
    obtain ⟨M19, hv20, hf⟩ := mb hf
    refine V_sub [1, 3, 0] rfl (L12_serverTakes_118_ok hc hz v2 FU _ _ hv20 ?_)
    obtain rfl := Option.some.inj hf
    exact V_vret hc hzz rfl rfl rfl rfl dX12_serverTakes_153
  refine V_if_ne hc dX12_serverTakes_42 rfl (fun hq42 => ?_) (fun hq42 => ?_)
  · rw [if_neg hq42] at hv7
    refine V_aload_n hc dX12_serverTakes_49 rfl 1 rfl ?_
    refine R_getr hc 38 rfl (by decide) w6_96 dX12_serverTakes_50 ?_
    refine V_iload_n hc dX12_serverTakes_53 rfl 0 rfl ?_
    refine V_iconst hc (v := (1 : Int32)) dX12_serverTakes_54 rfl ?_
    refine V_isub hc dX12_serverTakes_55 ?_
    obtain ⟨v8, hv8, hv7⟩ := mb hv7
    refine R_iald hc hT rfl hv8 dX12_serverTakes_56 ?_
    refine V_aload_n hc dX12_serverTakes_57 rfl 1 rfl ?_
    refine R_getr hc 39 rfl (by decide) w6_97 dX12_serverTakes_58 ?_
    refine V_iload_n hc dX12_serverTakes_61 rfl 0 rfl ?_
    refine V_iconst hc (v := (1 : Int32)) dX12_serverTakes_62 rfl ?_
    refine V_isub hc dX12_serverTakes_63 ?_
    obtain ⟨v9, hv9, hv7⟩ := mb hv7
    refine R_iald hc hT rfl hv9 dX12_serverTakes_64 ?_
    refine V_iadd hc dX12_serverTakes_65 ?_
    obtain rfl := Option.some.inj hv7
    exact V_sub [1, 2, 0] rfl hJ42
  · rw [if_pos hq42] at hv7
    refine V_iconst hc (v := (0 : Int32)) dX12_serverTakes_45 rfl ?_
    refine V_goto hc dX12_serverTakes_46 rfl ?_
    obtain rfl := Option.some.inj hv7
    exact V_sub [1, 2, 0] rfl hJ42
noncomputable def f12_ownComes (M : MS) (p1 : Int32) : Option (MS) :=
  (f12_of p1 (17 : Int32)).bind fun v1 =>
  (sd M 30 v1 (0 : Int32)).bind fun M2 =>
  (f12_its M2 p1 (18 : Int32)).bind fun v3 =>
  if v3 = 0 then (
    some M2
  ) else (
    (f12_of p1 (18 : Int32)).bind fun v4 =>
    (sd M2 30 v4 (0 : Int32)).bind fun M5 =>
    (f12_of p1 (264 : Int32)).bind fun v6 =>
    (f12_of p1 (1148 : Int32)).bind fun v7 =>
    (f12_copiesOp M5 v6 v7).bind fun M8 =>
    (f12_sends M8 p1).bind fun M9 =>
    some M9
  )
theorem hd12_ownComes : yX12_ownComes.cls = "FarEditorsModel" ∧ yX12_ownComes.cls ≠ "java/lang/invoke/MethodHandle" ∧ yX12_ownComes.cls ≠ "java/lang/invoke/VarHandle" ∧ (parseMethodDescriptor yX12_ownComes.desc).map (fun d => d.parameters.length) = some 1 := by decide +kernel
set_option maxHeartbeats 4000000 in
set_option maxRecDepth 100000 in
theorem c12_ownComes (l : Launch) (D : va_G) (h : Nat) (q : Nat → Nat) (y : CyT) (zM uM z u : Nat) {M M' : MS} {p1 : Int32} (hf : f12_ownComes M p1 = some M') : CT l D y yX12_ownComes cX12_ownComes 2 none 2 44 zM uM [.ref h, .int p1] z u (mw h q y M) z u (mw h q y M') none := by
  refine CT.of (by decide) (Nat.le_of_ble_eq_true rfl) (fun E hc hzz hnm => ?_)
  have hc : Cx E "FarEditorsModel" cX12_ownComes 2 := hc
  have hz := hzz.1
  have hT := hz.2.2.1
  show V E z u (mw h q y M) 0 [(0, .ref h), (1, .int p1)] []
  unfold f12_ownComes at hf
  refine V_aload_n hc dX12_ownComes_0 rfl 0 rfl ?_
  refine R_getr hc 30 rfl (by decide) w6_88 dX12_ownComes_1 ?_
  refine V_iload_n hc dX12_ownComes_4 rfl 1 rfl ?_
  refine V_bipush hc (v := (17 : Int32)) dX12_ownComes_5 rfl ?_
  obtain ⟨v1, hv1, hf⟩ := mb hf
  refine R_callSi hc hz (As := [.int p1, .int (17 : Int32)]) (c12_of l D h q y _ _ _ _ hv1) w7_123 w7_124 w1_13 w7_125 hd12_of ⟨Nat.le_of_ble_eq_true rfl, Nat.le_of_ble_eq_true rfl⟩ rfl rfl (Nat.le_of_ble_eq_true rfl) dX12_ownComes_7 ?_
  refine V_iconst hc (v := (0 : Int32)) dX12_ownComes_10 rfl ?_
  obtain ⟨M2, hM2, hf⟩ := mb hf
  refine R_iast hc hT rfl hM2 dX12_ownComes_11 ?_
  refine V_aload_n hc dX12_ownComes_12 rfl 0 rfl ?_
  refine V_iload_n hc dX12_ownComes_13 rfl 1 rfl ?_
  refine V_bipush hc (v := (18 : Int32)) dX12_ownComes_14 rfl ?_
  obtain ⟨v3, hv3, hf⟩ := mb hf
  refine R_callVi hc hz (As := [.int p1, .int (18 : Int32)]) (c12_its l D h q y _ _ _ _ hv3) w7_142 w7_144 wp5_7 w1_13 w7_145 hd12_its ⟨Nat.le_of_ble_eq_true rfl, Nat.le_of_ble_eq_true rfl⟩ rfl rfl (Nat.le_of_ble_eq_true rfl) dX12_ownComes_16 ?_
  refine V_if_ne hc dX12_ownComes_19 rfl (fun hq19 => ?_) (fun hq19 => ?_)
  · rw [if_neg hq19] at hf
    refine V_aload_n hc dX12_ownComes_23 rfl 0 rfl ?_
    refine R_getr hc 30 rfl (by decide) w6_88 dX12_ownComes_24 ?_
    refine V_iload_n hc dX12_ownComes_27 rfl 1 rfl ?_
    refine V_bipush hc (v := (18 : Int32)) dX12_ownComes_28 rfl ?_
    obtain ⟨v4, hv4, hf⟩ := mb hf
    refine R_callSi hc hz (As := [.int p1, .int (18 : Int32)]) (c12_of l D h q y _ _ _ _ hv4) w7_123 w7_124 w1_13 w7_125 hd12_of ⟨Nat.le_of_ble_eq_true rfl, Nat.le_of_ble_eq_true rfl⟩ rfl rfl (Nat.le_of_ble_eq_true rfl) dX12_ownComes_30 ?_
    refine V_iconst hc (v := (0 : Int32)) dX12_ownComes_33 rfl ?_
    obtain ⟨M5, hM5, hf⟩ := mb hf
    refine R_iast hc hT rfl hM5 dX12_ownComes_34 ?_
    refine V_aload_n hc dX12_ownComes_35 rfl 0 rfl ?_
    refine V_iload_n hc dX12_ownComes_36 rfl 1 rfl ?_
    refine V_sipush hc (v := (264 : Int32)) dX12_ownComes_37 rfl ?_
    obtain ⟨v6, hv6, hf⟩ := mb hf
    refine R_callSi hc hz (As := [.int p1, .int (264 : Int32)]) (c12_of l D h q y _ _ _ _ hv6) w7_123 w7_124 w1_13 w7_125 hd12_of ⟨Nat.le_of_ble_eq_true rfl, Nat.le_of_ble_eq_true rfl⟩ rfl rfl (Nat.le_of_ble_eq_true rfl) dX12_ownComes_40 ?_
    refine V_iload_n hc dX12_ownComes_43 rfl 1 rfl ?_
    refine V_sipush hc (v := (1148 : Int32)) dX12_ownComes_44 rfl ?_
    obtain ⟨v7, hv7, hf⟩ := mb hf
    refine R_callSi hc hz (As := [.int p1, .int (1148 : Int32)]) (c12_of l D h q y _ _ _ _ hv7) w7_123 w7_124 w1_13 w7_125 hd12_of ⟨Nat.le_of_ble_eq_true rfl, Nat.le_of_ble_eq_true rfl⟩ rfl rfl (Nat.le_of_ble_eq_true rfl) dX12_ownComes_47 ?_
    obtain ⟨M8, hM8, hf⟩ := mb hf
    refine R_callVv hc hz (As := [.int v6, .int v7]) (c12_copiesOp l D h q y _ _ _ _ hM8) w7_221 w7_223 wp6_7 w1_13 w7_224 hd12_copiesOp ⟨Nat.le_of_ble_eq_true rfl, Nat.le_of_ble_eq_true rfl⟩ rfl rfl (Nat.le_of_ble_eq_true rfl) dX12_ownComes_50 ?_
    refine V_aload_n hc dX12_ownComes_53 rfl 0 rfl ?_
    refine V_iload_n hc dX12_ownComes_54 rfl 1 rfl ?_
    obtain ⟨M9, hM9, hf⟩ := mb hf
    refine R_callVv hc hz (As := [.int p1]) (c12_sends l D h q y _ _ _ _ hM9) w7_217 w7_219 wp6_6 w1_13 w7_220 hd12_sends ⟨Nat.le_of_ble_eq_true rfl, Nat.le_of_ble_eq_true rfl⟩ rfl rfl (Nat.le_of_ble_eq_true rfl) dX12_ownComes_55 ?_
    obtain rfl := Option.some.inj hf
    exact V_vret hc hzz rfl rfl rfl rfl dX12_ownComes_58
  · rw [if_pos hq19] at hf
    obtain rfl := Option.some.inj hf
    exact V_vret hc hzz rfl rfl rfl rfl dX12_ownComes_22
noncomputable def f12_turnedOver (M : MS) (p1 : Int32) (p2 : Int32) (p3 : Int32) : Option (MS) :=
  (f12_of p1 p3).bind fun v1 =>
  (f12_keptToA M v1).bind fun M2 =>
  (f12_isAhead M2 p1 p2).bind fun v3 =>
  (f12_turns M2 v3).bind fun M4 =>
  (f12_of p1 p3).bind fun v5 =>
  (f12_keepsC M4 v5).bind fun M6 =>
  (f12_takesDAsB M6).bind fun M7 =>
  some M7
theorem hd12_turnedOver : yX12_turnedOver.cls = "FarEditorsModel" ∧ yX12_turnedOver.cls ≠ "java/lang/invoke/MethodHandle" ∧ yX12_turnedOver.cls ≠ "java/lang/invoke/VarHandle" ∧ (parseMethodDescriptor yX12_turnedOver.desc).map (fun d => d.parameters.length) = some 3 := by decide +kernel
set_option maxHeartbeats 4000000 in
set_option maxRecDepth 100000 in
theorem c12_turnedOver (l : Launch) (D : va_G) (h : Nat) (q : Nat → Nat) (y : CyT) (zM uM z u : Nat) {M M' : MS} {p1 : Int32} {p2 : Int32} {p3 : Int32} (hf : f12_turnedOver M p1 p2 p3 = some M') : CT l D y yX12_turnedOver cX12_turnedOver 4 none 2 51 zM uM [.ref h, .int p1, .int p2, .int p3] z u (mw h q y M) z u (mw h q y M') none := by
  refine CT.of (by decide) (Nat.le_of_ble_eq_true rfl) (fun E hc hzz hnm => ?_)
  have hc : Cx E "FarEditorsModel" cX12_turnedOver 4 := hc
  have hz := hzz.1
  have hT := hz.2.2.1
  show V E z u (mw h q y M) 0 [(0, .ref h), (1, .int p1), (2, .int p2), (3, .int p3)] []
  unfold f12_turnedOver at hf
  refine V_aload_n hc dX12_turnedOver_0 rfl 0 rfl ?_
  refine V_iload_n hc dX12_turnedOver_1 rfl 1 rfl ?_
  refine V_iload_n hc dX12_turnedOver_2 rfl 3 rfl ?_
  obtain ⟨v1, hv1, hf⟩ := mb hf
  refine R_callSi hc hz (As := [.int p1, .int p3]) (c12_of l D h q y _ _ _ _ hv1) w7_123 w7_124 w1_13 w7_125 hd12_of ⟨Nat.le_of_ble_eq_true rfl, Nat.le_of_ble_eq_true rfl⟩ rfl rfl (Nat.le_of_ble_eq_true rfl) dX12_turnedOver_3 ?_
  obtain ⟨M2, hM2, hf⟩ := mb hf
  refine R_callVv hc hz (As := [.int v1]) (c12_keptToA l D h q y _ _ _ _ hM2) w7_225 w7_227 wp6_8 w1_13 w7_228 hd12_keptToA ⟨Nat.le_of_ble_eq_true rfl, Nat.le_of_ble_eq_true rfl⟩ rfl rfl (Nat.le_of_ble_eq_true rfl) dX12_turnedOver_6 ?_
  refine V_aload_n hc dX12_turnedOver_9 rfl 0 rfl ?_
  refine V_aload_n hc dX12_turnedOver_10 rfl 0 rfl ?_
  refine V_iload_n hc dX12_turnedOver_11 rfl 1 rfl ?_
  refine V_iload_n hc dX12_turnedOver_12 rfl 2 rfl ?_
  obtain ⟨v3, hv3, hf⟩ := mb hf
  refine R_callVi hc hz (As := [.int p1, .int p2]) (c12_isAhead l D h q y _ _ _ _ hv3) w8_28 w8_30 wp7_2 w1_13 w8_31 hd12_isAhead ⟨Nat.le_of_ble_eq_true rfl, Nat.le_of_ble_eq_true rfl⟩ rfl rfl (Nat.le_of_ble_eq_true rfl) dX12_turnedOver_13 ?_
  obtain ⟨M4, hM4, hf⟩ := mb hf
  refine R_callVv hc hz (As := [.int v3]) (c12_turns l D h q y _ _ _ _ hM4) w8_32 w8_34 wp7_3 w1_13 w8_35 hd12_turns ⟨Nat.le_of_ble_eq_true rfl, Nat.le_of_ble_eq_true rfl⟩ rfl rfl (Nat.le_of_ble_eq_true rfl) dX12_turnedOver_16 ?_
  refine V_aload_n hc dX12_turnedOver_19 rfl 0 rfl ?_
  refine V_iload_n hc dX12_turnedOver_20 rfl 1 rfl ?_
  refine V_iload_n hc dX12_turnedOver_21 rfl 3 rfl ?_
  obtain ⟨v5, hv5, hf⟩ := mb hf
  refine R_callSi hc hz (As := [.int p1, .int p3]) (c12_of l D h q y _ _ _ _ hv5) w7_123 w7_124 w1_13 w7_125 hd12_of ⟨Nat.le_of_ble_eq_true rfl, Nat.le_of_ble_eq_true rfl⟩ rfl rfl (Nat.le_of_ble_eq_true rfl) dX12_turnedOver_22 ?_
  obtain ⟨M6, hM6, hf⟩ := mb hf
  refine R_callVv hc hz (As := [.int v5]) (c12_keepsC l D h q y _ _ _ _ hM6) w7_188 w7_190 wp6_1 w1_13 w7_191 hd12_keepsC ⟨Nat.le_of_ble_eq_true rfl, Nat.le_of_ble_eq_true rfl⟩ rfl rfl (Nat.le_of_ble_eq_true rfl) dX12_turnedOver_25 ?_
  refine V_aload_n hc dX12_turnedOver_28 rfl 0 rfl ?_
  obtain ⟨M7, hM7, hf⟩ := mb hf
  refine R_callVv hc hz (As := []) (c12_takesDAsB l D h q y _ _ _ _ hM7) w8_52 w8_54 wp7_8 w1_13 w8_55 hd12_takesDAsB ⟨Nat.le_of_ble_eq_true rfl, Nat.le_of_ble_eq_true rfl⟩ rfl rfl (Nat.le_of_ble_eq_true rfl) dX12_turnedOver_29 ?_
  obtain rfl := Option.some.inj hf
  exact V_vret hc hzz rfl rfl rfl rfl dX12_turnedOver_32
noncomputable def f12_comes (M : MS) (p1 : Int32) : Option (MS) :=
  (f12_its M p1 (0 : Int32)).bind fun v1 =>
  (f12_of p1 (0 : Int32)).bind fun v2 =>
  (ld M 30 v2).bind fun v3 =>
  (sd M 30 v2 (v3 + (1 : Int32))).bind fun M4 =>
  (ld M4 36 v1).bind fun v5 =>
  if v5 = p1 then (
    (f12_ownComes M4 p1).bind fun M22 =>
    some M22
  ) else (
    (f12_opToB M4 v1).bind fun M6 =>
    (f12_its M6 p1 (17 : Int32)).bind fun v7 =>
    (
      if v7 = (1 : Int32) then (
        (ld M6 36 v1).bind fun v10 =>
        (f12_turnedOver M6 p1 v10 (264 : Int32)).bind fun M11 =>
        some M11
      ) else (
        some M6
      )
    ).bind fun M8 =>
    (f12_its M8 p1 (18 : Int32)).bind fun v12 =>
    (
      if v12 = (1 : Int32) then (
        (ld M8 36 v1).bind fun v15 =>
        (f12_turnedOver M8 p1 v15 (1148 : Int32)).bind fun M16 =>
        some M16
      ) else (
        some M8
      )
    ).bind fun M13 =>
    (f12_textChanged M13 p1 21 (gF M13 26) (0 : Int32)).bind fun M17 =>
    (ld M17 36 v1).bind fun v18 =>
    (f12_carriesStack M17 p1 v18 (1590 : Int32) (22 : Int32)).bind fun M19 =>
    (ld M19 36 v1).bind fun v20 =>
    (f12_carriesStack M19 p1 v20 (2054 : Int32) (23 : Int32)).bind fun M21 =>
    some M21
  )
theorem hd12_comes : yX12_comes.cls = "FarEditorsModel" ∧ yX12_comes.cls ≠ "java/lang/invoke/MethodHandle" ∧ yX12_comes.cls ≠ "java/lang/invoke/VarHandle" ∧ (parseMethodDescriptor yX12_comes.desc).map (fun d => d.parameters.length) = some 1 := by decide +kernel
set_option maxHeartbeats 4000000 in
set_option maxRecDepth 100000 in
theorem c12_comes (l : Launch) (D : va_G) (h : Nat) (q : Nat → Nat) (y : CyT) (zM uM z u : Nat) {M M' : MS} {p1 : Int32} (hf : f12_comes M p1 = some M') : CT l D y yX12_comes cX12_comes 3 none 3 79 zM uM [.ref h, .int p1] z u (mw h q y M) z u (mw h q y M') none := by
  refine CT.of (by decide) (Nat.le_of_ble_eq_true rfl) (fun E hc hzz hnm => ?_)
  have hc : Cx E "FarEditorsModel" cX12_comes 3 := hc
  have hz := hzz.1
  have hT := hz.2.2.1
  show V E z u (mw h q y M) 0 [(0, .ref h), (1, .int p1)] []
  unfold f12_comes at hf
  refine V_aload_n hc dX12_comes_0 rfl 0 rfl ?_
  refine V_iload_n hc dX12_comes_1 rfl 1 rfl ?_
  refine V_iconst hc (v := (0 : Int32)) dX12_comes_2 rfl ?_
  obtain ⟨v1, hv1, hf⟩ := mb hf
  refine R_callVi hc hz (As := [.int p1, .int (0 : Int32)]) (c12_its l D h q y _ _ _ _ hv1) w7_142 w7_144 wp5_7 w1_13 w7_145 hd12_its ⟨Nat.le_of_ble_eq_true rfl, Nat.le_of_ble_eq_true rfl⟩ rfl rfl (Nat.le_of_ble_eq_true rfl) dX12_comes_3 ?_
  refine V_istore_n hc dX12_comes_6 rfl (by decide) rfl ?_
  refine V_aload_n hc dX12_comes_7 rfl 1 rfl ?_
  refine R_getr hc 30 rfl (by decide) w6_88 dX12_comes_8 ?_
  refine V_iload_n hc dX12_comes_11 rfl 2 rfl ?_
  refine V_iconst hc (v := (0 : Int32)) dX12_comes_12 rfl ?_
  obtain ⟨v2, hv2, hf⟩ := mb hf
  refine R_callSi hc hz (As := [.int p1, .int (0 : Int32)]) (c12_of l D h q y _ _ _ _ hv2) w7_123 w7_124 w1_13 w7_125 hd12_of ⟨Nat.le_of_ble_eq_true rfl, Nat.le_of_ble_eq_true rfl⟩ rfl rfl (Nat.le_of_ble_eq_true rfl) dX12_comes_13 ?_
  refine V_dup2 hc dX12_comes_16 rfl rfl ?_
  obtain ⟨v3, hv3, hf⟩ := mb hf
  refine R_iald hc hT rfl hv3 dX12_comes_17 ?_
  refine V_iconst hc (v := (1 : Int32)) dX12_comes_18 rfl ?_
  refine V_iadd hc dX12_comes_19 ?_
  obtain ⟨M4, hM4, hf⟩ := mb hf
  refine R_iast hc hT rfl hM4 dX12_comes_20 ?_
  refine V_aload_n hc dX12_comes_21 rfl 1 rfl ?_
  refine R_getr hc 36 rfl (by decide) w6_94 dX12_comes_22 ?_
  refine V_iload_n hc dX12_comes_25 rfl 0 rfl ?_
  obtain ⟨v5, hv5, hf⟩ := mb hf
  refine R_iald hc hT rfl hv5 dX12_comes_26 ?_
  refine V_iload_n hc dX12_comes_27 rfl 2 rfl ?_
  refine V_icmp_ne hc dX12_comes_28 rfl (fun hq28 => ?_) (fun hq28 => ?_)
  · rw [if_neg hq28] at hf
    refine V_aload_n hc dX12_comes_37 rfl 1 rfl ?_
    refine V_iload_n hc dX12_comes_38 rfl 0 rfl ?_
    obtain ⟨M6, hM6, hf⟩ := mb hf
    refine R_callVv hc hz (As := [.int v1]) (c12_opToB l D h q y _ _ _ _ hM6) w8_24 w8_26 wp7_1 w1_13 w8_27 hd12_opToB ⟨Nat.le_of_ble_eq_true rfl, Nat.le_of_ble_eq_true rfl⟩ rfl rfl (Nat.le_of_ble_eq_true rfl) dX12_comes_39 ?_
    refine V_aload_n hc dX12_comes_42 rfl 1 rfl ?_
    refine V_iload_n hc dX12_comes_43 rfl 2 rfl ?_
    refine V_bipush hc (v := (17 : Int32)) dX12_comes_44 rfl ?_
    obtain ⟨v7, hv7, hf⟩ := mb hf
    refine R_callVi hc hz (As := [.int p1, .int (17 : Int32)]) (c12_its l D h q y _ _ _ _ hv7) w7_142 w7_144 wp5_7 w1_13 w7_145 hd12_its ⟨Nat.le_of_ble_eq_true rfl, Nat.le_of_ble_eq_true rfl⟩ rfl rfl (Nat.le_of_ble_eq_true rfl) dX12_comes_46 ?_
    refine V_iconst hc (v := (1 : Int32)) dX12_comes_49 rfl ?_
    obtain ⟨M8, hv9, hf⟩ := mb hf
    have hJ50 : V E z u (mw h q y M8) 67 [(0, .ref h), (1, .int p1), (2, .int v1)] [] := by
      refine V_aload_n hc dX12_comes_67 rfl 0 rfl ?_
      refine V_iload_n hc dX12_comes_68 rfl 1 rfl ?_
      refine V_bipush hc (v := (18 : Int32)) dX12_comes_69 rfl ?_
      obtain ⟨v12, hv12, hf⟩ := mb hf
      refine R_callVi hc hz (As := [.int p1, .int (18 : Int32)]) (c12_its l D h q y _ _ _ _ hv12) w7_142 w7_144 wp5_7 w1_13 w7_145 hd12_its ⟨Nat.le_of_ble_eq_true rfl, Nat.le_of_ble_eq_true rfl⟩ rfl rfl (Nat.le_of_ble_eq_true rfl) dX12_comes_71 ?_
      refine V_iconst hc (v := (1 : Int32)) dX12_comes_74 rfl ?_
      obtain ⟨M13, hv14, hf⟩ := mb hf
      have hJ75 : V E z u (mw h q y M13) 92 [(0, .ref h), (1, .int p1), (2, .int v1)] [] := by
        refine V_aload_n hc dX12_comes_92 rfl 0 rfl ?_
        refine V_iload_n hc dX12_comes_93 rfl 1 rfl ?_
        refine V_aload_n hc dX12_comes_94 rfl 0 rfl ?_
        refine R_getr hc 21 rfl (by decide) w6_79 dX12_comes_95 ?_
        refine V_aload_n hc dX12_comes_98 rfl 0 rfl ?_
        refine R_geti hc 26 rfl (by decide) w6_84 dX12_comes_99 ?_
        refine V_iconst hc (v := (0 : Int32)) dX12_comes_102 rfl ?_
        obtain ⟨M17, hM17, hf⟩ := mb hf
        refine R_callVv hc hz (As := [.int p1, .ref (q 21), .int (gF M13 26), .int (0 : Int32)]) (c12_textChanged l D h q y _ _ _ _ rfl hM17) w7_198 w7_200 wp6_2 w1_13 w7_201 hd12_textChanged ⟨Nat.le_of_ble_eq_true rfl, Nat.le_of_ble_eq_true rfl⟩ rfl rfl (Nat.le_of_ble_eq_true rfl) dX12_comes_103 ?_
        refine V_aload_n hc dX12_comes_106 rfl 0 rfl ?_
        refine V_iload_n hc dX12_comes_107 rfl 1 rfl ?_
        refine V_aload_n hc dX12_comes_108 rfl 0 rfl ?_
        refine R_getr hc 36 rfl (by decide) w6_94 dX12_comes_109 ?_
        refine V_iload_n hc dX12_comes_112 rfl 2 rfl ?_
        obtain ⟨v18, hv18, hf⟩ := mb hf
        refine R_iald hc hT rfl hv18 dX12_comes_113 ?_
        refine V_sipush hc (v := (1590 : Int32)) dX12_comes_114 rfl ?_
        refine V_bipush hc (v := (22 : Int32)) dX12_comes_117 rfl ?_
        obtain ⟨M19, hM19, hf⟩ := mb hf
        refine R_callVv hc hz (As := [.int p1, .int v18, .int (1590 : Int32), .int (22 : Int32)]) (c12_carriesStack l D h q y _ _ _ _ hM19) w8_56 w8_58 wp7_9 w1_13 w8_59 hd12_carriesStack ⟨Nat.le_of_ble_eq_true rfl, Nat.le_of_ble_eq_true rfl⟩ rfl rfl (Nat.le_of_ble_eq_true rfl) dX12_comes_119 ?_
        refine V_aload_n hc dX12_comes_122 rfl 0 rfl ?_
        refine V_iload_n hc dX12_comes_123 rfl 1 rfl ?_
        refine V_aload_n hc dX12_comes_124 rfl 0 rfl ?_
        refine R_getr hc 36 rfl (by decide) w6_94 dX12_comes_125 ?_
        refine V_iload_n hc dX12_comes_128 rfl 2 rfl ?_
        obtain ⟨v20, hv20, hf⟩ := mb hf
        refine R_iald hc hT rfl hv20 dX12_comes_129 ?_
        refine V_sipush hc (v := (2054 : Int32)) dX12_comes_130 rfl ?_
        refine V_bipush hc (v := (23 : Int32)) dX12_comes_133 rfl ?_
        obtain ⟨M21, hM21, hf⟩ := mb hf
        refine R_callVv hc hz (As := [.int p1, .int v20, .int (2054 : Int32), .int (23 : Int32)]) (c12_carriesStack l D h q y _ _ _ _ hM21) w8_56 w8_58 wp7_9 w1_13 w8_59 hd12_carriesStack ⟨Nat.le_of_ble_eq_true rfl, Nat.le_of_ble_eq_true rfl⟩ rfl rfl (Nat.le_of_ble_eq_true rfl) dX12_comes_135 ?_
        obtain rfl := Option.some.inj hf
        exact V_vret hc hzz rfl rfl rfl rfl dX12_comes_138
      refine V_icmp_ne hc dX12_comes_75 rfl (fun hq75 => ?_) (fun hq75 => ?_)
      · rw [if_neg hq75] at hv14
        obtain rfl := Option.some.inj hv14
        exact V_sub [0, 1, 2] rfl hJ75
      · rw [if_pos hq75] at hv14
        refine V_aload_n hc dX12_comes_78 rfl 0 rfl ?_
        refine V_iload_n hc dX12_comes_79 rfl 1 rfl ?_
        refine V_aload_n hc dX12_comes_80 rfl 0 rfl ?_
        refine R_getr hc 36 rfl (by decide) w6_94 dX12_comes_81 ?_
        refine V_iload_n hc dX12_comes_84 rfl 2 rfl ?_
        obtain ⟨v15, hv15, hv14⟩ := mb hv14
        refine R_iald hc hT rfl hv15 dX12_comes_85 ?_
        refine V_sipush hc (v := (1148 : Int32)) dX12_comes_86 rfl ?_
        obtain ⟨M16, hM16, hv14⟩ := mb hv14
        refine R_callVv hc hz (As := [.int p1, .int v15, .int (1148 : Int32)]) (c12_turnedOver l D h q y _ _ _ _ hM16) w8_48 w8_50 wp7_7 w1_13 w8_51 hd12_turnedOver ⟨Nat.le_of_ble_eq_true rfl, Nat.le_of_ble_eq_true rfl⟩ rfl rfl (Nat.le_of_ble_eq_true rfl) dX12_comes_89 ?_
        obtain rfl := Option.some.inj hv14
        exact V_sub [0, 1, 2] rfl hJ75
    refine V_icmp_ne hc dX12_comes_50 rfl (fun hq50 => ?_) (fun hq50 => ?_)
    · rw [if_neg hq50] at hv9
      obtain rfl := Option.some.inj hv9
      exact V_sub [1, 2, 0] rfl hJ50
    · rw [if_pos hq50] at hv9
      refine V_aload_n hc dX12_comes_53 rfl 1 rfl ?_
      refine V_iload_n hc dX12_comes_54 rfl 2 rfl ?_
      refine V_aload_n hc dX12_comes_55 rfl 1 rfl ?_
      refine R_getr hc 36 rfl (by decide) w6_94 dX12_comes_56 ?_
      refine V_iload_n hc dX12_comes_59 rfl 0 rfl ?_
      obtain ⟨v10, hv10, hv9⟩ := mb hv9
      refine R_iald hc hT rfl hv10 dX12_comes_60 ?_
      refine V_sipush hc (v := (264 : Int32)) dX12_comes_61 rfl ?_
      obtain ⟨M11, hM11, hv9⟩ := mb hv9
      refine R_callVv hc hz (As := [.int p1, .int v10, .int (264 : Int32)]) (c12_turnedOver l D h q y _ _ _ _ hM11) w8_48 w8_50 wp7_7 w1_13 w8_51 hd12_turnedOver ⟨Nat.le_of_ble_eq_true rfl, Nat.le_of_ble_eq_true rfl⟩ rfl rfl (Nat.le_of_ble_eq_true rfl) dX12_comes_64 ?_
      obtain rfl := Option.some.inj hv9
      exact V_sub [1, 2, 0] rfl hJ50
  · rw [if_pos hq28] at hf
    refine V_aload_n hc dX12_comes_31 rfl 1 rfl ?_
    refine V_iload_n hc dX12_comes_32 rfl 2 rfl ?_
    obtain ⟨M22, hM22, hf⟩ := mb hf
    refine R_callVv hc hz (As := [.int p1]) (c12_ownComes l D h q y _ _ _ _ hM22) w8_44 w8_46 wp7_6 w1_13 w8_47 hd12_ownComes ⟨Nat.le_of_ble_eq_true rfl, Nat.le_of_ble_eq_true rfl⟩ rfl rfl (Nat.le_of_ble_eq_true rfl) dX12_comes_33 ?_
    obtain rfl := Option.some.inj hf
    exact V_vret hc hzz rfl rfl rfl rfl dX12_comes_36
noncomputable def L12_tickGoes_55 (c1 : Int32) : Nat → Int32 → MS → Option (MS)
  | 0, _, _ => none
  | n + 1, i2, M =>
    (ld M 30 (1 : Int32)).bind fun v1 =>
    if v1 ≤ i2 then (
      some M
    ) else (
      (f12_its M c1 ((2518 : Int32) + i2)).bind fun v2 =>
      (
        if v2 ≤ 0 then (
          some M
        ) else (
          (f12_of c1 ((2518 : Int32) + i2)).bind fun v5 =>
          (ld M 30 v5).bind fun v6 =>
          (sd M 30 v5 (v6 - (1 : Int32))).bind fun M7 =>
          some M7
        )
      ).bind fun M3 =>
      L12_tickGoes_55 c1 n (i2 + (1 : Int32)) M3
    )
noncomputable def L12_tickGoes_2 : Nat → Int32 → MS → Option (MS)
  | 0, _, _ => none
  | n + 1, i1, M =>
    if (gF M 32) ≤ i1 then (
      some M
    ) else (
      (f12_its M i1 (15 : Int32)).bind fun v1 =>
      (
        if v1 = 0 then (
          some M
        ) else (
          (f12_its M i1 (19 : Int32)).bind fun v4 =>
          (
            if v4 ≤ 0 then (
              some M
            ) else (
              (f12_of i1 (19 : Int32)).bind fun v7 =>
              (ld M 30 v7).bind fun v8 =>
              (sd M 30 v7 (v8 - (1 : Int32))).bind fun M9 =>
              some M9
            )
          ).bind fun M5 =>
          (f12_its M5 i1 (0 : Int32)).bind fun v10 =>
          (L12_tickGoes_55 i1 FU v10 M5).bind fun M11 =>
          some M11
        )
      ).bind fun M2 =>
      L12_tickGoes_2 n (i1 + (1 : Int32)) M2
    )
noncomputable def L12_tickGoes_110 : Nat → Int32 → MS → Option (MS)
  | 0, _, _ => none
  | n + 1, i1, M =>
    if (gF M 32) ≤ i1 then (
      some M
    ) else (
      (f12_its M i1 (15 : Int32)).bind fun v1 =>
      (
        if v1 = 0 then (
          some M
        ) else (
          (f12_its M i1 (19 : Int32)).bind fun v4 =>
          if v4 = 0 then (
            (f12_serverTakes M i1).bind fun M5 =>
            some (sF M5 42 ((gF M5 42) + (1 : Int32)))
          ) else (
            some M
          )
        )
      ).bind fun M2 =>
      L12_tickGoes_110 n (i1 + (1 : Int32)) M2
    )
noncomputable def L12_tickGoes_172 (c1 : Int32) : Nat → MS → Option (MS)
  | 0, _ => none
  | n + 1, M =>
    (f12_its M c1 (15 : Int32)).bind fun v1 =>
    if v1 = (1 : Int32) then (
      (f12_its M c1 (0 : Int32)).bind fun v2 =>
      (ld M 30 (1 : Int32)).bind fun v3 =>
      if v3 ≤ v2 then (
        some M
      ) else (
        (f12_its M c1 (0 : Int32)).bind fun v4 =>
        (f12_its M c1 ((2518 : Int32) + v4)).bind fun v5 =>
        if v5 = 0 then (
          (f12_comes M c1).bind fun M6 =>
          L12_tickGoes_172 c1 n M6
        ) else (
          some M
        )
      )
    ) else (
      some M
    )
noncomputable def L12_tickGoes_164 : Nat → Int32 → MS → Option (MS)
  | 0, _, _ => none
  | n + 1, i1, M =>
    if (gF M 32) ≤ i1 then (
      some M
    ) else (
      (L12_tickGoes_172 i1 FU M).bind fun M1 =>
      L12_tickGoes_164 n (i1 + (1 : Int32)) M1
    )
noncomputable def f12_tickGoes (M : MS) : Option (MS) :=
  (L12_tickGoes_2 FU (0 : Int32) M).bind fun M1 =>
  (L12_tickGoes_110 FU (0 : Int32) M1).bind fun M3 =>
  (L12_tickGoes_164 FU (0 : Int32) M3).bind fun M5 =>
  (ld M5 30 (0 : Int32)).bind fun v7 =>
  (sd M5 30 (0 : Int32) (v7 + (1 : Int32))).bind fun M8 =>
  some M8
theorem hd12_tickGoes : yX12_tickGoes.cls = "FarEditorsModel" ∧ yX12_tickGoes.cls ≠ "java/lang/invoke/MethodHandle" ∧ yX12_tickGoes.cls ≠ "java/lang/invoke/VarHandle" ∧ (parseMethodDescriptor yX12_tickGoes.desc).map (fun d => d.parameters.length) = some 0 := by decide +kernel
set_option maxHeartbeats 4000000 in
set_option maxRecDepth 100000 in
theorem L12_tickGoes_55_ok {E : CxT} {l : Launch} {D : va_G} {h : Nat} {q : Nat → Nat} {y : CyT} {zM uM z u : Nat} (hc : Cx E "FarEditorsModel" cX12_tickGoes 3) (hz : Cy E l D y 4 101 zM uM) (c1 : Int32) : ∀ (n : Nat) (i2 : Int32) (M : MS) {Mo : MS}, L12_tickGoes_55 c1 n i2 M = some Mo → (hx0 : V E z u (mw h q y Mo) 102 [(0, .ref h), (1, .int c1)] []) → V E z u (mw h q y M) 55 [(0, .ref h), (1, .int c1), (2, .int i2)] [] := by
  have hT := hz.2.2.1
  intro n
  induction n with
  | zero => intro i2 M Mo hf; cases hf
  | succ n ih =>
    intro i2 M Mo hf hx0
    unfold L12_tickGoes_55 at hf
    refine V_iload_n hc dX12_tickGoes_55 rfl 2 rfl ?_
    refine V_aload_n hc dX12_tickGoes_56 rfl 0 rfl ?_
    refine R_getr hc 30 rfl (by decide) w6_88 dX12_tickGoes_57 ?_
    refine V_iconst hc (v := (1 : Int32)) dX12_tickGoes_60 rfl ?_
    obtain ⟨v1, hv1, hf⟩ := mb hf
    refine R_iald hc hT rfl hv1 dX12_tickGoes_61 ?_
    refine V_icmp_ge hc dX12_tickGoes_62 rfl (fun hq62 => ?_) (fun hq62 => ?_)
    · rw [if_pos hq62] at hf
      obtain rfl := Option.some.inj hf
      exact V_sub [0, 1] rfl hx0
    · rw [if_neg hq62] at hf
      refine V_aload_n hc dX12_tickGoes_65 rfl 0 rfl ?_
      refine V_iload_n hc dX12_tickGoes_66 rfl 1 rfl ?_
      refine V_sipush hc (v := (2518 : Int32)) dX12_tickGoes_67 rfl ?_
      refine V_iload_n hc dX12_tickGoes_70 rfl 2 rfl ?_
      refine V_iadd hc dX12_tickGoes_71 ?_
      obtain ⟨v2, hv2, hf⟩ := mb hf
      refine R_callVi hc hz (As := [.int c1, .int ((2518 : Int32) + i2)]) (c12_its l D h q y _ _ _ _ hv2) w7_142 w7_144 wp5_7 w1_13 w7_145 hd12_its ⟨Nat.le_of_ble_eq_true rfl, Nat.le_of_ble_eq_true rfl⟩ rfl rfl (Nat.le_of_ble_eq_true rfl) dX12_tickGoes_72 ?_
      obtain ⟨M3, hv4, hf⟩ := mb hf
      have hJ75 : V E z u (mw h q y M3) 96 [(0, .ref h), (1, .int c1), (2, .int i2)] [] := by
        refine V_iinc hc (j := 2) (v := (i2 + (1 : Int32))) dX12_tickGoes_96 rfl rfl (by decide) rfl ?_
        refine V_goto hc dX12_tickGoes_99 rfl ?_
        exact V_sub [1, 2, 0] rfl (ih _ _ hf hx0)
      refine V_if_le hc dX12_tickGoes_75 rfl (fun hq75 => ?_) (fun hq75 => ?_)
      · rw [if_pos hq75] at hv4
        obtain rfl := Option.some.inj hv4
        exact V_sub [0, 1, 2] rfl hJ75
      · rw [if_neg hq75] at hv4
        refine V_aload_n hc dX12_tickGoes_78 rfl 0 rfl ?_
        refine R_getr hc 30 rfl (by decide) w6_88 dX12_tickGoes_79 ?_
        refine V_iload_n hc dX12_tickGoes_82 rfl 1 rfl ?_
        refine V_sipush hc (v := (2518 : Int32)) dX12_tickGoes_83 rfl ?_
        refine V_iload_n hc dX12_tickGoes_86 rfl 2 rfl ?_
        refine V_iadd hc dX12_tickGoes_87 ?_
        obtain ⟨v5, hv5, hv4⟩ := mb hv4
        refine R_callSi hc hz (As := [.int c1, .int ((2518 : Int32) + i2)]) (c12_of l D h q y _ _ _ _ hv5) w7_123 w7_124 w1_13 w7_125 hd12_of ⟨Nat.le_of_ble_eq_true rfl, Nat.le_of_ble_eq_true rfl⟩ rfl rfl (Nat.le_of_ble_eq_true rfl) dX12_tickGoes_88 ?_
        refine V_dup2 hc dX12_tickGoes_91 rfl rfl ?_
        obtain ⟨v6, hv6, hv4⟩ := mb hv4
        refine R_iald hc hT rfl hv6 dX12_tickGoes_92 ?_
        refine V_iconst hc (v := (1 : Int32)) dX12_tickGoes_93 rfl ?_
        refine V_isub hc dX12_tickGoes_94 ?_
        obtain ⟨M7, hM7, hv4⟩ := mb hv4
        refine R_iast hc hT rfl hM7 dX12_tickGoes_95 ?_
        obtain rfl := Option.some.inj hv4
        exact V_sub [0, 1, 2] rfl hJ75
set_option maxHeartbeats 4000000 in
set_option maxRecDepth 100000 in
theorem L12_tickGoes_2_ok {E : CxT} {l : Launch} {D : va_G} {h : Nat} {q : Nat → Nat} {y : CyT} {zM uM z u : Nat} (hc : Cx E "FarEditorsModel" cX12_tickGoes 3) (hz : Cy E l D y 4 101 zM uM) : ∀ (n : Nat) (i1 : Int32) (M : MS) {Mo : MS}, L12_tickGoes_2 n i1 M = some Mo → (hx0 : V E z u (mw h q y Mo) 108 [(0, .ref h)] []) → V E z u (mw h q y M) 2 [(0, .ref h), (1, .int i1)] [] := by
  have hT := hz.2.2.1
  intro n
  induction n with
  | zero => intro i1 M Mo hf; cases hf
  | succ n ih =>
    intro i1 M Mo hf hx0
    unfold L12_tickGoes_2 at hf
    refine V_iload_n hc dX12_tickGoes_2 rfl 1 rfl ?_
    refine V_aload_n hc dX12_tickGoes_3 rfl 0 rfl ?_
    refine R_geti hc 32 rfl (by decide) w6_90 dX12_tickGoes_4 ?_
    refine V_icmp_ge hc dX12_tickGoes_7 rfl (fun hq7 => ?_) (fun hq7 => ?_)
    · rw [if_pos hq7] at hf
      obtain rfl := Option.some.inj hf
      exact V_sub [0] rfl hx0
    · rw [if_neg hq7] at hf
      refine V_aload_n hc dX12_tickGoes_10 rfl 0 rfl ?_
      refine V_iload_n hc dX12_tickGoes_11 rfl 1 rfl ?_
      refine V_bipush hc (v := (15 : Int32)) dX12_tickGoes_12 rfl ?_
      obtain ⟨v1, hv1, hf⟩ := mb hf
      refine R_callVi hc hz (As := [.int i1, .int (15 : Int32)]) (c12_its l D h q y _ _ _ _ hv1) w7_142 w7_144 wp5_7 w1_13 w7_145 hd12_its ⟨Nat.le_of_ble_eq_true rfl, Nat.le_of_ble_eq_true rfl⟩ rfl rfl (Nat.le_of_ble_eq_true rfl) dX12_tickGoes_14 ?_
      obtain ⟨M2, hv3, hf⟩ := mb hf
      have hJ17 : V E z u (mw h q y M2) 102 [(0, .ref h), (1, .int i1)] [] := by
        refine V_iinc hc (j := 1) (v := (i1 + (1 : Int32))) dX12_tickGoes_102 rfl rfl (by decide) rfl ?_
        refine V_goto hc dX12_tickGoes_105 rfl ?_
        exact V_sub [1, 0] rfl (ih _ _ hf hx0)
      refine V_if_ne hc dX12_tickGoes_17 rfl (fun hq17 => ?_) (fun hq17 => ?_)
      · rw [if_neg hq17] at hv3
        refine V_aload_n hc dX12_tickGoes_23 rfl 0 rfl ?_
        refine V_iload_n hc dX12_tickGoes_24 rfl 1 rfl ?_
        refine V_bipush hc (v := (19 : Int32)) dX12_tickGoes_25 rfl ?_
        obtain ⟨v4, hv4, hv3⟩ := mb hv3
        refine R_callVi hc hz (As := [.int i1, .int (19 : Int32)]) (c12_its l D h q y _ _ _ _ hv4) w7_142 w7_144 wp5_7 w1_13 w7_145 hd12_its ⟨Nat.le_of_ble_eq_true rfl, Nat.le_of_ble_eq_true rfl⟩ rfl rfl (Nat.le_of_ble_eq_true rfl) dX12_tickGoes_27 ?_
        obtain ⟨M5, hv6, hv3⟩ := mb hv3
        have hJ30 : V E z u (mw h q y M5) 48 [(0, .ref h), (1, .int i1)] [] := by
          refine V_aload_n hc dX12_tickGoes_48 rfl 0 rfl ?_
          refine V_iload_n hc dX12_tickGoes_49 rfl 1 rfl ?_
          refine V_iconst hc (v := (0 : Int32)) dX12_tickGoes_50 rfl ?_
          obtain ⟨v10, hv10, hv3⟩ := mb hv3
          refine R_callVi hc hz (As := [.int i1, .int (0 : Int32)]) (c12_its l D h q y _ _ _ _ hv10) w7_142 w7_144 wp5_7 w1_13 w7_145 hd12_its ⟨Nat.le_of_ble_eq_true rfl, Nat.le_of_ble_eq_true rfl⟩ rfl rfl (Nat.le_of_ble_eq_true rfl) dX12_tickGoes_51 ?_
          refine V_istore_n hc dX12_tickGoes_54 rfl (by decide) rfl ?_
          obtain ⟨M11, hv12, hv3⟩ := mb hv3
          refine V_sub [1, 2, 0] rfl (L12_tickGoes_55_ok hc hz i1 FU _ _ hv12 ?_)
          obtain rfl := Option.some.inj hv3
          exact V_sub [0, 1] rfl hJ17
        refine V_if_le hc dX12_tickGoes_30 rfl (fun hq30 => ?_) (fun hq30 => ?_)
        · rw [if_pos hq30] at hv6
          obtain rfl := Option.some.inj hv6
          exact V_sub [0, 1] rfl hJ30
        · rw [if_neg hq30] at hv6
          refine V_aload_n hc dX12_tickGoes_33 rfl 0 rfl ?_
          refine R_getr hc 30 rfl (by decide) w6_88 dX12_tickGoes_34 ?_
          refine V_iload_n hc dX12_tickGoes_37 rfl 1 rfl ?_
          refine V_bipush hc (v := (19 : Int32)) dX12_tickGoes_38 rfl ?_
          obtain ⟨v7, hv7, hv6⟩ := mb hv6
          refine R_callSi hc hz (As := [.int i1, .int (19 : Int32)]) (c12_of l D h q y _ _ _ _ hv7) w7_123 w7_124 w1_13 w7_125 hd12_of ⟨Nat.le_of_ble_eq_true rfl, Nat.le_of_ble_eq_true rfl⟩ rfl rfl (Nat.le_of_ble_eq_true rfl) dX12_tickGoes_40 ?_
          refine V_dup2 hc dX12_tickGoes_43 rfl rfl ?_
          obtain ⟨v8, hv8, hv6⟩ := mb hv6
          refine R_iald hc hT rfl hv8 dX12_tickGoes_44 ?_
          refine V_iconst hc (v := (1 : Int32)) dX12_tickGoes_45 rfl ?_
          refine V_isub hc dX12_tickGoes_46 ?_
          obtain ⟨M9, hM9, hv6⟩ := mb hv6
          refine R_iast hc hT rfl hM9 dX12_tickGoes_47 ?_
          obtain rfl := Option.some.inj hv6
          exact V_sub [0, 1] rfl hJ30
      · rw [if_pos hq17] at hv3
        refine V_goto hc dX12_tickGoes_20 rfl ?_
        obtain rfl := Option.some.inj hv3
        exact V_sub [0, 1] rfl hJ17
set_option maxHeartbeats 4000000 in
set_option maxRecDepth 100000 in
theorem L12_tickGoes_110_ok {E : CxT} {l : Launch} {D : va_G} {h : Nat} {q : Nat → Nat} {y : CyT} {zM uM z u : Nat} (hc : Cx E "FarEditorsModel" cX12_tickGoes 3) (hz : Cy E l D y 4 101 zM uM) : ∀ (n : Nat) (i1 : Int32) (M : MS) {Mo : MS}, L12_tickGoes_110 n i1 M = some Mo → (hx0 : V E z u (mw h q y Mo) 162 [(0, .ref h)] []) → V E z u (mw h q y M) 110 [(0, .ref h), (1, .int i1)] [] := by
  have hT := hz.2.2.1
  intro n
  induction n with
  | zero => intro i1 M Mo hf; cases hf
  | succ n ih =>
    intro i1 M Mo hf hx0
    unfold L12_tickGoes_110 at hf
    refine V_iload_n hc dX12_tickGoes_110 rfl 1 rfl ?_
    refine V_aload_n hc dX12_tickGoes_111 rfl 0 rfl ?_
    refine R_geti hc 32 rfl (by decide) w6_90 dX12_tickGoes_112 ?_
    refine V_icmp_ge hc dX12_tickGoes_115 rfl (fun hq115 => ?_) (fun hq115 => ?_)
    · rw [if_pos hq115] at hf
      obtain rfl := Option.some.inj hf
      exact V_sub [0] rfl hx0
    · rw [if_neg hq115] at hf
      refine V_aload_n hc dX12_tickGoes_118 rfl 0 rfl ?_
      refine V_iload_n hc dX12_tickGoes_119 rfl 1 rfl ?_
      refine V_bipush hc (v := (15 : Int32)) dX12_tickGoes_120 rfl ?_
      obtain ⟨v1, hv1, hf⟩ := mb hf
      refine R_callVi hc hz (As := [.int i1, .int (15 : Int32)]) (c12_its l D h q y _ _ _ _ hv1) w7_142 w7_144 wp5_7 w1_13 w7_145 hd12_its ⟨Nat.le_of_ble_eq_true rfl, Nat.le_of_ble_eq_true rfl⟩ rfl rfl (Nat.le_of_ble_eq_true rfl) dX12_tickGoes_122 ?_
      obtain ⟨M2, hv3, hf⟩ := mb hf
      have hJ125 : V E z u (mw h q y M2) 156 [(0, .ref h), (1, .int i1)] [] := by
        refine V_iinc hc (j := 1) (v := (i1 + (1 : Int32))) dX12_tickGoes_156 rfl rfl (by decide) rfl ?_
        refine V_goto hc dX12_tickGoes_159 rfl ?_
        exact V_sub [1, 0] rfl (ih _ _ hf hx0)
      refine V_if_eq hc dX12_tickGoes_125 rfl (fun hq125 => ?_) (fun hq125 => ?_)
      · rw [if_pos hq125] at hv3
        obtain rfl := Option.some.inj hv3
        exact V_sub [0, 1] rfl hJ125
      · rw [if_neg hq125] at hv3
        refine V_aload_n hc dX12_tickGoes_128 rfl 0 rfl ?_
        refine V_iload_n hc dX12_tickGoes_129 rfl 1 rfl ?_
        refine V_bipush hc (v := (19 : Int32)) dX12_tickGoes_130 rfl ?_
        obtain ⟨v4, hv4, hv3⟩ := mb hv3
        refine R_callVi hc hz (As := [.int i1, .int (19 : Int32)]) (c12_its l D h q y _ _ _ _ hv4) w7_142 w7_144 wp5_7 w1_13 w7_145 hd12_its ⟨Nat.le_of_ble_eq_true rfl, Nat.le_of_ble_eq_true rfl⟩ rfl rfl (Nat.le_of_ble_eq_true rfl) dX12_tickGoes_132 ?_
        refine V_if_eq hc dX12_tickGoes_135 rfl (fun hq135 => ?_) (fun hq135 => ?_)
        · rw [if_pos hq135] at hv3
          refine V_aload_n hc dX12_tickGoes_141 rfl 0 rfl ?_
          refine V_iload_n hc dX12_tickGoes_142 rfl 1 rfl ?_
          obtain ⟨M5, hM5, hv3⟩ := mb hv3
          refine R_callVv hc hz (As := [.int i1]) (c12_serverTakes l D h q y _ _ _ _ hM5) w8_16 w8_18 wp6_15 w1_13 w8_19 hd12_serverTakes ⟨Nat.le_of_ble_eq_true rfl, Nat.le_of_ble_eq_true rfl⟩ rfl rfl (Nat.le_of_ble_eq_true rfl) dX12_tickGoes_143 ?_
          refine V_aload_n hc dX12_tickGoes_146 rfl 0 rfl ?_
          refine V_dup hc dX12_tickGoes_147 rfl ?_
          refine R_geti hc 42 rfl (by decide) w6_100 dX12_tickGoes_148 ?_
          refine V_iconst hc (v := (1 : Int32)) dX12_tickGoes_151 rfl ?_
          refine V_iadd hc dX12_tickGoes_152 ?_
          refine R_puti hc 42 rfl (by decide) w6_100 rfl rfl rfl dX12_tickGoes_153 ?_
          obtain rfl := Option.some.inj hv3
          exact V_sub [0, 1] rfl hJ125
        · rw [if_neg hq135] at hv3
          refine V_goto hc dX12_tickGoes_138 rfl ?_
          obtain rfl := Option.some.inj hv3
          exact V_sub [0, 1] rfl hJ125
set_option maxHeartbeats 4000000 in
set_option maxRecDepth 100000 in
theorem L12_tickGoes_172_ok {E : CxT} {l : Launch} {D : va_G} {h : Nat} {q : Nat → Nat} {y : CyT} {zM uM z u : Nat} (hc : Cx E "FarEditorsModel" cX12_tickGoes 3) (hz : Cy E l D y 4 101 zM uM) (c1 : Int32) : ∀ (n : Nat) (M : MS) {Mo : MS}, L12_tickGoes_172 c1 n M = some Mo → (hx0 : V E z u (mw h q y Mo) 224 [(0, .ref h), (1, .int c1)] []) → V E z u (mw h q y M) 172 [(0, .ref h), (1, .int c1)] [] := by
  have hT := hz.2.2.1
  intro n
  induction n with
  | zero => intro M Mo hf; cases hf
  | succ n ih =>
    intro M Mo hf hx0
    unfold L12_tickGoes_172 at hf
    refine V_aload_n hc dX12_tickGoes_172 rfl 0 rfl ?_
    refine V_iload_n hc dX12_tickGoes_173 rfl 1 rfl ?_
    refine V_bipush hc (v := (15 : Int32)) dX12_tickGoes_174 rfl ?_
    obtain ⟨v1, hv1, hf⟩ := mb hf
    refine R_callVi hc hz (As := [.int c1, .int (15 : Int32)]) (c12_its l D h q y _ _ _ _ hv1) w7_142 w7_144 wp5_7 w1_13 w7_145 hd12_its ⟨Nat.le_of_ble_eq_true rfl, Nat.le_of_ble_eq_true rfl⟩ rfl rfl (Nat.le_of_ble_eq_true rfl) dX12_tickGoes_176 ?_
    refine V_iconst hc (v := (1 : Int32)) dX12_tickGoes_179 rfl ?_
    refine V_icmp_ne hc dX12_tickGoes_180 rfl (fun hq180 => ?_) (fun hq180 => ?_)
    · rw [if_neg hq180] at hf
      obtain rfl := Option.some.inj hf
      exact V_sub [0, 1] rfl hx0
    · rw [if_pos hq180] at hf
      refine V_aload_n hc dX12_tickGoes_183 rfl 0 rfl ?_
      refine V_iload_n hc dX12_tickGoes_184 rfl 1 rfl ?_
      refine V_iconst hc (v := (0 : Int32)) dX12_tickGoes_185 rfl ?_
      obtain ⟨v2, hv2, hf⟩ := mb hf
      refine R_callVi hc hz (As := [.int c1, .int (0 : Int32)]) (c12_its l D h q y _ _ _ _ hv2) w7_142 w7_144 wp5_7 w1_13 w7_145 hd12_its ⟨Nat.le_of_ble_eq_true rfl, Nat.le_of_ble_eq_true rfl⟩ rfl rfl (Nat.le_of_ble_eq_true rfl) dX12_tickGoes_186 ?_
      refine V_aload_n hc dX12_tickGoes_189 rfl 0 rfl ?_
      refine R_getr hc 30 rfl (by decide) w6_88 dX12_tickGoes_190 ?_
      refine V_iconst hc (v := (1 : Int32)) dX12_tickGoes_193 rfl ?_
      obtain ⟨v3, hv3, hf⟩ := mb hf
      refine R_iald hc hT rfl hv3 dX12_tickGoes_194 ?_
      refine V_icmp_ge hc dX12_tickGoes_195 rfl (fun hq195 => ?_) (fun hq195 => ?_)
      · rw [if_pos hq195] at hf
        obtain rfl := Option.some.inj hf
        exact V_sub [0, 1] rfl hx0
      · rw [if_neg hq195] at hf
        refine V_aload_n hc dX12_tickGoes_198 rfl 0 rfl ?_
        refine V_iload_n hc dX12_tickGoes_199 rfl 1 rfl ?_
        refine V_sipush hc (v := (2518 : Int32)) dX12_tickGoes_200 rfl ?_
        refine V_aload_n hc dX12_tickGoes_203 rfl 0 rfl ?_
        refine V_iload_n hc dX12_tickGoes_204 rfl 1 rfl ?_
        refine V_iconst hc (v := (0 : Int32)) dX12_tickGoes_205 rfl ?_
        obtain ⟨v4, hv4, hf⟩ := mb hf
        refine R_callVi hc hz (As := [.int c1, .int (0 : Int32)]) (c12_its l D h q y _ _ _ _ hv4) w7_142 w7_144 wp5_7 w1_13 w7_145 hd12_its ⟨Nat.le_of_ble_eq_true rfl, Nat.le_of_ble_eq_true rfl⟩ rfl rfl (Nat.le_of_ble_eq_true rfl) dX12_tickGoes_206 ?_
        refine V_iadd hc dX12_tickGoes_209 ?_
        obtain ⟨v5, hv5, hf⟩ := mb hf
        refine R_callVi hc hz (As := [.int c1, .int ((2518 : Int32) + v4)]) (c12_its l D h q y _ _ _ _ hv5) w7_142 w7_144 wp5_7 w1_13 w7_145 hd12_its ⟨Nat.le_of_ble_eq_true rfl, Nat.le_of_ble_eq_true rfl⟩ rfl rfl (Nat.le_of_ble_eq_true rfl) dX12_tickGoes_210 ?_
        refine V_if_ne hc dX12_tickGoes_213 rfl (fun hq213 => ?_) (fun hq213 => ?_)
        · rw [if_neg hq213] at hf
          obtain rfl := Option.some.inj hf
          exact V_sub [0, 1] rfl hx0
        · rw [if_pos hq213] at hf
          refine V_aload_n hc dX12_tickGoes_216 rfl 0 rfl ?_
          refine V_iload_n hc dX12_tickGoes_217 rfl 1 rfl ?_
          obtain ⟨M6, hM6, hf⟩ := mb hf
          refine R_callVv hc hz (As := [.int c1]) (c12_comes l D h q y _ _ _ _ hM6) w8_40 w8_42 wp7_5 w1_13 w8_43 hd12_comes ⟨Nat.le_of_ble_eq_true rfl, Nat.le_of_ble_eq_true rfl⟩ rfl rfl (Nat.le_of_ble_eq_true rfl) dX12_tickGoes_218 ?_
          refine V_goto hc dX12_tickGoes_221 rfl ?_
          exact V_sub [0, 1] rfl (ih _ hf hx0)
set_option maxHeartbeats 4000000 in
set_option maxRecDepth 100000 in
theorem L12_tickGoes_164_ok {E : CxT} {l : Launch} {D : va_G} {h : Nat} {q : Nat → Nat} {y : CyT} {zM uM z u : Nat} (hc : Cx E "FarEditorsModel" cX12_tickGoes 3) (hz : Cy E l D y 4 101 zM uM) : ∀ (n : Nat) (i1 : Int32) (M : MS) {Mo : MS}, L12_tickGoes_164 n i1 M = some Mo → (hx0 : V E z u (mw h q y Mo) 230 [(0, .ref h)] []) → V E z u (mw h q y M) 164 [(0, .ref h), (1, .int i1)] [] := by
  have hT := hz.2.2.1
  intro n
  induction n with
  | zero => intro i1 M Mo hf; cases hf
  | succ n ih =>
    intro i1 M Mo hf hx0
    unfold L12_tickGoes_164 at hf
    refine V_iload_n hc dX12_tickGoes_164 rfl 1 rfl ?_
    refine V_aload_n hc dX12_tickGoes_165 rfl 0 rfl ?_
    refine R_geti hc 32 rfl (by decide) w6_90 dX12_tickGoes_166 ?_
    refine V_icmp_ge hc dX12_tickGoes_169 rfl (fun hq169 => ?_) (fun hq169 => ?_)
    · rw [if_pos hq169] at hf
      obtain rfl := Option.some.inj hf
      exact V_sub [0] rfl hx0
    · rw [if_neg hq169] at hf
      obtain ⟨M1, hv2, hf⟩ := mb hf
      refine V_sub [0, 1] rfl (L12_tickGoes_172_ok hc hz i1 FU _ hv2 ?_)
      refine V_iinc hc (j := 1) (v := (i1 + (1 : Int32))) dX12_tickGoes_224 rfl rfl (by decide) rfl ?_
      refine V_goto hc dX12_tickGoes_227 rfl ?_
      exact V_sub [1, 0] rfl (ih _ _ hf hx0)
set_option maxHeartbeats 4000000 in
set_option maxRecDepth 100000 in
theorem c12_tickGoes (l : Launch) (D : va_G) (h : Nat) (q : Nat → Nat) (y : CyT) (zM uM z u : Nat) {M M' : MS} (hf : f12_tickGoes M = some M') : CT l D y yX12_tickGoes cX12_tickGoes 3 none 4 101 zM uM [.ref h] z u (mw h q y M) z u (mw h q y M') none := by
  refine CT.of (by decide) (Nat.le_of_ble_eq_true rfl) (fun E hc hzz hnm => ?_)
  have hc : Cx E "FarEditorsModel" cX12_tickGoes 3 := hc
  have hz := hzz.1
  have hT := hz.2.2.1
  show V E z u (mw h q y M) 0 [(0, .ref h)] []
  unfold f12_tickGoes at hf
  refine V_iconst hc (v := (0 : Int32)) dX12_tickGoes_0 rfl ?_
  refine V_istore_n hc dX12_tickGoes_1 rfl (by decide) rfl ?_
  obtain ⟨M1, hv2, hf⟩ := mb hf
  refine V_sub [1, 0] rfl (L12_tickGoes_2_ok hc hz FU _ _ hv2 ?_)
  refine V_iconst hc (v := (0 : Int32)) dX12_tickGoes_108 rfl ?_
  refine V_istore_n hc dX12_tickGoes_109 rfl (by decide) rfl ?_
  obtain ⟨M3, hv4, hf⟩ := mb hf
  refine V_sub [1, 0] rfl (L12_tickGoes_110_ok hc hz FU _ _ hv4 ?_)
  refine V_iconst hc (v := (0 : Int32)) dX12_tickGoes_162 rfl ?_
  refine V_istore_n hc dX12_tickGoes_163 rfl (by decide) rfl ?_
  obtain ⟨M5, hv6, hf⟩ := mb hf
  refine V_sub [1, 0] rfl (L12_tickGoes_164_ok hc hz FU _ _ hv6 ?_)
  refine V_aload_n hc dX12_tickGoes_230 rfl 0 rfl ?_
  refine R_getr hc 30 rfl (by decide) w6_88 dX12_tickGoes_231 ?_
  refine V_iconst hc (v := (0 : Int32)) dX12_tickGoes_234 rfl ?_
  refine V_dup2 hc dX12_tickGoes_235 rfl rfl ?_
  obtain ⟨v7, hv7, hf⟩ := mb hf
  refine R_iald hc hT rfl hv7 dX12_tickGoes_236 ?_
  refine V_iconst hc (v := (1 : Int32)) dX12_tickGoes_237 rfl ?_
  refine V_iadd hc dX12_tickGoes_238 ?_
  obtain ⟨M8, hM8, hf⟩ := mb hf
  refine R_iast hc hT rfl hM8 dX12_tickGoes_239 ?_
  obtain rfl := Option.some.inj hf
  exact V_vret hc hzz rfl rfl rfl rfl dX12_tickGoes_240
