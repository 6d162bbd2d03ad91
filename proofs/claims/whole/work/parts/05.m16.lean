noncomputable def f12_drawOf (M : MS) (p1 : Int32) : Option (Int32 × MS) :=
  if p1.toInt64 = 0 then none else
  some ((((sL M ((((1103515245 : Int64) * M.2.2) + (12345 : Int64)) - (((1103515245 : Int64) * M.2.2) + (12345 : Int64)) / (2147483648 : Int64) * (2147483648 : Int64))).2.2 / (64 : Int64)) - ((sL M ((((1103515245 : Int64) * M.2.2) + (12345 : Int64)) - (((1103515245 : Int64) * M.2.2) + (12345 : Int64)) / (2147483648 : Int64) * (2147483648 : Int64))).2.2 / (64 : Int64)) / p1.toInt64 * p1.toInt64).toInt32, (sL M ((((1103515245 : Int64) * M.2.2) + (12345 : Int64)) - (((1103515245 : Int64) * M.2.2) + (12345 : Int64)) / (2147483648 : Int64) * (2147483648 : Int64))))
theorem hd12_drawOf : yX12_drawOf.cls = "FarEditorsModel" ∧ yX12_drawOf.cls ≠ "java/lang/invoke/MethodHandle" ∧ yX12_drawOf.cls ≠ "java/lang/invoke/VarHandle" ∧ (parseMethodDescriptor yX12_drawOf.desc).map (fun d => d.parameters.length) = some 1 := by decide +kernel
set_option maxHeartbeats 4000000 in
set_option maxRecDepth 100000 in
theorem c12_drawOf (l : Launch) (D : va_G) (h : Nat) (q : Nat → Nat) (y : CyT) (zM uM z u : Nat) {M M' : MS} {p1 : Int32} {r : Int32} (hf : f12_drawOf M p1 = some (r, M')) : CT l D y yX12_drawOf cX12_drawOf 2 (some .int) 0 0 zM uM [.ref h, .int p1] z u (mw h q y M) z u (mw h q y M') (some (.int r)) := by
  refine CT.of (by decide) (Nat.le_of_ble_eq_true rfl) (fun E hc hzz hnm => ?_)
  have hc : Cx E "FarEditorsModel" cX12_drawOf 2 := hc
  have hz := hzz.1
  have hT := hz.2.2.1
  show V E z u (mw h q y M) 0 [(0, .ref h), (1, .int p1)] []
  unfold f12_drawOf at hf
  refine V_aload_n hc dX12_drawOf_0 rfl 0 rfl ?_
  refine V_ldc2 hc w9_74 dX12_drawOf_1 ?_
  refine V_aload_n hc dX12_drawOf_4 rfl 0 rfl ?_
  refine R_getl hc w6_121 dX12_drawOf_5 ?_
  refine V_lmul hc dX12_drawOf_8 ?_
  refine V_ldc2 hc w9_75 dX12_drawOf_9 ?_
  refine V_ladd hc dX12_drawOf_12 ?_
  refine V_ldc2 hc w9_76 dX12_drawOf_13 ?_
  refine V_lrem hc dX12_drawOf_16 (by decide) ?_
  refine R_putl hc w6_121 dX12_drawOf_17 ?_
  refine V_aload_n hc dX12_drawOf_20 rfl 0 rfl ?_
  refine R_getl hc w6_121 dX12_drawOf_21 ?_
  refine V_ldc2 hc w9_77 dX12_drawOf_24 ?_
  refine V_ldiv hc dX12_drawOf_27 (by decide) ?_
  refine V_iload_n hc dX12_drawOf_28 rfl 1 rfl ?_
  refine V_i2l hc dX12_drawOf_29 ?_
  have hn1 : ¬ p1.toInt64 = 0 := fun hh => by rw [if_pos hh] at hf; cases hf
  rw [if_neg hn1] at hf
  refine V_lrem hc dX12_drawOf_30 hn1 ?_
  refine V_l2i hc dX12_drawOf_31 ?_
  obtain ⟨rfl, rfl⟩ := si2 hf
  exact V_iret hc hzz rfl rfl rfl rfl rfl dX12_drawOf_32
noncomputable def f12_isDrawn (M : MS) : Option (Int32 × MS) :=
  bn2 (f12_drawOf M (4 : Int32)) fun v1 M2 =>
  if v1 = (3 : Int32) then (
    (ld M2 30 (0 : Int32)).bind fun v32 =>
    (
      if (999 : Int32) ≤ v32 then (
        some M2
      ) else (
        (f12_tickGoes M2).bind fun M35 =>
        some M35
      )
    ).bind fun M33 =>
    some ((0 : Int32), M33)
  ) else (
    bn2 (f12_drawOf M2 (gF M2 32)) fun v3 M4 =>
    if v1 = (2 : Int32) then (
      (f12_its M4 v3 (21 : Int32)).bind fun v18 =>
      if v18 = 0 then (
        some ((0 : Int32), M4)
      ) else (
        (f12_its M4 v3 (21 : Int32)).bind fun v19 =>
        (
          if v1 = (2 : Int32) then (
            some (0 : Int32)
          ) else (
            some (1 : Int32)
          )
        ).bind fun v20 =>
        bn2 (f12_drawOf M4 (v19 + v20)) fun v22 M23 =>
        (
          if v1 = (2 : Int32) then (
            (f12_laysA M23 v3 v22 (0 : Int32) (1 : Int32)).bind fun M29 =>
            some M29
          ) else (
            bn2 (f12_drawOf M23 (26 : Int32)) fun v26 M27 =>
            (f12_laysA M27 v3 v22 (v26 + (1 : Int32)) (0 : Int32)).bind fun M28 =>
            some M28
          )
        ).bind fun M24 =>
        (f12_canEdit M24).bind fun v30 =>
        if v30 = 0 then (
          some ((0 : Int32), M24)
        ) else (
          (f12_edits M24 v3 (0 : Int32)).bind fun M31 =>
          some ((1 : Int32), M31)
        )
      )
    ) else (
      (f12_its M4 v3 (21 : Int32)).bind fun v5 =>
      (
        if v1 = (2 : Int32) then (
          some (0 : Int32)
        ) else (
          some (1 : Int32)
        )
      ).bind fun v6 =>
      bn2 (f12_drawOf M4 (v5 + v6)) fun v8 M9 =>
      (
        if v1 = (2 : Int32) then (
          (f12_laysA M9 v3 v8 (0 : Int32) (1 : Int32)).bind fun M15 =>
          some M15
        ) else (
          bn2 (f12_drawOf M9 (26 : Int32)) fun v12 M13 =>
          (f12_laysA M13 v3 v8 (v12 + (1 : Int32)) (0 : Int32)).bind fun M14 =>
          some M14
        )
      ).bind fun M10 =>
      (f12_canEdit M10).bind fun v16 =>
      if v16 = 0 then (
        some ((0 : Int32), M10)
      ) else (
        (f12_edits M10 v3 (0 : Int32)).bind fun M17 =>
        some ((1 : Int32), M17)
      )
    )
  )
theorem hd12_isDrawn : yX12_isDrawn.cls = "FarEditorsModel" ∧ yX12_isDrawn.cls ≠ "java/lang/invoke/MethodHandle" ∧ yX12_isDrawn.cls ≠ "java/lang/invoke/VarHandle" ∧ (parseMethodDescriptor yX12_isDrawn.desc).map (fun d => d.parameters.length) = some 0 := by decide +kernel
set_option maxHeartbeats 4000000 in
set_option maxRecDepth 100000 in
theorem c12_isDrawn (l : Launch) (D : va_G) (h : Nat) (q : Nat → Nat) (y : CyT) (zM uM z u : Nat) {M M' : MS} {r : Int32} (hf : f12_isDrawn M = some (r, M')) : CT l D y yX12_isDrawn cX12_isDrawn 4 (some .boolean) 5 123 zM uM [.ref h] z u (mw h q y M) z u (mw h q y M') (some (.int r)) := by
  refine CT.of (by decide) (Nat.le_of_ble_eq_true rfl) (fun E hc hzz hnm => ?_)
  have hc : Cx E "FarEditorsModel" cX12_isDrawn 4 := hc
  have hz := hzz.1
  have hT := hz.2.2.1
  show V E z u (mw h q y M) 0 [(0, .ref h)] []
  unfold f12_isDrawn at hf
  refine V_aload_n hc dX12_isDrawn_0 rfl 0 rfl ?_
  refine V_iconst hc (v := (4 : Int32)) dX12_isDrawn_1 rfl ?_
  obtain ⟨v1, M2, hv1, hf⟩ := mb2 hf
  refine R_callVi hc hz (As := [.int (4 : Int32)]) (c12_drawOf l D h q y _ _ _ _ hv1) w9_70 w9_72 wp9_5 w1_13 w9_73 hd12_drawOf ⟨Nat.le_of_ble_eq_true rfl, Nat.le_of_ble_eq_true rfl⟩ rfl rfl (Nat.le_of_ble_eq_true rfl) dX12_isDrawn_2 ?_
  refine V_istore_n hc dX12_isDrawn_5 rfl (by decide) rfl ?_
  refine V_iload_n hc dX12_isDrawn_6 rfl 0 rfl ?_
  refine V_iconst hc (v := (3 : Int32)) dX12_isDrawn_7 rfl ?_
  refine V_icmp_ne hc dX12_isDrawn_8 rfl (fun hq8 => ?_) (fun hq8 => ?_)
  · rw [if_neg hq8] at hf
    refine V_aload_n hc dX12_isDrawn_29 rfl 1 rfl ?_
    refine V_aload_n hc dX12_isDrawn_30 rfl 1 rfl ?_
    refine R_geti hc 32 rfl (by decide) w6_90 dX12_isDrawn_31 ?_
    obtain ⟨v3, M4, hv3, hf⟩ := mb2 hf
    refine R_callVi hc hz (As := [.int (gF M2 32)]) (c12_drawOf l D h q y _ _ _ _ hv3) w9_70 w9_72 wp9_5 w1_13 w9_73 hd12_drawOf ⟨Nat.le_of_ble_eq_true rfl, Nat.le_of_ble_eq_true rfl⟩ rfl rfl (Nat.le_of_ble_eq_true rfl) dX12_isDrawn_34 ?_
    refine V_istore_n hc dX12_isDrawn_37 rfl (by decide) rfl ?_
    refine V_iload_n hc dX12_isDrawn_38 rfl 1 rfl ?_
    refine V_iconst hc (v := (2 : Int32)) dX12_isDrawn_39 rfl ?_
    refine V_icmp_ne hc dX12_isDrawn_40 rfl (fun hq40 => ?_) (fun hq40 => ?_)
    · rw [if_neg hq40] at hf
      refine V_aload_n hc dX12_isDrawn_55 rfl 2 rfl ?_
      refine V_aload_n hc dX12_isDrawn_56 rfl 2 rfl ?_
      refine V_iload_n hc dX12_isDrawn_57 rfl 0 rfl ?_
      refine V_bipush hc (v := (21 : Int32)) dX12_isDrawn_58 rfl ?_
      obtain ⟨v5, hv5, hf⟩ := mb hf
      refine R_callVi hc hz (As := [.int v3, .int (21 : Int32)]) (c12_its l D h q y _ _ _ _ hv5) w7_142 w7_144 wp5_7 w1_13 w7_145 hd12_its ⟨Nat.le_of_ble_eq_true rfl, Nat.le_of_ble_eq_true rfl⟩ rfl rfl (Nat.le_of_ble_eq_true rfl) dX12_isDrawn_60 ?_
      refine V_iload_n hc dX12_isDrawn_63 rfl 1 rfl ?_
      refine V_iconst hc (v := (2 : Int32)) dX12_isDrawn_64 rfl ?_
      obtain ⟨v6, hv7, hf⟩ := mb hf
      have hJ65 : V E z u (mw h q y M4) 73 [(0, .ref h), (1, .int v1), (2, .int v3)] [.int v6, .int v5, .ref h] := by
        refine V_iadd hc dX12_isDrawn_73 ?_
        obtain ⟨v8, M9, hv8, hf⟩ := mb2 hf
        refine R_callVi hc hz (As := [.int (v5 + v6)]) (c12_drawOf l D h q y _ _ _ _ hv8) w9_70 w9_72 wp9_5 w1_13 w9_73 hd12_drawOf ⟨Nat.le_of_ble_eq_true rfl, Nat.le_of_ble_eq_true rfl⟩ rfl rfl (Nat.le_of_ble_eq_true rfl) dX12_isDrawn_74 ?_
        refine V_istore_n hc dX12_isDrawn_77 rfl (by decide) rfl ?_
        refine V_iload_n hc dX12_isDrawn_78 rfl 2 rfl ?_
        refine V_iconst hc (v := (2 : Int32)) dX12_isDrawn_79 rfl ?_
        obtain ⟨M10, hv11, hf⟩ := mb hf
        have hJ80 : V E z u (mw h q y M10) 109 [(0, .ref h), (2, .int v3)] [] := by
          refine V_aload_n hc dX12_isDrawn_109 rfl 0 rfl ?_
          obtain ⟨v16, hv16, hf⟩ := mb hf
          refine R_callVi hc hz (As := []) (c12_canEdit l D h q y _ _ _ _ hv16) w7_154 w7_156 wp5_10 w1_13 w7_157 hd12_canEdit ⟨Nat.le_of_ble_eq_true rfl, Nat.le_of_ble_eq_true rfl⟩ rfl rfl (Nat.le_of_ble_eq_true rfl) dX12_isDrawn_110 ?_
          refine V_if_ne hc dX12_isDrawn_113 rfl (fun hq113 => ?_) (fun hq113 => ?_)
          · rw [if_neg hq113] at hf
            refine V_aload_n hc dX12_isDrawn_118 rfl 0 rfl ?_
            refine V_iload_n hc dX12_isDrawn_119 rfl 1 rfl ?_
            refine V_iconst hc (v := (0 : Int32)) dX12_isDrawn_120 rfl ?_
            obtain ⟨M17, hM17, hf⟩ := mb hf
            refine R_callVv hc hz (As := [.int v3, .int (0 : Int32)]) (c12_edits l D h q y _ _ _ _ hM17) w7_164 w7_166 wp5_11 w1_13 w7_167 hd12_edits ⟨Nat.le_of_ble_eq_true rfl, Nat.le_of_ble_eq_true rfl⟩ rfl rfl (Nat.le_of_ble_eq_true rfl) dX12_isDrawn_121 ?_
            refine V_iconst hc (v := (1 : Int32)) dX12_isDrawn_124 rfl ?_
            obtain ⟨rfl, rfl⟩ := si2 hf
            exact V_iret hc hzz rfl rfl rfl rfl rfl dX12_isDrawn_125
          · rw [if_pos hq113] at hf
            refine V_iconst hc (v := (0 : Int32)) dX12_isDrawn_116 rfl ?_
            obtain ⟨rfl, rfl⟩ := si2 hf
            exact V_iret hc hzz rfl rfl rfl rfl rfl dX12_isDrawn_117
        refine V_icmp_ne hc dX12_isDrawn_80 rfl (fun hq80 => ?_) (fun hq80 => ?_)
        · rw [if_neg hq80] at hv11
          refine V_aload_n hc dX12_isDrawn_94 rfl 1 rfl ?_
          refine V_iload_n hc dX12_isDrawn_95 rfl 3 rfl ?_
          refine V_iload_n hc dX12_isDrawn_96 rfl 0 rfl ?_
          refine V_aload_n hc dX12_isDrawn_97 rfl 1 rfl ?_
          refine V_bipush hc (v := (26 : Int32)) dX12_isDrawn_98 rfl ?_
          obtain ⟨v12, M13, hv12, hv11⟩ := mb2 hv11
          refine R_callVi hc hz (As := [.int (26 : Int32)]) (c12_drawOf l D h q y _ _ _ _ hv12) w9_70 w9_72 wp9_5 w1_13 w9_73 hd12_drawOf ⟨Nat.le_of_ble_eq_true rfl, Nat.le_of_ble_eq_true rfl⟩ rfl rfl (Nat.le_of_ble_eq_true rfl) dX12_isDrawn_100 ?_
          refine V_iconst hc (v := (1 : Int32)) dX12_isDrawn_103 rfl ?_
          refine V_iadd hc dX12_isDrawn_104 ?_
          refine V_iconst hc (v := (0 : Int32)) dX12_isDrawn_105 rfl ?_
          obtain ⟨M14, hM14, hv11⟩ := mb hv11
          refine R_callVv hc hz (As := [.int v3, .int v8, .int (v12 + (1 : Int32)), .int (0 : Int32)]) (c12_laysA l D h q y _ _ _ _ hM14) w9_3 w9_5 wp9_1 w1_13 w9_6 hd12_laysA ⟨Nat.le_of_ble_eq_true rfl, Nat.le_of_ble_eq_true rfl⟩ rfl rfl (Nat.le_of_ble_eq_true rfl) dX12_isDrawn_106 ?_
          obtain rfl := Option.some.inj hv11
          exact V_sub [1, 3] rfl hJ80
        · rw [if_pos hq80] at hv11
          refine V_aload_n hc dX12_isDrawn_83 rfl 1 rfl ?_
          refine V_iload_n hc dX12_isDrawn_84 rfl 3 rfl ?_
          refine V_iload_n hc dX12_isDrawn_85 rfl 0 rfl ?_
          refine V_iconst hc (v := (0 : Int32)) dX12_isDrawn_86 rfl ?_
          refine V_iconst hc (v := (1 : Int32)) dX12_isDrawn_87 rfl ?_
          obtain ⟨M15, hM15, hv11⟩ := mb hv11
          refine R_callVv hc hz (As := [.int v3, .int v8, .int (0 : Int32), .int (1 : Int32)]) (c12_laysA l D h q y _ _ _ _ hM15) w9_3 w9_5 wp9_1 w1_13 w9_6 hd12_laysA ⟨Nat.le_of_ble_eq_true rfl, Nat.le_of_ble_eq_true rfl⟩ rfl rfl (Nat.le_of_ble_eq_true rfl) dX12_isDrawn_88 ?_
          refine V_goto hc dX12_isDrawn_91 rfl ?_
          obtain rfl := Option.some.inj hv11
          exact V_sub [1, 3] rfl hJ80
      refine V_icmp_ne hc dX12_isDrawn_65 rfl (fun hq65 => ?_) (fun hq65 => ?_)
      · rw [if_neg hq65] at hv7
        refine V_iconst hc (v := (1 : Int32)) dX12_isDrawn_72 rfl ?_
        obtain rfl := Option.some.inj hv7
        exact V_sub [2, 1, 0] rfl hJ65
      · rw [if_pos hq65] at hv7
        refine V_iconst hc (v := (0 : Int32)) dX12_isDrawn_68 rfl ?_
        refine V_goto hc dX12_isDrawn_69 rfl ?_
        obtain rfl := Option.some.inj hv7
        exact V_sub [2, 1, 0] rfl hJ65
    · rw [if_pos hq40] at hf
      refine V_aload_n hc dX12_isDrawn_43 rfl 2 rfl ?_
      refine V_iload_n hc dX12_isDrawn_44 rfl 0 rfl ?_
      refine V_bipush hc (v := (21 : Int32)) dX12_isDrawn_45 rfl ?_
      obtain ⟨v18, hv18, hf⟩ := mb hf
      refine R_callVi hc hz (As := [.int v3, .int (21 : Int32)]) (c12_its l D h q y _ _ _ _ hv18) w7_142 w7_144 wp5_7 w1_13 w7_145 hd12_its ⟨Nat.le_of_ble_eq_true rfl, Nat.le_of_ble_eq_true rfl⟩ rfl rfl (Nat.le_of_ble_eq_true rfl) dX12_isDrawn_47 ?_
      refine V_if_ne hc dX12_isDrawn_50 rfl (fun hq50 => ?_) (fun hq50 => ?_)
      · rw [if_neg hq50] at hf
        refine V_aload_n hc dX12_isDrawn_55 rfl 2 rfl ?_
        refine V_aload_n hc dX12_isDrawn_56 rfl 2 rfl ?_
        refine V_iload_n hc dX12_isDrawn_57 rfl 0 rfl ?_
        refine V_bipush hc (v := (21 : Int32)) dX12_isDrawn_58 rfl ?_
        obtain ⟨v19, hv19, hf⟩ := mb hf
        refine R_callVi hc hz (As := [.int v3, .int (21 : Int32)]) (c12_its l D h q y _ _ _ _ hv19) w7_142 w7_144 wp5_7 w1_13 w7_145 hd12_its ⟨Nat.le_of_ble_eq_true rfl, Nat.le_of_ble_eq_true rfl⟩ rfl rfl (Nat.le_of_ble_eq_true rfl) dX12_isDrawn_60 ?_
        refine V_iload_n hc dX12_isDrawn_63 rfl 1 rfl ?_
        refine V_iconst hc (v := (2 : Int32)) dX12_isDrawn_64 rfl ?_
        obtain ⟨v20, hv21, hf⟩ := mb hf
        have hJ65 : V E z u (mw h q y M4) 73 [(0, .ref h), (1, .int v1), (2, .int v3)] [.int v20, .int v19, .ref h] := by
          refine V_iadd hc dX12_isDrawn_73 ?_
          obtain ⟨v22, M23, hv22, hf⟩ := mb2 hf
          refine R_callVi hc hz (As := [.int (v19 + v20)]) (c12_drawOf l D h q y _ _ _ _ hv22) w9_70 w9_72 wp9_5 w1_13 w9_73 hd12_drawOf ⟨Nat.le_of_ble_eq_true rfl, Nat.le_of_ble_eq_true rfl⟩ rfl rfl (Nat.le_of_ble_eq_true rfl) dX12_isDrawn_74 ?_
          refine V_istore_n hc dX12_isDrawn_77 rfl (by decide) rfl ?_
          refine V_iload_n hc dX12_isDrawn_78 rfl 2 rfl ?_
          refine V_iconst hc (v := (2 : Int32)) dX12_isDrawn_79 rfl ?_
          obtain ⟨M24, hv25, hf⟩ := mb hf
          have hJ80 : V E z u (mw h q y M24) 109 [(0, .ref h), (2, .int v3)] [] := by
            refine V_aload_n hc dX12_isDrawn_109 rfl 0 rfl ?_
            obtain ⟨v30, hv30, hf⟩ := mb hf
            refine R_callVi hc hz (As := []) (c12_canEdit l D h q y _ _ _ _ hv30) w7_154 w7_156 wp5_10 w1_13 w7_157 hd12_canEdit ⟨Nat.le_of_ble_eq_true rfl, Nat.le_of_ble_eq_true rfl⟩ rfl rfl (Nat.le_of_ble_eq_true rfl) dX12_isDrawn_110 ?_
            refine V_if_ne hc dX12_isDrawn_113 rfl (fun hq113 => ?_) (fun hq113 => ?_)
            · rw [if_neg hq113] at hf
              refine V_aload_n hc dX12_isDrawn_118 rfl 0 rfl ?_
              refine V_iload_n hc dX12_isDrawn_119 rfl 1 rfl ?_
              refine V_iconst hc (v := (0 : Int32)) dX12_isDrawn_120 rfl ?_
              obtain ⟨M31, hM31, hf⟩ := mb hf
              refine R_callVv hc hz (As := [.int v3, .int (0 : Int32)]) (c12_edits l D h q y _ _ _ _ hM31) w7_164 w7_166 wp5_11 w1_13 w7_167 hd12_edits ⟨Nat.le_of_ble_eq_true rfl, Nat.le_of_ble_eq_true rfl⟩ rfl rfl (Nat.le_of_ble_eq_true rfl) dX12_isDrawn_121 ?_
              refine V_iconst hc (v := (1 : Int32)) dX12_isDrawn_124 rfl ?_
              obtain ⟨rfl, rfl⟩ := si2 hf
              exact V_iret hc hzz rfl rfl rfl rfl rfl dX12_isDrawn_125
            · rw [if_pos hq113] at hf
              refine V_iconst hc (v := (0 : Int32)) dX12_isDrawn_116 rfl ?_
              obtain ⟨rfl, rfl⟩ := si2 hf
              exact V_iret hc hzz rfl rfl rfl rfl rfl dX12_isDrawn_117
          refine V_icmp_ne hc dX12_isDrawn_80 rfl (fun hq80 => ?_) (fun hq80 => ?_)
          · rw [if_neg hq80] at hv25
            refine V_aload_n hc dX12_isDrawn_94 rfl 1 rfl ?_
            refine V_iload_n hc dX12_isDrawn_95 rfl 3 rfl ?_
            refine V_iload_n hc dX12_isDrawn_96 rfl 0 rfl ?_
            refine V_aload_n hc dX12_isDrawn_97 rfl 1 rfl ?_
            refine V_bipush hc (v := (26 : Int32)) dX12_isDrawn_98 rfl ?_
            obtain ⟨v26, M27, hv26, hv25⟩ := mb2 hv25
            refine R_callVi hc hz (As := [.int (26 : Int32)]) (c12_drawOf l D h q y _ _ _ _ hv26) w9_70 w9_72 wp9_5 w1_13 w9_73 hd12_drawOf ⟨Nat.le_of_ble_eq_true rfl, Nat.le_of_ble_eq_true rfl⟩ rfl rfl (Nat.le_of_ble_eq_true rfl) dX12_isDrawn_100 ?_
            refine V_iconst hc (v := (1 : Int32)) dX12_isDrawn_103 rfl ?_
            refine V_iadd hc dX12_isDrawn_104 ?_
            refine V_iconst hc (v := (0 : Int32)) dX12_isDrawn_105 rfl ?_
            obtain ⟨M28, hM28, hv25⟩ := mb hv25
            refine R_callVv hc hz (As := [.int v3, .int v22, .int (v26 + (1 : Int32)), .int (0 : Int32)]) (c12_laysA l D h q y _ _ _ _ hM28) w9_3 w9_5 wp9_1 w1_13 w9_6 hd12_laysA ⟨Nat.le_of_ble_eq_true rfl, Nat.le_of_ble_eq_true rfl⟩ rfl rfl (Nat.le_of_ble_eq_true rfl) dX12_isDrawn_106 ?_
            obtain rfl := Option.some.inj hv25
            exact V_sub [1, 3] rfl hJ80
          · rw [if_pos hq80] at hv25
            refine V_aload_n hc dX12_isDrawn_83 rfl 1 rfl ?_
            refine V_iload_n hc dX12_isDrawn_84 rfl 3 rfl ?_
            refine V_iload_n hc dX12_isDrawn_85 rfl 0 rfl ?_
            refine V_iconst hc (v := (0 : Int32)) dX12_isDrawn_86 rfl ?_
            refine V_iconst hc (v := (1 : Int32)) dX12_isDrawn_87 rfl ?_
            obtain ⟨M29, hM29, hv25⟩ := mb hv25
            refine R_callVv hc hz (As := [.int v3, .int v22, .int (0 : Int32), .int (1 : Int32)]) (c12_laysA l D h q y _ _ _ _ hM29) w9_3 w9_5 wp9_1 w1_13 w9_6 hd12_laysA ⟨Nat.le_of_ble_eq_true rfl, Nat.le_of_ble_eq_true rfl⟩ rfl rfl (Nat.le_of_ble_eq_true rfl) dX12_isDrawn_88 ?_
            refine V_goto hc dX12_isDrawn_91 rfl ?_
            obtain rfl := Option.some.inj hv25
            exact V_sub [1, 3] rfl hJ80
        refine V_icmp_ne hc dX12_isDrawn_65 rfl (fun hq65 => ?_) (fun hq65 => ?_)
        · rw [if_neg hq65] at hv21
          refine V_iconst hc (v := (1 : Int32)) dX12_isDrawn_72 rfl ?_
          obtain rfl := Option.some.inj hv21
          exact V_sub [2, 1, 0] rfl hJ65
        · rw [if_pos hq65] at hv21
          refine V_iconst hc (v := (0 : Int32)) dX12_isDrawn_68 rfl ?_
          refine V_goto hc dX12_isDrawn_69 rfl ?_
          obtain rfl := Option.some.inj hv21
          exact V_sub [2, 1, 0] rfl hJ65
      · rw [if_pos hq50] at hf
        refine V_iconst hc (v := (0 : Int32)) dX12_isDrawn_53 rfl ?_
        obtain ⟨rfl, rfl⟩ := si2 hf
        exact V_iret hc hzz rfl rfl rfl rfl rfl dX12_isDrawn_54
  · rw [if_pos hq8] at hf
    refine V_aload_n hc dX12_isDrawn_11 rfl 1 rfl ?_
    refine R_getr hc 30 rfl (by decide) w6_88 dX12_isDrawn_12 ?_
    refine V_iconst hc (v := (0 : Int32)) dX12_isDrawn_15 rfl ?_
    obtain ⟨v32, hv32, hf⟩ := mb hf
    refine R_iald hc hT rfl hv32 dX12_isDrawn_16 ?_
    refine V_sipush hc (v := (999 : Int32)) dX12_isDrawn_17 rfl ?_
    obtain ⟨M33, hv34, hf⟩ := mb hf
    have hJ20 : V E z u (mw h q y M33) 27 [] [] := by
      refine V_iconst hc (v := (0 : Int32)) dX12_isDrawn_27 rfl ?_
      obtain ⟨rfl, rfl⟩ := si2 hf
      exact V_iret hc hzz rfl rfl rfl rfl rfl dX12_isDrawn_28
    refine V_icmp_ge hc dX12_isDrawn_20 rfl (fun hq20 => ?_) (fun hq20 => ?_)
    · rw [if_pos hq20] at hv34
      obtain rfl := Option.some.inj hv34
      exact V_sub [] rfl hJ20
    · rw [if_neg hq20] at hv34
      refine V_aload_n hc dX12_isDrawn_23 rfl 1 rfl ?_
      obtain ⟨M35, hM35, hv34⟩ := mb hv34
      refine R_callVv hc hz (As := []) (c12_tickGoes l D h q y _ _ _ _ hM35) w8_12 w8_14 wp6_14 w1_13 w8_15 hd12_tickGoes ⟨Nat.le_of_ble_eq_true rfl, Nat.le_of_ble_eq_true rfl⟩ rfl rfl (Nat.le_of_ble_eq_true rfl) dX12_isDrawn_24 ?_
      obtain rfl := Option.some.inj hv34
      exact V_sub [] rfl hJ20
noncomputable def L12_chance_33 (c1 : Int32) : Nat → Int32 → Int32 → MS → Option (Int32 × MS)
  | 0, _, _, _ => none
  | n + 1, i2, i3, M =>
    if c1 ≤ i3 then (
      some (i2, M)
    ) else (
      bn2 (f12_isDrawn M) fun v1 M2 =>
      (
        if v1 = 0 then (
          some i2
        ) else (
          some (i2 + (1 : Int32))
        )
      ).bind fun x3 =>
      L12_chance_33 c1 n x3 (i3 + (1 : Int32)) M2
    )
noncomputable def f12_chance (M : MS) (p1 : Int32) : Option (Int32 × MS) :=
  if (gF M 31) = 0 then (
    bn2 (f12_refuses M (4 : Int32)) fun v1 M2 =>
    some (v1, M2)
  ) else (
    (f12_isIn p1.toInt64 (1 : Int64) (40 : Int64)).bind fun v3 =>
    if v3 = 0 then (
      bn2 (f12_refuses M (4 : Int32)) fun v8 M9 =>
      some (v8, M9)
    ) else (
      (f12_keeps M).bind fun M4 =>
      bn2 (L12_chance_33 p1 FU (0 : Int32) (0 : Int32) M4) fun x5 M6 =>
      some (x5, M6)
    )
  )
theorem hd12_chance : yX12_chance.cls = "FarEditorsModel" ∧ yX12_chance.cls ≠ "java/lang/invoke/MethodHandle" ∧ yX12_chance.cls ≠ "java/lang/invoke/VarHandle" ∧ (parseMethodDescriptor yX12_chance.desc).map (fun d => d.parameters.length) = some 1 := by decide +kernel
set_option maxHeartbeats 4000000 in
set_option maxRecDepth 100000 in
theorem L12_chance_33_ok {E : CxT} {l : Launch} {D : va_G} {h : Nat} {q : Nat → Nat} {y : CyT} {zM uM z u : Nat} (hc : Cx E "FarEditorsModel" cX12_chance 4) (hz : Cy E l D y 6 146 zM uM) (c1 : Int32) : ∀ (n : Nat) (i2 : Int32) (i3 : Int32) (M : MS) {o2 : Int32} {Mo : MS}, L12_chance_33 c1 n i2 i3 M = some (o2, Mo) → (hx0 : V E z u (mw h q y Mo) 54 [(2, .int o2)] []) → V E z u (mw h q y M) 33 [(0, .ref h), (1, .int c1), (2, .int i2), (3, .int i3)] [] := by
  have hT := hz.2.2.1
  intro n
  induction n with
  | zero => intro i2 i3 M o2 Mo hf; cases hf
  | succ n ih =>
    intro i2 i3 M o2 Mo hf hx0
    unfold L12_chance_33 at hf
    refine V_iload_n hc dX12_chance_33 rfl 3 rfl ?_
    refine V_iload_n hc dX12_chance_34 rfl 1 rfl ?_
    refine V_icmp_ge hc dX12_chance_35 rfl (fun hq35 => ?_) (fun hq35 => ?_)
    · rw [if_pos hq35] at hf
      obtain ⟨rfl, rfl⟩ := si2 hf
      exact V_sub [2] rfl hx0
    · rw [if_neg hq35] at hf
      refine V_aload_n hc dX12_chance_38 rfl 0 rfl ?_
      obtain ⟨v1, M2, hv1, hf⟩ := mb2 hf
      refine R_callVi hc hz (As := []) (c12_isDrawn l D h q y _ _ _ _ hv1) w9_66 w9_68 wp9_4 w1_13 w9_69 hd12_isDrawn ⟨Nat.le_of_ble_eq_true rfl, Nat.le_of_ble_eq_true rfl⟩ rfl rfl (Nat.le_of_ble_eq_true rfl) dX12_chance_39 ?_
      obtain ⟨x3, hv4, hf⟩ := mb hf
      have hJ42 : V E z u (mw h q y M2) 48 [(0, .ref h), (1, .int c1), (2, .int x3), (3, .int i3)] [] := by
        refine V_iinc hc (j := 3) (v := (i3 + (1 : Int32))) dX12_chance_48 rfl rfl (by decide) rfl ?_
        refine V_goto hc dX12_chance_51 rfl ?_
        exact V_sub [1, 2, 3, 0] rfl (ih _ _ _ hf hx0)
      refine V_if_eq hc dX12_chance_42 rfl (fun hq42 => ?_) (fun hq42 => ?_)
      · rw [if_pos hq42] at hv4
        obtain rfl := Option.some.inj hv4
        exact V_sub [0, 1, 2, 3] rfl hJ42
      · rw [if_neg hq42] at hv4
        refine V_iinc hc (j := 2) (v := (i2 + (1 : Int32))) dX12_chance_45 rfl rfl (by decide) rfl ?_
        obtain rfl := Option.some.inj hv4
        exact V_sub [1, 2, 0, 3] rfl hJ42
set_option maxHeartbeats 4000000 in
set_option maxRecDepth 100000 in
theorem c12_chance (l : Launch) (D : va_G) (h : Nat) (q : Nat → Nat) (y : CyT) (zM uM z u : Nat) {M M' : MS} {p1 : Int32} {r : Int32} (hf : f12_chance M p1 = some (r, M')) : CT l D y yX12_chance cX12_chance 4 (some .int) 6 146 zM uM [.ref h, .int p1] z u (mw h q y M) z u (mw h q y M') (some (.int r)) := by
  refine CT.of (by decide) (Nat.le_of_ble_eq_true rfl) (fun E hc hzz hnm => ?_)
  have hc : Cx E "FarEditorsModel" cX12_chance 4 := hc
  have hz := hzz.1
  have hT := hz.2.2.1
  show V E z u (mw h q y M) 0 [(0, .ref h), (1, .int p1)] []
  unfold f12_chance at hf
  refine V_aload_n hc dX12_chance_0 rfl 0 rfl ?_
  refine R_geti hc 31 rfl (by decide) w6_89 dX12_chance_1 ?_
  refine V_if_eq hc dX12_chance_4 rfl (fun hq4 => ?_) (fun hq4 => ?_)
  · rw [if_pos hq4] at hf
    refine V_aload_n hc dX12_chance_19 rfl 0 rfl ?_
    refine V_iconst hc (v := (4 : Int32)) dX12_chance_20 rfl ?_
    obtain ⟨v1, M2, hv1, hf⟩ := mb2 hf
    refine R_callVi hc hz (As := [.int (4 : Int32)]) (c12_refuses l D h q y _ _ _ _ hv1) w7_17 w7_19 wp3_15 w1_13 w7_20 hd12_refuses ⟨Nat.le_of_ble_eq_true rfl, Nat.le_of_ble_eq_true rfl⟩ rfl rfl (Nat.le_of_ble_eq_true rfl) dX12_chance_21 ?_
    obtain ⟨rfl, rfl⟩ := si2 hf
    exact V_iret hc hzz rfl rfl rfl rfl rfl dX12_chance_24
  · rw [if_neg hq4] at hf
    refine V_iload_n hc dX12_chance_7 rfl 1 rfl ?_
    refine V_i2l hc dX12_chance_8 ?_
    refine V_lconst hc (v := (1 : Int64)) dX12_chance_9 rfl ?_
    refine V_ldc2 hc w9_65 dX12_chance_10 ?_
    obtain ⟨v3, hv3, hf⟩ := mb hf
    refine R_callSi hc hz (As := [.long p1.toInt64, .long (1 : Int64), .long (40 : Int64)]) (c12_isIn l D h q y _ _ _ _ hv3) w7_34 w7_35 w1_13 w7_36 hd12_isIn ⟨Nat.le_of_ble_eq_true rfl, Nat.le_of_ble_eq_true rfl⟩ rfl rfl (Nat.le_of_ble_eq_true rfl) dX12_chance_13 ?_
    refine V_if_ne hc dX12_chance_16 rfl (fun hq16 => ?_) (fun hq16 => ?_)
    · rw [if_neg hq16] at hf
      refine V_aload_n hc dX12_chance_25 rfl 0 rfl ?_
      obtain ⟨M4, hM4, hf⟩ := mb hf
      refine R_callVv hc hz (As := []) (c12_keeps l D h q y _ _ _ _ hM4) w8_234 w8_236 wp9_0 w1_13 w8_237 hd12_keeps ⟨Nat.le_of_ble_eq_true rfl, Nat.le_of_ble_eq_true rfl⟩ rfl rfl (Nat.le_of_ble_eq_true rfl) dX12_chance_26 ?_
      refine V_iconst hc (v := (0 : Int32)) dX12_chance_29 rfl ?_
      refine V_istore_n hc dX12_chance_30 rfl (by decide) rfl ?_
      refine V_iconst hc (v := (0 : Int32)) dX12_chance_31 rfl ?_
      refine V_istore_n hc dX12_chance_32 rfl (by decide) rfl ?_
      obtain ⟨x5, M6, hv7, hf⟩ := mb2 hf
      refine V_sub [2, 3, 1, 0] rfl (L12_chance_33_ok hc hz p1 FU _ _ _ hv7 ?_)
      refine V_iload_n hc dX12_chance_54 rfl 0 rfl ?_
      obtain ⟨rfl, rfl⟩ := si2 hf
      exact V_iret hc hzz rfl rfl rfl rfl rfl dX12_chance_55
    · rw [if_pos hq16] at hf
      refine V_aload_n hc dX12_chance_19 rfl 0 rfl ?_
      refine V_iconst hc (v := (4 : Int32)) dX12_chance_20 rfl ?_
      obtain ⟨v8, M9, hv8, hf⟩ := mb2 hf
      refine R_callVi hc hz (As := [.int (4 : Int32)]) (c12_refuses l D h q y _ _ _ _ hv8) w7_17 w7_19 wp3_15 w1_13 w7_20 hd12_refuses ⟨Nat.le_of_ble_eq_true rfl, Nat.le_of_ble_eq_true rfl⟩ rfl rfl (Nat.le_of_ble_eq_true rfl) dX12_chance_21 ?_
      obtain ⟨rfl, rfl⟩ := si2 hf
      exact V_iret hc hzz rfl rfl rfl rfl rfl dX12_chance_24
