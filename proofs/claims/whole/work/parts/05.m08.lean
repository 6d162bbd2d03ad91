noncomputable def f12_canMark (M : MS) (p1 : Int32) (p2 : Int32) (p3 : Int32) : Option (Int32) :=
  (f12_its M p1 (2 : Int32)).bind fun v1 =>
  (
    if (4 : Int32) ≤ v1 then (
      some (0 : Int32)
    ) else (
      if p2 < 0 then (
        some (0 : Int32)
      ) else (
        if p3 < p2 then (
          some (0 : Int32)
        ) else (
          (f12_its M p1 (21 : Int32)).bind fun v4 =>
          if v4 < p3 then (
            some (0 : Int32)
          ) else (
            some (1 : Int32)
          )
        )
      )
    )
  ).bind fun v2 =>
  (bz v2).bind fun v5 =>
  some v5
theorem hd12_canMark : yX12_canMark.cls = "FarEditorsModel" ∧ yX12_canMark.cls ≠ "java/lang/invoke/MethodHandle" ∧ yX12_canMark.cls ≠ "java/lang/invoke/VarHandle" ∧ (parseMethodDescriptor yX12_canMark.desc).map (fun d => d.parameters.length) = some 3 := by decide +kernel
set_option maxHeartbeats 4000000 in
set_option maxRecDepth 100000 in
theorem c12_canMark (l : Launch) (D : va_G) (h : Nat) (q : Nat → Nat) (y : CyT) (zM uM z u : Nat) {M : MS} {p1 : Int32} {p2 : Int32} {p3 : Int32} {r : Int32} (hf : f12_canMark M p1 p2 p3 = some r) : CT l D y yX12_canMark cX12_canMark 4 (some .boolean) 1 22 zM uM [.ref h, .int p1, .int p2, .int p3] z u (mw h q y M) z u (mw h q y M) (some (.int r)) := by
  refine CT.of (by decide) (Nat.le_of_ble_eq_true rfl) (fun E hc hzz hnm => ?_)
  have hc : Cx E "FarEditorsModel" cX12_canMark 4 := hc
  have hz := hzz.1
  have hT := hz.2.2.1
  show V E z u (mw h q y M) 0 [(0, .ref h), (1, .int p1), (2, .int p2), (3, .int p3)] []
  unfold f12_canMark at hf
  refine V_aload_n hc dX12_canMark_0 rfl 0 rfl ?_
  refine V_iload_n hc dX12_canMark_1 rfl 1 rfl ?_
  refine V_iconst hc (v := (2 : Int32)) dX12_canMark_2 rfl ?_
  obtain ⟨v1, hv1, hf⟩ := mb hf
  refine R_callVi hc hz (As := [.int p1, .int (2 : Int32)]) (c12_its l D h q y _ _ _ _ hv1) w7_142 w7_144 wp5_7 w1_13 w7_145 hd12_its ⟨Nat.le_of_ble_eq_true rfl, Nat.le_of_ble_eq_true rfl⟩ rfl rfl (Nat.le_of_ble_eq_true rfl) dX12_canMark_3 ?_
  refine V_iconst hc (v := (4 : Int32)) dX12_canMark_6 rfl ?_
  obtain ⟨v2, hv3, hf⟩ := mb hf
  have hJ7 : V E z u (mw h q y M) 35 [] [.int v2] := by
    obtain ⟨v5, hv5, hf⟩ := mb hf
    obtain ⟨hbv5, rfl⟩ := bz_some hv5
    obtain rfl := Option.some.inj hf
    exact V_iret hc hzz (bz_nar hbv5) rfl rfl rfl rfl dX12_canMark_35
  refine V_icmp_ge hc dX12_canMark_7 rfl (fun hq7 => ?_) (fun hq7 => ?_)
  · rw [if_pos hq7] at hv3
    refine V_iconst hc (v := (0 : Int32)) dX12_canMark_34 rfl ?_
    obtain rfl := Option.some.inj hv3
    exact V_sub [] rfl hJ7
  · rw [if_neg hq7] at hv3
    refine V_iload_n hc dX12_canMark_10 rfl 2 rfl ?_
    refine V_if_lt hc dX12_canMark_11 rfl (fun hq11 => ?_) (fun hq11 => ?_)
    · rw [if_pos hq11] at hv3
      refine V_iconst hc (v := (0 : Int32)) dX12_canMark_34 rfl ?_
      obtain rfl := Option.some.inj hv3
      exact V_sub [] rfl hJ7
    · rw [if_neg hq11] at hv3
      refine V_iload_n hc dX12_canMark_14 rfl 2 rfl ?_
      refine V_iload_n hc dX12_canMark_15 rfl 3 rfl ?_
      refine V_icmp_gt hc dX12_canMark_16 rfl (fun hq16 => ?_) (fun hq16 => ?_)
      · rw [if_pos hq16] at hv3
        refine V_iconst hc (v := (0 : Int32)) dX12_canMark_34 rfl ?_
        obtain rfl := Option.some.inj hv3
        exact V_sub [] rfl hJ7
      · rw [if_neg hq16] at hv3
        refine V_iload_n hc dX12_canMark_19 rfl 3 rfl ?_
        refine V_aload_n hc dX12_canMark_20 rfl 0 rfl ?_
        refine V_iload_n hc dX12_canMark_21 rfl 1 rfl ?_
        refine V_bipush hc (v := (21 : Int32)) dX12_canMark_22 rfl ?_
        obtain ⟨v4, hv4, hv3⟩ := mb hv3
        refine R_callVi hc hz (As := [.int p1, .int (21 : Int32)]) (c12_its l D h q y _ _ _ _ hv4) w7_142 w7_144 wp5_7 w1_13 w7_145 hd12_its ⟨Nat.le_of_ble_eq_true rfl, Nat.le_of_ble_eq_true rfl⟩ rfl rfl (Nat.le_of_ble_eq_true rfl) dX12_canMark_24 ?_
        refine V_icmp_gt hc dX12_canMark_27 rfl (fun hq27 => ?_) (fun hq27 => ?_)
        · rw [if_pos hq27] at hv3
          refine V_iconst hc (v := (0 : Int32)) dX12_canMark_34 rfl ?_
          obtain rfl := Option.some.inj hv3
          exact V_sub [] rfl hJ7
        · rw [if_neg hq27] at hv3
          refine V_iconst hc (v := (1 : Int32)) dX12_canMark_30 rfl ?_
          refine V_goto hc dX12_canMark_31 rfl ?_
          obtain rfl := Option.some.inj hv3
          exact V_sub [] rfl hJ7
noncomputable def f12_marked (M : MS) (p1 : Int32) (p2 : Int32) (p3 : Int32) (p4 : Int32) : Option (MS) :=
  (f12_its M p1 (2 : Int32)).bind fun v1 =>
  (f12_of p1 ((3 : Int32) + ((3 : Int32) * v1))).bind fun v2 =>
  (sd M 30 v2 p2).bind fun M3 =>
  (sd M3 30 (v2 + (1 : Int32)) p3).bind fun M4 =>
  (sd M4 30 (v2 + (2 : Int32)) p4).bind fun M5 =>
  (f12_of p1 (2 : Int32)).bind fun v6 =>
  (ld M5 30 v6).bind fun v7 =>
  (sd M5 30 v6 (v7 + (1 : Int32))).bind fun M8 =>
  some M8
theorem hd12_marked : yX12_marked.cls = "FarEditorsModel" ∧ yX12_marked.cls ≠ "java/lang/invoke/MethodHandle" ∧ yX12_marked.cls ≠ "java/lang/invoke/VarHandle" ∧ (parseMethodDescriptor yX12_marked.desc).map (fun d => d.parameters.length) = some 4 := by decide +kernel
set_option maxHeartbeats 4000000 in
set_option maxRecDepth 100000 in
theorem c12_marked (l : Launch) (D : va_G) (h : Nat) (q : Nat → Nat) (y : CyT) (zM uM z u : Nat) {M M' : MS} {p1 : Int32} {p2 : Int32} {p3 : Int32} {p4 : Int32} (hf : f12_marked M p1 p2 p3 p4 = some M') : CT l D y yX12_marked cX12_marked 6 none 1 22 zM uM [.ref h, .int p1, .int p2, .int p3, .int p4] z u (mw h q y M) z u (mw h q y M') none := by
  refine CT.of (by decide) (Nat.le_of_ble_eq_true rfl) (fun E hc hzz hnm => ?_)
  have hc : Cx E "FarEditorsModel" cX12_marked 6 := hc
  have hz := hzz.1
  have hT := hz.2.2.1
  show V E z u (mw h q y M) 0 [(0, .ref h), (1, .int p1), (2, .int p2), (3, .int p3), (4, .int p4)] []
  unfold f12_marked at hf
  refine V_iload_n hc dX12_marked_0 rfl 1 rfl ?_
  refine V_iconst hc (v := (3 : Int32)) dX12_marked_1 rfl ?_
  refine V_iconst hc (v := (3 : Int32)) dX12_marked_2 rfl ?_
  refine V_aload_n hc dX12_marked_3 rfl 0 rfl ?_
  refine V_iload_n hc dX12_marked_4 rfl 1 rfl ?_
  refine V_iconst hc (v := (2 : Int32)) dX12_marked_5 rfl ?_
  obtain ⟨v1, hv1, hf⟩ := mb hf
  refine R_callVi hc hz (As := [.int p1, .int (2 : Int32)]) (c12_its l D h q y _ _ _ _ hv1) w7_142 w7_144 wp5_7 w1_13 w7_145 hd12_its ⟨Nat.le_of_ble_eq_true rfl, Nat.le_of_ble_eq_true rfl⟩ rfl rfl (Nat.le_of_ble_eq_true rfl) dX12_marked_6 ?_
  refine V_imul hc dX12_marked_9 ?_
  refine V_iadd hc dX12_marked_10 ?_
  obtain ⟨v2, hv2, hf⟩ := mb hf
  refine R_callSi hc hz (As := [.int p1, .int ((3 : Int32) + ((3 : Int32) * v1))]) (c12_of l D h q y _ _ _ _ hv2) w7_123 w7_124 w1_13 w7_125 hd12_of ⟨Nat.le_of_ble_eq_true rfl, Nat.le_of_ble_eq_true rfl⟩ rfl rfl (Nat.le_of_ble_eq_true rfl) dX12_marked_11 ?_
  refine V_istore hc dX12_marked_14 (by decide) rfl ?_
  refine V_aload_n hc dX12_marked_16 rfl 1 rfl ?_
  refine R_getr hc 30 rfl (by decide) w6_88 dX12_marked_17 ?_
  refine V_iload hc dX12_marked_20 0 rfl ?_
  refine V_iload_n hc dX12_marked_22 rfl 3 rfl ?_
  obtain ⟨M3, hM3, hf⟩ := mb hf
  refine R_iast hc hT rfl hM3 dX12_marked_23 ?_
  refine V_aload_n hc dX12_marked_24 rfl 1 rfl ?_
  refine R_getr hc 30 rfl (by decide) w6_88 dX12_marked_25 ?_
  refine V_iload hc dX12_marked_28 0 rfl ?_
  refine V_iconst hc (v := (1 : Int32)) dX12_marked_30 rfl ?_
  refine V_iadd hc dX12_marked_31 ?_
  refine V_iload_n hc dX12_marked_32 rfl 4 rfl ?_
  obtain ⟨M4, hM4, hf⟩ := mb hf
  refine R_iast hc hT rfl hM4 dX12_marked_33 ?_
  refine V_aload_n hc dX12_marked_34 rfl 1 rfl ?_
  refine R_getr hc 30 rfl (by decide) w6_88 dX12_marked_35 ?_
  refine V_iload hc dX12_marked_38 0 rfl ?_
  refine V_iconst hc (v := (2 : Int32)) dX12_marked_40 rfl ?_
  refine V_iadd hc dX12_marked_41 ?_
  refine V_iload hc dX12_marked_42 5 rfl ?_
  obtain ⟨M5, hM5, hf⟩ := mb hf
  refine R_iast hc hT rfl hM5 dX12_marked_44 ?_
  refine V_aload_n hc dX12_marked_45 rfl 1 rfl ?_
  refine R_getr hc 30 rfl (by decide) w6_88 dX12_marked_46 ?_
  refine V_iload_n hc dX12_marked_49 rfl 2 rfl ?_
  refine V_iconst hc (v := (2 : Int32)) dX12_marked_50 rfl ?_
  obtain ⟨v6, hv6, hf⟩ := mb hf
  refine R_callSi hc hz (As := [.int p1, .int (2 : Int32)]) (c12_of l D h q y _ _ _ _ hv6) w7_123 w7_124 w1_13 w7_125 hd12_of ⟨Nat.le_of_ble_eq_true rfl, Nat.le_of_ble_eq_true rfl⟩ rfl rfl (Nat.le_of_ble_eq_true rfl) dX12_marked_51 ?_
  refine V_dup2 hc dX12_marked_54 rfl rfl ?_
  obtain ⟨v7, hv7, hf⟩ := mb hf
  refine R_iald hc hT rfl hv7 dX12_marked_55 ?_
  refine V_iconst hc (v := (1 : Int32)) dX12_marked_56 rfl ?_
  refine V_iadd hc dX12_marked_57 ?_
  obtain ⟨M8, hM8, hf⟩ := mb hf
  refine R_iast hc hT rfl hM8 dX12_marked_58 ?_
  obtain rfl := Option.some.inj hf
  exact V_vret hc hzz rfl rfl rfl rfl dX12_marked_59
noncomputable def f12_isDone (M : MS) : Option (MS) :=
  bn2 (f12_takes M 14) fun v1 M2 =>
  (
    if v1 = 0 then (
      bn2 (f12_takes M2 15) fun v5 M6 =>
      if v5 = 0 then (
        bn2 (f12_takes M6 16) fun v7 M8 =>
        if v7 = 0 then (
          bn2 (f12_takes M8 17) fun v9 M10 =>
          if v9 = 0 then (
            bn2 (f12_takes M10 18) fun v11 M12 =>
            if v11 = 0 then (
              bn2 (f12_takes M12 19) fun v13 M14 =>
              if v13 = 0 then (
                some M14
              ) else (
                bn2 (f12_number M14 (1 : Int32) (99 : Int32)) fun v15 M16 =>
                (ld M16 30 (0 : Int32)).bind fun v17 =>
                if (999 : Int32) < (v17 + v15) then (
                  some M16
                ) else (
                  (f12_ticksGo M16 v15).bind fun M18 =>
                  some M18
                )
              )
            ) else (
              bn2 (f12_editorTold M12) fun v19 M20 =>
              (f12_of v19 (15 : Int32)).bind fun v21 =>
              (sd M20 30 v21 (1 : Int32)).bind fun M22 =>
              some M22
            )
          ) else (
            bn2 (f12_editorTold M10) fun v23 M24 =>
            (f12_of v23 (15 : Int32)).bind fun v25 =>
            (sd M24 30 v25 (0 : Int32)).bind fun M26 =>
            some M26
          )
        ) else (
          bn2 (f12_editorTold M8) fun v27 M28 =>
          bn2 (f12_number M28 (0 : Int32) (99 : Int32)) fun v29 M30 =>
          bn2 (f12_number M30 (0 : Int32) (99 : Int32)) fun v31 M32 =>
          bn2 (f12_number M32 (0 : Int32) (3 : Int32)) fun v33 M34 =>
          (f12_canMark M34 v27 v29 v31).bind fun v35 =>
          (
            if v35 = 0 then (
              some M34
            ) else (
              (f12_marked M34 v27 v29 v31 v33).bind fun M38 =>
              some M38
            )
          ).bind fun M36 =>
          some M36
        )
      ) else (
        bn2 (f12_editorTold M6) fun v39 M40 =>
        bn2 (f12_number M40 (0 : Int32) (99 : Int32)) fun v41 M42 =>
        (f12_its M42 v39 (21 : Int32)).bind fun v43 =>
        (
          if v43 < v41 then (
            some M42
          ) else (
            (f12_of v39 (1 : Int32)).bind fun v46 =>
            (sd M42 30 v46 v41).bind fun M47 =>
            some M47
          )
        ).bind fun M44 =>
        some M44
      )
    ) else (
      bn2 (f12_editorTold M2) fun v48 M49 =>
      bn2 (f12_isOp M49 v48) fun v50 M51 =>
      (
        if v50 = 0 then (
          some M51
        ) else (
          (f12_canEdit M51).bind fun v54 =>
          if v54 = 0 then (
            some M51
          ) else (
            (f12_edits M51 v48 (0 : Int32)).bind fun M55 =>
            some M55
          )
        )
      ).bind fun M52 =>
      some M52
    )
  ).bind fun M3 =>
  some M3
theorem hd12_isDone : yX12_isDone.cls = "FarEditorsModel" ∧ yX12_isDone.cls ≠ "java/lang/invoke/MethodHandle" ∧ yX12_isDone.cls ≠ "java/lang/invoke/VarHandle" ∧ (parseMethodDescriptor yX12_isDone.desc).map (fun d => d.parameters.length) = some 0 := by decide +kernel
set_option maxHeartbeats 4000000 in
set_option maxRecDepth 100000 in
theorem c12_isDone (l : Launch) (D : va_G) (h : Nat) (q : Nat → Nat) (y : CyT) (zM uM z u : Nat) {M M' : MS} (hf : f12_isDone M = some M') : CT l D y yX12_isDone cX12_isDone 5 none 6 145 zM uM [.ref h] z u (mw h q y M) z u (mw h q y M') none := by
  refine CT.of (by decide) (Nat.le_of_ble_eq_true rfl) (fun E hc hzz hnm => ?_)
  have hc : Cx E "FarEditorsModel" cX12_isDone 5 := hc
  have hz := hzz.1
  have hT := hz.2.2.1
  show V E z u (mw h q y M) 0 [(0, .ref h)] []
  unfold f12_isDone at hf
  refine V_aload_n hc dX12_isDone_0 rfl 0 rfl ?_
  refine V_aload_n hc dX12_isDone_1 rfl 0 rfl ?_
  refine R_getr hc 14 rfl (by decide) w6_72 dX12_isDone_2 ?_
  obtain ⟨v1, M2, hv1, hf⟩ := mb2 hf
  refine R_callVi hc hz (As := [.ref (q 14)]) (c12_takes l D h q y _ _ _ _ rfl hv1) w7_61 w7_63 wp4_5 w1_13 w7_64 hd12_takes ⟨Nat.le_of_ble_eq_true rfl, Nat.le_of_ble_eq_true rfl⟩ rfl rfl (Nat.le_of_ble_eq_true rfl) dX12_isDone_5 ?_
  obtain ⟨M3, hv4, hf⟩ := mb hf
  have hJ8 : V E z u (mw h q y M3) 247 [] [] := by
    obtain rfl := Option.some.inj hf
    exact V_vret hc hzz rfl rfl rfl rfl dX12_isDone_247
  refine V_if_eq hc dX12_isDone_8 rfl (fun hq8 => ?_) (fun hq8 => ?_)
  · rw [if_pos hq8] at hv4
    refine V_aload_n hc dX12_isDone_40 rfl 0 rfl ?_
    refine V_aload_n hc dX12_isDone_41 rfl 0 rfl ?_
    refine R_getr hc 15 rfl (by decide) w6_73 dX12_isDone_42 ?_
    obtain ⟨v5, M6, hv5, hv4⟩ := mb2 hv4
    refine R_callVi hc hz (As := [.ref (q 15)]) (c12_takes l D h q y _ _ _ _ rfl hv5) w7_61 w7_63 wp4_5 w1_13 w7_64 hd12_takes ⟨Nat.le_of_ble_eq_true rfl, Nat.le_of_ble_eq_true rfl⟩ rfl rfl (Nat.le_of_ble_eq_true rfl) dX12_isDone_45 ?_
    refine V_if_eq hc dX12_isDone_48 rfl (fun hq48 => ?_) (fun hq48 => ?_)
    · rw [if_pos hq48] at hv4
      refine V_aload_n hc dX12_isDone_89 rfl 0 rfl ?_
      refine V_aload_n hc dX12_isDone_90 rfl 0 rfl ?_
      refine R_getr hc 16 rfl (by decide) w6_74 dX12_isDone_91 ?_
      obtain ⟨v7, M8, hv7, hv4⟩ := mb2 hv4
      refine R_callVi hc hz (As := [.ref (q 16)]) (c12_takes l D h q y _ _ _ _ rfl hv7) w7_61 w7_63 wp4_5 w1_13 w7_64 hd12_takes ⟨Nat.le_of_ble_eq_true rfl, Nat.le_of_ble_eq_true rfl⟩ rfl rfl (Nat.le_of_ble_eq_true rfl) dX12_isDone_94 ?_
      refine V_if_eq hc dX12_isDone_97 rfl (fun hq97 => ?_) (fun hq97 => ?_)
      · rw [if_pos hq97] at hv4
        refine V_aload_n hc dX12_isDone_151 rfl 0 rfl ?_
        refine V_aload_n hc dX12_isDone_152 rfl 0 rfl ?_
        refine R_getr hc 17 rfl (by decide) w6_75 dX12_isDone_153 ?_
        obtain ⟨v9, M10, hv9, hv4⟩ := mb2 hv4
        refine R_callVi hc hz (As := [.ref (q 17)]) (c12_takes l D h q y _ _ _ _ rfl hv9) w7_61 w7_63 wp4_5 w1_13 w7_64 hd12_takes ⟨Nat.le_of_ble_eq_true rfl, Nat.le_of_ble_eq_true rfl⟩ rfl rfl (Nat.le_of_ble_eq_true rfl) dX12_isDone_156 ?_
        refine V_if_eq hc dX12_isDone_159 rfl (fun hq159 => ?_) (fun hq159 => ?_)
        · rw [if_pos hq159] at hv4
          refine V_aload_n hc dX12_isDone_180 rfl 0 rfl ?_
          refine V_aload_n hc dX12_isDone_181 rfl 0 rfl ?_
          refine R_getr hc 18 rfl (by decide) w6_76 dX12_isDone_182 ?_
          obtain ⟨v11, M12, hv11, hv4⟩ := mb2 hv4
          refine R_callVi hc hz (As := [.ref (q 18)]) (c12_takes l D h q y _ _ _ _ rfl hv11) w7_61 w7_63 wp4_5 w1_13 w7_64 hd12_takes ⟨Nat.le_of_ble_eq_true rfl, Nat.le_of_ble_eq_true rfl⟩ rfl rfl (Nat.le_of_ble_eq_true rfl) dX12_isDone_185 ?_
          refine V_if_eq hc dX12_isDone_188 rfl (fun hq188 => ?_) (fun hq188 => ?_)
          · rw [if_pos hq188] at hv4
            refine V_aload_n hc dX12_isDone_209 rfl 0 rfl ?_
            refine V_aload_n hc dX12_isDone_210 rfl 0 rfl ?_
            refine R_getr hc 19 rfl (by decide) w6_77 dX12_isDone_211 ?_
            obtain ⟨v13, M14, hv13, hv4⟩ := mb2 hv4
            refine R_callVi hc hz (As := [.ref (q 19)]) (c12_takes l D h q y _ _ _ _ rfl hv13) w7_61 w7_63 wp4_5 w1_13 w7_64 hd12_takes ⟨Nat.le_of_ble_eq_true rfl, Nat.le_of_ble_eq_true rfl⟩ rfl rfl (Nat.le_of_ble_eq_true rfl) dX12_isDone_214 ?_
            refine V_if_eq hc dX12_isDone_217 rfl (fun hq217 => ?_) (fun hq217 => ?_)
            · rw [if_pos hq217] at hv4
              obtain rfl := Option.some.inj hv4
              exact V_sub [] rfl hJ8
            · rw [if_neg hq217] at hv4
              refine V_aload_n hc dX12_isDone_220 rfl 0 rfl ?_
              refine V_iconst hc (v := (1 : Int32)) dX12_isDone_221 rfl ?_
              refine V_bipush hc (v := (99 : Int32)) dX12_isDone_222 rfl ?_
              obtain ⟨v15, M16, hv15, hv4⟩ := mb2 hv4
              refine R_callVi hc hz (As := [.int (1 : Int32), .int (99 : Int32)]) (c12_number l D h q y _ _ _ _ hv15) w7_84 w7_86 wp4_10 w1_13 w7_87 hd12_number ⟨Nat.le_of_ble_eq_true rfl, Nat.le_of_ble_eq_true rfl⟩ rfl rfl (Nat.le_of_ble_eq_true rfl) dX12_isDone_224 ?_
              refine V_istore_n hc dX12_isDone_227 rfl (by decide) rfl ?_
              refine V_aload_n hc dX12_isDone_228 rfl 1 rfl ?_
              refine R_getr hc 30 rfl (by decide) w6_88 dX12_isDone_229 ?_
              refine V_iconst hc (v := (0 : Int32)) dX12_isDone_232 rfl ?_
              obtain ⟨v17, hv17, hv4⟩ := mb hv4
              refine R_iald hc hT rfl hv17 dX12_isDone_233 ?_
              refine V_iload_n hc dX12_isDone_234 rfl 0 rfl ?_
              refine V_iadd hc dX12_isDone_235 ?_
              refine V_sipush hc (v := (999 : Int32)) dX12_isDone_236 rfl ?_
              refine V_icmp_gt hc dX12_isDone_239 rfl (fun hq239 => ?_) (fun hq239 => ?_)
              · rw [if_pos hq239] at hv4
                obtain rfl := Option.some.inj hv4
                exact V_sub [] rfl hJ8
              · rw [if_neg hq239] at hv4
                refine V_aload_n hc dX12_isDone_242 rfl 1 rfl ?_
                refine V_iload_n hc dX12_isDone_243 rfl 0 rfl ?_
                obtain ⟨M18, hM18, hv4⟩ := mb hv4
                refine R_callVv hc hz (As := [.int v15]) (c12_ticksGo l D h q y _ _ _ _ hM18) w8_8 w8_10 wp6_13 w1_13 w8_11 hd12_ticksGo ⟨Nat.le_of_ble_eq_true rfl, Nat.le_of_ble_eq_true rfl⟩ rfl rfl (Nat.le_of_ble_eq_true rfl) dX12_isDone_244 ?_
                obtain rfl := Option.some.inj hv4
                exact V_sub [] rfl hJ8
          · rw [if_neg hq188] at hv4
            refine V_aload_n hc dX12_isDone_191 rfl 0 rfl ?_
            refine R_getr hc 30 rfl (by decide) w6_88 dX12_isDone_192 ?_
            refine V_aload_n hc dX12_isDone_195 rfl 0 rfl ?_
            obtain ⟨v19, M20, hv19, hv4⟩ := mb2 hv4
            refine R_callVi hc hz (As := []) (c12_editorTold l D h q y _ _ _ _ hv19) w7_107 w7_109 wp4_15 w1_13 w7_110 hd12_editorTold ⟨Nat.le_of_ble_eq_true rfl, Nat.le_of_ble_eq_true rfl⟩ rfl rfl (Nat.le_of_ble_eq_true rfl) dX12_isDone_196 ?_
            refine V_bipush hc (v := (15 : Int32)) dX12_isDone_199 rfl ?_
            obtain ⟨v21, hv21, hv4⟩ := mb hv4
            refine R_callSi hc hz (As := [.int v19, .int (15 : Int32)]) (c12_of l D h q y _ _ _ _ hv21) w7_123 w7_124 w1_13 w7_125 hd12_of ⟨Nat.le_of_ble_eq_true rfl, Nat.le_of_ble_eq_true rfl⟩ rfl rfl (Nat.le_of_ble_eq_true rfl) dX12_isDone_201 ?_
            refine V_iconst hc (v := (1 : Int32)) dX12_isDone_204 rfl ?_
            obtain ⟨M22, hM22, hv4⟩ := mb hv4
            refine R_iast hc hT rfl hM22 dX12_isDone_205 ?_
            refine V_goto hc dX12_isDone_206 rfl ?_
            obtain rfl := Option.some.inj hv4
            exact V_sub [] rfl hJ8
        · rw [if_neg hq159] at hv4
          refine V_aload_n hc dX12_isDone_162 rfl 0 rfl ?_
          refine R_getr hc 30 rfl (by decide) w6_88 dX12_isDone_163 ?_
          refine V_aload_n hc dX12_isDone_166 rfl 0 rfl ?_
          obtain ⟨v23, M24, hv23, hv4⟩ := mb2 hv4
          refine R_callVi hc hz (As := []) (c12_editorTold l D h q y _ _ _ _ hv23) w7_107 w7_109 wp4_15 w1_13 w7_110 hd12_editorTold ⟨Nat.le_of_ble_eq_true rfl, Nat.le_of_ble_eq_true rfl⟩ rfl rfl (Nat.le_of_ble_eq_true rfl) dX12_isDone_167 ?_
          refine V_bipush hc (v := (15 : Int32)) dX12_isDone_170 rfl ?_
          obtain ⟨v25, hv25, hv4⟩ := mb hv4
          refine R_callSi hc hz (As := [.int v23, .int (15 : Int32)]) (c12_of l D h q y _ _ _ _ hv25) w7_123 w7_124 w1_13 w7_125 hd12_of ⟨Nat.le_of_ble_eq_true rfl, Nat.le_of_ble_eq_true rfl⟩ rfl rfl (Nat.le_of_ble_eq_true rfl) dX12_isDone_172 ?_
          refine V_iconst hc (v := (0 : Int32)) dX12_isDone_175 rfl ?_
          obtain ⟨M26, hM26, hv4⟩ := mb hv4
          refine R_iast hc hT rfl hM26 dX12_isDone_176 ?_
          refine V_goto hc dX12_isDone_177 rfl ?_
          obtain rfl := Option.some.inj hv4
          exact V_sub [] rfl hJ8
      · rw [if_neg hq97] at hv4
        refine V_aload_n hc dX12_isDone_100 rfl 0 rfl ?_
        obtain ⟨v27, M28, hv27, hv4⟩ := mb2 hv4
        refine R_callVi hc hz (As := []) (c12_editorTold l D h q y _ _ _ _ hv27) w7_107 w7_109 wp4_15 w1_13 w7_110 hd12_editorTold ⟨Nat.le_of_ble_eq_true rfl, Nat.le_of_ble_eq_true rfl⟩ rfl rfl (Nat.le_of_ble_eq_true rfl) dX12_isDone_101 ?_
        refine V_istore_n hc dX12_isDone_104 rfl (by decide) rfl ?_
        refine V_aload_n hc dX12_isDone_105 rfl 1 rfl ?_
        refine V_iconst hc (v := (0 : Int32)) dX12_isDone_106 rfl ?_
        refine V_bipush hc (v := (99 : Int32)) dX12_isDone_107 rfl ?_
        obtain ⟨v29, M30, hv29, hv4⟩ := mb2 hv4
        refine R_callVi hc hz (As := [.int (0 : Int32), .int (99 : Int32)]) (c12_number l D h q y _ _ _ _ hv29) w7_84 w7_86 wp4_10 w1_13 w7_87 hd12_number ⟨Nat.le_of_ble_eq_true rfl, Nat.le_of_ble_eq_true rfl⟩ rfl rfl (Nat.le_of_ble_eq_true rfl) dX12_isDone_109 ?_
        refine V_istore_n hc dX12_isDone_112 rfl (by decide) rfl ?_
        refine V_aload_n hc dX12_isDone_113 rfl 2 rfl ?_
        refine V_iconst hc (v := (0 : Int32)) dX12_isDone_114 rfl ?_
        refine V_bipush hc (v := (99 : Int32)) dX12_isDone_115 rfl ?_
        obtain ⟨v31, M32, hv31, hv4⟩ := mb2 hv4
        refine R_callVi hc hz (As := [.int (0 : Int32), .int (99 : Int32)]) (c12_number l D h q y _ _ _ _ hv31) w7_84 w7_86 wp4_10 w1_13 w7_87 hd12_number ⟨Nat.le_of_ble_eq_true rfl, Nat.le_of_ble_eq_true rfl⟩ rfl rfl (Nat.le_of_ble_eq_true rfl) dX12_isDone_117 ?_
        refine V_istore_n hc dX12_isDone_120 rfl (by decide) rfl ?_
        refine V_aload_n hc dX12_isDone_121 rfl 3 rfl ?_
        refine V_iconst hc (v := (0 : Int32)) dX12_isDone_122 rfl ?_
        refine V_iconst hc (v := (3 : Int32)) dX12_isDone_123 rfl ?_
        obtain ⟨v33, M34, hv33, hv4⟩ := mb2 hv4
        refine R_callVi hc hz (As := [.int (0 : Int32), .int (3 : Int32)]) (c12_number l D h q y _ _ _ _ hv33) w7_84 w7_86 wp4_10 w1_13 w7_87 hd12_number ⟨Nat.le_of_ble_eq_true rfl, Nat.le_of_ble_eq_true rfl⟩ rfl rfl (Nat.le_of_ble_eq_true rfl) dX12_isDone_124 ?_
        refine V_istore hc dX12_isDone_127 (by decide) rfl ?_
        refine V_aload_n hc dX12_isDone_129 rfl 4 rfl ?_
        refine V_iload_n hc dX12_isDone_130 rfl 3 rfl ?_
        refine V_iload_n hc dX12_isDone_131 rfl 2 rfl ?_
        refine V_iload_n hc dX12_isDone_132 rfl 1 rfl ?_
        obtain ⟨v35, hv35, hv4⟩ := mb hv4
        refine R_callVi hc hz (As := [.int v27, .int v29, .int v31]) (c12_canMark l D h q y _ _ _ _ hv35) w8_0 w8_2 wp6_11 w1_13 w8_3 hd12_canMark ⟨Nat.le_of_ble_eq_true rfl, Nat.le_of_ble_eq_true rfl⟩ rfl rfl (Nat.le_of_ble_eq_true rfl) dX12_isDone_133 ?_
        obtain ⟨M36, hv37, hv4⟩ := mb hv4
        have hJ136 : V E z u (mw h q y M36) 148 [] [] := by
          refine V_goto hc dX12_isDone_148 rfl ?_
          obtain rfl := Option.some.inj hv4
          exact V_sub [] rfl hJ8
        refine V_if_eq hc dX12_isDone_136 rfl (fun hq136 => ?_) (fun hq136 => ?_)
        · rw [if_pos hq136] at hv37
          obtain rfl := Option.some.inj hv37
          exact V_sub [] rfl hJ136
        · rw [if_neg hq136] at hv37
          refine V_aload_n hc dX12_isDone_139 rfl 4 rfl ?_
          refine V_iload_n hc dX12_isDone_140 rfl 3 rfl ?_
          refine V_iload_n hc dX12_isDone_141 rfl 2 rfl ?_
          refine V_iload_n hc dX12_isDone_142 rfl 1 rfl ?_
          refine V_iload hc dX12_isDone_143 0 rfl ?_
          obtain ⟨M38, hM38, hv37⟩ := mb hv37
          refine R_callVv hc hz (As := [.int v27, .int v29, .int v31, .int v33]) (c12_marked l D h q y _ _ _ _ hM38) w8_4 w8_6 wp6_12 w1_13 w8_7 hd12_marked ⟨Nat.le_of_ble_eq_true rfl, Nat.le_of_ble_eq_true rfl⟩ rfl rfl (Nat.le_of_ble_eq_true rfl) dX12_isDone_145 ?_
          obtain rfl := Option.some.inj hv37
          exact V_sub [] rfl hJ136
    · rw [if_neg hq48] at hv4
      refine V_aload_n hc dX12_isDone_51 rfl 0 rfl ?_
      obtain ⟨v39, M40, hv39, hv4⟩ := mb2 hv4
      refine R_callVi hc hz (As := []) (c12_editorTold l D h q y _ _ _ _ hv39) w7_107 w7_109 wp4_15 w1_13 w7_110 hd12_editorTold ⟨Nat.le_of_ble_eq_true rfl, Nat.le_of_ble_eq_true rfl⟩ rfl rfl (Nat.le_of_ble_eq_true rfl) dX12_isDone_52 ?_
      refine V_istore_n hc dX12_isDone_55 rfl (by decide) rfl ?_
      refine V_aload_n hc dX12_isDone_56 rfl 1 rfl ?_
      refine V_iconst hc (v := (0 : Int32)) dX12_isDone_57 rfl ?_
      refine V_bipush hc (v := (99 : Int32)) dX12_isDone_58 rfl ?_
      obtain ⟨v41, M42, hv41, hv4⟩ := mb2 hv4
      refine R_callVi hc hz (As := [.int (0 : Int32), .int (99 : Int32)]) (c12_number l D h q y _ _ _ _ hv41) w7_84 w7_86 wp4_10 w1_13 w7_87 hd12_number ⟨Nat.le_of_ble_eq_true rfl, Nat.le_of_ble_eq_true rfl⟩ rfl rfl (Nat.le_of_ble_eq_true rfl) dX12_isDone_60 ?_
      refine V_istore_n hc dX12_isDone_63 rfl (by decide) rfl ?_
      refine V_iload_n hc dX12_isDone_64 rfl 0 rfl ?_
      refine V_aload_n hc dX12_isDone_65 rfl 2 rfl ?_
      refine V_iload_n hc dX12_isDone_66 rfl 1 rfl ?_
      refine V_bipush hc (v := (21 : Int32)) dX12_isDone_67 rfl ?_
      obtain ⟨v43, hv43, hv4⟩ := mb hv4
      refine R_callVi hc hz (As := [.int v39, .int (21 : Int32)]) (c12_its l D h q y _ _ _ _ hv43) w7_142 w7_144 wp5_7 w1_13 w7_145 hd12_its ⟨Nat.le_of_ble_eq_true rfl, Nat.le_of_ble_eq_true rfl⟩ rfl rfl (Nat.le_of_ble_eq_true rfl) dX12_isDone_69 ?_
      obtain ⟨M44, hv45, hv4⟩ := mb hv4
      have hJ72 : V E z u (mw h q y M44) 86 [] [] := by
        refine V_goto hc dX12_isDone_86 rfl ?_
        obtain rfl := Option.some.inj hv4
        exact V_sub [] rfl hJ8
      refine V_icmp_gt hc dX12_isDone_72 rfl (fun hq72 => ?_) (fun hq72 => ?_)
      · rw [if_pos hq72] at hv45
        obtain rfl := Option.some.inj hv45
        exact V_sub [] rfl hJ72
      · rw [if_neg hq72] at hv45
        refine V_aload_n hc dX12_isDone_75 rfl 2 rfl ?_
        refine R_getr hc 30 rfl (by decide) w6_88 dX12_isDone_76 ?_
        refine V_iload_n hc dX12_isDone_79 rfl 1 rfl ?_
        refine V_iconst hc (v := (1 : Int32)) dX12_isDone_80 rfl ?_
        obtain ⟨v46, hv46, hv45⟩ := mb hv45
        refine R_callSi hc hz (As := [.int v39, .int (1 : Int32)]) (c12_of l D h q y _ _ _ _ hv46) w7_123 w7_124 w1_13 w7_125 hd12_of ⟨Nat.le_of_ble_eq_true rfl, Nat.le_of_ble_eq_true rfl⟩ rfl rfl (Nat.le_of_ble_eq_true rfl) dX12_isDone_81 ?_
        refine V_iload_n hc dX12_isDone_84 rfl 0 rfl ?_
        obtain ⟨M47, hM47, hv45⟩ := mb hv45
        refine R_iast hc hT rfl hM47 dX12_isDone_85 ?_
        obtain rfl := Option.some.inj hv45
        exact V_sub [] rfl hJ72
  · rw [if_neg hq8] at hv4
    refine V_aload_n hc dX12_isDone_11 rfl 0 rfl ?_
    obtain ⟨v48, M49, hv48, hv4⟩ := mb2 hv4
    refine R_callVi hc hz (As := []) (c12_editorTold l D h q y _ _ _ _ hv48) w7_107 w7_109 wp4_15 w1_13 w7_110 hd12_editorTold ⟨Nat.le_of_ble_eq_true rfl, Nat.le_of_ble_eq_true rfl⟩ rfl rfl (Nat.le_of_ble_eq_true rfl) dX12_isDone_12 ?_
    refine V_istore_n hc dX12_isDone_15 rfl (by decide) rfl ?_
    refine V_aload_n hc dX12_isDone_16 rfl 1 rfl ?_
    refine V_iload_n hc dX12_isDone_17 rfl 0 rfl ?_
    obtain ⟨v50, M51, hv50, hv4⟩ := mb2 hv4
    refine R_callVi hc hz (As := [.int v48]) (c12_isOp l D h q y _ _ _ _ hv50) w7_138 w7_140 wp5_6 w1_13 w7_141 hd12_isOp ⟨Nat.le_of_ble_eq_true rfl, Nat.le_of_ble_eq_true rfl⟩ rfl rfl (Nat.le_of_ble_eq_true rfl) dX12_isDone_18 ?_
    obtain ⟨M52, hv53, hv4⟩ := mb hv4
    have hJ21 : V E z u (mw h q y M52) 37 [] [] := by
      refine V_goto hc dX12_isDone_37 rfl ?_
      obtain rfl := Option.some.inj hv4
      exact V_sub [] rfl hJ8
    refine V_if_eq hc dX12_isDone_21 rfl (fun hq21 => ?_) (fun hq21 => ?_)
    · rw [if_pos hq21] at hv53
      obtain rfl := Option.some.inj hv53
      exact V_sub [] rfl hJ21
    · rw [if_neg hq21] at hv53
      refine V_aload_n hc dX12_isDone_24 rfl 1 rfl ?_
      obtain ⟨v54, hv54, hv53⟩ := mb hv53
      refine R_callVi hc hz (As := []) (c12_canEdit l D h q y _ _ _ _ hv54) w7_154 w7_156 wp5_10 w1_13 w7_157 hd12_canEdit ⟨Nat.le_of_ble_eq_true rfl, Nat.le_of_ble_eq_true rfl⟩ rfl rfl (Nat.le_of_ble_eq_true rfl) dX12_isDone_25 ?_
      refine V_if_eq hc dX12_isDone_28 rfl (fun hq28 => ?_) (fun hq28 => ?_)
      · rw [if_pos hq28] at hv53
        obtain rfl := Option.some.inj hv53
        exact V_sub [] rfl hJ21
      · rw [if_neg hq28] at hv53
        refine V_aload_n hc dX12_isDone_31 rfl 1 rfl ?_
        refine V_iload_n hc dX12_isDone_32 rfl 0 rfl ?_
        refine V_iconst hc (v := (0 : Int32)) dX12_isDone_33 rfl ?_
        obtain ⟨M55, hM55, hv53⟩ := mb hv53
        refine R_callVv hc hz (As := [.int v48, .int (0 : Int32)]) (c12_edits l D h q y _ _ _ _ hM55) w7_164 w7_166 wp5_11 w1_13 w7_167 hd12_edits ⟨Nat.le_of_ble_eq_true rfl, Nat.le_of_ble_eq_true rfl⟩ rfl rfl (Nat.le_of_ble_eq_true rfl) dX12_isDone_34 ?_
        obtain rfl := Option.some.inj hv53
        exact V_sub [] rfl hJ21
noncomputable def L12_goesOver_38 (c1 : Int32) : Nat → MS → Option (MS)
  | 0, _ => none
  | n + 1, M =>
    bn2 (f12_look M) fun v1 M2 =>
    if v1 = (59 : Int32) then (
      some M2
    ) else (
      L12_goesOver_38 c1 n (sF M2 2 ((gF M2 2) + (1 : Int32)))
    )
noncomputable def L12_goesOver_15 (c1 : Int32) : Nat → MS → Option (MS)
  | 0, _ => none
  | n + 1, M =>
    bn2 (f12_look M) fun v1 M2 =>
    if v1 = (-1 : Int32) then (
      some M2
    ) else (
      (
        if c1 = 0 then (
          (f12_isDone M2).bind fun M5 =>
          some M5
        ) else (
          (f12_isLaid M2).bind fun M6 =>
          some M6
        )
      ).bind fun M3 =>
      (L12_goesOver_38 c1 FU M3).bind fun M7 =>
      L12_goesOver_15 c1 n (sF M7 2 ((gF M7 2) + (1 : Int32)))
    )
noncomputable def f12_goesOver (M : MS) (p1 : Int32) : Option (MS) :=
  (f12_goesTo M (0 : Int32)).bind fun M1 =>
  (f12_headTold M1).bind fun M2 =>
  (f12_asksSign M2 (59 : Int32)).bind fun M3 =>
  (L12_goesOver_15 p1 FU M3).bind fun M4 =>
  some M4
theorem hd12_goesOver : yX12_goesOver.cls = "FarEditorsModel" ∧ yX12_goesOver.cls ≠ "java/lang/invoke/MethodHandle" ∧ yX12_goesOver.cls ≠ "java/lang/invoke/VarHandle" ∧ (parseMethodDescriptor yX12_goesOver.desc).map (fun d => d.parameters.length) = some 1 := by decide +kernel
set_option maxHeartbeats 4000000 in
set_option maxRecDepth 100000 in
theorem L12_goesOver_38_ok {E : CxT} {l : Launch} {D : va_G} {h : Nat} {q : Nat → Nat} {y : CyT} {zM uM z u : Nat} (hc : Cx E "FarEditorsModel" cX12_goesOver 2) (hz : Cy E l D y 7 169 zM uM) (c1 : Int32) : ∀ (n : Nat) (M : MS) {Mo : MS}, L12_goesOver_38 c1 n M = some Mo → (hx0 : V E z u (mw h q y Mo) 60 [(0, .ref h), (1, .int c1)] []) → V E z u (mw h q y M) 38 [(0, .ref h), (1, .int c1)] [] := by
  have hT := hz.2.2.1
  intro n
  induction n with
  | zero => intro M Mo hf; cases hf
  | succ n ih =>
    intro M Mo hf hx0
    unfold L12_goesOver_38 at hf
    refine V_aload_n hc dX12_goesOver_38 rfl 0 rfl ?_
    obtain ⟨v1, M2, hv1, hf⟩ := mb2 hf
    refine R_callVi hc hz (As := []) (c12_look l D h q y _ _ _ _ hv1) w7_69 w7_71 wp4_7 w1_13 w7_72 hd12_look ⟨Nat.le_of_ble_eq_true rfl, Nat.le_of_ble_eq_true rfl⟩ rfl rfl (Nat.le_of_ble_eq_true rfl) dX12_goesOver_39 ?_
    refine V_bipush hc (v := (59 : Int32)) dX12_goesOver_42 rfl ?_
    refine V_icmp_eq hc dX12_goesOver_44 rfl (fun hq44 => ?_) (fun hq44 => ?_)
    · rw [if_pos hq44] at hf
      obtain rfl := Option.some.inj hf
      exact V_sub [0, 1] rfl hx0
    · rw [if_neg hq44] at hf
      refine V_aload_n hc dX12_goesOver_47 rfl 0 rfl ?_
      refine V_dup hc dX12_goesOver_48 rfl ?_
      refine R_geti hc 2 rfl (by decide) w6_60 dX12_goesOver_49 ?_
      refine V_iconst hc (v := (1 : Int32)) dX12_goesOver_52 rfl ?_
      refine V_iadd hc dX12_goesOver_53 ?_
      refine R_puti hc 2 rfl (by decide) w6_60 rfl rfl rfl dX12_goesOver_54 ?_
      refine V_goto hc dX12_goesOver_57 rfl ?_
      exact V_sub [0, 1] rfl (ih _ hf hx0)
set_option maxHeartbeats 4000000 in
set_option maxRecDepth 100000 in
theorem L12_goesOver_15_ok {E : CxT} {l : Launch} {D : va_G} {h : Nat} {q : Nat → Nat} {y : CyT} {zM uM z u : Nat} (hc : Cx E "FarEditorsModel" cX12_goesOver 2) (hz : Cy E l D y 7 169 zM uM) (c1 : Int32) : ∀ (n : Nat) (M : MS) {Mo : MS}, L12_goesOver_15 c1 n M = some Mo → (hx0 : V E z u (mw h q y Mo) 73 [] []) → V E z u (mw h q y M) 15 [(0, .ref h), (1, .int c1)] [] := by
  have hT := hz.2.2.1
  intro n
  induction n with
  | zero => intro M Mo hf; cases hf
  | succ n ih =>
    intro M Mo hf hx0
    unfold L12_goesOver_15 at hf
    refine V_aload_n hc dX12_goesOver_15 rfl 0 rfl ?_
    obtain ⟨v1, M2, hv1, hf⟩ := mb2 hf
    refine R_callVi hc hz (As := []) (c12_look l D h q y _ _ _ _ hv1) w7_69 w7_71 wp4_7 w1_13 w7_72 hd12_look ⟨Nat.le_of_ble_eq_true rfl, Nat.le_of_ble_eq_true rfl⟩ rfl rfl (Nat.le_of_ble_eq_true rfl) dX12_goesOver_16 ?_
    refine V_iconst hc (v := (-1 : Int32)) dX12_goesOver_19 rfl ?_
    refine V_icmp_eq hc dX12_goesOver_20 rfl (fun hq20 => ?_) (fun hq20 => ?_)
    · rw [if_pos hq20] at hf
      obtain rfl := Option.some.inj hf
      exact V_sub [] rfl hx0
    · rw [if_neg hq20] at hf
      refine V_iload_n hc dX12_goesOver_23 rfl 1 rfl ?_
      obtain ⟨M3, hv4, hf⟩ := mb hf
      have hJ24 : V E z u (mw h q y M3) 38 [(0, .ref h), (1, .int c1)] [] := by
        obtain ⟨M7, hv8, hf⟩ := mb hf
        refine V_sub [0, 1] rfl (L12_goesOver_38_ok hc hz c1 FU _ hv8 ?_)
        refine V_aload_n hc dX12_goesOver_60 rfl 0 rfl ?_
        refine V_dup hc dX12_goesOver_61 rfl ?_
        refine R_geti hc 2 rfl (by decide) w6_60 dX12_goesOver_62 ?_
        refine V_iconst hc (v := (1 : Int32)) dX12_goesOver_65 rfl ?_
        refine V_iadd hc dX12_goesOver_66 ?_
        refine R_puti hc 2 rfl (by decide) w6_60 rfl rfl rfl dX12_goesOver_67 ?_
        refine V_goto hc dX12_goesOver_70 rfl ?_
        exact V_sub [0, 1] rfl (ih _ hf hx0)
      refine V_if_eq hc dX12_goesOver_24 rfl (fun hq24 => ?_) (fun hq24 => ?_)
      · rw [if_pos hq24] at hv4
        refine V_aload_n hc dX12_goesOver_34 rfl 0 rfl ?_
        obtain ⟨M5, hM5, hv4⟩ := mb hv4
        refine R_callVv hc hz (As := []) (c12_isDone l D h q y _ _ _ _ hM5) w7_134 w7_136 wp5_5 w1_13 w7_137 hd12_isDone ⟨Nat.le_of_ble_eq_true rfl, Nat.le_of_ble_eq_true rfl⟩ rfl rfl (Nat.le_of_ble_eq_true rfl) dX12_goesOver_35 ?_
        obtain rfl := Option.some.inj hv4
        exact V_sub [0, 1] rfl hJ24
      · rw [if_neg hq24] at hv4
        refine V_aload_n hc dX12_goesOver_27 rfl 0 rfl ?_
        obtain ⟨M6, hM6, hv4⟩ := mb hv4
        refine R_callVv hc hz (As := []) (c12_isLaid l D h q y _ _ _ _ hM6) w7_130 w7_132 wp5_4 w1_13 w7_133 hd12_isLaid ⟨Nat.le_of_ble_eq_true rfl, Nat.le_of_ble_eq_true rfl⟩ rfl rfl (Nat.le_of_ble_eq_true rfl) dX12_goesOver_28 ?_
        refine V_goto hc dX12_goesOver_31 rfl ?_
        obtain rfl := Option.some.inj hv4
        exact V_sub [0, 1] rfl hJ24
set_option maxHeartbeats 4000000 in
set_option maxRecDepth 100000 in
theorem c12_goesOver (l : Launch) (D : va_G) (h : Nat) (q : Nat → Nat) (y : CyT) (zM uM z u : Nat) {M M' : MS} {p1 : Int32} (hf : f12_goesOver M p1 = some M') : CT l D y yX12_goesOver cX12_goesOver 2 none 7 169 zM uM [.ref h, .int p1] z u (mw h q y M) z u (mw h q y M') none := by
  refine CT.of (by decide) (Nat.le_of_ble_eq_true rfl) (fun E hc hzz hnm => ?_)
  have hc : Cx E "FarEditorsModel" cX12_goesOver 2 := hc
  have hz := hzz.1
  have hT := hz.2.2.1
  show V E z u (mw h q y M) 0 [(0, .ref h), (1, .int p1)] []
  unfold f12_goesOver at hf
  refine V_aload_n hc dX12_goesOver_0 rfl 0 rfl ?_
  refine V_iconst hc (v := (0 : Int32)) dX12_goesOver_1 rfl ?_
  obtain ⟨M1, hM1, hf⟩ := mb hf
  refine R_callVv hc hz (As := [.int (0 : Int32)]) (c12_goesTo l D h q y _ _ _ _ hM1) w7_49 w7_51 wp4_2 w1_13 w7_52 hd12_goesTo ⟨Nat.le_of_ble_eq_true rfl, Nat.le_of_ble_eq_true rfl⟩ rfl rfl (Nat.le_of_ble_eq_true rfl) dX12_goesOver_2 ?_
  refine V_aload_n hc dX12_goesOver_5 rfl 0 rfl ?_
  obtain ⟨M2, hM2, hf⟩ := mb hf
  refine R_callVv hc hz (As := []) (c12_headTold l D h q y _ _ _ _ hM2) w7_53 w7_55 wp4_3 w1_13 w7_56 hd12_headTold ⟨Nat.le_of_ble_eq_true rfl, Nat.le_of_ble_eq_true rfl⟩ rfl rfl (Nat.le_of_ble_eq_true rfl) dX12_goesOver_6 ?_
  refine V_aload_n hc dX12_goesOver_9 rfl 0 rfl ?_
  refine V_bipush hc (v := (59 : Int32)) dX12_goesOver_10 rfl ?_
  obtain ⟨M3, hM3, hf⟩ := mb hf
  refine R_callVv hc hz (As := [.int (59 : Int32)]) (c12_asksSign l D h q y _ _ _ _ hM3) w7_91 w7_93 wp4_11 w1_13 w7_94 hd12_asksSign ⟨Nat.le_of_ble_eq_true rfl, Nat.le_of_ble_eq_true rfl⟩ rfl rfl (Nat.le_of_ble_eq_true rfl) dX12_goesOver_12 ?_
  obtain ⟨M4, hv5, hf⟩ := mb hf
  refine V_sub [0, 1] rfl (L12_goesOver_15_ok hc hz p1 FU _ hv5 ?_)
  obtain rfl := Option.some.inj hf
  exact V_vret hc hzz rfl rfl rfl rfl dX12_goesOver_73
noncomputable def L12_stands_33 : Nat → Int32 → MS → Option (MS)
  | 0, _, _ => none
  | n + 1, i1, M =>
    if (gF M 34) ≤ i1 then (
      some M
    ) else (
      (ld M 0 ((gF M 44) + i1)).bind fun v1 =>
      (sd M 35 i1 ((v1 - (97 : Int32)) + (1 : Int32))).bind fun M2 =>
      L12_stands_33 n (i1 + (1 : Int32)) M2
    )
noncomputable def L12_stands_71 : Nat → Int32 → MS → Option (MS)
  | 0, _, _ => none
  | n + 1, i1, M =>
    if (10476 : Int32) ≤ i1 then (
      some M
    ) else (
      (sd M 30 i1 (0 : Int32)).bind fun M1 =>
      L12_stands_71 n (i1 + (1 : Int32)) M1
    )
noncomputable def L12_stands_154 (c1 : Int32) : Nat → Int32 → MS → Option (MS)
  | 0, _, _ => none
  | n + 1, i2, M =>
    if (gF M 34) ≤ i2 then (
      some M
    ) else (
      (f12_of c1 ((24 : Int32) + i2)).bind fun v1 =>
      (ld M 35 i2).bind fun v2 =>
      (sd M 30 v1 v2).bind fun M3 =>
      L12_stands_154 c1 n (i2 + (1 : Int32)) M3
    )
noncomputable def L12_stands_93 : Nat → Int32 → MS → Option (MS)
  | 0, _, _ => none
  | n + 1, i1, M =>
    if (gF M 32) ≤ i1 then (
      some M
    ) else (
      (f12_of i1 (15 : Int32)).bind fun v1 =>
      (sd M 30 v1 (1 : Int32)).bind fun M2 =>
      (f12_of i1 (16 : Int32)).bind fun v3 =>
      (sd M2 30 v3 (1 : Int32)).bind fun M4 =>
      (f12_of i1 (19 : Int32)).bind fun v5 =>
      (sd M4 30 v5 (-1 : Int32)).bind fun M6 =>
      (f12_of i1 (21 : Int32)).bind fun v7 =>
      (sd M6 30 v7 (gF M6 34)).bind fun M8 =>
      (L12_stands_154 i1 FU (0 : Int32) M8).bind fun M9 =>
      L12_stands_93 n (i1 + (1 : Int32)) M9
    )
noncomputable def f12_stands (M : MS) : Option (MS) :=
  (L12_stands_33 FU (0 : Int32) (sF (sF (sF (sF M 31 (1 : Int32)) 32 (gF (sF M 31 (1 : Int32)) 43)) 33 (0 : Int32)) 34 ((gF (sF (sF (sF M 31 (1 : Int32)) 32 (gF (sF M 31 (1 : Int32)) 43)) 33 (0 : Int32)) 45) - (gF (sF (sF (sF M 31 (1 : Int32)) 32 (gF (sF M 31 (1 : Int32)) 43)) 33 (0 : Int32)) 44)))).bind fun M1 =>
  (L12_stands_71 FU (0 : Int32) M1).bind fun M3 =>
  (L12_stands_93 FU (0 : Int32) M3).bind fun M5 =>
  (f12_goesOver M5 (1 : Int32)).bind fun M7 =>
  (f12_goesOver M7 (0 : Int32)).bind fun M8 =>
  some (sF (sF M8 61 (0 : Int32)) 56 (0 : Int32))
theorem hd12_stands : yX12_stands.cls = "FarEditorsModel" ∧ yX12_stands.cls ≠ "java/lang/invoke/MethodHandle" ∧ yX12_stands.cls ≠ "java/lang/invoke/VarHandle" ∧ (parseMethodDescriptor yX12_stands.desc).map (fun d => d.parameters.length) = some 0 := by decide +kernel
set_option maxHeartbeats 4000000 in
set_option maxRecDepth 100000 in
theorem L12_stands_33_ok {E : CxT} {l : Launch} {D : va_G} {h : Nat} {q : Nat → Nat} {y : CyT} {zM uM z u : Nat} (hc : Cx E "FarEditorsModel" cX12_stands 3) (hz : Cy E l D y 8 190 zM uM) : ∀ (n : Nat) (i1 : Int32) (M : MS) {Mo : MS}, L12_stands_33 n i1 M = some Mo → (hx0 : V E z u (mw h q y Mo) 69 [(0, .ref h)] []) → V E z u (mw h q y M) 33 [(0, .ref h), (1, .int i1)] [] := by
  have hT := hz.2.2.1
  intro n
  induction n with
  | zero => intro i1 M Mo hf; cases hf
  | succ n ih =>
    intro i1 M Mo hf hx0
    unfold L12_stands_33 at hf
    refine V_iload_n hc dX12_stands_33 rfl 1 rfl ?_
    refine V_aload_n hc dX12_stands_34 rfl 0 rfl ?_
    refine R_geti hc 34 rfl (by decide) w6_92 dX12_stands_35 ?_
    refine V_icmp_ge hc dX12_stands_38 rfl (fun hq38 => ?_) (fun hq38 => ?_)
    · rw [if_pos hq38] at hf
      obtain rfl := Option.some.inj hf
      exact V_sub [0] rfl hx0
    · rw [if_neg hq38] at hf
      refine V_aload_n hc dX12_stands_41 rfl 0 rfl ?_
      refine R_getr hc 35 rfl (by decide) w6_93 dX12_stands_42 ?_
      refine V_iload_n hc dX12_stands_45 rfl 1 rfl ?_
      refine V_aload_n hc dX12_stands_46 rfl 0 rfl ?_
      refine R_getr hc 0 rfl (by decide) w6_58 dX12_stands_47 ?_
      refine V_aload_n hc dX12_stands_50 rfl 0 rfl ?_
      refine R_geti hc 44 rfl (by decide) w6_102 dX12_stands_51 ?_
      refine V_iload_n hc dX12_stands_54 rfl 1 rfl ?_
      refine V_iadd hc dX12_stands_55 ?_
      obtain ⟨v1, hv1, hf⟩ := mb hf
      refine R_iald hc hT rfl hv1 dX12_stands_56 ?_
      refine V_bipush hc (v := (97 : Int32)) dX12_stands_57 rfl ?_
      refine V_isub hc dX12_stands_59 ?_
      refine V_iconst hc (v := (1 : Int32)) dX12_stands_60 rfl ?_
      refine V_iadd hc dX12_stands_61 ?_
      obtain ⟨M2, hM2, hf⟩ := mb hf
      refine R_iast hc hT rfl hM2 dX12_stands_62 ?_
      refine V_iinc hc (j := 1) (v := (i1 + (1 : Int32))) dX12_stands_63 rfl rfl (by decide) rfl ?_
      refine V_goto hc dX12_stands_66 rfl ?_
      exact V_sub [1, 0] rfl (ih _ _ hf hx0)
set_option maxHeartbeats 4000000 in
set_option maxRecDepth 100000 in
theorem L12_stands_71_ok {E : CxT} {l : Launch} {D : va_G} {h : Nat} {q : Nat → Nat} {y : CyT} {zM uM z u : Nat} (hc : Cx E "FarEditorsModel" cX12_stands 3) (hz : Cy E l D y 8 190 zM uM) : ∀ (n : Nat) (i1 : Int32) (M : MS) {Mo : MS}, L12_stands_71 n i1 M = some Mo → (hx0 : V E z u (mw h q y Mo) 91 [(0, .ref h)] []) → V E z u (mw h q y M) 71 [(0, .ref h), (1, .int i1)] [] := by
  have hT := hz.2.2.1
  intro n
  induction n with
  | zero => intro i1 M Mo hf; cases hf
  | succ n ih =>
    intro i1 M Mo hf hx0
    unfold L12_stands_71 at hf
    refine V_iload_n hc dX12_stands_71 rfl 1 rfl ?_
    refine V_sipush hc (v := (10476 : Int32)) dX12_stands_72 rfl ?_
    refine V_icmp_ge hc dX12_stands_75 rfl (fun hq75 => ?_) (fun hq75 => ?_)
    · rw [if_pos hq75] at hf
      obtain rfl := Option.some.inj hf
      exact V_sub [0] rfl hx0
    · rw [if_neg hq75] at hf
      refine V_aload_n hc dX12_stands_78 rfl 0 rfl ?_
      refine R_getr hc 30 rfl (by decide) w6_88 dX12_stands_79 ?_
      refine V_iload_n hc dX12_stands_82 rfl 1 rfl ?_
      refine V_iconst hc (v := (0 : Int32)) dX12_stands_83 rfl ?_
      obtain ⟨M1, hM1, hf⟩ := mb hf
      refine R_iast hc hT rfl hM1 dX12_stands_84 ?_
      refine V_iinc hc (j := 1) (v := (i1 + (1 : Int32))) dX12_stands_85 rfl rfl (by decide) rfl ?_
      refine V_goto hc dX12_stands_88 rfl ?_
      exact V_sub [1, 0] rfl (ih _ _ hf hx0)
set_option maxHeartbeats 4000000 in
set_option maxRecDepth 100000 in
theorem L12_stands_154_ok {E : CxT} {l : Launch} {D : va_G} {h : Nat} {q : Nat → Nat} {y : CyT} {zM uM z u : Nat} (hc : Cx E "FarEditorsModel" cX12_stands 3) (hz : Cy E l D y 8 190 zM uM) (c1 : Int32) : ∀ (n : Nat) (i2 : Int32) (M : MS) {Mo : MS}, L12_stands_154 c1 n i2 M = some Mo → (hx0 : V E z u (mw h q y Mo) 187 [(0, .ref h), (1, .int c1)] []) → V E z u (mw h q y M) 154 [(0, .ref h), (1, .int c1), (2, .int i2)] [] := by
  have hT := hz.2.2.1
  intro n
  induction n with
  | zero => intro i2 M Mo hf; cases hf
  | succ n ih =>
    intro i2 M Mo hf hx0
    unfold L12_stands_154 at hf
    refine V_iload_n hc dX12_stands_154 rfl 2 rfl ?_
    refine V_aload_n hc dX12_stands_155 rfl 0 rfl ?_
    refine R_geti hc 34 rfl (by decide) w6_92 dX12_stands_156 ?_
    refine V_icmp_ge hc dX12_stands_159 rfl (fun hq159 => ?_) (fun hq159 => ?_)
    · rw [if_pos hq159] at hf
      obtain rfl := Option.some.inj hf
      exact V_sub [0, 1] rfl hx0
    · rw [if_neg hq159] at hf
      refine V_aload_n hc dX12_stands_162 rfl 0 rfl ?_
      refine R_getr hc 30 rfl (by decide) w6_88 dX12_stands_163 ?_
      refine V_iload_n hc dX12_stands_166 rfl 1 rfl ?_
      refine V_bipush hc (v := (24 : Int32)) dX12_stands_167 rfl ?_
      refine V_iload_n hc dX12_stands_169 rfl 2 rfl ?_
      refine V_iadd hc dX12_stands_170 ?_
      obtain ⟨v1, hv1, hf⟩ := mb hf
      refine R_callSi hc hz (As := [.int c1, .int ((24 : Int32) + i2)]) (c12_of l D h q y _ _ _ _ hv1) w7_123 w7_124 w1_13 w7_125 hd12_of ⟨Nat.le_of_ble_eq_true rfl, Nat.le_of_ble_eq_true rfl⟩ rfl rfl (Nat.le_of_ble_eq_true rfl) dX12_stands_171 ?_
      refine V_aload_n hc dX12_stands_174 rfl 0 rfl ?_
      refine R_getr hc 35 rfl (by decide) w6_93 dX12_stands_175 ?_
      refine V_iload_n hc dX12_stands_178 rfl 2 rfl ?_
      obtain ⟨v2, hv2, hf⟩ := mb hf
      refine R_iald hc hT rfl hv2 dX12_stands_179 ?_
      obtain ⟨M3, hM3, hf⟩ := mb hf
      refine R_iast hc hT rfl hM3 dX12_stands_180 ?_
      refine V_iinc hc (j := 2) (v := (i2 + (1 : Int32))) dX12_stands_181 rfl rfl (by decide) rfl ?_
      refine V_goto hc dX12_stands_184 rfl ?_
      exact V_sub [1, 2, 0] rfl (ih _ _ hf hx0)
set_option maxHeartbeats 4000000 in
set_option maxRecDepth 100000 in
theorem L12_stands_93_ok {E : CxT} {l : Launch} {D : va_G} {h : Nat} {q : Nat → Nat} {y : CyT} {zM uM z u : Nat} (hc : Cx E "FarEditorsModel" cX12_stands 3) (hz : Cy E l D y 8 190 zM uM) : ∀ (n : Nat) (i1 : Int32) (M : MS) {Mo : MS}, L12_stands_93 n i1 M = some Mo → (hx0 : V E z u (mw h q y Mo) 193 [(0, .ref h)] []) → V E z u (mw h q y M) 93 [(0, .ref h), (1, .int i1)] [] := by
  have hT := hz.2.2.1
  intro n
  induction n with
  | zero => intro i1 M Mo hf; cases hf
  | succ n ih =>
    intro i1 M Mo hf hx0
    unfold L12_stands_93 at hf
    refine V_iload_n hc dX12_stands_93 rfl 1 rfl ?_
    refine V_aload_n hc dX12_stands_94 rfl 0 rfl ?_
    refine R_geti hc 32 rfl (by decide) w6_90 dX12_stands_95 ?_
    refine V_icmp_ge hc dX12_stands_98 rfl (fun hq98 => ?_) (fun hq98 => ?_)
    · rw [if_pos hq98] at hf
      obtain rfl := Option.some.inj hf
      exact V_sub [0] rfl hx0
    · rw [if_neg hq98] at hf
      refine V_aload_n hc dX12_stands_101 rfl 0 rfl ?_
      refine R_getr hc 30 rfl (by decide) w6_88 dX12_stands_102 ?_
      refine V_iload_n hc dX12_stands_105 rfl 1 rfl ?_
      refine V_bipush hc (v := (15 : Int32)) dX12_stands_106 rfl ?_
      obtain ⟨v1, hv1, hf⟩ := mb hf
      refine R_callSi hc hz (As := [.int i1, .int (15 : Int32)]) (c12_of l D h q y _ _ _ _ hv1) w7_123 w7_124 w1_13 w7_125 hd12_of ⟨Nat.le_of_ble_eq_true rfl, Nat.le_of_ble_eq_true rfl⟩ rfl rfl (Nat.le_of_ble_eq_true rfl) dX12_stands_108 ?_
      refine V_iconst hc (v := (1 : Int32)) dX12_stands_111 rfl ?_
      obtain ⟨M2, hM2, hf⟩ := mb hf
      refine R_iast hc hT rfl hM2 dX12_stands_112 ?_
      refine V_aload_n hc dX12_stands_113 rfl 0 rfl ?_
      refine R_getr hc 30 rfl (by decide) w6_88 dX12_stands_114 ?_
      refine V_iload_n hc dX12_stands_117 rfl 1 rfl ?_
      refine V_bipush hc (v := (16 : Int32)) dX12_stands_118 rfl ?_
      obtain ⟨v3, hv3, hf⟩ := mb hf
      refine R_callSi hc hz (As := [.int i1, .int (16 : Int32)]) (c12_of l D h q y _ _ _ _ hv3) w7_123 w7_124 w1_13 w7_125 hd12_of ⟨Nat.le_of_ble_eq_true rfl, Nat.le_of_ble_eq_true rfl⟩ rfl rfl (Nat.le_of_ble_eq_true rfl) dX12_stands_120 ?_
      refine V_iconst hc (v := (1 : Int32)) dX12_stands_123 rfl ?_
      obtain ⟨M4, hM4, hf⟩ := mb hf
      refine R_iast hc hT rfl hM4 dX12_stands_124 ?_
      refine V_aload_n hc dX12_stands_125 rfl 0 rfl ?_
      refine R_getr hc 30 rfl (by decide) w6_88 dX12_stands_126 ?_
      refine V_iload_n hc dX12_stands_129 rfl 1 rfl ?_
      refine V_bipush hc (v := (19 : Int32)) dX12_stands_130 rfl ?_
      obtain ⟨v5, hv5, hf⟩ := mb hf
      refine R_callSi hc hz (As := [.int i1, .int (19 : Int32)]) (c12_of l D h q y _ _ _ _ hv5) w7_123 w7_124 w1_13 w7_125 hd12_of ⟨Nat.le_of_ble_eq_true rfl, Nat.le_of_ble_eq_true rfl⟩ rfl rfl (Nat.le_of_ble_eq_true rfl) dX12_stands_132 ?_
      refine V_iconst hc (v := (-1 : Int32)) dX12_stands_135 rfl ?_
      obtain ⟨M6, hM6, hf⟩ := mb hf
      refine R_iast hc hT rfl hM6 dX12_stands_136 ?_
      refine V_aload_n hc dX12_stands_137 rfl 0 rfl ?_
      refine R_getr hc 30 rfl (by decide) w6_88 dX12_stands_138 ?_
      refine V_iload_n hc dX12_stands_141 rfl 1 rfl ?_
      refine V_bipush hc (v := (21 : Int32)) dX12_stands_142 rfl ?_
      obtain ⟨v7, hv7, hf⟩ := mb hf
      refine R_callSi hc hz (As := [.int i1, .int (21 : Int32)]) (c12_of l D h q y _ _ _ _ hv7) w7_123 w7_124 w1_13 w7_125 hd12_of ⟨Nat.le_of_ble_eq_true rfl, Nat.le_of_ble_eq_true rfl⟩ rfl rfl (Nat.le_of_ble_eq_true rfl) dX12_stands_144 ?_
      refine V_aload_n hc dX12_stands_147 rfl 0 rfl ?_
      refine R_geti hc 34 rfl (by decide) w6_92 dX12_stands_148 ?_
      obtain ⟨M8, hM8, hf⟩ := mb hf
      refine R_iast hc hT rfl hM8 dX12_stands_151 ?_
      refine V_iconst hc (v := (0 : Int32)) dX12_stands_152 rfl ?_
      refine V_istore_n hc dX12_stands_153 rfl (by decide) rfl ?_
      obtain ⟨M9, hv10, hf⟩ := mb hf
      refine V_sub [1, 2, 0] rfl (L12_stands_154_ok hc hz i1 FU _ _ hv10 ?_)
      refine V_iinc hc (j := 1) (v := (i1 + (1 : Int32))) dX12_stands_187 rfl rfl (by decide) rfl ?_
      refine V_goto hc dX12_stands_190 rfl ?_
      exact V_sub [1, 0] rfl (ih _ _ hf hx0)
set_option maxHeartbeats 4000000 in
set_option maxRecDepth 100000 in
theorem c12_stands (l : Launch) (D : va_G) (h : Nat) (q : Nat → Nat) (y : CyT) (zM uM z u : Nat) {M M' : MS} (hf : f12_stands M = some M') : CT l D y yX12_stands cX12_stands 3 none 8 190 zM uM [.ref h] z u (mw h q y M) z u (mw h q y M') none := by
  refine CT.of (by decide) (Nat.le_of_ble_eq_true rfl) (fun E hc hzz hnm => ?_)
  have hc : Cx E "FarEditorsModel" cX12_stands 3 := hc
  have hz := hzz.1
  have hT := hz.2.2.1
  show V E z u (mw h q y M) 0 [(0, .ref h)] []
  unfold f12_stands at hf
  refine V_aload_n hc dX12_stands_0 rfl 0 rfl ?_
  refine V_iconst hc (v := (1 : Int32)) dX12_stands_1 rfl ?_
  refine R_puti hc 31 rfl (by decide) w6_89 rfl rfl rfl dX12_stands_2 ?_
  refine V_aload_n hc dX12_stands_5 rfl 0 rfl ?_
  refine V_aload_n hc dX12_stands_6 rfl 0 rfl ?_
  refine R_geti hc 43 rfl (by decide) w6_101 dX12_stands_7 ?_
  refine R_puti hc 32 rfl (by decide) w6_90 rfl rfl rfl dX12_stands_10 ?_
  refine V_aload_n hc dX12_stands_13 rfl 0 rfl ?_
  refine V_iconst hc (v := (0 : Int32)) dX12_stands_14 rfl ?_
  refine R_puti hc 33 rfl (by decide) w6_91 rfl rfl rfl dX12_stands_15 ?_
  refine V_aload_n hc dX12_stands_18 rfl 0 rfl ?_
  refine V_aload_n hc dX12_stands_19 rfl 0 rfl ?_
  refine R_geti hc 45 rfl (by decide) w6_103 dX12_stands_20 ?_
  refine V_aload_n hc dX12_stands_23 rfl 0 rfl ?_
  refine R_geti hc 44 rfl (by decide) w6_102 dX12_stands_24 ?_
  refine V_isub hc dX12_stands_27 ?_
  refine R_puti hc 34 rfl (by decide) w6_92 rfl rfl rfl dX12_stands_28 ?_
  refine V_iconst hc (v := (0 : Int32)) dX12_stands_31 rfl ?_
  refine V_istore_n hc dX12_stands_32 rfl (by decide) rfl ?_
  obtain ⟨M1, hv2, hf⟩ := mb hf
  refine V_sub [1, 0] rfl (L12_stands_33_ok hc hz FU _ _ hv2 ?_)
  refine V_iconst hc (v := (0 : Int32)) dX12_stands_69 rfl ?_
  refine V_istore_n hc dX12_stands_70 rfl (by decide) rfl ?_
  obtain ⟨M3, hv4, hf⟩ := mb hf
  refine V_sub [1, 0] rfl (L12_stands_71_ok hc hz FU _ _ hv4 ?_)
  refine V_iconst hc (v := (0 : Int32)) dX12_stands_91 rfl ?_
  refine V_istore_n hc dX12_stands_92 rfl (by decide) rfl ?_
  obtain ⟨M5, hv6, hf⟩ := mb hf
  refine V_sub [1, 0] rfl (L12_stands_93_ok hc hz FU _ _ hv6 ?_)
  refine V_aload_n hc dX12_stands_193 rfl 0 rfl ?_
  refine V_iconst hc (v := (1 : Int32)) dX12_stands_194 rfl ?_
  obtain ⟨M7, hM7, hf⟩ := mb hf
  refine R_callVv hc hz (As := [.int (1 : Int32)]) (c12_goesOver l D h q y _ _ _ _ hM7) w7_126 w7_128 wp5_3 w1_13 w7_129 hd12_goesOver ⟨Nat.le_of_ble_eq_true rfl, Nat.le_of_ble_eq_true rfl⟩ rfl rfl (Nat.le_of_ble_eq_true rfl) dX12_stands_195 ?_
  refine V_aload_n hc dX12_stands_198 rfl 0 rfl ?_
  refine V_iconst hc (v := (0 : Int32)) dX12_stands_199 rfl ?_
  obtain ⟨M8, hM8, hf⟩ := mb hf
  refine R_callVv hc hz (As := [.int (0 : Int32)]) (c12_goesOver l D h q y _ _ _ _ hM8) w7_126 w7_128 wp5_3 w1_13 w7_129 hd12_goesOver ⟨Nat.le_of_ble_eq_true rfl, Nat.le_of_ble_eq_true rfl⟩ rfl rfl (Nat.le_of_ble_eq_true rfl) dX12_stands_200 ?_
  refine V_aload_n hc dX12_stands_203 rfl 0 rfl ?_
  refine V_iconst hc (v := (0 : Int32)) dX12_stands_204 rfl ?_
  refine R_puti hc 61 rfl (by decide) w6_119 rfl rfl rfl dX12_stands_205 ?_
  refine V_aload_n hc dX12_stands_208 rfl 0 rfl ?_
  refine V_iconst hc (v := (0 : Int32)) dX12_stands_209 rfl ?_
  refine R_puti hc 56 rfl (by decide) w6_114 rfl rfl rfl dX12_stands_210 ?_
  obtain rfl := Option.some.inj hf
  exact V_vret hc hzz rfl rfl rfl rfl dX12_stands_213
noncomputable def L12_session_19 : Nat → MS → Option (MS)
  | 0, _ => none
  | n + 1, M =>
    if (gF M 5) = 0 then (
      bn2 (f12_look M) fun v1 M2 =>
      if v1 = (-1 : Int32) then (
        some M2
      ) else (
        (f12_statementTold M2).bind fun M3 =>
        L12_session_19 n M3
      )
    ) else (
      some M
    )
noncomputable def f12_session (M : MS) : Option (Int32 × MS) :=
  (f12_begins M).bind fun M1 =>
  (f12_headTold M1).bind fun M2 =>
  (f12_asksSign M2 (59 : Int32)).bind fun M3 =>
  (L12_session_19 FU (sF M3 46 (1 : Int32))).bind fun M4 =>
  if (gF (sF (sF M4 7 (gF M4 5)) 8 (gF (sF M4 7 (gF M4 5)) 6)) 5) = 0 then (
    (f12_stands (sF (sF M4 7 (gF M4 5)) 8 (gF (sF M4 7 (gF M4 5)) 6))).bind fun M6 =>
    some ((gF M6 46), M6)
  ) else (
    bn2 (f12_refuses (sF (sF M4 7 (gF M4 5)) 8 (gF (sF M4 7 (gF M4 5)) 6)) (1 : Int32)) fun v7 M8 =>
    some (v7, M8)
  )
theorem hd12_session : yX12_session.cls = "FarEditorsModel" ∧ yX12_session.cls ≠ "java/lang/invoke/MethodHandle" ∧ yX12_session.cls ≠ "java/lang/invoke/VarHandle" ∧ (parseMethodDescriptor yX12_session.desc).map (fun d => d.parameters.length) = some 0 := by decide +kernel
set_option maxHeartbeats 4000000 in
set_option maxRecDepth 100000 in
theorem L12_session_19_ok {E : CxT} {l : Launch} {D : va_G} {h : Nat} {q : Nat → Nat} {y : CyT} {zM uM z u : Nat} (hc : Cx E "FarEditorsModel" cX12_session 1) (hz : Cy E l D y 9 212 zM uM) : ∀ (n : Nat) (M : MS) {Mo : MS}, L12_session_19 n M = some Mo → (hx0 : V E z u (mw h q y Mo) 41 [(0, .ref h)] []) → V E z u (mw h q y M) 19 [(0, .ref h)] [] := by
  have hT := hz.2.2.1
  intro n
  induction n with
  | zero => intro M Mo hf; cases hf
  | succ n ih =>
    intro M Mo hf hx0
    unfold L12_session_19 at hf
    refine V_aload_n hc dX12_session_19 rfl 0 rfl ?_
    refine R_geti hc 5 rfl (by decide) w6_63 dX12_session_20 ?_
    refine V_if_ne hc dX12_session_23 rfl (fun hq23 => ?_) (fun hq23 => ?_)
    · rw [if_neg hq23] at hf
      obtain rfl := Option.some.inj hf
      exact V_sub [0] rfl hx0
    · rw [if_pos hq23] at hf
      refine V_aload_n hc dX12_session_26 rfl 0 rfl ?_
      obtain ⟨v1, M2, hv1, hf⟩ := mb2 hf
      refine R_callVi hc hz (As := []) (c12_look l D h q y _ _ _ _ hv1) w7_69 w7_71 wp4_7 w1_13 w7_72 hd12_look ⟨Nat.le_of_ble_eq_true rfl, Nat.le_of_ble_eq_true rfl⟩ rfl rfl (Nat.le_of_ble_eq_true rfl) dX12_session_27 ?_
      refine V_iconst hc (v := (-1 : Int32)) dX12_session_30 rfl ?_
      refine V_icmp_eq hc dX12_session_31 rfl (fun hq31 => ?_) (fun hq31 => ?_)
      · rw [if_pos hq31] at hf
        obtain rfl := Option.some.inj hf
        exact V_sub [0] rfl hx0
      · rw [if_neg hq31] at hf
        refine V_aload_n hc dX12_session_34 rfl 0 rfl ?_
        obtain ⟨M3, hM3, hf⟩ := mb hf
        refine R_callVv hc hz (As := []) (c12_statementTold l D h q y _ _ _ _ hM3) w7_99 w7_101 wp4_13 w1_13 w7_102 hd12_statementTold ⟨Nat.le_of_ble_eq_true rfl, Nat.le_of_ble_eq_true rfl⟩ rfl rfl (Nat.le_of_ble_eq_true rfl) dX12_session_35 ?_
        refine V_goto hc dX12_session_38 rfl ?_
        exact V_sub [0] rfl (ih _ hf hx0)
set_option maxHeartbeats 4000000 in
set_option maxRecDepth 100000 in
theorem c12_session (l : Launch) (D : va_G) (h : Nat) (q : Nat → Nat) (y : CyT) (zM uM z u : Nat) {M M' : MS} {r : Int32} (hf : f12_session M = some (r, M')) : CT l D y yX12_session cX12_session 1 (some .int) 9 212 zM uM [.ref h] z u (mw h q y M) z u (mw h q y M') (some (.int r)) := by
  refine CT.of (by decide) (Nat.le_of_ble_eq_true rfl) (fun E hc hzz hnm => ?_)
  have hc : Cx E "FarEditorsModel" cX12_session 1 := hc
  have hz := hzz.1
  have hT := hz.2.2.1
  show V E z u (mw h q y M) 0 [(0, .ref h)] []
  unfold f12_session at hf
  refine V_aload_n hc dX12_session_0 rfl 0 rfl ?_
  obtain ⟨M1, hM1, hf⟩ := mb hf
  refine R_callVv hc hz (As := []) (c12_begins l D h q y _ _ _ _ hM1) w7_45 w7_47 wp4_1 w1_13 w7_48 hd12_begins ⟨Nat.le_of_ble_eq_true rfl, Nat.le_of_ble_eq_true rfl⟩ rfl rfl (Nat.le_of_ble_eq_true rfl) dX12_session_1 ?_
  refine V_aload_n hc dX12_session_4 rfl 0 rfl ?_
  obtain ⟨M2, hM2, hf⟩ := mb hf
  refine R_callVv hc hz (As := []) (c12_headTold l D h q y _ _ _ _ hM2) w7_53 w7_55 wp4_3 w1_13 w7_56 hd12_headTold ⟨Nat.le_of_ble_eq_true rfl, Nat.le_of_ble_eq_true rfl⟩ rfl rfl (Nat.le_of_ble_eq_true rfl) dX12_session_5 ?_
  refine V_aload_n hc dX12_session_8 rfl 0 rfl ?_
  refine V_bipush hc (v := (59 : Int32)) dX12_session_9 rfl ?_
  obtain ⟨M3, hM3, hf⟩ := mb hf
  refine R_callVv hc hz (As := [.int (59 : Int32)]) (c12_asksSign l D h q y _ _ _ _ hM3) w7_91 w7_93 wp4_11 w1_13 w7_94 hd12_asksSign ⟨Nat.le_of_ble_eq_true rfl, Nat.le_of_ble_eq_true rfl⟩ rfl rfl (Nat.le_of_ble_eq_true rfl) dX12_session_11 ?_
  refine V_aload_n hc dX12_session_14 rfl 0 rfl ?_
  refine V_iconst hc (v := (1 : Int32)) dX12_session_15 rfl ?_
  refine R_puti hc 46 rfl (by decide) w6_104 rfl rfl rfl dX12_session_16 ?_
  obtain ⟨M4, hv5, hf⟩ := mb hf
  refine V_sub [0] rfl (L12_session_19_ok hc hz FU _ hv5 ?_)
  refine V_aload_n hc dX12_session_41 rfl 0 rfl ?_
  refine V_aload_n hc dX12_session_42 rfl 0 rfl ?_
  refine R_geti hc 5 rfl (by decide) w6_63 dX12_session_43 ?_
  refine R_puti hc 7 rfl (by decide) w6_65 rfl rfl rfl dX12_session_46 ?_
  refine V_aload_n hc dX12_session_49 rfl 0 rfl ?_
  refine V_aload_n hc dX12_session_50 rfl 0 rfl ?_
  refine R_geti hc 6 rfl (by decide) w6_64 dX12_session_51 ?_
  refine R_puti hc 8 rfl (by decide) w6_66 rfl rfl rfl dX12_session_54 ?_
  refine V_aload_n hc dX12_session_57 rfl 0 rfl ?_
  refine R_geti hc 5 rfl (by decide) w6_63 dX12_session_58 ?_
  refine V_if_eq hc dX12_session_61 rfl (fun hq61 => ?_) (fun hq61 => ?_)
  · rw [if_pos hq61] at hf
    refine V_aload_n hc dX12_session_70 rfl 0 rfl ?_
    obtain ⟨M6, hM6, hf⟩ := mb hf
    refine R_callVv hc hz (As := []) (c12_stands l D h q y _ _ _ _ hM6) w7_119 w7_121 wp5_2 w1_13 w7_122 hd12_stands ⟨Nat.le_of_ble_eq_true rfl, Nat.le_of_ble_eq_true rfl⟩ rfl rfl (Nat.le_of_ble_eq_true rfl) dX12_session_71 ?_
    refine V_aload_n hc dX12_session_74 rfl 0 rfl ?_
    refine R_geti hc 46 rfl (by decide) w6_104 dX12_session_75 ?_
    obtain ⟨rfl, rfl⟩ := si2 hf
    exact V_iret hc hzz rfl rfl rfl rfl rfl dX12_session_78
  · rw [if_neg hq61] at hf
    refine V_aload_n hc dX12_session_64 rfl 0 rfl ?_
    refine V_iconst hc (v := (1 : Int32)) dX12_session_65 rfl ?_
    obtain ⟨v7, M8, hv7, hf⟩ := mb2 hf
    refine R_callVi hc hz (As := [.int (1 : Int32)]) (c12_refuses l D h q y _ _ _ _ hv7) w7_17 w7_19 wp3_15 w1_13 w7_20 hd12_refuses ⟨Nat.le_of_ble_eq_true rfl, Nat.le_of_ble_eq_true rfl⟩ rfl rfl (Nat.le_of_ble_eq_true rfl) dX12_session_66 ?_
    obtain ⟨rfl, rfl⟩ := si2 hf
    exact V_iret hc hzz rfl rfl rfl rfl rfl dX12_session_69
