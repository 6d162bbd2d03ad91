noncomputable def f12_cursor (M : MS) (p1 : Int32) (p2 : Int32) : Option (Int32 × MS) :=
  (f12_isEditor M p1).bind fun v1 =>
  if v1 = 0 then (
    bn2 (f12_isRefused M (3 : Int32)) fun v2 M3 =>
    (bz v2).bind fun v4 =>
    some (v4, M3)
  ) else (
    (f12_its M p1 (21 : Int32)).bind fun v5 =>
    (f12_isIn p2.toInt64 (0 : Int64) v5.toInt64).bind fun v6 =>
    if v6 = 0 then (
      bn2 (f12_isRefused M (3 : Int32)) fun v7 M8 =>
      (bz v7).bind fun v9 =>
      some (v9, M8)
    ) else (
      (f12_its M p1 (1 : Int32)).bind fun v10 =>
      if p2 = v10 then (
        bn2 (f12_isRefused M (3 : Int32)) fun v14 M15 =>
        (bz v14).bind fun v16 =>
        some (v16, M15)
      ) else (
        (f12_keeps M).bind fun M11 =>
        (f12_of p1 (1 : Int32)).bind fun v12 =>
        (sd M11 30 v12 p2).bind fun M13 =>
        some ((1 : Int32), M13)
      )
    )
  )
theorem hd12_cursor : yX12_cursor.cls = "FarEditorsModel" ∧ yX12_cursor.cls ≠ "java/lang/invoke/MethodHandle" ∧ yX12_cursor.cls ≠ "java/lang/invoke/VarHandle" ∧ (parseMethodDescriptor yX12_cursor.desc).map (fun d => d.parameters.length) = some 2 := by decide +kernel
set_option maxHeartbeats 4000000 in
set_option maxRecDepth 100000 in
theorem c12_cursor (l : Launch) (D : va_G) (h : Nat) (q : Nat → Nat) (y : CyT) (zM uM z u : Nat) {M M' : MS} {p1 : Int32} {p2 : Int32} {r : Int32} (hf : f12_cursor M p1 p2 = some (r, M')) : CT l D y yX12_cursor cX12_cursor 3 (some .boolean) 2 46 zM uM [.ref h, .int p1, .int p2] z u (mw h q y M) z u (mw h q y M') (some (.int r)) := by
  refine CT.of (by decide) (Nat.le_of_ble_eq_true rfl) (fun E hc hzz hnm => ?_)
  have hc : Cx E "FarEditorsModel" cX12_cursor 3 := hc
  have hz := hzz.1
  have hT := hz.2.2.1
  show V E z u (mw h q y M) 0 [(0, .ref h), (1, .int p1), (2, .int p2)] []
  unfold f12_cursor at hf
  refine V_aload_n hc dX12_cursor_0 rfl 0 rfl ?_
  refine V_iload_n hc dX12_cursor_1 rfl 1 rfl ?_
  obtain ⟨v1, hv1, hf⟩ := mb hf
  refine R_callVi hc hz (As := [.int p1]) (c12_isEditor l D h q y _ _ _ _ hv1) w8_80 w8_82 wp7_13 w1_13 w8_83 hd12_isEditor ⟨Nat.le_of_ble_eq_true rfl, Nat.le_of_ble_eq_true rfl⟩ rfl rfl (Nat.le_of_ble_eq_true rfl) dX12_cursor_2 ?_
  refine V_if_eq hc dX12_cursor_5 rfl (fun hq5 => ?_) (fun hq5 => ?_)
  · rw [if_pos hq5] at hf
    refine V_aload_n hc dX12_cursor_35 rfl 0 rfl ?_
    refine V_iconst hc (v := (3 : Int32)) dX12_cursor_36 rfl ?_
    obtain ⟨v2, M3, hv2, hf⟩ := mb2 hf
    refine R_callVi hc hz (As := [.int (3 : Int32)]) (c12_isRefused l D h q y _ _ _ _ hv2) w7_25 w7_27 wp4_0 w1_13 w7_28 hd12_isRefused ⟨Nat.le_of_ble_eq_true rfl, Nat.le_of_ble_eq_true rfl⟩ rfl rfl (Nat.le_of_ble_eq_true rfl) dX12_cursor_37 ?_
    obtain ⟨v4, hv4, hf⟩ := mb hf
    obtain ⟨hbv4, rfl⟩ := bz_some hv4
    obtain ⟨rfl, rfl⟩ := si2 hf
    exact V_iret hc hzz (bz_nar hbv4) rfl rfl rfl rfl dX12_cursor_40
  · rw [if_neg hq5] at hf
    refine V_iload_n hc dX12_cursor_8 rfl 2 rfl ?_
    refine V_i2l hc dX12_cursor_9 ?_
    refine V_lconst hc (v := (0 : Int64)) dX12_cursor_10 rfl ?_
    refine V_aload_n hc dX12_cursor_11 rfl 0 rfl ?_
    refine V_iload_n hc dX12_cursor_12 rfl 1 rfl ?_
    refine V_bipush hc (v := (21 : Int32)) dX12_cursor_13 rfl ?_
    obtain ⟨v5, hv5, hf⟩ := mb hf
    refine R_callVi hc hz (As := [.int p1, .int (21 : Int32)]) (c12_its l D h q y _ _ _ _ hv5) w7_142 w7_144 wp5_7 w1_13 w7_145 hd12_its ⟨Nat.le_of_ble_eq_true rfl, Nat.le_of_ble_eq_true rfl⟩ rfl rfl (Nat.le_of_ble_eq_true rfl) dX12_cursor_15 ?_
    refine V_i2l hc dX12_cursor_18 ?_
    obtain ⟨v6, hv6, hf⟩ := mb hf
    refine R_callSi hc hz (As := [.long p2.toInt64, .long (0 : Int64), .long v5.toInt64]) (c12_isIn l D h q y _ _ _ _ hv6) w7_34 w7_35 w1_13 w7_36 hd12_isIn ⟨Nat.le_of_ble_eq_true rfl, Nat.le_of_ble_eq_true rfl⟩ rfl rfl (Nat.le_of_ble_eq_true rfl) dX12_cursor_19 ?_
    refine V_if_eq hc dX12_cursor_22 rfl (fun hq22 => ?_) (fun hq22 => ?_)
    · rw [if_pos hq22] at hf
      refine V_aload_n hc dX12_cursor_35 rfl 0 rfl ?_
      refine V_iconst hc (v := (3 : Int32)) dX12_cursor_36 rfl ?_
      obtain ⟨v7, M8, hv7, hf⟩ := mb2 hf
      refine R_callVi hc hz (As := [.int (3 : Int32)]) (c12_isRefused l D h q y _ _ _ _ hv7) w7_25 w7_27 wp4_0 w1_13 w7_28 hd12_isRefused ⟨Nat.le_of_ble_eq_true rfl, Nat.le_of_ble_eq_true rfl⟩ rfl rfl (Nat.le_of_ble_eq_true rfl) dX12_cursor_37 ?_
      obtain ⟨v9, hv9, hf⟩ := mb hf
      obtain ⟨hbv9, rfl⟩ := bz_some hv9
      obtain ⟨rfl, rfl⟩ := si2 hf
      exact V_iret hc hzz (bz_nar hbv9) rfl rfl rfl rfl dX12_cursor_40
    · rw [if_neg hq22] at hf
      refine V_iload_n hc dX12_cursor_25 rfl 2 rfl ?_
      refine V_aload_n hc dX12_cursor_26 rfl 0 rfl ?_
      refine V_iload_n hc dX12_cursor_27 rfl 1 rfl ?_
      refine V_iconst hc (v := (1 : Int32)) dX12_cursor_28 rfl ?_
      obtain ⟨v10, hv10, hf⟩ := mb hf
      refine R_callVi hc hz (As := [.int p1, .int (1 : Int32)]) (c12_its l D h q y _ _ _ _ hv10) w7_142 w7_144 wp5_7 w1_13 w7_145 hd12_its ⟨Nat.le_of_ble_eq_true rfl, Nat.le_of_ble_eq_true rfl⟩ rfl rfl (Nat.le_of_ble_eq_true rfl) dX12_cursor_29 ?_
      refine V_icmp_ne hc dX12_cursor_32 rfl (fun hq32 => ?_) (fun hq32 => ?_)
      · rw [if_neg hq32] at hf
        refine V_aload_n hc dX12_cursor_41 rfl 0 rfl ?_
        obtain ⟨M11, hM11, hf⟩ := mb hf
        refine R_callVv hc hz (As := []) (c12_keeps l D h q y _ _ _ _ hM11) w8_234 w8_236 wp9_0 w1_13 w8_237 hd12_keeps ⟨Nat.le_of_ble_eq_true rfl, Nat.le_of_ble_eq_true rfl⟩ rfl rfl (Nat.le_of_ble_eq_true rfl) dX12_cursor_42 ?_
        refine V_aload_n hc dX12_cursor_45 rfl 0 rfl ?_
        refine R_getr hc 30 rfl (by decide) w6_88 dX12_cursor_46 ?_
        refine V_iload_n hc dX12_cursor_49 rfl 1 rfl ?_
        refine V_iconst hc (v := (1 : Int32)) dX12_cursor_50 rfl ?_
        obtain ⟨v12, hv12, hf⟩ := mb hf
        refine R_callSi hc hz (As := [.int p1, .int (1 : Int32)]) (c12_of l D h q y _ _ _ _ hv12) w7_123 w7_124 w1_13 w7_125 hd12_of ⟨Nat.le_of_ble_eq_true rfl, Nat.le_of_ble_eq_true rfl⟩ rfl rfl (Nat.le_of_ble_eq_true rfl) dX12_cursor_51 ?_
        refine V_iload_n hc dX12_cursor_54 rfl 2 rfl ?_
        obtain ⟨M13, hM13, hf⟩ := mb hf
        refine R_iast hc hT rfl hM13 dX12_cursor_55 ?_
        refine V_iconst hc (v := (1 : Int32)) dX12_cursor_56 rfl ?_
        obtain ⟨rfl, rfl⟩ := si2 hf
        exact V_iret hc hzz rfl rfl rfl rfl rfl dX12_cursor_57
      · rw [if_pos hq32] at hf
        refine V_aload_n hc dX12_cursor_35 rfl 0 rfl ?_
        refine V_iconst hc (v := (3 : Int32)) dX12_cursor_36 rfl ?_
        obtain ⟨v14, M15, hv14, hf⟩ := mb2 hf
        refine R_callVi hc hz (As := [.int (3 : Int32)]) (c12_isRefused l D h q y _ _ _ _ hv14) w7_25 w7_27 wp4_0 w1_13 w7_28 hd12_isRefused ⟨Nat.le_of_ble_eq_true rfl, Nat.le_of_ble_eq_true rfl⟩ rfl rfl (Nat.le_of_ble_eq_true rfl) dX12_cursor_37 ?_
        obtain ⟨v16, hv16, hf⟩ := mb hf
        obtain ⟨hbv16, rfl⟩ := bz_some hv16
        obtain ⟨rfl, rfl⟩ := si2 hf
        exact V_iret hc hzz (bz_nar hbv16) rfl rfl rfl rfl dX12_cursor_40
noncomputable def f12_marks (M : MS) (p1 : Int32) (p2 : Int32) (p3 : Int32) (p4 : Int32) : Option (Int32 × MS) :=
  (f12_isEditor M p1).bind fun v1 =>
  if v1 = 0 then (
    bn2 (f12_refuses M (3 : Int32)) fun v2 M3 =>
    some (v2, M3)
  ) else (
    (f12_isIn p4.toInt64 (0 : Int64) (3 : Int64)).bind fun v4 =>
    if v4 = 0 then (
      bn2 (f12_refuses M (3 : Int32)) fun v5 M6 =>
      some (v5, M6)
    ) else (
      (f12_canMark M p1 p2 p3).bind fun v7 =>
      if v7 = 0 then (
        bn2 (f12_refuses M (3 : Int32)) fun v11 M12 =>
        some (v11, M12)
      ) else (
        (f12_keeps M).bind fun M8 =>
        (f12_marked M8 p1 p2 p3 p4).bind fun M9 =>
        (f12_its M9 p1 (2 : Int32)).bind fun v10 =>
        some ((v10 - (1 : Int32)), M9)
      )
    )
  )
theorem hd12_marks : yX12_marks.cls = "FarEditorsModel" ∧ yX12_marks.cls ≠ "java/lang/invoke/MethodHandle" ∧ yX12_marks.cls ≠ "java/lang/invoke/VarHandle" ∧ (parseMethodDescriptor yX12_marks.desc).map (fun d => d.parameters.length) = some 4 := by decide +kernel
set_option maxHeartbeats 4000000 in
set_option maxRecDepth 100000 in
theorem c12_marks (l : Launch) (D : va_G) (h : Nat) (q : Nat → Nat) (y : CyT) (zM uM z u : Nat) {M M' : MS} {p1 : Int32} {p2 : Int32} {p3 : Int32} {p4 : Int32} {r : Int32} (hf : f12_marks M p1 p2 p3 p4 = some (r, M')) : CT l D y yX12_marks cX12_marks 5 (some .int) 2 47 zM uM [.ref h, .int p1, .int p2, .int p3, .int p4] z u (mw h q y M) z u (mw h q y M') (some (.int r)) := by
  refine CT.of (by decide) (Nat.le_of_ble_eq_true rfl) (fun E hc hzz hnm => ?_)
  have hc : Cx E "FarEditorsModel" cX12_marks 5 := hc
  have hz := hzz.1
  have hT := hz.2.2.1
  show V E z u (mw h q y M) 0 [(0, .ref h), (1, .int p1), (2, .int p2), (3, .int p3), (4, .int p4)] []
  unfold f12_marks at hf
  refine V_aload_n hc dX12_marks_0 rfl 0 rfl ?_
  refine V_iload_n hc dX12_marks_1 rfl 1 rfl ?_
  obtain ⟨v1, hv1, hf⟩ := mb hf
  refine R_callVi hc hz (As := [.int p1]) (c12_isEditor l D h q y _ _ _ _ hv1) w8_80 w8_82 wp7_13 w1_13 w8_83 hd12_isEditor ⟨Nat.le_of_ble_eq_true rfl, Nat.le_of_ble_eq_true rfl⟩ rfl rfl (Nat.le_of_ble_eq_true rfl) dX12_marks_2 ?_
  refine V_if_eq hc dX12_marks_5 rfl (fun hq5 => ?_) (fun hq5 => ?_)
  · rw [if_pos hq5] at hf
    refine V_aload_n hc dX12_marks_31 rfl 0 rfl ?_
    refine V_iconst hc (v := (3 : Int32)) dX12_marks_32 rfl ?_
    obtain ⟨v2, M3, hv2, hf⟩ := mb2 hf
    refine R_callVi hc hz (As := [.int (3 : Int32)]) (c12_refuses l D h q y _ _ _ _ hv2) w7_17 w7_19 wp3_15 w1_13 w7_20 hd12_refuses ⟨Nat.le_of_ble_eq_true rfl, Nat.le_of_ble_eq_true rfl⟩ rfl rfl (Nat.le_of_ble_eq_true rfl) dX12_marks_33 ?_
    obtain ⟨rfl, rfl⟩ := si2 hf
    exact V_iret hc hzz rfl rfl rfl rfl rfl dX12_marks_36
  · rw [if_neg hq5] at hf
    refine V_iload hc dX12_marks_8 4 rfl ?_
    refine V_i2l hc dX12_marks_10 ?_
    refine V_lconst hc (v := (0 : Int64)) dX12_marks_11 rfl ?_
    refine V_ldc2 hc w9_23 dX12_marks_12 ?_
    obtain ⟨v4, hv4, hf⟩ := mb hf
    refine R_callSi hc hz (As := [.long p4.toInt64, .long (0 : Int64), .long (3 : Int64)]) (c12_isIn l D h q y _ _ _ _ hv4) w7_34 w7_35 w1_13 w7_36 hd12_isIn ⟨Nat.le_of_ble_eq_true rfl, Nat.le_of_ble_eq_true rfl⟩ rfl rfl (Nat.le_of_ble_eq_true rfl) dX12_marks_15 ?_
    refine V_if_eq hc dX12_marks_18 rfl (fun hq18 => ?_) (fun hq18 => ?_)
    · rw [if_pos hq18] at hf
      refine V_aload_n hc dX12_marks_31 rfl 0 rfl ?_
      refine V_iconst hc (v := (3 : Int32)) dX12_marks_32 rfl ?_
      obtain ⟨v5, M6, hv5, hf⟩ := mb2 hf
      refine R_callVi hc hz (As := [.int (3 : Int32)]) (c12_refuses l D h q y _ _ _ _ hv5) w7_17 w7_19 wp3_15 w1_13 w7_20 hd12_refuses ⟨Nat.le_of_ble_eq_true rfl, Nat.le_of_ble_eq_true rfl⟩ rfl rfl (Nat.le_of_ble_eq_true rfl) dX12_marks_33 ?_
      obtain ⟨rfl, rfl⟩ := si2 hf
      exact V_iret hc hzz rfl rfl rfl rfl rfl dX12_marks_36
    · rw [if_neg hq18] at hf
      refine V_aload_n hc dX12_marks_21 rfl 0 rfl ?_
      refine V_iload_n hc dX12_marks_22 rfl 1 rfl ?_
      refine V_iload_n hc dX12_marks_23 rfl 2 rfl ?_
      refine V_iload_n hc dX12_marks_24 rfl 3 rfl ?_
      obtain ⟨v7, hv7, hf⟩ := mb hf
      refine R_callVi hc hz (As := [.int p1, .int p2, .int p3]) (c12_canMark l D h q y _ _ _ _ hv7) w8_0 w8_2 wp6_11 w1_13 w8_3 hd12_canMark ⟨Nat.le_of_ble_eq_true rfl, Nat.le_of_ble_eq_true rfl⟩ rfl rfl (Nat.le_of_ble_eq_true rfl) dX12_marks_25 ?_
      refine V_if_ne hc dX12_marks_28 rfl (fun hq28 => ?_) (fun hq28 => ?_)
      · rw [if_neg hq28] at hf
        refine V_aload_n hc dX12_marks_37 rfl 0 rfl ?_
        obtain ⟨M8, hM8, hf⟩ := mb hf
        refine R_callVv hc hz (As := []) (c12_keeps l D h q y _ _ _ _ hM8) w8_234 w8_236 wp9_0 w1_13 w8_237 hd12_keeps ⟨Nat.le_of_ble_eq_true rfl, Nat.le_of_ble_eq_true rfl⟩ rfl rfl (Nat.le_of_ble_eq_true rfl) dX12_marks_38 ?_
        refine V_aload_n hc dX12_marks_41 rfl 0 rfl ?_
        refine V_iload_n hc dX12_marks_42 rfl 1 rfl ?_
        refine V_iload_n hc dX12_marks_43 rfl 2 rfl ?_
        refine V_iload_n hc dX12_marks_44 rfl 3 rfl ?_
        refine V_iload hc dX12_marks_45 4 rfl ?_
        obtain ⟨M9, hM9, hf⟩ := mb hf
        refine R_callVv hc hz (As := [.int p1, .int p2, .int p3, .int p4]) (c12_marked l D h q y _ _ _ _ hM9) w8_4 w8_6 wp6_12 w1_13 w8_7 hd12_marked ⟨Nat.le_of_ble_eq_true rfl, Nat.le_of_ble_eq_true rfl⟩ rfl rfl (Nat.le_of_ble_eq_true rfl) dX12_marks_47 ?_
        refine V_aload_n hc dX12_marks_50 rfl 0 rfl ?_
        refine V_iload_n hc dX12_marks_51 rfl 1 rfl ?_
        refine V_iconst hc (v := (2 : Int32)) dX12_marks_52 rfl ?_
        obtain ⟨v10, hv10, hf⟩ := mb hf
        refine R_callVi hc hz (As := [.int p1, .int (2 : Int32)]) (c12_its l D h q y _ _ _ _ hv10) w7_142 w7_144 wp5_7 w1_13 w7_145 hd12_its ⟨Nat.le_of_ble_eq_true rfl, Nat.le_of_ble_eq_true rfl⟩ rfl rfl (Nat.le_of_ble_eq_true rfl) dX12_marks_53 ?_
        refine V_iconst hc (v := (1 : Int32)) dX12_marks_56 rfl ?_
        refine V_isub hc dX12_marks_57 ?_
        obtain ⟨rfl, rfl⟩ := si2 hf
        exact V_iret hc hzz rfl rfl rfl rfl rfl dX12_marks_58
      · rw [if_pos hq28] at hf
        refine V_aload_n hc dX12_marks_31 rfl 0 rfl ?_
        refine V_iconst hc (v := (3 : Int32)) dX12_marks_32 rfl ?_
        obtain ⟨v11, M12, hv11, hf⟩ := mb2 hf
        refine R_callVi hc hz (As := [.int (3 : Int32)]) (c12_refuses l D h q y _ _ _ _ hv11) w7_17 w7_19 wp3_15 w1_13 w7_20 hd12_refuses ⟨Nat.le_of_ble_eq_true rfl, Nat.le_of_ble_eq_true rfl⟩ rfl rfl (Nat.le_of_ble_eq_true rfl) dX12_marks_33 ?_
        obtain ⟨rfl, rfl⟩ := si2 hf
        exact V_iret hc hzz rfl rfl rfl rfl rfl dX12_marks_36
noncomputable def L12_clears_46 (c1 : Int32) : Nat → Int32 → MS → Option (MS)
  | 0, _, _ => none
  | n + 1, i3, M =>
    (f12_of c1 (12 : Int32)).bind fun v1 =>
    if v1 ≤ i3 then (
      some M
    ) else (
      (ld M 30 (i3 + (3 : Int32))).bind fun v2 =>
      (sd M 30 i3 v2).bind fun M3 =>
      L12_clears_46 c1 n (i3 + (1 : Int32)) M3
    )
noncomputable def f12_clears (M : MS) (p1 : Int32) (p2 : Int32) : Option (Int32 × MS) :=
  (f12_isEditor M p1).bind fun v1 =>
  if v1 = 0 then (
    bn2 (f12_isRefused M (3 : Int32)) fun v2 M3 =>
    (bz v2).bind fun v4 =>
    some (v4, M3)
  ) else (
    (f12_its M p1 (2 : Int32)).bind fun v5 =>
    (f12_isIn p2.toInt64 (0 : Int64) (v5 - (1 : Int32)).toInt64).bind fun v6 =>
    if v6 = 0 then (
      bn2 (f12_isRefused M (3 : Int32)) fun v14 M15 =>
      (bz v14).bind fun v16 =>
      some (v16, M15)
    ) else (
      (f12_keeps M).bind fun M7 =>
      (f12_of p1 ((3 : Int32) + ((3 : Int32) * p2))).bind fun v8 =>
      (L12_clears_46 p1 FU v8 M7).bind fun M9 =>
      (f12_of p1 (2 : Int32)).bind fun v11 =>
      (ld M9 30 v11).bind fun v12 =>
      (sd M9 30 v11 (v12 - (1 : Int32))).bind fun M13 =>
      some ((1 : Int32), M13)
    )
  )
theorem hd12_clears : yX12_clears.cls = "FarEditorsModel" ∧ yX12_clears.cls ≠ "java/lang/invoke/MethodHandle" ∧ yX12_clears.cls ≠ "java/lang/invoke/VarHandle" ∧ (parseMethodDescriptor yX12_clears.desc).map (fun d => d.parameters.length) = some 2 := by decide +kernel
set_option maxHeartbeats 4000000 in
set_option maxRecDepth 100000 in
theorem L12_clears_46_ok {E : CxT} {l : Launch} {D : va_G} {h : Nat} {q : Nat → Nat} {y : CyT} {zM uM z u : Nat} (hc : Cx E "FarEditorsModel" cX12_clears 4) (hz : Cy E l D y 2 46 zM uM) (c1 : Int32) : ∀ (n : Nat) (i3 : Int32) (M : MS) {Mo : MS}, L12_clears_46 c1 n i3 M = some Mo → (hx0 : V E z u (mw h q y Mo) 76 [(0, .ref h), (1, .int c1)] []) → V E z u (mw h q y M) 46 [(0, .ref h), (1, .int c1), (3, .int i3)] [] := by
  have hT := hz.2.2.1
  intro n
  induction n with
  | zero => intro i3 M Mo hf; cases hf
  | succ n ih =>
    intro i3 M Mo hf hx0
    unfold L12_clears_46 at hf
    refine V_iload_n hc dX12_clears_46 rfl 2 rfl ?_
    refine V_iload_n hc dX12_clears_47 rfl 1 rfl ?_
    refine V_bipush hc (v := (12 : Int32)) dX12_clears_48 rfl ?_
    obtain ⟨v1, hv1, hf⟩ := mb hf
    refine R_callSi hc hz (As := [.int c1, .int (12 : Int32)]) (c12_of l D h q y _ _ _ _ hv1) w7_123 w7_124 w1_13 w7_125 hd12_of ⟨Nat.le_of_ble_eq_true rfl, Nat.le_of_ble_eq_true rfl⟩ rfl rfl (Nat.le_of_ble_eq_true rfl) dX12_clears_50 ?_
    refine V_icmp_ge hc dX12_clears_53 rfl (fun hq53 => ?_) (fun hq53 => ?_)
    · rw [if_pos hq53] at hf
      obtain rfl := Option.some.inj hf
      exact V_sub [0, 1] rfl hx0
    · rw [if_neg hq53] at hf
      refine V_aload_n hc dX12_clears_56 rfl 0 rfl ?_
      refine R_getr hc 30 rfl (by decide) w6_88 dX12_clears_57 ?_
      refine V_iload_n hc dX12_clears_60 rfl 2 rfl ?_
      refine V_aload_n hc dX12_clears_61 rfl 0 rfl ?_
      refine R_getr hc 30 rfl (by decide) w6_88 dX12_clears_62 ?_
      refine V_iload_n hc dX12_clears_65 rfl 2 rfl ?_
      refine V_iconst hc (v := (3 : Int32)) dX12_clears_66 rfl ?_
      refine V_iadd hc dX12_clears_67 ?_
      obtain ⟨v2, hv2, hf⟩ := mb hf
      refine R_iald hc hT rfl hv2 dX12_clears_68 ?_
      obtain ⟨M3, hM3, hf⟩ := mb hf
      refine R_iast hc hT rfl hM3 dX12_clears_69 ?_
      refine V_iinc hc (j := 2) (v := (i3 + (1 : Int32))) dX12_clears_70 rfl rfl (by decide) rfl ?_
      refine V_goto hc dX12_clears_73 rfl ?_
      exact V_sub [1, 2, 0] rfl (ih _ _ hf hx0)
set_option maxHeartbeats 4000000 in
set_option maxRecDepth 100000 in
theorem c12_clears (l : Launch) (D : va_G) (h : Nat) (q : Nat → Nat) (y : CyT) (zM uM z u : Nat) {M M' : MS} {p1 : Int32} {p2 : Int32} {r : Int32} (hf : f12_clears M p1 p2 = some (r, M')) : CT l D y yX12_clears cX12_clears 4 (some .boolean) 2 46 zM uM [.ref h, .int p1, .int p2] z u (mw h q y M) z u (mw h q y M') (some (.int r)) := by
  refine CT.of (by decide) (Nat.le_of_ble_eq_true rfl) (fun E hc hzz hnm => ?_)
  have hc : Cx E "FarEditorsModel" cX12_clears 4 := hc
  have hz := hzz.1
  have hT := hz.2.2.1
  show V E z u (mw h q y M) 0 [(0, .ref h), (1, .int p1), (2, .int p2)] []
  unfold f12_clears at hf
  refine V_aload_n hc dX12_clears_0 rfl 0 rfl ?_
  refine V_iload_n hc dX12_clears_1 rfl 1 rfl ?_
  obtain ⟨v1, hv1, hf⟩ := mb hf
  refine R_callVi hc hz (As := [.int p1]) (c12_isEditor l D h q y _ _ _ _ hv1) w8_80 w8_82 wp7_13 w1_13 w8_83 hd12_isEditor ⟨Nat.le_of_ble_eq_true rfl, Nat.le_of_ble_eq_true rfl⟩ rfl rfl (Nat.le_of_ble_eq_true rfl) dX12_clears_2 ?_
  refine V_if_eq hc dX12_clears_5 rfl (fun hq5 => ?_) (fun hq5 => ?_)
  · rw [if_pos hq5] at hf
    refine V_aload_n hc dX12_clears_26 rfl 0 rfl ?_
    refine V_iconst hc (v := (3 : Int32)) dX12_clears_27 rfl ?_
    obtain ⟨v2, M3, hv2, hf⟩ := mb2 hf
    refine R_callVi hc hz (As := [.int (3 : Int32)]) (c12_isRefused l D h q y _ _ _ _ hv2) w7_25 w7_27 wp4_0 w1_13 w7_28 hd12_isRefused ⟨Nat.le_of_ble_eq_true rfl, Nat.le_of_ble_eq_true rfl⟩ rfl rfl (Nat.le_of_ble_eq_true rfl) dX12_clears_28 ?_
    obtain ⟨v4, hv4, hf⟩ := mb hf
    obtain ⟨hbv4, rfl⟩ := bz_some hv4
    obtain ⟨rfl, rfl⟩ := si2 hf
    exact V_iret hc hzz (bz_nar hbv4) rfl rfl rfl rfl dX12_clears_31
  · rw [if_neg hq5] at hf
    refine V_iload_n hc dX12_clears_8 rfl 2 rfl ?_
    refine V_i2l hc dX12_clears_9 ?_
    refine V_lconst hc (v := (0 : Int64)) dX12_clears_10 rfl ?_
    refine V_aload_n hc dX12_clears_11 rfl 0 rfl ?_
    refine V_iload_n hc dX12_clears_12 rfl 1 rfl ?_
    refine V_iconst hc (v := (2 : Int32)) dX12_clears_13 rfl ?_
    obtain ⟨v5, hv5, hf⟩ := mb hf
    refine R_callVi hc hz (As := [.int p1, .int (2 : Int32)]) (c12_its l D h q y _ _ _ _ hv5) w7_142 w7_144 wp5_7 w1_13 w7_145 hd12_its ⟨Nat.le_of_ble_eq_true rfl, Nat.le_of_ble_eq_true rfl⟩ rfl rfl (Nat.le_of_ble_eq_true rfl) dX12_clears_14 ?_
    refine V_iconst hc (v := (1 : Int32)) dX12_clears_17 rfl ?_
    refine V_isub hc dX12_clears_18 ?_
    refine V_i2l hc dX12_clears_19 ?_
    obtain ⟨v6, hv6, hf⟩ := mb hf
    refine R_callSi hc hz (As := [.long p2.toInt64, .long (0 : Int64), .long (v5 - (1 : Int32)).toInt64]) (c12_isIn l D h q y _ _ _ _ hv6) w7_34 w7_35 w1_13 w7_36 hd12_isIn ⟨Nat.le_of_ble_eq_true rfl, Nat.le_of_ble_eq_true rfl⟩ rfl rfl (Nat.le_of_ble_eq_true rfl) dX12_clears_20 ?_
    refine V_if_ne hc dX12_clears_23 rfl (fun hq23 => ?_) (fun hq23 => ?_)
    · rw [if_neg hq23] at hf
      refine V_aload_n hc dX12_clears_32 rfl 0 rfl ?_
      obtain ⟨M7, hM7, hf⟩ := mb hf
      refine R_callVv hc hz (As := []) (c12_keeps l D h q y _ _ _ _ hM7) w8_234 w8_236 wp9_0 w1_13 w8_237 hd12_keeps ⟨Nat.le_of_ble_eq_true rfl, Nat.le_of_ble_eq_true rfl⟩ rfl rfl (Nat.le_of_ble_eq_true rfl) dX12_clears_33 ?_
      refine V_iload_n hc dX12_clears_36 rfl 1 rfl ?_
      refine V_iconst hc (v := (3 : Int32)) dX12_clears_37 rfl ?_
      refine V_iconst hc (v := (3 : Int32)) dX12_clears_38 rfl ?_
      refine V_iload_n hc dX12_clears_39 rfl 2 rfl ?_
      refine V_imul hc dX12_clears_40 ?_
      refine V_iadd hc dX12_clears_41 ?_
      obtain ⟨v8, hv8, hf⟩ := mb hf
      refine R_callSi hc hz (As := [.int p1, .int ((3 : Int32) + ((3 : Int32) * p2))]) (c12_of l D h q y _ _ _ _ hv8) w7_123 w7_124 w1_13 w7_125 hd12_of ⟨Nat.le_of_ble_eq_true rfl, Nat.le_of_ble_eq_true rfl⟩ rfl rfl (Nat.le_of_ble_eq_true rfl) dX12_clears_42 ?_
      refine V_istore_n hc dX12_clears_45 rfl (by decide) rfl ?_
      obtain ⟨M9, hv10, hf⟩ := mb hf
      refine V_sub [1, 2, 0] rfl (L12_clears_46_ok hc hz p1 FU _ _ hv10 ?_)
      refine V_aload_n hc dX12_clears_76 rfl 0 rfl ?_
      refine R_getr hc 30 rfl (by decide) w6_88 dX12_clears_77 ?_
      refine V_iload_n hc dX12_clears_80 rfl 1 rfl ?_
      refine V_iconst hc (v := (2 : Int32)) dX12_clears_81 rfl ?_
      obtain ⟨v11, hv11, hf⟩ := mb hf
      refine R_callSi hc hz (As := [.int p1, .int (2 : Int32)]) (c12_of l D h q y _ _ _ _ hv11) w7_123 w7_124 w1_13 w7_125 hd12_of ⟨Nat.le_of_ble_eq_true rfl, Nat.le_of_ble_eq_true rfl⟩ rfl rfl (Nat.le_of_ble_eq_true rfl) dX12_clears_82 ?_
      refine V_dup2 hc dX12_clears_85 rfl rfl ?_
      obtain ⟨v12, hv12, hf⟩ := mb hf
      refine R_iald hc hT rfl hv12 dX12_clears_86 ?_
      refine V_iconst hc (v := (1 : Int32)) dX12_clears_87 rfl ?_
      refine V_isub hc dX12_clears_88 ?_
      obtain ⟨M13, hM13, hf⟩ := mb hf
      refine R_iast hc hT rfl hM13 dX12_clears_89 ?_
      refine V_iconst hc (v := (1 : Int32)) dX12_clears_90 rfl ?_
      obtain ⟨rfl, rfl⟩ := si2 hf
      exact V_iret hc hzz rfl rfl rfl rfl rfl dX12_clears_91
    · rw [if_pos hq23] at hf
      refine V_aload_n hc dX12_clears_26 rfl 0 rfl ?_
      refine V_iconst hc (v := (3 : Int32)) dX12_clears_27 rfl ?_
      obtain ⟨v14, M15, hv14, hf⟩ := mb2 hf
      refine R_callVi hc hz (As := [.int (3 : Int32)]) (c12_isRefused l D h q y _ _ _ _ hv14) w7_25 w7_27 wp4_0 w1_13 w7_28 hd12_isRefused ⟨Nat.le_of_ble_eq_true rfl, Nat.le_of_ble_eq_true rfl⟩ rfl rfl (Nat.le_of_ble_eq_true rfl) dX12_clears_28 ?_
      obtain ⟨v16, hv16, hf⟩ := mb hf
      obtain ⟨hbv16, rfl⟩ := bz_some hv16
      obtain ⟨rfl, rfl⟩ := si2 hf
      exact V_iret hc hzz (bz_nar hbv16) rfl rfl rfl rfl dX12_clears_31
noncomputable def L12_latestOf_10 (c1 : Int32) (c2 : Int32) : Nat → Int32 → MS → Option (Nat × Int32 × MS)
  | 0, _, _ => none
  | n + 1, i4, M =>
    if i4 < 0 then (
      some (1, i4, M)
    ) else (
      (f12_of c1 c2).bind fun v1 =>
      (f12_entryAt M v1 i4).bind fun v2 =>
      (f12_keptToA M (v2 + (1 : Int32))).bind fun M3 =>
      (f12_isIdle M3 20 (gF M3 25)).bind fun v4 =>
      if v4 = 0 then (
        some (0, i4, M3)
      ) else (
        L12_latestOf_10 c1 c2 n (i4 + (-1 : Int32)) M3
      )
    )
noncomputable def f12_latestOf (M : MS) (p1 : Int32) (p2 : Int32) (p3 : Int32) : Option (Int32 × MS) :=
  (f12_its M p1 p3).bind fun v1 =>
  bn3 (L12_latestOf_10 p1 p2 FU (v1 - (1 : Int32)) M) fun t2 x3 M4 =>
  if t2 = 0 then (
    some (x3, M4)
  ) else (
    some ((-1 : Int32), M4)
  )
theorem hd12_latestOf : yX12_latestOf.cls = "FarEditorsModel" ∧ yX12_latestOf.cls ≠ "java/lang/invoke/MethodHandle" ∧ yX12_latestOf.cls ≠ "java/lang/invoke/VarHandle" ∧ (parseMethodDescriptor yX12_latestOf.desc).map (fun d => d.parameters.length) = some 3 := by decide +kernel
set_option maxHeartbeats 4000000 in
set_option maxRecDepth 100000 in
theorem L12_latestOf_10_ok {E : CxT} {l : Launch} {D : va_G} {h : Nat} {q : Nat → Nat} {y : CyT} {zM uM z u : Nat} (hc : Cx E "FarEditorsModel" cX12_latestOf 5) (hz : Cy E l D y 2 50 zM uM) (c1 : Int32) (c2 : Int32) : ∀ (n : Nat) (i4 : Int32) (M : MS) {t : Nat} {o4 : Int32} {Mo : MS}, L12_latestOf_10 c1 c2 n i4 M = some (t, o4, Mo) → (hx0 : t = 0 → V E z u (mw h q y Mo) 46 [(4, .int o4)] []) → (hx1 : t = 1 → V E z u (mw h q y Mo) 55 [] []) → V E z u (mw h q y M) 10 [(0, .ref h), (1, .int c1), (2, .int c2), (4, .int i4)] [] := by
  have hT := hz.2.2.1
  intro n
  induction n with
  | zero => intro i4 M t o4 Mo hf; cases hf
  | succ n ih =>
    intro i4 M t o4 Mo hf hx0 hx1
    unfold L12_latestOf_10 at hf
    refine V_iload hc dX12_latestOf_10 3 rfl ?_
    refine V_if_lt hc dX12_latestOf_12 rfl (fun hq12 => ?_) (fun hq12 => ?_)
    · rw [if_pos hq12] at hf
      obtain ⟨rfl, rfl, rfl⟩ := si3 hf
      exact V_sub [] rfl (hx1 rfl)
    · rw [if_neg hq12] at hf
      refine V_aload_n hc dX12_latestOf_15 rfl 0 rfl ?_
      refine V_aload_n hc dX12_latestOf_16 rfl 0 rfl ?_
      refine V_iload_n hc dX12_latestOf_17 rfl 1 rfl ?_
      refine V_iload_n hc dX12_latestOf_18 rfl 2 rfl ?_
      obtain ⟨v1, hv1, hf⟩ := mb hf
      refine R_callSi hc hz (As := [.int c1, .int c2]) (c12_of l D h q y _ _ _ _ hv1) w7_123 w7_124 w1_13 w7_125 hd12_of ⟨Nat.le_of_ble_eq_true rfl, Nat.le_of_ble_eq_true rfl⟩ rfl rfl (Nat.le_of_ble_eq_true rfl) dX12_latestOf_19 ?_
      refine V_iload hc dX12_latestOf_22 3 rfl ?_
      obtain ⟨v2, hv2, hf⟩ := mb hf
      refine R_callVi hc hz (As := [.int v1, .int i4]) (c12_entryAt l D h q y _ _ _ _ hv2) w7_184 w7_186 wp6_0 w1_13 w7_187 hd12_entryAt ⟨Nat.le_of_ble_eq_true rfl, Nat.le_of_ble_eq_true rfl⟩ rfl rfl (Nat.le_of_ble_eq_true rfl) dX12_latestOf_24 ?_
      refine V_iconst hc (v := (1 : Int32)) dX12_latestOf_27 rfl ?_
      refine V_iadd hc dX12_latestOf_28 ?_
      obtain ⟨M3, hM3, hf⟩ := mb hf
      refine R_callVv hc hz (As := [.int (v2 + (1 : Int32))]) (c12_keptToA l D h q y _ _ _ _ hM3) w7_225 w7_227 wp6_8 w1_13 w7_228 hd12_keptToA ⟨Nat.le_of_ble_eq_true rfl, Nat.le_of_ble_eq_true rfl⟩ rfl rfl (Nat.le_of_ble_eq_true rfl) dX12_latestOf_29 ?_
      refine V_aload_n hc dX12_latestOf_32 rfl 0 rfl ?_
      refine R_getr hc 20 rfl (by decide) w6_78 dX12_latestOf_33 ?_
      refine V_aload_n hc dX12_latestOf_36 rfl 0 rfl ?_
      refine R_geti hc 25 rfl (by decide) w6_83 dX12_latestOf_37 ?_
      obtain ⟨v4, hv4, hf⟩ := mb hf
      refine R_callSi hc hz (As := [.ref (q 20), .int (gF M3 25)]) (c12_isIdle l D h q y _ _ _ _ rfl hv4) w7_158 w7_159 w1_13 w7_160 hd12_isIdle ⟨Nat.le_of_ble_eq_true rfl, Nat.le_of_ble_eq_true rfl⟩ rfl rfl (Nat.le_of_ble_eq_true rfl) dX12_latestOf_40 ?_
      refine V_if_ne hc dX12_latestOf_43 rfl (fun hq43 => ?_) (fun hq43 => ?_)
      · rw [if_neg hq43] at hf
        refine V_iinc hc (j := 3) (v := (i4 + (-1 : Int32))) dX12_latestOf_49 rfl rfl (by decide) rfl ?_
        refine V_goto hc dX12_latestOf_52 rfl ?_
        exact V_sub [1, 2, 3, 0] rfl (ih _ _ hf hx0 hx1)
      · rw [if_pos hq43] at hf
        obtain ⟨rfl, rfl, rfl⟩ := si3 hf
        exact V_sub [3] rfl (hx0 rfl)
set_option maxHeartbeats 4000000 in
set_option maxRecDepth 100000 in
theorem c12_latestOf (l : Launch) (D : va_G) (h : Nat) (q : Nat → Nat) (y : CyT) (zM uM z u : Nat) {M M' : MS} {p1 : Int32} {p2 : Int32} {p3 : Int32} {r : Int32} (hf : f12_latestOf M p1 p2 p3 = some (r, M')) : CT l D y yX12_latestOf cX12_latestOf 5 (some .int) 2 50 zM uM [.ref h, .int p1, .int p2, .int p3] z u (mw h q y M) z u (mw h q y M') (some (.int r)) := by
  refine CT.of (by decide) (Nat.le_of_ble_eq_true rfl) (fun E hc hzz hnm => ?_)
  have hc : Cx E "FarEditorsModel" cX12_latestOf 5 := hc
  have hz := hzz.1
  have hT := hz.2.2.1
  show V E z u (mw h q y M) 0 [(0, .ref h), (1, .int p1), (2, .int p2), (3, .int p3)] []
  unfold f12_latestOf at hf
  refine V_aload_n hc dX12_latestOf_0 rfl 0 rfl ?_
  refine V_iload_n hc dX12_latestOf_1 rfl 1 rfl ?_
  refine V_iload_n hc dX12_latestOf_2 rfl 3 rfl ?_
  obtain ⟨v1, hv1, hf⟩ := mb hf
  refine R_callVi hc hz (As := [.int p1, .int p3]) (c12_its l D h q y _ _ _ _ hv1) w7_142 w7_144 wp5_7 w1_13 w7_145 hd12_its ⟨Nat.le_of_ble_eq_true rfl, Nat.le_of_ble_eq_true rfl⟩ rfl rfl (Nat.le_of_ble_eq_true rfl) dX12_latestOf_3 ?_
  refine V_iconst hc (v := (1 : Int32)) dX12_latestOf_6 rfl ?_
  refine V_isub hc dX12_latestOf_7 ?_
  refine V_istore hc dX12_latestOf_8 (by decide) rfl ?_
  obtain ⟨t2, x3, M4, hv5, hf⟩ := mb3 hf
  refine V_sub [1, 2, 3, 0] rfl (L12_latestOf_10_ok hc hz p1 p2 FU _ _ hv5 (fun ht10_0 => ?_) (fun ht10_1 => ?_))
  · rw [if_pos ht10_0] at hf
    refine V_iload hc dX12_latestOf_46 0 rfl ?_
    obtain ⟨rfl, rfl⟩ := si2 hf
    exact V_iret hc hzz rfl rfl rfl rfl rfl dX12_latestOf_48
  · rw [if_neg (by rw [ht10_1]; decide)] at hf
    refine V_iconst hc (v := (-1 : Int32)) dX12_latestOf_55 rfl ?_
    obtain ⟨rfl, rfl⟩ := si2 hf
    exact V_iret hc hzz rfl rfl rfl rfl rfl dX12_latestOf_56
noncomputable def f12_goesBack (M : MS) (p1 : Int32) (p2 : Int32) (p3 : Int32) (p4 : Int32) : Option (Int32 × MS) :=
  (f12_isEditor M p1).bind fun v1 =>
  bn2 (
    if v1 = 0 then (
      some ((-1 : Int32), M)
    ) else (
      bn2 (f12_latestOf M p1 p2 p3) fun v5 M6 =>
      some (v5, M6)
    )
  ) fun v2 M3 =>
  if v2 = (-1 : Int32) then (
    bn2 (f12_refuses M3 (2 : Int32)) fun v7 M8 =>
    some (v7, M8)
  ) else (
    (f12_canEdit M3).bind fun v9 =>
    if v9 = 0 then (
      bn2 (f12_refuses M3 (2 : Int32)) fun v15 M16 =>
      some (v15, M16)
    ) else (
      (f12_keeps M3).bind fun M10 =>
      (f12_of p1 p3).bind fun v11 =>
      (sd M10 30 v11 v2).bind fun M12 =>
      (f12_edits M12 p1 p4).bind fun M13 =>
      (f12_its M13 p1 (21 : Int32)).bind fun v14 =>
      some (v14, M13)
    )
  )
theorem hd12_goesBack : yX12_goesBack.cls = "FarEditorsModel" ∧ yX12_goesBack.cls ≠ "java/lang/invoke/MethodHandle" ∧ yX12_goesBack.cls ≠ "java/lang/invoke/VarHandle" ∧ (parseMethodDescriptor yX12_goesBack.desc).map (fun d => d.parameters.length) = some 4 := by decide +kernel
set_option maxHeartbeats 4000000 in
set_option maxRecDepth 100000 in
theorem c12_goesBack (l : Launch) (D : va_G) (h : Nat) (q : Nat → Nat) (y : CyT) (zM uM z u : Nat) {M M' : MS} {p1 : Int32} {p2 : Int32} {p3 : Int32} {p4 : Int32} {r : Int32} (hf : f12_goesBack M p1 p2 p3 p4 = some (r, M')) : CT l D y yX12_goesBack cX12_goesBack 6 (some .int) 4 99 zM uM [.ref h, .int p1, .int p2, .int p3, .int p4] z u (mw h q y M) z u (mw h q y M') (some (.int r)) := by
  refine CT.of (by decide) (Nat.le_of_ble_eq_true rfl) (fun E hc hzz hnm => ?_)
  have hc : Cx E "FarEditorsModel" cX12_goesBack 6 := hc
  have hz := hzz.1
  have hT := hz.2.2.1
  show V E z u (mw h q y M) 0 [(0, .ref h), (1, .int p1), (2, .int p2), (3, .int p3), (4, .int p4)] []
  unfold f12_goesBack at hf
  refine V_aload_n hc dX12_goesBack_0 rfl 0 rfl ?_
  refine V_iload_n hc dX12_goesBack_1 rfl 1 rfl ?_
  obtain ⟨v1, hv1, hf⟩ := mb hf
  refine R_callVi hc hz (As := [.int p1]) (c12_isEditor l D h q y _ _ _ _ hv1) w8_80 w8_82 wp7_13 w1_13 w8_83 hd12_isEditor ⟨Nat.le_of_ble_eq_true rfl, Nat.le_of_ble_eq_true rfl⟩ rfl rfl (Nat.le_of_ble_eq_true rfl) dX12_goesBack_2 ?_
  obtain ⟨v2, M3, hv4, hf⟩ := mb2 hf
  have hJ5 : V E z u (mw h q y M3) 19 [(0, .ref h), (1, .int p1), (3, .int p3), (4, .int p4)] [.int v2] := by
    refine V_istore hc dX12_goesBack_19 (by decide) rfl ?_
    refine V_iload hc dX12_goesBack_21 0 rfl ?_
    refine V_iconst hc (v := (-1 : Int32)) dX12_goesBack_23 rfl ?_
    refine V_icmp_eq hc dX12_goesBack_24 rfl (fun hq24 => ?_) (fun hq24 => ?_)
    · rw [if_pos hq24] at hf
      refine V_aload_n hc dX12_goesBack_34 rfl 1 rfl ?_
      refine V_iconst hc (v := (2 : Int32)) dX12_goesBack_35 rfl ?_
      obtain ⟨v7, M8, hv7, hf⟩ := mb2 hf
      refine R_callVi hc hz (As := [.int (2 : Int32)]) (c12_refuses l D h q y _ _ _ _ hv7) w7_17 w7_19 wp3_15 w1_13 w7_20 hd12_refuses ⟨Nat.le_of_ble_eq_true rfl, Nat.le_of_ble_eq_true rfl⟩ rfl rfl (Nat.le_of_ble_eq_true rfl) dX12_goesBack_36 ?_
      obtain ⟨rfl, rfl⟩ := si2 hf
      exact V_iret hc hzz rfl rfl rfl rfl rfl dX12_goesBack_39
    · rw [if_neg hq24] at hf
      refine V_aload_n hc dX12_goesBack_27 rfl 1 rfl ?_
      obtain ⟨v9, hv9, hf⟩ := mb hf
      refine R_callVi hc hz (As := []) (c12_canEdit l D h q y _ _ _ _ hv9) w7_154 w7_156 wp5_10 w1_13 w7_157 hd12_canEdit ⟨Nat.le_of_ble_eq_true rfl, Nat.le_of_ble_eq_true rfl⟩ rfl rfl (Nat.le_of_ble_eq_true rfl) dX12_goesBack_28 ?_
      refine V_if_ne hc dX12_goesBack_31 rfl (fun hq31 => ?_) (fun hq31 => ?_)
      · rw [if_neg hq31] at hf
        refine V_aload_n hc dX12_goesBack_40 rfl 1 rfl ?_
        obtain ⟨M10, hM10, hf⟩ := mb hf
        refine R_callVv hc hz (As := []) (c12_keeps l D h q y _ _ _ _ hM10) w8_234 w8_236 wp9_0 w1_13 w8_237 hd12_keeps ⟨Nat.le_of_ble_eq_true rfl, Nat.le_of_ble_eq_true rfl⟩ rfl rfl (Nat.le_of_ble_eq_true rfl) dX12_goesBack_41 ?_
        refine V_aload_n hc dX12_goesBack_44 rfl 1 rfl ?_
        refine R_getr hc 30 rfl (by decide) w6_88 dX12_goesBack_45 ?_
        refine V_iload_n hc dX12_goesBack_48 rfl 2 rfl ?_
        refine V_iload_n hc dX12_goesBack_49 rfl 3 rfl ?_
        obtain ⟨v11, hv11, hf⟩ := mb hf
        refine R_callSi hc hz (As := [.int p1, .int p3]) (c12_of l D h q y _ _ _ _ hv11) w7_123 w7_124 w1_13 w7_125 hd12_of ⟨Nat.le_of_ble_eq_true rfl, Nat.le_of_ble_eq_true rfl⟩ rfl rfl (Nat.le_of_ble_eq_true rfl) dX12_goesBack_50 ?_
        refine V_iload hc dX12_goesBack_53 0 rfl ?_
        obtain ⟨M12, hM12, hf⟩ := mb hf
        refine R_iast hc hT rfl hM12 dX12_goesBack_55 ?_
        refine V_aload_n hc dX12_goesBack_56 rfl 1 rfl ?_
        refine V_iload_n hc dX12_goesBack_57 rfl 2 rfl ?_
        refine V_iload hc dX12_goesBack_58 4 rfl ?_
        obtain ⟨M13, hM13, hf⟩ := mb hf
        refine R_callVv hc hz (As := [.int p1, .int p4]) (c12_edits l D h q y _ _ _ _ hM13) w7_164 w7_166 wp5_11 w1_13 w7_167 hd12_edits ⟨Nat.le_of_ble_eq_true rfl, Nat.le_of_ble_eq_true rfl⟩ rfl rfl (Nat.le_of_ble_eq_true rfl) dX12_goesBack_60 ?_
        refine V_aload_n hc dX12_goesBack_63 rfl 1 rfl ?_
        refine V_iload_n hc dX12_goesBack_64 rfl 2 rfl ?_
        refine V_bipush hc (v := (21 : Int32)) dX12_goesBack_65 rfl ?_
        obtain ⟨v14, hv14, hf⟩ := mb hf
        refine R_callVi hc hz (As := [.int p1, .int (21 : Int32)]) (c12_its l D h q y _ _ _ _ hv14) w7_142 w7_144 wp5_7 w1_13 w7_145 hd12_its ⟨Nat.le_of_ble_eq_true rfl, Nat.le_of_ble_eq_true rfl⟩ rfl rfl (Nat.le_of_ble_eq_true rfl) dX12_goesBack_67 ?_
        obtain ⟨rfl, rfl⟩ := si2 hf
        exact V_iret hc hzz rfl rfl rfl rfl rfl dX12_goesBack_70
      · rw [if_pos hq31] at hf
        refine V_aload_n hc dX12_goesBack_34 rfl 1 rfl ?_
        refine V_iconst hc (v := (2 : Int32)) dX12_goesBack_35 rfl ?_
        obtain ⟨v15, M16, hv15, hf⟩ := mb2 hf
        refine R_callVi hc hz (As := [.int (2 : Int32)]) (c12_refuses l D h q y _ _ _ _ hv15) w7_17 w7_19 wp3_15 w1_13 w7_20 hd12_refuses ⟨Nat.le_of_ble_eq_true rfl, Nat.le_of_ble_eq_true rfl⟩ rfl rfl (Nat.le_of_ble_eq_true rfl) dX12_goesBack_36 ?_
        obtain ⟨rfl, rfl⟩ := si2 hf
        exact V_iret hc hzz rfl rfl rfl rfl rfl dX12_goesBack_39
  refine V_if_eq hc dX12_goesBack_5 rfl (fun hq5 => ?_) (fun hq5 => ?_)
  · rw [if_pos hq5] at hv4
    refine V_iconst hc (v := (-1 : Int32)) dX12_goesBack_18 rfl ?_
    obtain ⟨rfl, rfl⟩ := si2 hv4
    exact V_sub [0, 1, 3, 4] rfl hJ5
  · rw [if_neg hq5] at hv4
    refine V_aload_n hc dX12_goesBack_8 rfl 0 rfl ?_
    refine V_iload_n hc dX12_goesBack_9 rfl 1 rfl ?_
    refine V_iload_n hc dX12_goesBack_10 rfl 2 rfl ?_
    refine V_iload_n hc dX12_goesBack_11 rfl 3 rfl ?_
    obtain ⟨v5, M6, hv5, hv4⟩ := mb2 hv4
    refine R_callVi hc hz (As := [.int p1, .int p2, .int p3]) (c12_latestOf l D h q y _ _ _ _ hv5) w9_36 w9_38 wp9_3 w1_13 w9_39 hd12_latestOf ⟨Nat.le_of_ble_eq_true rfl, Nat.le_of_ble_eq_true rfl⟩ rfl rfl (Nat.le_of_ble_eq_true rfl) dX12_goesBack_12 ?_
    refine V_goto hc dX12_goesBack_15 rfl ?_
    obtain ⟨rfl, rfl⟩ := si2 hv4
    exact V_sub [0, 1, 3, 4] rfl hJ5
noncomputable def f12_undo (M : MS) (p1 : Int32) : Option (Int32 × MS) :=
  bn2 (f12_goesBack M p1 (1590 : Int32) (22 : Int32) (1 : Int32)) fun v1 M2 =>
  some (v1, M2)
theorem hd12_undo : yX12_undo.cls = "FarEditorsModel" ∧ yX12_undo.cls ≠ "java/lang/invoke/MethodHandle" ∧ yX12_undo.cls ≠ "java/lang/invoke/VarHandle" ∧ (parseMethodDescriptor yX12_undo.desc).map (fun d => d.parameters.length) = some 1 := by decide +kernel
set_option maxHeartbeats 4000000 in
set_option maxRecDepth 100000 in
theorem c12_undo (l : Launch) (D : va_G) (h : Nat) (q : Nat → Nat) (y : CyT) (zM uM z u : Nat) {M M' : MS} {p1 : Int32} {r : Int32} (hf : f12_undo M p1 = some (r, M')) : CT l D y yX12_undo cX12_undo 2 (some .int) 5 124 zM uM [.ref h, .int p1] z u (mw h q y M) z u (mw h q y M') (some (.int r)) := by
  refine CT.of (by decide) (Nat.le_of_ble_eq_true rfl) (fun E hc hzz hnm => ?_)
  have hc : Cx E "FarEditorsModel" cX12_undo 2 := hc
  have hz := hzz.1
  have hT := hz.2.2.1
  show V E z u (mw h q y M) 0 [(0, .ref h), (1, .int p1)] []
  unfold f12_undo at hf
  refine V_aload_n hc dX12_undo_0 rfl 0 rfl ?_
  refine V_iload_n hc dX12_undo_1 rfl 1 rfl ?_
  refine V_sipush hc (v := (1590 : Int32)) dX12_undo_2 rfl ?_
  refine V_bipush hc (v := (22 : Int32)) dX12_undo_5 rfl ?_
  refine V_iconst hc (v := (1 : Int32)) dX12_undo_7 rfl ?_
  obtain ⟨v1, M2, hv1, hf⟩ := mb2 hf
  refine R_callVi hc hz (As := [.int p1, .int (1590 : Int32), .int (22 : Int32), .int (1 : Int32)]) (c12_goesBack l D h q y _ _ _ _ hv1) w9_32 w9_34 wp9_2 w1_13 w9_35 hd12_goesBack ⟨Nat.le_of_ble_eq_true rfl, Nat.le_of_ble_eq_true rfl⟩ rfl rfl (Nat.le_of_ble_eq_true rfl) dX12_undo_8 ?_
  obtain ⟨rfl, rfl⟩ := si2 hf
  exact V_iret hc hzz rfl rfl rfl rfl rfl dX12_undo_11
noncomputable def f12_redo (M : MS) (p1 : Int32) : Option (Int32 × MS) :=
  bn2 (f12_goesBack M p1 (2054 : Int32) (23 : Int32) (2 : Int32)) fun v1 M2 =>
  some (v1, M2)
theorem hd12_redo : yX12_redo.cls = "FarEditorsModel" ∧ yX12_redo.cls ≠ "java/lang/invoke/MethodHandle" ∧ yX12_redo.cls ≠ "java/lang/invoke/VarHandle" ∧ (parseMethodDescriptor yX12_redo.desc).map (fun d => d.parameters.length) = some 1 := by decide +kernel
set_option maxHeartbeats 4000000 in
set_option maxRecDepth 100000 in
theorem c12_redo (l : Launch) (D : va_G) (h : Nat) (q : Nat → Nat) (y : CyT) (zM uM z u : Nat) {M M' : MS} {p1 : Int32} {r : Int32} (hf : f12_redo M p1 = some (r, M')) : CT l D y yX12_redo cX12_redo 2 (some .int) 5 124 zM uM [.ref h, .int p1] z u (mw h q y M) z u (mw h q y M') (some (.int r)) := by
  refine CT.of (by decide) (Nat.le_of_ble_eq_true rfl) (fun E hc hzz hnm => ?_)
  have hc : Cx E "FarEditorsModel" cX12_redo 2 := hc
  have hz := hzz.1
  have hT := hz.2.2.1
  show V E z u (mw h q y M) 0 [(0, .ref h), (1, .int p1)] []
  unfold f12_redo at hf
  refine V_aload_n hc dX12_redo_0 rfl 0 rfl ?_
  refine V_iload_n hc dX12_redo_1 rfl 1 rfl ?_
  refine V_sipush hc (v := (2054 : Int32)) dX12_redo_2 rfl ?_
  refine V_bipush hc (v := (23 : Int32)) dX12_redo_5 rfl ?_
  refine V_iconst hc (v := (2 : Int32)) dX12_redo_7 rfl ?_
  obtain ⟨v1, M2, hv1, hf⟩ := mb2 hf
  refine R_callVi hc hz (As := [.int p1, .int (2054 : Int32), .int (23 : Int32), .int (2 : Int32)]) (c12_goesBack l D h q y _ _ _ _ hv1) w9_32 w9_34 wp9_2 w1_13 w9_35 hd12_goesBack ⟨Nat.le_of_ble_eq_true rfl, Nat.le_of_ble_eq_true rfl⟩ rfl rfl (Nat.le_of_ble_eq_true rfl) dX12_redo_8 ?_
  obtain ⟨rfl, rfl⟩ := si2 hf
  exact V_iret hc hzz rfl rfl rfl rfl rfl dX12_redo_11
noncomputable def f12_line (M : MS) (p1 : Int32) (p2 : Int32) : Option (Int32 × MS) :=
  (
    if p2 = 0 then (
      some (0 : Int32)
    ) else (
      some (1 : Int32)
    )
  ).bind fun v1 =>
  (f12_isEditor M p1).bind fun v3 =>
  if v3 = 0 then (
    bn2 (f12_isRefused M (3 : Int32)) fun v4 M5 =>
    (bz v4).bind fun v6 =>
    some (v6, M5)
  ) else (
    (f12_its M p1 (15 : Int32)).bind fun v7 =>
    if v7 = v1 then (
      bn2 (f12_isRefused M (3 : Int32)) fun v11 M12 =>
      (bz v11).bind fun v13 =>
      some (v13, M12)
    ) else (
      (f12_keeps M).bind fun M8 =>
      (f12_of p1 (15 : Int32)).bind fun v9 =>
      (sd M8 30 v9 v1).bind fun M10 =>
      some ((1 : Int32), M10)
    )
  )
theorem hd12_line : yX12_line.cls = "FarEditorsModel" ∧ yX12_line.cls ≠ "java/lang/invoke/MethodHandle" ∧ yX12_line.cls ≠ "java/lang/invoke/VarHandle" ∧ (parseMethodDescriptor yX12_line.desc).map (fun d => d.parameters.length) = some 2 := by decide +kernel
set_option maxHeartbeats 4000000 in
set_option maxRecDepth 100000 in
theorem c12_line (l : Launch) (D : va_G) (h : Nat) (q : Nat → Nat) (y : CyT) (zM uM z u : Nat) {M M' : MS} {p1 : Int32} {p2 : Int32} {r : Int32} (hf : f12_line M p1 p2 = some (r, M')) : CT l D y yX12_line cX12_line 4 (some .boolean) 2 46 zM uM [.ref h, .int p1, .int p2] z u (mw h q y M) z u (mw h q y M') (some (.int r)) := by
  refine CT.of (by decide) (Nat.le_of_ble_eq_true rfl) (fun E hc hzz hnm => ?_)
  have hc : Cx E "FarEditorsModel" cX12_line 4 := hc
  have hz := hzz.1
  have hT := hz.2.2.1
  show V E z u (mw h q y M) 0 [(0, .ref h), (1, .int p1), (2, .int p2)] []
  unfold f12_line at hf
  refine V_iload_n hc dX12_line_0 rfl 2 rfl ?_
  obtain ⟨v1, hv2, hf⟩ := mb hf
  have hJ1 : V E z u (mw h q y M) 9 [(0, .ref h), (1, .int p1)] [.int v1] := by
    refine V_istore_n hc dX12_line_9 rfl (by decide) rfl ?_
    refine V_aload_n hc dX12_line_10 rfl 1 rfl ?_
    refine V_iload_n hc dX12_line_11 rfl 2 rfl ?_
    obtain ⟨v3, hv3, hf⟩ := mb hf
    refine R_callVi hc hz (As := [.int p1]) (c12_isEditor l D h q y _ _ _ _ hv3) w8_80 w8_82 wp7_13 w1_13 w8_83 hd12_isEditor ⟨Nat.le_of_ble_eq_true rfl, Nat.le_of_ble_eq_true rfl⟩ rfl rfl (Nat.le_of_ble_eq_true rfl) dX12_line_12 ?_
    refine V_if_eq hc dX12_line_15 rfl (fun hq15 => ?_) (fun hq15 => ?_)
    · rw [if_pos hq15] at hf
      refine V_aload_n hc dX12_line_29 rfl 1 rfl ?_
      refine V_iconst hc (v := (3 : Int32)) dX12_line_30 rfl ?_
      obtain ⟨v4, M5, hv4, hf⟩ := mb2 hf
      refine R_callVi hc hz (As := [.int (3 : Int32)]) (c12_isRefused l D h q y _ _ _ _ hv4) w7_25 w7_27 wp4_0 w1_13 w7_28 hd12_isRefused ⟨Nat.le_of_ble_eq_true rfl, Nat.le_of_ble_eq_true rfl⟩ rfl rfl (Nat.le_of_ble_eq_true rfl) dX12_line_31 ?_
      obtain ⟨v6, hv6, hf⟩ := mb hf
      obtain ⟨hbv6, rfl⟩ := bz_some hv6
      obtain ⟨rfl, rfl⟩ := si2 hf
      exact V_iret hc hzz (bz_nar hbv6) rfl rfl rfl rfl dX12_line_34
    · rw [if_neg hq15] at hf
      refine V_aload_n hc dX12_line_18 rfl 1 rfl ?_
      refine V_iload_n hc dX12_line_19 rfl 2 rfl ?_
      refine V_bipush hc (v := (15 : Int32)) dX12_line_20 rfl ?_
      obtain ⟨v7, hv7, hf⟩ := mb hf
      refine R_callVi hc hz (As := [.int p1, .int (15 : Int32)]) (c12_its l D h q y _ _ _ _ hv7) w7_142 w7_144 wp5_7 w1_13 w7_145 hd12_its ⟨Nat.le_of_ble_eq_true rfl, Nat.le_of_ble_eq_true rfl⟩ rfl rfl (Nat.le_of_ble_eq_true rfl) dX12_line_22 ?_
      refine V_iload_n hc dX12_line_25 rfl 0 rfl ?_
      refine V_icmp_ne hc dX12_line_26 rfl (fun hq26 => ?_) (fun hq26 => ?_)
      · rw [if_neg hq26] at hf
        refine V_aload_n hc dX12_line_35 rfl 1 rfl ?_
        obtain ⟨M8, hM8, hf⟩ := mb hf
        refine R_callVv hc hz (As := []) (c12_keeps l D h q y _ _ _ _ hM8) w8_234 w8_236 wp9_0 w1_13 w8_237 hd12_keeps ⟨Nat.le_of_ble_eq_true rfl, Nat.le_of_ble_eq_true rfl⟩ rfl rfl (Nat.le_of_ble_eq_true rfl) dX12_line_36 ?_
        refine V_aload_n hc dX12_line_39 rfl 1 rfl ?_
        refine R_getr hc 30 rfl (by decide) w6_88 dX12_line_40 ?_
        refine V_iload_n hc dX12_line_43 rfl 2 rfl ?_
        refine V_bipush hc (v := (15 : Int32)) dX12_line_44 rfl ?_
        obtain ⟨v9, hv9, hf⟩ := mb hf
        refine R_callSi hc hz (As := [.int p1, .int (15 : Int32)]) (c12_of l D h q y _ _ _ _ hv9) w7_123 w7_124 w1_13 w7_125 hd12_of ⟨Nat.le_of_ble_eq_true rfl, Nat.le_of_ble_eq_true rfl⟩ rfl rfl (Nat.le_of_ble_eq_true rfl) dX12_line_46 ?_
        refine V_iload_n hc dX12_line_49 rfl 0 rfl ?_
        obtain ⟨M10, hM10, hf⟩ := mb hf
        refine R_iast hc hT rfl hM10 dX12_line_50 ?_
        refine V_iconst hc (v := (1 : Int32)) dX12_line_51 rfl ?_
        obtain ⟨rfl, rfl⟩ := si2 hf
        exact V_iret hc hzz rfl rfl rfl rfl rfl dX12_line_52
      · rw [if_pos hq26] at hf
        refine V_aload_n hc dX12_line_29 rfl 1 rfl ?_
        refine V_iconst hc (v := (3 : Int32)) dX12_line_30 rfl ?_
        obtain ⟨v11, M12, hv11, hf⟩ := mb2 hf
        refine R_callVi hc hz (As := [.int (3 : Int32)]) (c12_isRefused l D h q y _ _ _ _ hv11) w7_25 w7_27 wp4_0 w1_13 w7_28 hd12_isRefused ⟨Nat.le_of_ble_eq_true rfl, Nat.le_of_ble_eq_true rfl⟩ rfl rfl (Nat.le_of_ble_eq_true rfl) dX12_line_31 ?_
        obtain ⟨v13, hv13, hf⟩ := mb hf
        obtain ⟨hbv13, rfl⟩ := bz_some hv13
        obtain ⟨rfl, rfl⟩ := si2 hf
        exact V_iret hc hzz (bz_nar hbv13) rfl rfl rfl rfl dX12_line_34
  refine V_if_eq hc dX12_line_1 rfl (fun hq1 => ?_) (fun hq1 => ?_)
  · rw [if_pos hq1] at hv2
    refine V_iconst hc (v := (0 : Int32)) dX12_line_8 rfl ?_
    obtain rfl := Option.some.inj hv2
    exact V_sub [0, 1] rfl hJ1
  · rw [if_neg hq1] at hv2
    refine V_iconst hc (v := (1 : Int32)) dX12_line_4 rfl ?_
    refine V_goto hc dX12_line_5 rfl ?_
    obtain rfl := Option.some.inj hv2
    exact V_sub [0, 1] rfl hJ1
noncomputable def f12_delay (M : MS) (p1 : Int32) (p2 : Int32) : Option (Int32 × MS) :=
  (f12_isEditor M p1).bind fun v1 =>
  if v1 = 0 then (
    bn2 (f12_isRefused M (3 : Int32)) fun v2 M3 =>
    (bz v2).bind fun v4 =>
    some (v4, M3)
  ) else (
    (f12_isIn p2.toInt64 (0 : Int64) (9 : Int64)).bind fun v5 =>
    if v5 = 0 then (
      bn2 (f12_isRefused M (3 : Int32)) fun v6 M7 =>
      (bz v6).bind fun v8 =>
      some (v8, M7)
    ) else (
      (f12_its M p1 (16 : Int32)).bind fun v9 =>
      if v9 = p2 then (
        bn2 (f12_isRefused M (3 : Int32)) fun v13 M14 =>
        (bz v13).bind fun v15 =>
        some (v15, M14)
      ) else (
        (f12_keeps M).bind fun M10 =>
        (f12_of p1 (16 : Int32)).bind fun v11 =>
        (sd M10 30 v11 p2).bind fun M12 =>
        some ((1 : Int32), M12)
      )
    )
  )
theorem hd12_delay : yX12_delay.cls = "FarEditorsModel" ∧ yX12_delay.cls ≠ "java/lang/invoke/MethodHandle" ∧ yX12_delay.cls ≠ "java/lang/invoke/VarHandle" ∧ (parseMethodDescriptor yX12_delay.desc).map (fun d => d.parameters.length) = some 2 := by decide +kernel
set_option maxHeartbeats 4000000 in
set_option maxRecDepth 100000 in
theorem c12_delay (l : Launch) (D : va_G) (h : Nat) (q : Nat → Nat) (y : CyT) (zM uM z u : Nat) {M M' : MS} {p1 : Int32} {p2 : Int32} {r : Int32} (hf : f12_delay M p1 p2 = some (r, M')) : CT l D y yX12_delay cX12_delay 3 (some .boolean) 2 46 zM uM [.ref h, .int p1, .int p2] z u (mw h q y M) z u (mw h q y M') (some (.int r)) := by
  refine CT.of (by decide) (Nat.le_of_ble_eq_true rfl) (fun E hc hzz hnm => ?_)
  have hc : Cx E "FarEditorsModel" cX12_delay 3 := hc
  have hz := hzz.1
  have hT := hz.2.2.1
  show V E z u (mw h q y M) 0 [(0, .ref h), (1, .int p1), (2, .int p2)] []
  unfold f12_delay at hf
  refine V_aload_n hc dX12_delay_0 rfl 0 rfl ?_
  refine V_iload_n hc dX12_delay_1 rfl 1 rfl ?_
  obtain ⟨v1, hv1, hf⟩ := mb hf
  refine R_callVi hc hz (As := [.int p1]) (c12_isEditor l D h q y _ _ _ _ hv1) w8_80 w8_82 wp7_13 w1_13 w8_83 hd12_isEditor ⟨Nat.le_of_ble_eq_true rfl, Nat.le_of_ble_eq_true rfl⟩ rfl rfl (Nat.le_of_ble_eq_true rfl) dX12_delay_2 ?_
  refine V_if_eq hc dX12_delay_5 rfl (fun hq5 => ?_) (fun hq5 => ?_)
  · rw [if_pos hq5] at hf
    refine V_aload_n hc dX12_delay_31 rfl 0 rfl ?_
    refine V_iconst hc (v := (3 : Int32)) dX12_delay_32 rfl ?_
    obtain ⟨v2, M3, hv2, hf⟩ := mb2 hf
    refine R_callVi hc hz (As := [.int (3 : Int32)]) (c12_isRefused l D h q y _ _ _ _ hv2) w7_25 w7_27 wp4_0 w1_13 w7_28 hd12_isRefused ⟨Nat.le_of_ble_eq_true rfl, Nat.le_of_ble_eq_true rfl⟩ rfl rfl (Nat.le_of_ble_eq_true rfl) dX12_delay_33 ?_
    obtain ⟨v4, hv4, hf⟩ := mb hf
    obtain ⟨hbv4, rfl⟩ := bz_some hv4
    obtain ⟨rfl, rfl⟩ := si2 hf
    exact V_iret hc hzz (bz_nar hbv4) rfl rfl rfl rfl dX12_delay_36
  · rw [if_neg hq5] at hf
    refine V_iload_n hc dX12_delay_8 rfl 2 rfl ?_
    refine V_i2l hc dX12_delay_9 ?_
    refine V_lconst hc (v := (0 : Int64)) dX12_delay_10 rfl ?_
    refine V_ldc2 hc w9_52 dX12_delay_11 ?_
    obtain ⟨v5, hv5, hf⟩ := mb hf
    refine R_callSi hc hz (As := [.long p2.toInt64, .long (0 : Int64), .long (9 : Int64)]) (c12_isIn l D h q y _ _ _ _ hv5) w7_34 w7_35 w1_13 w7_36 hd12_isIn ⟨Nat.le_of_ble_eq_true rfl, Nat.le_of_ble_eq_true rfl⟩ rfl rfl (Nat.le_of_ble_eq_true rfl) dX12_delay_14 ?_
    refine V_if_eq hc dX12_delay_17 rfl (fun hq17 => ?_) (fun hq17 => ?_)
    · rw [if_pos hq17] at hf
      refine V_aload_n hc dX12_delay_31 rfl 0 rfl ?_
      refine V_iconst hc (v := (3 : Int32)) dX12_delay_32 rfl ?_
      obtain ⟨v6, M7, hv6, hf⟩ := mb2 hf
      refine R_callVi hc hz (As := [.int (3 : Int32)]) (c12_isRefused l D h q y _ _ _ _ hv6) w7_25 w7_27 wp4_0 w1_13 w7_28 hd12_isRefused ⟨Nat.le_of_ble_eq_true rfl, Nat.le_of_ble_eq_true rfl⟩ rfl rfl (Nat.le_of_ble_eq_true rfl) dX12_delay_33 ?_
      obtain ⟨v8, hv8, hf⟩ := mb hf
      obtain ⟨hbv8, rfl⟩ := bz_some hv8
      obtain ⟨rfl, rfl⟩ := si2 hf
      exact V_iret hc hzz (bz_nar hbv8) rfl rfl rfl rfl dX12_delay_36
    · rw [if_neg hq17] at hf
      refine V_aload_n hc dX12_delay_20 rfl 0 rfl ?_
      refine V_iload_n hc dX12_delay_21 rfl 1 rfl ?_
      refine V_bipush hc (v := (16 : Int32)) dX12_delay_22 rfl ?_
      obtain ⟨v9, hv9, hf⟩ := mb hf
      refine R_callVi hc hz (As := [.int p1, .int (16 : Int32)]) (c12_its l D h q y _ _ _ _ hv9) w7_142 w7_144 wp5_7 w1_13 w7_145 hd12_its ⟨Nat.le_of_ble_eq_true rfl, Nat.le_of_ble_eq_true rfl⟩ rfl rfl (Nat.le_of_ble_eq_true rfl) dX12_delay_24 ?_
      refine V_iload_n hc dX12_delay_27 rfl 2 rfl ?_
      refine V_icmp_ne hc dX12_delay_28 rfl (fun hq28 => ?_) (fun hq28 => ?_)
      · rw [if_neg hq28] at hf
        refine V_aload_n hc dX12_delay_37 rfl 0 rfl ?_
        obtain ⟨M10, hM10, hf⟩ := mb hf
        refine R_callVv hc hz (As := []) (c12_keeps l D h q y _ _ _ _ hM10) w8_234 w8_236 wp9_0 w1_13 w8_237 hd12_keeps ⟨Nat.le_of_ble_eq_true rfl, Nat.le_of_ble_eq_true rfl⟩ rfl rfl (Nat.le_of_ble_eq_true rfl) dX12_delay_38 ?_
        refine V_aload_n hc dX12_delay_41 rfl 0 rfl ?_
        refine R_getr hc 30 rfl (by decide) w6_88 dX12_delay_42 ?_
        refine V_iload_n hc dX12_delay_45 rfl 1 rfl ?_
        refine V_bipush hc (v := (16 : Int32)) dX12_delay_46 rfl ?_
        obtain ⟨v11, hv11, hf⟩ := mb hf
        refine R_callSi hc hz (As := [.int p1, .int (16 : Int32)]) (c12_of l D h q y _ _ _ _ hv11) w7_123 w7_124 w1_13 w7_125 hd12_of ⟨Nat.le_of_ble_eq_true rfl, Nat.le_of_ble_eq_true rfl⟩ rfl rfl (Nat.le_of_ble_eq_true rfl) dX12_delay_48 ?_
        refine V_iload_n hc dX12_delay_51 rfl 2 rfl ?_
        obtain ⟨M12, hM12, hf⟩ := mb hf
        refine R_iast hc hT rfl hM12 dX12_delay_52 ?_
        refine V_iconst hc (v := (1 : Int32)) dX12_delay_53 rfl ?_
        obtain ⟨rfl, rfl⟩ := si2 hf
        exact V_iret hc hzz rfl rfl rfl rfl rfl dX12_delay_54
      · rw [if_pos hq28] at hf
        refine V_aload_n hc dX12_delay_31 rfl 0 rfl ?_
        refine V_iconst hc (v := (3 : Int32)) dX12_delay_32 rfl ?_
        obtain ⟨v13, M14, hv13, hf⟩ := mb2 hf
        refine R_callVi hc hz (As := [.int (3 : Int32)]) (c12_isRefused l D h q y _ _ _ _ hv13) w7_25 w7_27 wp4_0 w1_13 w7_28 hd12_isRefused ⟨Nat.le_of_ble_eq_true rfl, Nat.le_of_ble_eq_true rfl⟩ rfl rfl (Nat.le_of_ble_eq_true rfl) dX12_delay_33 ?_
        obtain ⟨v15, hv15, hf⟩ := mb hf
        obtain ⟨hbv15, rfl⟩ := bz_some hv15
        obtain ⟨rfl, rfl⟩ := si2 hf
        exact V_iret hc hzz (bz_nar hbv15) rfl rfl rfl rfl dX12_delay_36
noncomputable def f12_ticks (M : MS) (p1 : Int32) : Option (Int32 × MS) :=
  if (gF M 31) = 0 then (
    bn2 (f12_refuses M (4 : Int32)) fun v1 M2 =>
    some (v1, M2)
  ) else (
    (f12_isIn p1.toInt64 (1 : Int64) (99 : Int64)).bind fun v3 =>
    if v3 = 0 then (
      bn2 (f12_refuses M (4 : Int32)) fun v4 M5 =>
      some (v4, M5)
    ) else (
      (ld M 30 (0 : Int32)).bind fun v6 =>
      if (v6 + p1) ≤ (999 : Int32) then (
        (f12_keeps M).bind fun M7 =>
        (f12_ticksGo M7 p1).bind fun M8 =>
        some ((gF M8 42), M8)
      ) else (
        bn2 (f12_refuses M (4 : Int32)) fun v9 M10 =>
        some (v9, M10)
      )
    )
  )
theorem hd12_ticks : yX12_ticks.cls = "FarEditorsModel" ∧ yX12_ticks.cls ≠ "java/lang/invoke/MethodHandle" ∧ yX12_ticks.cls ≠ "java/lang/invoke/VarHandle" ∧ (parseMethodDescriptor yX12_ticks.desc).map (fun d => d.parameters.length) = some 1 := by decide +kernel
set_option maxHeartbeats 4000000 in
set_option maxRecDepth 100000 in
theorem c12_ticks (l : Launch) (D : va_G) (h : Nat) (q : Nat → Nat) (y : CyT) (zM uM z u : Nat) {M M' : MS} {p1 : Int32} {r : Int32} (hf : f12_ticks M p1 = some (r, M')) : CT l D y yX12_ticks cX12_ticks 2 (some .int) 6 145 zM uM [.ref h, .int p1] z u (mw h q y M) z u (mw h q y M') (some (.int r)) := by
  refine CT.of (by decide) (Nat.le_of_ble_eq_true rfl) (fun E hc hzz hnm => ?_)
  have hc : Cx E "FarEditorsModel" cX12_ticks 2 := hc
  have hz := hzz.1
  have hT := hz.2.2.1
  show V E z u (mw h q y M) 0 [(0, .ref h), (1, .int p1)] []
  unfold f12_ticks at hf
  refine V_aload_n hc dX12_ticks_0 rfl 0 rfl ?_
  refine R_geti hc 31 rfl (by decide) w6_89 dX12_ticks_1 ?_
  refine V_if_eq hc dX12_ticks_4 rfl (fun hq4 => ?_) (fun hq4 => ?_)
  · rw [if_pos hq4] at hf
    refine V_aload_n hc dX12_ticks_33 rfl 0 rfl ?_
    refine V_iconst hc (v := (4 : Int32)) dX12_ticks_34 rfl ?_
    obtain ⟨v1, M2, hv1, hf⟩ := mb2 hf
    refine R_callVi hc hz (As := [.int (4 : Int32)]) (c12_refuses l D h q y _ _ _ _ hv1) w7_17 w7_19 wp3_15 w1_13 w7_20 hd12_refuses ⟨Nat.le_of_ble_eq_true rfl, Nat.le_of_ble_eq_true rfl⟩ rfl rfl (Nat.le_of_ble_eq_true rfl) dX12_ticks_35 ?_
    obtain ⟨rfl, rfl⟩ := si2 hf
    exact V_iret hc hzz rfl rfl rfl rfl rfl dX12_ticks_38
  · rw [if_neg hq4] at hf
    refine V_iload_n hc dX12_ticks_7 rfl 1 rfl ?_
    refine V_i2l hc dX12_ticks_8 ?_
    refine V_lconst hc (v := (1 : Int64)) dX12_ticks_9 rfl ?_
    refine V_ldc2 hc w8_165 dX12_ticks_10 ?_
    obtain ⟨v3, hv3, hf⟩ := mb hf
    refine R_callSi hc hz (As := [.long p1.toInt64, .long (1 : Int64), .long (99 : Int64)]) (c12_isIn l D h q y _ _ _ _ hv3) w7_34 w7_35 w1_13 w7_36 hd12_isIn ⟨Nat.le_of_ble_eq_true rfl, Nat.le_of_ble_eq_true rfl⟩ rfl rfl (Nat.le_of_ble_eq_true rfl) dX12_ticks_13 ?_
    refine V_if_eq hc dX12_ticks_16 rfl (fun hq16 => ?_) (fun hq16 => ?_)
    · rw [if_pos hq16] at hf
      refine V_aload_n hc dX12_ticks_33 rfl 0 rfl ?_
      refine V_iconst hc (v := (4 : Int32)) dX12_ticks_34 rfl ?_
      obtain ⟨v4, M5, hv4, hf⟩ := mb2 hf
      refine R_callVi hc hz (As := [.int (4 : Int32)]) (c12_refuses l D h q y _ _ _ _ hv4) w7_17 w7_19 wp3_15 w1_13 w7_20 hd12_refuses ⟨Nat.le_of_ble_eq_true rfl, Nat.le_of_ble_eq_true rfl⟩ rfl rfl (Nat.le_of_ble_eq_true rfl) dX12_ticks_35 ?_
      obtain ⟨rfl, rfl⟩ := si2 hf
      exact V_iret hc hzz rfl rfl rfl rfl rfl dX12_ticks_38
    · rw [if_neg hq16] at hf
      refine V_aload_n hc dX12_ticks_19 rfl 0 rfl ?_
      refine R_getr hc 30 rfl (by decide) w6_88 dX12_ticks_20 ?_
      refine V_iconst hc (v := (0 : Int32)) dX12_ticks_23 rfl ?_
      obtain ⟨v6, hv6, hf⟩ := mb hf
      refine R_iald hc hT rfl hv6 dX12_ticks_24 ?_
      refine V_iload_n hc dX12_ticks_25 rfl 1 rfl ?_
      refine V_iadd hc dX12_ticks_26 ?_
      refine V_sipush hc (v := (999 : Int32)) dX12_ticks_27 rfl ?_
      refine V_icmp_le hc dX12_ticks_30 rfl (fun hq30 => ?_) (fun hq30 => ?_)
      · rw [if_pos hq30] at hf
        refine V_aload_n hc dX12_ticks_39 rfl 0 rfl ?_
        obtain ⟨M7, hM7, hf⟩ := mb hf
        refine R_callVv hc hz (As := []) (c12_keeps l D h q y _ _ _ _ hM7) w8_234 w8_236 wp9_0 w1_13 w8_237 hd12_keeps ⟨Nat.le_of_ble_eq_true rfl, Nat.le_of_ble_eq_true rfl⟩ rfl rfl (Nat.le_of_ble_eq_true rfl) dX12_ticks_40 ?_
        refine V_aload_n hc dX12_ticks_43 rfl 0 rfl ?_
        refine V_iload_n hc dX12_ticks_44 rfl 1 rfl ?_
        obtain ⟨M8, hM8, hf⟩ := mb hf
        refine R_callVv hc hz (As := [.int p1]) (c12_ticksGo l D h q y _ _ _ _ hM8) w8_8 w8_10 wp6_13 w1_13 w8_11 hd12_ticksGo ⟨Nat.le_of_ble_eq_true rfl, Nat.le_of_ble_eq_true rfl⟩ rfl rfl (Nat.le_of_ble_eq_true rfl) dX12_ticks_45 ?_
        refine V_aload_n hc dX12_ticks_48 rfl 0 rfl ?_
        refine R_geti hc 42 rfl (by decide) w6_100 dX12_ticks_49 ?_
        obtain ⟨rfl, rfl⟩ := si2 hf
        exact V_iret hc hzz rfl rfl rfl rfl rfl dX12_ticks_52
      · rw [if_neg hq30] at hf
        refine V_aload_n hc dX12_ticks_33 rfl 0 rfl ?_
        refine V_iconst hc (v := (4 : Int32)) dX12_ticks_34 rfl ?_
        obtain ⟨v9, M10, hv9, hf⟩ := mb2 hf
        refine R_callVi hc hz (As := [.int (4 : Int32)]) (c12_refuses l D h q y _ _ _ _ hv9) w7_17 w7_19 wp3_15 w1_13 w7_20 hd12_refuses ⟨Nat.le_of_ble_eq_true rfl, Nat.le_of_ble_eq_true rfl⟩ rfl rfl (Nat.le_of_ble_eq_true rfl) dX12_ticks_35 ?_
        obtain ⟨rfl, rfl⟩ := si2 hf
        exact V_iret hc hzz rfl rfl rfl rfl rfl dX12_ticks_38
noncomputable def f12_seed (M : MS) (p1 : Int32) : Option (Int32 × MS) :=
  if 0 ≤ p1 then (
    some ((1 : Int32), (sL M p1.toInt64))
  ) else (
    bn2 (f12_isRefused M (6 : Int32)) fun v1 M2 =>
    (bz v1).bind fun v3 =>
    some (v3, M2)
  )
theorem hd12_seed : yX12_seed.cls = "FarEditorsModel" ∧ yX12_seed.cls ≠ "java/lang/invoke/MethodHandle" ∧ yX12_seed.cls ≠ "java/lang/invoke/VarHandle" ∧ (parseMethodDescriptor yX12_seed.desc).map (fun d => d.parameters.length) = some 1 := by decide +kernel
set_option maxHeartbeats 4000000 in
set_option maxRecDepth 100000 in
theorem c12_seed (l : Launch) (D : va_G) (h : Nat) (q : Nat → Nat) (y : CyT) (zM uM z u : Nat) {M M' : MS} {p1 : Int32} {r : Int32} (hf : f12_seed M p1 = some (r, M')) : CT l D y yX12_seed cX12_seed 2 (some .boolean) 1 21 zM uM [.ref h, .int p1] z u (mw h q y M) z u (mw h q y M') (some (.int r)) := by
  refine CT.of (by decide) (Nat.le_of_ble_eq_true rfl) (fun E hc hzz hnm => ?_)
  have hc : Cx E "FarEditorsModel" cX12_seed 2 := hc
  have hz := hzz.1
  have hT := hz.2.2.1
  show V E z u (mw h q y M) 0 [(0, .ref h), (1, .int p1)] []
  unfold f12_seed at hf
  refine V_iload_n hc dX12_seed_0 rfl 1 rfl ?_
  refine V_if_ge hc dX12_seed_1 rfl (fun hq1 => ?_) (fun hq1 => ?_)
  · rw [if_pos hq1] at hf
    refine V_aload_n hc dX12_seed_11 rfl 0 rfl ?_
    refine V_iload_n hc dX12_seed_12 rfl 1 rfl ?_
    refine V_i2l hc dX12_seed_13 ?_
    refine R_putl hc w6_121 dX12_seed_14 ?_
    refine V_iconst hc (v := (1 : Int32)) dX12_seed_17 rfl ?_
    obtain ⟨rfl, rfl⟩ := si2 hf
    exact V_iret hc hzz rfl rfl rfl rfl rfl dX12_seed_18
  · rw [if_neg hq1] at hf
    refine V_aload_n hc dX12_seed_4 rfl 0 rfl ?_
    refine V_bipush hc (v := (6 : Int32)) dX12_seed_5 rfl ?_
    obtain ⟨v1, M2, hv1, hf⟩ := mb2 hf
    refine R_callVi hc hz (As := [.int (6 : Int32)]) (c12_isRefused l D h q y _ _ _ _ hv1) w7_25 w7_27 wp4_0 w1_13 w7_28 hd12_isRefused ⟨Nat.le_of_ble_eq_true rfl, Nat.le_of_ble_eq_true rfl⟩ rfl rfl (Nat.le_of_ble_eq_true rfl) dX12_seed_7 ?_
    obtain ⟨v3, hv3, hf⟩ := mb hf
    obtain ⟨hbv3, rfl⟩ := bz_some hv3
    obtain ⟨rfl, rfl⟩ := si2 hf
    exact V_iret hc hzz (bz_nar hbv3) rfl rfl rfl rfl dX12_seed_10
