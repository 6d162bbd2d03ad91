noncomputable def f12_isIn (p1 : Int64) (p2 : Int64) (p3 : Int64) : Option (Int32) :=
  (
    if (lg_cmp p1 p2) < 0 then (
      some (0 : Int32)
    ) else (
      if 0 < (lg_cmp p1 p3) then (
        some (0 : Int32)
      ) else (
        some (1 : Int32)
      )
    )
  ).bind fun v1 =>
  (bz v1).bind fun v3 =>
  some v3
theorem hd12_isIn : yX12_isIn.cls = "FarEditorsModel" ∧ yX12_isIn.cls ≠ "java/lang/invoke/MethodHandle" ∧ yX12_isIn.cls ≠ "java/lang/invoke/VarHandle" ∧ (parseMethodDescriptor yX12_isIn.desc).map (fun d => d.parameters.length) = some 3 := by decide +kernel
set_option maxHeartbeats 4000000 in
set_option maxRecDepth 100000 in
theorem c12_isIn (l : Launch) (D : va_G) (h : Nat) (q : Nat → Nat) (y : CyT) (zM uM z u : Nat) {M : MS} {p1 : Int64} {p2 : Int64} {p3 : Int64} {r : Int32} (hf : f12_isIn p1 p2 p3 = some r) : CT l D y yX12_isIn cX12_isIn 6 (some .boolean) 0 0 zM uM [.long p1, .long p2, .long p3] z u (mw h q y M) z u (mw h q y M) (some (.int r)) := by
  refine CT.of (by decide) (Nat.le_of_ble_eq_true rfl) (fun E hc hzz hnm => ?_)
  have hc : Cx E "FarEditorsModel" cX12_isIn 6 := hc
  have hz := hzz.1
  have hT := hz.2.2.1
  show V E z u (mw h q y M) 0 [(0, .long p1), (2, .long p2), (4, .long p3)] []
  unfold f12_isIn at hf
  refine V_lload_n hc dX12_isIn_0 rfl 0 rfl ?_
  refine V_lload_n hc dX12_isIn_1 rfl 1 rfl ?_
  refine V_lcmp hc dX12_isIn_2 ?_
  obtain ⟨v1, hv2, hf⟩ := mb hf
  have hJ3 : V E z u (mw h q y M) 18 [] [.int v1] := by
    obtain ⟨v3, hv3, hf⟩ := mb hf
    obtain ⟨hbv3, rfl⟩ := bz_some hv3
    obtain rfl := Option.some.inj hf
    exact V_iret hc hzz (bz_nar hbv3) rfl rfl rfl rfl dX12_isIn_18
  refine V_if_lt hc dX12_isIn_3 rfl (fun hq3 => ?_) (fun hq3 => ?_)
  · rw [if_pos hq3] at hv2
    refine V_iconst hc (v := (0 : Int32)) dX12_isIn_17 rfl ?_
    obtain rfl := Option.some.inj hv2
    exact V_sub [] rfl hJ3
  · rw [if_neg hq3] at hv2
    refine V_lload_n hc dX12_isIn_6 rfl 0 rfl ?_
    refine V_lload hc dX12_isIn_7 2 rfl ?_
    refine V_lcmp hc dX12_isIn_9 ?_
    refine V_if_gt hc dX12_isIn_10 rfl (fun hq10 => ?_) (fun hq10 => ?_)
    · rw [if_pos hq10] at hv2
      refine V_iconst hc (v := (0 : Int32)) dX12_isIn_17 rfl ?_
      obtain rfl := Option.some.inj hv2
      exact V_sub [] rfl hJ3
    · rw [if_neg hq10] at hv2
      refine V_iconst hc (v := (1 : Int32)) dX12_isIn_13 rfl ?_
      refine V_goto hc dX12_isIn_14 rfl ?_
      obtain rfl := Option.some.inj hv2
      exact V_sub [] rfl hJ3
noncomputable def f12_refuses (M : MS) (p1 : Int32) : Option (Int32 × MS) :=
  (ld M 9 p1).bind fun v1 =>
  (sd M 9 p1 (v1 + (1 : Int32))).bind fun M2 =>
  some ((-1 : Int32), M2)
theorem hd12_refuses : yX12_refuses.cls = "FarEditorsModel" ∧ yX12_refuses.cls ≠ "java/lang/invoke/MethodHandle" ∧ yX12_refuses.cls ≠ "java/lang/invoke/VarHandle" ∧ (parseMethodDescriptor yX12_refuses.desc).map (fun d => d.parameters.length) = some 1 := by decide +kernel
set_option maxHeartbeats 4000000 in
set_option maxRecDepth 100000 in
theorem c12_refuses (l : Launch) (D : va_G) (h : Nat) (q : Nat → Nat) (y : CyT) (zM uM z u : Nat) {M M' : MS} {p1 : Int32} {r : Int32} (hf : f12_refuses M p1 = some (r, M')) : CT l D y yX12_refuses cX12_refuses 2 (some .int) 0 0 zM uM [.ref h, .int p1] z u (mw h q y M) z u (mw h q y M') (some (.int r)) := by
  refine CT.of (by decide) (Nat.le_of_ble_eq_true rfl) (fun E hc hzz hnm => ?_)
  have hc : Cx E "FarEditorsModel" cX12_refuses 2 := hc
  have hz := hzz.1
  have hT := hz.2.2.1
  show V E z u (mw h q y M) 0 [(0, .ref h), (1, .int p1)] []
  unfold f12_refuses at hf
  refine V_aload_n hc dX12_refuses_0 rfl 0 rfl ?_
  refine R_getr hc 9 rfl (by decide) w6_67 dX12_refuses_1 ?_
  refine V_iload_n hc dX12_refuses_4 rfl 1 rfl ?_
  refine V_dup2 hc dX12_refuses_5 rfl rfl ?_
  obtain ⟨v1, hv1, hf⟩ := mb hf
  refine R_iald hc hT rfl hv1 dX12_refuses_6 ?_
  refine V_iconst hc (v := (1 : Int32)) dX12_refuses_7 rfl ?_
  refine V_iadd hc dX12_refuses_8 ?_
  obtain ⟨M2, hM2, hf⟩ := mb hf
  refine R_iast hc hT rfl hM2 dX12_refuses_9 ?_
  refine V_iconst hc (v := (-1 : Int32)) dX12_refuses_10 rfl ?_
  obtain ⟨rfl, rfl⟩ := si2 hf
  exact V_iret hc hzz rfl rfl rfl rfl rfl dX12_refuses_11
noncomputable def f12_isRefused (M : MS) (p1 : Int32) : Option (Int32 × MS) :=
  (ld M 9 p1).bind fun v1 =>
  (sd M 9 p1 (v1 + (1 : Int32))).bind fun M2 =>
  some ((0 : Int32), M2)
theorem hd12_isRefused : yX12_isRefused.cls = "FarEditorsModel" ∧ yX12_isRefused.cls ≠ "java/lang/invoke/MethodHandle" ∧ yX12_isRefused.cls ≠ "java/lang/invoke/VarHandle" ∧ (parseMethodDescriptor yX12_isRefused.desc).map (fun d => d.parameters.length) = some 1 := by decide +kernel
set_option maxHeartbeats 4000000 in
set_option maxRecDepth 100000 in
theorem c12_isRefused (l : Launch) (D : va_G) (h : Nat) (q : Nat → Nat) (y : CyT) (zM uM z u : Nat) {M M' : MS} {p1 : Int32} {r : Int32} (hf : f12_isRefused M p1 = some (r, M')) : CT l D y yX12_isRefused cX12_isRefused 2 (some .boolean) 0 0 zM uM [.ref h, .int p1] z u (mw h q y M) z u (mw h q y M') (some (.int r)) := by
  refine CT.of (by decide) (Nat.le_of_ble_eq_true rfl) (fun E hc hzz hnm => ?_)
  have hc : Cx E "FarEditorsModel" cX12_isRefused 2 := hc
  have hz := hzz.1
  have hT := hz.2.2.1
  show V E z u (mw h q y M) 0 [(0, .ref h), (1, .int p1)] []
  unfold f12_isRefused at hf
  refine V_aload_n hc dX12_isRefused_0 rfl 0 rfl ?_
  refine R_getr hc 9 rfl (by decide) w6_67 dX12_isRefused_1 ?_
  refine V_iload_n hc dX12_isRefused_4 rfl 1 rfl ?_
  refine V_dup2 hc dX12_isRefused_5 rfl rfl ?_
  obtain ⟨v1, hv1, hf⟩ := mb hf
  refine R_iald hc hT rfl hv1 dX12_isRefused_6 ?_
  refine V_iconst hc (v := (1 : Int32)) dX12_isRefused_7 rfl ?_
  refine V_iadd hc dX12_isRefused_8 ?_
  obtain ⟨M2, hM2, hf⟩ := mb hf
  refine R_iast hc hT rfl hM2 dX12_isRefused_9 ?_
  refine V_iconst hc (v := (0 : Int32)) dX12_isRefused_10 rfl ?_
  obtain ⟨rfl, rfl⟩ := si2 hf
  exact V_iret hc hzz rfl rfl rfl rfl rfl dX12_isRefused_11
noncomputable def L12_feed_22 (c1 : Int32) (c2 : Int32) (c3 : Int32) (c4 : Int32) (c5 : Int32) : Nat → Int32 → MS → Option (MS)
  | 0, _, _ => none
  | n + 1, i6, M =>
    if (20 : Int32) ≤ i6 then (
      some M
    ) else (
      (
        if (4 : Int32) ≤ i6 then (
          if (8 : Int32) ≤ i6 then (
            if (12 : Int32) ≤ i6 then (
              if (16 : Int32) ≤ i6 then (
                some c5
              ) else (
                some c4
              )
            ) else (
              some c3
            )
          ) else (
            some c2
          )
        ) else (
          some c1
        )
      ).bind fun v1 =>
      (sd M 0 (gF M 1) ((v1 >>> (((8 : Int32) * ((3 : Int32) - (i6 - i6 / (4 : Int32) * (4 : Int32)))) &&& 31)) &&& (255 : Int32))).bind fun M3 =>
      L12_feed_22 c1 c2 c3 c4 c5 n (i6 + (1 : Int32)) (sF M3 1 ((gF M3 1) + (1 : Int32)))
    )
noncomputable def f12_feed (M : MS) (p1 : Int32) (p2 : Int32) (p3 : Int32) (p4 : Int32) (p5 : Int32) : Option (Int32 × MS) :=
  if ((gF M 1) + (20 : Int32)) ≤ (1600 : Int32) then (
    (L12_feed_22 p1 p2 p3 p4 p5 FU (0 : Int32) M).bind fun M1 =>
    some ((gF M1 1), M1)
  ) else (
    bn2 (f12_refuses M (0 : Int32)) fun v3 M4 =>
    some (v3, M4)
  )
theorem hd12_feed : yX12_feed.cls = "FarEditorsModel" ∧ yX12_feed.cls ≠ "java/lang/invoke/MethodHandle" ∧ yX12_feed.cls ≠ "java/lang/invoke/VarHandle" ∧ (parseMethodDescriptor yX12_feed.desc).map (fun d => d.parameters.length) = some 5 := by decide +kernel
set_option maxHeartbeats 4000000 in
set_option maxRecDepth 100000 in
theorem L12_feed_22_ok {E : CxT} {l : Launch} {D : va_G} {h : Nat} {q : Nat → Nat} {y : CyT} {zM uM z u : Nat} (hc : Cx E "FarEditorsModel" cX12_feed 8) (hz : Cy E l D y 1 21 zM uM) (c1 : Int32) (c2 : Int32) (c3 : Int32) (c4 : Int32) (c5 : Int32) : ∀ (n : Nat) (i6 : Int32) (M : MS) {Mo : MS}, L12_feed_22 c1 c2 c3 c4 c5 n i6 M = some Mo → (hx0 : V E z u (mw h q y Mo) 118 [(0, .ref h)] []) → V E z u (mw h q y M) 22 [(0, .ref h), (1, .int c1), (2, .int c2), (3, .int c3), (4, .int c4), (5, .int c5), (6, .int i6)] [] := by
  have hT := hz.2.2.1
  intro n
  induction n with
  | zero => intro i6 M Mo hf; cases hf
  | succ n ih =>
    intro i6 M Mo hf hx0
    unfold L12_feed_22 at hf
    refine V_iload hc dX12_feed_22 6 rfl ?_
    refine V_bipush hc (v := (20 : Int32)) dX12_feed_24 rfl ?_
    refine V_icmp_ge hc dX12_feed_26 rfl (fun hq26 => ?_) (fun hq26 => ?_)
    · rw [if_pos hq26] at hf
      obtain rfl := Option.some.inj hf
      exact V_sub [0] rfl hx0
    · rw [if_neg hq26] at hf
      refine V_iload hc dX12_feed_29 6 rfl ?_
      refine V_iconst hc (v := (4 : Int32)) dX12_feed_31 rfl ?_
      obtain ⟨v1, hv2, hf⟩ := mb hf
      have hJ32 : V E z u (mw h q y M) 75 [(0, .ref h), (1, .int c1), (2, .int c2), (3, .int c3), (4, .int c4), (5, .int c5), (6, .int i6)] [.int v1] := by
        refine V_istore hc dX12_feed_75 (by decide) rfl ?_
        refine V_aload_n hc dX12_feed_77 rfl 1 rfl ?_
        refine R_getr hc 0 rfl (by decide) w6_58 dX12_feed_78 ?_
        refine V_aload_n hc dX12_feed_81 rfl 1 rfl ?_
        refine R_geti hc 1 rfl (by decide) w6_59 dX12_feed_82 ?_
        refine V_iload hc dX12_feed_85 0 rfl ?_
        refine V_bipush hc (v := (8 : Int32)) dX12_feed_87 rfl ?_
        refine V_iconst hc (v := (3 : Int32)) dX12_feed_89 rfl ?_
        refine V_iload hc dX12_feed_90 7 rfl ?_
        refine V_iconst hc (v := (4 : Int32)) dX12_feed_92 rfl ?_
        refine V_irem hc dX12_feed_93 (by decide) ?_
        refine V_isub hc dX12_feed_94 ?_
        refine V_imul hc dX12_feed_95 ?_
        refine V_ishr hc dX12_feed_96 ?_
        refine V_sipush hc (v := (255 : Int32)) dX12_feed_97 rfl ?_
        refine V_iand hc dX12_feed_100 ?_
        obtain ⟨M3, hM3, hf⟩ := mb hf
        refine R_iast hc hT rfl hM3 dX12_feed_101 ?_
        refine V_aload_n hc dX12_feed_102 rfl 1 rfl ?_
        refine V_dup hc dX12_feed_103 rfl ?_
        refine R_geti hc 1 rfl (by decide) w6_59 dX12_feed_104 ?_
        refine V_iconst hc (v := (1 : Int32)) dX12_feed_107 rfl ?_
        refine V_iadd hc dX12_feed_108 ?_
        refine R_puti hc 1 rfl (by decide) w6_59 rfl rfl rfl dX12_feed_109 ?_
        refine V_iinc hc (j := 7) (v := (i6 + (1 : Int32))) dX12_feed_112 rfl rfl (by decide) rfl ?_
        refine V_goto hc dX12_feed_115 rfl ?_
        exact V_sub [2, 3, 4, 5, 6, 7, 0] rfl (ih _ _ hf hx0)
      refine V_icmp_ge hc dX12_feed_32 rfl (fun hq32 => ?_) (fun hq32 => ?_)
      · rw [if_pos hq32] at hv2
        refine V_iload hc dX12_feed_39 6 rfl ?_
        refine V_bipush hc (v := (8 : Int32)) dX12_feed_41 rfl ?_
        refine V_icmp_ge hc dX12_feed_43 rfl (fun hq43 => ?_) (fun hq43 => ?_)
        · rw [if_pos hq43] at hv2
          refine V_iload hc dX12_feed_50 6 rfl ?_
          refine V_bipush hc (v := (12 : Int32)) dX12_feed_52 rfl ?_
          refine V_icmp_ge hc dX12_feed_54 rfl (fun hq54 => ?_) (fun hq54 => ?_)
          · rw [if_pos hq54] at hv2
            refine V_iload hc dX12_feed_61 6 rfl ?_
            refine V_bipush hc (v := (16 : Int32)) dX12_feed_63 rfl ?_
            refine V_icmp_ge hc dX12_feed_65 rfl (fun hq65 => ?_) (fun hq65 => ?_)
            · rw [if_pos hq65] at hv2
              refine V_iload hc dX12_feed_73 5 rfl ?_
              obtain rfl := Option.some.inj hv2
              exact V_sub [0, 1, 2, 3, 4, 5, 6] rfl hJ32
            · rw [if_neg hq65] at hv2
              refine V_iload hc dX12_feed_68 4 rfl ?_
              refine V_goto hc dX12_feed_70 rfl ?_
              obtain rfl := Option.some.inj hv2
              exact V_sub [0, 1, 2, 3, 4, 5, 6] rfl hJ32
          · rw [if_neg hq54] at hv2
            refine V_iload_n hc dX12_feed_57 rfl 3 rfl ?_
            refine V_goto hc dX12_feed_58 rfl ?_
            obtain rfl := Option.some.inj hv2
            exact V_sub [0, 1, 2, 3, 4, 5, 6] rfl hJ32
        · rw [if_neg hq43] at hv2
          refine V_iload_n hc dX12_feed_46 rfl 2 rfl ?_
          refine V_goto hc dX12_feed_47 rfl ?_
          obtain rfl := Option.some.inj hv2
          exact V_sub [0, 1, 2, 3, 4, 5, 6] rfl hJ32
      · rw [if_neg hq32] at hv2
        refine V_iload_n hc dX12_feed_35 rfl 1 rfl ?_
        refine V_goto hc dX12_feed_36 rfl ?_
        obtain rfl := Option.some.inj hv2
        exact V_sub [0, 1, 2, 3, 4, 5, 6] rfl hJ32
set_option maxHeartbeats 4000000 in
set_option maxRecDepth 100000 in
theorem c12_feed (l : Launch) (D : va_G) (h : Nat) (q : Nat → Nat) (y : CyT) (zM uM z u : Nat) {M M' : MS} {p1 : Int32} {p2 : Int32} {p3 : Int32} {p4 : Int32} {p5 : Int32} {r : Int32} (hf : f12_feed M p1 p2 p3 p4 p5 = some (r, M')) : CT l D y yX12_feed cX12_feed 8 (some .int) 1 21 zM uM [.ref h, .int p1, .int p2, .int p3, .int p4, .int p5] z u (mw h q y M) z u (mw h q y M') (some (.int r)) := by
  refine CT.of (by decide) (Nat.le_of_ble_eq_true rfl) (fun E hc hzz hnm => ?_)
  have hc : Cx E "FarEditorsModel" cX12_feed 8 := hc
  have hz := hzz.1
  have hT := hz.2.2.1
  show V E z u (mw h q y M) 0 [(0, .ref h), (1, .int p1), (2, .int p2), (3, .int p3), (4, .int p4), (5, .int p5)] []
  unfold f12_feed at hf
  refine V_aload_n hc dX12_feed_0 rfl 0 rfl ?_
  refine R_geti hc 1 rfl (by decide) w6_59 dX12_feed_1 ?_
  refine V_bipush hc (v := (20 : Int32)) dX12_feed_4 rfl ?_
  refine V_iadd hc dX12_feed_6 ?_
  refine V_sipush hc (v := (1600 : Int32)) dX12_feed_7 rfl ?_
  refine V_icmp_le hc dX12_feed_10 rfl (fun hq10 => ?_) (fun hq10 => ?_)
  · rw [if_pos hq10] at hf
    refine V_iconst hc (v := (0 : Int32)) dX12_feed_19 rfl ?_
    refine V_istore hc dX12_feed_20 (by decide) rfl ?_
    obtain ⟨M1, hv2, hf⟩ := mb hf
    refine V_sub [1, 2, 3, 4, 5, 6, 0] rfl (L12_feed_22_ok hc hz p1 p2 p3 p4 p5 FU _ _ hv2 ?_)
    refine V_aload_n hc dX12_feed_118 rfl 0 rfl ?_
    refine R_geti hc 1 rfl (by decide) w6_59 dX12_feed_119 ?_
    obtain ⟨rfl, rfl⟩ := si2 hf
    exact V_iret hc hzz rfl rfl rfl rfl rfl dX12_feed_122
  · rw [if_neg hq10] at hf
    refine V_aload_n hc dX12_feed_13 rfl 0 rfl ?_
    refine V_iconst hc (v := (0 : Int32)) dX12_feed_14 rfl ?_
    obtain ⟨v3, M4, hv3, hf⟩ := mb2 hf
    refine R_callVi hc hz (As := [.int (0 : Int32)]) (c12_refuses l D h q y _ _ _ _ hv3) w7_17 w7_19 wp3_15 w1_13 w7_20 hd12_refuses ⟨Nat.le_of_ble_eq_true rfl, Nat.le_of_ble_eq_true rfl⟩ rfl rfl (Nat.le_of_ble_eq_true rfl) dX12_feed_15 ?_
    obtain ⟨rfl, rfl⟩ := si2 hf
    exact V_iret hc hzz rfl rfl rfl rfl rfl dX12_feed_18
noncomputable def f12_end (M : MS) (p1 : Int32) : Option (Int32 × MS) :=
  if p1 < 0 then (
    bn2 (f12_isRefused M (0 : Int32)) fun v1 M2 =>
    (bz v1).bind fun v3 =>
    some (v3, M2)
  ) else (
    if p1 ≤ (gF M 1) then (
      some ((1 : Int32), (sF M 1 p1))
    ) else (
      bn2 (f12_isRefused M (0 : Int32)) fun v4 M5 =>
      (bz v4).bind fun v6 =>
      some (v6, M5)
    )
  )
theorem hd12_end : yX12_end.cls = "FarEditorsModel" ∧ yX12_end.cls ≠ "java/lang/invoke/MethodHandle" ∧ yX12_end.cls ≠ "java/lang/invoke/VarHandle" ∧ (parseMethodDescriptor yX12_end.desc).map (fun d => d.parameters.length) = some 1 := by decide +kernel
set_option maxHeartbeats 4000000 in
set_option maxRecDepth 100000 in
theorem c12_end (l : Launch) (D : va_G) (h : Nat) (q : Nat → Nat) (y : CyT) (zM uM z u : Nat) {M M' : MS} {p1 : Int32} {r : Int32} (hf : f12_end M p1 = some (r, M')) : CT l D y yX12_end cX12_end 2 (some .boolean) 1 21 zM uM [.ref h, .int p1] z u (mw h q y M) z u (mw h q y M') (some (.int r)) := by
  refine CT.of (by decide) (Nat.le_of_ble_eq_true rfl) (fun E hc hzz hnm => ?_)
  have hc : Cx E "FarEditorsModel" cX12_end 2 := hc
  have hz := hzz.1
  have hT := hz.2.2.1
  show V E z u (mw h q y M) 0 [(0, .ref h), (1, .int p1)] []
  unfold f12_end at hf
  refine V_iload_n hc dX12_end_0 rfl 1 rfl ?_
  refine V_if_lt hc dX12_end_1 rfl (fun hq1 => ?_) (fun hq1 => ?_)
  · rw [if_pos hq1] at hf
    refine V_aload_n hc dX12_end_12 rfl 0 rfl ?_
    refine V_iconst hc (v := (0 : Int32)) dX12_end_13 rfl ?_
    obtain ⟨v1, M2, hv1, hf⟩ := mb2 hf
    refine R_callVi hc hz (As := [.int (0 : Int32)]) (c12_isRefused l D h q y _ _ _ _ hv1) w7_25 w7_27 wp4_0 w1_13 w7_28 hd12_isRefused ⟨Nat.le_of_ble_eq_true rfl, Nat.le_of_ble_eq_true rfl⟩ rfl rfl (Nat.le_of_ble_eq_true rfl) dX12_end_14 ?_
    obtain ⟨v3, hv3, hf⟩ := mb hf
    obtain ⟨hbv3, rfl⟩ := bz_some hv3
    obtain ⟨rfl, rfl⟩ := si2 hf
    exact V_iret hc hzz (bz_nar hbv3) rfl rfl rfl rfl dX12_end_17
  · rw [if_neg hq1] at hf
    refine V_iload_n hc dX12_end_4 rfl 1 rfl ?_
    refine V_aload_n hc dX12_end_5 rfl 0 rfl ?_
    refine R_geti hc 1 rfl (by decide) w6_59 dX12_end_6 ?_
    refine V_icmp_le hc dX12_end_9 rfl (fun hq9 => ?_) (fun hq9 => ?_)
    · rw [if_pos hq9] at hf
      refine V_aload_n hc dX12_end_18 rfl 0 rfl ?_
      refine V_iload_n hc dX12_end_19 rfl 1 rfl ?_
      refine R_puti hc 1 rfl (by decide) w6_59 rfl rfl rfl dX12_end_20 ?_
      refine V_iconst hc (v := (1 : Int32)) dX12_end_23 rfl ?_
      obtain ⟨rfl, rfl⟩ := si2 hf
      exact V_iret hc hzz rfl rfl rfl rfl rfl dX12_end_24
    · rw [if_neg hq9] at hf
      refine V_aload_n hc dX12_end_12 rfl 0 rfl ?_
      refine V_iconst hc (v := (0 : Int32)) dX12_end_13 rfl ?_
      obtain ⟨v4, M5, hv4, hf⟩ := mb2 hf
      refine R_callVi hc hz (As := [.int (0 : Int32)]) (c12_isRefused l D h q y _ _ _ _ hv4) w7_25 w7_27 wp4_0 w1_13 w7_28 hd12_isRefused ⟨Nat.le_of_ble_eq_true rfl, Nat.le_of_ble_eq_true rfl⟩ rfl rfl (Nat.le_of_ble_eq_true rfl) dX12_end_14 ?_
      obtain ⟨v6, hv6, hf⟩ := mb hf
      obtain ⟨hbv6, rfl⟩ := bz_some hv6
      obtain ⟨rfl, rfl⟩ := si2 hf
      exact V_iret hc hzz (bz_nar hbv6) rfl rfl rfl rfl dX12_end_17
noncomputable def f12_status (M : MS) (p1 : Int32) : Option (Int32) :=
  (f12_isIn p1.toInt64 (0 : Int64) (6 : Int64)).bind fun v1 =>
  (
    if v1 = 0 then (
      some (-1 : Int32)
    ) else (
      (ld M 9 p1).bind fun v4 =>
      some v4
    )
  ).bind fun v2 =>
  some v2
theorem hd12_status : yX12_status.cls = "FarEditorsModel" ∧ yX12_status.cls ≠ "java/lang/invoke/MethodHandle" ∧ yX12_status.cls ≠ "java/lang/invoke/VarHandle" ∧ (parseMethodDescriptor yX12_status.desc).map (fun d => d.parameters.length) = some 1 := by decide +kernel
set_option maxHeartbeats 4000000 in
set_option maxRecDepth 100000 in
theorem c12_status (l : Launch) (D : va_G) (h : Nat) (q : Nat → Nat) (y : CyT) (zM uM z u : Nat) {M : MS} {p1 : Int32} {r : Int32} (hf : f12_status M p1 = some r) : CT l D y yX12_status cX12_status 2 (some .int) 1 25 zM uM [.ref h, .int p1] z u (mw h q y M) z u (mw h q y M) (some (.int r)) := by
  refine CT.of (by decide) (Nat.le_of_ble_eq_true rfl) (fun E hc hzz hnm => ?_)
  have hc : Cx E "FarEditorsModel" cX12_status 2 := hc
  have hz := hzz.1
  have hT := hz.2.2.1
  show V E z u (mw h q y M) 0 [(0, .ref h), (1, .int p1)] []
  unfold f12_status at hf
  refine V_iload_n hc dX12_status_0 rfl 1 rfl ?_
  refine V_i2l hc dX12_status_1 ?_
  refine V_lconst hc (v := (0 : Int64)) dX12_status_2 rfl ?_
  refine V_ldc2 hc w7_33 dX12_status_3 ?_
  obtain ⟨v1, hv1, hf⟩ := mb hf
  refine R_callSi hc hz (As := [.long p1.toInt64, .long (0 : Int64), .long (6 : Int64)]) (c12_isIn l D h q y _ _ _ _ hv1) w7_34 w7_35 w1_13 w7_36 hd12_isIn ⟨Nat.le_of_ble_eq_true rfl, Nat.le_of_ble_eq_true rfl⟩ rfl rfl (Nat.le_of_ble_eq_true rfl) dX12_status_6 ?_
  obtain ⟨v2, hv3, hf⟩ := mb hf
  have hJ9 : V E z u (mw h q y M) 22 [] [.int v2] := by
    obtain rfl := Option.some.inj hf
    exact V_iret hc hzz rfl rfl rfl rfl rfl dX12_status_22
  refine V_if_eq hc dX12_status_9 rfl (fun hq9 => ?_) (fun hq9 => ?_)
  · rw [if_pos hq9] at hv3
    refine V_iconst hc (v := (-1 : Int32)) dX12_status_21 rfl ?_
    obtain rfl := Option.some.inj hv3
    exact V_sub [] rfl hJ9
  · rw [if_neg hq9] at hv3
    refine V_aload_n hc dX12_status_12 rfl 0 rfl ?_
    refine R_getr hc 9 rfl (by decide) w6_67 dX12_status_13 ?_
    refine V_iload_n hc dX12_status_16 rfl 1 rfl ?_
    obtain ⟨v4, hv4, hv3⟩ := mb hv3
    refine R_iald hc hT rfl hv4 dX12_status_17 ?_
    refine V_goto hc dX12_status_18 rfl ?_
    obtain rfl := Option.some.inj hv3
    exact V_sub [] rfl hJ9
noncomputable def f12_fault (M : MS) (p1 : Int32) : Option (Int32) :=
  (
    if p1 = 0 then (
      some (gF M 7)
    ) else (
      if p1 = (1 : Int32) then (
        some (gF M 8)
      ) else (
        some (-1 : Int32)
      )
    )
  ).bind fun v1 =>
  some v1
theorem hd12_fault : yX12_fault.cls = "FarEditorsModel" ∧ yX12_fault.cls ≠ "java/lang/invoke/MethodHandle" ∧ yX12_fault.cls ≠ "java/lang/invoke/VarHandle" ∧ (parseMethodDescriptor yX12_fault.desc).map (fun d => d.parameters.length) = some 1 := by decide +kernel
set_option maxHeartbeats 4000000 in
set_option maxRecDepth 100000 in
theorem c12_fault (l : Launch) (D : va_G) (h : Nat) (q : Nat → Nat) (y : CyT) (zM uM z u : Nat) {M : MS} {p1 : Int32} {r : Int32} (hf : f12_fault M p1 = some r) : CT l D y yX12_fault cX12_fault 2 (some .int) 0 0 zM uM [.ref h, .int p1] z u (mw h q y M) z u (mw h q y M) (some (.int r)) := by
  refine CT.of (by decide) (Nat.le_of_ble_eq_true rfl) (fun E hc hzz hnm => ?_)
  have hc : Cx E "FarEditorsModel" cX12_fault 2 := hc
  have hz := hzz.1
  have hT := hz.2.2.1
  show V E z u (mw h q y M) 0 [(0, .ref h), (1, .int p1)] []
  unfold f12_fault at hf
  refine V_iload_n hc dX12_fault_0 rfl 1 rfl ?_
  obtain ⟨v1, hv2, hf⟩ := mb hf
  have hJ1 : V E z u (mw h q y M) 24 [] [.int v1] := by
    obtain rfl := Option.some.inj hf
    exact V_iret hc hzz rfl rfl rfl rfl rfl dX12_fault_24
  refine V_if_ne hc dX12_fault_1 rfl (fun hq1 => ?_) (fun hq1 => ?_)
  · rw [if_neg hq1] at hv2
    refine V_iload_n hc dX12_fault_11 rfl 1 rfl ?_
    refine V_iconst hc (v := (1 : Int32)) dX12_fault_12 rfl ?_
    refine V_icmp_ne hc dX12_fault_13 rfl (fun hq13 => ?_) (fun hq13 => ?_)
    · rw [if_neg hq13] at hv2
      refine V_iconst hc (v := (-1 : Int32)) dX12_fault_23 rfl ?_
      obtain rfl := Option.some.inj hv2
      exact V_sub [] rfl hJ1
    · rw [if_pos hq13] at hv2
      refine V_aload_n hc dX12_fault_16 rfl 0 rfl ?_
      refine R_geti hc 8 rfl (by decide) w6_66 dX12_fault_17 ?_
      refine V_goto hc dX12_fault_20 rfl ?_
      obtain rfl := Option.some.inj hv2
      exact V_sub [] rfl hJ1
  · rw [if_pos hq1] at hv2
    refine V_aload_n hc dX12_fault_4 rfl 0 rfl ?_
    refine R_geti hc 7 rfl (by decide) w6_65 dX12_fault_5 ?_
    refine V_goto hc dX12_fault_8 rfl ?_
    obtain rfl := Option.some.inj hv2
    exact V_sub [] rfl hJ1
noncomputable def f12_goesTo (M : MS) (p1 : Int32) : Option (MS) :=
  some (sF (sF M 2 p1) 4 (-1 : Int32))
theorem hd12_goesTo : yX12_goesTo.cls = "FarEditorsModel" ∧ yX12_goesTo.cls ≠ "java/lang/invoke/MethodHandle" ∧ yX12_goesTo.cls ≠ "java/lang/invoke/VarHandle" ∧ (parseMethodDescriptor yX12_goesTo.desc).map (fun d => d.parameters.length) = some 1 := by decide +kernel
set_option maxHeartbeats 4000000 in
set_option maxRecDepth 100000 in
theorem c12_goesTo (l : Launch) (D : va_G) (h : Nat) (q : Nat → Nat) (y : CyT) (zM uM z u : Nat) {M M' : MS} {p1 : Int32} (hf : f12_goesTo M p1 = some M') : CT l D y yX12_goesTo cX12_goesTo 2 none 0 0 zM uM [.ref h, .int p1] z u (mw h q y M) z u (mw h q y M') none := by
  refine CT.of (by decide) (Nat.le_of_ble_eq_true rfl) (fun E hc hzz hnm => ?_)
  have hc : Cx E "FarEditorsModel" cX12_goesTo 2 := hc
  have hz := hzz.1
  have hT := hz.2.2.1
  show V E z u (mw h q y M) 0 [(0, .ref h), (1, .int p1)] []
  unfold f12_goesTo at hf
  refine V_aload_n hc dX12_goesTo_0 rfl 0 rfl ?_
  refine V_iload_n hc dX12_goesTo_1 rfl 1 rfl ?_
  refine R_puti hc 2 rfl (by decide) w6_60 rfl rfl rfl dX12_goesTo_2 ?_
  refine V_aload_n hc dX12_goesTo_5 rfl 0 rfl ?_
  refine V_iconst hc (v := (-1 : Int32)) dX12_goesTo_6 rfl ?_
  refine R_puti hc 4 rfl (by decide) w6_62 rfl rfl rfl dX12_goesTo_7 ?_
  obtain rfl := Option.some.inj hf
  exact V_vret hc hzz rfl rfl rfl rfl dX12_goesTo_10
noncomputable def f12_begins (M : MS) : Option (MS) :=
  (f12_goesTo (sF (sF (sF (sF M 3 (gF M 1)) 1 (0 : Int32)) 5 (0 : Int32)) 6 (-1 : Int32)) (0 : Int32)).bind fun M1 =>
  some M1
theorem hd12_begins : yX12_begins.cls = "FarEditorsModel" ∧ yX12_begins.cls ≠ "java/lang/invoke/MethodHandle" ∧ yX12_begins.cls ≠ "java/lang/invoke/VarHandle" ∧ (parseMethodDescriptor yX12_begins.desc).map (fun d => d.parameters.length) = some 0 := by decide +kernel
set_option maxHeartbeats 4000000 in
set_option maxRecDepth 100000 in
theorem c12_begins (l : Launch) (D : va_G) (h : Nat) (q : Nat → Nat) (y : CyT) (zM uM z u : Nat) {M M' : MS} (hf : f12_begins M = some M') : CT l D y yX12_begins cX12_begins 1 none 1 21 zM uM [.ref h] z u (mw h q y M) z u (mw h q y M') none := by
  refine CT.of (by decide) (Nat.le_of_ble_eq_true rfl) (fun E hc hzz hnm => ?_)
  have hc : Cx E "FarEditorsModel" cX12_begins 1 := hc
  have hz := hzz.1
  have hT := hz.2.2.1
  show V E z u (mw h q y M) 0 [(0, .ref h)] []
  unfold f12_begins at hf
  refine V_aload_n hc dX12_begins_0 rfl 0 rfl ?_
  refine V_aload_n hc dX12_begins_1 rfl 0 rfl ?_
  refine R_geti hc 1 rfl (by decide) w6_59 dX12_begins_2 ?_
  refine R_puti hc 3 rfl (by decide) w6_61 rfl rfl rfl dX12_begins_5 ?_
  refine V_aload_n hc dX12_begins_8 rfl 0 rfl ?_
  refine V_iconst hc (v := (0 : Int32)) dX12_begins_9 rfl ?_
  refine R_puti hc 1 rfl (by decide) w6_59 rfl rfl rfl dX12_begins_10 ?_
  refine V_aload_n hc dX12_begins_13 rfl 0 rfl ?_
  refine V_iconst hc (v := (0 : Int32)) dX12_begins_14 rfl ?_
  refine R_puti hc 5 rfl (by decide) w6_63 rfl rfl rfl dX12_begins_15 ?_
  refine V_aload_n hc dX12_begins_18 rfl 0 rfl ?_
  refine V_iconst hc (v := (-1 : Int32)) dX12_begins_19 rfl ?_
  refine R_puti hc 6 rfl (by decide) w6_64 rfl rfl rfl dX12_begins_20 ?_
  refine V_aload_n hc dX12_begins_23 rfl 0 rfl ?_
  refine V_iconst hc (v := (0 : Int32)) dX12_begins_24 rfl ?_
  obtain ⟨M1, hM1, hf⟩ := mb hf
  refine R_callVv hc hz (As := [.int (0 : Int32)]) (c12_goesTo l D h q y _ _ _ _ hM1) w7_49 w7_51 wp4_2 w1_13 w7_52 hd12_goesTo ⟨Nat.le_of_ble_eq_true rfl, Nat.le_of_ble_eq_true rfl⟩ rfl rfl (Nat.le_of_ble_eq_true rfl) dX12_begins_25 ?_
  obtain rfl := Option.some.inj hf
  exact V_vret hc hzz rfl rfl rfl rfl dX12_begins_28
noncomputable def f12_fail (M : MS) (p1 : Int32) (p2 : Int32) : Option (MS) :=
  if (gF M 5) = 0 then (
    some (sF (sF M 5 p1) 6 p2)
  ) else (
    some M
  )
theorem hd12_fail : yX12_fail.cls = "FarEditorsModel" ∧ yX12_fail.cls ≠ "java/lang/invoke/MethodHandle" ∧ yX12_fail.cls ≠ "java/lang/invoke/VarHandle" ∧ (parseMethodDescriptor yX12_fail.desc).map (fun d => d.parameters.length) = some 2 := by decide +kernel
set_option maxHeartbeats 4000000 in
set_option maxRecDepth 100000 in
theorem c12_fail (l : Launch) (D : va_G) (h : Nat) (q : Nat → Nat) (y : CyT) (zM uM z u : Nat) {M M' : MS} {p1 : Int32} {p2 : Int32} (hf : f12_fail M p1 p2 = some M') : CT l D y yX12_fail cX12_fail 3 none 0 0 zM uM [.ref h, .int p1, .int p2] z u (mw h q y M) z u (mw h q y M') none := by
  refine CT.of (by decide) (Nat.le_of_ble_eq_true rfl) (fun E hc hzz hnm => ?_)
  have hc : Cx E "FarEditorsModel" cX12_fail 3 := hc
  have hz := hzz.1
  have hT := hz.2.2.1
  show V E z u (mw h q y M) 0 [(0, .ref h), (1, .int p1), (2, .int p2)] []
  unfold f12_fail at hf
  refine V_aload_n hc dX12_fail_0 rfl 0 rfl ?_
  refine R_geti hc 5 rfl (by decide) w6_63 dX12_fail_1 ?_
  refine V_if_eq hc dX12_fail_4 rfl (fun hq4 => ?_) (fun hq4 => ?_)
  · rw [if_pos hq4] at hf
    refine V_aload_n hc dX12_fail_8 rfl 0 rfl ?_
    refine V_iload_n hc dX12_fail_9 rfl 1 rfl ?_
    refine R_puti hc 5 rfl (by decide) w6_63 rfl rfl rfl dX12_fail_10 ?_
    refine V_aload_n hc dX12_fail_13 rfl 0 rfl ?_
    refine V_iload_n hc dX12_fail_14 rfl 2 rfl ?_
    refine R_puti hc 6 rfl (by decide) w6_64 rfl rfl rfl dX12_fail_15 ?_
    obtain rfl := Option.some.inj hf
    exact V_vret hc hzz rfl rfl rfl rfl dX12_fail_18
  · rw [if_neg hq4] at hf
    obtain rfl := Option.some.inj hf
    exact V_vret hc hzz rfl rfl rfl rfl dX12_fail_7
noncomputable def f12_isLetter (p1 : Int32) : Option (Int32) :=
  (
    if p1 < (97 : Int32) then (
      some (0 : Int32)
    ) else (
      if (122 : Int32) < p1 then (
        some (0 : Int32)
      ) else (
        some (1 : Int32)
      )
    )
  ).bind fun v1 =>
  (bz v1).bind fun v3 =>
  some v3
theorem hd12_isLetter : yX12_isLetter.cls = "FarEditorsModel" ∧ yX12_isLetter.cls ≠ "java/lang/invoke/MethodHandle" ∧ yX12_isLetter.cls ≠ "java/lang/invoke/VarHandle" ∧ (parseMethodDescriptor yX12_isLetter.desc).map (fun d => d.parameters.length) = some 1 := by decide +kernel
set_option maxHeartbeats 4000000 in
set_option maxRecDepth 100000 in
theorem c12_isLetter (l : Launch) (D : va_G) (h : Nat) (q : Nat → Nat) (y : CyT) (zM uM z u : Nat) {M : MS} {p1 : Int32} {r : Int32} (hf : f12_isLetter p1 = some r) : CT l D y yX12_isLetter cX12_isLetter 1 (some .boolean) 0 0 zM uM [.int p1] z u (mw h q y M) z u (mw h q y M) (some (.int r)) := by
  refine CT.of (by decide) (Nat.le_of_ble_eq_true rfl) (fun E hc hzz hnm => ?_)
  have hc : Cx E "FarEditorsModel" cX12_isLetter 1 := hc
  have hz := hzz.1
  have hT := hz.2.2.1
  show V E z u (mw h q y M) 0 [(0, .int p1)] []
  unfold f12_isLetter at hf
  refine V_iload_n hc dX12_isLetter_0 rfl 0 rfl ?_
  refine V_bipush hc (v := (97 : Int32)) dX12_isLetter_1 rfl ?_
  obtain ⟨v1, hv2, hf⟩ := mb hf
  have hJ3 : V E z u (mw h q y M) 17 [] [.int v1] := by
    obtain ⟨v3, hv3, hf⟩ := mb hf
    obtain ⟨hbv3, rfl⟩ := bz_some hv3
    obtain rfl := Option.some.inj hf
    exact V_iret hc hzz (bz_nar hbv3) rfl rfl rfl rfl dX12_isLetter_17
  refine V_icmp_lt hc dX12_isLetter_3 rfl (fun hq3 => ?_) (fun hq3 => ?_)
  · rw [if_pos hq3] at hv2
    refine V_iconst hc (v := (0 : Int32)) dX12_isLetter_16 rfl ?_
    obtain rfl := Option.some.inj hv2
    exact V_sub [] rfl hJ3
  · rw [if_neg hq3] at hv2
    refine V_iload_n hc dX12_isLetter_6 rfl 0 rfl ?_
    refine V_bipush hc (v := (122 : Int32)) dX12_isLetter_7 rfl ?_
    refine V_icmp_gt hc dX12_isLetter_9 rfl (fun hq9 => ?_) (fun hq9 => ?_)
    · rw [if_pos hq9] at hv2
      refine V_iconst hc (v := (0 : Int32)) dX12_isLetter_16 rfl ?_
      obtain rfl := Option.some.inj hv2
      exact V_sub [] rfl hJ3
    · rw [if_neg hq9] at hv2
      refine V_iconst hc (v := (1 : Int32)) dX12_isLetter_12 rfl ?_
      refine V_goto hc dX12_isLetter_13 rfl ?_
      obtain rfl := Option.some.inj hv2
      exact V_sub [] rfl hJ3
noncomputable def f12_isDigit (p1 : Int32) : Option (Int32) :=
  (
    if p1 < (48 : Int32) then (
      some (0 : Int32)
    ) else (
      if (57 : Int32) < p1 then (
        some (0 : Int32)
      ) else (
        some (1 : Int32)
      )
    )
  ).bind fun v1 =>
  (bz v1).bind fun v3 =>
  some v3
theorem hd12_isDigit : yX12_isDigit.cls = "FarEditorsModel" ∧ yX12_isDigit.cls ≠ "java/lang/invoke/MethodHandle" ∧ yX12_isDigit.cls ≠ "java/lang/invoke/VarHandle" ∧ (parseMethodDescriptor yX12_isDigit.desc).map (fun d => d.parameters.length) = some 1 := by decide +kernel
set_option maxHeartbeats 4000000 in
set_option maxRecDepth 100000 in
theorem c12_isDigit (l : Launch) (D : va_G) (h : Nat) (q : Nat → Nat) (y : CyT) (zM uM z u : Nat) {M : MS} {p1 : Int32} {r : Int32} (hf : f12_isDigit p1 = some r) : CT l D y yX12_isDigit cX12_isDigit 1 (some .boolean) 0 0 zM uM [.int p1] z u (mw h q y M) z u (mw h q y M) (some (.int r)) := by
  refine CT.of (by decide) (Nat.le_of_ble_eq_true rfl) (fun E hc hzz hnm => ?_)
  have hc : Cx E "FarEditorsModel" cX12_isDigit 1 := hc
  have hz := hzz.1
  have hT := hz.2.2.1
  show V E z u (mw h q y M) 0 [(0, .int p1)] []
  unfold f12_isDigit at hf
  refine V_iload_n hc dX12_isDigit_0 rfl 0 rfl ?_
  refine V_bipush hc (v := (48 : Int32)) dX12_isDigit_1 rfl ?_
  obtain ⟨v1, hv2, hf⟩ := mb hf
  have hJ3 : V E z u (mw h q y M) 17 [] [.int v1] := by
    obtain ⟨v3, hv3, hf⟩ := mb hf
    obtain ⟨hbv3, rfl⟩ := bz_some hv3
    obtain rfl := Option.some.inj hf
    exact V_iret hc hzz (bz_nar hbv3) rfl rfl rfl rfl dX12_isDigit_17
  refine V_icmp_lt hc dX12_isDigit_3 rfl (fun hq3 => ?_) (fun hq3 => ?_)
  · rw [if_pos hq3] at hv2
    refine V_iconst hc (v := (0 : Int32)) dX12_isDigit_16 rfl ?_
    obtain rfl := Option.some.inj hv2
    exact V_sub [] rfl hJ3
  · rw [if_neg hq3] at hv2
    refine V_iload_n hc dX12_isDigit_6 rfl 0 rfl ?_
    refine V_bipush hc (v := (57 : Int32)) dX12_isDigit_7 rfl ?_
    refine V_icmp_gt hc dX12_isDigit_9 rfl (fun hq9 => ?_) (fun hq9 => ?_)
    · rw [if_pos hq9] at hv2
      refine V_iconst hc (v := (0 : Int32)) dX12_isDigit_16 rfl ?_
      obtain rfl := Option.some.inj hv2
      exact V_sub [] rfl hJ3
    · rw [if_neg hq9] at hv2
      refine V_iconst hc (v := (1 : Int32)) dX12_isDigit_12 rfl ?_
      refine V_goto hc dX12_isDigit_13 rfl ?_
      obtain rfl := Option.some.inj hv2
      exact V_sub [] rfl hJ3
noncomputable def L12_look_0 : Nat → MS → Option (MS)
  | 0, _ => none
  | n + 1, M =>
    if (gF M 3) ≤ (gF M 2) then (
      some M
    ) else (
      (ld M 0 (gF M 2)).bind fun v1 =>
      if v1 = (10 : Int32) then (
        L12_look_0 n (sF M 2 ((gF M 2) + (1 : Int32)))
      ) else (
        (ld M 0 (gF M 2)).bind fun v2 =>
        if v2 = (32 : Int32) then (
          L12_look_0 n (sF M 2 ((gF M 2) + (1 : Int32)))
        ) else (
          some M
        )
      )
    )
noncomputable def f12_look (M : MS) : Option (Int32 × MS) :=
  (L12_look_0 FU M).bind fun M1 =>
  (
    if (gF M1 3) ≤ (gF M1 2) then (
      some (-1 : Int32)
    ) else (
      (ld M1 0 (gF M1 2)).bind fun v5 =>
      some v5
    )
  ).bind fun v3 =>
  some (v3, M1)
theorem hd12_look : yX12_look.cls = "FarEditorsModel" ∧ yX12_look.cls ≠ "java/lang/invoke/MethodHandle" ∧ yX12_look.cls ≠ "java/lang/invoke/VarHandle" ∧ (parseMethodDescriptor yX12_look.desc).map (fun d => d.parameters.length) = some 0 := by decide +kernel
set_option maxHeartbeats 4000000 in
set_option maxRecDepth 100000 in
theorem L12_look_0_ok {E : CxT} {l : Launch} {D : va_G} {h : Nat} {q : Nat → Nat} {y : CyT} {zM uM z u : Nat} (hc : Cx E "FarEditorsModel" cX12_look 1) (hz : Cy E l D y 0 0 zM uM) : ∀ (n : Nat) (M : MS) {Mo : MS}, L12_look_0 n M = some Mo → (hx0 : V E z u (mw h q y Mo) 52 [(0, .ref h)] []) → V E z u (mw h q y M) 0 [(0, .ref h)] [] := by
  have hT := hz.2.2.1
  intro n
  induction n with
  | zero => intro M Mo hf; cases hf
  | succ n ih =>
    intro M Mo hf hx0
    unfold L12_look_0 at hf
    refine V_aload_n hc dX12_look_0 rfl 0 rfl ?_
    refine R_geti hc 2 rfl (by decide) w6_60 dX12_look_1 ?_
    refine V_aload_n hc dX12_look_4 rfl 0 rfl ?_
    refine R_geti hc 3 rfl (by decide) w6_61 dX12_look_5 ?_
    refine V_icmp_ge hc dX12_look_8 rfl (fun hq8 => ?_) (fun hq8 => ?_)
    · rw [if_pos hq8] at hf
      obtain rfl := Option.some.inj hf
      exact V_sub [0] rfl hx0
    · rw [if_neg hq8] at hf
      refine V_aload_n hc dX12_look_11 rfl 0 rfl ?_
      refine R_getr hc 0 rfl (by decide) w6_58 dX12_look_12 ?_
      refine V_aload_n hc dX12_look_15 rfl 0 rfl ?_
      refine R_geti hc 2 rfl (by decide) w6_60 dX12_look_16 ?_
      obtain ⟨v1, hv1, hf⟩ := mb hf
      refine R_iald hc hT rfl hv1 dX12_look_19 ?_
      refine V_bipush hc (v := (10 : Int32)) dX12_look_20 rfl ?_
      refine V_icmp_eq hc dX12_look_22 rfl (fun hq22 => ?_) (fun hq22 => ?_)
      · rw [if_pos hq22] at hf
        refine V_aload_n hc dX12_look_39 rfl 0 rfl ?_
        refine V_dup hc dX12_look_40 rfl ?_
        refine R_geti hc 2 rfl (by decide) w6_60 dX12_look_41 ?_
        refine V_iconst hc (v := (1 : Int32)) dX12_look_44 rfl ?_
        refine V_iadd hc dX12_look_45 ?_
        refine R_puti hc 2 rfl (by decide) w6_60 rfl rfl rfl dX12_look_46 ?_
        refine V_goto hc dX12_look_49 rfl ?_
        exact V_sub [0] rfl (ih _ hf hx0)
      · rw [if_neg hq22] at hf
        refine V_aload_n hc dX12_look_25 rfl 0 rfl ?_
        refine R_getr hc 0 rfl (by decide) w6_58 dX12_look_26 ?_
        refine V_aload_n hc dX12_look_29 rfl 0 rfl ?_
        refine R_geti hc 2 rfl (by decide) w6_60 dX12_look_30 ?_
        obtain ⟨v2, hv2, hf⟩ := mb hf
        refine R_iald hc hT rfl hv2 dX12_look_33 ?_
        refine V_bipush hc (v := (32 : Int32)) dX12_look_34 rfl ?_
        refine V_icmp_ne hc dX12_look_36 rfl (fun hq36 => ?_) (fun hq36 => ?_)
        · rw [if_neg hq36] at hf
          obtain rfl := Option.some.inj hf
          exact V_sub [0] rfl hx0
        · rw [if_pos hq36] at hf
          refine V_aload_n hc dX12_look_39 rfl 0 rfl ?_
          refine V_dup hc dX12_look_40 rfl ?_
          refine R_geti hc 2 rfl (by decide) w6_60 dX12_look_41 ?_
          refine V_iconst hc (v := (1 : Int32)) dX12_look_44 rfl ?_
          refine V_iadd hc dX12_look_45 ?_
          refine R_puti hc 2 rfl (by decide) w6_60 rfl rfl rfl dX12_look_46 ?_
          refine V_goto hc dX12_look_49 rfl ?_
          exact V_sub [0] rfl (ih _ hf hx0)
set_option maxHeartbeats 4000000 in
set_option maxRecDepth 100000 in
theorem c12_look (l : Launch) (D : va_G) (h : Nat) (q : Nat → Nat) (y : CyT) (zM uM z u : Nat) {M M' : MS} {r : Int32} (hf : f12_look M = some (r, M')) : CT l D y yX12_look cX12_look 1 (some .int) 0 0 zM uM [.ref h] z u (mw h q y M) z u (mw h q y M') (some (.int r)) := by
  refine CT.of (by decide) (Nat.le_of_ble_eq_true rfl) (fun E hc hzz hnm => ?_)
  have hc : Cx E "FarEditorsModel" cX12_look 1 := hc
  have hz := hzz.1
  have hT := hz.2.2.1
  show V E z u (mw h q y M) 0 [(0, .ref h)] []
  unfold f12_look at hf
  obtain ⟨M1, hv2, hf⟩ := mb hf
  refine V_sub [0] rfl (L12_look_0_ok hc hz FU _ hv2 ?_)
  refine V_aload_n hc dX12_look_52 rfl 0 rfl ?_
  refine R_geti hc 2 rfl (by decide) w6_60 dX12_look_53 ?_
  refine V_aload_n hc dX12_look_56 rfl 0 rfl ?_
  refine R_geti hc 3 rfl (by decide) w6_61 dX12_look_57 ?_
  obtain ⟨v3, hv4, hf⟩ := mb hf
  have hJ60 : V E z u (mw h q y M1) 76 [] [.int v3] := by
    obtain ⟨rfl, rfl⟩ := si2 hf
    exact V_iret hc hzz rfl rfl rfl rfl rfl dX12_look_76
  refine V_icmp_ge hc dX12_look_60 rfl (fun hq60 => ?_) (fun hq60 => ?_)
  · rw [if_pos hq60] at hv4
    refine V_iconst hc (v := (-1 : Int32)) dX12_look_75 rfl ?_
    obtain rfl := Option.some.inj hv4
    exact V_sub [] rfl hJ60
  · rw [if_neg hq60] at hv4
    refine V_aload_n hc dX12_look_63 rfl 0 rfl ?_
    refine R_getr hc 0 rfl (by decide) w6_58 dX12_look_64 ?_
    refine V_aload_n hc dX12_look_67 rfl 0 rfl ?_
    refine R_geti hc 2 rfl (by decide) w6_60 dX12_look_68 ?_
    obtain ⟨v5, hv5, hv4⟩ := mb hv4
    refine R_iald hc hT rfl hv5 dX12_look_71 ?_
    refine V_goto hc dX12_look_72 rfl ?_
    obtain rfl := Option.some.inj hv4
    exact V_sub [] rfl hJ60
noncomputable def L12_isHere_35 (a1 : Nat) (M : MS) : Nat → Int32 → Option (Int32)
  | 0, _ => none
  | n + 1, i2 =>
    if (gF M 3) ≤ i2 then (
      some i2
    ) else (
      (ld M 0 i2).bind fun v1 =>
      (f12_isLetter v1).bind fun v2 =>
      if v2 = 0 then (
        some i2
      ) else (
        L12_isHere_35 a1 M n (i2 + (1 : Int32))
      )
    )
noncomputable def L12_isHere_76 (a1 : Nat) (M : MS) : Nat → Int32 → Option (Nat)
  | 0, _ => none
  | n + 1, i3 =>
    if (Int32.ofNat (mLn a1)) ≤ i3 then (
      some 1
    ) else (
      (ld M 0 ((gF M 2) + i3)).bind fun v1 =>
      (ld M a1 i3).bind fun v2 =>
      if v1 = v2 then (
        L12_isHere_76 a1 M n (i3 + (1 : Int32))
      ) else (
        some 0
      )
    )
noncomputable def f12_isHere (M : MS) (a1 : Nat) : Option (Int32 × MS) :=
  if (gF M 5) = 0 then (
    bn2 (f12_look M) fun v1 M2 =>
    (f12_isLetter v1).bind fun v3 =>
    if v3 = 0 then (
      some ((0 : Int32), M2)
    ) else (
      if (gF M2 2) = (gF M2 4) then (
        some ((0 : Int32), M2)
      ) else (
        (L12_isHere_35 a1 M2 FU (gF M2 2)).bind fun x4 =>
        if (x4 - (gF M2 2)) = (Int32.ofNat (mLn a1)) then (
          (L12_isHere_76 a1 M2 FU (0 : Int32)).bind fun t6 =>
          if t6 = 0 then (
            some ((0 : Int32), M2)
          ) else (
            some ((1 : Int32), M2)
          )
        ) else (
          some ((0 : Int32), M2)
        )
      )
    )
  ) else (
    some ((0 : Int32), M)
  )
theorem hd12_isHere : yX12_isHere.cls = "FarEditorsModel" ∧ yX12_isHere.cls ≠ "java/lang/invoke/MethodHandle" ∧ yX12_isHere.cls ≠ "java/lang/invoke/VarHandle" ∧ (parseMethodDescriptor yX12_isHere.desc).map (fun d => d.parameters.length) = some 1 := by decide +kernel
set_option maxHeartbeats 4000000 in
set_option maxRecDepth 100000 in
theorem L12_isHere_35_ok {E : CxT} {l : Launch} {D : va_G} {h : Nat} {q : Nat → Nat} {y : CyT} {zM uM z u : Nat} (hc : Cx E "FarEditorsModel" cX12_isHere 4) (hz : Cy E l D y 1 20 zM uM) (a1 : Nat) (M : MS) (ha1 : mKi a1 = 0) : ∀ (n : Nat) (i2 : Int32) {o2 : Int32}, L12_isHere_35 a1 M n i2 = some o2 → (hx0 : V E z u (mw h q y M) 61 [(0, .ref h), (1, .ref (q a1)), (2, .int o2)] []) → V E z u (mw h q y M) 35 [(0, .ref h), (1, .ref (q a1)), (2, .int i2)] [] := by
  have hT := hz.2.2.1
  intro n
  induction n with
  | zero => intro i2 o2 hf; cases hf
  | succ n ih =>
    intro i2 o2 hf hx0
    unfold L12_isHere_35 at hf
    refine V_iload_n hc dX12_isHere_35 rfl 2 rfl ?_
    refine V_aload_n hc dX12_isHere_36 rfl 0 rfl ?_
    refine R_geti hc 3 rfl (by decide) w6_61 dX12_isHere_37 ?_
    refine V_icmp_ge hc dX12_isHere_40 rfl (fun hq40 => ?_) (fun hq40 => ?_)
    · rw [if_pos hq40] at hf
      obtain rfl := Option.some.inj hf
      exact V_sub [0, 1, 2] rfl hx0
    · rw [if_neg hq40] at hf
      refine V_aload_n hc dX12_isHere_43 rfl 0 rfl ?_
      refine R_getr hc 0 rfl (by decide) w6_58 dX12_isHere_44 ?_
      refine V_iload_n hc dX12_isHere_47 rfl 2 rfl ?_
      obtain ⟨v1, hv1, hf⟩ := mb hf
      refine R_iald hc hT rfl hv1 dX12_isHere_48 ?_
      obtain ⟨v2, hv2, hf⟩ := mb hf
      refine R_callSi hc hz (As := [.int v1]) (c12_isLetter l D h q y _ _ _ _ hv2) w7_73 w7_74 w1_13 w7_75 hd12_isLetter ⟨Nat.le_of_ble_eq_true rfl, Nat.le_of_ble_eq_true rfl⟩ rfl rfl (Nat.le_of_ble_eq_true rfl) dX12_isHere_49 ?_
      refine V_if_eq hc dX12_isHere_52 rfl (fun hq52 => ?_) (fun hq52 => ?_)
      · rw [if_pos hq52] at hf
        obtain rfl := Option.some.inj hf
        exact V_sub [0, 1, 2] rfl hx0
      · rw [if_neg hq52] at hf
        refine V_iinc hc (j := 2) (v := (i2 + (1 : Int32))) dX12_isHere_55 rfl rfl (by decide) rfl ?_
        refine V_goto hc dX12_isHere_58 rfl ?_
        exact V_sub [1, 2, 0] rfl (ih _ hf hx0)
set_option maxHeartbeats 4000000 in
set_option maxRecDepth 100000 in
theorem L12_isHere_76_ok {E : CxT} {l : Launch} {D : va_G} {h : Nat} {q : Nat → Nat} {y : CyT} {zM uM z u : Nat} (hc : Cx E "FarEditorsModel" cX12_isHere 4) (hz : Cy E l D y 1 20 zM uM) (a1 : Nat) (M : MS) (ha1 : mKi a1 = 0) : ∀ (n : Nat) (i3 : Int32) {t : Nat}, L12_isHere_76 a1 M n i3 = some t → (hx0 : t = 0 → V E z u (mw h q y M) 99 [] []) → (hx1 : t = 1 → V E z u (mw h q y M) 107 [] []) → V E z u (mw h q y M) 76 [(0, .ref h), (1, .ref (q a1)), (3, .int i3)] [] := by
  have hT := hz.2.2.1
  intro n
  induction n with
  | zero => intro i3 t hf; cases hf
  | succ n ih =>
    intro i3 t hf hx0 hx1
    unfold L12_isHere_76 at hf
    refine V_iload_n hc dX12_isHere_76 rfl 2 rfl ?_
    refine V_aload_n hc dX12_isHere_77 rfl 1 rfl ?_
    refine R_alen hc hT ha1 (by decide) rfl (v := (Int32.ofNat (mLn a1))) rfl dX12_isHere_78 ?_
    refine V_icmp_ge hc dX12_isHere_79 rfl (fun hq79 => ?_) (fun hq79 => ?_)
    · rw [if_pos hq79] at hf
      obtain rfl := Option.some.inj hf
      exact V_sub [] rfl (hx1 rfl)
    · rw [if_neg hq79] at hf
      refine V_aload_n hc dX12_isHere_82 rfl 0 rfl ?_
      refine R_getr hc 0 rfl (by decide) w6_58 dX12_isHere_83 ?_
      refine V_aload_n hc dX12_isHere_86 rfl 0 rfl ?_
      refine R_geti hc 2 rfl (by decide) w6_60 dX12_isHere_87 ?_
      refine V_iload_n hc dX12_isHere_90 rfl 2 rfl ?_
      refine V_iadd hc dX12_isHere_91 ?_
      obtain ⟨v1, hv1, hf⟩ := mb hf
      refine R_iald hc hT rfl hv1 dX12_isHere_92 ?_
      refine V_aload_n hc dX12_isHere_93 rfl 1 rfl ?_
      refine V_iload_n hc dX12_isHere_94 rfl 2 rfl ?_
      obtain ⟨v2, hv2, hf⟩ := mb hf
      refine R_cald hc hT ha1 hv2 dX12_isHere_95 ?_
      refine V_icmp_eq hc dX12_isHere_96 rfl (fun hq96 => ?_) (fun hq96 => ?_)
      · rw [if_pos hq96] at hf
        refine V_iinc hc (j := 2) (v := (i3 + (1 : Int32))) dX12_isHere_101 rfl rfl (by decide) rfl ?_
        refine V_goto hc dX12_isHere_104 rfl ?_
        exact V_sub [1, 2, 0] rfl (ih _ hf hx0 hx1)
      · rw [if_neg hq96] at hf
        obtain rfl := Option.some.inj hf
        exact V_sub [] rfl (hx0 rfl)
set_option maxHeartbeats 4000000 in
set_option maxRecDepth 100000 in
theorem c12_isHere (l : Launch) (D : va_G) (h : Nat) (q : Nat → Nat) (y : CyT) (zM uM z u : Nat) {M M' : MS} {a1 : Nat} {r : Int32} (ha1 : mKi a1 = 0) (hf : f12_isHere M a1 = some (r, M')) : CT l D y yX12_isHere cX12_isHere 4 (some .boolean) 1 20 zM uM [.ref h, .ref (q a1)] z u (mw h q y M) z u (mw h q y M') (some (.int r)) := by
  refine CT.of (by decide) (Nat.le_of_ble_eq_true rfl) (fun E hc hzz hnm => ?_)
  have hc : Cx E "FarEditorsModel" cX12_isHere 4 := hc
  have hz := hzz.1
  have hT := hz.2.2.1
  show V E z u (mw h q y M) 0 [(0, .ref h), (1, .ref (q a1))] []
  unfold f12_isHere at hf
  refine V_aload_n hc dX12_isHere_0 rfl 0 rfl ?_
  refine R_geti hc 5 rfl (by decide) w6_63 dX12_isHere_1 ?_
  refine V_if_ne hc dX12_isHere_4 rfl (fun hq4 => ?_) (fun hq4 => ?_)
  · rw [if_neg hq4] at hf
    refine V_iconst hc (v := (0 : Int32)) dX12_isHere_28 rfl ?_
    obtain ⟨rfl, rfl⟩ := si2 hf
    exact V_iret hc hzz rfl rfl rfl rfl rfl dX12_isHere_29
  · rw [if_pos hq4] at hf
    refine V_aload_n hc dX12_isHere_7 rfl 0 rfl ?_
    obtain ⟨v1, M2, hv1, hf⟩ := mb2 hf
    refine R_callVi hc hz (As := []) (c12_look l D h q y _ _ _ _ hv1) w7_69 w7_71 wp4_7 w1_13 w7_72 hd12_look ⟨Nat.le_of_ble_eq_true rfl, Nat.le_of_ble_eq_true rfl⟩ rfl rfl (Nat.le_of_ble_eq_true rfl) dX12_isHere_8 ?_
    obtain ⟨v3, hv3, hf⟩ := mb hf
    refine R_callSi hc hz (As := [.int v1]) (c12_isLetter l D h q y _ _ _ _ hv3) w7_73 w7_74 w1_13 w7_75 hd12_isLetter ⟨Nat.le_of_ble_eq_true rfl, Nat.le_of_ble_eq_true rfl⟩ rfl rfl (Nat.le_of_ble_eq_true rfl) dX12_isHere_11 ?_
    refine V_if_eq hc dX12_isHere_14 rfl (fun hq14 => ?_) (fun hq14 => ?_)
    · rw [if_pos hq14] at hf
      refine V_iconst hc (v := (0 : Int32)) dX12_isHere_28 rfl ?_
      obtain ⟨rfl, rfl⟩ := si2 hf
      exact V_iret hc hzz rfl rfl rfl rfl rfl dX12_isHere_29
    · rw [if_neg hq14] at hf
      refine V_aload_n hc dX12_isHere_17 rfl 0 rfl ?_
      refine R_geti hc 2 rfl (by decide) w6_60 dX12_isHere_18 ?_
      refine V_aload_n hc dX12_isHere_21 rfl 0 rfl ?_
      refine R_geti hc 4 rfl (by decide) w6_62 dX12_isHere_22 ?_
      refine V_icmp_ne hc dX12_isHere_25 rfl (fun hq25 => ?_) (fun hq25 => ?_)
      · rw [if_neg hq25] at hf
        refine V_aload_n hc dX12_isHere_30 rfl 0 rfl ?_
        refine R_geti hc 2 rfl (by decide) w6_60 dX12_isHere_31 ?_
        refine V_istore_n hc dX12_isHere_34 rfl (by decide) rfl ?_
        obtain ⟨x4, hv5, hf⟩ := mb hf
        refine V_sub [1, 2, 0] rfl (L12_isHere_35_ok hc hz a1 M2 ha1 FU _ hv5 ?_)
        refine V_iload_n hc dX12_isHere_61 rfl 2 rfl ?_
        refine V_aload_n hc dX12_isHere_62 rfl 0 rfl ?_
        refine R_geti hc 2 rfl (by decide) w6_60 dX12_isHere_63 ?_
        refine V_isub hc dX12_isHere_66 ?_
        refine V_aload_n hc dX12_isHere_67 rfl 1 rfl ?_
        refine R_alen hc hT ha1 (by decide) rfl (v := (Int32.ofNat (mLn a1))) rfl dX12_isHere_68 ?_
        refine V_icmp_eq hc dX12_isHere_69 rfl (fun hq69 => ?_) (fun hq69 => ?_)
        · rw [if_pos hq69] at hf
          refine V_iconst hc (v := (0 : Int32)) dX12_isHere_74 rfl ?_
          refine V_istore_n hc dX12_isHere_75 rfl (by decide) rfl ?_
          obtain ⟨t6, hv7, hf⟩ := mb hf
          refine V_sub [1, 2, 0] rfl (L12_isHere_76_ok hc hz a1 M2 ha1 FU _ hv7 (fun ht76_0 => ?_) (fun ht76_1 => ?_))
          · rw [if_pos ht76_0] at hf
            refine V_iconst hc (v := (0 : Int32)) dX12_isHere_99 rfl ?_
            obtain ⟨rfl, rfl⟩ := si2 hf
            exact V_iret hc hzz rfl rfl rfl rfl rfl dX12_isHere_100
          · rw [if_neg (by rw [ht76_1]; decide)] at hf
            refine V_iconst hc (v := (1 : Int32)) dX12_isHere_107 rfl ?_
            obtain ⟨rfl, rfl⟩ := si2 hf
            exact V_iret hc hzz rfl rfl rfl rfl rfl dX12_isHere_108
        · rw [if_neg hq69] at hf
          refine V_iconst hc (v := (0 : Int32)) dX12_isHere_72 rfl ?_
          obtain ⟨rfl, rfl⟩ := si2 hf
          exact V_iret hc hzz rfl rfl rfl rfl rfl dX12_isHere_73
      · rw [if_pos hq25] at hf
        refine V_iconst hc (v := (0 : Int32)) dX12_isHere_28 rfl ?_
        obtain ⟨rfl, rfl⟩ := si2 hf
        exact V_iret hc hzz rfl rfl rfl rfl rfl dX12_isHere_29
noncomputable def f12_takes (M : MS) (a1 : Nat) : Option (Int32 × MS) :=
  bn2 (f12_isHere M a1) fun v1 M2 =>
  if v1 = 0 then (
    some ((0 : Int32), M2)
  ) else (
    some ((1 : Int32), (sF (sF M2 2 ((gF M2 2) + (Int32.ofNat (mLn a1)))) 4 (gF (sF M2 2 ((gF M2 2) + (Int32.ofNat (mLn a1)))) 2)))
  )
theorem hd12_takes : yX12_takes.cls = "FarEditorsModel" ∧ yX12_takes.cls ≠ "java/lang/invoke/MethodHandle" ∧ yX12_takes.cls ≠ "java/lang/invoke/VarHandle" ∧ (parseMethodDescriptor yX12_takes.desc).map (fun d => d.parameters.length) = some 1 := by decide +kernel
set_option maxHeartbeats 4000000 in
set_option maxRecDepth 100000 in
theorem c12_takes (l : Launch) (D : va_G) (h : Nat) (q : Nat → Nat) (y : CyT) (zM uM z u : Nat) {M M' : MS} {a1 : Nat} {r : Int32} (ha1 : mKi a1 = 0) (hf : f12_takes M a1 = some (r, M')) : CT l D y yX12_takes cX12_takes 2 (some .boolean) 2 43 zM uM [.ref h, .ref (q a1)] z u (mw h q y M) z u (mw h q y M') (some (.int r)) := by
  refine CT.of (by decide) (Nat.le_of_ble_eq_true rfl) (fun E hc hzz hnm => ?_)
  have hc : Cx E "FarEditorsModel" cX12_takes 2 := hc
  have hz := hzz.1
  have hT := hz.2.2.1
  show V E z u (mw h q y M) 0 [(0, .ref h), (1, .ref (q a1))] []
  unfold f12_takes at hf
  refine V_aload_n hc dX12_takes_0 rfl 0 rfl ?_
  refine V_aload_n hc dX12_takes_1 rfl 1 rfl ?_
  obtain ⟨v1, M2, hv1, hf⟩ := mb2 hf
  refine R_callVi hc hz (As := [.ref (q a1)]) (c12_isHere l D h q y _ _ _ _ ha1 hv1) w7_65 w7_67 wp4_6 w1_13 w7_68 hd12_isHere ⟨Nat.le_of_ble_eq_true rfl, Nat.le_of_ble_eq_true rfl⟩ rfl rfl (Nat.le_of_ble_eq_true rfl) dX12_takes_2 ?_
  refine V_if_ne hc dX12_takes_5 rfl (fun hq5 => ?_) (fun hq5 => ?_)
  · rw [if_neg hq5] at hf
    refine V_aload_n hc dX12_takes_10 rfl 0 rfl ?_
    refine V_dup hc dX12_takes_11 rfl ?_
    refine R_geti hc 2 rfl (by decide) w6_60 dX12_takes_12 ?_
    refine V_aload_n hc dX12_takes_15 rfl 1 rfl ?_
    refine R_alen hc hT ha1 (by decide) rfl (v := (Int32.ofNat (mLn a1))) rfl dX12_takes_16 ?_
    refine V_iadd hc dX12_takes_17 ?_
    refine R_puti hc 2 rfl (by decide) w6_60 rfl rfl rfl dX12_takes_18 ?_
    refine V_aload_n hc dX12_takes_21 rfl 0 rfl ?_
    refine V_aload_n hc dX12_takes_22 rfl 0 rfl ?_
    refine R_geti hc 2 rfl (by decide) w6_60 dX12_takes_23 ?_
    refine R_puti hc 4 rfl (by decide) w6_62 rfl rfl rfl dX12_takes_26 ?_
    refine V_iconst hc (v := (1 : Int32)) dX12_takes_29 rfl ?_
    obtain ⟨rfl, rfl⟩ := si2 hf
    exact V_iret hc hzz rfl rfl rfl rfl rfl dX12_takes_30
  · rw [if_pos hq5] at hf
    refine V_iconst hc (v := (0 : Int32)) dX12_takes_8 rfl ?_
    obtain ⟨rfl, rfl⟩ := si2 hf
    exact V_iret hc hzz rfl rfl rfl rfl rfl dX12_takes_9
