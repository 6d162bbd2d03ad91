noncomputable def f12_by (M : MS) (p1 : Int32) (p2 : Int32) : Option (Int32 × MS) :=
  if (gF M 31) = 0 then (
    some ((-1 : Int32), M)
  ) else (
    (f12_isIn p2.toInt64 (0 : Int64) (1 : Int64)).bind fun v1 =>
    if v1 = 0 then (
      some ((-1 : Int32), M)
    ) else (
      (ld M 30 (1 : Int32)).bind fun v2 =>
      bn2 (f12_serverText M v2) fun v3 M4 =>
      (f12_isIn p1.toInt64 (0 : Int64) (v3 - (1 : Int32)).toInt64).bind fun v5 =>
      if v5 = 0 then (
        some ((-1 : Int32), M4)
      ) else (
        (
          if p2 = 0 then (
            (ld M4 48 p1).bind fun v11 =>
            some v11
          ) else (
            (ld M4 48 p1).bind fun v8 =>
            if v8 = 0 then (
              some (-1 : Int32)
            ) else (
              (ld M4 48 p1).bind fun v9 =>
              (ld M4 36 (v9 - (1 : Int32))).bind fun v10 =>
              some v10
            )
          )
        ).bind fun v6 =>
        some (v6, M4)
      )
    )
  )
theorem hd12_by : yX12_by.cls = "FarEditorsModel" ∧ yX12_by.cls ≠ "java/lang/invoke/MethodHandle" ∧ yX12_by.cls ≠ "java/lang/invoke/VarHandle" ∧ (parseMethodDescriptor yX12_by.desc).map (fun d => d.parameters.length) = some 2 := by decide +kernel
set_option maxHeartbeats 4000000 in
set_option maxRecDepth 100000 in
theorem c12_by (l : Launch) (D : va_G) (h : Nat) (q : Nat → Nat) (y : CyT) (zM uM z u : Nat) {M M' : MS} {p1 : Int32} {p2 : Int32} {r : Int32} (hf : f12_by M p1 p2 = some (r, M')) : CT l D y yX12_by cX12_by 3 (some .int) 3 72 zM uM [.ref h, .int p1, .int p2] z u (mw h q y M) z u (mw h q y M') (some (.int r)) := by
  refine CT.of (by decide) (Nat.le_of_ble_eq_true rfl) (fun E hc hzz hnm => ?_)
  have hc : Cx E "FarEditorsModel" cX12_by 3 := hc
  have hz := hzz.1
  have hT := hz.2.2.1
  show V E z u (mw h q y M) 0 [(0, .ref h), (1, .int p1), (2, .int p2)] []
  unfold f12_by at hf
  refine V_aload_n hc dX12_by_0 rfl 0 rfl ?_
  refine R_geti hc 31 rfl (by decide) w6_89 dX12_by_1 ?_
  refine V_if_eq hc dX12_by_4 rfl (fun hq4 => ?_) (fun hq4 => ?_)
  · rw [if_pos hq4] at hf
    refine V_iconst hc (v := (-1 : Int32)) dX12_by_39 rfl ?_
    obtain ⟨rfl, rfl⟩ := si2 hf
    exact V_iret hc hzz rfl rfl rfl rfl rfl dX12_by_40
  · rw [if_neg hq4] at hf
    refine V_iload_n hc dX12_by_7 rfl 2 rfl ?_
    refine V_i2l hc dX12_by_8 ?_
    refine V_lconst hc (v := (0 : Int64)) dX12_by_9 rfl ?_
    refine V_lconst hc (v := (1 : Int64)) dX12_by_10 rfl ?_
    obtain ⟨v1, hv1, hf⟩ := mb hf
    refine R_callSi hc hz (As := [.long p2.toInt64, .long (0 : Int64), .long (1 : Int64)]) (c12_isIn l D h q y _ _ _ _ hv1) w7_34 w7_35 w1_13 w7_36 hd12_isIn ⟨Nat.le_of_ble_eq_true rfl, Nat.le_of_ble_eq_true rfl⟩ rfl rfl (Nat.le_of_ble_eq_true rfl) dX12_by_11 ?_
    refine V_if_eq hc dX12_by_14 rfl (fun hq14 => ?_) (fun hq14 => ?_)
    · rw [if_pos hq14] at hf
      refine V_iconst hc (v := (-1 : Int32)) dX12_by_39 rfl ?_
      obtain ⟨rfl, rfl⟩ := si2 hf
      exact V_iret hc hzz rfl rfl rfl rfl rfl dX12_by_40
    · rw [if_neg hq14] at hf
      refine V_iload_n hc dX12_by_17 rfl 1 rfl ?_
      refine V_i2l hc dX12_by_18 ?_
      refine V_lconst hc (v := (0 : Int64)) dX12_by_19 rfl ?_
      refine V_aload_n hc dX12_by_20 rfl 0 rfl ?_
      refine V_aload_n hc dX12_by_21 rfl 0 rfl ?_
      refine R_getr hc 30 rfl (by decide) w6_88 dX12_by_22 ?_
      refine V_iconst hc (v := (1 : Int32)) dX12_by_25 rfl ?_
      obtain ⟨v2, hv2, hf⟩ := mb hf
      refine R_iald hc hT rfl hv2 dX12_by_26 ?_
      obtain ⟨v3, M4, hv3, hf⟩ := mb2 hf
      refine R_callVi hc hz (As := [.int v2]) (c12_serverText l D h q y _ _ _ _ hv3) w8_64 w8_66 wp7_10 w1_13 w8_67 hd12_serverText ⟨Nat.le_of_ble_eq_true rfl, Nat.le_of_ble_eq_true rfl⟩ rfl rfl (Nat.le_of_ble_eq_true rfl) dX12_by_27 ?_
      refine V_iconst hc (v := (1 : Int32)) dX12_by_30 rfl ?_
      refine V_isub hc dX12_by_31 ?_
      refine V_i2l hc dX12_by_32 ?_
      obtain ⟨v5, hv5, hf⟩ := mb hf
      refine R_callSi hc hz (As := [.long p1.toInt64, .long (0 : Int64), .long (v3 - (1 : Int32)).toInt64]) (c12_isIn l D h q y _ _ _ _ hv5) w7_34 w7_35 w1_13 w7_36 hd12_isIn ⟨Nat.le_of_ble_eq_true rfl, Nat.le_of_ble_eq_true rfl⟩ rfl rfl (Nat.le_of_ble_eq_true rfl) dX12_by_33 ?_
      refine V_if_ne hc dX12_by_36 rfl (fun hq36 => ?_) (fun hq36 => ?_)
      · rw [if_neg hq36] at hf
        refine V_iload_n hc dX12_by_41 rfl 2 rfl ?_
        obtain ⟨v6, hv7, hf⟩ := mb hf
        have hJ42 : V E z u (mw h q y M4) 80 [] [.int v6] := by
          obtain ⟨rfl, rfl⟩ := si2 hf
          exact V_iret hc hzz rfl rfl rfl rfl rfl dX12_by_80
        refine V_if_ne hc dX12_by_42 rfl (fun hq42 => ?_) (fun hq42 => ?_)
        · rw [if_neg hq42] at hv7
          refine V_aload_n hc dX12_by_54 rfl 0 rfl ?_
          refine R_getr hc 48 rfl (by decide) w6_106 dX12_by_55 ?_
          refine V_iload_n hc dX12_by_58 rfl 1 rfl ?_
          obtain ⟨v8, hv8, hv7⟩ := mb hv7
          refine R_iald hc hT rfl hv8 dX12_by_59 ?_
          refine V_if_ne hc dX12_by_60 rfl (fun hq60 => ?_) (fun hq60 => ?_)
          · rw [if_neg hq60] at hv7
            refine V_aload_n hc dX12_by_67 rfl 0 rfl ?_
            refine R_getr hc 36 rfl (by decide) w6_94 dX12_by_68 ?_
            refine V_aload_n hc dX12_by_71 rfl 0 rfl ?_
            refine R_getr hc 48 rfl (by decide) w6_106 dX12_by_72 ?_
            refine V_iload_n hc dX12_by_75 rfl 1 rfl ?_
            obtain ⟨v9, hv9, hv7⟩ := mb hv7
            refine R_iald hc hT rfl hv9 dX12_by_76 ?_
            refine V_iconst hc (v := (1 : Int32)) dX12_by_77 rfl ?_
            refine V_isub hc dX12_by_78 ?_
            obtain ⟨v10, hv10, hv7⟩ := mb hv7
            refine R_iald hc hT rfl hv10 dX12_by_79 ?_
            obtain rfl := Option.some.inj hv7
            exact V_sub [] rfl hJ42
          · rw [if_pos hq60] at hv7
            refine V_iconst hc (v := (-1 : Int32)) dX12_by_63 rfl ?_
            refine V_goto hc dX12_by_64 rfl ?_
            obtain rfl := Option.some.inj hv7
            exact V_sub [] rfl hJ42
        · rw [if_pos hq42] at hv7
          refine V_aload_n hc dX12_by_45 rfl 0 rfl ?_
          refine R_getr hc 48 rfl (by decide) w6_106 dX12_by_46 ?_
          refine V_iload_n hc dX12_by_49 rfl 1 rfl ?_
          obtain ⟨v11, hv11, hv7⟩ := mb hv7
          refine R_iald hc hT rfl hv11 dX12_by_50 ?_
          refine V_goto hc dX12_by_51 rfl ?_
          obtain rfl := Option.some.inj hv7
          exact V_sub [] rfl hJ42
      · rw [if_pos hq36] at hf
        refine V_iconst hc (v := (-1 : Int32)) dX12_by_39 rfl ?_
        obtain ⟨rfl, rfl⟩ := si2 hf
        exact V_iret hc hzz rfl rfl rfl rfl rfl dX12_by_40
noncomputable def L12_othersCut_44 (c1 : Int32) (c3 : Int32) (M : MS) : Nat → Int32 → Int32 → Int32 → Option (Int32)
  | 0, _, _, _ => none
  | n + 1, i2, i4, i5 =>
    if (gF M 26) ≤ i5 then (
      some i2
    ) else (
      (ld M 21 i5).bind fun v1 =>
      (
        if v1 = (-1 : Int32) then (
          (ld M 48 i4).bind fun v4 =>
          if v4 = 0 then (
            some (i2 + (1 : Int32))
          ) else (
            (ld M 48 i4).bind fun v5 =>
            (ld M 36 (v5 - (1 : Int32))).bind fun v6 =>
            if v6 = c1 then (
              some i2
            ) else (
              some (i2 + (1 : Int32))
            )
          )
        ) else (
          some i2
        )
      ).bind fun x2 =>
      (ld M 21 i5).bind fun v7 =>
      (
        if 0 < v7 then (
          some i4
        ) else (
          some (i4 + (1 : Int32))
        )
      ).bind fun x8 =>
      L12_othersCut_44 c1 c3 M n x2 x8 (i5 + (1 : Int32))
    )
noncomputable def L12_othersCut_4 (c1 : Int32) : Nat → Int32 → Int32 → MS → Option (Int32 × MS)
  | 0, _, _, _ => none
  | n + 1, i2, i3, M =>
    (ld M 30 (1 : Int32)).bind fun v1 =>
    if v1 ≤ i3 then (
      some (i2, M)
    ) else (
      (ld M 36 i3).bind fun v2 =>
      bn2 (
        if v2 = c1 then (
          bn2 (f12_serverText M i3) fun v6 M7 =>
          (f12_opToB M7 i3).bind fun M8 =>
          (L12_othersCut_44 c1 i3 M8 FU i2 (0 : Int32) (0 : Int32)).bind fun x9 =>
          some (x9, M8)
        ) else (
          some (i2, M)
        )
      ) fun x3 M4 =>
      L12_othersCut_4 c1 n x3 (i3 + (1 : Int32)) M4
    )
noncomputable def f12_othersCut (M : MS) (p1 : Int32) : Option (Int32 × MS) :=
  bn2 (L12_othersCut_4 p1 FU (0 : Int32) (0 : Int32) M) fun x1 M2 =>
  some (x1, M2)
theorem hd12_othersCut : yX12_othersCut.cls = "FarEditorsModel" ∧ yX12_othersCut.cls ≠ "java/lang/invoke/MethodHandle" ∧ yX12_othersCut.cls ≠ "java/lang/invoke/VarHandle" ∧ (parseMethodDescriptor yX12_othersCut.desc).map (fun d => d.parameters.length) = some 1 := by decide +kernel
set_option maxHeartbeats 4000000 in
set_option maxRecDepth 100000 in
theorem L12_othersCut_44_ok {E : CxT} {l : Launch} {D : va_G} {h : Nat} {q : Nat → Nat} {y : CyT} {zM uM z u : Nat} (hc : Cx E "FarEditorsModel" cX12_othersCut 6) (hz : Cy E l D y 3 72 zM uM) (c1 : Int32) (c3 : Int32) (M : MS) : ∀ (n : Nat) (i2 : Int32) (i4 : Int32) (i5 : Int32) {o2 : Int32}, L12_othersCut_44 c1 c3 M n i2 i4 i5 = some o2 → (hx0 : V E z u (mw h q y M) 114 [(0, .ref h), (1, .int c1), (2, .int o2), (3, .int c3)] []) → V E z u (mw h q y M) 44 [(0, .ref h), (1, .int c1), (2, .int i2), (3, .int c3), (4, .int i4), (5, .int i5)] [] := by
  have hT := hz.2.2.1
  intro n
  induction n with
  | zero => intro i2 i4 i5 o2 hf; cases hf
  | succ n ih =>
    intro i2 i4 i5 o2 hf hx0
    unfold L12_othersCut_44 at hf
    refine V_iload hc dX12_othersCut_44 5 rfl ?_
    refine V_aload_n hc dX12_othersCut_46 rfl 0 rfl ?_
    refine R_geti hc 26 rfl (by decide) w6_84 dX12_othersCut_47 ?_
    refine V_icmp_ge hc dX12_othersCut_50 rfl (fun hq50 => ?_) (fun hq50 => ?_)
    · rw [if_pos hq50] at hf
      obtain rfl := Option.some.inj hf
      exact V_sub [0, 1, 2, 3] rfl hx0
    · rw [if_neg hq50] at hf
      refine V_aload_n hc dX12_othersCut_53 rfl 0 rfl ?_
      refine R_getr hc 21 rfl (by decide) w6_79 dX12_othersCut_54 ?_
      refine V_iload hc dX12_othersCut_57 5 rfl ?_
      obtain ⟨v1, hv1, hf⟩ := mb hf
      refine R_iald hc hT rfl hv1 dX12_othersCut_59 ?_
      refine V_iconst hc (v := (-1 : Int32)) dX12_othersCut_60 rfl ?_
      obtain ⟨x2, hv3, hf⟩ := mb hf
      have hJ61 : V E z u (mw h q y M) 95 [(0, .ref h), (1, .int c1), (2, .int x2), (3, .int c3), (4, .int i4), (5, .int i5)] [] := by
        refine V_aload_n hc dX12_othersCut_95 rfl 0 rfl ?_
        refine R_getr hc 21 rfl (by decide) w6_79 dX12_othersCut_96 ?_
        refine V_iload hc dX12_othersCut_99 5 rfl ?_
        obtain ⟨v7, hv7, hf⟩ := mb hf
        refine R_iald hc hT rfl hv7 dX12_othersCut_101 ?_
        obtain ⟨x8, hv9, hf⟩ := mb hf
        have hJ102 : V E z u (mw h q y M) 108 [(0, .ref h), (1, .int c1), (2, .int x2), (3, .int c3), (4, .int x8), (5, .int i5)] [] := by
          refine V_iinc hc (j := 5) (v := (i5 + (1 : Int32))) dX12_othersCut_108 rfl rfl (by decide) rfl ?_
          refine V_goto hc dX12_othersCut_111 rfl ?_
          exact V_sub [1, 2, 3, 4, 5, 0] rfl (ih _ _ _ hf hx0)
        refine V_if_gt hc dX12_othersCut_102 rfl (fun hq102 => ?_) (fun hq102 => ?_)
        · rw [if_pos hq102] at hv9
          obtain rfl := Option.some.inj hv9
          exact V_sub [0, 1, 2, 3, 4, 5] rfl hJ102
        · rw [if_neg hq102] at hv9
          refine V_iinc hc (j := 4) (v := (i4 + (1 : Int32))) dX12_othersCut_105 rfl rfl (by decide) rfl ?_
          obtain rfl := Option.some.inj hv9
          exact V_sub [1, 2, 3, 4, 0, 5] rfl hJ102
      refine V_icmp_ne hc dX12_othersCut_61 rfl (fun hq61 => ?_) (fun hq61 => ?_)
      · rw [if_neg hq61] at hv3
        obtain rfl := Option.some.inj hv3
        exact V_sub [0, 1, 2, 3, 4, 5] rfl hJ61
      · rw [if_pos hq61] at hv3
        refine V_aload_n hc dX12_othersCut_64 rfl 0 rfl ?_
        refine R_getr hc 48 rfl (by decide) w6_106 dX12_othersCut_65 ?_
        refine V_iload hc dX12_othersCut_68 4 rfl ?_
        obtain ⟨v4, hv4, hv3⟩ := mb hv3
        refine R_iald hc hT rfl hv4 dX12_othersCut_70 ?_
        refine V_if_eq hc dX12_othersCut_71 rfl (fun hq71 => ?_) (fun hq71 => ?_)
        · rw [if_pos hq71] at hv3
          refine V_iinc hc (j := 2) (v := (i2 + (1 : Int32))) dX12_othersCut_92 rfl rfl (by decide) rfl ?_
          obtain rfl := Option.some.inj hv3
          exact V_sub [1, 2, 0, 3, 4, 5] rfl hJ61
        · rw [if_neg hq71] at hv3
          refine V_aload_n hc dX12_othersCut_74 rfl 0 rfl ?_
          refine R_getr hc 36 rfl (by decide) w6_94 dX12_othersCut_75 ?_
          refine V_aload_n hc dX12_othersCut_78 rfl 0 rfl ?_
          refine R_getr hc 48 rfl (by decide) w6_106 dX12_othersCut_79 ?_
          refine V_iload hc dX12_othersCut_82 4 rfl ?_
          obtain ⟨v5, hv5, hv3⟩ := mb hv3
          refine R_iald hc hT rfl hv5 dX12_othersCut_84 ?_
          refine V_iconst hc (v := (1 : Int32)) dX12_othersCut_85 rfl ?_
          refine V_isub hc dX12_othersCut_86 ?_
          obtain ⟨v6, hv6, hv3⟩ := mb hv3
          refine R_iald hc hT rfl hv6 dX12_othersCut_87 ?_
          refine V_iload_n hc dX12_othersCut_88 rfl 1 rfl ?_
          refine V_icmp_eq hc dX12_othersCut_89 rfl (fun hq89 => ?_) (fun hq89 => ?_)
          · rw [if_pos hq89] at hv3
            obtain rfl := Option.some.inj hv3
            exact V_sub [0, 1, 2, 3, 4, 5] rfl hJ61
          · rw [if_neg hq89] at hv3
            refine V_iinc hc (j := 2) (v := (i2 + (1 : Int32))) dX12_othersCut_92 rfl rfl (by decide) rfl ?_
            obtain rfl := Option.some.inj hv3
            exact V_sub [1, 2, 0, 3, 4, 5] rfl hJ61
set_option maxHeartbeats 4000000 in
set_option maxRecDepth 100000 in
theorem L12_othersCut_4_ok {E : CxT} {l : Launch} {D : va_G} {h : Nat} {q : Nat → Nat} {y : CyT} {zM uM z u : Nat} (hc : Cx E "FarEditorsModel" cX12_othersCut 6) (hz : Cy E l D y 3 72 zM uM) (c1 : Int32) : ∀ (n : Nat) (i2 : Int32) (i3 : Int32) (M : MS) {o2 : Int32} {Mo : MS}, L12_othersCut_4 c1 n i2 i3 M = some (o2, Mo) → (hx0 : V E z u (mw h q y Mo) 120 [(2, .int o2)] []) → V E z u (mw h q y M) 4 [(0, .ref h), (1, .int c1), (2, .int i2), (3, .int i3)] [] := by
  have hT := hz.2.2.1
  intro n
  induction n with
  | zero => intro i2 i3 M o2 Mo hf; cases hf
  | succ n ih =>
    intro i2 i3 M o2 Mo hf hx0
    unfold L12_othersCut_4 at hf
    refine V_iload_n hc dX12_othersCut_4 rfl 3 rfl ?_
    refine V_aload_n hc dX12_othersCut_5 rfl 0 rfl ?_
    refine R_getr hc 30 rfl (by decide) w6_88 dX12_othersCut_6 ?_
    refine V_iconst hc (v := (1 : Int32)) dX12_othersCut_9 rfl ?_
    obtain ⟨v1, hv1, hf⟩ := mb hf
    refine R_iald hc hT rfl hv1 dX12_othersCut_10 ?_
    refine V_icmp_ge hc dX12_othersCut_11 rfl (fun hq11 => ?_) (fun hq11 => ?_)
    · rw [if_pos hq11] at hf
      obtain ⟨rfl, rfl⟩ := si2 hf
      exact V_sub [2] rfl hx0
    · rw [if_neg hq11] at hf
      refine V_aload_n hc dX12_othersCut_14 rfl 0 rfl ?_
      refine R_getr hc 36 rfl (by decide) w6_94 dX12_othersCut_15 ?_
      refine V_iload_n hc dX12_othersCut_18 rfl 3 rfl ?_
      obtain ⟨v2, hv2, hf⟩ := mb hf
      refine R_iald hc hT rfl hv2 dX12_othersCut_19 ?_
      refine V_iload_n hc dX12_othersCut_20 rfl 1 rfl ?_
      obtain ⟨x3, M4, hv5, hf⟩ := mb2 hf
      have hJ21 : V E z u (mw h q y M4) 114 [(0, .ref h), (1, .int c1), (2, .int x3), (3, .int i3)] [] := by
        refine V_iinc hc (j := 3) (v := (i3 + (1 : Int32))) dX12_othersCut_114 rfl rfl (by decide) rfl ?_
        refine V_goto hc dX12_othersCut_117 rfl ?_
        exact V_sub [1, 2, 3, 0] rfl (ih _ _ _ hf hx0)
      refine V_icmp_eq hc dX12_othersCut_21 rfl (fun hq21 => ?_) (fun hq21 => ?_)
      · rw [if_pos hq21] at hv5
        refine V_aload_n hc dX12_othersCut_27 rfl 0 rfl ?_
        refine V_iload_n hc dX12_othersCut_28 rfl 3 rfl ?_
        obtain ⟨v6, M7, hv6, hv5⟩ := mb2 hv5
        refine R_callVi hc hz (As := [.int i3]) (c12_serverText l D h q y _ _ _ _ hv6) w8_64 w8_66 wp7_10 w1_13 w8_67 hd12_serverText ⟨Nat.le_of_ble_eq_true rfl, Nat.le_of_ble_eq_true rfl⟩ rfl rfl (Nat.le_of_ble_eq_true rfl) dX12_othersCut_29 ?_
        refine V_pop hc dX12_othersCut_32 rfl ?_
        refine V_aload_n hc dX12_othersCut_33 rfl 0 rfl ?_
        refine V_iload_n hc dX12_othersCut_34 rfl 3 rfl ?_
        obtain ⟨M8, hM8, hv5⟩ := mb hv5
        refine R_callVv hc hz (As := [.int i3]) (c12_opToB l D h q y _ _ _ _ hM8) w8_24 w8_26 wp7_1 w1_13 w8_27 hd12_opToB ⟨Nat.le_of_ble_eq_true rfl, Nat.le_of_ble_eq_true rfl⟩ rfl rfl (Nat.le_of_ble_eq_true rfl) dX12_othersCut_35 ?_
        refine V_iconst hc (v := (0 : Int32)) dX12_othersCut_38 rfl ?_
        refine V_istore hc dX12_othersCut_39 (by decide) rfl ?_
        refine V_iconst hc (v := (0 : Int32)) dX12_othersCut_41 rfl ?_
        refine V_istore hc dX12_othersCut_42 (by decide) rfl ?_
        obtain ⟨x9, hv10, hv5⟩ := mb hv5
        refine V_sub [2, 3, 4, 5, 1, 0] rfl (L12_othersCut_44_ok hc hz c1 i3 M8 FU _ _ _ hv10 ?_)
        obtain ⟨rfl, rfl⟩ := si2 hv5
        exact V_sub [0, 1, 2, 3] rfl hJ21
      · rw [if_neg hq21] at hv5
        refine V_goto hc dX12_othersCut_24 rfl ?_
        obtain ⟨rfl, rfl⟩ := si2 hv5
        exact V_sub [0, 1, 2, 3] rfl hJ21
set_option maxHeartbeats 4000000 in
set_option maxRecDepth 100000 in
theorem c12_othersCut (l : Launch) (D : va_G) (h : Nat) (q : Nat → Nat) (y : CyT) (zM uM z u : Nat) {M M' : MS} {p1 : Int32} {r : Int32} (hf : f12_othersCut M p1 = some (r, M')) : CT l D y yX12_othersCut cX12_othersCut 6 (some .int) 3 72 zM uM [.ref h, .int p1] z u (mw h q y M) z u (mw h q y M') (some (.int r)) := by
  refine CT.of (by decide) (Nat.le_of_ble_eq_true rfl) (fun E hc hzz hnm => ?_)
  have hc : Cx E "FarEditorsModel" cX12_othersCut 6 := hc
  have hz := hzz.1
  have hT := hz.2.2.1
  show V E z u (mw h q y M) 0 [(0, .ref h), (1, .int p1)] []
  unfold f12_othersCut at hf
  refine V_iconst hc (v := (0 : Int32)) dX12_othersCut_0 rfl ?_
  refine V_istore_n hc dX12_othersCut_1 rfl (by decide) rfl ?_
  refine V_iconst hc (v := (0 : Int32)) dX12_othersCut_2 rfl ?_
  refine V_istore_n hc dX12_othersCut_3 rfl (by decide) rfl ?_
  obtain ⟨x1, M2, hv3, hf⟩ := mb2 hf
  refine V_sub [2, 3, 1, 0] rfl (L12_othersCut_4_ok hc hz p1 FU _ _ _ hv3 ?_)
  refine V_iload_n hc dX12_othersCut_120 rfl 0 rfl ?_
  obtain ⟨rfl, rfl⟩ := si2 hf
  exact V_iret hc hzz rfl rfl rfl rfl rfl dX12_othersCut_121
noncomputable def L12_share_47 (c1 : Int32) (M : MS) : Nat → Int32 → Int32 → Option (Int32)
  | 0, _, _ => none
  | n + 1, i3, i4 =>
    if (gF M 49) ≤ i4 then (
      some i3
    ) else (
      (ld M 48 i4).bind fun v1 =>
      (
        if v1 ≤ 0 then (
          some i3
        ) else (
          (ld M 48 i4).bind fun v4 =>
          (ld M 36 (v4 - (1 : Int32))).bind fun v5 =>
          if v5 = c1 then (
            some (i3 + (1 : Int32))
          ) else (
            some i3
          )
        )
      ).bind fun x2 =>
      L12_share_47 c1 M n x2 (i4 + (1 : Int32))
    )
noncomputable def f12_share (M : MS) (p1 : Int32) (p2 : Int32) : Option (Int32 × MS) :=
  (f12_isEditor M p1).bind fun v1 =>
  if v1 = 0 then (
    some ((-1 : Int32), M)
  ) else (
    (f12_isIn p2.toInt64 (0 : Int64) (1 : Int64)).bind fun v2 =>
    if v2 = 0 then (
      some ((-1 : Int32), M)
    ) else (
      if p2 = (1 : Int32) then (
        bn2 (f12_othersCut M p1) fun v8 M9 =>
        some (v8, M9)
      ) else (
        (ld M 30 (1 : Int32)).bind fun v3 =>
        bn2 (f12_serverText M v3) fun v4 M5 =>
        (L12_share_47 p1 M5 FU (0 : Int32) (0 : Int32)).bind fun x6 =>
        some (x6, M5)
      )
    )
  )
theorem hd12_share : yX12_share.cls = "FarEditorsModel" ∧ yX12_share.cls ≠ "java/lang/invoke/MethodHandle" ∧ yX12_share.cls ≠ "java/lang/invoke/VarHandle" ∧ (parseMethodDescriptor yX12_share.desc).map (fun d => d.parameters.length) = some 2 := by decide +kernel
set_option maxHeartbeats 4000000 in
set_option maxRecDepth 100000 in
theorem L12_share_47_ok {E : CxT} {l : Launch} {D : va_G} {h : Nat} {q : Nat → Nat} {y : CyT} {zM uM z u : Nat} (hc : Cx E "FarEditorsModel" cX12_share 5) (hz : Cy E l D y 4 97 zM uM) (c1 : Int32) (M : MS) : ∀ (n : Nat) (i3 : Int32) (i4 : Int32) {o3 : Int32}, L12_share_47 c1 M n i3 i4 = some o3 → (hx0 : V E z u (mw h q y M) 93 [(3, .int o3)] []) → V E z u (mw h q y M) 47 [(0, .ref h), (1, .int c1), (3, .int i3), (4, .int i4)] [] := by
  have hT := hz.2.2.1
  intro n
  induction n with
  | zero => intro i3 i4 o3 hf; cases hf
  | succ n ih =>
    intro i3 i4 o3 hf hx0
    unfold L12_share_47 at hf
    refine V_iload hc dX12_share_47 3 rfl ?_
    refine V_aload_n hc dX12_share_49 rfl 0 rfl ?_
    refine R_geti hc 49 rfl (by decide) w6_107 dX12_share_50 ?_
    refine V_icmp_ge hc dX12_share_53 rfl (fun hq53 => ?_) (fun hq53 => ?_)
    · rw [if_pos hq53] at hf
      obtain rfl := Option.some.inj hf
      exact V_sub [2] rfl hx0
    · rw [if_neg hq53] at hf
      refine V_aload_n hc dX12_share_56 rfl 0 rfl ?_
      refine R_getr hc 48 rfl (by decide) w6_106 dX12_share_57 ?_
      refine V_iload hc dX12_share_60 3 rfl ?_
      obtain ⟨v1, hv1, hf⟩ := mb hf
      refine R_iald hc hT rfl hv1 dX12_share_62 ?_
      obtain ⟨x2, hv3, hf⟩ := mb hf
      have hJ63 : V E z u (mw h q y M) 87 [(0, .ref h), (1, .int c1), (3, .int x2), (4, .int i4)] [] := by
        refine V_iinc hc (j := 3) (v := (i4 + (1 : Int32))) dX12_share_87 rfl rfl (by decide) rfl ?_
        refine V_goto hc dX12_share_90 rfl ?_
        exact V_sub [1, 2, 3, 0] rfl (ih _ _ hf hx0)
      refine V_if_le hc dX12_share_63 rfl (fun hq63 => ?_) (fun hq63 => ?_)
      · rw [if_pos hq63] at hv3
        obtain rfl := Option.some.inj hv3
        exact V_sub [0, 1, 2, 3] rfl hJ63
      · rw [if_neg hq63] at hv3
        refine V_aload_n hc dX12_share_66 rfl 0 rfl ?_
        refine R_getr hc 36 rfl (by decide) w6_94 dX12_share_67 ?_
        refine V_aload_n hc dX12_share_70 rfl 0 rfl ?_
        refine R_getr hc 48 rfl (by decide) w6_106 dX12_share_71 ?_
        refine V_iload hc dX12_share_74 3 rfl ?_
        obtain ⟨v4, hv4, hv3⟩ := mb hv3
        refine R_iald hc hT rfl hv4 dX12_share_76 ?_
        refine V_iconst hc (v := (1 : Int32)) dX12_share_77 rfl ?_
        refine V_isub hc dX12_share_78 ?_
        obtain ⟨v5, hv5, hv3⟩ := mb hv3
        refine R_iald hc hT rfl hv5 dX12_share_79 ?_
        refine V_iload_n hc dX12_share_80 rfl 1 rfl ?_
        refine V_icmp_ne hc dX12_share_81 rfl (fun hq81 => ?_) (fun hq81 => ?_)
        · rw [if_neg hq81] at hv3
          obtain rfl := Option.some.inj hv3
          exact V_sub [0, 1, 2, 3] rfl hJ63
        · rw [if_pos hq81] at hv3
          refine V_iinc hc (j := 2) (v := (i3 + (1 : Int32))) dX12_share_84 rfl rfl (by decide) rfl ?_
          obtain rfl := Option.some.inj hv3
          exact V_sub [1, 2, 0, 3] rfl hJ63
set_option maxHeartbeats 4000000 in
set_option maxRecDepth 100000 in
theorem c12_share (l : Launch) (D : va_G) (h : Nat) (q : Nat → Nat) (y : CyT) (zM uM z u : Nat) {M M' : MS} {p1 : Int32} {p2 : Int32} {r : Int32} (hf : f12_share M p1 p2 = some (r, M')) : CT l D y yX12_share cX12_share 5 (some .int) 4 97 zM uM [.ref h, .int p1, .int p2] z u (mw h q y M) z u (mw h q y M') (some (.int r)) := by
  refine CT.of (by decide) (Nat.le_of_ble_eq_true rfl) (fun E hc hzz hnm => ?_)
  have hc : Cx E "FarEditorsModel" cX12_share 5 := hc
  have hz := hzz.1
  have hT := hz.2.2.1
  show V E z u (mw h q y M) 0 [(0, .ref h), (1, .int p1), (2, .int p2)] []
  unfold f12_share at hf
  refine V_aload_n hc dX12_share_0 rfl 0 rfl ?_
  refine V_iload_n hc dX12_share_1 rfl 1 rfl ?_
  obtain ⟨v1, hv1, hf⟩ := mb hf
  refine R_callVi hc hz (As := [.int p1]) (c12_isEditor l D h q y _ _ _ _ hv1) w8_80 w8_82 wp7_13 w1_13 w8_83 hd12_isEditor ⟨Nat.le_of_ble_eq_true rfl, Nat.le_of_ble_eq_true rfl⟩ rfl rfl (Nat.le_of_ble_eq_true rfl) dX12_share_2 ?_
  refine V_if_eq hc dX12_share_5 rfl (fun hq5 => ?_) (fun hq5 => ?_)
  · rw [if_pos hq5] at hf
    refine V_iconst hc (v := (-1 : Int32)) dX12_share_18 rfl ?_
    obtain ⟨rfl, rfl⟩ := si2 hf
    exact V_iret hc hzz rfl rfl rfl rfl rfl dX12_share_19
  · rw [if_neg hq5] at hf
    refine V_iload_n hc dX12_share_8 rfl 2 rfl ?_
    refine V_i2l hc dX12_share_9 ?_
    refine V_lconst hc (v := (0 : Int64)) dX12_share_10 rfl ?_
    refine V_lconst hc (v := (1 : Int64)) dX12_share_11 rfl ?_
    obtain ⟨v2, hv2, hf⟩ := mb hf
    refine R_callSi hc hz (As := [.long p2.toInt64, .long (0 : Int64), .long (1 : Int64)]) (c12_isIn l D h q y _ _ _ _ hv2) w7_34 w7_35 w1_13 w7_36 hd12_isIn ⟨Nat.le_of_ble_eq_true rfl, Nat.le_of_ble_eq_true rfl⟩ rfl rfl (Nat.le_of_ble_eq_true rfl) dX12_share_12 ?_
    refine V_if_ne hc dX12_share_15 rfl (fun hq15 => ?_) (fun hq15 => ?_)
    · rw [if_neg hq15] at hf
      refine V_iload_n hc dX12_share_20 rfl 2 rfl ?_
      refine V_iconst hc (v := (1 : Int32)) dX12_share_21 rfl ?_
      refine V_icmp_ne hc dX12_share_22 rfl (fun hq22 => ?_) (fun hq22 => ?_)
      · rw [if_neg hq22] at hf
        refine V_iconst hc (v := (0 : Int32)) dX12_share_31 rfl ?_
        refine V_istore_n hc dX12_share_32 rfl (by decide) rfl ?_
        refine V_aload_n hc dX12_share_33 rfl 1 rfl ?_
        refine V_aload_n hc dX12_share_34 rfl 1 rfl ?_
        refine R_getr hc 30 rfl (by decide) w6_88 dX12_share_35 ?_
        refine V_iconst hc (v := (1 : Int32)) dX12_share_38 rfl ?_
        obtain ⟨v3, hv3, hf⟩ := mb hf
        refine R_iald hc hT rfl hv3 dX12_share_39 ?_
        obtain ⟨v4, M5, hv4, hf⟩ := mb2 hf
        refine R_callVi hc hz (As := [.int v3]) (c12_serverText l D h q y _ _ _ _ hv4) w8_64 w8_66 wp7_10 w1_13 w8_67 hd12_serverText ⟨Nat.le_of_ble_eq_true rfl, Nat.le_of_ble_eq_true rfl⟩ rfl rfl (Nat.le_of_ble_eq_true rfl) dX12_share_40 ?_
        refine V_pop hc dX12_share_43 rfl ?_
        refine V_iconst hc (v := (0 : Int32)) dX12_share_44 rfl ?_
        refine V_istore hc dX12_share_45 (by decide) rfl ?_
        obtain ⟨x6, hv7, hf⟩ := mb hf
        refine V_sub [2, 3, 1, 0] rfl (L12_share_47_ok hc hz p1 M5 FU _ _ hv7 ?_)
        refine V_iload_n hc dX12_share_93 rfl 0 rfl ?_
        obtain ⟨rfl, rfl⟩ := si2 hf
        exact V_iret hc hzz rfl rfl rfl rfl rfl dX12_share_94
      · rw [if_pos hq22] at hf
        refine V_aload_n hc dX12_share_25 rfl 0 rfl ?_
        refine V_iload_n hc dX12_share_26 rfl 1 rfl ?_
        obtain ⟨v8, M9, hv8, hf⟩ := mb2 hf
        refine R_callVi hc hz (As := [.int p1]) (c12_othersCut l D h q y _ _ _ _ hv8) w8_137 w8_139 wp8_3 w1_13 w8_140 hd12_othersCut ⟨Nat.le_of_ble_eq_true rfl, Nat.le_of_ble_eq_true rfl⟩ rfl rfl (Nat.le_of_ble_eq_true rfl) dX12_share_27 ?_
        obtain ⟨rfl, rfl⟩ := si2 hf
        exact V_iret hc hzz rfl rfl rfl rfl rfl dX12_share_30
    · rw [if_pos hq15] at hf
      refine V_iconst hc (v := (-1 : Int32)) dX12_share_18 rfl ?_
      obtain ⟨rfl, rfl⟩ := si2 hf
      exact V_iret hc hzz rfl rfl rfl rfl rfl dX12_share_19
noncomputable def L12_together_43 (c2 : Int32) (c3 : Int32) (c4 : Int32) : Nat → Int32 → MS → Option (MS)
  | 0, _, _ => none
  | n + 1, i5, M =>
    if c2 ≤ i5 then (
      some M
    ) else (
      (f12_opToB M i5).bind fun M1 =>
      (f12_joins M1).bind fun M2 =>
      (f12_takesCAsA M2).bind fun M3 =>
      L12_together_43 c2 c3 c4 n (i5 + (1 : Int32)) M3
    )
noncomputable def f12_together (M : MS) (p1 : Int32) (p2 : Int32) (p3 : Int32) (p4 : Int32) : Option (Int32 × MS) :=
  (f12_isOpOfRow M p1).bind fun v1 =>
  if v1 = 0 then (
    some ((-1 : Int32), M)
  ) else (
    (f12_isOpOfRow M p2).bind fun v2 =>
    if v2 = 0 then (
      some ((-1 : Int32), M)
    ) else (
      if p2 < p1 then (
        some ((-1 : Int32), M)
      ) else (
        if p3 < (-1 : Int32) then (
          some ((-1 : Int32), M)
        ) else (
          if 0 ≤ p4 then (
            (f12_opToA M (p1 - (1 : Int32))).bind fun M3 =>
            (L12_together_43 p2 p3 p4 FU p1 M3).bind fun M4 =>
            bn2 (f12_stepOfA M4 p3 p4) fun v6 M7 =>
            (
              if p3 = (-1 : Int32) then (
                if p4 = (1 : Int32) then (
                  some (gF M7 51)
                ) else (
                  some (-1 : Int32)
                )
              ) else (
                some v6
              )
            ).bind fun v8 =>
            some (v8, M7)
          ) else (
            some ((-1 : Int32), M)
          )
        )
      )
    )
  )
theorem hd12_together : yX12_together.cls = "FarEditorsModel" ∧ yX12_together.cls ≠ "java/lang/invoke/MethodHandle" ∧ yX12_together.cls ≠ "java/lang/invoke/VarHandle" ∧ (parseMethodDescriptor yX12_together.desc).map (fun d => d.parameters.length) = some 4 := by decide +kernel
set_option maxHeartbeats 4000000 in
set_option maxRecDepth 100000 in
theorem L12_together_43_ok {E : CxT} {l : Launch} {D : va_G} {h : Nat} {q : Nat → Nat} {y : CyT} {zM uM z u : Nat} (hc : Cx E "FarEditorsModel" cX12_together 6) (hz : Cy E l D y 2 50 zM uM) (c2 : Int32) (c3 : Int32) (c4 : Int32) : ∀ (n : Nat) (i5 : Int32) (M : MS) {Mo : MS}, L12_together_43 c2 c3 c4 n i5 M = some Mo → (hx0 : V E z u (mw h q y Mo) 69 [(0, .ref h), (3, .int c3), (4, .int c4)] []) → V E z u (mw h q y M) 43 [(0, .ref h), (2, .int c2), (3, .int c3), (4, .int c4), (5, .int i5)] [] := by
  have hT := hz.2.2.1
  intro n
  induction n with
  | zero => intro i5 M Mo hf; cases hf
  | succ n ih =>
    intro i5 M Mo hf hx0
    unfold L12_together_43 at hf
    refine V_iload hc dX12_together_43 4 rfl ?_
    refine V_iload_n hc dX12_together_45 rfl 1 rfl ?_
    refine V_icmp_ge hc dX12_together_46 rfl (fun hq46 => ?_) (fun hq46 => ?_)
    · rw [if_pos hq46] at hf
      obtain rfl := Option.some.inj hf
      exact V_sub [0, 2, 3] rfl hx0
    · rw [if_neg hq46] at hf
      refine V_aload_n hc dX12_together_49 rfl 0 rfl ?_
      refine V_iload hc dX12_together_50 4 rfl ?_
      obtain ⟨M1, hM1, hf⟩ := mb hf
      refine R_callVv hc hz (As := [.int i5]) (c12_opToB l D h q y _ _ _ _ hM1) w8_24 w8_26 wp7_1 w1_13 w8_27 hd12_opToB ⟨Nat.le_of_ble_eq_true rfl, Nat.le_of_ble_eq_true rfl⟩ rfl rfl (Nat.le_of_ble_eq_true rfl) dX12_together_52 ?_
      refine V_aload_n hc dX12_together_55 rfl 0 rfl ?_
      obtain ⟨M2, hM2, hf⟩ := mb hf
      refine R_callVv hc hz (As := []) (c12_joins l D h q y _ _ _ _ hM2) w7_232 w7_234 wp6_9 w1_13 w7_235 hd12_joins ⟨Nat.le_of_ble_eq_true rfl, Nat.le_of_ble_eq_true rfl⟩ rfl rfl (Nat.le_of_ble_eq_true rfl) dX12_together_56 ?_
      refine V_aload_n hc dX12_together_59 rfl 0 rfl ?_
      obtain ⟨M3, hM3, hf⟩ := mb hf
      refine R_callVv hc hz (As := []) (c12_takesCAsA l D h q y _ _ _ _ hM3) w7_236 w7_238 wp6_10 w1_13 w7_239 hd12_takesCAsA ⟨Nat.le_of_ble_eq_true rfl, Nat.le_of_ble_eq_true rfl⟩ rfl rfl (Nat.le_of_ble_eq_true rfl) dX12_together_60 ?_
      refine V_iinc hc (j := 4) (v := (i5 + (1 : Int32))) dX12_together_63 rfl rfl (by decide) rfl ?_
      refine V_goto hc dX12_together_66 rfl ?_
      exact V_sub [1, 2, 3, 4, 0] rfl (ih _ _ hf hx0)
set_option maxHeartbeats 4000000 in
set_option maxRecDepth 100000 in
theorem c12_together (l : Launch) (D : va_G) (h : Nat) (q : Nat → Nat) (y : CyT) (zM uM z u : Nat) {M M' : MS} {p1 : Int32} {p2 : Int32} {p3 : Int32} {p4 : Int32} {r : Int32} (hf : f12_together M p1 p2 p3 p4 = some (r, M')) : CT l D y yX12_together cX12_together 6 (some .int) 2 50 zM uM [.ref h, .int p1, .int p2, .int p3, .int p4] z u (mw h q y M) z u (mw h q y M') (some (.int r)) := by
  refine CT.of (by decide) (Nat.le_of_ble_eq_true rfl) (fun E hc hzz hnm => ?_)
  have hc : Cx E "FarEditorsModel" cX12_together 6 := hc
  have hz := hzz.1
  have hT := hz.2.2.1
  show V E z u (mw h q y M) 0 [(0, .ref h), (1, .int p1), (2, .int p2), (3, .int p3), (4, .int p4)] []
  unfold f12_together at hf
  refine V_aload_n hc dX12_together_0 rfl 0 rfl ?_
  refine V_iload_n hc dX12_together_1 rfl 1 rfl ?_
  obtain ⟨v1, hv1, hf⟩ := mb hf
  refine R_callVi hc hz (As := [.int p1]) (c12_isOpOfRow l D h q y _ _ _ _ hv1) w8_115 w8_117 wp8_1 w1_13 w8_118 hd12_isOpOfRow ⟨Nat.le_of_ble_eq_true rfl, Nat.le_of_ble_eq_true rfl⟩ rfl rfl (Nat.le_of_ble_eq_true rfl) dX12_together_2 ?_
  refine V_if_eq hc dX12_together_5 rfl (fun hq5 => ?_) (fun hq5 => ?_)
  · rw [if_pos hq5] at hf
    refine V_iconst hc (v := (-1 : Int32)) dX12_together_31 rfl ?_
    obtain ⟨rfl, rfl⟩ := si2 hf
    exact V_iret hc hzz rfl rfl rfl rfl rfl dX12_together_32
  · rw [if_neg hq5] at hf
    refine V_aload_n hc dX12_together_8 rfl 0 rfl ?_
    refine V_iload_n hc dX12_together_9 rfl 2 rfl ?_
    obtain ⟨v2, hv2, hf⟩ := mb hf
    refine R_callVi hc hz (As := [.int p2]) (c12_isOpOfRow l D h q y _ _ _ _ hv2) w8_115 w8_117 wp8_1 w1_13 w8_118 hd12_isOpOfRow ⟨Nat.le_of_ble_eq_true rfl, Nat.le_of_ble_eq_true rfl⟩ rfl rfl (Nat.le_of_ble_eq_true rfl) dX12_together_10 ?_
    refine V_if_eq hc dX12_together_13 rfl (fun hq13 => ?_) (fun hq13 => ?_)
    · rw [if_pos hq13] at hf
      refine V_iconst hc (v := (-1 : Int32)) dX12_together_31 rfl ?_
      obtain ⟨rfl, rfl⟩ := si2 hf
      exact V_iret hc hzz rfl rfl rfl rfl rfl dX12_together_32
    · rw [if_neg hq13] at hf
      refine V_iload_n hc dX12_together_16 rfl 1 rfl ?_
      refine V_iload_n hc dX12_together_17 rfl 2 rfl ?_
      refine V_icmp_gt hc dX12_together_18 rfl (fun hq18 => ?_) (fun hq18 => ?_)
      · rw [if_pos hq18] at hf
        refine V_iconst hc (v := (-1 : Int32)) dX12_together_31 rfl ?_
        obtain ⟨rfl, rfl⟩ := si2 hf
        exact V_iret hc hzz rfl rfl rfl rfl rfl dX12_together_32
      · rw [if_neg hq18] at hf
        refine V_iload_n hc dX12_together_21 rfl 3 rfl ?_
        refine V_iconst hc (v := (-1 : Int32)) dX12_together_22 rfl ?_
        refine V_icmp_lt hc dX12_together_23 rfl (fun hq23 => ?_) (fun hq23 => ?_)
        · rw [if_pos hq23] at hf
          refine V_iconst hc (v := (-1 : Int32)) dX12_together_31 rfl ?_
          obtain ⟨rfl, rfl⟩ := si2 hf
          exact V_iret hc hzz rfl rfl rfl rfl rfl dX12_together_32
        · rw [if_neg hq23] at hf
          refine V_iload hc dX12_together_26 4 rfl ?_
          refine V_if_ge hc dX12_together_28 rfl (fun hq28 => ?_) (fun hq28 => ?_)
          · rw [if_pos hq28] at hf
            refine V_aload_n hc dX12_together_33 rfl 0 rfl ?_
            refine V_iload_n hc dX12_together_34 rfl 1 rfl ?_
            refine V_iconst hc (v := (1 : Int32)) dX12_together_35 rfl ?_
            refine V_isub hc dX12_together_36 ?_
            obtain ⟨M3, hM3, hf⟩ := mb hf
            refine R_callVv hc hz (As := [.int (p1 - (1 : Int32))]) (c12_opToA l D h q y _ _ _ _ hM3) w8_119 w8_121 wp8_2 w1_13 w8_122 hd12_opToA ⟨Nat.le_of_ble_eq_true rfl, Nat.le_of_ble_eq_true rfl⟩ rfl rfl (Nat.le_of_ble_eq_true rfl) dX12_together_37 ?_
            refine V_iload_n hc dX12_together_40 rfl 1 rfl ?_
            refine V_istore hc dX12_together_41 (by decide) rfl ?_
            obtain ⟨M4, hv5, hf⟩ := mb hf
            refine V_sub [1, 3, 4, 5, 0] rfl (L12_together_43_ok hc hz p2 p3 p4 FU _ _ hv5 ?_)
            refine V_aload_n hc dX12_together_69 rfl 0 rfl ?_
            refine V_iload_n hc dX12_together_70 rfl 1 rfl ?_
            refine V_iload hc dX12_together_71 2 rfl ?_
            obtain ⟨v6, M7, hv6, hf⟩ := mb2 hf
            refine R_callVi hc hz (As := [.int p3, .int p4]) (c12_stepOfA l D h q y _ _ _ _ hv6) w8_104 w8_106 wp8_0 w1_13 w8_107 hd12_stepOfA ⟨Nat.le_of_ble_eq_true rfl, Nat.le_of_ble_eq_true rfl⟩ rfl rfl (Nat.le_of_ble_eq_true rfl) dX12_together_73 ?_
            refine V_istore hc dX12_together_76 (by decide) rfl ?_
            refine V_iload_n hc dX12_together_78 rfl 2 rfl ?_
            refine V_iconst hc (v := (-1 : Int32)) dX12_together_79 rfl ?_
            obtain ⟨v8, hv9, hf⟩ := mb hf
            have hJ80 : V E z u (mw h q y M7) 102 [] [.int v8] := by
              obtain ⟨rfl, rfl⟩ := si2 hf
              exact V_iret hc hzz rfl rfl rfl rfl rfl dX12_together_102
            refine V_icmp_eq hc dX12_together_80 rfl (fun hq80 => ?_) (fun hq80 => ?_)
            · rw [if_pos hq80] at hv9
              refine V_iload hc dX12_together_88 3 rfl ?_
              refine V_iconst hc (v := (1 : Int32)) dX12_together_90 rfl ?_
              refine V_icmp_ne hc dX12_together_91 rfl (fun hq91 => ?_) (fun hq91 => ?_)
              · rw [if_neg hq91] at hv9
                refine V_iconst hc (v := (-1 : Int32)) dX12_together_101 rfl ?_
                obtain rfl := Option.some.inj hv9
                exact V_sub [] rfl hJ80
              · rw [if_pos hq91] at hv9
                refine V_aload_n hc dX12_together_94 rfl 1 rfl ?_
                refine R_geti hc 51 rfl (by decide) w6_109 dX12_together_95 ?_
                refine V_goto hc dX12_together_98 rfl ?_
                obtain rfl := Option.some.inj hv9
                exact V_sub [] rfl hJ80
            · rw [if_neg hq80] at hv9
              refine V_iload hc dX12_together_83 0 rfl ?_
              refine V_goto hc dX12_together_85 rfl ?_
              obtain rfl := Option.some.inj hv9
              exact V_sub [] rfl hJ80
          · rw [if_neg hq28] at hf
            refine V_iconst hc (v := (-1 : Int32)) dX12_together_31 rfl ?_
            obtain ⟨rfl, rfl⟩ := si2 hf
            exact V_iret hc hzz rfl rfl rfl rfl rfl dX12_together_32
noncomputable def L12_without_45 (c1 : Int32) (c2 : Int32) : Nat → Int32 → MS → Option (MS)
  | 0, _, _ => none
  | n + 1, i3, M =>
    (ld M 30 (1 : Int32)).bind fun v1 =>
    if v1 ≤ i3 then (
      some M
    ) else (
      (f12_opToB M i3).bind fun M2 =>
      (ld M2 36 (c1 - (1 : Int32))).bind fun v3 =>
      (ld M2 36 i3).bind fun v4 =>
      (f12_isAhead M2 v3 v4).bind fun v5 =>
      (f12_turns M2 v5).bind fun M6 =>
      (f12_takesCAsA M6).bind fun M7 =>
      L12_without_45 c1 c2 n (i3 + (1 : Int32)) M7
    )
noncomputable def f12_without (M : MS) (p1 : Int32) (p2 : Int32) : Option (Int32 × MS) :=
  (f12_isOpOfRow M p1).bind fun v1 =>
  if v1 = 0 then (
    some ((-1 : Int32), M)
  ) else (
    if (-1 : Int32) ≤ p2 then (
      bn2 (f12_serverText M (p1 - (1 : Int32))) fun v2 M3 =>
      (f12_opToA M3 (p1 - (1 : Int32))).bind fun M4 =>
      (f12_inverts M4 47 (0 : Int32)).bind fun M5 =>
      (f12_takesCAsA M5).bind fun M6 =>
      (L12_without_45 p1 p2 FU p1 M6).bind fun M7 =>
      (ld M7 30 (1 : Int32)).bind fun v9 =>
      bn2 (f12_serverText M7 v9) fun v10 M11 =>
      bn2 (f12_changes M11 47 (0 : Int32) 20 (gF M11 25)) fun v12 M13 =>
      (
        if p2 = (-1 : Int32) then (
          some v12
        ) else (
          if v12 ≤ p2 then (
            some (-1 : Int32)
          ) else (
            (ld M13 47 p2).bind fun v16 =>
            some v16
          )
        )
      ).bind fun v14 =>
      some (v14, M13)
    ) else (
      some ((-1 : Int32), M)
    )
  )
theorem hd12_without : yX12_without.cls = "FarEditorsModel" ∧ yX12_without.cls ≠ "java/lang/invoke/MethodHandle" ∧ yX12_without.cls ≠ "java/lang/invoke/VarHandle" ∧ (parseMethodDescriptor yX12_without.desc).map (fun d => d.parameters.length) = some 2 := by decide +kernel
set_option maxHeartbeats 4000000 in
set_option maxRecDepth 100000 in
theorem L12_without_45_ok {E : CxT} {l : Launch} {D : va_G} {h : Nat} {q : Nat → Nat} {y : CyT} {zM uM z u : Nat} (hc : Cx E "FarEditorsModel" cX12_without 4) (hz : Cy E l D y 3 72 zM uM) (c1 : Int32) (c2 : Int32) : ∀ (n : Nat) (i3 : Int32) (M : MS) {Mo : MS}, L12_without_45 c1 c2 n i3 M = some Mo → (hx0 : V E z u (mw h q y Mo) 92 [(0, .ref h), (2, .int c2)] []) → V E z u (mw h q y M) 45 [(0, .ref h), (1, .int c1), (2, .int c2), (3, .int i3)] [] := by
  have hT := hz.2.2.1
  intro n
  induction n with
  | zero => intro i3 M Mo hf; cases hf
  | succ n ih =>
    intro i3 M Mo hf hx0
    unfold L12_without_45 at hf
    refine V_iload_n hc dX12_without_45 rfl 3 rfl ?_
    refine V_aload_n hc dX12_without_46 rfl 0 rfl ?_
    refine R_getr hc 30 rfl (by decide) w6_88 dX12_without_47 ?_
    refine V_iconst hc (v := (1 : Int32)) dX12_without_50 rfl ?_
    obtain ⟨v1, hv1, hf⟩ := mb hf
    refine R_iald hc hT rfl hv1 dX12_without_51 ?_
    refine V_icmp_ge hc dX12_without_52 rfl (fun hq52 => ?_) (fun hq52 => ?_)
    · rw [if_pos hq52] at hf
      obtain rfl := Option.some.inj hf
      exact V_sub [0, 2] rfl hx0
    · rw [if_neg hq52] at hf
      refine V_aload_n hc dX12_without_55 rfl 0 rfl ?_
      refine V_iload_n hc dX12_without_56 rfl 3 rfl ?_
      obtain ⟨M2, hM2, hf⟩ := mb hf
      refine R_callVv hc hz (As := [.int i3]) (c12_opToB l D h q y _ _ _ _ hM2) w8_24 w8_26 wp7_1 w1_13 w8_27 hd12_opToB ⟨Nat.le_of_ble_eq_true rfl, Nat.le_of_ble_eq_true rfl⟩ rfl rfl (Nat.le_of_ble_eq_true rfl) dX12_without_57 ?_
      refine V_aload_n hc dX12_without_60 rfl 0 rfl ?_
      refine V_aload_n hc dX12_without_61 rfl 0 rfl ?_
      refine V_aload_n hc dX12_without_62 rfl 0 rfl ?_
      refine R_getr hc 36 rfl (by decide) w6_94 dX12_without_63 ?_
      refine V_iload_n hc dX12_without_66 rfl 1 rfl ?_
      refine V_iconst hc (v := (1 : Int32)) dX12_without_67 rfl ?_
      refine V_isub hc dX12_without_68 ?_
      obtain ⟨v3, hv3, hf⟩ := mb hf
      refine R_iald hc hT rfl hv3 dX12_without_69 ?_
      refine V_aload_n hc dX12_without_70 rfl 0 rfl ?_
      refine R_getr hc 36 rfl (by decide) w6_94 dX12_without_71 ?_
      refine V_iload_n hc dX12_without_74 rfl 3 rfl ?_
      obtain ⟨v4, hv4, hf⟩ := mb hf
      refine R_iald hc hT rfl hv4 dX12_without_75 ?_
      obtain ⟨v5, hv5, hf⟩ := mb hf
      refine R_callVi hc hz (As := [.int v3, .int v4]) (c12_isAhead l D h q y _ _ _ _ hv5) w8_28 w8_30 wp7_2 w1_13 w8_31 hd12_isAhead ⟨Nat.le_of_ble_eq_true rfl, Nat.le_of_ble_eq_true rfl⟩ rfl rfl (Nat.le_of_ble_eq_true rfl) dX12_without_76 ?_
      obtain ⟨M6, hM6, hf⟩ := mb hf
      refine R_callVv hc hz (As := [.int v5]) (c12_turns l D h q y _ _ _ _ hM6) w8_32 w8_34 wp7_3 w1_13 w8_35 hd12_turns ⟨Nat.le_of_ble_eq_true rfl, Nat.le_of_ble_eq_true rfl⟩ rfl rfl (Nat.le_of_ble_eq_true rfl) dX12_without_79 ?_
      refine V_aload_n hc dX12_without_82 rfl 0 rfl ?_
      obtain ⟨M7, hM7, hf⟩ := mb hf
      refine R_callVv hc hz (As := []) (c12_takesCAsA l D h q y _ _ _ _ hM7) w7_236 w7_238 wp6_10 w1_13 w7_239 hd12_takesCAsA ⟨Nat.le_of_ble_eq_true rfl, Nat.le_of_ble_eq_true rfl⟩ rfl rfl (Nat.le_of_ble_eq_true rfl) dX12_without_83 ?_
      refine V_iinc hc (j := 3) (v := (i3 + (1 : Int32))) dX12_without_86 rfl rfl (by decide) rfl ?_
      refine V_goto hc dX12_without_89 rfl ?_
      exact V_sub [1, 2, 3, 0] rfl (ih _ _ hf hx0)
set_option maxHeartbeats 4000000 in
set_option maxRecDepth 100000 in
theorem c12_without (l : Launch) (D : va_G) (h : Nat) (q : Nat → Nat) (y : CyT) (zM uM z u : Nat) {M M' : MS} {p1 : Int32} {p2 : Int32} {r : Int32} (hf : f12_without M p1 p2 = some (r, M')) : CT l D y yX12_without cX12_without 4 (some .int) 3 72 zM uM [.ref h, .int p1, .int p2] z u (mw h q y M) z u (mw h q y M') (some (.int r)) := by
  refine CT.of (by decide) (Nat.le_of_ble_eq_true rfl) (fun E hc hzz hnm => ?_)
  have hc : Cx E "FarEditorsModel" cX12_without 4 := hc
  have hz := hzz.1
  have hT := hz.2.2.1
  show V E z u (mw h q y M) 0 [(0, .ref h), (1, .int p1), (2, .int p2)] []
  unfold f12_without at hf
  refine V_aload_n hc dX12_without_0 rfl 0 rfl ?_
  refine V_iload_n hc dX12_without_1 rfl 1 rfl ?_
  obtain ⟨v1, hv1, hf⟩ := mb hf
  refine R_callVi hc hz (As := [.int p1]) (c12_isOpOfRow l D h q y _ _ _ _ hv1) w8_115 w8_117 wp8_1 w1_13 w8_118 hd12_isOpOfRow ⟨Nat.le_of_ble_eq_true rfl, Nat.le_of_ble_eq_true rfl⟩ rfl rfl (Nat.le_of_ble_eq_true rfl) dX12_without_2 ?_
  refine V_if_eq hc dX12_without_5 rfl (fun hq5 => ?_) (fun hq5 => ?_)
  · rw [if_pos hq5] at hf
    refine V_iconst hc (v := (-1 : Int32)) dX12_without_13 rfl ?_
    obtain ⟨rfl, rfl⟩ := si2 hf
    exact V_iret hc hzz rfl rfl rfl rfl rfl dX12_without_14
  · rw [if_neg hq5] at hf
    refine V_iload_n hc dX12_without_8 rfl 2 rfl ?_
    refine V_iconst hc (v := (-1 : Int32)) dX12_without_9 rfl ?_
    refine V_icmp_ge hc dX12_without_10 rfl (fun hq10 => ?_) (fun hq10 => ?_)
    · rw [if_pos hq10] at hf
      refine V_aload_n hc dX12_without_15 rfl 0 rfl ?_
      refine V_iload_n hc dX12_without_16 rfl 1 rfl ?_
      refine V_iconst hc (v := (1 : Int32)) dX12_without_17 rfl ?_
      refine V_isub hc dX12_without_18 ?_
      obtain ⟨v2, M3, hv2, hf⟩ := mb2 hf
      refine R_callVi hc hz (As := [.int (p1 - (1 : Int32))]) (c12_serverText l D h q y _ _ _ _ hv2) w8_64 w8_66 wp7_10 w1_13 w8_67 hd12_serverText ⟨Nat.le_of_ble_eq_true rfl, Nat.le_of_ble_eq_true rfl⟩ rfl rfl (Nat.le_of_ble_eq_true rfl) dX12_without_19 ?_
      refine V_pop hc dX12_without_22 rfl ?_
      refine V_aload_n hc dX12_without_23 rfl 0 rfl ?_
      refine V_iload_n hc dX12_without_24 rfl 1 rfl ?_
      refine V_iconst hc (v := (1 : Int32)) dX12_without_25 rfl ?_
      refine V_isub hc dX12_without_26 ?_
      obtain ⟨M4, hM4, hf⟩ := mb hf
      refine R_callVv hc hz (As := [.int (p1 - (1 : Int32))]) (c12_opToA l D h q y _ _ _ _ hM4) w8_119 w8_121 wp8_2 w1_13 w8_122 hd12_opToA ⟨Nat.le_of_ble_eq_true rfl, Nat.le_of_ble_eq_true rfl⟩ rfl rfl (Nat.le_of_ble_eq_true rfl) dX12_without_27 ?_
      refine V_aload_n hc dX12_without_30 rfl 0 rfl ?_
      refine V_aload_n hc dX12_without_31 rfl 0 rfl ?_
      refine R_getr hc 47 rfl (by decide) w6_105 dX12_without_32 ?_
      refine V_iconst hc (v := (0 : Int32)) dX12_without_35 rfl ?_
      obtain ⟨M5, hM5, hf⟩ := mb hf
      refine R_callVv hc hz (As := [.ref (q 47), .int (0 : Int32)]) (c12_inverts l D h q y _ _ _ _ rfl hM5) w7_168 w7_170 wp5_12 w1_13 w7_171 hd12_inverts ⟨Nat.le_of_ble_eq_true rfl, Nat.le_of_ble_eq_true rfl⟩ rfl rfl (Nat.le_of_ble_eq_true rfl) dX12_without_36 ?_
      refine V_aload_n hc dX12_without_39 rfl 0 rfl ?_
      obtain ⟨M6, hM6, hf⟩ := mb hf
      refine R_callVv hc hz (As := []) (c12_takesCAsA l D h q y _ _ _ _ hM6) w7_236 w7_238 wp6_10 w1_13 w7_239 hd12_takesCAsA ⟨Nat.le_of_ble_eq_true rfl, Nat.le_of_ble_eq_true rfl⟩ rfl rfl (Nat.le_of_ble_eq_true rfl) dX12_without_40 ?_
      refine V_iload_n hc dX12_without_43 rfl 1 rfl ?_
      refine V_istore_n hc dX12_without_44 rfl (by decide) rfl ?_
      obtain ⟨M7, hv8, hf⟩ := mb hf
      refine V_sub [1, 2, 3, 0] rfl (L12_without_45_ok hc hz p1 p2 FU _ _ hv8 ?_)
      refine V_aload_n hc dX12_without_92 rfl 0 rfl ?_
      refine V_aload_n hc dX12_without_93 rfl 0 rfl ?_
      refine R_getr hc 30 rfl (by decide) w6_88 dX12_without_94 ?_
      refine V_iconst hc (v := (1 : Int32)) dX12_without_97 rfl ?_
      obtain ⟨v9, hv9, hf⟩ := mb hf
      refine R_iald hc hT rfl hv9 dX12_without_98 ?_
      obtain ⟨v10, M11, hv10, hf⟩ := mb2 hf
      refine R_callVi hc hz (As := [.int v9]) (c12_serverText l D h q y _ _ _ _ hv10) w8_64 w8_66 wp7_10 w1_13 w8_67 hd12_serverText ⟨Nat.le_of_ble_eq_true rfl, Nat.le_of_ble_eq_true rfl⟩ rfl rfl (Nat.le_of_ble_eq_true rfl) dX12_without_99 ?_
      refine V_pop hc dX12_without_102 rfl ?_
      refine V_aload_n hc dX12_without_103 rfl 0 rfl ?_
      refine V_aload_n hc dX12_without_104 rfl 0 rfl ?_
      refine R_getr hc 47 rfl (by decide) w6_105 dX12_without_105 ?_
      refine V_iconst hc (v := (0 : Int32)) dX12_without_108 rfl ?_
      refine V_aload_n hc dX12_without_109 rfl 0 rfl ?_
      refine R_getr hc 20 rfl (by decide) w6_78 dX12_without_110 ?_
      refine V_aload_n hc dX12_without_113 rfl 0 rfl ?_
      refine R_geti hc 25 rfl (by decide) w6_83 dX12_without_114 ?_
      obtain ⟨v12, M13, hv12, hf⟩ := mb2 hf
      refine R_callVi hc hz (As := [.ref (q 47), .int (0 : Int32), .ref (q 20), .int (gF M11 25)]) (c12_changes l D h q y _ _ _ _ rfl rfl hv12) w7_202 w7_204 wp6_3 w1_13 w7_205 hd12_changes ⟨Nat.le_of_ble_eq_true rfl, Nat.le_of_ble_eq_true rfl⟩ rfl rfl (Nat.le_of_ble_eq_true rfl) dX12_without_117 ?_
      refine V_istore_n hc dX12_without_120 rfl (by decide) rfl ?_
      refine V_iload_n hc dX12_without_121 rfl 2 rfl ?_
      refine V_iconst hc (v := (-1 : Int32)) dX12_without_122 rfl ?_
      obtain ⟨v14, hv15, hf⟩ := mb hf
      have hJ123 : V E z u (mw h q y M13) 145 [] [.int v14] := by
        obtain ⟨rfl, rfl⟩ := si2 hf
        exact V_iret hc hzz rfl rfl rfl rfl rfl dX12_without_145
      refine V_icmp_ne hc dX12_without_123 rfl (fun hq123 => ?_) (fun hq123 => ?_)
      · rw [if_neg hq123] at hv15
        refine V_iload_n hc dX12_without_130 rfl 2 rfl ?_
        refine V_iload_n hc dX12_without_131 rfl 0 rfl ?_
        refine V_icmp_ge hc dX12_without_132 rfl (fun hq132 => ?_) (fun hq132 => ?_)
        · rw [if_pos hq132] at hv15
          refine V_iconst hc (v := (-1 : Int32)) dX12_without_144 rfl ?_
          obtain rfl := Option.some.inj hv15
          exact V_sub [] rfl hJ123
        · rw [if_neg hq132] at hv15
          refine V_aload_n hc dX12_without_135 rfl 1 rfl ?_
          refine R_getr hc 47 rfl (by decide) w6_105 dX12_without_136 ?_
          refine V_iload_n hc dX12_without_139 rfl 2 rfl ?_
          obtain ⟨v16, hv16, hv15⟩ := mb hv15
          refine R_iald hc hT rfl hv16 dX12_without_140 ?_
          refine V_goto hc dX12_without_141 rfl ?_
          obtain rfl := Option.some.inj hv15
          exact V_sub [] rfl hJ123
      · rw [if_pos hq123] at hv15
        refine V_iload_n hc dX12_without_126 rfl 0 rfl ?_
        refine V_goto hc dX12_without_127 rfl ?_
        obtain rfl := Option.some.inj hv15
        exact V_sub [] rfl hJ123
    · rw [if_neg hq10] at hf
      refine V_iconst hc (v := (-1 : Int32)) dX12_without_13 rfl ?_
      obtain ⟨rfl, rfl⟩ := si2 hf
      exact V_iret hc hzz rfl rfl rfl rfl rfl dX12_without_14
noncomputable def L12_putsAside_2 : Nat → Int32 → MS → Option (MS)
  | 0, _, _ => none
  | n + 1, i1, M =>
    if (10476 : Int32) ≤ i1 then (
      some M
    ) else (
      (ld M 30 i1).bind fun v1 =>
      (sd M 52 i1 v1).bind fun M2 =>
      L12_putsAside_2 n (i1 + (1 : Int32)) M2
    )
noncomputable def f12_putsAside (M : MS) : Option (MS) :=
  (L12_putsAside_2 FU (0 : Int32) M).bind fun M1 =>
  some M1
theorem hd12_putsAside : yX12_putsAside.cls = "FarEditorsModel" ∧ yX12_putsAside.cls ≠ "java/lang/invoke/MethodHandle" ∧ yX12_putsAside.cls ≠ "java/lang/invoke/VarHandle" ∧ (parseMethodDescriptor yX12_putsAside.desc).map (fun d => d.parameters.length) = some 0 := by decide +kernel
set_option maxHeartbeats 4000000 in
set_option maxRecDepth 100000 in
theorem L12_putsAside_2_ok {E : CxT} {l : Launch} {D : va_G} {h : Nat} {q : Nat → Nat} {y : CyT} {zM uM z u : Nat} (hc : Cx E "FarEditorsModel" cX12_putsAside 2) (hz : Cy E l D y 0 0 zM uM) : ∀ (n : Nat) (i1 : Int32) (M : MS) {Mo : MS}, L12_putsAside_2 n i1 M = some Mo → (hx0 : V E z u (mw h q y Mo) 27 [] []) → V E z u (mw h q y M) 2 [(0, .ref h), (1, .int i1)] [] := by
  have hT := hz.2.2.1
  intro n
  induction n with
  | zero => intro i1 M Mo hf; cases hf
  | succ n ih =>
    intro i1 M Mo hf hx0
    unfold L12_putsAside_2 at hf
    refine V_iload_n hc dX12_putsAside_2 rfl 1 rfl ?_
    refine V_sipush hc (v := (10476 : Int32)) dX12_putsAside_3 rfl ?_
    refine V_icmp_ge hc dX12_putsAside_6 rfl (fun hq6 => ?_) (fun hq6 => ?_)
    · rw [if_pos hq6] at hf
      obtain rfl := Option.some.inj hf
      exact V_sub [] rfl hx0
    · rw [if_neg hq6] at hf
      refine V_aload_n hc dX12_putsAside_9 rfl 0 rfl ?_
      refine R_getr hc 52 rfl (by decide) w6_110 dX12_putsAside_10 ?_
      refine V_iload_n hc dX12_putsAside_13 rfl 1 rfl ?_
      refine V_aload_n hc dX12_putsAside_14 rfl 0 rfl ?_
      refine R_getr hc 30 rfl (by decide) w6_88 dX12_putsAside_15 ?_
      refine V_iload_n hc dX12_putsAside_18 rfl 1 rfl ?_
      obtain ⟨v1, hv1, hf⟩ := mb hf
      refine R_iald hc hT rfl hv1 dX12_putsAside_19 ?_
      obtain ⟨M2, hM2, hf⟩ := mb hf
      refine R_iast hc hT rfl hM2 dX12_putsAside_20 ?_
      refine V_iinc hc (j := 1) (v := (i1 + (1 : Int32))) dX12_putsAside_21 rfl rfl (by decide) rfl ?_
      refine V_goto hc dX12_putsAside_24 rfl ?_
      exact V_sub [1, 0] rfl (ih _ _ hf hx0)
set_option maxHeartbeats 4000000 in
set_option maxRecDepth 100000 in
theorem c12_putsAside (l : Launch) (D : va_G) (h : Nat) (q : Nat → Nat) (y : CyT) (zM uM z u : Nat) {M M' : MS} (hf : f12_putsAside M = some M') : CT l D y yX12_putsAside cX12_putsAside 2 none 0 0 zM uM [.ref h] z u (mw h q y M) z u (mw h q y M') none := by
  refine CT.of (by decide) (Nat.le_of_ble_eq_true rfl) (fun E hc hzz hnm => ?_)
  have hc : Cx E "FarEditorsModel" cX12_putsAside 2 := hc
  have hz := hzz.1
  have hT := hz.2.2.1
  show V E z u (mw h q y M) 0 [(0, .ref h)] []
  unfold f12_putsAside at hf
  refine V_iconst hc (v := (0 : Int32)) dX12_putsAside_0 rfl ?_
  refine V_istore_n hc dX12_putsAside_1 rfl (by decide) rfl ?_
  obtain ⟨M1, hv2, hf⟩ := mb hf
  refine V_sub [1, 0] rfl (L12_putsAside_2_ok hc hz FU _ _ hv2 ?_)
  obtain rfl := Option.some.inj hf
  exact V_vret hc hzz rfl rfl rfl rfl dX12_putsAside_27
