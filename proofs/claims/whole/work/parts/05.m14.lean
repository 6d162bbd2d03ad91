noncomputable def L12_tells_36 (c1 : Int32) (M : MS) : Nat → Int32 → Int32 → Option (Int32)
  | 0, _, _ => none
  | n + 1, i2, i3 =>
    if (240 : Int32) ≤ i3 then (
      some i2
    ) else (
      (f12_mostAt M i3).bind fun v1 =>
      (f12_mostAt M i2).bind fun v2 =>
      (
        if v2 ≤ v1 then (
          some i2
        ) else (
          some i3
        )
      ).bind fun x3 =>
      L12_tells_36 c1 M n x3 (i3 + (1 : Int32))
    )
noncomputable def f12_tells (M : MS) (p1 : Int32) : Option (Int32 × MS) :=
  if (gF M 31) = 0 then (
    some ((-1 : Int32), M)
  ) else (
    (f12_isIn p1.toInt64 (0 : Int64) (1 : Int64)).bind fun v1 =>
    if v1 = 0 then (
      some ((-1 : Int32), M)
    ) else (
      (f12_laysFits M).bind fun M2 =>
      if (gF M2 59) = 0 then (
        some ((-1 : Int32), M2)
      ) else (
        (L12_tells_36 p1 M2 FU (0 : Int32) (1 : Int32)).bind fun x3 =>
        (
          if p1 = 0 then (
            some x3
          ) else (
            (f12_mostAt M2 x3).bind fun v7 =>
            some v7
          )
        ).bind fun v5 =>
        some (v5, M2)
      )
    )
  )
theorem hd12_tells : yX12_tells.cls = "FarEditorsModel" ∧ yX12_tells.cls ≠ "java/lang/invoke/MethodHandle" ∧ yX12_tells.cls ≠ "java/lang/invoke/VarHandle" ∧ (parseMethodDescriptor yX12_tells.desc).map (fun d => d.parameters.length) = some 1 := by decide +kernel
set_option maxHeartbeats 4000000 in
set_option maxRecDepth 100000 in
theorem L12_tells_36_ok {E : CxT} {l : Launch} {D : va_G} {h : Nat} {q : Nat → Nat} {y : CyT} {zM uM z u : Nat} (hc : Cx E "FarEditorsModel" cX12_tells 4) (hz : Cy E l D y 6 141 zM uM) (c1 : Int32) (M : MS) : ∀ (n : Nat) (i2 : Int32) (i3 : Int32) {o2 : Int32}, L12_tells_36 c1 M n i2 i3 = some o2 → (hx0 : V E z u (mw h q y M) 64 [(0, .ref h), (1, .int c1), (2, .int o2)] []) → V E z u (mw h q y M) 36 [(0, .ref h), (1, .int c1), (2, .int i2), (3, .int i3)] [] := by
  have hT := hz.2.2.1
  intro n
  induction n with
  | zero => intro i2 i3 o2 hf; cases hf
  | succ n ih =>
    intro i2 i3 o2 hf hx0
    unfold L12_tells_36 at hf
    refine V_iload_n hc dX12_tells_36 rfl 3 rfl ?_
    refine V_sipush hc (v := (240 : Int32)) dX12_tells_37 rfl ?_
    refine V_icmp_ge hc dX12_tells_40 rfl (fun hq40 => ?_) (fun hq40 => ?_)
    · rw [if_pos hq40] at hf
      obtain rfl := Option.some.inj hf
      exact V_sub [0, 1, 2] rfl hx0
    · rw [if_neg hq40] at hf
      refine V_aload_n hc dX12_tells_43 rfl 0 rfl ?_
      refine V_iload_n hc dX12_tells_44 rfl 3 rfl ?_
      obtain ⟨v1, hv1, hf⟩ := mb hf
      refine R_callVi hc hz (As := [.int i3]) (c12_mostAt l D h q y _ _ _ _ hv1) w8_218 w8_220 wp8_14 w1_13 w8_221 hd12_mostAt ⟨Nat.le_of_ble_eq_true rfl, Nat.le_of_ble_eq_true rfl⟩ rfl rfl (Nat.le_of_ble_eq_true rfl) dX12_tells_45 ?_
      refine V_aload_n hc dX12_tells_48 rfl 0 rfl ?_
      refine V_iload_n hc dX12_tells_49 rfl 2 rfl ?_
      obtain ⟨v2, hv2, hf⟩ := mb hf
      refine R_callVi hc hz (As := [.int i2]) (c12_mostAt l D h q y _ _ _ _ hv2) w8_218 w8_220 wp8_14 w1_13 w8_221 hd12_mostAt ⟨Nat.le_of_ble_eq_true rfl, Nat.le_of_ble_eq_true rfl⟩ rfl rfl (Nat.le_of_ble_eq_true rfl) dX12_tells_50 ?_
      obtain ⟨x3, hv4, hf⟩ := mb hf
      have hJ53 : V E z u (mw h q y M) 58 [(0, .ref h), (1, .int c1), (2, .int x3), (3, .int i3)] [] := by
        refine V_iinc hc (j := 3) (v := (i3 + (1 : Int32))) dX12_tells_58 rfl rfl (by decide) rfl ?_
        refine V_goto hc dX12_tells_61 rfl ?_
        exact V_sub [1, 2, 3, 0] rfl (ih _ _ hf hx0)
      refine V_icmp_ge hc dX12_tells_53 rfl (fun hq53 => ?_) (fun hq53 => ?_)
      · rw [if_pos hq53] at hv4
        obtain rfl := Option.some.inj hv4
        exact V_sub [0, 1, 2, 3] rfl hJ53
      · rw [if_neg hq53] at hv4
        refine V_iload_n hc dX12_tells_56 rfl 3 rfl ?_
        refine V_istore_n hc dX12_tells_57 rfl (by decide) rfl ?_
        obtain rfl := Option.some.inj hv4
        exact V_sub [1, 2, 0, 3] rfl hJ53
set_option maxHeartbeats 4000000 in
set_option maxRecDepth 100000 in
theorem c12_tells (l : Launch) (D : va_G) (h : Nat) (q : Nat → Nat) (y : CyT) (zM uM z u : Nat) {M M' : MS} {p1 : Int32} {r : Int32} (hf : f12_tells M p1 = some (r, M')) : CT l D y yX12_tells cX12_tells 4 (some .int) 6 141 zM uM [.ref h, .int p1] z u (mw h q y M) z u (mw h q y M') (some (.int r)) := by
  refine CT.of (by decide) (Nat.le_of_ble_eq_true rfl) (fun E hc hzz hnm => ?_)
  have hc : Cx E "FarEditorsModel" cX12_tells 4 := hc
  have hz := hzz.1
  have hT := hz.2.2.1
  show V E z u (mw h q y M) 0 [(0, .ref h), (1, .int p1)] []
  unfold f12_tells at hf
  refine V_aload_n hc dX12_tells_0 rfl 0 rfl ?_
  refine R_geti hc 31 rfl (by decide) w6_89 dX12_tells_1 ?_
  refine V_if_eq hc dX12_tells_4 rfl (fun hq4 => ?_) (fun hq4 => ?_)
  · rw [if_pos hq4] at hf
    refine V_iconst hc (v := (-1 : Int32)) dX12_tells_17 rfl ?_
    obtain ⟨rfl, rfl⟩ := si2 hf
    exact V_iret hc hzz rfl rfl rfl rfl rfl dX12_tells_18
  · rw [if_neg hq4] at hf
    refine V_iload_n hc dX12_tells_7 rfl 1 rfl ?_
    refine V_i2l hc dX12_tells_8 ?_
    refine V_lconst hc (v := (0 : Int64)) dX12_tells_9 rfl ?_
    refine V_lconst hc (v := (1 : Int64)) dX12_tells_10 rfl ?_
    obtain ⟨v1, hv1, hf⟩ := mb hf
    refine R_callSi hc hz (As := [.long p1.toInt64, .long (0 : Int64), .long (1 : Int64)]) (c12_isIn l D h q y _ _ _ _ hv1) w7_34 w7_35 w1_13 w7_36 hd12_isIn ⟨Nat.le_of_ble_eq_true rfl, Nat.le_of_ble_eq_true rfl⟩ rfl rfl (Nat.le_of_ble_eq_true rfl) dX12_tells_11 ?_
    refine V_if_ne hc dX12_tells_14 rfl (fun hq14 => ?_) (fun hq14 => ?_)
    · rw [if_neg hq14] at hf
      refine V_aload_n hc dX12_tells_19 rfl 0 rfl ?_
      obtain ⟨M2, hM2, hf⟩ := mb hf
      refine R_callVv hc hz (As := []) (c12_laysFits l D h q y _ _ _ _ hM2) w8_210 w8_212 wp8_13 w1_13 w8_213 hd12_laysFits ⟨Nat.le_of_ble_eq_true rfl, Nat.le_of_ble_eq_true rfl⟩ rfl rfl (Nat.le_of_ble_eq_true rfl) dX12_tells_20 ?_
      refine V_aload_n hc dX12_tells_23 rfl 0 rfl ?_
      refine R_geti hc 59 rfl (by decide) w6_117 dX12_tells_24 ?_
      refine V_if_ne hc dX12_tells_27 rfl (fun hq27 => ?_) (fun hq27 => ?_)
      · rw [if_neg hq27] at hf
        refine V_iconst hc (v := (0 : Int32)) dX12_tells_32 rfl ?_
        refine V_istore_n hc dX12_tells_33 rfl (by decide) rfl ?_
        refine V_iconst hc (v := (1 : Int32)) dX12_tells_34 rfl ?_
        refine V_istore_n hc dX12_tells_35 rfl (by decide) rfl ?_
        obtain ⟨x3, hv4, hf⟩ := mb hf
        refine V_sub [2, 3, 1, 0] rfl (L12_tells_36_ok hc hz p1 M2 FU _ _ hv4 ?_)
        refine V_iload_n hc dX12_tells_64 rfl 1 rfl ?_
        obtain ⟨v5, hv6, hf⟩ := mb hf
        have hJ65 : V E z u (mw h q y M2) 77 [] [.int v5] := by
          obtain ⟨rfl, rfl⟩ := si2 hf
          exact V_iret hc hzz rfl rfl rfl rfl rfl dX12_tells_77
        refine V_if_ne hc dX12_tells_65 rfl (fun hq65 => ?_) (fun hq65 => ?_)
        · rw [if_neg hq65] at hv6
          refine V_aload_n hc dX12_tells_72 rfl 0 rfl ?_
          refine V_iload_n hc dX12_tells_73 rfl 2 rfl ?_
          obtain ⟨v7, hv7, hv6⟩ := mb hv6
          refine R_callVi hc hz (As := [.int x3]) (c12_mostAt l D h q y _ _ _ _ hv7) w8_218 w8_220 wp8_14 w1_13 w8_221 hd12_mostAt ⟨Nat.le_of_ble_eq_true rfl, Nat.le_of_ble_eq_true rfl⟩ rfl rfl (Nat.le_of_ble_eq_true rfl) dX12_tells_74 ?_
          obtain rfl := Option.some.inj hv6
          exact V_sub [] rfl hJ65
        · rw [if_pos hq65] at hv6
          refine V_iload_n hc dX12_tells_68 rfl 2 rfl ?_
          refine V_goto hc dX12_tells_69 rfl ?_
          obtain rfl := Option.some.inj hv6
          exact V_sub [] rfl hJ65
      · rw [if_pos hq27] at hf
        refine V_iconst hc (v := (-1 : Int32)) dX12_tells_30 rfl ?_
        obtain ⟨rfl, rfl⟩ := si2 hf
        exact V_iret hc hzz rfl rfl rfl rfl rfl dX12_tells_31
    · rw [if_pos hq14] at hf
      refine V_iconst hc (v := (-1 : Int32)) dX12_tells_17 rfl ?_
      obtain ⟨rfl, rfl⟩ := si2 hf
      exact V_iret hc hzz rfl rfl rfl rfl rfl dX12_tells_18
noncomputable def L12_keeps_15 : Nat → Int32 → MS → Option (MS)
  | 0, _, _ => none
  | n + 1, i1, M =>
    if (10476 : Int32) ≤ i1 then (
      some M
    ) else (
      (ld M 30 i1).bind fun v1 =>
      (sd M 60 (((10476 : Int32) * (gF M 62)) + i1) v1).bind fun M2 =>
      L12_keeps_15 n (i1 + (1 : Int32)) M2
    )
noncomputable def f12_keeps (M : MS) : Option (MS) :=
  (L12_keeps_15 FU (0 : Int32) (sF M 62 (((gF M 62) + (1 : Int32)) - ((gF M 62) + (1 : Int32)) / (20 : Int32) * (20 : Int32)))).bind fun M1 =>
  (
    if (20 : Int32) ≤ (gF M1 61) then (
      some M1
    ) else (
      some (sF M1 61 ((gF M1 61) + (1 : Int32)))
    )
  ).bind fun M3 =>
  some M3
theorem hd12_keeps : yX12_keeps.cls = "FarEditorsModel" ∧ yX12_keeps.cls ≠ "java/lang/invoke/MethodHandle" ∧ yX12_keeps.cls ≠ "java/lang/invoke/VarHandle" ∧ (parseMethodDescriptor yX12_keeps.desc).map (fun d => d.parameters.length) = some 0 := by decide +kernel
set_option maxHeartbeats 4000000 in
set_option maxRecDepth 100000 in
theorem L12_keeps_15_ok {E : CxT} {l : Launch} {D : va_G} {h : Nat} {q : Nat → Nat} {y : CyT} {zM uM z u : Nat} (hc : Cx E "FarEditorsModel" cX12_keeps 2) (hz : Cy E l D y 0 0 zM uM) : ∀ (n : Nat) (i1 : Int32) (M : MS) {Mo : MS}, L12_keeps_15 n i1 M = some Mo → (hx0 : V E z u (mw h q y Mo) 49 [(0, .ref h)] []) → V E z u (mw h q y M) 15 [(0, .ref h), (1, .int i1)] [] := by
  have hT := hz.2.2.1
  intro n
  induction n with
  | zero => intro i1 M Mo hf; cases hf
  | succ n ih =>
    intro i1 M Mo hf hx0
    unfold L12_keeps_15 at hf
    refine V_iload_n hc dX12_keeps_15 rfl 1 rfl ?_
    refine V_sipush hc (v := (10476 : Int32)) dX12_keeps_16 rfl ?_
    refine V_icmp_ge hc dX12_keeps_19 rfl (fun hq19 => ?_) (fun hq19 => ?_)
    · rw [if_pos hq19] at hf
      obtain rfl := Option.some.inj hf
      exact V_sub [0] rfl hx0
    · rw [if_neg hq19] at hf
      refine V_aload_n hc dX12_keeps_22 rfl 0 rfl ?_
      refine R_getr hc 60 rfl (by decide) w6_118 dX12_keeps_23 ?_
      refine V_sipush hc (v := (10476 : Int32)) dX12_keeps_26 rfl ?_
      refine V_aload_n hc dX12_keeps_29 rfl 0 rfl ?_
      refine R_geti hc 62 rfl (by decide) w6_120 dX12_keeps_30 ?_
      refine V_imul hc dX12_keeps_33 ?_
      refine V_iload_n hc dX12_keeps_34 rfl 1 rfl ?_
      refine V_iadd hc dX12_keeps_35 ?_
      refine V_aload_n hc dX12_keeps_36 rfl 0 rfl ?_
      refine R_getr hc 30 rfl (by decide) w6_88 dX12_keeps_37 ?_
      refine V_iload_n hc dX12_keeps_40 rfl 1 rfl ?_
      obtain ⟨v1, hv1, hf⟩ := mb hf
      refine R_iald hc hT rfl hv1 dX12_keeps_41 ?_
      obtain ⟨M2, hM2, hf⟩ := mb hf
      refine R_iast hc hT rfl hM2 dX12_keeps_42 ?_
      refine V_iinc hc (j := 1) (v := (i1 + (1 : Int32))) dX12_keeps_43 rfl rfl (by decide) rfl ?_
      refine V_goto hc dX12_keeps_46 rfl ?_
      exact V_sub [1, 0] rfl (ih _ _ hf hx0)
set_option maxHeartbeats 4000000 in
set_option maxRecDepth 100000 in
theorem c12_keeps (l : Launch) (D : va_G) (h : Nat) (q : Nat → Nat) (y : CyT) (zM uM z u : Nat) {M M' : MS} (hf : f12_keeps M = some M') : CT l D y yX12_keeps cX12_keeps 2 none 0 0 zM uM [.ref h] z u (mw h q y M) z u (mw h q y M') none := by
  refine CT.of (by decide) (Nat.le_of_ble_eq_true rfl) (fun E hc hzz hnm => ?_)
  have hc : Cx E "FarEditorsModel" cX12_keeps 2 := hc
  have hz := hzz.1
  have hT := hz.2.2.1
  show V E z u (mw h q y M) 0 [(0, .ref h)] []
  unfold f12_keeps at hf
  refine V_aload_n hc dX12_keeps_0 rfl 0 rfl ?_
  refine V_aload_n hc dX12_keeps_1 rfl 0 rfl ?_
  refine R_geti hc 62 rfl (by decide) w6_120 dX12_keeps_2 ?_
  refine V_iconst hc (v := (1 : Int32)) dX12_keeps_5 rfl ?_
  refine V_iadd hc dX12_keeps_6 ?_
  refine V_bipush hc (v := (20 : Int32)) dX12_keeps_7 rfl ?_
  refine V_irem hc dX12_keeps_9 (by decide) ?_
  refine R_puti hc 62 rfl (by decide) w6_120 rfl rfl rfl dX12_keeps_10 ?_
  refine V_iconst hc (v := (0 : Int32)) dX12_keeps_13 rfl ?_
  refine V_istore_n hc dX12_keeps_14 rfl (by decide) rfl ?_
  obtain ⟨M1, hv2, hf⟩ := mb hf
  refine V_sub [1, 0] rfl (L12_keeps_15_ok hc hz FU _ _ hv2 ?_)
  refine V_aload_n hc dX12_keeps_49 rfl 0 rfl ?_
  refine R_geti hc 61 rfl (by decide) w6_119 dX12_keeps_50 ?_
  refine V_bipush hc (v := (20 : Int32)) dX12_keeps_53 rfl ?_
  obtain ⟨M3, hv4, hf⟩ := mb hf
  have hJ55 : V E z u (mw h q y M3) 68 [] [] := by
    obtain rfl := Option.some.inj hf
    exact V_vret hc hzz rfl rfl rfl rfl dX12_keeps_68
  refine V_icmp_ge hc dX12_keeps_55 rfl (fun hq55 => ?_) (fun hq55 => ?_)
  · rw [if_pos hq55] at hv4
    obtain rfl := Option.some.inj hv4
    exact V_sub [] rfl hJ55
  · rw [if_neg hq55] at hv4
    refine V_aload_n hc dX12_keeps_58 rfl 0 rfl ?_
    refine V_dup hc dX12_keeps_59 rfl ?_
    refine R_geti hc 61 rfl (by decide) w6_119 dX12_keeps_60 ?_
    refine V_iconst hc (v := (1 : Int32)) dX12_keeps_63 rfl ?_
    refine V_iadd hc dX12_keeps_64 ?_
    refine R_puti hc 61 rfl (by decide) w6_119 rfl rfl rfl dX12_keeps_65 ?_
    obtain rfl := Option.some.inj hv4
    exact V_sub [] rfl hJ55
noncomputable def L12_back_15 : Nat → Int32 → MS → Option (MS)
  | 0, _, _ => none
  | n + 1, i1, M =>
    if (10476 : Int32) ≤ i1 then (
      some M
    ) else (
      (ld M 60 (((10476 : Int32) * (gF M 62)) + i1)).bind fun v1 =>
      (sd M 30 i1 v1).bind fun M2 =>
      L12_back_15 n (i1 + (1 : Int32)) M2
    )
noncomputable def f12_back (M : MS) : Option (Int32 × MS) :=
  if (gF M 61) = 0 then (
    bn2 (f12_isRefused M (5 : Int32)) fun v3 M4 =>
    (bz v3).bind fun v5 =>
    some (v5, M4)
  ) else (
    (L12_back_15 FU (0 : Int32) M).bind fun M1 =>
    some ((1 : Int32), (sF (sF M1 62 ((((gF M1 62) + (20 : Int32)) - (1 : Int32)) - (((gF M1 62) + (20 : Int32)) - (1 : Int32)) / (20 : Int32) * (20 : Int32))) 61 ((gF (sF M1 62 ((((gF M1 62) + (20 : Int32)) - (1 : Int32)) - (((gF M1 62) + (20 : Int32)) - (1 : Int32)) / (20 : Int32) * (20 : Int32))) 61) - (1 : Int32))))
  )
theorem hd12_back : yX12_back.cls = "FarEditorsModel" ∧ yX12_back.cls ≠ "java/lang/invoke/MethodHandle" ∧ yX12_back.cls ≠ "java/lang/invoke/VarHandle" ∧ (parseMethodDescriptor yX12_back.desc).map (fun d => d.parameters.length) = some 0 := by decide +kernel
set_option maxHeartbeats 4000000 in
set_option maxRecDepth 100000 in
theorem L12_back_15_ok {E : CxT} {l : Launch} {D : va_G} {h : Nat} {q : Nat → Nat} {y : CyT} {zM uM z u : Nat} (hc : Cx E "FarEditorsModel" cX12_back 2) (hz : Cy E l D y 1 21 zM uM) : ∀ (n : Nat) (i1 : Int32) (M : MS) {Mo : MS}, L12_back_15 n i1 M = some Mo → (hx0 : V E z u (mw h q y Mo) 49 [(0, .ref h)] []) → V E z u (mw h q y M) 15 [(0, .ref h), (1, .int i1)] [] := by
  have hT := hz.2.2.1
  intro n
  induction n with
  | zero => intro i1 M Mo hf; cases hf
  | succ n ih =>
    intro i1 M Mo hf hx0
    unfold L12_back_15 at hf
    refine V_iload_n hc dX12_back_15 rfl 1 rfl ?_
    refine V_sipush hc (v := (10476 : Int32)) dX12_back_16 rfl ?_
    refine V_icmp_ge hc dX12_back_19 rfl (fun hq19 => ?_) (fun hq19 => ?_)
    · rw [if_pos hq19] at hf
      obtain rfl := Option.some.inj hf
      exact V_sub [0] rfl hx0
    · rw [if_neg hq19] at hf
      refine V_aload_n hc dX12_back_22 rfl 0 rfl ?_
      refine R_getr hc 30 rfl (by decide) w6_88 dX12_back_23 ?_
      refine V_iload_n hc dX12_back_26 rfl 1 rfl ?_
      refine V_aload_n hc dX12_back_27 rfl 0 rfl ?_
      refine R_getr hc 60 rfl (by decide) w6_118 dX12_back_28 ?_
      refine V_sipush hc (v := (10476 : Int32)) dX12_back_31 rfl ?_
      refine V_aload_n hc dX12_back_34 rfl 0 rfl ?_
      refine R_geti hc 62 rfl (by decide) w6_120 dX12_back_35 ?_
      refine V_imul hc dX12_back_38 ?_
      refine V_iload_n hc dX12_back_39 rfl 1 rfl ?_
      refine V_iadd hc dX12_back_40 ?_
      obtain ⟨v1, hv1, hf⟩ := mb hf
      refine R_iald hc hT rfl hv1 dX12_back_41 ?_
      obtain ⟨M2, hM2, hf⟩ := mb hf
      refine R_iast hc hT rfl hM2 dX12_back_42 ?_
      refine V_iinc hc (j := 1) (v := (i1 + (1 : Int32))) dX12_back_43 rfl rfl (by decide) rfl ?_
      refine V_goto hc dX12_back_46 rfl ?_
      exact V_sub [1, 0] rfl (ih _ _ hf hx0)
set_option maxHeartbeats 4000000 in
set_option maxRecDepth 100000 in
theorem c12_back (l : Launch) (D : va_G) (h : Nat) (q : Nat → Nat) (y : CyT) (zM uM z u : Nat) {M M' : MS} {r : Int32} (hf : f12_back M = some (r, M')) : CT l D y yX12_back cX12_back 2 (some .boolean) 1 21 zM uM [.ref h] z u (mw h q y M) z u (mw h q y M') (some (.int r)) := by
  refine CT.of (by decide) (Nat.le_of_ble_eq_true rfl) (fun E hc hzz hnm => ?_)
  have hc : Cx E "FarEditorsModel" cX12_back 2 := hc
  have hz := hzz.1
  have hT := hz.2.2.1
  show V E z u (mw h q y M) 0 [(0, .ref h)] []
  unfold f12_back at hf
  refine V_aload_n hc dX12_back_0 rfl 0 rfl ?_
  refine R_geti hc 61 rfl (by decide) w6_119 dX12_back_1 ?_
  refine V_if_ne hc dX12_back_4 rfl (fun hq4 => ?_) (fun hq4 => ?_)
  · rw [if_neg hq4] at hf
    refine V_iconst hc (v := (0 : Int32)) dX12_back_13 rfl ?_
    refine V_istore_n hc dX12_back_14 rfl (by decide) rfl ?_
    obtain ⟨M1, hv2, hf⟩ := mb hf
    refine V_sub [1, 0] rfl (L12_back_15_ok hc hz FU _ _ hv2 ?_)
    refine V_aload_n hc dX12_back_49 rfl 0 rfl ?_
    refine V_aload_n hc dX12_back_50 rfl 0 rfl ?_
    refine R_geti hc 62 rfl (by decide) w6_120 dX12_back_51 ?_
    refine V_bipush hc (v := (20 : Int32)) dX12_back_54 rfl ?_
    refine V_iadd hc dX12_back_56 ?_
    refine V_iconst hc (v := (1 : Int32)) dX12_back_57 rfl ?_
    refine V_isub hc dX12_back_58 ?_
    refine V_bipush hc (v := (20 : Int32)) dX12_back_59 rfl ?_
    refine V_irem hc dX12_back_61 (by decide) ?_
    refine R_puti hc 62 rfl (by decide) w6_120 rfl rfl rfl dX12_back_62 ?_
    refine V_aload_n hc dX12_back_65 rfl 0 rfl ?_
    refine V_dup hc dX12_back_66 rfl ?_
    refine R_geti hc 61 rfl (by decide) w6_119 dX12_back_67 ?_
    refine V_iconst hc (v := (1 : Int32)) dX12_back_70 rfl ?_
    refine V_isub hc dX12_back_71 ?_
    refine R_puti hc 61 rfl (by decide) w6_119 rfl rfl rfl dX12_back_72 ?_
    refine V_iconst hc (v := (1 : Int32)) dX12_back_75 rfl ?_
    obtain ⟨rfl, rfl⟩ := si2 hf
    exact V_iret hc hzz rfl rfl rfl rfl rfl dX12_back_76
  · rw [if_pos hq4] at hf
    refine V_aload_n hc dX12_back_7 rfl 0 rfl ?_
    refine V_iconst hc (v := (5 : Int32)) dX12_back_8 rfl ?_
    obtain ⟨v3, M4, hv3, hf⟩ := mb2 hf
    refine R_callVi hc hz (As := [.int (5 : Int32)]) (c12_isRefused l D h q y _ _ _ _ hv3) w7_25 w7_27 wp4_0 w1_13 w7_28 hd12_isRefused ⟨Nat.le_of_ble_eq_true rfl, Nat.le_of_ble_eq_true rfl⟩ rfl rfl (Nat.le_of_ble_eq_true rfl) dX12_back_9 ?_
    obtain ⟨v5, hv5, hf⟩ := mb hf
    obtain ⟨hbv5, rfl⟩ := bz_some hv5
    obtain ⟨rfl, rfl⟩ := si2 hf
    exact V_iret hc hzz (bz_nar hbv5) rfl rfl rfl rfl dX12_back_12
noncomputable def f12_editDone (M : MS) (p1 : Int32) (p2 : Int32) : Option (Int32 × MS) :=
  (f12_canEdit M).bind fun v1 =>
  if v1 = 0 then (
    bn2 (f12_refuses M (2 : Int32)) fun v5 M6 =>
    some (v5, M6)
  ) else (
    (f12_keeps M).bind fun M2 =>
    (f12_edits M2 p1 p2).bind fun M3 =>
    (f12_its M3 p1 (21 : Int32)).bind fun v4 =>
    some (v4, M3)
  )
theorem hd12_editDone : yX12_editDone.cls = "FarEditorsModel" ∧ yX12_editDone.cls ≠ "java/lang/invoke/MethodHandle" ∧ yX12_editDone.cls ≠ "java/lang/invoke/VarHandle" ∧ (parseMethodDescriptor yX12_editDone.desc).map (fun d => d.parameters.length) = some 2 := by decide +kernel
set_option maxHeartbeats 4000000 in
set_option maxRecDepth 100000 in
theorem c12_editDone (l : Launch) (D : va_G) (h : Nat) (q : Nat → Nat) (y : CyT) (zM uM z u : Nat) {M M' : MS} {p1 : Int32} {p2 : Int32} {r : Int32} (hf : f12_editDone M p1 p2 = some (r, M')) : CT l D y yX12_editDone cX12_editDone 3 (some .int) 4 99 zM uM [.ref h, .int p1, .int p2] z u (mw h q y M) z u (mw h q y M') (some (.int r)) := by
  refine CT.of (by decide) (Nat.le_of_ble_eq_true rfl) (fun E hc hzz hnm => ?_)
  have hc : Cx E "FarEditorsModel" cX12_editDone 3 := hc
  have hz := hzz.1
  have hT := hz.2.2.1
  show V E z u (mw h q y M) 0 [(0, .ref h), (1, .int p1), (2, .int p2)] []
  unfold f12_editDone at hf
  refine V_aload_n hc dX12_editDone_0 rfl 0 rfl ?_
  obtain ⟨v1, hv1, hf⟩ := mb hf
  refine R_callVi hc hz (As := []) (c12_canEdit l D h q y _ _ _ _ hv1) w7_154 w7_156 wp5_10 w1_13 w7_157 hd12_canEdit ⟨Nat.le_of_ble_eq_true rfl, Nat.le_of_ble_eq_true rfl⟩ rfl rfl (Nat.le_of_ble_eq_true rfl) dX12_editDone_1 ?_
  refine V_if_ne hc dX12_editDone_4 rfl (fun hq4 => ?_) (fun hq4 => ?_)
  · rw [if_neg hq4] at hf
    refine V_aload_n hc dX12_editDone_13 rfl 0 rfl ?_
    obtain ⟨M2, hM2, hf⟩ := mb hf
    refine R_callVv hc hz (As := []) (c12_keeps l D h q y _ _ _ _ hM2) w8_234 w8_236 wp9_0 w1_13 w8_237 hd12_keeps ⟨Nat.le_of_ble_eq_true rfl, Nat.le_of_ble_eq_true rfl⟩ rfl rfl (Nat.le_of_ble_eq_true rfl) dX12_editDone_14 ?_
    refine V_aload_n hc dX12_editDone_17 rfl 0 rfl ?_
    refine V_iload_n hc dX12_editDone_18 rfl 1 rfl ?_
    refine V_iload_n hc dX12_editDone_19 rfl 2 rfl ?_
    obtain ⟨M3, hM3, hf⟩ := mb hf
    refine R_callVv hc hz (As := [.int p1, .int p2]) (c12_edits l D h q y _ _ _ _ hM3) w7_164 w7_166 wp5_11 w1_13 w7_167 hd12_edits ⟨Nat.le_of_ble_eq_true rfl, Nat.le_of_ble_eq_true rfl⟩ rfl rfl (Nat.le_of_ble_eq_true rfl) dX12_editDone_20 ?_
    refine V_aload_n hc dX12_editDone_23 rfl 0 rfl ?_
    refine V_iload_n hc dX12_editDone_24 rfl 1 rfl ?_
    refine V_bipush hc (v := (21 : Int32)) dX12_editDone_25 rfl ?_
    obtain ⟨v4, hv4, hf⟩ := mb hf
    refine R_callVi hc hz (As := [.int p1, .int (21 : Int32)]) (c12_its l D h q y _ _ _ _ hv4) w7_142 w7_144 wp5_7 w1_13 w7_145 hd12_its ⟨Nat.le_of_ble_eq_true rfl, Nat.le_of_ble_eq_true rfl⟩ rfl rfl (Nat.le_of_ble_eq_true rfl) dX12_editDone_27 ?_
    obtain ⟨rfl, rfl⟩ := si2 hf
    exact V_iret hc hzz rfl rfl rfl rfl rfl dX12_editDone_30
  · rw [if_pos hq4] at hf
    refine V_aload_n hc dX12_editDone_7 rfl 0 rfl ?_
    refine V_iconst hc (v := (2 : Int32)) dX12_editDone_8 rfl ?_
    obtain ⟨v5, M6, hv5, hf⟩ := mb2 hf
    refine R_callVi hc hz (As := [.int (2 : Int32)]) (c12_refuses l D h q y _ _ _ _ hv5) w7_17 w7_19 wp3_15 w1_13 w7_20 hd12_refuses ⟨Nat.le_of_ble_eq_true rfl, Nat.le_of_ble_eq_true rfl⟩ rfl rfl (Nat.le_of_ble_eq_true rfl) dX12_editDone_9 ?_
    obtain ⟨rfl, rfl⟩ := si2 hf
    exact V_iret hc hzz rfl rfl rfl rfl rfl dX12_editDone_12
noncomputable def f12_edit (M : MS) (p1 : Int32) : Option (Int32 × MS) :=
  (f12_isEditor M p1).bind fun v1 =>
  if v1 = 0 then (
    bn2 (f12_refuses (sF M 1 (0 : Int32)) (2 : Int32)) fun v16 M17 =>
    some (v16, M17)
  ) else (
    (f12_begins M).bind fun M2 =>
    (f12_opTold M2 (1 : Int32)).bind fun M3 =>
    if (gF (sF (sF M3 7 (gF M3 5)) 8 (gF (sF M3 7 (gF M3 5)) 6)) 5) = 0 then (
      (f12_goesTo (sF (sF M3 7 (gF M3 5)) 8 (gF (sF M3 7 (gF M3 5)) 6)) (0 : Int32)).bind fun M4 =>
      bn2 (f12_isOp M4 p1) fun v5 M6 =>
      bn2 (
        if v5 = 0 then (
          bn2 (f12_refuses M6 (2 : Int32)) fun v10 M11 =>
          some (v10, M11)
        ) else (
          bn2 (f12_editDone M6 p1 (0 : Int32)) fun v12 M13 =>
          some (v12, M13)
        )
      ) fun v7 M8 =>
      some (v7, M8)
    ) else (
      bn2 (f12_refuses (sF (sF M3 7 (gF M3 5)) 8 (gF (sF M3 7 (gF M3 5)) 6)) (2 : Int32)) fun v14 M15 =>
      some (v14, M15)
    )
  )
theorem hd12_edit : yX12_edit.cls = "FarEditorsModel" ∧ yX12_edit.cls ≠ "java/lang/invoke/MethodHandle" ∧ yX12_edit.cls ≠ "java/lang/invoke/VarHandle" ∧ (parseMethodDescriptor yX12_edit.desc).map (fun d => d.parameters.length) = some 1 := by decide +kernel
set_option maxHeartbeats 4000000 in
set_option maxRecDepth 100000 in
theorem c12_edit (l : Launch) (D : va_G) (h : Nat) (q : Nat → Nat) (y : CyT) (zM uM z u : Nat) {M M' : MS} {p1 : Int32} {r : Int32} (hf : f12_edit M p1 = some (r, M')) : CT l D y yX12_edit cX12_edit 2 (some .int) 5 121 zM uM [.ref h, .int p1] z u (mw h q y M) z u (mw h q y M') (some (.int r)) := by
  refine CT.of (by decide) (Nat.le_of_ble_eq_true rfl) (fun E hc hzz hnm => ?_)
  have hc : Cx E "FarEditorsModel" cX12_edit 2 := hc
  have hz := hzz.1
  have hT := hz.2.2.1
  show V E z u (mw h q y M) 0 [(0, .ref h), (1, .int p1)] []
  unfold f12_edit at hf
  refine V_aload_n hc dX12_edit_0 rfl 0 rfl ?_
  refine V_iload_n hc dX12_edit_1 rfl 1 rfl ?_
  obtain ⟨v1, hv1, hf⟩ := mb hf
  refine R_callVi hc hz (As := [.int p1]) (c12_isEditor l D h q y _ _ _ _ hv1) w8_80 w8_82 wp7_13 w1_13 w8_83 hd12_isEditor ⟨Nat.le_of_ble_eq_true rfl, Nat.le_of_ble_eq_true rfl⟩ rfl rfl (Nat.le_of_ble_eq_true rfl) dX12_edit_2 ?_
  refine V_if_ne hc dX12_edit_5 rfl (fun hq5 => ?_) (fun hq5 => ?_)
  · rw [if_neg hq5] at hf
    refine V_aload_n hc dX12_edit_19 rfl 0 rfl ?_
    obtain ⟨M2, hM2, hf⟩ := mb hf
    refine R_callVv hc hz (As := []) (c12_begins l D h q y _ _ _ _ hM2) w7_45 w7_47 wp4_1 w1_13 w7_48 hd12_begins ⟨Nat.le_of_ble_eq_true rfl, Nat.le_of_ble_eq_true rfl⟩ rfl rfl (Nat.le_of_ble_eq_true rfl) dX12_edit_20 ?_
    refine V_aload_n hc dX12_edit_23 rfl 0 rfl ?_
    refine V_iconst hc (v := (1 : Int32)) dX12_edit_24 rfl ?_
    obtain ⟨M3, hM3, hf⟩ := mb hf
    refine R_callVv hc hz (As := [.int (1 : Int32)]) (c12_opTold l D h q y _ _ _ _ hM3) w7_111 w7_113 wp5_0 w1_13 w7_114 hd12_opTold ⟨Nat.le_of_ble_eq_true rfl, Nat.le_of_ble_eq_true rfl⟩ rfl rfl (Nat.le_of_ble_eq_true rfl) dX12_edit_25 ?_
    refine V_aload_n hc dX12_edit_28 rfl 0 rfl ?_
    refine V_aload_n hc dX12_edit_29 rfl 0 rfl ?_
    refine R_geti hc 5 rfl (by decide) w6_63 dX12_edit_30 ?_
    refine R_puti hc 7 rfl (by decide) w6_65 rfl rfl rfl dX12_edit_33 ?_
    refine V_aload_n hc dX12_edit_36 rfl 0 rfl ?_
    refine V_aload_n hc dX12_edit_37 rfl 0 rfl ?_
    refine R_geti hc 6 rfl (by decide) w6_64 dX12_edit_38 ?_
    refine R_puti hc 8 rfl (by decide) w6_66 rfl rfl rfl dX12_edit_41 ?_
    refine V_aload_n hc dX12_edit_44 rfl 0 rfl ?_
    refine R_geti hc 5 rfl (by decide) w6_63 dX12_edit_45 ?_
    refine V_if_eq hc dX12_edit_48 rfl (fun hq48 => ?_) (fun hq48 => ?_)
    · rw [if_pos hq48] at hf
      refine V_aload_n hc dX12_edit_57 rfl 0 rfl ?_
      refine V_iconst hc (v := (0 : Int32)) dX12_edit_58 rfl ?_
      obtain ⟨M4, hM4, hf⟩ := mb hf
      refine R_callVv hc hz (As := [.int (0 : Int32)]) (c12_goesTo l D h q y _ _ _ _ hM4) w7_49 w7_51 wp4_2 w1_13 w7_52 hd12_goesTo ⟨Nat.le_of_ble_eq_true rfl, Nat.le_of_ble_eq_true rfl⟩ rfl rfl (Nat.le_of_ble_eq_true rfl) dX12_edit_59 ?_
      refine V_aload_n hc dX12_edit_62 rfl 0 rfl ?_
      refine V_iload_n hc dX12_edit_63 rfl 1 rfl ?_
      obtain ⟨v5, M6, hv5, hf⟩ := mb2 hf
      refine R_callVi hc hz (As := [.int p1]) (c12_isOp l D h q y _ _ _ _ hv5) w7_138 w7_140 wp5_6 w1_13 w7_141 hd12_isOp ⟨Nat.le_of_ble_eq_true rfl, Nat.le_of_ble_eq_true rfl⟩ rfl rfl (Nat.le_of_ble_eq_true rfl) dX12_edit_64 ?_
      obtain ⟨v7, M8, hv9, hf⟩ := mb2 hf
      have hJ67 : V E z u (mw h q y M8) 84 [] [.int v7] := by
        obtain ⟨rfl, rfl⟩ := si2 hf
        exact V_iret hc hzz rfl rfl rfl rfl rfl dX12_edit_84
      refine V_if_eq hc dX12_edit_67 rfl (fun hq67 => ?_) (fun hq67 => ?_)
      · rw [if_pos hq67] at hv9
        refine V_aload_n hc dX12_edit_79 rfl 0 rfl ?_
        refine V_iconst hc (v := (2 : Int32)) dX12_edit_80 rfl ?_
        obtain ⟨v10, M11, hv10, hv9⟩ := mb2 hv9
        refine R_callVi hc hz (As := [.int (2 : Int32)]) (c12_refuses l D h q y _ _ _ _ hv10) w7_17 w7_19 wp3_15 w1_13 w7_20 hd12_refuses ⟨Nat.le_of_ble_eq_true rfl, Nat.le_of_ble_eq_true rfl⟩ rfl rfl (Nat.le_of_ble_eq_true rfl) dX12_edit_81 ?_
        obtain ⟨rfl, rfl⟩ := si2 hv9
        exact V_sub [] rfl hJ67
      · rw [if_neg hq67] at hv9
        refine V_aload_n hc dX12_edit_70 rfl 0 rfl ?_
        refine V_iload_n hc dX12_edit_71 rfl 1 rfl ?_
        refine V_iconst hc (v := (0 : Int32)) dX12_edit_72 rfl ?_
        obtain ⟨v12, M13, hv12, hv9⟩ := mb2 hv9
        refine R_callVi hc hz (As := [.int p1, .int (0 : Int32)]) (c12_editDone l D h q y _ _ _ _ hv12) w8_230 w8_232 wp8_15 w1_13 w8_233 hd12_editDone ⟨Nat.le_of_ble_eq_true rfl, Nat.le_of_ble_eq_true rfl⟩ rfl rfl (Nat.le_of_ble_eq_true rfl) dX12_edit_73 ?_
        refine V_goto hc dX12_edit_76 rfl ?_
        obtain ⟨rfl, rfl⟩ := si2 hv9
        exact V_sub [] rfl hJ67
    · rw [if_neg hq48] at hf
      refine V_aload_n hc dX12_edit_51 rfl 0 rfl ?_
      refine V_iconst hc (v := (2 : Int32)) dX12_edit_52 rfl ?_
      obtain ⟨v14, M15, hv14, hf⟩ := mb2 hf
      refine R_callVi hc hz (As := [.int (2 : Int32)]) (c12_refuses l D h q y _ _ _ _ hv14) w7_17 w7_19 wp3_15 w1_13 w7_20 hd12_refuses ⟨Nat.le_of_ble_eq_true rfl, Nat.le_of_ble_eq_true rfl⟩ rfl rfl (Nat.le_of_ble_eq_true rfl) dX12_edit_53 ?_
      obtain ⟨rfl, rfl⟩ := si2 hf
      exact V_iret hc hzz rfl rfl rfl rfl rfl dX12_edit_56
  · rw [if_pos hq5] at hf
    refine V_aload_n hc dX12_edit_8 rfl 0 rfl ?_
    refine V_iconst hc (v := (0 : Int32)) dX12_edit_9 rfl ?_
    refine R_puti hc 1 rfl (by decide) w6_59 rfl rfl rfl dX12_edit_10 ?_
    refine V_aload_n hc dX12_edit_13 rfl 0 rfl ?_
    refine V_iconst hc (v := (2 : Int32)) dX12_edit_14 rfl ?_
    obtain ⟨v16, M17, hv16, hf⟩ := mb2 hf
    refine R_callVi hc hz (As := [.int (2 : Int32)]) (c12_refuses l D h q y _ _ _ _ hv16) w7_17 w7_19 wp3_15 w1_13 w7_20 hd12_refuses ⟨Nat.le_of_ble_eq_true rfl, Nat.le_of_ble_eq_true rfl⟩ rfl rfl (Nat.le_of_ble_eq_true rfl) dX12_edit_15 ?_
    obtain ⟨rfl, rfl⟩ := si2 hf
    exact V_iret hc hzz rfl rfl rfl rfl rfl dX12_edit_18
noncomputable def L12_laysA_8 (c1 : Int32) (c2 : Int32) (c3 : Int32) (c4 : Int32) : Nat → Int32 → MS → Option (MS)
  | 0, _, _ => none
  | n + 1, i5, M =>
    if c2 ≤ i5 then (
      some M
    ) else (
      (f12_givesA M (0 : Int32)).bind fun M1 =>
      L12_laysA_8 c1 c2 c3 c4 n (i5 + (1 : Int32)) M1
    )
noncomputable def L12_laysA_37 (c1 : Int32) (c2 : Int32) (c4 : Int32) : Nat → Int32 → MS → Option (MS)
  | 0, _, _ => none
  | n + 1, i5, M =>
    if c4 ≤ i5 then (
      some M
    ) else (
      (f12_givesA M (-1 : Int32)).bind fun M1 =>
      L12_laysA_37 c1 c2 c4 n (i5 + (1 : Int32)) M1
    )
noncomputable def L12_laysA_61 (c1 : Int32) : Nat → Int32 → MS → Option (MS)
  | 0, _, _ => none
  | n + 1, i5, M =>
    (f12_its M c1 (21 : Int32)).bind fun v1 =>
    if v1 ≤ i5 then (
      some M
    ) else (
      (f12_givesA M (0 : Int32)).bind fun M2 =>
      L12_laysA_61 c1 n (i5 + (1 : Int32)) M2
    )
noncomputable def f12_laysA (M : MS) (p1 : Int32) (p2 : Int32) (p3 : Int32) (p4 : Int32) : Option (MS) :=
  (L12_laysA_8 p1 p2 p3 p4 FU (0 : Int32) (sF M 25 (0 : Int32))).bind fun M1 =>
  (
    if p3 ≤ 0 then (
      some M1
    ) else (
      (f12_givesA M1 p3).bind fun M5 =>
      some M5
    )
  ).bind fun M3 =>
  (L12_laysA_37 p1 p2 p4 FU (0 : Int32) M3).bind fun M6 =>
  (L12_laysA_61 p1 FU (p2 + p4) M6).bind fun M8 =>
  some M8
theorem hd12_laysA : yX12_laysA.cls = "FarEditorsModel" ∧ yX12_laysA.cls ≠ "java/lang/invoke/MethodHandle" ∧ yX12_laysA.cls ≠ "java/lang/invoke/VarHandle" ∧ (parseMethodDescriptor yX12_laysA.desc).map (fun d => d.parameters.length) = some 4 := by decide +kernel
set_option maxHeartbeats 4000000 in
set_option maxRecDepth 100000 in
theorem L12_laysA_8_ok {E : CxT} {l : Launch} {D : va_G} {h : Nat} {q : Nat → Nat} {y : CyT} {zM uM z u : Nat} (hc : Cx E "FarEditorsModel" cX12_laysA 6) (hz : Cy E l D y 1 22 zM uM) (c1 : Int32) (c2 : Int32) (c3 : Int32) (c4 : Int32) : ∀ (n : Nat) (i5 : Int32) (M : MS) {Mo : MS}, L12_laysA_8 c1 c2 c3 c4 n i5 M = some Mo → (hx0 : V E z u (mw h q y Mo) 25 [(0, .ref h), (1, .int c1), (2, .int c2), (3, .int c3), (4, .int c4)] []) → V E z u (mw h q y M) 8 [(0, .ref h), (1, .int c1), (2, .int c2), (3, .int c3), (4, .int c4), (5, .int i5)] [] := by
  have hT := hz.2.2.1
  intro n
  induction n with
  | zero => intro i5 M Mo hf; cases hf
  | succ n ih =>
    intro i5 M Mo hf hx0
    unfold L12_laysA_8 at hf
    refine V_iload hc dX12_laysA_8 5 rfl ?_
    refine V_iload_n hc dX12_laysA_10 rfl 2 rfl ?_
    refine V_icmp_ge hc dX12_laysA_11 rfl (fun hq11 => ?_) (fun hq11 => ?_)
    · rw [if_pos hq11] at hf
      obtain rfl := Option.some.inj hf
      exact V_sub [0, 1, 2, 3, 4] rfl hx0
    · rw [if_neg hq11] at hf
      refine V_aload_n hc dX12_laysA_14 rfl 0 rfl ?_
      refine V_iconst hc (v := (0 : Int32)) dX12_laysA_15 rfl ?_
      obtain ⟨M1, hM1, hf⟩ := mb hf
      refine R_callVv hc hz (As := [.int (0 : Int32)]) (c12_givesA l D h q y _ _ _ _ hM1) w7_146 w7_148 wp5_8 w1_13 w7_149 hd12_givesA ⟨Nat.le_of_ble_eq_true rfl, Nat.le_of_ble_eq_true rfl⟩ rfl rfl (Nat.le_of_ble_eq_true rfl) dX12_laysA_16 ?_
      refine V_iinc hc (j := 5) (v := (i5 + (1 : Int32))) dX12_laysA_19 rfl rfl (by decide) rfl ?_
      refine V_goto hc dX12_laysA_22 rfl ?_
      exact V_sub [1, 2, 3, 4, 5, 0] rfl (ih _ _ hf hx0)
set_option maxHeartbeats 4000000 in
set_option maxRecDepth 100000 in
theorem L12_laysA_37_ok {E : CxT} {l : Launch} {D : va_G} {h : Nat} {q : Nat → Nat} {y : CyT} {zM uM z u : Nat} (hc : Cx E "FarEditorsModel" cX12_laysA 6) (hz : Cy E l D y 1 22 zM uM) (c1 : Int32) (c2 : Int32) (c4 : Int32) : ∀ (n : Nat) (i5 : Int32) (M : MS) {Mo : MS}, L12_laysA_37 c1 c2 c4 n i5 M = some Mo → (hx0 : V E z u (mw h q y Mo) 55 [(0, .ref h), (1, .int c1), (2, .int c2), (4, .int c4)] []) → V E z u (mw h q y M) 37 [(0, .ref h), (1, .int c1), (2, .int c2), (4, .int c4), (5, .int i5)] [] := by
  have hT := hz.2.2.1
  intro n
  induction n with
  | zero => intro i5 M Mo hf; cases hf
  | succ n ih =>
    intro i5 M Mo hf hx0
    unfold L12_laysA_37 at hf
    refine V_iload hc dX12_laysA_37 4 rfl ?_
    refine V_iload hc dX12_laysA_39 3 rfl ?_
    refine V_icmp_ge hc dX12_laysA_41 rfl (fun hq41 => ?_) (fun hq41 => ?_)
    · rw [if_pos hq41] at hf
      obtain rfl := Option.some.inj hf
      exact V_sub [0, 1, 2, 3] rfl hx0
    · rw [if_neg hq41] at hf
      refine V_aload_n hc dX12_laysA_44 rfl 0 rfl ?_
      refine V_iconst hc (v := (-1 : Int32)) dX12_laysA_45 rfl ?_
      obtain ⟨M1, hM1, hf⟩ := mb hf
      refine R_callVv hc hz (As := [.int (-1 : Int32)]) (c12_givesA l D h q y _ _ _ _ hM1) w7_146 w7_148 wp5_8 w1_13 w7_149 hd12_givesA ⟨Nat.le_of_ble_eq_true rfl, Nat.le_of_ble_eq_true rfl⟩ rfl rfl (Nat.le_of_ble_eq_true rfl) dX12_laysA_46 ?_
      refine V_iinc hc (j := 4) (v := (i5 + (1 : Int32))) dX12_laysA_49 rfl rfl (by decide) rfl ?_
      refine V_goto hc dX12_laysA_52 rfl ?_
      exact V_sub [1, 2, 3, 4, 0] rfl (ih _ _ hf hx0)
set_option maxHeartbeats 4000000 in
set_option maxRecDepth 100000 in
theorem L12_laysA_61_ok {E : CxT} {l : Launch} {D : va_G} {h : Nat} {q : Nat → Nat} {y : CyT} {zM uM z u : Nat} (hc : Cx E "FarEditorsModel" cX12_laysA 6) (hz : Cy E l D y 1 22 zM uM) (c1 : Int32) : ∀ (n : Nat) (i5 : Int32) (M : MS) {Mo : MS}, L12_laysA_61 c1 n i5 M = some Mo → (hx0 : V E z u (mw h q y Mo) 84 [] []) → V E z u (mw h q y M) 61 [(0, .ref h), (1, .int c1), (5, .int i5)] [] := by
  have hT := hz.2.2.1
  intro n
  induction n with
  | zero => intro i5 M Mo hf; cases hf
  | succ n ih =>
    intro i5 M Mo hf hx0
    unfold L12_laysA_61 at hf
    refine V_iload hc dX12_laysA_61 2 rfl ?_
    refine V_aload_n hc dX12_laysA_63 rfl 0 rfl ?_
    refine V_iload_n hc dX12_laysA_64 rfl 1 rfl ?_
    refine V_bipush hc (v := (21 : Int32)) dX12_laysA_65 rfl ?_
    obtain ⟨v1, hv1, hf⟩ := mb hf
    refine R_callVi hc hz (As := [.int c1, .int (21 : Int32)]) (c12_its l D h q y _ _ _ _ hv1) w7_142 w7_144 wp5_7 w1_13 w7_145 hd12_its ⟨Nat.le_of_ble_eq_true rfl, Nat.le_of_ble_eq_true rfl⟩ rfl rfl (Nat.le_of_ble_eq_true rfl) dX12_laysA_67 ?_
    refine V_icmp_ge hc dX12_laysA_70 rfl (fun hq70 => ?_) (fun hq70 => ?_)
    · rw [if_pos hq70] at hf
      obtain rfl := Option.some.inj hf
      exact V_sub [] rfl hx0
    · rw [if_neg hq70] at hf
      refine V_aload_n hc dX12_laysA_73 rfl 0 rfl ?_
      refine V_iconst hc (v := (0 : Int32)) dX12_laysA_74 rfl ?_
      obtain ⟨M2, hM2, hf⟩ := mb hf
      refine R_callVv hc hz (As := [.int (0 : Int32)]) (c12_givesA l D h q y _ _ _ _ hM2) w7_146 w7_148 wp5_8 w1_13 w7_149 hd12_givesA ⟨Nat.le_of_ble_eq_true rfl, Nat.le_of_ble_eq_true rfl⟩ rfl rfl (Nat.le_of_ble_eq_true rfl) dX12_laysA_75 ?_
      refine V_iinc hc (j := 2) (v := (i5 + (1 : Int32))) dX12_laysA_78 rfl rfl (by decide) rfl ?_
      refine V_goto hc dX12_laysA_81 rfl ?_
      exact V_sub [1, 2, 0] rfl (ih _ _ hf hx0)
set_option maxHeartbeats 4000000 in
set_option maxRecDepth 100000 in
theorem c12_laysA (l : Launch) (D : va_G) (h : Nat) (q : Nat → Nat) (y : CyT) (zM uM z u : Nat) {M M' : MS} {p1 : Int32} {p2 : Int32} {p3 : Int32} {p4 : Int32} (hf : f12_laysA M p1 p2 p3 p4 = some M') : CT l D y yX12_laysA cX12_laysA 6 none 1 22 zM uM [.ref h, .int p1, .int p2, .int p3, .int p4] z u (mw h q y M) z u (mw h q y M') none := by
  refine CT.of (by decide) (Nat.le_of_ble_eq_true rfl) (fun E hc hzz hnm => ?_)
  have hc : Cx E "FarEditorsModel" cX12_laysA 6 := hc
  have hz := hzz.1
  have hT := hz.2.2.1
  show V E z u (mw h q y M) 0 [(0, .ref h), (1, .int p1), (2, .int p2), (3, .int p3), (4, .int p4)] []
  unfold f12_laysA at hf
  refine V_aload_n hc dX12_laysA_0 rfl 0 rfl ?_
  refine V_iconst hc (v := (0 : Int32)) dX12_laysA_1 rfl ?_
  refine R_puti hc 25 rfl (by decide) w6_83 rfl rfl rfl dX12_laysA_2 ?_
  refine V_iconst hc (v := (0 : Int32)) dX12_laysA_5 rfl ?_
  refine V_istore hc dX12_laysA_6 (by decide) rfl ?_
  obtain ⟨M1, hv2, hf⟩ := mb hf
  refine V_sub [1, 2, 3, 4, 5, 0] rfl (L12_laysA_8_ok hc hz p1 p2 p3 p4 FU _ _ hv2 ?_)
  refine V_iload_n hc dX12_laysA_25 rfl 3 rfl ?_
  obtain ⟨M3, hv4, hf⟩ := mb hf
  have hJ26 : V E z u (mw h q y M3) 34 [(0, .ref h), (1, .int p1), (2, .int p2), (4, .int p4)] [] := by
    refine V_iconst hc (v := (0 : Int32)) dX12_laysA_34 rfl ?_
    refine V_istore hc dX12_laysA_35 (by decide) rfl ?_
    obtain ⟨M6, hv7, hf⟩ := mb hf
    refine V_sub [1, 2, 3, 4, 0] rfl (L12_laysA_37_ok hc hz p1 p2 p4 FU _ _ hv7 ?_)
    refine V_iload_n hc dX12_laysA_55 rfl 2 rfl ?_
    refine V_iload hc dX12_laysA_56 3 rfl ?_
    refine V_iadd hc dX12_laysA_58 ?_
    refine V_istore hc dX12_laysA_59 (by decide) rfl ?_
    obtain ⟨M8, hv9, hf⟩ := mb hf
    refine V_sub [1, 2, 0] rfl (L12_laysA_61_ok hc hz p1 FU _ _ hv9 ?_)
    obtain rfl := Option.some.inj hf
    exact V_vret hc hzz rfl rfl rfl rfl dX12_laysA_84
  refine V_if_le hc dX12_laysA_26 rfl (fun hq26 => ?_) (fun hq26 => ?_)
  · rw [if_pos hq26] at hv4
    obtain rfl := Option.some.inj hv4
    exact V_sub [0, 1, 2, 4] rfl hJ26
  · rw [if_neg hq26] at hv4
    refine V_aload_n hc dX12_laysA_29 rfl 0 rfl ?_
    refine V_iload_n hc dX12_laysA_30 rfl 3 rfl ?_
    obtain ⟨M5, hM5, hv4⟩ := mb hv4
    refine R_callVv hc hz (As := [.int p3]) (c12_givesA l D h q y _ _ _ _ hM5) w7_146 w7_148 wp5_8 w1_13 w7_149 hd12_givesA ⟨Nat.le_of_ble_eq_true rfl, Nat.le_of_ble_eq_true rfl⟩ rfl rfl (Nat.le_of_ble_eq_true rfl) dX12_laysA_31 ?_
    obtain rfl := Option.some.inj hv4
    exact V_sub [0, 1, 2, 4] rfl hJ26
noncomputable def f12_put (M : MS) (p1 : Int32) (p2 : Int32) (p3 : Int32) : Option (Int32 × MS) :=
  (f12_isEditor M p1).bind fun v1 =>
  if v1 = 0 then (
    bn2 (f12_refuses M (2 : Int32)) fun v2 M3 =>
    some (v2, M3)
  ) else (
    (f12_isIn p3.toInt64 (1 : Int64) (26 : Int64)).bind fun v4 =>
    if v4 = 0 then (
      bn2 (f12_refuses M (2 : Int32)) fun v5 M6 =>
      some (v5, M6)
    ) else (
      (f12_its M p1 (21 : Int32)).bind fun v7 =>
      (f12_isIn p2.toInt64 (0 : Int64) v7.toInt64).bind fun v8 =>
      if v8 = 0 then (
        bn2 (f12_refuses M (2 : Int32)) fun v12 M13 =>
        some (v12, M13)
      ) else (
        (f12_laysA M p1 p2 p3 (0 : Int32)).bind fun M9 =>
        bn2 (f12_editDone M9 p1 (0 : Int32)) fun v10 M11 =>
        some (v10, M11)
      )
    )
  )
theorem hd12_put : yX12_put.cls = "FarEditorsModel" ∧ yX12_put.cls ≠ "java/lang/invoke/MethodHandle" ∧ yX12_put.cls ≠ "java/lang/invoke/VarHandle" ∧ (parseMethodDescriptor yX12_put.desc).map (fun d => d.parameters.length) = some 3 := by decide +kernel
set_option maxHeartbeats 4000000 in
set_option maxRecDepth 100000 in
theorem c12_put (l : Launch) (D : va_G) (h : Nat) (q : Nat → Nat) (y : CyT) (zM uM z u : Nat) {M M' : MS} {p1 : Int32} {p2 : Int32} {p3 : Int32} {r : Int32} (hf : f12_put M p1 p2 p3 = some (r, M')) : CT l D y yX12_put cX12_put 4 (some .int) 5 121 zM uM [.ref h, .int p1, .int p2, .int p3] z u (mw h q y M) z u (mw h q y M') (some (.int r)) := by
  refine CT.of (by decide) (Nat.le_of_ble_eq_true rfl) (fun E hc hzz hnm => ?_)
  have hc : Cx E "FarEditorsModel" cX12_put 4 := hc
  have hz := hzz.1
  have hT := hz.2.2.1
  show V E z u (mw h q y M) 0 [(0, .ref h), (1, .int p1), (2, .int p2), (3, .int p3)] []
  unfold f12_put at hf
  refine V_aload_n hc dX12_put_0 rfl 0 rfl ?_
  refine V_iload_n hc dX12_put_1 rfl 1 rfl ?_
  obtain ⟨v1, hv1, hf⟩ := mb hf
  refine R_callVi hc hz (As := [.int p1]) (c12_isEditor l D h q y _ _ _ _ hv1) w8_80 w8_82 wp7_13 w1_13 w8_83 hd12_isEditor ⟨Nat.le_of_ble_eq_true rfl, Nat.le_of_ble_eq_true rfl⟩ rfl rfl (Nat.le_of_ble_eq_true rfl) dX12_put_2 ?_
  refine V_if_eq hc dX12_put_5 rfl (fun hq5 => ?_) (fun hq5 => ?_)
  · rw [if_pos hq5] at hf
    refine V_aload_n hc dX12_put_37 rfl 0 rfl ?_
    refine V_iconst hc (v := (2 : Int32)) dX12_put_38 rfl ?_
    obtain ⟨v2, M3, hv2, hf⟩ := mb2 hf
    refine R_callVi hc hz (As := [.int (2 : Int32)]) (c12_refuses l D h q y _ _ _ _ hv2) w7_17 w7_19 wp3_15 w1_13 w7_20 hd12_refuses ⟨Nat.le_of_ble_eq_true rfl, Nat.le_of_ble_eq_true rfl⟩ rfl rfl (Nat.le_of_ble_eq_true rfl) dX12_put_39 ?_
    obtain ⟨rfl, rfl⟩ := si2 hf
    exact V_iret hc hzz rfl rfl rfl rfl rfl dX12_put_42
  · rw [if_neg hq5] at hf
    refine V_iload_n hc dX12_put_8 rfl 3 rfl ?_
    refine V_i2l hc dX12_put_9 ?_
    refine V_lconst hc (v := (1 : Int64)) dX12_put_10 rfl ?_
    refine V_ldc2 hc w9_2 dX12_put_11 ?_
    obtain ⟨v4, hv4, hf⟩ := mb hf
    refine R_callSi hc hz (As := [.long p3.toInt64, .long (1 : Int64), .long (26 : Int64)]) (c12_isIn l D h q y _ _ _ _ hv4) w7_34 w7_35 w1_13 w7_36 hd12_isIn ⟨Nat.le_of_ble_eq_true rfl, Nat.le_of_ble_eq_true rfl⟩ rfl rfl (Nat.le_of_ble_eq_true rfl) dX12_put_14 ?_
    refine V_if_eq hc dX12_put_17 rfl (fun hq17 => ?_) (fun hq17 => ?_)
    · rw [if_pos hq17] at hf
      refine V_aload_n hc dX12_put_37 rfl 0 rfl ?_
      refine V_iconst hc (v := (2 : Int32)) dX12_put_38 rfl ?_
      obtain ⟨v5, M6, hv5, hf⟩ := mb2 hf
      refine R_callVi hc hz (As := [.int (2 : Int32)]) (c12_refuses l D h q y _ _ _ _ hv5) w7_17 w7_19 wp3_15 w1_13 w7_20 hd12_refuses ⟨Nat.le_of_ble_eq_true rfl, Nat.le_of_ble_eq_true rfl⟩ rfl rfl (Nat.le_of_ble_eq_true rfl) dX12_put_39 ?_
      obtain ⟨rfl, rfl⟩ := si2 hf
      exact V_iret hc hzz rfl rfl rfl rfl rfl dX12_put_42
    · rw [if_neg hq17] at hf
      refine V_iload_n hc dX12_put_20 rfl 2 rfl ?_
      refine V_i2l hc dX12_put_21 ?_
      refine V_lconst hc (v := (0 : Int64)) dX12_put_22 rfl ?_
      refine V_aload_n hc dX12_put_23 rfl 0 rfl ?_
      refine V_iload_n hc dX12_put_24 rfl 1 rfl ?_
      refine V_bipush hc (v := (21 : Int32)) dX12_put_25 rfl ?_
      obtain ⟨v7, hv7, hf⟩ := mb hf
      refine R_callVi hc hz (As := [.int p1, .int (21 : Int32)]) (c12_its l D h q y _ _ _ _ hv7) w7_142 w7_144 wp5_7 w1_13 w7_145 hd12_its ⟨Nat.le_of_ble_eq_true rfl, Nat.le_of_ble_eq_true rfl⟩ rfl rfl (Nat.le_of_ble_eq_true rfl) dX12_put_27 ?_
      refine V_i2l hc dX12_put_30 ?_
      obtain ⟨v8, hv8, hf⟩ := mb hf
      refine R_callSi hc hz (As := [.long p2.toInt64, .long (0 : Int64), .long v7.toInt64]) (c12_isIn l D h q y _ _ _ _ hv8) w7_34 w7_35 w1_13 w7_36 hd12_isIn ⟨Nat.le_of_ble_eq_true rfl, Nat.le_of_ble_eq_true rfl⟩ rfl rfl (Nat.le_of_ble_eq_true rfl) dX12_put_31 ?_
      refine V_if_ne hc dX12_put_34 rfl (fun hq34 => ?_) (fun hq34 => ?_)
      · rw [if_neg hq34] at hf
        refine V_aload_n hc dX12_put_43 rfl 0 rfl ?_
        refine V_iload_n hc dX12_put_44 rfl 1 rfl ?_
        refine V_iload_n hc dX12_put_45 rfl 2 rfl ?_
        refine V_iload_n hc dX12_put_46 rfl 3 rfl ?_
        refine V_iconst hc (v := (0 : Int32)) dX12_put_47 rfl ?_
        obtain ⟨M9, hM9, hf⟩ := mb hf
        refine R_callVv hc hz (As := [.int p1, .int p2, .int p3, .int (0 : Int32)]) (c12_laysA l D h q y _ _ _ _ hM9) w9_3 w9_5 wp9_1 w1_13 w9_6 hd12_laysA ⟨Nat.le_of_ble_eq_true rfl, Nat.le_of_ble_eq_true rfl⟩ rfl rfl (Nat.le_of_ble_eq_true rfl) dX12_put_48 ?_
        refine V_aload_n hc dX12_put_51 rfl 0 rfl ?_
        refine V_iload_n hc dX12_put_52 rfl 1 rfl ?_
        refine V_iconst hc (v := (0 : Int32)) dX12_put_53 rfl ?_
        obtain ⟨v10, M11, hv10, hf⟩ := mb2 hf
        refine R_callVi hc hz (As := [.int p1, .int (0 : Int32)]) (c12_editDone l D h q y _ _ _ _ hv10) w8_230 w8_232 wp8_15 w1_13 w8_233 hd12_editDone ⟨Nat.le_of_ble_eq_true rfl, Nat.le_of_ble_eq_true rfl⟩ rfl rfl (Nat.le_of_ble_eq_true rfl) dX12_put_54 ?_
        obtain ⟨rfl, rfl⟩ := si2 hf
        exact V_iret hc hzz rfl rfl rfl rfl rfl dX12_put_57
      · rw [if_pos hq34] at hf
        refine V_aload_n hc dX12_put_37 rfl 0 rfl ?_
        refine V_iconst hc (v := (2 : Int32)) dX12_put_38 rfl ?_
        obtain ⟨v12, M13, hv12, hf⟩ := mb2 hf
        refine R_callVi hc hz (As := [.int (2 : Int32)]) (c12_refuses l D h q y _ _ _ _ hv12) w7_17 w7_19 wp3_15 w1_13 w7_20 hd12_refuses ⟨Nat.le_of_ble_eq_true rfl, Nat.le_of_ble_eq_true rfl⟩ rfl rfl (Nat.le_of_ble_eq_true rfl) dX12_put_39 ?_
        obtain ⟨rfl, rfl⟩ := si2 hf
        exact V_iret hc hzz rfl rfl rfl rfl rfl dX12_put_42
noncomputable def f12_cut (M : MS) (p1 : Int32) (p2 : Int32) (p3 : Int32) : Option (Int32 × MS) :=
  (f12_isEditor M p1).bind fun v1 =>
  if v1 = 0 then (
    bn2 (f12_refuses M (2 : Int32)) fun v2 M3 =>
    some (v2, M3)
  ) else (
    (f12_its M p1 (21 : Int32)).bind fun v4 =>
    (f12_isIn p2.toInt64 (0 : Int64) v4.toInt64).bind fun v5 =>
    if v5 = 0 then (
      bn2 (f12_refuses M (2 : Int32)) fun v6 M7 =>
      some (v6, M7)
    ) else (
      (f12_its M p1 (21 : Int32)).bind fun v8 =>
      (f12_isIn p3.toInt64 (1 : Int64) (v8 - p2).toInt64).bind fun v9 =>
      if v9 = 0 then (
        bn2 (f12_refuses M (2 : Int32)) fun v13 M14 =>
        some (v13, M14)
      ) else (
        (f12_laysA M p1 p2 (0 : Int32) p3).bind fun M10 =>
        bn2 (f12_editDone M10 p1 (0 : Int32)) fun v11 M12 =>
        some (v11, M12)
      )
    )
  )
theorem hd12_cut : yX12_cut.cls = "FarEditorsModel" ∧ yX12_cut.cls ≠ "java/lang/invoke/MethodHandle" ∧ yX12_cut.cls ≠ "java/lang/invoke/VarHandle" ∧ (parseMethodDescriptor yX12_cut.desc).map (fun d => d.parameters.length) = some 3 := by decide +kernel
set_option maxHeartbeats 4000000 in
set_option maxRecDepth 100000 in
theorem c12_cut (l : Launch) (D : va_G) (h : Nat) (q : Nat → Nat) (y : CyT) (zM uM z u : Nat) {M M' : MS} {p1 : Int32} {p2 : Int32} {p3 : Int32} {r : Int32} (hf : f12_cut M p1 p2 p3 = some (r, M')) : CT l D y yX12_cut cX12_cut 4 (some .int) 5 121 zM uM [.ref h, .int p1, .int p2, .int p3] z u (mw h q y M) z u (mw h q y M') (some (.int r)) := by
  refine CT.of (by decide) (Nat.le_of_ble_eq_true rfl) (fun E hc hzz hnm => ?_)
  have hc : Cx E "FarEditorsModel" cX12_cut 4 := hc
  have hz := hzz.1
  have hT := hz.2.2.1
  show V E z u (mw h q y M) 0 [(0, .ref h), (1, .int p1), (2, .int p2), (3, .int p3)] []
  unfold f12_cut at hf
  refine V_aload_n hc dX12_cut_0 rfl 0 rfl ?_
  refine V_iload_n hc dX12_cut_1 rfl 1 rfl ?_
  obtain ⟨v1, hv1, hf⟩ := mb hf
  refine R_callVi hc hz (As := [.int p1]) (c12_isEditor l D h q y _ _ _ _ hv1) w8_80 w8_82 wp7_13 w1_13 w8_83 hd12_isEditor ⟨Nat.le_of_ble_eq_true rfl, Nat.le_of_ble_eq_true rfl⟩ rfl rfl (Nat.le_of_ble_eq_true rfl) dX12_cut_2 ?_
  refine V_if_eq hc dX12_cut_5 rfl (fun hq5 => ?_) (fun hq5 => ?_)
  · rw [if_pos hq5] at hf
    refine V_aload_n hc dX12_cut_44 rfl 0 rfl ?_
    refine V_iconst hc (v := (2 : Int32)) dX12_cut_45 rfl ?_
    obtain ⟨v2, M3, hv2, hf⟩ := mb2 hf
    refine R_callVi hc hz (As := [.int (2 : Int32)]) (c12_refuses l D h q y _ _ _ _ hv2) w7_17 w7_19 wp3_15 w1_13 w7_20 hd12_refuses ⟨Nat.le_of_ble_eq_true rfl, Nat.le_of_ble_eq_true rfl⟩ rfl rfl (Nat.le_of_ble_eq_true rfl) dX12_cut_46 ?_
    obtain ⟨rfl, rfl⟩ := si2 hf
    exact V_iret hc hzz rfl rfl rfl rfl rfl dX12_cut_49
  · rw [if_neg hq5] at hf
    refine V_iload_n hc dX12_cut_8 rfl 2 rfl ?_
    refine V_i2l hc dX12_cut_9 ?_
    refine V_lconst hc (v := (0 : Int64)) dX12_cut_10 rfl ?_
    refine V_aload_n hc dX12_cut_11 rfl 0 rfl ?_
    refine V_iload_n hc dX12_cut_12 rfl 1 rfl ?_
    refine V_bipush hc (v := (21 : Int32)) dX12_cut_13 rfl ?_
    obtain ⟨v4, hv4, hf⟩ := mb hf
    refine R_callVi hc hz (As := [.int p1, .int (21 : Int32)]) (c12_its l D h q y _ _ _ _ hv4) w7_142 w7_144 wp5_7 w1_13 w7_145 hd12_its ⟨Nat.le_of_ble_eq_true rfl, Nat.le_of_ble_eq_true rfl⟩ rfl rfl (Nat.le_of_ble_eq_true rfl) dX12_cut_15 ?_
    refine V_i2l hc dX12_cut_18 ?_
    obtain ⟨v5, hv5, hf⟩ := mb hf
    refine R_callSi hc hz (As := [.long p2.toInt64, .long (0 : Int64), .long v4.toInt64]) (c12_isIn l D h q y _ _ _ _ hv5) w7_34 w7_35 w1_13 w7_36 hd12_isIn ⟨Nat.le_of_ble_eq_true rfl, Nat.le_of_ble_eq_true rfl⟩ rfl rfl (Nat.le_of_ble_eq_true rfl) dX12_cut_19 ?_
    refine V_if_eq hc dX12_cut_22 rfl (fun hq22 => ?_) (fun hq22 => ?_)
    · rw [if_pos hq22] at hf
      refine V_aload_n hc dX12_cut_44 rfl 0 rfl ?_
      refine V_iconst hc (v := (2 : Int32)) dX12_cut_45 rfl ?_
      obtain ⟨v6, M7, hv6, hf⟩ := mb2 hf
      refine R_callVi hc hz (As := [.int (2 : Int32)]) (c12_refuses l D h q y _ _ _ _ hv6) w7_17 w7_19 wp3_15 w1_13 w7_20 hd12_refuses ⟨Nat.le_of_ble_eq_true rfl, Nat.le_of_ble_eq_true rfl⟩ rfl rfl (Nat.le_of_ble_eq_true rfl) dX12_cut_46 ?_
      obtain ⟨rfl, rfl⟩ := si2 hf
      exact V_iret hc hzz rfl rfl rfl rfl rfl dX12_cut_49
    · rw [if_neg hq22] at hf
      refine V_iload_n hc dX12_cut_25 rfl 3 rfl ?_
      refine V_i2l hc dX12_cut_26 ?_
      refine V_lconst hc (v := (1 : Int64)) dX12_cut_27 rfl ?_
      refine V_aload_n hc dX12_cut_28 rfl 0 rfl ?_
      refine V_iload_n hc dX12_cut_29 rfl 1 rfl ?_
      refine V_bipush hc (v := (21 : Int32)) dX12_cut_30 rfl ?_
      obtain ⟨v8, hv8, hf⟩ := mb hf
      refine R_callVi hc hz (As := [.int p1, .int (21 : Int32)]) (c12_its l D h q y _ _ _ _ hv8) w7_142 w7_144 wp5_7 w1_13 w7_145 hd12_its ⟨Nat.le_of_ble_eq_true rfl, Nat.le_of_ble_eq_true rfl⟩ rfl rfl (Nat.le_of_ble_eq_true rfl) dX12_cut_32 ?_
      refine V_iload_n hc dX12_cut_35 rfl 2 rfl ?_
      refine V_isub hc dX12_cut_36 ?_
      refine V_i2l hc dX12_cut_37 ?_
      obtain ⟨v9, hv9, hf⟩ := mb hf
      refine R_callSi hc hz (As := [.long p3.toInt64, .long (1 : Int64), .long (v8 - p2).toInt64]) (c12_isIn l D h q y _ _ _ _ hv9) w7_34 w7_35 w1_13 w7_36 hd12_isIn ⟨Nat.le_of_ble_eq_true rfl, Nat.le_of_ble_eq_true rfl⟩ rfl rfl (Nat.le_of_ble_eq_true rfl) dX12_cut_38 ?_
      refine V_if_ne hc dX12_cut_41 rfl (fun hq41 => ?_) (fun hq41 => ?_)
      · rw [if_neg hq41] at hf
        refine V_aload_n hc dX12_cut_50 rfl 0 rfl ?_
        refine V_iload_n hc dX12_cut_51 rfl 1 rfl ?_
        refine V_iload_n hc dX12_cut_52 rfl 2 rfl ?_
        refine V_iconst hc (v := (0 : Int32)) dX12_cut_53 rfl ?_
        refine V_iload_n hc dX12_cut_54 rfl 3 rfl ?_
        obtain ⟨M10, hM10, hf⟩ := mb hf
        refine R_callVv hc hz (As := [.int p1, .int p2, .int (0 : Int32), .int p3]) (c12_laysA l D h q y _ _ _ _ hM10) w9_3 w9_5 wp9_1 w1_13 w9_6 hd12_laysA ⟨Nat.le_of_ble_eq_true rfl, Nat.le_of_ble_eq_true rfl⟩ rfl rfl (Nat.le_of_ble_eq_true rfl) dX12_cut_55 ?_
        refine V_aload_n hc dX12_cut_58 rfl 0 rfl ?_
        refine V_iload_n hc dX12_cut_59 rfl 1 rfl ?_
        refine V_iconst hc (v := (0 : Int32)) dX12_cut_60 rfl ?_
        obtain ⟨v11, M12, hv11, hf⟩ := mb2 hf
        refine R_callVi hc hz (As := [.int p1, .int (0 : Int32)]) (c12_editDone l D h q y _ _ _ _ hv11) w8_230 w8_232 wp8_15 w1_13 w8_233 hd12_editDone ⟨Nat.le_of_ble_eq_true rfl, Nat.le_of_ble_eq_true rfl⟩ rfl rfl (Nat.le_of_ble_eq_true rfl) dX12_cut_61 ?_
        obtain ⟨rfl, rfl⟩ := si2 hf
        exact V_iret hc hzz rfl rfl rfl rfl rfl dX12_cut_64
      · rw [if_pos hq41] at hf
        refine V_aload_n hc dX12_cut_44 rfl 0 rfl ?_
        refine V_iconst hc (v := (2 : Int32)) dX12_cut_45 rfl ?_
        obtain ⟨v13, M14, hv13, hf⟩ := mb2 hf
        refine R_callVi hc hz (As := [.int (2 : Int32)]) (c12_refuses l D h q y _ _ _ _ hv13) w7_17 w7_19 wp3_15 w1_13 w7_20 hd12_refuses ⟨Nat.le_of_ble_eq_true rfl, Nat.le_of_ble_eq_true rfl⟩ rfl rfl (Nat.le_of_ble_eq_true rfl) dX12_cut_46 ?_
        obtain ⟨rfl, rfl⟩ := si2 hf
        exact V_iret hc hzz rfl rfl rfl rfl rfl dX12_cut_49
noncomputable def f12_type (M : MS) (p1 : Int32) (p2 : Int32) : Option (Int32 × MS) :=
  (f12_isEditor M p1).bind fun v1 =>
  if v1 = 0 then (
    bn2 (f12_refuses M (2 : Int32)) fun v2 M3 =>
    some (v2, M3)
  ) else (
    (f12_isIn p2.toInt64 (0 : Int64) (26 : Int64)).bind fun v4 =>
    if v4 = 0 then (
      bn2 (f12_refuses M (2 : Int32)) fun v5 M6 =>
      some (v5, M6)
    ) else (
      if p2 = 0 then (
        (f12_its M p1 (1 : Int32)).bind fun v18 =>
        if v18 = 0 then (
          bn2 (f12_refuses M (2 : Int32)) fun v30 M31 =>
          some (v30, M31)
        ) else (
          (
            if p2 ≤ 0 then (
              (f12_its M p1 (1 : Int32)).bind fun v21 =>
              (f12_laysA M p1 (v21 - (1 : Int32)) (0 : Int32) (1 : Int32)).bind fun M22 =>
              some M22
            ) else (
              (f12_its M p1 (1 : Int32)).bind fun v23 =>
              (f12_laysA M p1 v23 p2 (0 : Int32)).bind fun M24 =>
              some M24
            )
          ).bind fun M19 =>
          bn2 (f12_editDone M19 p1 (0 : Int32)) fun v25 M26 =>
          (
            if v25 = (-1 : Int32) then (
              some (-1 : Int32)
            ) else (
              (f12_its M26 p1 (1 : Int32)).bind fun v29 =>
              some v29
            )
          ).bind fun v27 =>
          some (v27, M26)
        )
      ) else (
        (
          if p2 ≤ 0 then (
            (f12_its M p1 (1 : Int32)).bind fun v9 =>
            (f12_laysA M p1 (v9 - (1 : Int32)) (0 : Int32) (1 : Int32)).bind fun M10 =>
            some M10
          ) else (
            (f12_its M p1 (1 : Int32)).bind fun v11 =>
            (f12_laysA M p1 v11 p2 (0 : Int32)).bind fun M12 =>
            some M12
          )
        ).bind fun M7 =>
        bn2 (f12_editDone M7 p1 (0 : Int32)) fun v13 M14 =>
        (
          if v13 = (-1 : Int32) then (
            some (-1 : Int32)
          ) else (
            (f12_its M14 p1 (1 : Int32)).bind fun v17 =>
            some v17
          )
        ).bind fun v15 =>
        some (v15, M14)
      )
    )
  )
theorem hd12_type : yX12_type.cls = "FarEditorsModel" ∧ yX12_type.cls ≠ "java/lang/invoke/MethodHandle" ∧ yX12_type.cls ≠ "java/lang/invoke/VarHandle" ∧ (parseMethodDescriptor yX12_type.desc).map (fun d => d.parameters.length) = some 2 := by decide +kernel
set_option maxHeartbeats 4000000 in
set_option maxRecDepth 100000 in
theorem c12_type (l : Launch) (D : va_G) (h : Nat) (q : Nat → Nat) (y : CyT) (zM uM z u : Nat) {M M' : MS} {p1 : Int32} {p2 : Int32} {r : Int32} (hf : f12_type M p1 p2 = some (r, M')) : CT l D y yX12_type cX12_type 3 (some .int) 5 121 zM uM [.ref h, .int p1, .int p2] z u (mw h q y M) z u (mw h q y M') (some (.int r)) := by
  refine CT.of (by decide) (Nat.le_of_ble_eq_true rfl) (fun E hc hzz hnm => ?_)
  have hc : Cx E "FarEditorsModel" cX12_type 3 := hc
  have hz := hzz.1
  have hT := hz.2.2.1
  show V E z u (mw h q y M) 0 [(0, .ref h), (1, .int p1), (2, .int p2)] []
  unfold f12_type at hf
  refine V_aload_n hc dX12_type_0 rfl 0 rfl ?_
  refine V_iload_n hc dX12_type_1 rfl 1 rfl ?_
  obtain ⟨v1, hv1, hf⟩ := mb hf
  refine R_callVi hc hz (As := [.int p1]) (c12_isEditor l D h q y _ _ _ _ hv1) w8_80 w8_82 wp7_13 w1_13 w8_83 hd12_isEditor ⟨Nat.le_of_ble_eq_true rfl, Nat.le_of_ble_eq_true rfl⟩ rfl rfl (Nat.le_of_ble_eq_true rfl) dX12_type_2 ?_
  refine V_if_eq hc dX12_type_5 rfl (fun hq5 => ?_) (fun hq5 => ?_)
  · rw [if_pos hq5] at hf
    refine V_aload_n hc dX12_type_33 rfl 0 rfl ?_
    refine V_iconst hc (v := (2 : Int32)) dX12_type_34 rfl ?_
    obtain ⟨v2, M3, hv2, hf⟩ := mb2 hf
    refine R_callVi hc hz (As := [.int (2 : Int32)]) (c12_refuses l D h q y _ _ _ _ hv2) w7_17 w7_19 wp3_15 w1_13 w7_20 hd12_refuses ⟨Nat.le_of_ble_eq_true rfl, Nat.le_of_ble_eq_true rfl⟩ rfl rfl (Nat.le_of_ble_eq_true rfl) dX12_type_35 ?_
    obtain ⟨rfl, rfl⟩ := si2 hf
    exact V_iret hc hzz rfl rfl rfl rfl rfl dX12_type_38
  · rw [if_neg hq5] at hf
    refine V_iload_n hc dX12_type_8 rfl 2 rfl ?_
    refine V_i2l hc dX12_type_9 ?_
    refine V_lconst hc (v := (0 : Int64)) dX12_type_10 rfl ?_
    refine V_ldc2 hc w9_2 dX12_type_11 ?_
    obtain ⟨v4, hv4, hf⟩ := mb hf
    refine R_callSi hc hz (As := [.long p2.toInt64, .long (0 : Int64), .long (26 : Int64)]) (c12_isIn l D h q y _ _ _ _ hv4) w7_34 w7_35 w1_13 w7_36 hd12_isIn ⟨Nat.le_of_ble_eq_true rfl, Nat.le_of_ble_eq_true rfl⟩ rfl rfl (Nat.le_of_ble_eq_true rfl) dX12_type_14 ?_
    refine V_if_eq hc dX12_type_17 rfl (fun hq17 => ?_) (fun hq17 => ?_)
    · rw [if_pos hq17] at hf
      refine V_aload_n hc dX12_type_33 rfl 0 rfl ?_
      refine V_iconst hc (v := (2 : Int32)) dX12_type_34 rfl ?_
      obtain ⟨v5, M6, hv5, hf⟩ := mb2 hf
      refine R_callVi hc hz (As := [.int (2 : Int32)]) (c12_refuses l D h q y _ _ _ _ hv5) w7_17 w7_19 wp3_15 w1_13 w7_20 hd12_refuses ⟨Nat.le_of_ble_eq_true rfl, Nat.le_of_ble_eq_true rfl⟩ rfl rfl (Nat.le_of_ble_eq_true rfl) dX12_type_35 ?_
      obtain ⟨rfl, rfl⟩ := si2 hf
      exact V_iret hc hzz rfl rfl rfl rfl rfl dX12_type_38
    · rw [if_neg hq17] at hf
      refine V_iload_n hc dX12_type_20 rfl 2 rfl ?_
      refine V_if_ne hc dX12_type_21 rfl (fun hq21 => ?_) (fun hq21 => ?_)
      · rw [if_neg hq21] at hf
        refine V_iload_n hc dX12_type_39 rfl 2 rfl ?_
        obtain ⟨M7, hv8, hf⟩ := mb hf
        have hJ40 : V E z u (mw h q y M7) 74 [(0, .ref h), (1, .int p1)] [] := by
          refine V_aload_n hc dX12_type_74 rfl 0 rfl ?_
          refine V_iload_n hc dX12_type_75 rfl 1 rfl ?_
          refine V_iconst hc (v := (0 : Int32)) dX12_type_76 rfl ?_
          obtain ⟨v13, M14, hv13, hf⟩ := mb2 hf
          refine R_callVi hc hz (As := [.int p1, .int (0 : Int32)]) (c12_editDone l D h q y _ _ _ _ hv13) w8_230 w8_232 wp8_15 w1_13 w8_233 hd12_editDone ⟨Nat.le_of_ble_eq_true rfl, Nat.le_of_ble_eq_true rfl⟩ rfl rfl (Nat.le_of_ble_eq_true rfl) dX12_type_77 ?_
          refine V_iconst hc (v := (-1 : Int32)) dX12_type_80 rfl ?_
          obtain ⟨v15, hv16, hf⟩ := mb hf
          have hJ81 : V E z u (mw h q y M14) 94 [] [.int v15] := by
            obtain ⟨rfl, rfl⟩ := si2 hf
            exact V_iret hc hzz rfl rfl rfl rfl rfl dX12_type_94
          refine V_icmp_ne hc dX12_type_81 rfl (fun hq81 => ?_) (fun hq81 => ?_)
          · rw [if_neg hq81] at hv16
            refine V_aload_n hc dX12_type_88 rfl 0 rfl ?_
            refine V_iload_n hc dX12_type_89 rfl 1 rfl ?_
            refine V_iconst hc (v := (1 : Int32)) dX12_type_90 rfl ?_
            obtain ⟨v17, hv17, hv16⟩ := mb hv16
            refine R_callVi hc hz (As := [.int p1, .int (1 : Int32)]) (c12_its l D h q y _ _ _ _ hv17) w7_142 w7_144 wp5_7 w1_13 w7_145 hd12_its ⟨Nat.le_of_ble_eq_true rfl, Nat.le_of_ble_eq_true rfl⟩ rfl rfl (Nat.le_of_ble_eq_true rfl) dX12_type_91 ?_
            obtain rfl := Option.some.inj hv16
            exact V_sub [] rfl hJ81
          · rw [if_pos hq81] at hv16
            refine V_iconst hc (v := (-1 : Int32)) dX12_type_84 rfl ?_
            refine V_goto hc dX12_type_85 rfl ?_
            obtain rfl := Option.some.inj hv16
            exact V_sub [] rfl hJ81
        refine V_if_le hc dX12_type_40 rfl (fun hq40 => ?_) (fun hq40 => ?_)
        · rw [if_pos hq40] at hv8
          refine V_aload_n hc dX12_type_59 rfl 0 rfl ?_
          refine V_iload_n hc dX12_type_60 rfl 1 rfl ?_
          refine V_aload_n hc dX12_type_61 rfl 0 rfl ?_
          refine V_iload_n hc dX12_type_62 rfl 1 rfl ?_
          refine V_iconst hc (v := (1 : Int32)) dX12_type_63 rfl ?_
          obtain ⟨v9, hv9, hv8⟩ := mb hv8
          refine R_callVi hc hz (As := [.int p1, .int (1 : Int32)]) (c12_its l D h q y _ _ _ _ hv9) w7_142 w7_144 wp5_7 w1_13 w7_145 hd12_its ⟨Nat.le_of_ble_eq_true rfl, Nat.le_of_ble_eq_true rfl⟩ rfl rfl (Nat.le_of_ble_eq_true rfl) dX12_type_64 ?_
          refine V_iconst hc (v := (1 : Int32)) dX12_type_67 rfl ?_
          refine V_isub hc dX12_type_68 ?_
          refine V_iconst hc (v := (0 : Int32)) dX12_type_69 rfl ?_
          refine V_iconst hc (v := (1 : Int32)) dX12_type_70 rfl ?_
          obtain ⟨M10, hM10, hv8⟩ := mb hv8
          refine R_callVv hc hz (As := [.int p1, .int (v9 - (1 : Int32)), .int (0 : Int32), .int (1 : Int32)]) (c12_laysA l D h q y _ _ _ _ hM10) w9_3 w9_5 wp9_1 w1_13 w9_6 hd12_laysA ⟨Nat.le_of_ble_eq_true rfl, Nat.le_of_ble_eq_true rfl⟩ rfl rfl (Nat.le_of_ble_eq_true rfl) dX12_type_71 ?_
          obtain rfl := Option.some.inj hv8
          exact V_sub [0, 1] rfl hJ40
        · rw [if_neg hq40] at hv8
          refine V_aload_n hc dX12_type_43 rfl 0 rfl ?_
          refine V_iload_n hc dX12_type_44 rfl 1 rfl ?_
          refine V_aload_n hc dX12_type_45 rfl 0 rfl ?_
          refine V_iload_n hc dX12_type_46 rfl 1 rfl ?_
          refine V_iconst hc (v := (1 : Int32)) dX12_type_47 rfl ?_
          obtain ⟨v11, hv11, hv8⟩ := mb hv8
          refine R_callVi hc hz (As := [.int p1, .int (1 : Int32)]) (c12_its l D h q y _ _ _ _ hv11) w7_142 w7_144 wp5_7 w1_13 w7_145 hd12_its ⟨Nat.le_of_ble_eq_true rfl, Nat.le_of_ble_eq_true rfl⟩ rfl rfl (Nat.le_of_ble_eq_true rfl) dX12_type_48 ?_
          refine V_iload_n hc dX12_type_51 rfl 2 rfl ?_
          refine V_iconst hc (v := (0 : Int32)) dX12_type_52 rfl ?_
          obtain ⟨M12, hM12, hv8⟩ := mb hv8
          refine R_callVv hc hz (As := [.int p1, .int v11, .int p2, .int (0 : Int32)]) (c12_laysA l D h q y _ _ _ _ hM12) w9_3 w9_5 wp9_1 w1_13 w9_6 hd12_laysA ⟨Nat.le_of_ble_eq_true rfl, Nat.le_of_ble_eq_true rfl⟩ rfl rfl (Nat.le_of_ble_eq_true rfl) dX12_type_53 ?_
          refine V_goto hc dX12_type_56 rfl ?_
          obtain rfl := Option.some.inj hv8
          exact V_sub [0, 1] rfl hJ40
      · rw [if_pos hq21] at hf
        refine V_aload_n hc dX12_type_24 rfl 0 rfl ?_
        refine V_iload_n hc dX12_type_25 rfl 1 rfl ?_
        refine V_iconst hc (v := (1 : Int32)) dX12_type_26 rfl ?_
        obtain ⟨v18, hv18, hf⟩ := mb hf
        refine R_callVi hc hz (As := [.int p1, .int (1 : Int32)]) (c12_its l D h q y _ _ _ _ hv18) w7_142 w7_144 wp5_7 w1_13 w7_145 hd12_its ⟨Nat.le_of_ble_eq_true rfl, Nat.le_of_ble_eq_true rfl⟩ rfl rfl (Nat.le_of_ble_eq_true rfl) dX12_type_27 ?_
        refine V_if_ne hc dX12_type_30 rfl (fun hq30 => ?_) (fun hq30 => ?_)
        · rw [if_neg hq30] at hf
          refine V_iload_n hc dX12_type_39 rfl 2 rfl ?_
          obtain ⟨M19, hv20, hf⟩ := mb hf
          have hJ40 : V E z u (mw h q y M19) 74 [(0, .ref h), (1, .int p1)] [] := by
            refine V_aload_n hc dX12_type_74 rfl 0 rfl ?_
            refine V_iload_n hc dX12_type_75 rfl 1 rfl ?_
            refine V_iconst hc (v := (0 : Int32)) dX12_type_76 rfl ?_
            obtain ⟨v25, M26, hv25, hf⟩ := mb2 hf
            refine R_callVi hc hz (As := [.int p1, .int (0 : Int32)]) (c12_editDone l D h q y _ _ _ _ hv25) w8_230 w8_232 wp8_15 w1_13 w8_233 hd12_editDone ⟨Nat.le_of_ble_eq_true rfl, Nat.le_of_ble_eq_true rfl⟩ rfl rfl (Nat.le_of_ble_eq_true rfl) dX12_type_77 ?_
            refine V_iconst hc (v := (-1 : Int32)) dX12_type_80 rfl ?_
            obtain ⟨v27, hv28, hf⟩ := mb hf
            have hJ81 : V E z u (mw h q y M26) 94 [] [.int v27] := by
              obtain ⟨rfl, rfl⟩ := si2 hf
              exact V_iret hc hzz rfl rfl rfl rfl rfl dX12_type_94
            refine V_icmp_ne hc dX12_type_81 rfl (fun hq81 => ?_) (fun hq81 => ?_)
            · rw [if_neg hq81] at hv28
              refine V_aload_n hc dX12_type_88 rfl 0 rfl ?_
              refine V_iload_n hc dX12_type_89 rfl 1 rfl ?_
              refine V_iconst hc (v := (1 : Int32)) dX12_type_90 rfl ?_
              obtain ⟨v29, hv29, hv28⟩ := mb hv28
              refine R_callVi hc hz (As := [.int p1, .int (1 : Int32)]) (c12_its l D h q y _ _ _ _ hv29) w7_142 w7_144 wp5_7 w1_13 w7_145 hd12_its ⟨Nat.le_of_ble_eq_true rfl, Nat.le_of_ble_eq_true rfl⟩ rfl rfl (Nat.le_of_ble_eq_true rfl) dX12_type_91 ?_
              obtain rfl := Option.some.inj hv28
              exact V_sub [] rfl hJ81
            · rw [if_pos hq81] at hv28
              refine V_iconst hc (v := (-1 : Int32)) dX12_type_84 rfl ?_
              refine V_goto hc dX12_type_85 rfl ?_
              obtain rfl := Option.some.inj hv28
              exact V_sub [] rfl hJ81
          refine V_if_le hc dX12_type_40 rfl (fun hq40 => ?_) (fun hq40 => ?_)
          · rw [if_pos hq40] at hv20
            refine V_aload_n hc dX12_type_59 rfl 0 rfl ?_
            refine V_iload_n hc dX12_type_60 rfl 1 rfl ?_
            refine V_aload_n hc dX12_type_61 rfl 0 rfl ?_
            refine V_iload_n hc dX12_type_62 rfl 1 rfl ?_
            refine V_iconst hc (v := (1 : Int32)) dX12_type_63 rfl ?_
            obtain ⟨v21, hv21, hv20⟩ := mb hv20
            refine R_callVi hc hz (As := [.int p1, .int (1 : Int32)]) (c12_its l D h q y _ _ _ _ hv21) w7_142 w7_144 wp5_7 w1_13 w7_145 hd12_its ⟨Nat.le_of_ble_eq_true rfl, Nat.le_of_ble_eq_true rfl⟩ rfl rfl (Nat.le_of_ble_eq_true rfl) dX12_type_64 ?_
            refine V_iconst hc (v := (1 : Int32)) dX12_type_67 rfl ?_
            refine V_isub hc dX12_type_68 ?_
            refine V_iconst hc (v := (0 : Int32)) dX12_type_69 rfl ?_
            refine V_iconst hc (v := (1 : Int32)) dX12_type_70 rfl ?_
            obtain ⟨M22, hM22, hv20⟩ := mb hv20
            refine R_callVv hc hz (As := [.int p1, .int (v21 - (1 : Int32)), .int (0 : Int32), .int (1 : Int32)]) (c12_laysA l D h q y _ _ _ _ hM22) w9_3 w9_5 wp9_1 w1_13 w9_6 hd12_laysA ⟨Nat.le_of_ble_eq_true rfl, Nat.le_of_ble_eq_true rfl⟩ rfl rfl (Nat.le_of_ble_eq_true rfl) dX12_type_71 ?_
            obtain rfl := Option.some.inj hv20
            exact V_sub [0, 1] rfl hJ40
          · rw [if_neg hq40] at hv20
            refine V_aload_n hc dX12_type_43 rfl 0 rfl ?_
            refine V_iload_n hc dX12_type_44 rfl 1 rfl ?_
            refine V_aload_n hc dX12_type_45 rfl 0 rfl ?_
            refine V_iload_n hc dX12_type_46 rfl 1 rfl ?_
            refine V_iconst hc (v := (1 : Int32)) dX12_type_47 rfl ?_
            obtain ⟨v23, hv23, hv20⟩ := mb hv20
            refine R_callVi hc hz (As := [.int p1, .int (1 : Int32)]) (c12_its l D h q y _ _ _ _ hv23) w7_142 w7_144 wp5_7 w1_13 w7_145 hd12_its ⟨Nat.le_of_ble_eq_true rfl, Nat.le_of_ble_eq_true rfl⟩ rfl rfl (Nat.le_of_ble_eq_true rfl) dX12_type_48 ?_
            refine V_iload_n hc dX12_type_51 rfl 2 rfl ?_
            refine V_iconst hc (v := (0 : Int32)) dX12_type_52 rfl ?_
            obtain ⟨M24, hM24, hv20⟩ := mb hv20
            refine R_callVv hc hz (As := [.int p1, .int v23, .int p2, .int (0 : Int32)]) (c12_laysA l D h q y _ _ _ _ hM24) w9_3 w9_5 wp9_1 w1_13 w9_6 hd12_laysA ⟨Nat.le_of_ble_eq_true rfl, Nat.le_of_ble_eq_true rfl⟩ rfl rfl (Nat.le_of_ble_eq_true rfl) dX12_type_53 ?_
            refine V_goto hc dX12_type_56 rfl ?_
            obtain rfl := Option.some.inj hv20
            exact V_sub [0, 1] rfl hJ40
        · rw [if_pos hq30] at hf
          refine V_aload_n hc dX12_type_33 rfl 0 rfl ?_
          refine V_iconst hc (v := (2 : Int32)) dX12_type_34 rfl ?_
          obtain ⟨v30, M31, hv30, hf⟩ := mb2 hf
          refine R_callVi hc hz (As := [.int (2 : Int32)]) (c12_refuses l D h q y _ _ _ _ hv30) w7_17 w7_19 wp3_15 w1_13 w7_20 hd12_refuses ⟨Nat.le_of_ble_eq_true rfl, Nat.le_of_ble_eq_true rfl⟩ rfl rfl (Nat.le_of_ble_eq_true rfl) dX12_type_35 ?_
          obtain ⟨rfl, rfl⟩ := si2 hf
          exact V_iret hc hzz rfl rfl rfl rfl rfl dX12_type_38
