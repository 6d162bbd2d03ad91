noncomputable def f12_asks (M : MS) (a1 : Nat) : Option (MS) :=
  (
    if (gF M 5) = 0 then (
      bn2 (f12_takes M a1) fun v3 M4 =>
      if v3 = 0 then (
        (f12_fail M4 (1 : Int32) (gF M4 2)).bind fun M5 =>
        some M5
      ) else (
        some M4
      )
    ) else (
      some M
    )
  ).bind fun M1 =>
  some M1
theorem hd12_asks : yX12_asks.cls = "FarEditorsModel" ∧ yX12_asks.cls ≠ "java/lang/invoke/MethodHandle" ∧ yX12_asks.cls ≠ "java/lang/invoke/VarHandle" ∧ (parseMethodDescriptor yX12_asks.desc).map (fun d => d.parameters.length) = some 1 := by decide +kernel
set_option maxHeartbeats 4000000 in
set_option maxRecDepth 100000 in
theorem c12_asks (l : Launch) (D : va_G) (h : Nat) (q : Nat → Nat) (y : CyT) (zM uM z u : Nat) {M M' : MS} {a1 : Nat} (ha1 : mKi a1 = 0) (hf : f12_asks M a1 = some M') : CT l D y yX12_asks cX12_asks 2 none 3 64 zM uM [.ref h, .ref (q a1)] z u (mw h q y M) z u (mw h q y M') none := by
  refine CT.of (by decide) (Nat.le_of_ble_eq_true rfl) (fun E hc hzz hnm => ?_)
  have hc : Cx E "FarEditorsModel" cX12_asks 2 := hc
  have hz := hzz.1
  have hT := hz.2.2.1
  show V E z u (mw h q y M) 0 [(0, .ref h), (1, .ref (q a1))] []
  unfold f12_asks at hf
  refine V_aload_n hc dX12_asks_0 rfl 0 rfl ?_
  refine R_geti hc 5 rfl (by decide) w6_63 dX12_asks_1 ?_
  obtain ⟨M1, hv2, hf⟩ := mb hf
  have hJ4 : V E z u (mw h q y M1) 24 [] [] := by
    obtain rfl := Option.some.inj hf
    exact V_vret hc hzz rfl rfl rfl rfl dX12_asks_24
  refine V_if_ne hc dX12_asks_4 rfl (fun hq4 => ?_) (fun hq4 => ?_)
  · rw [if_neg hq4] at hv2
    obtain rfl := Option.some.inj hv2
    exact V_sub [] rfl hJ4
  · rw [if_pos hq4] at hv2
    refine V_aload_n hc dX12_asks_7 rfl 0 rfl ?_
    refine V_aload_n hc dX12_asks_8 rfl 1 rfl ?_
    obtain ⟨v3, M4, hv3, hv2⟩ := mb2 hv2
    refine R_callVi hc hz (As := [.ref (q a1)]) (c12_takes l D h q y _ _ _ _ ha1 hv3) w7_61 w7_63 wp4_5 w1_13 w7_64 hd12_takes ⟨Nat.le_of_ble_eq_true rfl, Nat.le_of_ble_eq_true rfl⟩ rfl rfl (Nat.le_of_ble_eq_true rfl) dX12_asks_9 ?_
    refine V_if_ne hc dX12_asks_12 rfl (fun hq12 => ?_) (fun hq12 => ?_)
    · rw [if_neg hq12] at hv2
      obtain rfl := Option.some.inj hv2
      exact V_sub [] rfl hJ4
    · rw [if_pos hq12] at hv2
      refine V_aload_n hc dX12_asks_15 rfl 0 rfl ?_
      refine V_iconst hc (v := (1 : Int32)) dX12_asks_16 rfl ?_
      refine V_aload_n hc dX12_asks_17 rfl 0 rfl ?_
      refine R_geti hc 2 rfl (by decide) w6_60 dX12_asks_18 ?_
      obtain ⟨M5, hM5, hv2⟩ := mb hv2
      refine R_callVv hc hz (As := [.int (1 : Int32), .int (gF M4 2)]) (c12_fail l D h q y _ _ _ _ hM5) w7_76 w7_78 wp4_8 w1_13 w7_79 hd12_fail ⟨Nat.le_of_ble_eq_true rfl, Nat.le_of_ble_eq_true rfl⟩ rfl rfl (Nat.le_of_ble_eq_true rfl) dX12_asks_21 ?_
      obtain rfl := Option.some.inj hv2
      exact V_sub [] rfl hJ4
noncomputable def f12_takesSign (M : MS) (p1 : Int32) : Option (Int32 × MS) :=
  if (gF M 5) = 0 then (
    bn2 (f12_look M) fun v1 M2 =>
    if v1 = p1 then (
      some ((1 : Int32), (sF M2 2 ((gF M2 2) + (1 : Int32))))
    ) else (
      some ((0 : Int32), M2)
    )
  ) else (
    some ((0 : Int32), M)
  )
theorem hd12_takesSign : yX12_takesSign.cls = "FarEditorsModel" ∧ yX12_takesSign.cls ≠ "java/lang/invoke/MethodHandle" ∧ yX12_takesSign.cls ≠ "java/lang/invoke/VarHandle" ∧ (parseMethodDescriptor yX12_takesSign.desc).map (fun d => d.parameters.length) = some 1 := by decide +kernel
set_option maxHeartbeats 4000000 in
set_option maxRecDepth 100000 in
theorem c12_takesSign (l : Launch) (D : va_G) (h : Nat) (q : Nat → Nat) (y : CyT) (zM uM z u : Nat) {M M' : MS} {p1 : Int32} {r : Int32} (hf : f12_takesSign M p1 = some (r, M')) : CT l D y yX12_takesSign cX12_takesSign 2 (some .boolean) 1 20 zM uM [.ref h, .int p1] z u (mw h q y M) z u (mw h q y M') (some (.int r)) := by
  refine CT.of (by decide) (Nat.le_of_ble_eq_true rfl) (fun E hc hzz hnm => ?_)
  have hc : Cx E "FarEditorsModel" cX12_takesSign 2 := hc
  have hz := hzz.1
  have hT := hz.2.2.1
  show V E z u (mw h q y M) 0 [(0, .ref h), (1, .int p1)] []
  unfold f12_takesSign at hf
  refine V_aload_n hc dX12_takesSign_0 rfl 0 rfl ?_
  refine R_geti hc 5 rfl (by decide) w6_63 dX12_takesSign_1 ?_
  refine V_if_ne hc dX12_takesSign_4 rfl (fun hq4 => ?_) (fun hq4 => ?_)
  · rw [if_neg hq4] at hf
    refine V_iconst hc (v := (0 : Int32)) dX12_takesSign_15 rfl ?_
    obtain ⟨rfl, rfl⟩ := si2 hf
    exact V_iret hc hzz rfl rfl rfl rfl rfl dX12_takesSign_16
  · rw [if_pos hq4] at hf
    refine V_aload_n hc dX12_takesSign_7 rfl 0 rfl ?_
    obtain ⟨v1, M2, hv1, hf⟩ := mb2 hf
    refine R_callVi hc hz (As := []) (c12_look l D h q y _ _ _ _ hv1) w7_69 w7_71 wp4_7 w1_13 w7_72 hd12_look ⟨Nat.le_of_ble_eq_true rfl, Nat.le_of_ble_eq_true rfl⟩ rfl rfl (Nat.le_of_ble_eq_true rfl) dX12_takesSign_8 ?_
    refine V_iload_n hc dX12_takesSign_11 rfl 1 rfl ?_
    refine V_icmp_eq hc dX12_takesSign_12 rfl (fun hq12 => ?_) (fun hq12 => ?_)
    · rw [if_pos hq12] at hf
      refine V_aload_n hc dX12_takesSign_17 rfl 0 rfl ?_
      refine V_dup hc dX12_takesSign_18 rfl ?_
      refine R_geti hc 2 rfl (by decide) w6_60 dX12_takesSign_19 ?_
      refine V_iconst hc (v := (1 : Int32)) dX12_takesSign_22 rfl ?_
      refine V_iadd hc dX12_takesSign_23 ?_
      refine R_puti hc 2 rfl (by decide) w6_60 rfl rfl rfl dX12_takesSign_24 ?_
      refine V_iconst hc (v := (1 : Int32)) dX12_takesSign_27 rfl ?_
      obtain ⟨rfl, rfl⟩ := si2 hf
      exact V_iret hc hzz rfl rfl rfl rfl rfl dX12_takesSign_28
    · rw [if_neg hq12] at hf
      refine V_iconst hc (v := (0 : Int32)) dX12_takesSign_15 rfl ?_
      obtain ⟨rfl, rfl⟩ := si2 hf
      exact V_iret hc hzz rfl rfl rfl rfl rfl dX12_takesSign_16
noncomputable def f12_asksSign (M : MS) (p1 : Int32) : Option (MS) :=
  (
    if (gF M 5) = 0 then (
      bn2 (f12_takesSign M p1) fun v3 M4 =>
      if v3 = 0 then (
        (f12_fail M4 (1 : Int32) (gF M4 2)).bind fun M5 =>
        some M5
      ) else (
        some M4
      )
    ) else (
      some M
    )
  ).bind fun M1 =>
  some M1
theorem hd12_asksSign : yX12_asksSign.cls = "FarEditorsModel" ∧ yX12_asksSign.cls ≠ "java/lang/invoke/MethodHandle" ∧ yX12_asksSign.cls ≠ "java/lang/invoke/VarHandle" ∧ (parseMethodDescriptor yX12_asksSign.desc).map (fun d => d.parameters.length) = some 1 := by decide +kernel
set_option maxHeartbeats 4000000 in
set_option maxRecDepth 100000 in
theorem c12_asksSign (l : Launch) (D : va_G) (h : Nat) (q : Nat → Nat) (y : CyT) (zM uM z u : Nat) {M M' : MS} {p1 : Int32} (hf : f12_asksSign M p1 = some M') : CT l D y yX12_asksSign cX12_asksSign 2 none 2 41 zM uM [.ref h, .int p1] z u (mw h q y M) z u (mw h q y M') none := by
  refine CT.of (by decide) (Nat.le_of_ble_eq_true rfl) (fun E hc hzz hnm => ?_)
  have hc : Cx E "FarEditorsModel" cX12_asksSign 2 := hc
  have hz := hzz.1
  have hT := hz.2.2.1
  show V E z u (mw h q y M) 0 [(0, .ref h), (1, .int p1)] []
  unfold f12_asksSign at hf
  refine V_aload_n hc dX12_asksSign_0 rfl 0 rfl ?_
  refine R_geti hc 5 rfl (by decide) w6_63 dX12_asksSign_1 ?_
  obtain ⟨M1, hv2, hf⟩ := mb hf
  have hJ4 : V E z u (mw h q y M1) 24 [] [] := by
    obtain rfl := Option.some.inj hf
    exact V_vret hc hzz rfl rfl rfl rfl dX12_asksSign_24
  refine V_if_ne hc dX12_asksSign_4 rfl (fun hq4 => ?_) (fun hq4 => ?_)
  · rw [if_neg hq4] at hv2
    obtain rfl := Option.some.inj hv2
    exact V_sub [] rfl hJ4
  · rw [if_pos hq4] at hv2
    refine V_aload_n hc dX12_asksSign_7 rfl 0 rfl ?_
    refine V_iload_n hc dX12_asksSign_8 rfl 1 rfl ?_
    obtain ⟨v3, M4, hv3, hv2⟩ := mb2 hv2
    refine R_callVi hc hz (As := [.int p1]) (c12_takesSign l D h q y _ _ _ _ hv3) w7_95 w7_97 wp4_12 w1_13 w7_98 hd12_takesSign ⟨Nat.le_of_ble_eq_true rfl, Nat.le_of_ble_eq_true rfl⟩ rfl rfl (Nat.le_of_ble_eq_true rfl) dX12_asksSign_9 ?_
    refine V_if_ne hc dX12_asksSign_12 rfl (fun hq12 => ?_) (fun hq12 => ?_)
    · rw [if_neg hq12] at hv2
      obtain rfl := Option.some.inj hv2
      exact V_sub [] rfl hJ4
    · rw [if_pos hq12] at hv2
      refine V_aload_n hc dX12_asksSign_15 rfl 0 rfl ?_
      refine V_iconst hc (v := (1 : Int32)) dX12_asksSign_16 rfl ?_
      refine V_aload_n hc dX12_asksSign_17 rfl 0 rfl ?_
      refine R_geti hc 2 rfl (by decide) w6_60 dX12_asksSign_18 ?_
      obtain ⟨M5, hM5, hv2⟩ := mb hv2
      refine R_callVv hc hz (As := [.int (1 : Int32), .int (gF M4 2)]) (c12_fail l D h q y _ _ _ _ hM5) w7_76 w7_78 wp4_8 w1_13 w7_79 hd12_fail ⟨Nat.le_of_ble_eq_true rfl, Nat.le_of_ble_eq_true rfl⟩ rfl rfl (Nat.le_of_ble_eq_true rfl) dX12_asksSign_21 ?_
      obtain rfl := Option.some.inj hv2
      exact V_sub [] rfl hJ4
noncomputable def L12_number_49 (c1 : Int32) (c2 : Int32) (c3 : Int32) : Nat → Int32 → MS → Option (Nat × Int32 × MS)
  | 0, _, _ => none
  | n + 1, i4, M =>
    if (gF M 3) ≤ (gF M 2) then (
      some (1, i4, M)
    ) else (
      (ld M 0 (gF M 2)).bind fun v1 =>
      (f12_isDigit v1).bind fun v2 =>
      if v2 = 0 then (
        some (1, i4, M)
      ) else (
        if ((gF M 2) - c3) = (2 : Int32) then (
          some (0, i4, M)
        ) else (
          (ld M 0 (gF M 2)).bind fun v3 =>
          L12_number_49 c1 c2 c3 n ((((10 : Int32) * i4) + v3) - (48 : Int32)) (sF M 2 ((gF M 2) + (1 : Int32)))
        )
      )
    )
noncomputable def f12_number (M : MS) (p1 : Int32) (p2 : Int32) : Option (Int32 × MS) :=
  if (gF M 5) = 0 then (
    bn2 (f12_look M) fun v1 M2 =>
    (f12_isDigit v1).bind fun v3 =>
    if v3 = 0 then (
      (f12_fail M2 (1 : Int32) (gF M2 2)).bind fun M4 =>
      some (p1, M4)
    ) else (
      if (gF M2 2) = (gF M2 4) then (
        (f12_fail M2 (1 : Int32) (gF M2 2)).bind fun M14 =>
        some (p1, M14)
      ) else (
        bn3 (L12_number_49 p1 p2 (gF M2 2) FU (0 : Int32) M2) fun t5 x6 M7 =>
        if t5 = 0 then (
          (f12_fail M7 (1 : Int32) (gF M7 2)).bind fun M9 =>
          some (p1, M9)
        ) else (
          (f12_isIn x6.toInt64 p1.toInt64 p2.toInt64).bind fun v10 =>
          (
            if v10 = 0 then (
              (f12_fail (sF M7 4 (gF M7 2)) (2 : Int32) (gF M2 2)).bind fun M13 =>
              some M13
            ) else (
              some (sF M7 4 (gF M7 2))
            )
          ).bind fun M11 =>
          some (x6, M11)
        )
      )
    )
  ) else (
    some (p1, M)
  )
theorem hd12_number : yX12_number.cls = "FarEditorsModel" ∧ yX12_number.cls ≠ "java/lang/invoke/MethodHandle" ∧ yX12_number.cls ≠ "java/lang/invoke/VarHandle" ∧ (parseMethodDescriptor yX12_number.desc).map (fun d => d.parameters.length) = some 2 := by decide +kernel
set_option maxHeartbeats 4000000 in
set_option maxRecDepth 100000 in
theorem L12_number_49_ok {E : CxT} {l : Launch} {D : va_G} {h : Nat} {q : Nat → Nat} {y : CyT} {zM uM z u : Nat} (hc : Cx E "FarEditorsModel" cX12_number 5) (hz : Cy E l D y 1 25 zM uM) (c1 : Int32) (c2 : Int32) (c3 : Int32) : ∀ (n : Nat) (i4 : Int32) (M : MS) {t : Nat} {o4 : Int32} {Mo : MS}, L12_number_49 c1 c2 c3 n i4 M = some (t, o4, Mo) → (hx0 : t = 0 → V E z u (mw h q y Mo) 85 [(0, .ref h), (1, .int c1)] []) → (hx1 : t = 1 → V E z u (mw h q y Mo) 129 [(0, .ref h), (1, .int c1), (2, .int c2), (3, .int c3), (4, .int o4)] []) → V E z u (mw h q y M) 49 [(0, .ref h), (1, .int c1), (2, .int c2), (3, .int c3), (4, .int i4)] [] := by
  have hT := hz.2.2.1
  intro n
  induction n with
  | zero => intro i4 M t o4 Mo hf; cases hf
  | succ n ih =>
    intro i4 M t o4 Mo hf hx0 hx1
    unfold L12_number_49 at hf
    refine V_aload_n hc dX12_number_49 rfl 0 rfl ?_
    refine R_geti hc 2 rfl (by decide) w6_60 dX12_number_50 ?_
    refine V_aload_n hc dX12_number_53 rfl 0 rfl ?_
    refine R_geti hc 3 rfl (by decide) w6_61 dX12_number_54 ?_
    refine V_icmp_ge hc dX12_number_57 rfl (fun hq57 => ?_) (fun hq57 => ?_)
    · rw [if_pos hq57] at hf
      obtain ⟨rfl, rfl, rfl⟩ := si3 hf
      exact V_sub [0, 1, 2, 3, 4] rfl (hx1 rfl)
    · rw [if_neg hq57] at hf
      refine V_aload_n hc dX12_number_60 rfl 0 rfl ?_
      refine R_getr hc 0 rfl (by decide) w6_58 dX12_number_61 ?_
      refine V_aload_n hc dX12_number_64 rfl 0 rfl ?_
      refine R_geti hc 2 rfl (by decide) w6_60 dX12_number_65 ?_
      obtain ⟨v1, hv1, hf⟩ := mb hf
      refine R_iald hc hT rfl hv1 dX12_number_68 ?_
      obtain ⟨v2, hv2, hf⟩ := mb hf
      refine R_callSi hc hz (As := [.int v1]) (c12_isDigit l D h q y _ _ _ _ hv2) w7_88 w7_89 w1_13 w7_90 hd12_isDigit ⟨Nat.le_of_ble_eq_true rfl, Nat.le_of_ble_eq_true rfl⟩ rfl rfl (Nat.le_of_ble_eq_true rfl) dX12_number_69 ?_
      refine V_if_eq hc dX12_number_72 rfl (fun hq72 => ?_) (fun hq72 => ?_)
      · rw [if_pos hq72] at hf
        obtain ⟨rfl, rfl, rfl⟩ := si3 hf
        exact V_sub [0, 1, 2, 3, 4] rfl (hx1 rfl)
      · rw [if_neg hq72] at hf
        refine V_aload_n hc dX12_number_75 rfl 0 rfl ?_
        refine R_geti hc 2 rfl (by decide) w6_60 dX12_number_76 ?_
        refine V_iload_n hc dX12_number_79 rfl 3 rfl ?_
        refine V_isub hc dX12_number_80 ?_
        refine V_iconst hc (v := (2 : Int32)) dX12_number_81 rfl ?_
        refine V_icmp_ne hc dX12_number_82 rfl (fun hq82 => ?_) (fun hq82 => ?_)
        · rw [if_neg hq82] at hf
          refine V_bipush hc (v := (10 : Int32)) dX12_number_96 rfl ?_
          refine V_iload hc dX12_number_98 4 rfl ?_
          refine V_imul hc dX12_number_100 ?_
          refine V_aload_n hc dX12_number_101 rfl 0 rfl ?_
          refine R_getr hc 0 rfl (by decide) w6_58 dX12_number_102 ?_
          refine V_aload_n hc dX12_number_105 rfl 0 rfl ?_
          refine R_geti hc 2 rfl (by decide) w6_60 dX12_number_106 ?_
          obtain ⟨v3, hv3, hf⟩ := mb hf
          refine R_iald hc hT rfl hv3 dX12_number_109 ?_
          refine V_iadd hc dX12_number_110 ?_
          refine V_bipush hc (v := (48 : Int32)) dX12_number_111 rfl ?_
          refine V_isub hc dX12_number_113 ?_
          refine V_istore hc dX12_number_114 (by decide) rfl ?_
          refine V_aload_n hc dX12_number_116 rfl 1 rfl ?_
          refine V_dup hc dX12_number_117 rfl ?_
          refine R_geti hc 2 rfl (by decide) w6_60 dX12_number_118 ?_
          refine V_iconst hc (v := (1 : Int32)) dX12_number_121 rfl ?_
          refine V_iadd hc dX12_number_122 ?_
          refine R_puti hc 2 rfl (by decide) w6_60 rfl rfl rfl dX12_number_123 ?_
          refine V_goto hc dX12_number_126 rfl ?_
          exact V_sub [1, 2, 3, 4, 0] rfl (ih _ _ hf hx0 hx1)
        · rw [if_pos hq82] at hf
          obtain ⟨rfl, rfl, rfl⟩ := si3 hf
          exact V_sub [0, 1] rfl (hx0 rfl)
set_option maxHeartbeats 4000000 in
set_option maxRecDepth 100000 in
theorem c12_number (l : Launch) (D : va_G) (h : Nat) (q : Nat → Nat) (y : CyT) (zM uM z u : Nat) {M M' : MS} {p1 : Int32} {p2 : Int32} {r : Int32} (hf : f12_number M p1 p2 = some (r, M')) : CT l D y yX12_number cX12_number 5 (some .int) 1 25 zM uM [.ref h, .int p1, .int p2] z u (mw h q y M) z u (mw h q y M') (some (.int r)) := by
  refine CT.of (by decide) (Nat.le_of_ble_eq_true rfl) (fun E hc hzz hnm => ?_)
  have hc : Cx E "FarEditorsModel" cX12_number 5 := hc
  have hz := hzz.1
  have hT := hz.2.2.1
  show V E z u (mw h q y M) 0 [(0, .ref h), (1, .int p1), (2, .int p2)] []
  unfold f12_number at hf
  refine V_aload_n hc dX12_number_0 rfl 0 rfl ?_
  refine R_geti hc 5 rfl (by decide) w6_63 dX12_number_1 ?_
  refine V_if_eq hc dX12_number_4 rfl (fun hq4 => ?_) (fun hq4 => ?_)
  · rw [if_pos hq4] at hf
    refine V_aload_n hc dX12_number_9 rfl 0 rfl ?_
    obtain ⟨v1, M2, hv1, hf⟩ := mb2 hf
    refine R_callVi hc hz (As := []) (c12_look l D h q y _ _ _ _ hv1) w7_69 w7_71 wp4_7 w1_13 w7_72 hd12_look ⟨Nat.le_of_ble_eq_true rfl, Nat.le_of_ble_eq_true rfl⟩ rfl rfl (Nat.le_of_ble_eq_true rfl) dX12_number_10 ?_
    obtain ⟨v3, hv3, hf⟩ := mb hf
    refine R_callSi hc hz (As := [.int v1]) (c12_isDigit l D h q y _ _ _ _ hv3) w7_88 w7_89 w1_13 w7_90 hd12_isDigit ⟨Nat.le_of_ble_eq_true rfl, Nat.le_of_ble_eq_true rfl⟩ rfl rfl (Nat.le_of_ble_eq_true rfl) dX12_number_13 ?_
    refine V_if_eq hc dX12_number_16 rfl (fun hq16 => ?_) (fun hq16 => ?_)
    · rw [if_pos hq16] at hf
      refine V_aload_n hc dX12_number_30 rfl 0 rfl ?_
      refine V_iconst hc (v := (1 : Int32)) dX12_number_31 rfl ?_
      refine V_aload_n hc dX12_number_32 rfl 0 rfl ?_
      refine R_geti hc 2 rfl (by decide) w6_60 dX12_number_33 ?_
      obtain ⟨M4, hM4, hf⟩ := mb hf
      refine R_callVv hc hz (As := [.int (1 : Int32), .int (gF M2 2)]) (c12_fail l D h q y _ _ _ _ hM4) w7_76 w7_78 wp4_8 w1_13 w7_79 hd12_fail ⟨Nat.le_of_ble_eq_true rfl, Nat.le_of_ble_eq_true rfl⟩ rfl rfl (Nat.le_of_ble_eq_true rfl) dX12_number_36 ?_
      refine V_iload_n hc dX12_number_39 rfl 1 rfl ?_
      obtain ⟨rfl, rfl⟩ := si2 hf
      exact V_iret hc hzz rfl rfl rfl rfl rfl dX12_number_40
    · rw [if_neg hq16] at hf
      refine V_aload_n hc dX12_number_19 rfl 0 rfl ?_
      refine R_geti hc 2 rfl (by decide) w6_60 dX12_number_20 ?_
      refine V_aload_n hc dX12_number_23 rfl 0 rfl ?_
      refine R_geti hc 4 rfl (by decide) w6_62 dX12_number_24 ?_
      refine V_icmp_ne hc dX12_number_27 rfl (fun hq27 => ?_) (fun hq27 => ?_)
      · rw [if_neg hq27] at hf
        refine V_aload_n hc dX12_number_41 rfl 0 rfl ?_
        refine R_geti hc 2 rfl (by decide) w6_60 dX12_number_42 ?_
        refine V_istore_n hc dX12_number_45 rfl (by decide) rfl ?_
        refine V_iconst hc (v := (0 : Int32)) dX12_number_46 rfl ?_
        refine V_istore hc dX12_number_47 (by decide) rfl ?_
        obtain ⟨t5, x6, M7, hv8, hf⟩ := mb3 hf
        refine V_sub [2, 3, 4, 1, 0] rfl (L12_number_49_ok hc hz p1 p2 (gF M2 2) FU _ _ hv8 (fun ht49_0 => ?_) (fun ht49_1 => ?_))
        · rw [if_pos ht49_0] at hf
          refine V_aload_n hc dX12_number_85 rfl 0 rfl ?_
          refine V_iconst hc (v := (1 : Int32)) dX12_number_86 rfl ?_
          refine V_aload_n hc dX12_number_87 rfl 0 rfl ?_
          refine R_geti hc 2 rfl (by decide) w6_60 dX12_number_88 ?_
          obtain ⟨M9, hM9, hf⟩ := mb hf
          refine R_callVv hc hz (As := [.int (1 : Int32), .int (gF M7 2)]) (c12_fail l D h q y _ _ _ _ hM9) w7_76 w7_78 wp4_8 w1_13 w7_79 hd12_fail ⟨Nat.le_of_ble_eq_true rfl, Nat.le_of_ble_eq_true rfl⟩ rfl rfl (Nat.le_of_ble_eq_true rfl) dX12_number_91 ?_
          refine V_iload_n hc dX12_number_94 rfl 1 rfl ?_
          obtain ⟨rfl, rfl⟩ := si2 hf
          exact V_iret hc hzz rfl rfl rfl rfl rfl dX12_number_95
        · rw [if_neg (by rw [ht49_1]; decide)] at hf
          refine V_aload_n hc dX12_number_129 rfl 0 rfl ?_
          refine V_aload_n hc dX12_number_130 rfl 0 rfl ?_
          refine R_geti hc 2 rfl (by decide) w6_60 dX12_number_131 ?_
          refine R_puti hc 4 rfl (by decide) w6_62 rfl rfl rfl dX12_number_134 ?_
          refine V_iload hc dX12_number_137 4 rfl ?_
          refine V_i2l hc dX12_number_139 ?_
          refine V_iload_n hc dX12_number_140 rfl 1 rfl ?_
          refine V_i2l hc dX12_number_141 ?_
          refine V_iload_n hc dX12_number_142 rfl 2 rfl ?_
          refine V_i2l hc dX12_number_143 ?_
          obtain ⟨v10, hv10, hf⟩ := mb hf
          refine R_callSi hc hz (As := [.long x6.toInt64, .long p1.toInt64, .long p2.toInt64]) (c12_isIn l D h q y _ _ _ _ hv10) w7_34 w7_35 w1_13 w7_36 hd12_isIn ⟨Nat.le_of_ble_eq_true rfl, Nat.le_of_ble_eq_true rfl⟩ rfl rfl (Nat.le_of_ble_eq_true rfl) dX12_number_144 ?_
          obtain ⟨M11, hv12, hf⟩ := mb hf
          have hJ147 : V E z u (mw h q y M11) 156 [(4, .int x6)] [] := by
            refine V_iload hc dX12_number_156 0 rfl ?_
            obtain ⟨rfl, rfl⟩ := si2 hf
            exact V_iret hc hzz rfl rfl rfl rfl rfl dX12_number_158
          refine V_if_ne hc dX12_number_147 rfl (fun hq147 => ?_) (fun hq147 => ?_)
          · rw [if_neg hq147] at hv12
            obtain rfl := Option.some.inj hv12
            exact V_sub [4] rfl hJ147
          · rw [if_pos hq147] at hv12
            refine V_aload_n hc dX12_number_150 rfl 0 rfl ?_
            refine V_iconst hc (v := (2 : Int32)) dX12_number_151 rfl ?_
            refine V_iload_n hc dX12_number_152 rfl 3 rfl ?_
            obtain ⟨M13, hM13, hv12⟩ := mb hv12
            refine R_callVv hc hz (As := [.int (2 : Int32), .int (gF M2 2)]) (c12_fail l D h q y _ _ _ _ hM13) w7_76 w7_78 wp4_8 w1_13 w7_79 hd12_fail ⟨Nat.le_of_ble_eq_true rfl, Nat.le_of_ble_eq_true rfl⟩ rfl rfl (Nat.le_of_ble_eq_true rfl) dX12_number_153 ?_
            obtain rfl := Option.some.inj hv12
            exact V_sub [4] rfl hJ147
      · rw [if_pos hq27] at hf
        refine V_aload_n hc dX12_number_30 rfl 0 rfl ?_
        refine V_iconst hc (v := (1 : Int32)) dX12_number_31 rfl ?_
        refine V_aload_n hc dX12_number_32 rfl 0 rfl ?_
        refine R_geti hc 2 rfl (by decide) w6_60 dX12_number_33 ?_
        obtain ⟨M14, hM14, hf⟩ := mb hf
        refine R_callVv hc hz (As := [.int (1 : Int32), .int (gF M2 2)]) (c12_fail l D h q y _ _ _ _ hM14) w7_76 w7_78 wp4_8 w1_13 w7_79 hd12_fail ⟨Nat.le_of_ble_eq_true rfl, Nat.le_of_ble_eq_true rfl⟩ rfl rfl (Nat.le_of_ble_eq_true rfl) dX12_number_36 ?_
        refine V_iload_n hc dX12_number_39 rfl 1 rfl ?_
        obtain ⟨rfl, rfl⟩ := si2 hf
        exact V_iret hc hzz rfl rfl rfl rfl rfl dX12_number_40
  · rw [if_neg hq4] at hf
    refine V_iload_n hc dX12_number_7 rfl 1 rfl ?_
    obtain ⟨rfl, rfl⟩ := si2 hf
    exact V_iret hc hzz rfl rfl rfl rfl rfl dX12_number_8
noncomputable def L12_word_47 (c1 : Int32) (c2 : Int32) : Nat → MS → Option (MS)
  | 0, _ => none
  | n + 1, M =>
    if (gF M 5) = 0 then (
      if (gF M 3) ≤ (gF M 2) then (
        some M
      ) else (
        (ld M 0 (gF M 2)).bind fun v1 =>
        (f12_isLetter v1).bind fun v2 =>
        if v2 = 0 then (
          some M
        ) else (
          if ((gF M 2) - c2) = c1 then (
            (f12_fail M (1 : Int32) (gF M 2)).bind fun M3 =>
            L12_word_47 c1 c2 n M3
          ) else (
            L12_word_47 c1 c2 n (sF M 2 ((gF M 2) + (1 : Int32)))
          )
        )
      )
    ) else (
      some M
    )
noncomputable def f12_word (M : MS) (p1 : Int32) : Option (Int32 × MS) :=
  if (gF M 5) = 0 then (
    bn2 (f12_look M) fun v1 M2 =>
    (f12_isLetter v1).bind fun v3 =>
    (
      if v3 = 0 then (
        (f12_fail M2 (1 : Int32) (gF M2 2)).bind fun M6 =>
        some M6
      ) else (
        if (gF M2 2) = (gF M2 4) then (
          (f12_fail M2 (1 : Int32) (gF M2 2)).bind fun M7 =>
          some M7
        ) else (
          some M2
        )
      )
    ).bind fun M4 =>
    (L12_word_47 p1 (gF M4 2) FU M4).bind fun M8 =>
    some ((gF M4 2), (sF M8 4 (gF M8 2)))
  ) else (
    some ((gF M 2), M)
  )
theorem hd12_word : yX12_word.cls = "FarEditorsModel" ∧ yX12_word.cls ≠ "java/lang/invoke/MethodHandle" ∧ yX12_word.cls ≠ "java/lang/invoke/VarHandle" ∧ (parseMethodDescriptor yX12_word.desc).map (fun d => d.parameters.length) = some 1 := by decide +kernel
set_option maxHeartbeats 4000000 in
set_option maxRecDepth 100000 in
theorem L12_word_47_ok {E : CxT} {l : Launch} {D : va_G} {h : Nat} {q : Nat → Nat} {y : CyT} {zM uM z u : Nat} (hc : Cx E "FarEditorsModel" cX12_word 3) (hz : Cy E l D y 1 22 zM uM) (c1 : Int32) (c2 : Int32) : ∀ (n : Nat) (M : MS) {Mo : MS}, L12_word_47 c1 c2 n M = some Mo → (hx0 : V E z u (mw h q y Mo) 115 [(0, .ref h), (2, .int c2)] []) → V E z u (mw h q y M) 47 [(0, .ref h), (1, .int c1), (2, .int c2)] [] := by
  have hT := hz.2.2.1
  intro n
  induction n with
  | zero => intro M Mo hf; cases hf
  | succ n ih =>
    intro M Mo hf hx0
    unfold L12_word_47 at hf
    refine V_aload_n hc dX12_word_47 rfl 0 rfl ?_
    refine R_geti hc 5 rfl (by decide) w6_63 dX12_word_48 ?_
    refine V_if_ne hc dX12_word_51 rfl (fun hq51 => ?_) (fun hq51 => ?_)
    · rw [if_neg hq51] at hf
      obtain rfl := Option.some.inj hf
      exact V_sub [0, 2] rfl hx0
    · rw [if_pos hq51] at hf
      refine V_aload_n hc dX12_word_54 rfl 0 rfl ?_
      refine R_geti hc 2 rfl (by decide) w6_60 dX12_word_55 ?_
      refine V_aload_n hc dX12_word_58 rfl 0 rfl ?_
      refine R_geti hc 3 rfl (by decide) w6_61 dX12_word_59 ?_
      refine V_icmp_ge hc dX12_word_62 rfl (fun hq62 => ?_) (fun hq62 => ?_)
      · rw [if_pos hq62] at hf
        obtain rfl := Option.some.inj hf
        exact V_sub [0, 2] rfl hx0
      · rw [if_neg hq62] at hf
        refine V_aload_n hc dX12_word_65 rfl 0 rfl ?_
        refine R_getr hc 0 rfl (by decide) w6_58 dX12_word_66 ?_
        refine V_aload_n hc dX12_word_69 rfl 0 rfl ?_
        refine R_geti hc 2 rfl (by decide) w6_60 dX12_word_70 ?_
        obtain ⟨v1, hv1, hf⟩ := mb hf
        refine R_iald hc hT rfl hv1 dX12_word_73 ?_
        obtain ⟨v2, hv2, hf⟩ := mb hf
        refine R_callSi hc hz (As := [.int v1]) (c12_isLetter l D h q y _ _ _ _ hv2) w7_73 w7_74 w1_13 w7_75 hd12_isLetter ⟨Nat.le_of_ble_eq_true rfl, Nat.le_of_ble_eq_true rfl⟩ rfl rfl (Nat.le_of_ble_eq_true rfl) dX12_word_74 ?_
        refine V_if_eq hc dX12_word_77 rfl (fun hq77 => ?_) (fun hq77 => ?_)
        · rw [if_pos hq77] at hf
          obtain rfl := Option.some.inj hf
          exact V_sub [0, 2] rfl hx0
        · rw [if_neg hq77] at hf
          refine V_aload_n hc dX12_word_80 rfl 0 rfl ?_
          refine R_geti hc 2 rfl (by decide) w6_60 dX12_word_81 ?_
          refine V_iload_n hc dX12_word_84 rfl 2 rfl ?_
          refine V_isub hc dX12_word_85 ?_
          refine V_iload_n hc dX12_word_86 rfl 1 rfl ?_
          refine V_icmp_ne hc dX12_word_87 rfl (fun hq87 => ?_) (fun hq87 => ?_)
          · rw [if_neg hq87] at hf
            refine V_aload_n hc dX12_word_102 rfl 0 rfl ?_
            refine V_dup hc dX12_word_103 rfl ?_
            refine R_geti hc 2 rfl (by decide) w6_60 dX12_word_104 ?_
            refine V_iconst hc (v := (1 : Int32)) dX12_word_107 rfl ?_
            refine V_iadd hc dX12_word_108 ?_
            refine R_puti hc 2 rfl (by decide) w6_60 rfl rfl rfl dX12_word_109 ?_
            refine V_goto hc dX12_word_112 rfl ?_
            exact V_sub [0, 1, 2] rfl (ih _ hf hx0)
          · rw [if_pos hq87] at hf
            refine V_aload_n hc dX12_word_90 rfl 0 rfl ?_
            refine V_iconst hc (v := (1 : Int32)) dX12_word_91 rfl ?_
            refine V_aload_n hc dX12_word_92 rfl 0 rfl ?_
            refine R_geti hc 2 rfl (by decide) w6_60 dX12_word_93 ?_
            obtain ⟨M3, hM3, hf⟩ := mb hf
            refine R_callVv hc hz (As := [.int (1 : Int32), .int (gF M 2)]) (c12_fail l D h q y _ _ _ _ hM3) w7_76 w7_78 wp4_8 w1_13 w7_79 hd12_fail ⟨Nat.le_of_ble_eq_true rfl, Nat.le_of_ble_eq_true rfl⟩ rfl rfl (Nat.le_of_ble_eq_true rfl) dX12_word_96 ?_
            refine V_goto hc dX12_word_99 rfl ?_
            exact V_sub [0, 1, 2] rfl (ih _ hf hx0)
set_option maxHeartbeats 4000000 in
set_option maxRecDepth 100000 in
theorem c12_word (l : Launch) (D : va_G) (h : Nat) (q : Nat → Nat) (y : CyT) (zM uM z u : Nat) {M M' : MS} {p1 : Int32} {r : Int32} (hf : f12_word M p1 = some (r, M')) : CT l D y yX12_word cX12_word 3 (some .int) 1 22 zM uM [.ref h, .int p1] z u (mw h q y M) z u (mw h q y M') (some (.int r)) := by
  refine CT.of (by decide) (Nat.le_of_ble_eq_true rfl) (fun E hc hzz hnm => ?_)
  have hc : Cx E "FarEditorsModel" cX12_word 3 := hc
  have hz := hzz.1
  have hT := hz.2.2.1
  show V E z u (mw h q y M) 0 [(0, .ref h), (1, .int p1)] []
  unfold f12_word at hf
  refine V_aload_n hc dX12_word_0 rfl 0 rfl ?_
  refine R_geti hc 5 rfl (by decide) w6_63 dX12_word_1 ?_
  refine V_if_eq hc dX12_word_4 rfl (fun hq4 => ?_) (fun hq4 => ?_)
  · rw [if_pos hq4] at hf
    refine V_aload_n hc dX12_word_12 rfl 0 rfl ?_
    obtain ⟨v1, M2, hv1, hf⟩ := mb2 hf
    refine R_callVi hc hz (As := []) (c12_look l D h q y _ _ _ _ hv1) w7_69 w7_71 wp4_7 w1_13 w7_72 hd12_look ⟨Nat.le_of_ble_eq_true rfl, Nat.le_of_ble_eq_true rfl⟩ rfl rfl (Nat.le_of_ble_eq_true rfl) dX12_word_13 ?_
    obtain ⟨v3, hv3, hf⟩ := mb hf
    refine R_callSi hc hz (As := [.int v1]) (c12_isLetter l D h q y _ _ _ _ hv3) w7_73 w7_74 w1_13 w7_75 hd12_isLetter ⟨Nat.le_of_ble_eq_true rfl, Nat.le_of_ble_eq_true rfl⟩ rfl rfl (Nat.le_of_ble_eq_true rfl) dX12_word_16 ?_
    obtain ⟨M4, hv5, hf⟩ := mb hf
    have hJ19 : V E z u (mw h q y M4) 42 [(0, .ref h), (1, .int p1)] [] := by
      refine V_aload_n hc dX12_word_42 rfl 0 rfl ?_
      refine R_geti hc 2 rfl (by decide) w6_60 dX12_word_43 ?_
      refine V_istore_n hc dX12_word_46 rfl (by decide) rfl ?_
      obtain ⟨M8, hv9, hf⟩ := mb hf
      refine V_sub [1, 2, 0] rfl (L12_word_47_ok hc hz p1 (gF M4 2) FU _ hv9 ?_)
      refine V_aload_n hc dX12_word_115 rfl 0 rfl ?_
      refine V_aload_n hc dX12_word_116 rfl 0 rfl ?_
      refine R_geti hc 2 rfl (by decide) w6_60 dX12_word_117 ?_
      refine R_puti hc 4 rfl (by decide) w6_62 rfl rfl rfl dX12_word_120 ?_
      refine V_iload_n hc dX12_word_123 rfl 1 rfl ?_
      obtain ⟨rfl, rfl⟩ := si2 hf
      exact V_iret hc hzz rfl rfl rfl rfl rfl dX12_word_124
    refine V_if_eq hc dX12_word_19 rfl (fun hq19 => ?_) (fun hq19 => ?_)
    · rw [if_pos hq19] at hv5
      refine V_aload_n hc dX12_word_33 rfl 0 rfl ?_
      refine V_iconst hc (v := (1 : Int32)) dX12_word_34 rfl ?_
      refine V_aload_n hc dX12_word_35 rfl 0 rfl ?_
      refine R_geti hc 2 rfl (by decide) w6_60 dX12_word_36 ?_
      obtain ⟨M6, hM6, hv5⟩ := mb hv5
      refine R_callVv hc hz (As := [.int (1 : Int32), .int (gF M2 2)]) (c12_fail l D h q y _ _ _ _ hM6) w7_76 w7_78 wp4_8 w1_13 w7_79 hd12_fail ⟨Nat.le_of_ble_eq_true rfl, Nat.le_of_ble_eq_true rfl⟩ rfl rfl (Nat.le_of_ble_eq_true rfl) dX12_word_39 ?_
      obtain rfl := Option.some.inj hv5
      exact V_sub [0, 1] rfl hJ19
    · rw [if_neg hq19] at hv5
      refine V_aload_n hc dX12_word_22 rfl 0 rfl ?_
      refine R_geti hc 2 rfl (by decide) w6_60 dX12_word_23 ?_
      refine V_aload_n hc dX12_word_26 rfl 0 rfl ?_
      refine R_geti hc 4 rfl (by decide) w6_62 dX12_word_27 ?_
      refine V_icmp_ne hc dX12_word_30 rfl (fun hq30 => ?_) (fun hq30 => ?_)
      · rw [if_neg hq30] at hv5
        obtain rfl := Option.some.inj hv5
        exact V_sub [0, 1] rfl hJ19
      · rw [if_pos hq30] at hv5
        refine V_aload_n hc dX12_word_33 rfl 0 rfl ?_
        refine V_iconst hc (v := (1 : Int32)) dX12_word_34 rfl ?_
        refine V_aload_n hc dX12_word_35 rfl 0 rfl ?_
        refine R_geti hc 2 rfl (by decide) w6_60 dX12_word_36 ?_
        obtain ⟨M7, hM7, hv5⟩ := mb hv5
        refine R_callVv hc hz (As := [.int (1 : Int32), .int (gF M2 2)]) (c12_fail l D h q y _ _ _ _ hM7) w7_76 w7_78 wp4_8 w1_13 w7_79 hd12_fail ⟨Nat.le_of_ble_eq_true rfl, Nat.le_of_ble_eq_true rfl⟩ rfl rfl (Nat.le_of_ble_eq_true rfl) dX12_word_39 ?_
        obtain rfl := Option.some.inj hv5
        exact V_sub [0, 1] rfl hJ19
  · rw [if_neg hq4] at hf
    refine V_aload_n hc dX12_word_7 rfl 0 rfl ?_
    refine R_geti hc 2 rfl (by decide) w6_60 dX12_word_8 ?_
    obtain ⟨rfl, rfl⟩ := si2 hf
    exact V_iret hc hzz rfl rfl rfl rfl rfl dX12_word_11
noncomputable def L12_spreads_35 (a1 : Nat) (c1 : Int32) (c2 : Int32) (c3 : Int32) (a5 : Nat) (c7 : Int32) (c8 : Int32) : Nat → Int32 → Int32 → MS → Option (Int32 × Int32 × MS)
  | 0, _, _, _ => none
  | n + 1, i5, i6, M =>
    if c8 ≤ i6 then (
      some (i5, i6, M)
    ) else (
      (sd M a5 i5 (0 : Int32)).bind fun M1 =>
      L12_spreads_35 a1 c1 c2 c3 a5 c7 c8 n (i5 + (1 : Int32)) (i6 + (1 : Int32)) M1
    )
noncomputable def L12_spreads_9 (a1 : Nat) (c1 : Int32) (c2 : Int32) (c3 : Int32) (a5 : Nat) : Nat → Int32 → Int32 → Int32 → MS → Option (Nat × Int32 × MS)
  | 0, _, _, _, _ => none
  | n + 1, i5, i6, i7, M =>
    if c2 < i7 then (
      some (1, i5, M)
    ) else (
      (
        if i7 = c2 then (
          some c3
        ) else (
          (ld M a1 (c1 + i7)).bind fun v3 =>
          some (v3 >>> ((5 : Int32) &&& 31))
        )
      ).bind fun v1 =>
      bn3 (L12_spreads_35 a1 c1 c2 c3 a5 i7 v1 FU i5 i6 M) fun x4 x5 M6 =>
      if i7 = c2 then (
        some (0, x4, M6)
      ) else (
        (ld M6 a1 (c1 + i7)).bind fun v8 =>
        (
          if (v8 &&& (31 : Int32)) = (27 : Int32) then (
            some (-1 : Int32)
          ) else (
            some (v8 &&& (31 : Int32))
          )
        ).bind fun v9 =>
        (sd M6 a5 x4 v9).bind fun M11 =>
        (
          if (v8 &&& (31 : Int32)) = (27 : Int32) then (
            some (x5 + (1 : Int32))
          ) else (
            some x5
          )
        ).bind fun x12 =>
        L12_spreads_9 a1 c1 c2 c3 a5 n (x4 + (1 : Int32)) x12 (i7 + (1 : Int32)) M11
      )
    )
noncomputable def f12_spreads (M : MS) (a1 : Nat) (p2 : Int32) (p3 : Int32) (p4 : Int32) (a5 : Nat) : Option (Int32 × MS) :=
  bn3 (L12_spreads_9 a1 p2 p3 p4 a5 FU (0 : Int32) (0 : Int32) (0 : Int32) M) fun t1 x2 M3 =>
  if t1 = 0 then (
    some (x2, M3)
  ) else (
    some (x2, M3)
  )
theorem hd12_spreads : yX12_spreads.cls = "FarEditorsModel" ∧ yX12_spreads.cls ≠ "java/lang/invoke/MethodHandle" ∧ yX12_spreads.cls ≠ "java/lang/invoke/VarHandle" ∧ (parseMethodDescriptor yX12_spreads.desc).map (fun d => d.parameters.length) = some 5 := by decide +kernel
set_option maxHeartbeats 4000000 in
set_option maxRecDepth 100000 in
theorem L12_spreads_35_ok {E : CxT} {l : Launch} {D : va_G} {h : Nat} {q : Nat → Nat} {y : CyT} {zM uM z u : Nat} (hc : Cx E "FarEditorsModel" cX12_spreads 10) (hz : Cy E l D y 0 0 zM uM) (a1 : Nat) (c1 : Int32) (c2 : Int32) (c3 : Int32) (a5 : Nat) (c7 : Int32) (c8 : Int32) (ha1 : mKi a1 = 1) (ha5 : mKi a5 = 1) : ∀ (n : Nat) (i5 : Int32) (i6 : Int32) (M : MS) {o5 : Int32} {o6 : Int32} {Mo : MS}, L12_spreads_35 a1 c1 c2 c3 a5 c7 c8 n i5 i6 M = some (o5, o6, Mo) → (hx0 : V E z u (mw h q y Mo) 57 [(0, .ref (q a1)), (1, .int c1), (2, .int c2), (3, .int c3), (4, .ref (q a5)), (5, .int o5), (6, .int o6), (7, .int c7)] []) → V E z u (mw h q y M) 35 [(0, .ref (q a1)), (1, .int c1), (2, .int c2), (3, .int c3), (4, .ref (q a5)), (5, .int i5), (6, .int i6), (7, .int c7), (8, .int c8)] [] := by
  have hT := hz.2.2.1
  intro n
  induction n with
  | zero => intro i5 i6 M o5 o6 Mo hf; cases hf
  | succ n ih =>
    intro i5 i6 M o5 o6 Mo hf hx0
    unfold L12_spreads_35 at hf
    refine V_iload hc dX12_spreads_35 6 rfl ?_
    refine V_iload hc dX12_spreads_37 8 rfl ?_
    refine V_icmp_ge hc dX12_spreads_39 rfl (fun hq39 => ?_) (fun hq39 => ?_)
    · rw [if_pos hq39] at hf
      obtain ⟨rfl, rfl, rfl⟩ := si3 hf
      exact V_sub [0, 1, 2, 3, 4, 5, 6, 7] rfl hx0
    · rw [if_neg hq39] at hf
      refine V_aload hc dX12_spreads_42 4 rfl ?_
      refine V_iload hc dX12_spreads_44 5 rfl ?_
      refine V_iconst hc (v := (0 : Int32)) dX12_spreads_46 rfl ?_
      obtain ⟨M1, hM1, hf⟩ := mb hf
      refine R_iast hc hT ha5 hM1 dX12_spreads_47 ?_
      refine V_iinc hc (j := 5) (v := (i5 + (1 : Int32))) dX12_spreads_48 rfl rfl (by decide) rfl ?_
      refine V_iinc hc (j := 6) (v := (i6 + (1 : Int32))) dX12_spreads_51 rfl rfl (by decide) rfl ?_
      refine V_goto hc dX12_spreads_54 rfl ?_
      exact V_sub [2, 3, 4, 5, 6, 1, 0, 7, 8] rfl (ih _ _ _ hf hx0)
set_option maxHeartbeats 4000000 in
set_option maxRecDepth 100000 in
theorem L12_spreads_9_ok {E : CxT} {l : Launch} {D : va_G} {h : Nat} {q : Nat → Nat} {y : CyT} {zM uM z u : Nat} (hc : Cx E "FarEditorsModel" cX12_spreads 10) (hz : Cy E l D y 0 0 zM uM) (a1 : Nat) (c1 : Int32) (c2 : Int32) (c3 : Int32) (a5 : Nat) (ha1 : mKi a1 = 1) (ha5 : mKi a5 = 1) : ∀ (n : Nat) (i5 : Int32) (i6 : Int32) (i7 : Int32) (M : MS) {t : Nat} {o5 : Int32} {Mo : MS}, L12_spreads_9 a1 c1 c2 c3 a5 n i5 i6 i7 M = some (t, o5, Mo) → (hx0 : t = 0 → V E z u (mw h q y Mo) 63 [(5, .int o5)] []) → (hx1 : t = 1 → V E z u (mw h q y Mo) 114 [(5, .int o5)] []) → V E z u (mw h q y M) 9 [(0, .ref (q a1)), (1, .int c1), (2, .int c2), (3, .int c3), (4, .ref (q a5)), (5, .int i5), (6, .int i6), (7, .int i7)] [] := by
  have hT := hz.2.2.1
  intro n
  induction n with
  | zero => intro i5 i6 i7 M t o5 Mo hf; cases hf
  | succ n ih =>
    intro i5 i6 i7 M t o5 Mo hf hx0 hx1
    unfold L12_spreads_9 at hf
    refine V_iload hc dX12_spreads_9 7 rfl ?_
    refine V_iload_n hc dX12_spreads_11 rfl 2 rfl ?_
    refine V_icmp_gt hc dX12_spreads_12 rfl (fun hq12 => ?_) (fun hq12 => ?_)
    · rw [if_pos hq12] at hf
      obtain ⟨rfl, rfl, rfl⟩ := si3 hf
      exact V_sub [5] rfl (hx1 rfl)
    · rw [if_neg hq12] at hf
      refine V_iload hc dX12_spreads_15 7 rfl ?_
      refine V_iload_n hc dX12_spreads_17 rfl 2 rfl ?_
      obtain ⟨v1, hv2, hf⟩ := mb hf
      have hJ18 : V E z u (mw h q y M) 33 [(0, .ref (q a1)), (1, .int c1), (2, .int c2), (3, .int c3), (4, .ref (q a5)), (5, .int i5), (6, .int i6), (7, .int i7)] [.int v1] := by
        refine V_istore hc dX12_spreads_33 (by decide) rfl ?_
        obtain ⟨x4, x5, M6, hv7, hf⟩ := mb3 hf
        refine V_sub [1, 2, 3, 4, 5, 6, 7, 8, 0] rfl (L12_spreads_35_ok hc hz a1 c1 c2 c3 a5 i7 v1 ha1 ha5 FU _ _ _ hv7 ?_)
        refine V_iload hc dX12_spreads_57 7 rfl ?_
        refine V_iload_n hc dX12_spreads_59 rfl 2 rfl ?_
        refine V_icmp_ne hc dX12_spreads_60 rfl (fun hq60 => ?_) (fun hq60 => ?_)
        · rw [if_neg hq60] at hf
          refine V_aload_n hc dX12_spreads_66 rfl 0 rfl ?_
          refine V_iload_n hc dX12_spreads_67 rfl 1 rfl ?_
          refine V_iload hc dX12_spreads_68 7 rfl ?_
          refine V_iadd hc dX12_spreads_70 ?_
          obtain ⟨v8, hv8, hf⟩ := mb hf
          refine R_iald hc hT ha1 hv8 dX12_spreads_71 ?_
          refine V_bipush hc (v := (31 : Int32)) dX12_spreads_72 rfl ?_
          refine V_iand hc dX12_spreads_74 ?_
          refine V_istore hc dX12_spreads_75 (by decide) rfl ?_
          refine V_aload hc dX12_spreads_77 5 rfl ?_
          refine V_iload hc dX12_spreads_79 6 rfl ?_
          refine V_iload hc dX12_spreads_81 0 rfl ?_
          refine V_bipush hc (v := (27 : Int32)) dX12_spreads_83 rfl ?_
          obtain ⟨v9, hv10, hf⟩ := mb hf
          have hJ85 : V E z u (mw h q y M6) 94 [(0, .ref (q a1)), (1, .int c1), (2, .int c2), (3, .int c3), (4, .ref (q a5)), (5, .int x4), (6, .int x5), (7, .int i7), (9, .int (v8 &&& (31 : Int32)))] [.int v9, .int x4, .ref (q a5)] := by
            obtain ⟨M11, hM11, hf⟩ := mb hf
            refine R_iast hc hT ha5 hM11 dX12_spreads_94 ?_
            refine V_iinc hc (j := 5) (v := (x4 + (1 : Int32))) dX12_spreads_95 rfl rfl (by decide) rfl ?_
            refine V_iload hc dX12_spreads_98 8 rfl ?_
            refine V_bipush hc (v := (27 : Int32)) dX12_spreads_100 rfl ?_
            obtain ⟨x12, hv13, hf⟩ := mb hf
            have hJ102 : V E z u (mw h q y M11) 108 [(0, .ref (q a1)), (1, .int c1), (2, .int c2), (3, .int c3), (4, .ref (q a5)), (5, .int (x4 + (1 : Int32))), (6, .int x12), (7, .int i7)] [] := by
              refine V_iinc hc (j := 7) (v := (i7 + (1 : Int32))) dX12_spreads_108 rfl rfl (by decide) rfl ?_
              refine V_goto hc dX12_spreads_111 rfl ?_
              exact V_sub [1, 2, 3, 4, 5, 6, 7, 0] rfl (ih _ _ _ _ hf hx0 hx1)
            refine V_icmp_ne hc dX12_spreads_102 rfl (fun hq102 => ?_) (fun hq102 => ?_)
            · rw [if_neg hq102] at hv13
              obtain rfl := Option.some.inj hv13
              exact V_sub [1, 2, 3, 4, 5, 0, 6, 7] rfl hJ102
            · rw [if_pos hq102] at hv13
              refine V_iinc hc (j := 6) (v := (x5 + (1 : Int32))) dX12_spreads_105 rfl rfl (by decide) rfl ?_
              obtain rfl := Option.some.inj hv13
              exact V_sub [2, 3, 4, 5, 6, 1, 0, 7] rfl hJ102
          refine V_icmp_ne hc dX12_spreads_85 rfl (fun hq85 => ?_) (fun hq85 => ?_)
          · rw [if_neg hq85] at hv10
            refine V_iload hc dX12_spreads_92 0 rfl ?_
            obtain rfl := Option.some.inj hv10
            exact V_sub [1, 2, 3, 4, 5, 6, 7, 8, 0] rfl hJ85
          · rw [if_pos hq85] at hv10
            refine V_iconst hc (v := (-1 : Int32)) dX12_spreads_88 rfl ?_
            refine V_goto hc dX12_spreads_89 rfl ?_
            obtain rfl := Option.some.inj hv10
            exact V_sub [1, 2, 3, 4, 5, 6, 7, 8, 0] rfl hJ85
        · rw [if_pos hq60] at hf
          obtain ⟨rfl, rfl, rfl⟩ := si3 hf
          exact V_sub [5] rfl (hx0 rfl)
      refine V_icmp_ne hc dX12_spreads_18 rfl (fun hq18 => ?_) (fun hq18 => ?_)
      · rw [if_neg hq18] at hv2
        refine V_aload_n hc dX12_spreads_25 rfl 0 rfl ?_
        refine V_iload_n hc dX12_spreads_26 rfl 1 rfl ?_
        refine V_iload hc dX12_spreads_27 7 rfl ?_
        refine V_iadd hc dX12_spreads_29 ?_
        obtain ⟨v3, hv3, hv2⟩ := mb hv2
        refine R_iald hc hT ha1 hv3 dX12_spreads_30 ?_
        refine V_iconst hc (v := (5 : Int32)) dX12_spreads_31 rfl ?_
        refine V_ishr hc dX12_spreads_32 ?_
        obtain rfl := Option.some.inj hv2
        exact V_sub [0, 1, 2, 3, 4, 5, 6, 7] rfl hJ18
      · rw [if_pos hq18] at hv2
        refine V_iload_n hc dX12_spreads_21 rfl 3 rfl ?_
        refine V_goto hc dX12_spreads_22 rfl ?_
        obtain rfl := Option.some.inj hv2
        exact V_sub [0, 1, 2, 3, 4, 5, 6, 7] rfl hJ18
set_option maxHeartbeats 4000000 in
set_option maxRecDepth 100000 in
theorem c12_spreads (l : Launch) (D : va_G) (h : Nat) (q : Nat → Nat) (y : CyT) (zM uM z u : Nat) {M M' : MS} {a1 : Nat} {p2 : Int32} {p3 : Int32} {p4 : Int32} {a5 : Nat} {r : Int32} (ha1 : mKi a1 = 1) (ha5 : mKi a5 = 1) (hf : f12_spreads M a1 p2 p3 p4 a5 = some (r, M')) : CT l D y yX12_spreads cX12_spreads 10 (some .int) 0 0 zM uM [.ref (q a1), .int p2, .int p3, .int p4, .ref (q a5)] z u (mw h q y M) z u (mw h q y M') (some (.int r)) := by
  refine CT.of (by decide) (Nat.le_of_ble_eq_true rfl) (fun E hc hzz hnm => ?_)
  have hc : Cx E "FarEditorsModel" cX12_spreads 10 := hc
  have hz := hzz.1
  have hT := hz.2.2.1
  show V E z u (mw h q y M) 0 [(0, .ref (q a1)), (1, .int p2), (2, .int p3), (3, .int p4), (4, .ref (q a5))] []
  unfold f12_spreads at hf
  refine V_iconst hc (v := (0 : Int32)) dX12_spreads_0 rfl ?_
  refine V_istore hc dX12_spreads_1 (by decide) rfl ?_
  refine V_iconst hc (v := (0 : Int32)) dX12_spreads_3 rfl ?_
  refine V_istore hc dX12_spreads_4 (by decide) rfl ?_
  refine V_iconst hc (v := (0 : Int32)) dX12_spreads_6 rfl ?_
  refine V_istore hc dX12_spreads_7 (by decide) rfl ?_
  obtain ⟨t1, x2, M3, hv4, hf⟩ := mb3 hf
  refine V_sub [3, 4, 5, 6, 7, 2, 1, 0] rfl (L12_spreads_9_ok hc hz a1 p2 p3 p4 a5 ha1 ha5 FU _ _ _ _ hv4 (fun ht9_0 => ?_) (fun ht9_1 => ?_))
  · rw [if_pos ht9_0] at hf
    refine V_iload hc dX12_spreads_63 0 rfl ?_
    obtain ⟨rfl, rfl⟩ := si2 hf
    exact V_iret hc hzz rfl rfl rfl rfl rfl dX12_spreads_65
  · rw [if_neg (by rw [ht9_1]; decide)] at hf
    refine V_iload hc dX12_spreads_114 0 rfl ?_
    obtain ⟨rfl, rfl⟩ := si2 hf
    exact V_iret hc hzz rfl rfl rfl rfl rfl dX12_spreads_116
noncomputable def L12_gathers_9 (a1 : Nat) (c1 : Int32) (a3 : Nat) (c3 : Int32) : Nat → Int32 → Int32 → Int32 → MS → Option (Int32 × MS)
  | 0, _, _, _, _ => none
  | n + 1, i4, i5, i6, M =>
    if c1 ≤ i6 then (
      some (i4, M)
    ) else (
      (ld M a1 i6).bind fun v1 =>
      bn2 (
        if v1 = 0 then (
          some (i4, M)
        ) else (
          (ld M a1 i6).bind fun v5 =>
          (
            if v5 = (-1 : Int32) then (
              some (27 : Int32)
            ) else (
              (ld M a1 i6).bind fun v8 =>
              some v8
            )
          ).bind fun v6 =>
          (sd M a3 (c3 + i4) ((i5 <<< ((5 : Int32) &&& 31)) ||| v6)).bind fun M9 =>
          some ((i4 + (1 : Int32)), M9)
        )
      ) fun x2 M3 =>
      (ld M3 a1 i6).bind fun v10 =>
      (
        if 0 < v10 then (
          some i5
        ) else (
          some (i5 + (1 : Int32))
        )
      ).bind fun x11 =>
      L12_gathers_9 a1 c1 a3 c3 n x2 x11 (i6 + (1 : Int32)) M3
    )
noncomputable def f12_gathers (M : MS) (a1 : Nat) (p2 : Int32) (a3 : Nat) (p4 : Int32) : Option (Int32 × MS) :=
  bn2 (L12_gathers_9 a1 p2 a3 p4 FU (0 : Int32) (0 : Int32) (0 : Int32) M) fun x1 M2 =>
  some (x1, M2)
theorem hd12_gathers : yX12_gathers.cls = "FarEditorsModel" ∧ yX12_gathers.cls ≠ "java/lang/invoke/MethodHandle" ∧ yX12_gathers.cls ≠ "java/lang/invoke/VarHandle" ∧ (parseMethodDescriptor yX12_gathers.desc).map (fun d => d.parameters.length) = some 4 := by decide +kernel
set_option maxHeartbeats 4000000 in
set_option maxRecDepth 100000 in
theorem L12_gathers_9_ok {E : CxT} {l : Launch} {D : va_G} {h : Nat} {q : Nat → Nat} {y : CyT} {zM uM z u : Nat} (hc : Cx E "FarEditorsModel" cX12_gathers 7) (hz : Cy E l D y 0 0 zM uM) (a1 : Nat) (c1 : Int32) (a3 : Nat) (c3 : Int32) (ha1 : mKi a1 = 1) (ha3 : mKi a3 = 1) : ∀ (n : Nat) (i4 : Int32) (i5 : Int32) (i6 : Int32) (M : MS) {o4 : Int32} {Mo : MS}, L12_gathers_9 a1 c1 a3 c3 n i4 i5 i6 M = some (o4, Mo) → (hx0 : V E z u (mw h q y Mo) 69 [(4, .int o4)] []) → V E z u (mw h q y M) 9 [(0, .ref (q a1)), (1, .int c1), (2, .ref (q a3)), (3, .int c3), (4, .int i4), (5, .int i5), (6, .int i6)] [] := by
  have hT := hz.2.2.1
  intro n
  induction n with
  | zero => intro i4 i5 i6 M o4 Mo hf; cases hf
  | succ n ih =>
    intro i4 i5 i6 M o4 Mo hf hx0
    unfold L12_gathers_9 at hf
    refine V_iload hc dX12_gathers_9 6 rfl ?_
    refine V_iload_n hc dX12_gathers_11 rfl 1 rfl ?_
    refine V_icmp_ge hc dX12_gathers_12 rfl (fun hq12 => ?_) (fun hq12 => ?_)
    · rw [if_pos hq12] at hf
      obtain ⟨rfl, rfl⟩ := si2 hf
      exact V_sub [4] rfl hx0
    · rw [if_neg hq12] at hf
      refine V_aload_n hc dX12_gathers_15 rfl 0 rfl ?_
      refine V_iload hc dX12_gathers_16 6 rfl ?_
      obtain ⟨v1, hv1, hf⟩ := mb hf
      refine R_iald hc hT ha1 hv1 dX12_gathers_18 ?_
      obtain ⟨x2, M3, hv4, hf⟩ := mb2 hf
      have hJ19 : V E z u (mw h q y M3) 53 [(0, .ref (q a1)), (1, .int c1), (2, .ref (q a3)), (3, .int c3), (4, .int x2), (5, .int i5), (6, .int i6)] [] := by
        refine V_aload_n hc dX12_gathers_53 rfl 0 rfl ?_
        refine V_iload hc dX12_gathers_54 6 rfl ?_
        obtain ⟨v10, hv10, hf⟩ := mb hf
        refine R_iald hc hT ha1 hv10 dX12_gathers_56 ?_
        obtain ⟨x11, hv12, hf⟩ := mb hf
        have hJ57 : V E z u (mw h q y M3) 63 [(0, .ref (q a1)), (1, .int c1), (2, .ref (q a3)), (3, .int c3), (4, .int x2), (5, .int x11), (6, .int i6)] [] := by
          refine V_iinc hc (j := 6) (v := (i6 + (1 : Int32))) dX12_gathers_63 rfl rfl (by decide) rfl ?_
          refine V_goto hc dX12_gathers_66 rfl ?_
          exact V_sub [1, 2, 3, 4, 5, 6, 0] rfl (ih _ _ _ _ hf hx0)
        refine V_if_gt hc dX12_gathers_57 rfl (fun hq57 => ?_) (fun hq57 => ?_)
        · rw [if_pos hq57] at hv12
          obtain rfl := Option.some.inj hv12
          exact V_sub [0, 1, 2, 3, 4, 5, 6] rfl hJ57
        · rw [if_neg hq57] at hv12
          refine V_iinc hc (j := 5) (v := (i5 + (1 : Int32))) dX12_gathers_60 rfl rfl (by decide) rfl ?_
          obtain rfl := Option.some.inj hv12
          exact V_sub [1, 2, 3, 4, 5, 0, 6] rfl hJ57
      refine V_if_eq hc dX12_gathers_19 rfl (fun hq19 => ?_) (fun hq19 => ?_)
      · rw [if_pos hq19] at hv4
        obtain ⟨rfl, rfl⟩ := si2 hv4
        exact V_sub [0, 1, 2, 3, 4, 5, 6] rfl hJ19
      · rw [if_neg hq19] at hv4
        refine V_aload_n hc dX12_gathers_22 rfl 2 rfl ?_
        refine V_iload_n hc dX12_gathers_23 rfl 3 rfl ?_
        refine V_iload hc dX12_gathers_24 4 rfl ?_
        refine V_iadd hc dX12_gathers_26 ?_
        refine V_iload hc dX12_gathers_27 5 rfl ?_
        refine V_iconst hc (v := (5 : Int32)) dX12_gathers_29 rfl ?_
        refine V_ishl hc dX12_gathers_30 ?_
        refine V_aload_n hc dX12_gathers_31 rfl 0 rfl ?_
        refine V_iload hc dX12_gathers_32 6 rfl ?_
        obtain ⟨v5, hv5, hv4⟩ := mb hv4
        refine R_iald hc hT ha1 hv5 dX12_gathers_34 ?_
        refine V_iconst hc (v := (-1 : Int32)) dX12_gathers_35 rfl ?_
        obtain ⟨v6, hv7, hv4⟩ := mb hv4
        have hJ36 : V E z u (mw h q y M) 48 [(0, .ref (q a1)), (1, .int c1), (2, .ref (q a3)), (3, .int c3), (4, .int i4), (5, .int i5), (6, .int i6)] [.int v6, .int (i5 <<< ((5 : Int32) &&& 31)), .int (c3 + i4), .ref (q a3)] := by
          refine V_ior hc dX12_gathers_48 ?_
          obtain ⟨M9, hM9, hv4⟩ := mb hv4
          refine R_iast hc hT ha3 hM9 dX12_gathers_49 ?_
          refine V_iinc hc (j := 4) (v := (i4 + (1 : Int32))) dX12_gathers_50 rfl rfl (by decide) rfl ?_
          obtain ⟨rfl, rfl⟩ := si2 hv4
          exact V_sub [1, 2, 3, 4, 0, 5, 6] rfl hJ19
        refine V_icmp_ne hc dX12_gathers_36 rfl (fun hq36 => ?_) (fun hq36 => ?_)
        · rw [if_neg hq36] at hv7
          refine V_aload_n hc dX12_gathers_44 rfl 0 rfl ?_
          refine V_iload hc dX12_gathers_45 6 rfl ?_
          obtain ⟨v8, hv8, hv7⟩ := mb hv7
          refine R_iald hc hT ha1 hv8 dX12_gathers_47 ?_
          obtain rfl := Option.some.inj hv7
          exact V_sub [0, 1, 2, 3, 4, 5, 6] rfl hJ36
        · rw [if_pos hq36] at hv7
          refine V_bipush hc (v := (27 : Int32)) dX12_gathers_39 rfl ?_
          refine V_goto hc dX12_gathers_41 rfl ?_
          obtain rfl := Option.some.inj hv7
          exact V_sub [0, 1, 2, 3, 4, 5, 6] rfl hJ36
set_option maxHeartbeats 4000000 in
set_option maxRecDepth 100000 in
theorem c12_gathers (l : Launch) (D : va_G) (h : Nat) (q : Nat → Nat) (y : CyT) (zM uM z u : Nat) {M M' : MS} {a1 : Nat} {p2 : Int32} {a3 : Nat} {p4 : Int32} {r : Int32} (ha1 : mKi a1 = 1) (ha3 : mKi a3 = 1) (hf : f12_gathers M a1 p2 a3 p4 = some (r, M')) : CT l D y yX12_gathers cX12_gathers 7 (some .int) 0 0 zM uM [.ref (q a1), .int p2, .ref (q a3), .int p4] z u (mw h q y M) z u (mw h q y M') (some (.int r)) := by
  refine CT.of (by decide) (Nat.le_of_ble_eq_true rfl) (fun E hc hzz hnm => ?_)
  have hc : Cx E "FarEditorsModel" cX12_gathers 7 := hc
  have hz := hzz.1
  have hT := hz.2.2.1
  show V E z u (mw h q y M) 0 [(0, .ref (q a1)), (1, .int p2), (2, .ref (q a3)), (3, .int p4)] []
  unfold f12_gathers at hf
  refine V_iconst hc (v := (0 : Int32)) dX12_gathers_0 rfl ?_
  refine V_istore hc dX12_gathers_1 (by decide) rfl ?_
  refine V_iconst hc (v := (0 : Int32)) dX12_gathers_3 rfl ?_
  refine V_istore hc dX12_gathers_4 (by decide) rfl ?_
  refine V_iconst hc (v := (0 : Int32)) dX12_gathers_6 rfl ?_
  refine V_istore hc dX12_gathers_7 (by decide) rfl ?_
  obtain ⟨x1, M2, hv3, hf⟩ := mb2 hf
  refine V_sub [3, 4, 5, 6, 2, 1, 0] rfl (L12_gathers_9_ok hc hz a1 p2 a3 p4 ha1 ha3 FU _ _ _ _ hv3 ?_)
  refine V_iload hc dX12_gathers_69 0 rfl ?_
  obtain ⟨rfl, rfl⟩ := si2 hf
  exact V_iret hc hzz rfl rfl rfl rfl rfl dX12_gathers_71
noncomputable def L12_settles_10 (a1 : Nat) (c2 : Int32) (c3 : Int32) (M : MS) : Nat → Int32 → Option (Int32)
  | 0, _ => none
  | n + 1, i4 =>
    if c2 ≤ i4 then (
      some i4
    ) else (
      (ld M a1 i4).bind fun v1 =>
      if v1 = 0 then (
        some i4
      ) else (
        L12_settles_10 a1 c2 c3 M n (i4 + (1 : Int32))
      )
    )
noncomputable def L12_settles_35 (a1 : Nat) (c2 : Int32) (c3 : Int32) (c4 : Int32) : Nat → Int32 → Int32 → MS → Option (Int32 × MS)
  | 0, _, _, _ => none
  | n + 1, i5, i6, M =>
    if c4 ≤ i6 then (
      some (i5, M)
    ) else (
      (ld M a1 i6).bind fun v1 =>
      bn2 (
        if v1 = (-1 : Int32) then (
          some (i5, M)
        ) else (
          (ld M a1 i6).bind fun v5 =>
          (sd M 24 i5 v5).bind fun M6 =>
          some ((i5 + (1 : Int32)), M6)
        )
      ) fun x2 M3 =>
      L12_settles_35 a1 c2 c3 c4 n x2 (i6 + (1 : Int32)) M3
    )
noncomputable def L12_settles_70 (a1 : Nat) (c2 : Int32) (c3 : Int32) (c4 : Int32) : Nat → Int32 → MS → Option (MS)
  | 0, _, _ => none
  | n + 1, i5, M =>
    if c4 ≤ i5 then (
      some M
    ) else (
      (sd M 24 i5 (-1 : Int32)).bind fun M1 =>
      L12_settles_70 a1 c2 c3 c4 n (i5 + (1 : Int32)) M1
    )
noncomputable def L12_settles_94 (a1 : Nat) (c2 : Int32) (c4 : Int32) : Nat → Int32 → MS → Option (MS)
  | 0, _, _ => none
  | n + 1, i6, M =>
    if c4 ≤ i6 then (
      some M
    ) else (
      (ld M 24 i6).bind fun v1 =>
      (sd M a1 i6 v1).bind fun M2 =>
      L12_settles_94 a1 c2 c4 n (i6 + (1 : Int32)) M2
    )
noncomputable def L12_settles_2 (a1 : Nat) (c2 : Int32) : Nat → Int32 → MS → Option (MS)
  | 0, _, _ => none
  | n + 1, i3, M =>
    if c2 ≤ i3 then (
      some M
    ) else (
      (L12_settles_10 a1 c2 i3 M FU i3).bind fun x1 =>
      bn2 (L12_settles_35 a1 c2 i3 x1 FU i3 i3 M) fun x3 M4 =>
      (L12_settles_70 a1 c2 i3 x1 FU x3 M4).bind fun M6 =>
      (L12_settles_94 a1 c2 x1 FU i3 M6).bind fun M8 =>
      L12_settles_2 a1 c2 n (x1 + (1 : Int32)) M8
    )
noncomputable def f12_settles (M : MS) (a1 : Nat) (p2 : Int32) : Option (MS) :=
  (L12_settles_2 a1 p2 FU (0 : Int32) M).bind fun M1 =>
  some M1
theorem hd12_settles : yX12_settles.cls = "FarEditorsModel" ∧ yX12_settles.cls ≠ "java/lang/invoke/MethodHandle" ∧ yX12_settles.cls ≠ "java/lang/invoke/VarHandle" ∧ (parseMethodDescriptor yX12_settles.desc).map (fun d => d.parameters.length) = some 2 := by decide +kernel
set_option maxHeartbeats 4000000 in
set_option maxRecDepth 100000 in
theorem L12_settles_10_ok {E : CxT} {l : Launch} {D : va_G} {h : Nat} {q : Nat → Nat} {y : CyT} {zM uM z u : Nat} (hc : Cx E "FarEditorsModel" cX12_settles 7) (hz : Cy E l D y 0 0 zM uM) (a1 : Nat) (c2 : Int32) (c3 : Int32) (M : MS) (ha1 : mKi a1 = 1) : ∀ (n : Nat) (i4 : Int32) {o4 : Int32}, L12_settles_10 a1 c2 c3 M n i4 = some o4 → (hx0 : V E z u (mw h q y M) 29 [(0, .ref h), (1, .ref (q a1)), (2, .int c2), (3, .int c3), (4, .int o4)] []) → V E z u (mw h q y M) 10 [(0, .ref h), (1, .ref (q a1)), (2, .int c2), (3, .int c3), (4, .int i4)] [] := by
  have hT := hz.2.2.1
  intro n
  induction n with
  | zero => intro i4 o4 hf; cases hf
  | succ n ih =>
    intro i4 o4 hf hx0
    unfold L12_settles_10 at hf
    refine V_iload hc dX12_settles_10 4 rfl ?_
    refine V_iload_n hc dX12_settles_12 rfl 2 rfl ?_
    refine V_icmp_ge hc dX12_settles_13 rfl (fun hq13 => ?_) (fun hq13 => ?_)
    · rw [if_pos hq13] at hf
      obtain rfl := Option.some.inj hf
      exact V_sub [0, 1, 2, 3, 4] rfl hx0
    · rw [if_neg hq13] at hf
      refine V_aload_n hc dX12_settles_16 rfl 1 rfl ?_
      refine V_iload hc dX12_settles_17 4 rfl ?_
      obtain ⟨v1, hv1, hf⟩ := mb hf
      refine R_iald hc hT ha1 hv1 dX12_settles_19 ?_
      refine V_if_eq hc dX12_settles_20 rfl (fun hq20 => ?_) (fun hq20 => ?_)
      · rw [if_pos hq20] at hf
        obtain rfl := Option.some.inj hf
        exact V_sub [0, 1, 2, 3, 4] rfl hx0
      · rw [if_neg hq20] at hf
        refine V_iinc hc (j := 4) (v := (i4 + (1 : Int32))) dX12_settles_23 rfl rfl (by decide) rfl ?_
        refine V_goto hc dX12_settles_26 rfl ?_
        exact V_sub [1, 2, 3, 4, 0] rfl (ih _ hf hx0)
set_option maxHeartbeats 4000000 in
set_option maxRecDepth 100000 in
theorem L12_settles_35_ok {E : CxT} {l : Launch} {D : va_G} {h : Nat} {q : Nat → Nat} {y : CyT} {zM uM z u : Nat} (hc : Cx E "FarEditorsModel" cX12_settles 7) (hz : Cy E l D y 0 0 zM uM) (a1 : Nat) (c2 : Int32) (c3 : Int32) (c4 : Int32) (ha1 : mKi a1 = 1) : ∀ (n : Nat) (i5 : Int32) (i6 : Int32) (M : MS) {o5 : Int32} {Mo : MS}, L12_settles_35 a1 c2 c3 c4 n i5 i6 M = some (o5, Mo) → (hx0 : V E z u (mw h q y Mo) 70 [(0, .ref h), (1, .ref (q a1)), (2, .int c2), (3, .int c3), (4, .int c4), (5, .int o5)] []) → V E z u (mw h q y M) 35 [(0, .ref h), (1, .ref (q a1)), (2, .int c2), (3, .int c3), (4, .int c4), (5, .int i5), (6, .int i6)] [] := by
  have hT := hz.2.2.1
  intro n
  induction n with
  | zero => intro i5 i6 M o5 Mo hf; cases hf
  | succ n ih =>
    intro i5 i6 M o5 Mo hf hx0
    unfold L12_settles_35 at hf
    refine V_iload hc dX12_settles_35 6 rfl ?_
    refine V_iload hc dX12_settles_37 4 rfl ?_
    refine V_icmp_ge hc dX12_settles_39 rfl (fun hq39 => ?_) (fun hq39 => ?_)
    · rw [if_pos hq39] at hf
      obtain ⟨rfl, rfl⟩ := si2 hf
      exact V_sub [0, 1, 2, 3, 4, 5] rfl hx0
    · rw [if_neg hq39] at hf
      refine V_aload_n hc dX12_settles_42 rfl 1 rfl ?_
      refine V_iload hc dX12_settles_43 6 rfl ?_
      obtain ⟨v1, hv1, hf⟩ := mb hf
      refine R_iald hc hT ha1 hv1 dX12_settles_45 ?_
      refine V_iconst hc (v := (-1 : Int32)) dX12_settles_46 rfl ?_
      obtain ⟨x2, M3, hv4, hf⟩ := mb2 hf
      have hJ47 : V E z u (mw h q y M3) 64 [(0, .ref h), (1, .ref (q a1)), (2, .int c2), (3, .int c3), (4, .int c4), (5, .int x2), (6, .int i6)] [] := by
        refine V_iinc hc (j := 6) (v := (i6 + (1 : Int32))) dX12_settles_64 rfl rfl (by decide) rfl ?_
        refine V_goto hc dX12_settles_67 rfl ?_
        exact V_sub [1, 2, 3, 4, 5, 6, 0] rfl (ih _ _ _ hf hx0)
      refine V_icmp_eq hc dX12_settles_47 rfl (fun hq47 => ?_) (fun hq47 => ?_)
      · rw [if_pos hq47] at hv4
        obtain ⟨rfl, rfl⟩ := si2 hv4
        exact V_sub [0, 1, 2, 3, 4, 5, 6] rfl hJ47
      · rw [if_neg hq47] at hv4
        refine V_aload_n hc dX12_settles_50 rfl 0 rfl ?_
        refine R_getr hc 24 rfl (by decide) w6_82 dX12_settles_51 ?_
        refine V_iload hc dX12_settles_54 5 rfl ?_
        refine V_aload_n hc dX12_settles_56 rfl 1 rfl ?_
        refine V_iload hc dX12_settles_57 6 rfl ?_
        obtain ⟨v5, hv5, hv4⟩ := mb hv4
        refine R_iald hc hT ha1 hv5 dX12_settles_59 ?_
        obtain ⟨M6, hM6, hv4⟩ := mb hv4
        refine R_iast hc hT rfl hM6 dX12_settles_60 ?_
        refine V_iinc hc (j := 5) (v := (i5 + (1 : Int32))) dX12_settles_61 rfl rfl (by decide) rfl ?_
        obtain ⟨rfl, rfl⟩ := si2 hv4
        exact V_sub [1, 2, 3, 4, 5, 0, 6] rfl hJ47
set_option maxHeartbeats 4000000 in
set_option maxRecDepth 100000 in
theorem L12_settles_70_ok {E : CxT} {l : Launch} {D : va_G} {h : Nat} {q : Nat → Nat} {y : CyT} {zM uM z u : Nat} (hc : Cx E "FarEditorsModel" cX12_settles 7) (hz : Cy E l D y 0 0 zM uM) (a1 : Nat) (c2 : Int32) (c3 : Int32) (c4 : Int32) (ha1 : mKi a1 = 1) : ∀ (n : Nat) (i5 : Int32) (M : MS) {Mo : MS}, L12_settles_70 a1 c2 c3 c4 n i5 M = some Mo → (hx0 : V E z u (mw h q y Mo) 91 [(0, .ref h), (1, .ref (q a1)), (2, .int c2), (3, .int c3), (4, .int c4)] []) → V E z u (mw h q y M) 70 [(0, .ref h), (1, .ref (q a1)), (2, .int c2), (3, .int c3), (4, .int c4), (5, .int i5)] [] := by
  have hT := hz.2.2.1
  intro n
  induction n with
  | zero => intro i5 M Mo hf; cases hf
  | succ n ih =>
    intro i5 M Mo hf hx0
    unfold L12_settles_70 at hf
    refine V_iload hc dX12_settles_70 5 rfl ?_
    refine V_iload hc dX12_settles_72 4 rfl ?_
    refine V_icmp_ge hc dX12_settles_74 rfl (fun hq74 => ?_) (fun hq74 => ?_)
    · rw [if_pos hq74] at hf
      obtain rfl := Option.some.inj hf
      exact V_sub [0, 1, 2, 3, 4] rfl hx0
    · rw [if_neg hq74] at hf
      refine V_aload_n hc dX12_settles_77 rfl 0 rfl ?_
      refine R_getr hc 24 rfl (by decide) w6_82 dX12_settles_78 ?_
      refine V_iload hc dX12_settles_81 5 rfl ?_
      refine V_iconst hc (v := (-1 : Int32)) dX12_settles_83 rfl ?_
      obtain ⟨M1, hM1, hf⟩ := mb hf
      refine R_iast hc hT rfl hM1 dX12_settles_84 ?_
      refine V_iinc hc (j := 5) (v := (i5 + (1 : Int32))) dX12_settles_85 rfl rfl (by decide) rfl ?_
      refine V_goto hc dX12_settles_88 rfl ?_
      exact V_sub [1, 2, 3, 4, 5, 0] rfl (ih _ _ hf hx0)
set_option maxHeartbeats 4000000 in
set_option maxRecDepth 100000 in
theorem L12_settles_94_ok {E : CxT} {l : Launch} {D : va_G} {h : Nat} {q : Nat → Nat} {y : CyT} {zM uM z u : Nat} (hc : Cx E "FarEditorsModel" cX12_settles 7) (hz : Cy E l D y 0 0 zM uM) (a1 : Nat) (c2 : Int32) (c4 : Int32) (ha1 : mKi a1 = 1) : ∀ (n : Nat) (i6 : Int32) (M : MS) {Mo : MS}, L12_settles_94 a1 c2 c4 n i6 M = some Mo → (hx0 : V E z u (mw h q y Mo) 118 [(0, .ref h), (1, .ref (q a1)), (2, .int c2), (4, .int c4)] []) → V E z u (mw h q y M) 94 [(0, .ref h), (1, .ref (q a1)), (2, .int c2), (4, .int c4), (6, .int i6)] [] := by
  have hT := hz.2.2.1
  intro n
  induction n with
  | zero => intro i6 M Mo hf; cases hf
  | succ n ih =>
    intro i6 M Mo hf hx0
    unfold L12_settles_94 at hf
    refine V_iload hc dX12_settles_94 4 rfl ?_
    refine V_iload hc dX12_settles_96 3 rfl ?_
    refine V_icmp_ge hc dX12_settles_98 rfl (fun hq98 => ?_) (fun hq98 => ?_)
    · rw [if_pos hq98] at hf
      obtain rfl := Option.some.inj hf
      exact V_sub [0, 1, 2, 3] rfl hx0
    · rw [if_neg hq98] at hf
      refine V_aload_n hc dX12_settles_101 rfl 1 rfl ?_
      refine V_iload hc dX12_settles_102 4 rfl ?_
      refine V_aload_n hc dX12_settles_104 rfl 0 rfl ?_
      refine R_getr hc 24 rfl (by decide) w6_82 dX12_settles_105 ?_
      refine V_iload hc dX12_settles_108 4 rfl ?_
      obtain ⟨v1, hv1, hf⟩ := mb hf
      refine R_iald hc hT rfl hv1 dX12_settles_110 ?_
      obtain ⟨M2, hM2, hf⟩ := mb hf
      refine R_iast hc hT ha1 hM2 dX12_settles_111 ?_
      refine V_iinc hc (j := 4) (v := (i6 + (1 : Int32))) dX12_settles_112 rfl rfl (by decide) rfl ?_
      refine V_goto hc dX12_settles_115 rfl ?_
      exact V_sub [1, 2, 3, 4, 0] rfl (ih _ _ hf hx0)
set_option maxHeartbeats 4000000 in
set_option maxRecDepth 100000 in
theorem L12_settles_2_ok {E : CxT} {l : Launch} {D : va_G} {h : Nat} {q : Nat → Nat} {y : CyT} {zM uM z u : Nat} (hc : Cx E "FarEditorsModel" cX12_settles 7) (hz : Cy E l D y 0 0 zM uM) (a1 : Nat) (c2 : Int32) (ha1 : mKi a1 = 1) : ∀ (n : Nat) (i3 : Int32) (M : MS) {Mo : MS}, L12_settles_2 a1 c2 n i3 M = some Mo → (hx0 : V E z u (mw h q y Mo) 126 [] []) → V E z u (mw h q y M) 2 [(0, .ref h), (1, .ref (q a1)), (2, .int c2), (3, .int i3)] [] := by
  have hT := hz.2.2.1
  intro n
  induction n with
  | zero => intro i3 M Mo hf; cases hf
  | succ n ih =>
    intro i3 M Mo hf hx0
    unfold L12_settles_2 at hf
    refine V_iload_n hc dX12_settles_2 rfl 3 rfl ?_
    refine V_iload_n hc dX12_settles_3 rfl 2 rfl ?_
    refine V_icmp_ge hc dX12_settles_4 rfl (fun hq4 => ?_) (fun hq4 => ?_)
    · rw [if_pos hq4] at hf
      obtain rfl := Option.some.inj hf
      exact V_sub [] rfl hx0
    · rw [if_neg hq4] at hf
      refine V_iload_n hc dX12_settles_7 rfl 3 rfl ?_
      refine V_istore hc dX12_settles_8 (by decide) rfl ?_
      obtain ⟨x1, hv2, hf⟩ := mb hf
      refine V_sub [1, 2, 3, 4, 0] rfl (L12_settles_10_ok hc hz a1 c2 i3 M ha1 FU _ hv2 ?_)
      refine V_iload_n hc dX12_settles_29 rfl 3 rfl ?_
      refine V_istore hc dX12_settles_30 (by decide) rfl ?_
      refine V_iload_n hc dX12_settles_32 rfl 4 rfl ?_
      refine V_istore hc dX12_settles_33 (by decide) rfl ?_
      obtain ⟨x3, M4, hv5, hf⟩ := mb2 hf
      refine V_sub [2, 3, 4, 5, 6, 1, 0] rfl (L12_settles_35_ok hc hz a1 c2 i3 x1 ha1 FU _ _ _ hv5 ?_)
      obtain ⟨M6, hv7, hf⟩ := mb hf
      refine V_sub [0, 1, 2, 3, 4, 5] rfl (L12_settles_70_ok hc hz a1 c2 i3 x1 ha1 FU _ _ hv7 ?_)
      refine V_iload_n hc dX12_settles_91 rfl 3 rfl ?_
      refine V_istore hc dX12_settles_92 (by decide) rfl ?_
      obtain ⟨M8, hv9, hf⟩ := mb hf
      refine V_sub [1, 2, 3, 5, 0] rfl (L12_settles_94_ok hc hz a1 c2 x1 ha1 FU _ _ hv9 ?_)
      refine V_iload hc dX12_settles_118 3 rfl ?_
      refine V_iconst hc (v := (1 : Int32)) dX12_settles_120 rfl ?_
      refine V_iadd hc dX12_settles_121 ?_
      refine V_istore_n hc dX12_settles_122 rfl (by decide) rfl ?_
      refine V_goto hc dX12_settles_123 rfl ?_
      exact V_sub [1, 2, 3, 0] rfl (ih _ _ hf hx0)
set_option maxHeartbeats 4000000 in
set_option maxRecDepth 100000 in
theorem c12_settles (l : Launch) (D : va_G) (h : Nat) (q : Nat → Nat) (y : CyT) (zM uM z u : Nat) {M M' : MS} {a1 : Nat} {p2 : Int32} (ha1 : mKi a1 = 1) (hf : f12_settles M a1 p2 = some M') : CT l D y yX12_settles cX12_settles 7 none 0 0 zM uM [.ref h, .ref (q a1), .int p2] z u (mw h q y M) z u (mw h q y M') none := by
  refine CT.of (by decide) (Nat.le_of_ble_eq_true rfl) (fun E hc hzz hnm => ?_)
  have hc : Cx E "FarEditorsModel" cX12_settles 7 := hc
  have hz := hzz.1
  have hT := hz.2.2.1
  show V E z u (mw h q y M) 0 [(0, .ref h), (1, .ref (q a1)), (2, .int p2)] []
  unfold f12_settles at hf
  refine V_iconst hc (v := (0 : Int32)) dX12_settles_0 rfl ?_
  refine V_istore_n hc dX12_settles_1 rfl (by decide) rfl ?_
  obtain ⟨M1, hv2, hf⟩ := mb hf
  refine V_sub [1, 2, 3, 0] rfl (L12_settles_2_ok hc hz a1 p2 ha1 FU _ _ hv2 ?_)
  obtain rfl := Option.some.inj hf
  exact V_vret hc hzz rfl rfl rfl rfl dX12_settles_126
