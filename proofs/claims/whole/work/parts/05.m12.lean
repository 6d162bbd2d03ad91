noncomputable def L12_takesBack_2 : Nat → Int32 → MS → Option (MS)
  | 0, _, _ => none
  | n + 1, i1, M =>
    if (10476 : Int32) ≤ i1 then (
      some M
    ) else (
      (ld M 52 i1).bind fun v1 =>
      (sd M 30 i1 v1).bind fun M2 =>
      L12_takesBack_2 n (i1 + (1 : Int32)) M2
    )
noncomputable def f12_takesBack (M : MS) : Option (MS) :=
  (L12_takesBack_2 FU (0 : Int32) M).bind fun M1 =>
  some M1
theorem hd12_takesBack : yX12_takesBack.cls = "FarEditorsModel" ∧ yX12_takesBack.cls ≠ "java/lang/invoke/MethodHandle" ∧ yX12_takesBack.cls ≠ "java/lang/invoke/VarHandle" ∧ (parseMethodDescriptor yX12_takesBack.desc).map (fun d => d.parameters.length) = some 0 := by decide +kernel
set_option maxHeartbeats 4000000 in
set_option maxRecDepth 100000 in
theorem L12_takesBack_2_ok {E : CxT} {l : Launch} {D : va_G} {h : Nat} {q : Nat → Nat} {y : CyT} {zM uM z u : Nat} (hc : Cx E "FarEditorsModel" cX12_takesBack 2) (hz : Cy E l D y 0 0 zM uM) : ∀ (n : Nat) (i1 : Int32) (M : MS) {Mo : MS}, L12_takesBack_2 n i1 M = some Mo → (hx0 : V E z u (mw h q y Mo) 27 [] []) → V E z u (mw h q y M) 2 [(0, .ref h), (1, .int i1)] [] := by
  have hT := hz.2.2.1
  intro n
  induction n with
  | zero => intro i1 M Mo hf; cases hf
  | succ n ih =>
    intro i1 M Mo hf hx0
    unfold L12_takesBack_2 at hf
    refine V_iload_n hc dX12_takesBack_2 rfl 1 rfl ?_
    refine V_sipush hc (v := (10476 : Int32)) dX12_takesBack_3 rfl ?_
    refine V_icmp_ge hc dX12_takesBack_6 rfl (fun hq6 => ?_) (fun hq6 => ?_)
    · rw [if_pos hq6] at hf
      obtain rfl := Option.some.inj hf
      exact V_sub [] rfl hx0
    · rw [if_neg hq6] at hf
      refine V_aload_n hc dX12_takesBack_9 rfl 0 rfl ?_
      refine R_getr hc 30 rfl (by decide) w6_88 dX12_takesBack_10 ?_
      refine V_iload_n hc dX12_takesBack_13 rfl 1 rfl ?_
      refine V_aload_n hc dX12_takesBack_14 rfl 0 rfl ?_
      refine R_getr hc 52 rfl (by decide) w6_110 dX12_takesBack_15 ?_
      refine V_iload_n hc dX12_takesBack_18 rfl 1 rfl ?_
      obtain ⟨v1, hv1, hf⟩ := mb hf
      refine R_iald hc hT rfl hv1 dX12_takesBack_19 ?_
      obtain ⟨M2, hM2, hf⟩ := mb hf
      refine R_iast hc hT rfl hM2 dX12_takesBack_20 ?_
      refine V_iinc hc (j := 1) (v := (i1 + (1 : Int32))) dX12_takesBack_21 rfl rfl (by decide) rfl ?_
      refine V_goto hc dX12_takesBack_24 rfl ?_
      exact V_sub [1, 0] rfl (ih _ _ hf hx0)
set_option maxHeartbeats 4000000 in
set_option maxRecDepth 100000 in
theorem c12_takesBack (l : Launch) (D : va_G) (h : Nat) (q : Nat → Nat) (y : CyT) (zM uM z u : Nat) {M M' : MS} (hf : f12_takesBack M = some M') : CT l D y yX12_takesBack cX12_takesBack 2 none 0 0 zM uM [.ref h] z u (mw h q y M) z u (mw h q y M') none := by
  refine CT.of (by decide) (Nat.le_of_ble_eq_true rfl) (fun E hc hzz hnm => ?_)
  have hc : Cx E "FarEditorsModel" cX12_takesBack 2 := hc
  have hz := hzz.1
  have hT := hz.2.2.1
  show V E z u (mw h q y M) 0 [(0, .ref h)] []
  unfold f12_takesBack at hf
  refine V_iconst hc (v := (0 : Int32)) dX12_takesBack_0 rfl ?_
  refine V_istore_n hc dX12_takesBack_1 rfl (by decide) rfl ?_
  obtain ⟨M1, hv2, hf⟩ := mb hf
  refine V_sub [1, 0] rfl (L12_takesBack_2_ok hc hz FU _ _ hv2 ?_)
  obtain rfl := Option.some.inj hf
  exact V_vret hc hzz rfl rfl rfl rfl dX12_takesBack_27
noncomputable def L12_quiet_15 : Nat → Int32 → MS → Option (Int32 × MS)
  | 0, _, _ => none
  | n + 1, i1, M =>
    (f12_wayMany M).bind fun v1 =>
    if v1 ≤ 0 then (
      some (i1, M)
    ) else (
      if (99 : Int32) ≤ i1 then (
        some (i1, M)
      ) else (
        (ld M 30 (0 : Int32)).bind fun v2 =>
        if (999 : Int32) ≤ v2 then (
          some (i1, M)
        ) else (
          (f12_tickGoes M).bind fun M3 =>
          L12_quiet_15 n (i1 + (1 : Int32)) M3
        )
      )
    )
noncomputable def f12_quiet (M : MS) : Option (Int32 × MS) :=
  if (gF M 31) = 0 then (
    some ((-1 : Int32), M)
  ) else (
    (f12_putsAside M).bind fun M1 =>
    bn2 (L12_quiet_15 FU (0 : Int32) M1) fun x2 M3 =>
    (f12_wayMany M3).bind fun v5 =>
    (
      if v5 = 0 then (
        some (1 : Int32)
      ) else (
        some (0 : Int32)
      )
    ).bind fun v6 =>
    (f12_takesBack M3).bind fun M8 =>
    (
      if v6 = 0 then (
        some (-1 : Int32)
      ) else (
        some x2
      )
    ).bind fun v9 =>
    some (v9, M8)
  )
theorem hd12_quiet : yX12_quiet.cls = "FarEditorsModel" ∧ yX12_quiet.cls ≠ "java/lang/invoke/MethodHandle" ∧ yX12_quiet.cls ≠ "java/lang/invoke/VarHandle" ∧ (parseMethodDescriptor yX12_quiet.desc).map (fun d => d.parameters.length) = some 0 := by decide +kernel
set_option maxHeartbeats 4000000 in
set_option maxRecDepth 100000 in
theorem L12_quiet_15_ok {E : CxT} {l : Launch} {D : va_G} {h : Nat} {q : Nat → Nat} {y : CyT} {zM uM z u : Nat} (hc : Cx E "FarEditorsModel" cX12_quiet 3) (hz : Cy E l D y 5 123 zM uM) : ∀ (n : Nat) (i1 : Int32) (M : MS) {o1 : Int32} {Mo : MS}, L12_quiet_15 n i1 M = some (o1, Mo) → (hx0 : V E z u (mw h q y Mo) 50 [(0, .ref h), (1, .int o1)] []) → V E z u (mw h q y M) 15 [(0, .ref h), (1, .int i1)] [] := by
  have hT := hz.2.2.1
  intro n
  induction n with
  | zero => intro i1 M o1 Mo hf; cases hf
  | succ n ih =>
    intro i1 M o1 Mo hf hx0
    unfold L12_quiet_15 at hf
    refine V_aload_n hc dX12_quiet_15 rfl 0 rfl ?_
    obtain ⟨v1, hv1, hf⟩ := mb hf
    refine R_callVi hc hz (As := []) (c12_wayMany l D h q y _ _ _ _ hv1) w8_72 w8_74 wp7_12 w1_13 w8_75 hd12_wayMany ⟨Nat.le_of_ble_eq_true rfl, Nat.le_of_ble_eq_true rfl⟩ rfl rfl (Nat.le_of_ble_eq_true rfl) dX12_quiet_16 ?_
    refine V_if_le hc dX12_quiet_19 rfl (fun hq19 => ?_) (fun hq19 => ?_)
    · rw [if_pos hq19] at hf
      obtain ⟨rfl, rfl⟩ := si2 hf
      exact V_sub [0, 1] rfl hx0
    · rw [if_neg hq19] at hf
      refine V_iload_n hc dX12_quiet_22 rfl 1 rfl ?_
      refine V_bipush hc (v := (99 : Int32)) dX12_quiet_23 rfl ?_
      refine V_icmp_ge hc dX12_quiet_25 rfl (fun hq25 => ?_) (fun hq25 => ?_)
      · rw [if_pos hq25] at hf
        obtain ⟨rfl, rfl⟩ := si2 hf
        exact V_sub [0, 1] rfl hx0
      · rw [if_neg hq25] at hf
        refine V_aload_n hc dX12_quiet_28 rfl 0 rfl ?_
        refine R_getr hc 30 rfl (by decide) w6_88 dX12_quiet_29 ?_
        refine V_iconst hc (v := (0 : Int32)) dX12_quiet_32 rfl ?_
        obtain ⟨v2, hv2, hf⟩ := mb hf
        refine R_iald hc hT rfl hv2 dX12_quiet_33 ?_
        refine V_sipush hc (v := (999 : Int32)) dX12_quiet_34 rfl ?_
        refine V_icmp_ge hc dX12_quiet_37 rfl (fun hq37 => ?_) (fun hq37 => ?_)
        · rw [if_pos hq37] at hf
          obtain ⟨rfl, rfl⟩ := si2 hf
          exact V_sub [0, 1] rfl hx0
        · rw [if_neg hq37] at hf
          refine V_aload_n hc dX12_quiet_40 rfl 0 rfl ?_
          obtain ⟨M3, hM3, hf⟩ := mb hf
          refine R_callVv hc hz (As := []) (c12_tickGoes l D h q y _ _ _ _ hM3) w8_12 w8_14 wp6_14 w1_13 w8_15 hd12_tickGoes ⟨Nat.le_of_ble_eq_true rfl, Nat.le_of_ble_eq_true rfl⟩ rfl rfl (Nat.le_of_ble_eq_true rfl) dX12_quiet_41 ?_
          refine V_iinc hc (j := 1) (v := (i1 + (1 : Int32))) dX12_quiet_44 rfl rfl (by decide) rfl ?_
          refine V_goto hc dX12_quiet_47 rfl ?_
          exact V_sub [1, 0] rfl (ih _ _ hf hx0)
set_option maxHeartbeats 4000000 in
set_option maxRecDepth 100000 in
theorem c12_quiet (l : Launch) (D : va_G) (h : Nat) (q : Nat → Nat) (y : CyT) (zM uM z u : Nat) {M M' : MS} {r : Int32} (hf : f12_quiet M = some (r, M')) : CT l D y yX12_quiet cX12_quiet 3 (some .int) 5 123 zM uM [.ref h] z u (mw h q y M) z u (mw h q y M') (some (.int r)) := by
  refine CT.of (by decide) (Nat.le_of_ble_eq_true rfl) (fun E hc hzz hnm => ?_)
  have hc : Cx E "FarEditorsModel" cX12_quiet 3 := hc
  have hz := hzz.1
  have hT := hz.2.2.1
  show V E z u (mw h q y M) 0 [(0, .ref h)] []
  unfold f12_quiet at hf
  refine V_aload_n hc dX12_quiet_0 rfl 0 rfl ?_
  refine R_geti hc 31 rfl (by decide) w6_89 dX12_quiet_1 ?_
  refine V_if_ne hc dX12_quiet_4 rfl (fun hq4 => ?_) (fun hq4 => ?_)
  · rw [if_neg hq4] at hf
    refine V_iconst hc (v := (0 : Int32)) dX12_quiet_9 rfl ?_
    refine V_istore_n hc dX12_quiet_10 rfl (by decide) rfl ?_
    refine V_aload_n hc dX12_quiet_11 rfl 1 rfl ?_
    obtain ⟨M1, hM1, hf⟩ := mb hf
    refine R_callVv hc hz (As := []) (c12_putsAside l D h q y _ _ _ _ hM1) w8_153 w8_155 wp8_4 w1_13 w8_156 hd12_putsAside ⟨Nat.le_of_ble_eq_true rfl, Nat.le_of_ble_eq_true rfl⟩ rfl rfl (Nat.le_of_ble_eq_true rfl) dX12_quiet_12 ?_
    obtain ⟨x2, M3, hv4, hf⟩ := mb2 hf
    refine V_sub [1, 0] rfl (L12_quiet_15_ok hc hz FU _ _ hv4 ?_)
    refine V_aload_n hc dX12_quiet_50 rfl 0 rfl ?_
    obtain ⟨v5, hv5, hf⟩ := mb hf
    refine R_callVi hc hz (As := []) (c12_wayMany l D h q y _ _ _ _ hv5) w8_72 w8_74 wp7_12 w1_13 w8_75 hd12_wayMany ⟨Nat.le_of_ble_eq_true rfl, Nat.le_of_ble_eq_true rfl⟩ rfl rfl (Nat.le_of_ble_eq_true rfl) dX12_quiet_51 ?_
    obtain ⟨v6, hv7, hf⟩ := mb hf
    have hJ54 : V E z u (mw h q y M3) 62 [(0, .ref h), (1, .int x2)] [.int v6] := by
      refine V_istore_n hc dX12_quiet_62 rfl (by decide) rfl ?_
      refine V_aload_n hc dX12_quiet_63 rfl 1 rfl ?_
      obtain ⟨M8, hM8, hf⟩ := mb hf
      refine R_callVv hc hz (As := []) (c12_takesBack l D h q y _ _ _ _ hM8) w8_157 w8_159 wp8_5 w1_13 w8_160 hd12_takesBack ⟨Nat.le_of_ble_eq_true rfl, Nat.le_of_ble_eq_true rfl⟩ rfl rfl (Nat.le_of_ble_eq_true rfl) dX12_quiet_64 ?_
      refine V_iload_n hc dX12_quiet_67 rfl 0 rfl ?_
      obtain ⟨v9, hv10, hf⟩ := mb hf
      have hJ68 : V E z u (mw h q y M8) 76 [] [.int v9] := by
        obtain ⟨rfl, rfl⟩ := si2 hf
        exact V_iret hc hzz rfl rfl rfl rfl rfl dX12_quiet_76
      refine V_if_eq hc dX12_quiet_68 rfl (fun hq68 => ?_) (fun hq68 => ?_)
      · rw [if_pos hq68] at hv10
        refine V_iconst hc (v := (-1 : Int32)) dX12_quiet_75 rfl ?_
        obtain rfl := Option.some.inj hv10
        exact V_sub [] rfl hJ68
      · rw [if_neg hq68] at hv10
        refine V_iload_n hc dX12_quiet_71 rfl 2 rfl ?_
        refine V_goto hc dX12_quiet_72 rfl ?_
        obtain rfl := Option.some.inj hv10
        exact V_sub [] rfl hJ68
    refine V_if_ne hc dX12_quiet_54 rfl (fun hq54 => ?_) (fun hq54 => ?_)
    · rw [if_neg hq54] at hv7
      refine V_iconst hc (v := (0 : Int32)) dX12_quiet_61 rfl ?_
      obtain rfl := Option.some.inj hv7
      exact V_sub [0, 1] rfl hJ54
    · rw [if_pos hq54] at hv7
      refine V_iconst hc (v := (1 : Int32)) dX12_quiet_57 rfl ?_
      refine V_goto hc dX12_quiet_58 rfl ?_
      obtain rfl := Option.some.inj hv7
      exact V_sub [0, 1] rfl hJ54
  · rw [if_pos hq4] at hf
    refine V_iconst hc (v := (-1 : Int32)) dX12_quiet_7 rfl ?_
    obtain ⟨rfl, rfl⟩ := si2 hf
    exact V_iret hc hzz rfl rfl rfl rfl rfl dX12_quiet_8
noncomputable def f12_later (M : MS) (p1 : Int32) (p2 : Int32) : Option (Int32 × MS) :=
  if (gF M 31) = 0 then (
    some ((-1 : Int32), M)
  ) else (
    (f12_isIn p1.toInt64 (0 : Int64) (99 : Int64)).bind fun v1 =>
    if v1 = 0 then (
      some ((-1 : Int32), M)
    ) else (
      (ld M 30 (0 : Int32)).bind fun v2 =>
      if (999 : Int32) < (v2 + p1) then (
        some ((-1 : Int32), M)
      ) else (
        if (-1 : Int32) ≤ p2 then (
          (f12_putsAside M).bind fun M3 =>
          (f12_ticksGo M3 p1).bind fun M4 =>
          (ld M4 30 (1 : Int32)).bind fun v5 =>
          bn2 (f12_serverText M4 v5) fun v6 M7 =>
          (f12_takesBack M7).bind fun M8 =>
          (
            if p2 = (-1 : Int32) then (
              some (gF M8 49)
            ) else (
              if (gF M8 49) ≤ p2 then (
                some (-1 : Int32)
              ) else (
                (ld M8 47 p2).bind fun v11 =>
                some v11
              )
            )
          ).bind fun v9 =>
          some (v9, M8)
        ) else (
          some ((-1 : Int32), M)
        )
      )
    )
  )
theorem hd12_later : yX12_later.cls = "FarEditorsModel" ∧ yX12_later.cls ≠ "java/lang/invoke/MethodHandle" ∧ yX12_later.cls ≠ "java/lang/invoke/VarHandle" ∧ (parseMethodDescriptor yX12_later.desc).map (fun d => d.parameters.length) = some 2 := by decide +kernel
set_option maxHeartbeats 4000000 in
set_option maxRecDepth 100000 in
theorem c12_later (l : Launch) (D : va_G) (h : Nat) (q : Nat → Nat) (y : CyT) (zM uM z u : Nat) {M M' : MS} {p1 : Int32} {p2 : Int32} {r : Int32} (hf : f12_later M p1 p2 = some (r, M')) : CT l D y yX12_later cX12_later 3 (some .int) 6 145 zM uM [.ref h, .int p1, .int p2] z u (mw h q y M) z u (mw h q y M') (some (.int r)) := by
  refine CT.of (by decide) (Nat.le_of_ble_eq_true rfl) (fun E hc hzz hnm => ?_)
  have hc : Cx E "FarEditorsModel" cX12_later 3 := hc
  have hz := hzz.1
  have hT := hz.2.2.1
  show V E z u (mw h q y M) 0 [(0, .ref h), (1, .int p1), (2, .int p2)] []
  unfold f12_later at hf
  refine V_aload_n hc dX12_later_0 rfl 0 rfl ?_
  refine R_geti hc 31 rfl (by decide) w6_89 dX12_later_1 ?_
  refine V_if_eq hc dX12_later_4 rfl (fun hq4 => ?_) (fun hq4 => ?_)
  · rw [if_pos hq4] at hf
    refine V_iconst hc (v := (-1 : Int32)) dX12_later_38 rfl ?_
    obtain ⟨rfl, rfl⟩ := si2 hf
    exact V_iret hc hzz rfl rfl rfl rfl rfl dX12_later_39
  · rw [if_neg hq4] at hf
    refine V_iload_n hc dX12_later_7 rfl 1 rfl ?_
    refine V_i2l hc dX12_later_8 ?_
    refine V_lconst hc (v := (0 : Int64)) dX12_later_9 rfl ?_
    refine V_ldc2 hc w8_165 dX12_later_10 ?_
    obtain ⟨v1, hv1, hf⟩ := mb hf
    refine R_callSi hc hz (As := [.long p1.toInt64, .long (0 : Int64), .long (99 : Int64)]) (c12_isIn l D h q y _ _ _ _ hv1) w7_34 w7_35 w1_13 w7_36 hd12_isIn ⟨Nat.le_of_ble_eq_true rfl, Nat.le_of_ble_eq_true rfl⟩ rfl rfl (Nat.le_of_ble_eq_true rfl) dX12_later_13 ?_
    refine V_if_eq hc dX12_later_16 rfl (fun hq16 => ?_) (fun hq16 => ?_)
    · rw [if_pos hq16] at hf
      refine V_iconst hc (v := (-1 : Int32)) dX12_later_38 rfl ?_
      obtain ⟨rfl, rfl⟩ := si2 hf
      exact V_iret hc hzz rfl rfl rfl rfl rfl dX12_later_39
    · rw [if_neg hq16] at hf
      refine V_aload_n hc dX12_later_19 rfl 0 rfl ?_
      refine R_getr hc 30 rfl (by decide) w6_88 dX12_later_20 ?_
      refine V_iconst hc (v := (0 : Int32)) dX12_later_23 rfl ?_
      obtain ⟨v2, hv2, hf⟩ := mb hf
      refine R_iald hc hT rfl hv2 dX12_later_24 ?_
      refine V_iload_n hc dX12_later_25 rfl 1 rfl ?_
      refine V_iadd hc dX12_later_26 ?_
      refine V_sipush hc (v := (999 : Int32)) dX12_later_27 rfl ?_
      refine V_icmp_gt hc dX12_later_30 rfl (fun hq30 => ?_) (fun hq30 => ?_)
      · rw [if_pos hq30] at hf
        refine V_iconst hc (v := (-1 : Int32)) dX12_later_38 rfl ?_
        obtain ⟨rfl, rfl⟩ := si2 hf
        exact V_iret hc hzz rfl rfl rfl rfl rfl dX12_later_39
      · rw [if_neg hq30] at hf
        refine V_iload_n hc dX12_later_33 rfl 2 rfl ?_
        refine V_iconst hc (v := (-1 : Int32)) dX12_later_34 rfl ?_
        refine V_icmp_ge hc dX12_later_35 rfl (fun hq35 => ?_) (fun hq35 => ?_)
        · rw [if_pos hq35] at hf
          refine V_aload_n hc dX12_later_40 rfl 0 rfl ?_
          obtain ⟨M3, hM3, hf⟩ := mb hf
          refine R_callVv hc hz (As := []) (c12_putsAside l D h q y _ _ _ _ hM3) w8_153 w8_155 wp8_4 w1_13 w8_156 hd12_putsAside ⟨Nat.le_of_ble_eq_true rfl, Nat.le_of_ble_eq_true rfl⟩ rfl rfl (Nat.le_of_ble_eq_true rfl) dX12_later_41 ?_
          refine V_aload_n hc dX12_later_44 rfl 0 rfl ?_
          refine V_iload_n hc dX12_later_45 rfl 1 rfl ?_
          obtain ⟨M4, hM4, hf⟩ := mb hf
          refine R_callVv hc hz (As := [.int p1]) (c12_ticksGo l D h q y _ _ _ _ hM4) w8_8 w8_10 wp6_13 w1_13 w8_11 hd12_ticksGo ⟨Nat.le_of_ble_eq_true rfl, Nat.le_of_ble_eq_true rfl⟩ rfl rfl (Nat.le_of_ble_eq_true rfl) dX12_later_46 ?_
          refine V_aload_n hc dX12_later_49 rfl 0 rfl ?_
          refine V_aload_n hc dX12_later_50 rfl 0 rfl ?_
          refine R_getr hc 30 rfl (by decide) w6_88 dX12_later_51 ?_
          refine V_iconst hc (v := (1 : Int32)) dX12_later_54 rfl ?_
          obtain ⟨v5, hv5, hf⟩ := mb hf
          refine R_iald hc hT rfl hv5 dX12_later_55 ?_
          obtain ⟨v6, M7, hv6, hf⟩ := mb2 hf
          refine R_callVi hc hz (As := [.int v5]) (c12_serverText l D h q y _ _ _ _ hv6) w8_64 w8_66 wp7_10 w1_13 w8_67 hd12_serverText ⟨Nat.le_of_ble_eq_true rfl, Nat.le_of_ble_eq_true rfl⟩ rfl rfl (Nat.le_of_ble_eq_true rfl) dX12_later_56 ?_
          refine V_pop hc dX12_later_59 rfl ?_
          refine V_aload_n hc dX12_later_60 rfl 0 rfl ?_
          obtain ⟨M8, hM8, hf⟩ := mb hf
          refine R_callVv hc hz (As := []) (c12_takesBack l D h q y _ _ _ _ hM8) w8_157 w8_159 wp8_5 w1_13 w8_160 hd12_takesBack ⟨Nat.le_of_ble_eq_true rfl, Nat.le_of_ble_eq_true rfl⟩ rfl rfl (Nat.le_of_ble_eq_true rfl) dX12_later_61 ?_
          refine V_iload_n hc dX12_later_64 rfl 2 rfl ?_
          refine V_iconst hc (v := (-1 : Int32)) dX12_later_65 rfl ?_
          obtain ⟨v9, hv10, hf⟩ := mb hf
          have hJ66 : V E z u (mw h q y M8) 94 [] [.int v9] := by
            obtain ⟨rfl, rfl⟩ := si2 hf
            exact V_iret hc hzz rfl rfl rfl rfl rfl dX12_later_94
          refine V_icmp_ne hc dX12_later_66 rfl (fun hq66 => ?_) (fun hq66 => ?_)
          · rw [if_neg hq66] at hv10
            refine V_iload_n hc dX12_later_76 rfl 2 rfl ?_
            refine V_aload_n hc dX12_later_77 rfl 0 rfl ?_
            refine R_geti hc 49 rfl (by decide) w6_107 dX12_later_78 ?_
            refine V_icmp_ge hc dX12_later_81 rfl (fun hq81 => ?_) (fun hq81 => ?_)
            · rw [if_pos hq81] at hv10
              refine V_iconst hc (v := (-1 : Int32)) dX12_later_93 rfl ?_
              obtain rfl := Option.some.inj hv10
              exact V_sub [] rfl hJ66
            · rw [if_neg hq81] at hv10
              refine V_aload_n hc dX12_later_84 rfl 0 rfl ?_
              refine R_getr hc 47 rfl (by decide) w6_105 dX12_later_85 ?_
              refine V_iload_n hc dX12_later_88 rfl 2 rfl ?_
              obtain ⟨v11, hv11, hv10⟩ := mb hv10
              refine R_iald hc hT rfl hv11 dX12_later_89 ?_
              refine V_goto hc dX12_later_90 rfl ?_
              obtain rfl := Option.some.inj hv10
              exact V_sub [] rfl hJ66
          · rw [if_pos hq66] at hv10
            refine V_aload_n hc dX12_later_69 rfl 0 rfl ?_
            refine R_geti hc 49 rfl (by decide) w6_107 dX12_later_70 ?_
            refine V_goto hc dX12_later_73 rfl ?_
            obtain rfl := Option.some.inj hv10
            exact V_sub [] rfl hJ66
        · rw [if_neg hq35] at hf
          refine V_iconst hc (v := (-1 : Int32)) dX12_later_38 rfl ?_
          obtain ⟨rfl, rfl⟩ := si2 hf
          exact V_iret hc hzz rfl rfl rfl rfl rfl dX12_later_39
noncomputable def f12_isOnWay (M : MS) (p1 : Int32) : Option (Int32) :=
  (
    if (gF M 32) ≤ p1 then (
      some (0 : Int32)
    ) else (
      (f12_its M p1 (19 : Int32)).bind fun v3 =>
      if v3 = (-1 : Int32) then (
        some (0 : Int32)
      ) else (
        some (1 : Int32)
      )
    )
  ).bind fun v1 =>
  (bz v1).bind fun v4 =>
  some v4
theorem hd12_isOnWay : yX12_isOnWay.cls = "FarEditorsModel" ∧ yX12_isOnWay.cls ≠ "java/lang/invoke/MethodHandle" ∧ yX12_isOnWay.cls ≠ "java/lang/invoke/VarHandle" ∧ (parseMethodDescriptor yX12_isOnWay.desc).map (fun d => d.parameters.length) = some 1 := by decide +kernel
set_option maxHeartbeats 4000000 in
set_option maxRecDepth 100000 in
theorem c12_isOnWay (l : Launch) (D : va_G) (h : Nat) (q : Nat → Nat) (y : CyT) (zM uM z u : Nat) {M : MS} {p1 : Int32} {r : Int32} (hf : f12_isOnWay M p1 = some r) : CT l D y yX12_isOnWay cX12_isOnWay 2 (some .boolean) 1 22 zM uM [.ref h, .int p1] z u (mw h q y M) z u (mw h q y M) (some (.int r)) := by
  refine CT.of (by decide) (Nat.le_of_ble_eq_true rfl) (fun E hc hzz hnm => ?_)
  have hc : Cx E "FarEditorsModel" cX12_isOnWay 2 := hc
  have hz := hzz.1
  have hT := hz.2.2.1
  show V E z u (mw h q y M) 0 [(0, .ref h), (1, .int p1)] []
  unfold f12_isOnWay at hf
  refine V_iload_n hc dX12_isOnWay_0 rfl 1 rfl ?_
  refine V_aload_n hc dX12_isOnWay_1 rfl 0 rfl ?_
  refine R_geti hc 32 rfl (by decide) w6_90 dX12_isOnWay_2 ?_
  obtain ⟨v1, hv2, hf⟩ := mb hf
  have hJ5 : V E z u (mw h q y M) 24 [] [.int v1] := by
    obtain ⟨v4, hv4, hf⟩ := mb hf
    obtain ⟨hbv4, rfl⟩ := bz_some hv4
    obtain rfl := Option.some.inj hf
    exact V_iret hc hzz (bz_nar hbv4) rfl rfl rfl rfl dX12_isOnWay_24
  refine V_icmp_ge hc dX12_isOnWay_5 rfl (fun hq5 => ?_) (fun hq5 => ?_)
  · rw [if_pos hq5] at hv2
    refine V_iconst hc (v := (0 : Int32)) dX12_isOnWay_23 rfl ?_
    obtain rfl := Option.some.inj hv2
    exact V_sub [] rfl hJ5
  · rw [if_neg hq5] at hv2
    refine V_aload_n hc dX12_isOnWay_8 rfl 0 rfl ?_
    refine V_iload_n hc dX12_isOnWay_9 rfl 1 rfl ?_
    refine V_bipush hc (v := (19 : Int32)) dX12_isOnWay_10 rfl ?_
    obtain ⟨v3, hv3, hv2⟩ := mb hv2
    refine R_callVi hc hz (As := [.int p1, .int (19 : Int32)]) (c12_its l D h q y _ _ _ _ hv3) w7_142 w7_144 wp5_7 w1_13 w7_145 hd12_its ⟨Nat.le_of_ble_eq_true rfl, Nat.le_of_ble_eq_true rfl⟩ rfl rfl (Nat.le_of_ble_eq_true rfl) dX12_isOnWay_12 ?_
    refine V_iconst hc (v := (-1 : Int32)) dX12_isOnWay_15 rfl ?_
    refine V_icmp_eq hc dX12_isOnWay_16 rfl (fun hq16 => ?_) (fun hq16 => ?_)
    · rw [if_pos hq16] at hv2
      refine V_iconst hc (v := (0 : Int32)) dX12_isOnWay_23 rfl ?_
      obtain rfl := Option.some.inj hv2
      exact V_sub [] rfl hJ5
    · rw [if_neg hq16] at hv2
      refine V_iconst hc (v := (1 : Int32)) dX12_isOnWay_19 rfl ?_
      refine V_goto hc dX12_isOnWay_20 rfl ?_
      obtain rfl := Option.some.inj hv2
      exact V_sub [] rfl hJ5
noncomputable def L12_isOrder_5 (c1 : Int32) (c2 : Int32) (M : MS) : Nat → Int32 → Int32 → Option (Nat)
  | 0, _, _ => none
  | n + 1, i3, i4 =>
    if c2 ≤ i4 then (
      some 1
    ) else (
      (f12_isOnWay M ((c1 >>> (((2 : Int32) * ((c2 - (1 : Int32)) - i4)) &&& 31)) &&& (3 : Int32))).bind fun v1 =>
      if v1 = 0 then (
        some 0
      ) else (
        if ((i3 >>> (((c1 >>> (((2 : Int32) * ((c2 - (1 : Int32)) - i4)) &&& 31)) &&& (3 : Int32)) &&& 31)) &&& (1 : Int32)) = (1 : Int32) then (
          some 0
        ) else (
          L12_isOrder_5 c1 c2 M n (i3 ||| ((1 : Int32) <<< (((c1 >>> (((2 : Int32) * ((c2 - (1 : Int32)) - i4)) &&& 31)) &&& (3 : Int32)) &&& 31))) (i4 + (1 : Int32))
        )
      )
    )
noncomputable def f12_isOrder (M : MS) (p1 : Int32) (p2 : Int32) : Option (Int32) :=
  (L12_isOrder_5 p1 p2 M FU (0 : Int32) (0 : Int32)).bind fun t1 =>
  if t1 = 0 then (
    some (0 : Int32)
  ) else (
    some (1 : Int32)
  )
theorem hd12_isOrder : yX12_isOrder.cls = "FarEditorsModel" ∧ yX12_isOrder.cls ≠ "java/lang/invoke/MethodHandle" ∧ yX12_isOrder.cls ≠ "java/lang/invoke/VarHandle" ∧ (parseMethodDescriptor yX12_isOrder.desc).map (fun d => d.parameters.length) = some 2 := by decide +kernel
set_option maxHeartbeats 4000000 in
set_option maxRecDepth 100000 in
theorem L12_isOrder_5_ok {E : CxT} {l : Launch} {D : va_G} {h : Nat} {q : Nat → Nat} {y : CyT} {zM uM z u : Nat} (hc : Cx E "FarEditorsModel" cX12_isOrder 6) (hz : Cy E l D y 2 43 zM uM) (c1 : Int32) (c2 : Int32) (M : MS) : ∀ (n : Nat) (i3 : Int32) (i4 : Int32) {t : Nat}, L12_isOrder_5 c1 c2 M n i3 i4 = some t → (hx0 : t = 0 → V E z u (mw h q y M) 44 [] []) → (hx1 : t = 1 → V E z u (mw h q y M) 59 [] []) → V E z u (mw h q y M) 5 [(0, .ref h), (1, .int c1), (2, .int c2), (3, .int i3), (4, .int i4)] [] := by
  have hT := hz.2.2.1
  intro n
  induction n with
  | zero => intro i3 i4 t hf; cases hf
  | succ n ih =>
    intro i3 i4 t hf hx0 hx1
    unfold L12_isOrder_5 at hf
    refine V_iload hc dX12_isOrder_5 4 rfl ?_
    refine V_iload_n hc dX12_isOrder_7 rfl 2 rfl ?_
    refine V_icmp_ge hc dX12_isOrder_8 rfl (fun hq8 => ?_) (fun hq8 => ?_)
    · rw [if_pos hq8] at hf
      obtain rfl := Option.some.inj hf
      exact V_sub [] rfl (hx1 rfl)
    · rw [if_neg hq8] at hf
      refine V_iload_n hc dX12_isOrder_11 rfl 1 rfl ?_
      refine V_iconst hc (v := (2 : Int32)) dX12_isOrder_12 rfl ?_
      refine V_iload_n hc dX12_isOrder_13 rfl 2 rfl ?_
      refine V_iconst hc (v := (1 : Int32)) dX12_isOrder_14 rfl ?_
      refine V_isub hc dX12_isOrder_15 ?_
      refine V_iload hc dX12_isOrder_16 4 rfl ?_
      refine V_isub hc dX12_isOrder_18 ?_
      refine V_imul hc dX12_isOrder_19 ?_
      refine V_ishr hc dX12_isOrder_20 ?_
      refine V_iconst hc (v := (3 : Int32)) dX12_isOrder_21 rfl ?_
      refine V_iand hc dX12_isOrder_22 ?_
      refine V_istore hc dX12_isOrder_23 (by decide) rfl ?_
      refine V_aload_n hc dX12_isOrder_25 rfl 1 rfl ?_
      refine V_iload hc dX12_isOrder_26 0 rfl ?_
      obtain ⟨v1, hv1, hf⟩ := mb hf
      refine R_callVi hc hz (As := [.int ((c1 >>> (((2 : Int32) * ((c2 - (1 : Int32)) - i4)) &&& 31)) &&& (3 : Int32))]) (c12_isOnWay l D h q y _ _ _ _ hv1) w8_178 w8_180 wp8_8 w1_13 w8_181 hd12_isOnWay ⟨Nat.le_of_ble_eq_true rfl, Nat.le_of_ble_eq_true rfl⟩ rfl rfl (Nat.le_of_ble_eq_true rfl) dX12_isOrder_28 ?_
      refine V_if_eq hc dX12_isOrder_31 rfl (fun hq31 => ?_) (fun hq31 => ?_)
      · rw [if_pos hq31] at hf
        obtain rfl := Option.some.inj hf
        exact V_sub [] rfl (hx0 rfl)
      · rw [if_neg hq31] at hf
        refine V_iload_n hc dX12_isOrder_34 rfl 4 rfl ?_
        refine V_iload hc dX12_isOrder_35 0 rfl ?_
        refine V_ishr hc dX12_isOrder_37 ?_
        refine V_iconst hc (v := (1 : Int32)) dX12_isOrder_38 rfl ?_
        refine V_iand hc dX12_isOrder_39 ?_
        refine V_iconst hc (v := (1 : Int32)) dX12_isOrder_40 rfl ?_
        refine V_icmp_ne hc dX12_isOrder_41 rfl (fun hq41 => ?_) (fun hq41 => ?_)
        · rw [if_neg hq41] at hf
          refine V_iload_n hc dX12_isOrder_46 rfl 4 rfl ?_
          refine V_iconst hc (v := (1 : Int32)) dX12_isOrder_47 rfl ?_
          refine V_iload hc dX12_isOrder_48 0 rfl ?_
          refine V_ishl hc dX12_isOrder_50 ?_
          refine V_ior hc dX12_isOrder_51 ?_
          refine V_istore_n hc dX12_isOrder_52 rfl (by decide) rfl ?_
          refine V_iinc hc (j := 5) (v := (i4 + (1 : Int32))) dX12_isOrder_53 rfl rfl (by decide) rfl ?_
          refine V_goto hc dX12_isOrder_56 rfl ?_
          exact V_sub [3, 4, 5, 1, 0] rfl (ih _ _ hf hx0 hx1)
        · rw [if_pos hq41] at hf
          obtain rfl := Option.some.inj hf
          exact V_sub [] rfl (hx0 rfl)
set_option maxHeartbeats 4000000 in
set_option maxRecDepth 100000 in
theorem c12_isOrder (l : Launch) (D : va_G) (h : Nat) (q : Nat → Nat) (y : CyT) (zM uM z u : Nat) {M : MS} {p1 : Int32} {p2 : Int32} {r : Int32} (hf : f12_isOrder M p1 p2 = some r) : CT l D y yX12_isOrder cX12_isOrder 6 (some .boolean) 2 43 zM uM [.ref h, .int p1, .int p2] z u (mw h q y M) z u (mw h q y M) (some (.int r)) := by
  refine CT.of (by decide) (Nat.le_of_ble_eq_true rfl) (fun E hc hzz hnm => ?_)
  have hc : Cx E "FarEditorsModel" cX12_isOrder 6 := hc
  have hz := hzz.1
  have hT := hz.2.2.1
  show V E z u (mw h q y M) 0 [(0, .ref h), (1, .int p1), (2, .int p2)] []
  unfold f12_isOrder at hf
  refine V_iconst hc (v := (0 : Int32)) dX12_isOrder_0 rfl ?_
  refine V_istore_n hc dX12_isOrder_1 rfl (by decide) rfl ?_
  refine V_iconst hc (v := (0 : Int32)) dX12_isOrder_2 rfl ?_
  refine V_istore hc dX12_isOrder_3 (by decide) rfl ?_
  obtain ⟨t1, hv2, hf⟩ := mb hf
  refine V_sub [2, 3, 4, 1, 0] rfl (L12_isOrder_5_ok hc hz p1 p2 M FU _ _ hv2 (fun ht5_0 => ?_) (fun ht5_1 => ?_))
  · rw [if_pos ht5_0] at hf
    refine V_iconst hc (v := (0 : Int32)) dX12_isOrder_44 rfl ?_
    obtain rfl := Option.some.inj hf
    exact V_iret hc hzz rfl rfl rfl rfl rfl dX12_isOrder_45
  · rw [if_neg (by rw [ht5_1]; decide)] at hf
    refine V_iconst hc (v := (1 : Int32)) dX12_isOrder_59 rfl ?_
    obtain rfl := Option.some.inj hf
    exact V_iret hc hzz rfl rfl rfl rfl rfl dX12_isOrder_60
noncomputable def L12_senders_4 (M : MS) : Nat → Int32 → Int32 → Option (Int32)
  | 0, _, _ => none
  | n + 1, i1, i2 =>
    if (gF M 32) ≤ i2 then (
      some i1
    ) else (
      (f12_isOnWay M i2).bind fun v1 =>
      (
        if v1 = 0 then (
          some i1
        ) else (
          some (i1 + (1 : Int32))
        )
      ).bind fun x2 =>
      L12_senders_4 M n x2 (i2 + (1 : Int32))
    )
noncomputable def f12_senders (M : MS) : Option (Int32) :=
  (L12_senders_4 M FU (0 : Int32) (0 : Int32)).bind fun x1 =>
  some x1
theorem hd12_senders : yX12_senders.cls = "FarEditorsModel" ∧ yX12_senders.cls ≠ "java/lang/invoke/MethodHandle" ∧ yX12_senders.cls ≠ "java/lang/invoke/VarHandle" ∧ (parseMethodDescriptor yX12_senders.desc).map (fun d => d.parameters.length) = some 0 := by decide +kernel
set_option maxHeartbeats 4000000 in
set_option maxRecDepth 100000 in
theorem L12_senders_4_ok {E : CxT} {l : Launch} {D : va_G} {h : Nat} {q : Nat → Nat} {y : CyT} {zM uM z u : Nat} (hc : Cx E "FarEditorsModel" cX12_senders 3) (hz : Cy E l D y 2 43 zM uM) (M : MS) : ∀ (n : Nat) (i1 : Int32) (i2 : Int32) {o1 : Int32}, L12_senders_4 M n i1 i2 = some o1 → (hx0 : V E z u (mw h q y M) 29 [(1, .int o1)] []) → V E z u (mw h q y M) 4 [(0, .ref h), (1, .int i1), (2, .int i2)] [] := by
  have hT := hz.2.2.1
  intro n
  induction n with
  | zero => intro i1 i2 o1 hf; cases hf
  | succ n ih =>
    intro i1 i2 o1 hf hx0
    unfold L12_senders_4 at hf
    refine V_iload_n hc dX12_senders_4 rfl 2 rfl ?_
    refine V_aload_n hc dX12_senders_5 rfl 0 rfl ?_
    refine R_geti hc 32 rfl (by decide) w6_90 dX12_senders_6 ?_
    refine V_icmp_ge hc dX12_senders_9 rfl (fun hq9 => ?_) (fun hq9 => ?_)
    · rw [if_pos hq9] at hf
      obtain rfl := Option.some.inj hf
      exact V_sub [1] rfl hx0
    · rw [if_neg hq9] at hf
      refine V_aload_n hc dX12_senders_12 rfl 0 rfl ?_
      refine V_iload_n hc dX12_senders_13 rfl 2 rfl ?_
      obtain ⟨v1, hv1, hf⟩ := mb hf
      refine R_callVi hc hz (As := [.int i2]) (c12_isOnWay l D h q y _ _ _ _ hv1) w8_178 w8_180 wp8_8 w1_13 w8_181 hd12_isOnWay ⟨Nat.le_of_ble_eq_true rfl, Nat.le_of_ble_eq_true rfl⟩ rfl rfl (Nat.le_of_ble_eq_true rfl) dX12_senders_14 ?_
      obtain ⟨x2, hv3, hf⟩ := mb hf
      have hJ17 : V E z u (mw h q y M) 23 [(0, .ref h), (1, .int x2), (2, .int i2)] [] := by
        refine V_iinc hc (j := 2) (v := (i2 + (1 : Int32))) dX12_senders_23 rfl rfl (by decide) rfl ?_
        refine V_goto hc dX12_senders_26 rfl ?_
        exact V_sub [1, 2, 0] rfl (ih _ _ hf hx0)
      refine V_if_eq hc dX12_senders_17 rfl (fun hq17 => ?_) (fun hq17 => ?_)
      · rw [if_pos hq17] at hv3
        obtain rfl := Option.some.inj hv3
        exact V_sub [0, 1, 2] rfl hJ17
      · rw [if_neg hq17] at hv3
        refine V_iinc hc (j := 1) (v := (i1 + (1 : Int32))) dX12_senders_20 rfl rfl (by decide) rfl ?_
        obtain rfl := Option.some.inj hv3
        exact V_sub [1, 0, 2] rfl hJ17
set_option maxHeartbeats 4000000 in
set_option maxRecDepth 100000 in
theorem c12_senders (l : Launch) (D : va_G) (h : Nat) (q : Nat → Nat) (y : CyT) (zM uM z u : Nat) {M : MS} {r : Int32} (hf : f12_senders M = some r) : CT l D y yX12_senders cX12_senders 3 (some .int) 2 43 zM uM [.ref h] z u (mw h q y M) z u (mw h q y M) (some (.int r)) := by
  refine CT.of (by decide) (Nat.le_of_ble_eq_true rfl) (fun E hc hzz hnm => ?_)
  have hc : Cx E "FarEditorsModel" cX12_senders 3 := hc
  have hz := hzz.1
  have hT := hz.2.2.1
  show V E z u (mw h q y M) 0 [(0, .ref h)] []
  unfold f12_senders at hf
  refine V_iconst hc (v := (0 : Int32)) dX12_senders_0 rfl ?_
  refine V_istore_n hc dX12_senders_1 rfl (by decide) rfl ?_
  refine V_iconst hc (v := (0 : Int32)) dX12_senders_2 rfl ?_
  refine V_istore_n hc dX12_senders_3 rfl (by decide) rfl ?_
  obtain ⟨x1, hv2, hf⟩ := mb hf
  refine V_sub [2, 1, 0] rfl (L12_senders_4_ok hc hz M FU _ _ hv2 ?_)
  refine V_iload_n hc dX12_senders_29 rfl 0 rfl ?_
  obtain rfl := Option.some.inj hf
  exact V_iret hc hzz rfl rfl rfl rfl rfl dX12_senders_30
noncomputable def L12_laysOrders_39 (c1 : Int32) (c2 : Int32) : Nat → Int32 → MS → Option (MS)
  | 0, _, _ => none
  | n + 1, i3, M =>
    if c1 ≤ i3 then (
      some M
    ) else (
      (f12_serverTakes M ((c2 >>> (((2 : Int32) * ((c1 - (1 : Int32)) - i3)) &&& 31)) &&& (3 : Int32))).bind fun M1 =>
      L12_laysOrders_39 c1 c2 n (i3 + (1 : Int32)) M1
    )
noncomputable def L12_laysOrders_86 (c1 : Int32) (c2 : Int32) : Nat → Int32 → MS → Option (MS)
  | 0, _, _ => none
  | n + 1, i3, M =>
    if (gF M 49) ≤ i3 then (
      some M
    ) else (
      (ld M 47 i3).bind fun v1 =>
      (sd M 55 (((250 : Int32) * (gF M 53)) + i3) v1).bind fun M2 =>
      L12_laysOrders_86 c1 c2 n (i3 + (1 : Int32)) M2
    )
noncomputable def L12_laysOrders_16 (c1 : Int32) : Nat → Int32 → MS → Option (MS)
  | 0, _, _ => none
  | n + 1, i2, M =>
    if ((1 : Int32) <<< (((2 : Int32) * c1) &&& 31)) ≤ i2 then (
      some M
    ) else (
      (f12_isOrder M i2 c1).bind fun v1 =>
      (
        if v1 = 0 then (
          some M
        ) else (
          (L12_laysOrders_39 c1 i2 FU (0 : Int32) M).bind fun M4 =>
          (ld M4 30 (1 : Int32)).bind fun v6 =>
          bn2 (f12_serverText M4 v6) fun v7 M8 =>
          (sd M8 54 (gF M4 53) v7).bind fun M9 =>
          (L12_laysOrders_86 c1 i2 FU (0 : Int32) M9).bind fun M10 =>
          (f12_takesBack (sF M10 53 ((gF M10 53) + (1 : Int32)))).bind fun M12 =>
          some M12
        )
      ).bind fun M2 =>
      L12_laysOrders_16 c1 n (i2 + (1 : Int32)) M2
    )
noncomputable def f12_laysOrders (M : MS) : Option (MS) :=
  (f12_senders M).bind fun v1 =>
  (f12_putsAside (sF M 53 (0 : Int32))).bind fun M2 =>
  (L12_laysOrders_16 v1 FU (0 : Int32) M2).bind fun M3 =>
  some M3
theorem hd12_laysOrders : yX12_laysOrders.cls = "FarEditorsModel" ∧ yX12_laysOrders.cls ≠ "java/lang/invoke/MethodHandle" ∧ yX12_laysOrders.cls ≠ "java/lang/invoke/VarHandle" ∧ (parseMethodDescriptor yX12_laysOrders.desc).map (fun d => d.parameters.length) = some 0 := by decide +kernel
set_option maxHeartbeats 4000000 in
set_option maxRecDepth 100000 in
theorem L12_laysOrders_39_ok {E : CxT} {l : Launch} {D : va_G} {h : Nat} {q : Nat → Nat} {y : CyT} {zM uM z u : Nat} (hc : Cx E "FarEditorsModel" cX12_laysOrders 4) (hz : Cy E l D y 4 96 zM uM) (c1 : Int32) (c2 : Int32) : ∀ (n : Nat) (i3 : Int32) (M : MS) {Mo : MS}, L12_laysOrders_39 c1 c2 n i3 M = some Mo → (hx0 : V E z u (mw h q y Mo) 65 [(0, .ref h), (1, .int c1), (2, .int c2)] []) → V E z u (mw h q y M) 39 [(0, .ref h), (1, .int c1), (2, .int c2), (3, .int i3)] [] := by
  have hT := hz.2.2.1
  intro n
  induction n with
  | zero => intro i3 M Mo hf; cases hf
  | succ n ih =>
    intro i3 M Mo hf hx0
    unfold L12_laysOrders_39 at hf
    refine V_iload_n hc dX12_laysOrders_39 rfl 3 rfl ?_
    refine V_iload_n hc dX12_laysOrders_40 rfl 1 rfl ?_
    refine V_icmp_ge hc dX12_laysOrders_41 rfl (fun hq41 => ?_) (fun hq41 => ?_)
    · rw [if_pos hq41] at hf
      obtain rfl := Option.some.inj hf
      exact V_sub [0, 1, 2] rfl hx0
    · rw [if_neg hq41] at hf
      refine V_aload_n hc dX12_laysOrders_44 rfl 0 rfl ?_
      refine V_iload_n hc dX12_laysOrders_45 rfl 2 rfl ?_
      refine V_iconst hc (v := (2 : Int32)) dX12_laysOrders_46 rfl ?_
      refine V_iload_n hc dX12_laysOrders_47 rfl 1 rfl ?_
      refine V_iconst hc (v := (1 : Int32)) dX12_laysOrders_48 rfl ?_
      refine V_isub hc dX12_laysOrders_49 ?_
      refine V_iload_n hc dX12_laysOrders_50 rfl 3 rfl ?_
      refine V_isub hc dX12_laysOrders_51 ?_
      refine V_imul hc dX12_laysOrders_52 ?_
      refine V_ishr hc dX12_laysOrders_53 ?_
      refine V_iconst hc (v := (3 : Int32)) dX12_laysOrders_54 rfl ?_
      refine V_iand hc dX12_laysOrders_55 ?_
      obtain ⟨M1, hM1, hf⟩ := mb hf
      refine R_callVv hc hz (As := [.int ((c2 >>> (((2 : Int32) * ((c1 - (1 : Int32)) - i3)) &&& 31)) &&& (3 : Int32))]) (c12_serverTakes l D h q y _ _ _ _ hM1) w8_16 w8_18 wp6_15 w1_13 w8_19 hd12_serverTakes ⟨Nat.le_of_ble_eq_true rfl, Nat.le_of_ble_eq_true rfl⟩ rfl rfl (Nat.le_of_ble_eq_true rfl) dX12_laysOrders_56 ?_
      refine V_iinc hc (j := 3) (v := (i3 + (1 : Int32))) dX12_laysOrders_59 rfl rfl (by decide) rfl ?_
      refine V_goto hc dX12_laysOrders_62 rfl ?_
      exact V_sub [1, 2, 3, 0] rfl (ih _ _ hf hx0)
set_option maxHeartbeats 4000000 in
set_option maxRecDepth 100000 in
theorem L12_laysOrders_86_ok {E : CxT} {l : Launch} {D : va_G} {h : Nat} {q : Nat → Nat} {y : CyT} {zM uM z u : Nat} (hc : Cx E "FarEditorsModel" cX12_laysOrders 4) (hz : Cy E l D y 4 96 zM uM) (c1 : Int32) (c2 : Int32) : ∀ (n : Nat) (i3 : Int32) (M : MS) {Mo : MS}, L12_laysOrders_86 c1 c2 n i3 M = some Mo → (hx0 : V E z u (mw h q y Mo) 121 [(0, .ref h), (1, .int c1), (2, .int c2)] []) → V E z u (mw h q y M) 86 [(0, .ref h), (1, .int c1), (2, .int c2), (3, .int i3)] [] := by
  have hT := hz.2.2.1
  intro n
  induction n with
  | zero => intro i3 M Mo hf; cases hf
  | succ n ih =>
    intro i3 M Mo hf hx0
    unfold L12_laysOrders_86 at hf
    refine V_iload_n hc dX12_laysOrders_86 rfl 3 rfl ?_
    refine V_aload_n hc dX12_laysOrders_87 rfl 0 rfl ?_
    refine R_geti hc 49 rfl (by decide) w6_107 dX12_laysOrders_88 ?_
    refine V_icmp_ge hc dX12_laysOrders_91 rfl (fun hq91 => ?_) (fun hq91 => ?_)
    · rw [if_pos hq91] at hf
      obtain rfl := Option.some.inj hf
      exact V_sub [0, 1, 2] rfl hx0
    · rw [if_neg hq91] at hf
      refine V_aload_n hc dX12_laysOrders_94 rfl 0 rfl ?_
      refine R_getr hc 55 rfl (by decide) w6_113 dX12_laysOrders_95 ?_
      refine V_sipush hc (v := (250 : Int32)) dX12_laysOrders_98 rfl ?_
      refine V_aload_n hc dX12_laysOrders_101 rfl 0 rfl ?_
      refine R_geti hc 53 rfl (by decide) w6_111 dX12_laysOrders_102 ?_
      refine V_imul hc dX12_laysOrders_105 ?_
      refine V_iload_n hc dX12_laysOrders_106 rfl 3 rfl ?_
      refine V_iadd hc dX12_laysOrders_107 ?_
      refine V_aload_n hc dX12_laysOrders_108 rfl 0 rfl ?_
      refine R_getr hc 47 rfl (by decide) w6_105 dX12_laysOrders_109 ?_
      refine V_iload_n hc dX12_laysOrders_112 rfl 3 rfl ?_
      obtain ⟨v1, hv1, hf⟩ := mb hf
      refine R_iald hc hT rfl hv1 dX12_laysOrders_113 ?_
      obtain ⟨M2, hM2, hf⟩ := mb hf
      refine R_iast hc hT rfl hM2 dX12_laysOrders_114 ?_
      refine V_iinc hc (j := 3) (v := (i3 + (1 : Int32))) dX12_laysOrders_115 rfl rfl (by decide) rfl ?_
      refine V_goto hc dX12_laysOrders_118 rfl ?_
      exact V_sub [1, 2, 3, 0] rfl (ih _ _ hf hx0)
set_option maxHeartbeats 4000000 in
set_option maxRecDepth 100000 in
theorem L12_laysOrders_16_ok {E : CxT} {l : Launch} {D : va_G} {h : Nat} {q : Nat → Nat} {y : CyT} {zM uM z u : Nat} (hc : Cx E "FarEditorsModel" cX12_laysOrders 4) (hz : Cy E l D y 4 96 zM uM) (c1 : Int32) : ∀ (n : Nat) (i2 : Int32) (M : MS) {Mo : MS}, L12_laysOrders_16 c1 n i2 M = some Mo → (hx0 : V E z u (mw h q y Mo) 141 [] []) → V E z u (mw h q y M) 16 [(0, .ref h), (1, .int c1), (2, .int i2)] [] := by
  have hT := hz.2.2.1
  intro n
  induction n with
  | zero => intro i2 M Mo hf; cases hf
  | succ n ih =>
    intro i2 M Mo hf hx0
    unfold L12_laysOrders_16 at hf
    refine V_iload_n hc dX12_laysOrders_16 rfl 2 rfl ?_
    refine V_iconst hc (v := (1 : Int32)) dX12_laysOrders_17 rfl ?_
    refine V_iconst hc (v := (2 : Int32)) dX12_laysOrders_18 rfl ?_
    refine V_iload_n hc dX12_laysOrders_19 rfl 1 rfl ?_
    refine V_imul hc dX12_laysOrders_20 ?_
    refine V_ishl hc dX12_laysOrders_21 ?_
    refine V_icmp_ge hc dX12_laysOrders_22 rfl (fun hq22 => ?_) (fun hq22 => ?_)
    · rw [if_pos hq22] at hf
      obtain rfl := Option.some.inj hf
      exact V_sub [] rfl hx0
    · rw [if_neg hq22] at hf
      refine V_aload_n hc dX12_laysOrders_25 rfl 0 rfl ?_
      refine V_iload_n hc dX12_laysOrders_26 rfl 2 rfl ?_
      refine V_iload_n hc dX12_laysOrders_27 rfl 1 rfl ?_
      obtain ⟨v1, hv1, hf⟩ := mb hf
      refine R_callVi hc hz (As := [.int i2, .int c1]) (c12_isOrder l D h q y _ _ _ _ hv1) w8_182 w8_184 wp8_9 w1_13 w8_185 hd12_isOrder ⟨Nat.le_of_ble_eq_true rfl, Nat.le_of_ble_eq_true rfl⟩ rfl rfl (Nat.le_of_ble_eq_true rfl) dX12_laysOrders_28 ?_
      obtain ⟨M2, hv3, hf⟩ := mb hf
      have hJ31 : V E z u (mw h q y M2) 135 [(0, .ref h), (1, .int c1), (2, .int i2)] [] := by
        refine V_iinc hc (j := 2) (v := (i2 + (1 : Int32))) dX12_laysOrders_135 rfl rfl (by decide) rfl ?_
        refine V_goto hc dX12_laysOrders_138 rfl ?_
        exact V_sub [1, 2, 0] rfl (ih _ _ hf hx0)
      refine V_if_ne hc dX12_laysOrders_31 rfl (fun hq31 => ?_) (fun hq31 => ?_)
      · rw [if_neg hq31] at hv3
        refine V_iconst hc (v := (0 : Int32)) dX12_laysOrders_37 rfl ?_
        refine V_istore_n hc dX12_laysOrders_38 rfl (by decide) rfl ?_
        obtain ⟨M4, hv5, hv3⟩ := mb hv3
        refine V_sub [1, 2, 3, 0] rfl (L12_laysOrders_39_ok hc hz c1 i2 FU _ _ hv5 ?_)
        refine V_aload_n hc dX12_laysOrders_65 rfl 0 rfl ?_
        refine R_getr hc 54 rfl (by decide) w6_112 dX12_laysOrders_66 ?_
        refine V_aload_n hc dX12_laysOrders_69 rfl 0 rfl ?_
        refine R_geti hc 53 rfl (by decide) w6_111 dX12_laysOrders_70 ?_
        refine V_aload_n hc dX12_laysOrders_73 rfl 0 rfl ?_
        refine V_aload_n hc dX12_laysOrders_74 rfl 0 rfl ?_
        refine R_getr hc 30 rfl (by decide) w6_88 dX12_laysOrders_75 ?_
        refine V_iconst hc (v := (1 : Int32)) dX12_laysOrders_78 rfl ?_
        obtain ⟨v6, hv6, hv3⟩ := mb hv3
        refine R_iald hc hT rfl hv6 dX12_laysOrders_79 ?_
        obtain ⟨v7, M8, hv7, hv3⟩ := mb2 hv3
        refine R_callVi hc hz (As := [.int v6]) (c12_serverText l D h q y _ _ _ _ hv7) w8_64 w8_66 wp7_10 w1_13 w8_67 hd12_serverText ⟨Nat.le_of_ble_eq_true rfl, Nat.le_of_ble_eq_true rfl⟩ rfl rfl (Nat.le_of_ble_eq_true rfl) dX12_laysOrders_80 ?_
        obtain ⟨M9, hM9, hv3⟩ := mb hv3
        refine R_iast hc hT rfl hM9 dX12_laysOrders_83 ?_
        refine V_iconst hc (v := (0 : Int32)) dX12_laysOrders_84 rfl ?_
        refine V_istore_n hc dX12_laysOrders_85 rfl (by decide) rfl ?_
        obtain ⟨M10, hv11, hv3⟩ := mb hv3
        refine V_sub [1, 2, 3, 0] rfl (L12_laysOrders_86_ok hc hz c1 i2 FU _ _ hv11 ?_)
        refine V_aload_n hc dX12_laysOrders_121 rfl 0 rfl ?_
        refine V_dup hc dX12_laysOrders_122 rfl ?_
        refine R_geti hc 53 rfl (by decide) w6_111 dX12_laysOrders_123 ?_
        refine V_iconst hc (v := (1 : Int32)) dX12_laysOrders_126 rfl ?_
        refine V_iadd hc dX12_laysOrders_127 ?_
        refine R_puti hc 53 rfl (by decide) w6_111 rfl rfl rfl dX12_laysOrders_128 ?_
        refine V_aload_n hc dX12_laysOrders_131 rfl 0 rfl ?_
        obtain ⟨M12, hM12, hv3⟩ := mb hv3
        refine R_callVv hc hz (As := []) (c12_takesBack l D h q y _ _ _ _ hM12) w8_157 w8_159 wp8_5 w1_13 w8_160 hd12_takesBack ⟨Nat.le_of_ble_eq_true rfl, Nat.le_of_ble_eq_true rfl⟩ rfl rfl (Nat.le_of_ble_eq_true rfl) dX12_laysOrders_132 ?_
        obtain rfl := Option.some.inj hv3
        exact V_sub [0, 1, 2] rfl hJ31
      · rw [if_pos hq31] at hv3
        refine V_goto hc dX12_laysOrders_34 rfl ?_
        obtain rfl := Option.some.inj hv3
        exact V_sub [0, 1, 2] rfl hJ31
set_option maxHeartbeats 4000000 in
set_option maxRecDepth 100000 in
theorem c12_laysOrders (l : Launch) (D : va_G) (h : Nat) (q : Nat → Nat) (y : CyT) (zM uM z u : Nat) {M M' : MS} (hf : f12_laysOrders M = some M') : CT l D y yX12_laysOrders cX12_laysOrders 4 none 4 96 zM uM [.ref h] z u (mw h q y M) z u (mw h q y M') none := by
  refine CT.of (by decide) (Nat.le_of_ble_eq_true rfl) (fun E hc hzz hnm => ?_)
  have hc : Cx E "FarEditorsModel" cX12_laysOrders 4 := hc
  have hz := hzz.1
  have hT := hz.2.2.1
  show V E z u (mw h q y M) 0 [(0, .ref h)] []
  unfold f12_laysOrders at hf
  refine V_aload_n hc dX12_laysOrders_0 rfl 0 rfl ?_
  obtain ⟨v1, hv1, hf⟩ := mb hf
  refine R_callVi hc hz (As := []) (c12_senders l D h q y _ _ _ _ hv1) w8_174 w8_176 wp8_7 w1_13 w8_177 hd12_senders ⟨Nat.le_of_ble_eq_true rfl, Nat.le_of_ble_eq_true rfl⟩ rfl rfl (Nat.le_of_ble_eq_true rfl) dX12_laysOrders_1 ?_
  refine V_istore_n hc dX12_laysOrders_4 rfl (by decide) rfl ?_
  refine V_aload_n hc dX12_laysOrders_5 rfl 1 rfl ?_
  refine V_iconst hc (v := (0 : Int32)) dX12_laysOrders_6 rfl ?_
  refine R_puti hc 53 rfl (by decide) w6_111 rfl rfl rfl dX12_laysOrders_7 ?_
  refine V_aload_n hc dX12_laysOrders_10 rfl 1 rfl ?_
  obtain ⟨M2, hM2, hf⟩ := mb hf
  refine R_callVv hc hz (As := []) (c12_putsAside l D h q y _ _ _ _ hM2) w8_153 w8_155 wp8_4 w1_13 w8_156 hd12_putsAside ⟨Nat.le_of_ble_eq_true rfl, Nat.le_of_ble_eq_true rfl⟩ rfl rfl (Nat.le_of_ble_eq_true rfl) dX12_laysOrders_11 ?_
  refine V_iconst hc (v := (0 : Int32)) dX12_laysOrders_14 rfl ?_
  refine V_istore_n hc dX12_laysOrders_15 rfl (by decide) rfl ?_
  obtain ⟨M3, hv4, hf⟩ := mb hf
  refine V_sub [2, 1, 0] rfl (L12_laysOrders_16_ok hc hz v1 FU _ _ hv4 ?_)
  obtain rfl := Option.some.inj hf
  exact V_vret hc hzz rfl rfl rfl rfl dX12_laysOrders_141
noncomputable def f12_endAt (M : MS) (p1 : Int32) (p2 : Int32) : Option (Int32) :=
  (ld M 54 p1).bind fun v1 =>
  (
    if v1 ≤ p2 then (
      some (0 : Int32)
    ) else (
      (ld M 55 (((250 : Int32) * p1) + p2)).bind fun v4 =>
      some v4
    )
  ).bind fun v2 =>
  some v2
theorem hd12_endAt : yX12_endAt.cls = "FarEditorsModel" ∧ yX12_endAt.cls ≠ "java/lang/invoke/MethodHandle" ∧ yX12_endAt.cls ≠ "java/lang/invoke/VarHandle" ∧ (parseMethodDescriptor yX12_endAt.desc).map (fun d => d.parameters.length) = some 2 := by decide +kernel
set_option maxHeartbeats 4000000 in
set_option maxRecDepth 100000 in
theorem c12_endAt (l : Launch) (D : va_G) (h : Nat) (q : Nat → Nat) (y : CyT) (zM uM z u : Nat) {M : MS} {p1 : Int32} {p2 : Int32} {r : Int32} (hf : f12_endAt M p1 p2 = some r) : CT l D y yX12_endAt cX12_endAt 3 (some .int) 0 0 zM uM [.ref h, .int p1, .int p2] z u (mw h q y M) z u (mw h q y M) (some (.int r)) := by
  refine CT.of (by decide) (Nat.le_of_ble_eq_true rfl) (fun E hc hzz hnm => ?_)
  have hc : Cx E "FarEditorsModel" cX12_endAt 3 := hc
  have hz := hzz.1
  have hT := hz.2.2.1
  show V E z u (mw h q y M) 0 [(0, .ref h), (1, .int p1), (2, .int p2)] []
  unfold f12_endAt at hf
  refine V_iload_n hc dX12_endAt_0 rfl 2 rfl ?_
  refine V_aload_n hc dX12_endAt_1 rfl 0 rfl ?_
  refine R_getr hc 54 rfl (by decide) w6_112 dX12_endAt_2 ?_
  refine V_iload_n hc dX12_endAt_5 rfl 1 rfl ?_
  obtain ⟨v1, hv1, hf⟩ := mb hf
  refine R_iald hc hT rfl hv1 dX12_endAt_6 ?_
  obtain ⟨v2, hv3, hf⟩ := mb hf
  have hJ7 : V E z u (mw h q y M) 26 [] [.int v2] := by
    obtain rfl := Option.some.inj hf
    exact V_iret hc hzz rfl rfl rfl rfl rfl dX12_endAt_26
  refine V_icmp_ge hc dX12_endAt_7 rfl (fun hq7 => ?_) (fun hq7 => ?_)
  · rw [if_pos hq7] at hv3
    refine V_iconst hc (v := (0 : Int32)) dX12_endAt_25 rfl ?_
    obtain rfl := Option.some.inj hv3
    exact V_sub [] rfl hJ7
  · rw [if_neg hq7] at hv3
    refine V_aload_n hc dX12_endAt_10 rfl 0 rfl ?_
    refine R_getr hc 55 rfl (by decide) w6_113 dX12_endAt_11 ?_
    refine V_sipush hc (v := (250 : Int32)) dX12_endAt_14 rfl ?_
    refine V_iload_n hc dX12_endAt_17 rfl 1 rfl ?_
    refine V_imul hc dX12_endAt_18 ?_
    refine V_iload_n hc dX12_endAt_19 rfl 2 rfl ?_
    refine V_iadd hc dX12_endAt_20 ?_
    obtain ⟨v4, hv4, hv3⟩ := mb hv3
    refine R_iald hc hT rfl hv4 dX12_endAt_21 ?_
    refine V_goto hc dX12_endAt_22 rfl ?_
    obtain rfl := Option.some.inj hv3
    exact V_sub [] rfl hJ7
noncomputable def L12_areAlike_2 (c1 : Int32) (c2 : Int32) (M : MS) : Nat → Int32 → Option (Nat)
  | 0, _ => none
  | n + 1, i3 =>
    if (240 : Int32) ≤ i3 then (
      some 1
    ) else (
      (f12_endAt M c1 i3).bind fun v1 =>
      (f12_endAt M c2 i3).bind fun v2 =>
      if v1 = v2 then (
        L12_areAlike_2 c1 c2 M n (i3 + (1 : Int32))
      ) else (
        some 0
      )
    )
noncomputable def f12_areAlike (M : MS) (p1 : Int32) (p2 : Int32) : Option (Int32) :=
  (L12_areAlike_2 p1 p2 M FU (0 : Int32)).bind fun t1 =>
  if t1 = 0 then (
    some (0 : Int32)
  ) else (
    some (1 : Int32)
  )
theorem hd12_areAlike : yX12_areAlike.cls = "FarEditorsModel" ∧ yX12_areAlike.cls ≠ "java/lang/invoke/MethodHandle" ∧ yX12_areAlike.cls ≠ "java/lang/invoke/VarHandle" ∧ (parseMethodDescriptor yX12_areAlike.desc).map (fun d => d.parameters.length) = some 2 := by decide +kernel
set_option maxHeartbeats 4000000 in
set_option maxRecDepth 100000 in
theorem L12_areAlike_2_ok {E : CxT} {l : Launch} {D : va_G} {h : Nat} {q : Nat → Nat} {y : CyT} {zM uM z u : Nat} (hc : Cx E "FarEditorsModel" cX12_areAlike 4) (hz : Cy E l D y 1 22 zM uM) (c1 : Int32) (c2 : Int32) (M : MS) : ∀ (n : Nat) (i3 : Int32) {t : Nat}, L12_areAlike_2 c1 c2 M n i3 = some t → (hx0 : t = 0 → V E z u (mw h q y M) 24 [] []) → (hx1 : t = 1 → V E z u (mw h q y M) 32 [] []) → V E z u (mw h q y M) 2 [(0, .ref h), (1, .int c1), (2, .int c2), (3, .int i3)] [] := by
  have hT := hz.2.2.1
  intro n
  induction n with
  | zero => intro i3 t hf; cases hf
  | succ n ih =>
    intro i3 t hf hx0 hx1
    unfold L12_areAlike_2 at hf
    refine V_iload_n hc dX12_areAlike_2 rfl 3 rfl ?_
    refine V_sipush hc (v := (240 : Int32)) dX12_areAlike_3 rfl ?_
    refine V_icmp_ge hc dX12_areAlike_6 rfl (fun hq6 => ?_) (fun hq6 => ?_)
    · rw [if_pos hq6] at hf
      obtain rfl := Option.some.inj hf
      exact V_sub [] rfl (hx1 rfl)
    · rw [if_neg hq6] at hf
      refine V_aload_n hc dX12_areAlike_9 rfl 0 rfl ?_
      refine V_iload_n hc dX12_areAlike_10 rfl 1 rfl ?_
      refine V_iload_n hc dX12_areAlike_11 rfl 3 rfl ?_
      obtain ⟨v1, hv1, hf⟩ := mb hf
      refine R_callVi hc hz (As := [.int c1, .int i3]) (c12_endAt l D h q y _ _ _ _ hv1) w8_194 w8_196 wp8_12 w1_13 w8_197 hd12_endAt ⟨Nat.le_of_ble_eq_true rfl, Nat.le_of_ble_eq_true rfl⟩ rfl rfl (Nat.le_of_ble_eq_true rfl) dX12_areAlike_12 ?_
      refine V_aload_n hc dX12_areAlike_15 rfl 0 rfl ?_
      refine V_iload_n hc dX12_areAlike_16 rfl 2 rfl ?_
      refine V_iload_n hc dX12_areAlike_17 rfl 3 rfl ?_
      obtain ⟨v2, hv2, hf⟩ := mb hf
      refine R_callVi hc hz (As := [.int c2, .int i3]) (c12_endAt l D h q y _ _ _ _ hv2) w8_194 w8_196 wp8_12 w1_13 w8_197 hd12_endAt ⟨Nat.le_of_ble_eq_true rfl, Nat.le_of_ble_eq_true rfl⟩ rfl rfl (Nat.le_of_ble_eq_true rfl) dX12_areAlike_18 ?_
      refine V_icmp_eq hc dX12_areAlike_21 rfl (fun hq21 => ?_) (fun hq21 => ?_)
      · rw [if_pos hq21] at hf
        refine V_iinc hc (j := 3) (v := (i3 + (1 : Int32))) dX12_areAlike_26 rfl rfl (by decide) rfl ?_
        refine V_goto hc dX12_areAlike_29 rfl ?_
        exact V_sub [1, 2, 3, 0] rfl (ih _ hf hx0 hx1)
      · rw [if_neg hq21] at hf
        obtain rfl := Option.some.inj hf
        exact V_sub [] rfl (hx0 rfl)
set_option maxHeartbeats 4000000 in
set_option maxRecDepth 100000 in
theorem c12_areAlike (l : Launch) (D : va_G) (h : Nat) (q : Nat → Nat) (y : CyT) (zM uM z u : Nat) {M : MS} {p1 : Int32} {p2 : Int32} {r : Int32} (hf : f12_areAlike M p1 p2 = some r) : CT l D y yX12_areAlike cX12_areAlike 4 (some .boolean) 1 22 zM uM [.ref h, .int p1, .int p2] z u (mw h q y M) z u (mw h q y M) (some (.int r)) := by
  refine CT.of (by decide) (Nat.le_of_ble_eq_true rfl) (fun E hc hzz hnm => ?_)
  have hc : Cx E "FarEditorsModel" cX12_areAlike 4 := hc
  have hz := hzz.1
  have hT := hz.2.2.1
  show V E z u (mw h q y M) 0 [(0, .ref h), (1, .int p1), (2, .int p2)] []
  unfold f12_areAlike at hf
  refine V_iconst hc (v := (0 : Int32)) dX12_areAlike_0 rfl ?_
  refine V_istore_n hc dX12_areAlike_1 rfl (by decide) rfl ?_
  obtain ⟨t1, hv2, hf⟩ := mb hf
  refine V_sub [1, 2, 3, 0] rfl (L12_areAlike_2_ok hc hz p1 p2 M FU _ hv2 (fun ht2_0 => ?_) (fun ht2_1 => ?_))
  · rw [if_pos ht2_0] at hf
    refine V_iconst hc (v := (0 : Int32)) dX12_areAlike_24 rfl ?_
    obtain rfl := Option.some.inj hf
    exact V_iret hc hzz rfl rfl rfl rfl rfl dX12_areAlike_25
  · rw [if_neg (by rw [ht2_1]; decide)] at hf
    refine V_iconst hc (v := (1 : Int32)) dX12_areAlike_32 rfl ?_
    obtain rfl := Option.some.inj hf
    exact V_iret hc hzz rfl rfl rfl rfl rfl dX12_areAlike_33
