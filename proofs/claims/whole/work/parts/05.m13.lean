noncomputable def L12_isFirstOfLike_2 (c1 : Int32) (M : MS) : Nat → Int32 → Option (Nat)
  | 0, _ => none
  | n + 1, i2 =>
    if c1 ≤ i2 then (
      some 1
    ) else (
      (f12_areAlike M i2 c1).bind fun v1 =>
      if v1 = 0 then (
        L12_isFirstOfLike_2 c1 M n (i2 + (1 : Int32))
      ) else (
        some 0
      )
    )
noncomputable def f12_isFirstOfLike (M : MS) (p1 : Int32) : Option (Int32) :=
  (L12_isFirstOfLike_2 p1 M FU (0 : Int32)).bind fun t1 =>
  if t1 = 0 then (
    some (0 : Int32)
  ) else (
    some (1 : Int32)
  )
theorem hd12_isFirstOfLike : yX12_isFirstOfLike.cls = "FarEditorsModel" ∧ yX12_isFirstOfLike.cls ≠ "java/lang/invoke/MethodHandle" ∧ yX12_isFirstOfLike.cls ≠ "java/lang/invoke/VarHandle" ∧ (parseMethodDescriptor yX12_isFirstOfLike.desc).map (fun d => d.parameters.length) = some 1 := by decide +kernel
set_option maxHeartbeats 4000000 in
set_option maxRecDepth 100000 in
theorem L12_isFirstOfLike_2_ok {E : CxT} {l : Launch} {D : va_G} {h : Nat} {q : Nat → Nat} {y : CyT} {zM uM z u : Nat} (hc : Cx E "FarEditorsModel" cX12_isFirstOfLike 3) (hz : Cy E l D y 2 45 zM uM) (c1 : Int32) (M : MS) : ∀ (n : Nat) (i2 : Int32) {t : Nat}, L12_isFirstOfLike_2 c1 M n i2 = some t → (hx0 : t = 0 → V E z u (mw h q y M) 16 [] []) → (hx1 : t = 1 → V E z u (mw h q y M) 24 [] []) → V E z u (mw h q y M) 2 [(0, .ref h), (1, .int c1), (2, .int i2)] [] := by
  have hT := hz.2.2.1
  intro n
  induction n with
  | zero => intro i2 t hf; cases hf
  | succ n ih =>
    intro i2 t hf hx0 hx1
    unfold L12_isFirstOfLike_2 at hf
    refine V_iload_n hc dX12_isFirstOfLike_2 rfl 2 rfl ?_
    refine V_iload_n hc dX12_isFirstOfLike_3 rfl 1 rfl ?_
    refine V_icmp_ge hc dX12_isFirstOfLike_4 rfl (fun hq4 => ?_) (fun hq4 => ?_)
    · rw [if_pos hq4] at hf
      obtain rfl := Option.some.inj hf
      exact V_sub [] rfl (hx1 rfl)
    · rw [if_neg hq4] at hf
      refine V_aload_n hc dX12_isFirstOfLike_7 rfl 0 rfl ?_
      refine V_iload_n hc dX12_isFirstOfLike_8 rfl 2 rfl ?_
      refine V_iload_n hc dX12_isFirstOfLike_9 rfl 1 rfl ?_
      obtain ⟨v1, hv1, hf⟩ := mb hf
      refine R_callVi hc hz (As := [.int i2, .int c1]) (c12_areAlike l D h q y _ _ _ _ hv1) w8_190 w8_192 wp8_11 w1_13 w8_193 hd12_areAlike ⟨Nat.le_of_ble_eq_true rfl, Nat.le_of_ble_eq_true rfl⟩ rfl rfl (Nat.le_of_ble_eq_true rfl) dX12_isFirstOfLike_10 ?_
      refine V_if_eq hc dX12_isFirstOfLike_13 rfl (fun hq13 => ?_) (fun hq13 => ?_)
      · rw [if_pos hq13] at hf
        refine V_iinc hc (j := 2) (v := (i2 + (1 : Int32))) dX12_isFirstOfLike_18 rfl rfl (by decide) rfl ?_
        refine V_goto hc dX12_isFirstOfLike_21 rfl ?_
        exact V_sub [1, 2, 0] rfl (ih _ hf hx0 hx1)
      · rw [if_neg hq13] at hf
        obtain rfl := Option.some.inj hf
        exact V_sub [] rfl (hx0 rfl)
set_option maxHeartbeats 4000000 in
set_option maxRecDepth 100000 in
theorem c12_isFirstOfLike (l : Launch) (D : va_G) (h : Nat) (q : Nat → Nat) (y : CyT) (zM uM z u : Nat) {M : MS} {p1 : Int32} {r : Int32} (hf : f12_isFirstOfLike M p1 = some r) : CT l D y yX12_isFirstOfLike cX12_isFirstOfLike 3 (some .boolean) 2 45 zM uM [.ref h, .int p1] z u (mw h q y M) z u (mw h q y M) (some (.int r)) := by
  refine CT.of (by decide) (Nat.le_of_ble_eq_true rfl) (fun E hc hzz hnm => ?_)
  have hc : Cx E "FarEditorsModel" cX12_isFirstOfLike 3 := hc
  have hz := hzz.1
  have hT := hz.2.2.1
  show V E z u (mw h q y M) 0 [(0, .ref h), (1, .int p1)] []
  unfold f12_isFirstOfLike at hf
  refine V_iconst hc (v := (0 : Int32)) dX12_isFirstOfLike_0 rfl ?_
  refine V_istore_n hc dX12_isFirstOfLike_1 rfl (by decide) rfl ?_
  obtain ⟨t1, hv2, hf⟩ := mb hf
  refine V_sub [1, 2, 0] rfl (L12_isFirstOfLike_2_ok hc hz p1 M FU _ hv2 (fun ht2_0 => ?_) (fun ht2_1 => ?_))
  · rw [if_pos ht2_0] at hf
    refine V_iconst hc (v := (0 : Int32)) dX12_isFirstOfLike_16 rfl ?_
    obtain rfl := Option.some.inj hf
    exact V_iret hc hzz rfl rfl rfl rfl rfl dX12_isFirstOfLike_17
  · rw [if_neg (by rw [ht2_1]; decide)] at hf
    refine V_iconst hc (v := (1 : Int32)) dX12_isFirstOfLike_24 rfl ?_
    obtain rfl := Option.some.inj hf
    exact V_iret hc hzz rfl rfl rfl rfl rfl dX12_isFirstOfLike_25
noncomputable def L12_orders_36 (M : MS) : Nat → Int32 → Int32 → Option (Int32)
  | 0, _, _ => none
  | n + 1, i2, i3 =>
    if (gF M 53) ≤ i3 then (
      some i2
    ) else (
      (f12_isFirstOfLike M i3).bind fun v1 =>
      (
        if v1 = 0 then (
          some i2
        ) else (
          some (i2 + (1 : Int32))
        )
      ).bind fun x2 =>
      L12_orders_36 M n x2 (i3 + (1 : Int32))
    )
noncomputable def f12_orders (M : MS) (p1 : Int32) : Option (Int32 × MS) :=
  if (gF M 31) = 0 then (
    some ((-1 : Int32), M)
  ) else (
    (f12_isIn p1.toInt64 (0 : Int64) (1 : Int64)).bind fun v1 =>
    if v1 = 0 then (
      some ((-1 : Int32), M)
    ) else (
      (f12_laysOrders M).bind fun M2 =>
      if p1 = 0 then (
        some ((gF M2 53), M2)
      ) else (
        (L12_orders_36 M2 FU (0 : Int32) (0 : Int32)).bind fun x3 =>
        some (x3, M2)
      )
    )
  )
theorem hd12_orders : yX12_orders.cls = "FarEditorsModel" ∧ yX12_orders.cls ≠ "java/lang/invoke/MethodHandle" ∧ yX12_orders.cls ≠ "java/lang/invoke/VarHandle" ∧ (parseMethodDescriptor yX12_orders.desc).map (fun d => d.parameters.length) = some 1 := by decide +kernel
set_option maxHeartbeats 4000000 in
set_option maxRecDepth 100000 in
theorem L12_orders_36_ok {E : CxT} {l : Launch} {D : va_G} {h : Nat} {q : Nat → Nat} {y : CyT} {zM uM z u : Nat} (hc : Cx E "FarEditorsModel" cX12_orders 4) (hz : Cy E l D y 5 119 zM uM) (M : MS) : ∀ (n : Nat) (i2 : Int32) (i3 : Int32) {o2 : Int32}, L12_orders_36 M n i2 i3 = some o2 → (hx0 : V E z u (mw h q y M) 61 [(2, .int o2)] []) → V E z u (mw h q y M) 36 [(0, .ref h), (2, .int i2), (3, .int i3)] [] := by
  have hT := hz.2.2.1
  intro n
  induction n with
  | zero => intro i2 i3 o2 hf; cases hf
  | succ n ih =>
    intro i2 i3 o2 hf hx0
    unfold L12_orders_36 at hf
    refine V_iload_n hc dX12_orders_36 rfl 2 rfl ?_
    refine V_aload_n hc dX12_orders_37 rfl 0 rfl ?_
    refine R_geti hc 53 rfl (by decide) w6_111 dX12_orders_38 ?_
    refine V_icmp_ge hc dX12_orders_41 rfl (fun hq41 => ?_) (fun hq41 => ?_)
    · rw [if_pos hq41] at hf
      obtain rfl := Option.some.inj hf
      exact V_sub [1] rfl hx0
    · rw [if_neg hq41] at hf
      refine V_aload_n hc dX12_orders_44 rfl 0 rfl ?_
      refine V_iload_n hc dX12_orders_45 rfl 2 rfl ?_
      obtain ⟨v1, hv1, hf⟩ := mb hf
      refine R_callVi hc hz (As := [.int i3]) (c12_isFirstOfLike l D h q y _ _ _ _ hv1) w8_186 w8_188 wp8_10 w1_13 w8_189 hd12_isFirstOfLike ⟨Nat.le_of_ble_eq_true rfl, Nat.le_of_ble_eq_true rfl⟩ rfl rfl (Nat.le_of_ble_eq_true rfl) dX12_orders_46 ?_
      obtain ⟨x2, hv3, hf⟩ := mb hf
      have hJ49 : V E z u (mw h q y M) 55 [(0, .ref h), (2, .int x2), (3, .int i3)] [] := by
        refine V_iinc hc (j := 2) (v := (i3 + (1 : Int32))) dX12_orders_55 rfl rfl (by decide) rfl ?_
        refine V_goto hc dX12_orders_58 rfl ?_
        exact V_sub [1, 2, 0] rfl (ih _ _ hf hx0)
      refine V_if_eq hc dX12_orders_49 rfl (fun hq49 => ?_) (fun hq49 => ?_)
      · rw [if_pos hq49] at hv3
        obtain rfl := Option.some.inj hv3
        exact V_sub [0, 1, 2] rfl hJ49
      · rw [if_neg hq49] at hv3
        refine V_iinc hc (j := 1) (v := (i2 + (1 : Int32))) dX12_orders_52 rfl rfl (by decide) rfl ?_
        obtain rfl := Option.some.inj hv3
        exact V_sub [1, 0, 2] rfl hJ49
set_option maxHeartbeats 4000000 in
set_option maxRecDepth 100000 in
theorem c12_orders (l : Launch) (D : va_G) (h : Nat) (q : Nat → Nat) (y : CyT) (zM uM z u : Nat) {M M' : MS} {p1 : Int32} {r : Int32} (hf : f12_orders M p1 = some (r, M')) : CT l D y yX12_orders cX12_orders 4 (some .int) 5 119 zM uM [.ref h, .int p1] z u (mw h q y M) z u (mw h q y M') (some (.int r)) := by
  refine CT.of (by decide) (Nat.le_of_ble_eq_true rfl) (fun E hc hzz hnm => ?_)
  have hc : Cx E "FarEditorsModel" cX12_orders 4 := hc
  have hz := hzz.1
  have hT := hz.2.2.1
  show V E z u (mw h q y M) 0 [(0, .ref h), (1, .int p1)] []
  unfold f12_orders at hf
  refine V_aload_n hc dX12_orders_0 rfl 0 rfl ?_
  refine R_geti hc 31 rfl (by decide) w6_89 dX12_orders_1 ?_
  refine V_if_eq hc dX12_orders_4 rfl (fun hq4 => ?_) (fun hq4 => ?_)
  · rw [if_pos hq4] at hf
    refine V_iconst hc (v := (-1 : Int32)) dX12_orders_17 rfl ?_
    obtain ⟨rfl, rfl⟩ := si2 hf
    exact V_iret hc hzz rfl rfl rfl rfl rfl dX12_orders_18
  · rw [if_neg hq4] at hf
    refine V_iload_n hc dX12_orders_7 rfl 1 rfl ?_
    refine V_i2l hc dX12_orders_8 ?_
    refine V_lconst hc (v := (0 : Int64)) dX12_orders_9 rfl ?_
    refine V_lconst hc (v := (1 : Int64)) dX12_orders_10 rfl ?_
    obtain ⟨v1, hv1, hf⟩ := mb hf
    refine R_callSi hc hz (As := [.long p1.toInt64, .long (0 : Int64), .long (1 : Int64)]) (c12_isIn l D h q y _ _ _ _ hv1) w7_34 w7_35 w1_13 w7_36 hd12_isIn ⟨Nat.le_of_ble_eq_true rfl, Nat.le_of_ble_eq_true rfl⟩ rfl rfl (Nat.le_of_ble_eq_true rfl) dX12_orders_11 ?_
    refine V_if_ne hc dX12_orders_14 rfl (fun hq14 => ?_) (fun hq14 => ?_)
    · rw [if_neg hq14] at hf
      refine V_aload_n hc dX12_orders_19 rfl 0 rfl ?_
      obtain ⟨M2, hM2, hf⟩ := mb hf
      refine R_callVv hc hz (As := []) (c12_laysOrders l D h q y _ _ _ _ hM2) w8_170 w8_172 wp8_6 w1_13 w8_173 hd12_laysOrders ⟨Nat.le_of_ble_eq_true rfl, Nat.le_of_ble_eq_true rfl⟩ rfl rfl (Nat.le_of_ble_eq_true rfl) dX12_orders_20 ?_
      refine V_iload_n hc dX12_orders_23 rfl 1 rfl ?_
      refine V_if_ne hc dX12_orders_24 rfl (fun hq24 => ?_) (fun hq24 => ?_)
      · rw [if_neg hq24] at hf
        refine V_iconst hc (v := (0 : Int32)) dX12_orders_32 rfl ?_
        refine V_istore_n hc dX12_orders_33 rfl (by decide) rfl ?_
        refine V_iconst hc (v := (0 : Int32)) dX12_orders_34 rfl ?_
        refine V_istore_n hc dX12_orders_35 rfl (by decide) rfl ?_
        obtain ⟨x3, hv4, hf⟩ := mb hf
        refine V_sub [2, 1, 0] rfl (L12_orders_36_ok hc hz M2 FU _ _ hv4 ?_)
        refine V_iload_n hc dX12_orders_61 rfl 0 rfl ?_
        obtain ⟨rfl, rfl⟩ := si2 hf
        exact V_iret hc hzz rfl rfl rfl rfl rfl dX12_orders_62
      · rw [if_pos hq24] at hf
        refine V_aload_n hc dX12_orders_27 rfl 0 rfl ?_
        refine R_geti hc 53 rfl (by decide) w6_111 dX12_orders_28 ?_
        obtain ⟨rfl, rfl⟩ := si2 hf
        exact V_iret hc hzz rfl rfl rfl rfl rfl dX12_orders_31
    · rw [if_pos hq14] at hf
      refine V_iconst hc (v := (-1 : Int32)) dX12_orders_17 rfl ?_
      obtain ⟨rfl, rfl⟩ := si2 hf
      exact V_iret hc hzz rfl rfl rfl rfl rfl dX12_orders_18
noncomputable def f12_ends (M : MS) (p1 : Int32) (p2 : Int32) : Option (Int32 × MS) :=
  if (gF M 31) = 0 then (
    some ((-1 : Int32), M)
  ) else (
    if (-1 : Int32) ≤ p2 then (
      (f12_laysOrders M).bind fun M1 =>
      (f12_isIn p1.toInt64 (0 : Int64) ((gF M1 53) - (1 : Int32)).toInt64).bind fun v2 =>
      if v2 = 0 then (
        some ((-1 : Int32), M1)
      ) else (
        (
          if p2 = (-1 : Int32) then (
            (ld M1 54 p1).bind fun v7 =>
            some v7
          ) else (
            (ld M1 54 p1).bind fun v5 =>
            if v5 ≤ p2 then (
              some (-1 : Int32)
            ) else (
              (ld M1 55 (((250 : Int32) * p1) + p2)).bind fun v6 =>
              some v6
            )
          )
        ).bind fun v3 =>
        some (v3, M1)
      )
    ) else (
      some ((-1 : Int32), M)
    )
  )
theorem hd12_ends : yX12_ends.cls = "FarEditorsModel" ∧ yX12_ends.cls ≠ "java/lang/invoke/MethodHandle" ∧ yX12_ends.cls ≠ "java/lang/invoke/VarHandle" ∧ (parseMethodDescriptor yX12_ends.desc).map (fun d => d.parameters.length) = some 2 := by decide +kernel
set_option maxHeartbeats 4000000 in
set_option maxRecDepth 100000 in
theorem c12_ends (l : Launch) (D : va_G) (h : Nat) (q : Nat → Nat) (y : CyT) (zM uM z u : Nat) {M M' : MS} {p1 : Int32} {p2 : Int32} {r : Int32} (hf : f12_ends M p1 p2 = some (r, M')) : CT l D y yX12_ends cX12_ends 3 (some .int) 5 119 zM uM [.ref h, .int p1, .int p2] z u (mw h q y M) z u (mw h q y M') (some (.int r)) := by
  refine CT.of (by decide) (Nat.le_of_ble_eq_true rfl) (fun E hc hzz hnm => ?_)
  have hc : Cx E "FarEditorsModel" cX12_ends 3 := hc
  have hz := hzz.1
  have hT := hz.2.2.1
  show V E z u (mw h q y M) 0 [(0, .ref h), (1, .int p1), (2, .int p2)] []
  unfold f12_ends at hf
  refine V_aload_n hc dX12_ends_0 rfl 0 rfl ?_
  refine R_geti hc 31 rfl (by decide) w6_89 dX12_ends_1 ?_
  refine V_if_eq hc dX12_ends_4 rfl (fun hq4 => ?_) (fun hq4 => ?_)
  · rw [if_pos hq4] at hf
    refine V_iconst hc (v := (-1 : Int32)) dX12_ends_12 rfl ?_
    obtain ⟨rfl, rfl⟩ := si2 hf
    exact V_iret hc hzz rfl rfl rfl rfl rfl dX12_ends_13
  · rw [if_neg hq4] at hf
    refine V_iload_n hc dX12_ends_7 rfl 2 rfl ?_
    refine V_iconst hc (v := (-1 : Int32)) dX12_ends_8 rfl ?_
    refine V_icmp_ge hc dX12_ends_9 rfl (fun hq9 => ?_) (fun hq9 => ?_)
    · rw [if_pos hq9] at hf
      refine V_aload_n hc dX12_ends_14 rfl 0 rfl ?_
      obtain ⟨M1, hM1, hf⟩ := mb hf
      refine R_callVv hc hz (As := []) (c12_laysOrders l D h q y _ _ _ _ hM1) w8_170 w8_172 wp8_6 w1_13 w8_173 hd12_laysOrders ⟨Nat.le_of_ble_eq_true rfl, Nat.le_of_ble_eq_true rfl⟩ rfl rfl (Nat.le_of_ble_eq_true rfl) dX12_ends_15 ?_
      refine V_iload_n hc dX12_ends_18 rfl 1 rfl ?_
      refine V_i2l hc dX12_ends_19 ?_
      refine V_lconst hc (v := (0 : Int64)) dX12_ends_20 rfl ?_
      refine V_aload_n hc dX12_ends_21 rfl 0 rfl ?_
      refine R_geti hc 53 rfl (by decide) w6_111 dX12_ends_22 ?_
      refine V_iconst hc (v := (1 : Int32)) dX12_ends_25 rfl ?_
      refine V_isub hc dX12_ends_26 ?_
      refine V_i2l hc dX12_ends_27 ?_
      obtain ⟨v2, hv2, hf⟩ := mb hf
      refine R_callSi hc hz (As := [.long p1.toInt64, .long (0 : Int64), .long ((gF M1 53) - (1 : Int32)).toInt64]) (c12_isIn l D h q y _ _ _ _ hv2) w7_34 w7_35 w1_13 w7_36 hd12_isIn ⟨Nat.le_of_ble_eq_true rfl, Nat.le_of_ble_eq_true rfl⟩ rfl rfl (Nat.le_of_ble_eq_true rfl) dX12_ends_28 ?_
      refine V_if_ne hc dX12_ends_31 rfl (fun hq31 => ?_) (fun hq31 => ?_)
      · rw [if_neg hq31] at hf
        refine V_iload_n hc dX12_ends_36 rfl 2 rfl ?_
        refine V_iconst hc (v := (-1 : Int32)) dX12_ends_37 rfl ?_
        obtain ⟨v3, hv4, hf⟩ := mb hf
        have hJ38 : V E z u (mw h q y M1) 76 [] [.int v3] := by
          obtain ⟨rfl, rfl⟩ := si2 hf
          exact V_iret hc hzz rfl rfl rfl rfl rfl dX12_ends_76
        refine V_icmp_ne hc dX12_ends_38 rfl (fun hq38 => ?_) (fun hq38 => ?_)
        · rw [if_neg hq38] at hv4
          refine V_iload_n hc dX12_ends_50 rfl 2 rfl ?_
          refine V_aload_n hc dX12_ends_51 rfl 0 rfl ?_
          refine R_getr hc 54 rfl (by decide) w6_112 dX12_ends_52 ?_
          refine V_iload_n hc dX12_ends_55 rfl 1 rfl ?_
          obtain ⟨v5, hv5, hv4⟩ := mb hv4
          refine R_iald hc hT rfl hv5 dX12_ends_56 ?_
          refine V_icmp_ge hc dX12_ends_57 rfl (fun hq57 => ?_) (fun hq57 => ?_)
          · rw [if_pos hq57] at hv4
            refine V_iconst hc (v := (-1 : Int32)) dX12_ends_75 rfl ?_
            obtain rfl := Option.some.inj hv4
            exact V_sub [] rfl hJ38
          · rw [if_neg hq57] at hv4
            refine V_aload_n hc dX12_ends_60 rfl 0 rfl ?_
            refine R_getr hc 55 rfl (by decide) w6_113 dX12_ends_61 ?_
            refine V_sipush hc (v := (250 : Int32)) dX12_ends_64 rfl ?_
            refine V_iload_n hc dX12_ends_67 rfl 1 rfl ?_
            refine V_imul hc dX12_ends_68 ?_
            refine V_iload_n hc dX12_ends_69 rfl 2 rfl ?_
            refine V_iadd hc dX12_ends_70 ?_
            obtain ⟨v6, hv6, hv4⟩ := mb hv4
            refine R_iald hc hT rfl hv6 dX12_ends_71 ?_
            refine V_goto hc dX12_ends_72 rfl ?_
            obtain rfl := Option.some.inj hv4
            exact V_sub [] rfl hJ38
        · rw [if_pos hq38] at hv4
          refine V_aload_n hc dX12_ends_41 rfl 0 rfl ?_
          refine R_getr hc 54 rfl (by decide) w6_112 dX12_ends_42 ?_
          refine V_iload_n hc dX12_ends_45 rfl 1 rfl ?_
          obtain ⟨v7, hv7, hv4⟩ := mb hv4
          refine R_iald hc hT rfl hv7 dX12_ends_46 ?_
          refine V_goto hc dX12_ends_47 rfl ?_
          obtain rfl := Option.some.inj hv4
          exact V_sub [] rfl hJ38
      · rw [if_pos hq31] at hf
        refine V_iconst hc (v := (-1 : Int32)) dX12_ends_34 rfl ?_
        obtain ⟨rfl, rfl⟩ := si2 hf
        exact V_iret hc hzz rfl rfl rfl rfl rfl dX12_ends_35
    · rw [if_neg hq9] at hf
      refine V_iconst hc (v := (-1 : Int32)) dX12_ends_12 rfl ?_
      obtain ⟨rfl, rfl⟩ := si2 hf
      exact V_iret hc hzz rfl rfl rfl rfl rfl dX12_ends_13
noncomputable def L12_see_43 (c1 : Int32) (M : MS) : Nat → Int32 → Int32 → Option (Int32)
  | 0, _, _ => none
  | n + 1, i2, i3 =>
    if c1 ≤ i3 then (
      some i2
    ) else (
      if i2 = 0 then (
        some i2
      ) else (
        (ld M 0 i3).bind fun v1 =>
        (
          if (240 : Int32) ≤ v1 then (
            some (0 : Int32)
          ) else (
            (ld M 0 (i3 + (1 : Int32))).bind fun v4 =>
            if (26 : Int32) < v4 then (
              some (0 : Int32)
            ) else (
              some (1 : Int32)
            )
          )
        ).bind fun v2 =>
        L12_see_43 c1 M n v2 (i3 + (2 : Int32))
      )
    )
noncomputable def L12_see_101 (c1 : Int32) : Nat → Int32 → MS → Option (MS)
  | 0, _, _ => none
  | n + 1, i3, M =>
    if c1 ≤ i3 then (
      some M
    ) else (
      (ld M 0 i3).bind fun v1 =>
      (sd M 57 i3 v1).bind fun M2 =>
      L12_see_101 c1 n (i3 + (1 : Int32)) M2
    )
noncomputable def f12_see (M : MS) : Option (Int32 × MS) :=
  (
    if (gF (sF M 1 (0 : Int32)) 31) = 0 then (
      some (0 : Int32)
    ) else (
      if (gF M 1) ≤ 0 then (
        some (0 : Int32)
      ) else (
        if ((gF M 1) - (gF M 1) / (2 : Int32) * (2 : Int32)) = 0 then (
          if (16 : Int32) < ((gF M 1) / (2 : Int32)) then (
            some (0 : Int32)
          ) else (
            some (1 : Int32)
          )
        ) else (
          some (0 : Int32)
        )
      )
    )
  ).bind fun v1 =>
  (L12_see_43 (gF M 1) (sF M 1 (0 : Int32)) FU v1 (0 : Int32)).bind fun x3 =>
  if x3 = 0 then (
    bn2 (f12_refuses (sF M 1 (0 : Int32)) (1 : Int32)) fun v7 M8 =>
    some (v7, M8)
  ) else (
    (L12_see_101 (gF M 1) FU (0 : Int32) (sF M 1 (0 : Int32))).bind fun M5 =>
    some ((gF (sF M5 56 ((gF M 1) / (2 : Int32))) 56), (sF M5 56 ((gF M 1) / (2 : Int32))))
  )
theorem hd12_see : yX12_see.cls = "FarEditorsModel" ∧ yX12_see.cls ≠ "java/lang/invoke/MethodHandle" ∧ yX12_see.cls ≠ "java/lang/invoke/VarHandle" ∧ (parseMethodDescriptor yX12_see.desc).map (fun d => d.parameters.length) = some 0 := by decide +kernel
set_option maxHeartbeats 4000000 in
set_option maxRecDepth 100000 in
theorem L12_see_43_ok {E : CxT} {l : Launch} {D : va_G} {h : Nat} {q : Nat → Nat} {y : CyT} {zM uM z u : Nat} (hc : Cx E "FarEditorsModel" cX12_see 4) (hz : Cy E l D y 1 21 zM uM) (c1 : Int32) (M : MS) : ∀ (n : Nat) (i2 : Int32) (i3 : Int32) {o2 : Int32}, L12_see_43 c1 M n i2 i3 = some o2 → (hx0 : V E z u (mw h q y M) 89 [(0, .ref h), (1, .int c1), (2, .int o2)] []) → V E z u (mw h q y M) 43 [(0, .ref h), (1, .int c1), (2, .int i2), (3, .int i3)] [] := by
  have hT := hz.2.2.1
  intro n
  induction n with
  | zero => intro i2 i3 o2 hf; cases hf
  | succ n ih =>
    intro i2 i3 o2 hf hx0
    unfold L12_see_43 at hf
    refine V_iload_n hc dX12_see_43 rfl 3 rfl ?_
    refine V_iload_n hc dX12_see_44 rfl 1 rfl ?_
    refine V_icmp_ge hc dX12_see_45 rfl (fun hq45 => ?_) (fun hq45 => ?_)
    · rw [if_pos hq45] at hf
      obtain rfl := Option.some.inj hf
      exact V_sub [0, 1, 2] rfl hx0
    · rw [if_neg hq45] at hf
      refine V_iload_n hc dX12_see_48 rfl 2 rfl ?_
      refine V_if_eq hc dX12_see_49 rfl (fun hq49 => ?_) (fun hq49 => ?_)
      · rw [if_pos hq49] at hf
        obtain rfl := Option.some.inj hf
        exact V_sub [0, 1, 2] rfl hx0
      · rw [if_neg hq49] at hf
        refine V_aload_n hc dX12_see_52 rfl 0 rfl ?_
        refine R_getr hc 0 rfl (by decide) w6_58 dX12_see_53 ?_
        refine V_iload_n hc dX12_see_56 rfl 3 rfl ?_
        obtain ⟨v1, hv1, hf⟩ := mb hf
        refine R_iald hc hT rfl hv1 dX12_see_57 ?_
        refine V_sipush hc (v := (240 : Int32)) dX12_see_58 rfl ?_
        obtain ⟨v2, hv3, hf⟩ := mb hf
        have hJ61 : V E z u (mw h q y M) 82 [(0, .ref h), (1, .int c1), (3, .int i3)] [.int v2] := by
          refine V_istore_n hc dX12_see_82 rfl (by decide) rfl ?_
          refine V_iinc hc (j := 3) (v := (i3 + (2 : Int32))) dX12_see_83 rfl rfl (by decide) rfl ?_
          refine V_goto hc dX12_see_86 rfl ?_
          exact V_sub [2, 3, 1, 0] rfl (ih _ _ hf hx0)
        refine V_icmp_ge hc dX12_see_61 rfl (fun hq61 => ?_) (fun hq61 => ?_)
        · rw [if_pos hq61] at hv3
          refine V_iconst hc (v := (0 : Int32)) dX12_see_81 rfl ?_
          obtain rfl := Option.some.inj hv3
          exact V_sub [0, 1, 3] rfl hJ61
        · rw [if_neg hq61] at hv3
          refine V_aload_n hc dX12_see_64 rfl 0 rfl ?_
          refine R_getr hc 0 rfl (by decide) w6_58 dX12_see_65 ?_
          refine V_iload_n hc dX12_see_68 rfl 3 rfl ?_
          refine V_iconst hc (v := (1 : Int32)) dX12_see_69 rfl ?_
          refine V_iadd hc dX12_see_70 ?_
          obtain ⟨v4, hv4, hv3⟩ := mb hv3
          refine R_iald hc hT rfl hv4 dX12_see_71 ?_
          refine V_bipush hc (v := (26 : Int32)) dX12_see_72 rfl ?_
          refine V_icmp_gt hc dX12_see_74 rfl (fun hq74 => ?_) (fun hq74 => ?_)
          · rw [if_pos hq74] at hv3
            refine V_iconst hc (v := (0 : Int32)) dX12_see_81 rfl ?_
            obtain rfl := Option.some.inj hv3
            exact V_sub [0, 1, 3] rfl hJ61
          · rw [if_neg hq74] at hv3
            refine V_iconst hc (v := (1 : Int32)) dX12_see_77 rfl ?_
            refine V_goto hc dX12_see_78 rfl ?_
            obtain rfl := Option.some.inj hv3
            exact V_sub [0, 1, 3] rfl hJ61
set_option maxHeartbeats 4000000 in
set_option maxRecDepth 100000 in
theorem L12_see_101_ok {E : CxT} {l : Launch} {D : va_G} {h : Nat} {q : Nat → Nat} {y : CyT} {zM uM z u : Nat} (hc : Cx E "FarEditorsModel" cX12_see 4) (hz : Cy E l D y 1 21 zM uM) (c1 : Int32) : ∀ (n : Nat) (i3 : Int32) (M : MS) {Mo : MS}, L12_see_101 c1 n i3 M = some Mo → (hx0 : V E z u (mw h q y Mo) 124 [(0, .ref h), (1, .int c1)] []) → V E z u (mw h q y M) 101 [(0, .ref h), (1, .int c1), (3, .int i3)] [] := by
  have hT := hz.2.2.1
  intro n
  induction n with
  | zero => intro i3 M Mo hf; cases hf
  | succ n ih =>
    intro i3 M Mo hf hx0
    unfold L12_see_101 at hf
    refine V_iload_n hc dX12_see_101 rfl 2 rfl ?_
    refine V_iload_n hc dX12_see_102 rfl 1 rfl ?_
    refine V_icmp_ge hc dX12_see_103 rfl (fun hq103 => ?_) (fun hq103 => ?_)
    · rw [if_pos hq103] at hf
      obtain rfl := Option.some.inj hf
      exact V_sub [0, 1] rfl hx0
    · rw [if_neg hq103] at hf
      refine V_aload_n hc dX12_see_106 rfl 0 rfl ?_
      refine R_getr hc 57 rfl (by decide) w6_115 dX12_see_107 ?_
      refine V_iload_n hc dX12_see_110 rfl 2 rfl ?_
      refine V_aload_n hc dX12_see_111 rfl 0 rfl ?_
      refine R_getr hc 0 rfl (by decide) w6_58 dX12_see_112 ?_
      refine V_iload_n hc dX12_see_115 rfl 2 rfl ?_
      obtain ⟨v1, hv1, hf⟩ := mb hf
      refine R_iald hc hT rfl hv1 dX12_see_116 ?_
      obtain ⟨M2, hM2, hf⟩ := mb hf
      refine R_iast hc hT rfl hM2 dX12_see_117 ?_
      refine V_iinc hc (j := 2) (v := (i3 + (1 : Int32))) dX12_see_118 rfl rfl (by decide) rfl ?_
      refine V_goto hc dX12_see_121 rfl ?_
      exact V_sub [1, 2, 0] rfl (ih _ _ hf hx0)
set_option maxHeartbeats 4000000 in
set_option maxRecDepth 100000 in
theorem c12_see (l : Launch) (D : va_G) (h : Nat) (q : Nat → Nat) (y : CyT) (zM uM z u : Nat) {M M' : MS} {r : Int32} (hf : f12_see M = some (r, M')) : CT l D y yX12_see cX12_see 4 (some .int) 1 21 zM uM [.ref h] z u (mw h q y M) z u (mw h q y M') (some (.int r)) := by
  refine CT.of (by decide) (Nat.le_of_ble_eq_true rfl) (fun E hc hzz hnm => ?_)
  have hc : Cx E "FarEditorsModel" cX12_see 4 := hc
  have hz := hzz.1
  have hT := hz.2.2.1
  show V E z u (mw h q y M) 0 [(0, .ref h)] []
  unfold f12_see at hf
  refine V_aload_n hc dX12_see_0 rfl 0 rfl ?_
  refine R_geti hc 1 rfl (by decide) w6_59 dX12_see_1 ?_
  refine V_istore_n hc dX12_see_4 rfl (by decide) rfl ?_
  refine V_aload_n hc dX12_see_5 rfl 1 rfl ?_
  refine V_iconst hc (v := (0 : Int32)) dX12_see_6 rfl ?_
  refine R_puti hc 1 rfl (by decide) w6_59 rfl rfl rfl dX12_see_7 ?_
  refine V_aload_n hc dX12_see_10 rfl 1 rfl ?_
  refine R_geti hc 31 rfl (by decide) w6_89 dX12_see_11 ?_
  obtain ⟨v1, hv2, hf⟩ := mb hf
  have hJ14 : V E z u (mw h q y (sF M 1 (0 : Int32))) 40 [(0, .ref h), (1, .int (gF M 1))] [.int v1] := by
    refine V_istore_n hc dX12_see_40 rfl (by decide) rfl ?_
    refine V_iconst hc (v := (0 : Int32)) dX12_see_41 rfl ?_
    refine V_istore_n hc dX12_see_42 rfl (by decide) rfl ?_
    obtain ⟨x3, hv4, hf⟩ := mb hf
    refine V_sub [2, 3, 1, 0] rfl (L12_see_43_ok hc hz (gF M 1) (sF M 1 (0 : Int32)) FU _ _ hv4 ?_)
    refine V_iload_n hc dX12_see_89 rfl 2 rfl ?_
    refine V_if_ne hc dX12_see_90 rfl (fun hq90 => ?_) (fun hq90 => ?_)
    · rw [if_neg hq90] at hf
      refine V_iconst hc (v := (0 : Int32)) dX12_see_99 rfl ?_
      refine V_istore_n hc dX12_see_100 rfl (by decide) rfl ?_
      obtain ⟨M5, hv6, hf⟩ := mb hf
      refine V_sub [1, 2, 0] rfl (L12_see_101_ok hc hz (gF M 1) FU _ _ hv6 ?_)
      refine V_aload_n hc dX12_see_124 rfl 0 rfl ?_
      refine V_iload_n hc dX12_see_125 rfl 1 rfl ?_
      refine V_iconst hc (v := (2 : Int32)) dX12_see_126 rfl ?_
      refine V_idiv hc dX12_see_127 (by decide) ?_
      refine R_puti hc 56 rfl (by decide) w6_114 rfl rfl rfl dX12_see_128 ?_
      refine V_aload_n hc dX12_see_131 rfl 0 rfl ?_
      refine R_geti hc 56 rfl (by decide) w6_114 dX12_see_132 ?_
      obtain ⟨rfl, rfl⟩ := si2 hf
      exact V_iret hc hzz rfl rfl rfl rfl rfl dX12_see_135
    · rw [if_pos hq90] at hf
      refine V_aload_n hc dX12_see_93 rfl 0 rfl ?_
      refine V_iconst hc (v := (1 : Int32)) dX12_see_94 rfl ?_
      obtain ⟨v7, M8, hv7, hf⟩ := mb2 hf
      refine R_callVi hc hz (As := [.int (1 : Int32)]) (c12_refuses l D h q y _ _ _ _ hv7) w7_17 w7_19 wp3_15 w1_13 w7_20 hd12_refuses ⟨Nat.le_of_ble_eq_true rfl, Nat.le_of_ble_eq_true rfl⟩ rfl rfl (Nat.le_of_ble_eq_true rfl) dX12_see_95 ?_
      obtain ⟨rfl, rfl⟩ := si2 hf
      exact V_iret hc hzz rfl rfl rfl rfl rfl dX12_see_98
  refine V_if_eq hc dX12_see_14 rfl (fun hq14 => ?_) (fun hq14 => ?_)
  · rw [if_pos hq14] at hv2
    refine V_iconst hc (v := (0 : Int32)) dX12_see_39 rfl ?_
    obtain rfl := Option.some.inj hv2
    exact V_sub [1, 0] rfl hJ14
  · rw [if_neg hq14] at hv2
    refine V_iload_n hc dX12_see_17 rfl 0 rfl ?_
    refine V_if_le hc dX12_see_18 rfl (fun hq18 => ?_) (fun hq18 => ?_)
    · rw [if_pos hq18] at hv2
      refine V_iconst hc (v := (0 : Int32)) dX12_see_39 rfl ?_
      obtain rfl := Option.some.inj hv2
      exact V_sub [1, 0] rfl hJ14
    · rw [if_neg hq18] at hv2
      refine V_iload_n hc dX12_see_21 rfl 0 rfl ?_
      refine V_iconst hc (v := (2 : Int32)) dX12_see_22 rfl ?_
      refine V_irem hc dX12_see_23 (by decide) ?_
      refine V_if_ne hc dX12_see_24 rfl (fun hq24 => ?_) (fun hq24 => ?_)
      · rw [if_neg hq24] at hv2
        refine V_iconst hc (v := (0 : Int32)) dX12_see_39 rfl ?_
        obtain rfl := Option.some.inj hv2
        exact V_sub [1, 0] rfl hJ14
      · rw [if_pos hq24] at hv2
        refine V_iload_n hc dX12_see_27 rfl 0 rfl ?_
        refine V_iconst hc (v := (2 : Int32)) dX12_see_28 rfl ?_
        refine V_idiv hc dX12_see_29 (by decide) ?_
        refine V_bipush hc (v := (16 : Int32)) dX12_see_30 rfl ?_
        refine V_icmp_gt hc dX12_see_32 rfl (fun hq32 => ?_) (fun hq32 => ?_)
        · rw [if_pos hq32] at hv2
          refine V_iconst hc (v := (0 : Int32)) dX12_see_39 rfl ?_
          obtain rfl := Option.some.inj hv2
          exact V_sub [1, 0] rfl hJ14
        · rw [if_neg hq32] at hv2
          refine V_iconst hc (v := (1 : Int32)) dX12_see_35 rfl ?_
          refine V_goto hc dX12_see_36 rfl ?_
          obtain rfl := Option.some.inj hv2
          exact V_sub [1, 0] rfl hJ14
noncomputable def L12_laysFits_28 (c1 : Int32) : Nat → Int32 → MS → Option (MS)
  | 0, _, _ => none
  | n + 1, i2, M =>
    if (gF M 56) ≤ i2 then (
      some M
    ) else (
      (ld M 57 ((2 : Int32) * i2)).bind fun v1 =>
      (f12_endAt M c1 v1).bind fun v2 =>
      (ld M 57 (((2 : Int32) * i2) + (1 : Int32))).bind fun v3 =>
      (
        if v2 = v3 then (
          some M
        ) else (
          (sd M 58 c1 (vp_nar .boolean (0 : Int32))).bind fun M6 =>
          some M6
        )
      ).bind fun M4 =>
      L12_laysFits_28 c1 n (i2 + (1 : Int32)) M4
    )
noncomputable def L12_laysFits_11 : Nat → Int32 → MS → Option (MS)
  | 0, _, _ => none
  | n + 1, i1, M =>
    if (gF M 53) ≤ i1 then (
      some M
    ) else (
      (sd M 58 i1 (vp_nar .boolean (1 : Int32))).bind fun M1 =>
      (L12_laysFits_28 i1 FU (0 : Int32) M1).bind fun M2 =>
      (ld M2 58 i1).bind fun v4 =>
      (
        if v4 = 0 then (
          some M2
        ) else (
          some (sF M2 59 ((gF M2 59) + (1 : Int32)))
        )
      ).bind fun M5 =>
      L12_laysFits_11 n (i1 + (1 : Int32)) M5
    )
noncomputable def f12_laysFits (M : MS) : Option (MS) :=
  (f12_laysOrders M).bind fun M1 =>
  (L12_laysFits_11 FU (0 : Int32) (sF M1 59 (0 : Int32))).bind fun M2 =>
  some M2
theorem hd12_laysFits : yX12_laysFits.cls = "FarEditorsModel" ∧ yX12_laysFits.cls ≠ "java/lang/invoke/MethodHandle" ∧ yX12_laysFits.cls ≠ "java/lang/invoke/VarHandle" ∧ (parseMethodDescriptor yX12_laysFits.desc).map (fun d => d.parameters.length) = some 0 := by decide +kernel
set_option maxHeartbeats 4000000 in
set_option maxRecDepth 100000 in
theorem L12_laysFits_28_ok {E : CxT} {l : Launch} {D : va_G} {h : Nat} {q : Nat → Nat} {y : CyT} {zM uM z u : Nat} (hc : Cx E "FarEditorsModel" cX12_laysFits 3) (hz : Cy E l D y 5 119 zM uM) (c1 : Int32) : ∀ (n : Nat) (i2 : Int32) (M : MS) {Mo : MS}, L12_laysFits_28 c1 n i2 M = some Mo → (hx0 : V E z u (mw h q y Mo) 75 [(0, .ref h), (1, .int c1)] []) → V E z u (mw h q y M) 28 [(0, .ref h), (1, .int c1), (2, .int i2)] [] := by
  have hT := hz.2.2.1
  intro n
  induction n with
  | zero => intro i2 M Mo hf; cases hf
  | succ n ih =>
    intro i2 M Mo hf hx0
    unfold L12_laysFits_28 at hf
    refine V_iload_n hc dX12_laysFits_28 rfl 2 rfl ?_
    refine V_aload_n hc dX12_laysFits_29 rfl 0 rfl ?_
    refine R_geti hc 56 rfl (by decide) w6_114 dX12_laysFits_30 ?_
    refine V_icmp_ge hc dX12_laysFits_33 rfl (fun hq33 => ?_) (fun hq33 => ?_)
    · rw [if_pos hq33] at hf
      obtain rfl := Option.some.inj hf
      exact V_sub [0, 1] rfl hx0
    · rw [if_neg hq33] at hf
      refine V_aload_n hc dX12_laysFits_36 rfl 0 rfl ?_
      refine V_iload_n hc dX12_laysFits_37 rfl 1 rfl ?_
      refine V_aload_n hc dX12_laysFits_38 rfl 0 rfl ?_
      refine R_getr hc 57 rfl (by decide) w6_115 dX12_laysFits_39 ?_
      refine V_iconst hc (v := (2 : Int32)) dX12_laysFits_42 rfl ?_
      refine V_iload_n hc dX12_laysFits_43 rfl 2 rfl ?_
      refine V_imul hc dX12_laysFits_44 ?_
      obtain ⟨v1, hv1, hf⟩ := mb hf
      refine R_iald hc hT rfl hv1 dX12_laysFits_45 ?_
      obtain ⟨v2, hv2, hf⟩ := mb hf
      refine R_callVi hc hz (As := [.int c1, .int v1]) (c12_endAt l D h q y _ _ _ _ hv2) w8_194 w8_196 wp8_12 w1_13 w8_197 hd12_endAt ⟨Nat.le_of_ble_eq_true rfl, Nat.le_of_ble_eq_true rfl⟩ rfl rfl (Nat.le_of_ble_eq_true rfl) dX12_laysFits_46 ?_
      refine V_aload_n hc dX12_laysFits_49 rfl 0 rfl ?_
      refine R_getr hc 57 rfl (by decide) w6_115 dX12_laysFits_50 ?_
      refine V_iconst hc (v := (2 : Int32)) dX12_laysFits_53 rfl ?_
      refine V_iload_n hc dX12_laysFits_54 rfl 2 rfl ?_
      refine V_imul hc dX12_laysFits_55 ?_
      refine V_iconst hc (v := (1 : Int32)) dX12_laysFits_56 rfl ?_
      refine V_iadd hc dX12_laysFits_57 ?_
      obtain ⟨v3, hv3, hf⟩ := mb hf
      refine R_iald hc hT rfl hv3 dX12_laysFits_58 ?_
      obtain ⟨M4, hv5, hf⟩ := mb hf
      have hJ59 : V E z u (mw h q y M4) 69 [(0, .ref h), (1, .int c1), (2, .int i2)] [] := by
        refine V_iinc hc (j := 2) (v := (i2 + (1 : Int32))) dX12_laysFits_69 rfl rfl (by decide) rfl ?_
        refine V_goto hc dX12_laysFits_72 rfl ?_
        exact V_sub [1, 2, 0] rfl (ih _ _ hf hx0)
      refine V_icmp_eq hc dX12_laysFits_59 rfl (fun hq59 => ?_) (fun hq59 => ?_)
      · rw [if_pos hq59] at hv5
        obtain rfl := Option.some.inj hv5
        exact V_sub [0, 1, 2] rfl hJ59
      · rw [if_neg hq59] at hv5
        refine V_aload_n hc dX12_laysFits_62 rfl 0 rfl ?_
        refine R_getr hc 58 rfl (by decide) w6_116 dX12_laysFits_63 ?_
        refine V_iload_n hc dX12_laysFits_66 rfl 1 rfl ?_
        refine V_iconst hc (v := (0 : Int32)) dX12_laysFits_67 rfl ?_
        obtain ⟨M6, hM6, hv5⟩ := mb hv5
        refine R_zast hc hT rfl hM6 dX12_laysFits_68 ?_
        obtain rfl := Option.some.inj hv5
        exact V_sub [0, 1, 2] rfl hJ59
set_option maxHeartbeats 4000000 in
set_option maxRecDepth 100000 in
theorem L12_laysFits_11_ok {E : CxT} {l : Launch} {D : va_G} {h : Nat} {q : Nat → Nat} {y : CyT} {zM uM z u : Nat} (hc : Cx E "FarEditorsModel" cX12_laysFits 3) (hz : Cy E l D y 5 119 zM uM) : ∀ (n : Nat) (i1 : Int32) (M : MS) {Mo : MS}, L12_laysFits_11 n i1 M = some Mo → (hx0 : V E z u (mw h q y Mo) 100 [] []) → V E z u (mw h q y M) 11 [(0, .ref h), (1, .int i1)] [] := by
  have hT := hz.2.2.1
  intro n
  induction n with
  | zero => intro i1 M Mo hf; cases hf
  | succ n ih =>
    intro i1 M Mo hf hx0
    unfold L12_laysFits_11 at hf
    refine V_iload_n hc dX12_laysFits_11 rfl 1 rfl ?_
    refine V_aload_n hc dX12_laysFits_12 rfl 0 rfl ?_
    refine R_geti hc 53 rfl (by decide) w6_111 dX12_laysFits_13 ?_
    refine V_icmp_ge hc dX12_laysFits_16 rfl (fun hq16 => ?_) (fun hq16 => ?_)
    · rw [if_pos hq16] at hf
      obtain rfl := Option.some.inj hf
      exact V_sub [] rfl hx0
    · rw [if_neg hq16] at hf
      refine V_aload_n hc dX12_laysFits_19 rfl 0 rfl ?_
      refine R_getr hc 58 rfl (by decide) w6_116 dX12_laysFits_20 ?_
      refine V_iload_n hc dX12_laysFits_23 rfl 1 rfl ?_
      refine V_iconst hc (v := (1 : Int32)) dX12_laysFits_24 rfl ?_
      obtain ⟨M1, hM1, hf⟩ := mb hf
      refine R_zast hc hT rfl hM1 dX12_laysFits_25 ?_
      refine V_iconst hc (v := (0 : Int32)) dX12_laysFits_26 rfl ?_
      refine V_istore_n hc dX12_laysFits_27 rfl (by decide) rfl ?_
      obtain ⟨M2, hv3, hf⟩ := mb hf
      refine V_sub [1, 2, 0] rfl (L12_laysFits_28_ok hc hz i1 FU _ _ hv3 ?_)
      refine V_aload_n hc dX12_laysFits_75 rfl 0 rfl ?_
      refine R_getr hc 58 rfl (by decide) w6_116 dX12_laysFits_76 ?_
      refine V_iload_n hc dX12_laysFits_79 rfl 1 rfl ?_
      obtain ⟨v4, hv4, hf⟩ := mb hf
      refine R_zald hc hT rfl hv4 dX12_laysFits_80 ?_
      obtain ⟨M5, hv6, hf⟩ := mb hf
      have hJ81 : V E z u (mw h q y M5) 94 [(0, .ref h), (1, .int i1)] [] := by
        refine V_iinc hc (j := 1) (v := (i1 + (1 : Int32))) dX12_laysFits_94 rfl rfl (by decide) rfl ?_
        refine V_goto hc dX12_laysFits_97 rfl ?_
        exact V_sub [1, 0] rfl (ih _ _ hf hx0)
      refine V_if_eq hc dX12_laysFits_81 rfl (fun hq81 => ?_) (fun hq81 => ?_)
      · rw [if_pos hq81] at hv6
        obtain rfl := Option.some.inj hv6
        exact V_sub [0, 1] rfl hJ81
      · rw [if_neg hq81] at hv6
        refine V_aload_n hc dX12_laysFits_84 rfl 0 rfl ?_
        refine V_dup hc dX12_laysFits_85 rfl ?_
        refine R_geti hc 59 rfl (by decide) w6_117 dX12_laysFits_86 ?_
        refine V_iconst hc (v := (1 : Int32)) dX12_laysFits_89 rfl ?_
        refine V_iadd hc dX12_laysFits_90 ?_
        refine R_puti hc 59 rfl (by decide) w6_117 rfl rfl rfl dX12_laysFits_91 ?_
        obtain rfl := Option.some.inj hv6
        exact V_sub [0, 1] rfl hJ81
set_option maxHeartbeats 4000000 in
set_option maxRecDepth 100000 in
theorem c12_laysFits (l : Launch) (D : va_G) (h : Nat) (q : Nat → Nat) (y : CyT) (zM uM z u : Nat) {M M' : MS} (hf : f12_laysFits M = some M') : CT l D y yX12_laysFits cX12_laysFits 3 none 5 119 zM uM [.ref h] z u (mw h q y M) z u (mw h q y M') none := by
  refine CT.of (by decide) (Nat.le_of_ble_eq_true rfl) (fun E hc hzz hnm => ?_)
  have hc : Cx E "FarEditorsModel" cX12_laysFits 3 := hc
  have hz := hzz.1
  have hT := hz.2.2.1
  show V E z u (mw h q y M) 0 [(0, .ref h)] []
  unfold f12_laysFits at hf
  refine V_aload_n hc dX12_laysFits_0 rfl 0 rfl ?_
  obtain ⟨M1, hM1, hf⟩ := mb hf
  refine R_callVv hc hz (As := []) (c12_laysOrders l D h q y _ _ _ _ hM1) w8_170 w8_172 wp8_6 w1_13 w8_173 hd12_laysOrders ⟨Nat.le_of_ble_eq_true rfl, Nat.le_of_ble_eq_true rfl⟩ rfl rfl (Nat.le_of_ble_eq_true rfl) dX12_laysFits_1 ?_
  refine V_aload_n hc dX12_laysFits_4 rfl 0 rfl ?_
  refine V_iconst hc (v := (0 : Int32)) dX12_laysFits_5 rfl ?_
  refine R_puti hc 59 rfl (by decide) w6_117 rfl rfl rfl dX12_laysFits_6 ?_
  refine V_iconst hc (v := (0 : Int32)) dX12_laysFits_9 rfl ?_
  refine V_istore_n hc dX12_laysFits_10 rfl (by decide) rfl ?_
  obtain ⟨M2, hv3, hf⟩ := mb hf
  refine V_sub [1, 0] rfl (L12_laysFits_11_ok hc hz FU _ _ hv3 ?_)
  obtain rfl := Option.some.inj hf
  exact V_vret hc hzz rfl rfl rfl rfl dX12_laysFits_100
noncomputable def L12_fits_32 (c1 : Int32) (M : MS) : Nat → Int32 → Int32 → Option (Nat × Int32)
  | 0, _, _ => none
  | n + 1, i2, i3 =>
    if (gF M 53) ≤ i3 then (
      some (1, i3)
    ) else (
      (ld M 58 i3).bind fun v1 =>
      if v1 = 0 then (
        L12_fits_32 c1 M n i2 (i3 + (1 : Int32))
      ) else (
        if i2 = c1 then (
          some (0, i3)
        ) else (
          L12_fits_32 c1 M n (i2 + (1 : Int32)) (i3 + (1 : Int32))
        )
      )
    )
noncomputable def f12_fits (M : MS) (p1 : Int32) : Option (Int32 × MS) :=
  if (gF M 31) = 0 then (
    some ((-1 : Int32), M)
  ) else (
    if (-1 : Int32) ≤ p1 then (
      (f12_laysFits M).bind fun M1 =>
      if p1 = (-1 : Int32) then (
        some ((gF M1 59), M1)
      ) else (
        bn2 (L12_fits_32 p1 M1 FU (0 : Int32) (0 : Int32)) fun t2 x3 =>
        if t2 = 0 then (
          some (x3, M1)
        ) else (
          some ((-1 : Int32), M1)
        )
      )
    ) else (
      some ((-1 : Int32), M)
    )
  )
theorem hd12_fits : yX12_fits.cls = "FarEditorsModel" ∧ yX12_fits.cls ≠ "java/lang/invoke/MethodHandle" ∧ yX12_fits.cls ≠ "java/lang/invoke/VarHandle" ∧ (parseMethodDescriptor yX12_fits.desc).map (fun d => d.parameters.length) = some 1 := by decide +kernel
set_option maxHeartbeats 4000000 in
set_option maxRecDepth 100000 in
theorem L12_fits_32_ok {E : CxT} {l : Launch} {D : va_G} {h : Nat} {q : Nat → Nat} {y : CyT} {zM uM z u : Nat} (hc : Cx E "FarEditorsModel" cX12_fits 4) (hz : Cy E l D y 6 141 zM uM) (c1 : Int32) (M : MS) : ∀ (n : Nat) (i2 : Int32) (i3 : Int32) {t : Nat} {o3 : Int32}, L12_fits_32 c1 M n i2 i3 = some (t, o3) → (hx0 : t = 0 → V E z u (mw h q y M) 57 [(3, .int o3)] []) → (hx1 : t = 1 → V E z u (mw h q y M) 68 [] []) → V E z u (mw h q y M) 32 [(0, .ref h), (1, .int c1), (2, .int i2), (3, .int i3)] [] := by
  have hT := hz.2.2.1
  intro n
  induction n with
  | zero => intro i2 i3 t o3 hf; cases hf
  | succ n ih =>
    intro i2 i3 t o3 hf hx0 hx1
    unfold L12_fits_32 at hf
    refine V_iload_n hc dX12_fits_32 rfl 3 rfl ?_
    refine V_aload_n hc dX12_fits_33 rfl 0 rfl ?_
    refine R_geti hc 53 rfl (by decide) w6_111 dX12_fits_34 ?_
    refine V_icmp_ge hc dX12_fits_37 rfl (fun hq37 => ?_) (fun hq37 => ?_)
    · rw [if_pos hq37] at hf
      obtain ⟨rfl, rfl⟩ := si2 hf
      exact V_sub [] rfl (hx1 rfl)
    · rw [if_neg hq37] at hf
      refine V_aload_n hc dX12_fits_40 rfl 0 rfl ?_
      refine R_getr hc 58 rfl (by decide) w6_116 dX12_fits_41 ?_
      refine V_iload_n hc dX12_fits_44 rfl 3 rfl ?_
      obtain ⟨v1, hv1, hf⟩ := mb hf
      refine R_zald hc hT rfl hv1 dX12_fits_45 ?_
      refine V_if_ne hc dX12_fits_46 rfl (fun hq46 => ?_) (fun hq46 => ?_)
      · rw [if_neg hq46] at hf
        refine V_iload_n hc dX12_fits_52 rfl 2 rfl ?_
        refine V_iload_n hc dX12_fits_53 rfl 1 rfl ?_
        refine V_icmp_ne hc dX12_fits_54 rfl (fun hq54 => ?_) (fun hq54 => ?_)
        · rw [if_neg hq54] at hf
          refine V_iinc hc (j := 2) (v := (i2 + (1 : Int32))) dX12_fits_59 rfl rfl (by decide) rfl ?_
          refine V_iinc hc (j := 3) (v := (i3 + (1 : Int32))) dX12_fits_62 rfl rfl (by decide) rfl ?_
          refine V_goto hc dX12_fits_65 rfl ?_
          exact V_sub [2, 3, 1, 0] rfl (ih _ _ hf hx0 hx1)
        · rw [if_pos hq54] at hf
          obtain ⟨rfl, rfl⟩ := si2 hf
          exact V_sub [3] rfl (hx0 rfl)
      · rw [if_pos hq46] at hf
        refine V_goto hc dX12_fits_49 rfl ?_
        refine V_iinc hc (j := 3) (v := (i3 + (1 : Int32))) dX12_fits_62 rfl rfl (by decide) rfl ?_
        refine V_goto hc dX12_fits_65 rfl ?_
        exact V_sub [1, 2, 3, 0] rfl (ih _ _ hf hx0 hx1)
set_option maxHeartbeats 4000000 in
set_option maxRecDepth 100000 in
theorem c12_fits (l : Launch) (D : va_G) (h : Nat) (q : Nat → Nat) (y : CyT) (zM uM z u : Nat) {M M' : MS} {p1 : Int32} {r : Int32} (hf : f12_fits M p1 = some (r, M')) : CT l D y yX12_fits cX12_fits 4 (some .int) 6 141 zM uM [.ref h, .int p1] z u (mw h q y M) z u (mw h q y M') (some (.int r)) := by
  refine CT.of (by decide) (Nat.le_of_ble_eq_true rfl) (fun E hc hzz hnm => ?_)
  have hc : Cx E "FarEditorsModel" cX12_fits 4 := hc
  have hz := hzz.1
  have hT := hz.2.2.1
  show V E z u (mw h q y M) 0 [(0, .ref h), (1, .int p1)] []
  unfold f12_fits at hf
  refine V_aload_n hc dX12_fits_0 rfl 0 rfl ?_
  refine R_geti hc 31 rfl (by decide) w6_89 dX12_fits_1 ?_
  refine V_if_eq hc dX12_fits_4 rfl (fun hq4 => ?_) (fun hq4 => ?_)
  · rw [if_pos hq4] at hf
    refine V_iconst hc (v := (-1 : Int32)) dX12_fits_12 rfl ?_
    obtain ⟨rfl, rfl⟩ := si2 hf
    exact V_iret hc hzz rfl rfl rfl rfl rfl dX12_fits_13
  · rw [if_neg hq4] at hf
    refine V_iload_n hc dX12_fits_7 rfl 1 rfl ?_
    refine V_iconst hc (v := (-1 : Int32)) dX12_fits_8 rfl ?_
    refine V_icmp_ge hc dX12_fits_9 rfl (fun hq9 => ?_) (fun hq9 => ?_)
    · rw [if_pos hq9] at hf
      refine V_aload_n hc dX12_fits_14 rfl 0 rfl ?_
      obtain ⟨M1, hM1, hf⟩ := mb hf
      refine R_callVv hc hz (As := []) (c12_laysFits l D h q y _ _ _ _ hM1) w8_210 w8_212 wp8_13 w1_13 w8_213 hd12_laysFits ⟨Nat.le_of_ble_eq_true rfl, Nat.le_of_ble_eq_true rfl⟩ rfl rfl (Nat.le_of_ble_eq_true rfl) dX12_fits_15 ?_
      refine V_iload_n hc dX12_fits_18 rfl 1 rfl ?_
      refine V_iconst hc (v := (-1 : Int32)) dX12_fits_19 rfl ?_
      refine V_icmp_ne hc dX12_fits_20 rfl (fun hq20 => ?_) (fun hq20 => ?_)
      · rw [if_neg hq20] at hf
        refine V_iconst hc (v := (0 : Int32)) dX12_fits_28 rfl ?_
        refine V_istore_n hc dX12_fits_29 rfl (by decide) rfl ?_
        refine V_iconst hc (v := (0 : Int32)) dX12_fits_30 rfl ?_
        refine V_istore_n hc dX12_fits_31 rfl (by decide) rfl ?_
        obtain ⟨t2, x3, hv4, hf⟩ := mb2 hf
        refine V_sub [2, 3, 1, 0] rfl (L12_fits_32_ok hc hz p1 M1 FU _ _ hv4 (fun ht32_0 => ?_) (fun ht32_1 => ?_))
        · rw [if_pos ht32_0] at hf
          refine V_iload_n hc dX12_fits_57 rfl 0 rfl ?_
          obtain ⟨rfl, rfl⟩ := si2 hf
          exact V_iret hc hzz rfl rfl rfl rfl rfl dX12_fits_58
        · rw [if_neg (by rw [ht32_1]; decide)] at hf
          refine V_iconst hc (v := (-1 : Int32)) dX12_fits_68 rfl ?_
          obtain ⟨rfl, rfl⟩ := si2 hf
          exact V_iret hc hzz rfl rfl rfl rfl rfl dX12_fits_69
      · rw [if_pos hq20] at hf
        refine V_aload_n hc dX12_fits_23 rfl 0 rfl ?_
        refine R_geti hc 59 rfl (by decide) w6_117 dX12_fits_24 ?_
        obtain ⟨rfl, rfl⟩ := si2 hf
        exact V_iret hc hzz rfl rfl rfl rfl rfl dX12_fits_27
    · rw [if_neg hq9] at hf
      refine V_iconst hc (v := (-1 : Int32)) dX12_fits_12 rfl ?_
      obtain ⟨rfl, rfl⟩ := si2 hf
      exact V_iret hc hzz rfl rfl rfl rfl rfl dX12_fits_13
noncomputable def L12_mostAt_16 (c1 : Int32) (c2 : Int32) (c3 : Int32) (M : MS) : Nat → Int32 → Int32 → Option (Int32)
  | 0, _, _ => none
  | n + 1, i4, i5 =>
    if (gF M 53) ≤ i5 then (
      some i4
    ) else (
      (ld M 58 i5).bind fun v1 =>
      (
        if v1 = 0 then (
          some i4
        ) else (
          (f12_endAt M i5 c1).bind fun v4 =>
          if v4 = c3 then (
            some (i4 + (1 : Int32))
          ) else (
            some i4
          )
        )
      ).bind fun x2 =>
      L12_mostAt_16 c1 c2 c3 M n x2 (i5 + (1 : Int32))
    )
noncomputable def L12_mostAt_4 (c1 : Int32) (M : MS) : Nat → Int32 → Int32 → Option (Int32)
  | 0, _, _ => none
  | n + 1, i2, i3 =>
    if (26 : Int32) < i3 then (
      some i2
    ) else (
      (L12_mostAt_16 c1 i2 i3 M FU (0 : Int32) (0 : Int32)).bind fun x1 =>
      (
        if x1 ≤ i2 then (
          some i2
        ) else (
          some x1
        )
      ).bind fun x3 =>
      L12_mostAt_4 c1 M n x3 (i3 + (1 : Int32))
    )
noncomputable def f12_mostAt (M : MS) (p1 : Int32) : Option (Int32) :=
  (L12_mostAt_4 p1 M FU (0 : Int32) (0 : Int32)).bind fun x1 =>
  some x1
theorem hd12_mostAt : yX12_mostAt.cls = "FarEditorsModel" ∧ yX12_mostAt.cls ≠ "java/lang/invoke/MethodHandle" ∧ yX12_mostAt.cls ≠ "java/lang/invoke/VarHandle" ∧ (parseMethodDescriptor yX12_mostAt.desc).map (fun d => d.parameters.length) = some 1 := by decide +kernel
set_option maxHeartbeats 4000000 in
set_option maxRecDepth 100000 in
theorem L12_mostAt_16_ok {E : CxT} {l : Launch} {D : va_G} {h : Nat} {q : Nat → Nat} {y : CyT} {zM uM z u : Nat} (hc : Cx E "FarEditorsModel" cX12_mostAt 6) (hz : Cy E l D y 1 22 zM uM) (c1 : Int32) (c2 : Int32) (c3 : Int32) (M : MS) : ∀ (n : Nat) (i4 : Int32) (i5 : Int32) {o4 : Int32}, L12_mostAt_16 c1 c2 c3 M n i4 i5 = some o4 → (hx0 : V E z u (mw h q y M) 55 [(0, .ref h), (1, .int c1), (2, .int c2), (3, .int c3), (4, .int o4)] []) → V E z u (mw h q y M) 16 [(0, .ref h), (1, .int c1), (2, .int c2), (3, .int c3), (4, .int i4), (5, .int i5)] [] := by
  have hT := hz.2.2.1
  intro n
  induction n with
  | zero => intro i4 i5 o4 hf; cases hf
  | succ n ih =>
    intro i4 i5 o4 hf hx0
    unfold L12_mostAt_16 at hf
    refine V_iload hc dX12_mostAt_16 5 rfl ?_
    refine V_aload_n hc dX12_mostAt_18 rfl 0 rfl ?_
    refine R_geti hc 53 rfl (by decide) w6_111 dX12_mostAt_19 ?_
    refine V_icmp_ge hc dX12_mostAt_22 rfl (fun hq22 => ?_) (fun hq22 => ?_)
    · rw [if_pos hq22] at hf
      obtain rfl := Option.some.inj hf
      exact V_sub [0, 1, 2, 3, 4] rfl hx0
    · rw [if_neg hq22] at hf
      refine V_aload_n hc dX12_mostAt_25 rfl 0 rfl ?_
      refine R_getr hc 58 rfl (by decide) w6_116 dX12_mostAt_26 ?_
      refine V_iload hc dX12_mostAt_29 5 rfl ?_
      obtain ⟨v1, hv1, hf⟩ := mb hf
      refine R_zald hc hT rfl hv1 dX12_mostAt_31 ?_
      obtain ⟨x2, hv3, hf⟩ := mb hf
      have hJ32 : V E z u (mw h q y M) 49 [(0, .ref h), (1, .int c1), (2, .int c2), (3, .int c3), (4, .int x2), (5, .int i5)] [] := by
        refine V_iinc hc (j := 5) (v := (i5 + (1 : Int32))) dX12_mostAt_49 rfl rfl (by decide) rfl ?_
        refine V_goto hc dX12_mostAt_52 rfl ?_
        exact V_sub [1, 2, 3, 4, 5, 0] rfl (ih _ _ hf hx0)
      refine V_if_eq hc dX12_mostAt_32 rfl (fun hq32 => ?_) (fun hq32 => ?_)
      · rw [if_pos hq32] at hv3
        obtain rfl := Option.some.inj hv3
        exact V_sub [0, 1, 2, 3, 4, 5] rfl hJ32
      · rw [if_neg hq32] at hv3
        refine V_aload_n hc dX12_mostAt_35 rfl 0 rfl ?_
        refine V_iload hc dX12_mostAt_36 5 rfl ?_
        refine V_iload_n hc dX12_mostAt_38 rfl 1 rfl ?_
        obtain ⟨v4, hv4, hv3⟩ := mb hv3
        refine R_callVi hc hz (As := [.int i5, .int c1]) (c12_endAt l D h q y _ _ _ _ hv4) w8_194 w8_196 wp8_12 w1_13 w8_197 hd12_endAt ⟨Nat.le_of_ble_eq_true rfl, Nat.le_of_ble_eq_true rfl⟩ rfl rfl (Nat.le_of_ble_eq_true rfl) dX12_mostAt_39 ?_
        refine V_iload_n hc dX12_mostAt_42 rfl 3 rfl ?_
        refine V_icmp_ne hc dX12_mostAt_43 rfl (fun hq43 => ?_) (fun hq43 => ?_)
        · rw [if_neg hq43] at hv3
          obtain rfl := Option.some.inj hv3
          exact V_sub [0, 1, 2, 3, 4, 5] rfl hJ32
        · rw [if_pos hq43] at hv3
          refine V_iinc hc (j := 4) (v := (i4 + (1 : Int32))) dX12_mostAt_46 rfl rfl (by decide) rfl ?_
          obtain rfl := Option.some.inj hv3
          exact V_sub [1, 2, 3, 4, 0, 5] rfl hJ32
set_option maxHeartbeats 4000000 in
set_option maxRecDepth 100000 in
theorem L12_mostAt_4_ok {E : CxT} {l : Launch} {D : va_G} {h : Nat} {q : Nat → Nat} {y : CyT} {zM uM z u : Nat} (hc : Cx E "FarEditorsModel" cX12_mostAt 6) (hz : Cy E l D y 1 22 zM uM) (c1 : Int32) (M : MS) : ∀ (n : Nat) (i2 : Int32) (i3 : Int32) {o2 : Int32}, L12_mostAt_4 c1 M n i2 i3 = some o2 → (hx0 : V E z u (mw h q y M) 70 [(2, .int o2)] []) → V E z u (mw h q y M) 4 [(0, .ref h), (1, .int c1), (2, .int i2), (3, .int i3)] [] := by
  have hT := hz.2.2.1
  intro n
  induction n with
  | zero => intro i2 i3 o2 hf; cases hf
  | succ n ih =>
    intro i2 i3 o2 hf hx0
    unfold L12_mostAt_4 at hf
    refine V_iload_n hc dX12_mostAt_4 rfl 3 rfl ?_
    refine V_bipush hc (v := (26 : Int32)) dX12_mostAt_5 rfl ?_
    refine V_icmp_gt hc dX12_mostAt_7 rfl (fun hq7 => ?_) (fun hq7 => ?_)
    · rw [if_pos hq7] at hf
      obtain rfl := Option.some.inj hf
      exact V_sub [2] rfl hx0
    · rw [if_neg hq7] at hf
      refine V_iconst hc (v := (0 : Int32)) dX12_mostAt_10 rfl ?_
      refine V_istore hc dX12_mostAt_11 (by decide) rfl ?_
      refine V_iconst hc (v := (0 : Int32)) dX12_mostAt_13 rfl ?_
      refine V_istore hc dX12_mostAt_14 (by decide) rfl ?_
      obtain ⟨x1, hv2, hf⟩ := mb hf
      refine V_sub [2, 3, 4, 5, 1, 0] rfl (L12_mostAt_16_ok hc hz c1 i2 i3 M FU _ _ hv2 ?_)
      refine V_iload hc dX12_mostAt_55 4 rfl ?_
      refine V_iload_n hc dX12_mostAt_57 rfl 2 rfl ?_
      obtain ⟨x3, hv4, hf⟩ := mb hf
      have hJ58 : V E z u (mw h q y M) 64 [(0, .ref h), (1, .int c1), (2, .int x3), (3, .int i3)] [] := by
        refine V_iinc hc (j := 3) (v := (i3 + (1 : Int32))) dX12_mostAt_64 rfl rfl (by decide) rfl ?_
        refine V_goto hc dX12_mostAt_67 rfl ?_
        exact V_sub [1, 2, 3, 0] rfl (ih _ _ hf hx0)
      refine V_icmp_le hc dX12_mostAt_58 rfl (fun hq58 => ?_) (fun hq58 => ?_)
      · rw [if_pos hq58] at hv4
        obtain rfl := Option.some.inj hv4
        exact V_sub [0, 1, 2, 3] rfl hJ58
      · rw [if_neg hq58] at hv4
        refine V_iload hc dX12_mostAt_61 4 rfl ?_
        refine V_istore_n hc dX12_mostAt_63 rfl (by decide) rfl ?_
        obtain rfl := Option.some.inj hv4
        exact V_sub [1, 2, 0, 3] rfl hJ58
set_option maxHeartbeats 4000000 in
set_option maxRecDepth 100000 in
theorem c12_mostAt (l : Launch) (D : va_G) (h : Nat) (q : Nat → Nat) (y : CyT) (zM uM z u : Nat) {M : MS} {p1 : Int32} {r : Int32} (hf : f12_mostAt M p1 = some r) : CT l D y yX12_mostAt cX12_mostAt 6 (some .int) 1 22 zM uM [.ref h, .int p1] z u (mw h q y M) z u (mw h q y M) (some (.int r)) := by
  refine CT.of (by decide) (Nat.le_of_ble_eq_true rfl) (fun E hc hzz hnm => ?_)
  have hc : Cx E "FarEditorsModel" cX12_mostAt 6 := hc
  have hz := hzz.1
  have hT := hz.2.2.1
  show V E z u (mw h q y M) 0 [(0, .ref h), (1, .int p1)] []
  unfold f12_mostAt at hf
  refine V_iconst hc (v := (0 : Int32)) dX12_mostAt_0 rfl ?_
  refine V_istore_n hc dX12_mostAt_1 rfl (by decide) rfl ?_
  refine V_iconst hc (v := (0 : Int32)) dX12_mostAt_2 rfl ?_
  refine V_istore_n hc dX12_mostAt_3 rfl (by decide) rfl ?_
  obtain ⟨x1, hv2, hf⟩ := mb hf
  refine V_sub [2, 3, 1, 0] rfl (L12_mostAt_4_ok hc hz p1 M FU _ _ hv2 ?_)
  refine V_iload_n hc dX12_mostAt_70 rfl 0 rfl ?_
  obtain rfl := Option.some.inj hf
  exact V_iret hc hzz rfl rfl rfl rfl rfl dX12_mostAt_71
