noncomputable def LX4_findStep_4 (h : Nat) (c1 : Int32) (S : CS) : Nat → Int32 → Int32 → Option (Nat × Int32)
  | 0, _, _ => none
  | n + 1, i2, i3 =>
    (gi S 4 h 1).bind fun v1 =>
    if v1 ≤ i3 then (
      some (1, i3)
    ) else (
      (cal S 4 h (f4_beginsStep S h i3)).bind fun v2 =>
      if v2 = 0 then (
        LX4_findStep_4 h c1 S n i2 (i3 + (1 : Int32))
      ) else (
        if i2 = c1 then (
          some (0, i3)
        ) else (
          LX4_findStep_4 h c1 S n (i2 + (1 : Int32)) (i3 + (1 : Int32))
        )
      )
    )
noncomputable def f4_findStep (S : CS) (h : Nat) (p1 : Int32) : Option (Int32) :=
  bn2 (LX4_findStep_4 h p1 S FU (0 : Int32) (0 : Int32)) fun t1 x2 =>
  if t1 = 0 then (
    some x2
  ) else (
    some (-1 : Int32)
  )
theorem hdX_X4_findStep : yX4_findStep.cls = "FarEditors$Op" ∧ yX4_findStep.cls ≠ "java/lang/invoke/MethodHandle" ∧ yX4_findStep.cls ≠ "java/lang/invoke/VarHandle" ∧ (parseMethodDescriptor yX4_findStep.desc).map (fun d => d.parameters.length) = some 1 := by decide +kernel
set_option maxHeartbeats 4000000 in
set_option maxRecDepth 100000 in
theorem LX4_findStep_4_ok {E : CxT} {l : Launch} {D : va_G} {y : CyT} {zM uM : Nat} (hc : Cx E "FarEditors$Op" cX4_findStep 4) (h : Nat) (c1 : Int32) (S : CS) (hz : Cy E l D y 2 41 zM uM) : ∀ (n : Nat) (i2 : Int32) (i3 : Int32) {t : Nat} {o3 : Int32}, LX4_findStep_4 h c1 S n i2 i3 = some (t, o3) → (hx0 : t = 0 → V E (cZ S) (cU S) (cw y S) 25 [(3, .int o3)] []) → (hx1 : t = 1 → V E (cZ S) (cU S) (cw y S) 36 [] []) → V E (cZ S) (cU S) (cw y S) 4 [(0, .ref h), (1, .int c1), (2, .int i2), (3, .int i3)] [] := by
  have hT := hz.2.2.1
  intro n
  induction n with
  | zero => intro i2 i3 t o3 hf; cases hf
  | succ n ih =>
    intro i2 i3 t o3 hf hx0 hx1
    unfold LX4_findStep_4 at hf
    refine V_iload_n hc dX4_findStep_4 rfl 3 rfl ?_
    refine V_aload_n hc dX4_findStep_5 rfl 0 rfl ?_
    obtain ⟨v1, hv1, hf⟩ := mb hf
    refine C_geti hc rfl iW4 (by decide) 1 (by decide) rfl hv1 w1_105 dX4_findStep_6 ?_
    refine V_icmp_ge hc dX4_findStep_9 rfl (fun hq9 => ?_) (fun hq9 => ?_)
    · rw [if_pos hq9] at hf
      obtain ⟨rfl, rfl⟩ := si2 hf
      exact V_sub [] rfl (hx1 rfl)
    · rw [if_neg hq9] at hf
      refine V_aload_n hc dX4_findStep_12 rfl 0 rfl ?_
      refine V_iload_n hc dX4_findStep_13 rfl 3 rfl ?_
      obtain ⟨v2, hv2, hf⟩ := mb hf
      obtain ⟨hkv2, hv2⟩ := og hv2
      refine C_callV hc hz (As := [.int i3]) hkv2 (by decide) (c4_beginsStep l D y _ _ hv2) w4_223 w4_225 wp3_3 w1_5 w4_226 hdX_X4_beginsStep ⟨(Nat.le_of_ble_eq_true rfl), (Nat.le_of_ble_eq_true rfl)⟩ rfl rfl rfl (Nat.le_of_ble_eq_true rfl) dX4_findStep_14 ?_
      refine V_if_eq hc dX4_findStep_17 rfl (fun hq17 => ?_) (fun hq17 => ?_)
      · rw [if_pos hq17] at hf
        refine V_iinc hc (j := 3) (v := (i3 + (1 : Int32))) dX4_findStep_30 rfl rfl (by decide) rfl ?_
        refine V_goto hc dX4_findStep_33 rfl ?_
        exact V_sub [1, 2, 3, 0] rfl (ih _ _ hf hx0 hx1)
      · rw [if_neg hq17] at hf
        refine V_iload_n hc dX4_findStep_20 rfl 2 rfl ?_
        refine V_iload_n hc dX4_findStep_21 rfl 1 rfl ?_
        refine V_icmp_ne hc dX4_findStep_22 rfl (fun hq22 => ?_) (fun hq22 => ?_)
        · rw [if_neg hq22] at hf
          refine V_iinc hc (j := 2) (v := (i2 + (1 : Int32))) dX4_findStep_27 rfl rfl (by decide) rfl ?_
          refine V_iinc hc (j := 3) (v := (i3 + (1 : Int32))) dX4_findStep_30 rfl rfl (by decide) rfl ?_
          refine V_goto hc dX4_findStep_33 rfl ?_
          exact V_sub [2, 3, 1, 0] rfl (ih _ _ hf hx0 hx1)
        · rw [if_pos hq22] at hf
          obtain ⟨rfl, rfl⟩ := si2 hf
          exact V_sub [3] rfl (hx0 rfl)
set_option maxHeartbeats 4000000 in
set_option maxRecDepth 100000 in
theorem c4_findStep (l : Launch) (D : va_G) (y : CyT) (zM uM : Nat) {S : CS} {h : Nat} {p1 : Int32} {r : Int32} (hf : f4_findStep S h p1 = some r) : CT l D y yX4_findStep cX4_findStep 4 (some .int) 2 41 zM uM [.ref h, .int p1] (cZ S) (cU S) (cw y S) (cZ S) (cU S) (cw y S) (some (.int r)) := by
  refine CT.of (by decide) (Nat.le_of_ble_eq_true rfl) (fun E hc hzz hnm => ?_)
  have hc : Cx E "FarEditors$Op" cX4_findStep 4 := hc
  have hz := hzz.1
  have hT := hz.2.2.1
  show V E (cZ S) (cU S) (cw y S) 0 [(0, .ref h), (1, .int p1)] []
  unfold f4_findStep at hf
  refine V_iconst hc (v := (0 : Int32)) dX4_findStep_0 rfl ?_
  refine V_istore_n hc dX4_findStep_1 rfl (by decide) rfl ?_
  refine V_iconst hc (v := (0 : Int32)) dX4_findStep_2 rfl ?_
  refine V_istore_n hc dX4_findStep_3 rfl (by decide) rfl ?_
  obtain ⟨t1, x2, hv3, hf⟩ := mb2 hf
  refine V_sub [2, 3, 1, 0] rfl (LX4_findStep_4_ok hc h p1 S hz FU _ _ hv3 (fun ht4_0 => ?_) (fun ht4_1 => ?_))
  · rw [if_pos ht4_0] at hf
    refine V_iload_n hc dX4_findStep_25 rfl 0 rfl ?_
    obtain rfl := Option.some.inj hf
    exact V_iret hc hzz rfl rfl rfl rfl rfl dX4_findStep_26
  · rw [if_neg (by rw [ht4_1]; decide)] at hf
    refine V_iconst hc (v := (-1 : Int32)) dX4_findStep_36 rfl ?_
    obtain rfl := Option.some.inj hf
    exact V_iret hc hzz rfl rfl rfl rfl rfl dX4_findStep_37
noncomputable def LX4_endOfStep_4 (h : Nat) (S : CS) : Nat → Int32 → Option (Int32)
  | 0, _ => none
  | n + 1, i2 =>
    (gi S 4 h 1).bind fun v1 =>
    if v1 ≤ i2 then (
      some i2
    ) else (
      (cal S 4 h (f4_beginsStep S h i2)).bind fun v2 =>
      if v2 = 0 then (
        LX4_endOfStep_4 h S n (i2 + (1 : Int32))
      ) else (
        some i2
      )
    )
noncomputable def f4_endOfStep (S : CS) (h : Nat) (p1 : Int32) : Option (Int32) :=
  (LX4_endOfStep_4 h S FU (p1 + (1 : Int32))).bind fun x1 =>
  some x1
theorem hdX_X4_endOfStep : yX4_endOfStep.cls = "FarEditors$Op" ∧ yX4_endOfStep.cls ≠ "java/lang/invoke/MethodHandle" ∧ yX4_endOfStep.cls ≠ "java/lang/invoke/VarHandle" ∧ (parseMethodDescriptor yX4_endOfStep.desc).map (fun d => d.parameters.length) = some 1 := by decide +kernel
set_option maxHeartbeats 4000000 in
set_option maxRecDepth 100000 in
theorem LX4_endOfStep_4_ok {E : CxT} {l : Launch} {D : va_G} {y : CyT} {zM uM : Nat} (hc : Cx E "FarEditors$Op" cX4_endOfStep 3) (h : Nat) (S : CS) (hz : Cy E l D y 2 41 zM uM) : ∀ (n : Nat) (i2 : Int32) {o2 : Int32}, LX4_endOfStep_4 h S n i2 = some o2 → (hx0 : V E (cZ S) (cU S) (cw y S) 26 [(2, .int o2)] []) → V E (cZ S) (cU S) (cw y S) 4 [(0, .ref h), (2, .int i2)] [] := by
  have hT := hz.2.2.1
  intro n
  induction n with
  | zero => intro i2 o2 hf; cases hf
  | succ n ih =>
    intro i2 o2 hf hx0
    unfold LX4_endOfStep_4 at hf
    refine V_iload_n hc dX4_endOfStep_4 rfl 1 rfl ?_
    refine V_aload_n hc dX4_endOfStep_5 rfl 0 rfl ?_
    obtain ⟨v1, hv1, hf⟩ := mb hf
    refine C_geti hc rfl iW4 (by decide) 1 (by decide) rfl hv1 w1_105 dX4_endOfStep_6 ?_
    refine V_icmp_ge hc dX4_endOfStep_9 rfl (fun hq9 => ?_) (fun hq9 => ?_)
    · rw [if_pos hq9] at hf
      obtain rfl := Option.some.inj hf
      exact V_sub [1] rfl hx0
    · rw [if_neg hq9] at hf
      refine V_aload_n hc dX4_endOfStep_12 rfl 0 rfl ?_
      refine V_iload_n hc dX4_endOfStep_13 rfl 1 rfl ?_
      obtain ⟨v2, hv2, hf⟩ := mb hf
      obtain ⟨hkv2, hv2⟩ := og hv2
      refine C_callV hc hz (As := [.int i2]) hkv2 (by decide) (c4_beginsStep l D y _ _ hv2) w4_223 w4_225 wp3_3 w1_5 w4_226 hdX_X4_beginsStep ⟨(Nat.le_of_ble_eq_true rfl), (Nat.le_of_ble_eq_true rfl)⟩ rfl rfl rfl (Nat.le_of_ble_eq_true rfl) dX4_endOfStep_14 ?_
      refine V_if_ne hc dX4_endOfStep_17 rfl (fun hq17 => ?_) (fun hq17 => ?_)
      · rw [if_neg hq17] at hf
        obtain rfl := Option.some.inj hf
        exact V_sub [1] rfl hx0
      · rw [if_pos hq17] at hf
        refine V_iinc hc (j := 1) (v := (i2 + (1 : Int32))) dX4_endOfStep_20 rfl rfl (by decide) rfl ?_
        refine V_goto hc dX4_endOfStep_23 rfl ?_
        exact V_sub [1, 0] rfl (ih _ hf hx0)
set_option maxHeartbeats 4000000 in
set_option maxRecDepth 100000 in
theorem c4_endOfStep (l : Launch) (D : va_G) (y : CyT) (zM uM : Nat) {S : CS} {h : Nat} {p1 : Int32} {r : Int32} (hf : f4_endOfStep S h p1 = some r) : CT l D y yX4_endOfStep cX4_endOfStep 3 (some .int) 2 41 zM uM [.ref h, .int p1] (cZ S) (cU S) (cw y S) (cZ S) (cU S) (cw y S) (some (.int r)) := by
  refine CT.of (by decide) (Nat.le_of_ble_eq_true rfl) (fun E hc hzz hnm => ?_)
  have hc : Cx E "FarEditors$Op" cX4_endOfStep 3 := hc
  have hz := hzz.1
  have hT := hz.2.2.1
  show V E (cZ S) (cU S) (cw y S) 0 [(0, .ref h), (1, .int p1)] []
  unfold f4_endOfStep at hf
  refine V_iload_n hc dX4_endOfStep_0 rfl 1 rfl ?_
  refine V_iconst hc (v := (1 : Int32)) dX4_endOfStep_1 rfl ?_
  refine V_iadd hc dX4_endOfStep_2 ?_
  refine V_istore_n hc dX4_endOfStep_3 rfl (by decide) rfl ?_
  obtain ⟨x1, hv2, hf⟩ := mb hf
  refine V_sub [1, 0] rfl (LX4_endOfStep_4_ok hc h S hz FU _ hv2 ?_)
  refine V_iload_n hc dX4_endOfStep_26 rfl 0 rfl ?_
  obtain rfl := Option.some.inj hf
  exact V_iret hc hzz rfl rfl rfl rfl rfl dX4_endOfStep_27
noncomputable def f4_askPut (S : CS) (h : Nat) (p1 : Int32) (p2 : Int32) (p3 : Int32) : Option (Int32) :=
  if p3 = 0 then (
    some (1 : Int32)
  ) else (
    if p3 = (1 : Int32) then (
      some (p2 - p1)
    ) else (
      (
        if (p2 - p1) ≤ (p3 - (2 : Int32)) then (
          some (-1 : Int32)
        ) else (
          (gr S 4 h 0).bind fun a3 =>
          (ldi S a3 ((p1 + p3) - (2 : Int32))).bind fun v4 =>
          some v4
        )
      ).bind fun v1 =>
      some v1
    )
  )
theorem hdX_X4_askPut : yX4_askPut.cls = "FarEditors$Op" ∧ yX4_askPut.cls ≠ "java/lang/invoke/MethodHandle" ∧ yX4_askPut.cls ≠ "java/lang/invoke/VarHandle" ∧ (parseMethodDescriptor yX4_askPut.desc).map (fun d => d.parameters.length) = some 3 := by decide +kernel
set_option maxHeartbeats 4000000 in
set_option maxRecDepth 100000 in
theorem c4_askPut (l : Launch) (D : va_G) (y : CyT) (zM uM : Nat) {S : CS} {h : Nat} {p1 : Int32} {p2 : Int32} {p3 : Int32} {r : Int32} (hf : f4_askPut S h p1 p2 p3 = some r) : CT l D y yX4_askPut cX4_askPut 4 (some .int) 0 0 zM uM [.ref h, .int p1, .int p2, .int p3] (cZ S) (cU S) (cw y S) (cZ S) (cU S) (cw y S) (some (.int r)) := by
  refine CT.of (by decide) (Nat.le_of_ble_eq_true rfl) (fun E hc hzz hnm => ?_)
  have hc : Cx E "FarEditors$Op" cX4_askPut 4 := hc
  have hz := hzz.1
  have hT := hz.2.2.1
  show V E (cZ S) (cU S) (cw y S) 0 [(0, .ref h), (1, .int p1), (2, .int p2), (3, .int p3)] []
  unfold f4_askPut at hf
  refine V_iload_n hc dX4_askPut_0 rfl 3 rfl ?_
  refine V_if_ne hc dX4_askPut_1 rfl (fun hq1 => ?_) (fun hq1 => ?_)
  · rw [if_neg hq1] at hf
    refine V_iload_n hc dX4_askPut_6 rfl 3 rfl ?_
    refine V_iconst hc (v := (1 : Int32)) dX4_askPut_7 rfl ?_
    refine V_icmp_ne hc dX4_askPut_8 rfl (fun hq8 => ?_) (fun hq8 => ?_)
    · rw [if_neg hq8] at hf
      refine V_iload_n hc dX4_askPut_15 rfl 3 rfl ?_
      refine V_iconst hc (v := (2 : Int32)) dX4_askPut_16 rfl ?_
      refine V_isub hc dX4_askPut_17 ?_
      refine V_iload_n hc dX4_askPut_18 rfl 2 rfl ?_
      refine V_iload_n hc dX4_askPut_19 rfl 1 rfl ?_
      refine V_isub hc dX4_askPut_20 ?_
      obtain ⟨v1, hv2, hf⟩ := mb hf
      have hJ21 : V E (cZ S) (cU S) (cw y S) 38 [] [.int v1] := by
        obtain rfl := Option.some.inj hf
        exact V_iret hc hzz rfl rfl rfl rfl rfl dX4_askPut_38
      refine V_icmp_ge hc dX4_askPut_21 rfl (fun hq21 => ?_) (fun hq21 => ?_)
      · rw [if_pos hq21] at hv2
        refine V_iconst hc (v := (-1 : Int32)) dX4_askPut_37 rfl ?_
        obtain rfl := Option.some.inj hv2
        exact V_sub [] rfl hJ21
      · rw [if_neg hq21] at hv2
        refine V_aload_n hc dX4_askPut_24 rfl 0 rfl ?_
        obtain ⟨a3, ha3, hv2⟩ := mb hv2
        refine C_getr hc rfl iW4 (by decide) 0 (by decide) rfl ha3 w1_101 dX4_askPut_25 ?_
        refine V_iload_n hc dX4_askPut_28 rfl 1 rfl ?_
        refine V_iload_n hc dX4_askPut_29 rfl 3 rfl ?_
        refine V_iadd hc dX4_askPut_30 ?_
        refine V_iconst hc (v := (2 : Int32)) dX4_askPut_31 rfl ?_
        refine V_isub hc dX4_askPut_32 ?_
        obtain ⟨v4, hv4, hv2⟩ := mb hv2
        refine C_iald hc hT hv4 dX4_askPut_33 ?_
        refine V_goto hc dX4_askPut_34 rfl ?_
        obtain rfl := Option.some.inj hv2
        exact V_sub [] rfl hJ21
    · rw [if_pos hq8] at hf
      refine V_iload_n hc dX4_askPut_11 rfl 2 rfl ?_
      refine V_iload_n hc dX4_askPut_12 rfl 1 rfl ?_
      refine V_isub hc dX4_askPut_13 ?_
      obtain rfl := Option.some.inj hf
      exact V_iret hc hzz rfl rfl rfl rfl rfl dX4_askPut_14
  · rw [if_pos hq1] at hf
    refine V_iconst hc (v := (1 : Int32)) dX4_askPut_4 rfl ?_
    obtain rfl := Option.some.inj hf
    exact V_iret hc hzz rfl rfl rfl rfl rfl dX4_askPut_5
noncomputable def f4_ask (S : CS) (h : Nat) (p1 : Int32) (p2 : Int32) : Option (Int32) :=
  (cal S 4 h (f4_findStep S h p1)).bind fun v1 =>
  if v1 = (-1 : Int32) then (
    some (-1 : Int32)
  ) else (
    if 0 ≤ p2 then (
      (gr S 4 h 0).bind fun a2 =>
      (ldi S a2 v1).bind fun v3 =>
      (f4_isPut v3).bind fun v4 =>
      if v4 = 0 then (
        if p2 = 0 then (
          (
            if 0 ≤ v3 then (
              some (0 : Int32)
            ) else (
              some (2 : Int32)
            )
          ).bind fun v7 =>
          some v7
        ) else (
          (
            if p2 ≤ (1 : Int32) then (
              if 0 ≤ v3 then (
                some (v3 - (31 : Int32))
              ) else (
                some (-v3)
              )
            ) else (
              some (-1 : Int32)
            )
          ).bind fun v5 =>
          some v5
        )
      ) else (
        (cal S 4 h (f4_endOfStep S h v1)).bind fun v9 =>
        (cal S 4 h (f4_askPut S h v1 v9 p2)).bind fun v10 =>
        some v10
      )
    ) else (
      some (-1 : Int32)
    )
  )
theorem hdX_X4_ask : yX4_ask.cls = "FarEditors$Op" ∧ yX4_ask.cls ≠ "java/lang/invoke/MethodHandle" ∧ yX4_ask.cls ≠ "java/lang/invoke/VarHandle" ∧ (parseMethodDescriptor yX4_ask.desc).map (fun d => d.parameters.length) = some 2 := by decide +kernel
set_option maxHeartbeats 4000000 in
set_option maxRecDepth 100000 in
theorem c4_ask (l : Launch) (D : va_G) (y : CyT) (zM uM : Nat) {S : CS} {h : Nat} {p1 : Int32} {p2 : Int32} {r : Int32} (hf : f4_ask S h p1 p2 = some r) : CT l D y yX4_ask cX4_ask 5 (some .int) 3 64 zM uM [.ref h, .int p1, .int p2] (cZ S) (cU S) (cw y S) (cZ S) (cU S) (cw y S) (some (.int r)) := by
  refine CT.of (by decide) (Nat.le_of_ble_eq_true rfl) (fun E hc hzz hnm => ?_)
  have hc : Cx E "FarEditors$Op" cX4_ask 5 := hc
  have hz := hzz.1
  have hT := hz.2.2.1
  show V E (cZ S) (cU S) (cw y S) 0 [(0, .ref h), (1, .int p1), (2, .int p2)] []
  unfold f4_ask at hf
  refine V_aload_n hc dX4_ask_0 rfl 0 rfl ?_
  refine V_iload_n hc dX4_ask_1 rfl 1 rfl ?_
  obtain ⟨v1, hv1, hf⟩ := mb hf
  obtain ⟨hkv1, hv1⟩ := og hv1
  refine C_callV hc hz (As := [.int p1]) hkv1 (by decide) (c4_findStep l D y _ _ hv1) w4_219 w4_221 wp3_2 w1_5 w4_222 hdX_X4_findStep ⟨(Nat.le_of_ble_eq_true rfl), (Nat.le_of_ble_eq_true rfl)⟩ rfl rfl rfl (Nat.le_of_ble_eq_true rfl) dX4_ask_2 ?_
  refine V_istore_n hc dX4_ask_5 rfl (by decide) rfl ?_
  refine V_iload_n hc dX4_ask_6 rfl 0 rfl ?_
  refine V_iconst hc (v := (-1 : Int32)) dX4_ask_7 rfl ?_
  refine V_icmp_eq hc dX4_ask_8 rfl (fun hq8 => ?_) (fun hq8 => ?_)
  · rw [if_pos hq8] at hf
    refine V_iconst hc (v := (-1 : Int32)) dX4_ask_15 rfl ?_
    obtain rfl := Option.some.inj hf
    exact V_iret hc hzz rfl rfl rfl rfl rfl dX4_ask_16
  · rw [if_neg hq8] at hf
    refine V_iload_n hc dX4_ask_11 rfl 3 rfl ?_
    refine V_if_ge hc dX4_ask_12 rfl (fun hq12 => ?_) (fun hq12 => ?_)
    · rw [if_pos hq12] at hf
      refine V_aload_n hc dX4_ask_17 rfl 1 rfl ?_
      obtain ⟨a2, ha2, hf⟩ := mb hf
      refine C_getr hc rfl iW4 (by decide) 0 (by decide) rfl ha2 w1_101 dX4_ask_18 ?_
      refine V_iload_n hc dX4_ask_21 rfl 0 rfl ?_
      obtain ⟨v3, hv3, hf⟩ := mb hf
      refine C_iald hc hT hv3 dX4_ask_22 ?_
      refine V_istore hc dX4_ask_23 (by decide) rfl ?_
      refine V_iload hc dX4_ask_25 0 rfl ?_
      obtain ⟨v4, hv4, hf⟩ := mb hf
      refine V_callSX hc hz (As := [.int v3]) (c4_isPut l D y _ _ hv4) w4_107 w4_108 w1_5 w4_109 hdX_X4_isPut.2 ⟨(Nat.le_of_ble_eq_true rfl), (Nat.le_of_ble_eq_true rfl)⟩ rfl rfl (Nat.le_of_ble_eq_true rfl) dX4_ask_27 ?_
      refine V_if_eq hc dX4_ask_30 rfl (fun hq30 => ?_) (fun hq30 => ?_)
      · rw [if_pos hq30] at hf
        refine V_iload_n hc dX4_ask_45 rfl 4 rfl ?_
        refine V_if_ne hc dX4_ask_46 rfl (fun hq46 => ?_) (fun hq46 => ?_)
        · rw [if_neg hq46] at hf
          refine V_iload_n hc dX4_ask_60 rfl 4 rfl ?_
          refine V_iconst hc (v := (1 : Int32)) dX4_ask_61 rfl ?_
          obtain ⟨v5, hv6, hf⟩ := mb hf
          have hJ62 : V E (cZ S) (cU S) (cw y S) 85 [] [.int v5] := by
            obtain rfl := Option.some.inj hf
            exact V_iret hc hzz rfl rfl rfl rfl rfl dX4_ask_85
          refine V_icmp_le hc dX4_ask_62 rfl (fun hq62 => ?_) (fun hq62 => ?_)
          · rw [if_pos hq62] at hv6
            refine V_iload hc dX4_ask_69 0 rfl ?_
            refine V_if_ge hc dX4_ask_71 rfl (fun hq71 => ?_) (fun hq71 => ?_)
            · rw [if_pos hq71] at hv6
              refine V_iload hc dX4_ask_80 0 rfl ?_
              refine V_bipush hc (v := (31 : Int32)) dX4_ask_82 rfl ?_
              refine V_isub hc dX4_ask_84 ?_
              obtain rfl := Option.some.inj hv6
              exact V_sub [] rfl hJ62
            · rw [if_neg hq71] at hv6
              refine V_iload hc dX4_ask_74 0 rfl ?_
              refine V_ineg hc dX4_ask_76 ?_
              refine V_goto hc dX4_ask_77 rfl ?_
              obtain rfl := Option.some.inj hv6
              exact V_sub [] rfl hJ62
          · rw [if_neg hq62] at hv6
            refine V_iconst hc (v := (-1 : Int32)) dX4_ask_65 rfl ?_
            refine V_goto hc dX4_ask_66 rfl ?_
            obtain rfl := Option.some.inj hv6
            exact V_sub [] rfl hJ62
        · rw [if_pos hq46] at hf
          refine V_iload hc dX4_ask_49 0 rfl ?_
          obtain ⟨v7, hv8, hf⟩ := mb hf
          have hJ51 : V E (cZ S) (cU S) (cw y S) 59 [] [.int v7] := by
            obtain rfl := Option.some.inj hf
            exact V_iret hc hzz rfl rfl rfl rfl rfl dX4_ask_59
          refine V_if_ge hc dX4_ask_51 rfl (fun hq51 => ?_) (fun hq51 => ?_)
          · rw [if_pos hq51] at hv8
            refine V_iconst hc (v := (0 : Int32)) dX4_ask_58 rfl ?_
            obtain rfl := Option.some.inj hv8
            exact V_sub [] rfl hJ51
          · rw [if_neg hq51] at hv8
            refine V_iconst hc (v := (2 : Int32)) dX4_ask_54 rfl ?_
            refine V_goto hc dX4_ask_55 rfl ?_
            obtain rfl := Option.some.inj hv8
            exact V_sub [] rfl hJ51
      · rw [if_neg hq30] at hf
        refine V_aload_n hc dX4_ask_33 rfl 2 rfl ?_
        refine V_iload_n hc dX4_ask_34 rfl 1 rfl ?_
        refine V_aload_n hc dX4_ask_35 rfl 2 rfl ?_
        refine V_iload_n hc dX4_ask_36 rfl 1 rfl ?_
        obtain ⟨v9, hv9, hf⟩ := mb hf
        obtain ⟨hkv9, hv9⟩ := og hv9
        refine C_callV hc hz (As := [.int v1]) hkv9 (by decide) (c4_endOfStep l D y _ _ hv9) w4_227 w4_229 wp3_4 w1_5 w4_230 hdX_X4_endOfStep ⟨(Nat.le_of_ble_eq_true rfl), (Nat.le_of_ble_eq_true rfl)⟩ rfl rfl rfl (Nat.le_of_ble_eq_true rfl) dX4_ask_37 ?_
        refine V_iload_n hc dX4_ask_40 rfl 4 rfl ?_
        obtain ⟨v10, hv10, hf⟩ := mb hf
        obtain ⟨hkv10, hv10⟩ := og hv10
        refine C_callV hc hz (As := [.int v1, .int v9, .int p2]) hkv10 (by decide) (c4_askPut l D y _ _ hv10) w4_231 w4_233 wp3_5 w1_5 w4_234 hdX_X4_askPut ⟨(Nat.le_of_ble_eq_true rfl), (Nat.le_of_ble_eq_true rfl)⟩ rfl rfl rfl (Nat.le_of_ble_eq_true rfl) dX4_ask_41 ?_
        obtain rfl := Option.some.inj hf
        exact V_iret hc hzz rfl rfl rfl rfl rfl dX4_ask_44
    · rw [if_neg hq12] at hf
      refine V_iconst hc (v := (-1 : Int32)) dX4_ask_15 rfl ?_
      obtain rfl := Option.some.inj hf
      exact V_iret hc hzz rfl rfl rfl rfl rfl dX4_ask_16
noncomputable def f3_askLatest (S : CS) (h : Nat) (p1 : Int32) (p2 : Int32) : Option (Int32) :=
  (gi S 3 h 1).bind fun v1 =>
  (
    if v1 ≤ 0 then (
      some (-1 : Int32)
    ) else (
      (gr S 3 h 0).bind fun a4 =>
      (gi S 3 h 1).bind fun v5 =>
      (ldr S 17 a4 (v5 - (1 : Int32))).bind fun a6 =>
      (cal S 4 a6 (f4_ask S a6 p1 p2)).bind fun v7 =>
      some v7
    )
  ).bind fun v2 =>
  some v2
theorem hdX_X3_askLatest : yX3_askLatest.cls = "FarEditors$Inverses" ∧ yX3_askLatest.cls ≠ "java/lang/invoke/MethodHandle" ∧ yX3_askLatest.cls ≠ "java/lang/invoke/VarHandle" ∧ (parseMethodDescriptor yX3_askLatest.desc).map (fun d => d.parameters.length) = some 2 := by decide +kernel
set_option maxHeartbeats 4000000 in
set_option maxRecDepth 100000 in
theorem c3_askLatest (l : Launch) (D : va_G) (y : CyT) (zM uM : Nat) {S : CS} {h : Nat} {p1 : Int32} {p2 : Int32} {r : Int32} (hf : f3_askLatest S h p1 p2 = some r) : CT l D y yX3_askLatest cX3_askLatest 3 (some .int) 4 88 zM uM [.ref h, .int p1, .int p2] (cZ S) (cU S) (cw y S) (cZ S) (cU S) (cw y S) (some (.int r)) := by
  refine CT.of (by decide) (Nat.le_of_ble_eq_true rfl) (fun E hc hzz hnm => ?_)
  have hc : Cx E "FarEditors$Inverses" cX3_askLatest 3 := hc
  have hz := hzz.1
  have hT := hz.2.2.1
  show V E (cZ S) (cU S) (cw y S) 0 [(0, .ref h), (1, .int p1), (2, .int p2)] []
  unfold f3_askLatest at hf
  refine V_aload_n hc dX3_askLatest_0 rfl 0 rfl ?_
  obtain ⟨v1, hv1, hf⟩ := mb hf
  refine C_geti hc rfl iW3 (by decide) 1 (by decide) rfl hv1 w1_227 dX3_askLatest_1 ?_
  obtain ⟨v2, hv3, hf⟩ := mb hf
  have hJ4 : V E (cZ S) (cU S) (cw y S) 27 [] [.int v2] := by
    obtain rfl := Option.some.inj hf
    exact V_iret hc hzz rfl rfl rfl rfl rfl dX3_askLatest_27
  refine V_if_le hc dX3_askLatest_4 rfl (fun hq4 => ?_) (fun hq4 => ?_)
  · rw [if_pos hq4] at hv3
    refine V_iconst hc (v := (-1 : Int32)) dX3_askLatest_26 rfl ?_
    obtain rfl := Option.some.inj hv3
    exact V_sub [] rfl hJ4
  · rw [if_neg hq4] at hv3
    refine V_aload_n hc dX3_askLatest_7 rfl 0 rfl ?_
    obtain ⟨a4, ha4, hv3⟩ := mb hv3
    refine C_getr hc rfl iW3 (by decide) 0 (by decide) rfl ha4 w1_223 dX3_askLatest_8 ?_
    refine V_aload_n hc dX3_askLatest_11 rfl 0 rfl ?_
    obtain ⟨v5, hv5, hv3⟩ := mb hv3
    refine C_geti hc rfl iW3 (by decide) 1 (by decide) rfl hv5 w1_227 dX3_askLatest_12 ?_
    refine V_iconst hc (v := (1 : Int32)) dX3_askLatest_15 rfl ?_
    refine V_isub hc dX3_askLatest_16 ?_
    obtain ⟨a6, ha6, hv3⟩ := mb hv3
    refine C_aald hc hT (by decide) (by decide) ha6 dX3_askLatest_17 ?_
    refine V_iload_n hc dX3_askLatest_18 rfl 1 rfl ?_
    refine V_iload_n hc dX3_askLatest_19 rfl 2 rfl ?_
    obtain ⟨v7, hv7, hv3⟩ := mb hv3
    obtain ⟨hkv7, hv7⟩ := og hv7
    refine C_callV hc hz (As := [.int p1, .int p2]) hkv7 (by decide) (c4_ask l D y _ _ hv7) w4_239 w4_216 w4_217 w1_5 w4_218 hdX_X4_ask ⟨(Nat.le_of_ble_eq_true rfl), (Nat.le_of_ble_eq_true rfl)⟩ rfl rfl rfl (Nat.le_of_ble_eq_true rfl) dX3_askLatest_20 ?_
    refine V_goto hc dX3_askLatest_23 rfl ?_
    obtain rfl := Option.some.inj hv3
    exact V_sub [] rfl hJ4
noncomputable def LX4_build_16 (h : Nat) (c1 : Nat) (c3 : Int32) : Nat → Int32 → Int32 → CS → Option (Int32 × CS)
  | 0, _, _, _ => none
  | n + 1, i5, i6, S =>
    if i6 < 0 then (
      some (i5, S)
    ) else (
      if c3 ≤ i6 then (
        some (i5, S)
      ) else (
        (aln S 14 c1).bind fun v1 =>
        if v1 ≤ i6 then (
          some (i5, S)
        ) else (
          (ldi S c1 i6).bind fun v2 =>
          (f4_isPut v2).bind fun v3 =>
          bn2 (
            if v3 = 0 then (
              if 0 ≤ v2 then (
                (cal S 4 h (f4_addKeep S h (v2 - (31 : Int32)))).bind fun S7 =>
                some ((i5 - (v2 - (31 : Int32))), S7)
              ) else (
                (cal S 4 h (f4_addCut S h (-v2))).bind fun S8 =>
                some ((i5 + v2), S8)
              )
            ) else (
              (cal S 4 h (f4_addPut S h v2)).bind fun S9 =>
              some (i5, S9)
            )
          ) fun x4 S5 =>
          LX4_build_16 h c1 c3 n x4 (i6 + (1 : Int32)) S5
        )
      )
    )
noncomputable def f4_build (X : Nat × Nat) (S : CS) (h : Nat) (p1 : Nat) (p2 : Int32) (p3 : Int32) (p4 : Int32) : Option (Int32 × CS) :=
  (cal S 4 h (f4_begin X S h ((p3 - p2) + (1 : Int32)))).bind fun S1 =>
  bn2 (LX4_build_16 h p1 p3 FU p4 p2 S1) fun x2 S3 =>
  (cal S3 4 h (f4_addKeep S3 h x2)).bind fun S5 =>
  (
    if x2 < 0 then (
      some (0 : Int32)
    ) else (
      some (1 : Int32)
    )
  ).bind fun v6 =>
  (bz v6).bind fun v8 =>
  some (v8, S5)
theorem hdX_X4_build : yX4_build.cls = "FarEditors$Op" ∧ yX4_build.cls ≠ "java/lang/invoke/MethodHandle" ∧ yX4_build.cls ≠ "java/lang/invoke/VarHandle" ∧ (parseMethodDescriptor yX4_build.desc).map (fun d => d.parameters.length) = some 4 := by decide +kernel
set_option maxHeartbeats 4000000 in
set_option maxRecDepth 100000 in
theorem LX4_build_16_ok {E : CxT} {l : Launch} {D : va_G} {y : CyT} {zM uM : Nat} (hc : Cx E "FarEditors$Op" cX4_build 8) (h : Nat) (c1 : Nat) (c3 : Int32) (hz : Cy E l D y 2 42 zM uM) : ∀ (n : Nat) (i5 : Int32) (i6 : Int32) (S : CS) {o5 : Int32} {So : CS}, LX4_build_16 h c1 c3 n i5 i6 S = some (o5, So) → (hx0 : V E (cZ So) (cU So) (cw y So) 104 [(0, .ref h), (5, .int o5)] []) → V E (cZ S) (cU S) (cw y S) 16 [(0, .ref h), (1, .ref c1), (3, .int c3), (5, .int i5), (6, .int i6)] [] := by
  have hT := hz.2.2.1
  intro n
  induction n with
  | zero => intro i5 i6 S o5 So hf; cases hf
  | succ n ih =>
    intro i5 i6 S o5 So hf hx0
    unfold LX4_build_16 at hf
    refine V_iload hc dX4_build_16 4 rfl ?_
    refine V_if_lt hc dX4_build_18 rfl (fun hq18 => ?_) (fun hq18 => ?_)
    · rw [if_pos hq18] at hf
      obtain ⟨rfl, rfl⟩ := si2 hf
      exact V_sub [0, 3] rfl hx0
    · rw [if_neg hq18] at hf
      refine V_iload hc dX4_build_21 4 rfl ?_
      refine V_iload_n hc dX4_build_23 rfl 2 rfl ?_
      refine V_icmp_ge hc dX4_build_24 rfl (fun hq24 => ?_) (fun hq24 => ?_)
      · rw [if_pos hq24] at hf
        obtain ⟨rfl, rfl⟩ := si2 hf
        exact V_sub [0, 3] rfl hx0
      · rw [if_neg hq24] at hf
        refine V_iload hc dX4_build_27 4 rfl ?_
        refine V_aload_n hc dX4_build_29 rfl 1 rfl ?_
        obtain ⟨v1, hv1, hf⟩ := mb hf
        refine C_alen hc hT hv1 dX4_build_30 ?_
        refine V_icmp_ge hc dX4_build_31 rfl (fun hq31 => ?_) (fun hq31 => ?_)
        · rw [if_pos hq31] at hf
          obtain ⟨rfl, rfl⟩ := si2 hf
          exact V_sub [0, 3] rfl hx0
        · rw [if_neg hq31] at hf
          refine V_aload_n hc dX4_build_34 rfl 1 rfl ?_
          refine V_iload hc dX4_build_35 4 rfl ?_
          obtain ⟨v2, hv2, hf⟩ := mb hf
          refine C_iald hc hT hv2 dX4_build_37 ?_
          refine V_istore hc dX4_build_38 (by decide) rfl ?_
          refine V_iload hc dX4_build_40 0 rfl ?_
          obtain ⟨v3, hv3, hf⟩ := mb hf
          refine V_callSX hc hz (As := [.int v2]) (c4_isPut l D y _ _ hv3) w4_107 w4_108 w1_5 w4_109 hdX_X4_isPut.2 ⟨(Nat.le_of_ble_eq_true rfl), (Nat.le_of_ble_eq_true rfl)⟩ rfl rfl (Nat.le_of_ble_eq_true rfl) dX4_build_42 ?_
          obtain ⟨x4, S5, hv6, hf⟩ := mb2 hf
          have hJ45 : V E (cZ S5) (cU S5) (cw y S5) 98 [(0, .ref h), (1, .ref c1), (3, .int c3), (5, .int x4), (6, .int i6)] [] := by
            refine V_iinc hc (j := 4) (v := (i6 + (1 : Int32))) dX4_build_98 rfl rfl (by decide) rfl ?_
            refine V_goto hc dX4_build_101 rfl ?_
            exact V_sub [1, 2, 3, 4, 0] rfl (ih _ _ _ hf hx0)
          refine V_if_eq hc dX4_build_45 rfl (fun hq45 => ?_) (fun hq45 => ?_)
          · rw [if_pos hq45] at hv6
            refine V_iload hc dX4_build_57 0 rfl ?_
            refine V_if_ge hc dX4_build_59 rfl (fun hq59 => ?_) (fun hq59 => ?_)
            · rw [if_pos hq59] at hv6
              refine V_aload_n hc dX4_build_79 rfl 1 rfl ?_
              refine V_iload hc dX4_build_80 0 rfl ?_
              refine V_bipush hc (v := (31 : Int32)) dX4_build_82 rfl ?_
              refine V_isub hc dX4_build_84 ?_
              obtain ⟨S7, hS7, hv6⟩ := mb hv6
              obtain ⟨hkS7, hS7⟩ := og hS7
              refine C_callV hc hz (As := [.int (v2 - (31 : Int32))]) hkS7 (by decide) (c4_addKeep l D y _ _ hS7) w4_129 w4_44 w4_45 w1_5 w4_46 hdX_X4_addKeep ⟨(Nat.le_of_ble_eq_true rfl), (Nat.le_of_ble_eq_true rfl)⟩ rfl rfl rfl (Nat.le_of_ble_eq_true rfl) dX4_build_85 ?_
              refine V_iload hc dX4_build_88 4 rfl ?_
              refine V_iload hc dX4_build_90 0 rfl ?_
              refine V_bipush hc (v := (31 : Int32)) dX4_build_92 rfl ?_
              refine V_isub hc dX4_build_94 ?_
              refine V_isub hc dX4_build_95 ?_
              refine V_istore hc dX4_build_96 (by decide) rfl ?_
              obtain ⟨rfl, rfl⟩ := si2 hv6
              exact V_sub [2, 3, 4, 0, 5] rfl hJ45
            · rw [if_neg hq59] at hv6
              refine V_aload_n hc dX4_build_62 rfl 1 rfl ?_
              refine V_iload hc dX4_build_63 0 rfl ?_
              refine V_ineg hc dX4_build_65 ?_
              obtain ⟨S8, hS8, hv6⟩ := mb hv6
              obtain ⟨hkS8, hS8⟩ := og hS8
              refine C_callV hc hz (As := [.int (-v2)]) hkS8 (by decide) (c4_addCut l D y _ _ hS8) w4_128 w4_58 w4_59 w1_5 w4_60 hdX_X4_addCut ⟨(Nat.le_of_ble_eq_true rfl), (Nat.le_of_ble_eq_true rfl)⟩ rfl rfl rfl (Nat.le_of_ble_eq_true rfl) dX4_build_66 ?_
              refine V_iload hc dX4_build_69 4 rfl ?_
              refine V_iload hc dX4_build_71 0 rfl ?_
              refine V_iadd hc dX4_build_73 ?_
              refine V_istore hc dX4_build_74 (by decide) rfl ?_
              refine V_goto hc dX4_build_76 rfl ?_
              obtain ⟨rfl, rfl⟩ := si2 hv6
              exact V_sub [2, 3, 4, 0, 5] rfl hJ45
          · rw [if_neg hq45] at hv6
            refine V_aload_n hc dX4_build_48 rfl 1 rfl ?_
            refine V_iload hc dX4_build_49 0 rfl ?_
            obtain ⟨S9, hS9, hv6⟩ := mb hv6
            obtain ⟨hkS9, hS9⟩ := og hS9
            refine C_callV hc hz (As := [.int v2]) hkS9 (by decide) (c4_addPut l D y _ _ hS9) w4_127 w4_40 w4_41 w1_5 w4_42 hdX_X4_addPut ⟨(Nat.le_of_ble_eq_true rfl), (Nat.le_of_ble_eq_true rfl)⟩ rfl rfl rfl (Nat.le_of_ble_eq_true rfl) dX4_build_51 ?_
            refine V_goto hc dX4_build_54 rfl ?_
            obtain ⟨rfl, rfl⟩ := si2 hv6
            exact V_sub [1, 2, 3, 4, 5] rfl hJ45
set_option maxHeartbeats 4000000 in
set_option maxRecDepth 100000 in
theorem c4_build (l : Launch) (D : va_G) (y : CyT) (X : Nat × Nat) (hX : X.2 ≤ 100000000) {S S' : CS} {h : Nat} {p1 : Nat} {p2 : Int32} {p3 : Int32} {p4 : Int32} {r : Int32} (hf : f4_build X S h p1 p2 p3 p4 = some (r, S')) : CT l D y yX4_build cX4_build 8 (some .boolean) 2 42 X.1 X.2 [.ref h, .ref p1, .int p2, .int p3, .int p4] (cZ S) (cU S) (cw y S) (cZ S') (cU S') (cw y S') (some (.int r)) := by
  refine CT.of (by decide) (Nat.le_of_ble_eq_true rfl) (fun E hc hzz hnm => ?_)
  have hc : Cx E "FarEditors$Op" cX4_build 8 := hc
  have hz := hzz.1
  have hT := hz.2.2.1
  show V E (cZ S) (cU S) (cw y S) 0 [(0, .ref h), (1, .ref p1), (2, .int p2), (3, .int p3), (4, .int p4)] []
  unfold f4_build at hf
  refine V_aload_n hc dX4_build_0 rfl 0 rfl ?_
  refine V_iload_n hc dX4_build_1 rfl 3 rfl ?_
  refine V_iload_n hc dX4_build_2 rfl 2 rfl ?_
  refine V_isub hc dX4_build_3 ?_
  refine V_iconst hc (v := (1 : Int32)) dX4_build_4 rfl ?_
  refine V_iadd hc dX4_build_5 ?_
  obtain ⟨S1, hS1, hf⟩ := mb hf
  obtain ⟨hkS1, hS1⟩ := og hS1
  refine C_callV hc hz (As := [.int ((p3 - p2) + (1 : Int32))]) hkS1 (by decide) (c4_begin l D y X hX hS1) w4_126 w4_21 w4_22 w1_5 w4_23 hdX_X4_begin ⟨(Nat.le_of_ble_eq_true rfl), (Nat.le_of_ble_eq_true rfl)⟩ rfl rfl rfl (Nat.le_of_ble_eq_true rfl) dX4_build_6 ?_
  refine V_iload hc dX4_build_9 4 rfl ?_
  refine V_istore hc dX4_build_11 (by decide) rfl ?_
  refine V_iload_n hc dX4_build_13 rfl 3 rfl ?_
  refine V_istore hc dX4_build_14 (by decide) rfl ?_
  obtain ⟨x2, S3, hv4, hf⟩ := mb2 hf
  refine V_sub [2, 3, 5, 1, 0] rfl (LX4_build_16_ok hc h p1 p3 hz FU _ _ _ hv4 ?_)
  refine V_aload_n hc dX4_build_104 rfl 0 rfl ?_
  refine V_iload hc dX4_build_105 1 rfl ?_
  obtain ⟨S5, hS5, hf⟩ := mb hf
  obtain ⟨hkS5, hS5⟩ := og hS5
  refine C_callV hc hz (As := [.int x2]) hkS5 (by decide) (c4_addKeep l D y _ _ hS5) w4_129 w4_44 w4_45 w1_5 w4_46 hdX_X4_addKeep ⟨(Nat.le_of_ble_eq_true rfl), (Nat.le_of_ble_eq_true rfl)⟩ rfl rfl rfl (Nat.le_of_ble_eq_true rfl) dX4_build_107 ?_
  refine V_iload hc dX4_build_110 1 rfl ?_
  obtain ⟨v6, hv7, hf⟩ := mb hf
  have hJ112 : V E (cZ S5) (cU S5) (cw y S5) 120 [] [.int v6] := by
    obtain ⟨v8, hv8, hf⟩ := mb hf
    obtain ⟨hbv8, rfl⟩ := bz_some hv8
    obtain ⟨rfl, rfl⟩ := si2 hf
    exact V_iret hc hzz (bz_nar hbv8) rfl rfl rfl rfl dX4_build_120
  refine V_if_lt hc dX4_build_112 rfl (fun hq112 => ?_) (fun hq112 => ?_)
  · rw [if_pos hq112] at hv7
    refine V_iconst hc (v := (0 : Int32)) dX4_build_119 rfl ?_
    obtain rfl := Option.some.inj hv7
    exact V_sub [] rfl hJ112
  · rw [if_neg hq112] at hv7
    refine V_iconst hc (v := (1 : Int32)) dX4_build_115 rfl ?_
    refine V_goto hc dX4_build_116 rfl ?_
    obtain rfl := Option.some.inj hv7
    exact V_sub [] rfl hJ112
noncomputable def f4_buildPut (X : Nat × Nat) (S : CS) (h : Nat) (p1 : Int32) (p2 : Int32) (p3 : Int32) : Option (CS) :=
  (cal S 4 h (f4_begin X S h (3 : Int32))).bind fun S1 =>
  (cal S1 4 h (f4_addKeep S1 h p1)).bind fun S2 =>
  (cal S2 4 h (f4_addPut S2 h p2)).bind fun S3 =>
  (cal S3 4 h (f4_addKeep S3 h (p3 - p1))).bind fun S4 =>
  some S4
theorem hdX_X4_buildPut : yX4_buildPut.cls = "FarEditors$Op" ∧ yX4_buildPut.cls ≠ "java/lang/invoke/MethodHandle" ∧ yX4_buildPut.cls ≠ "java/lang/invoke/VarHandle" ∧ (parseMethodDescriptor yX4_buildPut.desc).map (fun d => d.parameters.length) = some 3 := by decide +kernel
set_option maxHeartbeats 4000000 in
set_option maxRecDepth 100000 in
theorem c4_buildPut (l : Launch) (D : va_G) (y : CyT) (X : Nat × Nat) (hX : X.2 ≤ 100000000) {S S' : CS} {h : Nat} {p1 : Int32} {p2 : Int32} {p3 : Int32} (hf : f4_buildPut X S h p1 p2 p3 = some S') : CT l D y yX4_buildPut cX4_buildPut 4 none 2 42 X.1 X.2 [.ref h, .int p1, .int p2, .int p3] (cZ S) (cU S) (cw y S) (cZ S') (cU S') (cw y S') none := by
  refine CT.of (by decide) (Nat.le_of_ble_eq_true rfl) (fun E hc hzz hnm => ?_)
  have hc : Cx E "FarEditors$Op" cX4_buildPut 4 := hc
  have hz := hzz.1
  have hT := hz.2.2.1
  show V E (cZ S) (cU S) (cw y S) 0 [(0, .ref h), (1, .int p1), (2, .int p2), (3, .int p3)] []
  unfold f4_buildPut at hf
  refine V_aload_n hc dX4_buildPut_0 rfl 0 rfl ?_
  refine V_iconst hc (v := (3 : Int32)) dX4_buildPut_1 rfl ?_
  obtain ⟨S1, hS1, hf⟩ := mb hf
  obtain ⟨hkS1, hS1⟩ := og hS1
  refine C_callV hc hz (As := [.int (3 : Int32)]) hkS1 (by decide) (c4_begin l D y X hX hS1) w4_126 w4_21 w4_22 w1_5 w4_23 hdX_X4_begin ⟨(Nat.le_of_ble_eq_true rfl), (Nat.le_of_ble_eq_true rfl)⟩ rfl rfl rfl (Nat.le_of_ble_eq_true rfl) dX4_buildPut_2 ?_
  refine V_aload_n hc dX4_buildPut_5 rfl 0 rfl ?_
  refine V_iload_n hc dX4_buildPut_6 rfl 1 rfl ?_
  obtain ⟨S2, hS2, hf⟩ := mb hf
  obtain ⟨hkS2, hS2⟩ := og hS2
  refine C_callV hc hz (As := [.int p1]) hkS2 (by decide) (c4_addKeep l D y _ _ hS2) w4_129 w4_44 w4_45 w1_5 w4_46 hdX_X4_addKeep ⟨(Nat.le_of_ble_eq_true rfl), (Nat.le_of_ble_eq_true rfl)⟩ rfl rfl rfl (Nat.le_of_ble_eq_true rfl) dX4_buildPut_7 ?_
  refine V_aload_n hc dX4_buildPut_10 rfl 0 rfl ?_
  refine V_iload_n hc dX4_buildPut_11 rfl 2 rfl ?_
  obtain ⟨S3, hS3, hf⟩ := mb hf
  obtain ⟨hkS3, hS3⟩ := og hS3
  refine C_callV hc hz (As := [.int p2]) hkS3 (by decide) (c4_addPut l D y _ _ hS3) w4_127 w4_40 w4_41 w1_5 w4_42 hdX_X4_addPut ⟨(Nat.le_of_ble_eq_true rfl), (Nat.le_of_ble_eq_true rfl)⟩ rfl rfl rfl (Nat.le_of_ble_eq_true rfl) dX4_buildPut_12 ?_
  refine V_aload_n hc dX4_buildPut_15 rfl 0 rfl ?_
  refine V_iload_n hc dX4_buildPut_16 rfl 3 rfl ?_
  refine V_iload_n hc dX4_buildPut_17 rfl 1 rfl ?_
  refine V_isub hc dX4_buildPut_18 ?_
  obtain ⟨S4, hS4, hf⟩ := mb hf
  obtain ⟨hkS4, hS4⟩ := og hS4
  refine C_callV hc hz (As := [.int (p3 - p1)]) hkS4 (by decide) (c4_addKeep l D y _ _ hS4) w4_129 w4_44 w4_45 w1_5 w4_46 hdX_X4_addKeep ⟨(Nat.le_of_ble_eq_true rfl), (Nat.le_of_ble_eq_true rfl)⟩ rfl rfl rfl (Nat.le_of_ble_eq_true rfl) dX4_buildPut_19 ?_
  obtain rfl := Option.some.inj hf
  exact V_vret hc hzz rfl rfl rfl rfl dX4_buildPut_22
noncomputable def f4_buildCut (X : Nat × Nat) (S : CS) (h : Nat) (p1 : Int32) (p2 : Int32) (p3 : Int32) : Option (CS) :=
  (cal S 4 h (f4_begin X S h (3 : Int32))).bind fun S1 =>
  (cal S1 4 h (f4_addKeep S1 h p1)).bind fun S2 =>
  (cal S2 4 h (f4_addCut S2 h p2)).bind fun S3 =>
  (cal S3 4 h (f4_addKeep S3 h ((p3 - p1) - p2))).bind fun S4 =>
  some S4
theorem hdX_X4_buildCut : yX4_buildCut.cls = "FarEditors$Op" ∧ yX4_buildCut.cls ≠ "java/lang/invoke/MethodHandle" ∧ yX4_buildCut.cls ≠ "java/lang/invoke/VarHandle" ∧ (parseMethodDescriptor yX4_buildCut.desc).map (fun d => d.parameters.length) = some 3 := by decide +kernel
set_option maxHeartbeats 4000000 in
set_option maxRecDepth 100000 in
theorem c4_buildCut (l : Launch) (D : va_G) (y : CyT) (X : Nat × Nat) (hX : X.2 ≤ 100000000) {S S' : CS} {h : Nat} {p1 : Int32} {p2 : Int32} {p3 : Int32} (hf : f4_buildCut X S h p1 p2 p3 = some S') : CT l D y yX4_buildCut cX4_buildCut 4 none 2 42 X.1 X.2 [.ref h, .int p1, .int p2, .int p3] (cZ S) (cU S) (cw y S) (cZ S') (cU S') (cw y S') none := by
  refine CT.of (by decide) (Nat.le_of_ble_eq_true rfl) (fun E hc hzz hnm => ?_)
  have hc : Cx E "FarEditors$Op" cX4_buildCut 4 := hc
  have hz := hzz.1
  have hT := hz.2.2.1
  show V E (cZ S) (cU S) (cw y S) 0 [(0, .ref h), (1, .int p1), (2, .int p2), (3, .int p3)] []
  unfold f4_buildCut at hf
  refine V_aload_n hc dX4_buildCut_0 rfl 0 rfl ?_
  refine V_iconst hc (v := (3 : Int32)) dX4_buildCut_1 rfl ?_
  obtain ⟨S1, hS1, hf⟩ := mb hf
  obtain ⟨hkS1, hS1⟩ := og hS1
  refine C_callV hc hz (As := [.int (3 : Int32)]) hkS1 (by decide) (c4_begin l D y X hX hS1) w4_126 w4_21 w4_22 w1_5 w4_23 hdX_X4_begin ⟨(Nat.le_of_ble_eq_true rfl), (Nat.le_of_ble_eq_true rfl)⟩ rfl rfl rfl (Nat.le_of_ble_eq_true rfl) dX4_buildCut_2 ?_
  refine V_aload_n hc dX4_buildCut_5 rfl 0 rfl ?_
  refine V_iload_n hc dX4_buildCut_6 rfl 1 rfl ?_
  obtain ⟨S2, hS2, hf⟩ := mb hf
  obtain ⟨hkS2, hS2⟩ := og hS2
  refine C_callV hc hz (As := [.int p1]) hkS2 (by decide) (c4_addKeep l D y _ _ hS2) w4_129 w4_44 w4_45 w1_5 w4_46 hdX_X4_addKeep ⟨(Nat.le_of_ble_eq_true rfl), (Nat.le_of_ble_eq_true rfl)⟩ rfl rfl rfl (Nat.le_of_ble_eq_true rfl) dX4_buildCut_7 ?_
  refine V_aload_n hc dX4_buildCut_10 rfl 0 rfl ?_
  refine V_iload_n hc dX4_buildCut_11 rfl 2 rfl ?_
  obtain ⟨S3, hS3, hf⟩ := mb hf
  obtain ⟨hkS3, hS3⟩ := og hS3
  refine C_callV hc hz (As := [.int p2]) hkS3 (by decide) (c4_addCut l D y _ _ hS3) w4_128 w4_58 w4_59 w1_5 w4_60 hdX_X4_addCut ⟨(Nat.le_of_ble_eq_true rfl), (Nat.le_of_ble_eq_true rfl)⟩ rfl rfl rfl (Nat.le_of_ble_eq_true rfl) dX4_buildCut_12 ?_
  refine V_aload_n hc dX4_buildCut_15 rfl 0 rfl ?_
  refine V_iload_n hc dX4_buildCut_16 rfl 3 rfl ?_
  refine V_iload_n hc dX4_buildCut_17 rfl 1 rfl ?_
  refine V_isub hc dX4_buildCut_18 ?_
  refine V_iload_n hc dX4_buildCut_19 rfl 2 rfl ?_
  refine V_isub hc dX4_buildCut_20 ?_
  obtain ⟨S4, hS4, hf⟩ := mb hf
  obtain ⟨hkS4, hS4⟩ := og hS4
  refine C_callV hc hz (As := [.int ((p3 - p1) - p2)]) hkS4 (by decide) (c4_addKeep l D y _ _ hS4) w4_129 w4_44 w4_45 w1_5 w4_46 hdX_X4_addKeep ⟨(Nat.le_of_ble_eq_true rfl), (Nat.le_of_ble_eq_true rfl)⟩ rfl rfl rfl (Nat.le_of_ble_eq_true rfl) dX4_buildCut_21 ?_
  obtain rfl := Option.some.inj hf
  exact V_vret hc hzz rfl rfl rfl rfl dX4_buildCut_24
noncomputable def LX4_countPut_4 (h : Nat) (S : CS) : Nat → Int32 → Int32 → Option (Int32)
  | 0, _, _ => none
  | n + 1, i1, i2 =>
    (gi S 4 h 1).bind fun v1 =>
    if v1 ≤ i2 then (
      some i1
    ) else (
      (gr S 4 h 0).bind fun a2 =>
      (ldi S a2 i2).bind fun v3 =>
      (f4_isPut v3).bind fun v4 =>
      (
        if v4 = 0 then (
          some (0 : Int32)
        ) else (
          some (1 : Int32)
        )
      ).bind fun v5 =>
      LX4_countPut_4 h S n (i1 + v5) (i2 + (1 : Int32))
    )
noncomputable def f4_countPut (S : CS) (h : Nat) : Option (Int32) :=
  (LX4_countPut_4 h S FU (0 : Int32) (0 : Int32)).bind fun x1 =>
  some x1
theorem hdX_X4_countPut : yX4_countPut.cls = "FarEditors$Op" ∧ yX4_countPut.cls ≠ "java/lang/invoke/MethodHandle" ∧ yX4_countPut.cls ≠ "java/lang/invoke/VarHandle" ∧ (parseMethodDescriptor yX4_countPut.desc).map (fun d => d.parameters.length) = some 0 := by decide +kernel
set_option maxHeartbeats 4000000 in
set_option maxRecDepth 100000 in
theorem LX4_countPut_4_ok {E : CxT} {l : Launch} {D : va_G} {y : CyT} {zM uM : Nat} (hc : Cx E "FarEditors$Op" cX4_countPut 3) (h : Nat) (S : CS) (hz : Cy E l D y 1 20 zM uM) : ∀ (n : Nat) (i1 : Int32) (i2 : Int32) {o1 : Int32}, LX4_countPut_4 h S n i1 i2 = some o1 → (hx0 : V E (cZ S) (cU S) (cw y S) 38 [(1, .int o1)] []) → V E (cZ S) (cU S) (cw y S) 4 [(0, .ref h), (1, .int i1), (2, .int i2)] [] := by
  have hT := hz.2.2.1
  intro n
  induction n with
  | zero => intro i1 i2 o1 hf; cases hf
  | succ n ih =>
    intro i1 i2 o1 hf hx0
    unfold LX4_countPut_4 at hf
    refine V_iload_n hc dX4_countPut_4 rfl 2 rfl ?_
    refine V_aload_n hc dX4_countPut_5 rfl 0 rfl ?_
    obtain ⟨v1, hv1, hf⟩ := mb hf
    refine C_geti hc rfl iW4 (by decide) 1 (by decide) rfl hv1 w1_105 dX4_countPut_6 ?_
    refine V_icmp_ge hc dX4_countPut_9 rfl (fun hq9 => ?_) (fun hq9 => ?_)
    · rw [if_pos hq9] at hf
      obtain rfl := Option.some.inj hf
      exact V_sub [1] rfl hx0
    · rw [if_neg hq9] at hf
      refine V_iload_n hc dX4_countPut_12 rfl 1 rfl ?_
      refine V_aload_n hc dX4_countPut_13 rfl 0 rfl ?_
      obtain ⟨a2, ha2, hf⟩ := mb hf
      refine C_getr hc rfl iW4 (by decide) 0 (by decide) rfl ha2 w1_101 dX4_countPut_14 ?_
      refine V_iload_n hc dX4_countPut_17 rfl 2 rfl ?_
      obtain ⟨v3, hv3, hf⟩ := mb hf
      refine C_iald hc hT hv3 dX4_countPut_18 ?_
      obtain ⟨v4, hv4, hf⟩ := mb hf
      refine V_callSX hc hz (As := [.int v3]) (c4_isPut l D y _ _ hv4) w4_107 w4_108 w1_5 w4_109 hdX_X4_isPut.2 ⟨(Nat.le_of_ble_eq_true rfl), (Nat.le_of_ble_eq_true rfl)⟩ rfl rfl (Nat.le_of_ble_eq_true rfl) dX4_countPut_19 ?_
      obtain ⟨v5, hv6, hf⟩ := mb hf
      have hJ22 : V E (cZ S) (cU S) (cw y S) 30 [(0, .ref h), (2, .int i2)] [.int v5, .int i1] := by
        refine V_iadd hc dX4_countPut_30 ?_
        refine V_istore_n hc dX4_countPut_31 rfl (by decide) rfl ?_
        refine V_iinc hc (j := 2) (v := (i2 + (1 : Int32))) dX4_countPut_32 rfl rfl (by decide) rfl ?_
        refine V_goto hc dX4_countPut_35 rfl ?_
        exact V_sub [2, 1, 0] rfl (ih _ _ hf hx0)
      refine V_if_eq hc dX4_countPut_22 rfl (fun hq22 => ?_) (fun hq22 => ?_)
      · rw [if_pos hq22] at hv6
        refine V_iconst hc (v := (0 : Int32)) dX4_countPut_29 rfl ?_
        obtain rfl := Option.some.inj hv6
        exact V_sub [0, 2] rfl hJ22
      · rw [if_neg hq22] at hv6
        refine V_iconst hc (v := (1 : Int32)) dX4_countPut_25 rfl ?_
        refine V_goto hc dX4_countPut_26 rfl ?_
        obtain rfl := Option.some.inj hv6
        exact V_sub [0, 2] rfl hJ22
set_option maxHeartbeats 4000000 in
set_option maxRecDepth 100000 in
theorem c4_countPut (l : Launch) (D : va_G) (y : CyT) (zM uM : Nat) {S : CS} {h : Nat} {r : Int32} (hf : f4_countPut S h = some r) : CT l D y yX4_countPut cX4_countPut 3 (some .int) 1 20 zM uM [.ref h] (cZ S) (cU S) (cw y S) (cZ S) (cU S) (cw y S) (some (.int r)) := by
  refine CT.of (by decide) (Nat.le_of_ble_eq_true rfl) (fun E hc hzz hnm => ?_)
  have hc : Cx E "FarEditors$Op" cX4_countPut 3 := hc
  have hz := hzz.1
  have hT := hz.2.2.1
  show V E (cZ S) (cU S) (cw y S) 0 [(0, .ref h)] []
  unfold f4_countPut at hf
  refine V_iconst hc (v := (0 : Int32)) dX4_countPut_0 rfl ?_
  refine V_istore_n hc dX4_countPut_1 rfl (by decide) rfl ?_
  refine V_iconst hc (v := (0 : Int32)) dX4_countPut_2 rfl ?_
  refine V_istore_n hc dX4_countPut_3 rfl (by decide) rfl ?_
  obtain ⟨x1, hv2, hf⟩ := mb hf
  refine V_sub [2, 1, 0] rfl (LX4_countPut_4_ok hc h S hz FU _ _ hv2 ?_)
  refine V_iload_n hc dX4_countPut_38 rfl 0 rfl ?_
  obtain rfl := Option.some.inj hf
  exact V_iret hc hzz rfl rfl rfl rfl rfl dX4_countPut_39
noncomputable def LX4_countSteps_4 (h : Nat) (S : CS) : Nat → Int32 → Int32 → Option (Int32)
  | 0, _, _ => none
  | n + 1, i1, i2 =>
    (gi S 4 h 1).bind fun v1 =>
    if v1 ≤ i2 then (
      some i1
    ) else (
      (cal S 4 h (f4_beginsStep S h i2)).bind fun v2 =>
      (
        if v2 = 0 then (
          some (0 : Int32)
        ) else (
          some (1 : Int32)
        )
      ).bind fun v3 =>
      LX4_countSteps_4 h S n (i1 + v3) (i2 + (1 : Int32))
    )
noncomputable def f4_countSteps (S : CS) (h : Nat) : Option (Int32) :=
  (LX4_countSteps_4 h S FU (0 : Int32) (0 : Int32)).bind fun x1 =>
  some x1
theorem hdX_X4_countSteps : yX4_countSteps.cls = "FarEditors$Op" ∧ yX4_countSteps.cls ≠ "java/lang/invoke/MethodHandle" ∧ yX4_countSteps.cls ≠ "java/lang/invoke/VarHandle" ∧ (parseMethodDescriptor yX4_countSteps.desc).map (fun d => d.parameters.length) = some 0 := by decide +kernel
set_option maxHeartbeats 4000000 in
set_option maxRecDepth 100000 in
theorem LX4_countSteps_4_ok {E : CxT} {l : Launch} {D : va_G} {y : CyT} {zM uM : Nat} (hc : Cx E "FarEditors$Op" cX4_countSteps 3) (h : Nat) (S : CS) (hz : Cy E l D y 2 41 zM uM) : ∀ (n : Nat) (i1 : Int32) (i2 : Int32) {o1 : Int32}, LX4_countSteps_4 h S n i1 i2 = some o1 → (hx0 : V E (cZ S) (cU S) (cw y S) 34 [(1, .int o1)] []) → V E (cZ S) (cU S) (cw y S) 4 [(0, .ref h), (1, .int i1), (2, .int i2)] [] := by
  have hT := hz.2.2.1
  intro n
  induction n with
  | zero => intro i1 i2 o1 hf; cases hf
  | succ n ih =>
    intro i1 i2 o1 hf hx0
    unfold LX4_countSteps_4 at hf
    refine V_iload_n hc dX4_countSteps_4 rfl 2 rfl ?_
    refine V_aload_n hc dX4_countSteps_5 rfl 0 rfl ?_
    obtain ⟨v1, hv1, hf⟩ := mb hf
    refine C_geti hc rfl iW4 (by decide) 1 (by decide) rfl hv1 w1_105 dX4_countSteps_6 ?_
    refine V_icmp_ge hc dX4_countSteps_9 rfl (fun hq9 => ?_) (fun hq9 => ?_)
    · rw [if_pos hq9] at hf
      obtain rfl := Option.some.inj hf
      exact V_sub [1] rfl hx0
    · rw [if_neg hq9] at hf
      refine V_iload_n hc dX4_countSteps_12 rfl 1 rfl ?_
      refine V_aload_n hc dX4_countSteps_13 rfl 0 rfl ?_
      refine V_iload_n hc dX4_countSteps_14 rfl 2 rfl ?_
      obtain ⟨v2, hv2, hf⟩ := mb hf
      obtain ⟨hkv2, hv2⟩ := og hv2
      refine C_callV hc hz (As := [.int i2]) hkv2 (by decide) (c4_beginsStep l D y _ _ hv2) w4_223 w4_225 wp3_3 w1_5 w4_226 hdX_X4_beginsStep ⟨(Nat.le_of_ble_eq_true rfl), (Nat.le_of_ble_eq_true rfl)⟩ rfl rfl rfl (Nat.le_of_ble_eq_true rfl) dX4_countSteps_15 ?_
      obtain ⟨v3, hv4, hf⟩ := mb hf
      have hJ18 : V E (cZ S) (cU S) (cw y S) 26 [(0, .ref h), (2, .int i2)] [.int v3, .int i1] := by
        refine V_iadd hc dX4_countSteps_26 ?_
        refine V_istore_n hc dX4_countSteps_27 rfl (by decide) rfl ?_
        refine V_iinc hc (j := 2) (v := (i2 + (1 : Int32))) dX4_countSteps_28 rfl rfl (by decide) rfl ?_
        refine V_goto hc dX4_countSteps_31 rfl ?_
        exact V_sub [2, 1, 0] rfl (ih _ _ hf hx0)
      refine V_if_eq hc dX4_countSteps_18 rfl (fun hq18 => ?_) (fun hq18 => ?_)
      · rw [if_pos hq18] at hv4
        refine V_iconst hc (v := (0 : Int32)) dX4_countSteps_25 rfl ?_
        obtain rfl := Option.some.inj hv4
        exact V_sub [0, 2] rfl hJ18
      · rw [if_neg hq18] at hv4
        refine V_iconst hc (v := (1 : Int32)) dX4_countSteps_21 rfl ?_
        refine V_goto hc dX4_countSteps_22 rfl ?_
        obtain rfl := Option.some.inj hv4
        exact V_sub [0, 2] rfl hJ18
set_option maxHeartbeats 4000000 in
set_option maxRecDepth 100000 in
theorem c4_countSteps (l : Launch) (D : va_G) (y : CyT) (zM uM : Nat) {S : CS} {h : Nat} {r : Int32} (hf : f4_countSteps S h = some r) : CT l D y yX4_countSteps cX4_countSteps 3 (some .int) 2 41 zM uM [.ref h] (cZ S) (cU S) (cw y S) (cZ S) (cU S) (cw y S) (some (.int r)) := by
  refine CT.of (by decide) (Nat.le_of_ble_eq_true rfl) (fun E hc hzz hnm => ?_)
  have hc : Cx E "FarEditors$Op" cX4_countSteps 3 := hc
  have hz := hzz.1
  have hT := hz.2.2.1
  show V E (cZ S) (cU S) (cw y S) 0 [(0, .ref h)] []
  unfold f4_countSteps at hf
  refine V_iconst hc (v := (0 : Int32)) dX4_countSteps_0 rfl ?_
  refine V_istore_n hc dX4_countSteps_1 rfl (by decide) rfl ?_
  refine V_iconst hc (v := (0 : Int32)) dX4_countSteps_2 rfl ?_
  refine V_istore_n hc dX4_countSteps_3 rfl (by decide) rfl ?_
  obtain ⟨x1, hv2, hf⟩ := mb hf
  refine V_sub [2, 1, 0] rfl (LX4_countSteps_4_ok hc h S hz FU _ _ hv2 ?_)
  refine V_iload_n hc dX4_countSteps_34 rfl 0 rfl ?_
  obtain rfl := Option.some.inj hf
  exact V_iret hc hzz rfl rfl rfl rfl rfl dX4_countSteps_35
noncomputable def f5_init (X : Nat × Nat) (S : CS) (h : Nat) : Option (CS) :=
  (nwo X S 4 2).bind fun S1 =>
  (f4_init X S1 (cZ S)).bind fun S2 =>
  (pr S2 5 h 0 (cZ S)).bind fun S3 =>
  (pi S3 5 h 1 (0 : Int32)).bind fun S4 =>
  (pi S4 5 h 2 (0 : Int32)).bind fun S5 =>
  (pi S5 5 h 3 (0 : Int32)).bind fun S6 =>
  some S6
theorem hdX_X5_init : yX5_init.cls = "FarEditors$Reader" ∧ yX5_init.cls ≠ "java/lang/invoke/MethodHandle" ∧ yX5_init.cls ≠ "java/lang/invoke/VarHandle" ∧ (parseMethodDescriptor yX5_init.desc).map (fun d => d.parameters.length) = some 0 := by decide +kernel
set_option maxHeartbeats 4000000 in
set_option maxRecDepth 100000 in
theorem c5_init (l : Launch) (D : va_G) (y : CyT) (X : Nat × Nat) (hX : X.2 ≤ 100000000) {S S' : CS} {h : Nat} (hf : f5_init X S h = some S') : CT l D y yX5_init cX5_init 1 none 2 40 X.1 X.2 [.ref h] (cZ S) (cU S) (cw y S) (cZ S') (cU S') (cw y S') none := by
  refine CT.of (by decide) (Nat.le_of_ble_eq_true rfl) (fun E hc hzz hnm => ?_)
  have hc : Cx E "FarEditors$Reader" cX5_init 1 := hc
  have hnm : (xH E).name = "<init>" := hnm
  have hz := hzz.1
  have hT := hz.2.2.1
  show V E (cZ S) (cU S) (cw y S) 0 [(0, .ref h)] []
  unfold f5_init at hf
  refine V_aload_n hc dX5_init_0 rfl 0 rfl ?_
  refine V_objInit hc hz w1_94 w1_27 w1_28 ⟨(Nat.le_of_ble_eq_true rfl), (Nat.le_of_ble_eq_true rfl)⟩ (Nat.le_of_ble_eq_true rfl) dX5_init_1 ?_
  refine V_aload_n hc dX5_init_4 rfl 0 rfl ?_
  obtain ⟨S1, hS1, hf⟩ := mb hf
  refine C_new hc hz rfl iW4 tyX4 tyX4_ok df4 (by decide) hS1 w1_95 w1_96 w1_5 dX5_init_5 ?_
  refine V_dup hc dX5_init_8 rfl ?_
  obtain ⟨S2, hS2, hf⟩ := mb hf
  refine V_callI hc hz (As := []) (c4_init l D y X hX hS2) w1_97 w1_98 w1_5 w1_99 rfl hdX_X4_init.2 ⟨(Nat.le_of_ble_eq_true rfl), (Nat.le_of_ble_eq_true rfl)⟩ rfl rfl (Nat.le_of_ble_eq_true rfl) dX5_init_9 ?_
  obtain ⟨S3, hS3, hf⟩ := mb hf
  refine C_putr hc rfl iW5 tyX5 tyX5_ok nmX5 (by decide) 0 (by decide) rfl hS3 w1_114 rfl rfl rfl dX5_init_12 ?_
  refine V_aload_n hc dX5_init_15 rfl 0 rfl ?_
  refine V_iconst hc (v := (0 : Int32)) dX5_init_16 rfl ?_
  obtain ⟨S4, hS4, hf⟩ := mb hf
  refine C_puti hc rfl iW5 tyX5 tyX5_ok nmX5 (by decide) 1 (by decide) rfl hS4 w1_115 rfl rfl rfl dX5_init_17 ?_
  refine V_aload_n hc dX5_init_20 rfl 0 rfl ?_
  refine V_iconst hc (v := (0 : Int32)) dX5_init_21 rfl ?_
  obtain ⟨S5, hS5, hf⟩ := mb hf
  refine C_puti hc rfl iW5 tyX5 tyX5_ok nmX5 (by decide) 2 (by decide) rfl hS5 w1_116 rfl rfl rfl dX5_init_22 ?_
  refine V_aload_n hc dX5_init_25 rfl 0 rfl ?_
  refine V_iconst hc (v := (0 : Int32)) dX5_init_26 rfl ?_
  obtain ⟨S6, hS6, hf⟩ := mb hf
  refine C_puti hc rfl iW5 tyX5 tyX5_ok nmX5 (by decide) 3 (by decide) rfl hS6 w1_118 rfl rfl rfl dX5_init_27 ?_
  obtain rfl := Option.some.inj hf
  exact V_vret hc hzz rfl rfl rfl rfl dX5_init_30
noncomputable def LX6_init_34 (X : Nat × Nat) (h : Nat) : Nat → Int32 → CS → Option (CS)
  | 0, _, _ => none
  | n + 1, i1, S =>
    (gr S 6 h 1).bind fun a1 =>
    (aln S 17 a1).bind fun v2 =>
    if v2 ≤ i1 then (
      some S
    ) else (
      (gr S 6 h 1).bind fun a3 =>
      (nwo X S 4 2).bind fun S4 =>
      (f4_init X S4 (cZ S)).bind fun S5 =>
      (str S5 17 4 a3 i1 (cZ S)).bind fun S6 =>
      LX6_init_34 X h n (i1 + (1 : Int32)) S6
    )
noncomputable def f6_init (X : Nat × Nat) (S : CS) (h : Nat) : Option (CS) :=
  (nwo X S 7 2).bind fun S1 =>
  (f7_init X S1 (cZ S)).bind fun S2 =>
  (pr S2 6 h 0 (cZ S)).bind fun S3 =>
  (nwa X S3 17 (100 : Int32)).bind fun S4 =>
  (pr S4 6 h 1 (cZ S3)).bind fun S5 =>
  (nwa X S5 14 (100 : Int32)).bind fun S6 =>
  (pr S6 6 h 2 (cZ S5)).bind fun S7 =>
  (LX6_init_34 X h FU (0 : Int32) S7).bind fun S8 =>
  some S8
theorem hdX_X6_init : yX6_init.cls = "FarEditors$Row" ∧ yX6_init.cls ≠ "java/lang/invoke/MethodHandle" ∧ yX6_init.cls ≠ "java/lang/invoke/VarHandle" ∧ (parseMethodDescriptor yX6_init.desc).map (fun d => d.parameters.length) = some 0 := by decide +kernel
set_option maxHeartbeats 4000000 in
set_option maxRecDepth 100000 in
theorem LX6_init_34_ok {E : CxT} {l : Launch} {D : va_G} {y : CyT}  (hc : Cx E "FarEditors$Row" cX6_init 2) (X : Nat × Nat) (h : Nat) (hz : Cy E l D y 2 40 X.1 X.2) (hX : X.2 ≤ 100000000) : ∀ (n : Nat) (i1 : Int32) (S : CS) {So : CS}, LX6_init_34 X h n i1 S = some So → (hx0 : V E (cZ So) (cU So) (cw y So) 62 [] []) → V E (cZ S) (cU S) (cw y S) 34 [(0, .ref h), (1, .int i1)] [] := by
  have hT := hz.2.2.1
  intro n
  induction n with
  | zero => intro i1 S So hf; cases hf
  | succ n ih =>
    intro i1 S So hf hx0
    unfold LX6_init_34 at hf
    refine V_iload_n hc dX6_init_34 rfl 1 rfl ?_
    refine V_aload_n hc dX6_init_35 rfl 0 rfl ?_
    obtain ⟨a1, ha1, hf⟩ := mb hf
    refine C_getr hc rfl iW6 (by decide) 1 (by decide) rfl ha1 w1_183 dX6_init_36 ?_
    obtain ⟨v2, hv2, hf⟩ := mb hf
    refine C_alenr hc hT (by decide) (by decide) hv2 dX6_init_39 ?_
    refine V_icmp_ge hc dX6_init_40 rfl (fun hq40 => ?_) (fun hq40 => ?_)
    · rw [if_pos hq40] at hf
      obtain rfl := Option.some.inj hf
      exact V_sub [] rfl hx0
    · rw [if_neg hq40] at hf
      refine V_aload_n hc dX6_init_43 rfl 0 rfl ?_
      obtain ⟨a3, ha3, hf⟩ := mb hf
      refine C_getr hc rfl iW6 (by decide) 1 (by decide) rfl ha3 w1_183 dX6_init_44 ?_
      refine V_iload_n hc dX6_init_47 rfl 1 rfl ?_
      obtain ⟨S4, hS4, hf⟩ := mb hf
      refine C_new hc hz rfl iW4 tyX4 tyX4_ok df4 (by decide) hS4 w1_177 w1_96 w1_5 dX6_init_48 ?_
      refine V_dup hc dX6_init_51 rfl ?_
      obtain ⟨S5, hS5, hf⟩ := mb hf
      refine V_callI hc hz (As := []) (c4_init l D y X hX hS5) w1_179 w1_98 w1_5 w1_99 rfl hdX_X4_init.2 ⟨(Nat.le_of_ble_eq_true rfl), (Nat.le_of_ble_eq_true rfl)⟩ rfl rfl (Nat.le_of_ble_eq_true rfl) dX6_init_52 ?_
      obtain ⟨S6, hS6, hf⟩ := mb hf
      refine C_aast hc hT (by decide) (by decide) rfl rfl (by decide) hS6 dX6_init_55 ?_
      refine V_iinc hc (j := 1) (v := (i1 + (1 : Int32))) dX6_init_56 rfl rfl (by decide) rfl ?_
      refine V_goto hc dX6_init_59 rfl ?_
      exact V_sub [1, 0] rfl (ih _ _ hf hx0)
set_option maxHeartbeats 4000000 in
set_option maxRecDepth 100000 in
theorem c6_init (l : Launch) (D : va_G) (y : CyT) (X : Nat × Nat) (hX : X.2 ≤ 100000000) {S S' : CS} {h : Nat} (hf : f6_init X S h = some S') : CT l D y yX6_init cX6_init 2 none 2 40 X.1 X.2 [.ref h] (cZ S) (cU S) (cw y S) (cZ S') (cU S') (cw y S') none := by
  refine CT.of (by decide) (Nat.le_of_ble_eq_true rfl) (fun E hc hzz hnm => ?_)
  have hc : Cx E "FarEditors$Row" cX6_init 2 := hc
  have hnm : (xH E).name = "<init>" := hnm
  have hz := hzz.1
  have hT := hz.2.2.1
  show V E (cZ S) (cU S) (cw y S) 0 [(0, .ref h)] []
  unfold f6_init at hf
  refine V_aload_n hc dX6_init_0 rfl 0 rfl ?_
  refine V_objInit hc hz w1_159 w1_27 w1_28 ⟨(Nat.le_of_ble_eq_true rfl), (Nat.le_of_ble_eq_true rfl)⟩ (Nat.le_of_ble_eq_true rfl) dX6_init_1 ?_
  refine V_aload_n hc dX6_init_4 rfl 0 rfl ?_
  obtain ⟨S1, hS1, hf⟩ := mb hf
  refine C_new hc hz rfl iW7 tyX7 tyX7_ok df7 (by decide) hS1 w1_160 w1_161 w1_7 dX6_init_5 ?_
  refine V_dup hc dX6_init_8 rfl ?_
  obtain ⟨S2, hS2, hf⟩ := mb hf
  refine V_callI hc hz (As := []) (c7_init l D y X hX hS2) w1_162 w1_163 w1_7 w1_164 rfl hdX_X7_init.2 ⟨(Nat.le_of_ble_eq_true rfl), (Nat.le_of_ble_eq_true rfl)⟩ rfl rfl (Nat.le_of_ble_eq_true rfl) dX6_init_9 ?_
  obtain ⟨S3, hS3, hf⟩ := mb hf
  refine C_putrF hc hnm rfl iW6 tyX6 tyX6_ok nmX6 (by decide) 0 (by decide) rfl hS3 w1_180 rfl rfl rfl rfl dX6_init_12 ?_
  refine V_aload_n hc dX6_init_15 rfl 0 rfl ?_
  refine V_bipush hc (v := (100 : Int32)) dX6_init_16 rfl ?_
  obtain ⟨S4, hS4, hf⟩ := mb hf
  refine C_newr hc hz (by decide) (by decide) hS4 hX w1_177 dX6_init_18 ?_
  obtain ⟨S5, hS5, hf⟩ := mb hf
  refine C_putrF hc hnm rfl iW6 tyX6 tyX6_ok nmX6 (by decide) 1 (by decide) rfl hS5 w1_183 rfl rfl rfl rfl dX6_init_21 ?_
  refine V_aload_n hc dX6_init_24 rfl 0 rfl ?_
  refine V_bipush hc (v := (100 : Int32)) dX6_init_25 rfl ?_
  obtain ⟨S6, hS6, hf⟩ := mb hf
  refine C_newi hc hz hS6 hX w1_82 dX6_init_27 ?_
  obtain ⟨S7, hS7, hf⟩ := mb hf
  refine C_putrF hc hnm rfl iW6 tyX6 tyX6_ok nmX6 (by decide) 2 (by decide) rfl hS7 w1_186 rfl rfl rfl rfl dX6_init_29 ?_
  refine V_iconst hc (v := (0 : Int32)) dX6_init_32 rfl ?_
  refine V_istore_n hc dX6_init_33 rfl (by decide) rfl ?_
  obtain ⟨S8, hv9, hf⟩ := mb hf
  refine V_sub [1, 0] rfl (LX6_init_34_ok hc X h hz hX FU _ _ hv9 ?_)
  obtain rfl := Option.some.inj hf
  exact V_vret hc hzz rfl rfl rfl rfl dX6_init_62
