noncomputable def LX10_onTheirWay_4 (h : Nat) (S : CS) : Nat → Int32 → Int32 → Option (Int32)
  | 0, _, _ => none
  | n + 1, i1, i2 =>
    (gi S 10 h 6).bind fun v1 =>
    if v1 ≤ i2 then (
      some i1
    ) else (
      (gi S 10 h 11).bind fun v2 =>
      (gr S 10 h 3).bind fun a3 =>
      (ldr S 16 a3 i2).bind fun a4 =>
      (gi S 1 a4 8).bind fun v5 =>
      (gr S 10 h 3).bind fun a6 =>
      (ldr S 16 a6 i2).bind fun a7 =>
      (gi S 1 a7 11).bind fun v8 =>
      (
        if v8 = (-1 : Int32) then (
          some (0 : Int32)
        ) else (
          some (1 : Int32)
        )
      ).bind fun v9 =>
      LX10_onTheirWay_4 h S n (i1 + ((v2 - v5) + v9)) (i2 + (1 : Int32))
    )
noncomputable def f10_onTheirWay (S : CS) (h : Nat) : Option (Int32) :=
  (LX10_onTheirWay_4 h S FU (0 : Int32) (0 : Int32)).bind fun x1 =>
  some x1
theorem hdX_X10_onTheirWay : yX10_onTheirWay.cls = "FarEditors$World" ∧ yX10_onTheirWay.cls ≠ "java/lang/invoke/MethodHandle" ∧ yX10_onTheirWay.cls ≠ "java/lang/invoke/VarHandle" ∧ (parseMethodDescriptor yX10_onTheirWay.desc).map (fun d => d.parameters.length) = some 0 := by decide +kernel
set_option maxHeartbeats 4000000 in
set_option maxRecDepth 100000 in
theorem LX10_onTheirWay_4_ok {E : CxT} {l : Launch} {D : va_G} {y : CyT} {ret : Option FieldType} {wz : va_W} {rv : Option Value} {zM uM z9 u9 : Nat} (hc : Cx E "FarEditors$World" cX10_onTheirWay 3) (h : Nat) (S : CS) (hz : Cz E l D y 0 0 ret zM uM z9 u9 wz rv) : ∀ (n : Nat) (i1 : Int32) (i2 : Int32) {o1 : Int32}, LX10_onTheirWay_4 h S n i1 i2 = some o1 → (hx0 : V E (cZ S) (cU S) (cw y S) 54 [(1, .int o1)] []) → V E (cZ S) (cU S) (cw y S) 4 [(0, .ref h), (1, .int i1), (2, .int i2)] [] := by
  have hT := hz.2.2.1
  intro n
  induction n with
  | zero => intro i1 i2 o1 hf; cases hf
  | succ n ih =>
    intro i1 i2 o1 hf hx0
    unfold LX10_onTheirWay_4 at hf
    refine V_iload_n hc dX10_onTheirWay_4 rfl 2 rfl ?_
    refine V_aload_n hc dX10_onTheirWay_5 rfl 0 rfl ?_
    obtain ⟨v1, hv1, hf⟩ := mb hf
    refine C_geti hc rfl iW10 (by decide) 6 (by decide) rfl hv1 w2_84 dX10_onTheirWay_6 ?_
    refine V_icmp_ge hc dX10_onTheirWay_9 rfl (fun hq9 => ?_) (fun hq9 => ?_)
    · rw [if_pos hq9] at hf
      obtain rfl := Option.some.inj hf
      exact V_sub [1] rfl hx0
    · rw [if_neg hq9] at hf
      refine V_iload_n hc dX10_onTheirWay_12 rfl 1 rfl ?_
      refine V_aload_n hc dX10_onTheirWay_13 rfl 0 rfl ?_
      obtain ⟨v2, hv2, hf⟩ := mb hf
      refine C_geti hc rfl iW10 (by decide) 11 (by decide) rfl hv2 w2_95 dX10_onTheirWay_14 ?_
      refine V_aload_n hc dX10_onTheirWay_17 rfl 0 rfl ?_
      obtain ⟨a3, ha3, hf⟩ := mb hf
      refine C_getr hc rfl iW10 (by decide) 3 (by decide) rfl ha3 w2_78 dX10_onTheirWay_18 ?_
      refine V_iload_n hc dX10_onTheirWay_21 rfl 2 rfl ?_
      obtain ⟨a4, ha4, hf⟩ := mb hf
      refine C_aald hc hT (by decide) (by decide) ha4 dX10_onTheirWay_22 ?_
      obtain ⟨v5, hv5, hf⟩ := mb hf
      refine C_geti hc rfl iW1 (by decide) 8 (by decide) rfl hv5 w2_20 dX10_onTheirWay_23 ?_
      refine V_isub hc dX10_onTheirWay_26 ?_
      refine V_aload_n hc dX10_onTheirWay_27 rfl 0 rfl ?_
      obtain ⟨a6, ha6, hf⟩ := mb hf
      refine C_getr hc rfl iW10 (by decide) 3 (by decide) rfl ha6 w2_78 dX10_onTheirWay_28 ?_
      refine V_iload_n hc dX10_onTheirWay_31 rfl 2 rfl ?_
      obtain ⟨a7, ha7, hf⟩ := mb hf
      refine C_aald hc hT (by decide) (by decide) ha7 dX10_onTheirWay_32 ?_
      obtain ⟨v8, hv8, hf⟩ := mb hf
      refine C_geti hc rfl iW1 (by decide) 11 (by decide) rfl hv8 w2_29 dX10_onTheirWay_33 ?_
      refine V_iconst hc (v := (-1 : Int32)) dX10_onTheirWay_36 rfl ?_
      obtain ⟨v9, hv10, hf⟩ := mb hf
      have hJ37 : V E (cZ S) (cU S) (cw y S) 45 [(0, .ref h), (2, .int i2)] [.int v9, .int (v2 - v5), .int i1] := by
        refine V_iadd hc dX10_onTheirWay_45 ?_
        refine V_iadd hc dX10_onTheirWay_46 ?_
        refine V_istore_n hc dX10_onTheirWay_47 rfl (by decide) rfl ?_
        refine V_iinc hc (j := 2) (v := (i2 + (1 : Int32))) dX10_onTheirWay_48 rfl rfl (by decide) rfl ?_
        refine V_goto hc dX10_onTheirWay_51 rfl ?_
        exact V_sub [2, 1, 0] rfl (ih _ _ hf hx0)
      refine V_icmp_ne hc dX10_onTheirWay_37 rfl (fun hq37 => ?_) (fun hq37 => ?_)
      · rw [if_neg hq37] at hv10
        refine V_iconst hc (v := (1 : Int32)) dX10_onTheirWay_44 rfl ?_
        obtain rfl := Option.some.inj hv10
        exact V_sub [0, 2] rfl hJ37
      · rw [if_pos hq37] at hv10
        refine V_iconst hc (v := (0 : Int32)) dX10_onTheirWay_40 rfl ?_
        refine V_goto hc dX10_onTheirWay_41 rfl ?_
        obtain rfl := Option.some.inj hv10
        exact V_sub [0, 2] rfl hJ37
set_option maxHeartbeats 4000000 in
set_option maxRecDepth 100000 in
theorem c10_onTheirWay (l : Launch) (D : va_G) (y : CyT) (zM uM : Nat) {S : CS} {h : Nat} {r : Int32} (hf : f10_onTheirWay S h = some r) : CT l D y yX10_onTheirWay cX10_onTheirWay 3 (some .int) 0 0 zM uM [.ref h] (cZ S) (cU S) (cw y S) (cZ S) (cU S) (cw y S) (some (.int r)) := by
  refine CT.of (by decide) (Nat.le_of_ble_eq_true rfl) (fun E hc hz hnm => ?_)
  have hc : Cx E "FarEditors$World" cX10_onTheirWay 3 := hc
  have hT := hz.2.2.1
  show V E (cZ S) (cU S) (cw y S) 0 [(0, .ref h)] []
  unfold f10_onTheirWay at hf
  refine V_iconst hc (v := (0 : Int32)) dX10_onTheirWay_0 rfl ?_
  refine V_istore_n hc dX10_onTheirWay_1 rfl (by decide) rfl ?_
  refine V_iconst hc (v := (0 : Int32)) dX10_onTheirWay_2 rfl ?_
  refine V_istore_n hc dX10_onTheirWay_3 rfl (by decide) rfl ?_
  obtain ⟨x1, hv2, hf⟩ := mb hf
  refine V_sub [2, 1, 0] rfl (LX10_onTheirWay_4_ok hc h S hz FU _ _ hv2 ?_)
  refine V_iload_n hc dX10_onTheirWay_54 rfl 0 rfl ?_
  obtain rfl := Option.some.inj hf
  exact V_iret hc hz rfl rfl rfl rfl rfl dX10_onTheirWay_55
noncomputable def LX10_countLettersBy_4 (h : Nat) (c1 : Int32) (S : CS) : Nat → Int32 → Int32 → Option (Int32)
  | 0, _, _ => none
  | n + 1, i2, i3 =>
    (gr S 10 h 2).bind fun a1 =>
    (gi S 7 a1 1).bind fun v2 =>
    if v2 ≤ i3 then (
      some i2
    ) else (
      (gr S 10 h 2).bind fun a3 =>
      (cal S 7 a3 (f7_writerOf S a3 i3)).bind fun v4 =>
      (cal S 10 h (f10_ownerOf S h v4)).bind fun v5 =>
      (
        if v5 = c1 then (
          some (1 : Int32)
        ) else (
          some (0 : Int32)
        )
      ).bind fun v6 =>
      LX10_countLettersBy_4 h c1 S n (i2 + v6) (i3 + (1 : Int32))
    )
noncomputable def f10_countLettersBy (S : CS) (h : Nat) (p1 : Int32) : Option (Int32) :=
  (LX10_countLettersBy_4 h p1 S FU (0 : Int32) (0 : Int32)).bind fun x1 =>
  some x1
theorem hdX_X10_countLettersBy : yX10_countLettersBy.cls = "FarEditors$World" ∧ yX10_countLettersBy.cls ≠ "java/lang/invoke/MethodHandle" ∧ yX10_countLettersBy.cls ≠ "java/lang/invoke/VarHandle" ∧ (parseMethodDescriptor yX10_countLettersBy.desc).map (fun d => d.parameters.length) = some 1 := by decide +kernel
set_option maxHeartbeats 4000000 in
set_option maxRecDepth 100000 in
theorem LX10_countLettersBy_4_ok {E : CxT} {l : Launch} {D : va_G} {y : CyT} {ret : Option FieldType} {wz : va_W} {rv : Option Value} {zM uM z9 u9 : Nat} (hc : Cx E "FarEditors$World" cX10_countLettersBy 4) (h : Nat) (c1 : Int32) (S : CS) (hz : Cz E l D y 2 42 ret zM uM z9 u9 wz rv) : ∀ (n : Nat) (i2 : Int32) (i3 : Int32) {o2 : Int32}, LX10_countLettersBy_4 h c1 S n i2 i3 = some o2 → (hx0 : V E (cZ S) (cU S) (cw y S) 45 [(2, .int o2)] []) → V E (cZ S) (cU S) (cw y S) 4 [(0, .ref h), (1, .int c1), (2, .int i2), (3, .int i3)] [] := by
  have hT := hz.2.2.1
  intro n
  induction n with
  | zero => intro i2 i3 o2 hf; cases hf
  | succ n ih =>
    intro i2 i3 o2 hf hx0
    unfold LX10_countLettersBy_4 at hf
    refine V_iload_n hc dX10_countLettersBy_4 rfl 3 rfl ?_
    refine V_aload_n hc dX10_countLettersBy_5 rfl 0 rfl ?_
    obtain ⟨a1, ha1, hf⟩ := mb hf
    refine C_getr hc rfl iW10 (by decide) 2 (by decide) rfl ha1 w2_75 dX10_countLettersBy_6 ?_
    obtain ⟨v2, hv2, hf⟩ := mb hf
    refine C_geti hc rfl iW7 (by decide) 1 (by decide) rfl hv2 w1_171 dX10_countLettersBy_9 ?_
    refine V_icmp_ge hc dX10_countLettersBy_12 rfl (fun hq12 => ?_) (fun hq12 => ?_)
    · rw [if_pos hq12] at hf
      obtain rfl := Option.some.inj hf
      exact V_sub [2] rfl hx0
    · rw [if_neg hq12] at hf
      refine V_iload_n hc dX10_countLettersBy_15 rfl 2 rfl ?_
      refine V_aload_n hc dX10_countLettersBy_16 rfl 0 rfl ?_
      refine V_aload_n hc dX10_countLettersBy_17 rfl 0 rfl ?_
      obtain ⟨a3, ha3, hf⟩ := mb hf
      refine C_getr hc rfl iW10 (by decide) 2 (by decide) rfl ha3 w2_75 dX10_countLettersBy_18 ?_
      refine V_iload_n hc dX10_countLettersBy_21 rfl 3 rfl ?_
      obtain ⟨v4, hv4, hf⟩ := mb hf
      obtain ⟨hkv4, hv4⟩ := og hv4
      refine C_callV hc hz (As := [.int i3]) hkv4 (by decide) (c7_writerOf l D y _ _ hv4) w4_69 w4_70 w4_71 w1_7 w4_72 hdX_X7_writerOf ⟨(Nat.le_of_ble_eq_true rfl), (Nat.le_of_ble_eq_true rfl)⟩ rfl rfl rfl (Nat.le_of_ble_eq_true rfl) dX10_countLettersBy_22 ?_
      obtain ⟨v5, hv5, hf⟩ := mb hf
      obtain ⟨hkv5, hv5⟩ := og hv5
      refine C_callV hc hz (As := [.int v4]) hkv5 (by decide) (c10_ownerOf l D y _ _ hv5) w4_77 w4_78 w4_79 w1_8 w4_80 hdX_X10_ownerOf ⟨(Nat.le_of_ble_eq_true rfl), (Nat.le_of_ble_eq_true rfl)⟩ rfl rfl rfl (Nat.le_of_ble_eq_true rfl) dX10_countLettersBy_25 ?_
      refine V_iload_n hc dX10_countLettersBy_28 rfl 1 rfl ?_
      obtain ⟨v6, hv7, hf⟩ := mb hf
      have hJ29 : V E (cZ S) (cU S) (cw y S) 37 [(0, .ref h), (1, .int c1), (3, .int i3)] [.int v6, .int i2] := by
        refine V_iadd hc dX10_countLettersBy_37 ?_
        refine V_istore_n hc dX10_countLettersBy_38 rfl (by decide) rfl ?_
        refine V_iinc hc (j := 3) (v := (i3 + (1 : Int32))) dX10_countLettersBy_39 rfl rfl (by decide) rfl ?_
        refine V_goto hc dX10_countLettersBy_42 rfl ?_
        exact V_sub [2, 3, 1, 0] rfl (ih _ _ hf hx0)
      refine V_icmp_ne hc dX10_countLettersBy_29 rfl (fun hq29 => ?_) (fun hq29 => ?_)
      · rw [if_neg hq29] at hv7
        refine V_iconst hc (v := (0 : Int32)) dX10_countLettersBy_36 rfl ?_
        obtain rfl := Option.some.inj hv7
        exact V_sub [0, 1, 3] rfl hJ29
      · rw [if_pos hq29] at hv7
        refine V_iconst hc (v := (1 : Int32)) dX10_countLettersBy_32 rfl ?_
        refine V_goto hc dX10_countLettersBy_33 rfl ?_
        obtain rfl := Option.some.inj hv7
        exact V_sub [0, 1, 3] rfl hJ29
set_option maxHeartbeats 4000000 in
set_option maxRecDepth 100000 in
theorem c10_countLettersBy (l : Launch) (D : va_G) (y : CyT) (zM uM : Nat) {S : CS} {h : Nat} {p1 : Int32} {r : Int32} (hf : f10_countLettersBy S h p1 = some r) : CT l D y yX10_countLettersBy cX10_countLettersBy 4 (some .int) 2 42 zM uM [.ref h, .int p1] (cZ S) (cU S) (cw y S) (cZ S) (cU S) (cw y S) (some (.int r)) := by
  refine CT.of (by decide) (Nat.le_of_ble_eq_true rfl) (fun E hc hz hnm => ?_)
  have hc : Cx E "FarEditors$World" cX10_countLettersBy 4 := hc
  have hT := hz.2.2.1
  show V E (cZ S) (cU S) (cw y S) 0 [(0, .ref h), (1, .int p1)] []
  unfold f10_countLettersBy at hf
  refine V_iconst hc (v := (0 : Int32)) dX10_countLettersBy_0 rfl ?_
  refine V_istore_n hc dX10_countLettersBy_1 rfl (by decide) rfl ?_
  refine V_iconst hc (v := (0 : Int32)) dX10_countLettersBy_2 rfl ?_
  refine V_istore_n hc dX10_countLettersBy_3 rfl (by decide) rfl ?_
  obtain ⟨x1, hv2, hf⟩ := mb hf
  refine V_sub [2, 3, 1, 0] rfl (LX10_countLettersBy_4_ok hc h p1 S hz FU _ _ hv2 ?_)
  refine V_iload_n hc dX10_countLettersBy_45 rfl 0 rfl ?_
  obtain rfl := Option.some.inj hf
  exact V_iret hc hz rfl rfl rfl rfl rfl dX10_countLettersBy_46
noncomputable def f10_canPlace (S : CS) (h : Nat) (p1 : Int32) (p2 : Int32) : Option (Int32) :=
  (cal S 10 h (f10_knows S h p1)).bind fun v1 =>
  (
    if v1 = 0 then (
      some (0 : Int32)
    ) else (
      if p2 < 0 then (
        some (0 : Int32)
      ) else (
        (gr S 10 h 3).bind fun a4 =>
        (ldr S 16 a4 p1).bind fun a5 =>
        (gr S 1 a5 0).bind fun a6 =>
        (gi S 7 a6 1).bind fun v7 =>
        if v7 < p2 then (
          some (0 : Int32)
        ) else (
          some (1 : Int32)
        )
      )
    )
  ).bind fun v2 =>
  (bz v2).bind fun v8 =>
  some v8
theorem hdX_X10_canPlace : yX10_canPlace.cls = "FarEditors$World" ∧ yX10_canPlace.cls ≠ "java/lang/invoke/MethodHandle" ∧ yX10_canPlace.cls ≠ "java/lang/invoke/VarHandle" ∧ (parseMethodDescriptor yX10_canPlace.desc).map (fun d => d.parameters.length) = some 2 := by decide +kernel
set_option maxHeartbeats 4000000 in
set_option maxRecDepth 100000 in
theorem c10_canPlace (l : Launch) (D : va_G) (y : CyT) (zM uM : Nat) {S : CS} {h : Nat} {p1 : Int32} {p2 : Int32} {r : Int32} (hf : f10_canPlace S h p1 p2 = some r) : CT l D y yX10_canPlace cX10_canPlace 3 (some .boolean) 1 21 zM uM [.ref h, .int p1, .int p2] (cZ S) (cU S) (cw y S) (cZ S) (cU S) (cw y S) (some (.int r)) := by
  refine CT.of (by decide) (Nat.le_of_ble_eq_true rfl) (fun E hc hz hnm => ?_)
  have hc : Cx E "FarEditors$World" cX10_canPlace 3 := hc
  have hT := hz.2.2.1
  show V E (cZ S) (cU S) (cw y S) 0 [(0, .ref h), (1, .int p1), (2, .int p2)] []
  unfold f10_canPlace at hf
  refine V_aload_n hc dX10_canPlace_0 rfl 0 rfl ?_
  refine V_iload_n hc dX10_canPlace_1 rfl 1 rfl ?_
  obtain ⟨v1, hv1, hf⟩ := mb hf
  obtain ⟨hkv1, hv1⟩ := og hv1
  refine C_callV hc hz (As := [.int p1]) hkv1 (by decide) (c10_knows l D y _ _ hv1) w4_6 w3_223 w3_224 w1_8 w3_225 hdX_X10_knows ⟨(Nat.le_of_ble_eq_true rfl), (Nat.le_of_ble_eq_true rfl)⟩ rfl rfl rfl (Nat.le_of_ble_eq_true rfl) dX10_canPlace_2 ?_
  obtain ⟨v2, hv3, hf⟩ := mb hf
  have hJ5 : V E (cZ S) (cU S) (cw y S) 33 [] [.int v2] := by
    obtain ⟨v8, hv8, hf⟩ := mb hf
    obtain ⟨hbv8, rfl⟩ := bz_some hv8
    obtain rfl := Option.some.inj hf
    exact V_iret hc hz (bz_nar hbv8) rfl rfl rfl rfl dX10_canPlace_33
  refine V_if_eq hc dX10_canPlace_5 rfl (fun hq5 => ?_) (fun hq5 => ?_)
  · rw [if_pos hq5] at hv3
    refine V_iconst hc (v := (0 : Int32)) dX10_canPlace_32 rfl ?_
    obtain rfl := Option.some.inj hv3
    exact V_sub [] rfl hJ5
  · rw [if_neg hq5] at hv3
    refine V_iload_n hc dX10_canPlace_8 rfl 2 rfl ?_
    refine V_if_lt hc dX10_canPlace_9 rfl (fun hq9 => ?_) (fun hq9 => ?_)
    · rw [if_pos hq9] at hv3
      refine V_iconst hc (v := (0 : Int32)) dX10_canPlace_32 rfl ?_
      obtain rfl := Option.some.inj hv3
      exact V_sub [] rfl hJ5
    · rw [if_neg hq9] at hv3
      refine V_iload_n hc dX10_canPlace_12 rfl 2 rfl ?_
      refine V_aload_n hc dX10_canPlace_13 rfl 0 rfl ?_
      obtain ⟨a4, ha4, hv3⟩ := mb hv3
      refine C_getr hc rfl iW10 (by decide) 3 (by decide) rfl ha4 w2_78 dX10_canPlace_14 ?_
      refine V_iload_n hc dX10_canPlace_17 rfl 1 rfl ?_
      obtain ⟨a5, ha5, hv3⟩ := mb hv3
      refine C_aald hc hT (by decide) (by decide) ha5 dX10_canPlace_18 ?_
      obtain ⟨a6, ha6, hv3⟩ := mb hv3
      refine C_getr hc rfl iW1 (by decide) 0 (by decide) rfl ha6 w1_239 dX10_canPlace_19 ?_
      obtain ⟨v7, hv7, hv3⟩ := mb hv3
      refine C_geti hc rfl iW7 (by decide) 1 (by decide) rfl hv7 w1_171 dX10_canPlace_22 ?_
      refine V_icmp_gt hc dX10_canPlace_25 rfl (fun hq25 => ?_) (fun hq25 => ?_)
      · rw [if_pos hq25] at hv3
        refine V_iconst hc (v := (0 : Int32)) dX10_canPlace_32 rfl ?_
        obtain rfl := Option.some.inj hv3
        exact V_sub [] rfl hJ5
      · rw [if_neg hq25] at hv3
        refine V_iconst hc (v := (1 : Int32)) dX10_canPlace_28 rfl ?_
        refine V_goto hc dX10_canPlace_29 rfl ?_
        obtain rfl := Option.some.inj hv3
        exact V_sub [] rfl hJ5
noncomputable def f10_canPut (S : CS) (h : Nat) (p1 : Int32) (p2 : Int32) (p3 : Int32) : Option (Int32) :=
  (cal S 10 h (f10_canPlace S h p1 p2)).bind fun v1 =>
  (
    if v1 = 0 then (
      some (0 : Int32)
    ) else (
      if p3 < (1 : Int32) then (
        some (0 : Int32)
      ) else (
        if (26 : Int32) < p3 then (
          some (0 : Int32)
        ) else (
          some (1 : Int32)
        )
      )
    )
  ).bind fun v2 =>
  (bz v2).bind fun v4 =>
  some v4
theorem hdX_X10_canPut : yX10_canPut.cls = "FarEditors$World" ∧ yX10_canPut.cls ≠ "java/lang/invoke/MethodHandle" ∧ yX10_canPut.cls ≠ "java/lang/invoke/VarHandle" ∧ (parseMethodDescriptor yX10_canPut.desc).map (fun d => d.parameters.length) = some 3 := by decide +kernel
set_option maxHeartbeats 4000000 in
set_option maxRecDepth 100000 in
theorem c10_canPut (l : Launch) (D : va_G) (y : CyT) (zM uM : Nat) {S : CS} {h : Nat} {p1 : Int32} {p2 : Int32} {p3 : Int32} {r : Int32} (hf : f10_canPut S h p1 p2 p3 = some r) : CT l D y yX10_canPut cX10_canPut 4 (some .boolean) 2 43 zM uM [.ref h, .int p1, .int p2, .int p3] (cZ S) (cU S) (cw y S) (cZ S) (cU S) (cw y S) (some (.int r)) := by
  refine CT.of (by decide) (Nat.le_of_ble_eq_true rfl) (fun E hc hz hnm => ?_)
  have hc : Cx E "FarEditors$World" cX10_canPut 4 := hc
  have hT := hz.2.2.1
  show V E (cZ S) (cU S) (cw y S) 0 [(0, .ref h), (1, .int p1), (2, .int p2), (3, .int p3)] []
  unfold f10_canPut at hf
  refine V_aload_n hc dX10_canPut_0 rfl 0 rfl ?_
  refine V_iload_n hc dX10_canPut_1 rfl 1 rfl ?_
  refine V_iload_n hc dX10_canPut_2 rfl 2 rfl ?_
  obtain ⟨v1, hv1, hf⟩ := mb hf
  obtain ⟨hkv1, hv1⟩ := og hv1
  refine C_callV hc hz (As := [.int p1, .int p2]) hkv1 (by decide) (c10_canPlace l D y _ _ hv1) w4_180 w4_173 w4_174 w1_8 w4_175 hdX_X10_canPlace ⟨(Nat.le_of_ble_eq_true rfl), (Nat.le_of_ble_eq_true rfl)⟩ rfl rfl rfl (Nat.le_of_ble_eq_true rfl) dX10_canPut_3 ?_
  obtain ⟨v2, hv3, hf⟩ := mb hf
  have hJ6 : V E (cZ S) (cU S) (cw y S) 25 [] [.int v2] := by
    obtain ⟨v4, hv4, hf⟩ := mb hf
    obtain ⟨hbv4, rfl⟩ := bz_some hv4
    obtain rfl := Option.some.inj hf
    exact V_iret hc hz (bz_nar hbv4) rfl rfl rfl rfl dX10_canPut_25
  refine V_if_eq hc dX10_canPut_6 rfl (fun hq6 => ?_) (fun hq6 => ?_)
  · rw [if_pos hq6] at hv3
    refine V_iconst hc (v := (0 : Int32)) dX10_canPut_24 rfl ?_
    obtain rfl := Option.some.inj hv3
    exact V_sub [] rfl hJ6
  · rw [if_neg hq6] at hv3
    refine V_iload_n hc dX10_canPut_9 rfl 3 rfl ?_
    refine V_iconst hc (v := (1 : Int32)) dX10_canPut_10 rfl ?_
    refine V_icmp_lt hc dX10_canPut_11 rfl (fun hq11 => ?_) (fun hq11 => ?_)
    · rw [if_pos hq11] at hv3
      refine V_iconst hc (v := (0 : Int32)) dX10_canPut_24 rfl ?_
      obtain rfl := Option.some.inj hv3
      exact V_sub [] rfl hJ6
    · rw [if_neg hq11] at hv3
      refine V_iload_n hc dX10_canPut_14 rfl 3 rfl ?_
      refine V_bipush hc (v := (26 : Int32)) dX10_canPut_15 rfl ?_
      refine V_icmp_gt hc dX10_canPut_17 rfl (fun hq17 => ?_) (fun hq17 => ?_)
      · rw [if_pos hq17] at hv3
        refine V_iconst hc (v := (0 : Int32)) dX10_canPut_24 rfl ?_
        obtain rfl := Option.some.inj hv3
        exact V_sub [] rfl hJ6
      · rw [if_neg hq17] at hv3
        refine V_iconst hc (v := (1 : Int32)) dX10_canPut_20 rfl ?_
        refine V_goto hc dX10_canPut_21 rfl ?_
        obtain rfl := Option.some.inj hv3
        exact V_sub [] rfl hJ6
noncomputable def f10_canCut (S : CS) (h : Nat) (p1 : Int32) (p2 : Int32) (p3 : Int32) : Option (Int32) :=
  (cal S 10 h (f10_canPlace S h p1 p2)).bind fun v1 =>
  (
    if v1 = 0 then (
      some (0 : Int32)
    ) else (
      if p3 < (1 : Int32) then (
        some (0 : Int32)
      ) else (
        (gr S 10 h 3).bind fun a4 =>
        (ldr S 16 a4 p1).bind fun a5 =>
        (gr S 1 a5 0).bind fun a6 =>
        (gi S 7 a6 1).bind fun v7 =>
        if (v7 - p2) < p3 then (
          some (0 : Int32)
        ) else (
          some (1 : Int32)
        )
      )
    )
  ).bind fun v2 =>
  (bz v2).bind fun v8 =>
  some v8
theorem hdX_X10_canCut : yX10_canCut.cls = "FarEditors$World" ∧ yX10_canCut.cls ≠ "java/lang/invoke/MethodHandle" ∧ yX10_canCut.cls ≠ "java/lang/invoke/VarHandle" ∧ (parseMethodDescriptor yX10_canCut.desc).map (fun d => d.parameters.length) = some 3 := by decide +kernel
set_option maxHeartbeats 4000000 in
set_option maxRecDepth 100000 in
theorem c10_canCut (l : Launch) (D : va_G) (y : CyT) (zM uM : Nat) {S : CS} {h : Nat} {p1 : Int32} {p2 : Int32} {p3 : Int32} {r : Int32} (hf : f10_canCut S h p1 p2 p3 = some r) : CT l D y yX10_canCut cX10_canCut 4 (some .boolean) 2 43 zM uM [.ref h, .int p1, .int p2, .int p3] (cZ S) (cU S) (cw y S) (cZ S) (cU S) (cw y S) (some (.int r)) := by
  refine CT.of (by decide) (Nat.le_of_ble_eq_true rfl) (fun E hc hz hnm => ?_)
  have hc : Cx E "FarEditors$World" cX10_canCut 4 := hc
  have hT := hz.2.2.1
  show V E (cZ S) (cU S) (cw y S) 0 [(0, .ref h), (1, .int p1), (2, .int p2), (3, .int p3)] []
  unfold f10_canCut at hf
  refine V_aload_n hc dX10_canCut_0 rfl 0 rfl ?_
  refine V_iload_n hc dX10_canCut_1 rfl 1 rfl ?_
  refine V_iload_n hc dX10_canCut_2 rfl 2 rfl ?_
  obtain ⟨v1, hv1, hf⟩ := mb hf
  obtain ⟨hkv1, hv1⟩ := og hv1
  refine C_callV hc hz (As := [.int p1, .int p2]) hkv1 (by decide) (c10_canPlace l D y _ _ hv1) w4_180 w4_173 w4_174 w1_8 w4_175 hdX_X10_canPlace ⟨(Nat.le_of_ble_eq_true rfl), (Nat.le_of_ble_eq_true rfl)⟩ rfl rfl rfl (Nat.le_of_ble_eq_true rfl) dX10_canCut_3 ?_
  obtain ⟨v2, hv3, hf⟩ := mb hf
  have hJ6 : V E (cZ S) (cU S) (cw y S) 37 [] [.int v2] := by
    obtain ⟨v8, hv8, hf⟩ := mb hf
    obtain ⟨hbv8, rfl⟩ := bz_some hv8
    obtain rfl := Option.some.inj hf
    exact V_iret hc hz (bz_nar hbv8) rfl rfl rfl rfl dX10_canCut_37
  refine V_if_eq hc dX10_canCut_6 rfl (fun hq6 => ?_) (fun hq6 => ?_)
  · rw [if_pos hq6] at hv3
    refine V_iconst hc (v := (0 : Int32)) dX10_canCut_36 rfl ?_
    obtain rfl := Option.some.inj hv3
    exact V_sub [] rfl hJ6
  · rw [if_neg hq6] at hv3
    refine V_iload_n hc dX10_canCut_9 rfl 3 rfl ?_
    refine V_iconst hc (v := (1 : Int32)) dX10_canCut_10 rfl ?_
    refine V_icmp_lt hc dX10_canCut_11 rfl (fun hq11 => ?_) (fun hq11 => ?_)
    · rw [if_pos hq11] at hv3
      refine V_iconst hc (v := (0 : Int32)) dX10_canCut_36 rfl ?_
      obtain rfl := Option.some.inj hv3
      exact V_sub [] rfl hJ6
    · rw [if_neg hq11] at hv3
      refine V_iload_n hc dX10_canCut_14 rfl 3 rfl ?_
      refine V_aload_n hc dX10_canCut_15 rfl 0 rfl ?_
      obtain ⟨a4, ha4, hv3⟩ := mb hv3
      refine C_getr hc rfl iW10 (by decide) 3 (by decide) rfl ha4 w2_78 dX10_canCut_16 ?_
      refine V_iload_n hc dX10_canCut_19 rfl 1 rfl ?_
      obtain ⟨a5, ha5, hv3⟩ := mb hv3
      refine C_aald hc hT (by decide) (by decide) ha5 dX10_canCut_20 ?_
      obtain ⟨a6, ha6, hv3⟩ := mb hv3
      refine C_getr hc rfl iW1 (by decide) 0 (by decide) rfl ha6 w1_239 dX10_canCut_21 ?_
      obtain ⟨v7, hv7, hv3⟩ := mb hv3
      refine C_geti hc rfl iW7 (by decide) 1 (by decide) rfl hv7 w1_171 dX10_canCut_24 ?_
      refine V_iload_n hc dX10_canCut_27 rfl 2 rfl ?_
      refine V_isub hc dX10_canCut_28 ?_
      refine V_icmp_gt hc dX10_canCut_29 rfl (fun hq29 => ?_) (fun hq29 => ?_)
      · rw [if_pos hq29] at hv3
        refine V_iconst hc (v := (0 : Int32)) dX10_canCut_36 rfl ?_
        obtain rfl := Option.some.inj hv3
        exact V_sub [] rfl hJ6
      · rw [if_neg hq29] at hv3
        refine V_iconst hc (v := (1 : Int32)) dX10_canCut_32 rfl ?_
        refine V_goto hc dX10_canCut_33 rfl ?_
        obtain rfl := Option.some.inj hv3
        exact V_sub [] rfl hJ6
noncomputable def f10_canMark (S : CS) (h : Nat) (p1 : Int32) (p2 : Int32) (p3 : Int32) (p4 : Int32) : Option (Int32) :=
  (cal S 10 h (f10_canPlace S h p1 p2)).bind fun v1 =>
  (
    if v1 = 0 then (
      some (0 : Int32)
    ) else (
      (cal S 10 h (f10_canPlace S h p1 p3)).bind fun v4 =>
      if v4 = 0 then (
        some (0 : Int32)
      ) else (
        if p3 < p2 then (
          some (0 : Int32)
        ) else (
          if p4 < 0 then (
            some (0 : Int32)
          ) else (
            if (3 : Int32) < p4 then (
              some (0 : Int32)
            ) else (
              (gr S 10 h 3).bind fun a5 =>
              (ldr S 16 a5 p1).bind fun a6 =>
              (gi S 1 a6 7).bind fun v7 =>
              if (4 : Int32) ≤ v7 then (
                some (0 : Int32)
              ) else (
                some (1 : Int32)
              )
            )
          )
        )
      )
    )
  ).bind fun v2 =>
  (bz v2).bind fun v8 =>
  some v8
theorem hdX_X10_canMark : yX10_canMark.cls = "FarEditors$World" ∧ yX10_canMark.cls ≠ "java/lang/invoke/MethodHandle" ∧ yX10_canMark.cls ≠ "java/lang/invoke/VarHandle" ∧ (parseMethodDescriptor yX10_canMark.desc).map (fun d => d.parameters.length) = some 4 := by decide +kernel
set_option maxHeartbeats 4000000 in
set_option maxRecDepth 100000 in
theorem c10_canMark (l : Launch) (D : va_G) (y : CyT) (zM uM : Nat) {S : CS} {h : Nat} {p1 : Int32} {p2 : Int32} {p3 : Int32} {p4 : Int32} {r : Int32} (hf : f10_canMark S h p1 p2 p3 p4 = some r) : CT l D y yX10_canMark cX10_canMark 5 (some .boolean) 2 43 zM uM [.ref h, .int p1, .int p2, .int p3, .int p4] (cZ S) (cU S) (cw y S) (cZ S) (cU S) (cw y S) (some (.int r)) := by
  refine CT.of (by decide) (Nat.le_of_ble_eq_true rfl) (fun E hc hz hnm => ?_)
  have hc : Cx E "FarEditors$World" cX10_canMark 5 := hc
  have hT := hz.2.2.1
  show V E (cZ S) (cU S) (cw y S) 0 [(0, .ref h), (1, .int p1), (2, .int p2), (3, .int p3), (4, .int p4)] []
  unfold f10_canMark at hf
  refine V_aload_n hc dX10_canMark_0 rfl 0 rfl ?_
  refine V_iload_n hc dX10_canMark_1 rfl 1 rfl ?_
  refine V_iload_n hc dX10_canMark_2 rfl 2 rfl ?_
  obtain ⟨v1, hv1, hf⟩ := mb hf
  obtain ⟨hkv1, hv1⟩ := og hv1
  refine C_callV hc hz (As := [.int p1, .int p2]) hkv1 (by decide) (c10_canPlace l D y _ _ hv1) w4_180 w4_173 w4_174 w1_8 w4_175 hdX_X10_canPlace ⟨(Nat.le_of_ble_eq_true rfl), (Nat.le_of_ble_eq_true rfl)⟩ rfl rfl rfl (Nat.le_of_ble_eq_true rfl) dX10_canMark_3 ?_
  obtain ⟨v2, hv3, hf⟩ := mb hf
  have hJ6 : V E (cZ S) (cU S) (cw y S) 52 [] [.int v2] := by
    obtain ⟨v8, hv8, hf⟩ := mb hf
    obtain ⟨hbv8, rfl⟩ := bz_some hv8
    obtain rfl := Option.some.inj hf
    exact V_iret hc hz (bz_nar hbv8) rfl rfl rfl rfl dX10_canMark_52
  refine V_if_eq hc dX10_canMark_6 rfl (fun hq6 => ?_) (fun hq6 => ?_)
  · rw [if_pos hq6] at hv3
    refine V_iconst hc (v := (0 : Int32)) dX10_canMark_51 rfl ?_
    obtain rfl := Option.some.inj hv3
    exact V_sub [] rfl hJ6
  · rw [if_neg hq6] at hv3
    refine V_aload_n hc dX10_canMark_9 rfl 0 rfl ?_
    refine V_iload_n hc dX10_canMark_10 rfl 1 rfl ?_
    refine V_iload_n hc dX10_canMark_11 rfl 3 rfl ?_
    obtain ⟨v4, hv4, hv3⟩ := mb hv3
    obtain ⟨hkv4, hv4⟩ := og hv4
    refine C_callV hc hz (As := [.int p1, .int p3]) hkv4 (by decide) (c10_canPlace l D y _ _ hv4) w4_180 w4_173 w4_174 w1_8 w4_175 hdX_X10_canPlace ⟨(Nat.le_of_ble_eq_true rfl), (Nat.le_of_ble_eq_true rfl)⟩ rfl rfl rfl (Nat.le_of_ble_eq_true rfl) dX10_canMark_12 ?_
    refine V_if_eq hc dX10_canMark_15 rfl (fun hq15 => ?_) (fun hq15 => ?_)
    · rw [if_pos hq15] at hv3
      refine V_iconst hc (v := (0 : Int32)) dX10_canMark_51 rfl ?_
      obtain rfl := Option.some.inj hv3
      exact V_sub [] rfl hJ6
    · rw [if_neg hq15] at hv3
      refine V_iload_n hc dX10_canMark_18 rfl 2 rfl ?_
      refine V_iload_n hc dX10_canMark_19 rfl 3 rfl ?_
      refine V_icmp_gt hc dX10_canMark_20 rfl (fun hq20 => ?_) (fun hq20 => ?_)
      · rw [if_pos hq20] at hv3
        refine V_iconst hc (v := (0 : Int32)) dX10_canMark_51 rfl ?_
        obtain rfl := Option.some.inj hv3
        exact V_sub [] rfl hJ6
      · rw [if_neg hq20] at hv3
        refine V_iload hc dX10_canMark_23 4 rfl ?_
        refine V_if_lt hc dX10_canMark_25 rfl (fun hq25 => ?_) (fun hq25 => ?_)
        · rw [if_pos hq25] at hv3
          refine V_iconst hc (v := (0 : Int32)) dX10_canMark_51 rfl ?_
          obtain rfl := Option.some.inj hv3
          exact V_sub [] rfl hJ6
        · rw [if_neg hq25] at hv3
          refine V_iload hc dX10_canMark_28 4 rfl ?_
          refine V_iconst hc (v := (3 : Int32)) dX10_canMark_30 rfl ?_
          refine V_icmp_gt hc dX10_canMark_31 rfl (fun hq31 => ?_) (fun hq31 => ?_)
          · rw [if_pos hq31] at hv3
            refine V_iconst hc (v := (0 : Int32)) dX10_canMark_51 rfl ?_
            obtain rfl := Option.some.inj hv3
            exact V_sub [] rfl hJ6
          · rw [if_neg hq31] at hv3
            refine V_aload_n hc dX10_canMark_34 rfl 0 rfl ?_
            obtain ⟨a5, ha5, hv3⟩ := mb hv3
            refine C_getr hc rfl iW10 (by decide) 3 (by decide) rfl ha5 w2_78 dX10_canMark_35 ?_
            refine V_iload_n hc dX10_canMark_38 rfl 1 rfl ?_
            obtain ⟨a6, ha6, hv3⟩ := mb hv3
            refine C_aald hc hT (by decide) (by decide) ha6 dX10_canMark_39 ?_
            obtain ⟨v7, hv7, hv3⟩ := mb hv3
            refine C_geti hc rfl iW1 (by decide) 7 (by decide) rfl hv7 w2_18 dX10_canMark_40 ?_
            refine V_iconst hc (v := (4 : Int32)) dX10_canMark_43 rfl ?_
            refine V_icmp_ge hc dX10_canMark_44 rfl (fun hq44 => ?_) (fun hq44 => ?_)
            · rw [if_pos hq44] at hv3
              refine V_iconst hc (v := (0 : Int32)) dX10_canMark_51 rfl ?_
              obtain rfl := Option.some.inj hv3
              exact V_sub [] rfl hJ6
            · rw [if_neg hq44] at hv3
              refine V_iconst hc (v := (1 : Int32)) dX10_canMark_47 rfl ?_
              refine V_goto hc dX10_canMark_48 rfl ?_
              obtain rfl := Option.some.inj hv3
              exact V_sub [] rfl hJ6
noncomputable def f10_canTick (S : CS) (h : Nat) (p1 : Int32) : Option (Int32) :=
  (gi S 10 h 6).bind fun v1 =>
  (
    if v1 ≤ 0 then (
      some (0 : Int32)
    ) else (
      if p1 < (1 : Int32) then (
        some (0 : Int32)
      ) else (
        if (99 : Int32) < p1 then (
          some (0 : Int32)
        ) else (
          (gi S 10 h 8).bind fun v4 =>
          if (999 : Int32) < (v4 + p1) then (
            some (0 : Int32)
          ) else (
            some (1 : Int32)
          )
        )
      )
    )
  ).bind fun v2 =>
  (bz v2).bind fun v5 =>
  some v5
theorem hdX_X10_canTick : yX10_canTick.cls = "FarEditors$World" ∧ yX10_canTick.cls ≠ "java/lang/invoke/MethodHandle" ∧ yX10_canTick.cls ≠ "java/lang/invoke/VarHandle" ∧ (parseMethodDescriptor yX10_canTick.desc).map (fun d => d.parameters.length) = some 1 := by decide +kernel
set_option maxHeartbeats 4000000 in
set_option maxRecDepth 100000 in
theorem c10_canTick (l : Launch) (D : va_G) (y : CyT) (zM uM : Nat) {S : CS} {h : Nat} {p1 : Int32} {r : Int32} (hf : f10_canTick S h p1 = some r) : CT l D y yX10_canTick cX10_canTick 2 (some .boolean) 0 0 zM uM [.ref h, .int p1] (cZ S) (cU S) (cw y S) (cZ S) (cU S) (cw y S) (some (.int r)) := by
  refine CT.of (by decide) (Nat.le_of_ble_eq_true rfl) (fun E hc hz hnm => ?_)
  have hc : Cx E "FarEditors$World" cX10_canTick 2 := hc
  have hT := hz.2.2.1
  show V E (cZ S) (cU S) (cw y S) 0 [(0, .ref h), (1, .int p1)] []
  unfold f10_canTick at hf
  refine V_aload_n hc dX10_canTick_0 rfl 0 rfl ?_
  obtain ⟨v1, hv1, hf⟩ := mb hf
  refine C_geti hc rfl iW10 (by decide) 6 (by decide) rfl hv1 w2_84 dX10_canTick_1 ?_
  obtain ⟨v2, hv3, hf⟩ := mb hf
  have hJ4 : V E (cZ S) (cU S) (cw y S) 35 [] [.int v2] := by
    obtain ⟨v5, hv5, hf⟩ := mb hf
    obtain ⟨hbv5, rfl⟩ := bz_some hv5
    obtain rfl := Option.some.inj hf
    exact V_iret hc hz (bz_nar hbv5) rfl rfl rfl rfl dX10_canTick_35
  refine V_if_le hc dX10_canTick_4 rfl (fun hq4 => ?_) (fun hq4 => ?_)
  · rw [if_pos hq4] at hv3
    refine V_iconst hc (v := (0 : Int32)) dX10_canTick_34 rfl ?_
    obtain rfl := Option.some.inj hv3
    exact V_sub [] rfl hJ4
  · rw [if_neg hq4] at hv3
    refine V_iload_n hc dX10_canTick_7 rfl 1 rfl ?_
    refine V_iconst hc (v := (1 : Int32)) dX10_canTick_8 rfl ?_
    refine V_icmp_lt hc dX10_canTick_9 rfl (fun hq9 => ?_) (fun hq9 => ?_)
    · rw [if_pos hq9] at hv3
      refine V_iconst hc (v := (0 : Int32)) dX10_canTick_34 rfl ?_
      obtain rfl := Option.some.inj hv3
      exact V_sub [] rfl hJ4
    · rw [if_neg hq9] at hv3
      refine V_iload_n hc dX10_canTick_12 rfl 1 rfl ?_
      refine V_bipush hc (v := (99 : Int32)) dX10_canTick_13 rfl ?_
      refine V_icmp_gt hc dX10_canTick_15 rfl (fun hq15 => ?_) (fun hq15 => ?_)
      · rw [if_pos hq15] at hv3
        refine V_iconst hc (v := (0 : Int32)) dX10_canTick_34 rfl ?_
        obtain rfl := Option.some.inj hv3
        exact V_sub [] rfl hJ4
      · rw [if_neg hq15] at hv3
        refine V_aload_n hc dX10_canTick_18 rfl 0 rfl ?_
        obtain ⟨v4, hv4, hv3⟩ := mb hv3
        refine C_geti hc rfl iW10 (by decide) 8 (by decide) rfl hv4 w2_89 dX10_canTick_19 ?_
        refine V_iload_n hc dX10_canTick_22 rfl 1 rfl ?_
        refine V_iadd hc dX10_canTick_23 ?_
        refine V_sipush hc (v := (999 : Int32)) dX10_canTick_24 rfl ?_
        refine V_icmp_gt hc dX10_canTick_27 rfl (fun hq27 => ?_) (fun hq27 => ?_)
        · rw [if_pos hq27] at hv3
          refine V_iconst hc (v := (0 : Int32)) dX10_canTick_34 rfl ?_
          obtain rfl := Option.some.inj hv3
          exact V_sub [] rfl hJ4
        · rw [if_neg hq27] at hv3
          refine V_iconst hc (v := (1 : Int32)) dX10_canTick_30 rfl ?_
          refine V_goto hc dX10_canTick_31 rfl ?_
          obtain rfl := Option.some.inj hv3
          exact V_sub [] rfl hJ4
noncomputable def f10_canEdit (S : CS) (h : Nat) (p1 : Nat) : Option (Int32) :=
  (cal S 4 p1 (f4_changesSomething S p1)).bind fun v1 =>
  (
    if v1 = 0 then (
      some (0 : Int32)
    ) else (
      (gi S 10 h 9).bind fun v4 =>
      if (100 : Int32) ≤ v4 then (
        some (0 : Int32)
      ) else (
        (gi S 10 h 10).bind fun v5 =>
        (cal S 4 p1 (f4_countPut S p1)).bind fun v6 =>
        if (200 : Int32) < (v5 + v6) then (
          some (0 : Int32)
        ) else (
          some (1 : Int32)
        )
      )
    )
  ).bind fun v2 =>
  (bz v2).bind fun v7 =>
  some v7
theorem hdX_X10_canEdit : yX10_canEdit.cls = "FarEditors$World" ∧ yX10_canEdit.cls ≠ "java/lang/invoke/MethodHandle" ∧ yX10_canEdit.cls ≠ "java/lang/invoke/VarHandle" ∧ (parseMethodDescriptor yX10_canEdit.desc).map (fun d => d.parameters.length) = some 1 := by decide +kernel
set_option maxHeartbeats 4000000 in
set_option maxRecDepth 100000 in
theorem c10_canEdit (l : Launch) (D : va_G) (y : CyT) (zM uM : Nat) {S : CS} {h : Nat} {p1 : Nat} {r : Int32} (hf : f10_canEdit S h p1 = some r) : CT l D y yX10_canEdit cX10_canEdit 2 (some .boolean) 2 42 zM uM [.ref h, .ref p1] (cZ S) (cU S) (cw y S) (cZ S) (cU S) (cw y S) (some (.int r)) := by
  refine CT.of (by decide) (Nat.le_of_ble_eq_true rfl) (fun E hc hz hnm => ?_)
  have hc : Cx E "FarEditors$World" cX10_canEdit 2 := hc
  have hT := hz.2.2.1
  show V E (cZ S) (cU S) (cw y S) 0 [(0, .ref h), (1, .ref p1)] []
  unfold f10_canEdit at hf
  refine V_aload_n hc dX10_canEdit_0 rfl 1 rfl ?_
  obtain ⟨v1, hv1, hf⟩ := mb hf
  obtain ⟨hkv1, hv1⟩ := og hv1
  refine C_callV hc hz (As := []) hkv1 (by decide) (c4_changesSomething l D y _ _ hv1) w4_134 w4_135 w4_136 w1_5 w4_137 hdX_X4_changesSomething ⟨(Nat.le_of_ble_eq_true rfl), (Nat.le_of_ble_eq_true rfl)⟩ rfl rfl rfl (Nat.le_of_ble_eq_true rfl) dX10_canEdit_1 ?_
  obtain ⟨v2, hv3, hf⟩ := mb hf
  have hJ4 : V E (cZ S) (cU S) (cw y S) 36 [] [.int v2] := by
    obtain ⟨v7, hv7, hf⟩ := mb hf
    obtain ⟨hbv7, rfl⟩ := bz_some hv7
    obtain rfl := Option.some.inj hf
    exact V_iret hc hz (bz_nar hbv7) rfl rfl rfl rfl dX10_canEdit_36
  refine V_if_eq hc dX10_canEdit_4 rfl (fun hq4 => ?_) (fun hq4 => ?_)
  · rw [if_pos hq4] at hv3
    refine V_iconst hc (v := (0 : Int32)) dX10_canEdit_35 rfl ?_
    obtain rfl := Option.some.inj hv3
    exact V_sub [] rfl hJ4
  · rw [if_neg hq4] at hv3
    refine V_aload_n hc dX10_canEdit_7 rfl 0 rfl ?_
    obtain ⟨v4, hv4, hv3⟩ := mb hv3
    refine C_geti hc rfl iW10 (by decide) 9 (by decide) rfl hv4 w2_91 dX10_canEdit_8 ?_
    refine V_bipush hc (v := (100 : Int32)) dX10_canEdit_11 rfl ?_
    refine V_icmp_ge hc dX10_canEdit_13 rfl (fun hq13 => ?_) (fun hq13 => ?_)
    · rw [if_pos hq13] at hv3
      refine V_iconst hc (v := (0 : Int32)) dX10_canEdit_35 rfl ?_
      obtain rfl := Option.some.inj hv3
      exact V_sub [] rfl hJ4
    · rw [if_neg hq13] at hv3
      refine V_aload_n hc dX10_canEdit_16 rfl 0 rfl ?_
      obtain ⟨v5, hv5, hv3⟩ := mb hv3
      refine C_geti hc rfl iW10 (by decide) 10 (by decide) rfl hv5 w2_93 dX10_canEdit_17 ?_
      refine V_aload_n hc dX10_canEdit_20 rfl 1 rfl ?_
      obtain ⟨v6, hv6, hv3⟩ := mb hv3
      obtain ⟨hkv6, hv6⟩ := og hv6
      refine C_callV hc hz (As := []) hkv6 (by decide) (c4_countPut l D y _ _ hv6) w4_138 w4_139 w4_140 w1_5 w4_141 hdX_X4_countPut ⟨(Nat.le_of_ble_eq_true rfl), (Nat.le_of_ble_eq_true rfl)⟩ rfl rfl rfl (Nat.le_of_ble_eq_true rfl) dX10_canEdit_21 ?_
      refine V_iadd hc dX10_canEdit_24 ?_
      refine V_sipush hc (v := (200 : Int32)) dX10_canEdit_25 rfl ?_
      refine V_icmp_gt hc dX10_canEdit_28 rfl (fun hq28 => ?_) (fun hq28 => ?_)
      · rw [if_pos hq28] at hv3
        refine V_iconst hc (v := (0 : Int32)) dX10_canEdit_35 rfl ?_
        obtain rfl := Option.some.inj hv3
        exact V_sub [] rfl hJ4
      · rw [if_neg hq28] at hv3
        refine V_iconst hc (v := (1 : Int32)) dX10_canEdit_31 rfl ?_
        refine V_goto hc dX10_canEdit_32 rfl ?_
        obtain rfl := Option.some.inj hv3
        exact V_sub [] rfl hJ4
noncomputable def f10_makeEdit (X : Nat × Nat) (S : CS) (h : Nat) (p1 : Nat) (p2 : Nat) : Option (CS) :=
  (gi S 10 h 9).bind fun v1 =>
  (pi S 10 h 9 (v1 + (1 : Int32))).bind fun S2 =>
  (gi S2 10 h 10).bind fun v3 =>
  (cal S2 4 p2 (f4_countPut S2 p2)).bind fun v4 =>
  (pi S2 10 h 10 (v3 + v4)).bind fun S5 =>
  (cal S5 1 p1 (f1_carryPlaces S5 p1 p2 (1 : Int32))).bind fun S6 =>
  (gr S6 10 h 1).bind fun a7 =>
  (gr S6 1 p1 0).bind fun a8 =>
  (cal S6 9 a7 (f9_change S6 a7 a8 p2 (0 : Int32))).bind fun S9 =>
  (gi S9 1 p1 12).bind fun v10 =>
  (
    if v10 = 0 then (
      (gr S9 1 p1 1).bind fun a20 =>
      (cal S9 4 a20 (f4_copy X S9 a20 p2)).bind fun S21 =>
      (cal S21 1 p1 (f1_send S21 p1)).bind fun S22 =>
      some S22
    ) else (
      (gi S9 1 p1 13).bind fun v13 =>
      if v13 = 0 then (
        (gr S9 1 p1 2).bind fun a14 =>
        (cal S9 4 a14 (f4_copy X S9 a14 p2)).bind fun S15 =>
        (pi S15 1 p1 13 (1 : Int32)).bind fun S16 =>
        some S16
      ) else (
        (gr S9 10 h 1).bind fun a17 =>
        (gr S9 1 p1 2).bind fun a18 =>
        (cal S9 9 a17 (f9_compose X S9 a17 a18 p2)).bind fun S19 =>
        some S19
      )
    )
  ).bind fun S11 =>
  some S11
theorem hdX_X10_makeEdit : yX10_makeEdit.cls = "FarEditors$World" ∧ yX10_makeEdit.cls ≠ "java/lang/invoke/MethodHandle" ∧ yX10_makeEdit.cls ≠ "java/lang/invoke/VarHandle" ∧ (parseMethodDescriptor yX10_makeEdit.desc).map (fun d => d.parameters.length) = some 2 := by decide +kernel
set_option maxHeartbeats 4000000 in
set_option maxRecDepth 100000 in
theorem c10_makeEdit (l : Launch) (D : va_G) (y : CyT) (X : Nat × Nat) (hX : X.2 ≤ 100000000) {S S' : CS} {h : Nat} {p1 : Nat} {p2 : Nat} (hf : f10_makeEdit X S h p1 p2 = some S') : CT l D y yX10_makeEdit cX10_makeEdit 3 none 3 71 X.1 X.2 [.ref h, .ref p1, .ref p2] (cZ S) (cU S) (cw y S) (cZ S') (cU S') (cw y S') none := by
  refine CT.of (by decide) (Nat.le_of_ble_eq_true rfl) (fun E hc hz hnm => ?_)
  have hc : Cx E "FarEditors$World" cX10_makeEdit 3 := hc
  have hT := hz.2.2.1
  show V E (cZ S) (cU S) (cw y S) 0 [(0, .ref h), (1, .ref p1), (2, .ref p2)] []
  unfold f10_makeEdit at hf
  refine V_aload_n hc dX10_makeEdit_0 rfl 0 rfl ?_
  refine V_dup hc dX10_makeEdit_1 rfl ?_
  obtain ⟨v1, hv1, hf⟩ := mb hf
  refine C_geti hc rfl iW10 (by decide) 9 (by decide) rfl hv1 w2_91 dX10_makeEdit_2 ?_
  refine V_iconst hc (v := (1 : Int32)) dX10_makeEdit_5 rfl ?_
  refine V_iadd hc dX10_makeEdit_6 ?_
  obtain ⟨S2, hS2, hf⟩ := mb hf
  refine C_puti hc rfl iW10 tyX10 tyX10_ok nmX10 (by decide) 9 (by decide) rfl hS2 w2_91 rfl rfl rfl dX10_makeEdit_7 ?_
  refine V_aload_n hc dX10_makeEdit_10 rfl 0 rfl ?_
  refine V_dup hc dX10_makeEdit_11 rfl ?_
  obtain ⟨v3, hv3, hf⟩ := mb hf
  refine C_geti hc rfl iW10 (by decide) 10 (by decide) rfl hv3 w2_93 dX10_makeEdit_12 ?_
  refine V_aload_n hc dX10_makeEdit_15 rfl 2 rfl ?_
  obtain ⟨v4, hv4, hf⟩ := mb hf
  obtain ⟨hkv4, hv4⟩ := og hv4
  refine C_callV hc hz (As := []) hkv4 (by decide) (c4_countPut l D y _ _ hv4) w4_138 w4_139 w4_140 w1_5 w4_141 hdX_X4_countPut ⟨(Nat.le_of_ble_eq_true rfl), (Nat.le_of_ble_eq_true rfl)⟩ rfl rfl rfl (Nat.le_of_ble_eq_true rfl) dX10_makeEdit_16 ?_
  refine V_iadd hc dX10_makeEdit_19 ?_
  obtain ⟨S5, hS5, hf⟩ := mb hf
  refine C_puti hc rfl iW10 tyX10 tyX10_ok nmX10 (by decide) 10 (by decide) rfl hS5 w2_93 rfl rfl rfl dX10_makeEdit_20 ?_
  refine V_aload_n hc dX10_makeEdit_23 rfl 1 rfl ?_
  refine V_aload_n hc dX10_makeEdit_24 rfl 2 rfl ?_
  refine V_iconst hc (v := (1 : Int32)) dX10_makeEdit_25 rfl ?_
  obtain ⟨S6, hS6, hf⟩ := mb hf
  obtain ⟨hkS6, hS6⟩ := og hS6
  refine C_callV hc hz (As := [.ref p2, .int (1 : Int32)]) hkS6 (by decide) (c1_carryPlaces l D y _ _ hS6) w4_99 w4_100 w4_101 w1_9 w4_102 hdX_X1_carryPlaces ⟨(Nat.le_of_ble_eq_true rfl), (Nat.le_of_ble_eq_true rfl)⟩ rfl rfl rfl (Nat.le_of_ble_eq_true rfl) dX10_makeEdit_26 ?_
  refine V_aload_n hc dX10_makeEdit_29 rfl 0 rfl ?_
  obtain ⟨a7, ha7, hf⟩ := mb hf
  refine C_getr hc rfl iW10 (by decide) 1 (by decide) rfl ha7 w2_73 dX10_makeEdit_30 ?_
  refine V_aload_n hc dX10_makeEdit_33 rfl 1 rfl ?_
  obtain ⟨a8, ha8, hf⟩ := mb hf
  refine C_getr hc rfl iW1 (by decide) 0 (by decide) rfl ha8 w1_239 dX10_makeEdit_34 ?_
  refine V_aload_n hc dX10_makeEdit_37 rfl 2 rfl ?_
  refine V_iconst hc (v := (0 : Int32)) dX10_makeEdit_38 rfl ?_
  obtain ⟨S9, hS9, hf⟩ := mb hf
  obtain ⟨hkS9, hS9⟩ := og hS9
  refine C_callV hc hz (As := [.ref a8, .ref p2, .int (0 : Int32)]) hkS9 (by decide) (c9_change l D y _ _ hS9) w4_81 w4_82 w4_83 w1_3 w4_84 hdX_X9_change ⟨(Nat.le_of_ble_eq_true rfl), (Nat.le_of_ble_eq_true rfl)⟩ rfl rfl rfl (Nat.le_of_ble_eq_true rfl) dX10_makeEdit_39 ?_
  refine V_aload_n hc dX10_makeEdit_42 rfl 1 rfl ?_
  obtain ⟨v10, hv10, hf⟩ := mb hf
  refine C_geti hc rfl iW1 (by decide) 12 (by decide) rfl hv10 w2_33 dX10_makeEdit_43 ?_
  obtain ⟨S11, hv12, hf⟩ := mb hf
  have hJ46 : V E (cZ S11) (cU S11) (cw y S11) 99 [] [] := by
    obtain rfl := Option.some.inj hf
    exact V_vret hc hz rfl rfl rfl rfl dX10_makeEdit_99
  refine V_if_ne hc dX10_makeEdit_46 rfl (fun hq46 => ?_) (fun hq46 => ?_)
  · rw [if_neg hq46] at hv12
    refine V_aload_n hc dX10_makeEdit_64 rfl 1 rfl ?_
    obtain ⟨v13, hv13, hv12⟩ := mb hv12
    refine C_geti hc rfl iW1 (by decide) 13 (by decide) rfl hv13 w2_36 dX10_makeEdit_65 ?_
    refine V_if_eq hc dX10_makeEdit_68 rfl (fun hq68 => ?_) (fun hq68 => ?_)
    · rw [if_pos hq68] at hv12
      refine V_aload_n hc dX10_makeEdit_86 rfl 1 rfl ?_
      obtain ⟨a14, ha14, hv12⟩ := mb hv12
      refine C_getr hc rfl iW1 (by decide) 2 (by decide) rfl ha14 w2_5 dX10_makeEdit_87 ?_
      refine V_aload_n hc dX10_makeEdit_90 rfl 2 rfl ?_
      obtain ⟨S15, hS15, hv12⟩ := mb hv12
      obtain ⟨hkS15, hS15⟩ := og hS15
      refine C_callV hc hz (As := [.ref p2]) hkS15 (by decide) (c4_copy l D y X hX hS15) w4_7 w4_8 w4_9 w1_5 w4_10 hdX_X4_copy ⟨(Nat.le_of_ble_eq_true rfl), (Nat.le_of_ble_eq_true rfl)⟩ rfl rfl rfl (Nat.le_of_ble_eq_true rfl) dX10_makeEdit_91 ?_
      refine V_aload_n hc dX10_makeEdit_94 rfl 1 rfl ?_
      refine V_iconst hc (v := (1 : Int32)) dX10_makeEdit_95 rfl ?_
      obtain ⟨S16, hS16, hv12⟩ := mb hv12
      refine C_puti hc rfl iW1 tyX1 tyX1_ok nmX1 (by decide) 13 (by decide) rfl hS16 w2_36 rfl rfl rfl dX10_makeEdit_96 ?_
      obtain rfl := Option.some.inj hv12
      exact V_sub [] rfl hJ46
    · rw [if_neg hq68] at hv12
      refine V_aload_n hc dX10_makeEdit_71 rfl 0 rfl ?_
      obtain ⟨a17, ha17, hv12⟩ := mb hv12
      refine C_getr hc rfl iW10 (by decide) 1 (by decide) rfl ha17 w2_73 dX10_makeEdit_72 ?_
      refine V_aload_n hc dX10_makeEdit_75 rfl 1 rfl ?_
      obtain ⟨a18, ha18, hv12⟩ := mb hv12
      refine C_getr hc rfl iW1 (by decide) 2 (by decide) rfl ha18 w2_5 dX10_makeEdit_76 ?_
      refine V_aload_n hc dX10_makeEdit_79 rfl 2 rfl ?_
      obtain ⟨S19, hS19, hv12⟩ := mb hv12
      obtain ⟨hkS19, hS19⟩ := og hS19
      refine C_callV hc hz (As := [.ref a18, .ref p2]) hkS19 (by decide) (c9_compose l D y X hX hS19) w4_164 w4_165 w4_166 w1_3 w4_167 hdX_X9_compose ⟨(Nat.le_of_ble_eq_true rfl), (Nat.le_of_ble_eq_true rfl)⟩ rfl rfl rfl (Nat.le_of_ble_eq_true rfl) dX10_makeEdit_80 ?_
      refine V_goto hc dX10_makeEdit_83 rfl ?_
      obtain rfl := Option.some.inj hv12
      exact V_sub [] rfl hJ46
  · rw [if_pos hq46] at hv12
    refine V_aload_n hc dX10_makeEdit_49 rfl 1 rfl ?_
    obtain ⟨a20, ha20, hv12⟩ := mb hv12
    refine C_getr hc rfl iW1 (by decide) 1 (by decide) rfl ha20 w2_2 dX10_makeEdit_50 ?_
    refine V_aload_n hc dX10_makeEdit_53 rfl 2 rfl ?_
    obtain ⟨S21, hS21, hv12⟩ := mb hv12
    obtain ⟨hkS21, hS21⟩ := og hS21
    refine C_callV hc hz (As := [.ref p2]) hkS21 (by decide) (c4_copy l D y X hX hS21) w4_7 w4_8 w4_9 w1_5 w4_10 hdX_X4_copy ⟨(Nat.le_of_ble_eq_true rfl), (Nat.le_of_ble_eq_true rfl)⟩ rfl rfl rfl (Nat.le_of_ble_eq_true rfl) dX10_makeEdit_54 ?_
    refine V_aload_n hc dX10_makeEdit_57 rfl 1 rfl ?_
    obtain ⟨S22, hS22, hv12⟩ := mb hv12
    obtain ⟨hkS22, hS22⟩ := og hS22
    refine C_callV hc hz (As := []) hkS22 (by decide) (c1_send l D y _ _ hS22) w4_163 w4_96 w4_97 w1_9 w4_98 hdX_X1_send ⟨(Nat.le_of_ble_eq_true rfl), (Nat.le_of_ble_eq_true rfl)⟩ rfl rfl rfl (Nat.le_of_ble_eq_true rfl) dX10_makeEdit_58 ?_
    refine V_goto hc dX10_makeEdit_61 rfl ?_
    obtain rfl := Option.some.inj hv12
    exact V_sub [] rfl hJ46
noncomputable def f10_editPlainly (X : Nat × Nat) (S : CS) (h : Nat) (p1 : Nat) (p2 : Nat) : Option (CS) :=
  (gr S 10 h 1).bind fun a1 =>
  (gr S 1 p1 0).bind fun a2 =>
  (gr S 1 p1 3).bind fun a3 =>
  bn2 (cal S 3 a3 (f3_addOne S a3)) fun a4 S5 =>
  (cal S5 9 a1 (f9_invert X S5 a1 p2 a2 a4)).bind fun S6 =>
  (gr S6 1 p1 4).bind fun a7 =>
  (pi S6 3 a7 1 (0 : Int32)).bind fun S8 =>
  (cal S8 10 h (f10_makeEdit X S8 h p1 p2)).bind fun S9 =>
  some S9
theorem hdX_X10_editPlainly : yX10_editPlainly.cls = "FarEditors$World" ∧ yX10_editPlainly.cls ≠ "java/lang/invoke/MethodHandle" ∧ yX10_editPlainly.cls ≠ "java/lang/invoke/VarHandle" ∧ (parseMethodDescriptor yX10_editPlainly.desc).map (fun d => d.parameters.length) = some 2 := by decide +kernel
set_option maxHeartbeats 4000000 in
set_option maxRecDepth 100000 in
theorem c10_editPlainly (l : Launch) (D : va_G) (y : CyT) (X : Nat × Nat) (hX : X.2 ≤ 100000000) {S S' : CS} {h : Nat} {p1 : Nat} {p2 : Nat} (hf : f10_editPlainly X S h p1 p2 = some S') : CT l D y yX10_editPlainly cX10_editPlainly 3 none 4 93 X.1 X.2 [.ref h, .ref p1, .ref p2] (cZ S) (cU S) (cw y S) (cZ S') (cU S') (cw y S') none := by
  refine CT.of (by decide) (Nat.le_of_ble_eq_true rfl) (fun E hc hz hnm => ?_)
  have hc : Cx E "FarEditors$World" cX10_editPlainly 3 := hc
  have hT := hz.2.2.1
  show V E (cZ S) (cU S) (cw y S) 0 [(0, .ref h), (1, .ref p1), (2, .ref p2)] []
  unfold f10_editPlainly at hf
  refine V_aload_n hc dX10_editPlainly_0 rfl 0 rfl ?_
  obtain ⟨a1, ha1, hf⟩ := mb hf
  refine C_getr hc rfl iW10 (by decide) 1 (by decide) rfl ha1 w2_73 dX10_editPlainly_1 ?_
  refine V_aload_n hc dX10_editPlainly_4 rfl 2 rfl ?_
  refine V_aload_n hc dX10_editPlainly_5 rfl 1 rfl ?_
  obtain ⟨a2, ha2, hf⟩ := mb hf
  refine C_getr hc rfl iW1 (by decide) 0 (by decide) rfl ha2 w1_239 dX10_editPlainly_6 ?_
  refine V_aload_n hc dX10_editPlainly_9 rfl 1 rfl ?_
  obtain ⟨a3, ha3, hf⟩ := mb hf
  refine C_getr hc rfl iW1 (by decide) 3 (by decide) rfl ha3 w2_8 dX10_editPlainly_10 ?_
  obtain ⟨a4, S5, ha4, hf⟩ := mb2 hf
  obtain ⟨hka4, ha4⟩ := og ha4
  refine C_callV hc hz (As := []) hka4 (by decide) (c3_addOne l D y _ _ ha4) w4_146 w4_147 w4_148 w1_10 w4_149 hdX_X3_addOne ⟨(Nat.le_of_ble_eq_true rfl), (Nat.le_of_ble_eq_true rfl)⟩ rfl rfl rfl (Nat.le_of_ble_eq_true rfl) dX10_editPlainly_13 ?_
  obtain ⟨S6, hS6, hf⟩ := mb hf
  obtain ⟨hkS6, hS6⟩ := og hS6
  refine C_callV hc hz (As := [.ref p2, .ref a2, .ref a4]) hkS6 (by decide) (c9_invert l D y X hX hS6) w4_150 w4_151 w4_152 w1_3 w4_153 hdX_X9_invert ⟨(Nat.le_of_ble_eq_true rfl), (Nat.le_of_ble_eq_true rfl)⟩ rfl rfl rfl (Nat.le_of_ble_eq_true rfl) dX10_editPlainly_16 ?_
  refine V_aload_n hc dX10_editPlainly_19 rfl 1 rfl ?_
  obtain ⟨a7, ha7, hf⟩ := mb hf
  refine C_getr hc rfl iW1 (by decide) 4 (by decide) rfl ha7 w2_11 dX10_editPlainly_20 ?_
  refine V_iconst hc (v := (0 : Int32)) dX10_editPlainly_23 rfl ?_
  obtain ⟨S8, hS8, hf⟩ := mb hf
  refine C_puti hc rfl iW3 tyX3 tyX3_ok nmX3 (by decide) 1 (by decide) rfl hS8 w1_231 rfl rfl rfl dX10_editPlainly_24 ?_
  refine V_aload_n hc dX10_editPlainly_27 rfl 0 rfl ?_
  refine V_aload_n hc dX10_editPlainly_28 rfl 1 rfl ?_
  refine V_aload_n hc dX10_editPlainly_29 rfl 2 rfl ?_
  obtain ⟨S9, hS9, hf⟩ := mb hf
  obtain ⟨hkS9, hS9⟩ := og hS9
  refine C_callV hc hz (As := [.ref p1, .ref p2]) hkS9 (by decide) (c10_makeEdit l D y X hX hS9) w4_159 w4_161 wp3_0 w1_8 w4_162 hdX_X10_makeEdit ⟨(Nat.le_of_ble_eq_true rfl), (Nat.le_of_ble_eq_true rfl)⟩ rfl rfl rfl (Nat.le_of_ble_eq_true rfl) dX10_editPlainly_30 ?_
  obtain rfl := Option.some.inj hf
  exact V_vret hc hz rfl rfl rfl rfl dX10_editPlainly_33
noncomputable def f10_editByInverse (X : Nat × Nat) (S : CS) (h : Nat) (p1 : Nat) (p2 : Nat) (p3 : Nat) (p4 : Int32) : Option (CS) :=
  if p4 < 0 then (
    some S
  ) else (
    (gi S 3 p2 1).bind fun v1 =>
    if p4 < v1 then (
      (gr S 3 p2 0).bind fun a2 =>
      (ldr S 17 a2 p4).bind fun a3 =>
      (pi S 3 p2 1 p4).bind fun S4 =>
      (gr S4 10 h 1).bind fun a5 =>
      (gr S4 1 p1 0).bind fun a6 =>
      bn2 (cal S4 3 p3 (f3_addOne S4 p3)) fun a7 S8 =>
      (cal S8 9 a5 (f9_invert X S8 a5 a3 a6 a7)).bind fun S9 =>
      (cal S9 10 h (f10_makeEdit X S9 h p1 a3)).bind fun S10 =>
      some S10
    ) else (
      some S
    )
  )
theorem hdX_X10_editByInverse : yX10_editByInverse.cls = "FarEditors$World" ∧ yX10_editByInverse.cls ≠ "java/lang/invoke/MethodHandle" ∧ yX10_editByInverse.cls ≠ "java/lang/invoke/VarHandle" ∧ (parseMethodDescriptor yX10_editByInverse.desc).map (fun d => d.parameters.length) = some 4 := by decide +kernel
set_option maxHeartbeats 4000000 in
set_option maxRecDepth 100000 in
theorem c10_editByInverse (l : Launch) (D : va_G) (y : CyT) (X : Nat × Nat) (hX : X.2 ≤ 100000000) {S S' : CS} {h : Nat} {p1 : Nat} {p2 : Nat} {p3 : Nat} {p4 : Int32} (hf : f10_editByInverse X S h p1 p2 p3 p4 = some S') : CT l D y yX10_editByInverse cX10_editByInverse 6 none 4 93 X.1 X.2 [.ref h, .ref p1, .ref p2, .ref p3, .int p4] (cZ S) (cU S) (cw y S) (cZ S') (cU S') (cw y S') none := by
  refine CT.of (by decide) (Nat.le_of_ble_eq_true rfl) (fun E hc hz hnm => ?_)
  have hc : Cx E "FarEditors$World" cX10_editByInverse 6 := hc
  have hT := hz.2.2.1
  show V E (cZ S) (cU S) (cw y S) 0 [(0, .ref h), (1, .ref p1), (2, .ref p2), (3, .ref p3), (4, .int p4)] []
  unfold f10_editByInverse at hf
  refine V_iload hc dX10_editByInverse_0 4 rfl ?_
  refine V_if_lt hc dX10_editByInverse_2 rfl (fun hq2 => ?_) (fun hq2 => ?_)
  · rw [if_pos hq2] at hf
    obtain rfl := Option.some.inj hf
    exact V_vret hc hz rfl rfl rfl rfl dX10_editByInverse_14
  · rw [if_neg hq2] at hf
    refine V_iload hc dX10_editByInverse_5 4 rfl ?_
    refine V_aload_n hc dX10_editByInverse_7 rfl 2 rfl ?_
    obtain ⟨v1, hv1, hf⟩ := mb hf
    refine C_geti hc rfl iW3 (by decide) 1 (by decide) rfl hv1 w1_231 dX10_editByInverse_8 ?_
    refine V_icmp_lt hc dX10_editByInverse_11 rfl (fun hq11 => ?_) (fun hq11 => ?_)
    · rw [if_pos hq11] at hf
      refine V_aload_n hc dX10_editByInverse_15 rfl 2 rfl ?_
      obtain ⟨a2, ha2, hf⟩ := mb hf
      refine C_getr hc rfl iW3 (by decide) 0 (by decide) rfl ha2 w1_225 dX10_editByInverse_16 ?_
      refine V_iload hc dX10_editByInverse_19 4 rfl ?_
      obtain ⟨a3, ha3, hf⟩ := mb hf
      refine C_aald hc hT (by decide) (by decide) ha3 dX10_editByInverse_21 ?_
      refine V_astore hc dX10_editByInverse_22 (by decide) rfl ?_
      refine V_aload_n hc dX10_editByInverse_24 rfl 3 rfl ?_
      refine V_iload hc dX10_editByInverse_25 5 rfl ?_
      obtain ⟨S4, hS4, hf⟩ := mb hf
      refine C_puti hc rfl iW3 tyX3 tyX3_ok nmX3 (by decide) 1 (by decide) rfl hS4 w1_231 rfl rfl rfl dX10_editByInverse_27 ?_
      refine V_aload_n hc dX10_editByInverse_30 rfl 1 rfl ?_
      obtain ⟨a5, ha5, hf⟩ := mb hf
      refine C_getr hc rfl iW10 (by decide) 1 (by decide) rfl ha5 w2_73 dX10_editByInverse_31 ?_
      refine V_aload hc dX10_editByInverse_34 0 rfl ?_
      refine V_aload_n hc dX10_editByInverse_36 rfl 2 rfl ?_
      obtain ⟨a6, ha6, hf⟩ := mb hf
      refine C_getr hc rfl iW1 (by decide) 0 (by decide) rfl ha6 w1_239 dX10_editByInverse_37 ?_
      refine V_aload_n hc dX10_editByInverse_40 rfl 4 rfl ?_
      obtain ⟨a7, S8, ha7, hf⟩ := mb2 hf
      obtain ⟨hka7, ha7⟩ := og ha7
      refine C_callV hc hz (As := []) hka7 (by decide) (c3_addOne l D y _ _ ha7) w4_146 w4_147 w4_148 w1_10 w4_149 hdX_X3_addOne ⟨(Nat.le_of_ble_eq_true rfl), (Nat.le_of_ble_eq_true rfl)⟩ rfl rfl rfl (Nat.le_of_ble_eq_true rfl) dX10_editByInverse_41 ?_
      obtain ⟨S9, hS9, hf⟩ := mb hf
      obtain ⟨hkS9, hS9⟩ := og hS9
      refine C_callV hc hz (As := [.ref a3, .ref a6, .ref a7]) hkS9 (by decide) (c9_invert l D y X hX hS9) w4_150 w4_151 w4_152 w1_3 w4_153 hdX_X9_invert ⟨(Nat.le_of_ble_eq_true rfl), (Nat.le_of_ble_eq_true rfl)⟩ rfl rfl rfl (Nat.le_of_ble_eq_true rfl) dX10_editByInverse_44 ?_
      refine V_aload_n hc dX10_editByInverse_47 rfl 1 rfl ?_
      refine V_aload_n hc dX10_editByInverse_48 rfl 2 rfl ?_
      refine V_aload hc dX10_editByInverse_49 0 rfl ?_
      obtain ⟨S10, hS10, hf⟩ := mb hf
      obtain ⟨hkS10, hS10⟩ := og hS10
      refine C_callV hc hz (As := [.ref p1, .ref a3]) hkS10 (by decide) (c10_makeEdit l D y X hX hS10) w4_159 w4_161 wp3_0 w1_8 w4_162 hdX_X10_makeEdit ⟨(Nat.le_of_ble_eq_true rfl), (Nat.le_of_ble_eq_true rfl)⟩ rfl rfl rfl (Nat.le_of_ble_eq_true rfl) dX10_editByInverse_51 ?_
      obtain rfl := Option.some.inj hf
      exact V_vret hc hz rfl rfl rfl rfl dX10_editByInverse_54
    · rw [if_neg hq11] at hf
      obtain rfl := Option.some.inj hf
      exact V_vret hc hz rfl rfl rfl rfl dX10_editByInverse_14
