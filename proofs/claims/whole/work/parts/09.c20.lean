noncomputable def f11_back (X : Nat × Nat) (S : CS) (h : Nat) : Option (Int32 × CS) :=
  (gr S 11 h 5).bind fun a1 =>
  (gr S 11 h 3).bind fun a2 =>
  bn2 (cal S 2 a1 (f2_restore X S a1 a2)) fun v3 S4 =>
  bn2 (
    if v3 = 0 then (
      bn2 (cal S4 11 h (f11_refuseFlatly S4 h (5 : Int32))) fun v8 S9 =>
      if v8 = 0 then (
        some ((0 : Int32), S9)
      ) else (
        some ((1 : Int32), S9)
      )
    ) else (
      some ((1 : Int32), S4)
    )
  ) fun v5 S6 =>
  (bz v5).bind fun v10 =>
  some (v10, S6)
theorem hdX_X11_back : yX11_back.cls = "FarEditors" ∧ yX11_back.cls ≠ "java/lang/invoke/MethodHandle" ∧ yX11_back.cls ≠ "java/lang/invoke/VarHandle" ∧ (parseMethodDescriptor yX11_back.desc).map (fun d => d.parameters.length) = some 0 := by decide +kernel
set_option maxHeartbeats 4000000 in
set_option maxRecDepth 100000 in
theorem c11_back (l : Launch) (D : va_G) (y : CyT) (X : Nat × Nat) (hX : X.2 ≤ 100000000) {S S' : CS} {h : Nat} {r : Int32} (hf : f11_back X S h = some (r, S')) : CT l D y yX11_back cX11_back 1 (some .boolean) 6 135 X.1 X.2 [.ref h] (cZ S) (cU S) (cw y S) (cZ S') (cU S') (cw y S') (some (.int r)) := by
  refine CT.of (by decide) (Nat.le_of_ble_eq_true rfl) (fun E hc hzz hnm => ?_)
  have hc : Cx E "FarEditors" cX11_back 1 := hc
  have hz := hzz.1
  have hT := hz.2.2.1
  show V E (cZ S) (cU S) (cw y S) 0 [(0, .ref h)] []
  unfold f11_back at hf
  refine V_aload_n hc dX11_back_0 rfl 0 rfl ?_
  obtain ⟨a1, ha1, hf⟩ := mb hf
  refine C_getr hc rfl iW11 (by decide) 5 (by decide) rfl ha1 w2_198 dX11_back_1 ?_
  refine V_aload_n hc dX11_back_4 rfl 0 rfl ?_
  obtain ⟨a2, ha2, hf⟩ := mb hf
  refine C_getr hc rfl iW11 (by decide) 3 (by decide) rfl ha2 w2_196 dX11_back_5 ?_
  obtain ⟨v3, S4, hv3, hf⟩ := mb2 hf
  obtain ⟨hkv3, hv3⟩ := og hv3
  refine C_callV hc hz (As := [.ref a2]) hkv3 (by decide) (c2_restore l D y X hX hv3) w6_39 w6_40 w6_41 w1_11 w6_42 hdX_X2_restore ⟨(Nat.le_of_ble_eq_true rfl), (Nat.le_of_ble_eq_true rfl)⟩ rfl rfl rfl (Nat.le_of_ble_eq_true rfl) dX11_back_8 ?_
  obtain ⟨v5, S6, hv7, hf⟩ := mb2 hf
  have hJ11 : V E (cZ S6) (cU S6) (cw y S6) 27 [] [.int v5] := by
    obtain ⟨v10, hv10, hf⟩ := mb hf
    obtain ⟨hbv10, rfl⟩ := bz_some hv10
    obtain ⟨rfl, rfl⟩ := si2 hf
    exact V_iret hc hzz (bz_nar hbv10) rfl rfl rfl rfl dX11_back_27
  refine V_if_ne hc dX11_back_11 rfl (fun hq11 => ?_) (fun hq11 => ?_)
  · rw [if_neg hq11] at hv7
    refine V_iconst hc (v := (1 : Int32)) dX11_back_22 rfl ?_
    refine V_goto hc dX11_back_23 rfl ?_
    obtain ⟨rfl, rfl⟩ := si2 hv7
    exact V_sub [] rfl hJ11
  · rw [if_pos hq11] at hv7
    refine V_aload_n hc dX11_back_14 rfl 0 rfl ?_
    refine V_iconst hc (v := (5 : Int32)) dX11_back_15 rfl ?_
    obtain ⟨v8, S9, hv8, hv7⟩ := mb2 hv7
    obtain ⟨hkv8, hv8⟩ := og hv8
    refine C_callV hc hz (As := [.int (5 : Int32)]) hkv8 (by decide) (c11_refuseFlatly l D y _ _ hv8) w3_16 w3_18 wp1_1 w1_1 w3_19 hdX_X11_refuseFlatly ⟨(Nat.le_of_ble_eq_true rfl), (Nat.le_of_ble_eq_true rfl)⟩ rfl rfl rfl (Nat.le_of_ble_eq_true rfl) dX11_back_16 ?_
    refine V_if_eq hc dX11_back_19 rfl (fun hq19 => ?_) (fun hq19 => ?_)
    · rw [if_pos hq19] at hv7
      refine V_iconst hc (v := (0 : Int32)) dX11_back_26 rfl ?_
      obtain ⟨rfl, rfl⟩ := si2 hv7
      exact V_sub [] rfl hJ11
    · rw [if_neg hq19] at hv7
      refine V_iconst hc (v := (1 : Int32)) dX11_back_22 rfl ?_
      refine V_goto hc dX11_back_23 rfl ?_
      obtain ⟨rfl, rfl⟩ := si2 hv7
      exact V_sub [] rfl hJ11
noncomputable def f11_seed (S : CS) (h : Nat) (p1 : Int32) : Option (Int32 × CS) :=
  if 0 ≤ p1 then (
    (pi S 11 h 13 p1).bind fun S1 =>
    some ((1 : Int32), S1)
  ) else (
    bn2 (cal S 11 h (f11_refuseFlatly S h (6 : Int32))) fun v2 S3 =>
    (bz v2).bind fun v4 =>
    some (v4, S3)
  )
theorem hdX_X11_seed : yX11_seed.cls = "FarEditors" ∧ yX11_seed.cls ≠ "java/lang/invoke/MethodHandle" ∧ yX11_seed.cls ≠ "java/lang/invoke/VarHandle" ∧ (parseMethodDescriptor yX11_seed.desc).map (fun d => d.parameters.length) = some 1 := by decide +kernel
set_option maxHeartbeats 4000000 in
set_option maxRecDepth 100000 in
theorem c11_seed (l : Launch) (D : va_G) (y : CyT) (zM uM : Nat) {S S' : CS} {h : Nat} {p1 : Int32} {r : Int32} (hf : f11_seed S h p1 = some (r, S')) : CT l D y yX11_seed cX11_seed 2 (some .boolean) 2 42 zM uM [.ref h, .int p1] (cZ S) (cU S) (cw y S) (cZ S') (cU S') (cw y S') (some (.int r)) := by
  refine CT.of (by decide) (Nat.le_of_ble_eq_true rfl) (fun E hc hzz hnm => ?_)
  have hc : Cx E "FarEditors" cX11_seed 2 := hc
  have hz := hzz.1
  have hT := hz.2.2.1
  show V E (cZ S) (cU S) (cw y S) 0 [(0, .ref h), (1, .int p1)] []
  unfold f11_seed at hf
  refine V_iload_n hc dX11_seed_0 rfl 1 rfl ?_
  refine V_if_ge hc dX11_seed_1 rfl (fun hq1 => ?_) (fun hq1 => ?_)
  · rw [if_pos hq1] at hf
    refine V_aload_n hc dX11_seed_11 rfl 0 rfl ?_
    refine V_iload_n hc dX11_seed_12 rfl 1 rfl ?_
    obtain ⟨S1, hS1, hf⟩ := mb hf
    refine C_puti hc rfl iW11 tyX11 tyX11_ok nmX11 (by decide) 13 (by decide) rfl hS1 w2_206 rfl rfl rfl dX11_seed_13 ?_
    refine V_iconst hc (v := (1 : Int32)) dX11_seed_16 rfl ?_
    obtain ⟨rfl, rfl⟩ := si2 hf
    exact V_iret hc hzz rfl rfl rfl rfl rfl dX11_seed_17
  · rw [if_neg hq1] at hf
    refine V_aload_n hc dX11_seed_4 rfl 0 rfl ?_
    refine V_bipush hc (v := (6 : Int32)) dX11_seed_5 rfl ?_
    obtain ⟨v2, S3, hv2, hf⟩ := mb2 hf
    obtain ⟨hkv2, hv2⟩ := og hv2
    refine C_callV hc hz (As := [.int (6 : Int32)]) hkv2 (by decide) (c11_refuseFlatly l D y _ _ hv2) w3_16 w3_18 wp1_1 w1_1 w3_19 hdX_X11_refuseFlatly ⟨(Nat.le_of_ble_eq_true rfl), (Nat.le_of_ble_eq_true rfl)⟩ rfl rfl rfl (Nat.le_of_ble_eq_true rfl) dX11_seed_7 ?_
    obtain ⟨v4, hv4, hf⟩ := mb hf
    obtain ⟨hbv4, rfl⟩ := bz_some hv4
    obtain ⟨rfl, rfl⟩ := si2 hf
    exact V_iret hc hzz (bz_nar hbv4) rfl rfl rfl rfl dX11_seed_10
noncomputable def f11_status (S : CS) (h : Nat) (p1 : Int32) : Option (Int32) :=
  (
    if p1 < 0 then (
      some (-1 : Int32)
    ) else (
      (gr S 11 h 10).bind fun a3 =>
      (aln S 14 a3).bind fun v4 =>
      if v4 ≤ p1 then (
        some (-1 : Int32)
      ) else (
        (gr S 11 h 10).bind fun a5 =>
        (ldi S a5 p1).bind fun v6 =>
        some v6
      )
    )
  ).bind fun v1 =>
  some v1
theorem hdX_X11_status : yX11_status.cls = "FarEditors" ∧ yX11_status.cls ≠ "java/lang/invoke/MethodHandle" ∧ yX11_status.cls ≠ "java/lang/invoke/VarHandle" ∧ (parseMethodDescriptor yX11_status.desc).map (fun d => d.parameters.length) = some 1 := by decide +kernel
set_option maxHeartbeats 4000000 in
set_option maxRecDepth 100000 in
theorem c11_status (l : Launch) (D : va_G) (y : CyT) (zM uM : Nat) {S : CS} {h : Nat} {p1 : Int32} {r : Int32} (hf : f11_status S h p1 = some r) : CT l D y yX11_status cX11_status 2 (some .int) 0 0 zM uM [.ref h, .int p1] (cZ S) (cU S) (cw y S) (cZ S) (cU S) (cw y S) (some (.int r)) := by
  refine CT.of (by decide) (Nat.le_of_ble_eq_true rfl) (fun E hc hzz hnm => ?_)
  have hc : Cx E "FarEditors" cX11_status 2 := hc
  have hz := hzz.1
  have hT := hz.2.2.1
  show V E (cZ S) (cU S) (cw y S) 0 [(0, .ref h), (1, .int p1)] []
  unfold f11_status at hf
  refine V_iload_n hc dX11_status_0 rfl 1 rfl ?_
  obtain ⟨v1, hv2, hf⟩ := mb hf
  have hJ1 : V E (cZ S) (cU S) (cw y S) 23 [] [.int v1] := by
    obtain rfl := Option.some.inj hf
    exact V_iret hc hzz rfl rfl rfl rfl rfl dX11_status_23
  refine V_if_lt hc dX11_status_1 rfl (fun hq1 => ?_) (fun hq1 => ?_)
  · rw [if_pos hq1] at hv2
    refine V_iconst hc (v := (-1 : Int32)) dX11_status_22 rfl ?_
    obtain rfl := Option.some.inj hv2
    exact V_sub [] rfl hJ1
  · rw [if_neg hq1] at hv2
    refine V_iload_n hc dX11_status_4 rfl 1 rfl ?_
    refine V_aload_n hc dX11_status_5 rfl 0 rfl ?_
    obtain ⟨a3, ha3, hv2⟩ := mb hv2
    refine C_getr hc rfl iW11 (by decide) 10 (by decide) rfl ha3 w2_203 dX11_status_6 ?_
    obtain ⟨v4, hv4, hv2⟩ := mb hv2
    refine C_alen hc hT hv4 dX11_status_9 ?_
    refine V_icmp_ge hc dX11_status_10 rfl (fun hq10 => ?_) (fun hq10 => ?_)
    · rw [if_pos hq10] at hv2
      refine V_iconst hc (v := (-1 : Int32)) dX11_status_22 rfl ?_
      obtain rfl := Option.some.inj hv2
      exact V_sub [] rfl hJ1
    · rw [if_neg hq10] at hv2
      refine V_aload_n hc dX11_status_13 rfl 0 rfl ?_
      obtain ⟨a5, ha5, hv2⟩ := mb hv2
      refine C_getr hc rfl iW11 (by decide) 10 (by decide) rfl ha5 w2_203 dX11_status_14 ?_
      refine V_iload_n hc dX11_status_17 rfl 1 rfl ?_
      obtain ⟨v6, hv6, hv2⟩ := mb hv2
      refine C_iald hc hT hv6 dX11_status_18 ?_
      refine V_goto hc dX11_status_19 rfl ?_
      obtain rfl := Option.some.inj hv2
      exact V_sub [] rfl hJ1
