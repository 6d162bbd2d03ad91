noncomputable def f8_readSign (S : CS) (h : Nat) (p1 : Int32) : Option (Int32 × CS) :=
  (cal S 8 h (f8_skipBlanks S h)).bind fun S1 =>
  (cal S1 8 h (f8_look S1 h)).bind fun v2 =>
  if v2 = p1 then (
    (gi S1 8 h 11).bind fun v3 =>
    (pi S1 8 h 11 (v3 + (1 : Int32))).bind fun S4 =>
    some ((1 : Int32), S4)
  ) else (
    (gi S1 8 h 11).bind fun v5 =>
    bn2 (cal S1 8 h (f8_fail S1 h (1 : Int32) v5)) fun v6 S7 =>
    (bz v6).bind fun v8 =>
    some (v8, S7)
  )
theorem hdX_X8_readSign : yX8_readSign.cls = "FarEditors$Told" ∧ yX8_readSign.cls ≠ "java/lang/invoke/MethodHandle" ∧ yX8_readSign.cls ≠ "java/lang/invoke/VarHandle" ∧ (parseMethodDescriptor yX8_readSign.desc).map (fun d => d.parameters.length) = some 1 := by decide +kernel
set_option maxHeartbeats 4000000 in
set_option maxRecDepth 100000 in
theorem c8_readSign (l : Launch) (D : va_G) (y : CyT) (zM uM : Nat) {S S' : CS} {h : Nat} {p1 : Int32} {r : Int32} (hf : f8_readSign S h p1 = some (r, S')) : CT l D y yX8_readSign cX8_readSign 2 (some .boolean) 1 22 zM uM [.ref h, .int p1] (cZ S) (cU S) (cw y S) (cZ S') (cU S') (cw y S') (some (.int r)) := by
  refine CT.of (by decide) (Nat.le_of_ble_eq_true rfl) (fun E hc hzz hnm => ?_)
  have hc : Cx E "FarEditors$Told" cX8_readSign 2 := hc
  have hz := hzz.1
  have hT := hz.2.2.1
  show V E (cZ S) (cU S) (cw y S) 0 [(0, .ref h), (1, .int p1)] []
  unfold f8_readSign at hf
  refine V_aload_n hc dX8_readSign_0 rfl 0 rfl ?_
  obtain ⟨S1, hS1, hf⟩ := mb hf
  obtain ⟨hkS1, hS1⟩ := og hS1
  refine C_callV hc hz (As := []) hkS1 (by decide) (c8_skipBlanks l D y _ _ hS1) w3_36 w3_38 wp1_4 w1_2 w3_39 hdX_X8_skipBlanks ⟨(Nat.le_of_ble_eq_true rfl), (Nat.le_of_ble_eq_true rfl)⟩ rfl rfl rfl (Nat.le_of_ble_eq_true rfl) dX8_readSign_1 ?_
  refine V_aload_n hc dX8_readSign_4 rfl 0 rfl ?_
  obtain ⟨v2, hv2, hf⟩ := mb hf
  obtain ⟨hkv2, hv2⟩ := og hv2
  refine C_callV hc hz (As := []) hkv2 (by decide) (c8_look l D y _ _ hv2) w3_169 w3_171 wp2_5 w1_2 w3_172 hdX_X8_look ⟨(Nat.le_of_ble_eq_true rfl), (Nat.le_of_ble_eq_true rfl)⟩ rfl rfl rfl (Nat.le_of_ble_eq_true rfl) dX8_readSign_5 ?_
  refine V_iload_n hc dX8_readSign_8 rfl 1 rfl ?_
  refine V_icmp_eq hc dX8_readSign_9 rfl (fun hq9 => ?_) (fun hq9 => ?_)
  · rw [if_pos hq9] at hf
    refine V_aload_n hc dX8_readSign_22 rfl 0 rfl ?_
    refine V_dup hc dX8_readSign_23 rfl ?_
    obtain ⟨v3, hv3, hf⟩ := mb hf
    refine C_geti hc rfl iW8 (by decide) 11 (by decide) rfl hv3 w1_56 dX8_readSign_24 ?_
    refine V_iconst hc (v := (1 : Int32)) dX8_readSign_27 rfl ?_
    refine V_iadd hc dX8_readSign_28 ?_
    obtain ⟨S4, hS4, hf⟩ := mb hf
    refine C_puti hc rfl iW8 tyX8 tyX8_ok nmX8 (by decide) 11 (by decide) rfl hS4 w1_56 rfl rfl rfl dX8_readSign_29 ?_
    refine V_iconst hc (v := (1 : Int32)) dX8_readSign_32 rfl ?_
    obtain ⟨rfl, rfl⟩ := si2 hf
    exact V_iret hc hzz rfl rfl rfl rfl rfl dX8_readSign_33
  · rw [if_neg hq9] at hf
    refine V_aload_n hc dX8_readSign_12 rfl 0 rfl ?_
    refine V_iconst hc (v := (1 : Int32)) dX8_readSign_13 rfl ?_
    refine V_aload_n hc dX8_readSign_14 rfl 0 rfl ?_
    obtain ⟨v5, hv5, hf⟩ := mb hf
    refine C_geti hc rfl iW8 (by decide) 11 (by decide) rfl hv5 w1_56 dX8_readSign_15 ?_
    obtain ⟨v6, S7, hv6, hf⟩ := mb2 hf
    obtain ⟨hkv6, hv6⟩ := og hv6
    refine C_callV hc hz (As := [.int (1 : Int32), .int v5]) hkv6 (by decide) (c8_fail l D y _ _ hv6) w3_113 w3_115 wp1_8 w1_2 w3_116 hdX_X8_fail ⟨(Nat.le_of_ble_eq_true rfl), (Nat.le_of_ble_eq_true rfl)⟩ rfl rfl rfl (Nat.le_of_ble_eq_true rfl) dX8_readSign_18 ?_
    obtain ⟨v8, hv8, hf⟩ := mb hf
    obtain ⟨hbv8, rfl⟩ := bz_some hv8
    obtain ⟨rfl, rfl⟩ := si2 hf
    exact V_iret hc hzz (bz_nar hbv8) rfl rfl rfl rfl dX8_readSign_21
noncomputable def LX8_readSession_6 (h : Nat) : Nat → Int32 → CS → Option (CS)
  | 0, _, _ => none
  | n + 1, i1, S =>
    if (60 : Int32) ≤ i1 then (
      some S
    ) else (
      (gi S 8 h 2).bind fun v1 =>
      if v1 = 0 then (
        if i1 = 0 then (
          bn2 (cal S 8 h (f8_readKeyword S h)) fun v2 S3 =>
          (gr S3 8 h 9).bind fun a4 =>
          (gi S3 8 h 4).bind fun v5 =>
          (sti S3 a4 v5 v2).bind fun S6 =>
          (
            if v2 = (-1 : Int32) then (
              some S6
            ) else (
              bn2 (cal S6 8 h (f8_readRest S6 h v2)) fun v9 S10 =>
              if v9 = 0 then (
                some S10
              ) else (
                bn2 (cal S10 8 h (f8_readSign S10 h (59 : Int32))) fun v11 S12 =>
                if v11 = 0 then (
                  some S12
                ) else (
                  (gi S12 8 h 4).bind fun v13 =>
                  (pi S12 8 h 4 (v13 + (1 : Int32))).bind fun S14 =>
                  (cal S14 8 h (f8_skipBlanks S14 h)).bind fun S15 =>
                  some S15
                )
              )
            )
          ).bind fun S7 =>
          LX8_readSession_6 h n (i1 + (1 : Int32)) S7
        ) else (
          (gi S 8 h 11).bind fun v16 =>
          (gi S 8 h 1).bind fun v17 =>
          if v17 ≤ v16 then (
            some S
          ) else (
            bn2 (cal S 8 h (f8_readKeyword S h)) fun v18 S19 =>
            (gr S19 8 h 9).bind fun a20 =>
            (gi S19 8 h 4).bind fun v21 =>
            (sti S19 a20 v21 v18).bind fun S22 =>
            (
              if v18 = (-1 : Int32) then (
                some S22
              ) else (
                bn2 (cal S22 8 h (f8_readRest S22 h v18)) fun v25 S26 =>
                if v25 = 0 then (
                  some S26
                ) else (
                  bn2 (cal S26 8 h (f8_readSign S26 h (59 : Int32))) fun v27 S28 =>
                  if v27 = 0 then (
                    some S28
                  ) else (
                    (gi S28 8 h 4).bind fun v29 =>
                    (pi S28 8 h 4 (v29 + (1 : Int32))).bind fun S30 =>
                    (cal S30 8 h (f8_skipBlanks S30 h)).bind fun S31 =>
                    some S31
                  )
                )
              )
            ).bind fun S23 =>
            LX8_readSession_6 h n (i1 + (1 : Int32)) S23
          )
        )
      ) else (
        some S
      )
    )
noncomputable def f8_readSession (S : CS) (h : Nat) : Option (Int32 × CS) :=
  (cal S 8 h (f8_open S h)).bind fun S1 =>
  (LX8_readSession_6 h FU (0 : Int32) S1).bind fun S2 =>
  (gi S2 8 h 2).bind fun v4 =>
  (
    if v4 = 0 then (
      (gi S2 8 h 11).bind fun v7 =>
      (gi S2 8 h 1).bind fun v8 =>
      if v8 ≤ v7 then (
        some S2
      ) else (
        (gi S2 8 h 11).bind fun v9 =>
        bn2 (cal S2 8 h (f8_fail S2 h (5 : Int32) v9)) fun v10 S11 =>
        some S11
      )
    ) else (
      some S2
    )
  ).bind fun S5 =>
  (pi S5 8 h 1 (0 : Int32)).bind fun S12 =>
  (gi S12 8 h 2).bind fun v13 =>
  (
    if v13 = 0 then (
      some (1 : Int32)
    ) else (
      some (0 : Int32)
    )
  ).bind fun v14 =>
  (bz v14).bind fun v16 =>
  some (v16, S12)
theorem hdX_X8_readSession : yX8_readSession.cls = "FarEditors$Told" ∧ yX8_readSession.cls ≠ "java/lang/invoke/MethodHandle" ∧ yX8_readSession.cls ≠ "java/lang/invoke/VarHandle" ∧ (parseMethodDescriptor yX8_readSession.desc).map (fun d => d.parameters.length) = some 0 := by decide +kernel
set_option maxHeartbeats 4000000 in
set_option maxRecDepth 100000 in
theorem LX8_readSession_6_ok {E : CxT} {l : Launch} {D : va_G} {y : CyT} {zM uM : Nat} (hc : Cx E "FarEditors$Told" cX8_readSession 3) (h : Nat) (hz : Cy E l D y 8 173 zM uM) : ∀ (n : Nat) (i1 : Int32) (S : CS) {So : CS}, LX8_readSession_6 h n i1 S = some So → (hx0 : V E (cZ So) (cU So) (cw y So) 91 [(0, .ref h)] []) → V E (cZ S) (cU S) (cw y S) 6 [(0, .ref h), (1, .int i1)] [] := by
  have hT := hz.2.2.1
  intro n
  induction n with
  | zero => intro i1 S So hf; cases hf
  | succ n ih =>
    intro i1 S So hf hx0
    unfold LX8_readSession_6 at hf
    refine V_iload_n hc dX8_readSession_6 rfl 1 rfl ?_
    refine V_bipush hc (v := (60 : Int32)) dX8_readSession_7 rfl ?_
    refine V_icmp_ge hc dX8_readSession_9 rfl (fun hq9 => ?_) (fun hq9 => ?_)
    · rw [if_pos hq9] at hf
      obtain rfl := Option.some.inj hf
      exact V_sub [0] rfl hx0
    · rw [if_neg hq9] at hf
      refine V_aload_n hc dX8_readSession_12 rfl 0 rfl ?_
      obtain ⟨v1, hv1, hf⟩ := mb hf
      refine C_geti hc rfl iW8 (by decide) 2 (by decide) rfl hv1 w1_39 dX8_readSession_13 ?_
      refine V_if_ne hc dX8_readSession_16 rfl (fun hq16 => ?_) (fun hq16 => ?_)
      · rw [if_neg hq16] at hf
        obtain rfl := Option.some.inj hf
        exact V_sub [0] rfl hx0
      · rw [if_pos hq16] at hf
        refine V_iload_n hc dX8_readSession_19 rfl 1 rfl ?_
        refine V_if_eq hc dX8_readSession_20 rfl (fun hq20 => ?_) (fun hq20 => ?_)
        · rw [if_pos hq20] at hf
          refine V_aload_n hc dX8_readSession_34 rfl 0 rfl ?_
          obtain ⟨v2, S3, hv2, hf⟩ := mb2 hf
          obtain ⟨hkv2, hv2⟩ := og hv2
          refine C_callV hc hz (As := []) hkv2 (by decide) (c8_readKeyword l D y _ _ hv2) w3_32 w3_34 wp1_3 w1_2 w3_35 hdX_X8_readKeyword ⟨(Nat.le_of_ble_eq_true rfl), (Nat.le_of_ble_eq_true rfl)⟩ rfl rfl rfl (Nat.le_of_ble_eq_true rfl) dX8_readSession_35 ?_
          refine V_istore_n hc dX8_readSession_38 rfl (by decide) rfl ?_
          refine V_aload_n hc dX8_readSession_39 rfl 1 rfl ?_
          obtain ⟨a4, ha4, hf⟩ := mb hf
          refine C_getr hc rfl iW8 (by decide) 9 (by decide) rfl ha4 w1_53 dX8_readSession_40 ?_
          refine V_aload_n hc dX8_readSession_43 rfl 1 rfl ?_
          obtain ⟨v5, hv5, hf⟩ := mb hf
          refine C_geti hc rfl iW8 (by decide) 4 (by decide) rfl hv5 w1_43 dX8_readSession_44 ?_
          refine V_iload_n hc dX8_readSession_47 rfl 0 rfl ?_
          obtain ⟨S6, hS6, hf⟩ := mb hf
          refine C_iast hc hT hS6 dX8_readSession_48 ?_
          refine V_iload_n hc dX8_readSession_49 rfl 0 rfl ?_
          refine V_iconst hc (v := (-1 : Int32)) dX8_readSession_50 rfl ?_
          obtain ⟨S7, hv8, hf⟩ := mb hf
          have hJ51 : V E (cZ S7) (cU S7) (cw y S7) 85 [(0, .ref h), (1, .int i1)] [] := by
            refine V_iinc hc (j := 1) (v := (i1 + (1 : Int32))) dX8_readSession_85 rfl rfl (by decide) rfl ?_
            refine V_goto hc dX8_readSession_88 rfl ?_
            exact V_sub [1, 0] rfl (ih _ _ hf hx0)
          refine V_icmp_eq hc dX8_readSession_51 rfl (fun hq51 => ?_) (fun hq51 => ?_)
          · rw [if_pos hq51] at hv8
            obtain rfl := Option.some.inj hv8
            exact V_sub [1, 2] rfl hJ51
          · rw [if_neg hq51] at hv8
            refine V_aload_n hc dX8_readSession_54 rfl 1 rfl ?_
            refine V_iload_n hc dX8_readSession_55 rfl 0 rfl ?_
            obtain ⟨v9, S10, hv9, hv8⟩ := mb2 hv8
            obtain ⟨hkv9, hv9⟩ := og hv9
            refine C_callV hc hz (As := [.int v2]) hkv9 (by decide) (c8_readRest l D y _ _ hv9) w3_125 w3_127 wp1_11 w1_2 w3_128 hdX_X8_readRest ⟨(Nat.le_of_ble_eq_true rfl), (Nat.le_of_ble_eq_true rfl)⟩ rfl rfl rfl (Nat.le_of_ble_eq_true rfl) dX8_readSession_56 ?_
            refine V_if_eq hc dX8_readSession_59 rfl (fun hq59 => ?_) (fun hq59 => ?_)
            · rw [if_pos hq59] at hv8
              obtain rfl := Option.some.inj hv8
              exact V_sub [1, 2] rfl hJ51
            · rw [if_neg hq59] at hv8
              refine V_aload_n hc dX8_readSession_62 rfl 1 rfl ?_
              refine V_bipush hc (v := (59 : Int32)) dX8_readSession_63 rfl ?_
              obtain ⟨v11, S12, hv11, hv8⟩ := mb2 hv8
              obtain ⟨hkv11, hv11⟩ := og hv11
              refine C_callV hc hz (As := [.int (59 : Int32)]) hkv11 (by decide) (c8_readSign l D y _ _ hv11) w3_177 w3_179 wp2_7 w1_2 w3_180 hdX_X8_readSign ⟨(Nat.le_of_ble_eq_true rfl), (Nat.le_of_ble_eq_true rfl)⟩ rfl rfl rfl (Nat.le_of_ble_eq_true rfl) dX8_readSession_65 ?_
              refine V_if_eq hc dX8_readSession_68 rfl (fun hq68 => ?_) (fun hq68 => ?_)
              · rw [if_pos hq68] at hv8
                obtain rfl := Option.some.inj hv8
                exact V_sub [1, 2] rfl hJ51
              · rw [if_neg hq68] at hv8
                refine V_aload_n hc dX8_readSession_71 rfl 1 rfl ?_
                refine V_dup hc dX8_readSession_72 rfl ?_
                obtain ⟨v13, hv13, hv8⟩ := mb hv8
                refine C_geti hc rfl iW8 (by decide) 4 (by decide) rfl hv13 w1_43 dX8_readSession_73 ?_
                refine V_iconst hc (v := (1 : Int32)) dX8_readSession_76 rfl ?_
                refine V_iadd hc dX8_readSession_77 ?_
                obtain ⟨S14, hS14, hv8⟩ := mb hv8
                refine C_puti hc rfl iW8 tyX8 tyX8_ok nmX8 (by decide) 4 (by decide) rfl hS14 w1_43 rfl rfl rfl dX8_readSession_78 ?_
                refine V_aload_n hc dX8_readSession_81 rfl 1 rfl ?_
                obtain ⟨S15, hS15, hv8⟩ := mb hv8
                obtain ⟨hkS15, hS15⟩ := og hS15
                refine C_callV hc hz (As := []) hkS15 (by decide) (c8_skipBlanks l D y _ _ hS15) w3_36 w3_38 wp1_4 w1_2 w3_39 hdX_X8_skipBlanks ⟨(Nat.le_of_ble_eq_true rfl), (Nat.le_of_ble_eq_true rfl)⟩ rfl rfl rfl (Nat.le_of_ble_eq_true rfl) dX8_readSession_82 ?_
                obtain rfl := Option.some.inj hv8
                exact V_sub [1, 2] rfl hJ51
        · rw [if_neg hq20] at hf
          refine V_aload_n hc dX8_readSession_23 rfl 0 rfl ?_
          obtain ⟨v16, hv16, hf⟩ := mb hf
          refine C_geti hc rfl iW8 (by decide) 11 (by decide) rfl hv16 w1_56 dX8_readSession_24 ?_
          refine V_aload_n hc dX8_readSession_27 rfl 0 rfl ?_
          obtain ⟨v17, hv17, hf⟩ := mb hf
          refine C_geti hc rfl iW8 (by decide) 1 (by decide) rfl hv17 w1_37 dX8_readSession_28 ?_
          refine V_icmp_ge hc dX8_readSession_31 rfl (fun hq31 => ?_) (fun hq31 => ?_)
          · rw [if_pos hq31] at hf
            obtain rfl := Option.some.inj hf
            exact V_sub [0] rfl hx0
          · rw [if_neg hq31] at hf
            refine V_aload_n hc dX8_readSession_34 rfl 0 rfl ?_
            obtain ⟨v18, S19, hv18, hf⟩ := mb2 hf
            obtain ⟨hkv18, hv18⟩ := og hv18
            refine C_callV hc hz (As := []) hkv18 (by decide) (c8_readKeyword l D y _ _ hv18) w3_32 w3_34 wp1_3 w1_2 w3_35 hdX_X8_readKeyword ⟨(Nat.le_of_ble_eq_true rfl), (Nat.le_of_ble_eq_true rfl)⟩ rfl rfl rfl (Nat.le_of_ble_eq_true rfl) dX8_readSession_35 ?_
            refine V_istore_n hc dX8_readSession_38 rfl (by decide) rfl ?_
            refine V_aload_n hc dX8_readSession_39 rfl 1 rfl ?_
            obtain ⟨a20, ha20, hf⟩ := mb hf
            refine C_getr hc rfl iW8 (by decide) 9 (by decide) rfl ha20 w1_53 dX8_readSession_40 ?_
            refine V_aload_n hc dX8_readSession_43 rfl 1 rfl ?_
            obtain ⟨v21, hv21, hf⟩ := mb hf
            refine C_geti hc rfl iW8 (by decide) 4 (by decide) rfl hv21 w1_43 dX8_readSession_44 ?_
            refine V_iload_n hc dX8_readSession_47 rfl 0 rfl ?_
            obtain ⟨S22, hS22, hf⟩ := mb hf
            refine C_iast hc hT hS22 dX8_readSession_48 ?_
            refine V_iload_n hc dX8_readSession_49 rfl 0 rfl ?_
            refine V_iconst hc (v := (-1 : Int32)) dX8_readSession_50 rfl ?_
            obtain ⟨S23, hv24, hf⟩ := mb hf
            have hJ51 : V E (cZ S23) (cU S23) (cw y S23) 85 [(0, .ref h), (1, .int i1)] [] := by
              refine V_iinc hc (j := 1) (v := (i1 + (1 : Int32))) dX8_readSession_85 rfl rfl (by decide) rfl ?_
              refine V_goto hc dX8_readSession_88 rfl ?_
              exact V_sub [1, 0] rfl (ih _ _ hf hx0)
            refine V_icmp_eq hc dX8_readSession_51 rfl (fun hq51 => ?_) (fun hq51 => ?_)
            · rw [if_pos hq51] at hv24
              obtain rfl := Option.some.inj hv24
              exact V_sub [1, 2] rfl hJ51
            · rw [if_neg hq51] at hv24
              refine V_aload_n hc dX8_readSession_54 rfl 1 rfl ?_
              refine V_iload_n hc dX8_readSession_55 rfl 0 rfl ?_
              obtain ⟨v25, S26, hv25, hv24⟩ := mb2 hv24
              obtain ⟨hkv25, hv25⟩ := og hv25
              refine C_callV hc hz (As := [.int v18]) hkv25 (by decide) (c8_readRest l D y _ _ hv25) w3_125 w3_127 wp1_11 w1_2 w3_128 hdX_X8_readRest ⟨(Nat.le_of_ble_eq_true rfl), (Nat.le_of_ble_eq_true rfl)⟩ rfl rfl rfl (Nat.le_of_ble_eq_true rfl) dX8_readSession_56 ?_
              refine V_if_eq hc dX8_readSession_59 rfl (fun hq59 => ?_) (fun hq59 => ?_)
              · rw [if_pos hq59] at hv24
                obtain rfl := Option.some.inj hv24
                exact V_sub [1, 2] rfl hJ51
              · rw [if_neg hq59] at hv24
                refine V_aload_n hc dX8_readSession_62 rfl 1 rfl ?_
                refine V_bipush hc (v := (59 : Int32)) dX8_readSession_63 rfl ?_
                obtain ⟨v27, S28, hv27, hv24⟩ := mb2 hv24
                obtain ⟨hkv27, hv27⟩ := og hv27
                refine C_callV hc hz (As := [.int (59 : Int32)]) hkv27 (by decide) (c8_readSign l D y _ _ hv27) w3_177 w3_179 wp2_7 w1_2 w3_180 hdX_X8_readSign ⟨(Nat.le_of_ble_eq_true rfl), (Nat.le_of_ble_eq_true rfl)⟩ rfl rfl rfl (Nat.le_of_ble_eq_true rfl) dX8_readSession_65 ?_
                refine V_if_eq hc dX8_readSession_68 rfl (fun hq68 => ?_) (fun hq68 => ?_)
                · rw [if_pos hq68] at hv24
                  obtain rfl := Option.some.inj hv24
                  exact V_sub [1, 2] rfl hJ51
                · rw [if_neg hq68] at hv24
                  refine V_aload_n hc dX8_readSession_71 rfl 1 rfl ?_
                  refine V_dup hc dX8_readSession_72 rfl ?_
                  obtain ⟨v29, hv29, hv24⟩ := mb hv24
                  refine C_geti hc rfl iW8 (by decide) 4 (by decide) rfl hv29 w1_43 dX8_readSession_73 ?_
                  refine V_iconst hc (v := (1 : Int32)) dX8_readSession_76 rfl ?_
                  refine V_iadd hc dX8_readSession_77 ?_
                  obtain ⟨S30, hS30, hv24⟩ := mb hv24
                  refine C_puti hc rfl iW8 tyX8 tyX8_ok nmX8 (by decide) 4 (by decide) rfl hS30 w1_43 rfl rfl rfl dX8_readSession_78 ?_
                  refine V_aload_n hc dX8_readSession_81 rfl 1 rfl ?_
                  obtain ⟨S31, hS31, hv24⟩ := mb hv24
                  obtain ⟨hkS31, hS31⟩ := og hS31
                  refine C_callV hc hz (As := []) hkS31 (by decide) (c8_skipBlanks l D y _ _ hS31) w3_36 w3_38 wp1_4 w1_2 w3_39 hdX_X8_skipBlanks ⟨(Nat.le_of_ble_eq_true rfl), (Nat.le_of_ble_eq_true rfl)⟩ rfl rfl rfl (Nat.le_of_ble_eq_true rfl) dX8_readSession_82 ?_
                  obtain rfl := Option.some.inj hv24
                  exact V_sub [1, 2] rfl hJ51
set_option maxHeartbeats 4000000 in
set_option maxRecDepth 100000 in
theorem c8_readSession (l : Launch) (D : va_G) (y : CyT) (zM uM : Nat) {S S' : CS} {h : Nat} {r : Int32} (hf : f8_readSession S h = some (r, S')) : CT l D y yX8_readSession cX8_readSession 3 (some .boolean) 8 173 zM uM [.ref h] (cZ S) (cU S) (cw y S) (cZ S') (cU S') (cw y S') (some (.int r)) := by
  refine CT.of (by decide) (Nat.le_of_ble_eq_true rfl) (fun E hc hzz hnm => ?_)
  have hc : Cx E "FarEditors$Told" cX8_readSession 3 := hc
  have hz := hzz.1
  have hT := hz.2.2.1
  show V E (cZ S) (cU S) (cw y S) 0 [(0, .ref h)] []
  unfold f8_readSession at hf
  refine V_aload_n hc dX8_readSession_0 rfl 0 rfl ?_
  obtain ⟨S1, hS1, hf⟩ := mb hf
  obtain ⟨hkS1, hS1⟩ := og hS1
  refine C_callV hc hz (As := []) hkS1 (by decide) (c8_open l D y _ _ hS1) w3_28 w3_30 wp1_2 w1_2 w3_31 hdX_X8_open ⟨(Nat.le_of_ble_eq_true rfl), (Nat.le_of_ble_eq_true rfl)⟩ rfl rfl rfl (Nat.le_of_ble_eq_true rfl) dX8_readSession_1 ?_
  refine V_iconst hc (v := (0 : Int32)) dX8_readSession_4 rfl ?_
  refine V_istore_n hc dX8_readSession_5 rfl (by decide) rfl ?_
  obtain ⟨S2, hv3, hf⟩ := mb hf
  refine V_sub [1, 0] rfl (LX8_readSession_6_ok hc h hz FU _ _ hv3 ?_)
  refine V_aload_n hc dX8_readSession_91 rfl 0 rfl ?_
  obtain ⟨v4, hv4, hf⟩ := mb hf
  refine C_geti hc rfl iW8 (by decide) 2 (by decide) rfl hv4 w1_39 dX8_readSession_92 ?_
  obtain ⟨S5, hv6, hf⟩ := mb hf
  have hJ95 : V E (cZ S5) (cU S5) (cw y S5) 119 [(0, .ref h)] [] := by
    refine V_aload_n hc dX8_readSession_119 rfl 0 rfl ?_
    refine V_iconst hc (v := (0 : Int32)) dX8_readSession_120 rfl ?_
    obtain ⟨S12, hS12, hf⟩ := mb hf
    refine C_puti hc rfl iW8 tyX8 tyX8_ok nmX8 (by decide) 1 (by decide) rfl hS12 w1_37 rfl rfl rfl dX8_readSession_121 ?_
    refine V_aload_n hc dX8_readSession_124 rfl 0 rfl ?_
    obtain ⟨v13, hv13, hf⟩ := mb hf
    refine C_geti hc rfl iW8 (by decide) 2 (by decide) rfl hv13 w1_39 dX8_readSession_125 ?_
    obtain ⟨v14, hv15, hf⟩ := mb hf
    have hJ128 : V E (cZ S12) (cU S12) (cw y S12) 136 [] [.int v14] := by
      obtain ⟨v16, hv16, hf⟩ := mb hf
      obtain ⟨hbv16, rfl⟩ := bz_some hv16
      obtain ⟨rfl, rfl⟩ := si2 hf
      exact V_iret hc hzz (bz_nar hbv16) rfl rfl rfl rfl dX8_readSession_136
    refine V_if_ne hc dX8_readSession_128 rfl (fun hq128 => ?_) (fun hq128 => ?_)
    · rw [if_neg hq128] at hv15
      refine V_iconst hc (v := (0 : Int32)) dX8_readSession_135 rfl ?_
      obtain rfl := Option.some.inj hv15
      exact V_sub [] rfl hJ128
    · rw [if_pos hq128] at hv15
      refine V_iconst hc (v := (1 : Int32)) dX8_readSession_131 rfl ?_
      refine V_goto hc dX8_readSession_132 rfl ?_
      obtain rfl := Option.some.inj hv15
      exact V_sub [] rfl hJ128
  refine V_if_ne hc dX8_readSession_95 rfl (fun hq95 => ?_) (fun hq95 => ?_)
  · rw [if_neg hq95] at hv6
    obtain rfl := Option.some.inj hv6
    exact V_sub [0] rfl hJ95
  · rw [if_pos hq95] at hv6
    refine V_aload_n hc dX8_readSession_98 rfl 0 rfl ?_
    obtain ⟨v7, hv7, hv6⟩ := mb hv6
    refine C_geti hc rfl iW8 (by decide) 11 (by decide) rfl hv7 w1_56 dX8_readSession_99 ?_
    refine V_aload_n hc dX8_readSession_102 rfl 0 rfl ?_
    obtain ⟨v8, hv8, hv6⟩ := mb hv6
    refine C_geti hc rfl iW8 (by decide) 1 (by decide) rfl hv8 w1_37 dX8_readSession_103 ?_
    refine V_icmp_ge hc dX8_readSession_106 rfl (fun hq106 => ?_) (fun hq106 => ?_)
    · rw [if_pos hq106] at hv6
      obtain rfl := Option.some.inj hv6
      exact V_sub [0] rfl hJ95
    · rw [if_neg hq106] at hv6
      refine V_aload_n hc dX8_readSession_109 rfl 0 rfl ?_
      refine V_iconst hc (v := (5 : Int32)) dX8_readSession_110 rfl ?_
      refine V_aload_n hc dX8_readSession_111 rfl 0 rfl ?_
      obtain ⟨v9, hv9, hv6⟩ := mb hv6
      refine C_geti hc rfl iW8 (by decide) 11 (by decide) rfl hv9 w1_56 dX8_readSession_112 ?_
      obtain ⟨v10, S11, hv10, hv6⟩ := mb2 hv6
      obtain ⟨hkv10, hv10⟩ := og hv10
      refine C_callV hc hz (As := [.int (5 : Int32), .int v9]) hkv10 (by decide) (c8_fail l D y _ _ hv10) w3_113 w3_115 wp1_8 w1_2 w3_116 hdX_X8_fail ⟨(Nat.le_of_ble_eq_true rfl), (Nat.le_of_ble_eq_true rfl)⟩ rfl rfl rfl (Nat.le_of_ble_eq_true rfl) dX8_readSession_115 ?_
      refine V_pop hc dX8_readSession_118 rfl ?_
      obtain rfl := Option.some.inj hv6
      exact V_sub [0] rfl hJ95
noncomputable def f8_readOp (S : CS) (h : Nat) : Option (Int32 × CS) :=
  (cal S 8 h (f8_open S h)).bind fun S1 =>
  bn2 (cal S1 8 h (f8_readSteps S1 h (-1 : Int32))) fun v2 S3 =>
  (gi S3 8 h 2).bind fun v4 =>
  (
    if v4 = 0 then (
      (gi S3 8 h 11).bind fun v7 =>
      (gi S3 8 h 1).bind fun v8 =>
      if v8 ≤ v7 then (
        some S3
      ) else (
        (gi S3 8 h 11).bind fun v9 =>
        bn2 (cal S3 8 h (f8_fail S3 h (1 : Int32) v9)) fun v10 S11 =>
        some S11
      )
    ) else (
      some S3
    )
  ).bind fun S5 =>
  (pi S5 8 h 1 (0 : Int32)).bind fun S12 =>
  (gi S12 8 h 2).bind fun v13 =>
  (
    if v13 = 0 then (
      some (1 : Int32)
    ) else (
      some (0 : Int32)
    )
  ).bind fun v14 =>
  (bz v14).bind fun v16 =>
  some (v16, S12)
theorem hdX_X8_readOp : yX8_readOp.cls = "FarEditors$Told" ∧ yX8_readOp.cls ≠ "java/lang/invoke/MethodHandle" ∧ yX8_readOp.cls ≠ "java/lang/invoke/VarHandle" ∧ (parseMethodDescriptor yX8_readOp.desc).map (fun d => d.parameters.length) = some 0 := by decide +kernel
set_option maxHeartbeats 4000000 in
set_option maxRecDepth 100000 in
theorem c8_readOp (l : Launch) (D : va_G) (y : CyT) (zM uM : Nat) {S S' : CS} {h : Nat} {r : Int32} (hf : f8_readOp S h = some (r, S')) : CT l D y yX8_readOp cX8_readOp 1 (some .boolean) 4 90 zM uM [.ref h] (cZ S) (cU S) (cw y S) (cZ S') (cU S') (cw y S') (some (.int r)) := by
  refine CT.of (by decide) (Nat.le_of_ble_eq_true rfl) (fun E hc hzz hnm => ?_)
  have hc : Cx E "FarEditors$Told" cX8_readOp 1 := hc
  have hz := hzz.1
  have hT := hz.2.2.1
  show V E (cZ S) (cU S) (cw y S) 0 [(0, .ref h)] []
  unfold f8_readOp at hf
  refine V_aload_n hc dX8_readOp_0 rfl 0 rfl ?_
  obtain ⟨S1, hS1, hf⟩ := mb hf
  obtain ⟨hkS1, hS1⟩ := og hS1
  refine C_callV hc hz (As := []) hkS1 (by decide) (c8_open l D y _ _ hS1) w3_28 w3_30 wp1_2 w1_2 w3_31 hdX_X8_open ⟨(Nat.le_of_ble_eq_true rfl), (Nat.le_of_ble_eq_true rfl)⟩ rfl rfl rfl (Nat.le_of_ble_eq_true rfl) dX8_readOp_1 ?_
  refine V_aload_n hc dX8_readOp_4 rfl 0 rfl ?_
  refine V_iconst hc (v := (-1 : Int32)) dX8_readOp_5 rfl ?_
  obtain ⟨v2, S3, hv2, hf⟩ := mb2 hf
  obtain ⟨hkv2, hv2⟩ := og hv2
  refine C_callV hc hz (As := [.int (-1 : Int32)]) hkv2 (by decide) (c8_readSteps l D y _ _ hv2) w3_161 w3_163 wp2_3 w1_2 w3_164 hdX_X8_readSteps ⟨(Nat.le_of_ble_eq_true rfl), (Nat.le_of_ble_eq_true rfl)⟩ rfl rfl rfl (Nat.le_of_ble_eq_true rfl) dX8_readOp_6 ?_
  refine V_pop hc dX8_readOp_9 rfl ?_
  refine V_aload_n hc dX8_readOp_10 rfl 0 rfl ?_
  obtain ⟨v4, hv4, hf⟩ := mb hf
  refine C_geti hc rfl iW8 (by decide) 2 (by decide) rfl hv4 w1_39 dX8_readOp_11 ?_
  obtain ⟨S5, hv6, hf⟩ := mb hf
  have hJ14 : V E (cZ S5) (cU S5) (cw y S5) 38 [(0, .ref h)] [] := by
    refine V_aload_n hc dX8_readOp_38 rfl 0 rfl ?_
    refine V_iconst hc (v := (0 : Int32)) dX8_readOp_39 rfl ?_
    obtain ⟨S12, hS12, hf⟩ := mb hf
    refine C_puti hc rfl iW8 tyX8 tyX8_ok nmX8 (by decide) 1 (by decide) rfl hS12 w1_37 rfl rfl rfl dX8_readOp_40 ?_
    refine V_aload_n hc dX8_readOp_43 rfl 0 rfl ?_
    obtain ⟨v13, hv13, hf⟩ := mb hf
    refine C_geti hc rfl iW8 (by decide) 2 (by decide) rfl hv13 w1_39 dX8_readOp_44 ?_
    obtain ⟨v14, hv15, hf⟩ := mb hf
    have hJ47 : V E (cZ S12) (cU S12) (cw y S12) 55 [] [.int v14] := by
      obtain ⟨v16, hv16, hf⟩ := mb hf
      obtain ⟨hbv16, rfl⟩ := bz_some hv16
      obtain ⟨rfl, rfl⟩ := si2 hf
      exact V_iret hc hzz (bz_nar hbv16) rfl rfl rfl rfl dX8_readOp_55
    refine V_if_ne hc dX8_readOp_47 rfl (fun hq47 => ?_) (fun hq47 => ?_)
    · rw [if_neg hq47] at hv15
      refine V_iconst hc (v := (0 : Int32)) dX8_readOp_54 rfl ?_
      obtain rfl := Option.some.inj hv15
      exact V_sub [] rfl hJ47
    · rw [if_pos hq47] at hv15
      refine V_iconst hc (v := (1 : Int32)) dX8_readOp_50 rfl ?_
      refine V_goto hc dX8_readOp_51 rfl ?_
      obtain rfl := Option.some.inj hv15
      exact V_sub [] rfl hJ47
  refine V_if_ne hc dX8_readOp_14 rfl (fun hq14 => ?_) (fun hq14 => ?_)
  · rw [if_neg hq14] at hv6
    obtain rfl := Option.some.inj hv6
    exact V_sub [0] rfl hJ14
  · rw [if_pos hq14] at hv6
    refine V_aload_n hc dX8_readOp_17 rfl 0 rfl ?_
    obtain ⟨v7, hv7, hv6⟩ := mb hv6
    refine C_geti hc rfl iW8 (by decide) 11 (by decide) rfl hv7 w1_56 dX8_readOp_18 ?_
    refine V_aload_n hc dX8_readOp_21 rfl 0 rfl ?_
    obtain ⟨v8, hv8, hv6⟩ := mb hv6
    refine C_geti hc rfl iW8 (by decide) 1 (by decide) rfl hv8 w1_37 dX8_readOp_22 ?_
    refine V_icmp_ge hc dX8_readOp_25 rfl (fun hq25 => ?_) (fun hq25 => ?_)
    · rw [if_pos hq25] at hv6
      obtain rfl := Option.some.inj hv6
      exact V_sub [0] rfl hJ14
    · rw [if_neg hq25] at hv6
      refine V_aload_n hc dX8_readOp_28 rfl 0 rfl ?_
      refine V_iconst hc (v := (1 : Int32)) dX8_readOp_29 rfl ?_
      refine V_aload_n hc dX8_readOp_30 rfl 0 rfl ?_
      obtain ⟨v9, hv9, hv6⟩ := mb hv6
      refine C_geti hc rfl iW8 (by decide) 11 (by decide) rfl hv9 w1_56 dX8_readOp_31 ?_
      obtain ⟨v10, S11, hv10, hv6⟩ := mb2 hv6
      obtain ⟨hkv10, hv10⟩ := og hv10
      refine C_callV hc hz (As := [.int (1 : Int32), .int v9]) hkv10 (by decide) (c8_fail l D y _ _ hv10) w3_113 w3_115 wp1_8 w1_2 w3_116 hdX_X8_fail ⟨(Nat.le_of_ble_eq_true rfl), (Nat.le_of_ble_eq_true rfl)⟩ rfl rfl rfl (Nat.le_of_ble_eq_true rfl) dX8_readOp_34 ?_
      refine V_pop hc dX8_readOp_37 rfl ?_
      obtain rfl := Option.some.inj hv6
      exact V_sub [0] rfl hJ14
noncomputable def f9_init (X : Nat × Nat) (S : CS) (h : Nat) : Option (CS) :=
  (nwo X S 5 4).bind fun S1 =>
  (f5_init X S1 (cZ S)).bind fun S2 =>
  (pr S2 9 h 0 (cZ S)).bind fun S3 =>
  (nwo X S3 5 4).bind fun S4 =>
  (f5_init X S4 (cZ S3)).bind fun S5 =>
  (pr S5 9 h 1 (cZ S3)).bind fun S6 =>
  (nwo X S6 4 2).bind fun S7 =>
  (f4_init X S7 (cZ S6)).bind fun S8 =>
  (pr S8 9 h 2 (cZ S6)).bind fun S9 =>
  (nwo X S9 4 2).bind fun S10 =>
  (f4_init X S10 (cZ S9)).bind fun S11 =>
  (pr S11 9 h 3 (cZ S9)).bind fun S12 =>
  (nwa X S12 14 (240 : Int32)).bind fun S13 =>
  (pr S13 9 h 4 (cZ S12)).bind fun S14 =>
  (nwo X S14 4 2).bind fun S15 =>
  (f4_init X S15 (cZ S14)).bind fun S16 =>
  (pr S16 9 h 5 (cZ S14)).bind fun S17 =>
  (nwo X S17 4 2).bind fun S18 =>
  (f4_init X S18 (cZ S17)).bind fun S19 =>
  (pr S19 9 h 6 (cZ S17)).bind fun S20 =>
  some S20
theorem hdX_X9_init : yX9_init.cls = "FarEditors$Weaver" ∧ yX9_init.cls ≠ "java/lang/invoke/MethodHandle" ∧ yX9_init.cls ≠ "java/lang/invoke/VarHandle" ∧ (parseMethodDescriptor yX9_init.desc).map (fun d => d.parameters.length) = some 0 := by decide +kernel
set_option maxHeartbeats 4000000 in
set_option maxRecDepth 100000 in
theorem c9_init (l : Launch) (D : va_G) (y : CyT) (X : Nat × Nat) (hX : X.2 ≤ 100000000) {S S' : CS} {h : Nat} (hf : f9_init X S h = some S') : CT l D y yX9_init cX9_init 1 none 3 60 X.1 X.2 [.ref h] (cZ S) (cU S) (cw y S) (cZ S') (cU S') (cw y S') none := by
  refine CT.of (by decide) (Nat.le_of_ble_eq_true rfl) (fun E hc hzz hnm => ?_)
  have hc : Cx E "FarEditors$Weaver" cX9_init 1 := hc
  have hnm : (xH E).name = "<init>" := hnm
  have hz := hzz.1
  have hT := hz.2.2.1
  show V E (cZ S) (cU S) (cw y S) 0 [(0, .ref h)] []
  unfold f9_init at hf
  refine V_aload_n hc dX9_init_0 rfl 0 rfl ?_
  refine V_objInit hc hz w1_88 w1_27 w1_28 ⟨(Nat.le_of_ble_eq_true rfl), (Nat.le_of_ble_eq_true rfl)⟩ (Nat.le_of_ble_eq_true rfl) dX9_init_1 ?_
  refine V_aload_n hc dX9_init_4 rfl 0 rfl ?_
  obtain ⟨S1, hS1, hf⟩ := mb hf
  refine C_new hc hz rfl iW5 tyX5 tyX5_ok df5 (by decide) hS1 w1_89 w1_90 w1_4 dX9_init_5 ?_
  refine V_dup hc dX9_init_8 rfl ?_
  obtain ⟨S2, hS2, hf⟩ := mb hf
  refine V_callI hc hz (As := []) (c5_init l D y X hX hS2) w1_91 w1_92 w1_4 w1_93 rfl hdX_X5_init.2 ⟨(Nat.le_of_ble_eq_true rfl), (Nat.le_of_ble_eq_true rfl)⟩ rfl rfl (Nat.le_of_ble_eq_true rfl) dX9_init_9 ?_
  obtain ⟨S3, hS3, hf⟩ := mb hf
  refine C_putrF hc hnm rfl iW9 tyX9 tyX9_ok nmX9 (by decide) 0 (by decide) rfl hS3 w1_131 rfl rfl rfl rfl dX9_init_12 ?_
  refine V_aload_n hc dX9_init_15 rfl 0 rfl ?_
  obtain ⟨S4, hS4, hf⟩ := mb hf
  refine C_new hc hz rfl iW5 tyX5 tyX5_ok df5 (by decide) hS4 w1_89 w1_90 w1_4 dX9_init_16 ?_
  refine V_dup hc dX9_init_19 rfl ?_
  obtain ⟨S5, hS5, hf⟩ := mb hf
  refine V_callI hc hz (As := []) (c5_init l D y X hX hS5) w1_91 w1_92 w1_4 w1_93 rfl hdX_X5_init.2 ⟨(Nat.le_of_ble_eq_true rfl), (Nat.le_of_ble_eq_true rfl)⟩ rfl rfl (Nat.le_of_ble_eq_true rfl) dX9_init_20 ?_
  obtain ⟨S6, hS6, hf⟩ := mb hf
  refine C_putrF hc hnm rfl iW9 tyX9 tyX9_ok nmX9 (by decide) 1 (by decide) rfl hS6 w1_132 rfl rfl rfl rfl dX9_init_23 ?_
  refine V_aload_n hc dX9_init_26 rfl 0 rfl ?_
  obtain ⟨S7, hS7, hf⟩ := mb hf
  refine C_new hc hz rfl iW4 tyX4 tyX4_ok df4 (by decide) hS7 w1_129 w1_96 w1_5 dX9_init_27 ?_
  refine V_dup hc dX9_init_30 rfl ?_
  obtain ⟨S8, hS8, hf⟩ := mb hf
  refine V_callI hc hz (As := []) (c4_init l D y X hX hS8) w1_130 w1_98 w1_5 w1_99 rfl hdX_X4_init.2 ⟨(Nat.le_of_ble_eq_true rfl), (Nat.le_of_ble_eq_true rfl)⟩ rfl rfl (Nat.le_of_ble_eq_true rfl) dX9_init_31 ?_
  obtain ⟨S9, hS9, hf⟩ := mb hf
  refine C_putrF hc hnm rfl iW9 tyX9 tyX9_ok nmX9 (by decide) 2 (by decide) rfl hS9 w1_133 rfl rfl rfl rfl dX9_init_34 ?_
  refine V_aload_n hc dX9_init_37 rfl 0 rfl ?_
  obtain ⟨S10, hS10, hf⟩ := mb hf
  refine C_new hc hz rfl iW4 tyX4 tyX4_ok df4 (by decide) hS10 w1_129 w1_96 w1_5 dX9_init_38 ?_
  refine V_dup hc dX9_init_41 rfl ?_
  obtain ⟨S11, hS11, hf⟩ := mb hf
  refine V_callI hc hz (As := []) (c4_init l D y X hX hS11) w1_130 w1_98 w1_5 w1_99 rfl hdX_X4_init.2 ⟨(Nat.le_of_ble_eq_true rfl), (Nat.le_of_ble_eq_true rfl)⟩ rfl rfl (Nat.le_of_ble_eq_true rfl) dX9_init_42 ?_
  obtain ⟨S12, hS12, hf⟩ := mb hf
  refine C_putrF hc hnm rfl iW9 tyX9 tyX9_ok nmX9 (by decide) 3 (by decide) rfl hS12 w1_134 rfl rfl rfl rfl dX9_init_45 ?_
  refine V_aload_n hc dX9_init_48 rfl 0 rfl ?_
  refine V_sipush hc (v := (240 : Int32)) dX9_init_49 rfl ?_
  obtain ⟨S13, hS13, hf⟩ := mb hf
  refine C_newi hc hz hS13 hX w1_82 dX9_init_52 ?_
  obtain ⟨S14, hS14, hf⟩ := mb hf
  refine C_putr hc rfl iW9 tyX9 tyX9_ok nmX9 (by decide) 4 (by decide) rfl hS14 w1_135 rfl rfl rfl dX9_init_54 ?_
  refine V_aload_n hc dX9_init_57 rfl 0 rfl ?_
  obtain ⟨S15, hS15, hf⟩ := mb hf
  refine C_new hc hz rfl iW4 tyX4 tyX4_ok df4 (by decide) hS15 w1_129 w1_96 w1_5 dX9_init_58 ?_
  refine V_dup hc dX9_init_61 rfl ?_
  obtain ⟨S16, hS16, hf⟩ := mb hf
  refine V_callI hc hz (As := []) (c4_init l D y X hX hS16) w1_130 w1_98 w1_5 w1_99 rfl hdX_X4_init.2 ⟨(Nat.le_of_ble_eq_true rfl), (Nat.le_of_ble_eq_true rfl)⟩ rfl rfl (Nat.le_of_ble_eq_true rfl) dX9_init_62 ?_
  obtain ⟨S17, hS17, hf⟩ := mb hf
  refine C_putrF hc hnm rfl iW9 tyX9 tyX9_ok nmX9 (by decide) 5 (by decide) rfl hS17 w1_136 rfl rfl rfl rfl dX9_init_65 ?_
  refine V_aload_n hc dX9_init_68 rfl 0 rfl ?_
  obtain ⟨S18, hS18, hf⟩ := mb hf
  refine C_new hc hz rfl iW4 tyX4 tyX4_ok df4 (by decide) hS18 w1_129 w1_96 w1_5 dX9_init_69 ?_
  refine V_dup hc dX9_init_72 rfl ?_
  obtain ⟨S19, hS19, hf⟩ := mb hf
  refine V_callI hc hz (As := []) (c4_init l D y X hX hS19) w1_130 w1_98 w1_5 w1_99 rfl hdX_X4_init.2 ⟨(Nat.le_of_ble_eq_true rfl), (Nat.le_of_ble_eq_true rfl)⟩ rfl rfl (Nat.le_of_ble_eq_true rfl) dX9_init_73 ?_
  obtain ⟨S20, hS20, hf⟩ := mb hf
  refine C_putrF hc hnm rfl iW9 tyX9 tyX9_ok nmX9 (by decide) 6 (by decide) rfl hS20 w1_138 rfl rfl rfl rfl dX9_init_76 ?_
  obtain rfl := Option.some.inj hf
  exact V_vret hc hzz rfl rfl rfl rfl dX9_init_79
noncomputable def LX9_invert_98 (c1 : Nat) (c2 : Nat) (c3 : Nat) (c5 : Int32) (c7 : Int32) : Nat → Int32 → CS → Option (Int32 × CS)
  | 0, _, _ => none
  | n + 1, i4, S =>
    if c7 ≤ i4 then (
      some (i4, S)
    ) else (
      (cal S 7 c2 (f7_letterAt S c2 i4)).bind fun v1 =>
      (cal S 4 c3 (f4_addPut S c3 v1)).bind fun S2 =>
      LX9_invert_98 c1 c2 c3 c5 c7 n (i4 + (1 : Int32)) S2
    )
noncomputable def LX9_invert_21 (c1 : Nat) (c2 : Nat) (c3 : Nat) : Nat → Int32 → Int32 → CS → Option (CS)
  | 0, _, _, _ => none
  | n + 1, i4, i5, S =>
    (gi S 4 c1 1).bind fun v1 =>
    if v1 ≤ i5 then (
      some S
    ) else (
      (gr S 4 c1 0).bind fun a2 =>
      (ldi S a2 i5).bind fun v3 =>
      (f4_isPut v3).bind fun v4 =>
      bn2 (
        if v4 = 0 then (
          if v3 ≤ (31 : Int32) then (
            (gi S 7 c2 1).bind fun v8 =>
            bn2 (LX9_invert_98 c1 c2 c3 i5 (if v8 < (i4 - v3) then v8 else (i4 - v3)) FU i4 S) fun x9 S10 =>
            some (x9, S10)
          ) else (
            (cal S 4 c3 (f4_addKeep S c3 (v3 - (31 : Int32)))).bind fun S12 =>
            some ((i4 + (v3 - (31 : Int32))), S12)
          )
        ) else (
          (cal S 4 c3 (f4_addCut S c3 (1 : Int32))).bind fun S13 =>
          some (i4, S13)
        )
      ) fun x5 S6 =>
      LX9_invert_21 c1 c2 c3 n x5 (i5 + (1 : Int32)) S6
    )
noncomputable def f9_invert (X : Nat × Nat) (S : CS) (h : Nat) (p1 : Nat) (p2 : Nat) (p3 : Nat) : Option (CS) :=
  (gi S 4 p1 1).bind fun v1 =>
  (gi S 7 p2 1).bind fun v2 =>
  (cal S 4 p3 (f4_begin X S p3 ((v1 + v2) + (1 : Int32)))).bind fun S3 =>
  (LX9_invert_21 p1 p2 p3 FU (0 : Int32) (0 : Int32) S3).bind fun S4 =>
  some S4
theorem hdX_X9_invert : yX9_invert.cls = "FarEditors$Weaver" ∧ yX9_invert.cls ≠ "java/lang/invoke/MethodHandle" ∧ yX9_invert.cls ≠ "java/lang/invoke/VarHandle" ∧ (parseMethodDescriptor yX9_invert.desc).map (fun d => d.parameters.length) = some 3 := by decide +kernel
set_option maxHeartbeats 4000000 in
set_option maxRecDepth 100000 in
theorem LX9_invert_98_ok {E : CxT} {l : Launch} {D : va_G} {y : CyT} {zM uM : Nat} (hc : Cx E "FarEditors$Weaver" cX9_invert 8) (c1 : Nat) (c2 : Nat) (c3 : Nat) (c5 : Int32) (c7 : Int32) (hz : Cy E l D y 2 42 zM uM) : ∀ (n : Nat) (i4 : Int32) (S : CS) {o4 : Int32} {So : CS}, LX9_invert_98 c1 c2 c3 c5 c7 n i4 S = some (o4, So) → (hx0 : V E (cZ So) (cU So) (cw y So) 121 [(1, .ref c1), (2, .ref c2), (3, .ref c3), (4, .int o4), (5, .int c5)] []) → V E (cZ S) (cU S) (cw y S) 98 [(1, .ref c1), (2, .ref c2), (3, .ref c3), (4, .int i4), (5, .int c5), (7, .int c7)] [] := by
  have hT := hz.2.2.1
  intro n
  induction n with
  | zero => intro i4 S o4 So hf; cases hf
  | succ n ih =>
    intro i4 S o4 So hf hx0
    unfold LX9_invert_98 at hf
    refine V_iload hc dX9_invert_98 3 rfl ?_
    refine V_iload hc dX9_invert_100 5 rfl ?_
    refine V_icmp_ge hc dX9_invert_102 rfl (fun hq102 => ?_) (fun hq102 => ?_)
    · rw [if_pos hq102] at hf
      obtain ⟨rfl, rfl⟩ := si2 hf
      exact V_sub [0, 1, 2, 3, 4] rfl hx0
    · rw [if_neg hq102] at hf
      refine V_aload_n hc dX9_invert_105 rfl 2 rfl ?_
      refine V_aload_n hc dX9_invert_106 rfl 1 rfl ?_
      refine V_iload hc dX9_invert_107 3 rfl ?_
      obtain ⟨v1, hv1, hf⟩ := mb hf
      obtain ⟨hkv1, hv1⟩ := og hv1
      refine C_callV hc hz (As := [.int i4]) hkv1 (by decide) (c7_letterAt l D y _ _ hv1) w4_155 w4_156 w4_157 w1_7 w4_158 hdX_X7_letterAt ⟨(Nat.le_of_ble_eq_true rfl), (Nat.le_of_ble_eq_true rfl)⟩ rfl rfl rfl (Nat.le_of_ble_eq_true rfl) dX9_invert_109 ?_
      obtain ⟨S2, hS2, hf⟩ := mb hf
      obtain ⟨hkS2, hS2⟩ := og hS2
      refine C_callV hc hz (As := [.int v1]) hkS2 (by decide) (c4_addPut l D y _ _ hS2) w4_39 w4_40 w4_41 w1_5 w4_42 hdX_X4_addPut ⟨(Nat.le_of_ble_eq_true rfl), (Nat.le_of_ble_eq_true rfl)⟩ rfl rfl rfl (Nat.le_of_ble_eq_true rfl) dX9_invert_112 ?_
      refine V_iinc hc (j := 3) (v := (i4 + (1 : Int32))) dX9_invert_115 rfl rfl (by decide) rfl ?_
      refine V_goto hc dX9_invert_118 rfl ?_
      exact V_sub [1, 2, 3, 0, 4, 5] rfl (ih _ _ hf hx0)
set_option maxHeartbeats 4000000 in
set_option maxRecDepth 100000 in
theorem LX9_invert_21_ok {E : CxT} {l : Launch} {D : va_G} {y : CyT} {zM uM : Nat} (hc : Cx E "FarEditors$Weaver" cX9_invert 8) (c1 : Nat) (c2 : Nat) (c3 : Nat) (hz : Cy E l D y 2 42 zM uM) : ∀ (n : Nat) (i4 : Int32) (i5 : Int32) (S : CS) {So : CS}, LX9_invert_21 c1 c2 c3 n i4 i5 S = some So → (hx0 : V E (cZ So) (cU So) (cw y So) 127 [] []) → V E (cZ S) (cU S) (cw y S) 21 [(1, .ref c1), (2, .ref c2), (3, .ref c3), (4, .int i4), (5, .int i5)] [] := by
  have hT := hz.2.2.1
  intro n
  induction n with
  | zero => intro i4 i5 S So hf; cases hf
  | succ n ih =>
    intro i4 i5 S So hf hx0
    unfold LX9_invert_21 at hf
    refine V_iload hc dX9_invert_21 4 rfl ?_
    refine V_aload_n hc dX9_invert_23 rfl 0 rfl ?_
    obtain ⟨v1, hv1, hf⟩ := mb hf
    refine C_geti hc rfl iW4 (by decide) 1 (by decide) rfl hv1 w1_106 dX9_invert_24 ?_
    refine V_icmp_ge hc dX9_invert_27 rfl (fun hq27 => ?_) (fun hq27 => ?_)
    · rw [if_pos hq27] at hf
      obtain rfl := Option.some.inj hf
      exact V_sub [] rfl hx0
    · rw [if_neg hq27] at hf
      refine V_aload_n hc dX9_invert_30 rfl 0 rfl ?_
      obtain ⟨a2, ha2, hf⟩ := mb hf
      refine C_getr hc rfl iW4 (by decide) 0 (by decide) rfl ha2 w1_102 dX9_invert_31 ?_
      refine V_iload hc dX9_invert_34 4 rfl ?_
      obtain ⟨v3, hv3, hf⟩ := mb hf
      refine C_iald hc hT hv3 dX9_invert_36 ?_
      refine V_istore hc dX9_invert_37 (by decide) rfl ?_
      refine V_iload hc dX9_invert_39 0 rfl ?_
      obtain ⟨v4, hv4, hf⟩ := mb hf
      refine V_callSX hc hz (As := [.int v3]) (c4_isPut l D y _ _ hv4) w4_154 w4_108 w1_5 w4_109 hdX_X4_isPut.2 ⟨(Nat.le_of_ble_eq_true rfl), (Nat.le_of_ble_eq_true rfl)⟩ rfl rfl (Nat.le_of_ble_eq_true rfl) dX9_invert_41 ?_
      obtain ⟨x5, S6, hv7, hf⟩ := mb2 hf
      have hJ44 : V E (cZ S6) (cU S6) (cw y S6) 121 [(1, .ref c1), (2, .ref c2), (3, .ref c3), (4, .int x5), (5, .int i5)] [] := by
        refine V_iinc hc (j := 4) (v := (i5 + (1 : Int32))) dX9_invert_121 rfl rfl (by decide) rfl ?_
        refine V_goto hc dX9_invert_124 rfl ?_
        exact V_sub [1, 2, 3, 4, 0] rfl (ih _ _ _ hf hx0)
      refine V_if_eq hc dX9_invert_44 rfl (fun hq44 => ?_) (fun hq44 => ?_)
      · rw [if_pos hq44] at hv7
        refine V_iload hc dX9_invert_55 0 rfl ?_
        refine V_bipush hc (v := (31 : Int32)) dX9_invert_57 rfl ?_
        refine V_icmp_le hc dX9_invert_59 rfl (fun hq59 => ?_) (fun hq59 => ?_)
        · rw [if_pos hq59] at hv7
          refine V_iload hc dX9_invert_84 4 rfl ?_
          refine V_iload hc dX9_invert_86 0 rfl ?_
          refine V_isub hc dX9_invert_88 ?_
          refine V_aload_n hc dX9_invert_89 rfl 2 rfl ?_
          obtain ⟨v8, hv8, hv7⟩ := mb hv7
          refine C_geti hc rfl iW7 (by decide) 1 (by decide) rfl hv8 w1_169 dX9_invert_90 ?_
          refine C_min hc hz w4_52 w3_194 w1_18 w3_195 ⟨(Nat.le_of_ble_eq_true rfl), (Nat.le_of_ble_eq_true rfl)⟩ (Nat.le_of_ble_eq_true rfl) dX9_invert_93 ?_
          refine V_istore hc dX9_invert_96 (by decide) rfl ?_
          obtain ⟨x9, S10, hv11, hv7⟩ := mb2 hv7
          refine V_sub [2, 3, 4, 5, 6, 0] rfl (LX9_invert_98_ok hc c1 c2 c3 i5 (if v8 < (i4 - v3) then v8 else (i4 - v3)) hz FU _ _ hv11 ?_)
          obtain ⟨rfl, rfl⟩ := si2 hv7
          exact V_sub [0, 1, 2, 3, 4] rfl hJ44
        · rw [if_neg hq59] at hv7
          refine V_aload_n hc dX9_invert_62 rfl 3 rfl ?_
          refine V_iload hc dX9_invert_63 0 rfl ?_
          refine V_bipush hc (v := (31 : Int32)) dX9_invert_65 rfl ?_
          refine V_isub hc dX9_invert_67 ?_
          obtain ⟨S12, hS12, hv7⟩ := mb hv7
          obtain ⟨hkS12, hS12⟩ := og hS12
          refine C_callV hc hz (As := [.int (v3 - (31 : Int32))]) hkS12 (by decide) (c4_addKeep l D y _ _ hS12) w4_43 w4_44 w4_45 w1_5 w4_46 hdX_X4_addKeep ⟨(Nat.le_of_ble_eq_true rfl), (Nat.le_of_ble_eq_true rfl)⟩ rfl rfl rfl (Nat.le_of_ble_eq_true rfl) dX9_invert_68 ?_
          refine V_iload hc dX9_invert_71 4 rfl ?_
          refine V_iload hc dX9_invert_73 0 rfl ?_
          refine V_bipush hc (v := (31 : Int32)) dX9_invert_75 rfl ?_
          refine V_isub hc dX9_invert_77 ?_
          refine V_iadd hc dX9_invert_78 ?_
          refine V_istore hc dX9_invert_79 (by decide) rfl ?_
          refine V_goto hc dX9_invert_81 rfl ?_
          obtain ⟨rfl, rfl⟩ := si2 hv7
          exact V_sub [2, 3, 4, 0, 5] rfl hJ44
      · rw [if_neg hq44] at hv7
        refine V_aload_n hc dX9_invert_47 rfl 3 rfl ?_
        refine V_iconst hc (v := (1 : Int32)) dX9_invert_48 rfl ?_
        obtain ⟨S13, hS13, hv7⟩ := mb hv7
        obtain ⟨hkS13, hS13⟩ := og hS13
        refine C_callV hc hz (As := [.int (1 : Int32)]) hkS13 (by decide) (c4_addCut l D y _ _ hS13) w4_57 w4_58 w4_59 w1_5 w4_60 hdX_X4_addCut ⟨(Nat.le_of_ble_eq_true rfl), (Nat.le_of_ble_eq_true rfl)⟩ rfl rfl rfl (Nat.le_of_ble_eq_true rfl) dX9_invert_49 ?_
        refine V_goto hc dX9_invert_52 rfl ?_
        obtain ⟨rfl, rfl⟩ := si2 hv7
        exact V_sub [1, 2, 3, 4, 5] rfl hJ44
set_option maxHeartbeats 4000000 in
set_option maxRecDepth 100000 in
theorem c9_invert (l : Launch) (D : va_G) (y : CyT) (X : Nat × Nat) (hX : X.2 ≤ 100000000) {S S' : CS} {h : Nat} {p1 : Nat} {p2 : Nat} {p3 : Nat} (hf : f9_invert X S h p1 p2 p3 = some S') : CT l D y yX9_invert cX9_invert 8 none 2 42 X.1 X.2 [.ref h, .ref p1, .ref p2, .ref p3] (cZ S) (cU S) (cw y S) (cZ S') (cU S') (cw y S') none := by
  refine CT.of (by decide) (Nat.le_of_ble_eq_true rfl) (fun E hc hzz hnm => ?_)
  have hc : Cx E "FarEditors$Weaver" cX9_invert 8 := hc
  have hz := hzz.1
  have hT := hz.2.2.1
  show V E (cZ S) (cU S) (cw y S) 0 [(0, .ref h), (1, .ref p1), (2, .ref p2), (3, .ref p3)] []
  unfold f9_invert at hf
  refine V_aload_n hc dX9_invert_0 rfl 3 rfl ?_
  refine V_aload_n hc dX9_invert_1 rfl 1 rfl ?_
  obtain ⟨v1, hv1, hf⟩ := mb hf
  refine C_geti hc rfl iW4 (by decide) 1 (by decide) rfl hv1 w1_106 dX9_invert_2 ?_
  refine V_aload_n hc dX9_invert_5 rfl 2 rfl ?_
  obtain ⟨v2, hv2, hf⟩ := mb hf
  refine C_geti hc rfl iW7 (by decide) 1 (by decide) rfl hv2 w1_169 dX9_invert_6 ?_
  refine V_iadd hc dX9_invert_9 ?_
  refine V_iconst hc (v := (1 : Int32)) dX9_invert_10 rfl ?_
  refine V_iadd hc dX9_invert_11 ?_
  obtain ⟨S3, hS3, hf⟩ := mb hf
  obtain ⟨hkS3, hS3⟩ := og hS3
  refine C_callV hc hz (As := [.int ((v1 + v2) + (1 : Int32))]) hkS3 (by decide) (c4_begin l D y X hX hS3) w4_20 w4_21 w4_22 w1_5 w4_23 hdX_X4_begin ⟨(Nat.le_of_ble_eq_true rfl), (Nat.le_of_ble_eq_true rfl)⟩ rfl rfl rfl (Nat.le_of_ble_eq_true rfl) dX9_invert_12 ?_
  refine V_iconst hc (v := (0 : Int32)) dX9_invert_15 rfl ?_
  refine V_istore hc dX9_invert_16 (by decide) rfl ?_
  refine V_iconst hc (v := (0 : Int32)) dX9_invert_18 rfl ?_
  refine V_istore hc dX9_invert_19 (by decide) rfl ?_
  obtain ⟨S4, hv5, hf⟩ := mb hf
  refine V_sub [3, 4, 5, 1, 0] rfl (LX9_invert_21_ok hc p1 p2 p3 hz FU _ _ _ hv5 ?_)
  obtain rfl := Option.some.inj hf
  exact V_vret hc hzz rfl rfl rfl rfl dX9_invert_127
noncomputable def f9_composeCommon (S : CS) (h : Nat) : Option (CS) :=
  (gr S 9 h 0).bind fun a1 =>
  (gi S 5 a1 3).bind fun v2 =>
  (gr S 9 h 1).bind fun a3 =>
  (gi S 5 a3 3).bind fun v4 =>
  if 0 < (if v4 < v2 then v4 else v2) then (
    (gr S 9 h 1).bind fun a5 =>
    (cal S 5 a5 (f5_isAtCut S a5)).bind fun v6 =>
    (gr S 9 h 0).bind fun a7 =>
    (cal S 5 a7 (f5_isAtPut S a7)).bind fun v8 =>
    (
      if v8 = 0 then (
        if v6 = 0 then (
          (gr S 9 h 2).bind fun a15 =>
          (cal S 4 a15 (f4_addKeep S a15 (if v4 < v2 then v4 else v2))).bind fun S16 =>
          some S16
        ) else (
          (gr S 9 h 2).bind fun a17 =>
          (cal S 4 a17 (f4_addCut S a17 (if v4 < v2 then v4 else v2))).bind fun S18 =>
          some S18
        )
      ) else (
        if v6 = 0 then (
          (gr S 9 h 2).bind fun a11 =>
          (gr S 9 h 0).bind fun a12 =>
          (gi S 5 a12 2).bind fun v13 =>
          (cal S 4 a11 (f4_addPut S a11 v13)).bind fun S14 =>
          some S14
        ) else (
          some S
        )
      )
    ).bind fun S9 =>
    (gr S9 9 h 0).bind fun a19 =>
    (cal S9 5 a19 (f5_pass S9 a19 (if v4 < v2 then v4 else v2))).bind fun S20 =>
    (gr S20 9 h 1).bind fun a21 =>
    (cal S20 5 a21 (f5_pass S20 a21 (if v4 < v2 then v4 else v2))).bind fun S22 =>
    some S22
  ) else (
    some S
  )
theorem hdX_X9_composeCommon : yX9_composeCommon.cls = "FarEditors$Weaver" ∧ yX9_composeCommon.cls ≠ "java/lang/invoke/MethodHandle" ∧ yX9_composeCommon.cls ≠ "java/lang/invoke/VarHandle" ∧ (parseMethodDescriptor yX9_composeCommon.desc).map (fun d => d.parameters.length) = some 0 := by decide +kernel
set_option maxHeartbeats 4000000 in
set_option maxRecDepth 100000 in
theorem c9_composeCommon (l : Launch) (D : va_G) (y : CyT) (zM uM : Nat) {S S' : CS} {h : Nat} (hf : f9_composeCommon S h = some S') : CT l D y yX9_composeCommon cX9_composeCommon 3 none 1 21 zM uM [.ref h] (cZ S) (cU S) (cw y S) (cZ S') (cU S') (cw y S') none := by
  refine CT.of (by decide) (Nat.le_of_ble_eq_true rfl) (fun E hc hzz hnm => ?_)
  have hc : Cx E "FarEditors$Weaver" cX9_composeCommon 3 := hc
  have hz := hzz.1
  have hT := hz.2.2.1
  show V E (cZ S) (cU S) (cw y S) 0 [(0, .ref h)] []
  unfold f9_composeCommon at hf
  refine V_aload_n hc dX9_composeCommon_0 rfl 0 rfl ?_
  obtain ⟨a1, ha1, hf⟩ := mb hf
  refine C_getr hc rfl iW9 (by decide) 0 (by decide) rfl ha1 w1_131 dX9_composeCommon_1 ?_
  obtain ⟨v2, hv2, hf⟩ := mb hf
  refine C_geti hc rfl iW5 (by decide) 3 (by decide) rfl hv2 w1_119 dX9_composeCommon_4 ?_
  refine V_aload_n hc dX9_composeCommon_7 rfl 0 rfl ?_
  obtain ⟨a3, ha3, hf⟩ := mb hf
  refine C_getr hc rfl iW9 (by decide) 1 (by decide) rfl ha3 w1_132 dX9_composeCommon_8 ?_
  obtain ⟨v4, hv4, hf⟩ := mb hf
  refine C_geti hc rfl iW5 (by decide) 3 (by decide) rfl hv4 w1_119 dX9_composeCommon_11 ?_
  refine C_min hc hz w4_52 w3_194 w1_18 w3_195 ⟨(Nat.le_of_ble_eq_true rfl), (Nat.le_of_ble_eq_true rfl)⟩ (Nat.le_of_ble_eq_true rfl) dX9_composeCommon_14 ?_
  refine V_istore_n hc dX9_composeCommon_17 rfl (by decide) rfl ?_
  refine V_iload_n hc dX9_composeCommon_18 rfl 0 rfl ?_
  refine V_if_gt hc dX9_composeCommon_19 rfl (fun hq19 => ?_) (fun hq19 => ?_)
  · rw [if_pos hq19] at hf
    refine V_aload_n hc dX9_composeCommon_23 rfl 1 rfl ?_
    obtain ⟨a5, ha5, hf⟩ := mb hf
    refine C_getr hc rfl iW9 (by decide) 1 (by decide) rfl ha5 w1_132 dX9_composeCommon_24 ?_
    obtain ⟨v6, hv6, hf⟩ := mb hf
    obtain ⟨hkv6, hv6⟩ := og hv6
    refine C_callV hc hz (As := []) hkv6 (by decide) (c5_isAtCut l D y _ _ hv6) w4_53 w4_54 w4_55 w1_4 w4_56 hdX_X5_isAtCut ⟨(Nat.le_of_ble_eq_true rfl), (Nat.le_of_ble_eq_true rfl)⟩ rfl rfl rfl (Nat.le_of_ble_eq_true rfl) dX9_composeCommon_27 ?_
    refine V_istore_n hc dX9_composeCommon_30 rfl (by decide) rfl ?_
    refine V_aload_n hc dX9_composeCommon_31 rfl 2 rfl ?_
    obtain ⟨a7, ha7, hf⟩ := mb hf
    refine C_getr hc rfl iW9 (by decide) 0 (by decide) rfl ha7 w1_131 dX9_composeCommon_32 ?_
    obtain ⟨v8, hv8, hf⟩ := mb hf
    obtain ⟨hkv8, hv8⟩ := og hv8
    refine C_callV hc hz (As := []) hkv8 (by decide) (c5_isAtPut l D y _ _ hv8) w4_35 w4_36 w4_37 w1_4 w4_38 hdX_X5_isAtPut ⟨(Nat.le_of_ble_eq_true rfl), (Nat.le_of_ble_eq_true rfl)⟩ rfl rfl rfl (Nat.le_of_ble_eq_true rfl) dX9_composeCommon_35 ?_
    obtain ⟨S9, hv10, hf⟩ := mb hf
    have hJ38 : V E (cZ S9) (cU S9) (cw y S9) 85 [(0, .ref h), (1, .int (if v4 < v2 then v4 else v2))] [] := by
      refine V_aload_n hc dX9_composeCommon_85 rfl 0 rfl ?_
      obtain ⟨a19, ha19, hf⟩ := mb hf
      refine C_getr hc rfl iW9 (by decide) 0 (by decide) rfl ha19 w1_131 dX9_composeCommon_86 ?_
      refine V_iload_n hc dX9_composeCommon_89 rfl 1 rfl ?_
      obtain ⟨S20, hS20, hf⟩ := mb hf
      obtain ⟨hkS20, hS20⟩ := og hS20
      refine C_callV hc hz (As := [.int (if v4 < v2 then v4 else v2)]) hkS20 (by decide) (c5_pass l D y _ _ hS20) w4_47 w4_32 w4_33 w1_4 w4_34 hdX_X5_pass ⟨(Nat.le_of_ble_eq_true rfl), (Nat.le_of_ble_eq_true rfl)⟩ rfl rfl rfl (Nat.le_of_ble_eq_true rfl) dX9_composeCommon_90 ?_
      refine V_aload_n hc dX9_composeCommon_93 rfl 0 rfl ?_
      obtain ⟨a21, ha21, hf⟩ := mb hf
      refine C_getr hc rfl iW9 (by decide) 1 (by decide) rfl ha21 w1_132 dX9_composeCommon_94 ?_
      refine V_iload_n hc dX9_composeCommon_97 rfl 1 rfl ?_
      obtain ⟨S22, hS22, hf⟩ := mb hf
      obtain ⟨hkS22, hS22⟩ := og hS22
      refine C_callV hc hz (As := [.int (if v4 < v2 then v4 else v2)]) hkS22 (by decide) (c5_pass l D y _ _ hS22) w4_47 w4_32 w4_33 w1_4 w4_34 hdX_X5_pass ⟨(Nat.le_of_ble_eq_true rfl), (Nat.le_of_ble_eq_true rfl)⟩ rfl rfl rfl (Nat.le_of_ble_eq_true rfl) dX9_composeCommon_98 ?_
      obtain rfl := Option.some.inj hf
      exact V_vret hc hzz rfl rfl rfl rfl dX9_composeCommon_101
    refine V_if_ne hc dX9_composeCommon_38 rfl (fun hq38 => ?_) (fun hq38 => ?_)
    · rw [if_neg hq38] at hv10
      refine V_iload_n hc dX9_composeCommon_67 rfl 0 rfl ?_
      refine V_if_ne hc dX9_composeCommon_68 rfl (fun hq68 => ?_) (fun hq68 => ?_)
      · rw [if_neg hq68] at hv10
        obtain rfl := Option.some.inj hv10
        exact V_sub [2, 1] rfl hJ38
      · rw [if_pos hq68] at hv10
        refine V_aload_n hc dX9_composeCommon_71 rfl 2 rfl ?_
        obtain ⟨a11, ha11, hv10⟩ := mb hv10
        refine C_getr hc rfl iW9 (by decide) 2 (by decide) rfl ha11 w1_133 dX9_composeCommon_72 ?_
        refine V_aload_n hc dX9_composeCommon_75 rfl 2 rfl ?_
        obtain ⟨a12, ha12, hv10⟩ := mb hv10
        refine C_getr hc rfl iW9 (by decide) 0 (by decide) rfl ha12 w1_131 dX9_composeCommon_76 ?_
        obtain ⟨v13, hv13, hv10⟩ := mb hv10
        refine C_geti hc rfl iW5 (by decide) 2 (by decide) rfl hv13 w1_117 dX9_composeCommon_79 ?_
        obtain ⟨S14, hS14, hv10⟩ := mb hv10
        obtain ⟨hkS14, hS14⟩ := og hS14
        refine C_callV hc hz (As := [.int v13]) hkS14 (by decide) (c4_addPut l D y _ _ hS14) w4_39 w4_40 w4_41 w1_5 w4_42 hdX_X4_addPut ⟨(Nat.le_of_ble_eq_true rfl), (Nat.le_of_ble_eq_true rfl)⟩ rfl rfl rfl (Nat.le_of_ble_eq_true rfl) dX9_composeCommon_82 ?_
        obtain rfl := Option.some.inj hv10
        exact V_sub [2, 1] rfl hJ38
    · rw [if_pos hq38] at hv10
      refine V_iload_n hc dX9_composeCommon_41 rfl 0 rfl ?_
      refine V_if_eq hc dX9_composeCommon_42 rfl (fun hq42 => ?_) (fun hq42 => ?_)
      · rw [if_pos hq42] at hv10
        refine V_aload_n hc dX9_composeCommon_56 rfl 2 rfl ?_
        obtain ⟨a15, ha15, hv10⟩ := mb hv10
        refine C_getr hc rfl iW9 (by decide) 2 (by decide) rfl ha15 w1_133 dX9_composeCommon_57 ?_
        refine V_iload_n hc dX9_composeCommon_60 rfl 1 rfl ?_
        obtain ⟨S16, hS16, hv10⟩ := mb hv10
        obtain ⟨hkS16, hS16⟩ := og hS16
        refine C_callV hc hz (As := [.int (if v4 < v2 then v4 else v2)]) hkS16 (by decide) (c4_addKeep l D y _ _ hS16) w4_43 w4_44 w4_45 w1_5 w4_46 hdX_X4_addKeep ⟨(Nat.le_of_ble_eq_true rfl), (Nat.le_of_ble_eq_true rfl)⟩ rfl rfl rfl (Nat.le_of_ble_eq_true rfl) dX9_composeCommon_61 ?_
        refine V_goto hc dX9_composeCommon_64 rfl ?_
        obtain rfl := Option.some.inj hv10
        exact V_sub [2, 1] rfl hJ38
      · rw [if_neg hq42] at hv10
        refine V_aload_n hc dX9_composeCommon_45 rfl 2 rfl ?_
        obtain ⟨a17, ha17, hv10⟩ := mb hv10
        refine C_getr hc rfl iW9 (by decide) 2 (by decide) rfl ha17 w1_133 dX9_composeCommon_46 ?_
        refine V_iload_n hc dX9_composeCommon_49 rfl 1 rfl ?_
        obtain ⟨S18, hS18, hv10⟩ := mb hv10
        obtain ⟨hkS18, hS18⟩ := og hS18
        refine C_callV hc hz (As := [.int (if v4 < v2 then v4 else v2)]) hkS18 (by decide) (c4_addCut l D y _ _ hS18) w4_57 w4_58 w4_59 w1_5 w4_60 hdX_X4_addCut ⟨(Nat.le_of_ble_eq_true rfl), (Nat.le_of_ble_eq_true rfl)⟩ rfl rfl rfl (Nat.le_of_ble_eq_true rfl) dX9_composeCommon_50 ?_
        refine V_goto hc dX9_composeCommon_53 rfl ?_
        obtain rfl := Option.some.inj hv10
        exact V_sub [2, 1] rfl hJ38
  · rw [if_neg hq19] at hf
    obtain rfl := Option.some.inj hf
    exact V_vret hc hzz rfl rfl rfl rfl dX9_composeCommon_22
