noncomputable def LX11_perform_44 (X : Nat × Nat) (h : Nat) : Nat → Int32 → CS → Option (CS)
  | 0, _, _ => none
  | n + 1, i4, S =>
    if i4 ≤ 0 then (
      some S
    ) else (
      (gr S 11 h 3).bind fun a1 =>
      (cal S 10 a1 (f10_runTick X S a1)).bind fun S2 =>
      LX11_perform_44 X h n (i4 + (-1 : Int32)) S2
    )
noncomputable def f11_perform (X : Nat × Nat) (S : CS) (h : Nat) (p1 : Int32) : Option (CS) :=
  (gr S 11 h 0).bind fun a1 =>
  (gr S 8 a1 9).bind fun a2 =>
  (ldi S a2 p1).bind fun v3 =>
  (gr S 11 h 0).bind fun a4 =>
  (cal S 8 a4 (f8_numberOf S a4 p1 (0 : Int32))).bind fun v5 =>
  (
    if v3 = (8 : Int32) then (
      (gr S 11 h 3).bind fun a11 =>
      (cal S 10 a11 (f10_canTick S a11 v5)).bind fun v12 =>
      (
        if v12 = 0 then (
          some (0 : Int32)
        ) else (
          some v5
        )
      ).bind fun v13 =>
      (LX11_perform_44 X h FU v13 S).bind fun S15 =>
      some S15
    ) else (
      if v3 = 0 then (
        some S
      ) else (
        if v3 = (2 : Int32) then (
          some S
        ) else (
          (gr S 11 h 3).bind fun a8 =>
          (cal S 10 a8 (f10_knows S a8 v5)).bind fun v9 =>
          if v9 = 0 then (
            some S
          ) else (
            (cal S 11 h (f11_performFor X S h v5 p1)).bind fun S10 =>
            some S10
          )
        )
      )
    )
  ).bind fun S6 =>
  some S6
theorem hdX_X11_perform : yX11_perform.cls = "FarEditors" ∧ yX11_perform.cls ≠ "java/lang/invoke/MethodHandle" ∧ yX11_perform.cls ≠ "java/lang/invoke/VarHandle" ∧ (parseMethodDescriptor yX11_perform.desc).map (fun d => d.parameters.length) = some 1 := by decide +kernel
set_option maxHeartbeats 4000000 in
set_option maxRecDepth 100000 in
theorem LX11_perform_44_ok {E : CxT} {l : Launch} {D : va_G} {y : CyT}  (hc : Cx E "FarEditors" cX11_perform 5) (X : Nat × Nat) (h : Nat) (hz : Cy E l D y 6 141 X.1 X.2) (hX : X.2 ≤ 100000000) : ∀ (n : Nat) (i4 : Int32) (S : CS) {So : CS}, LX11_perform_44 X h n i4 S = some So → (hx0 : V E (cZ So) (cU So) (cw y So) 62 [] []) → V E (cZ S) (cU S) (cw y S) 44 [(0, .ref h), (4, .int i4)] [] := by
  have hT := hz.2.2.1
  intro n
  induction n with
  | zero => intro i4 S So hf; cases hf
  | succ n ih =>
    intro i4 S So hf hx0
    unfold LX11_perform_44 at hf
    refine V_iload hc dX11_perform_44 1 rfl ?_
    refine V_if_le hc dX11_perform_46 rfl (fun hq46 => ?_) (fun hq46 => ?_)
    · rw [if_pos hq46] at hf
      obtain rfl := Option.some.inj hf
      exact V_sub [] rfl hx0
    · rw [if_neg hq46] at hf
      refine V_aload_n hc dX11_perform_49 rfl 0 rfl ?_
      obtain ⟨a1, ha1, hf⟩ := mb hf
      refine C_getr hc rfl iW11 (by decide) 3 (by decide) rfl ha1 w2_196 dX11_perform_50 ?_
      obtain ⟨S2, hS2, hf⟩ := mb hf
      obtain ⟨hkS2, hS2⟩ := og hS2
      refine C_callV hc hz (As := []) hkS2 (by decide) (c10_runTick l D y X hX hS2) w3_234 w3_235 w3_236 w1_8 w3_237 hdX_X10_runTick ⟨(Nat.le_of_ble_eq_true rfl), (Nat.le_of_ble_eq_true rfl)⟩ rfl rfl rfl (Nat.le_of_ble_eq_true rfl) dX11_perform_53 ?_
      refine V_iinc hc (j := 1) (v := (i4 + (-1 : Int32))) dX11_perform_56 rfl rfl (by decide) rfl ?_
      refine V_goto hc dX11_perform_59 rfl ?_
      exact V_sub [1, 0] rfl (ih _ _ hf hx0)
set_option maxHeartbeats 4000000 in
set_option maxRecDepth 100000 in
theorem c11_perform (l : Launch) (D : va_G) (y : CyT) (X : Nat × Nat) (hX : X.2 ≤ 100000000) {S S' : CS} {h : Nat} {p1 : Int32} (hf : f11_perform X S h p1 = some S') : CT l D y yX11_perform cX11_perform 5 none 6 141 X.1 X.2 [.ref h, .int p1] (cZ S) (cU S) (cw y S) (cZ S') (cU S') (cw y S') none := by
  refine CT.of (by decide) (Nat.le_of_ble_eq_true rfl) (fun E hc hzz hnm => ?_)
  have hc : Cx E "FarEditors" cX11_perform 5 := hc
  have hz := hzz.1
  have hT := hz.2.2.1
  show V E (cZ S) (cU S) (cw y S) 0 [(0, .ref h), (1, .int p1)] []
  unfold f11_perform at hf
  refine V_aload_n hc dX11_perform_0 rfl 0 rfl ?_
  obtain ⟨a1, ha1, hf⟩ := mb hf
  refine C_getr hc rfl iW11 (by decide) 0 (by decide) rfl ha1 w2_193 dX11_perform_1 ?_
  obtain ⟨a2, ha2, hf⟩ := mb hf
  refine C_getr hc rfl iW8 (by decide) 9 (by decide) rfl ha2 w1_54 dX11_perform_4 ?_
  refine V_iload_n hc dX11_perform_7 rfl 1 rfl ?_
  obtain ⟨v3, hv3, hf⟩ := mb hf
  refine C_iald hc hT hv3 dX11_perform_8 ?_
  refine V_istore_n hc dX11_perform_9 rfl (by decide) rfl ?_
  refine V_aload_n hc dX11_perform_10 rfl 1 rfl ?_
  obtain ⟨a4, ha4, hf⟩ := mb hf
  refine C_getr hc rfl iW11 (by decide) 0 (by decide) rfl ha4 w2_193 dX11_perform_11 ?_
  refine V_iload_n hc dX11_perform_14 rfl 2 rfl ?_
  refine V_iconst hc (v := (0 : Int32)) dX11_perform_15 rfl ?_
  obtain ⟨v5, hv5, hf⟩ := mb hf
  obtain ⟨hkv5, hv5⟩ := og hv5
  refine C_callV hc hz (As := [.int p1, .int (0 : Int32)]) hkv5 (by decide) (c8_numberOf l D y _ _ hv5) w3_221 w3_154 w3_155 w1_2 w3_156 hdX_X8_numberOf ⟨(Nat.le_of_ble_eq_true rfl), (Nat.le_of_ble_eq_true rfl)⟩ rfl rfl rfl (Nat.le_of_ble_eq_true rfl) dX11_perform_16 ?_
  refine V_istore_n hc dX11_perform_19 rfl (by decide) rfl ?_
  refine V_iload_n hc dX11_perform_20 rfl 1 rfl ?_
  refine V_bipush hc (v := (8 : Int32)) dX11_perform_21 rfl ?_
  obtain ⟨S6, hv7, hf⟩ := mb hf
  have hJ23 : V E (cZ S6) (cU S6) (cw y S6) 91 [] [] := by
    obtain rfl := Option.some.inj hf
    exact V_vret hc hzz rfl rfl rfl rfl dX11_perform_91
  refine V_icmp_ne hc dX11_perform_23 rfl (fun hq23 => ?_) (fun hq23 => ?_)
  · rw [if_neg hq23] at hv7
    refine V_iload_n hc dX11_perform_65 rfl 1 rfl ?_
    refine V_if_eq hc dX11_perform_66 rfl (fun hq66 => ?_) (fun hq66 => ?_)
    · rw [if_pos hq66] at hv7
      obtain rfl := Option.some.inj hv7
      exact V_sub [] rfl hJ23
    · rw [if_neg hq66] at hv7
      refine V_iload_n hc dX11_perform_69 rfl 1 rfl ?_
      refine V_iconst hc (v := (2 : Int32)) dX11_perform_70 rfl ?_
      refine V_icmp_eq hc dX11_perform_71 rfl (fun hq71 => ?_) (fun hq71 => ?_)
      · rw [if_pos hq71] at hv7
        obtain rfl := Option.some.inj hv7
        exact V_sub [] rfl hJ23
      · rw [if_neg hq71] at hv7
        refine V_aload_n hc dX11_perform_74 rfl 2 rfl ?_
        obtain ⟨a8, ha8, hv7⟩ := mb hv7
        refine C_getr hc rfl iW11 (by decide) 3 (by decide) rfl ha8 w2_196 dX11_perform_75 ?_
        refine V_iload_n hc dX11_perform_78 rfl 0 rfl ?_
        obtain ⟨v9, hv9, hv7⟩ := mb hv7
        obtain ⟨hkv9, hv9⟩ := og hv9
        refine C_callV hc hz (As := [.int v5]) hkv9 (by decide) (c10_knows l D y _ _ hv9) w3_222 w3_223 w3_224 w1_8 w3_225 hdX_X10_knows ⟨(Nat.le_of_ble_eq_true rfl), (Nat.le_of_ble_eq_true rfl)⟩ rfl rfl rfl (Nat.le_of_ble_eq_true rfl) dX11_perform_79 ?_
        refine V_if_eq hc dX11_perform_82 rfl (fun hq82 => ?_) (fun hq82 => ?_)
        · rw [if_pos hq82] at hv7
          obtain rfl := Option.some.inj hv7
          exact V_sub [] rfl hJ23
        · rw [if_neg hq82] at hv7
          refine V_aload_n hc dX11_perform_85 rfl 2 rfl ?_
          refine V_iload_n hc dX11_perform_86 rfl 0 rfl ?_
          refine V_iload_n hc dX11_perform_87 rfl 3 rfl ?_
          obtain ⟨S10, hS10, hv7⟩ := mb hv7
          obtain ⟨hkS10, hS10⟩ := og hS10
          refine C_callV hc hz (As := [.int v5, .int p1]) hkS10 (by decide) (c11_performFor l D y X hX hS10) w4_118 w4_120 wp2_15 w1_1 w4_121 hdX_X11_performFor ⟨(Nat.le_of_ble_eq_true rfl), (Nat.le_of_ble_eq_true rfl)⟩ rfl rfl rfl (Nat.le_of_ble_eq_true rfl) dX11_perform_88 ?_
          obtain rfl := Option.some.inj hv7
          exact V_sub [] rfl hJ23
  · rw [if_pos hq23] at hv7
    refine V_aload_n hc dX11_perform_26 rfl 2 rfl ?_
    obtain ⟨a11, ha11, hv7⟩ := mb hv7
    refine C_getr hc rfl iW11 (by decide) 3 (by decide) rfl ha11 w2_196 dX11_perform_27 ?_
    refine V_iload_n hc dX11_perform_30 rfl 0 rfl ?_
    obtain ⟨v12, hv12, hv7⟩ := mb hv7
    obtain ⟨hkv12, hv12⟩ := og hv12
    refine C_callV hc hz (As := [.int v5]) hkv12 (by decide) (c10_canTick l D y _ _ hv12) w3_230 w3_231 w3_232 w1_8 w3_233 hdX_X10_canTick ⟨(Nat.le_of_ble_eq_true rfl), (Nat.le_of_ble_eq_true rfl)⟩ rfl rfl rfl (Nat.le_of_ble_eq_true rfl) dX11_perform_31 ?_
    obtain ⟨v13, hv14, hv7⟩ := mb hv7
    have hJ34 : V E (cZ S) (cU S) (cw y S) 42 [(0, .ref h)] [.int v13] := by
      refine V_istore hc dX11_perform_42 (by decide) rfl ?_
      obtain ⟨S15, hv16, hv7⟩ := mb hv7
      refine V_sub [1, 0] rfl (LX11_perform_44_ok hc X h hz hX FU _ _ hv16 ?_)
      refine V_goto hc dX11_perform_62 rfl ?_
      obtain rfl := Option.some.inj hv7
      exact V_sub [] rfl hJ23
    refine V_if_eq hc dX11_perform_34 rfl (fun hq34 => ?_) (fun hq34 => ?_)
    · rw [if_pos hq34] at hv14
      refine V_iconst hc (v := (0 : Int32)) dX11_perform_41 rfl ?_
      obtain rfl := Option.some.inj hv14
      exact V_sub [2] rfl hJ34
    · rw [if_neg hq34] at hv14
      refine V_iload_n hc dX11_perform_37 rfl 0 rfl ?_
      refine V_goto hc dX11_perform_38 rfl ?_
      obtain rfl := Option.some.inj hv14
      exact V_sub [2] rfl hJ34
noncomputable def LX11_session_28 (h : Nat) : Nat → Int32 → CS → Option (CS)
  | 0, _, _ => none
  | n + 1, i2, S =>
    (gr S 11 h 0).bind fun a1 =>
    (gi S 8 a1 4).bind fun v2 =>
    if v2 ≤ i2 then (
      some S
    ) else (
      (cal S 11 h (f11_settle S h i2)).bind fun S3 =>
      LX11_session_28 h n (i2 + (1 : Int32)) S3
    )
noncomputable def LX11_session_52 (X : Nat × Nat) (h : Nat) : Nat → Int32 → CS → Option (CS)
  | 0, _, _ => none
  | n + 1, i2, S =>
    (gr S 11 h 0).bind fun a1 =>
    (gi S 8 a1 4).bind fun v2 =>
    if v2 ≤ i2 then (
      some S
    ) else (
      (cal S 11 h (f11_perform X S h i2)).bind fun S3 =>
      LX11_session_52 X h n (i2 + (1 : Int32)) S3
    )
noncomputable def f11_session (X : Nat × Nat) (S : CS) (h : Nat) : Option (Int32 × CS) :=
  (gr S 11 h 0).bind fun a1 =>
  bn2 (cal S 8 a1 (f8_readSession S a1)) fun v2 S3 =>
  (cal S3 11 h (f11_noteFault S3 h)).bind fun S4 =>
  if v2 = 0 then (
    bn2 (cal S4 11 h (f11_refuse S4 h (1 : Int32))) fun v12 S13 =>
    some (v12, S13)
  ) else (
    (cal S4 11 h (f11_beginAsTold S4 h)).bind fun S5 =>
    (LX11_session_28 h FU (0 : Int32) S5).bind fun S6 =>
    (LX11_session_52 X h FU (0 : Int32) S6).bind fun S8 =>
    (gr S8 11 h 0).bind fun a10 =>
    (gi S8 8 a10 4).bind fun v11 =>
    some (v11, S8)
  )
theorem hdX_X11_session : yX11_session.cls = "FarEditors" ∧ yX11_session.cls ≠ "java/lang/invoke/MethodHandle" ∧ yX11_session.cls ≠ "java/lang/invoke/VarHandle" ∧ (parseMethodDescriptor yX11_session.desc).map (fun d => d.parameters.length) = some 0 := by decide +kernel
set_option maxHeartbeats 4000000 in
set_option maxRecDepth 100000 in
theorem LX11_session_28_ok {E : CxT} {l : Launch} {D : va_G} {y : CyT} {zM uM : Nat} (hc : Cx E "FarEditors" cX11_session 3) (h : Nat) (hz : Cy E l D y 9 195 zM uM) : ∀ (n : Nat) (i2 : Int32) (S : CS) {So : CS}, LX11_session_28 h n i2 S = some So → (hx0 : V E (cZ So) (cU So) (cw y So) 50 [(0, .ref h)] []) → V E (cZ S) (cU S) (cw y S) 28 [(0, .ref h), (2, .int i2)] [] := by
  have hT := hz.2.2.1
  intro n
  induction n with
  | zero => intro i2 S So hf; cases hf
  | succ n ih =>
    intro i2 S So hf hx0
    unfold LX11_session_28 at hf
    refine V_iload_n hc dX11_session_28 rfl 1 rfl ?_
    refine V_aload_n hc dX11_session_29 rfl 0 rfl ?_
    obtain ⟨a1, ha1, hf⟩ := mb hf
    refine C_getr hc rfl iW11 (by decide) 0 (by decide) rfl ha1 w2_193 dX11_session_30 ?_
    obtain ⟨v2, hv2, hf⟩ := mb hf
    refine C_geti hc rfl iW8 (by decide) 4 (by decide) rfl hv2 w1_44 dX11_session_33 ?_
    refine V_icmp_ge hc dX11_session_36 rfl (fun hq36 => ?_) (fun hq36 => ?_)
    · rw [if_pos hq36] at hf
      obtain rfl := Option.some.inj hf
      exact V_sub [0] rfl hx0
    · rw [if_neg hq36] at hf
      refine V_aload_n hc dX11_session_39 rfl 0 rfl ?_
      refine V_iload_n hc dX11_session_40 rfl 1 rfl ?_
      obtain ⟨S3, hS3, hf⟩ := mb hf
      obtain ⟨hkS3, hS3⟩ := og hS3
      refine C_callV hc hz (As := [.int i2]) hkS3 (by decide) (c11_settle l D y _ _ hS3) w3_217 w3_219 wp2_10 w1_1 w3_220 hdX_X11_settle ⟨(Nat.le_of_ble_eq_true rfl), (Nat.le_of_ble_eq_true rfl)⟩ rfl rfl rfl (Nat.le_of_ble_eq_true rfl) dX11_session_41 ?_
      refine V_iinc hc (j := 1) (v := (i2 + (1 : Int32))) dX11_session_44 rfl rfl (by decide) rfl ?_
      refine V_goto hc dX11_session_47 rfl ?_
      exact V_sub [1, 0] rfl (ih _ _ hf hx0)
set_option maxHeartbeats 4000000 in
set_option maxRecDepth 100000 in
theorem LX11_session_52_ok {E : CxT} {l : Launch} {D : va_G} {y : CyT}  (hc : Cx E "FarEditors" cX11_session 3) (X : Nat × Nat) (h : Nat) (hz : Cy E l D y 9 195 X.1 X.2) (hX : X.2 ≤ 100000000) : ∀ (n : Nat) (i2 : Int32) (S : CS) {So : CS}, LX11_session_52 X h n i2 S = some So → (hx0 : V E (cZ So) (cU So) (cw y So) 74 [(0, .ref h)] []) → V E (cZ S) (cU S) (cw y S) 52 [(0, .ref h), (2, .int i2)] [] := by
  have hT := hz.2.2.1
  intro n
  induction n with
  | zero => intro i2 S So hf; cases hf
  | succ n ih =>
    intro i2 S So hf hx0
    unfold LX11_session_52 at hf
    refine V_iload_n hc dX11_session_52 rfl 1 rfl ?_
    refine V_aload_n hc dX11_session_53 rfl 0 rfl ?_
    obtain ⟨a1, ha1, hf⟩ := mb hf
    refine C_getr hc rfl iW11 (by decide) 0 (by decide) rfl ha1 w2_193 dX11_session_54 ?_
    obtain ⟨v2, hv2, hf⟩ := mb hf
    refine C_geti hc rfl iW8 (by decide) 4 (by decide) rfl hv2 w1_44 dX11_session_57 ?_
    refine V_icmp_ge hc dX11_session_60 rfl (fun hq60 => ?_) (fun hq60 => ?_)
    · rw [if_pos hq60] at hf
      obtain rfl := Option.some.inj hf
      exact V_sub [0] rfl hx0
    · rw [if_neg hq60] at hf
      refine V_aload_n hc dX11_session_63 rfl 0 rfl ?_
      refine V_iload_n hc dX11_session_64 rfl 1 rfl ?_
      obtain ⟨S3, hS3, hf⟩ := mb hf
      obtain ⟨hkS3, hS3⟩ := og hS3
      refine C_callV hc hz (As := [.int i2]) hkS3 (by decide) (c11_perform l D y X hX hS3) w3_226 w3_228 wp2_11 w1_1 w3_229 hdX_X11_perform ⟨(Nat.le_of_ble_eq_true rfl), (Nat.le_of_ble_eq_true rfl)⟩ rfl rfl rfl (Nat.le_of_ble_eq_true rfl) dX11_session_65 ?_
      refine V_iinc hc (j := 1) (v := (i2 + (1 : Int32))) dX11_session_68 rfl rfl (by decide) rfl ?_
      refine V_goto hc dX11_session_71 rfl ?_
      exact V_sub [1, 0] rfl (ih _ _ hf hx0)
set_option maxHeartbeats 4000000 in
set_option maxRecDepth 100000 in
theorem c11_session (l : Launch) (D : va_G) (y : CyT) (X : Nat × Nat) (hX : X.2 ≤ 100000000) {S S' : CS} {h : Nat} {r : Int32} (hf : f11_session X S h = some (r, S')) : CT l D y yX11_session cX11_session 3 (some .int) 9 195 X.1 X.2 [.ref h] (cZ S) (cU S) (cw y S) (cZ S') (cU S') (cw y S') (some (.int r)) := by
  refine CT.of (by decide) (Nat.le_of_ble_eq_true rfl) (fun E hc hzz hnm => ?_)
  have hc : Cx E "FarEditors" cX11_session 3 := hc
  have hz := hzz.1
  have hT := hz.2.2.1
  show V E (cZ S) (cU S) (cw y S) 0 [(0, .ref h)] []
  unfold f11_session at hf
  refine V_aload_n hc dX11_session_0 rfl 0 rfl ?_
  obtain ⟨a1, ha1, hf⟩ := mb hf
  refine C_getr hc rfl iW11 (by decide) 0 (by decide) rfl ha1 w2_193 dX11_session_1 ?_
  obtain ⟨v2, S3, hv2, hf⟩ := mb2 hf
  obtain ⟨hkv2, hv2⟩ := og hv2
  refine C_callV hc hz (As := []) hkv2 (by decide) (c8_readSession l D y _ _ hv2) w3_24 w3_25 w3_26 w1_2 w3_27 hdX_X8_readSession ⟨(Nat.le_of_ble_eq_true rfl), (Nat.le_of_ble_eq_true rfl)⟩ rfl rfl rfl (Nat.le_of_ble_eq_true rfl) dX11_session_4 ?_
  refine V_istore_n hc dX11_session_7 rfl (by decide) rfl ?_
  refine V_aload_n hc dX11_session_8 rfl 1 rfl ?_
  obtain ⟨S4, hS4, hf⟩ := mb hf
  obtain ⟨hkS4, hS4⟩ := og hS4
  refine C_callV hc hz (As := []) hkS4 (by decide) (c11_noteFault l D y _ _ hS4) w3_181 w3_183 wp2_8 w1_1 w3_184 hdX_X11_noteFault ⟨(Nat.le_of_ble_eq_true rfl), (Nat.le_of_ble_eq_true rfl)⟩ rfl rfl rfl (Nat.le_of_ble_eq_true rfl) dX11_session_9 ?_
  refine V_iload_n hc dX11_session_12 rfl 0 rfl ?_
  refine V_if_ne hc dX11_session_13 rfl (fun hq13 => ?_) (fun hq13 => ?_)
  · rw [if_neg hq13] at hf
    refine V_aload_n hc dX11_session_22 rfl 1 rfl ?_
    obtain ⟨S5, hS5, hf⟩ := mb hf
    obtain ⟨hkS5, hS5⟩ := og hS5
    refine C_callV hc hz (As := []) hkS5 (by decide) (c11_beginAsTold l D y _ _ hS5) w3_185 w3_187 wp2_9 w1_1 w3_188 hdX_X11_beginAsTold ⟨(Nat.le_of_ble_eq_true rfl), (Nat.le_of_ble_eq_true rfl)⟩ rfl rfl rfl (Nat.le_of_ble_eq_true rfl) dX11_session_23 ?_
    refine V_iconst hc (v := (0 : Int32)) dX11_session_26 rfl ?_
    refine V_istore_n hc dX11_session_27 rfl (by decide) rfl ?_
    obtain ⟨S6, hv7, hf⟩ := mb hf
    refine V_sub [2, 0] rfl (LX11_session_28_ok hc h hz FU _ _ hv7 ?_)
    refine V_iconst hc (v := (0 : Int32)) dX11_session_50 rfl ?_
    refine V_istore_n hc dX11_session_51 rfl (by decide) rfl ?_
    obtain ⟨S8, hv9, hf⟩ := mb hf
    refine V_sub [1, 0] rfl (LX11_session_52_ok hc X h hz hX FU _ _ hv9 ?_)
    refine V_aload_n hc dX11_session_74 rfl 0 rfl ?_
    obtain ⟨a10, ha10, hf⟩ := mb hf
    refine C_getr hc rfl iW11 (by decide) 0 (by decide) rfl ha10 w2_193 dX11_session_75 ?_
    obtain ⟨v11, hv11, hf⟩ := mb hf
    refine C_geti hc rfl iW8 (by decide) 4 (by decide) rfl hv11 w1_44 dX11_session_78 ?_
    obtain ⟨rfl, rfl⟩ := si2 hf
    exact V_iret hc hzz rfl rfl rfl rfl rfl dX11_session_81
  · rw [if_pos hq13] at hf
    refine V_aload_n hc dX11_session_16 rfl 1 rfl ?_
    refine V_iconst hc (v := (1 : Int32)) dX11_session_17 rfl ?_
    obtain ⟨v12, S13, hv12, hf⟩ := mb2 hf
    obtain ⟨hkv12, hv12⟩ := og hv12
    refine C_callV hc hz (As := [.int (1 : Int32)]) hkv12 (by decide) (c11_refuse l D y _ _ hv12) w3_4 w3_6 wp1_0 w1_1 w3_7 hdX_X11_refuse ⟨(Nat.le_of_ble_eq_true rfl), (Nat.le_of_ble_eq_true rfl)⟩ rfl rfl rfl (Nat.le_of_ble_eq_true rfl) dX11_session_18 ?_
    obtain ⟨rfl, rfl⟩ := si2 hf
    exact V_iret hc hzz rfl rfl rfl rfl rfl dX11_session_21
noncomputable def f11_fault (S : CS) (h : Nat) (p1 : Int32) : Option (Int32) :=
  if p1 = 0 then (
    (gi S 11 h 11).bind fun v4 =>
    some v4
  ) else (
    (
      if p1 = (1 : Int32) then (
        (gi S 11 h 12).bind fun v3 =>
        some v3
      ) else (
        some (-1 : Int32)
      )
    ).bind fun v1 =>
    some v1
  )
theorem hdX_X11_fault : yX11_fault.cls = "FarEditors" ∧ yX11_fault.cls ≠ "java/lang/invoke/MethodHandle" ∧ yX11_fault.cls ≠ "java/lang/invoke/VarHandle" ∧ (parseMethodDescriptor yX11_fault.desc).map (fun d => d.parameters.length) = some 1 := by decide +kernel
set_option maxHeartbeats 4000000 in
set_option maxRecDepth 100000 in
theorem c11_fault (l : Launch) (D : va_G) (y : CyT) (zM uM : Nat) {S : CS} {h : Nat} {p1 : Int32} {r : Int32} (hf : f11_fault S h p1 = some r) : CT l D y yX11_fault cX11_fault 2 (some .int) 0 0 zM uM [.ref h, .int p1] (cZ S) (cU S) (cw y S) (cZ S) (cU S) (cw y S) (some (.int r)) := by
  refine CT.of (by decide) (Nat.le_of_ble_eq_true rfl) (fun E hc hzz hnm => ?_)
  have hc : Cx E "FarEditors" cX11_fault 2 := hc
  have hz := hzz.1
  have hT := hz.2.2.1
  show V E (cZ S) (cU S) (cw y S) 0 [(0, .ref h), (1, .int p1)] []
  unfold f11_fault at hf
  refine V_iload_n hc dX11_fault_0 rfl 1 rfl ?_
  refine V_if_ne hc dX11_fault_1 rfl (fun hq1 => ?_) (fun hq1 => ?_)
  · rw [if_neg hq1] at hf
    refine V_iload_n hc dX11_fault_9 rfl 1 rfl ?_
    refine V_iconst hc (v := (1 : Int32)) dX11_fault_10 rfl ?_
    obtain ⟨v1, hv2, hf⟩ := mb hf
    have hJ11 : V E (cZ S) (cU S) (cw y S) 22 [] [.int v1] := by
      obtain rfl := Option.some.inj hf
      exact V_iret hc hzz rfl rfl rfl rfl rfl dX11_fault_22
    refine V_icmp_ne hc dX11_fault_11 rfl (fun hq11 => ?_) (fun hq11 => ?_)
    · rw [if_neg hq11] at hv2
      refine V_iconst hc (v := (-1 : Int32)) dX11_fault_21 rfl ?_
      obtain rfl := Option.some.inj hv2
      exact V_sub [] rfl hJ11
    · rw [if_pos hq11] at hv2
      refine V_aload_n hc dX11_fault_14 rfl 0 rfl ?_
      obtain ⟨v3, hv3, hv2⟩ := mb hv2
      refine C_geti hc rfl iW11 (by decide) 12 (by decide) rfl hv3 w2_205 dX11_fault_15 ?_
      refine V_goto hc dX11_fault_18 rfl ?_
      obtain rfl := Option.some.inj hv2
      exact V_sub [] rfl hJ11
  · rw [if_pos hq1] at hf
    refine V_aload_n hc dX11_fault_4 rfl 0 rfl ?_
    obtain ⟨v4, hv4, hf⟩ := mb hf
    refine C_geti hc rfl iW11 (by decide) 11 (by decide) rfl hv4 w2_204 dX11_fault_5 ?_
    obtain rfl := Option.some.inj hf
    exact V_iret hc hzz rfl rfl rfl rfl rfl dX11_fault_8
noncomputable def f11_has (S : CS) (h : Nat) (p1 : Int32) : Option (Int32) :=
  if p1 = (0 : Int32) then (
    (gr S 11 h 3).bind fun a1 =>
    (gi S 10 a1 6).bind fun v2 =>
    some v2
  ) else (
    if p1 = (1 : Int32) then (
      (gr S 11 h 3).bind fun a3 =>
      (gi S 10 a3 11).bind fun v4 =>
      some v4
    ) else (
      if p1 = (2 : Int32) then (
        (gr S 11 h 3).bind fun a5 =>
        (gr S 10 a5 2).bind fun a6 =>
        (gi S 7 a6 1).bind fun v7 =>
        some v7
      ) else (
        if p1 = (3 : Int32) then (
          (gr S 11 h 3).bind fun a8 =>
          (gi S 10 a8 8).bind fun v9 =>
          some v9
        ) else (
          if p1 = (4 : Int32) then (
            (gr S 11 h 3).bind fun a10 =>
            (gi S 10 a10 9).bind fun v11 =>
            some v11
          ) else (
            if p1 = (5 : Int32) then (
              (gr S 11 h 3).bind fun a12 =>
              (gi S 10 a12 10).bind fun v13 =>
              some v13
            ) else (
              if p1 = (6 : Int32) then (
                (gr S 11 h 3).bind fun a14 =>
                (cal S 10 a14 (f10_onTheirWay S a14)).bind fun v15 =>
                some v15
              ) else (
                if p1 = (7 : Int32) then (
                  (gr S 11 h 6).bind fun a16 =>
                  (gi S 0 a16 8).bind fun v17 =>
                  some v17
                ) else (
                  if p1 = (8 : Int32) then (
                    (gr S 11 h 5).bind fun a18 =>
                    (gi S 2 a18 2).bind fun v19 =>
                    some v19
                  ) else (
                    if p1 = (9 : Int32) then (
                      (gr S 11 h 3).bind fun a20 =>
                      (cal S 10 a20 (f10_onTheirWay S a20)).bind fun v21 =>
                      (
                        if v21 = 0 then (
                          some (1 : Int32)
                        ) else (
                          some (0 : Int32)
                        )
                      ).bind fun v22 =>
                      some v22
                    ) else (
                      if p1 = (10 : Int32) then (
                        (gr S 11 h 3).bind fun a24 =>
                        (gi S 10 a24 7).bind fun v25 =>
                        some v25
                      ) else (
                        some (-1 : Int32)
                      )
                    )
                  )
                )
              )
            )
          )
        )
      )
    )
  )
theorem hdX_X11_has : yX11_has.cls = "FarEditors" ∧ yX11_has.cls ≠ "java/lang/invoke/MethodHandle" ∧ yX11_has.cls ≠ "java/lang/invoke/VarHandle" ∧ (parseMethodDescriptor yX11_has.desc).map (fun d => d.parameters.length) = some 1 := by decide +kernel
set_option maxHeartbeats 4000000 in
set_option maxRecDepth 100000 in
theorem c11_has (l : Launch) (D : va_G) (y : CyT) (zM uM : Nat) {S : CS} {h : Nat} {p1 : Int32} {r : Int32} (hf : f11_has S h p1 = some r) : CT l D y yX11_has cX11_has 2 (some .int) 1 22 zM uM [.ref h, .int p1] (cZ S) (cU S) (cw y S) (cZ S) (cU S) (cw y S) (some (.int r)) := by
  refine CT.of (by decide) (Nat.le_of_ble_eq_true rfl) (fun E hc hzz hnm => ?_)
  have hc : Cx E "FarEditors" cX11_has 2 := hc
  have hz := hzz.1
  have hT := hz.2.2.1
  show V E (cZ S) (cU S) (cw y S) 0 [(0, .ref h), (1, .int p1)] []
  unfold f11_has at hf
  refine V_iload_n hc dX11_has_0 rfl 1 rfl ?_
  by_cases hs1_0 : p1 = (0 : Int32)
  · rw [if_pos hs1_0] at hf
    refine V_tableIn hc dX11_has_1 (by rw [hs1_0]; decide) (by rw [hs1_0]; decide) (off := 59) (by rw [hs1_0]; rfl) rfl ?_
    refine V_aload_n hc dX11_has_60 rfl 0 rfl ?_
    obtain ⟨a1, ha1, hf⟩ := mb hf
    refine C_getr hc rfl iW11 (by decide) 3 (by decide) rfl ha1 w2_196 dX11_has_61 ?_
    obtain ⟨v2, hv2, hf⟩ := mb hf
    refine C_geti hc rfl iW10 (by decide) 6 (by decide) rfl hv2 w2_86 dX11_has_64 ?_
    obtain rfl := Option.some.inj hf
    exact V_iret hc hzz rfl rfl rfl rfl rfl dX11_has_67
  rw [if_neg hs1_0] at hf
  by_cases hs1_1 : p1 = (1 : Int32)
  · rw [if_pos hs1_1] at hf
    refine V_tableIn hc dX11_has_1 (by rw [hs1_1]; decide) (by rw [hs1_1]; decide) (off := 67) (by rw [hs1_1]; rfl) rfl ?_
    refine V_aload_n hc dX11_has_68 rfl 0 rfl ?_
    obtain ⟨a3, ha3, hf⟩ := mb hf
    refine C_getr hc rfl iW11 (by decide) 3 (by decide) rfl ha3 w2_196 dX11_has_69 ?_
    obtain ⟨v4, hv4, hf⟩ := mb hf
    refine C_geti hc rfl iW10 (by decide) 11 (by decide) rfl hv4 w2_96 dX11_has_72 ?_
    obtain rfl := Option.some.inj hf
    exact V_iret hc hzz rfl rfl rfl rfl rfl dX11_has_75
  rw [if_neg hs1_1] at hf
  by_cases hs1_2 : p1 = (2 : Int32)
  · rw [if_pos hs1_2] at hf
    refine V_tableIn hc dX11_has_1 (by rw [hs1_2]; decide) (by rw [hs1_2]; decide) (off := 75) (by rw [hs1_2]; rfl) rfl ?_
    refine V_aload_n hc dX11_has_76 rfl 0 rfl ?_
    obtain ⟨a5, ha5, hf⟩ := mb hf
    refine C_getr hc rfl iW11 (by decide) 3 (by decide) rfl ha5 w2_196 dX11_has_77 ?_
    obtain ⟨a6, ha6, hf⟩ := mb hf
    refine C_getr hc rfl iW10 (by decide) 2 (by decide) rfl ha6 w2_77 dX11_has_80 ?_
    obtain ⟨v7, hv7, hf⟩ := mb hf
    refine C_geti hc rfl iW7 (by decide) 1 (by decide) rfl hv7 w1_170 dX11_has_83 ?_
    obtain rfl := Option.some.inj hf
    exact V_iret hc hzz rfl rfl rfl rfl rfl dX11_has_86
  rw [if_neg hs1_2] at hf
  by_cases hs1_3 : p1 = (3 : Int32)
  · rw [if_pos hs1_3] at hf
    refine V_tableIn hc dX11_has_1 (by rw [hs1_3]; decide) (by rw [hs1_3]; decide) (off := 86) (by rw [hs1_3]; rfl) rfl ?_
    refine V_aload_n hc dX11_has_87 rfl 0 rfl ?_
    obtain ⟨a8, ha8, hf⟩ := mb hf
    refine C_getr hc rfl iW11 (by decide) 3 (by decide) rfl ha8 w2_196 dX11_has_88 ?_
    obtain ⟨v9, hv9, hf⟩ := mb hf
    refine C_geti hc rfl iW10 (by decide) 8 (by decide) rfl hv9 w2_90 dX11_has_91 ?_
    obtain rfl := Option.some.inj hf
    exact V_iret hc hzz rfl rfl rfl rfl rfl dX11_has_94
  rw [if_neg hs1_3] at hf
  by_cases hs1_4 : p1 = (4 : Int32)
  · rw [if_pos hs1_4] at hf
    refine V_tableIn hc dX11_has_1 (by rw [hs1_4]; decide) (by rw [hs1_4]; decide) (off := 94) (by rw [hs1_4]; rfl) rfl ?_
    refine V_aload_n hc dX11_has_95 rfl 0 rfl ?_
    obtain ⟨a10, ha10, hf⟩ := mb hf
    refine C_getr hc rfl iW11 (by decide) 3 (by decide) rfl ha10 w2_196 dX11_has_96 ?_
    obtain ⟨v11, hv11, hf⟩ := mb hf
    refine C_geti hc rfl iW10 (by decide) 9 (by decide) rfl hv11 w2_92 dX11_has_99 ?_
    obtain rfl := Option.some.inj hf
    exact V_iret hc hzz rfl rfl rfl rfl rfl dX11_has_102
  rw [if_neg hs1_4] at hf
  by_cases hs1_5 : p1 = (5 : Int32)
  · rw [if_pos hs1_5] at hf
    refine V_tableIn hc dX11_has_1 (by rw [hs1_5]; decide) (by rw [hs1_5]; decide) (off := 102) (by rw [hs1_5]; rfl) rfl ?_
    refine V_aload_n hc dX11_has_103 rfl 0 rfl ?_
    obtain ⟨a12, ha12, hf⟩ := mb hf
    refine C_getr hc rfl iW11 (by decide) 3 (by decide) rfl ha12 w2_196 dX11_has_104 ?_
    obtain ⟨v13, hv13, hf⟩ := mb hf
    refine C_geti hc rfl iW10 (by decide) 10 (by decide) rfl hv13 w2_94 dX11_has_107 ?_
    obtain rfl := Option.some.inj hf
    exact V_iret hc hzz rfl rfl rfl rfl rfl dX11_has_110
  rw [if_neg hs1_5] at hf
  by_cases hs1_6 : p1 = (6 : Int32)
  · rw [if_pos hs1_6] at hf
    refine V_tableIn hc dX11_has_1 (by rw [hs1_6]; decide) (by rw [hs1_6]; decide) (off := 110) (by rw [hs1_6]; rfl) rfl ?_
    refine V_aload_n hc dX11_has_111 rfl 0 rfl ?_
    obtain ⟨a14, ha14, hf⟩ := mb hf
    refine C_getr hc rfl iW11 (by decide) 3 (by decide) rfl ha14 w2_196 dX11_has_112 ?_
    obtain ⟨v15, hv15, hf⟩ := mb hf
    obtain ⟨hkv15, hv15⟩ := og hv15
    refine C_callV hc hz (As := []) hkv15 (by decide) (c10_onTheirWay l D y _ _ hv15) w4_194 w4_195 w4_196 w1_8 w4_197 hdX_X10_onTheirWay ⟨(Nat.le_of_ble_eq_true rfl), (Nat.le_of_ble_eq_true rfl)⟩ rfl rfl rfl (Nat.le_of_ble_eq_true rfl) dX11_has_115 ?_
    obtain rfl := Option.some.inj hf
    exact V_iret hc hzz rfl rfl rfl rfl rfl dX11_has_118
  rw [if_neg hs1_6] at hf
  by_cases hs1_7 : p1 = (7 : Int32)
  · rw [if_pos hs1_7] at hf
    refine V_tableIn hc dX11_has_1 (by rw [hs1_7]; decide) (by rw [hs1_7]; decide) (off := 118) (by rw [hs1_7]; rfl) rfl ?_
    refine V_aload_n hc dX11_has_119 rfl 0 rfl ?_
    obtain ⟨a16, ha16, hf⟩ := mb hf
    refine C_getr hc rfl iW11 (by decide) 6 (by decide) rfl ha16 w2_199 dX11_has_120 ?_
    obtain ⟨v17, hv17, hf⟩ := mb hf
    refine C_geti hc rfl iW0 (by decide) 8 (by decide) rfl hv17 w2_165 dX11_has_123 ?_
    obtain rfl := Option.some.inj hf
    exact V_iret hc hzz rfl rfl rfl rfl rfl dX11_has_126
  rw [if_neg hs1_7] at hf
  by_cases hs1_8 : p1 = (8 : Int32)
  · rw [if_pos hs1_8] at hf
    refine V_tableIn hc dX11_has_1 (by rw [hs1_8]; decide) (by rw [hs1_8]; decide) (off := 126) (by rw [hs1_8]; rfl) rfl ?_
    refine V_aload_n hc dX11_has_127 rfl 0 rfl ?_
    obtain ⟨a18, ha18, hf⟩ := mb hf
    refine C_getr hc rfl iW11 (by decide) 5 (by decide) rfl ha18 w2_198 dX11_has_128 ?_
    obtain ⟨v19, hv19, hf⟩ := mb hf
    refine C_geti hc rfl iW2 (by decide) 2 (by decide) rfl hv19 w2_133 dX11_has_131 ?_
    obtain rfl := Option.some.inj hf
    exact V_iret hc hzz rfl rfl rfl rfl rfl dX11_has_134
  rw [if_neg hs1_8] at hf
  by_cases hs1_9 : p1 = (9 : Int32)
  · rw [if_pos hs1_9] at hf
    refine V_tableIn hc dX11_has_1 (by rw [hs1_9]; decide) (by rw [hs1_9]; decide) (off := 134) (by rw [hs1_9]; rfl) rfl ?_
    refine V_aload_n hc dX11_has_135 rfl 0 rfl ?_
    obtain ⟨a20, ha20, hf⟩ := mb hf
    refine C_getr hc rfl iW11 (by decide) 3 (by decide) rfl ha20 w2_196 dX11_has_136 ?_
    obtain ⟨v21, hv21, hf⟩ := mb hf
    obtain ⟨hkv21, hv21⟩ := og hv21
    refine C_callV hc hz (As := []) hkv21 (by decide) (c10_onTheirWay l D y _ _ hv21) w4_194 w4_195 w4_196 w1_8 w4_197 hdX_X10_onTheirWay ⟨(Nat.le_of_ble_eq_true rfl), (Nat.le_of_ble_eq_true rfl)⟩ rfl rfl rfl (Nat.le_of_ble_eq_true rfl) dX11_has_139 ?_
    obtain ⟨v22, hv23, hf⟩ := mb hf
    have hJ142 : V E (cZ S) (cU S) (cw y S) 150 [] [.int v22] := by
      obtain rfl := Option.some.inj hf
      exact V_iret hc hzz rfl rfl rfl rfl rfl dX11_has_150
    refine V_if_ne hc dX11_has_142 rfl (fun hq142 => ?_) (fun hq142 => ?_)
    · rw [if_neg hq142] at hv23
      refine V_iconst hc (v := (0 : Int32)) dX11_has_149 rfl ?_
      obtain rfl := Option.some.inj hv23
      exact V_sub [] rfl hJ142
    · rw [if_pos hq142] at hv23
      refine V_iconst hc (v := (1 : Int32)) dX11_has_145 rfl ?_
      refine V_goto hc dX11_has_146 rfl ?_
      obtain rfl := Option.some.inj hv23
      exact V_sub [] rfl hJ142
  rw [if_neg hs1_9] at hf
  by_cases hs1_10 : p1 = (10 : Int32)
  · rw [if_pos hs1_10] at hf
    refine V_tableIn hc dX11_has_1 (by rw [hs1_10]; decide) (by rw [hs1_10]; decide) (off := 150) (by rw [hs1_10]; rfl) rfl ?_
    refine V_aload_n hc dX11_has_151 rfl 0 rfl ?_
    obtain ⟨a24, ha24, hf⟩ := mb hf
    refine C_getr hc rfl iW11 (by decide) 3 (by decide) rfl ha24 w2_196 dX11_has_152 ?_
    obtain ⟨v25, hv25, hf⟩ := mb hf
    refine C_geti hc rfl iW10 (by decide) 7 (by decide) rfl hv25 w2_88 dX11_has_155 ?_
    obtain rfl := Option.some.inj hf
    exact V_iret hc hzz rfl rfl rfl rfl rfl dX11_has_158
  rw [if_neg hs1_10] at hf
  have hto : p1.toInt < 0 ∨ 10 < p1.toInt := by
    have ht0 : ¬ p1.toInt = 0 := fun hh => hs1_0 (Int32.toInt_inj.mp (hh.trans rfl))
    have ht1 : ¬ p1.toInt = 1 := fun hh => hs1_1 (Int32.toInt_inj.mp (hh.trans rfl))
    have ht2 : ¬ p1.toInt = 2 := fun hh => hs1_2 (Int32.toInt_inj.mp (hh.trans rfl))
    have ht3 : ¬ p1.toInt = 3 := fun hh => hs1_3 (Int32.toInt_inj.mp (hh.trans rfl))
    have ht4 : ¬ p1.toInt = 4 := fun hh => hs1_4 (Int32.toInt_inj.mp (hh.trans rfl))
    have ht5 : ¬ p1.toInt = 5 := fun hh => hs1_5 (Int32.toInt_inj.mp (hh.trans rfl))
    have ht6 : ¬ p1.toInt = 6 := fun hh => hs1_6 (Int32.toInt_inj.mp (hh.trans rfl))
    have ht7 : ¬ p1.toInt = 7 := fun hh => hs1_7 (Int32.toInt_inj.mp (hh.trans rfl))
    have ht8 : ¬ p1.toInt = 8 := fun hh => hs1_8 (Int32.toInt_inj.mp (hh.trans rfl))
    have ht9 : ¬ p1.toInt = 9 := fun hh => hs1_9 (Int32.toInt_inj.mp (hh.trans rfl))
    have ht10 : ¬ p1.toInt = 10 := fun hh => hs1_10 (Int32.toInt_inj.mp (hh.trans rfl))
    omega
  refine V_tableOut hc dX11_has_1 hto rfl ?_
  refine V_iconst hc (v := (-1 : Int32)) dX11_has_159 rfl ?_
  obtain rfl := Option.some.inj hf
  exact V_iret hc hzz rfl rfl rfl rfl rfl dX11_has_160
noncomputable def f11_editor (S : CS) (h : Nat) (p1 : Int32) (p2 : Int32) : Option (Int32) :=
  (gr S 11 h 3).bind fun a1 =>
  (cal S 10 a1 (f10_knows S a1 p1)).bind fun v2 =>
  if v2 = 0 then (
    some (-1 : Int32)
  ) else (
    (gr S 11 h 3).bind fun a3 =>
    (gr S 10 a3 3).bind fun a4 =>
    (ldr S 16 a4 p1).bind fun a5 =>
    if p2 = (0 : Int32) then (
      (gr S 1 a5 0).bind fun a6 =>
      (gi S 7 a6 1).bind fun v7 =>
      some v7
    ) else (
      if p2 = (1 : Int32) then (
        (gi S 1 a5 8).bind fun v8 =>
        some v8
      ) else (
        if p2 = (2 : Int32) then (
          (gi S 1 a5 9).bind fun v9 =>
          some v9
        ) else (
          if p2 = (3 : Int32) then (
            (gi S 1 a5 12).bind fun v10 =>
            (
              if v10 = 0 then (
                some (0 : Int32)
              ) else (
                some (1 : Int32)
              )
            ).bind fun v11 =>
            some v11
          ) else (
            if p2 = (4 : Int32) then (
              (gi S 1 a5 13).bind fun v13 =>
              (
                if v13 = 0 then (
                  some (0 : Int32)
                ) else (
                  some (1 : Int32)
                )
              ).bind fun v14 =>
              some v14
            ) else (
              if p2 = (5 : Int32) then (
                (gi S 1 a5 7).bind fun v16 =>
                some v16
              ) else (
                if p2 = (6 : Int32) then (
                  (gr S 1 a5 3).bind fun a17 =>
                  (gi S 3 a17 1).bind fun v18 =>
                  some v18
                ) else (
                  if p2 = (7 : Int32) then (
                    (gr S 1 a5 4).bind fun a19 =>
                    (gi S 3 a19 1).bind fun v20 =>
                    some v20
                  ) else (
                    if p2 = (8 : Int32) then (
                      (gi S 1 a5 14).bind fun v21 =>
                      (
                        if v21 = 0 then (
                          some (0 : Int32)
                        ) else (
                          some (1 : Int32)
                        )
                      ).bind fun v22 =>
                      some v22
                    ) else (
                      if p2 = (9 : Int32) then (
                        (gi S 1 a5 10).bind fun v24 =>
                        some v24
                      ) else (
                        if p2 = (10 : Int32) then (
                          (gr S 11 h 3).bind fun a25 =>
                          (gi S 10 a25 11).bind fun v26 =>
                          (gi S 1 a5 8).bind fun v27 =>
                          some (v26 - v27)
                        ) else (
                          if p2 = (11 : Int32) then (
                            (gi S 1 a5 11).bind fun v28 =>
                            some v28
                          ) else (
                            some (-1 : Int32)
                          )
                        )
                      )
                    )
                  )
                )
              )
            )
          )
        )
      )
    )
  )
theorem hdX_X11_editor : yX11_editor.cls = "FarEditors" ∧ yX11_editor.cls ≠ "java/lang/invoke/MethodHandle" ∧ yX11_editor.cls ≠ "java/lang/invoke/VarHandle" ∧ (parseMethodDescriptor yX11_editor.desc).map (fun d => d.parameters.length) = some 2 := by decide +kernel
set_option maxHeartbeats 4000000 in
set_option maxRecDepth 100000 in
theorem c11_editor (l : Launch) (D : va_G) (y : CyT) (zM uM : Nat) {S : CS} {h : Nat} {p1 : Int32} {p2 : Int32} {r : Int32} (hf : f11_editor S h p1 p2 = some r) : CT l D y yX11_editor cX11_editor 4 (some .int) 1 21 zM uM [.ref h, .int p1, .int p2] (cZ S) (cU S) (cw y S) (cZ S) (cU S) (cw y S) (some (.int r)) := by
  refine CT.of (by decide) (Nat.le_of_ble_eq_true rfl) (fun E hc hzz hnm => ?_)
  have hc : Cx E "FarEditors" cX11_editor 4 := hc
  have hz := hzz.1
  have hT := hz.2.2.1
  show V E (cZ S) (cU S) (cw y S) 0 [(0, .ref h), (1, .int p1), (2, .int p2)] []
  unfold f11_editor at hf
  refine V_aload_n hc dX11_editor_0 rfl 0 rfl ?_
  obtain ⟨a1, ha1, hf⟩ := mb hf
  refine C_getr hc rfl iW11 (by decide) 3 (by decide) rfl ha1 w2_196 dX11_editor_1 ?_
  refine V_iload_n hc dX11_editor_4 rfl 1 rfl ?_
  obtain ⟨v2, hv2, hf⟩ := mb hf
  obtain ⟨hkv2, hv2⟩ := og hv2
  refine C_callV hc hz (As := [.int p1]) hkv2 (by decide) (c10_knows l D y _ _ hv2) w3_222 w3_223 w3_224 w1_8 w3_225 hdX_X10_knows ⟨(Nat.le_of_ble_eq_true rfl), (Nat.le_of_ble_eq_true rfl)⟩ rfl rfl rfl (Nat.le_of_ble_eq_true rfl) dX11_editor_5 ?_
  refine V_if_ne hc dX11_editor_8 rfl (fun hq8 => ?_) (fun hq8 => ?_)
  · rw [if_neg hq8] at hf
    refine V_aload_n hc dX11_editor_13 rfl 0 rfl ?_
    obtain ⟨a3, ha3, hf⟩ := mb hf
    refine C_getr hc rfl iW11 (by decide) 3 (by decide) rfl ha3 w2_196 dX11_editor_14 ?_
    obtain ⟨a4, ha4, hf⟩ := mb hf
    refine C_getr hc rfl iW10 (by decide) 3 (by decide) rfl ha4 w2_80 dX11_editor_17 ?_
    refine V_iload_n hc dX11_editor_20 rfl 1 rfl ?_
    obtain ⟨a5, ha5, hf⟩ := mb hf
    refine C_aald hc hT (by decide) (by decide) ha5 dX11_editor_21 ?_
    refine V_astore_n hc dX11_editor_22 rfl (by decide) rfl ?_
    refine V_iload_n hc dX11_editor_23 rfl 3 rfl ?_
    by_cases hs24_0 : p2 = (0 : Int32)
    · rw [if_pos hs24_0] at hf
      refine V_tableIn hc dX11_editor_24 (by rw [hs24_0]; decide) (by rw [hs24_0]; decide) (off := 64) (by rw [hs24_0]; rfl) rfl ?_
      refine V_aload_n hc dX11_editor_88 rfl 0 rfl ?_
      obtain ⟨a6, ha6, hf⟩ := mb hf
      refine C_getr hc rfl iW1 (by decide) 0 (by decide) rfl ha6 w1_238 dX11_editor_89 ?_
      obtain ⟨v7, hv7, hf⟩ := mb hf
      refine C_geti hc rfl iW7 (by decide) 1 (by decide) rfl hv7 w1_170 dX11_editor_92 ?_
      obtain rfl := Option.some.inj hf
      exact V_iret hc hzz rfl rfl rfl rfl rfl dX11_editor_95
    rw [if_neg hs24_0] at hf
    by_cases hs24_1 : p2 = (1 : Int32)
    · rw [if_pos hs24_1] at hf
      refine V_tableIn hc dX11_editor_24 (by rw [hs24_1]; decide) (by rw [hs24_1]; decide) (off := 72) (by rw [hs24_1]; rfl) rfl ?_
      refine V_aload_n hc dX11_editor_96 rfl 0 rfl ?_
      obtain ⟨v8, hv8, hf⟩ := mb hf
      refine C_geti hc rfl iW1 (by decide) 8 (by decide) rfl hv8 w2_21 dX11_editor_97 ?_
      obtain rfl := Option.some.inj hf
      exact V_iret hc hzz rfl rfl rfl rfl rfl dX11_editor_100
    rw [if_neg hs24_1] at hf
    by_cases hs24_2 : p2 = (2 : Int32)
    · rw [if_pos hs24_2] at hf
      refine V_tableIn hc dX11_editor_24 (by rw [hs24_2]; decide) (by rw [hs24_2]; decide) (off := 77) (by rw [hs24_2]; rfl) rfl ?_
      refine V_aload_n hc dX11_editor_101 rfl 0 rfl ?_
      obtain ⟨v9, hv9, hf⟩ := mb hf
      refine C_geti hc rfl iW1 (by decide) 9 (by decide) rfl hv9 w2_23 dX11_editor_102 ?_
      obtain rfl := Option.some.inj hf
      exact V_iret hc hzz rfl rfl rfl rfl rfl dX11_editor_105
    rw [if_neg hs24_2] at hf
    by_cases hs24_3 : p2 = (3 : Int32)
    · rw [if_pos hs24_3] at hf
      refine V_tableIn hc dX11_editor_24 (by rw [hs24_3]; decide) (by rw [hs24_3]; decide) (off := 82) (by rw [hs24_3]; rfl) rfl ?_
      refine V_aload_n hc dX11_editor_106 rfl 0 rfl ?_
      obtain ⟨v10, hv10, hf⟩ := mb hf
      refine C_geti hc rfl iW1 (by decide) 12 (by decide) rfl hv10 w2_32 dX11_editor_107 ?_
      obtain ⟨v11, hv12, hf⟩ := mb hf
      have hJ110 : V E (cZ S) (cU S) (cw y S) 118 [] [.int v11] := by
        obtain rfl := Option.some.inj hf
        exact V_iret hc hzz rfl rfl rfl rfl rfl dX11_editor_118
      refine V_if_eq hc dX11_editor_110 rfl (fun hq110 => ?_) (fun hq110 => ?_)
      · rw [if_pos hq110] at hv12
        refine V_iconst hc (v := (0 : Int32)) dX11_editor_117 rfl ?_
        obtain rfl := Option.some.inj hv12
        exact V_sub [] rfl hJ110
      · rw [if_neg hq110] at hv12
        refine V_iconst hc (v := (1 : Int32)) dX11_editor_113 rfl ?_
        refine V_goto hc dX11_editor_114 rfl ?_
        obtain rfl := Option.some.inj hv12
        exact V_sub [] rfl hJ110
    rw [if_neg hs24_3] at hf
    by_cases hs24_4 : p2 = (4 : Int32)
    · rw [if_pos hs24_4] at hf
      refine V_tableIn hc dX11_editor_24 (by rw [hs24_4]; decide) (by rw [hs24_4]; decide) (off := 95) (by rw [hs24_4]; rfl) rfl ?_
      refine V_aload_n hc dX11_editor_119 rfl 0 rfl ?_
      obtain ⟨v13, hv13, hf⟩ := mb hf
      refine C_geti hc rfl iW1 (by decide) 13 (by decide) rfl hv13 w2_35 dX11_editor_120 ?_
      obtain ⟨v14, hv15, hf⟩ := mb hf
      have hJ123 : V E (cZ S) (cU S) (cw y S) 131 [] [.int v14] := by
        obtain rfl := Option.some.inj hf
        exact V_iret hc hzz rfl rfl rfl rfl rfl dX11_editor_131
      refine V_if_eq hc dX11_editor_123 rfl (fun hq123 => ?_) (fun hq123 => ?_)
      · rw [if_pos hq123] at hv15
        refine V_iconst hc (v := (0 : Int32)) dX11_editor_130 rfl ?_
        obtain rfl := Option.some.inj hv15
        exact V_sub [] rfl hJ123
      · rw [if_neg hq123] at hv15
        refine V_iconst hc (v := (1 : Int32)) dX11_editor_126 rfl ?_
        refine V_goto hc dX11_editor_127 rfl ?_
        obtain rfl := Option.some.inj hv15
        exact V_sub [] rfl hJ123
    rw [if_neg hs24_4] at hf
    by_cases hs24_5 : p2 = (5 : Int32)
    · rw [if_pos hs24_5] at hf
      refine V_tableIn hc dX11_editor_24 (by rw [hs24_5]; decide) (by rw [hs24_5]; decide) (off := 108) (by rw [hs24_5]; rfl) rfl ?_
      refine V_aload_n hc dX11_editor_132 rfl 0 rfl ?_
      obtain ⟨v16, hv16, hf⟩ := mb hf
      refine C_geti hc rfl iW1 (by decide) 7 (by decide) rfl hv16 w2_17 dX11_editor_133 ?_
      obtain rfl := Option.some.inj hf
      exact V_iret hc hzz rfl rfl rfl rfl rfl dX11_editor_136
    rw [if_neg hs24_5] at hf
    by_cases hs24_6 : p2 = (6 : Int32)
    · rw [if_pos hs24_6] at hf
      refine V_tableIn hc dX11_editor_24 (by rw [hs24_6]; decide) (by rw [hs24_6]; decide) (off := 113) (by rw [hs24_6]; rfl) rfl ?_
      refine V_aload_n hc dX11_editor_137 rfl 0 rfl ?_
      obtain ⟨a17, ha17, hf⟩ := mb hf
      refine C_getr hc rfl iW1 (by decide) 3 (by decide) rfl ha17 w2_7 dX11_editor_138 ?_
      obtain ⟨v18, hv18, hf⟩ := mb hf
      refine C_geti hc rfl iW3 (by decide) 1 (by decide) rfl hv18 w1_230 dX11_editor_141 ?_
      obtain rfl := Option.some.inj hf
      exact V_iret hc hzz rfl rfl rfl rfl rfl dX11_editor_144
    rw [if_neg hs24_6] at hf
    by_cases hs24_7 : p2 = (7 : Int32)
    · rw [if_pos hs24_7] at hf
      refine V_tableIn hc dX11_editor_24 (by rw [hs24_7]; decide) (by rw [hs24_7]; decide) (off := 121) (by rw [hs24_7]; rfl) rfl ?_
      refine V_aload_n hc dX11_editor_145 rfl 0 rfl ?_
      obtain ⟨a19, ha19, hf⟩ := mb hf
      refine C_getr hc rfl iW1 (by decide) 4 (by decide) rfl ha19 w2_10 dX11_editor_146 ?_
      obtain ⟨v20, hv20, hf⟩ := mb hf
      refine C_geti hc rfl iW3 (by decide) 1 (by decide) rfl hv20 w1_230 dX11_editor_149 ?_
      obtain rfl := Option.some.inj hf
      exact V_iret hc hzz rfl rfl rfl rfl rfl dX11_editor_152
    rw [if_neg hs24_7] at hf
    by_cases hs24_8 : p2 = (8 : Int32)
    · rw [if_pos hs24_8] at hf
      refine V_tableIn hc dX11_editor_24 (by rw [hs24_8]; decide) (by rw [hs24_8]; decide) (off := 129) (by rw [hs24_8]; rfl) rfl ?_
      refine V_aload_n hc dX11_editor_153 rfl 0 rfl ?_
      obtain ⟨v21, hv21, hf⟩ := mb hf
      refine C_geti hc rfl iW1 (by decide) 14 (by decide) rfl hv21 w2_38 dX11_editor_154 ?_
      obtain ⟨v22, hv23, hf⟩ := mb hf
      have hJ157 : V E (cZ S) (cU S) (cw y S) 165 [] [.int v22] := by
        obtain rfl := Option.some.inj hf
        exact V_iret hc hzz rfl rfl rfl rfl rfl dX11_editor_165
      refine V_if_eq hc dX11_editor_157 rfl (fun hq157 => ?_) (fun hq157 => ?_)
      · rw [if_pos hq157] at hv23
        refine V_iconst hc (v := (0 : Int32)) dX11_editor_164 rfl ?_
        obtain rfl := Option.some.inj hv23
        exact V_sub [] rfl hJ157
      · rw [if_neg hq157] at hv23
        refine V_iconst hc (v := (1 : Int32)) dX11_editor_160 rfl ?_
        refine V_goto hc dX11_editor_161 rfl ?_
        obtain rfl := Option.some.inj hv23
        exact V_sub [] rfl hJ157
    rw [if_neg hs24_8] at hf
    by_cases hs24_9 : p2 = (9 : Int32)
    · rw [if_pos hs24_9] at hf
      refine V_tableIn hc dX11_editor_24 (by rw [hs24_9]; decide) (by rw [hs24_9]; decide) (off := 142) (by rw [hs24_9]; rfl) rfl ?_
      refine V_aload_n hc dX11_editor_166 rfl 0 rfl ?_
      obtain ⟨v24, hv24, hf⟩ := mb hf
      refine C_geti hc rfl iW1 (by decide) 10 (by decide) rfl hv24 w2_25 dX11_editor_167 ?_
      obtain rfl := Option.some.inj hf
      exact V_iret hc hzz rfl rfl rfl rfl rfl dX11_editor_170
    rw [if_neg hs24_9] at hf
    by_cases hs24_10 : p2 = (10 : Int32)
    · rw [if_pos hs24_10] at hf
      refine V_tableIn hc dX11_editor_24 (by rw [hs24_10]; decide) (by rw [hs24_10]; decide) (off := 147) (by rw [hs24_10]; rfl) rfl ?_
      refine V_aload_n hc dX11_editor_171 rfl 1 rfl ?_
      obtain ⟨a25, ha25, hf⟩ := mb hf
      refine C_getr hc rfl iW11 (by decide) 3 (by decide) rfl ha25 w2_196 dX11_editor_172 ?_
      obtain ⟨v26, hv26, hf⟩ := mb hf
      refine C_geti hc rfl iW10 (by decide) 11 (by decide) rfl hv26 w2_96 dX11_editor_175 ?_
      refine V_aload_n hc dX11_editor_178 rfl 0 rfl ?_
      obtain ⟨v27, hv27, hf⟩ := mb hf
      refine C_geti hc rfl iW1 (by decide) 8 (by decide) rfl hv27 w2_21 dX11_editor_179 ?_
      refine V_isub hc dX11_editor_182 ?_
      obtain rfl := Option.some.inj hf
      exact V_iret hc hzz rfl rfl rfl rfl rfl dX11_editor_183
    rw [if_neg hs24_10] at hf
    by_cases hs24_11 : p2 = (11 : Int32)
    · rw [if_pos hs24_11] at hf
      refine V_tableIn hc dX11_editor_24 (by rw [hs24_11]; decide) (by rw [hs24_11]; decide) (off := 160) (by rw [hs24_11]; rfl) rfl ?_
      refine V_aload_n hc dX11_editor_184 rfl 0 rfl ?_
      obtain ⟨v28, hv28, hf⟩ := mb hf
      refine C_geti hc rfl iW1 (by decide) 11 (by decide) rfl hv28 w2_30 dX11_editor_185 ?_
      obtain rfl := Option.some.inj hf
      exact V_iret hc hzz rfl rfl rfl rfl rfl dX11_editor_188
    rw [if_neg hs24_11] at hf
    have hto : p2.toInt < 0 ∨ 11 < p2.toInt := by
      have ht0 : ¬ p2.toInt = 0 := fun hh => hs24_0 (Int32.toInt_inj.mp (hh.trans rfl))
      have ht1 : ¬ p2.toInt = 1 := fun hh => hs24_1 (Int32.toInt_inj.mp (hh.trans rfl))
      have ht2 : ¬ p2.toInt = 2 := fun hh => hs24_2 (Int32.toInt_inj.mp (hh.trans rfl))
      have ht3 : ¬ p2.toInt = 3 := fun hh => hs24_3 (Int32.toInt_inj.mp (hh.trans rfl))
      have ht4 : ¬ p2.toInt = 4 := fun hh => hs24_4 (Int32.toInt_inj.mp (hh.trans rfl))
      have ht5 : ¬ p2.toInt = 5 := fun hh => hs24_5 (Int32.toInt_inj.mp (hh.trans rfl))
      have ht6 : ¬ p2.toInt = 6 := fun hh => hs24_6 (Int32.toInt_inj.mp (hh.trans rfl))
      have ht7 : ¬ p2.toInt = 7 := fun hh => hs24_7 (Int32.toInt_inj.mp (hh.trans rfl))
      have ht8 : ¬ p2.toInt = 8 := fun hh => hs24_8 (Int32.toInt_inj.mp (hh.trans rfl))
      have ht9 : ¬ p2.toInt = 9 := fun hh => hs24_9 (Int32.toInt_inj.mp (hh.trans rfl))
      have ht10 : ¬ p2.toInt = 10 := fun hh => hs24_10 (Int32.toInt_inj.mp (hh.trans rfl))
      have ht11 : ¬ p2.toInt = 11 := fun hh => hs24_11 (Int32.toInt_inj.mp (hh.trans rfl))
      omega
    refine V_tableOut hc dX11_editor_24 hto rfl ?_
    refine V_iconst hc (v := (-1 : Int32)) dX11_editor_189 rfl ?_
    obtain rfl := Option.some.inj hf
    exact V_iret hc hzz rfl rfl rfl rfl rfl dX11_editor_190
  · rw [if_pos hq8] at hf
    refine V_iconst hc (v := (-1 : Int32)) dX11_editor_11 rfl ?_
    obtain rfl := Option.some.inj hf
    exact V_iret hc hzz rfl rfl rfl rfl rfl dX11_editor_12
