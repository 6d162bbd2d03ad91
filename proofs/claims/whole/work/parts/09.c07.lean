noncomputable def f11_performFor (X : Nat × Nat) (S : CS) (h : Nat) (p1 : Int32) (p2 : Int32) : Option (CS) :=
  (gr S 11 h 3).bind fun a1 =>
  (gr S 10 a1 3).bind fun a2 =>
  (ldr S 16 a2 p1).bind fun a3 =>
  (gr S 11 h 0).bind fun a4 =>
  (cal S 8 a4 (f8_numberOf S a4 p2 (1 : Int32))).bind fun v5 =>
  (gr S 11 h 0).bind fun a6 =>
  (cal S 8 a6 (f8_numberOf S a6 p2 (2 : Int32))).bind fun v7 =>
  (gr S 11 h 0).bind fun a8 =>
  (cal S 8 a8 (f8_numberOf S a8 p2 (3 : Int32))).bind fun v9 =>
  (gr S 11 h 0).bind fun a10 =>
  (gr S 8 a10 9).bind fun a11 =>
  (ldi S a11 p2).bind fun v12 =>
  if v12 = (3 : Int32) then (
    (gr S 11 h 7).bind fun a13 =>
    (gr S 11 h 0).bind fun a14 =>
    (gr S 8 a14 7).bind fun a15 =>
    (gr S 1 a3 0).bind fun a16 =>
    (gi S 7 a16 1).bind fun v17 =>
    bn2 (cal S 4 a13 (f4_build X S a13 a15 v5 v7 v17)) fun v18 S19 =>
    (
      if v18 = 0 then (
        some S19
      ) else (
        (gr S19 11 h 3).bind fun a22 =>
        (gr S19 11 h 7).bind fun a23 =>
        (cal S19 10 a22 (f10_canEdit S19 a22 a23)).bind fun v24 =>
        if v24 = 0 then (
          some S19
        ) else (
          (gr S19 11 h 3).bind fun a25 =>
          (gr S19 11 h 7).bind fun a26 =>
          (cal S19 10 a25 (f10_editPlainly X S19 a25 a3 a26)).bind fun S27 =>
          some S27
        )
      )
    ).bind fun S20 =>
    some S20
  ) else (
    if v12 = (4 : Int32) then (
      (gr S 11 h 3).bind fun a28 =>
      (cal S 10 a28 (f10_canPlace S a28 p1 v5)).bind fun v29 =>
      (
        if v29 = 0 then (
          some S
        ) else (
          (pi S 1 a3 9 v5).bind fun S32 =>
          some S32
        )
      ).bind fun S30 =>
      some S30
    ) else (
      if v12 = (5 : Int32) then (
        (gr S 11 h 3).bind fun a33 =>
        (cal S 10 a33 (f10_canMark S a33 p1 v5 v7 v9)).bind fun v34 =>
        (
          if v34 = 0 then (
            some S
          ) else (
            bn2 (cal S 1 a3 (f1_addMark S a3 v5 v7 v9)) fun v37 S38 =>
            some S38
          )
        ).bind fun S35 =>
        some S35
      ) else (
        if v12 = (6 : Int32) then (
          (gr S 11 h 0).bind fun a39 =>
          (gr S 8 a39 9).bind fun a40 =>
          (ldi S a40 p2).bind fun v41 =>
          (
            if v41 = (7 : Int32) then (
              some (1 : Int32)
            ) else (
              some (0 : Int32)
            )
          ).bind fun v42 =>
          (bz v42).bind fun v44 =>
          (pi S 1 a3 14 v42).bind fun S45 =>
          some S45
        ) else (
          if v12 = (7 : Int32) then (
            (gr S 11 h 0).bind fun a46 =>
            (gr S 8 a46 9).bind fun a47 =>
            (ldi S a47 p2).bind fun v48 =>
            (
              if v48 = (7 : Int32) then (
                some (1 : Int32)
              ) else (
                some (0 : Int32)
              )
            ).bind fun v49 =>
            (bz v49).bind fun v51 =>
            (pi S 1 a3 14 v49).bind fun S52 =>
            some S52
          ) else (
            some S
          )
        )
      )
    )
  )
theorem hdX_X11_performFor : yX11_performFor.cls = "FarEditors" ∧ yX11_performFor.cls ≠ "java/lang/invoke/MethodHandle" ∧ yX11_performFor.cls ≠ "java/lang/invoke/VarHandle" ∧ (parseMethodDescriptor yX11_performFor.desc).map (fun d => d.parameters.length) = some 2 := by decide +kernel
set_option maxHeartbeats 4000000 in
set_option maxRecDepth 100000 in
theorem c11_performFor (l : Launch) (D : va_G) (y : CyT) (X : Nat × Nat) (hX : X.2 ≤ 100000000) {S S' : CS} {h : Nat} {p1 : Int32} {p2 : Int32} (hf : f11_performFor X S h p1 p2 = some S') : CT l D (tyL y) yX11_performFor cX11_performFor 7 none 5 115 X.1 X.2 [.ref h, .int p1, .int p2] (cZ S) (cU S) (cw y S) (cZ S') (cU S') (cw y S') none := by
  refine CT.of (by decide) (Nat.le_of_ble_eq_true rfl) (fun E hc hz hnm => ?_)
  have hc : Cx E "FarEditors" cX11_performFor 7 := hc
  have hT := hz.2.2.1
  show V E (cZ S) (cU S) (cw y S) 0 [(0, .ref h), (1, .int p1), (2, .int p2)] []
  unfold f11_performFor at hf
  refine V_aload_n hc dX11_performFor_0 rfl 0 rfl ?_
  obtain ⟨a1, ha1, hf⟩ := mb hf
  refine C_getr hc rfl iW11 (by decide) 3 (by decide) rfl ha1 w2_196 dX11_performFor_1 ?_
  obtain ⟨a2, ha2, hf⟩ := mb hf
  refine C_getr hc rfl iW10 (by decide) 3 (by decide) rfl ha2 w2_80 dX11_performFor_4 ?_
  refine V_iload_n hc dX11_performFor_7 rfl 1 rfl ?_
  obtain ⟨a3, ha3, hf⟩ := mb hf
  refine C_aald hc hT (by decide) (by decide) ha3 dX11_performFor_8 ?_
  refine V_astore_n hc dX11_performFor_9 rfl (by decide) rfl ?_
  refine V_aload_n hc dX11_performFor_10 rfl 1 rfl ?_
  obtain ⟨a4, ha4, hf⟩ := mb hf
  refine C_getr hc rfl iW11 (by decide) 0 (by decide) rfl ha4 w2_193 dX11_performFor_11 ?_
  refine V_iload_n hc dX11_performFor_14 rfl 3 rfl ?_
  refine V_iconst hc (v := (1 : Int32)) dX11_performFor_15 rfl ?_
  obtain ⟨v5, hv5, hf⟩ := mb hf
  obtain ⟨hkv5, hv5⟩ := og hv5
  refine C_callV hc hz (As := [.int p2, .int (1 : Int32)]) hkv5 (by decide) (c8_numberOf l D y _ _ hv5) w3_221 w3_154 w3_155 w1_2 w3_156 hdX_X8_numberOf ⟨(Nat.le_of_ble_eq_true rfl), (Nat.le_of_ble_eq_true rfl)⟩ rfl rfl rfl (Nat.le_of_ble_eq_true rfl) dX11_performFor_16 ?_
  refine V_istore hc dX11_performFor_19 (by decide) rfl ?_
  refine V_aload_n hc dX11_performFor_21 rfl 2 rfl ?_
  obtain ⟨a6, ha6, hf⟩ := mb hf
  refine C_getr hc rfl iW11 (by decide) 0 (by decide) rfl ha6 w2_193 dX11_performFor_22 ?_
  refine V_iload_n hc dX11_performFor_25 rfl 4 rfl ?_
  refine V_iconst hc (v := (2 : Int32)) dX11_performFor_26 rfl ?_
  obtain ⟨v7, hv7, hf⟩ := mb hf
  obtain ⟨hkv7, hv7⟩ := og hv7
  refine C_callV hc hz (As := [.int p2, .int (2 : Int32)]) hkv7 (by decide) (c8_numberOf l D y _ _ hv7) w3_221 w3_154 w3_155 w1_2 w3_156 hdX_X8_numberOf ⟨(Nat.le_of_ble_eq_true rfl), (Nat.le_of_ble_eq_true rfl)⟩ rfl rfl rfl (Nat.le_of_ble_eq_true rfl) dX11_performFor_27 ?_
  refine V_istore hc dX11_performFor_30 (by decide) rfl ?_
  refine V_aload_n hc dX11_performFor_32 rfl 3 rfl ?_
  obtain ⟨a8, ha8, hf⟩ := mb hf
  refine C_getr hc rfl iW11 (by decide) 0 (by decide) rfl ha8 w2_193 dX11_performFor_33 ?_
  refine V_iload_n hc dX11_performFor_36 rfl 5 rfl ?_
  refine V_iconst hc (v := (3 : Int32)) dX11_performFor_37 rfl ?_
  obtain ⟨v9, hv9, hf⟩ := mb hf
  obtain ⟨hkv9, hv9⟩ := og hv9
  refine C_callV hc hz (As := [.int p2, .int (3 : Int32)]) hkv9 (by decide) (c8_numberOf l D y _ _ hv9) w3_221 w3_154 w3_155 w1_2 w3_156 hdX_X8_numberOf ⟨(Nat.le_of_ble_eq_true rfl), (Nat.le_of_ble_eq_true rfl)⟩ rfl rfl rfl (Nat.le_of_ble_eq_true rfl) dX11_performFor_38 ?_
  refine V_istore hc dX11_performFor_41 (by decide) rfl ?_
  refine V_aload_n hc dX11_performFor_43 rfl 4 rfl ?_
  obtain ⟨a10, ha10, hf⟩ := mb hf
  refine C_getr hc rfl iW11 (by decide) 0 (by decide) rfl ha10 w2_193 dX11_performFor_44 ?_
  obtain ⟨a11, ha11, hf⟩ := mb hf
  refine C_getr hc rfl iW8 (by decide) 9 (by decide) rfl ha11 w1_54 dX11_performFor_47 ?_
  refine V_iload_n hc dX11_performFor_50 rfl 6 rfl ?_
  obtain ⟨v12, hv12, hf⟩ := mb hf
  refine C_iald hc hT hv12 dX11_performFor_51 ?_
  by_cases hs52_3 : v12 = (3 : Int32)
  · rw [if_pos hs52_3] at hf
    refine V_tableIn hc dX11_performFor_52 (by rw [hs52_3]; decide) (by rw [hs52_3]; decide) (off := 36) (by rw [hs52_3]; rfl) rfl ?_
    refine V_aload_n hc dX11_performFor_88 rfl 4 rfl ?_
    obtain ⟨a13, ha13, hf⟩ := mb hf
    refine C_getr hc rfl iW11 (by decide) 7 (by decide) rfl ha13 w2_200 dX11_performFor_89 ?_
    refine V_aload_n hc dX11_performFor_92 rfl 4 rfl ?_
    obtain ⟨a14, ha14, hf⟩ := mb hf
    refine C_getr hc rfl iW11 (by decide) 0 (by decide) rfl ha14 w2_193 dX11_performFor_93 ?_
    obtain ⟨a15, ha15, hf⟩ := mb hf
    refine C_getr hc rfl iW8 (by decide) 7 (by decide) rfl ha15 w1_50 dX11_performFor_96 ?_
    refine V_iload hc dX11_performFor_99 2 rfl ?_
    refine V_iload hc dX11_performFor_101 1 rfl ?_
    refine V_aload_n hc dX11_performFor_103 rfl 3 rfl ?_
    obtain ⟨a16, ha16, hf⟩ := mb hf
    refine C_getr hc rfl iW1 (by decide) 0 (by decide) rfl ha16 w1_238 dX11_performFor_104 ?_
    obtain ⟨v17, hv17, hf⟩ := mb hf
    refine C_geti hc rfl iW7 (by decide) 1 (by decide) rfl hv17 w1_170 dX11_performFor_107 ?_
    obtain ⟨v18, S19, hv18, hf⟩ := mb2 hf
    obtain ⟨hkv18, hv18⟩ := og hv18
    refine C_callV hc hz (As := [.ref a15, .int v5, .int v7, .int v17]) hkv18 (by decide) (c4_build l D y X hX hv18) w4_122 w4_123 w4_124 w1_5 w4_125 hdX_X4_build ⟨(Nat.le_of_ble_eq_true rfl), (Nat.le_of_ble_eq_true rfl)⟩ rfl rfl rfl (Nat.le_of_ble_eq_true rfl) dX11_performFor_110 ?_
    obtain ⟨S20, hv21, hf⟩ := mb hf
    have hJ113 : V E (cZ S20) (cU S20) (cw y S20) 224 [] [] := by
      obtain rfl := Option.some.inj hf
      exact V_vret hc hz rfl rfl rfl rfl dX11_performFor_224
    refine V_if_eq hc dX11_performFor_113 rfl (fun hq113 => ?_) (fun hq113 => ?_)
    · rw [if_pos hq113] at hv21
      obtain rfl := Option.some.inj hv21
      exact V_sub [] rfl hJ113
    · rw [if_neg hq113] at hv21
      refine V_aload_n hc dX11_performFor_116 rfl 4 rfl ?_
      obtain ⟨a22, ha22, hv21⟩ := mb hv21
      refine C_getr hc rfl iW11 (by decide) 3 (by decide) rfl ha22 w2_196 dX11_performFor_117 ?_
      refine V_aload_n hc dX11_performFor_120 rfl 4 rfl ?_
      obtain ⟨a23, ha23, hv21⟩ := mb hv21
      refine C_getr hc rfl iW11 (by decide) 7 (by decide) rfl ha23 w2_200 dX11_performFor_121 ?_
      obtain ⟨v24, hv24, hv21⟩ := mb hv21
      obtain ⟨hkv24, hv24⟩ := og hv24
      refine C_callV hc hz (As := [.ref a23]) hkv24 (by decide) (c10_canEdit l D y _ _ hv24) w4_130 w4_131 w4_132 w1_8 w4_133 hdX_X10_canEdit ⟨(Nat.le_of_ble_eq_true rfl), (Nat.le_of_ble_eq_true rfl)⟩ rfl rfl rfl (Nat.le_of_ble_eq_true rfl) dX11_performFor_124 ?_
      refine V_if_eq hc dX11_performFor_127 rfl (fun hq127 => ?_) (fun hq127 => ?_)
      · rw [if_pos hq127] at hv21
        obtain rfl := Option.some.inj hv21
        exact V_sub [] rfl hJ113
      · rw [if_neg hq127] at hv21
        refine V_aload_n hc dX11_performFor_130 rfl 4 rfl ?_
        obtain ⟨a25, ha25, hv21⟩ := mb hv21
        refine C_getr hc rfl iW11 (by decide) 3 (by decide) rfl ha25 w2_196 dX11_performFor_131 ?_
        refine V_aload_n hc dX11_performFor_134 rfl 3 rfl ?_
        refine V_aload_n hc dX11_performFor_135 rfl 4 rfl ?_
        obtain ⟨a26, ha26, hv21⟩ := mb hv21
        refine C_getr hc rfl iW11 (by decide) 7 (by decide) rfl ha26 w2_200 dX11_performFor_136 ?_
        obtain ⟨S27, hS27, hv21⟩ := mb hv21
        obtain ⟨hkS27, hS27⟩ := og hS27
        refine C_callV hc hz (As := [.ref a3, .ref a26]) hkS27 (by decide) (c10_editPlainly l D y X hX hS27) w4_142 w4_143 w4_144 w1_8 w4_145 hdX_X10_editPlainly ⟨(Nat.le_of_ble_eq_true rfl), (Nat.le_of_ble_eq_true rfl)⟩ rfl rfl rfl (Nat.le_of_ble_eq_true rfl) dX11_performFor_139 ?_
        refine V_goto hc dX11_performFor_142 rfl ?_
        obtain rfl := Option.some.inj hv21
        exact V_sub [] rfl hJ113
  rw [if_neg hs52_3] at hf
  by_cases hs52_4 : v12 = (4 : Int32)
  · rw [if_pos hs52_4] at hf
    refine V_tableIn hc dX11_performFor_52 (by rw [hs52_4]; decide) (by rw [hs52_4]; decide) (off := 93) (by rw [hs52_4]; rfl) rfl ?_
    refine V_aload_n hc dX11_performFor_145 rfl 4 rfl ?_
    obtain ⟨a28, ha28, hf⟩ := mb hf
    refine C_getr hc rfl iW11 (by decide) 3 (by decide) rfl ha28 w2_196 dX11_performFor_146 ?_
    refine V_iload_n hc dX11_performFor_149 rfl 5 rfl ?_
    refine V_iload hc dX11_performFor_150 2 rfl ?_
    obtain ⟨v29, hv29, hf⟩ := mb hf
    obtain ⟨hkv29, hv29⟩ := og hv29
    refine C_callV hc hz (As := [.int p1, .int v5]) hkv29 (by decide) (c10_canPlace l D y _ _ hv29) w4_172 w4_173 w4_174 w1_8 w4_175 hdX_X10_canPlace ⟨(Nat.le_of_ble_eq_true rfl), (Nat.le_of_ble_eq_true rfl)⟩ rfl rfl rfl (Nat.le_of_ble_eq_true rfl) dX11_performFor_152 ?_
    obtain ⟨S30, hv31, hf⟩ := mb hf
    have hJ155 : V E (cZ S30) (cU S30) (cw y S30) 224 [] [] := by
      obtain rfl := Option.some.inj hf
      exact V_vret hc hz rfl rfl rfl rfl dX11_performFor_224
    refine V_if_eq hc dX11_performFor_155 rfl (fun hq155 => ?_) (fun hq155 => ?_)
    · rw [if_pos hq155] at hv31
      obtain rfl := Option.some.inj hv31
      exact V_sub [] rfl hJ155
    · rw [if_neg hq155] at hv31
      refine V_aload_n hc dX11_performFor_158 rfl 3 rfl ?_
      refine V_iload hc dX11_performFor_159 2 rfl ?_
      obtain ⟨S32, hS32, hv31⟩ := mb hv31
      refine C_puti hc rfl iW1 tyX1 tyX1_ok nmX1 (by decide) 9 (by decide) rfl hS32 w2_23 rfl rfl rfl dX11_performFor_161 ?_
      refine V_goto hc dX11_performFor_164 rfl ?_
      obtain rfl := Option.some.inj hv31
      exact V_sub [] rfl hJ155
  rw [if_neg hs52_4] at hf
  by_cases hs52_5 : v12 = (5 : Int32)
  · rw [if_pos hs52_5] at hf
    refine V_tableIn hc dX11_performFor_52 (by rw [hs52_5]; decide) (by rw [hs52_5]; decide) (off := 115) (by rw [hs52_5]; rfl) rfl ?_
    refine V_aload_n hc dX11_performFor_167 rfl 4 rfl ?_
    obtain ⟨a33, ha33, hf⟩ := mb hf
    refine C_getr hc rfl iW11 (by decide) 3 (by decide) rfl ha33 w2_196 dX11_performFor_168 ?_
    refine V_iload_n hc dX11_performFor_171 rfl 5 rfl ?_
    refine V_iload hc dX11_performFor_172 2 rfl ?_
    refine V_iload hc dX11_performFor_174 1 rfl ?_
    refine V_iload hc dX11_performFor_176 0 rfl ?_
    obtain ⟨v34, hv34, hf⟩ := mb hf
    obtain ⟨hkv34, hv34⟩ := og hv34
    refine C_callV hc hz (As := [.int p1, .int v5, .int v7, .int v9]) hkv34 (by decide) (c10_canMark l D y _ _ hv34) w4_176 w4_177 w4_178 w1_8 w4_179 hdX_X10_canMark ⟨(Nat.le_of_ble_eq_true rfl), (Nat.le_of_ble_eq_true rfl)⟩ rfl rfl rfl (Nat.le_of_ble_eq_true rfl) dX11_performFor_178 ?_
    obtain ⟨S35, hv36, hf⟩ := mb hf
    have hJ181 : V E (cZ S35) (cU S35) (cw y S35) 224 [] [] := by
      obtain rfl := Option.some.inj hf
      exact V_vret hc hz rfl rfl rfl rfl dX11_performFor_224
    refine V_if_eq hc dX11_performFor_181 rfl (fun hq181 => ?_) (fun hq181 => ?_)
    · rw [if_pos hq181] at hv36
      obtain rfl := Option.some.inj hv36
      exact V_sub [] rfl hJ181
    · rw [if_neg hq181] at hv36
      refine V_aload_n hc dX11_performFor_184 rfl 3 rfl ?_
      refine V_iload hc dX11_performFor_185 2 rfl ?_
      refine V_iload hc dX11_performFor_187 1 rfl ?_
      refine V_iload hc dX11_performFor_189 0 rfl ?_
      obtain ⟨v37, S38, hv37, hv36⟩ := mb2 hv36
      obtain ⟨hkv37, hv37⟩ := og hv37
      refine C_callV hc hz (As := [.int v5, .int v7, .int v9]) hkv37 (by decide) (c1_addMark l D y _ _ hv37) w4_181 w4_182 w4_183 w1_9 w4_184 hdX_X1_addMark ⟨(Nat.le_of_ble_eq_true rfl), (Nat.le_of_ble_eq_true rfl)⟩ rfl rfl rfl (Nat.le_of_ble_eq_true rfl) dX11_performFor_191 ?_
      refine V_pop hc dX11_performFor_194 rfl ?_
      refine V_goto hc dX11_performFor_195 rfl ?_
      obtain rfl := Option.some.inj hv36
      exact V_sub [] rfl hJ181
  rw [if_neg hs52_5] at hf
  by_cases hs52_6 : v12 = (6 : Int32)
  · rw [if_pos hs52_6] at hf
    refine V_tableIn hc dX11_performFor_52 (by rw [hs52_6]; decide) (by rw [hs52_6]; decide) (off := 146) (by rw [hs52_6]; rfl) rfl ?_
    refine V_aload_n hc dX11_performFor_198 rfl 3 rfl ?_
    refine V_aload_n hc dX11_performFor_199 rfl 4 rfl ?_
    obtain ⟨a39, ha39, hf⟩ := mb hf
    refine C_getr hc rfl iW11 (by decide) 0 (by decide) rfl ha39 w2_193 dX11_performFor_200 ?_
    obtain ⟨a40, ha40, hf⟩ := mb hf
    refine C_getr hc rfl iW8 (by decide) 9 (by decide) rfl ha40 w1_54 dX11_performFor_203 ?_
    refine V_iload_n hc dX11_performFor_206 rfl 6 rfl ?_
    obtain ⟨v41, hv41, hf⟩ := mb hf
    refine C_iald hc hT hv41 dX11_performFor_207 ?_
    refine V_bipush hc (v := (7 : Int32)) dX11_performFor_208 rfl ?_
    obtain ⟨v42, hv43, hf⟩ := mb hf
    have hJ210 : V E (cZ S) (cU S) (cw y S) 218 [] [.int v42, .ref a3] := by
      obtain ⟨v44, hv44, hf⟩ := mb hf
      obtain ⟨hbv44, hev44⟩ := bz_some hv44
      subst hev44
      obtain ⟨S45, hS45, hf⟩ := mb hf
      refine C_puti hc rfl iW1 tyX1 tyX1_ok nmX1 (by decide) 14 (by decide) rfl hS45 w2_38 rfl (bz_nar hbv44) rfl dX11_performFor_218 ?_
      refine V_goto hc dX11_performFor_221 rfl ?_
      obtain rfl := Option.some.inj hf
      exact V_vret hc hz rfl rfl rfl rfl dX11_performFor_224
    refine V_icmp_ne hc dX11_performFor_210 rfl (fun hq210 => ?_) (fun hq210 => ?_)
    · rw [if_neg hq210] at hv43
      refine V_iconst hc (v := (0 : Int32)) dX11_performFor_217 rfl ?_
      obtain rfl := Option.some.inj hv43
      exact V_sub [] rfl hJ210
    · rw [if_pos hq210] at hv43
      refine V_iconst hc (v := (1 : Int32)) dX11_performFor_213 rfl ?_
      refine V_goto hc dX11_performFor_214 rfl ?_
      obtain rfl := Option.some.inj hv43
      exact V_sub [] rfl hJ210
  rw [if_neg hs52_6] at hf
  by_cases hs52_7 : v12 = (7 : Int32)
  · rw [if_pos hs52_7] at hf
    refine V_tableIn hc dX11_performFor_52 (by rw [hs52_7]; decide) (by rw [hs52_7]; decide) (off := 146) (by rw [hs52_7]; rfl) rfl ?_
    refine V_aload_n hc dX11_performFor_198 rfl 3 rfl ?_
    refine V_aload_n hc dX11_performFor_199 rfl 4 rfl ?_
    obtain ⟨a46, ha46, hf⟩ := mb hf
    refine C_getr hc rfl iW11 (by decide) 0 (by decide) rfl ha46 w2_193 dX11_performFor_200 ?_
    obtain ⟨a47, ha47, hf⟩ := mb hf
    refine C_getr hc rfl iW8 (by decide) 9 (by decide) rfl ha47 w1_54 dX11_performFor_203 ?_
    refine V_iload_n hc dX11_performFor_206 rfl 6 rfl ?_
    obtain ⟨v48, hv48, hf⟩ := mb hf
    refine C_iald hc hT hv48 dX11_performFor_207 ?_
    refine V_bipush hc (v := (7 : Int32)) dX11_performFor_208 rfl ?_
    obtain ⟨v49, hv50, hf⟩ := mb hf
    have hJ210 : V E (cZ S) (cU S) (cw y S) 218 [] [.int v49, .ref a3] := by
      obtain ⟨v51, hv51, hf⟩ := mb hf
      obtain ⟨hbv51, hev51⟩ := bz_some hv51
      subst hev51
      obtain ⟨S52, hS52, hf⟩ := mb hf
      refine C_puti hc rfl iW1 tyX1 tyX1_ok nmX1 (by decide) 14 (by decide) rfl hS52 w2_38 rfl (bz_nar hbv51) rfl dX11_performFor_218 ?_
      refine V_goto hc dX11_performFor_221 rfl ?_
      obtain rfl := Option.some.inj hf
      exact V_vret hc hz rfl rfl rfl rfl dX11_performFor_224
    refine V_icmp_ne hc dX11_performFor_210 rfl (fun hq210 => ?_) (fun hq210 => ?_)
    · rw [if_neg hq210] at hv50
      refine V_iconst hc (v := (0 : Int32)) dX11_performFor_217 rfl ?_
      obtain rfl := Option.some.inj hv50
      exact V_sub [] rfl hJ210
    · rw [if_pos hq210] at hv50
      refine V_iconst hc (v := (1 : Int32)) dX11_performFor_213 rfl ?_
      refine V_goto hc dX11_performFor_214 rfl ?_
      obtain rfl := Option.some.inj hv50
      exact V_sub [] rfl hJ210
  rw [if_neg hs52_7] at hf
  have hto : v12.toInt < 3 ∨ 7 < v12.toInt := by
    have ht3 : ¬ v12.toInt = 3 := fun hh => hs52_3 (Int32.toInt_inj.mp (hh.trans rfl))
    have ht4 : ¬ v12.toInt = 4 := fun hh => hs52_4 (Int32.toInt_inj.mp (hh.trans rfl))
    have ht5 : ¬ v12.toInt = 5 := fun hh => hs52_5 (Int32.toInt_inj.mp (hh.trans rfl))
    have ht6 : ¬ v12.toInt = 6 := fun hh => hs52_6 (Int32.toInt_inj.mp (hh.trans rfl))
    have ht7 : ¬ v12.toInt = 7 := fun hh => hs52_7 (Int32.toInt_inj.mp (hh.trans rfl))
    omega
  refine V_tableOut hc dX11_performFor_52 hto rfl ?_
  obtain rfl := Option.some.inj hf
  exact V_vret hc hz rfl rfl rfl rfl dX11_performFor_224
noncomputable def f11_fault (S : CS) (h : Nat) (p1 : Int32) : Option (Int32) :=
  if p1 = 0 then (
    (gi S 11 h 11).bind fun v4 =>
    some v4
  ) else (
    (
      if p1 = (1 : Int32) then (
        (gi S 11 h 12).bind fun v3 =>
        some v3
      ) else (
        some (-1 : Int32)
      )
    ).bind fun v1 =>
    some v1
  )
theorem hdX_X11_fault : yX11_fault.cls = "FarEditors" ∧ yX11_fault.cls ≠ "java/lang/invoke/MethodHandle" ∧ yX11_fault.cls ≠ "java/lang/invoke/VarHandle" ∧ (parseMethodDescriptor yX11_fault.desc).map (fun d => d.parameters.length) = some 1 := by decide +kernel
set_option maxHeartbeats 4000000 in
set_option maxRecDepth 100000 in
theorem c11_fault (l : Launch) (D : va_G) (y : CyT) (zM uM : Nat) {S : CS} {h : Nat} {p1 : Int32} {r : Int32} (hf : f11_fault S h p1 = some r) : CT l D (tyL y) yX11_fault cX11_fault 2 (some .int) 0 0 zM uM [.ref h, .int p1] (cZ S) (cU S) (cw y S) (cZ S) (cU S) (cw y S) (some (.int r)) := by
  refine CT.of (by decide) (Nat.le_of_ble_eq_true rfl) (fun E hc hz hnm => ?_)
  have hc : Cx E "FarEditors" cX11_fault 2 := hc
  have hT := hz.2.2.1
  show V E (cZ S) (cU S) (cw y S) 0 [(0, .ref h), (1, .int p1)] []
  unfold f11_fault at hf
  refine V_iload_n hc dX11_fault_0 rfl 1 rfl ?_
  refine V_if_ne hc dX11_fault_1 rfl (fun hq1 => ?_) (fun hq1 => ?_)
  · rw [if_neg hq1] at hf
    refine V_iload_n hc dX11_fault_9 rfl 1 rfl ?_
    refine V_iconst hc (v := (1 : Int32)) dX11_fault_10 rfl ?_
    obtain ⟨v1, hv2, hf⟩ := mb hf
    have hJ11 : V E (cZ S) (cU S) (cw y S) 22 [] [.int v1] := by
      obtain rfl := Option.some.inj hf
      exact V_iret hc hz rfl rfl rfl rfl rfl dX11_fault_22
    refine V_icmp_ne hc dX11_fault_11 rfl (fun hq11 => ?_) (fun hq11 => ?_)
    · rw [if_neg hq11] at hv2
      refine V_iconst hc (v := (-1 : Int32)) dX11_fault_21 rfl ?_
      obtain rfl := Option.some.inj hv2
      exact V_sub [] rfl hJ11
    · rw [if_pos hq11] at hv2
      refine V_aload_n hc dX11_fault_14 rfl 0 rfl ?_
      obtain ⟨v3, hv3, hv2⟩ := mb hv2
      refine C_geti hc rfl iW11 (by decide) 12 (by decide) rfl hv3 w2_205 dX11_fault_15 ?_
      refine V_goto hc dX11_fault_18 rfl ?_
      obtain rfl := Option.some.inj hv2
      exact V_sub [] rfl hJ11
  · rw [if_pos hq1] at hf
    refine V_aload_n hc dX11_fault_4 rfl 0 rfl ?_
    obtain ⟨v4, hv4, hf⟩ := mb hf
    refine C_geti hc rfl iW11 (by decide) 11 (by decide) rfl hv4 w2_204 dX11_fault_5 ?_
    obtain rfl := Option.some.inj hf
    exact V_iret hc hz rfl rfl rfl rfl rfl dX11_fault_8
noncomputable def f11_has (S : CS) (h : Nat) (p1 : Int32) : Option (Int32) :=
  if p1 = (0 : Int32) then (
    (gr S 11 h 3).bind fun a1 =>
    (gi S 10 a1 6).bind fun v2 =>
    some v2
  ) else (
    if p1 = (1 : Int32) then (
      (gr S 11 h 3).bind fun a3 =>
      (gi S 10 a3 11).bind fun v4 =>
      some v4
    ) else (
      if p1 = (2 : Int32) then (
        (gr S 11 h 3).bind fun a5 =>
        (gr S 10 a5 2).bind fun a6 =>
        (gi S 7 a6 1).bind fun v7 =>
        some v7
      ) else (
        if p1 = (3 : Int32) then (
          (gr S 11 h 3).bind fun a8 =>
          (gi S 10 a8 8).bind fun v9 =>
          some v9
        ) else (
          if p1 = (4 : Int32) then (
            (gr S 11 h 3).bind fun a10 =>
            (gi S 10 a10 9).bind fun v11 =>
            some v11
          ) else (
            if p1 = (5 : Int32) then (
              (gr S 11 h 3).bind fun a12 =>
              (gi S 10 a12 10).bind fun v13 =>
              some v13
            ) else (
              if p1 = (6 : Int32) then (
                (gr S 11 h 3).bind fun a14 =>
                (cal S 10 a14 (f10_onTheirWay S a14)).bind fun v15 =>
                some v15
              ) else (
                if p1 = (7 : Int32) then (
                  (gr S 11 h 6).bind fun a16 =>
                  (gi S 0 a16 8).bind fun v17 =>
                  some v17
                ) else (
                  if p1 = (8 : Int32) then (
                    (gr S 11 h 5).bind fun a18 =>
                    (gi S 2 a18 2).bind fun v19 =>
                    some v19
                  ) else (
                    if p1 = (9 : Int32) then (
                      (gr S 11 h 3).bind fun a20 =>
                      (cal S 10 a20 (f10_onTheirWay S a20)).bind fun v21 =>
                      (
                        if v21 = 0 then (
                          some (1 : Int32)
                        ) else (
                          some (0 : Int32)
                        )
                      ).bind fun v22 =>
                      some v22
                    ) else (
                      if p1 = (10 : Int32) then (
                        (gr S 11 h 3).bind fun a24 =>
                        (gi S 10 a24 7).bind fun v25 =>
                        some v25
                      ) else (
                        some (-1 : Int32)
                      )
                    )
                  )
                )
              )
            )
          )
        )
      )
    )
  )
theorem hdX_X11_has : yX11_has.cls = "FarEditors" ∧ yX11_has.cls ≠ "java/lang/invoke/MethodHandle" ∧ yX11_has.cls ≠ "java/lang/invoke/VarHandle" ∧ (parseMethodDescriptor yX11_has.desc).map (fun d => d.parameters.length) = some 1 := by decide +kernel
set_option maxHeartbeats 4000000 in
set_option maxRecDepth 100000 in
theorem c11_has (l : Launch) (D : va_G) (y : CyT) (zM uM : Nat) {S : CS} {h : Nat} {p1 : Int32} {r : Int32} (hf : f11_has S h p1 = some r) : CT l D (tyL y) yX11_has cX11_has 2 (some .int) 1 22 zM uM [.ref h, .int p1] (cZ S) (cU S) (cw y S) (cZ S) (cU S) (cw y S) (some (.int r)) := by
  refine CT.of (by decide) (Nat.le_of_ble_eq_true rfl) (fun E hc hz hnm => ?_)
  have hc : Cx E "FarEditors" cX11_has 2 := hc
  have hT := hz.2.2.1
  show V E (cZ S) (cU S) (cw y S) 0 [(0, .ref h), (1, .int p1)] []
  unfold f11_has at hf
  refine V_iload_n hc dX11_has_0 rfl 1 rfl ?_
  by_cases hs1_0 : p1 = (0 : Int32)
  · rw [if_pos hs1_0] at hf
    refine V_tableIn hc dX11_has_1 (by rw [hs1_0]; decide) (by rw [hs1_0]; decide) (off := 59) (by rw [hs1_0]; rfl) rfl ?_
    refine V_aload_n hc dX11_has_60 rfl 0 rfl ?_
    obtain ⟨a1, ha1, hf⟩ := mb hf
    refine C_getr hc rfl iW11 (by decide) 3 (by decide) rfl ha1 w2_196 dX11_has_61 ?_
    obtain ⟨v2, hv2, hf⟩ := mb hf
    refine C_geti hc rfl iW10 (by decide) 6 (by decide) rfl hv2 w2_86 dX11_has_64 ?_
    obtain rfl := Option.some.inj hf
    exact V_iret hc hz rfl rfl rfl rfl rfl dX11_has_67
  rw [if_neg hs1_0] at hf
  by_cases hs1_1 : p1 = (1 : Int32)
  · rw [if_pos hs1_1] at hf
    refine V_tableIn hc dX11_has_1 (by rw [hs1_1]; decide) (by rw [hs1_1]; decide) (off := 67) (by rw [hs1_1]; rfl) rfl ?_
    refine V_aload_n hc dX11_has_68 rfl 0 rfl ?_
    obtain ⟨a3, ha3, hf⟩ := mb hf
    refine C_getr hc rfl iW11 (by decide) 3 (by decide) rfl ha3 w2_196 dX11_has_69 ?_
    obtain ⟨v4, hv4, hf⟩ := mb hf
    refine C_geti hc rfl iW10 (by decide) 11 (by decide) rfl hv4 w2_96 dX11_has_72 ?_
    obtain rfl := Option.some.inj hf
    exact V_iret hc hz rfl rfl rfl rfl rfl dX11_has_75
  rw [if_neg hs1_1] at hf
  by_cases hs1_2 : p1 = (2 : Int32)
  · rw [if_pos hs1_2] at hf
    refine V_tableIn hc dX11_has_1 (by rw [hs1_2]; decide) (by rw [hs1_2]; decide) (off := 75) (by rw [hs1_2]; rfl) rfl ?_
    refine V_aload_n hc dX11_has_76 rfl 0 rfl ?_
    obtain ⟨a5, ha5, hf⟩ := mb hf
    refine C_getr hc rfl iW11 (by decide) 3 (by decide) rfl ha5 w2_196 dX11_has_77 ?_
    obtain ⟨a6, ha6, hf⟩ := mb hf
    refine C_getr hc rfl iW10 (by decide) 2 (by decide) rfl ha6 w2_77 dX11_has_80 ?_
    obtain ⟨v7, hv7, hf⟩ := mb hf
    refine C_geti hc rfl iW7 (by decide) 1 (by decide) rfl hv7 w1_170 dX11_has_83 ?_
    obtain rfl := Option.some.inj hf
    exact V_iret hc hz rfl rfl rfl rfl rfl dX11_has_86
  rw [if_neg hs1_2] at hf
  by_cases hs1_3 : p1 = (3 : Int32)
  · rw [if_pos hs1_3] at hf
    refine V_tableIn hc dX11_has_1 (by rw [hs1_3]; decide) (by rw [hs1_3]; decide) (off := 86) (by rw [hs1_3]; rfl) rfl ?_
    refine V_aload_n hc dX11_has_87 rfl 0 rfl ?_
    obtain ⟨a8, ha8, hf⟩ := mb hf
    refine C_getr hc rfl iW11 (by decide) 3 (by decide) rfl ha8 w2_196 dX11_has_88 ?_
    obtain ⟨v9, hv9, hf⟩ := mb hf
    refine C_geti hc rfl iW10 (by decide) 8 (by decide) rfl hv9 w2_90 dX11_has_91 ?_
    obtain rfl := Option.some.inj hf
    exact V_iret hc hz rfl rfl rfl rfl rfl dX11_has_94
  rw [if_neg hs1_3] at hf
  by_cases hs1_4 : p1 = (4 : Int32)
  · rw [if_pos hs1_4] at hf
    refine V_tableIn hc dX11_has_1 (by rw [hs1_4]; decide) (by rw [hs1_4]; decide) (off := 94) (by rw [hs1_4]; rfl) rfl ?_
    refine V_aload_n hc dX11_has_95 rfl 0 rfl ?_
    obtain ⟨a10, ha10, hf⟩ := mb hf
    refine C_getr hc rfl iW11 (by decide) 3 (by decide) rfl ha10 w2_196 dX11_has_96 ?_
    obtain ⟨v11, hv11, hf⟩ := mb hf
    refine C_geti hc rfl iW10 (by decide) 9 (by decide) rfl hv11 w2_92 dX11_has_99 ?_
    obtain rfl := Option.some.inj hf
    exact V_iret hc hz rfl rfl rfl rfl rfl dX11_has_102
  rw [if_neg hs1_4] at hf
  by_cases hs1_5 : p1 = (5 : Int32)
  · rw [if_pos hs1_5] at hf
    refine V_tableIn hc dX11_has_1 (by rw [hs1_5]; decide) (by rw [hs1_5]; decide) (off := 102) (by rw [hs1_5]; rfl) rfl ?_
    refine V_aload_n hc dX11_has_103 rfl 0 rfl ?_
    obtain ⟨a12, ha12, hf⟩ := mb hf
    refine C_getr hc rfl iW11 (by decide) 3 (by decide) rfl ha12 w2_196 dX11_has_104 ?_
    obtain ⟨v13, hv13, hf⟩ := mb hf
    refine C_geti hc rfl iW10 (by decide) 10 (by decide) rfl hv13 w2_94 dX11_has_107 ?_
    obtain rfl := Option.some.inj hf
    exact V_iret hc hz rfl rfl rfl rfl rfl dX11_has_110
  rw [if_neg hs1_5] at hf
  by_cases hs1_6 : p1 = (6 : Int32)
  · rw [if_pos hs1_6] at hf
    refine V_tableIn hc dX11_has_1 (by rw [hs1_6]; decide) (by rw [hs1_6]; decide) (off := 110) (by rw [hs1_6]; rfl) rfl ?_
    refine V_aload_n hc dX11_has_111 rfl 0 rfl ?_
    obtain ⟨a14, ha14, hf⟩ := mb hf
    refine C_getr hc rfl iW11 (by decide) 3 (by decide) rfl ha14 w2_196 dX11_has_112 ?_
    obtain ⟨v15, hv15, hf⟩ := mb hf
    obtain ⟨hkv15, hv15⟩ := og hv15
    refine C_callV hc hz (As := []) hkv15 (by decide) (c10_onTheirWay l D y _ _ hv15) w4_194 w4_195 w4_196 w1_8 w4_197 hdX_X10_onTheirWay ⟨(Nat.le_of_ble_eq_true rfl), (Nat.le_of_ble_eq_true rfl)⟩ rfl rfl rfl (Nat.le_of_ble_eq_true rfl) dX11_has_115 ?_
    obtain rfl := Option.some.inj hf
    exact V_iret hc hz rfl rfl rfl rfl rfl dX11_has_118
  rw [if_neg hs1_6] at hf
  by_cases hs1_7 : p1 = (7 : Int32)
  · rw [if_pos hs1_7] at hf
    refine V_tableIn hc dX11_has_1 (by rw [hs1_7]; decide) (by rw [hs1_7]; decide) (off := 118) (by rw [hs1_7]; rfl) rfl ?_
    refine V_aload_n hc dX11_has_119 rfl 0 rfl ?_
    obtain ⟨a16, ha16, hf⟩ := mb hf
    refine C_getr hc rfl iW11 (by decide) 6 (by decide) rfl ha16 w2_199 dX11_has_120 ?_
    obtain ⟨v17, hv17, hf⟩ := mb hf
    refine C_geti hc rfl iW0 (by decide) 8 (by decide) rfl hv17 w2_165 dX11_has_123 ?_
    obtain rfl := Option.some.inj hf
    exact V_iret hc hz rfl rfl rfl rfl rfl dX11_has_126
  rw [if_neg hs1_7] at hf
  by_cases hs1_8 : p1 = (8 : Int32)
  · rw [if_pos hs1_8] at hf
    refine V_tableIn hc dX11_has_1 (by rw [hs1_8]; decide) (by rw [hs1_8]; decide) (off := 126) (by rw [hs1_8]; rfl) rfl ?_
    refine V_aload_n hc dX11_has_127 rfl 0 rfl ?_
    obtain ⟨a18, ha18, hf⟩ := mb hf
    refine C_getr hc rfl iW11 (by decide) 5 (by decide) rfl ha18 w2_198 dX11_has_128 ?_
    obtain ⟨v19, hv19, hf⟩ := mb hf
    refine C_geti hc rfl iW2 (by decide) 2 (by decide) rfl hv19 w2_133 dX11_has_131 ?_
    obtain rfl := Option.some.inj hf
    exact V_iret hc hz rfl rfl rfl rfl rfl dX11_has_134
  rw [if_neg hs1_8] at hf
  by_cases hs1_9 : p1 = (9 : Int32)
  · rw [if_pos hs1_9] at hf
    refine V_tableIn hc dX11_has_1 (by rw [hs1_9]; decide) (by rw [hs1_9]; decide) (off := 134) (by rw [hs1_9]; rfl) rfl ?_
    refine V_aload_n hc dX11_has_135 rfl 0 rfl ?_
    obtain ⟨a20, ha20, hf⟩ := mb hf
    refine C_getr hc rfl iW11 (by decide) 3 (by decide) rfl ha20 w2_196 dX11_has_136 ?_
    obtain ⟨v21, hv21, hf⟩ := mb hf
    obtain ⟨hkv21, hv21⟩ := og hv21
    refine C_callV hc hz (As := []) hkv21 (by decide) (c10_onTheirWay l D y _ _ hv21) w4_194 w4_195 w4_196 w1_8 w4_197 hdX_X10_onTheirWay ⟨(Nat.le_of_ble_eq_true rfl), (Nat.le_of_ble_eq_true rfl)⟩ rfl rfl rfl (Nat.le_of_ble_eq_true rfl) dX11_has_139 ?_
    obtain ⟨v22, hv23, hf⟩ := mb hf
    have hJ142 : V E (cZ S) (cU S) (cw y S) 150 [] [.int v22] := by
      obtain rfl := Option.some.inj hf
      exact V_iret hc hz rfl rfl rfl rfl rfl dX11_has_150
    refine V_if_ne hc dX11_has_142 rfl (fun hq142 => ?_) (fun hq142 => ?_)
    · rw [if_neg hq142] at hv23
      refine V_iconst hc (v := (0 : Int32)) dX11_has_149 rfl ?_
      obtain rfl := Option.some.inj hv23
      exact V_sub [] rfl hJ142
    · rw [if_pos hq142] at hv23
      refine V_iconst hc (v := (1 : Int32)) dX11_has_145 rfl ?_
      refine V_goto hc dX11_has_146 rfl ?_
      obtain rfl := Option.some.inj hv23
      exact V_sub [] rfl hJ142
  rw [if_neg hs1_9] at hf
  by_cases hs1_10 : p1 = (10 : Int32)
  · rw [if_pos hs1_10] at hf
    refine V_tableIn hc dX11_has_1 (by rw [hs1_10]; decide) (by rw [hs1_10]; decide) (off := 150) (by rw [hs1_10]; rfl) rfl ?_
    refine V_aload_n hc dX11_has_151 rfl 0 rfl ?_
    obtain ⟨a24, ha24, hf⟩ := mb hf
    refine C_getr hc rfl iW11 (by decide) 3 (by decide) rfl ha24 w2_196 dX11_has_152 ?_
    obtain ⟨v25, hv25, hf⟩ := mb hf
    refine C_geti hc rfl iW10 (by decide) 7 (by decide) rfl hv25 w2_88 dX11_has_155 ?_
    obtain rfl := Option.some.inj hf
    exact V_iret hc hz rfl rfl rfl rfl rfl dX11_has_158
  rw [if_neg hs1_10] at hf
  have hto : p1.toInt < 0 ∨ 10 < p1.toInt := by
    have ht0 : ¬ p1.toInt = 0 := fun hh => hs1_0 (Int32.toInt_inj.mp (hh.trans rfl))
    have ht1 : ¬ p1.toInt = 1 := fun hh => hs1_1 (Int32.toInt_inj.mp (hh.trans rfl))
    have ht2 : ¬ p1.toInt = 2 := fun hh => hs1_2 (Int32.toInt_inj.mp (hh.trans rfl))
    have ht3 : ¬ p1.toInt = 3 := fun hh => hs1_3 (Int32.toInt_inj.mp (hh.trans rfl))
    have ht4 : ¬ p1.toInt = 4 := fun hh => hs1_4 (Int32.toInt_inj.mp (hh.trans rfl))
    have ht5 : ¬ p1.toInt = 5 := fun hh => hs1_5 (Int32.toInt_inj.mp (hh.trans rfl))
    have ht6 : ¬ p1.toInt = 6 := fun hh => hs1_6 (Int32.toInt_inj.mp (hh.trans rfl))
    have ht7 : ¬ p1.toInt = 7 := fun hh => hs1_7 (Int32.toInt_inj.mp (hh.trans rfl))
    have ht8 : ¬ p1.toInt = 8 := fun hh => hs1_8 (Int32.toInt_inj.mp (hh.trans rfl))
    have ht9 : ¬ p1.toInt = 9 := fun hh => hs1_9 (Int32.toInt_inj.mp (hh.trans rfl))
    have ht10 : ¬ p1.toInt = 10 := fun hh => hs1_10 (Int32.toInt_inj.mp (hh.trans rfl))
    omega
  refine V_tableOut hc dX11_has_1 hto rfl ?_
  refine V_iconst hc (v := (-1 : Int32)) dX11_has_159 rfl ?_
  obtain rfl := Option.some.inj hf
  exact V_iret hc hz rfl rfl rfl rfl rfl dX11_has_160
noncomputable def f11_editor (S : CS) (h : Nat) (p1 : Int32) (p2 : Int32) : Option (Int32) :=
  (gr S 11 h 3).bind fun a1 =>
  (cal S 10 a1 (f10_knows S a1 p1)).bind fun v2 =>
  if v2 = 0 then (
    some (-1 : Int32)
  ) else (
    (gr S 11 h 3).bind fun a3 =>
    (gr S 10 a3 3).bind fun a4 =>
    (ldr S 16 a4 p1).bind fun a5 =>
    if p2 = (0 : Int32) then (
      (gr S 1 a5 0).bind fun a6 =>
      (gi S 7 a6 1).bind fun v7 =>
      some v7
    ) else (
      if p2 = (1 : Int32) then (
        (gi S 1 a5 8).bind fun v8 =>
        some v8
      ) else (
        if p2 = (2 : Int32) then (
          (gi S 1 a5 9).bind fun v9 =>
          some v9
        ) else (
          if p2 = (3 : Int32) then (
            (gi S 1 a5 12).bind fun v10 =>
            (
              if v10 = 0 then (
                some (0 : Int32)
              ) else (
                some (1 : Int32)
              )
            ).bind fun v11 =>
            some v11
          ) else (
            if p2 = (4 : Int32) then (
              (gi S 1 a5 13).bind fun v13 =>
              (
                if v13 = 0 then (
                  some (0 : Int32)
                ) else (
                  some (1 : Int32)
                )
              ).bind fun v14 =>
              some v14
            ) else (
              if p2 = (5 : Int32) then (
                (gi S 1 a5 7).bind fun v16 =>
                some v16
              ) else (
                if p2 = (6 : Int32) then (
                  (gr S 1 a5 3).bind fun a17 =>
                  (gi S 3 a17 1).bind fun v18 =>
                  some v18
                ) else (
                  if p2 = (7 : Int32) then (
                    (gr S 1 a5 4).bind fun a19 =>
                    (gi S 3 a19 1).bind fun v20 =>
                    some v20
                  ) else (
                    if p2 = (8 : Int32) then (
                      (gi S 1 a5 14).bind fun v21 =>
                      (
                        if v21 = 0 then (
                          some (0 : Int32)
                        ) else (
                          some (1 : Int32)
                        )
                      ).bind fun v22 =>
                      some v22
                    ) else (
                      if p2 = (9 : Int32) then (
                        (gi S 1 a5 10).bind fun v24 =>
                        some v24
                      ) else (
                        if p2 = (10 : Int32) then (
                          (gr S 11 h 3).bind fun a25 =>
                          (gi S 10 a25 11).bind fun v26 =>
                          (gi S 1 a5 8).bind fun v27 =>
                          some (v26 - v27)
                        ) else (
                          if p2 = (11 : Int32) then (
                            (gi S 1 a5 11).bind fun v28 =>
                            some v28
                          ) else (
                            some (-1 : Int32)
                          )
                        )
                      )
                    )
                  )
                )
              )
            )
          )
        )
      )
    )
  )
theorem hdX_X11_editor : yX11_editor.cls = "FarEditors" ∧ yX11_editor.cls ≠ "java/lang/invoke/MethodHandle" ∧ yX11_editor.cls ≠ "java/lang/invoke/VarHandle" ∧ (parseMethodDescriptor yX11_editor.desc).map (fun d => d.parameters.length) = some 2 := by decide +kernel
set_option maxHeartbeats 4000000 in
set_option maxRecDepth 100000 in
theorem c11_editor (l : Launch) (D : va_G) (y : CyT) (zM uM : Nat) {S : CS} {h : Nat} {p1 : Int32} {p2 : Int32} {r : Int32} (hf : f11_editor S h p1 p2 = some r) : CT l D (tyL y) yX11_editor cX11_editor 4 (some .int) 1 21 zM uM [.ref h, .int p1, .int p2] (cZ S) (cU S) (cw y S) (cZ S) (cU S) (cw y S) (some (.int r)) := by
  refine CT.of (by decide) (Nat.le_of_ble_eq_true rfl) (fun E hc hz hnm => ?_)
  have hc : Cx E "FarEditors" cX11_editor 4 := hc
  have hT := hz.2.2.1
  show V E (cZ S) (cU S) (cw y S) 0 [(0, .ref h), (1, .int p1), (2, .int p2)] []
  unfold f11_editor at hf
  refine V_aload_n hc dX11_editor_0 rfl 0 rfl ?_
  obtain ⟨a1, ha1, hf⟩ := mb hf
  refine C_getr hc rfl iW11 (by decide) 3 (by decide) rfl ha1 w2_196 dX11_editor_1 ?_
  refine V_iload_n hc dX11_editor_4 rfl 1 rfl ?_
  obtain ⟨v2, hv2, hf⟩ := mb hf
  obtain ⟨hkv2, hv2⟩ := og hv2
  refine C_callV hc hz (As := [.int p1]) hkv2 (by decide) (c10_knows l D y _ _ hv2) w3_222 w3_223 w3_224 w1_8 w3_225 hdX_X10_knows ⟨(Nat.le_of_ble_eq_true rfl), (Nat.le_of_ble_eq_true rfl)⟩ rfl rfl rfl (Nat.le_of_ble_eq_true rfl) dX11_editor_5 ?_
  refine V_if_ne hc dX11_editor_8 rfl (fun hq8 => ?_) (fun hq8 => ?_)
  · rw [if_neg hq8] at hf
    refine V_aload_n hc dX11_editor_13 rfl 0 rfl ?_
    obtain ⟨a3, ha3, hf⟩ := mb hf
    refine C_getr hc rfl iW11 (by decide) 3 (by decide) rfl ha3 w2_196 dX11_editor_14 ?_
    obtain ⟨a4, ha4, hf⟩ := mb hf
    refine C_getr hc rfl iW10 (by decide) 3 (by decide) rfl ha4 w2_80 dX11_editor_17 ?_
    refine V_iload_n hc dX11_editor_20 rfl 1 rfl ?_
    obtain ⟨a5, ha5, hf⟩ := mb hf
    refine C_aald hc hT (by decide) (by decide) ha5 dX11_editor_21 ?_
    refine V_astore_n hc dX11_editor_22 rfl (by decide) rfl ?_
    refine V_iload_n hc dX11_editor_23 rfl 3 rfl ?_
    by_cases hs24_0 : p2 = (0 : Int32)
    · rw [if_pos hs24_0] at hf
      refine V_tableIn hc dX11_editor_24 (by rw [hs24_0]; decide) (by rw [hs24_0]; decide) (off := 64) (by rw [hs24_0]; rfl) rfl ?_
      refine V_aload_n hc dX11_editor_88 rfl 0 rfl ?_
      obtain ⟨a6, ha6, hf⟩ := mb hf
      refine C_getr hc rfl iW1 (by decide) 0 (by decide) rfl ha6 w1_238 dX11_editor_89 ?_
      obtain ⟨v7, hv7, hf⟩ := mb hf
      refine C_geti hc rfl iW7 (by decide) 1 (by decide) rfl hv7 w1_170 dX11_editor_92 ?_
      obtain rfl := Option.some.inj hf
      exact V_iret hc hz rfl rfl rfl rfl rfl dX11_editor_95
    rw [if_neg hs24_0] at hf
    by_cases hs24_1 : p2 = (1 : Int32)
    · rw [if_pos hs24_1] at hf
      refine V_tableIn hc dX11_editor_24 (by rw [hs24_1]; decide) (by rw [hs24_1]; decide) (off := 72) (by rw [hs24_1]; rfl) rfl ?_
      refine V_aload_n hc dX11_editor_96 rfl 0 rfl ?_
      obtain ⟨v8, hv8, hf⟩ := mb hf
      refine C_geti hc rfl iW1 (by decide) 8 (by decide) rfl hv8 w2_21 dX11_editor_97 ?_
      obtain rfl := Option.some.inj hf
      exact V_iret hc hz rfl rfl rfl rfl rfl dX11_editor_100
    rw [if_neg hs24_1] at hf
    by_cases hs24_2 : p2 = (2 : Int32)
    · rw [if_pos hs24_2] at hf
      refine V_tableIn hc dX11_editor_24 (by rw [hs24_2]; decide) (by rw [hs24_2]; decide) (off := 77) (by rw [hs24_2]; rfl) rfl ?_
      refine V_aload_n hc dX11_editor_101 rfl 0 rfl ?_
      obtain ⟨v9, hv9, hf⟩ := mb hf
      refine C_geti hc rfl iW1 (by decide) 9 (by decide) rfl hv9 w2_23 dX11_editor_102 ?_
      obtain rfl := Option.some.inj hf
      exact V_iret hc hz rfl rfl rfl rfl rfl dX11_editor_105
    rw [if_neg hs24_2] at hf
    by_cases hs24_3 : p2 = (3 : Int32)
    · rw [if_pos hs24_3] at hf
      refine V_tableIn hc dX11_editor_24 (by rw [hs24_3]; decide) (by rw [hs24_3]; decide) (off := 82) (by rw [hs24_3]; rfl) rfl ?_
      refine V_aload_n hc dX11_editor_106 rfl 0 rfl ?_
      obtain ⟨v10, hv10, hf⟩ := mb hf
      refine C_geti hc rfl iW1 (by decide) 12 (by decide) rfl hv10 w2_32 dX11_editor_107 ?_
      obtain ⟨v11, hv12, hf⟩ := mb hf
      have hJ110 : V E (cZ S) (cU S) (cw y S) 118 [] [.int v11] := by
        obtain rfl := Option.some.inj hf
        exact V_iret hc hz rfl rfl rfl rfl rfl dX11_editor_118
      refine V_if_eq hc dX11_editor_110 rfl (fun hq110 => ?_) (fun hq110 => ?_)
      · rw [if_pos hq110] at hv12
        refine V_iconst hc (v := (0 : Int32)) dX11_editor_117 rfl ?_
        obtain rfl := Option.some.inj hv12
        exact V_sub [] rfl hJ110
      · rw [if_neg hq110] at hv12
        refine V_iconst hc (v := (1 : Int32)) dX11_editor_113 rfl ?_
        refine V_goto hc dX11_editor_114 rfl ?_
        obtain rfl := Option.some.inj hv12
        exact V_sub [] rfl hJ110
    rw [if_neg hs24_3] at hf
    by_cases hs24_4 : p2 = (4 : Int32)
    · rw [if_pos hs24_4] at hf
      refine V_tableIn hc dX11_editor_24 (by rw [hs24_4]; decide) (by rw [hs24_4]; decide) (off := 95) (by rw [hs24_4]; rfl) rfl ?_
      refine V_aload_n hc dX11_editor_119 rfl 0 rfl ?_
      obtain ⟨v13, hv13, hf⟩ := mb hf
      refine C_geti hc rfl iW1 (by decide) 13 (by decide) rfl hv13 w2_35 dX11_editor_120 ?_
      obtain ⟨v14, hv15, hf⟩ := mb hf
      have hJ123 : V E (cZ S) (cU S) (cw y S) 131 [] [.int v14] := by
        obtain rfl := Option.some.inj hf
        exact V_iret hc hz rfl rfl rfl rfl rfl dX11_editor_131
      refine V_if_eq hc dX11_editor_123 rfl (fun hq123 => ?_) (fun hq123 => ?_)
      · rw [if_pos hq123] at hv15
        refine V_iconst hc (v := (0 : Int32)) dX11_editor_130 rfl ?_
        obtain rfl := Option.some.inj hv15
        exact V_sub [] rfl hJ123
      · rw [if_neg hq123] at hv15
        refine V_iconst hc (v := (1 : Int32)) dX11_editor_126 rfl ?_
        refine V_goto hc dX11_editor_127 rfl ?_
        obtain rfl := Option.some.inj hv15
        exact V_sub [] rfl hJ123
    rw [if_neg hs24_4] at hf
    by_cases hs24_5 : p2 = (5 : Int32)
    · rw [if_pos hs24_5] at hf
      refine V_tableIn hc dX11_editor_24 (by rw [hs24_5]; decide) (by rw [hs24_5]; decide) (off := 108) (by rw [hs24_5]; rfl) rfl ?_
      refine V_aload_n hc dX11_editor_132 rfl 0 rfl ?_
      obtain ⟨v16, hv16, hf⟩ := mb hf
      refine C_geti hc rfl iW1 (by decide) 7 (by decide) rfl hv16 w2_17 dX11_editor_133 ?_
      obtain rfl := Option.some.inj hf
      exact V_iret hc hz rfl rfl rfl rfl rfl dX11_editor_136
    rw [if_neg hs24_5] at hf
    by_cases hs24_6 : p2 = (6 : Int32)
    · rw [if_pos hs24_6] at hf
      refine V_tableIn hc dX11_editor_24 (by rw [hs24_6]; decide) (by rw [hs24_6]; decide) (off := 113) (by rw [hs24_6]; rfl) rfl ?_
      refine V_aload_n hc dX11_editor_137 rfl 0 rfl ?_
      obtain ⟨a17, ha17, hf⟩ := mb hf
      refine C_getr hc rfl iW1 (by decide) 3 (by decide) rfl ha17 w2_7 dX11_editor_138 ?_
      obtain ⟨v18, hv18, hf⟩ := mb hf
      refine C_geti hc rfl iW3 (by decide) 1 (by decide) rfl hv18 w1_230 dX11_editor_141 ?_
      obtain rfl := Option.some.inj hf
      exact V_iret hc hz rfl rfl rfl rfl rfl dX11_editor_144
    rw [if_neg hs24_6] at hf
    by_cases hs24_7 : p2 = (7 : Int32)
    · rw [if_pos hs24_7] at hf
      refine V_tableIn hc dX11_editor_24 (by rw [hs24_7]; decide) (by rw [hs24_7]; decide) (off := 121) (by rw [hs24_7]; rfl) rfl ?_
      refine V_aload_n hc dX11_editor_145 rfl 0 rfl ?_
      obtain ⟨a19, ha19, hf⟩ := mb hf
      refine C_getr hc rfl iW1 (by decide) 4 (by decide) rfl ha19 w2_10 dX11_editor_146 ?_
      obtain ⟨v20, hv20, hf⟩ := mb hf
      refine C_geti hc rfl iW3 (by decide) 1 (by decide) rfl hv20 w1_230 dX11_editor_149 ?_
      obtain rfl := Option.some.inj hf
      exact V_iret hc hz rfl rfl rfl rfl rfl dX11_editor_152
    rw [if_neg hs24_7] at hf
    by_cases hs24_8 : p2 = (8 : Int32)
    · rw [if_pos hs24_8] at hf
      refine V_tableIn hc dX11_editor_24 (by rw [hs24_8]; decide) (by rw [hs24_8]; decide) (off := 129) (by rw [hs24_8]; rfl) rfl ?_
      refine V_aload_n hc dX11_editor_153 rfl 0 rfl ?_
      obtain ⟨v21, hv21, hf⟩ := mb hf
      refine C_geti hc rfl iW1 (by decide) 14 (by decide) rfl hv21 w2_38 dX11_editor_154 ?_
      obtain ⟨v22, hv23, hf⟩ := mb hf
      have hJ157 : V E (cZ S) (cU S) (cw y S) 165 [] [.int v22] := by
        obtain rfl := Option.some.inj hf
        exact V_iret hc hz rfl rfl rfl rfl rfl dX11_editor_165
      refine V_if_eq hc dX11_editor_157 rfl (fun hq157 => ?_) (fun hq157 => ?_)
      · rw [if_pos hq157] at hv23
        refine V_iconst hc (v := (0 : Int32)) dX11_editor_164 rfl ?_
        obtain rfl := Option.some.inj hv23
        exact V_sub [] rfl hJ157
      · rw [if_neg hq157] at hv23
        refine V_iconst hc (v := (1 : Int32)) dX11_editor_160 rfl ?_
        refine V_goto hc dX11_editor_161 rfl ?_
        obtain rfl := Option.some.inj hv23
        exact V_sub [] rfl hJ157
    rw [if_neg hs24_8] at hf
    by_cases hs24_9 : p2 = (9 : Int32)
    · rw [if_pos hs24_9] at hf
      refine V_tableIn hc dX11_editor_24 (by rw [hs24_9]; decide) (by rw [hs24_9]; decide) (off := 142) (by rw [hs24_9]; rfl) rfl ?_
      refine V_aload_n hc dX11_editor_166 rfl 0 rfl ?_
      obtain ⟨v24, hv24, hf⟩ := mb hf
      refine C_geti hc rfl iW1 (by decide) 10 (by decide) rfl hv24 w2_25 dX11_editor_167 ?_
      obtain rfl := Option.some.inj hf
      exact V_iret hc hz rfl rfl rfl rfl rfl dX11_editor_170
    rw [if_neg hs24_9] at hf
    by_cases hs24_10 : p2 = (10 : Int32)
    · rw [if_pos hs24_10] at hf
      refine V_tableIn hc dX11_editor_24 (by rw [hs24_10]; decide) (by rw [hs24_10]; decide) (off := 147) (by rw [hs24_10]; rfl) rfl ?_
      refine V_aload_n hc dX11_editor_171 rfl 1 rfl ?_
      obtain ⟨a25, ha25, hf⟩ := mb hf
      refine C_getr hc rfl iW11 (by decide) 3 (by decide) rfl ha25 w2_196 dX11_editor_172 ?_
      obtain ⟨v26, hv26, hf⟩ := mb hf
      refine C_geti hc rfl iW10 (by decide) 11 (by decide) rfl hv26 w2_96 dX11_editor_175 ?_
      refine V_aload_n hc dX11_editor_178 rfl 0 rfl ?_
      obtain ⟨v27, hv27, hf⟩ := mb hf
      refine C_geti hc rfl iW1 (by decide) 8 (by decide) rfl hv27 w2_21 dX11_editor_179 ?_
      refine V_isub hc dX11_editor_182 ?_
      obtain rfl := Option.some.inj hf
      exact V_iret hc hz rfl rfl rfl rfl rfl dX11_editor_183
    rw [if_neg hs24_10] at hf
    by_cases hs24_11 : p2 = (11 : Int32)
    · rw [if_pos hs24_11] at hf
      refine V_tableIn hc dX11_editor_24 (by rw [hs24_11]; decide) (by rw [hs24_11]; decide) (off := 160) (by rw [hs24_11]; rfl) rfl ?_
      refine V_aload_n hc dX11_editor_184 rfl 0 rfl ?_
      obtain ⟨v28, hv28, hf⟩ := mb hf
      refine C_geti hc rfl iW1 (by decide) 11 (by decide) rfl hv28 w2_30 dX11_editor_185 ?_
      obtain rfl := Option.some.inj hf
      exact V_iret hc hz rfl rfl rfl rfl rfl dX11_editor_188
    rw [if_neg hs24_11] at hf
    have hto : p2.toInt < 0 ∨ 11 < p2.toInt := by
      have ht0 : ¬ p2.toInt = 0 := fun hh => hs24_0 (Int32.toInt_inj.mp (hh.trans rfl))
      have ht1 : ¬ p2.toInt = 1 := fun hh => hs24_1 (Int32.toInt_inj.mp (hh.trans rfl))
      have ht2 : ¬ p2.toInt = 2 := fun hh => hs24_2 (Int32.toInt_inj.mp (hh.trans rfl))
      have ht3 : ¬ p2.toInt = 3 := fun hh => hs24_3 (Int32.toInt_inj.mp (hh.trans rfl))
      have ht4 : ¬ p2.toInt = 4 := fun hh => hs24_4 (Int32.toInt_inj.mp (hh.trans rfl))
      have ht5 : ¬ p2.toInt = 5 := fun hh => hs24_5 (Int32.toInt_inj.mp (hh.trans rfl))
      have ht6 : ¬ p2.toInt = 6 := fun hh => hs24_6 (Int32.toInt_inj.mp (hh.trans rfl))
      have ht7 : ¬ p2.toInt = 7 := fun hh => hs24_7 (Int32.toInt_inj.mp (hh.trans rfl))
      have ht8 : ¬ p2.toInt = 8 := fun hh => hs24_8 (Int32.toInt_inj.mp (hh.trans rfl))
      have ht9 : ¬ p2.toInt = 9 := fun hh => hs24_9 (Int32.toInt_inj.mp (hh.trans rfl))
      have ht10 : ¬ p2.toInt = 10 := fun hh => hs24_10 (Int32.toInt_inj.mp (hh.trans rfl))
      have ht11 : ¬ p2.toInt = 11 := fun hh => hs24_11 (Int32.toInt_inj.mp (hh.trans rfl))
      omega
    refine V_tableOut hc dX11_editor_24 hto rfl ?_
    refine V_iconst hc (v := (-1 : Int32)) dX11_editor_189 rfl ?_
    obtain rfl := Option.some.inj hf
    exact V_iret hc hz rfl rfl rfl rfl rfl dX11_editor_190
  · rw [if_pos hq8] at hf
    refine V_iconst hc (v := (-1 : Int32)) dX11_editor_11 rfl ?_
    obtain rfl := Option.some.inj hf
    exact V_iret hc hz rfl rfl rfl rfl rfl dX11_editor_12
