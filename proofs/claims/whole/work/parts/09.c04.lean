noncomputable def LX0_canSee_27 (c1 : Nat) (c2 : Int32) (S : CS) : Nat → Int32 → Option (Nat)
  | 0, _ => none
  | n + 1, i3 =>
    if c2 ≤ (i3 + (1 : Int32)) then (
      some 1
    ) else (
      (ldi S c1 i3).bind fun v1 =>
      if (240 : Int32) ≤ v1 then (
        some 0
      ) else (
        (ldi S c1 (i3 + (1 : Int32))).bind fun v2 =>
        if v2 ≤ (26 : Int32) then (
          LX0_canSee_27 c1 c2 S n (i3 + (2 : Int32))
        ) else (
          some 0
        )
      )
    )
noncomputable def f0_canSee (S : CS) (h : Nat) (p1 : Nat) (p2 : Int32) : Option (Int32) :=
  if p2 < (2 : Int32) then (
    some (0 : Int32)
  ) else (
    if (32 : Int32) < p2 then (
      some (0 : Int32)
    ) else (
      if (p2 - p2 / (2 : Int32) * (2 : Int32)) = 0 then (
        (aln S 14 p1).bind fun v1 =>
        if p2 ≤ v1 then (
          (LX0_canSee_27 p1 p2 S FU (0 : Int32)).bind fun t2 =>
          if t2 = 0 then (
            some (0 : Int32)
          ) else (
            some (1 : Int32)
          )
        ) else (
          some (0 : Int32)
        )
      ) else (
        some (0 : Int32)
      )
    )
  )
theorem hdX_X0_canSee : yX0_canSee.cls = "FarEditors$Comings" ∧ yX0_canSee.cls ≠ "java/lang/invoke/MethodHandle" ∧ yX0_canSee.cls ≠ "java/lang/invoke/VarHandle" ∧ (parseMethodDescriptor yX0_canSee.desc).map (fun d => d.parameters.length) = some 2 := by decide +kernel
set_option maxHeartbeats 4000000 in
set_option maxRecDepth 100000 in
theorem LX0_canSee_27_ok {E : CxT} {l : Launch} {D : va_G} {y : CyT} {zM uM : Nat} (hc : Cx E "FarEditors$Comings" cX0_canSee 4) (c1 : Nat) (c2 : Int32) (S : CS) (hz : Cy E l D y 0 0 zM uM) : ∀ (n : Nat) (i3 : Int32) {t : Nat}, LX0_canSee_27 c1 c2 S n i3 = some t → (hx0 : t = 0 → V E (cZ S) (cU S) (cw y S) 53 [] []) → (hx1 : t = 1 → V E (cZ S) (cU S) (cw y S) 61 [] []) → V E (cZ S) (cU S) (cw y S) 27 [(1, .ref c1), (2, .int c2), (3, .int i3)] [] := by
  have hT := hz.2.2.1
  intro n
  induction n with
  | zero => intro i3 t hf; cases hf
  | succ n ih =>
    intro i3 t hf hx0 hx1
    unfold LX0_canSee_27 at hf
    refine V_iload_n hc dX0_canSee_27 rfl 2 rfl ?_
    refine V_iconst hc (v := (1 : Int32)) dX0_canSee_28 rfl ?_
    refine V_iadd hc dX0_canSee_29 ?_
    refine V_iload_n hc dX0_canSee_30 rfl 1 rfl ?_
    refine V_icmp_ge hc dX0_canSee_31 rfl (fun hq31 => ?_) (fun hq31 => ?_)
    · rw [if_pos hq31] at hf
      obtain rfl := Option.some.inj hf
      exact V_sub [] rfl (hx1 rfl)
    · rw [if_neg hq31] at hf
      refine V_aload_n hc dX0_canSee_34 rfl 0 rfl ?_
      refine V_iload_n hc dX0_canSee_35 rfl 2 rfl ?_
      obtain ⟨v1, hv1, hf⟩ := mb hf
      refine C_iald hc hT hv1 dX0_canSee_36 ?_
      refine V_sipush hc (v := (240 : Int32)) dX0_canSee_37 rfl ?_
      refine V_icmp_ge hc dX0_canSee_40 rfl (fun hq40 => ?_) (fun hq40 => ?_)
      · rw [if_pos hq40] at hf
        obtain rfl := Option.some.inj hf
        exact V_sub [] rfl (hx0 rfl)
      · rw [if_neg hq40] at hf
        refine V_aload_n hc dX0_canSee_43 rfl 0 rfl ?_
        refine V_iload_n hc dX0_canSee_44 rfl 2 rfl ?_
        refine V_iconst hc (v := (1 : Int32)) dX0_canSee_45 rfl ?_
        refine V_iadd hc dX0_canSee_46 ?_
        obtain ⟨v2, hv2, hf⟩ := mb hf
        refine C_iald hc hT hv2 dX0_canSee_47 ?_
        refine V_bipush hc (v := (26 : Int32)) dX0_canSee_48 rfl ?_
        refine V_icmp_le hc dX0_canSee_50 rfl (fun hq50 => ?_) (fun hq50 => ?_)
        · rw [if_pos hq50] at hf
          refine V_iinc hc (j := 2) (v := (i3 + (2 : Int32))) dX0_canSee_55 rfl rfl (by decide) rfl ?_
          refine V_goto hc dX0_canSee_58 rfl ?_
          exact V_sub [1, 2, 0] rfl (ih _ hf hx0 hx1)
        · rw [if_neg hq50] at hf
          obtain rfl := Option.some.inj hf
          exact V_sub [] rfl (hx0 rfl)
set_option maxHeartbeats 4000000 in
set_option maxRecDepth 100000 in
theorem c0_canSee (l : Launch) (D : va_G) (y : CyT) (zM uM : Nat) {S : CS} {h : Nat} {p1 : Nat} {p2 : Int32} {r : Int32} (hf : f0_canSee S h p1 p2 = some r) : CT l D y yX0_canSee cX0_canSee 4 (some .boolean) 0 0 zM uM [.ref h, .ref p1, .int p2] (cZ S) (cU S) (cw y S) (cZ S) (cU S) (cw y S) (some (.int r)) := by
  refine CT.of (by decide) (Nat.le_of_ble_eq_true rfl) (fun E hc hzz hnm => ?_)
  have hc : Cx E "FarEditors$Comings" cX0_canSee 4 := hc
  have hz := hzz.1
  have hT := hz.2.2.1
  show V E (cZ S) (cU S) (cw y S) 0 [(0, .ref h), (1, .ref p1), (2, .int p2)] []
  unfold f0_canSee at hf
  refine V_iload_n hc dX0_canSee_0 rfl 2 rfl ?_
  refine V_iconst hc (v := (2 : Int32)) dX0_canSee_1 rfl ?_
  refine V_icmp_lt hc dX0_canSee_2 rfl (fun hq2 => ?_) (fun hq2 => ?_)
  · rw [if_pos hq2] at hf
    refine V_iconst hc (v := (0 : Int32)) dX0_canSee_23 rfl ?_
    obtain rfl := Option.some.inj hf
    exact V_iret hc hzz rfl rfl rfl rfl rfl dX0_canSee_24
  · rw [if_neg hq2] at hf
    refine V_iload_n hc dX0_canSee_5 rfl 2 rfl ?_
    refine V_bipush hc (v := (32 : Int32)) dX0_canSee_6 rfl ?_
    refine V_icmp_gt hc dX0_canSee_8 rfl (fun hq8 => ?_) (fun hq8 => ?_)
    · rw [if_pos hq8] at hf
      refine V_iconst hc (v := (0 : Int32)) dX0_canSee_23 rfl ?_
      obtain rfl := Option.some.inj hf
      exact V_iret hc hzz rfl rfl rfl rfl rfl dX0_canSee_24
    · rw [if_neg hq8] at hf
      refine V_iload_n hc dX0_canSee_11 rfl 2 rfl ?_
      refine V_iconst hc (v := (2 : Int32)) dX0_canSee_12 rfl ?_
      refine V_irem hc dX0_canSee_13 (by decide) ?_
      refine V_if_ne hc dX0_canSee_14 rfl (fun hq14 => ?_) (fun hq14 => ?_)
      · rw [if_neg hq14] at hf
        refine V_iconst hc (v := (0 : Int32)) dX0_canSee_23 rfl ?_
        obtain rfl := Option.some.inj hf
        exact V_iret hc hzz rfl rfl rfl rfl rfl dX0_canSee_24
      · rw [if_pos hq14] at hf
        refine V_iload_n hc dX0_canSee_17 rfl 2 rfl ?_
        refine V_aload_n hc dX0_canSee_18 rfl 1 rfl ?_
        obtain ⟨v1, hv1, hf⟩ := mb hf
        refine C_alen hc hT hv1 dX0_canSee_19 ?_
        refine V_icmp_le hc dX0_canSee_20 rfl (fun hq20 => ?_) (fun hq20 => ?_)
        · rw [if_pos hq20] at hf
          refine V_iconst hc (v := (0 : Int32)) dX0_canSee_25 rfl ?_
          refine V_istore_n hc dX0_canSee_26 rfl (by decide) rfl ?_
          obtain ⟨t2, hv3, hf⟩ := mb hf
          refine V_sub [2, 3, 0] rfl (LX0_canSee_27_ok hc p1 p2 S hz FU _ hv3 (fun ht27_0 => ?_) (fun ht27_1 => ?_))
          · rw [if_pos ht27_0] at hf
            refine V_iconst hc (v := (0 : Int32)) dX0_canSee_53 rfl ?_
            obtain rfl := Option.some.inj hf
            exact V_iret hc hzz rfl rfl rfl rfl rfl dX0_canSee_54
          · rw [if_neg (by rw [ht27_1]; decide)] at hf
            refine V_iconst hc (v := (1 : Int32)) dX0_canSee_61 rfl ?_
            obtain rfl := Option.some.inj hf
            exact V_iret hc hzz rfl rfl rfl rfl rfl dX0_canSee_62
        · rw [if_neg hq20] at hf
          refine V_iconst hc (v := (0 : Int32)) dX0_canSee_23 rfl ?_
          obtain rfl := Option.some.inj hf
          exact V_iret hc hzz rfl rfl rfl rfl rfl dX0_canSee_24
noncomputable def LX0_setSeen_14 (h : Nat) (c1 : Nat) : Nat → Int32 → CS → Option (CS)
  | 0, _, _ => none
  | n + 1, i3, S =>
    (gi S 0 h 8).bind fun v1 =>
    if v1 ≤ i3 then (
      some S
    ) else (
      (aln S 14 c1).bind fun v2 =>
      if v2 ≤ (((2 : Int32) * i3) + (1 : Int32)) then (
        some S
      ) else (
        (gr S 0 h 3).bind fun a3 =>
        (ldi S c1 ((2 : Int32) * i3)).bind fun v4 =>
        (sti S a3 i3 v4).bind fun S5 =>
        (gr S5 0 h 4).bind fun a6 =>
        (ldi S5 c1 (((2 : Int32) * i3) + (1 : Int32))).bind fun v7 =>
        (sti S5 a6 i3 v7).bind fun S8 =>
        LX0_setSeen_14 h c1 n (i3 + (1 : Int32)) S8
      )
    )
noncomputable def f0_setSeen (S : CS) (h : Nat) (p1 : Nat) (p2 : Int32) : Option (CS) :=
  (pi S 0 h 8 (if (16 : Int32) < (p2 / (2 : Int32)) then (16 : Int32) else (p2 / (2 : Int32)))).bind fun S1 =>
  (LX0_setSeen_14 h p1 FU (0 : Int32) S1).bind fun S2 =>
  some S2
theorem hdX_X0_setSeen : yX0_setSeen.cls = "FarEditors$Comings" ∧ yX0_setSeen.cls ≠ "java/lang/invoke/MethodHandle" ∧ yX0_setSeen.cls ≠ "java/lang/invoke/VarHandle" ∧ (parseMethodDescriptor yX0_setSeen.desc).map (fun d => d.parameters.length) = some 2 := by decide +kernel
set_option maxHeartbeats 4000000 in
set_option maxRecDepth 100000 in
theorem LX0_setSeen_14_ok {E : CxT} {l : Launch} {D : va_G} {y : CyT} {zM uM : Nat} (hc : Cx E "FarEditors$Comings" cX0_setSeen 4) (h : Nat) (c1 : Nat) (hz : Cy E l D y 1 21 zM uM) : ∀ (n : Nat) (i3 : Int32) (S : CS) {So : CS}, LX0_setSeen_14 h c1 n i3 S = some So → (hx0 : V E (cZ So) (cU So) (cw y So) 62 [] []) → V E (cZ S) (cU S) (cw y S) 14 [(0, .ref h), (1, .ref c1), (3, .int i3)] [] := by
  have hT := hz.2.2.1
  intro n
  induction n with
  | zero => intro i3 S So hf; cases hf
  | succ n ih =>
    intro i3 S So hf hx0
    unfold LX0_setSeen_14 at hf
    refine V_iload_n hc dX0_setSeen_14 rfl 2 rfl ?_
    refine V_aload_n hc dX0_setSeen_15 rfl 0 rfl ?_
    obtain ⟨v1, hv1, hf⟩ := mb hf
    refine C_geti hc rfl iW0 (by decide) 8 (by decide) rfl hv1 w2_164 dX0_setSeen_16 ?_
    refine V_icmp_ge hc dX0_setSeen_19 rfl (fun hq19 => ?_) (fun hq19 => ?_)
    · rw [if_pos hq19] at hf
      obtain rfl := Option.some.inj hf
      exact V_sub [] rfl hx0
    · rw [if_neg hq19] at hf
      refine V_iconst hc (v := (2 : Int32)) dX0_setSeen_22 rfl ?_
      refine V_iload_n hc dX0_setSeen_23 rfl 2 rfl ?_
      refine V_imul hc dX0_setSeen_24 ?_
      refine V_iconst hc (v := (1 : Int32)) dX0_setSeen_25 rfl ?_
      refine V_iadd hc dX0_setSeen_26 ?_
      refine V_aload_n hc dX0_setSeen_27 rfl 1 rfl ?_
      obtain ⟨v2, hv2, hf⟩ := mb hf
      refine C_alen hc hT hv2 dX0_setSeen_28 ?_
      refine V_icmp_ge hc dX0_setSeen_29 rfl (fun hq29 => ?_) (fun hq29 => ?_)
      · rw [if_pos hq29] at hf
        obtain rfl := Option.some.inj hf
        exact V_sub [] rfl hx0
      · rw [if_neg hq29] at hf
        refine V_aload_n hc dX0_setSeen_32 rfl 0 rfl ?_
        obtain ⟨a3, ha3, hf⟩ := mb hf
        refine C_getr hc rfl iW0 (by decide) 3 (by decide) rfl ha3 w2_158 dX0_setSeen_33 ?_
        refine V_iload_n hc dX0_setSeen_36 rfl 2 rfl ?_
        refine V_aload_n hc dX0_setSeen_37 rfl 1 rfl ?_
        refine V_iconst hc (v := (2 : Int32)) dX0_setSeen_38 rfl ?_
        refine V_iload_n hc dX0_setSeen_39 rfl 2 rfl ?_
        refine V_imul hc dX0_setSeen_40 ?_
        obtain ⟨v4, hv4, hf⟩ := mb hf
        refine C_iald hc hT hv4 dX0_setSeen_41 ?_
        obtain ⟨S5, hS5, hf⟩ := mb hf
        refine C_iast hc hT hS5 dX0_setSeen_42 ?_
        refine V_aload_n hc dX0_setSeen_43 rfl 0 rfl ?_
        obtain ⟨a6, ha6, hf⟩ := mb hf
        refine C_getr hc rfl iW0 (by decide) 4 (by decide) rfl ha6 w2_159 dX0_setSeen_44 ?_
        refine V_iload_n hc dX0_setSeen_47 rfl 2 rfl ?_
        refine V_aload_n hc dX0_setSeen_48 rfl 1 rfl ?_
        refine V_iconst hc (v := (2 : Int32)) dX0_setSeen_49 rfl ?_
        refine V_iload_n hc dX0_setSeen_50 rfl 2 rfl ?_
        refine V_imul hc dX0_setSeen_51 ?_
        refine V_iconst hc (v := (1 : Int32)) dX0_setSeen_52 rfl ?_
        refine V_iadd hc dX0_setSeen_53 ?_
        obtain ⟨v7, hv7, hf⟩ := mb hf
        refine C_iald hc hT hv7 dX0_setSeen_54 ?_
        obtain ⟨S8, hS8, hf⟩ := mb hf
        refine C_iast hc hT hS8 dX0_setSeen_55 ?_
        refine V_iinc hc (j := 2) (v := (i3 + (1 : Int32))) dX0_setSeen_56 rfl rfl (by decide) rfl ?_
        refine V_goto hc dX0_setSeen_59 rfl ?_
        exact V_sub [1, 2, 0] rfl (ih _ _ hf hx0)
set_option maxHeartbeats 4000000 in
set_option maxRecDepth 100000 in
theorem c0_setSeen (l : Launch) (D : va_G) (y : CyT) (zM uM : Nat) {S S' : CS} {h : Nat} {p1 : Nat} {p2 : Int32} (hf : f0_setSeen S h p1 p2 = some S') : CT l D y yX0_setSeen cX0_setSeen 4 none 1 21 zM uM [.ref h, .ref p1, .int p2] (cZ S) (cU S) (cw y S) (cZ S') (cU S') (cw y S') none := by
  refine CT.of (by decide) (Nat.le_of_ble_eq_true rfl) (fun E hc hzz hnm => ?_)
  have hc : Cx E "FarEditors$Comings" cX0_setSeen 4 := hc
  have hz := hzz.1
  have hT := hz.2.2.1
  show V E (cZ S) (cU S) (cw y S) 0 [(0, .ref h), (1, .ref p1), (2, .int p2)] []
  unfold f0_setSeen at hf
  refine V_aload_n hc dX0_setSeen_0 rfl 0 rfl ?_
  refine V_iload_n hc dX0_setSeen_1 rfl 2 rfl ?_
  refine V_iconst hc (v := (2 : Int32)) dX0_setSeen_2 rfl ?_
  refine V_idiv hc dX0_setSeen_3 (by decide) ?_
  refine V_bipush hc (v := (16 : Int32)) dX0_setSeen_4 rfl ?_
  refine C_min hc hz w5_129 w3_194 w1_18 w3_195 ⟨(Nat.le_of_ble_eq_true rfl), (Nat.le_of_ble_eq_true rfl)⟩ (Nat.le_of_ble_eq_true rfl) dX0_setSeen_6 ?_
  obtain ⟨S1, hS1, hf⟩ := mb hf
  refine C_puti hc rfl iW0 tyX0 tyX0_ok nmX0 (by decide) 8 (by decide) rfl hS1 w2_164 rfl rfl rfl dX0_setSeen_9 ?_
  refine V_iconst hc (v := (0 : Int32)) dX0_setSeen_12 rfl ?_
  refine V_istore_n hc dX0_setSeen_13 rfl (by decide) rfl ?_
  obtain ⟨S2, hv3, hf⟩ := mb hf
  refine V_sub [1, 2, 0] rfl (LX0_setSeen_14_ok hc h p1 hz FU _ _ hv3 ?_)
  obtain rfl := Option.some.inj hf
  exact V_vret hc hzz rfl rfl rfl rfl dX0_setSeen_62
noncomputable def LX0_isFit_2 (h : Nat) (c1 : Int32) (S : CS) : Nat → Int32 → Option (Nat)
  | 0, _ => none
  | n + 1, i2 =>
    (gi S 0 h 8).bind fun v1 =>
    if v1 ≤ i2 then (
      some 1
    ) else (
      (gr S 0 h 0).bind fun a2 =>
      (ldr S 18 a2 c1).bind fun a3 =>
      (gr S 0 h 3).bind fun a4 =>
      (ldi S a4 i2).bind fun v5 =>
      (cal S 7 a3 (f7_letterAt S a3 v5)).bind fun v6 =>
      (gr S 0 h 4).bind fun a7 =>
      (ldi S a7 i2).bind fun v8 =>
      if v6 = v8 then (
        LX0_isFit_2 h c1 S n (i2 + (1 : Int32))
      ) else (
        some 0
      )
    )
noncomputable def f0_isFit (S : CS) (h : Nat) (p1 : Int32) : Option (Int32) :=
  (LX0_isFit_2 h p1 S FU (0 : Int32)).bind fun t1 =>
  if t1 = 0 then (
    some (0 : Int32)
  ) else (
    some (1 : Int32)
  )
theorem hdX_X0_isFit : yX0_isFit.cls = "FarEditors$Comings" ∧ yX0_isFit.cls ≠ "java/lang/invoke/MethodHandle" ∧ yX0_isFit.cls ≠ "java/lang/invoke/VarHandle" ∧ (parseMethodDescriptor yX0_isFit.desc).map (fun d => d.parameters.length) = some 1 := by decide +kernel
set_option maxHeartbeats 4000000 in
set_option maxRecDepth 100000 in
theorem LX0_isFit_2_ok {E : CxT} {l : Launch} {D : va_G} {y : CyT} {zM uM : Nat} (hc : Cx E "FarEditors$Comings" cX0_isFit 3) (h : Nat) (c1 : Int32) (S : CS) (hz : Cy E l D y 2 42 zM uM) : ∀ (n : Nat) (i2 : Int32) {t : Nat}, LX0_isFit_2 h c1 S n i2 = some t → (hx0 : t = 0 → V E (cZ S) (cU S) (cw y S) 34 [] []) → (hx1 : t = 1 → V E (cZ S) (cU S) (cw y S) 42 [] []) → V E (cZ S) (cU S) (cw y S) 2 [(0, .ref h), (1, .int c1), (2, .int i2)] [] := by
  have hT := hz.2.2.1
  intro n
  induction n with
  | zero => intro i2 t hf; cases hf
  | succ n ih =>
    intro i2 t hf hx0 hx1
    unfold LX0_isFit_2 at hf
    refine V_iload_n hc dX0_isFit_2 rfl 2 rfl ?_
    refine V_aload_n hc dX0_isFit_3 rfl 0 rfl ?_
    obtain ⟨v1, hv1, hf⟩ := mb hf
    refine C_geti hc rfl iW0 (by decide) 8 (by decide) rfl hv1 w2_164 dX0_isFit_4 ?_
    refine V_icmp_ge hc dX0_isFit_7 rfl (fun hq7 => ?_) (fun hq7 => ?_)
    · rw [if_pos hq7] at hf
      obtain rfl := Option.some.inj hf
      exact V_sub [] rfl (hx1 rfl)
    · rw [if_neg hq7] at hf
      refine V_aload_n hc dX0_isFit_10 rfl 0 rfl ?_
      obtain ⟨a2, ha2, hf⟩ := mb hf
      refine C_getr hc rfl iW0 (by decide) 0 (by decide) rfl ha2 w2_154 dX0_isFit_11 ?_
      refine V_iload_n hc dX0_isFit_14 rfl 1 rfl ?_
      obtain ⟨a3, ha3, hf⟩ := mb hf
      refine C_aald hc hT (by decide) (by decide) ha3 dX0_isFit_15 ?_
      refine V_aload_n hc dX0_isFit_16 rfl 0 rfl ?_
      obtain ⟨a4, ha4, hf⟩ := mb hf
      refine C_getr hc rfl iW0 (by decide) 3 (by decide) rfl ha4 w2_158 dX0_isFit_17 ?_
      refine V_iload_n hc dX0_isFit_20 rfl 2 rfl ?_
      obtain ⟨v5, hv5, hf⟩ := mb hf
      refine C_iald hc hT hv5 dX0_isFit_21 ?_
      obtain ⟨v6, hv6, hf⟩ := mb hf
      obtain ⟨hkv6, hv6⟩ := og hv6
      refine C_callV hc hz (As := [.int v5]) hkv6 (by decide) (c7_letterAt l D y _ _ hv6) w5_142 w4_156 w4_157 w1_7 w4_158 hdX_X7_letterAt ⟨(Nat.le_of_ble_eq_true rfl), (Nat.le_of_ble_eq_true rfl)⟩ rfl rfl rfl (Nat.le_of_ble_eq_true rfl) dX0_isFit_22 ?_
      refine V_aload_n hc dX0_isFit_25 rfl 0 rfl ?_
      obtain ⟨a7, ha7, hf⟩ := mb hf
      refine C_getr hc rfl iW0 (by decide) 4 (by decide) rfl ha7 w2_159 dX0_isFit_26 ?_
      refine V_iload_n hc dX0_isFit_29 rfl 2 rfl ?_
      obtain ⟨v8, hv8, hf⟩ := mb hf
      refine C_iald hc hT hv8 dX0_isFit_30 ?_
      refine V_icmp_eq hc dX0_isFit_31 rfl (fun hq31 => ?_) (fun hq31 => ?_)
      · rw [if_pos hq31] at hf
        refine V_iinc hc (j := 2) (v := (i2 + (1 : Int32))) dX0_isFit_36 rfl rfl (by decide) rfl ?_
        refine V_goto hc dX0_isFit_39 rfl ?_
        exact V_sub [1, 2, 0] rfl (ih _ hf hx0 hx1)
      · rw [if_neg hq31] at hf
        obtain rfl := Option.some.inj hf
        exact V_sub [] rfl (hx0 rfl)
set_option maxHeartbeats 4000000 in
set_option maxRecDepth 100000 in
theorem c0_isFit (l : Launch) (D : va_G) (y : CyT) (zM uM : Nat) {S : CS} {h : Nat} {p1 : Int32} {r : Int32} (hf : f0_isFit S h p1 = some r) : CT l D y yX0_isFit cX0_isFit 3 (some .boolean) 2 42 zM uM [.ref h, .int p1] (cZ S) (cU S) (cw y S) (cZ S) (cU S) (cw y S) (some (.int r)) := by
  refine CT.of (by decide) (Nat.le_of_ble_eq_true rfl) (fun E hc hzz hnm => ?_)
  have hc : Cx E "FarEditors$Comings" cX0_isFit 3 := hc
  have hz := hzz.1
  have hT := hz.2.2.1
  show V E (cZ S) (cU S) (cw y S) 0 [(0, .ref h), (1, .int p1)] []
  unfold f0_isFit at hf
  refine V_iconst hc (v := (0 : Int32)) dX0_isFit_0 rfl ?_
  refine V_istore_n hc dX0_isFit_1 rfl (by decide) rfl ?_
  obtain ⟨t1, hv2, hf⟩ := mb hf
  refine V_sub [1, 2, 0] rfl (LX0_isFit_2_ok hc h p1 S hz FU _ hv2 (fun ht2_0 => ?_) (fun ht2_1 => ?_))
  · rw [if_pos ht2_0] at hf
    refine V_iconst hc (v := (0 : Int32)) dX0_isFit_34 rfl ?_
    obtain rfl := Option.some.inj hf
    exact V_iret hc hzz rfl rfl rfl rfl rfl dX0_isFit_35
  · rw [if_neg (by rw [ht2_1]; decide)] at hf
    refine V_iconst hc (v := (1 : Int32)) dX0_isFit_42 rfl ?_
    obtain rfl := Option.some.inj hf
    exact V_iret hc hzz rfl rfl rfl rfl rfl dX0_isFit_43
noncomputable def LX0_countFits_4 (h : Nat) (S : CS) : Nat → Int32 → Int32 → Option (Int32)
  | 0, _, _ => none
  | n + 1, i1, i2 =>
    (gi S 0 h 7).bind fun v1 =>
    if v1 ≤ i2 then (
      some i1
    ) else (
      (cal S 0 h (f0_isFit S h i2)).bind fun v2 =>
      (
        if v2 = 0 then (
          some (0 : Int32)
        ) else (
          some (1 : Int32)
        )
      ).bind fun v3 =>
      LX0_countFits_4 h S n (i1 + v3) (i2 + (1 : Int32))
    )
noncomputable def f0_countFits (S : CS) (h : Nat) : Option (Int32) :=
  (LX0_countFits_4 h S FU (0 : Int32) (0 : Int32)).bind fun x1 =>
  some x1
theorem hdX_X0_countFits : yX0_countFits.cls = "FarEditors$Comings" ∧ yX0_countFits.cls ≠ "java/lang/invoke/MethodHandle" ∧ yX0_countFits.cls ≠ "java/lang/invoke/VarHandle" ∧ (parseMethodDescriptor yX0_countFits.desc).map (fun d => d.parameters.length) = some 0 := by decide +kernel
set_option maxHeartbeats 4000000 in
set_option maxRecDepth 100000 in
theorem LX0_countFits_4_ok {E : CxT} {l : Launch} {D : va_G} {y : CyT} {zM uM : Nat} (hc : Cx E "FarEditors$Comings" cX0_countFits 3) (h : Nat) (S : CS) (hz : Cy E l D y 3 64 zM uM) : ∀ (n : Nat) (i1 : Int32) (i2 : Int32) {o1 : Int32}, LX0_countFits_4 h S n i1 i2 = some o1 → (hx0 : V E (cZ S) (cU S) (cw y S) 34 [(1, .int o1)] []) → V E (cZ S) (cU S) (cw y S) 4 [(0, .ref h), (1, .int i1), (2, .int i2)] [] := by
  have hT := hz.2.2.1
  intro n
  induction n with
  | zero => intro i1 i2 o1 hf; cases hf
  | succ n ih =>
    intro i1 i2 o1 hf hx0
    unfold LX0_countFits_4 at hf
    refine V_iload_n hc dX0_countFits_4 rfl 2 rfl ?_
    refine V_aload_n hc dX0_countFits_5 rfl 0 rfl ?_
    obtain ⟨v1, hv1, hf⟩ := mb hf
    refine C_geti hc rfl iW0 (by decide) 7 (by decide) rfl hv1 w2_162 dX0_countFits_6 ?_
    refine V_icmp_ge hc dX0_countFits_9 rfl (fun hq9 => ?_) (fun hq9 => ?_)
    · rw [if_pos hq9] at hf
      obtain rfl := Option.some.inj hf
      exact V_sub [1] rfl hx0
    · rw [if_neg hq9] at hf
      refine V_iload_n hc dX0_countFits_12 rfl 1 rfl ?_
      refine V_aload_n hc dX0_countFits_13 rfl 0 rfl ?_
      refine V_iload_n hc dX0_countFits_14 rfl 2 rfl ?_
      obtain ⟨v2, hv2, hf⟩ := mb hf
      obtain ⟨hkv2, hv2⟩ := og hv2
      refine C_callV hc hz (As := [.int i2]) hkv2 (by decide) (c0_isFit l D y _ _ hv2) w5_138 w5_140 wp3_10 w1_12 w5_141 hdX_X0_isFit ⟨(Nat.le_of_ble_eq_true rfl), (Nat.le_of_ble_eq_true rfl)⟩ rfl rfl rfl (Nat.le_of_ble_eq_true rfl) dX0_countFits_15 ?_
      obtain ⟨v3, hv4, hf⟩ := mb hf
      have hJ18 : V E (cZ S) (cU S) (cw y S) 26 [(0, .ref h), (2, .int i2)] [.int v3, .int i1] := by
        refine V_iadd hc dX0_countFits_26 ?_
        refine V_istore_n hc dX0_countFits_27 rfl (by decide) rfl ?_
        refine V_iinc hc (j := 2) (v := (i2 + (1 : Int32))) dX0_countFits_28 rfl rfl (by decide) rfl ?_
        refine V_goto hc dX0_countFits_31 rfl ?_
        exact V_sub [2, 1, 0] rfl (ih _ _ hf hx0)
      refine V_if_eq hc dX0_countFits_18 rfl (fun hq18 => ?_) (fun hq18 => ?_)
      · rw [if_pos hq18] at hv4
        refine V_iconst hc (v := (0 : Int32)) dX0_countFits_25 rfl ?_
        obtain rfl := Option.some.inj hv4
        exact V_sub [0, 2] rfl hJ18
      · rw [if_neg hq18] at hv4
        refine V_iconst hc (v := (1 : Int32)) dX0_countFits_21 rfl ?_
        refine V_goto hc dX0_countFits_22 rfl ?_
        obtain rfl := Option.some.inj hv4
        exact V_sub [0, 2] rfl hJ18
set_option maxHeartbeats 4000000 in
set_option maxRecDepth 100000 in
theorem c0_countFits (l : Launch) (D : va_G) (y : CyT) (zM uM : Nat) {S : CS} {h : Nat} {r : Int32} (hf : f0_countFits S h = some r) : CT l D y yX0_countFits cX0_countFits 3 (some .int) 3 64 zM uM [.ref h] (cZ S) (cU S) (cw y S) (cZ S) (cU S) (cw y S) (some (.int r)) := by
  refine CT.of (by decide) (Nat.le_of_ble_eq_true rfl) (fun E hc hzz hnm => ?_)
  have hc : Cx E "FarEditors$Comings" cX0_countFits 3 := hc
  have hz := hzz.1
  have hT := hz.2.2.1
  show V E (cZ S) (cU S) (cw y S) 0 [(0, .ref h)] []
  unfold f0_countFits at hf
  refine V_iconst hc (v := (0 : Int32)) dX0_countFits_0 rfl ?_
  refine V_istore_n hc dX0_countFits_1 rfl (by decide) rfl ?_
  refine V_iconst hc (v := (0 : Int32)) dX0_countFits_2 rfl ?_
  refine V_istore_n hc dX0_countFits_3 rfl (by decide) rfl ?_
  obtain ⟨x1, hv2, hf⟩ := mb hf
  refine V_sub [2, 1, 0] rfl (LX0_countFits_4_ok hc h S hz FU _ _ hv2 ?_)
  refine V_iload_n hc dX0_countFits_34 rfl 0 rfl ?_
  obtain rfl := Option.some.inj hf
  exact V_iret hc hzz rfl rfl rfl rfl rfl dX0_countFits_35
noncomputable def LX0_findFit_4 (h : Nat) (c1 : Int32) (S : CS) : Nat → Int32 → Int32 → Option (Nat × Int32)
  | 0, _, _ => none
  | n + 1, i2, i3 =>
    (gi S 0 h 7).bind fun v1 =>
    if v1 ≤ i3 then (
      some (1, i3)
    ) else (
      (cal S 0 h (f0_isFit S h i3)).bind fun v2 =>
      if v2 = 0 then (
        LX0_findFit_4 h c1 S n i2 (i3 + (1 : Int32))
      ) else (
        if i2 = c1 then (
          some (0, i3)
        ) else (
          LX0_findFit_4 h c1 S n (i2 + (1 : Int32)) (i3 + (1 : Int32))
        )
      )
    )
noncomputable def f0_findFit (S : CS) (h : Nat) (p1 : Int32) : Option (Int32) :=
  bn2 (LX0_findFit_4 h p1 S FU (0 : Int32) (0 : Int32)) fun t1 x2 =>
  if t1 = 0 then (
    some x2
  ) else (
    some (-1 : Int32)
  )
theorem hdX_X0_findFit : yX0_findFit.cls = "FarEditors$Comings" ∧ yX0_findFit.cls ≠ "java/lang/invoke/MethodHandle" ∧ yX0_findFit.cls ≠ "java/lang/invoke/VarHandle" ∧ (parseMethodDescriptor yX0_findFit.desc).map (fun d => d.parameters.length) = some 1 := by decide +kernel
set_option maxHeartbeats 4000000 in
set_option maxRecDepth 100000 in
theorem LX0_findFit_4_ok {E : CxT} {l : Launch} {D : va_G} {y : CyT} {zM uM : Nat} (hc : Cx E "FarEditors$Comings" cX0_findFit 4) (h : Nat) (c1 : Int32) (S : CS) (hz : Cy E l D y 3 64 zM uM) : ∀ (n : Nat) (i2 : Int32) (i3 : Int32) {t : Nat} {o3 : Int32}, LX0_findFit_4 h c1 S n i2 i3 = some (t, o3) → (hx0 : t = 0 → V E (cZ S) (cU S) (cw y S) 25 [(3, .int o3)] []) → (hx1 : t = 1 → V E (cZ S) (cU S) (cw y S) 36 [] []) → V E (cZ S) (cU S) (cw y S) 4 [(0, .ref h), (1, .int c1), (2, .int i2), (3, .int i3)] [] := by
  have hT := hz.2.2.1
  intro n
  induction n with
  | zero => intro i2 i3 t o3 hf; cases hf
  | succ n ih =>
    intro i2 i3 t o3 hf hx0 hx1
    unfold LX0_findFit_4 at hf
    refine V_iload_n hc dX0_findFit_4 rfl 3 rfl ?_
    refine V_aload_n hc dX0_findFit_5 rfl 0 rfl ?_
    obtain ⟨v1, hv1, hf⟩ := mb hf
    refine C_geti hc rfl iW0 (by decide) 7 (by decide) rfl hv1 w2_162 dX0_findFit_6 ?_
    refine V_icmp_ge hc dX0_findFit_9 rfl (fun hq9 => ?_) (fun hq9 => ?_)
    · rw [if_pos hq9] at hf
      obtain ⟨rfl, rfl⟩ := si2 hf
      exact V_sub [] rfl (hx1 rfl)
    · rw [if_neg hq9] at hf
      refine V_aload_n hc dX0_findFit_12 rfl 0 rfl ?_
      refine V_iload_n hc dX0_findFit_13 rfl 3 rfl ?_
      obtain ⟨v2, hv2, hf⟩ := mb hf
      obtain ⟨hkv2, hv2⟩ := og hv2
      refine C_callV hc hz (As := [.int i3]) hkv2 (by decide) (c0_isFit l D y _ _ hv2) w5_138 w5_140 wp3_10 w1_12 w5_141 hdX_X0_isFit ⟨(Nat.le_of_ble_eq_true rfl), (Nat.le_of_ble_eq_true rfl)⟩ rfl rfl rfl (Nat.le_of_ble_eq_true rfl) dX0_findFit_14 ?_
      refine V_if_eq hc dX0_findFit_17 rfl (fun hq17 => ?_) (fun hq17 => ?_)
      · rw [if_pos hq17] at hf
        refine V_iinc hc (j := 3) (v := (i3 + (1 : Int32))) dX0_findFit_30 rfl rfl (by decide) rfl ?_
        refine V_goto hc dX0_findFit_33 rfl ?_
        exact V_sub [1, 2, 3, 0] rfl (ih _ _ hf hx0 hx1)
      · rw [if_neg hq17] at hf
        refine V_iload_n hc dX0_findFit_20 rfl 2 rfl ?_
        refine V_iload_n hc dX0_findFit_21 rfl 1 rfl ?_
        refine V_icmp_ne hc dX0_findFit_22 rfl (fun hq22 => ?_) (fun hq22 => ?_)
        · rw [if_neg hq22] at hf
          refine V_iinc hc (j := 2) (v := (i2 + (1 : Int32))) dX0_findFit_27 rfl rfl (by decide) rfl ?_
          refine V_iinc hc (j := 3) (v := (i3 + (1 : Int32))) dX0_findFit_30 rfl rfl (by decide) rfl ?_
          refine V_goto hc dX0_findFit_33 rfl ?_
          exact V_sub [2, 3, 1, 0] rfl (ih _ _ hf hx0 hx1)
        · rw [if_pos hq22] at hf
          obtain ⟨rfl, rfl⟩ := si2 hf
          exact V_sub [3] rfl (hx0 rfl)
set_option maxHeartbeats 4000000 in
set_option maxRecDepth 100000 in
theorem c0_findFit (l : Launch) (D : va_G) (y : CyT) (zM uM : Nat) {S : CS} {h : Nat} {p1 : Int32} {r : Int32} (hf : f0_findFit S h p1 = some r) : CT l D y yX0_findFit cX0_findFit 4 (some .int) 3 64 zM uM [.ref h, .int p1] (cZ S) (cU S) (cw y S) (cZ S) (cU S) (cw y S) (some (.int r)) := by
  refine CT.of (by decide) (Nat.le_of_ble_eq_true rfl) (fun E hc hzz hnm => ?_)
  have hc : Cx E "FarEditors$Comings" cX0_findFit 4 := hc
  have hz := hzz.1
  have hT := hz.2.2.1
  show V E (cZ S) (cU S) (cw y S) 0 [(0, .ref h), (1, .int p1)] []
  unfold f0_findFit at hf
  refine V_iconst hc (v := (0 : Int32)) dX0_findFit_0 rfl ?_
  refine V_istore_n hc dX0_findFit_1 rfl (by decide) rfl ?_
  refine V_iconst hc (v := (0 : Int32)) dX0_findFit_2 rfl ?_
  refine V_istore_n hc dX0_findFit_3 rfl (by decide) rfl ?_
  obtain ⟨t1, x2, hv3, hf⟩ := mb2 hf
  refine V_sub [2, 3, 1, 0] rfl (LX0_findFit_4_ok hc h p1 S hz FU _ _ hv3 (fun ht4_0 => ?_) (fun ht4_1 => ?_))
  · rw [if_pos ht4_0] at hf
    refine V_iload_n hc dX0_findFit_25 rfl 0 rfl ?_
    obtain rfl := Option.some.inj hf
    exact V_iret hc hzz rfl rfl rfl rfl rfl dX0_findFit_26
  · rw [if_neg (by rw [ht4_1]; decide)] at hf
    refine V_iconst hc (v := (-1 : Int32)) dX0_findFit_36 rfl ?_
    obtain rfl := Option.some.inj hf
    exact V_iret hc hzz rfl rfl rfl rfl rfl dX0_findFit_37
noncomputable def LJ7_fill_53178_5 (c0 : Nat) (c1 : Int32) (c3 : Int32) : Nat → Int32 → CS → Option (CS)
  | 0, _, _ => none
  | n + 1, i2, S =>
    if c3 ≤ i2 then (
      some S
    ) else (
      (sti S c0 i2 c1).bind fun S1 =>
      LJ7_fill_53178_5 c0 c1 c3 n (i2 + (1 : Int32)) S1
    )
noncomputable def f7_fill_53178 (S : CS) (p1 : Nat) (p2 : Int32) : Option (CS) :=
  (aln S 14 p1).bind fun v1 =>
  (LJ7_fill_53178_5 p1 p2 v1 FU (0 : Int32) S).bind fun S2 =>
  some S2
theorem hdX_J7_fill_53178 : yJ7_fill_53178.cls = "java/util/Arrays" ∧ yJ7_fill_53178.cls ≠ "java/lang/invoke/MethodHandle" ∧ yJ7_fill_53178.cls ≠ "java/lang/invoke/VarHandle" ∧ (parseMethodDescriptor yJ7_fill_53178.desc).map (fun d => d.parameters.length) = some 2 := by decide +kernel
set_option maxHeartbeats 4000000 in
set_option maxRecDepth 100000 in
theorem LJ7_fill_53178_5_ok {E : CxT} {l : Launch} {D : va_G} {y : CyT} {zM uM : Nat} (hc : Cx E "java/util/Arrays" cJ7_fill_53178 4) (c0 : Nat) (c1 : Int32) (c3 : Int32) (hz : Cy E l D y 0 0 zM uM) : ∀ (n : Nat) (i2 : Int32) (S : CS) {So : CS}, LJ7_fill_53178_5 c0 c1 c3 n i2 S = some So → (hx0 : V E (cZ So) (cU So) (cw y So) 20 [] []) → V E (cZ S) (cU S) (cw y S) 5 [(0, .ref c0), (1, .int c1), (2, .int i2), (3, .int c3)] [] := by
  have hT := hz.2.2.1
  intro n
  induction n with
  | zero => intro i2 S So hf; cases hf
  | succ n ih =>
    intro i2 S So hf hx0
    unfold LJ7_fill_53178_5 at hf
    refine V_iload_n hc dJ7_fill_53178_5 rfl 2 rfl ?_
    refine V_iload_n hc dJ7_fill_53178_6 rfl 3 rfl ?_
    refine V_icmp_ge hc dJ7_fill_53178_7 rfl (fun hq7 => ?_) (fun hq7 => ?_)
    · rw [if_pos hq7] at hf
      obtain rfl := Option.some.inj hf
      exact V_sub [] rfl hx0
    · rw [if_neg hq7] at hf
      refine V_aload_n hc dJ7_fill_53178_10 rfl 0 rfl ?_
      refine V_iload_n hc dJ7_fill_53178_11 rfl 2 rfl ?_
      refine V_iload_n hc dJ7_fill_53178_12 rfl 1 rfl ?_
      obtain ⟨S1, hS1, hf⟩ := mb hf
      refine C_iast hc hT hS1 dJ7_fill_53178_13 ?_
      refine V_iinc hc (j := 2) (v := (i2 + (1 : Int32))) dJ7_fill_53178_14 rfl rfl (by decide) rfl ?_
      refine V_goto hc dJ7_fill_53178_17 rfl ?_
      exact V_sub [1, 2, 0, 3] rfl (ih _ _ hf hx0)
set_option maxHeartbeats 4000000 in
set_option maxRecDepth 100000 in
theorem c7_fill_53178 (l : Launch) (D : va_G) (y : CyT) (zM uM : Nat) {S S' : CS} {p1 : Nat} {p2 : Int32} (hf : f7_fill_53178 S p1 p2 = some S') : CT l D y yJ7_fill_53178 cJ7_fill_53178 4 none 0 0 zM uM [.ref p1, .int p2] (cZ S) (cU S) (cw y S) (cZ S') (cU S') (cw y S') none := by
  refine CT.of (by decide) (Nat.le_of_ble_eq_true rfl) (fun E hc hzz hnm => ?_)
  have hc : Cx E "java/util/Arrays" cJ7_fill_53178 4 := hc
  have hz := hzz.1
  have hT := hz.2.2.1
  show V E (cZ S) (cU S) (cw y S) 0 [(0, .ref p1), (1, .int p2)] []
  unfold f7_fill_53178 at hf
  refine V_iconst hc (v := (0 : Int32)) dJ7_fill_53178_0 rfl ?_
  refine V_istore_n hc dJ7_fill_53178_1 rfl (by decide) rfl ?_
  refine V_aload_n hc dJ7_fill_53178_2 rfl 1 rfl ?_
  obtain ⟨v1, hv1, hf⟩ := mb hf
  refine C_alen hc hT hv1 dJ7_fill_53178_3 ?_
  refine V_istore_n hc dJ7_fill_53178_4 rfl (by decide) rfl ?_
  obtain ⟨S2, hv3, hf⟩ := mb hf
  refine V_sub [2, 3, 1, 0] rfl (LJ7_fill_53178_5_ok hc p1 p2 v1 hz FU _ _ hv3 ?_)
  obtain rfl := Option.some.inj hf
  exact V_vret hc hzz rfl rfl rfl rfl dJ7_fill_53178_20
noncomputable def LX0_countMostLeft_12 (h : Nat) (c1 : Int32) : Nat → Int32 → Int32 → CS → Option (Int32 × CS)
  | 0, _, _, _ => none
  | n + 1, i2, i3, S =>
    (gi S 0 h 7).bind fun v1 =>
    if v1 ≤ i3 then (
      some (i2, S)
    ) else (
      (gr S 0 h 0).bind fun a2 =>
      (ldr S 18 a2 i3).bind fun a3 =>
      (cal S 7 a3 (f7_letterAt S a3 c1)).bind fun v4 =>
      (gr S 0 h 5).bind fun a5 =>
      (aln S 14 a5).bind fun v6 =>
      bn2 (
        if v6 ≤ v4 then (
          some (i2, S)
        ) else (
          (cal S 0 h (f0_isFit S h i3)).bind fun v10 =>
          if v10 = 0 then (
            some (i2, S)
          ) else (
            (gr S 0 h 5).bind fun a11 =>
            (ldi S a11 v4).bind fun v12 =>
            (sti S a11 v4 (v12 + (1 : Int32))).bind fun S13 =>
            (gr S13 0 h 5).bind fun a14 =>
            (ldi S13 a14 v4).bind fun v15 =>
            some ((if i2 < v15 then v15 else i2), S13)
          )
        )
      ) fun x7 S8 =>
      LX0_countMostLeft_12 h c1 n x7 (i3 + (1 : Int32)) S8
    )
noncomputable def f0_countMostLeft (S : CS) (h : Nat) (p1 : Int32) : Option (Int32 × CS) :=
  (gr S 0 h 5).bind fun a1 =>
  (f7_fill_53178 S a1 (0 : Int32)).bind fun S2 =>
  bn2 (LX0_countMostLeft_12 h p1 FU (0 : Int32) (0 : Int32) S2) fun x3 S4 =>
  some (x3, S4)
theorem hdX_X0_countMostLeft : yX0_countMostLeft.cls = "FarEditors$Comings" ∧ yX0_countMostLeft.cls ≠ "java/lang/invoke/MethodHandle" ∧ yX0_countMostLeft.cls ≠ "java/lang/invoke/VarHandle" ∧ (parseMethodDescriptor yX0_countMostLeft.desc).map (fun d => d.parameters.length) = some 1 := by decide +kernel
set_option maxHeartbeats 4000000 in
set_option maxRecDepth 100000 in
theorem LX0_countMostLeft_12_ok {E : CxT} {l : Launch} {D : va_G} {y : CyT} {zM uM : Nat} (hc : Cx E "FarEditors$Comings" cX0_countMostLeft 5) (h : Nat) (c1 : Int32) (hz : Cy E l D y 3 64 zM uM) : ∀ (n : Nat) (i2 : Int32) (i3 : Int32) (S : CS) {o2 : Int32} {So : CS}, LX0_countMostLeft_12 h c1 n i2 i3 S = some (o2, So) → (hx0 : V E (cZ So) (cU So) (cw y So) 79 [(2, .int o2)] []) → V E (cZ S) (cU S) (cw y S) 12 [(0, .ref h), (1, .int c1), (2, .int i2), (3, .int i3)] [] := by
  have hT := hz.2.2.1
  intro n
  induction n with
  | zero => intro i2 i3 S o2 So hf; cases hf
  | succ n ih =>
    intro i2 i3 S o2 So hf hx0
    unfold LX0_countMostLeft_12 at hf
    refine V_iload_n hc dX0_countMostLeft_12 rfl 3 rfl ?_
    refine V_aload_n hc dX0_countMostLeft_13 rfl 0 rfl ?_
    obtain ⟨v1, hv1, hf⟩ := mb hf
    refine C_geti hc rfl iW0 (by decide) 7 (by decide) rfl hv1 w2_162 dX0_countMostLeft_14 ?_
    refine V_icmp_ge hc dX0_countMostLeft_17 rfl (fun hq17 => ?_) (fun hq17 => ?_)
    · rw [if_pos hq17] at hf
      obtain ⟨rfl, rfl⟩ := si2 hf
      exact V_sub [2] rfl hx0
    · rw [if_neg hq17] at hf
      refine V_aload_n hc dX0_countMostLeft_20 rfl 0 rfl ?_
      obtain ⟨a2, ha2, hf⟩ := mb hf
      refine C_getr hc rfl iW0 (by decide) 0 (by decide) rfl ha2 w2_154 dX0_countMostLeft_21 ?_
      refine V_iload_n hc dX0_countMostLeft_24 rfl 3 rfl ?_
      obtain ⟨a3, ha3, hf⟩ := mb hf
      refine C_aald hc hT (by decide) (by decide) ha3 dX0_countMostLeft_25 ?_
      refine V_iload_n hc dX0_countMostLeft_26 rfl 1 rfl ?_
      obtain ⟨v4, hv4, hf⟩ := mb hf
      obtain ⟨hkv4, hv4⟩ := og hv4
      refine C_callV hc hz (As := [.int c1]) hkv4 (by decide) (c7_letterAt l D y _ _ hv4) w5_142 w4_156 w4_157 w1_7 w4_158 hdX_X7_letterAt ⟨(Nat.le_of_ble_eq_true rfl), (Nat.le_of_ble_eq_true rfl)⟩ rfl rfl rfl (Nat.le_of_ble_eq_true rfl) dX0_countMostLeft_27 ?_
      refine V_istore hc dX0_countMostLeft_30 (by decide) rfl ?_
      refine V_iload hc dX0_countMostLeft_32 0 rfl ?_
      refine V_aload_n hc dX0_countMostLeft_34 rfl 1 rfl ?_
      obtain ⟨a5, ha5, hf⟩ := mb hf
      refine C_getr hc rfl iW0 (by decide) 5 (by decide) rfl ha5 w2_160 dX0_countMostLeft_35 ?_
      obtain ⟨v6, hv6, hf⟩ := mb hf
      refine C_alen hc hT hv6 dX0_countMostLeft_38 ?_
      obtain ⟨x7, S8, hv9, hf⟩ := mb2 hf
      have hJ39 : V E (cZ S8) (cU S8) (cw y S8) 73 [(0, .ref h), (1, .int c1), (2, .int x7), (3, .int i3)] [] := by
        refine V_iinc hc (j := 3) (v := (i3 + (1 : Int32))) dX0_countMostLeft_73 rfl rfl (by decide) rfl ?_
        refine V_goto hc dX0_countMostLeft_76 rfl ?_
        exact V_sub [1, 2, 3, 0] rfl (ih _ _ _ hf hx0)
      refine V_icmp_ge hc dX0_countMostLeft_39 rfl (fun hq39 => ?_) (fun hq39 => ?_)
      · rw [if_pos hq39] at hv9
        obtain ⟨rfl, rfl⟩ := si2 hv9
        exact V_sub [1, 2, 3, 4] rfl hJ39
      · rw [if_neg hq39] at hv9
        refine V_aload_n hc dX0_countMostLeft_42 rfl 1 rfl ?_
        refine V_iload_n hc dX0_countMostLeft_43 rfl 4 rfl ?_
        obtain ⟨v10, hv10, hv9⟩ := mb hv9
        obtain ⟨hkv10, hv10⟩ := og hv10
        refine C_callV hc hz (As := [.int i3]) hkv10 (by decide) (c0_isFit l D y _ _ hv10) w5_138 w5_140 wp3_10 w1_12 w5_141 hdX_X0_isFit ⟨(Nat.le_of_ble_eq_true rfl), (Nat.le_of_ble_eq_true rfl)⟩ rfl rfl rfl (Nat.le_of_ble_eq_true rfl) dX0_countMostLeft_44 ?_
        refine V_if_eq hc dX0_countMostLeft_47 rfl (fun hq47 => ?_) (fun hq47 => ?_)
        · rw [if_pos hq47] at hv9
          obtain ⟨rfl, rfl⟩ := si2 hv9
          exact V_sub [1, 2, 3, 4] rfl hJ39
        · rw [if_neg hq47] at hv9
          refine V_aload_n hc dX0_countMostLeft_50 rfl 1 rfl ?_
          obtain ⟨a11, ha11, hv9⟩ := mb hv9
          refine C_getr hc rfl iW0 (by decide) 5 (by decide) rfl ha11 w2_160 dX0_countMostLeft_51 ?_
          refine V_iload hc dX0_countMostLeft_54 0 rfl ?_
          refine V_dup2 hc dX0_countMostLeft_56 rfl rfl ?_
          obtain ⟨v12, hv12, hv9⟩ := mb hv9
          refine C_iald hc hT hv12 dX0_countMostLeft_57 ?_
          refine V_iconst hc (v := (1 : Int32)) dX0_countMostLeft_58 rfl ?_
          refine V_iadd hc dX0_countMostLeft_59 ?_
          obtain ⟨S13, hS13, hv9⟩ := mb hv9
          refine C_iast hc hT hS13 dX0_countMostLeft_60 ?_
          refine V_iload_n hc dX0_countMostLeft_61 rfl 3 rfl ?_
          refine V_aload_n hc dX0_countMostLeft_62 rfl 1 rfl ?_
          obtain ⟨a14, ha14, hv9⟩ := mb hv9
          refine C_getr hc rfl iW0 (by decide) 5 (by decide) rfl ha14 w2_160 dX0_countMostLeft_63 ?_
          refine V_iload hc dX0_countMostLeft_66 0 rfl ?_
          obtain ⟨v15, hv15, hv9⟩ := mb hv9
          refine C_iald hc hT hv15 dX0_countMostLeft_68 ?_
          refine C_max hc hz w5_162 w4_25 w1_18 w4_26 ⟨(Nat.le_of_ble_eq_true rfl), (Nat.le_of_ble_eq_true rfl)⟩ (Nat.le_of_ble_eq_true rfl) dX0_countMostLeft_69 ?_
          refine V_istore_n hc dX0_countMostLeft_72 rfl (by decide) rfl ?_
          obtain ⟨rfl, rfl⟩ := si2 hv9
          exact V_sub [2, 3, 0, 4] rfl hJ39
set_option maxHeartbeats 4000000 in
set_option maxRecDepth 100000 in
theorem c0_countMostLeft (l : Launch) (D : va_G) (y : CyT) (zM uM : Nat) {S S' : CS} {h : Nat} {p1 : Int32} {r : Int32} (hf : f0_countMostLeft S h p1 = some (r, S')) : CT l D y yX0_countMostLeft cX0_countMostLeft 5 (some .int) 3 64 zM uM [.ref h, .int p1] (cZ S) (cU S) (cw y S) (cZ S') (cU S') (cw y S') (some (.int r)) := by
  refine CT.of (by decide) (Nat.le_of_ble_eq_true rfl) (fun E hc hzz hnm => ?_)
  have hc : Cx E "FarEditors$Comings" cX0_countMostLeft 5 := hc
  have hz := hzz.1
  have hT := hz.2.2.1
  show V E (cZ S) (cU S) (cw y S) 0 [(0, .ref h), (1, .int p1)] []
  unfold f0_countMostLeft at hf
  refine V_aload_n hc dX0_countMostLeft_0 rfl 0 rfl ?_
  obtain ⟨a1, ha1, hf⟩ := mb hf
  refine C_getr hc rfl iW0 (by decide) 5 (by decide) rfl ha1 w2_160 dX0_countMostLeft_1 ?_
  refine V_iconst hc (v := (0 : Int32)) dX0_countMostLeft_4 rfl ?_
  obtain ⟨S2, hS2, hf⟩ := mb hf
  refine V_callSX hc hz (As := [.ref a1, .int (0 : Int32)]) (c7_fill_53178 l D y _ _ hS2) w5_159 w5_160 w1_20 w5_161 hdX_J7_fill_53178.2 ⟨(Nat.le_of_ble_eq_true rfl), (Nat.le_of_ble_eq_true rfl)⟩ rfl rfl (Nat.le_of_ble_eq_true rfl) dX0_countMostLeft_5 ?_
  refine V_iconst hc (v := (0 : Int32)) dX0_countMostLeft_8 rfl ?_
  refine V_istore_n hc dX0_countMostLeft_9 rfl (by decide) rfl ?_
  refine V_iconst hc (v := (0 : Int32)) dX0_countMostLeft_10 rfl ?_
  refine V_istore_n hc dX0_countMostLeft_11 rfl (by decide) rfl ?_
  obtain ⟨x3, S4, hv5, hf⟩ := mb2 hf
  refine V_sub [2, 3, 1, 0] rfl (LX0_countMostLeft_12_ok hc h p1 hz FU _ _ _ hv5 ?_)
  refine V_iload_n hc dX0_countMostLeft_79 rfl 0 rfl ?_
  obtain ⟨rfl, rfl⟩ := si2 hf
  exact V_iret hc hzz rfl rfl rfl rfl rfl dX0_countMostLeft_80
noncomputable def LX0_findTelling_7 (h : Nat) : Nat → Int32 → Int32 → Int32 → CS → Option (Int32 × CS)
  | 0, _, _, _, _ => none
  | n + 1, i1, i2, i3, S =>
    if (240 : Int32) ≤ i3 then (
      some (i1, S)
    ) else (
      bn2 (cal S 0 h (f0_countMostLeft S h i3)) fun v1 S2 =>
      bn2 (
        if i2 ≤ v1 then (
          some (i1, i2)
        ) else (
          some (i3, v1)
        )
      ) fun x3 x4 =>
      LX0_findTelling_7 h n x3 x4 (i3 + (1 : Int32)) S2
    )
noncomputable def f0_findTelling (S : CS) (h : Nat) : Option (Int32 × CS) :=
  bn2 (LX0_findTelling_7 h FU (0 : Int32) (25 : Int32) (0 : Int32) S) fun x1 S2 =>
  some (x1, S2)
theorem hdX_X0_findTelling : yX0_findTelling.cls = "FarEditors$Comings" ∧ yX0_findTelling.cls ≠ "java/lang/invoke/MethodHandle" ∧ yX0_findTelling.cls ≠ "java/lang/invoke/VarHandle" ∧ (parseMethodDescriptor yX0_findTelling.desc).map (fun d => d.parameters.length) = some 0 := by decide +kernel
set_option maxHeartbeats 4000000 in
set_option maxRecDepth 100000 in
theorem LX0_findTelling_7_ok {E : CxT} {l : Launch} {D : va_G} {y : CyT} {zM uM : Nat} (hc : Cx E "FarEditors$Comings" cX0_findTelling 5) (h : Nat) (hz : Cy E l D y 4 88 zM uM) : ∀ (n : Nat) (i1 : Int32) (i2 : Int32) (i3 : Int32) (S : CS) {o1 : Int32} {So : CS}, LX0_findTelling_7 h n i1 i2 i3 S = some (o1, So) → (hx0 : V E (cZ So) (cU So) (cw y So) 38 [(1, .int o1)] []) → V E (cZ S) (cU S) (cw y S) 7 [(0, .ref h), (1, .int i1), (2, .int i2), (3, .int i3)] [] := by
  have hT := hz.2.2.1
  intro n
  induction n with
  | zero => intro i1 i2 i3 S o1 So hf; cases hf
  | succ n ih =>
    intro i1 i2 i3 S o1 So hf hx0
    unfold LX0_findTelling_7 at hf
    refine V_iload_n hc dX0_findTelling_7 rfl 3 rfl ?_
    refine V_sipush hc (v := (240 : Int32)) dX0_findTelling_8 rfl ?_
    refine V_icmp_ge hc dX0_findTelling_11 rfl (fun hq11 => ?_) (fun hq11 => ?_)
    · rw [if_pos hq11] at hf
      obtain ⟨rfl, rfl⟩ := si2 hf
      exact V_sub [1] rfl hx0
    · rw [if_neg hq11] at hf
      refine V_aload_n hc dX0_findTelling_14 rfl 0 rfl ?_
      refine V_iload_n hc dX0_findTelling_15 rfl 3 rfl ?_
      obtain ⟨v1, S2, hv1, hf⟩ := mb2 hf
      obtain ⟨hkv1, hv1⟩ := og hv1
      refine C_callV hc hz (As := [.int i3]) hkv1 (by decide) (c0_countMostLeft l D y _ _ hv1) w5_155 w5_156 w5_157 w1_12 w5_158 hdX_X0_countMostLeft ⟨(Nat.le_of_ble_eq_true rfl), (Nat.le_of_ble_eq_true rfl)⟩ rfl rfl rfl (Nat.le_of_ble_eq_true rfl) dX0_findTelling_16 ?_
      refine V_istore hc dX0_findTelling_19 (by decide) rfl ?_
      refine V_iload hc dX0_findTelling_21 0 rfl ?_
      refine V_iload_n hc dX0_findTelling_23 rfl 3 rfl ?_
      obtain ⟨x3, x4, hv5, hf⟩ := mb2 hf
      have hJ24 : V E (cZ S2) (cU S2) (cw y S2) 32 [(0, .ref h), (1, .int x3), (2, .int x4), (3, .int i3)] [] := by
        refine V_iinc hc (j := 3) (v := (i3 + (1 : Int32))) dX0_findTelling_32 rfl rfl (by decide) rfl ?_
        refine V_goto hc dX0_findTelling_35 rfl ?_
        exact V_sub [1, 2, 3, 0] rfl (ih _ _ _ _ hf hx0)
      refine V_icmp_ge hc dX0_findTelling_24 rfl (fun hq24 => ?_) (fun hq24 => ?_)
      · rw [if_pos hq24] at hv5
        obtain ⟨rfl, rfl⟩ := si2 hv5
        exact V_sub [1, 2, 3, 4] rfl hJ24
      · rw [if_neg hq24] at hv5
        refine V_iload hc dX0_findTelling_27 0 rfl ?_
        refine V_istore_n hc dX0_findTelling_29 rfl (by decide) rfl ?_
        refine V_iload_n hc dX0_findTelling_30 rfl 4 rfl ?_
        refine V_istore_n hc dX0_findTelling_31 rfl (by decide) rfl ?_
        obtain ⟨rfl, rfl⟩ := si2 hv5
        exact V_sub [3, 0, 1, 4] rfl hJ24
set_option maxHeartbeats 4000000 in
set_option maxRecDepth 100000 in
theorem c0_findTelling (l : Launch) (D : va_G) (y : CyT) (zM uM : Nat) {S S' : CS} {h : Nat} {r : Int32} (hf : f0_findTelling S h = some (r, S')) : CT l D y yX0_findTelling cX0_findTelling 5 (some .int) 4 88 zM uM [.ref h] (cZ S) (cU S) (cw y S) (cZ S') (cU S') (cw y S') (some (.int r)) := by
  refine CT.of (by decide) (Nat.le_of_ble_eq_true rfl) (fun E hc hzz hnm => ?_)
  have hc : Cx E "FarEditors$Comings" cX0_findTelling 5 := hc
  have hz := hzz.1
  have hT := hz.2.2.1
  show V E (cZ S) (cU S) (cw y S) 0 [(0, .ref h)] []
  unfold f0_findTelling at hf
  refine V_iconst hc (v := (0 : Int32)) dX0_findTelling_0 rfl ?_
  refine V_istore_n hc dX0_findTelling_1 rfl (by decide) rfl ?_
  refine V_bipush hc (v := (25 : Int32)) dX0_findTelling_2 rfl ?_
  refine V_istore_n hc dX0_findTelling_4 rfl (by decide) rfl ?_
  refine V_iconst hc (v := (0 : Int32)) dX0_findTelling_5 rfl ?_
  refine V_istore_n hc dX0_findTelling_6 rfl (by decide) rfl ?_
  obtain ⟨x1, S2, hv3, hf⟩ := mb2 hf
  refine V_sub [3, 2, 1, 0] rfl (LX0_findTelling_7_ok hc h hz FU _ _ _ _ hv3 ?_)
  refine V_iload_n hc dX0_findTelling_38 rfl 0 rfl ?_
  obtain ⟨rfl, rfl⟩ := si2 hf
  exact V_iret hc hzz rfl rfl rfl rfl rfl dX0_findTelling_39
noncomputable def f4_init (X : Nat × Nat) (S : CS) (h : Nat) : Option (CS) :=
  (nwa X S 14 (8 : Int32)).bind fun S1 =>
  (pr S1 4 h 0 (cZ S)).bind fun S2 =>
  (pi S2 4 h 1 (0 : Int32)).bind fun S3 =>
  some S3
theorem hdX_X4_init : yX4_init.cls = "FarEditors$Op" ∧ yX4_init.cls ≠ "java/lang/invoke/MethodHandle" ∧ yX4_init.cls ≠ "java/lang/invoke/VarHandle" ∧ (parseMethodDescriptor yX4_init.desc).map (fun d => d.parameters.length) = some 0 := by decide +kernel
set_option maxHeartbeats 4000000 in
set_option maxRecDepth 100000 in
theorem c4_init (l : Launch) (D : va_G) (y : CyT) (X : Nat × Nat) (hX : X.2 ≤ 100000000) {S S' : CS} {h : Nat} (hf : f4_init X S h = some S') : CT l D y yX4_init cX4_init 1 none 1 20 X.1 X.2 [.ref h] (cZ S) (cU S) (cw y S) (cZ S') (cU S') (cw y S') none := by
  refine CT.of (by decide) (Nat.le_of_ble_eq_true rfl) (fun E hc hzz hnm => ?_)
  have hc : Cx E "FarEditors$Op" cX4_init 1 := hc
  have hnm : (xH E).name = "<init>" := hnm
  have hz := hzz.1
  have hT := hz.2.2.1
  show V E (cZ S) (cU S) (cw y S) 0 [(0, .ref h)] []
  unfold f4_init at hf
  refine V_aload_n hc dX4_init_0 rfl 0 rfl ?_
  refine V_objInit hc hz w1_100 w1_27 w1_28 ⟨(Nat.le_of_ble_eq_true rfl), (Nat.le_of_ble_eq_true rfl)⟩ (Nat.le_of_ble_eq_true rfl) dX4_init_1 ?_
  refine V_aload_n hc dX4_init_4 rfl 0 rfl ?_
  refine V_bipush hc (v := (8 : Int32)) dX4_init_5 rfl ?_
  obtain ⟨S1, hS1, hf⟩ := mb hf
  refine C_newi hc hz hS1 hX w1_82 dX4_init_7 ?_
  obtain ⟨S2, hS2, hf⟩ := mb hf
  refine C_putr hc rfl iW4 tyX4 tyX4_ok nmX4 (by decide) 0 (by decide) rfl hS2 w1_101 rfl rfl rfl dX4_init_9 ?_
  refine V_aload_n hc dX4_init_12 rfl 0 rfl ?_
  refine V_iconst hc (v := (0 : Int32)) dX4_init_13 rfl ?_
  obtain ⟨S3, hS3, hf⟩ := mb hf
  refine C_puti hc rfl iW4 tyX4 tyX4_ok nmX4 (by decide) 1 (by decide) rfl hS3 w1_105 rfl rfl rfl dX4_init_14 ?_
  obtain rfl := Option.some.inj hf
  exact V_vret hc hzz rfl rfl rfl rfl dX4_init_17
noncomputable def LX3_init_20 (X : Nat × Nat) (h : Nat) : Nat → Int32 → CS → Option (CS)
  | 0, _, _ => none
  | n + 1, i1, S =>
    (gr S 3 h 0).bind fun a1 =>
    (aln S 17 a1).bind fun v2 =>
    if v2 ≤ i1 then (
      some S
    ) else (
      (gr S 3 h 0).bind fun a3 =>
      (nwo X S 4 2).bind fun S4 =>
      (f4_init X S4 (cZ S)).bind fun S5 =>
      (str S5 17 4 a3 i1 (cZ S)).bind fun S6 =>
      LX3_init_20 X h n (i1 + (1 : Int32)) S6
    )
noncomputable def f3_init (X : Nat × Nat) (S : CS) (h : Nat) : Option (CS) :=
  (nwa X S 17 (8 : Int32)).bind fun S1 =>
  (pr S1 3 h 0 (cZ S)).bind fun S2 =>
  (pi S2 3 h 1 (0 : Int32)).bind fun S3 =>
  (LX3_init_20 X h FU (0 : Int32) S3).bind fun S4 =>
  some S4
theorem hdX_X3_init : yX3_init.cls = "FarEditors$Inverses" ∧ yX3_init.cls ≠ "java/lang/invoke/MethodHandle" ∧ yX3_init.cls ≠ "java/lang/invoke/VarHandle" ∧ (parseMethodDescriptor yX3_init.desc).map (fun d => d.parameters.length) = some 0 := by decide +kernel
set_option maxHeartbeats 4000000 in
set_option maxRecDepth 100000 in
theorem LX3_init_20_ok {E : CxT} {l : Launch} {D : va_G} {y : CyT}  (hc : Cx E "FarEditors$Inverses" cX3_init 2) (X : Nat × Nat) (h : Nat) (hz : Cy E l D y 2 40 X.1 X.2) (hX : X.2 ≤ 100000000) : ∀ (n : Nat) (i1 : Int32) (S : CS) {So : CS}, LX3_init_20 X h n i1 S = some So → (hx0 : V E (cZ So) (cU So) (cw y So) 48 [] []) → V E (cZ S) (cU S) (cw y S) 20 [(0, .ref h), (1, .int i1)] [] := by
  have hT := hz.2.2.1
  intro n
  induction n with
  | zero => intro i1 S So hf; cases hf
  | succ n ih =>
    intro i1 S So hf hx0
    unfold LX3_init_20 at hf
    refine V_iload_n hc dX3_init_20 rfl 1 rfl ?_
    refine V_aload_n hc dX3_init_21 rfl 0 rfl ?_
    obtain ⟨a1, ha1, hf⟩ := mb hf
    refine C_getr hc rfl iW3 (by decide) 0 (by decide) rfl ha1 w1_223 dX3_init_22 ?_
    obtain ⟨v2, hv2, hf⟩ := mb hf
    refine C_alenr hc hT (by decide) (by decide) hv2 dX3_init_25 ?_
    refine V_icmp_ge hc dX3_init_26 rfl (fun hq26 => ?_) (fun hq26 => ?_)
    · rw [if_pos hq26] at hf
      obtain rfl := Option.some.inj hf
      exact V_sub [] rfl hx0
    · rw [if_neg hq26] at hf
      refine V_aload_n hc dX3_init_29 rfl 0 rfl ?_
      obtain ⟨a3, ha3, hf⟩ := mb hf
      refine C_getr hc rfl iW3 (by decide) 0 (by decide) rfl ha3 w1_223 dX3_init_30 ?_
      refine V_iload_n hc dX3_init_33 rfl 1 rfl ?_
      obtain ⟨S4, hS4, hf⟩ := mb hf
      refine C_new hc hz rfl iW4 tyX4 tyX4_ok df4 (by decide) hS4 w1_221 w1_96 w1_5 dX3_init_34 ?_
      refine V_dup hc dX3_init_37 rfl ?_
      obtain ⟨S5, hS5, hf⟩ := mb hf
      refine V_callI hc hz (As := []) (c4_init l D y X hX hS5) w1_222 w1_98 w1_5 w1_99 rfl hdX_X4_init.2 ⟨(Nat.le_of_ble_eq_true rfl), (Nat.le_of_ble_eq_true rfl)⟩ rfl rfl (Nat.le_of_ble_eq_true rfl) dX3_init_38 ?_
      obtain ⟨S6, hS6, hf⟩ := mb hf
      refine C_aast hc hT (by decide) (by decide) rfl rfl (by decide) hS6 dX3_init_41 ?_
      refine V_iinc hc (j := 1) (v := (i1 + (1 : Int32))) dX3_init_42 rfl rfl (by decide) rfl ?_
      refine V_goto hc dX3_init_45 rfl ?_
      exact V_sub [1, 0] rfl (ih _ _ hf hx0)
set_option maxHeartbeats 4000000 in
set_option maxRecDepth 100000 in
theorem c3_init (l : Launch) (D : va_G) (y : CyT) (X : Nat × Nat) (hX : X.2 ≤ 100000000) {S S' : CS} {h : Nat} (hf : f3_init X S h = some S') : CT l D y yX3_init cX3_init 2 none 2 40 X.1 X.2 [.ref h] (cZ S) (cU S) (cw y S) (cZ S') (cU S') (cw y S') none := by
  refine CT.of (by decide) (Nat.le_of_ble_eq_true rfl) (fun E hc hzz hnm => ?_)
  have hc : Cx E "FarEditors$Inverses" cX3_init 2 := hc
  have hnm : (xH E).name = "<init>" := hnm
  have hz := hzz.1
  have hT := hz.2.2.1
  show V E (cZ S) (cU S) (cw y S) 0 [(0, .ref h)] []
  unfold f3_init at hf
  refine V_aload_n hc dX3_init_0 rfl 0 rfl ?_
  refine V_objInit hc hz w1_220 w1_27 w1_28 ⟨(Nat.le_of_ble_eq_true rfl), (Nat.le_of_ble_eq_true rfl)⟩ (Nat.le_of_ble_eq_true rfl) dX3_init_1 ?_
  refine V_aload_n hc dX3_init_4 rfl 0 rfl ?_
  refine V_bipush hc (v := (8 : Int32)) dX3_init_5 rfl ?_
  obtain ⟨S1, hS1, hf⟩ := mb hf
  refine C_newr hc hz (by decide) (by decide) hS1 hX w1_221 dX3_init_7 ?_
  obtain ⟨S2, hS2, hf⟩ := mb hf
  refine C_putrF hc hnm rfl iW3 tyX3 tyX3_ok nmX3 (by decide) 0 (by decide) rfl hS2 w1_223 rfl rfl rfl rfl dX3_init_10 ?_
  refine V_aload_n hc dX3_init_13 rfl 0 rfl ?_
  refine V_iconst hc (v := (0 : Int32)) dX3_init_14 rfl ?_
  obtain ⟨S3, hS3, hf⟩ := mb hf
  refine C_puti hc rfl iW3 tyX3 tyX3_ok nmX3 (by decide) 1 (by decide) rfl hS3 w1_227 rfl rfl rfl dX3_init_15 ?_
  refine V_iconst hc (v := (0 : Int32)) dX3_init_18 rfl ?_
  refine V_istore_n hc dX3_init_19 rfl (by decide) rfl ?_
  obtain ⟨S4, hv5, hf⟩ := mb hf
  refine V_sub [1, 0] rfl (LX3_init_20_ok hc X h hz hX FU _ _ hv5 ?_)
  obtain rfl := Option.some.inj hf
  exact V_vret hc hzz rfl rfl rfl rfl dX3_init_48
