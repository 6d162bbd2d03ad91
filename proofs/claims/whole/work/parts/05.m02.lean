noncomputable def L12_oldOf_4 (a1 : Nat) (c1 : Int32) (M : MS) : Nat → Int32 → Int32 → Option (Int32)
  | 0, _, _ => none
  | n + 1, i2, i3 =>
    if c1 ≤ i3 then (
      some i2
    ) else (
      (ld M a1 i3).bind fun v1 =>
      (
        if 0 < v1 then (
          some i2
        ) else (
          some (i2 + (1 : Int32))
        )
      ).bind fun x2 =>
      L12_oldOf_4 a1 c1 M n x2 (i3 + (1 : Int32))
    )
noncomputable def f12_oldOf (M : MS) (a1 : Nat) (p2 : Int32) : Option (Int32) :=
  (L12_oldOf_4 a1 p2 M FU (0 : Int32) (0 : Int32)).bind fun x1 =>
  some x1
theorem hd12_oldOf : yX12_oldOf.cls = "FarEditorsModel" ∧ yX12_oldOf.cls ≠ "java/lang/invoke/MethodHandle" ∧ yX12_oldOf.cls ≠ "java/lang/invoke/VarHandle" ∧ (parseMethodDescriptor yX12_oldOf.desc).map (fun d => d.parameters.length) = some 2 := by decide +kernel
set_option maxHeartbeats 4000000 in
set_option maxRecDepth 100000 in
theorem L12_oldOf_4_ok {E : CxT} {l : Launch} {D : va_G} {h : Nat} {q : Nat → Nat} {y : CyT} {zM uM z u : Nat} (hc : Cx E "FarEditorsModel" cX12_oldOf 4) (hz : Cy E l D y 0 0 zM uM) (a1 : Nat) (c1 : Int32) (M : MS) (ha1 : mKi a1 = 1) : ∀ (n : Nat) (i2 : Int32) (i3 : Int32) {o2 : Int32}, L12_oldOf_4 a1 c1 M n i2 i3 = some o2 → (hx0 : V E z u (mw h q y M) 24 [(2, .int o2)] []) → V E z u (mw h q y M) 4 [(0, .ref (q a1)), (1, .int c1), (2, .int i2), (3, .int i3)] [] := by
  have hT := hz.2.2.1
  intro n
  induction n with
  | zero => intro i2 i3 o2 hf; cases hf
  | succ n ih =>
    intro i2 i3 o2 hf hx0
    unfold L12_oldOf_4 at hf
    refine V_iload_n hc dX12_oldOf_4 rfl 3 rfl ?_
    refine V_iload_n hc dX12_oldOf_5 rfl 1 rfl ?_
    refine V_icmp_ge hc dX12_oldOf_6 rfl (fun hq6 => ?_) (fun hq6 => ?_)
    · rw [if_pos hq6] at hf
      obtain rfl := Option.some.inj hf
      exact V_sub [2] rfl hx0
    · rw [if_neg hq6] at hf
      refine V_aload_n hc dX12_oldOf_9 rfl 0 rfl ?_
      refine V_iload_n hc dX12_oldOf_10 rfl 3 rfl ?_
      obtain ⟨v1, hv1, hf⟩ := mb hf
      refine R_iald hc hT ha1 hv1 dX12_oldOf_11 ?_
      obtain ⟨x2, hv3, hf⟩ := mb hf
      have hJ12 : V E z u (mw h q y M) 18 [(0, .ref (q a1)), (1, .int c1), (2, .int x2), (3, .int i3)] [] := by
        refine V_iinc hc (j := 3) (v := (i3 + (1 : Int32))) dX12_oldOf_18 rfl rfl (by decide) rfl ?_
        refine V_goto hc dX12_oldOf_21 rfl ?_
        exact V_sub [1, 2, 3, 0] rfl (ih _ _ hf hx0)
      refine V_if_gt hc dX12_oldOf_12 rfl (fun hq12 => ?_) (fun hq12 => ?_)
      · rw [if_pos hq12] at hv3
        obtain rfl := Option.some.inj hv3
        exact V_sub [0, 1, 2, 3] rfl hJ12
      · rw [if_neg hq12] at hv3
        refine V_iinc hc (j := 2) (v := (i2 + (1 : Int32))) dX12_oldOf_15 rfl rfl (by decide) rfl ?_
        obtain rfl := Option.some.inj hv3
        exact V_sub [1, 2, 0, 3] rfl hJ12
set_option maxHeartbeats 4000000 in
set_option maxRecDepth 100000 in
theorem c12_oldOf (l : Launch) (D : va_G) (h : Nat) (q : Nat → Nat) (y : CyT) (zM uM z u : Nat) {M : MS} {a1 : Nat} {p2 : Int32} {r : Int32} (ha1 : mKi a1 = 1) (hf : f12_oldOf M a1 p2 = some r) : CT l D y yX12_oldOf cX12_oldOf 4 (some .int) 0 0 zM uM [.ref (q a1), .int p2] z u (mw h q y M) z u (mw h q y M) (some (.int r)) := by
  refine CT.of (by decide) (Nat.le_of_ble_eq_true rfl) (fun E hc hzz hnm => ?_)
  have hc : Cx E "FarEditorsModel" cX12_oldOf 4 := hc
  have hz := hzz.1
  have hT := hz.2.2.1
  show V E z u (mw h q y M) 0 [(0, .ref (q a1)), (1, .int p2)] []
  unfold f12_oldOf at hf
  refine V_iconst hc (v := (0 : Int32)) dX12_oldOf_0 rfl ?_
  refine V_istore_n hc dX12_oldOf_1 rfl (by decide) rfl ?_
  refine V_iconst hc (v := (0 : Int32)) dX12_oldOf_2 rfl ?_
  refine V_istore_n hc dX12_oldOf_3 rfl (by decide) rfl ?_
  obtain ⟨x1, hv2, hf⟩ := mb hf
  refine V_sub [2, 3, 1, 0] rfl (L12_oldOf_4_ok hc hz a1 p2 M ha1 FU _ _ hv2 ?_)
  refine V_iload_n hc dX12_oldOf_24 rfl 0 rfl ?_
  obtain rfl := Option.some.inj hf
  exact V_iret hc hzz rfl rfl rfl rfl rfl dX12_oldOf_25
noncomputable def L12_putsOf_4 (a1 : Nat) (c1 : Int32) (M : MS) : Nat → Int32 → Int32 → Option (Int32)
  | 0, _, _ => none
  | n + 1, i2, i3 =>
    if c1 ≤ i3 then (
      some i2
    ) else (
      (ld M a1 i3).bind fun v1 =>
      (
        if v1 ≤ 0 then (
          some i2
        ) else (
          some (i2 + (1 : Int32))
        )
      ).bind fun x2 =>
      L12_putsOf_4 a1 c1 M n x2 (i3 + (1 : Int32))
    )
noncomputable def f12_putsOf (M : MS) (a1 : Nat) (p2 : Int32) : Option (Int32) :=
  (L12_putsOf_4 a1 p2 M FU (0 : Int32) (0 : Int32)).bind fun x1 =>
  some x1
theorem hd12_putsOf : yX12_putsOf.cls = "FarEditorsModel" ∧ yX12_putsOf.cls ≠ "java/lang/invoke/MethodHandle" ∧ yX12_putsOf.cls ≠ "java/lang/invoke/VarHandle" ∧ (parseMethodDescriptor yX12_putsOf.desc).map (fun d => d.parameters.length) = some 2 := by decide +kernel
set_option maxHeartbeats 4000000 in
set_option maxRecDepth 100000 in
theorem L12_putsOf_4_ok {E : CxT} {l : Launch} {D : va_G} {h : Nat} {q : Nat → Nat} {y : CyT} {zM uM z u : Nat} (hc : Cx E "FarEditorsModel" cX12_putsOf 4) (hz : Cy E l D y 0 0 zM uM) (a1 : Nat) (c1 : Int32) (M : MS) (ha1 : mKi a1 = 1) : ∀ (n : Nat) (i2 : Int32) (i3 : Int32) {o2 : Int32}, L12_putsOf_4 a1 c1 M n i2 i3 = some o2 → (hx0 : V E z u (mw h q y M) 24 [(2, .int o2)] []) → V E z u (mw h q y M) 4 [(0, .ref (q a1)), (1, .int c1), (2, .int i2), (3, .int i3)] [] := by
  have hT := hz.2.2.1
  intro n
  induction n with
  | zero => intro i2 i3 o2 hf; cases hf
  | succ n ih =>
    intro i2 i3 o2 hf hx0
    unfold L12_putsOf_4 at hf
    refine V_iload_n hc dX12_putsOf_4 rfl 3 rfl ?_
    refine V_iload_n hc dX12_putsOf_5 rfl 1 rfl ?_
    refine V_icmp_ge hc dX12_putsOf_6 rfl (fun hq6 => ?_) (fun hq6 => ?_)
    · rw [if_pos hq6] at hf
      obtain rfl := Option.some.inj hf
      exact V_sub [2] rfl hx0
    · rw [if_neg hq6] at hf
      refine V_aload_n hc dX12_putsOf_9 rfl 0 rfl ?_
      refine V_iload_n hc dX12_putsOf_10 rfl 3 rfl ?_
      obtain ⟨v1, hv1, hf⟩ := mb hf
      refine R_iald hc hT ha1 hv1 dX12_putsOf_11 ?_
      obtain ⟨x2, hv3, hf⟩ := mb hf
      have hJ12 : V E z u (mw h q y M) 18 [(0, .ref (q a1)), (1, .int c1), (2, .int x2), (3, .int i3)] [] := by
        refine V_iinc hc (j := 3) (v := (i3 + (1 : Int32))) dX12_putsOf_18 rfl rfl (by decide) rfl ?_
        refine V_goto hc dX12_putsOf_21 rfl ?_
        exact V_sub [1, 2, 3, 0] rfl (ih _ _ hf hx0)
      refine V_if_le hc dX12_putsOf_12 rfl (fun hq12 => ?_) (fun hq12 => ?_)
      · rw [if_pos hq12] at hv3
        obtain rfl := Option.some.inj hv3
        exact V_sub [0, 1, 2, 3] rfl hJ12
      · rw [if_neg hq12] at hv3
        refine V_iinc hc (j := 2) (v := (i2 + (1 : Int32))) dX12_putsOf_15 rfl rfl (by decide) rfl ?_
        obtain rfl := Option.some.inj hv3
        exact V_sub [1, 2, 0, 3] rfl hJ12
set_option maxHeartbeats 4000000 in
set_option maxRecDepth 100000 in
theorem c12_putsOf (l : Launch) (D : va_G) (h : Nat) (q : Nat → Nat) (y : CyT) (zM uM z u : Nat) {M : MS} {a1 : Nat} {p2 : Int32} {r : Int32} (ha1 : mKi a1 = 1) (hf : f12_putsOf M a1 p2 = some r) : CT l D y yX12_putsOf cX12_putsOf 4 (some .int) 0 0 zM uM [.ref (q a1), .int p2] z u (mw h q y M) z u (mw h q y M) (some (.int r)) := by
  refine CT.of (by decide) (Nat.le_of_ble_eq_true rfl) (fun E hc hzz hnm => ?_)
  have hc : Cx E "FarEditorsModel" cX12_putsOf 4 := hc
  have hz := hzz.1
  have hT := hz.2.2.1
  show V E z u (mw h q y M) 0 [(0, .ref (q a1)), (1, .int p2)] []
  unfold f12_putsOf at hf
  refine V_iconst hc (v := (0 : Int32)) dX12_putsOf_0 rfl ?_
  refine V_istore_n hc dX12_putsOf_1 rfl (by decide) rfl ?_
  refine V_iconst hc (v := (0 : Int32)) dX12_putsOf_2 rfl ?_
  refine V_istore_n hc dX12_putsOf_3 rfl (by decide) rfl ?_
  obtain ⟨x1, hv2, hf⟩ := mb hf
  refine V_sub [2, 3, 1, 0] rfl (L12_putsOf_4_ok hc hz a1 p2 M ha1 FU _ _ hv2 ?_)
  refine V_iload_n hc dX12_putsOf_24 rfl 0 rfl ?_
  obtain rfl := Option.some.inj hf
  exact V_iret hc hzz rfl rfl rfl rfl rfl dX12_putsOf_25
noncomputable def L12_isIdle_2 (a1 : Nat) (c1 : Int32) (M : MS) : Nat → Int32 → Option (Nat)
  | 0, _ => none
  | n + 1, i2 =>
    if c1 ≤ i2 then (
      some 1
    ) else (
      (ld M a1 i2).bind fun v1 =>
      if v1 = 0 then (
        L12_isIdle_2 a1 c1 M n (i2 + (1 : Int32))
      ) else (
        some 0
      )
    )
noncomputable def f12_isIdle (M : MS) (a1 : Nat) (p2 : Int32) : Option (Int32) :=
  (L12_isIdle_2 a1 p2 M FU (0 : Int32)).bind fun t1 =>
  if t1 = 0 then (
    some (0 : Int32)
  ) else (
    some (1 : Int32)
  )
theorem hd12_isIdle : yX12_isIdle.cls = "FarEditorsModel" ∧ yX12_isIdle.cls ≠ "java/lang/invoke/MethodHandle" ∧ yX12_isIdle.cls ≠ "java/lang/invoke/VarHandle" ∧ (parseMethodDescriptor yX12_isIdle.desc).map (fun d => d.parameters.length) = some 2 := by decide +kernel
set_option maxHeartbeats 4000000 in
set_option maxRecDepth 100000 in
theorem L12_isIdle_2_ok {E : CxT} {l : Launch} {D : va_G} {h : Nat} {q : Nat → Nat} {y : CyT} {zM uM z u : Nat} (hc : Cx E "FarEditorsModel" cX12_isIdle 3) (hz : Cy E l D y 0 0 zM uM) (a1 : Nat) (c1 : Int32) (M : MS) (ha1 : mKi a1 = 1) : ∀ (n : Nat) (i2 : Int32) {t : Nat}, L12_isIdle_2 a1 c1 M n i2 = some t → (hx0 : t = 0 → V E z u (mw h q y M) 13 [] []) → (hx1 : t = 1 → V E z u (mw h q y M) 21 [] []) → V E z u (mw h q y M) 2 [(0, .ref (q a1)), (1, .int c1), (2, .int i2)] [] := by
  have hT := hz.2.2.1
  intro n
  induction n with
  | zero => intro i2 t hf; cases hf
  | succ n ih =>
    intro i2 t hf hx0 hx1
    unfold L12_isIdle_2 at hf
    refine V_iload_n hc dX12_isIdle_2 rfl 2 rfl ?_
    refine V_iload_n hc dX12_isIdle_3 rfl 1 rfl ?_
    refine V_icmp_ge hc dX12_isIdle_4 rfl (fun hq4 => ?_) (fun hq4 => ?_)
    · rw [if_pos hq4] at hf
      obtain rfl := Option.some.inj hf
      exact V_sub [] rfl (hx1 rfl)
    · rw [if_neg hq4] at hf
      refine V_aload_n hc dX12_isIdle_7 rfl 0 rfl ?_
      refine V_iload_n hc dX12_isIdle_8 rfl 2 rfl ?_
      obtain ⟨v1, hv1, hf⟩ := mb hf
      refine R_iald hc hT ha1 hv1 dX12_isIdle_9 ?_
      refine V_if_eq hc dX12_isIdle_10 rfl (fun hq10 => ?_) (fun hq10 => ?_)
      · rw [if_pos hq10] at hf
        refine V_iinc hc (j := 2) (v := (i2 + (1 : Int32))) dX12_isIdle_15 rfl rfl (by decide) rfl ?_
        refine V_goto hc dX12_isIdle_18 rfl ?_
        exact V_sub [1, 2, 0] rfl (ih _ hf hx0 hx1)
      · rw [if_neg hq10] at hf
        obtain rfl := Option.some.inj hf
        exact V_sub [] rfl (hx0 rfl)
set_option maxHeartbeats 4000000 in
set_option maxRecDepth 100000 in
theorem c12_isIdle (l : Launch) (D : va_G) (h : Nat) (q : Nat → Nat) (y : CyT) (zM uM z u : Nat) {M : MS} {a1 : Nat} {p2 : Int32} {r : Int32} (ha1 : mKi a1 = 1) (hf : f12_isIdle M a1 p2 = some r) : CT l D y yX12_isIdle cX12_isIdle 3 (some .boolean) 0 0 zM uM [.ref (q a1), .int p2] z u (mw h q y M) z u (mw h q y M) (some (.int r)) := by
  refine CT.of (by decide) (Nat.le_of_ble_eq_true rfl) (fun E hc hzz hnm => ?_)
  have hc : Cx E "FarEditorsModel" cX12_isIdle 3 := hc
  have hz := hzz.1
  have hT := hz.2.2.1
  show V E z u (mw h q y M) 0 [(0, .ref (q a1)), (1, .int p2)] []
  unfold f12_isIdle at hf
  refine V_iconst hc (v := (0 : Int32)) dX12_isIdle_0 rfl ?_
  refine V_istore_n hc dX12_isIdle_1 rfl (by decide) rfl ?_
  obtain ⟨t1, hv2, hf⟩ := mb hf
  refine V_sub [1, 2, 0] rfl (L12_isIdle_2_ok hc hz a1 p2 M ha1 FU _ hv2 (fun ht2_0 => ?_) (fun ht2_1 => ?_))
  · rw [if_pos ht2_0] at hf
    refine V_iconst hc (v := (0 : Int32)) dX12_isIdle_13 rfl ?_
    obtain rfl := Option.some.inj hf
    exact V_iret hc hzz rfl rfl rfl rfl rfl dX12_isIdle_14
  · rw [if_neg (by rw [ht2_1]; decide)] at hf
    refine V_iconst hc (v := (1 : Int32)) dX12_isIdle_21 rfl ?_
    obtain rfl := Option.some.inj hf
    exact V_iret hc hzz rfl rfl rfl rfl rfl dX12_isIdle_22
noncomputable def f12_givesC (M : MS) (p1 : Int32) : Option (MS) :=
  (sd M 22 (gF M 27) p1).bind fun M1 =>
  some (sF M1 27 ((gF M1 27) + (1 : Int32)))
theorem hd12_givesC : yX12_givesC.cls = "FarEditorsModel" ∧ yX12_givesC.cls ≠ "java/lang/invoke/MethodHandle" ∧ yX12_givesC.cls ≠ "java/lang/invoke/VarHandle" ∧ (parseMethodDescriptor yX12_givesC.desc).map (fun d => d.parameters.length) = some 1 := by decide +kernel
set_option maxHeartbeats 4000000 in
set_option maxRecDepth 100000 in
theorem c12_givesC (l : Launch) (D : va_G) (h : Nat) (q : Nat → Nat) (y : CyT) (zM uM z u : Nat) {M M' : MS} {p1 : Int32} (hf : f12_givesC M p1 = some M') : CT l D y yX12_givesC cX12_givesC 2 none 0 0 zM uM [.ref h, .int p1] z u (mw h q y M) z u (mw h q y M') none := by
  refine CT.of (by decide) (Nat.le_of_ble_eq_true rfl) (fun E hc hzz hnm => ?_)
  have hc : Cx E "FarEditorsModel" cX12_givesC 2 := hc
  have hz := hzz.1
  have hT := hz.2.2.1
  show V E z u (mw h q y M) 0 [(0, .ref h), (1, .int p1)] []
  unfold f12_givesC at hf
  refine V_aload_n hc dX12_givesC_0 rfl 0 rfl ?_
  refine R_getr hc 22 rfl (by decide) w6_80 dX12_givesC_1 ?_
  refine V_aload_n hc dX12_givesC_4 rfl 0 rfl ?_
  refine R_geti hc 27 rfl (by decide) w6_85 dX12_givesC_5 ?_
  refine V_iload_n hc dX12_givesC_8 rfl 1 rfl ?_
  obtain ⟨M1, hM1, hf⟩ := mb hf
  refine R_iast hc hT rfl hM1 dX12_givesC_9 ?_
  refine V_aload_n hc dX12_givesC_10 rfl 0 rfl ?_
  refine V_dup hc dX12_givesC_11 rfl ?_
  refine R_geti hc 27 rfl (by decide) w6_85 dX12_givesC_12 ?_
  refine V_iconst hc (v := (1 : Int32)) dX12_givesC_15 rfl ?_
  refine V_iadd hc dX12_givesC_16 ?_
  refine R_puti hc 27 rfl (by decide) w6_85 rfl rfl rfl dX12_givesC_17 ?_
  obtain rfl := Option.some.inj hf
  exact V_vret hc hzz rfl rfl rfl rfl dX12_givesC_20
noncomputable def f12_givesD (M : MS) (p1 : Int32) : Option (MS) :=
  (sd M 23 (gF M 28) p1).bind fun M1 =>
  some (sF M1 28 ((gF M1 28) + (1 : Int32)))
theorem hd12_givesD : yX12_givesD.cls = "FarEditorsModel" ∧ yX12_givesD.cls ≠ "java/lang/invoke/MethodHandle" ∧ yX12_givesD.cls ≠ "java/lang/invoke/VarHandle" ∧ (parseMethodDescriptor yX12_givesD.desc).map (fun d => d.parameters.length) = some 1 := by decide +kernel
set_option maxHeartbeats 4000000 in
set_option maxRecDepth 100000 in
theorem c12_givesD (l : Launch) (D : va_G) (h : Nat) (q : Nat → Nat) (y : CyT) (zM uM z u : Nat) {M M' : MS} {p1 : Int32} (hf : f12_givesD M p1 = some M') : CT l D y yX12_givesD cX12_givesD 2 none 0 0 zM uM [.ref h, .int p1] z u (mw h q y M) z u (mw h q y M') none := by
  refine CT.of (by decide) (Nat.le_of_ble_eq_true rfl) (fun E hc hzz hnm => ?_)
  have hc : Cx E "FarEditorsModel" cX12_givesD 2 := hc
  have hz := hzz.1
  have hT := hz.2.2.1
  show V E z u (mw h q y M) 0 [(0, .ref h), (1, .int p1)] []
  unfold f12_givesD at hf
  refine V_aload_n hc dX12_givesD_0 rfl 0 rfl ?_
  refine R_getr hc 23 rfl (by decide) w6_81 dX12_givesD_1 ?_
  refine V_aload_n hc dX12_givesD_4 rfl 0 rfl ?_
  refine R_geti hc 28 rfl (by decide) w6_86 dX12_givesD_5 ?_
  refine V_iload_n hc dX12_givesD_8 rfl 1 rfl ?_
  obtain ⟨M1, hM1, hf⟩ := mb hf
  refine R_iast hc hT rfl hM1 dX12_givesD_9 ?_
  refine V_aload_n hc dX12_givesD_10 rfl 0 rfl ?_
  refine V_dup hc dX12_givesD_11 rfl ?_
  refine R_geti hc 28 rfl (by decide) w6_86 dX12_givesD_12 ?_
  refine V_iconst hc (v := (1 : Int32)) dX12_givesD_15 rfl ?_
  refine V_iadd hc dX12_givesD_16 ?_
  refine R_puti hc 28 rfl (by decide) w6_86 rfl rfl rfl dX12_givesD_17 ?_
  obtain rfl := Option.some.inj hf
  exact V_vret hc hzz rfl rfl rfl rfl dX12_givesD_20
noncomputable def L12_turns_14 (c1 : Int32) : Nat → Int32 → Int32 → MS → Option (MS)
  | 0, _, _, _ => none
  | n + 1, i2, i3, M =>
    if i2 < (gF M 25) then (
      (
        if (gF M 25) ≤ i2 then (
          some (0 : Int32)
        ) else (
          (ld M 20 i2).bind fun v3 =>
          if v3 ≤ 0 then (
            some (0 : Int32)
          ) else (
            some (1 : Int32)
          )
        )
      ).bind fun v1 =>
      (
        if (gF M 26) ≤ i3 then (
          some (0 : Int32)
        ) else (
          (ld M 21 i3).bind fun v6 =>
          if v6 ≤ 0 then (
            some (0 : Int32)
          ) else (
            some (1 : Int32)
          )
        )
      ).bind fun v4 =>
      bn3 (
        if v1 = 0 then (
          if v4 = 0 then (
            (ld M 21 i3).bind fun v11 =>
            (
              if v11 = 0 then (
                (ld M 20 i2).bind fun v14 =>
                (f12_givesC M v14).bind fun M15 =>
                some M15
              ) else (
                some M
              )
            ).bind fun M12 =>
            (ld M12 20 i2).bind fun v16 =>
            (
              if v16 = 0 then (
                (ld M12 21 i3).bind fun v19 =>
                (f12_givesD M12 v19).bind fun M20 =>
                some M20
              ) else (
                some M12
              )
            ).bind fun M17 =>
            some ((i2 + (1 : Int32)), (i3 + (1 : Int32)), M17)
          ) else (
            (f12_givesC M (0 : Int32)).bind fun M21 =>
            (ld M21 21 i3).bind fun v22 =>
            (f12_givesD M21 v22).bind fun M23 =>
            some (i2, (i3 + (1 : Int32)), M23)
          )
        ) else (
          if c1 = 0 then (
            if v4 = 0 then (
              (ld M 20 i2).bind fun v40 =>
              (f12_givesC M v40).bind fun M41 =>
              (f12_givesD M41 (0 : Int32)).bind fun M42 =>
              some ((i2 + (1 : Int32)), i3, M42)
            ) else (
              if v4 = 0 then (
                (ld M 21 i3).bind fun v27 =>
                (
                  if v27 = 0 then (
                    (ld M 20 i2).bind fun v30 =>
                    (f12_givesC M v30).bind fun M31 =>
                    some M31
                  ) else (
                    some M
                  )
                ).bind fun M28 =>
                (ld M28 20 i2).bind fun v32 =>
                (
                  if v32 = 0 then (
                    (ld M28 21 i3).bind fun v35 =>
                    (f12_givesD M28 v35).bind fun M36 =>
                    some M36
                  ) else (
                    some M28
                  )
                ).bind fun M33 =>
                some ((i2 + (1 : Int32)), (i3 + (1 : Int32)), M33)
              ) else (
                (f12_givesC M (0 : Int32)).bind fun M37 =>
                (ld M37 21 i3).bind fun v38 =>
                (f12_givesD M37 v38).bind fun M39 =>
                some (i2, (i3 + (1 : Int32)), M39)
              )
            )
          ) else (
            (ld M 20 i2).bind fun v24 =>
            (f12_givesC M v24).bind fun M25 =>
            (f12_givesD M25 (0 : Int32)).bind fun M26 =>
            some ((i2 + (1 : Int32)), i3, M26)
          )
        )
      ) fun x7 x8 M9 =>
      L12_turns_14 c1 n x7 x8 M9
    ) else (
      if (gF M 26) ≤ i3 then (
        some M
      ) else (
        (
          if (gF M 25) ≤ i2 then (
            some (0 : Int32)
          ) else (
            (ld M 20 i2).bind fun v45 =>
            if v45 ≤ 0 then (
              some (0 : Int32)
            ) else (
              some (1 : Int32)
            )
          )
        ).bind fun v43 =>
        (
          if (gF M 26) ≤ i3 then (
            some (0 : Int32)
          ) else (
            (ld M 21 i3).bind fun v48 =>
            if v48 ≤ 0 then (
              some (0 : Int32)
            ) else (
              some (1 : Int32)
            )
          )
        ).bind fun v46 =>
        bn3 (
          if v43 = 0 then (
            if v46 = 0 then (
              (ld M 21 i3).bind fun v53 =>
              (
                if v53 = 0 then (
                  (ld M 20 i2).bind fun v56 =>
                  (f12_givesC M v56).bind fun M57 =>
                  some M57
                ) else (
                  some M
                )
              ).bind fun M54 =>
              (ld M54 20 i2).bind fun v58 =>
              (
                if v58 = 0 then (
                  (ld M54 21 i3).bind fun v61 =>
                  (f12_givesD M54 v61).bind fun M62 =>
                  some M62
                ) else (
                  some M54
                )
              ).bind fun M59 =>
              some ((i2 + (1 : Int32)), (i3 + (1 : Int32)), M59)
            ) else (
              (f12_givesC M (0 : Int32)).bind fun M63 =>
              (ld M63 21 i3).bind fun v64 =>
              (f12_givesD M63 v64).bind fun M65 =>
              some (i2, (i3 + (1 : Int32)), M65)
            )
          ) else (
            if c1 = 0 then (
              if v46 = 0 then (
                (ld M 20 i2).bind fun v82 =>
                (f12_givesC M v82).bind fun M83 =>
                (f12_givesD M83 (0 : Int32)).bind fun M84 =>
                some ((i2 + (1 : Int32)), i3, M84)
              ) else (
                if v46 = 0 then (
                  (ld M 21 i3).bind fun v69 =>
                  (
                    if v69 = 0 then (
                      (ld M 20 i2).bind fun v72 =>
                      (f12_givesC M v72).bind fun M73 =>
                      some M73
                    ) else (
                      some M
                    )
                  ).bind fun M70 =>
                  (ld M70 20 i2).bind fun v74 =>
                  (
                    if v74 = 0 then (
                      (ld M70 21 i3).bind fun v77 =>
                      (f12_givesD M70 v77).bind fun M78 =>
                      some M78
                    ) else (
                      some M70
                    )
                  ).bind fun M75 =>
                  some ((i2 + (1 : Int32)), (i3 + (1 : Int32)), M75)
                ) else (
                  (f12_givesC M (0 : Int32)).bind fun M79 =>
                  (ld M79 21 i3).bind fun v80 =>
                  (f12_givesD M79 v80).bind fun M81 =>
                  some (i2, (i3 + (1 : Int32)), M81)
                )
              )
            ) else (
              (ld M 20 i2).bind fun v66 =>
              (f12_givesC M v66).bind fun M67 =>
              (f12_givesD M67 (0 : Int32)).bind fun M68 =>
              some ((i2 + (1 : Int32)), i3, M68)
            )
          )
        ) fun x49 x50 M51 =>
        L12_turns_14 c1 n x49 x50 M51
      )
    )
noncomputable def f12_turns (M : MS) (p1 : Int32) : Option (MS) :=
  (L12_turns_14 p1 FU (0 : Int32) (0 : Int32) (sF (sF M 27 (0 : Int32)) 28 (0 : Int32))).bind fun M1 =>
  (f12_settles M1 22 (gF M1 27)).bind fun M3 =>
  (f12_settles M3 23 (gF M3 28)).bind fun M4 =>
  some M4
theorem hd12_turns : yX12_turns.cls = "FarEditorsModel" ∧ yX12_turns.cls ≠ "java/lang/invoke/MethodHandle" ∧ yX12_turns.cls ≠ "java/lang/invoke/VarHandle" ∧ (parseMethodDescriptor yX12_turns.desc).map (fun d => d.parameters.length) = some 1 := by decide +kernel
set_option maxHeartbeats 4000000 in
set_option maxRecDepth 100000 in
theorem L12_turns_14_ok {E : CxT} {l : Launch} {D : va_G} {h : Nat} {q : Nat → Nat} {y : CyT} {zM uM z u : Nat} (hc : Cx E "FarEditorsModel" cX12_turns 6) (hz : Cy E l D y 1 26 zM uM) (c1 : Int32) : ∀ (n : Nat) (i2 : Int32) (i3 : Int32) (M : MS) {Mo : MS}, L12_turns_14 c1 n i2 i3 M = some Mo → (hx0 : V E z u (mw h q y Mo) 186 [(0, .ref h)] []) → V E z u (mw h q y M) 14 [(0, .ref h), (1, .int c1), (2, .int i2), (3, .int i3)] [] := by
  have hT := hz.2.2.1
  intro n
  induction n with
  | zero => intro i2 i3 M Mo hf; cases hf
  | succ n ih =>
    intro i2 i3 M Mo hf hx0
    unfold L12_turns_14 at hf
    refine V_iload_n hc dX12_turns_14 rfl 2 rfl ?_
    refine V_aload_n hc dX12_turns_15 rfl 0 rfl ?_
    refine R_geti hc 25 rfl (by decide) w6_83 dX12_turns_16 ?_
    refine V_icmp_lt hc dX12_turns_19 rfl (fun hq19 => ?_) (fun hq19 => ?_)
    · rw [if_pos hq19] at hf
      refine V_iload_n hc dX12_turns_30 rfl 2 rfl ?_
      refine V_aload_n hc dX12_turns_31 rfl 0 rfl ?_
      refine R_geti hc 25 rfl (by decide) w6_83 dX12_turns_32 ?_
      obtain ⟨v1, hv2, hf⟩ := mb hf
      have hJ35 : V E z u (mw h q y M) 52 [(0, .ref h), (1, .int c1), (2, .int i2), (3, .int i3)] [.int v1] := by
        refine V_istore hc dX12_turns_52 (by decide) rfl ?_
        refine V_iload_n hc dX12_turns_54 rfl 4 rfl ?_
        refine V_aload_n hc dX12_turns_55 rfl 1 rfl ?_
        refine R_geti hc 26 rfl (by decide) w6_84 dX12_turns_56 ?_
        obtain ⟨v4, hv5, hf⟩ := mb hf
        have hJ59 : V E z u (mw h q y M) 76 [(0, .ref h), (1, .int c1), (2, .int i2), (3, .int i3), (4, .int v1)] [.int v4] := by
          refine V_istore hc dX12_turns_76 (by decide) rfl ?_
          refine V_iload hc dX12_turns_78 5 rfl ?_
          obtain ⟨x7, x8, M9, hv10, hf⟩ := mb3 hf
          have hJ80 : V E z u (mw h q y M9) 183 [(0, .ref h), (1, .int c1), (2, .int x7), (3, .int x8)] [] := by
            refine V_goto hc dX12_turns_183 rfl ?_
            exact V_sub [0, 1, 2, 3] rfl (ih _ _ _ hf hx0)
          refine V_if_eq hc dX12_turns_80 rfl (fun hq80 => ?_) (fun hq80 => ?_)
          · rw [if_pos hq80] at hv10
            refine V_iload hc dX12_turns_113 0 rfl ?_
            refine V_if_eq hc dX12_turns_115 rfl (fun hq115 => ?_) (fun hq115 => ?_)
            · rw [if_pos hq115] at hv10
              refine V_aload_n hc dX12_turns_139 rfl 1 rfl ?_
              refine R_getr hc 21 rfl (by decide) w6_79 dX12_turns_140 ?_
              refine V_iload_n hc dX12_turns_143 rfl 4 rfl ?_
              obtain ⟨v11, hv11, hv10⟩ := mb hv10
              refine R_iald hc hT rfl hv11 dX12_turns_144 ?_
              obtain ⟨M12, hv13, hv10⟩ := mb hv10
              have hJ145 : V E z u (mw h q y M12) 158 [(0, .ref h), (1, .int c1), (2, .int i2), (3, .int i3)] [] := by
                refine V_aload_n hc dX12_turns_158 rfl 0 rfl ?_
                refine R_getr hc 20 rfl (by decide) w6_78 dX12_turns_159 ?_
                refine V_iload_n hc dX12_turns_162 rfl 2 rfl ?_
                obtain ⟨v16, hv16, hv10⟩ := mb hv10
                refine R_iald hc hT rfl hv16 dX12_turns_163 ?_
                obtain ⟨M17, hv18, hv10⟩ := mb hv10
                have hJ164 : V E z u (mw h q y M17) 177 [(0, .ref h), (1, .int c1), (2, .int i2), (3, .int i3)] [] := by
                  refine V_iinc hc (j := 2) (v := (i2 + (1 : Int32))) dX12_turns_177 rfl rfl (by decide) rfl ?_
                  refine V_iinc hc (j := 3) (v := (i3 + (1 : Int32))) dX12_turns_180 rfl rfl (by decide) rfl ?_
                  obtain ⟨rfl, rfl, rfl⟩ := si3 hv10
                  exact V_sub [2, 3, 1, 0] rfl hJ80
                refine V_if_ne hc dX12_turns_164 rfl (fun hq164 => ?_) (fun hq164 => ?_)
                · rw [if_neg hq164] at hv18
                  obtain rfl := Option.some.inj hv18
                  exact V_sub [0, 1, 2, 3] rfl hJ164
                · rw [if_pos hq164] at hv18
                  refine V_aload_n hc dX12_turns_167 rfl 0 rfl ?_
                  refine V_aload_n hc dX12_turns_168 rfl 0 rfl ?_
                  refine R_getr hc 21 rfl (by decide) w6_79 dX12_turns_169 ?_
                  refine V_iload_n hc dX12_turns_172 rfl 3 rfl ?_
                  obtain ⟨v19, hv19, hv18⟩ := mb hv18
                  refine R_iald hc hT rfl hv19 dX12_turns_173 ?_
                  obtain ⟨M20, hM20, hv18⟩ := mb hv18
                  refine R_callVv hc hz (As := [.int v19]) (c12_givesD l D h q y _ _ _ _ hM20) w8_36 w8_38 wp7_4 w1_13 w8_39 hd12_givesD ⟨Nat.le_of_ble_eq_true rfl, Nat.le_of_ble_eq_true rfl⟩ rfl rfl (Nat.le_of_ble_eq_true rfl) dX12_turns_174 ?_
                  obtain rfl := Option.some.inj hv18
                  exact V_sub [0, 1, 2, 3] rfl hJ164
              refine V_if_ne hc dX12_turns_145 rfl (fun hq145 => ?_) (fun hq145 => ?_)
              · rw [if_neg hq145] at hv13
                obtain rfl := Option.some.inj hv13
                exact V_sub [1, 2, 3, 4] rfl hJ145
              · rw [if_pos hq145] at hv13
                refine V_aload_n hc dX12_turns_148 rfl 1 rfl ?_
                refine V_aload_n hc dX12_turns_149 rfl 1 rfl ?_
                refine R_getr hc 20 rfl (by decide) w6_78 dX12_turns_150 ?_
                refine V_iload_n hc dX12_turns_153 rfl 3 rfl ?_
                obtain ⟨v14, hv14, hv13⟩ := mb hv13
                refine R_iald hc hT rfl hv14 dX12_turns_154 ?_
                obtain ⟨M15, hM15, hv13⟩ := mb hv13
                refine R_callVv hc hz (As := [.int v14]) (c12_givesC l D h q y _ _ _ _ hM15) w7_172 w7_174 wp5_13 w1_13 w7_175 hd12_givesC ⟨Nat.le_of_ble_eq_true rfl, Nat.le_of_ble_eq_true rfl⟩ rfl rfl (Nat.le_of_ble_eq_true rfl) dX12_turns_155 ?_
                obtain rfl := Option.some.inj hv13
                exact V_sub [1, 2, 3, 4] rfl hJ145
            · rw [if_neg hq115] at hv10
              refine V_aload_n hc dX12_turns_118 rfl 1 rfl ?_
              refine V_iconst hc (v := (0 : Int32)) dX12_turns_119 rfl ?_
              obtain ⟨M21, hM21, hv10⟩ := mb hv10
              refine R_callVv hc hz (As := [.int (0 : Int32)]) (c12_givesC l D h q y _ _ _ _ hM21) w7_172 w7_174 wp5_13 w1_13 w7_175 hd12_givesC ⟨Nat.le_of_ble_eq_true rfl, Nat.le_of_ble_eq_true rfl⟩ rfl rfl (Nat.le_of_ble_eq_true rfl) dX12_turns_120 ?_
              refine V_aload_n hc dX12_turns_123 rfl 1 rfl ?_
              refine V_aload_n hc dX12_turns_124 rfl 1 rfl ?_
              refine R_getr hc 21 rfl (by decide) w6_79 dX12_turns_125 ?_
              refine V_iload_n hc dX12_turns_128 rfl 4 rfl ?_
              obtain ⟨v22, hv22, hv10⟩ := mb hv10
              refine R_iald hc hT rfl hv22 dX12_turns_129 ?_
              obtain ⟨M23, hM23, hv10⟩ := mb hv10
              refine R_callVv hc hz (As := [.int v22]) (c12_givesD l D h q y _ _ _ _ hM23) w8_36 w8_38 wp7_4 w1_13 w8_39 hd12_givesD ⟨Nat.le_of_ble_eq_true rfl, Nat.le_of_ble_eq_true rfl⟩ rfl rfl (Nat.le_of_ble_eq_true rfl) dX12_turns_130 ?_
              refine V_iinc hc (j := 4) (v := (i3 + (1 : Int32))) dX12_turns_133 rfl rfl (by decide) rfl ?_
              refine V_goto hc dX12_turns_136 rfl ?_
              obtain ⟨rfl, rfl, rfl⟩ := si3 hv10
              exact V_sub [2, 3, 4, 0] rfl hJ80
          · rw [if_neg hq80] at hv10
            refine V_iload_n hc dX12_turns_83 rfl 2 rfl ?_
            refine V_if_ne hc dX12_turns_84 rfl (fun hq84 => ?_) (fun hq84 => ?_)
            · rw [if_neg hq84] at hv10
              refine V_aload_n hc dX12_turns_92 rfl 1 rfl ?_
              refine V_aload_n hc dX12_turns_93 rfl 1 rfl ?_
              refine R_getr hc 20 rfl (by decide) w6_78 dX12_turns_94 ?_
              refine V_iload_n hc dX12_turns_97 rfl 3 rfl ?_
              obtain ⟨v24, hv24, hv10⟩ := mb hv10
              refine R_iald hc hT rfl hv24 dX12_turns_98 ?_
              obtain ⟨M25, hM25, hv10⟩ := mb hv10
              refine R_callVv hc hz (As := [.int v24]) (c12_givesC l D h q y _ _ _ _ hM25) w7_172 w7_174 wp5_13 w1_13 w7_175 hd12_givesC ⟨Nat.le_of_ble_eq_true rfl, Nat.le_of_ble_eq_true rfl⟩ rfl rfl (Nat.le_of_ble_eq_true rfl) dX12_turns_99 ?_
              refine V_aload_n hc dX12_turns_102 rfl 1 rfl ?_
              refine V_iconst hc (v := (0 : Int32)) dX12_turns_103 rfl ?_
              obtain ⟨M26, hM26, hv10⟩ := mb hv10
              refine R_callVv hc hz (As := [.int (0 : Int32)]) (c12_givesD l D h q y _ _ _ _ hM26) w8_36 w8_38 wp7_4 w1_13 w8_39 hd12_givesD ⟨Nat.le_of_ble_eq_true rfl, Nat.le_of_ble_eq_true rfl⟩ rfl rfl (Nat.le_of_ble_eq_true rfl) dX12_turns_104 ?_
              refine V_iinc hc (j := 3) (v := (i2 + (1 : Int32))) dX12_turns_107 rfl rfl (by decide) rfl ?_
              refine V_goto hc dX12_turns_110 rfl ?_
              obtain ⟨rfl, rfl, rfl⟩ := si3 hv10
              exact V_sub [2, 3, 0, 4] rfl hJ80
            · rw [if_pos hq84] at hv10
              refine V_iload hc dX12_turns_87 0 rfl ?_
              refine V_if_ne hc dX12_turns_89 rfl (fun hq89 => ?_) (fun hq89 => ?_)
              · rw [if_neg hq89] at hv10
                refine V_iload hc dX12_turns_113 0 rfl ?_
                refine V_if_eq hc dX12_turns_115 rfl (fun hq115 => ?_) (fun hq115 => ?_)
                · rw [if_pos hq115] at hv10
                  refine V_aload_n hc dX12_turns_139 rfl 1 rfl ?_
                  refine R_getr hc 21 rfl (by decide) w6_79 dX12_turns_140 ?_
                  refine V_iload_n hc dX12_turns_143 rfl 4 rfl ?_
                  obtain ⟨v27, hv27, hv10⟩ := mb hv10
                  refine R_iald hc hT rfl hv27 dX12_turns_144 ?_
                  obtain ⟨M28, hv29, hv10⟩ := mb hv10
                  have hJ145 : V E z u (mw h q y M28) 158 [(0, .ref h), (1, .int c1), (2, .int i2), (3, .int i3)] [] := by
                    refine V_aload_n hc dX12_turns_158 rfl 0 rfl ?_
                    refine R_getr hc 20 rfl (by decide) w6_78 dX12_turns_159 ?_
                    refine V_iload_n hc dX12_turns_162 rfl 2 rfl ?_
                    obtain ⟨v32, hv32, hv10⟩ := mb hv10
                    refine R_iald hc hT rfl hv32 dX12_turns_163 ?_
                    obtain ⟨M33, hv34, hv10⟩ := mb hv10
                    have hJ164 : V E z u (mw h q y M33) 177 [(0, .ref h), (1, .int c1), (2, .int i2), (3, .int i3)] [] := by
                      refine V_iinc hc (j := 2) (v := (i2 + (1 : Int32))) dX12_turns_177 rfl rfl (by decide) rfl ?_
                      refine V_iinc hc (j := 3) (v := (i3 + (1 : Int32))) dX12_turns_180 rfl rfl (by decide) rfl ?_
                      obtain ⟨rfl, rfl, rfl⟩ := si3 hv10
                      exact V_sub [2, 3, 1, 0] rfl hJ80
                    refine V_if_ne hc dX12_turns_164 rfl (fun hq164 => ?_) (fun hq164 => ?_)
                    · rw [if_neg hq164] at hv34
                      obtain rfl := Option.some.inj hv34
                      exact V_sub [0, 1, 2, 3] rfl hJ164
                    · rw [if_pos hq164] at hv34
                      refine V_aload_n hc dX12_turns_167 rfl 0 rfl ?_
                      refine V_aload_n hc dX12_turns_168 rfl 0 rfl ?_
                      refine R_getr hc 21 rfl (by decide) w6_79 dX12_turns_169 ?_
                      refine V_iload_n hc dX12_turns_172 rfl 3 rfl ?_
                      obtain ⟨v35, hv35, hv34⟩ := mb hv34
                      refine R_iald hc hT rfl hv35 dX12_turns_173 ?_
                      obtain ⟨M36, hM36, hv34⟩ := mb hv34
                      refine R_callVv hc hz (As := [.int v35]) (c12_givesD l D h q y _ _ _ _ hM36) w8_36 w8_38 wp7_4 w1_13 w8_39 hd12_givesD ⟨Nat.le_of_ble_eq_true rfl, Nat.le_of_ble_eq_true rfl⟩ rfl rfl (Nat.le_of_ble_eq_true rfl) dX12_turns_174 ?_
                      obtain rfl := Option.some.inj hv34
                      exact V_sub [0, 1, 2, 3] rfl hJ164
                  refine V_if_ne hc dX12_turns_145 rfl (fun hq145 => ?_) (fun hq145 => ?_)
                  · rw [if_neg hq145] at hv29
                    obtain rfl := Option.some.inj hv29
                    exact V_sub [1, 2, 3, 4] rfl hJ145
                  · rw [if_pos hq145] at hv29
                    refine V_aload_n hc dX12_turns_148 rfl 1 rfl ?_
                    refine V_aload_n hc dX12_turns_149 rfl 1 rfl ?_
                    refine R_getr hc 20 rfl (by decide) w6_78 dX12_turns_150 ?_
                    refine V_iload_n hc dX12_turns_153 rfl 3 rfl ?_
                    obtain ⟨v30, hv30, hv29⟩ := mb hv29
                    refine R_iald hc hT rfl hv30 dX12_turns_154 ?_
                    obtain ⟨M31, hM31, hv29⟩ := mb hv29
                    refine R_callVv hc hz (As := [.int v30]) (c12_givesC l D h q y _ _ _ _ hM31) w7_172 w7_174 wp5_13 w1_13 w7_175 hd12_givesC ⟨Nat.le_of_ble_eq_true rfl, Nat.le_of_ble_eq_true rfl⟩ rfl rfl (Nat.le_of_ble_eq_true rfl) dX12_turns_155 ?_
                    obtain rfl := Option.some.inj hv29
                    exact V_sub [1, 2, 3, 4] rfl hJ145
                · rw [if_neg hq115] at hv10
                  refine V_aload_n hc dX12_turns_118 rfl 1 rfl ?_
                  refine V_iconst hc (v := (0 : Int32)) dX12_turns_119 rfl ?_
                  obtain ⟨M37, hM37, hv10⟩ := mb hv10
                  refine R_callVv hc hz (As := [.int (0 : Int32)]) (c12_givesC l D h q y _ _ _ _ hM37) w7_172 w7_174 wp5_13 w1_13 w7_175 hd12_givesC ⟨Nat.le_of_ble_eq_true rfl, Nat.le_of_ble_eq_true rfl⟩ rfl rfl (Nat.le_of_ble_eq_true rfl) dX12_turns_120 ?_
                  refine V_aload_n hc dX12_turns_123 rfl 1 rfl ?_
                  refine V_aload_n hc dX12_turns_124 rfl 1 rfl ?_
                  refine R_getr hc 21 rfl (by decide) w6_79 dX12_turns_125 ?_
                  refine V_iload_n hc dX12_turns_128 rfl 4 rfl ?_
                  obtain ⟨v38, hv38, hv10⟩ := mb hv10
                  refine R_iald hc hT rfl hv38 dX12_turns_129 ?_
                  obtain ⟨M39, hM39, hv10⟩ := mb hv10
                  refine R_callVv hc hz (As := [.int v38]) (c12_givesD l D h q y _ _ _ _ hM39) w8_36 w8_38 wp7_4 w1_13 w8_39 hd12_givesD ⟨Nat.le_of_ble_eq_true rfl, Nat.le_of_ble_eq_true rfl⟩ rfl rfl (Nat.le_of_ble_eq_true rfl) dX12_turns_130 ?_
                  refine V_iinc hc (j := 4) (v := (i3 + (1 : Int32))) dX12_turns_133 rfl rfl (by decide) rfl ?_
                  refine V_goto hc dX12_turns_136 rfl ?_
                  obtain ⟨rfl, rfl, rfl⟩ := si3 hv10
                  exact V_sub [2, 3, 4, 0] rfl hJ80
              · rw [if_pos hq89] at hv10
                refine V_aload_n hc dX12_turns_92 rfl 1 rfl ?_
                refine V_aload_n hc dX12_turns_93 rfl 1 rfl ?_
                refine R_getr hc 20 rfl (by decide) w6_78 dX12_turns_94 ?_
                refine V_iload_n hc dX12_turns_97 rfl 3 rfl ?_
                obtain ⟨v40, hv40, hv10⟩ := mb hv10
                refine R_iald hc hT rfl hv40 dX12_turns_98 ?_
                obtain ⟨M41, hM41, hv10⟩ := mb hv10
                refine R_callVv hc hz (As := [.int v40]) (c12_givesC l D h q y _ _ _ _ hM41) w7_172 w7_174 wp5_13 w1_13 w7_175 hd12_givesC ⟨Nat.le_of_ble_eq_true rfl, Nat.le_of_ble_eq_true rfl⟩ rfl rfl (Nat.le_of_ble_eq_true rfl) dX12_turns_99 ?_
                refine V_aload_n hc dX12_turns_102 rfl 1 rfl ?_
                refine V_iconst hc (v := (0 : Int32)) dX12_turns_103 rfl ?_
                obtain ⟨M42, hM42, hv10⟩ := mb hv10
                refine R_callVv hc hz (As := [.int (0 : Int32)]) (c12_givesD l D h q y _ _ _ _ hM42) w8_36 w8_38 wp7_4 w1_13 w8_39 hd12_givesD ⟨Nat.le_of_ble_eq_true rfl, Nat.le_of_ble_eq_true rfl⟩ rfl rfl (Nat.le_of_ble_eq_true rfl) dX12_turns_104 ?_
                refine V_iinc hc (j := 3) (v := (i2 + (1 : Int32))) dX12_turns_107 rfl rfl (by decide) rfl ?_
                refine V_goto hc dX12_turns_110 rfl ?_
                obtain ⟨rfl, rfl, rfl⟩ := si3 hv10
                exact V_sub [2, 3, 0, 4] rfl hJ80
        refine V_icmp_ge hc dX12_turns_59 rfl (fun hq59 => ?_) (fun hq59 => ?_)
        · rw [if_pos hq59] at hv5
          refine V_iconst hc (v := (0 : Int32)) dX12_turns_75 rfl ?_
          obtain rfl := Option.some.inj hv5
          exact V_sub [1, 2, 3, 4, 0] rfl hJ59
        · rw [if_neg hq59] at hv5
          refine V_aload_n hc dX12_turns_62 rfl 1 rfl ?_
          refine R_getr hc 21 rfl (by decide) w6_79 dX12_turns_63 ?_
          refine V_iload_n hc dX12_turns_66 rfl 4 rfl ?_
          obtain ⟨v6, hv6, hv5⟩ := mb hv5
          refine R_iald hc hT rfl hv6 dX12_turns_67 ?_
          refine V_if_le hc dX12_turns_68 rfl (fun hq68 => ?_) (fun hq68 => ?_)
          · rw [if_pos hq68] at hv5
            refine V_iconst hc (v := (0 : Int32)) dX12_turns_75 rfl ?_
            obtain rfl := Option.some.inj hv5
            exact V_sub [1, 2, 3, 4, 0] rfl hJ59
          · rw [if_neg hq68] at hv5
            refine V_iconst hc (v := (1 : Int32)) dX12_turns_71 rfl ?_
            refine V_goto hc dX12_turns_72 rfl ?_
            obtain rfl := Option.some.inj hv5
            exact V_sub [1, 2, 3, 4, 0] rfl hJ59
      refine V_icmp_ge hc dX12_turns_35 rfl (fun hq35 => ?_) (fun hq35 => ?_)
      · rw [if_pos hq35] at hv2
        refine V_iconst hc (v := (0 : Int32)) dX12_turns_51 rfl ?_
        obtain rfl := Option.some.inj hv2
        exact V_sub [0, 1, 2, 3] rfl hJ35
      · rw [if_neg hq35] at hv2
        refine V_aload_n hc dX12_turns_38 rfl 0 rfl ?_
        refine R_getr hc 20 rfl (by decide) w6_78 dX12_turns_39 ?_
        refine V_iload_n hc dX12_turns_42 rfl 2 rfl ?_
        obtain ⟨v3, hv3, hv2⟩ := mb hv2
        refine R_iald hc hT rfl hv3 dX12_turns_43 ?_
        refine V_if_le hc dX12_turns_44 rfl (fun hq44 => ?_) (fun hq44 => ?_)
        · rw [if_pos hq44] at hv2
          refine V_iconst hc (v := (0 : Int32)) dX12_turns_51 rfl ?_
          obtain rfl := Option.some.inj hv2
          exact V_sub [0, 1, 2, 3] rfl hJ35
        · rw [if_neg hq44] at hv2
          refine V_iconst hc (v := (1 : Int32)) dX12_turns_47 rfl ?_
          refine V_goto hc dX12_turns_48 rfl ?_
          obtain rfl := Option.some.inj hv2
          exact V_sub [0, 1, 2, 3] rfl hJ35
    · rw [if_neg hq19] at hf
      refine V_iload_n hc dX12_turns_22 rfl 3 rfl ?_
      refine V_aload_n hc dX12_turns_23 rfl 0 rfl ?_
      refine R_geti hc 26 rfl (by decide) w6_84 dX12_turns_24 ?_
      refine V_icmp_ge hc dX12_turns_27 rfl (fun hq27 => ?_) (fun hq27 => ?_)
      · rw [if_pos hq27] at hf
        obtain rfl := Option.some.inj hf
        exact V_sub [0] rfl hx0
      · rw [if_neg hq27] at hf
        refine V_iload_n hc dX12_turns_30 rfl 2 rfl ?_
        refine V_aload_n hc dX12_turns_31 rfl 0 rfl ?_
        refine R_geti hc 25 rfl (by decide) w6_83 dX12_turns_32 ?_
        obtain ⟨v43, hv44, hf⟩ := mb hf
        have hJ35 : V E z u (mw h q y M) 52 [(0, .ref h), (1, .int c1), (2, .int i2), (3, .int i3)] [.int v43] := by
          refine V_istore hc dX12_turns_52 (by decide) rfl ?_
          refine V_iload_n hc dX12_turns_54 rfl 4 rfl ?_
          refine V_aload_n hc dX12_turns_55 rfl 1 rfl ?_
          refine R_geti hc 26 rfl (by decide) w6_84 dX12_turns_56 ?_
          obtain ⟨v46, hv47, hf⟩ := mb hf
          have hJ59 : V E z u (mw h q y M) 76 [(0, .ref h), (1, .int c1), (2, .int i2), (3, .int i3), (4, .int v43)] [.int v46] := by
            refine V_istore hc dX12_turns_76 (by decide) rfl ?_
            refine V_iload hc dX12_turns_78 5 rfl ?_
            obtain ⟨x49, x50, M51, hv52, hf⟩ := mb3 hf
            have hJ80 : V E z u (mw h q y M51) 183 [(0, .ref h), (1, .int c1), (2, .int x49), (3, .int x50)] [] := by
              refine V_goto hc dX12_turns_183 rfl ?_
              exact V_sub [0, 1, 2, 3] rfl (ih _ _ _ hf hx0)
            refine V_if_eq hc dX12_turns_80 rfl (fun hq80 => ?_) (fun hq80 => ?_)
            · rw [if_pos hq80] at hv52
              refine V_iload hc dX12_turns_113 0 rfl ?_
              refine V_if_eq hc dX12_turns_115 rfl (fun hq115 => ?_) (fun hq115 => ?_)
              · rw [if_pos hq115] at hv52
                refine V_aload_n hc dX12_turns_139 rfl 1 rfl ?_
                refine R_getr hc 21 rfl (by decide) w6_79 dX12_turns_140 ?_
                refine V_iload_n hc dX12_turns_143 rfl 4 rfl ?_
                obtain ⟨v53, hv53, hv52⟩ := mb hv52
                refine R_iald hc hT rfl hv53 dX12_turns_144 ?_
                obtain ⟨M54, hv55, hv52⟩ := mb hv52
                have hJ145 : V E z u (mw h q y M54) 158 [(0, .ref h), (1, .int c1), (2, .int i2), (3, .int i3)] [] := by
                  refine V_aload_n hc dX12_turns_158 rfl 0 rfl ?_
                  refine R_getr hc 20 rfl (by decide) w6_78 dX12_turns_159 ?_
                  refine V_iload_n hc dX12_turns_162 rfl 2 rfl ?_
                  obtain ⟨v58, hv58, hv52⟩ := mb hv52
                  refine R_iald hc hT rfl hv58 dX12_turns_163 ?_
                  obtain ⟨M59, hv60, hv52⟩ := mb hv52
                  have hJ164 : V E z u (mw h q y M59) 177 [(0, .ref h), (1, .int c1), (2, .int i2), (3, .int i3)] [] := by
                    refine V_iinc hc (j := 2) (v := (i2 + (1 : Int32))) dX12_turns_177 rfl rfl (by decide) rfl ?_
                    refine V_iinc hc (j := 3) (v := (i3 + (1 : Int32))) dX12_turns_180 rfl rfl (by decide) rfl ?_
                    obtain ⟨rfl, rfl, rfl⟩ := si3 hv52
                    exact V_sub [2, 3, 1, 0] rfl hJ80
                  refine V_if_ne hc dX12_turns_164 rfl (fun hq164 => ?_) (fun hq164 => ?_)
                  · rw [if_neg hq164] at hv60
                    obtain rfl := Option.some.inj hv60
                    exact V_sub [0, 1, 2, 3] rfl hJ164
                  · rw [if_pos hq164] at hv60
                    refine V_aload_n hc dX12_turns_167 rfl 0 rfl ?_
                    refine V_aload_n hc dX12_turns_168 rfl 0 rfl ?_
                    refine R_getr hc 21 rfl (by decide) w6_79 dX12_turns_169 ?_
                    refine V_iload_n hc dX12_turns_172 rfl 3 rfl ?_
                    obtain ⟨v61, hv61, hv60⟩ := mb hv60
                    refine R_iald hc hT rfl hv61 dX12_turns_173 ?_
                    obtain ⟨M62, hM62, hv60⟩ := mb hv60
                    refine R_callVv hc hz (As := [.int v61]) (c12_givesD l D h q y _ _ _ _ hM62) w8_36 w8_38 wp7_4 w1_13 w8_39 hd12_givesD ⟨Nat.le_of_ble_eq_true rfl, Nat.le_of_ble_eq_true rfl⟩ rfl rfl (Nat.le_of_ble_eq_true rfl) dX12_turns_174 ?_
                    obtain rfl := Option.some.inj hv60
                    exact V_sub [0, 1, 2, 3] rfl hJ164
                refine V_if_ne hc dX12_turns_145 rfl (fun hq145 => ?_) (fun hq145 => ?_)
                · rw [if_neg hq145] at hv55
                  obtain rfl := Option.some.inj hv55
                  exact V_sub [1, 2, 3, 4] rfl hJ145
                · rw [if_pos hq145] at hv55
                  refine V_aload_n hc dX12_turns_148 rfl 1 rfl ?_
                  refine V_aload_n hc dX12_turns_149 rfl 1 rfl ?_
                  refine R_getr hc 20 rfl (by decide) w6_78 dX12_turns_150 ?_
                  refine V_iload_n hc dX12_turns_153 rfl 3 rfl ?_
                  obtain ⟨v56, hv56, hv55⟩ := mb hv55
                  refine R_iald hc hT rfl hv56 dX12_turns_154 ?_
                  obtain ⟨M57, hM57, hv55⟩ := mb hv55
                  refine R_callVv hc hz (As := [.int v56]) (c12_givesC l D h q y _ _ _ _ hM57) w7_172 w7_174 wp5_13 w1_13 w7_175 hd12_givesC ⟨Nat.le_of_ble_eq_true rfl, Nat.le_of_ble_eq_true rfl⟩ rfl rfl (Nat.le_of_ble_eq_true rfl) dX12_turns_155 ?_
                  obtain rfl := Option.some.inj hv55
                  exact V_sub [1, 2, 3, 4] rfl hJ145
              · rw [if_neg hq115] at hv52
                refine V_aload_n hc dX12_turns_118 rfl 1 rfl ?_
                refine V_iconst hc (v := (0 : Int32)) dX12_turns_119 rfl ?_
                obtain ⟨M63, hM63, hv52⟩ := mb hv52
                refine R_callVv hc hz (As := [.int (0 : Int32)]) (c12_givesC l D h q y _ _ _ _ hM63) w7_172 w7_174 wp5_13 w1_13 w7_175 hd12_givesC ⟨Nat.le_of_ble_eq_true rfl, Nat.le_of_ble_eq_true rfl⟩ rfl rfl (Nat.le_of_ble_eq_true rfl) dX12_turns_120 ?_
                refine V_aload_n hc dX12_turns_123 rfl 1 rfl ?_
                refine V_aload_n hc dX12_turns_124 rfl 1 rfl ?_
                refine R_getr hc 21 rfl (by decide) w6_79 dX12_turns_125 ?_
                refine V_iload_n hc dX12_turns_128 rfl 4 rfl ?_
                obtain ⟨v64, hv64, hv52⟩ := mb hv52
                refine R_iald hc hT rfl hv64 dX12_turns_129 ?_
                obtain ⟨M65, hM65, hv52⟩ := mb hv52
                refine R_callVv hc hz (As := [.int v64]) (c12_givesD l D h q y _ _ _ _ hM65) w8_36 w8_38 wp7_4 w1_13 w8_39 hd12_givesD ⟨Nat.le_of_ble_eq_true rfl, Nat.le_of_ble_eq_true rfl⟩ rfl rfl (Nat.le_of_ble_eq_true rfl) dX12_turns_130 ?_
                refine V_iinc hc (j := 4) (v := (i3 + (1 : Int32))) dX12_turns_133 rfl rfl (by decide) rfl ?_
                refine V_goto hc dX12_turns_136 rfl ?_
                obtain ⟨rfl, rfl, rfl⟩ := si3 hv52
                exact V_sub [2, 3, 4, 0] rfl hJ80
            · rw [if_neg hq80] at hv52
              refine V_iload_n hc dX12_turns_83 rfl 2 rfl ?_
              refine V_if_ne hc dX12_turns_84 rfl (fun hq84 => ?_) (fun hq84 => ?_)
              · rw [if_neg hq84] at hv52
                refine V_aload_n hc dX12_turns_92 rfl 1 rfl ?_
                refine V_aload_n hc dX12_turns_93 rfl 1 rfl ?_
                refine R_getr hc 20 rfl (by decide) w6_78 dX12_turns_94 ?_
                refine V_iload_n hc dX12_turns_97 rfl 3 rfl ?_
                obtain ⟨v66, hv66, hv52⟩ := mb hv52
                refine R_iald hc hT rfl hv66 dX12_turns_98 ?_
                obtain ⟨M67, hM67, hv52⟩ := mb hv52
                refine R_callVv hc hz (As := [.int v66]) (c12_givesC l D h q y _ _ _ _ hM67) w7_172 w7_174 wp5_13 w1_13 w7_175 hd12_givesC ⟨Nat.le_of_ble_eq_true rfl, Nat.le_of_ble_eq_true rfl⟩ rfl rfl (Nat.le_of_ble_eq_true rfl) dX12_turns_99 ?_
                refine V_aload_n hc dX12_turns_102 rfl 1 rfl ?_
                refine V_iconst hc (v := (0 : Int32)) dX12_turns_103 rfl ?_
                obtain ⟨M68, hM68, hv52⟩ := mb hv52
                refine R_callVv hc hz (As := [.int (0 : Int32)]) (c12_givesD l D h q y _ _ _ _ hM68) w8_36 w8_38 wp7_4 w1_13 w8_39 hd12_givesD ⟨Nat.le_of_ble_eq_true rfl, Nat.le_of_ble_eq_true rfl⟩ rfl rfl (Nat.le_of_ble_eq_true rfl) dX12_turns_104 ?_
                refine V_iinc hc (j := 3) (v := (i2 + (1 : Int32))) dX12_turns_107 rfl rfl (by decide) rfl ?_
                refine V_goto hc dX12_turns_110 rfl ?_
                obtain ⟨rfl, rfl, rfl⟩ := si3 hv52
                exact V_sub [2, 3, 0, 4] rfl hJ80
              · rw [if_pos hq84] at hv52
                refine V_iload hc dX12_turns_87 0 rfl ?_
                refine V_if_ne hc dX12_turns_89 rfl (fun hq89 => ?_) (fun hq89 => ?_)
                · rw [if_neg hq89] at hv52
                  refine V_iload hc dX12_turns_113 0 rfl ?_
                  refine V_if_eq hc dX12_turns_115 rfl (fun hq115 => ?_) (fun hq115 => ?_)
                  · rw [if_pos hq115] at hv52
                    refine V_aload_n hc dX12_turns_139 rfl 1 rfl ?_
                    refine R_getr hc 21 rfl (by decide) w6_79 dX12_turns_140 ?_
                    refine V_iload_n hc dX12_turns_143 rfl 4 rfl ?_
                    obtain ⟨v69, hv69, hv52⟩ := mb hv52
                    refine R_iald hc hT rfl hv69 dX12_turns_144 ?_
                    obtain ⟨M70, hv71, hv52⟩ := mb hv52
                    have hJ145 : V E z u (mw h q y M70) 158 [(0, .ref h), (1, .int c1), (2, .int i2), (3, .int i3)] [] := by
                      refine V_aload_n hc dX12_turns_158 rfl 0 rfl ?_
                      refine R_getr hc 20 rfl (by decide) w6_78 dX12_turns_159 ?_
                      refine V_iload_n hc dX12_turns_162 rfl 2 rfl ?_
                      obtain ⟨v74, hv74, hv52⟩ := mb hv52
                      refine R_iald hc hT rfl hv74 dX12_turns_163 ?_
                      obtain ⟨M75, hv76, hv52⟩ := mb hv52
                      have hJ164 : V E z u (mw h q y M75) 177 [(0, .ref h), (1, .int c1), (2, .int i2), (3, .int i3)] [] := by
                        refine V_iinc hc (j := 2) (v := (i2 + (1 : Int32))) dX12_turns_177 rfl rfl (by decide) rfl ?_
                        refine V_iinc hc (j := 3) (v := (i3 + (1 : Int32))) dX12_turns_180 rfl rfl (by decide) rfl ?_
                        obtain ⟨rfl, rfl, rfl⟩ := si3 hv52
                        exact V_sub [2, 3, 1, 0] rfl hJ80
                      refine V_if_ne hc dX12_turns_164 rfl (fun hq164 => ?_) (fun hq164 => ?_)
                      · rw [if_neg hq164] at hv76
                        obtain rfl := Option.some.inj hv76
                        exact V_sub [0, 1, 2, 3] rfl hJ164
                      · rw [if_pos hq164] at hv76
                        refine V_aload_n hc dX12_turns_167 rfl 0 rfl ?_
                        refine V_aload_n hc dX12_turns_168 rfl 0 rfl ?_
                        refine R_getr hc 21 rfl (by decide) w6_79 dX12_turns_169 ?_
                        refine V_iload_n hc dX12_turns_172 rfl 3 rfl ?_
                        obtain ⟨v77, hv77, hv76⟩ := mb hv76
                        refine R_iald hc hT rfl hv77 dX12_turns_173 ?_
                        obtain ⟨M78, hM78, hv76⟩ := mb hv76
                        refine R_callVv hc hz (As := [.int v77]) (c12_givesD l D h q y _ _ _ _ hM78) w8_36 w8_38 wp7_4 w1_13 w8_39 hd12_givesD ⟨Nat.le_of_ble_eq_true rfl, Nat.le_of_ble_eq_true rfl⟩ rfl rfl (Nat.le_of_ble_eq_true rfl) dX12_turns_174 ?_
                        obtain rfl := Option.some.inj hv76
                        exact V_sub [0, 1, 2, 3] rfl hJ164
                    refine V_if_ne hc dX12_turns_145 rfl (fun hq145 => ?_) (fun hq145 => ?_)
                    · rw [if_neg hq145] at hv71
                      obtain rfl := Option.some.inj hv71
                      exact V_sub [1, 2, 3, 4] rfl hJ145
                    · rw [if_pos hq145] at hv71
                      refine V_aload_n hc dX12_turns_148 rfl 1 rfl ?_
                      refine V_aload_n hc dX12_turns_149 rfl 1 rfl ?_
                      refine R_getr hc 20 rfl (by decide) w6_78 dX12_turns_150 ?_
                      refine V_iload_n hc dX12_turns_153 rfl 3 rfl ?_
                      obtain ⟨v72, hv72, hv71⟩ := mb hv71
                      refine R_iald hc hT rfl hv72 dX12_turns_154 ?_
                      obtain ⟨M73, hM73, hv71⟩ := mb hv71
                      refine R_callVv hc hz (As := [.int v72]) (c12_givesC l D h q y _ _ _ _ hM73) w7_172 w7_174 wp5_13 w1_13 w7_175 hd12_givesC ⟨Nat.le_of_ble_eq_true rfl, Nat.le_of_ble_eq_true rfl⟩ rfl rfl (Nat.le_of_ble_eq_true rfl) dX12_turns_155 ?_
                      obtain rfl := Option.some.inj hv71
                      exact V_sub [1, 2, 3, 4] rfl hJ145
                  · rw [if_neg hq115] at hv52
                    refine V_aload_n hc dX12_turns_118 rfl 1 rfl ?_
                    refine V_iconst hc (v := (0 : Int32)) dX12_turns_119 rfl ?_
                    obtain ⟨M79, hM79, hv52⟩ := mb hv52
                    refine R_callVv hc hz (As := [.int (0 : Int32)]) (c12_givesC l D h q y _ _ _ _ hM79) w7_172 w7_174 wp5_13 w1_13 w7_175 hd12_givesC ⟨Nat.le_of_ble_eq_true rfl, Nat.le_of_ble_eq_true rfl⟩ rfl rfl (Nat.le_of_ble_eq_true rfl) dX12_turns_120 ?_
                    refine V_aload_n hc dX12_turns_123 rfl 1 rfl ?_
                    refine V_aload_n hc dX12_turns_124 rfl 1 rfl ?_
                    refine R_getr hc 21 rfl (by decide) w6_79 dX12_turns_125 ?_
                    refine V_iload_n hc dX12_turns_128 rfl 4 rfl ?_
                    obtain ⟨v80, hv80, hv52⟩ := mb hv52
                    refine R_iald hc hT rfl hv80 dX12_turns_129 ?_
                    obtain ⟨M81, hM81, hv52⟩ := mb hv52
                    refine R_callVv hc hz (As := [.int v80]) (c12_givesD l D h q y _ _ _ _ hM81) w8_36 w8_38 wp7_4 w1_13 w8_39 hd12_givesD ⟨Nat.le_of_ble_eq_true rfl, Nat.le_of_ble_eq_true rfl⟩ rfl rfl (Nat.le_of_ble_eq_true rfl) dX12_turns_130 ?_
                    refine V_iinc hc (j := 4) (v := (i3 + (1 : Int32))) dX12_turns_133 rfl rfl (by decide) rfl ?_
                    refine V_goto hc dX12_turns_136 rfl ?_
                    obtain ⟨rfl, rfl, rfl⟩ := si3 hv52
                    exact V_sub [2, 3, 4, 0] rfl hJ80
                · rw [if_pos hq89] at hv52
                  refine V_aload_n hc dX12_turns_92 rfl 1 rfl ?_
                  refine V_aload_n hc dX12_turns_93 rfl 1 rfl ?_
                  refine R_getr hc 20 rfl (by decide) w6_78 dX12_turns_94 ?_
                  refine V_iload_n hc dX12_turns_97 rfl 3 rfl ?_
                  obtain ⟨v82, hv82, hv52⟩ := mb hv52
                  refine R_iald hc hT rfl hv82 dX12_turns_98 ?_
                  obtain ⟨M83, hM83, hv52⟩ := mb hv52
                  refine R_callVv hc hz (As := [.int v82]) (c12_givesC l D h q y _ _ _ _ hM83) w7_172 w7_174 wp5_13 w1_13 w7_175 hd12_givesC ⟨Nat.le_of_ble_eq_true rfl, Nat.le_of_ble_eq_true rfl⟩ rfl rfl (Nat.le_of_ble_eq_true rfl) dX12_turns_99 ?_
                  refine V_aload_n hc dX12_turns_102 rfl 1 rfl ?_
                  refine V_iconst hc (v := (0 : Int32)) dX12_turns_103 rfl ?_
                  obtain ⟨M84, hM84, hv52⟩ := mb hv52
                  refine R_callVv hc hz (As := [.int (0 : Int32)]) (c12_givesD l D h q y _ _ _ _ hM84) w8_36 w8_38 wp7_4 w1_13 w8_39 hd12_givesD ⟨Nat.le_of_ble_eq_true rfl, Nat.le_of_ble_eq_true rfl⟩ rfl rfl (Nat.le_of_ble_eq_true rfl) dX12_turns_104 ?_
                  refine V_iinc hc (j := 3) (v := (i2 + (1 : Int32))) dX12_turns_107 rfl rfl (by decide) rfl ?_
                  refine V_goto hc dX12_turns_110 rfl ?_
                  obtain ⟨rfl, rfl, rfl⟩ := si3 hv52
                  exact V_sub [2, 3, 0, 4] rfl hJ80
          refine V_icmp_ge hc dX12_turns_59 rfl (fun hq59 => ?_) (fun hq59 => ?_)
          · rw [if_pos hq59] at hv47
            refine V_iconst hc (v := (0 : Int32)) dX12_turns_75 rfl ?_
            obtain rfl := Option.some.inj hv47
            exact V_sub [1, 2, 3, 4, 0] rfl hJ59
          · rw [if_neg hq59] at hv47
            refine V_aload_n hc dX12_turns_62 rfl 1 rfl ?_
            refine R_getr hc 21 rfl (by decide) w6_79 dX12_turns_63 ?_
            refine V_iload_n hc dX12_turns_66 rfl 4 rfl ?_
            obtain ⟨v48, hv48, hv47⟩ := mb hv47
            refine R_iald hc hT rfl hv48 dX12_turns_67 ?_
            refine V_if_le hc dX12_turns_68 rfl (fun hq68 => ?_) (fun hq68 => ?_)
            · rw [if_pos hq68] at hv47
              refine V_iconst hc (v := (0 : Int32)) dX12_turns_75 rfl ?_
              obtain rfl := Option.some.inj hv47
              exact V_sub [1, 2, 3, 4, 0] rfl hJ59
            · rw [if_neg hq68] at hv47
              refine V_iconst hc (v := (1 : Int32)) dX12_turns_71 rfl ?_
              refine V_goto hc dX12_turns_72 rfl ?_
              obtain rfl := Option.some.inj hv47
              exact V_sub [1, 2, 3, 4, 0] rfl hJ59
        refine V_icmp_ge hc dX12_turns_35 rfl (fun hq35 => ?_) (fun hq35 => ?_)
        · rw [if_pos hq35] at hv44
          refine V_iconst hc (v := (0 : Int32)) dX12_turns_51 rfl ?_
          obtain rfl := Option.some.inj hv44
          exact V_sub [0, 1, 2, 3] rfl hJ35
        · rw [if_neg hq35] at hv44
          refine V_aload_n hc dX12_turns_38 rfl 0 rfl ?_
          refine R_getr hc 20 rfl (by decide) w6_78 dX12_turns_39 ?_
          refine V_iload_n hc dX12_turns_42 rfl 2 rfl ?_
          obtain ⟨v45, hv45, hv44⟩ := mb hv44
          refine R_iald hc hT rfl hv45 dX12_turns_43 ?_
          refine V_if_le hc dX12_turns_44 rfl (fun hq44 => ?_) (fun hq44 => ?_)
          · rw [if_pos hq44] at hv44
            refine V_iconst hc (v := (0 : Int32)) dX12_turns_51 rfl ?_
            obtain rfl := Option.some.inj hv44
            exact V_sub [0, 1, 2, 3] rfl hJ35
          · rw [if_neg hq44] at hv44
            refine V_iconst hc (v := (1 : Int32)) dX12_turns_47 rfl ?_
            refine V_goto hc dX12_turns_48 rfl ?_
            obtain rfl := Option.some.inj hv44
            exact V_sub [0, 1, 2, 3] rfl hJ35
set_option maxHeartbeats 4000000 in
set_option maxRecDepth 100000 in
theorem c12_turns (l : Launch) (D : va_G) (h : Nat) (q : Nat → Nat) (y : CyT) (zM uM z u : Nat) {M M' : MS} {p1 : Int32} (hf : f12_turns M p1 = some M') : CT l D y yX12_turns cX12_turns 6 none 1 26 zM uM [.ref h, .int p1] z u (mw h q y M) z u (mw h q y M') none := by
  refine CT.of (by decide) (Nat.le_of_ble_eq_true rfl) (fun E hc hzz hnm => ?_)
  have hc : Cx E "FarEditorsModel" cX12_turns 6 := hc
  have hz := hzz.1
  have hT := hz.2.2.1
  show V E z u (mw h q y M) 0 [(0, .ref h), (1, .int p1)] []
  unfold f12_turns at hf
  refine V_iconst hc (v := (0 : Int32)) dX12_turns_0 rfl ?_
  refine V_istore_n hc dX12_turns_1 rfl (by decide) rfl ?_
  refine V_iconst hc (v := (0 : Int32)) dX12_turns_2 rfl ?_
  refine V_istore_n hc dX12_turns_3 rfl (by decide) rfl ?_
  refine V_aload_n hc dX12_turns_4 rfl 2 rfl ?_
  refine V_iconst hc (v := (0 : Int32)) dX12_turns_5 rfl ?_
  refine R_puti hc 27 rfl (by decide) w6_85 rfl rfl rfl dX12_turns_6 ?_
  refine V_aload_n hc dX12_turns_9 rfl 2 rfl ?_
  refine V_iconst hc (v := (0 : Int32)) dX12_turns_10 rfl ?_
  refine R_puti hc 28 rfl (by decide) w6_86 rfl rfl rfl dX12_turns_11 ?_
  obtain ⟨M1, hv2, hf⟩ := mb hf
  refine V_sub [2, 3, 1, 0] rfl (L12_turns_14_ok hc hz p1 FU _ _ _ hv2 ?_)
  refine V_aload_n hc dX12_turns_186 rfl 0 rfl ?_
  refine V_aload_n hc dX12_turns_187 rfl 0 rfl ?_
  refine R_getr hc 22 rfl (by decide) w6_80 dX12_turns_188 ?_
  refine V_aload_n hc dX12_turns_191 rfl 0 rfl ?_
  refine R_geti hc 27 rfl (by decide) w6_85 dX12_turns_192 ?_
  obtain ⟨M3, hM3, hf⟩ := mb hf
  refine R_callVv hc hz (As := [.ref (q 22), .int (gF M1 27)]) (c12_settles l D h q y _ _ _ _ rfl hM3) w7_150 w7_152 wp5_9 w1_13 w7_153 hd12_settles ⟨Nat.le_of_ble_eq_true rfl, Nat.le_of_ble_eq_true rfl⟩ rfl rfl (Nat.le_of_ble_eq_true rfl) dX12_turns_195 ?_
  refine V_aload_n hc dX12_turns_198 rfl 0 rfl ?_
  refine V_aload_n hc dX12_turns_199 rfl 0 rfl ?_
  refine R_getr hc 23 rfl (by decide) w6_81 dX12_turns_200 ?_
  refine V_aload_n hc dX12_turns_203 rfl 0 rfl ?_
  refine R_geti hc 28 rfl (by decide) w6_86 dX12_turns_204 ?_
  obtain ⟨M4, hM4, hf⟩ := mb hf
  refine R_callVv hc hz (As := [.ref (q 23), .int (gF M3 28)]) (c12_settles l D h q y _ _ _ _ rfl hM4) w7_150 w7_152 wp5_9 w1_13 w7_153 hd12_settles ⟨Nat.le_of_ble_eq_true rfl, Nat.le_of_ble_eq_true rfl⟩ rfl rfl (Nat.le_of_ble_eq_true rfl) dX12_turns_207 ?_
  obtain rfl := Option.some.inj hf
  exact V_vret hc hzz rfl rfl rfl rfl dX12_turns_210
