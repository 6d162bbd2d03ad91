noncomputable def L12_wayMany_4 (M : MS) : Nat → Int32 → Int32 → Option (Int32)
  | 0, _, _ => none
  | n + 1, i1, i2 =>
    if (gF M 32) ≤ i2 then (
      some i1
    ) else (
      (ld M 30 (1 : Int32)).bind fun v1 =>
      (f12_its M i2 (0 : Int32)).bind fun v2 =>
      (f12_its M i2 (19 : Int32)).bind fun v3 =>
      (
        if v3 = (-1 : Int32) then (
          some (0 : Int32)
        ) else (
          some (1 : Int32)
        )
      ).bind fun v4 =>
      L12_wayMany_4 M n (i1 + ((v1 - v2) + v4)) (i2 + (1 : Int32))
    )
noncomputable def f12_wayMany (M : MS) : Option (Int32) :=
  (L12_wayMany_4 M FU (0 : Int32) (0 : Int32)).bind fun x1 =>
  some x1
theorem hd12_wayMany : yX12_wayMany.cls = "FarEditorsModel" ∧ yX12_wayMany.cls ≠ "java/lang/invoke/MethodHandle" ∧ yX12_wayMany.cls ≠ "java/lang/invoke/VarHandle" ∧ (parseMethodDescriptor yX12_wayMany.desc).map (fun d => d.parameters.length) = some 0 := by decide +kernel
set_option maxHeartbeats 4000000 in
set_option maxRecDepth 100000 in
theorem L12_wayMany_4_ok {E : CxT} {l : Launch} {D : va_G} {h : Nat} {q : Nat → Nat} {y : CyT} {zM uM z u : Nat} (hc : Cx E "FarEditorsModel" cX12_wayMany 3) (hz : Cy E l D y 1 22 zM uM) (M : MS) : ∀ (n : Nat) (i1 : Int32) (i2 : Int32) {o1 : Int32}, L12_wayMany_4 M n i1 i2 = some o1 → (hx0 : V E z u (mw h q y M) 51 [(1, .int o1)] []) → V E z u (mw h q y M) 4 [(0, .ref h), (1, .int i1), (2, .int i2)] [] := by
  have hT := hz.2.2.1
  intro n
  induction n with
  | zero => intro i1 i2 o1 hf; cases hf
  | succ n ih =>
    intro i1 i2 o1 hf hx0
    unfold L12_wayMany_4 at hf
    refine V_iload_n hc dX12_wayMany_4 rfl 2 rfl ?_
    refine V_aload_n hc dX12_wayMany_5 rfl 0 rfl ?_
    refine R_geti hc 32 rfl (by decide) w6_90 dX12_wayMany_6 ?_
    refine V_icmp_ge hc dX12_wayMany_9 rfl (fun hq9 => ?_) (fun hq9 => ?_)
    · rw [if_pos hq9] at hf
      obtain rfl := Option.some.inj hf
      exact V_sub [1] rfl hx0
    · rw [if_neg hq9] at hf
      refine V_iload_n hc dX12_wayMany_12 rfl 1 rfl ?_
      refine V_aload_n hc dX12_wayMany_13 rfl 0 rfl ?_
      refine R_getr hc 30 rfl (by decide) w6_88 dX12_wayMany_14 ?_
      refine V_iconst hc (v := (1 : Int32)) dX12_wayMany_17 rfl ?_
      obtain ⟨v1, hv1, hf⟩ := mb hf
      refine R_iald hc hT rfl hv1 dX12_wayMany_18 ?_
      refine V_aload_n hc dX12_wayMany_19 rfl 0 rfl ?_
      refine V_iload_n hc dX12_wayMany_20 rfl 2 rfl ?_
      refine V_iconst hc (v := (0 : Int32)) dX12_wayMany_21 rfl ?_
      obtain ⟨v2, hv2, hf⟩ := mb hf
      refine R_callVi hc hz (As := [.int i2, .int (0 : Int32)]) (c12_its l D h q y _ _ _ _ hv2) w7_142 w7_144 wp5_7 w1_13 w7_145 hd12_its ⟨Nat.le_of_ble_eq_true rfl, Nat.le_of_ble_eq_true rfl⟩ rfl rfl (Nat.le_of_ble_eq_true rfl) dX12_wayMany_22 ?_
      refine V_isub hc dX12_wayMany_25 ?_
      refine V_aload_n hc dX12_wayMany_26 rfl 0 rfl ?_
      refine V_iload_n hc dX12_wayMany_27 rfl 2 rfl ?_
      refine V_bipush hc (v := (19 : Int32)) dX12_wayMany_28 rfl ?_
      obtain ⟨v3, hv3, hf⟩ := mb hf
      refine R_callVi hc hz (As := [.int i2, .int (19 : Int32)]) (c12_its l D h q y _ _ _ _ hv3) w7_142 w7_144 wp5_7 w1_13 w7_145 hd12_its ⟨Nat.le_of_ble_eq_true rfl, Nat.le_of_ble_eq_true rfl⟩ rfl rfl (Nat.le_of_ble_eq_true rfl) dX12_wayMany_30 ?_
      refine V_iconst hc (v := (-1 : Int32)) dX12_wayMany_33 rfl ?_
      obtain ⟨v4, hv5, hf⟩ := mb hf
      have hJ34 : V E z u (mw h q y M) 42 [(0, .ref h), (2, .int i2)] [.int v4, .int (v1 - v2), .int i1] := by
        refine V_iadd hc dX12_wayMany_42 ?_
        refine V_iadd hc dX12_wayMany_43 ?_
        refine V_istore_n hc dX12_wayMany_44 rfl (by decide) rfl ?_
        refine V_iinc hc (j := 2) (v := (i2 + (1 : Int32))) dX12_wayMany_45 rfl rfl (by decide) rfl ?_
        refine V_goto hc dX12_wayMany_48 rfl ?_
        exact V_sub [2, 1, 0] rfl (ih _ _ hf hx0)
      refine V_icmp_ne hc dX12_wayMany_34 rfl (fun hq34 => ?_) (fun hq34 => ?_)
      · rw [if_neg hq34] at hv5
        refine V_iconst hc (v := (1 : Int32)) dX12_wayMany_41 rfl ?_
        obtain rfl := Option.some.inj hv5
        exact V_sub [0, 2] rfl hJ34
      · rw [if_pos hq34] at hv5
        refine V_iconst hc (v := (0 : Int32)) dX12_wayMany_37 rfl ?_
        refine V_goto hc dX12_wayMany_38 rfl ?_
        obtain rfl := Option.some.inj hv5
        exact V_sub [0, 2] rfl hJ34
set_option maxHeartbeats 4000000 in
set_option maxRecDepth 100000 in
theorem c12_wayMany (l : Launch) (D : va_G) (h : Nat) (q : Nat → Nat) (y : CyT) (zM uM z u : Nat) {M : MS} {r : Int32} (hf : f12_wayMany M = some r) : CT l D y yX12_wayMany cX12_wayMany 3 (some .int) 1 22 zM uM [.ref h] z u (mw h q y M) z u (mw h q y M) (some (.int r)) := by
  refine CT.of (by decide) (Nat.le_of_ble_eq_true rfl) (fun E hc hzz hnm => ?_)
  have hc : Cx E "FarEditorsModel" cX12_wayMany 3 := hc
  have hz := hzz.1
  have hT := hz.2.2.1
  show V E z u (mw h q y M) 0 [(0, .ref h)] []
  unfold f12_wayMany at hf
  refine V_iconst hc (v := (0 : Int32)) dX12_wayMany_0 rfl ?_
  refine V_istore_n hc dX12_wayMany_1 rfl (by decide) rfl ?_
  refine V_iconst hc (v := (0 : Int32)) dX12_wayMany_2 rfl ?_
  refine V_istore_n hc dX12_wayMany_3 rfl (by decide) rfl ?_
  obtain ⟨x1, hv2, hf⟩ := mb hf
  refine V_sub [2, 1, 0] rfl (L12_wayMany_4_ok hc hz M FU _ _ hv2 ?_)
  refine V_iload_n hc dX12_wayMany_51 rfl 0 rfl ?_
  obtain rfl := Option.some.inj hf
  exact V_iret hc hzz rfl rfl rfl rfl rfl dX12_wayMany_52
noncomputable def L12_ticksGo_7 (c1 : Int32) : Nat → Int32 → MS → Option (MS)
  | 0, _, _ => none
  | n + 1, i2, M =>
    if c1 ≤ i2 then (
      some M
    ) else (
      (f12_tickGoes M).bind fun M1 =>
      L12_ticksGo_7 c1 n (i2 + (1 : Int32)) M1
    )
noncomputable def f12_ticksGo (M : MS) (p1 : Int32) : Option (MS) :=
  (L12_ticksGo_7 p1 FU (0 : Int32) (sF M 42 (0 : Int32))).bind fun M1 =>
  some M1
theorem hd12_ticksGo : yX12_ticksGo.cls = "FarEditorsModel" ∧ yX12_ticksGo.cls ≠ "java/lang/invoke/MethodHandle" ∧ yX12_ticksGo.cls ≠ "java/lang/invoke/VarHandle" ∧ (parseMethodDescriptor yX12_ticksGo.desc).map (fun d => d.parameters.length) = some 1 := by decide +kernel
set_option maxHeartbeats 4000000 in
set_option maxRecDepth 100000 in
theorem L12_ticksGo_7_ok {E : CxT} {l : Launch} {D : va_G} {h : Nat} {q : Nat → Nat} {y : CyT} {zM uM z u : Nat} (hc : Cx E "FarEditorsModel" cX12_ticksGo 3) (hz : Cy E l D y 5 123 zM uM) (c1 : Int32) : ∀ (n : Nat) (i2 : Int32) (M : MS) {Mo : MS}, L12_ticksGo_7 c1 n i2 M = some Mo → (hx0 : V E z u (mw h q y Mo) 22 [] []) → V E z u (mw h q y M) 7 [(0, .ref h), (1, .int c1), (2, .int i2)] [] := by
  have hT := hz.2.2.1
  intro n
  induction n with
  | zero => intro i2 M Mo hf; cases hf
  | succ n ih =>
    intro i2 M Mo hf hx0
    unfold L12_ticksGo_7 at hf
    refine V_iload_n hc dX12_ticksGo_7 rfl 2 rfl ?_
    refine V_iload_n hc dX12_ticksGo_8 rfl 1 rfl ?_
    refine V_icmp_ge hc dX12_ticksGo_9 rfl (fun hq9 => ?_) (fun hq9 => ?_)
    · rw [if_pos hq9] at hf
      obtain rfl := Option.some.inj hf
      exact V_sub [] rfl hx0
    · rw [if_neg hq9] at hf
      refine V_aload_n hc dX12_ticksGo_12 rfl 0 rfl ?_
      obtain ⟨M1, hM1, hf⟩ := mb hf
      refine R_callVv hc hz (As := []) (c12_tickGoes l D h q y _ _ _ _ hM1) w8_12 w8_14 wp6_14 w1_13 w8_15 hd12_tickGoes ⟨Nat.le_of_ble_eq_true rfl, Nat.le_of_ble_eq_true rfl⟩ rfl rfl (Nat.le_of_ble_eq_true rfl) dX12_ticksGo_13 ?_
      refine V_iinc hc (j := 2) (v := (i2 + (1 : Int32))) dX12_ticksGo_16 rfl rfl (by decide) rfl ?_
      refine V_goto hc dX12_ticksGo_19 rfl ?_
      exact V_sub [1, 2, 0] rfl (ih _ _ hf hx0)
set_option maxHeartbeats 4000000 in
set_option maxRecDepth 100000 in
theorem c12_ticksGo (l : Launch) (D : va_G) (h : Nat) (q : Nat → Nat) (y : CyT) (zM uM z u : Nat) {M M' : MS} {p1 : Int32} (hf : f12_ticksGo M p1 = some M') : CT l D y yX12_ticksGo cX12_ticksGo 3 none 5 123 zM uM [.ref h, .int p1] z u (mw h q y M) z u (mw h q y M') none := by
  refine CT.of (by decide) (Nat.le_of_ble_eq_true rfl) (fun E hc hzz hnm => ?_)
  have hc : Cx E "FarEditorsModel" cX12_ticksGo 3 := hc
  have hz := hzz.1
  have hT := hz.2.2.1
  show V E z u (mw h q y M) 0 [(0, .ref h), (1, .int p1)] []
  unfold f12_ticksGo at hf
  refine V_aload_n hc dX12_ticksGo_0 rfl 0 rfl ?_
  refine V_iconst hc (v := (0 : Int32)) dX12_ticksGo_1 rfl ?_
  refine R_puti hc 42 rfl (by decide) w6_100 rfl rfl rfl dX12_ticksGo_2 ?_
  refine V_iconst hc (v := (0 : Int32)) dX12_ticksGo_5 rfl ?_
  refine V_istore_n hc dX12_ticksGo_6 rfl (by decide) rfl ?_
  obtain ⟨M1, hv2, hf⟩ := mb hf
  refine V_sub [1, 2, 0] rfl (L12_ticksGo_7_ok hc hz p1 FU _ _ hv2 ?_)
  obtain rfl := Option.some.inj hf
  exact V_vret hc hzz rfl rfl rfl rfl dX12_ticksGo_22
noncomputable def f12_editorTold (M : MS) : Option (Int32 × MS) :=
  bn2 (f12_number M (0 : Int32) ((gF M 43) - (1 : Int32))) fun v1 M2 =>
  some (v1, M2)
theorem hd12_editorTold : yX12_editorTold.cls = "FarEditorsModel" ∧ yX12_editorTold.cls ≠ "java/lang/invoke/MethodHandle" ∧ yX12_editorTold.cls ≠ "java/lang/invoke/VarHandle" ∧ (parseMethodDescriptor yX12_editorTold.desc).map (fun d => d.parameters.length) = some 0 := by decide +kernel
set_option maxHeartbeats 4000000 in
set_option maxRecDepth 100000 in
theorem c12_editorTold (l : Launch) (D : va_G) (h : Nat) (q : Nat → Nat) (y : CyT) (zM uM z u : Nat) {M M' : MS} {r : Int32} (hf : f12_editorTold M = some (r, M')) : CT l D y yX12_editorTold cX12_editorTold 1 (some .int) 2 49 zM uM [.ref h] z u (mw h q y M) z u (mw h q y M') (some (.int r)) := by
  refine CT.of (by decide) (Nat.le_of_ble_eq_true rfl) (fun E hc hzz hnm => ?_)
  have hc : Cx E "FarEditorsModel" cX12_editorTold 1 := hc
  have hz := hzz.1
  have hT := hz.2.2.1
  show V E z u (mw h q y M) 0 [(0, .ref h)] []
  unfold f12_editorTold at hf
  refine V_aload_n hc dX12_editorTold_0 rfl 0 rfl ?_
  refine V_iconst hc (v := (0 : Int32)) dX12_editorTold_1 rfl ?_
  refine V_aload_n hc dX12_editorTold_2 rfl 0 rfl ?_
  refine R_geti hc 43 rfl (by decide) w6_101 dX12_editorTold_3 ?_
  refine V_iconst hc (v := (1 : Int32)) dX12_editorTold_6 rfl ?_
  refine V_isub hc dX12_editorTold_7 ?_
  obtain ⟨v1, M2, hv1, hf⟩ := mb2 hf
  refine R_callVi hc hz (As := [.int (0 : Int32), .int ((gF M 43) - (1 : Int32))]) (c12_number l D h q y _ _ _ _ hv1) w7_84 w7_86 wp4_10 w1_13 w7_87 hd12_number ⟨Nat.le_of_ble_eq_true rfl, Nat.le_of_ble_eq_true rfl⟩ rfl rfl (Nat.le_of_ble_eq_true rfl) dX12_editorTold_8 ?_
  obtain ⟨rfl, rfl⟩ := si2 hf
  exact V_iret hc hzz rfl rfl rfl rfl rfl dX12_editorTold_11
noncomputable def L12_opTold_4 (c1 : Int32) : Nat → Int32 → Int32 → MS → Option (MS)
  | 0, _, _, _ => none
  | n + 1, i2, i3, M =>
    if i3 = 0 then (
      some M
    ) else (
      if (gF M 5) = 0 then (
        (
          if i2 = (40 : Int32) then (
            (f12_fail M (5 : Int32) (gF M 2)).bind fun M3 =>
            some M3
          ) else (
            some M
          )
        ).bind fun M1 =>
        bn2 (f12_takesSign M1 (43 : Int32)) fun v4 M5 =>
        (
          if v4 = 0 then (
            bn2 (f12_takesSign M5 (45 : Int32)) fun v8 M9 =>
            bn2 (f12_number M9 (1 : Int32) (99 : Int32)) fun v10 M11 =>
            some M11
          ) else (
            bn2 (f12_word M5 (20 : Int32)) fun v12 M13 =>
            some M13
          )
        ).bind fun M6 =>
        bn2 (f12_look M6) fun v14 M15 =>
        (
          if v14 = (-1 : Int32) then (
            some (0 : Int32)
          ) else (
            if c1 = 0 then (
              if v14 = (59 : Int32) then (
                some (0 : Int32)
              ) else (
                some (1 : Int32)
              )
            ) else (
              some (1 : Int32)
            )
          )
        ).bind fun v16 =>
        L12_opTold_4 c1 n (i2 + (1 : Int32)) v16 M15
      ) else (
        some M
      )
    )
noncomputable def f12_opTold (M : MS) (p1 : Int32) : Option (MS) :=
  (L12_opTold_4 p1 FU (0 : Int32) (1 : Int32) M).bind fun M1 =>
  some M1
theorem hd12_opTold : yX12_opTold.cls = "FarEditorsModel" ∧ yX12_opTold.cls ≠ "java/lang/invoke/MethodHandle" ∧ yX12_opTold.cls ≠ "java/lang/invoke/VarHandle" ∧ (parseMethodDescriptor yX12_opTold.desc).map (fun d => d.parameters.length) = some 1 := by decide +kernel
set_option maxHeartbeats 4000000 in
set_option maxRecDepth 100000 in
theorem L12_opTold_4_ok {E : CxT} {l : Launch} {D : va_G} {h : Nat} {q : Nat → Nat} {y : CyT} {zM uM z u : Nat} (hc : Cx E "FarEditorsModel" cX12_opTold 5) (hz : Cy E l D y 2 49 zM uM) (c1 : Int32) : ∀ (n : Nat) (i2 : Int32) (i3 : Int32) (M : MS) {Mo : MS}, L12_opTold_4 c1 n i2 i3 M = some Mo → (hx0 : V E z u (mw h q y Mo) 99 [] []) → V E z u (mw h q y M) 4 [(0, .ref h), (1, .int c1), (2, .int i2), (3, .int i3)] [] := by
  have hT := hz.2.2.1
  intro n
  induction n with
  | zero => intro i2 i3 M Mo hf; cases hf
  | succ n ih =>
    intro i2 i3 M Mo hf hx0
    unfold L12_opTold_4 at hf
    refine V_iload_n hc dX12_opTold_4 rfl 3 rfl ?_
    refine V_if_eq hc dX12_opTold_5 rfl (fun hq5 => ?_) (fun hq5 => ?_)
    · rw [if_pos hq5] at hf
      obtain rfl := Option.some.inj hf
      exact V_sub [] rfl hx0
    · rw [if_neg hq5] at hf
      refine V_aload_n hc dX12_opTold_8 rfl 0 rfl ?_
      refine R_geti hc 5 rfl (by decide) w6_63 dX12_opTold_9 ?_
      refine V_if_ne hc dX12_opTold_12 rfl (fun hq12 => ?_) (fun hq12 => ?_)
      · rw [if_neg hq12] at hf
        obtain rfl := Option.some.inj hf
        exact V_sub [] rfl hx0
      · rw [if_pos hq12] at hf
        refine V_iload_n hc dX12_opTold_15 rfl 2 rfl ?_
        refine V_bipush hc (v := (40 : Int32)) dX12_opTold_16 rfl ?_
        obtain ⟨M1, hv2, hf⟩ := mb hf
        have hJ18 : V E z u (mw h q y M1) 30 [(0, .ref h), (1, .int c1), (2, .int i2)] [] := by
          refine V_aload_n hc dX12_opTold_30 rfl 0 rfl ?_
          refine V_bipush hc (v := (43 : Int32)) dX12_opTold_31 rfl ?_
          obtain ⟨v4, M5, hv4, hf⟩ := mb2 hf
          refine R_callVi hc hz (As := [.int (43 : Int32)]) (c12_takesSign l D h q y _ _ _ _ hv4) w7_95 w7_97 wp4_12 w1_13 w7_98 hd12_takesSign ⟨Nat.le_of_ble_eq_true rfl, Nat.le_of_ble_eq_true rfl⟩ rfl rfl (Nat.le_of_ble_eq_true rfl) dX12_opTold_33 ?_
          obtain ⟨M6, hv7, hf⟩ := mb hf
          have hJ36 : V E z u (mw h q y M6) 64 [(0, .ref h), (1, .int c1), (2, .int i2)] [] := by
            refine V_iinc hc (j := 2) (v := (i2 + (1 : Int32))) dX12_opTold_64 rfl rfl (by decide) rfl ?_
            refine V_aload_n hc dX12_opTold_67 rfl 1 rfl ?_
            obtain ⟨v14, M15, hv14, hf⟩ := mb2 hf
            refine R_callVi hc hz (As := []) (c12_look l D h q y _ _ _ _ hv14) w7_69 w7_71 wp4_7 w1_13 w7_72 hd12_look ⟨Nat.le_of_ble_eq_true rfl, Nat.le_of_ble_eq_true rfl⟩ rfl rfl (Nat.le_of_ble_eq_true rfl) dX12_opTold_68 ?_
            refine V_istore hc dX12_opTold_71 (by decide) rfl ?_
            refine V_iload hc dX12_opTold_73 0 rfl ?_
            refine V_iconst hc (v := (-1 : Int32)) dX12_opTold_75 rfl ?_
            obtain ⟨v16, hv17, hf⟩ := mb hf
            have hJ76 : V E z u (mw h q y M15) 95 [(0, .ref h), (1, .int c1), (2, .int (i2 + (1 : Int32)))] [.int v16] := by
              refine V_istore_n hc dX12_opTold_95 rfl (by decide) rfl ?_
              refine V_goto hc dX12_opTold_96 rfl ?_
              exact V_sub [1, 2, 3, 0] rfl (ih _ _ _ hf hx0)
            refine V_icmp_eq hc dX12_opTold_76 rfl (fun hq76 => ?_) (fun hq76 => ?_)
            · rw [if_pos hq76] at hv17
              refine V_iconst hc (v := (0 : Int32)) dX12_opTold_94 rfl ?_
              obtain rfl := Option.some.inj hv17
              exact V_sub [2, 3, 1] rfl hJ76
            · rw [if_neg hq76] at hv17
              refine V_iload_n hc dX12_opTold_79 rfl 3 rfl ?_
              refine V_if_ne hc dX12_opTold_80 rfl (fun hq80 => ?_) (fun hq80 => ?_)
              · rw [if_neg hq80] at hv17
                refine V_iconst hc (v := (1 : Int32)) dX12_opTold_90 rfl ?_
                refine V_goto hc dX12_opTold_91 rfl ?_
                obtain rfl := Option.some.inj hv17
                exact V_sub [2, 3, 1] rfl hJ76
              · rw [if_pos hq80] at hv17
                refine V_iload hc dX12_opTold_83 0 rfl ?_
                refine V_bipush hc (v := (59 : Int32)) dX12_opTold_85 rfl ?_
                refine V_icmp_eq hc dX12_opTold_87 rfl (fun hq87 => ?_) (fun hq87 => ?_)
                · rw [if_pos hq87] at hv17
                  refine V_iconst hc (v := (0 : Int32)) dX12_opTold_94 rfl ?_
                  obtain rfl := Option.some.inj hv17
                  exact V_sub [2, 3, 1] rfl hJ76
                · rw [if_neg hq87] at hv17
                  refine V_iconst hc (v := (1 : Int32)) dX12_opTold_90 rfl ?_
                  refine V_goto hc dX12_opTold_91 rfl ?_
                  obtain rfl := Option.some.inj hv17
                  exact V_sub [2, 3, 1] rfl hJ76
          refine V_if_eq hc dX12_opTold_36 rfl (fun hq36 => ?_) (fun hq36 => ?_)
          · rw [if_pos hq36] at hv7
            refine V_aload_n hc dX12_opTold_49 rfl 0 rfl ?_
            refine V_bipush hc (v := (45 : Int32)) dX12_opTold_50 rfl ?_
            obtain ⟨v8, M9, hv8, hv7⟩ := mb2 hv7
            refine R_callVi hc hz (As := [.int (45 : Int32)]) (c12_takesSign l D h q y _ _ _ _ hv8) w7_95 w7_97 wp4_12 w1_13 w7_98 hd12_takesSign ⟨Nat.le_of_ble_eq_true rfl, Nat.le_of_ble_eq_true rfl⟩ rfl rfl (Nat.le_of_ble_eq_true rfl) dX12_opTold_52 ?_
            refine V_pop hc dX12_opTold_55 rfl ?_
            refine V_aload_n hc dX12_opTold_56 rfl 0 rfl ?_
            refine V_iconst hc (v := (1 : Int32)) dX12_opTold_57 rfl ?_
            refine V_bipush hc (v := (99 : Int32)) dX12_opTold_58 rfl ?_
            obtain ⟨v10, M11, hv10, hv7⟩ := mb2 hv7
            refine R_callVi hc hz (As := [.int (1 : Int32), .int (99 : Int32)]) (c12_number l D h q y _ _ _ _ hv10) w7_84 w7_86 wp4_10 w1_13 w7_87 hd12_number ⟨Nat.le_of_ble_eq_true rfl, Nat.le_of_ble_eq_true rfl⟩ rfl rfl (Nat.le_of_ble_eq_true rfl) dX12_opTold_60 ?_
            refine V_pop hc dX12_opTold_63 rfl ?_
            obtain rfl := Option.some.inj hv7
            exact V_sub [0, 1, 2] rfl hJ36
          · rw [if_neg hq36] at hv7
            refine V_aload_n hc dX12_opTold_39 rfl 0 rfl ?_
            refine V_bipush hc (v := (20 : Int32)) dX12_opTold_40 rfl ?_
            obtain ⟨v12, M13, hv12, hv7⟩ := mb2 hv7
            refine R_callVi hc hz (As := [.int (20 : Int32)]) (c12_word l D h q y _ _ _ _ hv12) w7_80 w7_82 wp4_9 w1_13 w7_83 hd12_word ⟨Nat.le_of_ble_eq_true rfl, Nat.le_of_ble_eq_true rfl⟩ rfl rfl (Nat.le_of_ble_eq_true rfl) dX12_opTold_42 ?_
            refine V_pop hc dX12_opTold_45 rfl ?_
            refine V_goto hc dX12_opTold_46 rfl ?_
            obtain rfl := Option.some.inj hv7
            exact V_sub [0, 1, 2] rfl hJ36
        refine V_icmp_ne hc dX12_opTold_18 rfl (fun hq18 => ?_) (fun hq18 => ?_)
        · rw [if_neg hq18] at hv2
          obtain rfl := Option.some.inj hv2
          exact V_sub [0, 1, 2] rfl hJ18
        · rw [if_pos hq18] at hv2
          refine V_aload_n hc dX12_opTold_21 rfl 0 rfl ?_
          refine V_iconst hc (v := (5 : Int32)) dX12_opTold_22 rfl ?_
          refine V_aload_n hc dX12_opTold_23 rfl 0 rfl ?_
          refine R_geti hc 2 rfl (by decide) w6_60 dX12_opTold_24 ?_
          obtain ⟨M3, hM3, hv2⟩ := mb hv2
          refine R_callVv hc hz (As := [.int (5 : Int32), .int (gF M 2)]) (c12_fail l D h q y _ _ _ _ hM3) w7_76 w7_78 wp4_8 w1_13 w7_79 hd12_fail ⟨Nat.le_of_ble_eq_true rfl, Nat.le_of_ble_eq_true rfl⟩ rfl rfl (Nat.le_of_ble_eq_true rfl) dX12_opTold_27 ?_
          obtain rfl := Option.some.inj hv2
          exact V_sub [0, 1, 2] rfl hJ18
set_option maxHeartbeats 4000000 in
set_option maxRecDepth 100000 in
theorem c12_opTold (l : Launch) (D : va_G) (h : Nat) (q : Nat → Nat) (y : CyT) (zM uM z u : Nat) {M M' : MS} {p1 : Int32} (hf : f12_opTold M p1 = some M') : CT l D y yX12_opTold cX12_opTold 5 none 2 49 zM uM [.ref h, .int p1] z u (mw h q y M) z u (mw h q y M') none := by
  refine CT.of (by decide) (Nat.le_of_ble_eq_true rfl) (fun E hc hzz hnm => ?_)
  have hc : Cx E "FarEditorsModel" cX12_opTold 5 := hc
  have hz := hzz.1
  have hT := hz.2.2.1
  show V E z u (mw h q y M) 0 [(0, .ref h), (1, .int p1)] []
  unfold f12_opTold at hf
  refine V_iconst hc (v := (0 : Int32)) dX12_opTold_0 rfl ?_
  refine V_istore_n hc dX12_opTold_1 rfl (by decide) rfl ?_
  refine V_iconst hc (v := (1 : Int32)) dX12_opTold_2 rfl ?_
  refine V_istore_n hc dX12_opTold_3 rfl (by decide) rfl ?_
  obtain ⟨M1, hv2, hf⟩ := mb hf
  refine V_sub [2, 3, 1, 0] rfl (L12_opTold_4_ok hc hz p1 FU _ _ _ hv2 ?_)
  obtain rfl := Option.some.inj hf
  exact V_vret hc hzz rfl rfl rfl rfl dX12_opTold_99
noncomputable def f12_headTold (M : MS) : Option (MS) :=
  (f12_asks M 10).bind fun M1 =>
  bn2 (f12_word M1 (40 : Int32)) fun v2 M3 =>
  (f12_asks (sF (sF M3 44 v2) 45 (gF (sF M3 44 v2) 2)) 11).bind fun M4 =>
  bn2 (f12_number M4 (2 : Int32) (4 : Int32)) fun v5 M6 =>
  some (sF M6 43 v5)
theorem hd12_headTold : yX12_headTold.cls = "FarEditorsModel" ∧ yX12_headTold.cls ≠ "java/lang/invoke/MethodHandle" ∧ yX12_headTold.cls ≠ "java/lang/invoke/VarHandle" ∧ (parseMethodDescriptor yX12_headTold.desc).map (fun d => d.parameters.length) = some 0 := by decide +kernel
set_option maxHeartbeats 4000000 in
set_option maxRecDepth 100000 in
theorem c12_headTold (l : Launch) (D : va_G) (h : Nat) (q : Nat → Nat) (y : CyT) (zM uM z u : Nat) {M M' : MS} (hf : f12_headTold M = some M') : CT l D y yX12_headTold cX12_headTold 1 none 4 85 zM uM [.ref h] z u (mw h q y M) z u (mw h q y M') none := by
  refine CT.of (by decide) (Nat.le_of_ble_eq_true rfl) (fun E hc hzz hnm => ?_)
  have hc : Cx E "FarEditorsModel" cX12_headTold 1 := hc
  have hz := hzz.1
  have hT := hz.2.2.1
  show V E z u (mw h q y M) 0 [(0, .ref h)] []
  unfold f12_headTold at hf
  refine V_aload_n hc dX12_headTold_0 rfl 0 rfl ?_
  refine V_aload_n hc dX12_headTold_1 rfl 0 rfl ?_
  refine R_getr hc 10 rfl (by decide) w6_68 dX12_headTold_2 ?_
  obtain ⟨M1, hM1, hf⟩ := mb hf
  refine R_callVv hc hz (As := [.ref (q 10)]) (c12_asks l D h q y _ _ _ _ rfl hM1) w7_57 w7_59 wp4_4 w1_13 w7_60 hd12_asks ⟨Nat.le_of_ble_eq_true rfl, Nat.le_of_ble_eq_true rfl⟩ rfl rfl (Nat.le_of_ble_eq_true rfl) dX12_headTold_5 ?_
  refine V_aload_n hc dX12_headTold_8 rfl 0 rfl ?_
  refine V_aload_n hc dX12_headTold_9 rfl 0 rfl ?_
  refine V_bipush hc (v := (40 : Int32)) dX12_headTold_10 rfl ?_
  obtain ⟨v2, M3, hv2, hf⟩ := mb2 hf
  refine R_callVi hc hz (As := [.int (40 : Int32)]) (c12_word l D h q y _ _ _ _ hv2) w7_80 w7_82 wp4_9 w1_13 w7_83 hd12_word ⟨Nat.le_of_ble_eq_true rfl, Nat.le_of_ble_eq_true rfl⟩ rfl rfl (Nat.le_of_ble_eq_true rfl) dX12_headTold_12 ?_
  refine R_puti hc 44 rfl (by decide) w6_102 rfl rfl rfl dX12_headTold_15 ?_
  refine V_aload_n hc dX12_headTold_18 rfl 0 rfl ?_
  refine V_aload_n hc dX12_headTold_19 rfl 0 rfl ?_
  refine R_geti hc 2 rfl (by decide) w6_60 dX12_headTold_20 ?_
  refine R_puti hc 45 rfl (by decide) w6_103 rfl rfl rfl dX12_headTold_23 ?_
  refine V_aload_n hc dX12_headTold_26 rfl 0 rfl ?_
  refine V_aload_n hc dX12_headTold_27 rfl 0 rfl ?_
  refine R_getr hc 11 rfl (by decide) w6_69 dX12_headTold_28 ?_
  obtain ⟨M4, hM4, hf⟩ := mb hf
  refine R_callVv hc hz (As := [.ref (q 11)]) (c12_asks l D h q y _ _ _ _ rfl hM4) w7_57 w7_59 wp4_4 w1_13 w7_60 hd12_asks ⟨Nat.le_of_ble_eq_true rfl, Nat.le_of_ble_eq_true rfl⟩ rfl rfl (Nat.le_of_ble_eq_true rfl) dX12_headTold_31 ?_
  refine V_aload_n hc dX12_headTold_34 rfl 0 rfl ?_
  refine V_aload_n hc dX12_headTold_35 rfl 0 rfl ?_
  refine V_iconst hc (v := (2 : Int32)) dX12_headTold_36 rfl ?_
  refine V_iconst hc (v := (4 : Int32)) dX12_headTold_37 rfl ?_
  obtain ⟨v5, M6, hv5, hf⟩ := mb2 hf
  refine R_callVi hc hz (As := [.int (2 : Int32), .int (4 : Int32)]) (c12_number l D h q y _ _ _ _ hv5) w7_84 w7_86 wp4_10 w1_13 w7_87 hd12_number ⟨Nat.le_of_ble_eq_true rfl, Nat.le_of_ble_eq_true rfl⟩ rfl rfl (Nat.le_of_ble_eq_true rfl) dX12_headTold_38 ?_
  refine R_puti hc 43 rfl (by decide) w6_101 rfl rfl rfl dX12_headTold_41 ?_
  obtain rfl := Option.some.inj hf
  exact V_vret hc hzz rfl rfl rfl rfl dX12_headTold_44
noncomputable def f12_markTold (M : MS) : Option (MS) :=
  bn2 (f12_editorTold M) fun v1 M2 =>
  bn2 (f12_number M2 (0 : Int32) (99 : Int32)) fun v3 M4 =>
  bn2 (f12_number M4 (0 : Int32) (99 : Int32)) fun v5 M6 =>
  bn2 (f12_number M6 (0 : Int32) (3 : Int32)) fun v7 M8 =>
  some M8
theorem hd12_markTold : yX12_markTold.cls = "FarEditorsModel" ∧ yX12_markTold.cls ≠ "java/lang/invoke/MethodHandle" ∧ yX12_markTold.cls ≠ "java/lang/invoke/VarHandle" ∧ (parseMethodDescriptor yX12_markTold.desc).map (fun d => d.parameters.length) = some 0 := by decide +kernel
set_option maxHeartbeats 4000000 in
set_option maxRecDepth 100000 in
theorem c12_markTold (l : Launch) (D : va_G) (h : Nat) (q : Nat → Nat) (y : CyT) (zM uM z u : Nat) {M M' : MS} (hf : f12_markTold M = some M') : CT l D y yX12_markTold cX12_markTold 1 none 3 69 zM uM [.ref h] z u (mw h q y M) z u (mw h q y M') none := by
  refine CT.of (by decide) (Nat.le_of_ble_eq_true rfl) (fun E hc hzz hnm => ?_)
  have hc : Cx E "FarEditorsModel" cX12_markTold 1 := hc
  have hz := hzz.1
  have hT := hz.2.2.1
  show V E z u (mw h q y M) 0 [(0, .ref h)] []
  unfold f12_markTold at hf
  refine V_aload_n hc dX12_markTold_0 rfl 0 rfl ?_
  obtain ⟨v1, M2, hv1, hf⟩ := mb2 hf
  refine R_callVi hc hz (As := []) (c12_editorTold l D h q y _ _ _ _ hv1) w7_107 w7_109 wp4_15 w1_13 w7_110 hd12_editorTold ⟨Nat.le_of_ble_eq_true rfl, Nat.le_of_ble_eq_true rfl⟩ rfl rfl (Nat.le_of_ble_eq_true rfl) dX12_markTold_1 ?_
  refine V_pop hc dX12_markTold_4 rfl ?_
  refine V_aload_n hc dX12_markTold_5 rfl 0 rfl ?_
  refine V_iconst hc (v := (0 : Int32)) dX12_markTold_6 rfl ?_
  refine V_bipush hc (v := (99 : Int32)) dX12_markTold_7 rfl ?_
  obtain ⟨v3, M4, hv3, hf⟩ := mb2 hf
  refine R_callVi hc hz (As := [.int (0 : Int32), .int (99 : Int32)]) (c12_number l D h q y _ _ _ _ hv3) w7_84 w7_86 wp4_10 w1_13 w7_87 hd12_number ⟨Nat.le_of_ble_eq_true rfl, Nat.le_of_ble_eq_true rfl⟩ rfl rfl (Nat.le_of_ble_eq_true rfl) dX12_markTold_9 ?_
  refine V_pop hc dX12_markTold_12 rfl ?_
  refine V_aload_n hc dX12_markTold_13 rfl 0 rfl ?_
  refine V_iconst hc (v := (0 : Int32)) dX12_markTold_14 rfl ?_
  refine V_bipush hc (v := (99 : Int32)) dX12_markTold_15 rfl ?_
  obtain ⟨v5, M6, hv5, hf⟩ := mb2 hf
  refine R_callVi hc hz (As := [.int (0 : Int32), .int (99 : Int32)]) (c12_number l D h q y _ _ _ _ hv5) w7_84 w7_86 wp4_10 w1_13 w7_87 hd12_number ⟨Nat.le_of_ble_eq_true rfl, Nat.le_of_ble_eq_true rfl⟩ rfl rfl (Nat.le_of_ble_eq_true rfl) dX12_markTold_17 ?_
  refine V_pop hc dX12_markTold_20 rfl ?_
  refine V_aload_n hc dX12_markTold_21 rfl 0 rfl ?_
  refine V_iconst hc (v := (0 : Int32)) dX12_markTold_22 rfl ?_
  refine V_iconst hc (v := (3 : Int32)) dX12_markTold_23 rfl ?_
  obtain ⟨v7, M8, hv7, hf⟩ := mb2 hf
  refine R_callVi hc hz (As := [.int (0 : Int32), .int (3 : Int32)]) (c12_number l D h q y _ _ _ _ hv7) w7_84 w7_86 wp4_10 w1_13 w7_87 hd12_number ⟨Nat.le_of_ble_eq_true rfl, Nat.le_of_ble_eq_true rfl⟩ rfl rfl (Nat.le_of_ble_eq_true rfl) dX12_markTold_24 ?_
  refine V_pop hc dX12_markTold_27 rfl ?_
  obtain rfl := Option.some.inj hf
  exact V_vret hc hzz rfl rfl rfl rfl dX12_markTold_28
noncomputable def f12_delayTold (M : MS) : Option (MS) :=
  bn2 (f12_editorTold M) fun v1 M2 =>
  bn2 (f12_number M2 (0 : Int32) (9 : Int32)) fun v3 M4 =>
  some M4
theorem hd12_delayTold : yX12_delayTold.cls = "FarEditorsModel" ∧ yX12_delayTold.cls ≠ "java/lang/invoke/MethodHandle" ∧ yX12_delayTold.cls ≠ "java/lang/invoke/VarHandle" ∧ (parseMethodDescriptor yX12_delayTold.desc).map (fun d => d.parameters.length) = some 0 := by decide +kernel
set_option maxHeartbeats 4000000 in
set_option maxRecDepth 100000 in
theorem c12_delayTold (l : Launch) (D : va_G) (h : Nat) (q : Nat → Nat) (y : CyT) (zM uM z u : Nat) {M M' : MS} (hf : f12_delayTold M = some M') : CT l D y yX12_delayTold cX12_delayTold 1 none 3 69 zM uM [.ref h] z u (mw h q y M) z u (mw h q y M') none := by
  refine CT.of (by decide) (Nat.le_of_ble_eq_true rfl) (fun E hc hzz hnm => ?_)
  have hc : Cx E "FarEditorsModel" cX12_delayTold 1 := hc
  have hz := hzz.1
  have hT := hz.2.2.1
  show V E z u (mw h q y M) 0 [(0, .ref h)] []
  unfold f12_delayTold at hf
  refine V_aload_n hc dX12_delayTold_0 rfl 0 rfl ?_
  obtain ⟨v1, M2, hv1, hf⟩ := mb2 hf
  refine R_callVi hc hz (As := []) (c12_editorTold l D h q y _ _ _ _ hv1) w7_107 w7_109 wp4_15 w1_13 w7_110 hd12_editorTold ⟨Nat.le_of_ble_eq_true rfl, Nat.le_of_ble_eq_true rfl⟩ rfl rfl (Nat.le_of_ble_eq_true rfl) dX12_delayTold_1 ?_
  refine V_pop hc dX12_delayTold_4 rfl ?_
  refine V_aload_n hc dX12_delayTold_5 rfl 0 rfl ?_
  refine V_iconst hc (v := (0 : Int32)) dX12_delayTold_6 rfl ?_
  refine V_bipush hc (v := (9 : Int32)) dX12_delayTold_7 rfl ?_
  obtain ⟨v3, M4, hv3, hf⟩ := mb2 hf
  refine R_callVi hc hz (As := [.int (0 : Int32), .int (9 : Int32)]) (c12_number l D h q y _ _ _ _ hv3) w7_84 w7_86 wp4_10 w1_13 w7_87 hd12_number ⟨Nat.le_of_ble_eq_true rfl, Nat.le_of_ble_eq_true rfl⟩ rfl rfl (Nat.le_of_ble_eq_true rfl) dX12_delayTold_9 ?_
  refine V_pop hc dX12_delayTold_12 rfl ?_
  obtain rfl := Option.some.inj hf
  exact V_vret hc hzz rfl rfl rfl rfl dX12_delayTold_13
noncomputable def f12_statementTold (M : MS) : Option (MS) :=
  (
    if (gF M 46) = (60 : Int32) then (
      (f12_fail M (5 : Int32) (gF M 2)).bind fun M3 =>
      some M3
    ) else (
      some M
    )
  ).bind fun M1 =>
  bn2 (f12_takes M1 12) fun v4 M5 =>
  (
    if v4 = 0 then (
      bn2 (f12_takes M5 13) fun v8 M9 =>
      if v8 = 0 then (
        bn2 (f12_takes M9 14) fun v10 M11 =>
        if v10 = 0 then (
          bn2 (f12_takes M11 15) fun v12 M13 =>
          if v12 = 0 then (
            bn2 (f12_takes M13 16) fun v14 M15 =>
            if v14 = 0 then (
              bn2 (f12_takes M15 17) fun v16 M17 =>
              if v16 = 0 then (
                bn2 (f12_takes M17 18) fun v20 M21 =>
                if v20 = 0 then (
                  (f12_asks M21 19).bind fun M22 =>
                  bn2 (f12_number M22 (1 : Int32) (99 : Int32)) fun v23 M24 =>
                  some M24
                ) else (
                  bn2 (f12_editorTold M21) fun v25 M26 =>
                  some M26
                )
              ) else (
                bn2 (f12_editorTold M17) fun v18 M19 =>
                some M19
              )
            ) else (
              (f12_markTold M15).bind fun M27 =>
              some M27
            )
          ) else (
            bn2 (f12_editorTold M13) fun v28 M29 =>
            bn2 (f12_number M29 (0 : Int32) (99 : Int32)) fun v30 M31 =>
            some M31
          )
        ) else (
          bn2 (f12_editorTold M11) fun v32 M33 =>
          (f12_opTold M33 (0 : Int32)).bind fun M34 =>
          some M34
        )
      ) else (
        bn2 (f12_number M9 (0 : Int32) (2 : Int32)) fun v35 M36 =>
        some M36
      )
    ) else (
      (f12_delayTold M5).bind fun M37 =>
      some M37
    )
  ).bind fun M6 =>
  (f12_asksSign M6 (59 : Int32)).bind fun M38 =>
  some (sF M38 46 ((gF M38 46) + (1 : Int32)))
theorem hd12_statementTold : yX12_statementTold.cls = "FarEditorsModel" ∧ yX12_statementTold.cls ≠ "java/lang/invoke/MethodHandle" ∧ yX12_statementTold.cls ≠ "java/lang/invoke/VarHandle" ∧ (parseMethodDescriptor yX12_statementTold.desc).map (fun d => d.parameters.length) = some 0 := by decide +kernel
set_option maxHeartbeats 4000000 in
set_option maxRecDepth 100000 in
theorem c12_statementTold (l : Launch) (D : va_G) (h : Nat) (q : Nat → Nat) (y : CyT) (zM uM z u : Nat) {M M' : MS} (hf : f12_statementTold M = some M') : CT l D y yX12_statementTold cX12_statementTold 1 none 4 89 zM uM [.ref h] z u (mw h q y M) z u (mw h q y M') none := by
  refine CT.of (by decide) (Nat.le_of_ble_eq_true rfl) (fun E hc hzz hnm => ?_)
  have hc : Cx E "FarEditorsModel" cX12_statementTold 1 := hc
  have hz := hzz.1
  have hT := hz.2.2.1
  show V E z u (mw h q y M) 0 [(0, .ref h)] []
  unfold f12_statementTold at hf
  refine V_aload_n hc dX12_statementTold_0 rfl 0 rfl ?_
  refine R_geti hc 46 rfl (by decide) w6_104 dX12_statementTold_1 ?_
  refine V_bipush hc (v := (60 : Int32)) dX12_statementTold_4 rfl ?_
  obtain ⟨M1, hv2, hf⟩ := mb hf
  have hJ6 : V E z u (mw h q y M1) 18 [(0, .ref h)] [] := by
    refine V_aload_n hc dX12_statementTold_18 rfl 0 rfl ?_
    refine V_aload_n hc dX12_statementTold_19 rfl 0 rfl ?_
    refine R_getr hc 12 rfl (by decide) w6_70 dX12_statementTold_20 ?_
    obtain ⟨v4, M5, hv4, hf⟩ := mb2 hf
    refine R_callVi hc hz (As := [.ref (q 12)]) (c12_takes l D h q y _ _ _ _ rfl hv4) w7_61 w7_63 wp4_5 w1_13 w7_64 hd12_takes ⟨Nat.le_of_ble_eq_true rfl, Nat.le_of_ble_eq_true rfl⟩ rfl rfl (Nat.le_of_ble_eq_true rfl) dX12_statementTold_23 ?_
    obtain ⟨M6, hv7, hf⟩ := mb hf
    have hJ26 : V E z u (mw h q y M6) 172 [(0, .ref h)] [] := by
      refine V_aload_n hc dX12_statementTold_172 rfl 0 rfl ?_
      refine V_bipush hc (v := (59 : Int32)) dX12_statementTold_173 rfl ?_
      obtain ⟨M38, hM38, hf⟩ := mb hf
      refine R_callVv hc hz (As := [.int (59 : Int32)]) (c12_asksSign l D h q y _ _ _ _ hM38) w7_91 w7_93 wp4_11 w1_13 w7_94 hd12_asksSign ⟨Nat.le_of_ble_eq_true rfl, Nat.le_of_ble_eq_true rfl⟩ rfl rfl (Nat.le_of_ble_eq_true rfl) dX12_statementTold_175 ?_
      refine V_aload_n hc dX12_statementTold_178 rfl 0 rfl ?_
      refine V_dup hc dX12_statementTold_179 rfl ?_
      refine R_geti hc 46 rfl (by decide) w6_104 dX12_statementTold_180 ?_
      refine V_iconst hc (v := (1 : Int32)) dX12_statementTold_183 rfl ?_
      refine V_iadd hc dX12_statementTold_184 ?_
      refine R_puti hc 46 rfl (by decide) w6_104 rfl rfl rfl dX12_statementTold_185 ?_
      obtain rfl := Option.some.inj hf
      exact V_vret hc hzz rfl rfl rfl rfl dX12_statementTold_188
    refine V_if_eq hc dX12_statementTold_26 rfl (fun hq26 => ?_) (fun hq26 => ?_)
    · rw [if_pos hq26] at hv7
      refine V_aload_n hc dX12_statementTold_36 rfl 0 rfl ?_
      refine V_aload_n hc dX12_statementTold_37 rfl 0 rfl ?_
      refine R_getr hc 13 rfl (by decide) w6_71 dX12_statementTold_38 ?_
      obtain ⟨v8, M9, hv8, hv7⟩ := mb2 hv7
      refine R_callVi hc hz (As := [.ref (q 13)]) (c12_takes l D h q y _ _ _ _ rfl hv8) w7_61 w7_63 wp4_5 w1_13 w7_64 hd12_takes ⟨Nat.le_of_ble_eq_true rfl, Nat.le_of_ble_eq_true rfl⟩ rfl rfl (Nat.le_of_ble_eq_true rfl) dX12_statementTold_41 ?_
      refine V_if_eq hc dX12_statementTold_44 rfl (fun hq44 => ?_) (fun hq44 => ?_)
      · rw [if_pos hq44] at hv7
        refine V_aload_n hc dX12_statementTold_57 rfl 0 rfl ?_
        refine V_aload_n hc dX12_statementTold_58 rfl 0 rfl ?_
        refine R_getr hc 14 rfl (by decide) w6_72 dX12_statementTold_59 ?_
        obtain ⟨v10, M11, hv10, hv7⟩ := mb2 hv7
        refine R_callVi hc hz (As := [.ref (q 14)]) (c12_takes l D h q y _ _ _ _ rfl hv10) w7_61 w7_63 wp4_5 w1_13 w7_64 hd12_takes ⟨Nat.le_of_ble_eq_true rfl, Nat.le_of_ble_eq_true rfl⟩ rfl rfl (Nat.le_of_ble_eq_true rfl) dX12_statementTold_62 ?_
        refine V_if_eq hc dX12_statementTold_65 rfl (fun hq65 => ?_) (fun hq65 => ?_)
        · rw [if_pos hq65] at hv7
          refine V_aload_n hc dX12_statementTold_81 rfl 0 rfl ?_
          refine V_aload_n hc dX12_statementTold_82 rfl 0 rfl ?_
          refine R_getr hc 15 rfl (by decide) w6_73 dX12_statementTold_83 ?_
          obtain ⟨v12, M13, hv12, hv7⟩ := mb2 hv7
          refine R_callVi hc hz (As := [.ref (q 15)]) (c12_takes l D h q y _ _ _ _ rfl hv12) w7_61 w7_63 wp4_5 w1_13 w7_64 hd12_takes ⟨Nat.le_of_ble_eq_true rfl, Nat.le_of_ble_eq_true rfl⟩ rfl rfl (Nat.le_of_ble_eq_true rfl) dX12_statementTold_86 ?_
          refine V_if_eq hc dX12_statementTold_89 rfl (fun hq89 => ?_) (fun hq89 => ?_)
          · rw [if_pos hq89] at hv7
            refine V_aload_n hc dX12_statementTold_108 rfl 0 rfl ?_
            refine V_aload_n hc dX12_statementTold_109 rfl 0 rfl ?_
            refine R_getr hc 16 rfl (by decide) w6_74 dX12_statementTold_110 ?_
            obtain ⟨v14, M15, hv14, hv7⟩ := mb2 hv7
            refine R_callVi hc hz (As := [.ref (q 16)]) (c12_takes l D h q y _ _ _ _ rfl hv14) w7_61 w7_63 wp4_5 w1_13 w7_64 hd12_takes ⟨Nat.le_of_ble_eq_true rfl, Nat.le_of_ble_eq_true rfl⟩ rfl rfl (Nat.le_of_ble_eq_true rfl) dX12_statementTold_113 ?_
            refine V_if_eq hc dX12_statementTold_116 rfl (fun hq116 => ?_) (fun hq116 => ?_)
            · rw [if_pos hq116] at hv7
              refine V_aload_n hc dX12_statementTold_126 rfl 0 rfl ?_
              refine V_aload_n hc dX12_statementTold_127 rfl 0 rfl ?_
              refine R_getr hc 17 rfl (by decide) w6_75 dX12_statementTold_128 ?_
              obtain ⟨v16, M17, hv16, hv7⟩ := mb2 hv7
              refine R_callVi hc hz (As := [.ref (q 17)]) (c12_takes l D h q y _ _ _ _ rfl hv16) w7_61 w7_63 wp4_5 w1_13 w7_64 hd12_takes ⟨Nat.le_of_ble_eq_true rfl, Nat.le_of_ble_eq_true rfl⟩ rfl rfl (Nat.le_of_ble_eq_true rfl) dX12_statementTold_131 ?_
              refine V_if_ne hc dX12_statementTold_134 rfl (fun hq134 => ?_) (fun hq134 => ?_)
              · rw [if_neg hq134] at hv7
                refine V_aload_n hc dX12_statementTold_148 rfl 0 rfl ?_
                obtain ⟨v18, M19, hv18, hv7⟩ := mb2 hv7
                refine R_callVi hc hz (As := []) (c12_editorTold l D h q y _ _ _ _ hv18) w7_107 w7_109 wp4_15 w1_13 w7_110 hd12_editorTold ⟨Nat.le_of_ble_eq_true rfl, Nat.le_of_ble_eq_true rfl⟩ rfl rfl (Nat.le_of_ble_eq_true rfl) dX12_statementTold_149 ?_
                refine V_pop hc dX12_statementTold_152 rfl ?_
                refine V_goto hc dX12_statementTold_153 rfl ?_
                obtain rfl := Option.some.inj hv7
                exact V_sub [0] rfl hJ26
              · rw [if_pos hq134] at hv7
                refine V_aload_n hc dX12_statementTold_137 rfl 0 rfl ?_
                refine V_aload_n hc dX12_statementTold_138 rfl 0 rfl ?_
                refine R_getr hc 18 rfl (by decide) w6_76 dX12_statementTold_139 ?_
                obtain ⟨v20, M21, hv20, hv7⟩ := mb2 hv7
                refine R_callVi hc hz (As := [.ref (q 18)]) (c12_takes l D h q y _ _ _ _ rfl hv20) w7_61 w7_63 wp4_5 w1_13 w7_64 hd12_takes ⟨Nat.le_of_ble_eq_true rfl, Nat.le_of_ble_eq_true rfl⟩ rfl rfl (Nat.le_of_ble_eq_true rfl) dX12_statementTold_142 ?_
                refine V_if_eq hc dX12_statementTold_145 rfl (fun hq145 => ?_) (fun hq145 => ?_)
                · rw [if_pos hq145] at hv7
                  refine V_aload_n hc dX12_statementTold_156 rfl 0 rfl ?_
                  refine V_aload_n hc dX12_statementTold_157 rfl 0 rfl ?_
                  refine R_getr hc 19 rfl (by decide) w6_77 dX12_statementTold_158 ?_
                  obtain ⟨M22, hM22, hv7⟩ := mb hv7
                  refine R_callVv hc hz (As := [.ref (q 19)]) (c12_asks l D h q y _ _ _ _ rfl hM22) w7_57 w7_59 wp4_4 w1_13 w7_60 hd12_asks ⟨Nat.le_of_ble_eq_true rfl, Nat.le_of_ble_eq_true rfl⟩ rfl rfl (Nat.le_of_ble_eq_true rfl) dX12_statementTold_161 ?_
                  refine V_aload_n hc dX12_statementTold_164 rfl 0 rfl ?_
                  refine V_iconst hc (v := (1 : Int32)) dX12_statementTold_165 rfl ?_
                  refine V_bipush hc (v := (99 : Int32)) dX12_statementTold_166 rfl ?_
                  obtain ⟨v23, M24, hv23, hv7⟩ := mb2 hv7
                  refine R_callVi hc hz (As := [.int (1 : Int32), .int (99 : Int32)]) (c12_number l D h q y _ _ _ _ hv23) w7_84 w7_86 wp4_10 w1_13 w7_87 hd12_number ⟨Nat.le_of_ble_eq_true rfl, Nat.le_of_ble_eq_true rfl⟩ rfl rfl (Nat.le_of_ble_eq_true rfl) dX12_statementTold_168 ?_
                  refine V_pop hc dX12_statementTold_171 rfl ?_
                  obtain rfl := Option.some.inj hv7
                  exact V_sub [0] rfl hJ26
                · rw [if_neg hq145] at hv7
                  refine V_aload_n hc dX12_statementTold_148 rfl 0 rfl ?_
                  obtain ⟨v25, M26, hv25, hv7⟩ := mb2 hv7
                  refine R_callVi hc hz (As := []) (c12_editorTold l D h q y _ _ _ _ hv25) w7_107 w7_109 wp4_15 w1_13 w7_110 hd12_editorTold ⟨Nat.le_of_ble_eq_true rfl, Nat.le_of_ble_eq_true rfl⟩ rfl rfl (Nat.le_of_ble_eq_true rfl) dX12_statementTold_149 ?_
                  refine V_pop hc dX12_statementTold_152 rfl ?_
                  refine V_goto hc dX12_statementTold_153 rfl ?_
                  obtain rfl := Option.some.inj hv7
                  exact V_sub [0] rfl hJ26
            · rw [if_neg hq116] at hv7
              refine V_aload_n hc dX12_statementTold_119 rfl 0 rfl ?_
              obtain ⟨M27, hM27, hv7⟩ := mb hv7
              refine R_callVv hc hz (As := []) (c12_markTold l D h q y _ _ _ _ hM27) w7_115 w7_117 wp5_1 w1_13 w7_118 hd12_markTold ⟨Nat.le_of_ble_eq_true rfl, Nat.le_of_ble_eq_true rfl⟩ rfl rfl (Nat.le_of_ble_eq_true rfl) dX12_statementTold_120 ?_
              refine V_goto hc dX12_statementTold_123 rfl ?_
              obtain rfl := Option.some.inj hv7
              exact V_sub [0] rfl hJ26
          · rw [if_neg hq89] at hv7
            refine V_aload_n hc dX12_statementTold_92 rfl 0 rfl ?_
            obtain ⟨v28, M29, hv28, hv7⟩ := mb2 hv7
            refine R_callVi hc hz (As := []) (c12_editorTold l D h q y _ _ _ _ hv28) w7_107 w7_109 wp4_15 w1_13 w7_110 hd12_editorTold ⟨Nat.le_of_ble_eq_true rfl, Nat.le_of_ble_eq_true rfl⟩ rfl rfl (Nat.le_of_ble_eq_true rfl) dX12_statementTold_93 ?_
            refine V_pop hc dX12_statementTold_96 rfl ?_
            refine V_aload_n hc dX12_statementTold_97 rfl 0 rfl ?_
            refine V_iconst hc (v := (0 : Int32)) dX12_statementTold_98 rfl ?_
            refine V_bipush hc (v := (99 : Int32)) dX12_statementTold_99 rfl ?_
            obtain ⟨v30, M31, hv30, hv7⟩ := mb2 hv7
            refine R_callVi hc hz (As := [.int (0 : Int32), .int (99 : Int32)]) (c12_number l D h q y _ _ _ _ hv30) w7_84 w7_86 wp4_10 w1_13 w7_87 hd12_number ⟨Nat.le_of_ble_eq_true rfl, Nat.le_of_ble_eq_true rfl⟩ rfl rfl (Nat.le_of_ble_eq_true rfl) dX12_statementTold_101 ?_
            refine V_pop hc dX12_statementTold_104 rfl ?_
            refine V_goto hc dX12_statementTold_105 rfl ?_
            obtain rfl := Option.some.inj hv7
            exact V_sub [0] rfl hJ26
        · rw [if_neg hq65] at hv7
          refine V_aload_n hc dX12_statementTold_68 rfl 0 rfl ?_
          obtain ⟨v32, M33, hv32, hv7⟩ := mb2 hv7
          refine R_callVi hc hz (As := []) (c12_editorTold l D h q y _ _ _ _ hv32) w7_107 w7_109 wp4_15 w1_13 w7_110 hd12_editorTold ⟨Nat.le_of_ble_eq_true rfl, Nat.le_of_ble_eq_true rfl⟩ rfl rfl (Nat.le_of_ble_eq_true rfl) dX12_statementTold_69 ?_
          refine V_pop hc dX12_statementTold_72 rfl ?_
          refine V_aload_n hc dX12_statementTold_73 rfl 0 rfl ?_
          refine V_iconst hc (v := (0 : Int32)) dX12_statementTold_74 rfl ?_
          obtain ⟨M34, hM34, hv7⟩ := mb hv7
          refine R_callVv hc hz (As := [.int (0 : Int32)]) (c12_opTold l D h q y _ _ _ _ hM34) w7_111 w7_113 wp5_0 w1_13 w7_114 hd12_opTold ⟨Nat.le_of_ble_eq_true rfl, Nat.le_of_ble_eq_true rfl⟩ rfl rfl (Nat.le_of_ble_eq_true rfl) dX12_statementTold_75 ?_
          refine V_goto hc dX12_statementTold_78 rfl ?_
          obtain rfl := Option.some.inj hv7
          exact V_sub [0] rfl hJ26
      · rw [if_neg hq44] at hv7
        refine V_aload_n hc dX12_statementTold_47 rfl 0 rfl ?_
        refine V_iconst hc (v := (0 : Int32)) dX12_statementTold_48 rfl ?_
        refine V_iconst hc (v := (2 : Int32)) dX12_statementTold_49 rfl ?_
        obtain ⟨v35, M36, hv35, hv7⟩ := mb2 hv7
        refine R_callVi hc hz (As := [.int (0 : Int32), .int (2 : Int32)]) (c12_number l D h q y _ _ _ _ hv35) w7_84 w7_86 wp4_10 w1_13 w7_87 hd12_number ⟨Nat.le_of_ble_eq_true rfl, Nat.le_of_ble_eq_true rfl⟩ rfl rfl (Nat.le_of_ble_eq_true rfl) dX12_statementTold_50 ?_
        refine V_pop hc dX12_statementTold_53 rfl ?_
        refine V_goto hc dX12_statementTold_54 rfl ?_
        obtain rfl := Option.some.inj hv7
        exact V_sub [0] rfl hJ26
    · rw [if_neg hq26] at hv7
      refine V_aload_n hc dX12_statementTold_29 rfl 0 rfl ?_
      obtain ⟨M37, hM37, hv7⟩ := mb hv7
      refine R_callVv hc hz (As := []) (c12_delayTold l D h q y _ _ _ _ hM37) w7_103 w7_105 wp4_14 w1_13 w7_106 hd12_delayTold ⟨Nat.le_of_ble_eq_true rfl, Nat.le_of_ble_eq_true rfl⟩ rfl rfl (Nat.le_of_ble_eq_true rfl) dX12_statementTold_30 ?_
      refine V_goto hc dX12_statementTold_33 rfl ?_
      obtain rfl := Option.some.inj hv7
      exact V_sub [0] rfl hJ26
  refine V_icmp_ne hc dX12_statementTold_6 rfl (fun hq6 => ?_) (fun hq6 => ?_)
  · rw [if_neg hq6] at hv2
    obtain rfl := Option.some.inj hv2
    exact V_sub [0] rfl hJ6
  · rw [if_pos hq6] at hv2
    refine V_aload_n hc dX12_statementTold_9 rfl 0 rfl ?_
    refine V_iconst hc (v := (5 : Int32)) dX12_statementTold_10 rfl ?_
    refine V_aload_n hc dX12_statementTold_11 rfl 0 rfl ?_
    refine R_geti hc 2 rfl (by decide) w6_60 dX12_statementTold_12 ?_
    obtain ⟨M3, hM3, hv2⟩ := mb hv2
    refine R_callVv hc hz (As := [.int (5 : Int32), .int (gF M 2)]) (c12_fail l D h q y _ _ _ _ hM3) w7_76 w7_78 wp4_8 w1_13 w7_79 hd12_fail ⟨Nat.le_of_ble_eq_true rfl, Nat.le_of_ble_eq_true rfl⟩ rfl rfl (Nat.le_of_ble_eq_true rfl) dX12_statementTold_15 ?_
    obtain rfl := Option.some.inj hv2
    exact V_sub [0] rfl hJ6
noncomputable def f12_isLaid (M : MS) : Option (MS) :=
  bn2 (f12_takes M 12) fun v1 M2 =>
  (
    if v1 = 0 then (
      bn2 (f12_takes M2 13) fun v5 M6 =>
      if v5 = 0 then (
        some M6
      ) else (
        bn2 (f12_number M6 (0 : Int32) (2 : Int32)) fun v7 M8 =>
        some (sF M8 33 v7)
      )
    ) else (
      bn2 (f12_editorTold M2) fun v9 M10 =>
      (f12_of v9 (16 : Int32)).bind fun v11 =>
      bn2 (f12_number M10 (0 : Int32) (9 : Int32)) fun v12 M13 =>
      (sd M13 30 v11 v12).bind fun M14 =>
      some M14
    )
  ).bind fun M3 =>
  some M3
theorem hd12_isLaid : yX12_isLaid.cls = "FarEditorsModel" ∧ yX12_isLaid.cls ≠ "java/lang/invoke/MethodHandle" ∧ yX12_isLaid.cls ≠ "java/lang/invoke/VarHandle" ∧ (parseMethodDescriptor yX12_isLaid.desc).map (fun d => d.parameters.length) = some 0 := by decide +kernel
set_option maxHeartbeats 4000000 in
set_option maxRecDepth 100000 in
theorem c12_isLaid (l : Launch) (D : va_G) (h : Nat) (q : Nat → Nat) (y : CyT) (zM uM z u : Nat) {M M' : MS} (hf : f12_isLaid M = some M') : CT l D y yX12_isLaid cX12_isLaid 2 none 3 69 zM uM [.ref h] z u (mw h q y M) z u (mw h q y M') none := by
  refine CT.of (by decide) (Nat.le_of_ble_eq_true rfl) (fun E hc hzz hnm => ?_)
  have hc : Cx E "FarEditorsModel" cX12_isLaid 2 := hc
  have hz := hzz.1
  have hT := hz.2.2.1
  show V E z u (mw h q y M) 0 [(0, .ref h)] []
  unfold f12_isLaid at hf
  refine V_aload_n hc dX12_isLaid_0 rfl 0 rfl ?_
  refine V_aload_n hc dX12_isLaid_1 rfl 0 rfl ?_
  refine R_getr hc 12 rfl (by decide) w6_70 dX12_isLaid_2 ?_
  obtain ⟨v1, M2, hv1, hf⟩ := mb2 hf
  refine R_callVi hc hz (As := [.ref (q 12)]) (c12_takes l D h q y _ _ _ _ rfl hv1) w7_61 w7_63 wp4_5 w1_13 w7_64 hd12_takes ⟨Nat.le_of_ble_eq_true rfl, Nat.le_of_ble_eq_true rfl⟩ rfl rfl (Nat.le_of_ble_eq_true rfl) dX12_isLaid_5 ?_
  obtain ⟨M3, hv4, hf⟩ := mb hf
  have hJ8 : V E z u (mw h q y M3) 58 [] [] := by
    obtain rfl := Option.some.inj hf
    exact V_vret hc hzz rfl rfl rfl rfl dX12_isLaid_58
  refine V_if_eq hc dX12_isLaid_8 rfl (fun hq8 => ?_) (fun hq8 => ?_)
  · rw [if_pos hq8] at hv4
    refine V_aload_n hc dX12_isLaid_37 rfl 0 rfl ?_
    refine V_aload_n hc dX12_isLaid_38 rfl 0 rfl ?_
    refine R_getr hc 13 rfl (by decide) w6_71 dX12_isLaid_39 ?_
    obtain ⟨v5, M6, hv5, hv4⟩ := mb2 hv4
    refine R_callVi hc hz (As := [.ref (q 13)]) (c12_takes l D h q y _ _ _ _ rfl hv5) w7_61 w7_63 wp4_5 w1_13 w7_64 hd12_takes ⟨Nat.le_of_ble_eq_true rfl, Nat.le_of_ble_eq_true rfl⟩ rfl rfl (Nat.le_of_ble_eq_true rfl) dX12_isLaid_42 ?_
    refine V_if_eq hc dX12_isLaid_45 rfl (fun hq45 => ?_) (fun hq45 => ?_)
    · rw [if_pos hq45] at hv4
      obtain rfl := Option.some.inj hv4
      exact V_sub [] rfl hJ8
    · rw [if_neg hq45] at hv4
      refine V_aload_n hc dX12_isLaid_48 rfl 0 rfl ?_
      refine V_aload_n hc dX12_isLaid_49 rfl 0 rfl ?_
      refine V_iconst hc (v := (0 : Int32)) dX12_isLaid_50 rfl ?_
      refine V_iconst hc (v := (2 : Int32)) dX12_isLaid_51 rfl ?_
      obtain ⟨v7, M8, hv7, hv4⟩ := mb2 hv4
      refine R_callVi hc hz (As := [.int (0 : Int32), .int (2 : Int32)]) (c12_number l D h q y _ _ _ _ hv7) w7_84 w7_86 wp4_10 w1_13 w7_87 hd12_number ⟨Nat.le_of_ble_eq_true rfl, Nat.le_of_ble_eq_true rfl⟩ rfl rfl (Nat.le_of_ble_eq_true rfl) dX12_isLaid_52 ?_
      refine R_puti hc 33 rfl (by decide) w6_91 rfl rfl rfl dX12_isLaid_55 ?_
      obtain rfl := Option.some.inj hv4
      exact V_sub [] rfl hJ8
  · rw [if_neg hq8] at hv4
    refine V_aload_n hc dX12_isLaid_11 rfl 0 rfl ?_
    obtain ⟨v9, M10, hv9, hv4⟩ := mb2 hv4
    refine R_callVi hc hz (As := []) (c12_editorTold l D h q y _ _ _ _ hv9) w7_107 w7_109 wp4_15 w1_13 w7_110 hd12_editorTold ⟨Nat.le_of_ble_eq_true rfl, Nat.le_of_ble_eq_true rfl⟩ rfl rfl (Nat.le_of_ble_eq_true rfl) dX12_isLaid_12 ?_
    refine V_istore_n hc dX12_isLaid_15 rfl (by decide) rfl ?_
    refine V_aload_n hc dX12_isLaid_16 rfl 1 rfl ?_
    refine R_getr hc 30 rfl (by decide) w6_88 dX12_isLaid_17 ?_
    refine V_iload_n hc dX12_isLaid_20 rfl 0 rfl ?_
    refine V_bipush hc (v := (16 : Int32)) dX12_isLaid_21 rfl ?_
    obtain ⟨v11, hv11, hv4⟩ := mb hv4
    refine R_callSi hc hz (As := [.int v9, .int (16 : Int32)]) (c12_of l D h q y _ _ _ _ hv11) w7_123 w7_124 w1_13 w7_125 hd12_of ⟨Nat.le_of_ble_eq_true rfl, Nat.le_of_ble_eq_true rfl⟩ rfl rfl (Nat.le_of_ble_eq_true rfl) dX12_isLaid_23 ?_
    refine V_aload_n hc dX12_isLaid_26 rfl 1 rfl ?_
    refine V_iconst hc (v := (0 : Int32)) dX12_isLaid_27 rfl ?_
    refine V_bipush hc (v := (9 : Int32)) dX12_isLaid_28 rfl ?_
    obtain ⟨v12, M13, hv12, hv4⟩ := mb2 hv4
    refine R_callVi hc hz (As := [.int (0 : Int32), .int (9 : Int32)]) (c12_number l D h q y _ _ _ _ hv12) w7_84 w7_86 wp4_10 w1_13 w7_87 hd12_number ⟨Nat.le_of_ble_eq_true rfl, Nat.le_of_ble_eq_true rfl⟩ rfl rfl (Nat.le_of_ble_eq_true rfl) dX12_isLaid_30 ?_
    obtain ⟨M14, hM14, hv4⟩ := mb hv4
    refine R_iast hc hT rfl hM14 dX12_isLaid_33 ?_
    refine V_goto hc dX12_isLaid_34 rfl ?_
    obtain rfl := Option.some.inj hv4
    exact V_sub [] rfl hJ8
noncomputable def f12_givesA (M : MS) (p1 : Int32) : Option (MS) :=
  if (gF M 25) = (700 : Int32) then (
    some M
  ) else (
    (sd M 20 (gF M 25) p1).bind fun M1 =>
    some (sF M1 25 ((gF M1 25) + (1 : Int32)))
  )
theorem hd12_givesA : yX12_givesA.cls = "FarEditorsModel" ∧ yX12_givesA.cls ≠ "java/lang/invoke/MethodHandle" ∧ yX12_givesA.cls ≠ "java/lang/invoke/VarHandle" ∧ (parseMethodDescriptor yX12_givesA.desc).map (fun d => d.parameters.length) = some 1 := by decide +kernel
set_option maxHeartbeats 4000000 in
set_option maxRecDepth 100000 in
theorem c12_givesA (l : Launch) (D : va_G) (h : Nat) (q : Nat → Nat) (y : CyT) (zM uM z u : Nat) {M M' : MS} {p1 : Int32} (hf : f12_givesA M p1 = some M') : CT l D y yX12_givesA cX12_givesA 2 none 0 0 zM uM [.ref h, .int p1] z u (mw h q y M) z u (mw h q y M') none := by
  refine CT.of (by decide) (Nat.le_of_ble_eq_true rfl) (fun E hc hzz hnm => ?_)
  have hc : Cx E "FarEditorsModel" cX12_givesA 2 := hc
  have hz := hzz.1
  have hT := hz.2.2.1
  show V E z u (mw h q y M) 0 [(0, .ref h), (1, .int p1)] []
  unfold f12_givesA at hf
  refine V_aload_n hc dX12_givesA_0 rfl 0 rfl ?_
  refine R_geti hc 25 rfl (by decide) w6_83 dX12_givesA_1 ?_
  refine V_sipush hc (v := (700 : Int32)) dX12_givesA_4 rfl ?_
  refine V_icmp_ne hc dX12_givesA_7 rfl (fun hq7 => ?_) (fun hq7 => ?_)
  · rw [if_neg hq7] at hf
    refine V_aload_n hc dX12_givesA_11 rfl 0 rfl ?_
    refine R_getr hc 20 rfl (by decide) w6_78 dX12_givesA_12 ?_
    refine V_aload_n hc dX12_givesA_15 rfl 0 rfl ?_
    refine R_geti hc 25 rfl (by decide) w6_83 dX12_givesA_16 ?_
    refine V_iload_n hc dX12_givesA_19 rfl 1 rfl ?_
    obtain ⟨M1, hM1, hf⟩ := mb hf
    refine R_iast hc hT rfl hM1 dX12_givesA_20 ?_
    refine V_aload_n hc dX12_givesA_21 rfl 0 rfl ?_
    refine V_dup hc dX12_givesA_22 rfl ?_
    refine R_geti hc 25 rfl (by decide) w6_83 dX12_givesA_23 ?_
    refine V_iconst hc (v := (1 : Int32)) dX12_givesA_26 rfl ?_
    refine V_iadd hc dX12_givesA_27 ?_
    refine R_puti hc 25 rfl (by decide) w6_83 rfl rfl rfl dX12_givesA_28 ?_
    obtain rfl := Option.some.inj hf
    exact V_vret hc hzz rfl rfl rfl rfl dX12_givesA_31
  · rw [if_pos hq7] at hf
    obtain rfl := Option.some.inj hf
    exact V_vret hc hzz rfl rfl rfl rfl dX12_givesA_10
noncomputable def L12_isOp_107 (c2 : Int32) (c4 : Int32) (c5 : Int32) : Nat → Int32 → MS → Option (MS)
  | 0, _, _ => none
  | n + 1, i6, M =>
    if c5 ≤ i6 then (
      some M
    ) else (
      if c2 < 0 then (
        some M
      ) else (
        (f12_givesA M c4).bind fun M1 =>
        L12_isOp_107 c2 c4 c5 n (i6 + (1 : Int32)) M1
      )
    )
noncomputable def L12_isOp_40 (c2 : Int32) : Nat → Int32 → MS → Option (MS)
  | 0, _, _ => none
  | n + 1, i5, M =>
    if (gF M 2) ≤ i5 then (
      some M
    ) else (
      (ld M 0 i5).bind fun v1 =>
      (f12_givesA M ((v1 - (97 : Int32)) + (1 : Int32))).bind fun M2 =>
      L12_isOp_40 c2 n (i5 + (1 : Int32)) M2
    )
noncomputable def L12_isOp_15 : Nat → Int32 → Int32 → MS → Option (Int32 × MS)
  | 0, _, _, _ => none
  | n + 1, i2, i3, M =>
    if i3 = 0 then (
      some (i2, M)
    ) else (
      bn2 (f12_takesSign M (43 : Int32)) fun v1 M2 =>
      bn2 (
        if v1 = 0 then (
          bn2 (f12_takesSign M2 (45 : Int32)) fun v6 M7 =>
          (
            if v6 = 0 then (
              some (0 : Int32)
            ) else (
              some (-1 : Int32)
            )
          ).bind fun v8 =>
          bn2 (f12_number M7 (1 : Int32) (99 : Int32)) fun v10 M11 =>
          (L12_isOp_107 (i2 - v10) v8 v10 FU (0 : Int32) M11).bind fun M12 =>
          some ((i2 - v10), M12)
        ) else (
          bn2 (f12_word M2 (20 : Int32)) fun v14 M15 =>
          (L12_isOp_40 i2 FU v14 M15).bind fun M16 =>
          some (i2, M16)
        )
      ) fun x3 M4 =>
      bn2 (f12_look M4) fun v18 M19 =>
      bn2 (
        if v18 = (-1 : Int32) then (
          some ((0 : Int32), M19)
        ) else (
          bn2 (f12_look M19) fun v23 M24 =>
          if v23 = (59 : Int32) then (
            some ((0 : Int32), M24)
          ) else (
            some ((1 : Int32), M24)
          )
        )
      ) fun v20 M21 =>
      L12_isOp_15 n x3 v20 M21
    )
noncomputable def L12_isOp_162 : Nat → Int32 → MS → Option (MS)
  | 0, _, _ => none
  | n + 1, i2, M =>
    if i2 ≤ 0 then (
      some M
    ) else (
      (f12_givesA M (0 : Int32)).bind fun M1 =>
      L12_isOp_162 n (i2 + (-1 : Int32)) M1
    )
noncomputable def f12_isOp (M : MS) (p1 : Int32) : Option (Int32 × MS) :=
  (f12_its M p1 (21 : Int32)).bind fun v1 =>
  bn2 (L12_isOp_15 FU v1 (1 : Int32) (sF M 25 (0 : Int32))) fun x2 M3 =>
  if 0 ≤ x2 then (
    (L12_isOp_162 FU x2 M3).bind fun M5 =>
    (f12_settles M5 20 (gF M5 25)).bind fun M7 =>
    some ((1 : Int32), M7)
  ) else (
    some ((0 : Int32), M3)
  )
theorem hd12_isOp : yX12_isOp.cls = "FarEditorsModel" ∧ yX12_isOp.cls ≠ "java/lang/invoke/MethodHandle" ∧ yX12_isOp.cls ≠ "java/lang/invoke/VarHandle" ∧ (parseMethodDescriptor yX12_isOp.desc).map (fun d => d.parameters.length) = some 1 := by decide +kernel
set_option maxHeartbeats 4000000 in
set_option maxRecDepth 100000 in
theorem L12_isOp_107_ok {E : CxT} {l : Launch} {D : va_G} {h : Nat} {q : Nat → Nat} {y : CyT} {zM uM z u : Nat} (hc : Cx E "FarEditorsModel" cX12_isOp 7) (hz : Cy E l D y 2 49 zM uM) (c2 : Int32) (c4 : Int32) (c5 : Int32) : ∀ (n : Nat) (i6 : Int32) (M : MS) {Mo : MS}, L12_isOp_107 c2 c4 c5 n i6 M = some Mo → (hx0 : V E z u (mw h q y Mo) 130 [(0, .ref h), (2, .int c2)] []) → V E z u (mw h q y M) 107 [(0, .ref h), (2, .int c2), (4, .int c4), (5, .int c5), (6, .int i6)] [] := by
  have hT := hz.2.2.1
  intro n
  induction n with
  | zero => intro i6 M Mo hf; cases hf
  | succ n ih =>
    intro i6 M Mo hf hx0
    unfold L12_isOp_107 at hf
    refine V_iload hc dX12_isOp_107 4 rfl ?_
    refine V_iload hc dX12_isOp_109 3 rfl ?_
    refine V_icmp_ge hc dX12_isOp_111 rfl (fun hq111 => ?_) (fun hq111 => ?_)
    · rw [if_pos hq111] at hf
      obtain rfl := Option.some.inj hf
      exact V_sub [0, 1] rfl hx0
    · rw [if_neg hq111] at hf
      refine V_iload_n hc dX12_isOp_114 rfl 1 rfl ?_
      refine V_if_lt hc dX12_isOp_115 rfl (fun hq115 => ?_) (fun hq115 => ?_)
      · rw [if_pos hq115] at hf
        obtain rfl := Option.some.inj hf
        exact V_sub [0, 1] rfl hx0
      · rw [if_neg hq115] at hf
        refine V_aload_n hc dX12_isOp_118 rfl 0 rfl ?_
        refine V_iload hc dX12_isOp_119 2 rfl ?_
        obtain ⟨M1, hM1, hf⟩ := mb hf
        refine R_callVv hc hz (As := [.int c4]) (c12_givesA l D h q y _ _ _ _ hM1) w7_146 w7_148 wp5_8 w1_13 w7_149 hd12_givesA ⟨Nat.le_of_ble_eq_true rfl, Nat.le_of_ble_eq_true rfl⟩ rfl rfl (Nat.le_of_ble_eq_true rfl) dX12_isOp_121 ?_
        refine V_iinc hc (j := 4) (v := (i6 + (1 : Int32))) dX12_isOp_124 rfl rfl (by decide) rfl ?_
        refine V_goto hc dX12_isOp_127 rfl ?_
        exact V_sub [1, 2, 3, 4, 0] rfl (ih _ _ hf hx0)
set_option maxHeartbeats 4000000 in
set_option maxRecDepth 100000 in
theorem L12_isOp_40_ok {E : CxT} {l : Launch} {D : va_G} {h : Nat} {q : Nat → Nat} {y : CyT} {zM uM z u : Nat} (hc : Cx E "FarEditorsModel" cX12_isOp 7) (hz : Cy E l D y 2 49 zM uM) (c2 : Int32) : ∀ (n : Nat) (i5 : Int32) (M : MS) {Mo : MS}, L12_isOp_40 c2 n i5 M = some Mo → (hx0 : V E z u (mw h q y Mo) 71 [(0, .ref h), (2, .int c2)] []) → V E z u (mw h q y M) 40 [(0, .ref h), (2, .int c2), (5, .int i5)] [] := by
  have hT := hz.2.2.1
  intro n
  induction n with
  | zero => intro i5 M Mo hf; cases hf
  | succ n ih =>
    intro i5 M Mo hf hx0
    unfold L12_isOp_40 at hf
    refine V_iload hc dX12_isOp_40 2 rfl ?_
    refine V_aload_n hc dX12_isOp_42 rfl 0 rfl ?_
    refine R_geti hc 2 rfl (by decide) w6_60 dX12_isOp_43 ?_
    refine V_icmp_ge hc dX12_isOp_46 rfl (fun hq46 => ?_) (fun hq46 => ?_)
    · rw [if_pos hq46] at hf
      obtain rfl := Option.some.inj hf
      exact V_sub [0, 1] rfl hx0
    · rw [if_neg hq46] at hf
      refine V_aload_n hc dX12_isOp_49 rfl 0 rfl ?_
      refine V_aload_n hc dX12_isOp_50 rfl 0 rfl ?_
      refine R_getr hc 0 rfl (by decide) w6_58 dX12_isOp_51 ?_
      refine V_iload hc dX12_isOp_54 2 rfl ?_
      obtain ⟨v1, hv1, hf⟩ := mb hf
      refine R_iald hc hT rfl hv1 dX12_isOp_56 ?_
      refine V_bipush hc (v := (97 : Int32)) dX12_isOp_57 rfl ?_
      refine V_isub hc dX12_isOp_59 ?_
      refine V_iconst hc (v := (1 : Int32)) dX12_isOp_60 rfl ?_
      refine V_iadd hc dX12_isOp_61 ?_
      obtain ⟨M2, hM2, hf⟩ := mb hf
      refine R_callVv hc hz (As := [.int ((v1 - (97 : Int32)) + (1 : Int32))]) (c12_givesA l D h q y _ _ _ _ hM2) w7_146 w7_148 wp5_8 w1_13 w7_149 hd12_givesA ⟨Nat.le_of_ble_eq_true rfl, Nat.le_of_ble_eq_true rfl⟩ rfl rfl (Nat.le_of_ble_eq_true rfl) dX12_isOp_62 ?_
      refine V_iinc hc (j := 2) (v := (i5 + (1 : Int32))) dX12_isOp_65 rfl rfl (by decide) rfl ?_
      refine V_goto hc dX12_isOp_68 rfl ?_
      exact V_sub [1, 2, 0] rfl (ih _ _ hf hx0)
set_option maxHeartbeats 4000000 in
set_option maxRecDepth 100000 in
theorem L12_isOp_15_ok {E : CxT} {l : Launch} {D : va_G} {h : Nat} {q : Nat → Nat} {y : CyT} {zM uM z u : Nat} (hc : Cx E "FarEditorsModel" cX12_isOp 7) (hz : Cy E l D y 2 49 zM uM) : ∀ (n : Nat) (i2 : Int32) (i3 : Int32) (M : MS) {o2 : Int32} {Mo : MS}, L12_isOp_15 n i2 i3 M = some (o2, Mo) → (hx0 : V E z u (mw h q y Mo) 156 [(0, .ref h), (2, .int o2)] []) → V E z u (mw h q y M) 15 [(0, .ref h), (2, .int i2), (3, .int i3)] [] := by
  have hT := hz.2.2.1
  intro n
  induction n with
  | zero => intro i2 i3 M o2 Mo hf; cases hf
  | succ n ih =>
    intro i2 i3 M o2 Mo hf hx0
    unfold L12_isOp_15 at hf
    refine V_iload_n hc dX12_isOp_15 rfl 2 rfl ?_
    refine V_if_eq hc dX12_isOp_16 rfl (fun hq16 => ?_) (fun hq16 => ?_)
    · rw [if_pos hq16] at hf
      obtain ⟨rfl, rfl⟩ := si2 hf
      exact V_sub [0, 1] rfl hx0
    · rw [if_neg hq16] at hf
      refine V_aload_n hc dX12_isOp_19 rfl 0 rfl ?_
      refine V_bipush hc (v := (43 : Int32)) dX12_isOp_20 rfl ?_
      obtain ⟨v1, M2, hv1, hf⟩ := mb2 hf
      refine R_callVi hc hz (As := [.int (43 : Int32)]) (c12_takesSign l D h q y _ _ _ _ hv1) w7_95 w7_97 wp4_12 w1_13 w7_98 hd12_takesSign ⟨Nat.le_of_ble_eq_true rfl, Nat.le_of_ble_eq_true rfl⟩ rfl rfl (Nat.le_of_ble_eq_true rfl) dX12_isOp_22 ?_
      obtain ⟨x3, M4, hv5, hf⟩ := mb2 hf
      have hJ25 : V E z u (mw h q y M4) 130 [(0, .ref h), (2, .int x3)] [] := by
        refine V_aload_n hc dX12_isOp_130 rfl 0 rfl ?_
        obtain ⟨v18, M19, hv18, hf⟩ := mb2 hf
        refine R_callVi hc hz (As := []) (c12_look l D h q y _ _ _ _ hv18) w7_69 w7_71 wp4_7 w1_13 w7_72 hd12_look ⟨Nat.le_of_ble_eq_true rfl, Nat.le_of_ble_eq_true rfl⟩ rfl rfl (Nat.le_of_ble_eq_true rfl) dX12_isOp_131 ?_
        refine V_iconst hc (v := (-1 : Int32)) dX12_isOp_134 rfl ?_
        obtain ⟨v20, M21, hv22, hf⟩ := mb2 hf
        have hJ135 : V E z u (mw h q y M21) 152 [(0, .ref h), (2, .int x3)] [.int v20] := by
          refine V_istore_n hc dX12_isOp_152 rfl (by decide) rfl ?_
          refine V_goto hc dX12_isOp_153 rfl ?_
          exact V_sub [1, 2, 0] rfl (ih _ _ _ hf hx0)
        refine V_icmp_eq hc dX12_isOp_135 rfl (fun hq135 => ?_) (fun hq135 => ?_)
        · rw [if_pos hq135] at hv22
          refine V_iconst hc (v := (0 : Int32)) dX12_isOp_151 rfl ?_
          obtain ⟨rfl, rfl⟩ := si2 hv22
          exact V_sub [0, 1] rfl hJ135
        · rw [if_neg hq135] at hv22
          refine V_aload_n hc dX12_isOp_138 rfl 0 rfl ?_
          obtain ⟨v23, M24, hv23, hv22⟩ := mb2 hv22
          refine R_callVi hc hz (As := []) (c12_look l D h q y _ _ _ _ hv23) w7_69 w7_71 wp4_7 w1_13 w7_72 hd12_look ⟨Nat.le_of_ble_eq_true rfl, Nat.le_of_ble_eq_true rfl⟩ rfl rfl (Nat.le_of_ble_eq_true rfl) dX12_isOp_139 ?_
          refine V_bipush hc (v := (59 : Int32)) dX12_isOp_142 rfl ?_
          refine V_icmp_eq hc dX12_isOp_144 rfl (fun hq144 => ?_) (fun hq144 => ?_)
          · rw [if_pos hq144] at hv22
            refine V_iconst hc (v := (0 : Int32)) dX12_isOp_151 rfl ?_
            obtain ⟨rfl, rfl⟩ := si2 hv22
            exact V_sub [0, 1] rfl hJ135
          · rw [if_neg hq144] at hv22
            refine V_iconst hc (v := (1 : Int32)) dX12_isOp_147 rfl ?_
            refine V_goto hc dX12_isOp_148 rfl ?_
            obtain ⟨rfl, rfl⟩ := si2 hv22
            exact V_sub [0, 1] rfl hJ135
      refine V_if_eq hc dX12_isOp_25 rfl (fun hq25 => ?_) (fun hq25 => ?_)
      · rw [if_pos hq25] at hv5
        refine V_aload_n hc dX12_isOp_74 rfl 0 rfl ?_
        refine V_bipush hc (v := (45 : Int32)) dX12_isOp_75 rfl ?_
        obtain ⟨v6, M7, hv6, hv5⟩ := mb2 hv5
        refine R_callVi hc hz (As := [.int (45 : Int32)]) (c12_takesSign l D h q y _ _ _ _ hv6) w7_95 w7_97 wp4_12 w1_13 w7_98 hd12_takesSign ⟨Nat.le_of_ble_eq_true rfl, Nat.le_of_ble_eq_true rfl⟩ rfl rfl (Nat.le_of_ble_eq_true rfl) dX12_isOp_77 ?_
        obtain ⟨v8, hv9, hv5⟩ := mb hv5
        have hJ80 : V E z u (mw h q y M7) 88 [(0, .ref h), (2, .int i2)] [.int v8] := by
          refine V_istore hc dX12_isOp_88 (by decide) rfl ?_
          refine V_aload_n hc dX12_isOp_90 rfl 1 rfl ?_
          refine V_iconst hc (v := (1 : Int32)) dX12_isOp_91 rfl ?_
          refine V_bipush hc (v := (99 : Int32)) dX12_isOp_92 rfl ?_
          obtain ⟨v10, M11, hv10, hv5⟩ := mb2 hv5
          refine R_callVi hc hz (As := [.int (1 : Int32), .int (99 : Int32)]) (c12_number l D h q y _ _ _ _ hv10) w7_84 w7_86 wp4_10 w1_13 w7_87 hd12_number ⟨Nat.le_of_ble_eq_true rfl, Nat.le_of_ble_eq_true rfl⟩ rfl rfl (Nat.le_of_ble_eq_true rfl) dX12_isOp_94 ?_
          refine V_istore hc dX12_isOp_97 (by decide) rfl ?_
          refine V_iload_n hc dX12_isOp_99 rfl 3 rfl ?_
          refine V_iload hc dX12_isOp_100 0 rfl ?_
          refine V_isub hc dX12_isOp_102 ?_
          refine V_istore_n hc dX12_isOp_103 rfl (by decide) rfl ?_
          refine V_iconst hc (v := (0 : Int32)) dX12_isOp_104 rfl ?_
          refine V_istore hc dX12_isOp_105 (by decide) rfl ?_
          obtain ⟨M12, hv13, hv5⟩ := mb hv5
          refine V_sub [4, 1, 3, 2, 0] rfl (L12_isOp_107_ok hc hz (i2 - v10) v8 v10 FU _ _ hv13 ?_)
          obtain ⟨rfl, rfl⟩ := si2 hv5
          exact V_sub [0, 1] rfl hJ25
        refine V_if_eq hc dX12_isOp_80 rfl (fun hq80 => ?_) (fun hq80 => ?_)
        · rw [if_pos hq80] at hv9
          refine V_iconst hc (v := (0 : Int32)) dX12_isOp_87 rfl ?_
          obtain rfl := Option.some.inj hv9
          exact V_sub [0, 1] rfl hJ80
        · rw [if_neg hq80] at hv9
          refine V_iconst hc (v := (-1 : Int32)) dX12_isOp_83 rfl ?_
          refine V_goto hc dX12_isOp_84 rfl ?_
          obtain rfl := Option.some.inj hv9
          exact V_sub [0, 1] rfl hJ80
      · rw [if_neg hq25] at hv5
        refine V_aload_n hc dX12_isOp_28 rfl 0 rfl ?_
        refine V_bipush hc (v := (20 : Int32)) dX12_isOp_29 rfl ?_
        obtain ⟨v14, M15, hv14, hv5⟩ := mb2 hv5
        refine R_callVi hc hz (As := [.int (20 : Int32)]) (c12_word l D h q y _ _ _ _ hv14) w7_80 w7_82 wp4_9 w1_13 w7_83 hd12_word ⟨Nat.le_of_ble_eq_true rfl, Nat.le_of_ble_eq_true rfl⟩ rfl rfl (Nat.le_of_ble_eq_true rfl) dX12_isOp_31 ?_
        refine V_istore hc dX12_isOp_34 (by decide) rfl ?_
        refine V_iload hc dX12_isOp_36 0 rfl ?_
        refine V_istore hc dX12_isOp_38 (by decide) rfl ?_
        obtain ⟨M16, hv17, hv5⟩ := mb hv5
        refine V_sub [2, 3, 0] rfl (L12_isOp_40_ok hc hz i2 FU _ _ hv17 ?_)
        refine V_goto hc dX12_isOp_71 rfl ?_
        obtain ⟨rfl, rfl⟩ := si2 hv5
        exact V_sub [0, 1] rfl hJ25
set_option maxHeartbeats 4000000 in
set_option maxRecDepth 100000 in
theorem L12_isOp_162_ok {E : CxT} {l : Launch} {D : va_G} {h : Nat} {q : Nat → Nat} {y : CyT} {zM uM z u : Nat} (hc : Cx E "FarEditorsModel" cX12_isOp 7) (hz : Cy E l D y 2 49 zM uM) : ∀ (n : Nat) (i2 : Int32) (M : MS) {Mo : MS}, L12_isOp_162 n i2 M = some Mo → (hx0 : V E z u (mw h q y Mo) 177 [(0, .ref h)] []) → V E z u (mw h q y M) 162 [(0, .ref h), (2, .int i2)] [] := by
  have hT := hz.2.2.1
  intro n
  induction n with
  | zero => intro i2 M Mo hf; cases hf
  | succ n ih =>
    intro i2 M Mo hf hx0
    unfold L12_isOp_162 at hf
    refine V_iload_n hc dX12_isOp_162 rfl 1 rfl ?_
    refine V_if_le hc dX12_isOp_163 rfl (fun hq163 => ?_) (fun hq163 => ?_)
    · rw [if_pos hq163] at hf
      obtain rfl := Option.some.inj hf
      exact V_sub [0] rfl hx0
    · rw [if_neg hq163] at hf
      refine V_aload_n hc dX12_isOp_166 rfl 0 rfl ?_
      refine V_iconst hc (v := (0 : Int32)) dX12_isOp_167 rfl ?_
      obtain ⟨M1, hM1, hf⟩ := mb hf
      refine R_callVv hc hz (As := [.int (0 : Int32)]) (c12_givesA l D h q y _ _ _ _ hM1) w7_146 w7_148 wp5_8 w1_13 w7_149 hd12_givesA ⟨Nat.le_of_ble_eq_true rfl, Nat.le_of_ble_eq_true rfl⟩ rfl rfl (Nat.le_of_ble_eq_true rfl) dX12_isOp_168 ?_
      refine V_iinc hc (j := 1) (v := (i2 + (-1 : Int32))) dX12_isOp_171 rfl rfl (by decide) rfl ?_
      refine V_goto hc dX12_isOp_174 rfl ?_
      exact V_sub [1, 0] rfl (ih _ _ hf hx0)
set_option maxHeartbeats 4000000 in
set_option maxRecDepth 100000 in
theorem c12_isOp (l : Launch) (D : va_G) (h : Nat) (q : Nat → Nat) (y : CyT) (zM uM z u : Nat) {M M' : MS} {p1 : Int32} {r : Int32} (hf : f12_isOp M p1 = some (r, M')) : CT l D y yX12_isOp cX12_isOp 7 (some .boolean) 2 49 zM uM [.ref h, .int p1] z u (mw h q y M) z u (mw h q y M') (some (.int r)) := by
  refine CT.of (by decide) (Nat.le_of_ble_eq_true rfl) (fun E hc hzz hnm => ?_)
  have hc : Cx E "FarEditorsModel" cX12_isOp 7 := hc
  have hz := hzz.1
  have hT := hz.2.2.1
  show V E z u (mw h q y M) 0 [(0, .ref h), (1, .int p1)] []
  unfold f12_isOp at hf
  refine V_aload_n hc dX12_isOp_0 rfl 0 rfl ?_
  refine V_iload_n hc dX12_isOp_1 rfl 1 rfl ?_
  refine V_bipush hc (v := (21 : Int32)) dX12_isOp_2 rfl ?_
  obtain ⟨v1, hv1, hf⟩ := mb hf
  refine R_callVi hc hz (As := [.int p1, .int (21 : Int32)]) (c12_its l D h q y _ _ _ _ hv1) w7_142 w7_144 wp5_7 w1_13 w7_145 hd12_its ⟨Nat.le_of_ble_eq_true rfl, Nat.le_of_ble_eq_true rfl⟩ rfl rfl (Nat.le_of_ble_eq_true rfl) dX12_isOp_4 ?_
  refine V_istore_n hc dX12_isOp_7 rfl (by decide) rfl ?_
  refine V_aload_n hc dX12_isOp_8 rfl 1 rfl ?_
  refine V_iconst hc (v := (0 : Int32)) dX12_isOp_9 rfl ?_
  refine R_puti hc 25 rfl (by decide) w6_83 rfl rfl rfl dX12_isOp_10 ?_
  refine V_iconst hc (v := (1 : Int32)) dX12_isOp_13 rfl ?_
  refine V_istore_n hc dX12_isOp_14 rfl (by decide) rfl ?_
  obtain ⟨x2, M3, hv4, hf⟩ := mb2 hf
  refine V_sub [2, 1, 0] rfl (L12_isOp_15_ok hc hz FU _ _ _ hv4 ?_)
  refine V_iload_n hc dX12_isOp_156 rfl 1 rfl ?_
  refine V_if_ge hc dX12_isOp_157 rfl (fun hq157 => ?_) (fun hq157 => ?_)
  · rw [if_pos hq157] at hf
    obtain ⟨M5, hv6, hf⟩ := mb hf
    refine V_sub [0, 1] rfl (L12_isOp_162_ok hc hz FU _ _ hv6 ?_)
    refine V_aload_n hc dX12_isOp_177 rfl 0 rfl ?_
    refine V_aload_n hc dX12_isOp_178 rfl 0 rfl ?_
    refine R_getr hc 20 rfl (by decide) w6_78 dX12_isOp_179 ?_
    refine V_aload_n hc dX12_isOp_182 rfl 0 rfl ?_
    refine R_geti hc 25 rfl (by decide) w6_83 dX12_isOp_183 ?_
    obtain ⟨M7, hM7, hf⟩ := mb hf
    refine R_callVv hc hz (As := [.ref (q 20), .int (gF M5 25)]) (c12_settles l D h q y _ _ _ _ rfl hM7) w7_150 w7_152 wp5_9 w1_13 w7_153 hd12_settles ⟨Nat.le_of_ble_eq_true rfl, Nat.le_of_ble_eq_true rfl⟩ rfl rfl (Nat.le_of_ble_eq_true rfl) dX12_isOp_186 ?_
    refine V_iconst hc (v := (1 : Int32)) dX12_isOp_189 rfl ?_
    obtain ⟨rfl, rfl⟩ := si2 hf
    exact V_iret hc hzz rfl rfl rfl rfl rfl dX12_isOp_190
  · rw [if_neg hq157] at hf
    refine V_iconst hc (v := (0 : Int32)) dX12_isOp_160 rfl ?_
    obtain ⟨rfl, rfl⟩ := si2 hf
    exact V_iret hc hzz rfl rfl rfl rfl rfl dX12_isOp_161
