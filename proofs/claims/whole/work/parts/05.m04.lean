noncomputable def L12_takesDAsB_10 : Nat → Int32 → MS → Option (MS)
  | 0, _, _ => none
  | n + 1, i1, M =>
    if (gF M 28) ≤ i1 then (
      some M
    ) else (
      (ld M 23 i1).bind fun v1 =>
      (sd M 21 i1 v1).bind fun M2 =>
      L12_takesDAsB_10 n (i1 + (1 : Int32)) M2
    )
noncomputable def f12_takesDAsB (M : MS) : Option (MS) :=
  (L12_takesDAsB_10 FU (0 : Int32) (sF M 26 (gF M 28))).bind fun M1 =>
  some M1
theorem hd12_takesDAsB : yX12_takesDAsB.cls = "FarEditorsModel" ∧ yX12_takesDAsB.cls ≠ "java/lang/invoke/MethodHandle" ∧ yX12_takesDAsB.cls ≠ "java/lang/invoke/VarHandle" ∧ (parseMethodDescriptor yX12_takesDAsB.desc).map (fun d => d.parameters.length) = some 0 := by decide +kernel
set_option maxHeartbeats 4000000 in
set_option maxRecDepth 100000 in
theorem L12_takesDAsB_10_ok {E : CxT} {l : Launch} {D : va_G} {h : Nat} {q : Nat → Nat} {y : CyT} {zM uM z u : Nat} (hc : Cx E "FarEditorsModel" cX12_takesDAsB 2) (hz : Cy E l D y 0 0 zM uM) : ∀ (n : Nat) (i1 : Int32) (M : MS) {Mo : MS}, L12_takesDAsB_10 n i1 M = some Mo → (hx0 : V E z u (mw h q y Mo) 36 [] []) → V E z u (mw h q y M) 10 [(0, .ref h), (1, .int i1)] [] := by
  have hT := hz.2.2.1
  intro n
  induction n with
  | zero => intro i1 M Mo hf; cases hf
  | succ n ih =>
    intro i1 M Mo hf hx0
    unfold L12_takesDAsB_10 at hf
    refine V_iload_n hc dX12_takesDAsB_10 rfl 1 rfl ?_
    refine V_aload_n hc dX12_takesDAsB_11 rfl 0 rfl ?_
    refine R_geti hc 28 rfl (by decide) w6_86 dX12_takesDAsB_12 ?_
    refine V_icmp_ge hc dX12_takesDAsB_15 rfl (fun hq15 => ?_) (fun hq15 => ?_)
    · rw [if_pos hq15] at hf
      obtain rfl := Option.some.inj hf
      exact V_sub [] rfl hx0
    · rw [if_neg hq15] at hf
      refine V_aload_n hc dX12_takesDAsB_18 rfl 0 rfl ?_
      refine R_getr hc 21 rfl (by decide) w6_79 dX12_takesDAsB_19 ?_
      refine V_iload_n hc dX12_takesDAsB_22 rfl 1 rfl ?_
      refine V_aload_n hc dX12_takesDAsB_23 rfl 0 rfl ?_
      refine R_getr hc 23 rfl (by decide) w6_81 dX12_takesDAsB_24 ?_
      refine V_iload_n hc dX12_takesDAsB_27 rfl 1 rfl ?_
      obtain ⟨v1, hv1, hf⟩ := mb hf
      refine R_iald hc hT rfl hv1 dX12_takesDAsB_28 ?_
      obtain ⟨M2, hM2, hf⟩ := mb hf
      refine R_iast hc hT rfl hM2 dX12_takesDAsB_29 ?_
      refine V_iinc hc (j := 1) (v := (i1 + (1 : Int32))) dX12_takesDAsB_30 rfl rfl (by decide) rfl ?_
      refine V_goto hc dX12_takesDAsB_33 rfl ?_
      exact V_sub [1, 0] rfl (ih _ _ hf hx0)
set_option maxHeartbeats 4000000 in
set_option maxRecDepth 100000 in
theorem c12_takesDAsB (l : Launch) (D : va_G) (h : Nat) (q : Nat → Nat) (y : CyT) (zM uM z u : Nat) {M M' : MS} (hf : f12_takesDAsB M = some M') : CT l D y yX12_takesDAsB cX12_takesDAsB 2 none 0 0 zM uM [.ref h] z u (mw h q y M) z u (mw h q y M') none := by
  refine CT.of (by decide) (Nat.le_of_ble_eq_true rfl) (fun E hc hzz hnm => ?_)
  have hc : Cx E "FarEditorsModel" cX12_takesDAsB 2 := hc
  have hz := hzz.1
  have hT := hz.2.2.1
  show V E z u (mw h q y M) 0 [(0, .ref h)] []
  unfold f12_takesDAsB at hf
  refine V_aload_n hc dX12_takesDAsB_0 rfl 0 rfl ?_
  refine V_aload_n hc dX12_takesDAsB_1 rfl 0 rfl ?_
  refine R_geti hc 28 rfl (by decide) w6_86 dX12_takesDAsB_2 ?_
  refine R_puti hc 26 rfl (by decide) w6_84 rfl rfl rfl dX12_takesDAsB_5 ?_
  refine V_iconst hc (v := (0 : Int32)) dX12_takesDAsB_8 rfl ?_
  refine V_istore_n hc dX12_takesDAsB_9 rfl (by decide) rfl ?_
  obtain ⟨M1, hv2, hf⟩ := mb hf
  refine V_sub [1, 0] rfl (L12_takesDAsB_10_ok hc hz FU _ _ hv2 ?_)
  obtain rfl := Option.some.inj hf
  exact V_vret hc hzz rfl rfl rfl rfl dX12_takesDAsB_36
noncomputable def L12_changes_9 (a1 : Nat) (c2 : Int32) (a3 : Nat) (c4 : Int32) : Nat → Int32 → Int32 → Int32 → MS → Option (Int32 × MS)
  | 0, _, _, _, _ => none
  | n + 1, i5, i6, i7, M =>
    if c4 ≤ i7 then (
      some (i5, M)
    ) else (
      (ld M a3 i7).bind fun v1 =>
      bn2 (
        if v1 < 0 then (
          some (i5, M)
        ) else (
          (ld M a3 i7).bind fun v5 =>
          (
            if v5 = 0 then (
              (ld M a1 i6).bind fun v9 =>
              some v9
            ) else (
              (ld M a3 i7).bind fun v8 =>
              some v8
            )
          ).bind fun v6 =>
          (sd M 29 i5 v6).bind fun M10 =>
          some ((i5 + (1 : Int32)), M10)
        )
      ) fun x2 M3 =>
      (ld M3 a3 i7).bind fun v11 =>
      (
        if 0 < v11 then (
          some i6
        ) else (
          some (i6 + (1 : Int32))
        )
      ).bind fun x12 =>
      L12_changes_9 a1 c2 a3 c4 n x2 x12 (i7 + (1 : Int32)) M3
    )
noncomputable def L12_changes_70 (a1 : Nat) (c2 : Int32) (c5 : Int32) : Nat → Int32 → MS → Option (MS)
  | 0, _, _ => none
  | n + 1, i7, M =>
    if c5 ≤ i7 then (
      some M
    ) else (
      (ld M 29 i7).bind fun v1 =>
      (sd M a1 (c2 + i7) v1).bind fun M2 =>
      L12_changes_70 a1 c2 c5 n (i7 + (1 : Int32)) M2
    )
noncomputable def f12_changes (M : MS) (a1 : Nat) (p2 : Int32) (a3 : Nat) (p4 : Int32) : Option (Int32 × MS) :=
  bn2 (L12_changes_9 a1 p2 a3 p4 FU (0 : Int32) p2 (0 : Int32) M) fun x1 M2 =>
  (L12_changes_70 a1 p2 x1 FU (0 : Int32) M2).bind fun M4 =>
  some (x1, M4)
theorem hd12_changes : yX12_changes.cls = "FarEditorsModel" ∧ yX12_changes.cls ≠ "java/lang/invoke/MethodHandle" ∧ yX12_changes.cls ≠ "java/lang/invoke/VarHandle" ∧ (parseMethodDescriptor yX12_changes.desc).map (fun d => d.parameters.length) = some 4 := by decide +kernel
set_option maxHeartbeats 4000000 in
set_option maxRecDepth 100000 in
theorem L12_changes_9_ok {E : CxT} {l : Launch} {D : va_G} {h : Nat} {q : Nat → Nat} {y : CyT} {zM uM z u : Nat} (hc : Cx E "FarEditorsModel" cX12_changes 8) (hz : Cy E l D y 0 0 zM uM) (a1 : Nat) (c2 : Int32) (a3 : Nat) (c4 : Int32) (ha1 : mKi a1 = 1) (ha3 : mKi a3 = 1) : ∀ (n : Nat) (i5 : Int32) (i6 : Int32) (i7 : Int32) (M : MS) {o5 : Int32} {Mo : MS}, L12_changes_9 a1 c2 a3 c4 n i5 i6 i7 M = some (o5, Mo) → (hx0 : V E z u (mw h q y Mo) 67 [(0, .ref h), (1, .ref (q a1)), (2, .int c2), (5, .int o5)] []) → V E z u (mw h q y M) 9 [(0, .ref h), (1, .ref (q a1)), (2, .int c2), (3, .ref (q a3)), (4, .int c4), (5, .int i5), (6, .int i6), (7, .int i7)] [] := by
  have hT := hz.2.2.1
  intro n
  induction n with
  | zero => intro i5 i6 i7 M o5 Mo hf; cases hf
  | succ n ih =>
    intro i5 i6 i7 M o5 Mo hf hx0
    unfold L12_changes_9 at hf
    refine V_iload hc dX12_changes_9 7 rfl ?_
    refine V_iload hc dX12_changes_11 4 rfl ?_
    refine V_icmp_ge hc dX12_changes_13 rfl (fun hq13 => ?_) (fun hq13 => ?_)
    · rw [if_pos hq13] at hf
      obtain ⟨rfl, rfl⟩ := si2 hf
      exact V_sub [0, 1, 2, 5] rfl hx0
    · rw [if_neg hq13] at hf
      refine V_aload_n hc dX12_changes_16 rfl 3 rfl ?_
      refine V_iload hc dX12_changes_17 7 rfl ?_
      obtain ⟨v1, hv1, hf⟩ := mb hf
      refine R_iald hc hT ha3 hv1 dX12_changes_19 ?_
      obtain ⟨x2, M3, hv4, hf⟩ := mb2 hf
      have hJ20 : V E z u (mw h q y M3) 51 [(0, .ref h), (1, .ref (q a1)), (2, .int c2), (3, .ref (q a3)), (4, .int c4), (5, .int x2), (6, .int i6), (7, .int i7)] [] := by
        refine V_aload_n hc dX12_changes_51 rfl 3 rfl ?_
        refine V_iload hc dX12_changes_52 7 rfl ?_
        obtain ⟨v11, hv11, hf⟩ := mb hf
        refine R_iald hc hT ha3 hv11 dX12_changes_54 ?_
        obtain ⟨x12, hv13, hf⟩ := mb hf
        have hJ55 : V E z u (mw h q y M3) 61 [(0, .ref h), (1, .ref (q a1)), (2, .int c2), (3, .ref (q a3)), (4, .int c4), (5, .int x2), (6, .int x12), (7, .int i7)] [] := by
          refine V_iinc hc (j := 7) (v := (i7 + (1 : Int32))) dX12_changes_61 rfl rfl (by decide) rfl ?_
          refine V_goto hc dX12_changes_64 rfl ?_
          exact V_sub [1, 2, 3, 4, 5, 6, 7, 0] rfl (ih _ _ _ _ hf hx0)
        refine V_if_gt hc dX12_changes_55 rfl (fun hq55 => ?_) (fun hq55 => ?_)
        · rw [if_pos hq55] at hv13
          obtain rfl := Option.some.inj hv13
          exact V_sub [0, 1, 2, 3, 4, 5, 6, 7] rfl hJ55
        · rw [if_neg hq55] at hv13
          refine V_iinc hc (j := 6) (v := (i6 + (1 : Int32))) dX12_changes_58 rfl rfl (by decide) rfl ?_
          obtain rfl := Option.some.inj hv13
          exact V_sub [1, 2, 3, 4, 5, 6, 0, 7] rfl hJ55
      refine V_if_lt hc dX12_changes_20 rfl (fun hq20 => ?_) (fun hq20 => ?_)
      · rw [if_pos hq20] at hv4
        obtain ⟨rfl, rfl⟩ := si2 hv4
        exact V_sub [0, 1, 2, 3, 4, 5, 6, 7] rfl hJ20
      · rw [if_neg hq20] at hv4
        refine V_aload_n hc dX12_changes_23 rfl 0 rfl ?_
        refine R_getr hc 29 rfl (by decide) w6_87 dX12_changes_24 ?_
        refine V_iload hc dX12_changes_27 5 rfl ?_
        refine V_aload_n hc dX12_changes_29 rfl 3 rfl ?_
        refine V_iload hc dX12_changes_30 7 rfl ?_
        obtain ⟨v5, hv5, hv4⟩ := mb hv4
        refine R_iald hc hT ha3 hv5 dX12_changes_32 ?_
        obtain ⟨v6, hv7, hv4⟩ := mb hv4
        have hJ33 : V E z u (mw h q y M) 47 [(0, .ref h), (1, .ref (q a1)), (2, .int c2), (3, .ref (q a3)), (4, .int c4), (5, .int i5), (6, .int i6), (7, .int i7)] [.int v6, .int i5, .ref (q 29)] := by
          obtain ⟨M10, hM10, hv4⟩ := mb hv4
          refine R_iast hc hT rfl hM10 dX12_changes_47 ?_
          refine V_iinc hc (j := 5) (v := (i5 + (1 : Int32))) dX12_changes_48 rfl rfl (by decide) rfl ?_
          obtain ⟨rfl, rfl⟩ := si2 hv4
          exact V_sub [1, 2, 3, 4, 5, 0, 6, 7] rfl hJ20
        refine V_if_ne hc dX12_changes_33 rfl (fun hq33 => ?_) (fun hq33 => ?_)
        · rw [if_neg hq33] at hv7
          refine V_aload_n hc dX12_changes_43 rfl 3 rfl ?_
          refine V_iload hc dX12_changes_44 7 rfl ?_
          obtain ⟨v8, hv8, hv7⟩ := mb hv7
          refine R_iald hc hT ha3 hv8 dX12_changes_46 ?_
          obtain rfl := Option.some.inj hv7
          exact V_sub [0, 1, 2, 3, 4, 5, 6, 7] rfl hJ33
        · rw [if_pos hq33] at hv7
          refine V_aload_n hc dX12_changes_36 rfl 1 rfl ?_
          refine V_iload hc dX12_changes_37 6 rfl ?_
          obtain ⟨v9, hv9, hv7⟩ := mb hv7
          refine R_iald hc hT ha1 hv9 dX12_changes_39 ?_
          refine V_goto hc dX12_changes_40 rfl ?_
          obtain rfl := Option.some.inj hv7
          exact V_sub [0, 1, 2, 3, 4, 5, 6, 7] rfl hJ33
set_option maxHeartbeats 4000000 in
set_option maxRecDepth 100000 in
theorem L12_changes_70_ok {E : CxT} {l : Launch} {D : va_G} {h : Nat} {q : Nat → Nat} {y : CyT} {zM uM z u : Nat} (hc : Cx E "FarEditorsModel" cX12_changes 8) (hz : Cy E l D y 0 0 zM uM) (a1 : Nat) (c2 : Int32) (c5 : Int32) (ha1 : mKi a1 = 1) : ∀ (n : Nat) (i7 : Int32) (M : MS) {Mo : MS}, L12_changes_70 a1 c2 c5 n i7 M = some Mo → (hx0 : V E z u (mw h q y Mo) 96 [(5, .int c5)] []) → V E z u (mw h q y M) 70 [(0, .ref h), (1, .ref (q a1)), (2, .int c2), (5, .int c5), (7, .int i7)] [] := by
  have hT := hz.2.2.1
  intro n
  induction n with
  | zero => intro i7 M Mo hf; cases hf
  | succ n ih =>
    intro i7 M Mo hf hx0
    unfold L12_changes_70 at hf
    refine V_iload hc dX12_changes_70 4 rfl ?_
    refine V_iload hc dX12_changes_72 3 rfl ?_
    refine V_icmp_ge hc dX12_changes_74 rfl (fun hq74 => ?_) (fun hq74 => ?_)
    · rw [if_pos hq74] at hf
      obtain rfl := Option.some.inj hf
      exact V_sub [3] rfl hx0
    · rw [if_neg hq74] at hf
      refine V_aload_n hc dX12_changes_77 rfl 1 rfl ?_
      refine V_iload_n hc dX12_changes_78 rfl 2 rfl ?_
      refine V_iload hc dX12_changes_79 4 rfl ?_
      refine V_iadd hc dX12_changes_81 ?_
      refine V_aload_n hc dX12_changes_82 rfl 0 rfl ?_
      refine R_getr hc 29 rfl (by decide) w6_87 dX12_changes_83 ?_
      refine V_iload hc dX12_changes_86 4 rfl ?_
      obtain ⟨v1, hv1, hf⟩ := mb hf
      refine R_iald hc hT rfl hv1 dX12_changes_88 ?_
      obtain ⟨M2, hM2, hf⟩ := mb hf
      refine R_iast hc hT ha1 hM2 dX12_changes_89 ?_
      refine V_iinc hc (j := 4) (v := (i7 + (1 : Int32))) dX12_changes_90 rfl rfl (by decide) rfl ?_
      refine V_goto hc dX12_changes_93 rfl ?_
      exact V_sub [1, 2, 3, 4, 0] rfl (ih _ _ hf hx0)
set_option maxHeartbeats 4000000 in
set_option maxRecDepth 100000 in
theorem c12_changes (l : Launch) (D : va_G) (h : Nat) (q : Nat → Nat) (y : CyT) (zM uM z u : Nat) {M M' : MS} {a1 : Nat} {p2 : Int32} {a3 : Nat} {p4 : Int32} {r : Int32} (ha1 : mKi a1 = 1) (ha3 : mKi a3 = 1) (hf : f12_changes M a1 p2 a3 p4 = some (r, M')) : CT l D y yX12_changes cX12_changes 8 (some .int) 0 0 zM uM [.ref h, .ref (q a1), .int p2, .ref (q a3), .int p4] z u (mw h q y M) z u (mw h q y M') (some (.int r)) := by
  refine CT.of (by decide) (Nat.le_of_ble_eq_true rfl) (fun E hc hzz hnm => ?_)
  have hc : Cx E "FarEditorsModel" cX12_changes 8 := hc
  have hz := hzz.1
  have hT := hz.2.2.1
  show V E z u (mw h q y M) 0 [(0, .ref h), (1, .ref (q a1)), (2, .int p2), (3, .ref (q a3)), (4, .int p4)] []
  unfold f12_changes at hf
  refine V_iconst hc (v := (0 : Int32)) dX12_changes_0 rfl ?_
  refine V_istore hc dX12_changes_1 (by decide) rfl ?_
  refine V_iload_n hc dX12_changes_3 rfl 3 rfl ?_
  refine V_istore hc dX12_changes_4 (by decide) rfl ?_
  refine V_iconst hc (v := (0 : Int32)) dX12_changes_6 rfl ?_
  refine V_istore hc dX12_changes_7 (by decide) rfl ?_
  obtain ⟨x1, M2, hv3, hf⟩ := mb2 hf
  refine V_sub [3, 4, 5, 6, 7, 2, 1, 0] rfl (L12_changes_9_ok hc hz a1 p2 a3 p4 ha1 ha3 FU _ _ _ _ hv3 ?_)
  refine V_iconst hc (v := (0 : Int32)) dX12_changes_67 rfl ?_
  refine V_istore hc dX12_changes_68 (by decide) rfl ?_
  obtain ⟨M4, hv5, hf⟩ := mb hf
  refine V_sub [1, 2, 3, 4, 0] rfl (L12_changes_70_ok hc hz a1 p2 x1 ha1 FU _ _ hv5 ?_)
  refine V_iload hc dX12_changes_96 0 rfl ?_
  obtain ⟨rfl, rfl⟩ := si2 hf
  exact V_iret hc hzz rfl rfl rfl rfl rfl dX12_changes_98
noncomputable def L12_carried_9 (a1 : Nat) (c1 : Int32) (c2 : Int32) (c3 : Int32) (M : MS) : Nat → Int32 → Int32 → Int32 → Option (Int32)
  | 0, _, _, _ => none
  | n + 1, i4, i5, i6 =>
    if c1 ≤ i6 then (
      some i5
    ) else (
      (ld M a1 i6).bind fun v1 =>
      bn2 (
        if v1 ≤ 0 then (
          (ld M a1 i6).bind fun v5 =>
          (
            if v5 = (-1 : Int32) then (
              if c2 ≤ i4 then (
                some i5
              ) else (
                some (i5 + (-1 : Int32))
              )
            ) else (
              some i5
            )
          ).bind fun x6 =>
          some ((i4 + (1 : Int32)), x6)
        ) else (
          if i4 < c2 then (
            some (i4, (i5 + (1 : Int32)))
          ) else (
            if i4 = c2 then (
              if c3 = 0 then (
                some (i4, i5)
              ) else (
                some (i4, (i5 + (1 : Int32)))
              )
            ) else (
              some (i4, i5)
            )
          )
        )
      ) fun x2 x3 =>
      L12_carried_9 a1 c1 c2 c3 M n x2 x3 (i6 + (1 : Int32))
    )
noncomputable def f12_carried (M : MS) (a1 : Nat) (p2 : Int32) (p3 : Int32) (p4 : Int32) : Option (Int32) :=
  (L12_carried_9 a1 p2 p3 p4 M FU (0 : Int32) p3 (0 : Int32)).bind fun x1 =>
  some x1
theorem hd12_carried : yX12_carried.cls = "FarEditorsModel" ∧ yX12_carried.cls ≠ "java/lang/invoke/MethodHandle" ∧ yX12_carried.cls ≠ "java/lang/invoke/VarHandle" ∧ (parseMethodDescriptor yX12_carried.desc).map (fun d => d.parameters.length) = some 4 := by decide +kernel
set_option maxHeartbeats 4000000 in
set_option maxRecDepth 100000 in
theorem L12_carried_9_ok {E : CxT} {l : Launch} {D : va_G} {h : Nat} {q : Nat → Nat} {y : CyT} {zM uM z u : Nat} (hc : Cx E "FarEditorsModel" cX12_carried 7) (hz : Cy E l D y 0 0 zM uM) (a1 : Nat) (c1 : Int32) (c2 : Int32) (c3 : Int32) (M : MS) (ha1 : mKi a1 = 1) : ∀ (n : Nat) (i4 : Int32) (i5 : Int32) (i6 : Int32) {o5 : Int32}, L12_carried_9 a1 c1 c2 c3 M n i4 i5 i6 = some o5 → (hx0 : V E z u (mw h q y M) 70 [(5, .int o5)] []) → V E z u (mw h q y M) 9 [(0, .ref (q a1)), (1, .int c1), (2, .int c2), (3, .int c3), (4, .int i4), (5, .int i5), (6, .int i6)] [] := by
  have hT := hz.2.2.1
  intro n
  induction n with
  | zero => intro i4 i5 i6 o5 hf; cases hf
  | succ n ih =>
    intro i4 i5 i6 o5 hf hx0
    unfold L12_carried_9 at hf
    refine V_iload hc dX12_carried_9 6 rfl ?_
    refine V_iload_n hc dX12_carried_11 rfl 1 rfl ?_
    refine V_icmp_ge hc dX12_carried_12 rfl (fun hq12 => ?_) (fun hq12 => ?_)
    · rw [if_pos hq12] at hf
      obtain rfl := Option.some.inj hf
      exact V_sub [5] rfl hx0
    · rw [if_neg hq12] at hf
      refine V_aload_n hc dX12_carried_15 rfl 0 rfl ?_
      refine V_iload hc dX12_carried_16 6 rfl ?_
      obtain ⟨v1, hv1, hf⟩ := mb hf
      refine R_iald hc hT ha1 hv1 dX12_carried_18 ?_
      obtain ⟨x2, x3, hv4, hf⟩ := mb2 hf
      have hJ19 : V E z u (mw h q y M) 64 [(0, .ref (q a1)), (1, .int c1), (2, .int c2), (3, .int c3), (4, .int x2), (5, .int x3), (6, .int i6)] [] := by
        refine V_iinc hc (j := 6) (v := (i6 + (1 : Int32))) dX12_carried_64 rfl rfl (by decide) rfl ?_
        refine V_goto hc dX12_carried_67 rfl ?_
        exact V_sub [1, 2, 3, 4, 5, 6, 0] rfl (ih _ _ _ hf hx0)
      refine V_if_le hc dX12_carried_19 rfl (fun hq19 => ?_) (fun hq19 => ?_)
      · rw [if_pos hq19] at hv4
        refine V_aload_n hc dX12_carried_44 rfl 0 rfl ?_
        refine V_iload hc dX12_carried_45 6 rfl ?_
        obtain ⟨v5, hv5, hv4⟩ := mb hv4
        refine R_iald hc hT ha1 hv5 dX12_carried_47 ?_
        refine V_iconst hc (v := (-1 : Int32)) dX12_carried_48 rfl ?_
        obtain ⟨x6, hv7, hv4⟩ := mb hv4
        have hJ49 : V E z u (mw h q y M) 61 [(0, .ref (q a1)), (1, .int c1), (2, .int c2), (3, .int c3), (4, .int i4), (5, .int x6), (6, .int i6)] [] := by
          refine V_iinc hc (j := 4) (v := (i4 + (1 : Int32))) dX12_carried_61 rfl rfl (by decide) rfl ?_
          obtain ⟨rfl, rfl⟩ := si2 hv4
          exact V_sub [1, 2, 3, 4, 0, 5, 6] rfl hJ19
        refine V_icmp_ne hc dX12_carried_49 rfl (fun hq49 => ?_) (fun hq49 => ?_)
        · rw [if_neg hq49] at hv7
          obtain rfl := Option.some.inj hv7
          exact V_sub [0, 1, 2, 3, 4, 5, 6] rfl hJ49
        · rw [if_pos hq49] at hv7
          refine V_iload hc dX12_carried_52 4 rfl ?_
          refine V_iload_n hc dX12_carried_54 rfl 2 rfl ?_
          refine V_icmp_ge hc dX12_carried_55 rfl (fun hq55 => ?_) (fun hq55 => ?_)
          · rw [if_pos hq55] at hv7
            obtain rfl := Option.some.inj hv7
            exact V_sub [0, 1, 2, 3, 4, 5, 6] rfl hJ49
          · rw [if_neg hq55] at hv7
            refine V_iinc hc (j := 5) (v := (i5 + (-1 : Int32))) dX12_carried_58 rfl rfl (by decide) rfl ?_
            obtain rfl := Option.some.inj hv7
            exact V_sub [1, 2, 3, 4, 5, 0, 6] rfl hJ49
      · rw [if_neg hq19] at hv4
        refine V_iload hc dX12_carried_22 4 rfl ?_
        refine V_iload_n hc dX12_carried_24 rfl 2 rfl ?_
        refine V_icmp_lt hc dX12_carried_25 rfl (fun hq25 => ?_) (fun hq25 => ?_)
        · rw [if_pos hq25] at hv4
          refine V_iinc hc (j := 5) (v := (i5 + (1 : Int32))) dX12_carried_38 rfl rfl (by decide) rfl ?_
          refine V_goto hc dX12_carried_41 rfl ?_
          obtain ⟨rfl, rfl⟩ := si2 hv4
          exact V_sub [1, 2, 3, 4, 5, 0, 6] rfl hJ19
        · rw [if_neg hq25] at hv4
          refine V_iload hc dX12_carried_28 4 rfl ?_
          refine V_iload_n hc dX12_carried_30 rfl 2 rfl ?_
          refine V_icmp_ne hc dX12_carried_31 rfl (fun hq31 => ?_) (fun hq31 => ?_)
          · rw [if_neg hq31] at hv4
            obtain ⟨rfl, rfl⟩ := si2 hv4
            exact V_sub [0, 1, 2, 3, 4, 5, 6] rfl hJ19
          · rw [if_pos hq31] at hv4
            refine V_iload_n hc dX12_carried_34 rfl 3 rfl ?_
            refine V_if_eq hc dX12_carried_35 rfl (fun hq35 => ?_) (fun hq35 => ?_)
            · rw [if_pos hq35] at hv4
              obtain ⟨rfl, rfl⟩ := si2 hv4
              exact V_sub [0, 1, 2, 3, 4, 5, 6] rfl hJ19
            · rw [if_neg hq35] at hv4
              refine V_iinc hc (j := 5) (v := (i5 + (1 : Int32))) dX12_carried_38 rfl rfl (by decide) rfl ?_
              refine V_goto hc dX12_carried_41 rfl ?_
              obtain ⟨rfl, rfl⟩ := si2 hv4
              exact V_sub [1, 2, 3, 4, 5, 0, 6] rfl hJ19
set_option maxHeartbeats 4000000 in
set_option maxRecDepth 100000 in
theorem c12_carried (l : Launch) (D : va_G) (h : Nat) (q : Nat → Nat) (y : CyT) (zM uM z u : Nat) {M : MS} {a1 : Nat} {p2 : Int32} {p3 : Int32} {p4 : Int32} {r : Int32} (ha1 : mKi a1 = 1) (hf : f12_carried M a1 p2 p3 p4 = some r) : CT l D y yX12_carried cX12_carried 7 (some .int) 0 0 zM uM [.ref (q a1), .int p2, .int p3, .int p4] z u (mw h q y M) z u (mw h q y M) (some (.int r)) := by
  refine CT.of (by decide) (Nat.le_of_ble_eq_true rfl) (fun E hc hzz hnm => ?_)
  have hc : Cx E "FarEditorsModel" cX12_carried 7 := hc
  have hz := hzz.1
  have hT := hz.2.2.1
  show V E z u (mw h q y M) 0 [(0, .ref (q a1)), (1, .int p2), (2, .int p3), (3, .int p4)] []
  unfold f12_carried at hf
  refine V_iconst hc (v := (0 : Int32)) dX12_carried_0 rfl ?_
  refine V_istore hc dX12_carried_1 (by decide) rfl ?_
  refine V_iload_n hc dX12_carried_3 rfl 3 rfl ?_
  refine V_istore hc dX12_carried_4 (by decide) rfl ?_
  refine V_iconst hc (v := (0 : Int32)) dX12_carried_6 rfl ?_
  refine V_istore hc dX12_carried_7 (by decide) rfl ?_
  obtain ⟨x1, hv2, hf⟩ := mb hf
  refine V_sub [3, 4, 5, 6, 2, 1, 0] rfl (L12_carried_9_ok hc hz a1 p2 p3 p4 M ha1 FU _ _ _ hv2 ?_)
  refine V_iload hc dX12_carried_70 0 rfl ?_
  obtain rfl := Option.some.inj hf
  exact V_iret hc hzz rfl rfl rfl rfl rfl dX12_carried_72
noncomputable def f12_of (p1 : Int32) (p2 : Int32) : Option (Int32) :=
  some (((4 : Int32) + ((2618 : Int32) * p1)) + p2)
theorem hd12_of : yX12_of.cls = "FarEditorsModel" ∧ yX12_of.cls ≠ "java/lang/invoke/MethodHandle" ∧ yX12_of.cls ≠ "java/lang/invoke/VarHandle" ∧ (parseMethodDescriptor yX12_of.desc).map (fun d => d.parameters.length) = some 2 := by decide +kernel
set_option maxHeartbeats 4000000 in
set_option maxRecDepth 100000 in
theorem c12_of (l : Launch) (D : va_G) (h : Nat) (q : Nat → Nat) (y : CyT) (zM uM z u : Nat) {M : MS} {p1 : Int32} {p2 : Int32} {r : Int32} (hf : f12_of p1 p2 = some r) : CT l D y yX12_of cX12_of 2 (some .int) 0 0 zM uM [.int p1, .int p2] z u (mw h q y M) z u (mw h q y M) (some (.int r)) := by
  refine CT.of (by decide) (Nat.le_of_ble_eq_true rfl) (fun E hc hzz hnm => ?_)
  have hc : Cx E "FarEditorsModel" cX12_of 2 := hc
  have hz := hzz.1
  have hT := hz.2.2.1
  show V E z u (mw h q y M) 0 [(0, .int p1), (1, .int p2)] []
  unfold f12_of at hf
  refine V_iconst hc (v := (4 : Int32)) dX12_of_0 rfl ?_
  refine V_sipush hc (v := (2618 : Int32)) dX12_of_1 rfl ?_
  refine V_iload_n hc dX12_of_4 rfl 0 rfl ?_
  refine V_imul hc dX12_of_5 ?_
  refine V_iadd hc dX12_of_6 ?_
  refine V_iload_n hc dX12_of_7 rfl 1 rfl ?_
  refine V_iadd hc dX12_of_8 ?_
  obtain rfl := Option.some.inj hf
  exact V_iret hc hzz rfl rfl rfl rfl rfl dX12_of_9
noncomputable def f12_its (M : MS) (p1 : Int32) (p2 : Int32) : Option (Int32) :=
  (ld M 30 (((4 : Int32) + ((2618 : Int32) * p1)) + p2)).bind fun v1 =>
  some v1
theorem hd12_its : yX12_its.cls = "FarEditorsModel" ∧ yX12_its.cls ≠ "java/lang/invoke/MethodHandle" ∧ yX12_its.cls ≠ "java/lang/invoke/VarHandle" ∧ (parseMethodDescriptor yX12_its.desc).map (fun d => d.parameters.length) = some 2 := by decide +kernel
set_option maxHeartbeats 4000000 in
set_option maxRecDepth 100000 in
theorem c12_its (l : Launch) (D : va_G) (h : Nat) (q : Nat → Nat) (y : CyT) (zM uM z u : Nat) {M : MS} {p1 : Int32} {p2 : Int32} {r : Int32} (hf : f12_its M p1 p2 = some r) : CT l D y yX12_its cX12_its 3 (some .int) 0 0 zM uM [.ref h, .int p1, .int p2] z u (mw h q y M) z u (mw h q y M) (some (.int r)) := by
  refine CT.of (by decide) (Nat.le_of_ble_eq_true rfl) (fun E hc hzz hnm => ?_)
  have hc : Cx E "FarEditorsModel" cX12_its 3 := hc
  have hz := hzz.1
  have hT := hz.2.2.1
  show V E z u (mw h q y M) 0 [(0, .ref h), (1, .int p1), (2, .int p2)] []
  unfold f12_its at hf
  refine V_aload_n hc dX12_its_0 rfl 0 rfl ?_
  refine R_getr hc 30 rfl (by decide) w6_88 dX12_its_1 ?_
  refine V_iconst hc (v := (4 : Int32)) dX12_its_4 rfl ?_
  refine V_sipush hc (v := (2618 : Int32)) dX12_its_5 rfl ?_
  refine V_iload_n hc dX12_its_8 rfl 1 rfl ?_
  refine V_imul hc dX12_its_9 ?_
  refine V_iadd hc dX12_its_10 ?_
  refine V_iload_n hc dX12_its_11 rfl 2 rfl ?_
  refine V_iadd hc dX12_its_12 ?_
  obtain ⟨v1, hv1, hf⟩ := mb hf
  refine R_iald hc hT rfl hv1 dX12_its_13 ?_
  obtain rfl := Option.some.inj hf
  exact V_iret hc hzz rfl rfl rfl rfl rfl dX12_its_14
noncomputable def f12_isEditor (M : MS) (p1 : Int32) : Option (Int32) :=
  (
    if (gF M 31) = 0 then (
      some (0 : Int32)
    ) else (
      (f12_isIn p1.toInt64 (0 : Int64) ((gF M 32) - (1 : Int32)).toInt64).bind fun v3 =>
      if v3 = 0 then (
        some (0 : Int32)
      ) else (
        some (1 : Int32)
      )
    )
  ).bind fun v1 =>
  (bz v1).bind fun v4 =>
  some v4
theorem hd12_isEditor : yX12_isEditor.cls = "FarEditorsModel" ∧ yX12_isEditor.cls ≠ "java/lang/invoke/MethodHandle" ∧ yX12_isEditor.cls ≠ "java/lang/invoke/VarHandle" ∧ (parseMethodDescriptor yX12_isEditor.desc).map (fun d => d.parameters.length) = some 1 := by decide +kernel
set_option maxHeartbeats 4000000 in
set_option maxRecDepth 100000 in
theorem c12_isEditor (l : Launch) (D : va_G) (h : Nat) (q : Nat → Nat) (y : CyT) (zM uM z u : Nat) {M : MS} {p1 : Int32} {r : Int32} (hf : f12_isEditor M p1 = some r) : CT l D y yX12_isEditor cX12_isEditor 2 (some .boolean) 1 25 zM uM [.ref h, .int p1] z u (mw h q y M) z u (mw h q y M) (some (.int r)) := by
  refine CT.of (by decide) (Nat.le_of_ble_eq_true rfl) (fun E hc hzz hnm => ?_)
  have hc : Cx E "FarEditorsModel" cX12_isEditor 2 := hc
  have hz := hzz.1
  have hT := hz.2.2.1
  show V E z u (mw h q y M) 0 [(0, .ref h), (1, .int p1)] []
  unfold f12_isEditor at hf
  refine V_aload_n hc dX12_isEditor_0 rfl 0 rfl ?_
  refine R_geti hc 31 rfl (by decide) w6_89 dX12_isEditor_1 ?_
  obtain ⟨v1, hv2, hf⟩ := mb hf
  have hJ4 : V E z u (mw h q y M) 28 [] [.int v1] := by
    obtain ⟨v4, hv4, hf⟩ := mb hf
    obtain ⟨hbv4, rfl⟩ := bz_some hv4
    obtain rfl := Option.some.inj hf
    exact V_iret hc hzz (bz_nar hbv4) rfl rfl rfl rfl dX12_isEditor_28
  refine V_if_eq hc dX12_isEditor_4 rfl (fun hq4 => ?_) (fun hq4 => ?_)
  · rw [if_pos hq4] at hv2
    refine V_iconst hc (v := (0 : Int32)) dX12_isEditor_27 rfl ?_
    obtain rfl := Option.some.inj hv2
    exact V_sub [] rfl hJ4
  · rw [if_neg hq4] at hv2
    refine V_iload_n hc dX12_isEditor_7 rfl 1 rfl ?_
    refine V_i2l hc dX12_isEditor_8 ?_
    refine V_lconst hc (v := (0 : Int64)) dX12_isEditor_9 rfl ?_
    refine V_aload_n hc dX12_isEditor_10 rfl 0 rfl ?_
    refine R_geti hc 32 rfl (by decide) w6_90 dX12_isEditor_11 ?_
    refine V_iconst hc (v := (1 : Int32)) dX12_isEditor_14 rfl ?_
    refine V_isub hc dX12_isEditor_15 ?_
    refine V_i2l hc dX12_isEditor_16 ?_
    obtain ⟨v3, hv3, hv2⟩ := mb hv2
    refine R_callSi hc hz (As := [.long p1.toInt64, .long (0 : Int64), .long ((gF M 32) - (1 : Int32)).toInt64]) (c12_isIn l D h q y _ _ _ _ hv3) w7_34 w7_35 w1_13 w7_36 hd12_isIn ⟨Nat.le_of_ble_eq_true rfl, Nat.le_of_ble_eq_true rfl⟩ rfl rfl (Nat.le_of_ble_eq_true rfl) dX12_isEditor_17 ?_
    refine V_if_eq hc dX12_isEditor_20 rfl (fun hq20 => ?_) (fun hq20 => ?_)
    · rw [if_pos hq20] at hv2
      refine V_iconst hc (v := (0 : Int32)) dX12_isEditor_27 rfl ?_
      obtain rfl := Option.some.inj hv2
      exact V_sub [] rfl hJ4
    · rw [if_neg hq20] at hv2
      refine V_iconst hc (v := (1 : Int32)) dX12_isEditor_23 rfl ?_
      refine V_goto hc dX12_isEditor_24 rfl ?_
      obtain rfl := Option.some.inj hv2
      exact V_sub [] rfl hJ4
noncomputable def f12_opToA (M : MS) (p1 : Int32) : Option (MS) :=
  (ld M 38 p1).bind fun v1 =>
  (ld M 39 p1).bind fun v2 =>
  (ld M 37 p1).bind fun v3 =>
  bn2 (f12_spreads M 40 v1 v2 v3 20) fun v4 M5 =>
  some (sF M5 25 v4)
theorem hd12_opToA : yX12_opToA.cls = "FarEditorsModel" ∧ yX12_opToA.cls ≠ "java/lang/invoke/MethodHandle" ∧ yX12_opToA.cls ≠ "java/lang/invoke/VarHandle" ∧ (parseMethodDescriptor yX12_opToA.desc).map (fun d => d.parameters.length) = some 1 := by decide +kernel
set_option maxHeartbeats 4000000 in
set_option maxRecDepth 100000 in
theorem c12_opToA (l : Launch) (D : va_G) (h : Nat) (q : Nat → Nat) (y : CyT) (zM uM z u : Nat) {M M' : MS} {p1 : Int32} (hf : f12_opToA M p1 = some M') : CT l D y yX12_opToA cX12_opToA 2 none 1 29 zM uM [.ref h, .int p1] z u (mw h q y M) z u (mw h q y M') none := by
  refine CT.of (by decide) (Nat.le_of_ble_eq_true rfl) (fun E hc hzz hnm => ?_)
  have hc : Cx E "FarEditorsModel" cX12_opToA 2 := hc
  have hz := hzz.1
  have hT := hz.2.2.1
  show V E z u (mw h q y M) 0 [(0, .ref h), (1, .int p1)] []
  unfold f12_opToA at hf
  refine V_aload_n hc dX12_opToA_0 rfl 0 rfl ?_
  refine V_aload_n hc dX12_opToA_1 rfl 0 rfl ?_
  refine R_getr hc 40 rfl (by decide) w6_98 dX12_opToA_2 ?_
  refine V_aload_n hc dX12_opToA_5 rfl 0 rfl ?_
  refine R_getr hc 38 rfl (by decide) w6_96 dX12_opToA_6 ?_
  refine V_iload_n hc dX12_opToA_9 rfl 1 rfl ?_
  obtain ⟨v1, hv1, hf⟩ := mb hf
  refine R_iald hc hT rfl hv1 dX12_opToA_10 ?_
  refine V_aload_n hc dX12_opToA_11 rfl 0 rfl ?_
  refine R_getr hc 39 rfl (by decide) w6_97 dX12_opToA_12 ?_
  refine V_iload_n hc dX12_opToA_15 rfl 1 rfl ?_
  obtain ⟨v2, hv2, hf⟩ := mb hf
  refine R_iald hc hT rfl hv2 dX12_opToA_16 ?_
  refine V_aload_n hc dX12_opToA_17 rfl 0 rfl ?_
  refine R_getr hc 37 rfl (by decide) w6_95 dX12_opToA_18 ?_
  refine V_iload_n hc dX12_opToA_21 rfl 1 rfl ?_
  obtain ⟨v3, hv3, hf⟩ := mb hf
  refine R_iald hc hT rfl hv3 dX12_opToA_22 ?_
  refine V_aload_n hc dX12_opToA_23 rfl 0 rfl ?_
  refine R_getr hc 20 rfl (by decide) w6_78 dX12_opToA_24 ?_
  obtain ⟨v4, M5, hv4, hf⟩ := mb2 hf
  refine R_callSi hc hz (As := [.ref (q 40), .int v1, .int v2, .int v3, .ref (q 20)]) (c12_spreads l D h q y _ _ _ _ rfl rfl hv4) w7_229 w7_230 w1_13 w7_231 hd12_spreads ⟨Nat.le_of_ble_eq_true rfl, Nat.le_of_ble_eq_true rfl⟩ rfl rfl (Nat.le_of_ble_eq_true rfl) dX12_opToA_27 ?_
  refine R_puti hc 25 rfl (by decide) w6_83 rfl rfl rfl dX12_opToA_30 ?_
  obtain rfl := Option.some.inj hf
  exact V_vret hc hzz rfl rfl rfl rfl dX12_opToA_33
noncomputable def f12_opToB (M : MS) (p1 : Int32) : Option (MS) :=
  (ld M 38 p1).bind fun v1 =>
  (ld M 39 p1).bind fun v2 =>
  (ld M 37 p1).bind fun v3 =>
  bn2 (f12_spreads M 40 v1 v2 v3 21) fun v4 M5 =>
  some (sF M5 26 v4)
theorem hd12_opToB : yX12_opToB.cls = "FarEditorsModel" ∧ yX12_opToB.cls ≠ "java/lang/invoke/MethodHandle" ∧ yX12_opToB.cls ≠ "java/lang/invoke/VarHandle" ∧ (parseMethodDescriptor yX12_opToB.desc).map (fun d => d.parameters.length) = some 1 := by decide +kernel
set_option maxHeartbeats 4000000 in
set_option maxRecDepth 100000 in
theorem c12_opToB (l : Launch) (D : va_G) (h : Nat) (q : Nat → Nat) (y : CyT) (zM uM z u : Nat) {M M' : MS} {p1 : Int32} (hf : f12_opToB M p1 = some M') : CT l D y yX12_opToB cX12_opToB 2 none 1 29 zM uM [.ref h, .int p1] z u (mw h q y M) z u (mw h q y M') none := by
  refine CT.of (by decide) (Nat.le_of_ble_eq_true rfl) (fun E hc hzz hnm => ?_)
  have hc : Cx E "FarEditorsModel" cX12_opToB 2 := hc
  have hz := hzz.1
  have hT := hz.2.2.1
  show V E z u (mw h q y M) 0 [(0, .ref h), (1, .int p1)] []
  unfold f12_opToB at hf
  refine V_aload_n hc dX12_opToB_0 rfl 0 rfl ?_
  refine V_aload_n hc dX12_opToB_1 rfl 0 rfl ?_
  refine R_getr hc 40 rfl (by decide) w6_98 dX12_opToB_2 ?_
  refine V_aload_n hc dX12_opToB_5 rfl 0 rfl ?_
  refine R_getr hc 38 rfl (by decide) w6_96 dX12_opToB_6 ?_
  refine V_iload_n hc dX12_opToB_9 rfl 1 rfl ?_
  obtain ⟨v1, hv1, hf⟩ := mb hf
  refine R_iald hc hT rfl hv1 dX12_opToB_10 ?_
  refine V_aload_n hc dX12_opToB_11 rfl 0 rfl ?_
  refine R_getr hc 39 rfl (by decide) w6_97 dX12_opToB_12 ?_
  refine V_iload_n hc dX12_opToB_15 rfl 1 rfl ?_
  obtain ⟨v2, hv2, hf⟩ := mb hf
  refine R_iald hc hT rfl hv2 dX12_opToB_16 ?_
  refine V_aload_n hc dX12_opToB_17 rfl 0 rfl ?_
  refine R_getr hc 37 rfl (by decide) w6_95 dX12_opToB_18 ?_
  refine V_iload_n hc dX12_opToB_21 rfl 1 rfl ?_
  obtain ⟨v3, hv3, hf⟩ := mb hf
  refine R_iald hc hT rfl hv3 dX12_opToB_22 ?_
  refine V_aload_n hc dX12_opToB_23 rfl 0 rfl ?_
  refine R_getr hc 21 rfl (by decide) w6_79 dX12_opToB_24 ?_
  obtain ⟨v4, M5, hv4, hf⟩ := mb2 hf
  refine R_callSi hc hz (As := [.ref (q 40), .int v1, .int v2, .int v3, .ref (q 21)]) (c12_spreads l D h q y _ _ _ _ rfl rfl hv4) w7_229 w7_230 w1_13 w7_231 hd12_spreads ⟨Nat.le_of_ble_eq_true rfl, Nat.le_of_ble_eq_true rfl⟩ rfl rfl (Nat.le_of_ble_eq_true rfl) dX12_opToB_27 ?_
  refine R_puti hc 26 rfl (by decide) w6_84 rfl rfl rfl dX12_opToB_30 ?_
  obtain rfl := Option.some.inj hf
  exact V_vret hc hzz rfl rfl rfl rfl dX12_opToB_33
noncomputable def f12_keptToA (M : MS) (p1 : Int32) : Option (MS) :=
  (ld M 30 p1).bind fun v1 =>
  (ld M 30 (p1 + (1 : Int32))).bind fun v2 =>
  bn2 (f12_spreads M 30 (p1 + (2 : Int32)) v1 v2 20) fun v3 M4 =>
  some (sF M4 25 v3)
theorem hd12_keptToA : yX12_keptToA.cls = "FarEditorsModel" ∧ yX12_keptToA.cls ≠ "java/lang/invoke/MethodHandle" ∧ yX12_keptToA.cls ≠ "java/lang/invoke/VarHandle" ∧ (parseMethodDescriptor yX12_keptToA.desc).map (fun d => d.parameters.length) = some 1 := by decide +kernel
set_option maxHeartbeats 4000000 in
set_option maxRecDepth 100000 in
theorem c12_keptToA (l : Launch) (D : va_G) (h : Nat) (q : Nat → Nat) (y : CyT) (zM uM z u : Nat) {M M' : MS} {p1 : Int32} (hf : f12_keptToA M p1 = some M') : CT l D y yX12_keptToA cX12_keptToA 2 none 1 29 zM uM [.ref h, .int p1] z u (mw h q y M) z u (mw h q y M') none := by
  refine CT.of (by decide) (Nat.le_of_ble_eq_true rfl) (fun E hc hzz hnm => ?_)
  have hc : Cx E "FarEditorsModel" cX12_keptToA 2 := hc
  have hz := hzz.1
  have hT := hz.2.2.1
  show V E z u (mw h q y M) 0 [(0, .ref h), (1, .int p1)] []
  unfold f12_keptToA at hf
  refine V_aload_n hc dX12_keptToA_0 rfl 0 rfl ?_
  refine V_aload_n hc dX12_keptToA_1 rfl 0 rfl ?_
  refine R_getr hc 30 rfl (by decide) w6_88 dX12_keptToA_2 ?_
  refine V_iload_n hc dX12_keptToA_5 rfl 1 rfl ?_
  refine V_iconst hc (v := (2 : Int32)) dX12_keptToA_6 rfl ?_
  refine V_iadd hc dX12_keptToA_7 ?_
  refine V_aload_n hc dX12_keptToA_8 rfl 0 rfl ?_
  refine R_getr hc 30 rfl (by decide) w6_88 dX12_keptToA_9 ?_
  refine V_iload_n hc dX12_keptToA_12 rfl 1 rfl ?_
  obtain ⟨v1, hv1, hf⟩ := mb hf
  refine R_iald hc hT rfl hv1 dX12_keptToA_13 ?_
  refine V_aload_n hc dX12_keptToA_14 rfl 0 rfl ?_
  refine R_getr hc 30 rfl (by decide) w6_88 dX12_keptToA_15 ?_
  refine V_iload_n hc dX12_keptToA_18 rfl 1 rfl ?_
  refine V_iconst hc (v := (1 : Int32)) dX12_keptToA_19 rfl ?_
  refine V_iadd hc dX12_keptToA_20 ?_
  obtain ⟨v2, hv2, hf⟩ := mb hf
  refine R_iald hc hT rfl hv2 dX12_keptToA_21 ?_
  refine V_aload_n hc dX12_keptToA_22 rfl 0 rfl ?_
  refine R_getr hc 20 rfl (by decide) w6_78 dX12_keptToA_23 ?_
  obtain ⟨v3, M4, hv3, hf⟩ := mb2 hf
  refine R_callSi hc hz (As := [.ref (q 30), .int (p1 + (2 : Int32)), .int v1, .int v2, .ref (q 20)]) (c12_spreads l D h q y _ _ _ _ rfl rfl hv3) w7_229 w7_230 w1_13 w7_231 hd12_spreads ⟨Nat.le_of_ble_eq_true rfl, Nat.le_of_ble_eq_true rfl⟩ rfl rfl (Nat.le_of_ble_eq_true rfl) dX12_keptToA_26 ?_
  refine R_puti hc 25 rfl (by decide) w6_83 rfl rfl rfl dX12_keptToA_29 ?_
  obtain rfl := Option.some.inj hf
  exact V_vret hc hzz rfl rfl rfl rfl dX12_keptToA_32
noncomputable def f12_keepsC (M : MS) (p1 : Int32) : Option (MS) :=
  bn2 (f12_gathers M 22 (gF M 27) 30 (p1 + (2 : Int32))) fun v1 M2 =>
  (sd M2 30 p1 v1).bind fun M3 =>
  (f12_oldOf M3 22 (gF M3 27)).bind fun v4 =>
  (sd M3 30 (p1 + (1 : Int32)) v4).bind fun M5 =>
  some M5
theorem hd12_keepsC : yX12_keepsC.cls = "FarEditorsModel" ∧ yX12_keepsC.cls ≠ "java/lang/invoke/MethodHandle" ∧ yX12_keepsC.cls ≠ "java/lang/invoke/VarHandle" ∧ (parseMethodDescriptor yX12_keepsC.desc).map (fun d => d.parameters.length) = some 1 := by decide +kernel
set_option maxHeartbeats 4000000 in
set_option maxRecDepth 100000 in
theorem c12_keepsC (l : Launch) (D : va_G) (h : Nat) (q : Nat → Nat) (y : CyT) (zM uM z u : Nat) {M M' : MS} {p1 : Int32} (hf : f12_keepsC M p1 = some M') : CT l D y yX12_keepsC cX12_keepsC 2 none 1 26 zM uM [.ref h, .int p1] z u (mw h q y M) z u (mw h q y M') none := by
  refine CT.of (by decide) (Nat.le_of_ble_eq_true rfl) (fun E hc hzz hnm => ?_)
  have hc : Cx E "FarEditorsModel" cX12_keepsC 2 := hc
  have hz := hzz.1
  have hT := hz.2.2.1
  show V E z u (mw h q y M) 0 [(0, .ref h), (1, .int p1)] []
  unfold f12_keepsC at hf
  refine V_aload_n hc dX12_keepsC_0 rfl 0 rfl ?_
  refine R_getr hc 30 rfl (by decide) w6_88 dX12_keepsC_1 ?_
  refine V_iload_n hc dX12_keepsC_4 rfl 1 rfl ?_
  refine V_aload_n hc dX12_keepsC_5 rfl 0 rfl ?_
  refine R_getr hc 22 rfl (by decide) w6_80 dX12_keepsC_6 ?_
  refine V_aload_n hc dX12_keepsC_9 rfl 0 rfl ?_
  refine R_geti hc 27 rfl (by decide) w6_85 dX12_keepsC_10 ?_
  refine V_aload_n hc dX12_keepsC_13 rfl 0 rfl ?_
  refine R_getr hc 30 rfl (by decide) w6_88 dX12_keepsC_14 ?_
  refine V_iload_n hc dX12_keepsC_17 rfl 1 rfl ?_
  refine V_iconst hc (v := (2 : Int32)) dX12_keepsC_18 rfl ?_
  refine V_iadd hc dX12_keepsC_19 ?_
  obtain ⟨v1, M2, hv1, hf⟩ := mb2 hf
  refine R_callSi hc hz (As := [.ref (q 22), .int (gF M 27), .ref (q 30), .int (p1 + (2 : Int32))]) (c12_gathers l D h q y _ _ _ _ rfl rfl hv1) w7_192 w7_193 w1_13 w7_194 hd12_gathers ⟨Nat.le_of_ble_eq_true rfl, Nat.le_of_ble_eq_true rfl⟩ rfl rfl (Nat.le_of_ble_eq_true rfl) dX12_keepsC_20 ?_
  obtain ⟨M3, hM3, hf⟩ := mb hf
  refine R_iast hc hT rfl hM3 dX12_keepsC_23 ?_
  refine V_aload_n hc dX12_keepsC_24 rfl 0 rfl ?_
  refine R_getr hc 30 rfl (by decide) w6_88 dX12_keepsC_25 ?_
  refine V_iload_n hc dX12_keepsC_28 rfl 1 rfl ?_
  refine V_iconst hc (v := (1 : Int32)) dX12_keepsC_29 rfl ?_
  refine V_iadd hc dX12_keepsC_30 ?_
  refine V_aload_n hc dX12_keepsC_31 rfl 0 rfl ?_
  refine R_getr hc 22 rfl (by decide) w6_80 dX12_keepsC_32 ?_
  refine V_aload_n hc dX12_keepsC_35 rfl 0 rfl ?_
  refine R_geti hc 27 rfl (by decide) w6_85 dX12_keepsC_36 ?_
  obtain ⟨v4, hv4, hf⟩ := mb hf
  refine R_callSi hc hz (As := [.ref (q 22), .int (gF M3 27)]) (c12_oldOf l D h q y _ _ _ _ rfl hv4) w7_195 w7_196 w1_13 w7_197 hd12_oldOf ⟨Nat.le_of_ble_eq_true rfl, Nat.le_of_ble_eq_true rfl⟩ rfl rfl (Nat.le_of_ble_eq_true rfl) dX12_keepsC_39 ?_
  obtain ⟨M5, hM5, hf⟩ := mb hf
  refine R_iast hc hT rfl hM5 dX12_keepsC_42 ?_
  obtain rfl := Option.some.inj hf
  exact V_vret hc hzz rfl rfl rfl rfl dX12_keepsC_43
noncomputable def L12_copiesOp_2 (c1 : Int32) (c2 : Int32) : Nat → Int32 → MS → Option (MS)
  | 0, _, _ => none
  | n + 1, i3, M =>
    (ld M 30 c2).bind fun v1 =>
    if ((2 : Int32) + v1) ≤ i3 then (
      some M
    ) else (
      (ld M 30 (c2 + i3)).bind fun v2 =>
      (sd M 30 (c1 + i3) v2).bind fun M3 =>
      L12_copiesOp_2 c1 c2 n (i3 + (1 : Int32)) M3
    )
noncomputable def f12_copiesOp (M : MS) (p1 : Int32) (p2 : Int32) : Option (MS) :=
  (L12_copiesOp_2 p1 p2 FU (0 : Int32) M).bind fun M1 =>
  some M1
theorem hd12_copiesOp : yX12_copiesOp.cls = "FarEditorsModel" ∧ yX12_copiesOp.cls ≠ "java/lang/invoke/MethodHandle" ∧ yX12_copiesOp.cls ≠ "java/lang/invoke/VarHandle" ∧ (parseMethodDescriptor yX12_copiesOp.desc).map (fun d => d.parameters.length) = some 2 := by decide +kernel
set_option maxHeartbeats 4000000 in
set_option maxRecDepth 100000 in
theorem L12_copiesOp_2_ok {E : CxT} {l : Launch} {D : va_G} {h : Nat} {q : Nat → Nat} {y : CyT} {zM uM z u : Nat} (hc : Cx E "FarEditorsModel" cX12_copiesOp 4) (hz : Cy E l D y 0 0 zM uM) (c1 : Int32) (c2 : Int32) : ∀ (n : Nat) (i3 : Int32) (M : MS) {Mo : MS}, L12_copiesOp_2 c1 c2 n i3 M = some Mo → (hx0 : V E z u (mw h q y Mo) 36 [] []) → V E z u (mw h q y M) 2 [(0, .ref h), (1, .int c1), (2, .int c2), (3, .int i3)] [] := by
  have hT := hz.2.2.1
  intro n
  induction n with
  | zero => intro i3 M Mo hf; cases hf
  | succ n ih =>
    intro i3 M Mo hf hx0
    unfold L12_copiesOp_2 at hf
    refine V_iload_n hc dX12_copiesOp_2 rfl 3 rfl ?_
    refine V_iconst hc (v := (2 : Int32)) dX12_copiesOp_3 rfl ?_
    refine V_aload_n hc dX12_copiesOp_4 rfl 0 rfl ?_
    refine R_getr hc 30 rfl (by decide) w6_88 dX12_copiesOp_5 ?_
    refine V_iload_n hc dX12_copiesOp_8 rfl 2 rfl ?_
    obtain ⟨v1, hv1, hf⟩ := mb hf
    refine R_iald hc hT rfl hv1 dX12_copiesOp_9 ?_
    refine V_iadd hc dX12_copiesOp_10 ?_
    refine V_icmp_ge hc dX12_copiesOp_11 rfl (fun hq11 => ?_) (fun hq11 => ?_)
    · rw [if_pos hq11] at hf
      obtain rfl := Option.some.inj hf
      exact V_sub [] rfl hx0
    · rw [if_neg hq11] at hf
      refine V_aload_n hc dX12_copiesOp_14 rfl 0 rfl ?_
      refine R_getr hc 30 rfl (by decide) w6_88 dX12_copiesOp_15 ?_
      refine V_iload_n hc dX12_copiesOp_18 rfl 1 rfl ?_
      refine V_iload_n hc dX12_copiesOp_19 rfl 3 rfl ?_
      refine V_iadd hc dX12_copiesOp_20 ?_
      refine V_aload_n hc dX12_copiesOp_21 rfl 0 rfl ?_
      refine R_getr hc 30 rfl (by decide) w6_88 dX12_copiesOp_22 ?_
      refine V_iload_n hc dX12_copiesOp_25 rfl 2 rfl ?_
      refine V_iload_n hc dX12_copiesOp_26 rfl 3 rfl ?_
      refine V_iadd hc dX12_copiesOp_27 ?_
      obtain ⟨v2, hv2, hf⟩ := mb hf
      refine R_iald hc hT rfl hv2 dX12_copiesOp_28 ?_
      obtain ⟨M3, hM3, hf⟩ := mb hf
      refine R_iast hc hT rfl hM3 dX12_copiesOp_29 ?_
      refine V_iinc hc (j := 3) (v := (i3 + (1 : Int32))) dX12_copiesOp_30 rfl rfl (by decide) rfl ?_
      refine V_goto hc dX12_copiesOp_33 rfl ?_
      exact V_sub [1, 2, 3, 0] rfl (ih _ _ hf hx0)
set_option maxHeartbeats 4000000 in
set_option maxRecDepth 100000 in
theorem c12_copiesOp (l : Launch) (D : va_G) (h : Nat) (q : Nat → Nat) (y : CyT) (zM uM z u : Nat) {M M' : MS} {p1 : Int32} {p2 : Int32} (hf : f12_copiesOp M p1 p2 = some M') : CT l D y yX12_copiesOp cX12_copiesOp 4 none 0 0 zM uM [.ref h, .int p1, .int p2] z u (mw h q y M) z u (mw h q y M') none := by
  refine CT.of (by decide) (Nat.le_of_ble_eq_true rfl) (fun E hc hzz hnm => ?_)
  have hc : Cx E "FarEditorsModel" cX12_copiesOp 4 := hc
  have hz := hzz.1
  have hT := hz.2.2.1
  show V E z u (mw h q y M) 0 [(0, .ref h), (1, .int p1), (2, .int p2)] []
  unfold f12_copiesOp at hf
  refine V_iconst hc (v := (0 : Int32)) dX12_copiesOp_0 rfl ?_
  refine V_istore_n hc dX12_copiesOp_1 rfl (by decide) rfl ?_
  obtain ⟨M1, hv2, hf⟩ := mb hf
  refine V_sub [1, 2, 3, 0] rfl (L12_copiesOp_2_ok hc hz p1 p2 FU _ _ hv2 ?_)
  obtain rfl := Option.some.inj hf
  exact V_vret hc hzz rfl rfl rfl rfl dX12_copiesOp_36
noncomputable def f12_isAhead (M : MS) (p1 : Int32) (p2 : Int32) : Option (Int32) :=
  (
    if (gF M 33) = 0 then (
      if p2 ≤ p1 then (
        some (0 : Int32)
      ) else (
        some (1 : Int32)
      )
    ) else (
      if (gF M 33) = (1 : Int32) then (
        if p1 ≤ p2 then (
          some (0 : Int32)
        ) else (
          some (1 : Int32)
        )
      ) else (
        some (0 : Int32)
      )
    )
  ).bind fun v1 =>
  (bz v1).bind fun v3 =>
  some v3
theorem hd12_isAhead : yX12_isAhead.cls = "FarEditorsModel" ∧ yX12_isAhead.cls ≠ "java/lang/invoke/MethodHandle" ∧ yX12_isAhead.cls ≠ "java/lang/invoke/VarHandle" ∧ (parseMethodDescriptor yX12_isAhead.desc).map (fun d => d.parameters.length) = some 2 := by decide +kernel
set_option maxHeartbeats 4000000 in
set_option maxRecDepth 100000 in
theorem c12_isAhead (l : Launch) (D : va_G) (h : Nat) (q : Nat → Nat) (y : CyT) (zM uM z u : Nat) {M : MS} {p1 : Int32} {p2 : Int32} {r : Int32} (hf : f12_isAhead M p1 p2 = some r) : CT l D y yX12_isAhead cX12_isAhead 3 (some .boolean) 0 0 zM uM [.ref h, .int p1, .int p2] z u (mw h q y M) z u (mw h q y M) (some (.int r)) := by
  refine CT.of (by decide) (Nat.le_of_ble_eq_true rfl) (fun E hc hzz hnm => ?_)
  have hc : Cx E "FarEditorsModel" cX12_isAhead 3 := hc
  have hz := hzz.1
  have hT := hz.2.2.1
  show V E z u (mw h q y M) 0 [(0, .ref h), (1, .int p1), (2, .int p2)] []
  unfold f12_isAhead at hf
  refine V_aload_n hc dX12_isAhead_0 rfl 0 rfl ?_
  refine R_geti hc 33 rfl (by decide) w6_91 dX12_isAhead_1 ?_
  obtain ⟨v1, hv2, hf⟩ := mb hf
  have hJ4 : V E z u (mw h q y M) 38 [] [.int v1] := by
    obtain ⟨v3, hv3, hf⟩ := mb hf
    obtain ⟨hbv3, rfl⟩ := bz_some hv3
    obtain rfl := Option.some.inj hf
    exact V_iret hc hzz (bz_nar hbv3) rfl rfl rfl rfl dX12_isAhead_38
  refine V_if_ne hc dX12_isAhead_4 rfl (fun hq4 => ?_) (fun hq4 => ?_)
  · rw [if_neg hq4] at hv2
    refine V_aload_n hc dX12_isAhead_20 rfl 0 rfl ?_
    refine R_geti hc 33 rfl (by decide) w6_91 dX12_isAhead_21 ?_
    refine V_iconst hc (v := (1 : Int32)) dX12_isAhead_24 rfl ?_
    refine V_icmp_ne hc dX12_isAhead_25 rfl (fun hq25 => ?_) (fun hq25 => ?_)
    · rw [if_neg hq25] at hv2
      refine V_iconst hc (v := (0 : Int32)) dX12_isAhead_37 rfl ?_
      obtain rfl := Option.some.inj hv2
      exact V_sub [] rfl hJ4
    · rw [if_pos hq25] at hv2
      refine V_iload_n hc dX12_isAhead_28 rfl 1 rfl ?_
      refine V_iload_n hc dX12_isAhead_29 rfl 2 rfl ?_
      refine V_icmp_le hc dX12_isAhead_30 rfl (fun hq30 => ?_) (fun hq30 => ?_)
      · rw [if_pos hq30] at hv2
        refine V_iconst hc (v := (0 : Int32)) dX12_isAhead_37 rfl ?_
        obtain rfl := Option.some.inj hv2
        exact V_sub [] rfl hJ4
      · rw [if_neg hq30] at hv2
        refine V_iconst hc (v := (1 : Int32)) dX12_isAhead_33 rfl ?_
        refine V_goto hc dX12_isAhead_34 rfl ?_
        obtain rfl := Option.some.inj hv2
        exact V_sub [] rfl hJ4
  · rw [if_pos hq4] at hv2
    refine V_iload_n hc dX12_isAhead_7 rfl 1 rfl ?_
    refine V_iload_n hc dX12_isAhead_8 rfl 2 rfl ?_
    refine V_icmp_ge hc dX12_isAhead_9 rfl (fun hq9 => ?_) (fun hq9 => ?_)
    · rw [if_pos hq9] at hv2
      refine V_iconst hc (v := (0 : Int32)) dX12_isAhead_16 rfl ?_
      refine V_goto hc dX12_isAhead_17 rfl ?_
      obtain rfl := Option.some.inj hv2
      exact V_sub [] rfl hJ4
    · rw [if_neg hq9] at hv2
      refine V_iconst hc (v := (1 : Int32)) dX12_isAhead_12 rfl ?_
      refine V_goto hc dX12_isAhead_13 rfl ?_
      obtain rfl := Option.some.inj hv2
      exact V_sub [] rfl hJ4
noncomputable def L12_entryAt_5 (c2 : Int32) (M : MS) : Nat → Int32 → Int32 → Option (Int32)
  | 0, _, _ => none
  | n + 1, i3, i4 =>
    if c2 ≤ i4 then (
      some i3
    ) else (
      (ld M 30 i3).bind fun v1 =>
      L12_entryAt_5 c2 M n (i3 + ((3 : Int32) + v1)) (i4 + (1 : Int32))
    )
noncomputable def f12_entryAt (M : MS) (p1 : Int32) (p2 : Int32) : Option (Int32) :=
  (L12_entryAt_5 p2 M FU p1 (0 : Int32)).bind fun x1 =>
  some x1
theorem hd12_entryAt : yX12_entryAt.cls = "FarEditorsModel" ∧ yX12_entryAt.cls ≠ "java/lang/invoke/MethodHandle" ∧ yX12_entryAt.cls ≠ "java/lang/invoke/VarHandle" ∧ (parseMethodDescriptor yX12_entryAt.desc).map (fun d => d.parameters.length) = some 2 := by decide +kernel
set_option maxHeartbeats 4000000 in
set_option maxRecDepth 100000 in
theorem L12_entryAt_5_ok {E : CxT} {l : Launch} {D : va_G} {h : Nat} {q : Nat → Nat} {y : CyT} {zM uM z u : Nat} (hc : Cx E "FarEditorsModel" cX12_entryAt 5) (hz : Cy E l D y 0 0 zM uM) (c2 : Int32) (M : MS) : ∀ (n : Nat) (i3 : Int32) (i4 : Int32) {o3 : Int32}, L12_entryAt_5 c2 M n i3 i4 = some o3 → (hx0 : V E z u (mw h q y M) 28 [(3, .int o3)] []) → V E z u (mw h q y M) 5 [(0, .ref h), (2, .int c2), (3, .int i3), (4, .int i4)] [] := by
  have hT := hz.2.2.1
  intro n
  induction n with
  | zero => intro i3 i4 o3 hf; cases hf
  | succ n ih =>
    intro i3 i4 o3 hf hx0
    unfold L12_entryAt_5 at hf
    refine V_iload hc dX12_entryAt_5 3 rfl ?_
    refine V_iload_n hc dX12_entryAt_7 rfl 1 rfl ?_
    refine V_icmp_ge hc dX12_entryAt_8 rfl (fun hq8 => ?_) (fun hq8 => ?_)
    · rw [if_pos hq8] at hf
      obtain rfl := Option.some.inj hf
      exact V_sub [2] rfl hx0
    · rw [if_neg hq8] at hf
      refine V_iload_n hc dX12_entryAt_11 rfl 2 rfl ?_
      refine V_iconst hc (v := (3 : Int32)) dX12_entryAt_12 rfl ?_
      refine V_aload_n hc dX12_entryAt_13 rfl 0 rfl ?_
      refine R_getr hc 30 rfl (by decide) w6_88 dX12_entryAt_14 ?_
      refine V_iload_n hc dX12_entryAt_17 rfl 2 rfl ?_
      obtain ⟨v1, hv1, hf⟩ := mb hf
      refine R_iald hc hT rfl hv1 dX12_entryAt_18 ?_
      refine V_iadd hc dX12_entryAt_19 ?_
      refine V_iadd hc dX12_entryAt_20 ?_
      refine V_istore_n hc dX12_entryAt_21 rfl (by decide) rfl ?_
      refine V_iinc hc (j := 3) (v := (i4 + (1 : Int32))) dX12_entryAt_22 rfl rfl (by decide) rfl ?_
      refine V_goto hc dX12_entryAt_25 rfl ?_
      exact V_sub [2, 3, 1, 0] rfl (ih _ _ hf hx0)
set_option maxHeartbeats 4000000 in
set_option maxRecDepth 100000 in
theorem c12_entryAt (l : Launch) (D : va_G) (h : Nat) (q : Nat → Nat) (y : CyT) (zM uM z u : Nat) {M : MS} {p1 : Int32} {p2 : Int32} {r : Int32} (hf : f12_entryAt M p1 p2 = some r) : CT l D y yX12_entryAt cX12_entryAt 5 (some .int) 0 0 zM uM [.ref h, .int p1, .int p2] z u (mw h q y M) z u (mw h q y M) (some (.int r)) := by
  refine CT.of (by decide) (Nat.le_of_ble_eq_true rfl) (fun E hc hzz hnm => ?_)
  have hc : Cx E "FarEditorsModel" cX12_entryAt 5 := hc
  have hz := hzz.1
  have hT := hz.2.2.1
  show V E z u (mw h q y M) 0 [(0, .ref h), (1, .int p1), (2, .int p2)] []
  unfold f12_entryAt at hf
  refine V_iload_n hc dX12_entryAt_0 rfl 1 rfl ?_
  refine V_istore_n hc dX12_entryAt_1 rfl (by decide) rfl ?_
  refine V_iconst hc (v := (0 : Int32)) dX12_entryAt_2 rfl ?_
  refine V_istore hc dX12_entryAt_3 (by decide) rfl ?_
  obtain ⟨x1, hv2, hf⟩ := mb hf
  refine V_sub [2, 4, 1, 0] rfl (L12_entryAt_5_ok hc hz p2 M FU _ _ hv2 ?_)
  refine V_iload_n hc dX12_entryAt_28 rfl 0 rfl ?_
  obtain rfl := Option.some.inj hf
  exact V_iret hc hzz rfl rfl rfl rfl rfl dX12_entryAt_29
noncomputable def L12_dropsOldest_18 (c1 : Int32) (c3 : Int32) (c4 : Int32) : Nat → Int32 → MS → Option (MS)
  | 0, _, _ => none
  | n + 1, i5, M =>
    if c4 ≤ i5 then (
      some M
    ) else (
      (ld M 30 i5).bind fun v1 =>
      (sd M 30 ((c1 + i5) - c3) v1).bind fun M2 =>
      L12_dropsOldest_18 c1 c3 c4 n (i5 + (1 : Int32)) M2
    )
noncomputable def f12_dropsOldest (M : MS) (p1 : Int32) (p2 : Int32) : Option (MS) :=
  (f12_entryAt M p1 (1 : Int32)).bind fun v1 =>
  (f12_entryAt M p1 p2).bind fun v2 =>
  (L12_dropsOldest_18 p1 v1 v2 FU v1 M).bind fun M3 =>
  some M3
theorem hd12_dropsOldest : yX12_dropsOldest.cls = "FarEditorsModel" ∧ yX12_dropsOldest.cls ≠ "java/lang/invoke/MethodHandle" ∧ yX12_dropsOldest.cls ≠ "java/lang/invoke/VarHandle" ∧ (parseMethodDescriptor yX12_dropsOldest.desc).map (fun d => d.parameters.length) = some 2 := by decide +kernel
set_option maxHeartbeats 4000000 in
set_option maxRecDepth 100000 in
theorem L12_dropsOldest_18_ok {E : CxT} {l : Launch} {D : va_G} {h : Nat} {q : Nat → Nat} {y : CyT} {zM uM z u : Nat} (hc : Cx E "FarEditorsModel" cX12_dropsOldest 6) (hz : Cy E l D y 1 24 zM uM) (c1 : Int32) (c3 : Int32) (c4 : Int32) : ∀ (n : Nat) (i5 : Int32) (M : MS) {Mo : MS}, L12_dropsOldest_18 c1 c3 c4 n i5 M = some Mo → (hx0 : V E z u (mw h q y Mo) 49 [] []) → V E z u (mw h q y M) 18 [(0, .ref h), (1, .int c1), (3, .int c3), (4, .int c4), (5, .int i5)] [] := by
  have hT := hz.2.2.1
  intro n
  induction n with
  | zero => intro i5 M Mo hf; cases hf
  | succ n ih =>
    intro i5 M Mo hf hx0
    unfold L12_dropsOldest_18 at hf
    refine V_iload hc dX12_dropsOldest_18 4 rfl ?_
    refine V_iload hc dX12_dropsOldest_20 3 rfl ?_
    refine V_icmp_ge hc dX12_dropsOldest_22 rfl (fun hq22 => ?_) (fun hq22 => ?_)
    · rw [if_pos hq22] at hf
      obtain rfl := Option.some.inj hf
      exact V_sub [] rfl hx0
    · rw [if_neg hq22] at hf
      refine V_aload_n hc dX12_dropsOldest_25 rfl 0 rfl ?_
      refine R_getr hc 30 rfl (by decide) w6_88 dX12_dropsOldest_26 ?_
      refine V_iload_n hc dX12_dropsOldest_29 rfl 1 rfl ?_
      refine V_iload hc dX12_dropsOldest_30 4 rfl ?_
      refine V_iadd hc dX12_dropsOldest_32 ?_
      refine V_iload_n hc dX12_dropsOldest_33 rfl 2 rfl ?_
      refine V_isub hc dX12_dropsOldest_34 ?_
      refine V_aload_n hc dX12_dropsOldest_35 rfl 0 rfl ?_
      refine R_getr hc 30 rfl (by decide) w6_88 dX12_dropsOldest_36 ?_
      refine V_iload hc dX12_dropsOldest_39 4 rfl ?_
      obtain ⟨v1, hv1, hf⟩ := mb hf
      refine R_iald hc hT rfl hv1 dX12_dropsOldest_41 ?_
      obtain ⟨M2, hM2, hf⟩ := mb hf
      refine R_iast hc hT rfl hM2 dX12_dropsOldest_42 ?_
      refine V_iinc hc (j := 4) (v := (i5 + (1 : Int32))) dX12_dropsOldest_43 rfl rfl (by decide) rfl ?_
      refine V_goto hc dX12_dropsOldest_46 rfl ?_
      exact V_sub [1, 2, 3, 4, 0] rfl (ih _ _ hf hx0)
set_option maxHeartbeats 4000000 in
set_option maxRecDepth 100000 in
theorem c12_dropsOldest (l : Launch) (D : va_G) (h : Nat) (q : Nat → Nat) (y : CyT) (zM uM z u : Nat) {M M' : MS} {p1 : Int32} {p2 : Int32} (hf : f12_dropsOldest M p1 p2 = some M') : CT l D y yX12_dropsOldest cX12_dropsOldest 6 none 1 24 zM uM [.ref h, .int p1, .int p2] z u (mw h q y M) z u (mw h q y M') none := by
  refine CT.of (by decide) (Nat.le_of_ble_eq_true rfl) (fun E hc hzz hnm => ?_)
  have hc : Cx E "FarEditorsModel" cX12_dropsOldest 6 := hc
  have hz := hzz.1
  have hT := hz.2.2.1
  show V E z u (mw h q y M) 0 [(0, .ref h), (1, .int p1), (2, .int p2)] []
  unfold f12_dropsOldest at hf
  refine V_aload_n hc dX12_dropsOldest_0 rfl 0 rfl ?_
  refine V_iload_n hc dX12_dropsOldest_1 rfl 1 rfl ?_
  refine V_iconst hc (v := (1 : Int32)) dX12_dropsOldest_2 rfl ?_
  obtain ⟨v1, hv1, hf⟩ := mb hf
  refine R_callVi hc hz (As := [.int p1, .int (1 : Int32)]) (c12_entryAt l D h q y _ _ _ _ hv1) w7_184 w7_186 wp6_0 w1_13 w7_187 hd12_entryAt ⟨Nat.le_of_ble_eq_true rfl, Nat.le_of_ble_eq_true rfl⟩ rfl rfl (Nat.le_of_ble_eq_true rfl) dX12_dropsOldest_3 ?_
  refine V_istore_n hc dX12_dropsOldest_6 rfl (by decide) rfl ?_
  refine V_aload_n hc dX12_dropsOldest_7 rfl 1 rfl ?_
  refine V_iload_n hc dX12_dropsOldest_8 rfl 2 rfl ?_
  refine V_iload_n hc dX12_dropsOldest_9 rfl 3 rfl ?_
  obtain ⟨v2, hv2, hf⟩ := mb hf
  refine R_callVi hc hz (As := [.int p1, .int p2]) (c12_entryAt l D h q y _ _ _ _ hv2) w7_184 w7_186 wp6_0 w1_13 w7_187 hd12_entryAt ⟨Nat.le_of_ble_eq_true rfl, Nat.le_of_ble_eq_true rfl⟩ rfl rfl (Nat.le_of_ble_eq_true rfl) dX12_dropsOldest_10 ?_
  refine V_istore hc dX12_dropsOldest_13 (by decide) rfl ?_
  refine V_iload_n hc dX12_dropsOldest_15 rfl 1 rfl ?_
  refine V_istore hc dX12_dropsOldest_16 (by decide) rfl ?_
  obtain ⟨M3, hv4, hf⟩ := mb hf
  refine V_sub [3, 4, 2, 1, 0] rfl (L12_dropsOldest_18_ok hc hz p1 v1 v2 FU _ _ hv4 ?_)
  obtain rfl := Option.some.inj hf
  exact V_vret hc hzz rfl rfl rfl rfl dX12_dropsOldest_49
