noncomputable def L12_changesBoth_7 (c1 : Int32) : Nat → Int32 → Int32 → Int32 → MS → Option (Int32 × MS)
  | 0, _, _, _, _ => none
  | n + 1, i2, i3, i4, M =>
    if (gF M 26) ≤ i4 then (
      some (i2, M)
    ) else (
      (ld M 21 i4).bind fun v1 =>
      bn2 (
        if v1 < 0 then (
          some (i2, M)
        ) else (
          (ld M 21 i4).bind fun v5 =>
          (
            if v5 = 0 then (
              (ld M 47 i3).bind fun v9 =>
              some v9
            ) else (
              (ld M 21 i4).bind fun v8 =>
              some v8
            )
          ).bind fun v6 =>
          (sd M 50 i2 v6).bind fun M10 =>
          (ld M10 21 i4).bind fun v11 =>
          (
            if v11 = 0 then (
              (ld M10 48 i3).bind fun v14 =>
              some v14
            ) else (
              some c1
            )
          ).bind fun v12 =>
          (sd M10 29 i2 v12).bind fun M15 =>
          some ((i2 + (1 : Int32)), M15)
        )
      ) fun x2 M3 =>
      (ld M3 21 i4).bind fun v16 =>
      (
        if 0 < v16 then (
          some i3
        ) else (
          some (i3 + (1 : Int32))
        )
      ).bind fun x17 =>
      L12_changesBoth_7 c1 n x2 x17 (i4 + (1 : Int32)) M3
    )
noncomputable def L12_changesBoth_109 (c2 : Int32) : Nat → Int32 → MS → Option (MS)
  | 0, _, _ => none
  | n + 1, i4, M =>
    if c2 ≤ i4 then (
      some M
    ) else (
      (ld M 50 i4).bind fun v1 =>
      (sd M 47 i4 v1).bind fun M2 =>
      (ld M2 29 i4).bind fun v3 =>
      (sd M2 48 i4 v3).bind fun M4 =>
      L12_changesBoth_109 c2 n (i4 + (1 : Int32)) M4
    )
noncomputable def f12_changesBoth (M : MS) (p1 : Int32) : Option (Int32 × MS) :=
  bn2 (L12_changesBoth_7 p1 FU (0 : Int32) (0 : Int32) (0 : Int32) M) fun x1 M2 =>
  (L12_changesBoth_109 x1 FU (0 : Int32) M2).bind fun M4 =>
  some (x1, M4)
theorem hd12_changesBoth : yX12_changesBoth.cls = "FarEditorsModel" ∧ yX12_changesBoth.cls ≠ "java/lang/invoke/MethodHandle" ∧ yX12_changesBoth.cls ≠ "java/lang/invoke/VarHandle" ∧ (parseMethodDescriptor yX12_changesBoth.desc).map (fun d => d.parameters.length) = some 1 := by decide +kernel
set_option maxHeartbeats 4000000 in
set_option maxRecDepth 100000 in
theorem L12_changesBoth_7_ok {E : CxT} {l : Launch} {D : va_G} {h : Nat} {q : Nat → Nat} {y : CyT} {zM uM z u : Nat} (hc : Cx E "FarEditorsModel" cX12_changesBoth 5) (hz : Cy E l D y 0 0 zM uM) (c1 : Int32) : ∀ (n : Nat) (i2 : Int32) (i3 : Int32) (i4 : Int32) (M : MS) {o2 : Int32} {Mo : MS}, L12_changesBoth_7 c1 n i2 i3 i4 M = some (o2, Mo) → (hx0 : V E z u (mw h q y Mo) 106 [(0, .ref h), (2, .int o2)] []) → V E z u (mw h q y M) 7 [(0, .ref h), (1, .int c1), (2, .int i2), (3, .int i3), (4, .int i4)] [] := by
  have hT := hz.2.2.1
  intro n
  induction n with
  | zero => intro i2 i3 i4 M o2 Mo hf; cases hf
  | succ n ih =>
    intro i2 i3 i4 M o2 Mo hf hx0
    unfold L12_changesBoth_7 at hf
    refine V_iload hc dX12_changesBoth_7 4 rfl ?_
    refine V_aload_n hc dX12_changesBoth_9 rfl 0 rfl ?_
    refine R_geti hc 26 rfl (by decide) w6_84 dX12_changesBoth_10 ?_
    refine V_icmp_ge hc dX12_changesBoth_13 rfl (fun hq13 => ?_) (fun hq13 => ?_)
    · rw [if_pos hq13] at hf
      obtain ⟨rfl, rfl⟩ := si2 hf
      exact V_sub [0, 2] rfl hx0
    · rw [if_neg hq13] at hf
      refine V_aload_n hc dX12_changesBoth_16 rfl 0 rfl ?_
      refine R_getr hc 21 rfl (by decide) w6_79 dX12_changesBoth_17 ?_
      refine V_iload hc dX12_changesBoth_20 4 rfl ?_
      obtain ⟨v1, hv1, hf⟩ := mb hf
      refine R_iald hc hT rfl hv1 dX12_changesBoth_22 ?_
      obtain ⟨x2, M3, hv4, hf⟩ := mb2 hf
      have hJ23 : V E z u (mw h q y M3) 87 [(0, .ref h), (1, .int c1), (2, .int x2), (3, .int i3), (4, .int i4)] [] := by
        refine V_aload_n hc dX12_changesBoth_87 rfl 0 rfl ?_
        refine R_getr hc 21 rfl (by decide) w6_79 dX12_changesBoth_88 ?_
        refine V_iload hc dX12_changesBoth_91 4 rfl ?_
        obtain ⟨v16, hv16, hf⟩ := mb hf
        refine R_iald hc hT rfl hv16 dX12_changesBoth_93 ?_
        obtain ⟨x17, hv18, hf⟩ := mb hf
        have hJ94 : V E z u (mw h q y M3) 100 [(0, .ref h), (1, .int c1), (2, .int x2), (3, .int x17), (4, .int i4)] [] := by
          refine V_iinc hc (j := 4) (v := (i4 + (1 : Int32))) dX12_changesBoth_100 rfl rfl (by decide) rfl ?_
          refine V_goto hc dX12_changesBoth_103 rfl ?_
          exact V_sub [1, 2, 3, 4, 0] rfl (ih _ _ _ _ hf hx0)
        refine V_if_gt hc dX12_changesBoth_94 rfl (fun hq94 => ?_) (fun hq94 => ?_)
        · rw [if_pos hq94] at hv18
          obtain rfl := Option.some.inj hv18
          exact V_sub [0, 1, 2, 3, 4] rfl hJ94
        · rw [if_neg hq94] at hv18
          refine V_iinc hc (j := 3) (v := (i3 + (1 : Int32))) dX12_changesBoth_97 rfl rfl (by decide) rfl ?_
          obtain rfl := Option.some.inj hv18
          exact V_sub [1, 2, 3, 0, 4] rfl hJ94
      refine V_if_lt hc dX12_changesBoth_23 rfl (fun hq23 => ?_) (fun hq23 => ?_)
      · rw [if_pos hq23] at hv4
        obtain ⟨rfl, rfl⟩ := si2 hv4
        exact V_sub [0, 1, 2, 3, 4] rfl hJ23
      · rw [if_neg hq23] at hv4
        refine V_aload_n hc dX12_changesBoth_26 rfl 0 rfl ?_
        refine R_getr hc 50 rfl (by decide) w6_108 dX12_changesBoth_27 ?_
        refine V_iload_n hc dX12_changesBoth_30 rfl 2 rfl ?_
        refine V_aload_n hc dX12_changesBoth_31 rfl 0 rfl ?_
        refine R_getr hc 21 rfl (by decide) w6_79 dX12_changesBoth_32 ?_
        refine V_iload hc dX12_changesBoth_35 4 rfl ?_
        obtain ⟨v5, hv5, hv4⟩ := mb hv4
        refine R_iald hc hT rfl hv5 dX12_changesBoth_37 ?_
        obtain ⟨v6, hv7, hv4⟩ := mb hv4
        have hJ38 : V E z u (mw h q y M) 57 [(0, .ref h), (1, .int c1), (2, .int i2), (3, .int i3), (4, .int i4)] [.int v6, .int i2, .ref (q 50)] := by
          obtain ⟨M10, hM10, hv4⟩ := mb hv4
          refine R_iast hc hT rfl hM10 dX12_changesBoth_57 ?_
          refine V_aload_n hc dX12_changesBoth_58 rfl 0 rfl ?_
          refine R_getr hc 29 rfl (by decide) w6_87 dX12_changesBoth_59 ?_
          refine V_iload_n hc dX12_changesBoth_62 rfl 2 rfl ?_
          refine V_aload_n hc dX12_changesBoth_63 rfl 0 rfl ?_
          refine R_getr hc 21 rfl (by decide) w6_79 dX12_changesBoth_64 ?_
          refine V_iload hc dX12_changesBoth_67 4 rfl ?_
          obtain ⟨v11, hv11, hv4⟩ := mb hv4
          refine R_iald hc hT rfl hv11 dX12_changesBoth_69 ?_
          obtain ⟨v12, hv13, hv4⟩ := mb hv4
          have hJ70 : V E z u (mw h q y M10) 83 [(0, .ref h), (1, .int c1), (2, .int i2), (3, .int i3), (4, .int i4)] [.int v12, .int i2, .ref (q 29)] := by
            obtain ⟨M15, hM15, hv4⟩ := mb hv4
            refine R_iast hc hT rfl hM15 dX12_changesBoth_83 ?_
            refine V_iinc hc (j := 2) (v := (i2 + (1 : Int32))) dX12_changesBoth_84 rfl rfl (by decide) rfl ?_
            obtain ⟨rfl, rfl⟩ := si2 hv4
            exact V_sub [1, 2, 0, 3, 4] rfl hJ23
          refine V_if_ne hc dX12_changesBoth_70 rfl (fun hq70 => ?_) (fun hq70 => ?_)
          · rw [if_neg hq70] at hv13
            refine V_iload_n hc dX12_changesBoth_82 rfl 1 rfl ?_
            obtain rfl := Option.some.inj hv13
            exact V_sub [0, 1, 2, 3, 4] rfl hJ70
          · rw [if_pos hq70] at hv13
            refine V_aload_n hc dX12_changesBoth_73 rfl 0 rfl ?_
            refine R_getr hc 48 rfl (by decide) w6_106 dX12_changesBoth_74 ?_
            refine V_iload_n hc dX12_changesBoth_77 rfl 3 rfl ?_
            obtain ⟨v14, hv14, hv13⟩ := mb hv13
            refine R_iald hc hT rfl hv14 dX12_changesBoth_78 ?_
            refine V_goto hc dX12_changesBoth_79 rfl ?_
            obtain rfl := Option.some.inj hv13
            exact V_sub [0, 1, 2, 3, 4] rfl hJ70
        refine V_if_ne hc dX12_changesBoth_38 rfl (fun hq38 => ?_) (fun hq38 => ?_)
        · rw [if_neg hq38] at hv7
          refine V_aload_n hc dX12_changesBoth_50 rfl 0 rfl ?_
          refine R_getr hc 21 rfl (by decide) w6_79 dX12_changesBoth_51 ?_
          refine V_iload hc dX12_changesBoth_54 4 rfl ?_
          obtain ⟨v8, hv8, hv7⟩ := mb hv7
          refine R_iald hc hT rfl hv8 dX12_changesBoth_56 ?_
          obtain rfl := Option.some.inj hv7
          exact V_sub [0, 1, 2, 3, 4] rfl hJ38
        · rw [if_pos hq38] at hv7
          refine V_aload_n hc dX12_changesBoth_41 rfl 0 rfl ?_
          refine R_getr hc 47 rfl (by decide) w6_105 dX12_changesBoth_42 ?_
          refine V_iload_n hc dX12_changesBoth_45 rfl 3 rfl ?_
          obtain ⟨v9, hv9, hv7⟩ := mb hv7
          refine R_iald hc hT rfl hv9 dX12_changesBoth_46 ?_
          refine V_goto hc dX12_changesBoth_47 rfl ?_
          obtain rfl := Option.some.inj hv7
          exact V_sub [0, 1, 2, 3, 4] rfl hJ38
set_option maxHeartbeats 4000000 in
set_option maxRecDepth 100000 in
theorem L12_changesBoth_109_ok {E : CxT} {l : Launch} {D : va_G} {h : Nat} {q : Nat → Nat} {y : CyT} {zM uM z u : Nat} (hc : Cx E "FarEditorsModel" cX12_changesBoth 5) (hz : Cy E l D y 0 0 zM uM) (c2 : Int32) : ∀ (n : Nat) (i4 : Int32) (M : MS) {Mo : MS}, L12_changesBoth_109 c2 n i4 M = some Mo → (hx0 : V E z u (mw h q y Mo) 149 [(2, .int c2)] []) → V E z u (mw h q y M) 109 [(0, .ref h), (2, .int c2), (4, .int i4)] [] := by
  have hT := hz.2.2.1
  intro n
  induction n with
  | zero => intro i4 M Mo hf; cases hf
  | succ n ih =>
    intro i4 M Mo hf hx0
    unfold L12_changesBoth_109 at hf
    refine V_iload hc dX12_changesBoth_109 2 rfl ?_
    refine V_iload_n hc dX12_changesBoth_111 rfl 1 rfl ?_
    refine V_icmp_ge hc dX12_changesBoth_112 rfl (fun hq112 => ?_) (fun hq112 => ?_)
    · rw [if_pos hq112] at hf
      obtain rfl := Option.some.inj hf
      exact V_sub [1] rfl hx0
    · rw [if_neg hq112] at hf
      refine V_aload_n hc dX12_changesBoth_115 rfl 0 rfl ?_
      refine R_getr hc 47 rfl (by decide) w6_105 dX12_changesBoth_116 ?_
      refine V_iload hc dX12_changesBoth_119 2 rfl ?_
      refine V_aload_n hc dX12_changesBoth_121 rfl 0 rfl ?_
      refine R_getr hc 50 rfl (by decide) w6_108 dX12_changesBoth_122 ?_
      refine V_iload hc dX12_changesBoth_125 2 rfl ?_
      obtain ⟨v1, hv1, hf⟩ := mb hf
      refine R_iald hc hT rfl hv1 dX12_changesBoth_127 ?_
      obtain ⟨M2, hM2, hf⟩ := mb hf
      refine R_iast hc hT rfl hM2 dX12_changesBoth_128 ?_
      refine V_aload_n hc dX12_changesBoth_129 rfl 0 rfl ?_
      refine R_getr hc 48 rfl (by decide) w6_106 dX12_changesBoth_130 ?_
      refine V_iload hc dX12_changesBoth_133 2 rfl ?_
      refine V_aload_n hc dX12_changesBoth_135 rfl 0 rfl ?_
      refine R_getr hc 29 rfl (by decide) w6_87 dX12_changesBoth_136 ?_
      refine V_iload hc dX12_changesBoth_139 2 rfl ?_
      obtain ⟨v3, hv3, hf⟩ := mb hf
      refine R_iald hc hT rfl hv3 dX12_changesBoth_141 ?_
      obtain ⟨M4, hM4, hf⟩ := mb hf
      refine R_iast hc hT rfl hM4 dX12_changesBoth_142 ?_
      refine V_iinc hc (j := 2) (v := (i4 + (1 : Int32))) dX12_changesBoth_143 rfl rfl (by decide) rfl ?_
      refine V_goto hc dX12_changesBoth_146 rfl ?_
      exact V_sub [1, 2, 0] rfl (ih _ _ hf hx0)
set_option maxHeartbeats 4000000 in
set_option maxRecDepth 100000 in
theorem c12_changesBoth (l : Launch) (D : va_G) (h : Nat) (q : Nat → Nat) (y : CyT) (zM uM z u : Nat) {M M' : MS} {p1 : Int32} {r : Int32} (hf : f12_changesBoth M p1 = some (r, M')) : CT l D y yX12_changesBoth cX12_changesBoth 5 (some .int) 0 0 zM uM [.ref h, .int p1] z u (mw h q y M) z u (mw h q y M') (some (.int r)) := by
  refine CT.of (by decide) (Nat.le_of_ble_eq_true rfl) (fun E hc hzz hnm => ?_)
  have hc : Cx E "FarEditorsModel" cX12_changesBoth 5 := hc
  have hz := hzz.1
  have hT := hz.2.2.1
  show V E z u (mw h q y M) 0 [(0, .ref h), (1, .int p1)] []
  unfold f12_changesBoth at hf
  refine V_iconst hc (v := (0 : Int32)) dX12_changesBoth_0 rfl ?_
  refine V_istore_n hc dX12_changesBoth_1 rfl (by decide) rfl ?_
  refine V_iconst hc (v := (0 : Int32)) dX12_changesBoth_2 rfl ?_
  refine V_istore_n hc dX12_changesBoth_3 rfl (by decide) rfl ?_
  refine V_iconst hc (v := (0 : Int32)) dX12_changesBoth_4 rfl ?_
  refine V_istore hc dX12_changesBoth_5 (by decide) rfl ?_
  obtain ⟨x1, M2, hv3, hf⟩ := mb2 hf
  refine V_sub [3, 4, 2, 1, 0] rfl (L12_changesBoth_7_ok hc hz p1 FU _ _ _ _ hv3 ?_)
  refine V_iconst hc (v := (0 : Int32)) dX12_changesBoth_106 rfl ?_
  refine V_istore hc dX12_changesBoth_107 (by decide) rfl ?_
  obtain ⟨M4, hv5, hf⟩ := mb hf
  refine V_sub [1, 2, 0] rfl (L12_changesBoth_109_ok hc hz x1 FU _ _ hv5 ?_)
  refine V_iload_n hc dX12_changesBoth_149 rfl 0 rfl ?_
  obtain ⟨rfl, rfl⟩ := si2 hf
  exact V_iret hc hzz rfl rfl rfl rfl rfl dX12_changesBoth_150
noncomputable def L12_serverText_10 (c1 : Int32) : Nat → Int32 → MS → Option (MS)
  | 0, _, _ => none
  | n + 1, i2, M =>
    if (gF M 34) ≤ i2 then (
      some M
    ) else (
      (ld M 35 i2).bind fun v1 =>
      (sd M 47 i2 v1).bind fun M2 =>
      (sd M2 48 i2 (0 : Int32)).bind fun M3 =>
      L12_serverText_10 c1 n (i2 + (1 : Int32)) M3
    )
noncomputable def L12_serverText_45 (c1 : Int32) : Nat → Int32 → MS → Option (MS)
  | 0, _, _ => none
  | n + 1, i2, M =>
    if c1 ≤ i2 then (
      some M
    ) else (
      (f12_opToB M i2).bind fun M1 =>
      bn2 (f12_changesBoth M1 (i2 + (1 : Int32))) fun v2 M3 =>
      L12_serverText_45 c1 n (i2 + (1 : Int32)) (sF M3 49 v2)
    )
noncomputable def f12_serverText (M : MS) (p1 : Int32) : Option (Int32 × MS) :=
  (L12_serverText_10 p1 FU (0 : Int32) (sF M 49 (gF M 34))).bind fun M1 =>
  (L12_serverText_45 p1 FU (0 : Int32) M1).bind fun M3 =>
  some ((gF M3 49), M3)
theorem hd12_serverText : yX12_serverText.cls = "FarEditorsModel" ∧ yX12_serverText.cls ≠ "java/lang/invoke/MethodHandle" ∧ yX12_serverText.cls ≠ "java/lang/invoke/VarHandle" ∧ (parseMethodDescriptor yX12_serverText.desc).map (fun d => d.parameters.length) = some 1 := by decide +kernel
set_option maxHeartbeats 4000000 in
set_option maxRecDepth 100000 in
theorem L12_serverText_10_ok {E : CxT} {l : Launch} {D : va_G} {h : Nat} {q : Nat → Nat} {y : CyT} {zM uM z u : Nat} (hc : Cx E "FarEditorsModel" cX12_serverText 3) (hz : Cy E l D y 2 50 zM uM) (c1 : Int32) : ∀ (n : Nat) (i2 : Int32) (M : MS) {Mo : MS}, L12_serverText_10 c1 n i2 M = some Mo → (hx0 : V E z u (mw h q y Mo) 43 [(0, .ref h), (1, .int c1)] []) → V E z u (mw h q y M) 10 [(0, .ref h), (1, .int c1), (2, .int i2)] [] := by
  have hT := hz.2.2.1
  intro n
  induction n with
  | zero => intro i2 M Mo hf; cases hf
  | succ n ih =>
    intro i2 M Mo hf hx0
    unfold L12_serverText_10 at hf
    refine V_iload_n hc dX12_serverText_10 rfl 2 rfl ?_
    refine V_aload_n hc dX12_serverText_11 rfl 0 rfl ?_
    refine R_geti hc 34 rfl (by decide) w6_92 dX12_serverText_12 ?_
    refine V_icmp_ge hc dX12_serverText_15 rfl (fun hq15 => ?_) (fun hq15 => ?_)
    · rw [if_pos hq15] at hf
      obtain rfl := Option.some.inj hf
      exact V_sub [0, 1] rfl hx0
    · rw [if_neg hq15] at hf
      refine V_aload_n hc dX12_serverText_18 rfl 0 rfl ?_
      refine R_getr hc 47 rfl (by decide) w6_105 dX12_serverText_19 ?_
      refine V_iload_n hc dX12_serverText_22 rfl 2 rfl ?_
      refine V_aload_n hc dX12_serverText_23 rfl 0 rfl ?_
      refine R_getr hc 35 rfl (by decide) w6_93 dX12_serverText_24 ?_
      refine V_iload_n hc dX12_serverText_27 rfl 2 rfl ?_
      obtain ⟨v1, hv1, hf⟩ := mb hf
      refine R_iald hc hT rfl hv1 dX12_serverText_28 ?_
      obtain ⟨M2, hM2, hf⟩ := mb hf
      refine R_iast hc hT rfl hM2 dX12_serverText_29 ?_
      refine V_aload_n hc dX12_serverText_30 rfl 0 rfl ?_
      refine R_getr hc 48 rfl (by decide) w6_106 dX12_serverText_31 ?_
      refine V_iload_n hc dX12_serverText_34 rfl 2 rfl ?_
      refine V_iconst hc (v := (0 : Int32)) dX12_serverText_35 rfl ?_
      obtain ⟨M3, hM3, hf⟩ := mb hf
      refine R_iast hc hT rfl hM3 dX12_serverText_36 ?_
      refine V_iinc hc (j := 2) (v := (i2 + (1 : Int32))) dX12_serverText_37 rfl rfl (by decide) rfl ?_
      refine V_goto hc dX12_serverText_40 rfl ?_
      exact V_sub [1, 2, 0] rfl (ih _ _ hf hx0)
set_option maxHeartbeats 4000000 in
set_option maxRecDepth 100000 in
theorem L12_serverText_45_ok {E : CxT} {l : Launch} {D : va_G} {h : Nat} {q : Nat → Nat} {y : CyT} {zM uM z u : Nat} (hc : Cx E "FarEditorsModel" cX12_serverText 3) (hz : Cy E l D y 2 50 zM uM) (c1 : Int32) : ∀ (n : Nat) (i2 : Int32) (M : MS) {Mo : MS}, L12_serverText_45 c1 n i2 M = some Mo → (hx0 : V E z u (mw h q y Mo) 72 [(0, .ref h)] []) → V E z u (mw h q y M) 45 [(0, .ref h), (1, .int c1), (2, .int i2)] [] := by
  have hT := hz.2.2.1
  intro n
  induction n with
  | zero => intro i2 M Mo hf; cases hf
  | succ n ih =>
    intro i2 M Mo hf hx0
    unfold L12_serverText_45 at hf
    refine V_iload_n hc dX12_serverText_45 rfl 2 rfl ?_
    refine V_iload_n hc dX12_serverText_46 rfl 1 rfl ?_
    refine V_icmp_ge hc dX12_serverText_47 rfl (fun hq47 => ?_) (fun hq47 => ?_)
    · rw [if_pos hq47] at hf
      obtain rfl := Option.some.inj hf
      exact V_sub [0] rfl hx0
    · rw [if_neg hq47] at hf
      refine V_aload_n hc dX12_serverText_50 rfl 0 rfl ?_
      refine V_iload_n hc dX12_serverText_51 rfl 2 rfl ?_
      obtain ⟨M1, hM1, hf⟩ := mb hf
      refine R_callVv hc hz (As := [.int i2]) (c12_opToB l D h q y _ _ _ _ hM1) w8_24 w8_26 wp7_1 w1_13 w8_27 hd12_opToB ⟨Nat.le_of_ble_eq_true rfl, Nat.le_of_ble_eq_true rfl⟩ rfl rfl (Nat.le_of_ble_eq_true rfl) dX12_serverText_52 ?_
      refine V_aload_n hc dX12_serverText_55 rfl 0 rfl ?_
      refine V_aload_n hc dX12_serverText_56 rfl 0 rfl ?_
      refine V_iload_n hc dX12_serverText_57 rfl 2 rfl ?_
      refine V_iconst hc (v := (1 : Int32)) dX12_serverText_58 rfl ?_
      refine V_iadd hc dX12_serverText_59 ?_
      obtain ⟨v2, M3, hv2, hf⟩ := mb2 hf
      refine R_callVi hc hz (As := [.int (i2 + (1 : Int32))]) (c12_changesBoth l D h q y _ _ _ _ hv2) w8_68 w8_70 wp7_11 w1_13 w8_71 hd12_changesBoth ⟨Nat.le_of_ble_eq_true rfl, Nat.le_of_ble_eq_true rfl⟩ rfl rfl (Nat.le_of_ble_eq_true rfl) dX12_serverText_60 ?_
      refine R_puti hc 49 rfl (by decide) w6_107 rfl rfl rfl dX12_serverText_63 ?_
      refine V_iinc hc (j := 2) (v := (i2 + (1 : Int32))) dX12_serverText_66 rfl rfl (by decide) rfl ?_
      refine V_goto hc dX12_serverText_69 rfl ?_
      exact V_sub [1, 2, 0] rfl (ih _ _ hf hx0)
set_option maxHeartbeats 4000000 in
set_option maxRecDepth 100000 in
theorem c12_serverText (l : Launch) (D : va_G) (h : Nat) (q : Nat → Nat) (y : CyT) (zM uM z u : Nat) {M M' : MS} {p1 : Int32} {r : Int32} (hf : f12_serverText M p1 = some (r, M')) : CT l D y yX12_serverText cX12_serverText 3 (some .int) 2 50 zM uM [.ref h, .int p1] z u (mw h q y M) z u (mw h q y M') (some (.int r)) := by
  refine CT.of (by decide) (Nat.le_of_ble_eq_true rfl) (fun E hc hzz hnm => ?_)
  have hc : Cx E "FarEditorsModel" cX12_serverText 3 := hc
  have hz := hzz.1
  have hT := hz.2.2.1
  show V E z u (mw h q y M) 0 [(0, .ref h), (1, .int p1)] []
  unfold f12_serverText at hf
  refine V_aload_n hc dX12_serverText_0 rfl 0 rfl ?_
  refine V_aload_n hc dX12_serverText_1 rfl 0 rfl ?_
  refine R_geti hc 34 rfl (by decide) w6_92 dX12_serverText_2 ?_
  refine R_puti hc 49 rfl (by decide) w6_107 rfl rfl rfl dX12_serverText_5 ?_
  refine V_iconst hc (v := (0 : Int32)) dX12_serverText_8 rfl ?_
  refine V_istore_n hc dX12_serverText_9 rfl (by decide) rfl ?_
  obtain ⟨M1, hv2, hf⟩ := mb hf
  refine V_sub [1, 2, 0] rfl (L12_serverText_10_ok hc hz p1 FU _ _ hv2 ?_)
  refine V_iconst hc (v := (0 : Int32)) dX12_serverText_43 rfl ?_
  refine V_istore_n hc dX12_serverText_44 rfl (by decide) rfl ?_
  obtain ⟨M3, hv4, hf⟩ := mb hf
  refine V_sub [1, 2, 0] rfl (L12_serverText_45_ok hc hz p1 FU _ _ hv4 ?_)
  refine V_aload_n hc dX12_serverText_72 rfl 0 rfl ?_
  refine R_geti hc 49 rfl (by decide) w6_107 dX12_serverText_73 ?_
  obtain ⟨rfl, rfl⟩ := si2 hf
  exact V_iret hc hzz rfl rfl rfl rfl rfl dX12_serverText_76
noncomputable def f12_has (M : MS) (p1 : Int32) : Option (Int32 × MS) :=
  if p1 = (0 : Int32) then (
    (
      if (gF M 31) = 0 then (
        some (0 : Int32)
      ) else (
        some (gF M 32)
      )
    ).bind fun v1 =>
    some (v1, M)
  ) else (
    if p1 = (1 : Int32) then (
      (ld M 30 (1 : Int32)).bind fun v3 =>
      some (v3, M)
    ) else (
      if p1 = (2 : Int32) then (
        bn2 (
          if (gF M 31) = 0 then (
            some ((0 : Int32), M)
          ) else (
            (ld M 30 (1 : Int32)).bind fun v7 =>
            bn2 (f12_serverText M v7) fun v8 M9 =>
            some (v8, M9)
          )
        ) fun v4 M5 =>
        some (v4, M5)
      ) else (
        if p1 = (3 : Int32) then (
          (ld M 30 (0 : Int32)).bind fun v10 =>
          some (v10, M)
        ) else (
          if p1 = (4 : Int32) then (
            (ld M 30 (2 : Int32)).bind fun v11 =>
            some (v11, M)
          ) else (
            if p1 = (5 : Int32) then (
              (ld M 30 (3 : Int32)).bind fun v12 =>
              some (v12, M)
            ) else (
              if p1 = (6 : Int32) then (
                (
                  if (gF M 31) = 0 then (
                    some (0 : Int32)
                  ) else (
                    (f12_wayMany M).bind fun v15 =>
                    some v15
                  )
                ).bind fun v13 =>
                some (v13, M)
              ) else (
                if p1 = (7 : Int32) then (
                  some ((gF M 56), M)
                ) else (
                  if p1 = (8 : Int32) then (
                    some ((gF M 61), M)
                  ) else (
                    if p1 = (9 : Int32) then (
                      (
                        if (gF M 31) = 0 then (
                          some (1 : Int32)
                        ) else (
                          (f12_wayMany M).bind fun v18 =>
                          if v18 = 0 then (
                            some (1 : Int32)
                          ) else (
                            some (0 : Int32)
                          )
                        )
                      ).bind fun v16 =>
                      some (v16, M)
                    ) else (
                      if p1 = (10 : Int32) then (
                        some ((gF M 33), M)
                      ) else (
                        some ((-1 : Int32), M)
                      )
                    )
                  )
                )
              )
            )
          )
        )
      )
    )
  )
theorem hd12_has : yX12_has.cls = "FarEditorsModel" ∧ yX12_has.cls ≠ "java/lang/invoke/MethodHandle" ∧ yX12_has.cls ≠ "java/lang/invoke/VarHandle" ∧ (parseMethodDescriptor yX12_has.desc).map (fun d => d.parameters.length) = some 1 := by decide +kernel
set_option maxHeartbeats 4000000 in
set_option maxRecDepth 100000 in
theorem c12_has (l : Launch) (D : va_G) (h : Nat) (q : Nat → Nat) (y : CyT) (zM uM z u : Nat) {M M' : MS} {p1 : Int32} {r : Int32} (hf : f12_has M p1 = some (r, M')) : CT l D y yX12_has cX12_has 2 (some .int) 3 72 zM uM [.ref h, .int p1] z u (mw h q y M) z u (mw h q y M') (some (.int r)) := by
  refine CT.of (by decide) (Nat.le_of_ble_eq_true rfl) (fun E hc hzz hnm => ?_)
  have hc : Cx E "FarEditorsModel" cX12_has 2 := hc
  have hz := hzz.1
  have hT := hz.2.2.1
  show V E z u (mw h q y M) 0 [(0, .ref h), (1, .int p1)] []
  unfold f12_has at hf
  refine V_iload_n hc dX12_has_0 rfl 1 rfl ?_
  by_cases hs1_0 : p1 = (0 : Int32)
  · rw [if_pos hs1_0] at hf
    refine V_tableIn hc dX12_has_1 (by rw [hs1_0]; decide) (by rw [hs1_0]; decide) (off := 59) (by rw [hs1_0]; rfl) rfl ?_
    refine V_aload_n hc dX12_has_60 rfl 0 rfl ?_
    refine R_geti hc 31 rfl (by decide) w6_89 dX12_has_61 ?_
    obtain ⟨v1, hv2, hf⟩ := mb hf
    have hJ64 : V E z u (mw h q y M) 75 [] [.int v1] := by
      obtain ⟨rfl, rfl⟩ := si2 hf
      exact V_iret hc hzz rfl rfl rfl rfl rfl dX12_has_75
    refine V_if_eq hc dX12_has_64 rfl (fun hq64 => ?_) (fun hq64 => ?_)
    · rw [if_pos hq64] at hv2
      refine V_iconst hc (v := (0 : Int32)) dX12_has_74 rfl ?_
      obtain rfl := Option.some.inj hv2
      exact V_sub [] rfl hJ64
    · rw [if_neg hq64] at hv2
      refine V_aload_n hc dX12_has_67 rfl 0 rfl ?_
      refine R_geti hc 32 rfl (by decide) w6_90 dX12_has_68 ?_
      refine V_goto hc dX12_has_71 rfl ?_
      obtain rfl := Option.some.inj hv2
      exact V_sub [] rfl hJ64
  rw [if_neg hs1_0] at hf
  by_cases hs1_1 : p1 = (1 : Int32)
  · rw [if_pos hs1_1] at hf
    refine V_tableIn hc dX12_has_1 (by rw [hs1_1]; decide) (by rw [hs1_1]; decide) (off := 75) (by rw [hs1_1]; rfl) rfl ?_
    refine V_aload_n hc dX12_has_76 rfl 0 rfl ?_
    refine R_getr hc 30 rfl (by decide) w6_88 dX12_has_77 ?_
    refine V_iconst hc (v := (1 : Int32)) dX12_has_80 rfl ?_
    obtain ⟨v3, hv3, hf⟩ := mb hf
    refine R_iald hc hT rfl hv3 dX12_has_81 ?_
    obtain ⟨rfl, rfl⟩ := si2 hf
    exact V_iret hc hzz rfl rfl rfl rfl rfl dX12_has_82
  rw [if_neg hs1_1] at hf
  by_cases hs1_2 : p1 = (2 : Int32)
  · rw [if_pos hs1_2] at hf
    refine V_tableIn hc dX12_has_1 (by rw [hs1_2]; decide) (by rw [hs1_2]; decide) (off := 82) (by rw [hs1_2]; rfl) rfl ?_
    refine V_aload_n hc dX12_has_83 rfl 0 rfl ?_
    refine R_geti hc 31 rfl (by decide) w6_89 dX12_has_84 ?_
    obtain ⟨v4, M5, hv6, hf⟩ := mb2 hf
    have hJ87 : V E z u (mw h q y M5) 104 [] [.int v4] := by
      obtain ⟨rfl, rfl⟩ := si2 hf
      exact V_iret hc hzz rfl rfl rfl rfl rfl dX12_has_104
    refine V_if_eq hc dX12_has_87 rfl (fun hq87 => ?_) (fun hq87 => ?_)
    · rw [if_pos hq87] at hv6
      refine V_iconst hc (v := (0 : Int32)) dX12_has_103 rfl ?_
      obtain ⟨rfl, rfl⟩ := si2 hv6
      exact V_sub [] rfl hJ87
    · rw [if_neg hq87] at hv6
      refine V_aload_n hc dX12_has_90 rfl 0 rfl ?_
      refine V_aload_n hc dX12_has_91 rfl 0 rfl ?_
      refine R_getr hc 30 rfl (by decide) w6_88 dX12_has_92 ?_
      refine V_iconst hc (v := (1 : Int32)) dX12_has_95 rfl ?_
      obtain ⟨v7, hv7, hv6⟩ := mb hv6
      refine R_iald hc hT rfl hv7 dX12_has_96 ?_
      obtain ⟨v8, M9, hv8, hv6⟩ := mb2 hv6
      refine R_callVi hc hz (As := [.int v7]) (c12_serverText l D h q y _ _ _ _ hv8) w8_64 w8_66 wp7_10 w1_13 w8_67 hd12_serverText ⟨Nat.le_of_ble_eq_true rfl, Nat.le_of_ble_eq_true rfl⟩ rfl rfl (Nat.le_of_ble_eq_true rfl) dX12_has_97 ?_
      refine V_goto hc dX12_has_100 rfl ?_
      obtain ⟨rfl, rfl⟩ := si2 hv6
      exact V_sub [] rfl hJ87
  rw [if_neg hs1_2] at hf
  by_cases hs1_3 : p1 = (3 : Int32)
  · rw [if_pos hs1_3] at hf
    refine V_tableIn hc dX12_has_1 (by rw [hs1_3]; decide) (by rw [hs1_3]; decide) (off := 104) (by rw [hs1_3]; rfl) rfl ?_
    refine V_aload_n hc dX12_has_105 rfl 0 rfl ?_
    refine R_getr hc 30 rfl (by decide) w6_88 dX12_has_106 ?_
    refine V_iconst hc (v := (0 : Int32)) dX12_has_109 rfl ?_
    obtain ⟨v10, hv10, hf⟩ := mb hf
    refine R_iald hc hT rfl hv10 dX12_has_110 ?_
    obtain ⟨rfl, rfl⟩ := si2 hf
    exact V_iret hc hzz rfl rfl rfl rfl rfl dX12_has_111
  rw [if_neg hs1_3] at hf
  by_cases hs1_4 : p1 = (4 : Int32)
  · rw [if_pos hs1_4] at hf
    refine V_tableIn hc dX12_has_1 (by rw [hs1_4]; decide) (by rw [hs1_4]; decide) (off := 111) (by rw [hs1_4]; rfl) rfl ?_
    refine V_aload_n hc dX12_has_112 rfl 0 rfl ?_
    refine R_getr hc 30 rfl (by decide) w6_88 dX12_has_113 ?_
    refine V_iconst hc (v := (2 : Int32)) dX12_has_116 rfl ?_
    obtain ⟨v11, hv11, hf⟩ := mb hf
    refine R_iald hc hT rfl hv11 dX12_has_117 ?_
    obtain ⟨rfl, rfl⟩ := si2 hf
    exact V_iret hc hzz rfl rfl rfl rfl rfl dX12_has_118
  rw [if_neg hs1_4] at hf
  by_cases hs1_5 : p1 = (5 : Int32)
  · rw [if_pos hs1_5] at hf
    refine V_tableIn hc dX12_has_1 (by rw [hs1_5]; decide) (by rw [hs1_5]; decide) (off := 118) (by rw [hs1_5]; rfl) rfl ?_
    refine V_aload_n hc dX12_has_119 rfl 0 rfl ?_
    refine R_getr hc 30 rfl (by decide) w6_88 dX12_has_120 ?_
    refine V_iconst hc (v := (3 : Int32)) dX12_has_123 rfl ?_
    obtain ⟨v12, hv12, hf⟩ := mb hf
    refine R_iald hc hT rfl hv12 dX12_has_124 ?_
    obtain ⟨rfl, rfl⟩ := si2 hf
    exact V_iret hc hzz rfl rfl rfl rfl rfl dX12_has_125
  rw [if_neg hs1_5] at hf
  by_cases hs1_6 : p1 = (6 : Int32)
  · rw [if_pos hs1_6] at hf
    refine V_tableIn hc dX12_has_1 (by rw [hs1_6]; decide) (by rw [hs1_6]; decide) (off := 125) (by rw [hs1_6]; rfl) rfl ?_
    refine V_aload_n hc dX12_has_126 rfl 0 rfl ?_
    refine R_geti hc 31 rfl (by decide) w6_89 dX12_has_127 ?_
    obtain ⟨v13, hv14, hf⟩ := mb hf
    have hJ130 : V E z u (mw h q y M) 141 [] [.int v13] := by
      obtain ⟨rfl, rfl⟩ := si2 hf
      exact V_iret hc hzz rfl rfl rfl rfl rfl dX12_has_141
    refine V_if_eq hc dX12_has_130 rfl (fun hq130 => ?_) (fun hq130 => ?_)
    · rw [if_pos hq130] at hv14
      refine V_iconst hc (v := (0 : Int32)) dX12_has_140 rfl ?_
      obtain rfl := Option.some.inj hv14
      exact V_sub [] rfl hJ130
    · rw [if_neg hq130] at hv14
      refine V_aload_n hc dX12_has_133 rfl 0 rfl ?_
      obtain ⟨v15, hv15, hv14⟩ := mb hv14
      refine R_callVi hc hz (As := []) (c12_wayMany l D h q y _ _ _ _ hv15) w8_72 w8_74 wp7_12 w1_13 w8_75 hd12_wayMany ⟨Nat.le_of_ble_eq_true rfl, Nat.le_of_ble_eq_true rfl⟩ rfl rfl (Nat.le_of_ble_eq_true rfl) dX12_has_134 ?_
      refine V_goto hc dX12_has_137 rfl ?_
      obtain rfl := Option.some.inj hv14
      exact V_sub [] rfl hJ130
  rw [if_neg hs1_6] at hf
  by_cases hs1_7 : p1 = (7 : Int32)
  · rw [if_pos hs1_7] at hf
    refine V_tableIn hc dX12_has_1 (by rw [hs1_7]; decide) (by rw [hs1_7]; decide) (off := 141) (by rw [hs1_7]; rfl) rfl ?_
    refine V_aload_n hc dX12_has_142 rfl 0 rfl ?_
    refine R_geti hc 56 rfl (by decide) w6_114 dX12_has_143 ?_
    obtain ⟨rfl, rfl⟩ := si2 hf
    exact V_iret hc hzz rfl rfl rfl rfl rfl dX12_has_146
  rw [if_neg hs1_7] at hf
  by_cases hs1_8 : p1 = (8 : Int32)
  · rw [if_pos hs1_8] at hf
    refine V_tableIn hc dX12_has_1 (by rw [hs1_8]; decide) (by rw [hs1_8]; decide) (off := 146) (by rw [hs1_8]; rfl) rfl ?_
    refine V_aload_n hc dX12_has_147 rfl 0 rfl ?_
    refine R_geti hc 61 rfl (by decide) w6_119 dX12_has_148 ?_
    obtain ⟨rfl, rfl⟩ := si2 hf
    exact V_iret hc hzz rfl rfl rfl rfl rfl dX12_has_151
  rw [if_neg hs1_8] at hf
  by_cases hs1_9 : p1 = (9 : Int32)
  · rw [if_pos hs1_9] at hf
    refine V_tableIn hc dX12_has_1 (by rw [hs1_9]; decide) (by rw [hs1_9]; decide) (off := 151) (by rw [hs1_9]; rfl) rfl ?_
    refine V_aload_n hc dX12_has_152 rfl 0 rfl ?_
    refine R_geti hc 31 rfl (by decide) w6_89 dX12_has_153 ?_
    obtain ⟨v16, hv17, hf⟩ := mb hf
    have hJ156 : V E z u (mw h q y M) 171 [] [.int v16] := by
      obtain ⟨rfl, rfl⟩ := si2 hf
      exact V_iret hc hzz rfl rfl rfl rfl rfl dX12_has_171
    refine V_if_eq hc dX12_has_156 rfl (fun hq156 => ?_) (fun hq156 => ?_)
    · rw [if_pos hq156] at hv17
      refine V_iconst hc (v := (1 : Int32)) dX12_has_166 rfl ?_
      refine V_goto hc dX12_has_167 rfl ?_
      obtain rfl := Option.some.inj hv17
      exact V_sub [] rfl hJ156
    · rw [if_neg hq156] at hv17
      refine V_aload_n hc dX12_has_159 rfl 0 rfl ?_
      obtain ⟨v18, hv18, hv17⟩ := mb hv17
      refine R_callVi hc hz (As := []) (c12_wayMany l D h q y _ _ _ _ hv18) w8_72 w8_74 wp7_12 w1_13 w8_75 hd12_wayMany ⟨Nat.le_of_ble_eq_true rfl, Nat.le_of_ble_eq_true rfl⟩ rfl rfl (Nat.le_of_ble_eq_true rfl) dX12_has_160 ?_
      refine V_if_ne hc dX12_has_163 rfl (fun hq163 => ?_) (fun hq163 => ?_)
      · rw [if_neg hq163] at hv17
        refine V_iconst hc (v := (0 : Int32)) dX12_has_170 rfl ?_
        obtain rfl := Option.some.inj hv17
        exact V_sub [] rfl hJ156
      · rw [if_pos hq163] at hv17
        refine V_iconst hc (v := (1 : Int32)) dX12_has_166 rfl ?_
        refine V_goto hc dX12_has_167 rfl ?_
        obtain rfl := Option.some.inj hv17
        exact V_sub [] rfl hJ156
  rw [if_neg hs1_9] at hf
  by_cases hs1_10 : p1 = (10 : Int32)
  · rw [if_pos hs1_10] at hf
    refine V_tableIn hc dX12_has_1 (by rw [hs1_10]; decide) (by rw [hs1_10]; decide) (off := 171) (by rw [hs1_10]; rfl) rfl ?_
    refine V_aload_n hc dX12_has_172 rfl 0 rfl ?_
    refine R_geti hc 33 rfl (by decide) w6_91 dX12_has_173 ?_
    obtain ⟨rfl, rfl⟩ := si2 hf
    exact V_iret hc hzz rfl rfl rfl rfl rfl dX12_has_176
  rw [if_neg hs1_10] at hf
  have hto : p1.toInt < 0 ∨ 10 < p1.toInt := by
    have ht0 : ¬ p1.toInt = 0 := fun hh => hs1_0 (Int32.toInt_inj.mp (hh.trans rfl))
    have ht1 : ¬ p1.toInt = 1 := fun hh => hs1_1 (Int32.toInt_inj.mp (hh.trans rfl))
    have ht2 : ¬ p1.toInt = 2 := fun hh => hs1_2 (Int32.toInt_inj.mp (hh.trans rfl))
    have ht3 : ¬ p1.toInt = 3 := fun hh => hs1_3 (Int32.toInt_inj.mp (hh.trans rfl))
    have ht4 : ¬ p1.toInt = 4 := fun hh => hs1_4 (Int32.toInt_inj.mp (hh.trans rfl))
    have ht5 : ¬ p1.toInt = 5 := fun hh => hs1_5 (Int32.toInt_inj.mp (hh.trans rfl))
    have ht6 : ¬ p1.toInt = 6 := fun hh => hs1_6 (Int32.toInt_inj.mp (hh.trans rfl))
    have ht7 : ¬ p1.toInt = 7 := fun hh => hs1_7 (Int32.toInt_inj.mp (hh.trans rfl))
    have ht8 : ¬ p1.toInt = 8 := fun hh => hs1_8 (Int32.toInt_inj.mp (hh.trans rfl))
    have ht9 : ¬ p1.toInt = 9 := fun hh => hs1_9 (Int32.toInt_inj.mp (hh.trans rfl))
    have ht10 : ¬ p1.toInt = 10 := fun hh => hs1_10 (Int32.toInt_inj.mp (hh.trans rfl))
    omega
  refine V_tableOut hc dX12_has_1 hto rfl ?_
  refine V_iconst hc (v := (-1 : Int32)) dX12_has_177 rfl ?_
  obtain ⟨rfl, rfl⟩ := si2 hf
  exact V_iret hc hzz rfl rfl rfl rfl rfl dX12_has_178
noncomputable def f12_editor (M : MS) (p1 : Int32) (p2 : Int32) : Option (Int32) :=
  (f12_isEditor M p1).bind fun v1 =>
  if v1 = 0 then (
    some (-1 : Int32)
  ) else (
    if p2 = (0 : Int32) then (
      (f12_its M p1 (21 : Int32)).bind fun v2 =>
      some v2
    ) else (
      if p2 = (1 : Int32) then (
        (f12_its M p1 (0 : Int32)).bind fun v3 =>
        some v3
      ) else (
        if p2 = (2 : Int32) then (
          (f12_its M p1 (1 : Int32)).bind fun v4 =>
          some v4
        ) else (
          if p2 = (3 : Int32) then (
            (f12_its M p1 (17 : Int32)).bind fun v5 =>
            some v5
          ) else (
            if p2 = (4 : Int32) then (
              (f12_its M p1 (18 : Int32)).bind fun v6 =>
              some v6
            ) else (
              if p2 = (5 : Int32) then (
                (f12_its M p1 (2 : Int32)).bind fun v7 =>
                some v7
              ) else (
                if p2 = (6 : Int32) then (
                  (f12_its M p1 (22 : Int32)).bind fun v8 =>
                  some v8
                ) else (
                  if p2 = (7 : Int32) then (
                    (f12_its M p1 (23 : Int32)).bind fun v9 =>
                    some v9
                  ) else (
                    if p2 = (8 : Int32) then (
                      (f12_its M p1 (15 : Int32)).bind fun v10 =>
                      some v10
                    ) else (
                      if p2 = (9 : Int32) then (
                        (f12_its M p1 (16 : Int32)).bind fun v11 =>
                        some v11
                      ) else (
                        if p2 = (10 : Int32) then (
                          (ld M 30 (1 : Int32)).bind fun v12 =>
                          (f12_its M p1 (0 : Int32)).bind fun v13 =>
                          some (v12 - v13)
                        ) else (
                          if p2 = (11 : Int32) then (
                            (f12_its M p1 (19 : Int32)).bind fun v14 =>
                            some v14
                          ) else (
                            some (-1 : Int32)
                          )
                        )
                      )
                    )
                  )
                )
              )
            )
          )
        )
      )
    )
  )
theorem hd12_editor : yX12_editor.cls = "FarEditorsModel" ∧ yX12_editor.cls ≠ "java/lang/invoke/MethodHandle" ∧ yX12_editor.cls ≠ "java/lang/invoke/VarHandle" ∧ (parseMethodDescriptor yX12_editor.desc).map (fun d => d.parameters.length) = some 2 := by decide +kernel
set_option maxHeartbeats 4000000 in
set_option maxRecDepth 100000 in
theorem c12_editor (l : Launch) (D : va_G) (h : Nat) (q : Nat → Nat) (y : CyT) (zM uM z u : Nat) {M : MS} {p1 : Int32} {p2 : Int32} {r : Int32} (hf : f12_editor M p1 p2 = some r) : CT l D y yX12_editor cX12_editor 3 (some .int) 2 46 zM uM [.ref h, .int p1, .int p2] z u (mw h q y M) z u (mw h q y M) (some (.int r)) := by
  refine CT.of (by decide) (Nat.le_of_ble_eq_true rfl) (fun E hc hzz hnm => ?_)
  have hc : Cx E "FarEditorsModel" cX12_editor 3 := hc
  have hz := hzz.1
  have hT := hz.2.2.1
  show V E z u (mw h q y M) 0 [(0, .ref h), (1, .int p1), (2, .int p2)] []
  unfold f12_editor at hf
  refine V_aload_n hc dX12_editor_0 rfl 0 rfl ?_
  refine V_iload_n hc dX12_editor_1 rfl 1 rfl ?_
  obtain ⟨v1, hv1, hf⟩ := mb hf
  refine R_callVi hc hz (As := [.int p1]) (c12_isEditor l D h q y _ _ _ _ hv1) w8_80 w8_82 wp7_13 w1_13 w8_83 hd12_isEditor ⟨Nat.le_of_ble_eq_true rfl, Nat.le_of_ble_eq_true rfl⟩ rfl rfl (Nat.le_of_ble_eq_true rfl) dX12_editor_2 ?_
  refine V_if_ne hc dX12_editor_5 rfl (fun hq5 => ?_) (fun hq5 => ?_)
  · rw [if_neg hq5] at hf
    refine V_iload_n hc dX12_editor_10 rfl 2 rfl ?_
    by_cases hs11_0 : p2 = (0 : Int32)
    · rw [if_pos hs11_0] at hf
      refine V_tableIn hc dX12_editor_11 (by rw [hs11_0]; decide) (by rw [hs11_0]; decide) (off := 61) (by rw [hs11_0]; rfl) rfl ?_
      refine V_aload_n hc dX12_editor_72 rfl 0 rfl ?_
      refine V_iload_n hc dX12_editor_73 rfl 1 rfl ?_
      refine V_bipush hc (v := (21 : Int32)) dX12_editor_74 rfl ?_
      obtain ⟨v2, hv2, hf⟩ := mb hf
      refine R_callVi hc hz (As := [.int p1, .int (21 : Int32)]) (c12_its l D h q y _ _ _ _ hv2) w7_142 w7_144 wp5_7 w1_13 w7_145 hd12_its ⟨Nat.le_of_ble_eq_true rfl, Nat.le_of_ble_eq_true rfl⟩ rfl rfl (Nat.le_of_ble_eq_true rfl) dX12_editor_76 ?_
      obtain rfl := Option.some.inj hf
      exact V_iret hc hzz rfl rfl rfl rfl rfl dX12_editor_79
    rw [if_neg hs11_0] at hf
    by_cases hs11_1 : p2 = (1 : Int32)
    · rw [if_pos hs11_1] at hf
      refine V_tableIn hc dX12_editor_11 (by rw [hs11_1]; decide) (by rw [hs11_1]; decide) (off := 69) (by rw [hs11_1]; rfl) rfl ?_
      refine V_aload_n hc dX12_editor_80 rfl 0 rfl ?_
      refine V_iload_n hc dX12_editor_81 rfl 1 rfl ?_
      refine V_iconst hc (v := (0 : Int32)) dX12_editor_82 rfl ?_
      obtain ⟨v3, hv3, hf⟩ := mb hf
      refine R_callVi hc hz (As := [.int p1, .int (0 : Int32)]) (c12_its l D h q y _ _ _ _ hv3) w7_142 w7_144 wp5_7 w1_13 w7_145 hd12_its ⟨Nat.le_of_ble_eq_true rfl, Nat.le_of_ble_eq_true rfl⟩ rfl rfl (Nat.le_of_ble_eq_true rfl) dX12_editor_83 ?_
      obtain rfl := Option.some.inj hf
      exact V_iret hc hzz rfl rfl rfl rfl rfl dX12_editor_86
    rw [if_neg hs11_1] at hf
    by_cases hs11_2 : p2 = (2 : Int32)
    · rw [if_pos hs11_2] at hf
      refine V_tableIn hc dX12_editor_11 (by rw [hs11_2]; decide) (by rw [hs11_2]; decide) (off := 76) (by rw [hs11_2]; rfl) rfl ?_
      refine V_aload_n hc dX12_editor_87 rfl 0 rfl ?_
      refine V_iload_n hc dX12_editor_88 rfl 1 rfl ?_
      refine V_iconst hc (v := (1 : Int32)) dX12_editor_89 rfl ?_
      obtain ⟨v4, hv4, hf⟩ := mb hf
      refine R_callVi hc hz (As := [.int p1, .int (1 : Int32)]) (c12_its l D h q y _ _ _ _ hv4) w7_142 w7_144 wp5_7 w1_13 w7_145 hd12_its ⟨Nat.le_of_ble_eq_true rfl, Nat.le_of_ble_eq_true rfl⟩ rfl rfl (Nat.le_of_ble_eq_true rfl) dX12_editor_90 ?_
      obtain rfl := Option.some.inj hf
      exact V_iret hc hzz rfl rfl rfl rfl rfl dX12_editor_93
    rw [if_neg hs11_2] at hf
    by_cases hs11_3 : p2 = (3 : Int32)
    · rw [if_pos hs11_3] at hf
      refine V_tableIn hc dX12_editor_11 (by rw [hs11_3]; decide) (by rw [hs11_3]; decide) (off := 83) (by rw [hs11_3]; rfl) rfl ?_
      refine V_aload_n hc dX12_editor_94 rfl 0 rfl ?_
      refine V_iload_n hc dX12_editor_95 rfl 1 rfl ?_
      refine V_bipush hc (v := (17 : Int32)) dX12_editor_96 rfl ?_
      obtain ⟨v5, hv5, hf⟩ := mb hf
      refine R_callVi hc hz (As := [.int p1, .int (17 : Int32)]) (c12_its l D h q y _ _ _ _ hv5) w7_142 w7_144 wp5_7 w1_13 w7_145 hd12_its ⟨Nat.le_of_ble_eq_true rfl, Nat.le_of_ble_eq_true rfl⟩ rfl rfl (Nat.le_of_ble_eq_true rfl) dX12_editor_98 ?_
      obtain rfl := Option.some.inj hf
      exact V_iret hc hzz rfl rfl rfl rfl rfl dX12_editor_101
    rw [if_neg hs11_3] at hf
    by_cases hs11_4 : p2 = (4 : Int32)
    · rw [if_pos hs11_4] at hf
      refine V_tableIn hc dX12_editor_11 (by rw [hs11_4]; decide) (by rw [hs11_4]; decide) (off := 91) (by rw [hs11_4]; rfl) rfl ?_
      refine V_aload_n hc dX12_editor_102 rfl 0 rfl ?_
      refine V_iload_n hc dX12_editor_103 rfl 1 rfl ?_
      refine V_bipush hc (v := (18 : Int32)) dX12_editor_104 rfl ?_
      obtain ⟨v6, hv6, hf⟩ := mb hf
      refine R_callVi hc hz (As := [.int p1, .int (18 : Int32)]) (c12_its l D h q y _ _ _ _ hv6) w7_142 w7_144 wp5_7 w1_13 w7_145 hd12_its ⟨Nat.le_of_ble_eq_true rfl, Nat.le_of_ble_eq_true rfl⟩ rfl rfl (Nat.le_of_ble_eq_true rfl) dX12_editor_106 ?_
      obtain rfl := Option.some.inj hf
      exact V_iret hc hzz rfl rfl rfl rfl rfl dX12_editor_109
    rw [if_neg hs11_4] at hf
    by_cases hs11_5 : p2 = (5 : Int32)
    · rw [if_pos hs11_5] at hf
      refine V_tableIn hc dX12_editor_11 (by rw [hs11_5]; decide) (by rw [hs11_5]; decide) (off := 99) (by rw [hs11_5]; rfl) rfl ?_
      refine V_aload_n hc dX12_editor_110 rfl 0 rfl ?_
      refine V_iload_n hc dX12_editor_111 rfl 1 rfl ?_
      refine V_iconst hc (v := (2 : Int32)) dX12_editor_112 rfl ?_
      obtain ⟨v7, hv7, hf⟩ := mb hf
      refine R_callVi hc hz (As := [.int p1, .int (2 : Int32)]) (c12_its l D h q y _ _ _ _ hv7) w7_142 w7_144 wp5_7 w1_13 w7_145 hd12_its ⟨Nat.le_of_ble_eq_true rfl, Nat.le_of_ble_eq_true rfl⟩ rfl rfl (Nat.le_of_ble_eq_true rfl) dX12_editor_113 ?_
      obtain rfl := Option.some.inj hf
      exact V_iret hc hzz rfl rfl rfl rfl rfl dX12_editor_116
    rw [if_neg hs11_5] at hf
    by_cases hs11_6 : p2 = (6 : Int32)
    · rw [if_pos hs11_6] at hf
      refine V_tableIn hc dX12_editor_11 (by rw [hs11_6]; decide) (by rw [hs11_6]; decide) (off := 106) (by rw [hs11_6]; rfl) rfl ?_
      refine V_aload_n hc dX12_editor_117 rfl 0 rfl ?_
      refine V_iload_n hc dX12_editor_118 rfl 1 rfl ?_
      refine V_bipush hc (v := (22 : Int32)) dX12_editor_119 rfl ?_
      obtain ⟨v8, hv8, hf⟩ := mb hf
      refine R_callVi hc hz (As := [.int p1, .int (22 : Int32)]) (c12_its l D h q y _ _ _ _ hv8) w7_142 w7_144 wp5_7 w1_13 w7_145 hd12_its ⟨Nat.le_of_ble_eq_true rfl, Nat.le_of_ble_eq_true rfl⟩ rfl rfl (Nat.le_of_ble_eq_true rfl) dX12_editor_121 ?_
      obtain rfl := Option.some.inj hf
      exact V_iret hc hzz rfl rfl rfl rfl rfl dX12_editor_124
    rw [if_neg hs11_6] at hf
    by_cases hs11_7 : p2 = (7 : Int32)
    · rw [if_pos hs11_7] at hf
      refine V_tableIn hc dX12_editor_11 (by rw [hs11_7]; decide) (by rw [hs11_7]; decide) (off := 114) (by rw [hs11_7]; rfl) rfl ?_
      refine V_aload_n hc dX12_editor_125 rfl 0 rfl ?_
      refine V_iload_n hc dX12_editor_126 rfl 1 rfl ?_
      refine V_bipush hc (v := (23 : Int32)) dX12_editor_127 rfl ?_
      obtain ⟨v9, hv9, hf⟩ := mb hf
      refine R_callVi hc hz (As := [.int p1, .int (23 : Int32)]) (c12_its l D h q y _ _ _ _ hv9) w7_142 w7_144 wp5_7 w1_13 w7_145 hd12_its ⟨Nat.le_of_ble_eq_true rfl, Nat.le_of_ble_eq_true rfl⟩ rfl rfl (Nat.le_of_ble_eq_true rfl) dX12_editor_129 ?_
      obtain rfl := Option.some.inj hf
      exact V_iret hc hzz rfl rfl rfl rfl rfl dX12_editor_132
    rw [if_neg hs11_7] at hf
    by_cases hs11_8 : p2 = (8 : Int32)
    · rw [if_pos hs11_8] at hf
      refine V_tableIn hc dX12_editor_11 (by rw [hs11_8]; decide) (by rw [hs11_8]; decide) (off := 122) (by rw [hs11_8]; rfl) rfl ?_
      refine V_aload_n hc dX12_editor_133 rfl 0 rfl ?_
      refine V_iload_n hc dX12_editor_134 rfl 1 rfl ?_
      refine V_bipush hc (v := (15 : Int32)) dX12_editor_135 rfl ?_
      obtain ⟨v10, hv10, hf⟩ := mb hf
      refine R_callVi hc hz (As := [.int p1, .int (15 : Int32)]) (c12_its l D h q y _ _ _ _ hv10) w7_142 w7_144 wp5_7 w1_13 w7_145 hd12_its ⟨Nat.le_of_ble_eq_true rfl, Nat.le_of_ble_eq_true rfl⟩ rfl rfl (Nat.le_of_ble_eq_true rfl) dX12_editor_137 ?_
      obtain rfl := Option.some.inj hf
      exact V_iret hc hzz rfl rfl rfl rfl rfl dX12_editor_140
    rw [if_neg hs11_8] at hf
    by_cases hs11_9 : p2 = (9 : Int32)
    · rw [if_pos hs11_9] at hf
      refine V_tableIn hc dX12_editor_11 (by rw [hs11_9]; decide) (by rw [hs11_9]; decide) (off := 130) (by rw [hs11_9]; rfl) rfl ?_
      refine V_aload_n hc dX12_editor_141 rfl 0 rfl ?_
      refine V_iload_n hc dX12_editor_142 rfl 1 rfl ?_
      refine V_bipush hc (v := (16 : Int32)) dX12_editor_143 rfl ?_
      obtain ⟨v11, hv11, hf⟩ := mb hf
      refine R_callVi hc hz (As := [.int p1, .int (16 : Int32)]) (c12_its l D h q y _ _ _ _ hv11) w7_142 w7_144 wp5_7 w1_13 w7_145 hd12_its ⟨Nat.le_of_ble_eq_true rfl, Nat.le_of_ble_eq_true rfl⟩ rfl rfl (Nat.le_of_ble_eq_true rfl) dX12_editor_145 ?_
      obtain rfl := Option.some.inj hf
      exact V_iret hc hzz rfl rfl rfl rfl rfl dX12_editor_148
    rw [if_neg hs11_9] at hf
    by_cases hs11_10 : p2 = (10 : Int32)
    · rw [if_pos hs11_10] at hf
      refine V_tableIn hc dX12_editor_11 (by rw [hs11_10]; decide) (by rw [hs11_10]; decide) (off := 138) (by rw [hs11_10]; rfl) rfl ?_
      refine V_aload_n hc dX12_editor_149 rfl 0 rfl ?_
      refine R_getr hc 30 rfl (by decide) w6_88 dX12_editor_150 ?_
      refine V_iconst hc (v := (1 : Int32)) dX12_editor_153 rfl ?_
      obtain ⟨v12, hv12, hf⟩ := mb hf
      refine R_iald hc hT rfl hv12 dX12_editor_154 ?_
      refine V_aload_n hc dX12_editor_155 rfl 0 rfl ?_
      refine V_iload_n hc dX12_editor_156 rfl 1 rfl ?_
      refine V_iconst hc (v := (0 : Int32)) dX12_editor_157 rfl ?_
      obtain ⟨v13, hv13, hf⟩ := mb hf
      refine R_callVi hc hz (As := [.int p1, .int (0 : Int32)]) (c12_its l D h q y _ _ _ _ hv13) w7_142 w7_144 wp5_7 w1_13 w7_145 hd12_its ⟨Nat.le_of_ble_eq_true rfl, Nat.le_of_ble_eq_true rfl⟩ rfl rfl (Nat.le_of_ble_eq_true rfl) dX12_editor_158 ?_
      refine V_isub hc dX12_editor_161 ?_
      obtain rfl := Option.some.inj hf
      exact V_iret hc hzz rfl rfl rfl rfl rfl dX12_editor_162
    rw [if_neg hs11_10] at hf
    by_cases hs11_11 : p2 = (11 : Int32)
    · rw [if_pos hs11_11] at hf
      refine V_tableIn hc dX12_editor_11 (by rw [hs11_11]; decide) (by rw [hs11_11]; decide) (off := 152) (by rw [hs11_11]; rfl) rfl ?_
      refine V_aload_n hc dX12_editor_163 rfl 0 rfl ?_
      refine V_iload_n hc dX12_editor_164 rfl 1 rfl ?_
      refine V_bipush hc (v := (19 : Int32)) dX12_editor_165 rfl ?_
      obtain ⟨v14, hv14, hf⟩ := mb hf
      refine R_callVi hc hz (As := [.int p1, .int (19 : Int32)]) (c12_its l D h q y _ _ _ _ hv14) w7_142 w7_144 wp5_7 w1_13 w7_145 hd12_its ⟨Nat.le_of_ble_eq_true rfl, Nat.le_of_ble_eq_true rfl⟩ rfl rfl (Nat.le_of_ble_eq_true rfl) dX12_editor_167 ?_
      obtain rfl := Option.some.inj hf
      exact V_iret hc hzz rfl rfl rfl rfl rfl dX12_editor_170
    rw [if_neg hs11_11] at hf
    have hto : p2.toInt < 0 ∨ 11 < p2.toInt := by
      have ht0 : ¬ p2.toInt = 0 := fun hh => hs11_0 (Int32.toInt_inj.mp (hh.trans rfl))
      have ht1 : ¬ p2.toInt = 1 := fun hh => hs11_1 (Int32.toInt_inj.mp (hh.trans rfl))
      have ht2 : ¬ p2.toInt = 2 := fun hh => hs11_2 (Int32.toInt_inj.mp (hh.trans rfl))
      have ht3 : ¬ p2.toInt = 3 := fun hh => hs11_3 (Int32.toInt_inj.mp (hh.trans rfl))
      have ht4 : ¬ p2.toInt = 4 := fun hh => hs11_4 (Int32.toInt_inj.mp (hh.trans rfl))
      have ht5 : ¬ p2.toInt = 5 := fun hh => hs11_5 (Int32.toInt_inj.mp (hh.trans rfl))
      have ht6 : ¬ p2.toInt = 6 := fun hh => hs11_6 (Int32.toInt_inj.mp (hh.trans rfl))
      have ht7 : ¬ p2.toInt = 7 := fun hh => hs11_7 (Int32.toInt_inj.mp (hh.trans rfl))
      have ht8 : ¬ p2.toInt = 8 := fun hh => hs11_8 (Int32.toInt_inj.mp (hh.trans rfl))
      have ht9 : ¬ p2.toInt = 9 := fun hh => hs11_9 (Int32.toInt_inj.mp (hh.trans rfl))
      have ht10 : ¬ p2.toInt = 10 := fun hh => hs11_10 (Int32.toInt_inj.mp (hh.trans rfl))
      have ht11 : ¬ p2.toInt = 11 := fun hh => hs11_11 (Int32.toInt_inj.mp (hh.trans rfl))
      omega
    refine V_tableOut hc dX12_editor_11 hto rfl ?_
    refine V_iconst hc (v := (-1 : Int32)) dX12_editor_171 rfl ?_
    obtain rfl := Option.some.inj hf
    exact V_iret hc hzz rfl rfl rfl rfl rfl dX12_editor_172
  · rw [if_pos hq5] at hf
    refine V_iconst hc (v := (-1 : Int32)) dX12_editor_8 rfl ?_
    obtain rfl := Option.some.inj hf
    exact V_iret hc hzz rfl rfl rfl rfl rfl dX12_editor_9
noncomputable def f12_was (M : MS) (p1 : Int32) (p2 : Int32) : Option (Int32 × MS) :=
  if (gF M 31) = 0 then (
    some ((-1 : Int32), M)
  ) else (
    (ld M 30 (1 : Int32)).bind fun v1 =>
    (f12_isIn p1.toInt64 (0 : Int64) v1.toInt64).bind fun v2 =>
    if v2 = 0 then (
      some ((-1 : Int32), M)
    ) else (
      if (-1 : Int32) ≤ p2 then (
        bn2 (f12_serverText M p1) fun v3 M4 =>
        (
          if p2 = (-1 : Int32) then (
            some (gF M4 49)
          ) else (
            if (gF M4 49) ≤ p2 then (
              some (-1 : Int32)
            ) else (
              (ld M4 47 p2).bind fun v7 =>
              some v7
            )
          )
        ).bind fun v5 =>
        some (v5, M4)
      ) else (
        some ((-1 : Int32), M)
      )
    )
  )
theorem hd12_was : yX12_was.cls = "FarEditorsModel" ∧ yX12_was.cls ≠ "java/lang/invoke/MethodHandle" ∧ yX12_was.cls ≠ "java/lang/invoke/VarHandle" ∧ (parseMethodDescriptor yX12_was.desc).map (fun d => d.parameters.length) = some 2 := by decide +kernel
set_option maxHeartbeats 4000000 in
set_option maxRecDepth 100000 in
theorem c12_was (l : Launch) (D : va_G) (h : Nat) (q : Nat → Nat) (y : CyT) (zM uM z u : Nat) {M M' : MS} {p1 : Int32} {p2 : Int32} {r : Int32} (hf : f12_was M p1 p2 = some (r, M')) : CT l D y yX12_was cX12_was 3 (some .int) 3 72 zM uM [.ref h, .int p1, .int p2] z u (mw h q y M) z u (mw h q y M') (some (.int r)) := by
  refine CT.of (by decide) (Nat.le_of_ble_eq_true rfl) (fun E hc hzz hnm => ?_)
  have hc : Cx E "FarEditorsModel" cX12_was 3 := hc
  have hz := hzz.1
  have hT := hz.2.2.1
  show V E z u (mw h q y M) 0 [(0, .ref h), (1, .int p1), (2, .int p2)] []
  unfold f12_was at hf
  refine V_aload_n hc dX12_was_0 rfl 0 rfl ?_
  refine R_geti hc 31 rfl (by decide) w6_89 dX12_was_1 ?_
  refine V_if_eq hc dX12_was_4 rfl (fun hq4 => ?_) (fun hq4 => ?_)
  · rw [if_pos hq4] at hf
    refine V_iconst hc (v := (-1 : Int32)) dX12_was_28 rfl ?_
    obtain ⟨rfl, rfl⟩ := si2 hf
    exact V_iret hc hzz rfl rfl rfl rfl rfl dX12_was_29
  · rw [if_neg hq4] at hf
    refine V_iload_n hc dX12_was_7 rfl 1 rfl ?_
    refine V_i2l hc dX12_was_8 ?_
    refine V_lconst hc (v := (0 : Int64)) dX12_was_9 rfl ?_
    refine V_aload_n hc dX12_was_10 rfl 0 rfl ?_
    refine R_getr hc 30 rfl (by decide) w6_88 dX12_was_11 ?_
    refine V_iconst hc (v := (1 : Int32)) dX12_was_14 rfl ?_
    obtain ⟨v1, hv1, hf⟩ := mb hf
    refine R_iald hc hT rfl hv1 dX12_was_15 ?_
    refine V_i2l hc dX12_was_16 ?_
    obtain ⟨v2, hv2, hf⟩ := mb hf
    refine R_callSi hc hz (As := [.long p1.toInt64, .long (0 : Int64), .long v1.toInt64]) (c12_isIn l D h q y _ _ _ _ hv2) w7_34 w7_35 w1_13 w7_36 hd12_isIn ⟨Nat.le_of_ble_eq_true rfl, Nat.le_of_ble_eq_true rfl⟩ rfl rfl (Nat.le_of_ble_eq_true rfl) dX12_was_17 ?_
    refine V_if_eq hc dX12_was_20 rfl (fun hq20 => ?_) (fun hq20 => ?_)
    · rw [if_pos hq20] at hf
      refine V_iconst hc (v := (-1 : Int32)) dX12_was_28 rfl ?_
      obtain ⟨rfl, rfl⟩ := si2 hf
      exact V_iret hc hzz rfl rfl rfl rfl rfl dX12_was_29
    · rw [if_neg hq20] at hf
      refine V_iload_n hc dX12_was_23 rfl 2 rfl ?_
      refine V_iconst hc (v := (-1 : Int32)) dX12_was_24 rfl ?_
      refine V_icmp_ge hc dX12_was_25 rfl (fun hq25 => ?_) (fun hq25 => ?_)
      · rw [if_pos hq25] at hf
        refine V_aload_n hc dX12_was_30 rfl 0 rfl ?_
        refine V_iload_n hc dX12_was_31 rfl 1 rfl ?_
        obtain ⟨v3, M4, hv3, hf⟩ := mb2 hf
        refine R_callVi hc hz (As := [.int p1]) (c12_serverText l D h q y _ _ _ _ hv3) w8_64 w8_66 wp7_10 w1_13 w8_67 hd12_serverText ⟨Nat.le_of_ble_eq_true rfl, Nat.le_of_ble_eq_true rfl⟩ rfl rfl (Nat.le_of_ble_eq_true rfl) dX12_was_32 ?_
        refine V_pop hc dX12_was_35 rfl ?_
        refine V_iload_n hc dX12_was_36 rfl 2 rfl ?_
        refine V_iconst hc (v := (-1 : Int32)) dX12_was_37 rfl ?_
        obtain ⟨v5, hv6, hf⟩ := mb hf
        have hJ38 : V E z u (mw h q y M4) 66 [] [.int v5] := by
          obtain ⟨rfl, rfl⟩ := si2 hf
          exact V_iret hc hzz rfl rfl rfl rfl rfl dX12_was_66
        refine V_icmp_ne hc dX12_was_38 rfl (fun hq38 => ?_) (fun hq38 => ?_)
        · rw [if_neg hq38] at hv6
          refine V_iload_n hc dX12_was_48 rfl 2 rfl ?_
          refine V_aload_n hc dX12_was_49 rfl 0 rfl ?_
          refine R_geti hc 49 rfl (by decide) w6_107 dX12_was_50 ?_
          refine V_icmp_ge hc dX12_was_53 rfl (fun hq53 => ?_) (fun hq53 => ?_)
          · rw [if_pos hq53] at hv6
            refine V_iconst hc (v := (-1 : Int32)) dX12_was_65 rfl ?_
            obtain rfl := Option.some.inj hv6
            exact V_sub [] rfl hJ38
          · rw [if_neg hq53] at hv6
            refine V_aload_n hc dX12_was_56 rfl 0 rfl ?_
            refine R_getr hc 47 rfl (by decide) w6_105 dX12_was_57 ?_
            refine V_iload_n hc dX12_was_60 rfl 2 rfl ?_
            obtain ⟨v7, hv7, hv6⟩ := mb hv6
            refine R_iald hc hT rfl hv7 dX12_was_61 ?_
            refine V_goto hc dX12_was_62 rfl ?_
            obtain rfl := Option.some.inj hv6
            exact V_sub [] rfl hJ38
        · rw [if_pos hq38] at hv6
          refine V_aload_n hc dX12_was_41 rfl 0 rfl ?_
          refine R_geti hc 49 rfl (by decide) w6_107 dX12_was_42 ?_
          refine V_goto hc dX12_was_45 rfl ?_
          obtain rfl := Option.some.inj hv6
          exact V_sub [] rfl hJ38
      · rw [if_neg hq25] at hf
        refine V_iconst hc (v := (-1 : Int32)) dX12_was_28 rfl ?_
        obtain ⟨rfl, rfl⟩ := si2 hf
        exact V_iret hc hzz rfl rfl rfl rfl rfl dX12_was_29
