noncomputable def L12_joins_9 : Nat → Int32 → Int32 → MS → Option (MS)
  | 0, _, _, _ => none
  | n + 1, i1, i2, M =>
    if i1 < (gF M 25) then (
      if (gF M 25) ≤ i1 then (
        if (gF M 26) ≤ i2 then (
          (ld M 21 i2).bind fun v1 =>
          (
            if v1 = 0 then (
              (ld M 20 i1).bind fun v6 =>
              (f12_givesC M v6).bind fun M7 =>
              some M7
            ) else (
              (ld M 20 i1).bind fun v4 =>
              if v4 = 0 then (
                (f12_givesC M (-1 : Int32)).bind fun M5 =>
                some M5
              ) else (
                some M
              )
            )
          ).bind fun M2 =>
          L12_joins_9 n (i1 + (1 : Int32)) (i2 + (1 : Int32)) M2
        ) else (
          (ld M 21 i2).bind fun v8 =>
          if v8 ≤ 0 then (
            (ld M 21 i2).bind fun v9 =>
            (
              if v9 = 0 then (
                (ld M 20 i1).bind fun v14 =>
                (f12_givesC M v14).bind fun M15 =>
                some M15
              ) else (
                (ld M 20 i1).bind fun v12 =>
                if v12 = 0 then (
                  (f12_givesC M (-1 : Int32)).bind fun M13 =>
                  some M13
                ) else (
                  some M
                )
              )
            ).bind fun M10 =>
            L12_joins_9 n (i1 + (1 : Int32)) (i2 + (1 : Int32)) M10
          ) else (
            (ld M 21 i2).bind fun v16 =>
            (f12_givesC M v16).bind fun M17 =>
            L12_joins_9 n i1 (i2 + (1 : Int32)) M17
          )
        )
      ) else (
        (ld M 20 i1).bind fun v18 =>
        if v18 = (-1 : Int32) then (
          (f12_givesC M (-1 : Int32)).bind fun M36 =>
          L12_joins_9 n (i1 + (1 : Int32)) i2 M36
        ) else (
          if (gF M 26) ≤ i2 then (
            (ld M 21 i2).bind fun v19 =>
            (
              if v19 = 0 then (
                (ld M 20 i1).bind fun v24 =>
                (f12_givesC M v24).bind fun M25 =>
                some M25
              ) else (
                (ld M 20 i1).bind fun v22 =>
                if v22 = 0 then (
                  (f12_givesC M (-1 : Int32)).bind fun M23 =>
                  some M23
                ) else (
                  some M
                )
              )
            ).bind fun M20 =>
            L12_joins_9 n (i1 + (1 : Int32)) (i2 + (1 : Int32)) M20
          ) else (
            (ld M 21 i2).bind fun v26 =>
            if v26 ≤ 0 then (
              (ld M 21 i2).bind fun v27 =>
              (
                if v27 = 0 then (
                  (ld M 20 i1).bind fun v32 =>
                  (f12_givesC M v32).bind fun M33 =>
                  some M33
                ) else (
                  (ld M 20 i1).bind fun v30 =>
                  if v30 = 0 then (
                    (f12_givesC M (-1 : Int32)).bind fun M31 =>
                    some M31
                  ) else (
                    some M
                  )
                )
              ).bind fun M28 =>
              L12_joins_9 n (i1 + (1 : Int32)) (i2 + (1 : Int32)) M28
            ) else (
              (ld M 21 i2).bind fun v34 =>
              (f12_givesC M v34).bind fun M35 =>
              L12_joins_9 n i1 (i2 + (1 : Int32)) M35
            )
          )
        )
      )
    ) else (
      if (gF M 26) ≤ i2 then (
        some M
      ) else (
        if (gF M 25) ≤ i1 then (
          if (gF M 26) ≤ i2 then (
            (ld M 21 i2).bind fun v37 =>
            (
              if v37 = 0 then (
                (ld M 20 i1).bind fun v42 =>
                (f12_givesC M v42).bind fun M43 =>
                some M43
              ) else (
                (ld M 20 i1).bind fun v40 =>
                if v40 = 0 then (
                  (f12_givesC M (-1 : Int32)).bind fun M41 =>
                  some M41
                ) else (
                  some M
                )
              )
            ).bind fun M38 =>
            L12_joins_9 n (i1 + (1 : Int32)) (i2 + (1 : Int32)) M38
          ) else (
            (ld M 21 i2).bind fun v44 =>
            if v44 ≤ 0 then (
              (ld M 21 i2).bind fun v45 =>
              (
                if v45 = 0 then (
                  (ld M 20 i1).bind fun v50 =>
                  (f12_givesC M v50).bind fun M51 =>
                  some M51
                ) else (
                  (ld M 20 i1).bind fun v48 =>
                  if v48 = 0 then (
                    (f12_givesC M (-1 : Int32)).bind fun M49 =>
                    some M49
                  ) else (
                    some M
                  )
                )
              ).bind fun M46 =>
              L12_joins_9 n (i1 + (1 : Int32)) (i2 + (1 : Int32)) M46
            ) else (
              (ld M 21 i2).bind fun v52 =>
              (f12_givesC M v52).bind fun M53 =>
              L12_joins_9 n i1 (i2 + (1 : Int32)) M53
            )
          )
        ) else (
          (ld M 20 i1).bind fun v54 =>
          if v54 = (-1 : Int32) then (
            (f12_givesC M (-1 : Int32)).bind fun M72 =>
            L12_joins_9 n (i1 + (1 : Int32)) i2 M72
          ) else (
            if (gF M 26) ≤ i2 then (
              (ld M 21 i2).bind fun v55 =>
              (
                if v55 = 0 then (
                  (ld M 20 i1).bind fun v60 =>
                  (f12_givesC M v60).bind fun M61 =>
                  some M61
                ) else (
                  (ld M 20 i1).bind fun v58 =>
                  if v58 = 0 then (
                    (f12_givesC M (-1 : Int32)).bind fun M59 =>
                    some M59
                  ) else (
                    some M
                  )
                )
              ).bind fun M56 =>
              L12_joins_9 n (i1 + (1 : Int32)) (i2 + (1 : Int32)) M56
            ) else (
              (ld M 21 i2).bind fun v62 =>
              if v62 ≤ 0 then (
                (ld M 21 i2).bind fun v63 =>
                (
                  if v63 = 0 then (
                    (ld M 20 i1).bind fun v68 =>
                    (f12_givesC M v68).bind fun M69 =>
                    some M69
                  ) else (
                    (ld M 20 i1).bind fun v66 =>
                    if v66 = 0 then (
                      (f12_givesC M (-1 : Int32)).bind fun M67 =>
                      some M67
                    ) else (
                      some M
                    )
                  )
                ).bind fun M64 =>
                L12_joins_9 n (i1 + (1 : Int32)) (i2 + (1 : Int32)) M64
              ) else (
                (ld M 21 i2).bind fun v70 =>
                (f12_givesC M v70).bind fun M71 =>
                L12_joins_9 n i1 (i2 + (1 : Int32)) M71
              )
            )
          )
        )
      )
    )
noncomputable def f12_joins (M : MS) : Option (MS) :=
  (L12_joins_9 FU (0 : Int32) (0 : Int32) (sF M 27 (0 : Int32))).bind fun M1 =>
  (f12_settles M1 22 (gF M1 27)).bind fun M3 =>
  some M3
theorem hd12_joins : yX12_joins.cls = "FarEditorsModel" ∧ yX12_joins.cls ≠ "java/lang/invoke/MethodHandle" ∧ yX12_joins.cls ≠ "java/lang/invoke/VarHandle" ∧ (parseMethodDescriptor yX12_joins.desc).map (fun d => d.parameters.length) = some 0 := by decide +kernel
set_option maxHeartbeats 4000000 in
set_option maxRecDepth 100000 in
theorem L12_joins_9_ok {E : CxT} {l : Launch} {D : va_G} {h : Nat} {q : Nat → Nat} {y : CyT} {zM uM z u : Nat} (hc : Cx E "FarEditorsModel" cX12_joins 3) (hz : Cy E l D y 1 26 zM uM) : ∀ (n : Nat) (i1 : Int32) (i2 : Int32) (M : MS) {Mo : MS}, L12_joins_9 n i1 i2 M = some Mo → (hx0 : V E z u (mw h q y Mo) 132 [(0, .ref h)] []) → V E z u (mw h q y M) 9 [(0, .ref h), (1, .int i1), (2, .int i2)] [] := by
  have hT := hz.2.2.1
  intro n
  induction n with
  | zero => intro i1 i2 M Mo hf; cases hf
  | succ n ih =>
    intro i1 i2 M Mo hf hx0
    unfold L12_joins_9 at hf
    refine V_iload_n hc dX12_joins_9 rfl 1 rfl ?_
    refine V_aload_n hc dX12_joins_10 rfl 0 rfl ?_
    refine R_geti hc 25 rfl (by decide) w6_83 dX12_joins_11 ?_
    refine V_icmp_lt hc dX12_joins_14 rfl (fun hq14 => ?_) (fun hq14 => ?_)
    · rw [if_pos hq14] at hf
      refine V_iload_n hc dX12_joins_25 rfl 1 rfl ?_
      refine V_aload_n hc dX12_joins_26 rfl 0 rfl ?_
      refine R_geti hc 25 rfl (by decide) w6_83 dX12_joins_27 ?_
      refine V_icmp_ge hc dX12_joins_30 rfl (fun hq30 => ?_) (fun hq30 => ?_)
      · rw [if_pos hq30] at hf
        refine V_iload_n hc dX12_joins_54 rfl 2 rfl ?_
        refine V_aload_n hc dX12_joins_55 rfl 0 rfl ?_
        refine R_geti hc 26 rfl (by decide) w6_84 dX12_joins_56 ?_
        refine V_icmp_ge hc dX12_joins_59 rfl (fun hq59 => ?_) (fun hq59 => ?_)
        · rw [if_pos hq59] at hf
          refine V_aload_n hc dX12_joins_87 rfl 0 rfl ?_
          refine R_getr hc 21 rfl (by decide) w6_79 dX12_joins_88 ?_
          refine V_iload_n hc dX12_joins_91 rfl 2 rfl ?_
          obtain ⟨v1, hv1, hf⟩ := mb hf
          refine R_iald hc hT rfl hv1 dX12_joins_92 ?_
          obtain ⟨M2, hv3, hf⟩ := mb hf
          have hJ93 : V E z u (mw h q y M2) 123 [(0, .ref h), (1, .int i1), (2, .int i2)] [] := by
            refine V_iinc hc (j := 1) (v := (i1 + (1 : Int32))) dX12_joins_123 rfl rfl (by decide) rfl ?_
            refine V_iinc hc (j := 2) (v := (i2 + (1 : Int32))) dX12_joins_126 rfl rfl (by decide) rfl ?_
            refine V_goto hc dX12_joins_129 rfl ?_
            exact V_sub [2, 1, 0] rfl (ih _ _ _ hf hx0)
          refine V_if_ne hc dX12_joins_93 rfl (fun hq93 => ?_) (fun hq93 => ?_)
          · rw [if_neg hq93] at hv3
            refine V_aload_n hc dX12_joins_109 rfl 0 rfl ?_
            refine R_getr hc 20 rfl (by decide) w6_78 dX12_joins_110 ?_
            refine V_iload_n hc dX12_joins_113 rfl 1 rfl ?_
            obtain ⟨v4, hv4, hv3⟩ := mb hv3
            refine R_iald hc hT rfl hv4 dX12_joins_114 ?_
            refine V_if_ne hc dX12_joins_115 rfl (fun hq115 => ?_) (fun hq115 => ?_)
            · rw [if_neg hq115] at hv3
              obtain rfl := Option.some.inj hv3
              exact V_sub [0, 1, 2] rfl hJ93
            · rw [if_pos hq115] at hv3
              refine V_aload_n hc dX12_joins_118 rfl 0 rfl ?_
              refine V_iconst hc (v := (-1 : Int32)) dX12_joins_119 rfl ?_
              obtain ⟨M5, hM5, hv3⟩ := mb hv3
              refine R_callVv hc hz (As := [.int (-1 : Int32)]) (c12_givesC l D h q y _ _ _ _ hM5) w7_172 w7_174 wp5_13 w1_13 w7_175 hd12_givesC ⟨Nat.le_of_ble_eq_true rfl, Nat.le_of_ble_eq_true rfl⟩ rfl rfl (Nat.le_of_ble_eq_true rfl) dX12_joins_120 ?_
              obtain rfl := Option.some.inj hv3
              exact V_sub [0, 1, 2] rfl hJ93
          · rw [if_pos hq93] at hv3
            refine V_aload_n hc dX12_joins_96 rfl 0 rfl ?_
            refine V_aload_n hc dX12_joins_97 rfl 0 rfl ?_
            refine R_getr hc 20 rfl (by decide) w6_78 dX12_joins_98 ?_
            refine V_iload_n hc dX12_joins_101 rfl 1 rfl ?_
            obtain ⟨v6, hv6, hv3⟩ := mb hv3
            refine R_iald hc hT rfl hv6 dX12_joins_102 ?_
            obtain ⟨M7, hM7, hv3⟩ := mb hv3
            refine R_callVv hc hz (As := [.int v6]) (c12_givesC l D h q y _ _ _ _ hM7) w7_172 w7_174 wp5_13 w1_13 w7_175 hd12_givesC ⟨Nat.le_of_ble_eq_true rfl, Nat.le_of_ble_eq_true rfl⟩ rfl rfl (Nat.le_of_ble_eq_true rfl) dX12_joins_103 ?_
            refine V_goto hc dX12_joins_106 rfl ?_
            obtain rfl := Option.some.inj hv3
            exact V_sub [0, 1, 2] rfl hJ93
        · rw [if_neg hq59] at hf
          refine V_aload_n hc dX12_joins_62 rfl 0 rfl ?_
          refine R_getr hc 21 rfl (by decide) w6_79 dX12_joins_63 ?_
          refine V_iload_n hc dX12_joins_66 rfl 2 rfl ?_
          obtain ⟨v8, hv8, hf⟩ := mb hf
          refine R_iald hc hT rfl hv8 dX12_joins_67 ?_
          refine V_if_le hc dX12_joins_68 rfl (fun hq68 => ?_) (fun hq68 => ?_)
          · rw [if_pos hq68] at hf
            refine V_aload_n hc dX12_joins_87 rfl 0 rfl ?_
            refine R_getr hc 21 rfl (by decide) w6_79 dX12_joins_88 ?_
            refine V_iload_n hc dX12_joins_91 rfl 2 rfl ?_
            obtain ⟨v9, hv9, hf⟩ := mb hf
            refine R_iald hc hT rfl hv9 dX12_joins_92 ?_
            obtain ⟨M10, hv11, hf⟩ := mb hf
            have hJ93 : V E z u (mw h q y M10) 123 [(0, .ref h), (1, .int i1), (2, .int i2)] [] := by
              refine V_iinc hc (j := 1) (v := (i1 + (1 : Int32))) dX12_joins_123 rfl rfl (by decide) rfl ?_
              refine V_iinc hc (j := 2) (v := (i2 + (1 : Int32))) dX12_joins_126 rfl rfl (by decide) rfl ?_
              refine V_goto hc dX12_joins_129 rfl ?_
              exact V_sub [2, 1, 0] rfl (ih _ _ _ hf hx0)
            refine V_if_ne hc dX12_joins_93 rfl (fun hq93 => ?_) (fun hq93 => ?_)
            · rw [if_neg hq93] at hv11
              refine V_aload_n hc dX12_joins_109 rfl 0 rfl ?_
              refine R_getr hc 20 rfl (by decide) w6_78 dX12_joins_110 ?_
              refine V_iload_n hc dX12_joins_113 rfl 1 rfl ?_
              obtain ⟨v12, hv12, hv11⟩ := mb hv11
              refine R_iald hc hT rfl hv12 dX12_joins_114 ?_
              refine V_if_ne hc dX12_joins_115 rfl (fun hq115 => ?_) (fun hq115 => ?_)
              · rw [if_neg hq115] at hv11
                obtain rfl := Option.some.inj hv11
                exact V_sub [0, 1, 2] rfl hJ93
              · rw [if_pos hq115] at hv11
                refine V_aload_n hc dX12_joins_118 rfl 0 rfl ?_
                refine V_iconst hc (v := (-1 : Int32)) dX12_joins_119 rfl ?_
                obtain ⟨M13, hM13, hv11⟩ := mb hv11
                refine R_callVv hc hz (As := [.int (-1 : Int32)]) (c12_givesC l D h q y _ _ _ _ hM13) w7_172 w7_174 wp5_13 w1_13 w7_175 hd12_givesC ⟨Nat.le_of_ble_eq_true rfl, Nat.le_of_ble_eq_true rfl⟩ rfl rfl (Nat.le_of_ble_eq_true rfl) dX12_joins_120 ?_
                obtain rfl := Option.some.inj hv11
                exact V_sub [0, 1, 2] rfl hJ93
            · rw [if_pos hq93] at hv11
              refine V_aload_n hc dX12_joins_96 rfl 0 rfl ?_
              refine V_aload_n hc dX12_joins_97 rfl 0 rfl ?_
              refine R_getr hc 20 rfl (by decide) w6_78 dX12_joins_98 ?_
              refine V_iload_n hc dX12_joins_101 rfl 1 rfl ?_
              obtain ⟨v14, hv14, hv11⟩ := mb hv11
              refine R_iald hc hT rfl hv14 dX12_joins_102 ?_
              obtain ⟨M15, hM15, hv11⟩ := mb hv11
              refine R_callVv hc hz (As := [.int v14]) (c12_givesC l D h q y _ _ _ _ hM15) w7_172 w7_174 wp5_13 w1_13 w7_175 hd12_givesC ⟨Nat.le_of_ble_eq_true rfl, Nat.le_of_ble_eq_true rfl⟩ rfl rfl (Nat.le_of_ble_eq_true rfl) dX12_joins_103 ?_
              refine V_goto hc dX12_joins_106 rfl ?_
              obtain rfl := Option.some.inj hv11
              exact V_sub [0, 1, 2] rfl hJ93
          · rw [if_neg hq68] at hf
            refine V_aload_n hc dX12_joins_71 rfl 0 rfl ?_
            refine V_aload_n hc dX12_joins_72 rfl 0 rfl ?_
            refine R_getr hc 21 rfl (by decide) w6_79 dX12_joins_73 ?_
            refine V_iload_n hc dX12_joins_76 rfl 2 rfl ?_
            obtain ⟨v16, hv16, hf⟩ := mb hf
            refine R_iald hc hT rfl hv16 dX12_joins_77 ?_
            obtain ⟨M17, hM17, hf⟩ := mb hf
            refine R_callVv hc hz (As := [.int v16]) (c12_givesC l D h q y _ _ _ _ hM17) w7_172 w7_174 wp5_13 w1_13 w7_175 hd12_givesC ⟨Nat.le_of_ble_eq_true rfl, Nat.le_of_ble_eq_true rfl⟩ rfl rfl (Nat.le_of_ble_eq_true rfl) dX12_joins_78 ?_
            refine V_iinc hc (j := 2) (v := (i2 + (1 : Int32))) dX12_joins_81 rfl rfl (by decide) rfl ?_
            refine V_goto hc dX12_joins_84 rfl ?_
            exact V_sub [1, 2, 0] rfl (ih _ _ _ hf hx0)
      · rw [if_neg hq30] at hf
        refine V_aload_n hc dX12_joins_33 rfl 0 rfl ?_
        refine R_getr hc 20 rfl (by decide) w6_78 dX12_joins_34 ?_
        refine V_iload_n hc dX12_joins_37 rfl 1 rfl ?_
        obtain ⟨v18, hv18, hf⟩ := mb hf
        refine R_iald hc hT rfl hv18 dX12_joins_38 ?_
        refine V_iconst hc (v := (-1 : Int32)) dX12_joins_39 rfl ?_
        refine V_icmp_ne hc dX12_joins_40 rfl (fun hq40 => ?_) (fun hq40 => ?_)
        · rw [if_neg hq40] at hf
          refine V_iload_n hc dX12_joins_54 rfl 2 rfl ?_
          refine V_aload_n hc dX12_joins_55 rfl 0 rfl ?_
          refine R_geti hc 26 rfl (by decide) w6_84 dX12_joins_56 ?_
          refine V_icmp_ge hc dX12_joins_59 rfl (fun hq59 => ?_) (fun hq59 => ?_)
          · rw [if_pos hq59] at hf
            refine V_aload_n hc dX12_joins_87 rfl 0 rfl ?_
            refine R_getr hc 21 rfl (by decide) w6_79 dX12_joins_88 ?_
            refine V_iload_n hc dX12_joins_91 rfl 2 rfl ?_
            obtain ⟨v19, hv19, hf⟩ := mb hf
            refine R_iald hc hT rfl hv19 dX12_joins_92 ?_
            obtain ⟨M20, hv21, hf⟩ := mb hf
            have hJ93 : V E z u (mw h q y M20) 123 [(0, .ref h), (1, .int i1), (2, .int i2)] [] := by
              refine V_iinc hc (j := 1) (v := (i1 + (1 : Int32))) dX12_joins_123 rfl rfl (by decide) rfl ?_
              refine V_iinc hc (j := 2) (v := (i2 + (1 : Int32))) dX12_joins_126 rfl rfl (by decide) rfl ?_
              refine V_goto hc dX12_joins_129 rfl ?_
              exact V_sub [2, 1, 0] rfl (ih _ _ _ hf hx0)
            refine V_if_ne hc dX12_joins_93 rfl (fun hq93 => ?_) (fun hq93 => ?_)
            · rw [if_neg hq93] at hv21
              refine V_aload_n hc dX12_joins_109 rfl 0 rfl ?_
              refine R_getr hc 20 rfl (by decide) w6_78 dX12_joins_110 ?_
              refine V_iload_n hc dX12_joins_113 rfl 1 rfl ?_
              obtain ⟨v22, hv22, hv21⟩ := mb hv21
              refine R_iald hc hT rfl hv22 dX12_joins_114 ?_
              refine V_if_ne hc dX12_joins_115 rfl (fun hq115 => ?_) (fun hq115 => ?_)
              · rw [if_neg hq115] at hv21
                obtain rfl := Option.some.inj hv21
                exact V_sub [0, 1, 2] rfl hJ93
              · rw [if_pos hq115] at hv21
                refine V_aload_n hc dX12_joins_118 rfl 0 rfl ?_
                refine V_iconst hc (v := (-1 : Int32)) dX12_joins_119 rfl ?_
                obtain ⟨M23, hM23, hv21⟩ := mb hv21
                refine R_callVv hc hz (As := [.int (-1 : Int32)]) (c12_givesC l D h q y _ _ _ _ hM23) w7_172 w7_174 wp5_13 w1_13 w7_175 hd12_givesC ⟨Nat.le_of_ble_eq_true rfl, Nat.le_of_ble_eq_true rfl⟩ rfl rfl (Nat.le_of_ble_eq_true rfl) dX12_joins_120 ?_
                obtain rfl := Option.some.inj hv21
                exact V_sub [0, 1, 2] rfl hJ93
            · rw [if_pos hq93] at hv21
              refine V_aload_n hc dX12_joins_96 rfl 0 rfl ?_
              refine V_aload_n hc dX12_joins_97 rfl 0 rfl ?_
              refine R_getr hc 20 rfl (by decide) w6_78 dX12_joins_98 ?_
              refine V_iload_n hc dX12_joins_101 rfl 1 rfl ?_
              obtain ⟨v24, hv24, hv21⟩ := mb hv21
              refine R_iald hc hT rfl hv24 dX12_joins_102 ?_
              obtain ⟨M25, hM25, hv21⟩ := mb hv21
              refine R_callVv hc hz (As := [.int v24]) (c12_givesC l D h q y _ _ _ _ hM25) w7_172 w7_174 wp5_13 w1_13 w7_175 hd12_givesC ⟨Nat.le_of_ble_eq_true rfl, Nat.le_of_ble_eq_true rfl⟩ rfl rfl (Nat.le_of_ble_eq_true rfl) dX12_joins_103 ?_
              refine V_goto hc dX12_joins_106 rfl ?_
              obtain rfl := Option.some.inj hv21
              exact V_sub [0, 1, 2] rfl hJ93
          · rw [if_neg hq59] at hf
            refine V_aload_n hc dX12_joins_62 rfl 0 rfl ?_
            refine R_getr hc 21 rfl (by decide) w6_79 dX12_joins_63 ?_
            refine V_iload_n hc dX12_joins_66 rfl 2 rfl ?_
            obtain ⟨v26, hv26, hf⟩ := mb hf
            refine R_iald hc hT rfl hv26 dX12_joins_67 ?_
            refine V_if_le hc dX12_joins_68 rfl (fun hq68 => ?_) (fun hq68 => ?_)
            · rw [if_pos hq68] at hf
              refine V_aload_n hc dX12_joins_87 rfl 0 rfl ?_
              refine R_getr hc 21 rfl (by decide) w6_79 dX12_joins_88 ?_
              refine V_iload_n hc dX12_joins_91 rfl 2 rfl ?_
              obtain ⟨v27, hv27, hf⟩ := mb hf
              refine R_iald hc hT rfl hv27 dX12_joins_92 ?_
              obtain ⟨M28, hv29, hf⟩ := mb hf
              have hJ93 : V E z u (mw h q y M28) 123 [(0, .ref h), (1, .int i1), (2, .int i2)] [] := by
                refine V_iinc hc (j := 1) (v := (i1 + (1 : Int32))) dX12_joins_123 rfl rfl (by decide) rfl ?_
                refine V_iinc hc (j := 2) (v := (i2 + (1 : Int32))) dX12_joins_126 rfl rfl (by decide) rfl ?_
                refine V_goto hc dX12_joins_129 rfl ?_
                exact V_sub [2, 1, 0] rfl (ih _ _ _ hf hx0)
              refine V_if_ne hc dX12_joins_93 rfl (fun hq93 => ?_) (fun hq93 => ?_)
              · rw [if_neg hq93] at hv29
                refine V_aload_n hc dX12_joins_109 rfl 0 rfl ?_
                refine R_getr hc 20 rfl (by decide) w6_78 dX12_joins_110 ?_
                refine V_iload_n hc dX12_joins_113 rfl 1 rfl ?_
                obtain ⟨v30, hv30, hv29⟩ := mb hv29
                refine R_iald hc hT rfl hv30 dX12_joins_114 ?_
                refine V_if_ne hc dX12_joins_115 rfl (fun hq115 => ?_) (fun hq115 => ?_)
                · rw [if_neg hq115] at hv29
                  obtain rfl := Option.some.inj hv29
                  exact V_sub [0, 1, 2] rfl hJ93
                · rw [if_pos hq115] at hv29
                  refine V_aload_n hc dX12_joins_118 rfl 0 rfl ?_
                  refine V_iconst hc (v := (-1 : Int32)) dX12_joins_119 rfl ?_
                  obtain ⟨M31, hM31, hv29⟩ := mb hv29
                  refine R_callVv hc hz (As := [.int (-1 : Int32)]) (c12_givesC l D h q y _ _ _ _ hM31) w7_172 w7_174 wp5_13 w1_13 w7_175 hd12_givesC ⟨Nat.le_of_ble_eq_true rfl, Nat.le_of_ble_eq_true rfl⟩ rfl rfl (Nat.le_of_ble_eq_true rfl) dX12_joins_120 ?_
                  obtain rfl := Option.some.inj hv29
                  exact V_sub [0, 1, 2] rfl hJ93
              · rw [if_pos hq93] at hv29
                refine V_aload_n hc dX12_joins_96 rfl 0 rfl ?_
                refine V_aload_n hc dX12_joins_97 rfl 0 rfl ?_
                refine R_getr hc 20 rfl (by decide) w6_78 dX12_joins_98 ?_
                refine V_iload_n hc dX12_joins_101 rfl 1 rfl ?_
                obtain ⟨v32, hv32, hv29⟩ := mb hv29
                refine R_iald hc hT rfl hv32 dX12_joins_102 ?_
                obtain ⟨M33, hM33, hv29⟩ := mb hv29
                refine R_callVv hc hz (As := [.int v32]) (c12_givesC l D h q y _ _ _ _ hM33) w7_172 w7_174 wp5_13 w1_13 w7_175 hd12_givesC ⟨Nat.le_of_ble_eq_true rfl, Nat.le_of_ble_eq_true rfl⟩ rfl rfl (Nat.le_of_ble_eq_true rfl) dX12_joins_103 ?_
                refine V_goto hc dX12_joins_106 rfl ?_
                obtain rfl := Option.some.inj hv29
                exact V_sub [0, 1, 2] rfl hJ93
            · rw [if_neg hq68] at hf
              refine V_aload_n hc dX12_joins_71 rfl 0 rfl ?_
              refine V_aload_n hc dX12_joins_72 rfl 0 rfl ?_
              refine R_getr hc 21 rfl (by decide) w6_79 dX12_joins_73 ?_
              refine V_iload_n hc dX12_joins_76 rfl 2 rfl ?_
              obtain ⟨v34, hv34, hf⟩ := mb hf
              refine R_iald hc hT rfl hv34 dX12_joins_77 ?_
              obtain ⟨M35, hM35, hf⟩ := mb hf
              refine R_callVv hc hz (As := [.int v34]) (c12_givesC l D h q y _ _ _ _ hM35) w7_172 w7_174 wp5_13 w1_13 w7_175 hd12_givesC ⟨Nat.le_of_ble_eq_true rfl, Nat.le_of_ble_eq_true rfl⟩ rfl rfl (Nat.le_of_ble_eq_true rfl) dX12_joins_78 ?_
              refine V_iinc hc (j := 2) (v := (i2 + (1 : Int32))) dX12_joins_81 rfl rfl (by decide) rfl ?_
              refine V_goto hc dX12_joins_84 rfl ?_
              exact V_sub [1, 2, 0] rfl (ih _ _ _ hf hx0)
        · rw [if_pos hq40] at hf
          refine V_aload_n hc dX12_joins_43 rfl 0 rfl ?_
          refine V_iconst hc (v := (-1 : Int32)) dX12_joins_44 rfl ?_
          obtain ⟨M36, hM36, hf⟩ := mb hf
          refine R_callVv hc hz (As := [.int (-1 : Int32)]) (c12_givesC l D h q y _ _ _ _ hM36) w7_172 w7_174 wp5_13 w1_13 w7_175 hd12_givesC ⟨Nat.le_of_ble_eq_true rfl, Nat.le_of_ble_eq_true rfl⟩ rfl rfl (Nat.le_of_ble_eq_true rfl) dX12_joins_45 ?_
          refine V_iinc hc (j := 1) (v := (i1 + (1 : Int32))) dX12_joins_48 rfl rfl (by decide) rfl ?_
          refine V_goto hc dX12_joins_51 rfl ?_
          exact V_sub [1, 0, 2] rfl (ih _ _ _ hf hx0)
    · rw [if_neg hq14] at hf
      refine V_iload_n hc dX12_joins_17 rfl 2 rfl ?_
      refine V_aload_n hc dX12_joins_18 rfl 0 rfl ?_
      refine R_geti hc 26 rfl (by decide) w6_84 dX12_joins_19 ?_
      refine V_icmp_ge hc dX12_joins_22 rfl (fun hq22 => ?_) (fun hq22 => ?_)
      · rw [if_pos hq22] at hf
        obtain rfl := Option.some.inj hf
        exact V_sub [0] rfl hx0
      · rw [if_neg hq22] at hf
        refine V_iload_n hc dX12_joins_25 rfl 1 rfl ?_
        refine V_aload_n hc dX12_joins_26 rfl 0 rfl ?_
        refine R_geti hc 25 rfl (by decide) w6_83 dX12_joins_27 ?_
        refine V_icmp_ge hc dX12_joins_30 rfl (fun hq30 => ?_) (fun hq30 => ?_)
        · rw [if_pos hq30] at hf
          refine V_iload_n hc dX12_joins_54 rfl 2 rfl ?_
          refine V_aload_n hc dX12_joins_55 rfl 0 rfl ?_
          refine R_geti hc 26 rfl (by decide) w6_84 dX12_joins_56 ?_
          refine V_icmp_ge hc dX12_joins_59 rfl (fun hq59 => ?_) (fun hq59 => ?_)
          · rw [if_pos hq59] at hf
            refine V_aload_n hc dX12_joins_87 rfl 0 rfl ?_
            refine R_getr hc 21 rfl (by decide) w6_79 dX12_joins_88 ?_
            refine V_iload_n hc dX12_joins_91 rfl 2 rfl ?_
            obtain ⟨v37, hv37, hf⟩ := mb hf
            refine R_iald hc hT rfl hv37 dX12_joins_92 ?_
            obtain ⟨M38, hv39, hf⟩ := mb hf
            have hJ93 : V E z u (mw h q y M38) 123 [(0, .ref h), (1, .int i1), (2, .int i2)] [] := by
              refine V_iinc hc (j := 1) (v := (i1 + (1 : Int32))) dX12_joins_123 rfl rfl (by decide) rfl ?_
              refine V_iinc hc (j := 2) (v := (i2 + (1 : Int32))) dX12_joins_126 rfl rfl (by decide) rfl ?_
              refine V_goto hc dX12_joins_129 rfl ?_
              exact V_sub [2, 1, 0] rfl (ih _ _ _ hf hx0)
            refine V_if_ne hc dX12_joins_93 rfl (fun hq93 => ?_) (fun hq93 => ?_)
            · rw [if_neg hq93] at hv39
              refine V_aload_n hc dX12_joins_109 rfl 0 rfl ?_
              refine R_getr hc 20 rfl (by decide) w6_78 dX12_joins_110 ?_
              refine V_iload_n hc dX12_joins_113 rfl 1 rfl ?_
              obtain ⟨v40, hv40, hv39⟩ := mb hv39
              refine R_iald hc hT rfl hv40 dX12_joins_114 ?_
              refine V_if_ne hc dX12_joins_115 rfl (fun hq115 => ?_) (fun hq115 => ?_)
              · rw [if_neg hq115] at hv39
                obtain rfl := Option.some.inj hv39
                exact V_sub [0, 1, 2] rfl hJ93
              · rw [if_pos hq115] at hv39
                refine V_aload_n hc dX12_joins_118 rfl 0 rfl ?_
                refine V_iconst hc (v := (-1 : Int32)) dX12_joins_119 rfl ?_
                obtain ⟨M41, hM41, hv39⟩ := mb hv39
                refine R_callVv hc hz (As := [.int (-1 : Int32)]) (c12_givesC l D h q y _ _ _ _ hM41) w7_172 w7_174 wp5_13 w1_13 w7_175 hd12_givesC ⟨Nat.le_of_ble_eq_true rfl, Nat.le_of_ble_eq_true rfl⟩ rfl rfl (Nat.le_of_ble_eq_true rfl) dX12_joins_120 ?_
                obtain rfl := Option.some.inj hv39
                exact V_sub [0, 1, 2] rfl hJ93
            · rw [if_pos hq93] at hv39
              refine V_aload_n hc dX12_joins_96 rfl 0 rfl ?_
              refine V_aload_n hc dX12_joins_97 rfl 0 rfl ?_
              refine R_getr hc 20 rfl (by decide) w6_78 dX12_joins_98 ?_
              refine V_iload_n hc dX12_joins_101 rfl 1 rfl ?_
              obtain ⟨v42, hv42, hv39⟩ := mb hv39
              refine R_iald hc hT rfl hv42 dX12_joins_102 ?_
              obtain ⟨M43, hM43, hv39⟩ := mb hv39
              refine R_callVv hc hz (As := [.int v42]) (c12_givesC l D h q y _ _ _ _ hM43) w7_172 w7_174 wp5_13 w1_13 w7_175 hd12_givesC ⟨Nat.le_of_ble_eq_true rfl, Nat.le_of_ble_eq_true rfl⟩ rfl rfl (Nat.le_of_ble_eq_true rfl) dX12_joins_103 ?_
              refine V_goto hc dX12_joins_106 rfl ?_
              obtain rfl := Option.some.inj hv39
              exact V_sub [0, 1, 2] rfl hJ93
          · rw [if_neg hq59] at hf
            refine V_aload_n hc dX12_joins_62 rfl 0 rfl ?_
            refine R_getr hc 21 rfl (by decide) w6_79 dX12_joins_63 ?_
            refine V_iload_n hc dX12_joins_66 rfl 2 rfl ?_
            obtain ⟨v44, hv44, hf⟩ := mb hf
            refine R_iald hc hT rfl hv44 dX12_joins_67 ?_
            refine V_if_le hc dX12_joins_68 rfl (fun hq68 => ?_) (fun hq68 => ?_)
            · rw [if_pos hq68] at hf
              refine V_aload_n hc dX12_joins_87 rfl 0 rfl ?_
              refine R_getr hc 21 rfl (by decide) w6_79 dX12_joins_88 ?_
              refine V_iload_n hc dX12_joins_91 rfl 2 rfl ?_
              obtain ⟨v45, hv45, hf⟩ := mb hf
              refine R_iald hc hT rfl hv45 dX12_joins_92 ?_
              obtain ⟨M46, hv47, hf⟩ := mb hf
              have hJ93 : V E z u (mw h q y M46) 123 [(0, .ref h), (1, .int i1), (2, .int i2)] [] := by
                refine V_iinc hc (j := 1) (v := (i1 + (1 : Int32))) dX12_joins_123 rfl rfl (by decide) rfl ?_
                refine V_iinc hc (j := 2) (v := (i2 + (1 : Int32))) dX12_joins_126 rfl rfl (by decide) rfl ?_
                refine V_goto hc dX12_joins_129 rfl ?_
                exact V_sub [2, 1, 0] rfl (ih _ _ _ hf hx0)
              refine V_if_ne hc dX12_joins_93 rfl (fun hq93 => ?_) (fun hq93 => ?_)
              · rw [if_neg hq93] at hv47
                refine V_aload_n hc dX12_joins_109 rfl 0 rfl ?_
                refine R_getr hc 20 rfl (by decide) w6_78 dX12_joins_110 ?_
                refine V_iload_n hc dX12_joins_113 rfl 1 rfl ?_
                obtain ⟨v48, hv48, hv47⟩ := mb hv47
                refine R_iald hc hT rfl hv48 dX12_joins_114 ?_
                refine V_if_ne hc dX12_joins_115 rfl (fun hq115 => ?_) (fun hq115 => ?_)
                · rw [if_neg hq115] at hv47
                  obtain rfl := Option.some.inj hv47
                  exact V_sub [0, 1, 2] rfl hJ93
                · rw [if_pos hq115] at hv47
                  refine V_aload_n hc dX12_joins_118 rfl 0 rfl ?_
                  refine V_iconst hc (v := (-1 : Int32)) dX12_joins_119 rfl ?_
                  obtain ⟨M49, hM49, hv47⟩ := mb hv47
                  refine R_callVv hc hz (As := [.int (-1 : Int32)]) (c12_givesC l D h q y _ _ _ _ hM49) w7_172 w7_174 wp5_13 w1_13 w7_175 hd12_givesC ⟨Nat.le_of_ble_eq_true rfl, Nat.le_of_ble_eq_true rfl⟩ rfl rfl (Nat.le_of_ble_eq_true rfl) dX12_joins_120 ?_
                  obtain rfl := Option.some.inj hv47
                  exact V_sub [0, 1, 2] rfl hJ93
              · rw [if_pos hq93] at hv47
                refine V_aload_n hc dX12_joins_96 rfl 0 rfl ?_
                refine V_aload_n hc dX12_joins_97 rfl 0 rfl ?_
                refine R_getr hc 20 rfl (by decide) w6_78 dX12_joins_98 ?_
                refine V_iload_n hc dX12_joins_101 rfl 1 rfl ?_
                obtain ⟨v50, hv50, hv47⟩ := mb hv47
                refine R_iald hc hT rfl hv50 dX12_joins_102 ?_
                obtain ⟨M51, hM51, hv47⟩ := mb hv47
                refine R_callVv hc hz (As := [.int v50]) (c12_givesC l D h q y _ _ _ _ hM51) w7_172 w7_174 wp5_13 w1_13 w7_175 hd12_givesC ⟨Nat.le_of_ble_eq_true rfl, Nat.le_of_ble_eq_true rfl⟩ rfl rfl (Nat.le_of_ble_eq_true rfl) dX12_joins_103 ?_
                refine V_goto hc dX12_joins_106 rfl ?_
                obtain rfl := Option.some.inj hv47
                exact V_sub [0, 1, 2] rfl hJ93
            · rw [if_neg hq68] at hf
              refine V_aload_n hc dX12_joins_71 rfl 0 rfl ?_
              refine V_aload_n hc dX12_joins_72 rfl 0 rfl ?_
              refine R_getr hc 21 rfl (by decide) w6_79 dX12_joins_73 ?_
              refine V_iload_n hc dX12_joins_76 rfl 2 rfl ?_
              obtain ⟨v52, hv52, hf⟩ := mb hf
              refine R_iald hc hT rfl hv52 dX12_joins_77 ?_
              obtain ⟨M53, hM53, hf⟩ := mb hf
              refine R_callVv hc hz (As := [.int v52]) (c12_givesC l D h q y _ _ _ _ hM53) w7_172 w7_174 wp5_13 w1_13 w7_175 hd12_givesC ⟨Nat.le_of_ble_eq_true rfl, Nat.le_of_ble_eq_true rfl⟩ rfl rfl (Nat.le_of_ble_eq_true rfl) dX12_joins_78 ?_
              refine V_iinc hc (j := 2) (v := (i2 + (1 : Int32))) dX12_joins_81 rfl rfl (by decide) rfl ?_
              refine V_goto hc dX12_joins_84 rfl ?_
              exact V_sub [1, 2, 0] rfl (ih _ _ _ hf hx0)
        · rw [if_neg hq30] at hf
          refine V_aload_n hc dX12_joins_33 rfl 0 rfl ?_
          refine R_getr hc 20 rfl (by decide) w6_78 dX12_joins_34 ?_
          refine V_iload_n hc dX12_joins_37 rfl 1 rfl ?_
          obtain ⟨v54, hv54, hf⟩ := mb hf
          refine R_iald hc hT rfl hv54 dX12_joins_38 ?_
          refine V_iconst hc (v := (-1 : Int32)) dX12_joins_39 rfl ?_
          refine V_icmp_ne hc dX12_joins_40 rfl (fun hq40 => ?_) (fun hq40 => ?_)
          · rw [if_neg hq40] at hf
            refine V_iload_n hc dX12_joins_54 rfl 2 rfl ?_
            refine V_aload_n hc dX12_joins_55 rfl 0 rfl ?_
            refine R_geti hc 26 rfl (by decide) w6_84 dX12_joins_56 ?_
            refine V_icmp_ge hc dX12_joins_59 rfl (fun hq59 => ?_) (fun hq59 => ?_)
            · rw [if_pos hq59] at hf
              refine V_aload_n hc dX12_joins_87 rfl 0 rfl ?_
              refine R_getr hc 21 rfl (by decide) w6_79 dX12_joins_88 ?_
              refine V_iload_n hc dX12_joins_91 rfl 2 rfl ?_
              obtain ⟨v55, hv55, hf⟩ := mb hf
              refine R_iald hc hT rfl hv55 dX12_joins_92 ?_
              obtain ⟨M56, hv57, hf⟩ := mb hf
              have hJ93 : V E z u (mw h q y M56) 123 [(0, .ref h), (1, .int i1), (2, .int i2)] [] := by
                refine V_iinc hc (j := 1) (v := (i1 + (1 : Int32))) dX12_joins_123 rfl rfl (by decide) rfl ?_
                refine V_iinc hc (j := 2) (v := (i2 + (1 : Int32))) dX12_joins_126 rfl rfl (by decide) rfl ?_
                refine V_goto hc dX12_joins_129 rfl ?_
                exact V_sub [2, 1, 0] rfl (ih _ _ _ hf hx0)
              refine V_if_ne hc dX12_joins_93 rfl (fun hq93 => ?_) (fun hq93 => ?_)
              · rw [if_neg hq93] at hv57
                refine V_aload_n hc dX12_joins_109 rfl 0 rfl ?_
                refine R_getr hc 20 rfl (by decide) w6_78 dX12_joins_110 ?_
                refine V_iload_n hc dX12_joins_113 rfl 1 rfl ?_
                obtain ⟨v58, hv58, hv57⟩ := mb hv57
                refine R_iald hc hT rfl hv58 dX12_joins_114 ?_
                refine V_if_ne hc dX12_joins_115 rfl (fun hq115 => ?_) (fun hq115 => ?_)
                · rw [if_neg hq115] at hv57
                  obtain rfl := Option.some.inj hv57
                  exact V_sub [0, 1, 2] rfl hJ93
                · rw [if_pos hq115] at hv57
                  refine V_aload_n hc dX12_joins_118 rfl 0 rfl ?_
                  refine V_iconst hc (v := (-1 : Int32)) dX12_joins_119 rfl ?_
                  obtain ⟨M59, hM59, hv57⟩ := mb hv57
                  refine R_callVv hc hz (As := [.int (-1 : Int32)]) (c12_givesC l D h q y _ _ _ _ hM59) w7_172 w7_174 wp5_13 w1_13 w7_175 hd12_givesC ⟨Nat.le_of_ble_eq_true rfl, Nat.le_of_ble_eq_true rfl⟩ rfl rfl (Nat.le_of_ble_eq_true rfl) dX12_joins_120 ?_
                  obtain rfl := Option.some.inj hv57
                  exact V_sub [0, 1, 2] rfl hJ93
              · rw [if_pos hq93] at hv57
                refine V_aload_n hc dX12_joins_96 rfl 0 rfl ?_
                refine V_aload_n hc dX12_joins_97 rfl 0 rfl ?_
                refine R_getr hc 20 rfl (by decide) w6_78 dX12_joins_98 ?_
                refine V_iload_n hc dX12_joins_101 rfl 1 rfl ?_
                obtain ⟨v60, hv60, hv57⟩ := mb hv57
                refine R_iald hc hT rfl hv60 dX12_joins_102 ?_
                obtain ⟨M61, hM61, hv57⟩ := mb hv57
                refine R_callVv hc hz (As := [.int v60]) (c12_givesC l D h q y _ _ _ _ hM61) w7_172 w7_174 wp5_13 w1_13 w7_175 hd12_givesC ⟨Nat.le_of_ble_eq_true rfl, Nat.le_of_ble_eq_true rfl⟩ rfl rfl (Nat.le_of_ble_eq_true rfl) dX12_joins_103 ?_
                refine V_goto hc dX12_joins_106 rfl ?_
                obtain rfl := Option.some.inj hv57
                exact V_sub [0, 1, 2] rfl hJ93
            · rw [if_neg hq59] at hf
              refine V_aload_n hc dX12_joins_62 rfl 0 rfl ?_
              refine R_getr hc 21 rfl (by decide) w6_79 dX12_joins_63 ?_
              refine V_iload_n hc dX12_joins_66 rfl 2 rfl ?_
              obtain ⟨v62, hv62, hf⟩ := mb hf
              refine R_iald hc hT rfl hv62 dX12_joins_67 ?_
              refine V_if_le hc dX12_joins_68 rfl (fun hq68 => ?_) (fun hq68 => ?_)
              · rw [if_pos hq68] at hf
                refine V_aload_n hc dX12_joins_87 rfl 0 rfl ?_
                refine R_getr hc 21 rfl (by decide) w6_79 dX12_joins_88 ?_
                refine V_iload_n hc dX12_joins_91 rfl 2 rfl ?_
                obtain ⟨v63, hv63, hf⟩ := mb hf
                refine R_iald hc hT rfl hv63 dX12_joins_92 ?_
                obtain ⟨M64, hv65, hf⟩ := mb hf
                have hJ93 : V E z u (mw h q y M64) 123 [(0, .ref h), (1, .int i1), (2, .int i2)] [] := by
                  refine V_iinc hc (j := 1) (v := (i1 + (1 : Int32))) dX12_joins_123 rfl rfl (by decide) rfl ?_
                  refine V_iinc hc (j := 2) (v := (i2 + (1 : Int32))) dX12_joins_126 rfl rfl (by decide) rfl ?_
                  refine V_goto hc dX12_joins_129 rfl ?_
                  exact V_sub [2, 1, 0] rfl (ih _ _ _ hf hx0)
                refine V_if_ne hc dX12_joins_93 rfl (fun hq93 => ?_) (fun hq93 => ?_)
                · rw [if_neg hq93] at hv65
                  refine V_aload_n hc dX12_joins_109 rfl 0 rfl ?_
                  refine R_getr hc 20 rfl (by decide) w6_78 dX12_joins_110 ?_
                  refine V_iload_n hc dX12_joins_113 rfl 1 rfl ?_
                  obtain ⟨v66, hv66, hv65⟩ := mb hv65
                  refine R_iald hc hT rfl hv66 dX12_joins_114 ?_
                  refine V_if_ne hc dX12_joins_115 rfl (fun hq115 => ?_) (fun hq115 => ?_)
                  · rw [if_neg hq115] at hv65
                    obtain rfl := Option.some.inj hv65
                    exact V_sub [0, 1, 2] rfl hJ93
                  · rw [if_pos hq115] at hv65
                    refine V_aload_n hc dX12_joins_118 rfl 0 rfl ?_
                    refine V_iconst hc (v := (-1 : Int32)) dX12_joins_119 rfl ?_
                    obtain ⟨M67, hM67, hv65⟩ := mb hv65
                    refine R_callVv hc hz (As := [.int (-1 : Int32)]) (c12_givesC l D h q y _ _ _ _ hM67) w7_172 w7_174 wp5_13 w1_13 w7_175 hd12_givesC ⟨Nat.le_of_ble_eq_true rfl, Nat.le_of_ble_eq_true rfl⟩ rfl rfl (Nat.le_of_ble_eq_true rfl) dX12_joins_120 ?_
                    obtain rfl := Option.some.inj hv65
                    exact V_sub [0, 1, 2] rfl hJ93
                · rw [if_pos hq93] at hv65
                  refine V_aload_n hc dX12_joins_96 rfl 0 rfl ?_
                  refine V_aload_n hc dX12_joins_97 rfl 0 rfl ?_
                  refine R_getr hc 20 rfl (by decide) w6_78 dX12_joins_98 ?_
                  refine V_iload_n hc dX12_joins_101 rfl 1 rfl ?_
                  obtain ⟨v68, hv68, hv65⟩ := mb hv65
                  refine R_iald hc hT rfl hv68 dX12_joins_102 ?_
                  obtain ⟨M69, hM69, hv65⟩ := mb hv65
                  refine R_callVv hc hz (As := [.int v68]) (c12_givesC l D h q y _ _ _ _ hM69) w7_172 w7_174 wp5_13 w1_13 w7_175 hd12_givesC ⟨Nat.le_of_ble_eq_true rfl, Nat.le_of_ble_eq_true rfl⟩ rfl rfl (Nat.le_of_ble_eq_true rfl) dX12_joins_103 ?_
                  refine V_goto hc dX12_joins_106 rfl ?_
                  obtain rfl := Option.some.inj hv65
                  exact V_sub [0, 1, 2] rfl hJ93
              · rw [if_neg hq68] at hf
                refine V_aload_n hc dX12_joins_71 rfl 0 rfl ?_
                refine V_aload_n hc dX12_joins_72 rfl 0 rfl ?_
                refine R_getr hc 21 rfl (by decide) w6_79 dX12_joins_73 ?_
                refine V_iload_n hc dX12_joins_76 rfl 2 rfl ?_
                obtain ⟨v70, hv70, hf⟩ := mb hf
                refine R_iald hc hT rfl hv70 dX12_joins_77 ?_
                obtain ⟨M71, hM71, hf⟩ := mb hf
                refine R_callVv hc hz (As := [.int v70]) (c12_givesC l D h q y _ _ _ _ hM71) w7_172 w7_174 wp5_13 w1_13 w7_175 hd12_givesC ⟨Nat.le_of_ble_eq_true rfl, Nat.le_of_ble_eq_true rfl⟩ rfl rfl (Nat.le_of_ble_eq_true rfl) dX12_joins_78 ?_
                refine V_iinc hc (j := 2) (v := (i2 + (1 : Int32))) dX12_joins_81 rfl rfl (by decide) rfl ?_
                refine V_goto hc dX12_joins_84 rfl ?_
                exact V_sub [1, 2, 0] rfl (ih _ _ _ hf hx0)
          · rw [if_pos hq40] at hf
            refine V_aload_n hc dX12_joins_43 rfl 0 rfl ?_
            refine V_iconst hc (v := (-1 : Int32)) dX12_joins_44 rfl ?_
            obtain ⟨M72, hM72, hf⟩ := mb hf
            refine R_callVv hc hz (As := [.int (-1 : Int32)]) (c12_givesC l D h q y _ _ _ _ hM72) w7_172 w7_174 wp5_13 w1_13 w7_175 hd12_givesC ⟨Nat.le_of_ble_eq_true rfl, Nat.le_of_ble_eq_true rfl⟩ rfl rfl (Nat.le_of_ble_eq_true rfl) dX12_joins_45 ?_
            refine V_iinc hc (j := 1) (v := (i1 + (1 : Int32))) dX12_joins_48 rfl rfl (by decide) rfl ?_
            refine V_goto hc dX12_joins_51 rfl ?_
            exact V_sub [1, 0, 2] rfl (ih _ _ _ hf hx0)
set_option maxHeartbeats 4000000 in
set_option maxRecDepth 100000 in
theorem c12_joins (l : Launch) (D : va_G) (h : Nat) (q : Nat → Nat) (y : CyT) (zM uM z u : Nat) {M M' : MS} (hf : f12_joins M = some M') : CT l D y yX12_joins cX12_joins 3 none 1 26 zM uM [.ref h] z u (mw h q y M) z u (mw h q y M') none := by
  refine CT.of (by decide) (Nat.le_of_ble_eq_true rfl) (fun E hc hzz hnm => ?_)
  have hc : Cx E "FarEditorsModel" cX12_joins 3 := hc
  have hz := hzz.1
  have hT := hz.2.2.1
  show V E z u (mw h q y M) 0 [(0, .ref h)] []
  unfold f12_joins at hf
  refine V_iconst hc (v := (0 : Int32)) dX12_joins_0 rfl ?_
  refine V_istore_n hc dX12_joins_1 rfl (by decide) rfl ?_
  refine V_iconst hc (v := (0 : Int32)) dX12_joins_2 rfl ?_
  refine V_istore_n hc dX12_joins_3 rfl (by decide) rfl ?_
  refine V_aload_n hc dX12_joins_4 rfl 2 rfl ?_
  refine V_iconst hc (v := (0 : Int32)) dX12_joins_5 rfl ?_
  refine R_puti hc 27 rfl (by decide) w6_85 rfl rfl rfl dX12_joins_6 ?_
  obtain ⟨M1, hv2, hf⟩ := mb hf
  refine V_sub [2, 1, 0] rfl (L12_joins_9_ok hc hz FU _ _ _ hv2 ?_)
  refine V_aload_n hc dX12_joins_132 rfl 0 rfl ?_
  refine V_aload_n hc dX12_joins_133 rfl 0 rfl ?_
  refine R_getr hc 22 rfl (by decide) w6_80 dX12_joins_134 ?_
  refine V_aload_n hc dX12_joins_137 rfl 0 rfl ?_
  refine R_geti hc 27 rfl (by decide) w6_85 dX12_joins_138 ?_
  obtain ⟨M3, hM3, hf⟩ := mb hf
  refine R_callVv hc hz (As := [.ref (q 22), .int (gF M1 27)]) (c12_settles l D h q y _ _ _ _ rfl hM3) w7_150 w7_152 wp5_9 w1_13 w7_153 hd12_settles ⟨Nat.le_of_ble_eq_true rfl, Nat.le_of_ble_eq_true rfl⟩ rfl rfl (Nat.le_of_ble_eq_true rfl) dX12_joins_141 ?_
  obtain rfl := Option.some.inj hf
  exact V_vret hc hzz rfl rfl rfl rfl dX12_joins_144
noncomputable def L12_inverts_10 (a1 : Nat) : Nat → Int32 → Int32 → MS → Option (MS)
  | 0, _, _, _ => none
  | n + 1, i3, i4, M =>
    if (gF M 25) ≤ i4 then (
      some M
    ) else (
      (ld M 20 i4).bind fun v1 =>
      (
        if v1 = 0 then (
          some (0 : Int32)
        ) else (
          (ld M 20 i4).bind fun v4 =>
          if v4 = (-1 : Int32) then (
            (ld M a1 i3).bind fun v5 =>
            some v5
          ) else (
            some (-1 : Int32)
          )
        )
      ).bind fun v2 =>
      (f12_givesC M v2).bind fun M6 =>
      (ld M6 20 i4).bind fun v7 =>
      (
        if 0 < v7 then (
          some i3
        ) else (
          some (i3 + (1 : Int32))
        )
      ).bind fun x8 =>
      L12_inverts_10 a1 n x8 (i4 + (1 : Int32)) M6
    )
noncomputable def f12_inverts (M : MS) (a1 : Nat) (p2 : Int32) : Option (MS) :=
  (L12_inverts_10 a1 FU p2 (0 : Int32) (sF M 27 (0 : Int32))).bind fun M1 =>
  (f12_settles M1 22 (gF M1 27)).bind fun M3 =>
  some M3
theorem hd12_inverts : yX12_inverts.cls = "FarEditorsModel" ∧ yX12_inverts.cls ≠ "java/lang/invoke/MethodHandle" ∧ yX12_inverts.cls ≠ "java/lang/invoke/VarHandle" ∧ (parseMethodDescriptor yX12_inverts.desc).map (fun d => d.parameters.length) = some 2 := by decide +kernel
set_option maxHeartbeats 4000000 in
set_option maxRecDepth 100000 in
theorem L12_inverts_10_ok {E : CxT} {l : Launch} {D : va_G} {h : Nat} {q : Nat → Nat} {y : CyT} {zM uM z u : Nat} (hc : Cx E "FarEditorsModel" cX12_inverts 5) (hz : Cy E l D y 1 26 zM uM) (a1 : Nat) (ha1 : mKi a1 = 1) : ∀ (n : Nat) (i3 : Int32) (i4 : Int32) (M : MS) {Mo : MS}, L12_inverts_10 a1 n i3 i4 M = some Mo → (hx0 : V E z u (mw h q y Mo) 74 [(0, .ref h)] []) → V E z u (mw h q y M) 10 [(0, .ref h), (1, .ref (q a1)), (3, .int i3), (4, .int i4)] [] := by
  have hT := hz.2.2.1
  intro n
  induction n with
  | zero => intro i3 i4 M Mo hf; cases hf
  | succ n ih =>
    intro i3 i4 M Mo hf hx0
    unfold L12_inverts_10 at hf
    refine V_iload hc dX12_inverts_10 3 rfl ?_
    refine V_aload_n hc dX12_inverts_12 rfl 0 rfl ?_
    refine R_geti hc 25 rfl (by decide) w6_83 dX12_inverts_13 ?_
    refine V_icmp_ge hc dX12_inverts_16 rfl (fun hq16 => ?_) (fun hq16 => ?_)
    · rw [if_pos hq16] at hf
      obtain rfl := Option.some.inj hf
      exact V_sub [0] rfl hx0
    · rw [if_neg hq16] at hf
      refine V_aload_n hc dX12_inverts_19 rfl 0 rfl ?_
      refine V_aload_n hc dX12_inverts_20 rfl 0 rfl ?_
      refine R_getr hc 20 rfl (by decide) w6_78 dX12_inverts_21 ?_
      refine V_iload hc dX12_inverts_24 3 rfl ?_
      obtain ⟨v1, hv1, hf⟩ := mb hf
      refine R_iald hc hT rfl hv1 dX12_inverts_26 ?_
      obtain ⟨v2, hv3, hf⟩ := mb hf
      have hJ27 : V E z u (mw h q y M) 52 [(0, .ref h), (1, .ref (q a1)), (3, .int i3), (4, .int i4)] [.int v2, .ref h] := by
        obtain ⟨M6, hM6, hf⟩ := mb hf
        refine R_callVv hc hz (As := [.int v2]) (c12_givesC l D h q y _ _ _ _ hM6) w7_172 w7_174 wp5_13 w1_13 w7_175 hd12_givesC ⟨Nat.le_of_ble_eq_true rfl, Nat.le_of_ble_eq_true rfl⟩ rfl rfl (Nat.le_of_ble_eq_true rfl) dX12_inverts_52 ?_
        refine V_aload_n hc dX12_inverts_55 rfl 0 rfl ?_
        refine R_getr hc 20 rfl (by decide) w6_78 dX12_inverts_56 ?_
        refine V_iload hc dX12_inverts_59 3 rfl ?_
        obtain ⟨v7, hv7, hf⟩ := mb hf
        refine R_iald hc hT rfl hv7 dX12_inverts_61 ?_
        obtain ⟨x8, hv9, hf⟩ := mb hf
        have hJ62 : V E z u (mw h q y M6) 68 [(0, .ref h), (1, .ref (q a1)), (3, .int x8), (4, .int i4)] [] := by
          refine V_iinc hc (j := 3) (v := (i4 + (1 : Int32))) dX12_inverts_68 rfl rfl (by decide) rfl ?_
          refine V_goto hc dX12_inverts_71 rfl ?_
          exact V_sub [1, 2, 3, 0] rfl (ih _ _ _ hf hx0)
        refine V_if_gt hc dX12_inverts_62 rfl (fun hq62 => ?_) (fun hq62 => ?_)
        · rw [if_pos hq62] at hv9
          obtain rfl := Option.some.inj hv9
          exact V_sub [0, 1, 2, 3] rfl hJ62
        · rw [if_neg hq62] at hv9
          refine V_iinc hc (j := 2) (v := (i3 + (1 : Int32))) dX12_inverts_65 rfl rfl (by decide) rfl ?_
          obtain rfl := Option.some.inj hv9
          exact V_sub [1, 2, 0, 3] rfl hJ62
      refine V_if_ne hc dX12_inverts_27 rfl (fun hq27 => ?_) (fun hq27 => ?_)
      · rw [if_neg hq27] at hv3
        refine V_aload_n hc dX12_inverts_34 rfl 0 rfl ?_
        refine R_getr hc 20 rfl (by decide) w6_78 dX12_inverts_35 ?_
        refine V_iload hc dX12_inverts_38 3 rfl ?_
        obtain ⟨v4, hv4, hv3⟩ := mb hv3
        refine R_iald hc hT rfl hv4 dX12_inverts_40 ?_
        refine V_iconst hc (v := (-1 : Int32)) dX12_inverts_41 rfl ?_
        refine V_icmp_ne hc dX12_inverts_42 rfl (fun hq42 => ?_) (fun hq42 => ?_)
        · rw [if_neg hq42] at hv3
          refine V_iconst hc (v := (-1 : Int32)) dX12_inverts_51 rfl ?_
          obtain rfl := Option.some.inj hv3
          exact V_sub [0, 1, 2, 3] rfl hJ27
        · rw [if_pos hq42] at hv3
          refine V_aload_n hc dX12_inverts_45 rfl 1 rfl ?_
          refine V_iload_n hc dX12_inverts_46 rfl 2 rfl ?_
          obtain ⟨v5, hv5, hv3⟩ := mb hv3
          refine R_iald hc hT ha1 hv5 dX12_inverts_47 ?_
          refine V_goto hc dX12_inverts_48 rfl ?_
          obtain rfl := Option.some.inj hv3
          exact V_sub [0, 1, 2, 3] rfl hJ27
      · rw [if_pos hq27] at hv3
        refine V_iconst hc (v := (0 : Int32)) dX12_inverts_30 rfl ?_
        refine V_goto hc dX12_inverts_31 rfl ?_
        obtain rfl := Option.some.inj hv3
        exact V_sub [0, 1, 2, 3] rfl hJ27
set_option maxHeartbeats 4000000 in
set_option maxRecDepth 100000 in
theorem c12_inverts (l : Launch) (D : va_G) (h : Nat) (q : Nat → Nat) (y : CyT) (zM uM z u : Nat) {M M' : MS} {a1 : Nat} {p2 : Int32} (ha1 : mKi a1 = 1) (hf : f12_inverts M a1 p2 = some M') : CT l D y yX12_inverts cX12_inverts 5 none 1 26 zM uM [.ref h, .ref (q a1), .int p2] z u (mw h q y M) z u (mw h q y M') none := by
  refine CT.of (by decide) (Nat.le_of_ble_eq_true rfl) (fun E hc hzz hnm => ?_)
  have hc : Cx E "FarEditorsModel" cX12_inverts 5 := hc
  have hz := hzz.1
  have hT := hz.2.2.1
  show V E z u (mw h q y M) 0 [(0, .ref h), (1, .ref (q a1)), (2, .int p2)] []
  unfold f12_inverts at hf
  refine V_iload_n hc dX12_inverts_0 rfl 2 rfl ?_
  refine V_istore_n hc dX12_inverts_1 rfl (by decide) rfl ?_
  refine V_aload_n hc dX12_inverts_2 rfl 1 rfl ?_
  refine V_iconst hc (v := (0 : Int32)) dX12_inverts_3 rfl ?_
  refine R_puti hc 27 rfl (by decide) w6_85 rfl rfl rfl dX12_inverts_4 ?_
  refine V_iconst hc (v := (0 : Int32)) dX12_inverts_7 rfl ?_
  refine V_istore hc dX12_inverts_8 (by decide) rfl ?_
  obtain ⟨M1, hv2, hf⟩ := mb hf
  refine V_sub [2, 3, 1, 0] rfl (L12_inverts_10_ok hc hz a1 ha1 FU _ _ _ hv2 ?_)
  refine V_aload_n hc dX12_inverts_74 rfl 0 rfl ?_
  refine V_aload_n hc dX12_inverts_75 rfl 0 rfl ?_
  refine R_getr hc 22 rfl (by decide) w6_80 dX12_inverts_76 ?_
  refine V_aload_n hc dX12_inverts_79 rfl 0 rfl ?_
  refine R_geti hc 27 rfl (by decide) w6_85 dX12_inverts_80 ?_
  obtain ⟨M3, hM3, hf⟩ := mb hf
  refine R_callVv hc hz (As := [.ref (q 22), .int (gF M1 27)]) (c12_settles l D h q y _ _ _ _ rfl hM3) w7_150 w7_152 wp5_9 w1_13 w7_153 hd12_settles ⟨Nat.le_of_ble_eq_true rfl, Nat.le_of_ble_eq_true rfl⟩ rfl rfl (Nat.le_of_ble_eq_true rfl) dX12_inverts_83 ?_
  obtain rfl := Option.some.inj hf
  exact V_vret hc hzz rfl rfl rfl rfl dX12_inverts_86
noncomputable def L12_takesCAsA_10 : Nat → Int32 → MS → Option (MS)
  | 0, _, _ => none
  | n + 1, i1, M =>
    if (gF M 27) ≤ i1 then (
      some M
    ) else (
      (ld M 22 i1).bind fun v1 =>
      (sd M 20 i1 v1).bind fun M2 =>
      L12_takesCAsA_10 n (i1 + (1 : Int32)) M2
    )
noncomputable def f12_takesCAsA (M : MS) : Option (MS) :=
  (L12_takesCAsA_10 FU (0 : Int32) (sF M 25 (gF M 27))).bind fun M1 =>
  some M1
theorem hd12_takesCAsA : yX12_takesCAsA.cls = "FarEditorsModel" ∧ yX12_takesCAsA.cls ≠ "java/lang/invoke/MethodHandle" ∧ yX12_takesCAsA.cls ≠ "java/lang/invoke/VarHandle" ∧ (parseMethodDescriptor yX12_takesCAsA.desc).map (fun d => d.parameters.length) = some 0 := by decide +kernel
set_option maxHeartbeats 4000000 in
set_option maxRecDepth 100000 in
theorem L12_takesCAsA_10_ok {E : CxT} {l : Launch} {D : va_G} {h : Nat} {q : Nat → Nat} {y : CyT} {zM uM z u : Nat} (hc : Cx E "FarEditorsModel" cX12_takesCAsA 2) (hz : Cy E l D y 0 0 zM uM) : ∀ (n : Nat) (i1 : Int32) (M : MS) {Mo : MS}, L12_takesCAsA_10 n i1 M = some Mo → (hx0 : V E z u (mw h q y Mo) 36 [] []) → V E z u (mw h q y M) 10 [(0, .ref h), (1, .int i1)] [] := by
  have hT := hz.2.2.1
  intro n
  induction n with
  | zero => intro i1 M Mo hf; cases hf
  | succ n ih =>
    intro i1 M Mo hf hx0
    unfold L12_takesCAsA_10 at hf
    refine V_iload_n hc dX12_takesCAsA_10 rfl 1 rfl ?_
    refine V_aload_n hc dX12_takesCAsA_11 rfl 0 rfl ?_
    refine R_geti hc 27 rfl (by decide) w6_85 dX12_takesCAsA_12 ?_
    refine V_icmp_ge hc dX12_takesCAsA_15 rfl (fun hq15 => ?_) (fun hq15 => ?_)
    · rw [if_pos hq15] at hf
      obtain rfl := Option.some.inj hf
      exact V_sub [] rfl hx0
    · rw [if_neg hq15] at hf
      refine V_aload_n hc dX12_takesCAsA_18 rfl 0 rfl ?_
      refine R_getr hc 20 rfl (by decide) w6_78 dX12_takesCAsA_19 ?_
      refine V_iload_n hc dX12_takesCAsA_22 rfl 1 rfl ?_
      refine V_aload_n hc dX12_takesCAsA_23 rfl 0 rfl ?_
      refine R_getr hc 22 rfl (by decide) w6_80 dX12_takesCAsA_24 ?_
      refine V_iload_n hc dX12_takesCAsA_27 rfl 1 rfl ?_
      obtain ⟨v1, hv1, hf⟩ := mb hf
      refine R_iald hc hT rfl hv1 dX12_takesCAsA_28 ?_
      obtain ⟨M2, hM2, hf⟩ := mb hf
      refine R_iast hc hT rfl hM2 dX12_takesCAsA_29 ?_
      refine V_iinc hc (j := 1) (v := (i1 + (1 : Int32))) dX12_takesCAsA_30 rfl rfl (by decide) rfl ?_
      refine V_goto hc dX12_takesCAsA_33 rfl ?_
      exact V_sub [1, 0] rfl (ih _ _ hf hx0)
set_option maxHeartbeats 4000000 in
set_option maxRecDepth 100000 in
theorem c12_takesCAsA (l : Launch) (D : va_G) (h : Nat) (q : Nat → Nat) (y : CyT) (zM uM z u : Nat) {M M' : MS} (hf : f12_takesCAsA M = some M') : CT l D y yX12_takesCAsA cX12_takesCAsA 2 none 0 0 zM uM [.ref h] z u (mw h q y M) z u (mw h q y M') none := by
  refine CT.of (by decide) (Nat.le_of_ble_eq_true rfl) (fun E hc hzz hnm => ?_)
  have hc : Cx E "FarEditorsModel" cX12_takesCAsA 2 := hc
  have hz := hzz.1
  have hT := hz.2.2.1
  show V E z u (mw h q y M) 0 [(0, .ref h)] []
  unfold f12_takesCAsA at hf
  refine V_aload_n hc dX12_takesCAsA_0 rfl 0 rfl ?_
  refine V_aload_n hc dX12_takesCAsA_1 rfl 0 rfl ?_
  refine R_geti hc 27 rfl (by decide) w6_85 dX12_takesCAsA_2 ?_
  refine R_puti hc 25 rfl (by decide) w6_83 rfl rfl rfl dX12_takesCAsA_5 ?_
  refine V_iconst hc (v := (0 : Int32)) dX12_takesCAsA_8 rfl ?_
  refine V_istore_n hc dX12_takesCAsA_9 rfl (by decide) rfl ?_
  obtain ⟨M1, hv2, hf⟩ := mb hf
  refine V_sub [1, 0] rfl (L12_takesCAsA_10_ok hc hz FU _ _ hv2 ?_)
  obtain rfl := Option.some.inj hf
  exact V_vret hc hzz rfl rfl rfl rfl dX12_takesCAsA_36
