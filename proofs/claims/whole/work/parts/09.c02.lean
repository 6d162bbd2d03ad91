noncomputable def f4_swap (S : CS) (h : Nat) (p1 : Nat) : Option (CS) :=
  (gr S 4 h 0).bind fun a1 =>
  (gi S 4 h 1).bind fun v2 =>
  (gr S 4 p1 0).bind fun a3 =>
  (pr S 4 h 0 a3).bind fun S4 =>
  (gi S4 4 p1 1).bind fun v5 =>
  (pi S4 4 h 1 v5).bind fun S6 =>
  (pr S6 4 p1 0 a1).bind fun S7 =>
  (pi S7 4 p1 1 v2).bind fun S8 =>
  some S8
theorem hdX_X4_swap : yX4_swap.cls = "FarEditors$Op" ∧ yX4_swap.cls ≠ "java/lang/invoke/MethodHandle" ∧ yX4_swap.cls ≠ "java/lang/invoke/VarHandle" ∧ (parseMethodDescriptor yX4_swap.desc).map (fun d => d.parameters.length) = some 1 := by decide +kernel
set_option maxHeartbeats 4000000 in
set_option maxRecDepth 100000 in
theorem c4_swap (l : Launch) (D : va_G) (y : CyT) (zM uM : Nat) {S S' : CS} {h : Nat} {p1 : Nat} (hf : f4_swap S h p1 = some S') : CT l D y yX4_swap cX4_swap 4 none 0 0 zM uM [.ref h, .ref p1] (cZ S) (cU S) (cw y S) (cZ S') (cU S') (cw y S') none := by
  refine CT.of (by decide) (Nat.le_of_ble_eq_true rfl) (fun E hc hzz hnm => ?_)
  have hc : Cx E "FarEditors$Op" cX4_swap 4 := hc
  have hz := hzz.1
  have hT := hz.2.2.1
  show V E (cZ S) (cU S) (cw y S) 0 [(0, .ref h), (1, .ref p1)] []
  unfold f4_swap at hf
  refine V_aload_n hc dX4_swap_0 rfl 0 rfl ?_
  obtain ⟨a1, ha1, hf⟩ := mb hf
  refine C_getr hc rfl iW4 (by decide) 0 (by decide) rfl ha1 w1_101 dX4_swap_1 ?_
  refine V_astore_n hc dX4_swap_4 rfl (by decide) rfl ?_
  refine V_aload_n hc dX4_swap_5 rfl 1 rfl ?_
  obtain ⟨v2, hv2, hf⟩ := mb hf
  refine C_geti hc rfl iW4 (by decide) 1 (by decide) rfl hv2 w1_105 dX4_swap_6 ?_
  refine V_istore_n hc dX4_swap_9 rfl (by decide) rfl ?_
  refine V_aload_n hc dX4_swap_10 rfl 2 rfl ?_
  refine V_aload_n hc dX4_swap_11 rfl 3 rfl ?_
  obtain ⟨a3, ha3, hf⟩ := mb hf
  refine C_getr hc rfl iW4 (by decide) 0 (by decide) rfl ha3 w1_101 dX4_swap_12 ?_
  obtain ⟨S4, hS4, hf⟩ := mb hf
  refine C_putr hc rfl iW4 tyX4 tyX4_ok nmX4 (by decide) 0 (by decide) rfl hS4 w1_101 rfl rfl rfl dX4_swap_15 ?_
  refine V_aload_n hc dX4_swap_18 rfl 2 rfl ?_
  refine V_aload_n hc dX4_swap_19 rfl 3 rfl ?_
  obtain ⟨v5, hv5, hf⟩ := mb hf
  refine C_geti hc rfl iW4 (by decide) 1 (by decide) rfl hv5 w1_105 dX4_swap_20 ?_
  obtain ⟨S6, hS6, hf⟩ := mb hf
  refine C_puti hc rfl iW4 tyX4 tyX4_ok nmX4 (by decide) 1 (by decide) rfl hS6 w1_105 rfl rfl rfl dX4_swap_23 ?_
  refine V_aload_n hc dX4_swap_26 rfl 3 rfl ?_
  refine V_aload_n hc dX4_swap_27 rfl 1 rfl ?_
  obtain ⟨S7, hS7, hf⟩ := mb hf
  refine C_putr hc rfl iW4 tyX4 tyX4_ok nmX4 (by decide) 0 (by decide) rfl hS7 w1_101 rfl rfl rfl dX4_swap_28 ?_
  refine V_aload_n hc dX4_swap_31 rfl 3 rfl ?_
  refine V_iload_n hc dX4_swap_32 rfl 0 rfl ?_
  obtain ⟨S8, hS8, hf⟩ := mb hf
  refine C_puti hc rfl iW4 tyX4 tyX4_ok nmX4 (by decide) 1 (by decide) rfl hS8 w1_105 rfl rfl rfl dX4_swap_33 ?_
  obtain rfl := Option.some.inj hf
  exact V_vret hc hzz rfl rfl rfl rfl dX4_swap_36
noncomputable def LX9_turn_48 (h : Nat) (c1 : Nat) (c2 : Nat) (c3 : Int32) (c4 : Int32) : Nat → Int32 → CS → Option (CS)
  | 0, _, _ => none
  | n + 1, i5, S =>
    if c4 ≤ i5 then (
      some S
    ) else (
      (gr S 9 h 0).bind fun a1 =>
      (cal S 5 a1 (f5_isAtPut S a1)).bind fun v2 =>
      (
        if v2 = 0 then (
          (gr S 9 h 1).bind fun a5 =>
          (cal S 5 a5 (f5_isAtPut S a5)).bind fun v6 =>
          if v6 = 0 then (
            (cal S 9 h (f9_turnCommon S h)).bind fun S7 =>
            some S7
          ) else (
            (gr S 9 h 3).bind fun a8 =>
            (gr S 9 h 1).bind fun a9 =>
            (gi S 5 a9 2).bind fun v10 =>
            (cal S 4 a8 (f4_addPut S a8 v10)).bind fun S11 =>
            (gr S11 9 h 2).bind fun a12 =>
            (cal S11 4 a12 (f4_addKeep S11 a12 (1 : Int32))).bind fun S13 =>
            (gr S13 9 h 1).bind fun a14 =>
            (cal S13 5 a14 (f5_pass S13 a14 (1 : Int32))).bind fun S15 =>
            some S15
          )
        ) else (
          if c3 = 0 then (
            (gr S 9 h 1).bind fun a24 =>
            (cal S 5 a24 (f5_isAtPut S a24)).bind fun v25 =>
            if v25 = 0 then (
              (gr S 9 h 2).bind fun a37 =>
              (gr S 9 h 0).bind fun a38 =>
              (gi S 5 a38 2).bind fun v39 =>
              (cal S 4 a37 (f4_addPut S a37 v39)).bind fun S40 =>
              (gr S40 9 h 3).bind fun a41 =>
              (cal S40 4 a41 (f4_addKeep S40 a41 (1 : Int32))).bind fun S42 =>
              (gr S42 9 h 0).bind fun a43 =>
              (cal S42 5 a43 (f5_pass S42 a43 (1 : Int32))).bind fun S44 =>
              some S44
            ) else (
              (gr S 9 h 1).bind fun a26 =>
              (cal S 5 a26 (f5_isAtPut S a26)).bind fun v27 =>
              if v27 = 0 then (
                (cal S 9 h (f9_turnCommon S h)).bind fun S28 =>
                some S28
              ) else (
                (gr S 9 h 3).bind fun a29 =>
                (gr S 9 h 1).bind fun a30 =>
                (gi S 5 a30 2).bind fun v31 =>
                (cal S 4 a29 (f4_addPut S a29 v31)).bind fun S32 =>
                (gr S32 9 h 2).bind fun a33 =>
                (cal S32 4 a33 (f4_addKeep S32 a33 (1 : Int32))).bind fun S34 =>
                (gr S34 9 h 1).bind fun a35 =>
                (cal S34 5 a35 (f5_pass S34 a35 (1 : Int32))).bind fun S36 =>
                some S36
              )
            )
          ) else (
            (gr S 9 h 2).bind fun a16 =>
            (gr S 9 h 0).bind fun a17 =>
            (gi S 5 a17 2).bind fun v18 =>
            (cal S 4 a16 (f4_addPut S a16 v18)).bind fun S19 =>
            (gr S19 9 h 3).bind fun a20 =>
            (cal S19 4 a20 (f4_addKeep S19 a20 (1 : Int32))).bind fun S21 =>
            (gr S21 9 h 0).bind fun a22 =>
            (cal S21 5 a22 (f5_pass S21 a22 (1 : Int32))).bind fun S23 =>
            some S23
          )
        )
      ).bind fun S3 =>
      LX9_turn_48 h c1 c2 c3 c4 n (i5 + (1 : Int32)) S3
    )
noncomputable def f9_turn (X : Nat × Nat) (S : CS) (h : Nat) (p1 : Nat) (p2 : Nat) (p3 : Int32) : Option (CS) :=
  (gi S 4 p1 1).bind fun v1 =>
  (gi S 4 p2 1).bind fun v2 =>
  (gr S 9 h 2).bind fun a3 =>
  (cal S 4 a3 (f4_begin X S a3 (v1 + v2))).bind fun S4 =>
  (gr S4 9 h 3).bind fun a5 =>
  (cal S4 4 a5 (f4_begin X S4 a5 (v1 + v2))).bind fun S6 =>
  (gr S6 9 h 0).bind fun a7 =>
  (cal S6 5 a7 (f5_open S6 a7 p1)).bind fun S8 =>
  (gr S8 9 h 1).bind fun a9 =>
  (cal S8 5 a9 (f5_open S8 a9 p2)).bind fun S10 =>
  (LX9_turn_48 h p1 p2 p3 (v1 + v2) FU (0 : Int32) S10).bind fun S11 =>
  (gr S11 9 h 2).bind fun a13 =>
  (cal S11 4 p1 (f4_swap S11 p1 a13)).bind fun S14 =>
  (gr S14 9 h 3).bind fun a15 =>
  (cal S14 4 p2 (f4_swap S14 p2 a15)).bind fun S16 =>
  some S16
theorem hdX_X9_turn : yX9_turn.cls = "FarEditors$Weaver" ∧ yX9_turn.cls ≠ "java/lang/invoke/MethodHandle" ∧ yX9_turn.cls ≠ "java/lang/invoke/VarHandle" ∧ (parseMethodDescriptor yX9_turn.desc).map (fun d => d.parameters.length) = some 3 := by decide +kernel
set_option maxHeartbeats 4000000 in
set_option maxRecDepth 100000 in
theorem LX9_turn_48_ok {E : CxT} {l : Launch} {D : va_G} {y : CyT} {zM uM : Nat} (hc : Cx E "FarEditors$Weaver" cX9_turn 6) (h : Nat) (c1 : Nat) (c2 : Nat) (c3 : Int32) (c4 : Int32) (hz : Cy E l D y 2 44 zM uM) : ∀ (n : Nat) (i5 : Int32) (S : CS) {So : CS}, LX9_turn_48 h c1 c2 c3 c4 n i5 S = some So → (hx0 : V E (cZ So) (cU So) (cw y So) 165 [(0, .ref h), (1, .ref c1), (2, .ref c2)] []) → V E (cZ S) (cU S) (cw y S) 48 [(0, .ref h), (1, .ref c1), (2, .ref c2), (3, .int c3), (4, .int c4), (5, .int i5)] [] := by
  have hT := hz.2.2.1
  intro n
  induction n with
  | zero => intro i5 S So hf; cases hf
  | succ n ih =>
    intro i5 S So hf hx0
    unfold LX9_turn_48 at hf
    refine V_iload hc dX9_turn_48 5 rfl ?_
    refine V_iload hc dX9_turn_50 4 rfl ?_
    refine V_icmp_ge hc dX9_turn_52 rfl (fun hq52 => ?_) (fun hq52 => ?_)
    · rw [if_pos hq52] at hf
      obtain rfl := Option.some.inj hf
      exact V_sub [0, 1, 2] rfl hx0
    · rw [if_neg hq52] at hf
      refine V_aload_n hc dX9_turn_55 rfl 0 rfl ?_
      obtain ⟨a1, ha1, hf⟩ := mb hf
      refine C_getr hc rfl iW9 (by decide) 0 (by decide) rfl ha1 w1_131 dX9_turn_56 ?_
      obtain ⟨v2, hv2, hf⟩ := mb hf
      obtain ⟨hkv2, hv2⟩ := og hv2
      refine C_callV hc hz (As := []) hkv2 (by decide) (c5_isAtPut l D y _ _ hv2) w4_35 w4_36 w4_37 w1_4 w4_38 hdX_X5_isAtPut ⟨(Nat.le_of_ble_eq_true rfl), (Nat.le_of_ble_eq_true rfl)⟩ rfl rfl rfl (Nat.le_of_ble_eq_true rfl) dX9_turn_59 ?_
      obtain ⟨S3, hv4, hf⟩ := mb hf
      have hJ62 : V E (cZ S3) (cU S3) (cw y S3) 159 [(0, .ref h), (1, .ref c1), (2, .ref c2), (3, .int c3), (4, .int c4), (5, .int i5)] [] := by
        refine V_iinc hc (j := 5) (v := (i5 + (1 : Int32))) dX9_turn_159 rfl rfl (by decide) rfl ?_
        refine V_goto hc dX9_turn_162 rfl ?_
        exact V_sub [1, 2, 3, 4, 5, 0] rfl (ih _ _ hf hx0)
      refine V_if_eq hc dX9_turn_62 rfl (fun hq62 => ?_) (fun hq62 => ?_)
      · rw [if_pos hq62] at hv4
        refine V_aload_n hc dX9_turn_112 rfl 0 rfl ?_
        obtain ⟨a5, ha5, hv4⟩ := mb hv4
        refine C_getr hc rfl iW9 (by decide) 1 (by decide) rfl ha5 w1_132 dX9_turn_113 ?_
        obtain ⟨v6, hv6, hv4⟩ := mb hv4
        obtain ⟨hkv6, hv6⟩ := og hv6
        refine C_callV hc hz (As := []) hkv6 (by decide) (c5_isAtPut l D y _ _ hv6) w4_35 w4_36 w4_37 w1_4 w4_38 hdX_X5_isAtPut ⟨(Nat.le_of_ble_eq_true rfl), (Nat.le_of_ble_eq_true rfl)⟩ rfl rfl rfl (Nat.le_of_ble_eq_true rfl) dX9_turn_116 ?_
        refine V_if_eq hc dX9_turn_119 rfl (fun hq119 => ?_) (fun hq119 => ?_)
        · rw [if_pos hq119] at hv4
          refine V_aload_n hc dX9_turn_155 rfl 0 rfl ?_
          obtain ⟨S7, hS7, hv4⟩ := mb hv4
          obtain ⟨hkS7, hS7⟩ := og hS7
          refine C_callV hc hz (As := []) hkS7 (by decide) (c9_turnCommon l D y _ _ hS7) w4_48 w4_50 wp2_12 w1_3 w4_51 hdX_X9_turnCommon ⟨(Nat.le_of_ble_eq_true rfl), (Nat.le_of_ble_eq_true rfl)⟩ rfl rfl rfl (Nat.le_of_ble_eq_true rfl) dX9_turn_156 ?_
          obtain rfl := Option.some.inj hv4
          exact V_sub [0, 1, 2, 3, 4, 5] rfl hJ62
        · rw [if_neg hq119] at hv4
          refine V_aload_n hc dX9_turn_122 rfl 0 rfl ?_
          obtain ⟨a8, ha8, hv4⟩ := mb hv4
          refine C_getr hc rfl iW9 (by decide) 3 (by decide) rfl ha8 w1_134 dX9_turn_123 ?_
          refine V_aload_n hc dX9_turn_126 rfl 0 rfl ?_
          obtain ⟨a9, ha9, hv4⟩ := mb hv4
          refine C_getr hc rfl iW9 (by decide) 1 (by decide) rfl ha9 w1_132 dX9_turn_127 ?_
          obtain ⟨v10, hv10, hv4⟩ := mb hv4
          refine C_geti hc rfl iW5 (by decide) 2 (by decide) rfl hv10 w1_117 dX9_turn_130 ?_
          obtain ⟨S11, hS11, hv4⟩ := mb hv4
          obtain ⟨hkS11, hS11⟩ := og hS11
          refine C_callV hc hz (As := [.int v10]) hkS11 (by decide) (c4_addPut l D y _ _ hS11) w4_39 w4_40 w4_41 w1_5 w4_42 hdX_X4_addPut ⟨(Nat.le_of_ble_eq_true rfl), (Nat.le_of_ble_eq_true rfl)⟩ rfl rfl rfl (Nat.le_of_ble_eq_true rfl) dX9_turn_133 ?_
          refine V_aload_n hc dX9_turn_136 rfl 0 rfl ?_
          obtain ⟨a12, ha12, hv4⟩ := mb hv4
          refine C_getr hc rfl iW9 (by decide) 2 (by decide) rfl ha12 w1_133 dX9_turn_137 ?_
          refine V_iconst hc (v := (1 : Int32)) dX9_turn_140 rfl ?_
          obtain ⟨S13, hS13, hv4⟩ := mb hv4
          obtain ⟨hkS13, hS13⟩ := og hS13
          refine C_callV hc hz (As := [.int (1 : Int32)]) hkS13 (by decide) (c4_addKeep l D y _ _ hS13) w4_43 w4_44 w4_45 w1_5 w4_46 hdX_X4_addKeep ⟨(Nat.le_of_ble_eq_true rfl), (Nat.le_of_ble_eq_true rfl)⟩ rfl rfl rfl (Nat.le_of_ble_eq_true rfl) dX9_turn_141 ?_
          refine V_aload_n hc dX9_turn_144 rfl 0 rfl ?_
          obtain ⟨a14, ha14, hv4⟩ := mb hv4
          refine C_getr hc rfl iW9 (by decide) 1 (by decide) rfl ha14 w1_132 dX9_turn_145 ?_
          refine V_iconst hc (v := (1 : Int32)) dX9_turn_148 rfl ?_
          obtain ⟨S15, hS15, hv4⟩ := mb hv4
          obtain ⟨hkS15, hS15⟩ := og hS15
          refine C_callV hc hz (As := [.int (1 : Int32)]) hkS15 (by decide) (c5_pass l D y _ _ hS15) w4_47 w4_32 w4_33 w1_4 w4_34 hdX_X5_pass ⟨(Nat.le_of_ble_eq_true rfl), (Nat.le_of_ble_eq_true rfl)⟩ rfl rfl rfl (Nat.le_of_ble_eq_true rfl) dX9_turn_149 ?_
          refine V_goto hc dX9_turn_152 rfl ?_
          obtain rfl := Option.some.inj hv4
          exact V_sub [0, 1, 2, 3, 4, 5] rfl hJ62
      · rw [if_neg hq62] at hv4
        refine V_iload_n hc dX9_turn_65 rfl 3 rfl ?_
        refine V_if_ne hc dX9_turn_66 rfl (fun hq66 => ?_) (fun hq66 => ?_)
        · rw [if_neg hq66] at hv4
          refine V_aload_n hc dX9_turn_79 rfl 0 rfl ?_
          obtain ⟨a16, ha16, hv4⟩ := mb hv4
          refine C_getr hc rfl iW9 (by decide) 2 (by decide) rfl ha16 w1_133 dX9_turn_80 ?_
          refine V_aload_n hc dX9_turn_83 rfl 0 rfl ?_
          obtain ⟨a17, ha17, hv4⟩ := mb hv4
          refine C_getr hc rfl iW9 (by decide) 0 (by decide) rfl ha17 w1_131 dX9_turn_84 ?_
          obtain ⟨v18, hv18, hv4⟩ := mb hv4
          refine C_geti hc rfl iW5 (by decide) 2 (by decide) rfl hv18 w1_117 dX9_turn_87 ?_
          obtain ⟨S19, hS19, hv4⟩ := mb hv4
          obtain ⟨hkS19, hS19⟩ := og hS19
          refine C_callV hc hz (As := [.int v18]) hkS19 (by decide) (c4_addPut l D y _ _ hS19) w4_39 w4_40 w4_41 w1_5 w4_42 hdX_X4_addPut ⟨(Nat.le_of_ble_eq_true rfl), (Nat.le_of_ble_eq_true rfl)⟩ rfl rfl rfl (Nat.le_of_ble_eq_true rfl) dX9_turn_90 ?_
          refine V_aload_n hc dX9_turn_93 rfl 0 rfl ?_
          obtain ⟨a20, ha20, hv4⟩ := mb hv4
          refine C_getr hc rfl iW9 (by decide) 3 (by decide) rfl ha20 w1_134 dX9_turn_94 ?_
          refine V_iconst hc (v := (1 : Int32)) dX9_turn_97 rfl ?_
          obtain ⟨S21, hS21, hv4⟩ := mb hv4
          obtain ⟨hkS21, hS21⟩ := og hS21
          refine C_callV hc hz (As := [.int (1 : Int32)]) hkS21 (by decide) (c4_addKeep l D y _ _ hS21) w4_43 w4_44 w4_45 w1_5 w4_46 hdX_X4_addKeep ⟨(Nat.le_of_ble_eq_true rfl), (Nat.le_of_ble_eq_true rfl)⟩ rfl rfl rfl (Nat.le_of_ble_eq_true rfl) dX9_turn_98 ?_
          refine V_aload_n hc dX9_turn_101 rfl 0 rfl ?_
          obtain ⟨a22, ha22, hv4⟩ := mb hv4
          refine C_getr hc rfl iW9 (by decide) 0 (by decide) rfl ha22 w1_131 dX9_turn_102 ?_
          refine V_iconst hc (v := (1 : Int32)) dX9_turn_105 rfl ?_
          obtain ⟨S23, hS23, hv4⟩ := mb hv4
          obtain ⟨hkS23, hS23⟩ := og hS23
          refine C_callV hc hz (As := [.int (1 : Int32)]) hkS23 (by decide) (c5_pass l D y _ _ hS23) w4_47 w4_32 w4_33 w1_4 w4_34 hdX_X5_pass ⟨(Nat.le_of_ble_eq_true rfl), (Nat.le_of_ble_eq_true rfl)⟩ rfl rfl rfl (Nat.le_of_ble_eq_true rfl) dX9_turn_106 ?_
          refine V_goto hc dX9_turn_109 rfl ?_
          obtain rfl := Option.some.inj hv4
          exact V_sub [0, 1, 2, 3, 4, 5] rfl hJ62
        · rw [if_pos hq66] at hv4
          refine V_aload_n hc dX9_turn_69 rfl 0 rfl ?_
          obtain ⟨a24, ha24, hv4⟩ := mb hv4
          refine C_getr hc rfl iW9 (by decide) 1 (by decide) rfl ha24 w1_132 dX9_turn_70 ?_
          obtain ⟨v25, hv25, hv4⟩ := mb hv4
          obtain ⟨hkv25, hv25⟩ := og hv25
          refine C_callV hc hz (As := []) hkv25 (by decide) (c5_isAtPut l D y _ _ hv25) w4_35 w4_36 w4_37 w1_4 w4_38 hdX_X5_isAtPut ⟨(Nat.le_of_ble_eq_true rfl), (Nat.le_of_ble_eq_true rfl)⟩ rfl rfl rfl (Nat.le_of_ble_eq_true rfl) dX9_turn_73 ?_
          refine V_if_ne hc dX9_turn_76 rfl (fun hq76 => ?_) (fun hq76 => ?_)
          · rw [if_neg hq76] at hv4
            refine V_aload_n hc dX9_turn_112 rfl 0 rfl ?_
            obtain ⟨a26, ha26, hv4⟩ := mb hv4
            refine C_getr hc rfl iW9 (by decide) 1 (by decide) rfl ha26 w1_132 dX9_turn_113 ?_
            obtain ⟨v27, hv27, hv4⟩ := mb hv4
            obtain ⟨hkv27, hv27⟩ := og hv27
            refine C_callV hc hz (As := []) hkv27 (by decide) (c5_isAtPut l D y _ _ hv27) w4_35 w4_36 w4_37 w1_4 w4_38 hdX_X5_isAtPut ⟨(Nat.le_of_ble_eq_true rfl), (Nat.le_of_ble_eq_true rfl)⟩ rfl rfl rfl (Nat.le_of_ble_eq_true rfl) dX9_turn_116 ?_
            refine V_if_eq hc dX9_turn_119 rfl (fun hq119 => ?_) (fun hq119 => ?_)
            · rw [if_pos hq119] at hv4
              refine V_aload_n hc dX9_turn_155 rfl 0 rfl ?_
              obtain ⟨S28, hS28, hv4⟩ := mb hv4
              obtain ⟨hkS28, hS28⟩ := og hS28
              refine C_callV hc hz (As := []) hkS28 (by decide) (c9_turnCommon l D y _ _ hS28) w4_48 w4_50 wp2_12 w1_3 w4_51 hdX_X9_turnCommon ⟨(Nat.le_of_ble_eq_true rfl), (Nat.le_of_ble_eq_true rfl)⟩ rfl rfl rfl (Nat.le_of_ble_eq_true rfl) dX9_turn_156 ?_
              obtain rfl := Option.some.inj hv4
              exact V_sub [0, 1, 2, 3, 4, 5] rfl hJ62
            · rw [if_neg hq119] at hv4
              refine V_aload_n hc dX9_turn_122 rfl 0 rfl ?_
              obtain ⟨a29, ha29, hv4⟩ := mb hv4
              refine C_getr hc rfl iW9 (by decide) 3 (by decide) rfl ha29 w1_134 dX9_turn_123 ?_
              refine V_aload_n hc dX9_turn_126 rfl 0 rfl ?_
              obtain ⟨a30, ha30, hv4⟩ := mb hv4
              refine C_getr hc rfl iW9 (by decide) 1 (by decide) rfl ha30 w1_132 dX9_turn_127 ?_
              obtain ⟨v31, hv31, hv4⟩ := mb hv4
              refine C_geti hc rfl iW5 (by decide) 2 (by decide) rfl hv31 w1_117 dX9_turn_130 ?_
              obtain ⟨S32, hS32, hv4⟩ := mb hv4
              obtain ⟨hkS32, hS32⟩ := og hS32
              refine C_callV hc hz (As := [.int v31]) hkS32 (by decide) (c4_addPut l D y _ _ hS32) w4_39 w4_40 w4_41 w1_5 w4_42 hdX_X4_addPut ⟨(Nat.le_of_ble_eq_true rfl), (Nat.le_of_ble_eq_true rfl)⟩ rfl rfl rfl (Nat.le_of_ble_eq_true rfl) dX9_turn_133 ?_
              refine V_aload_n hc dX9_turn_136 rfl 0 rfl ?_
              obtain ⟨a33, ha33, hv4⟩ := mb hv4
              refine C_getr hc rfl iW9 (by decide) 2 (by decide) rfl ha33 w1_133 dX9_turn_137 ?_
              refine V_iconst hc (v := (1 : Int32)) dX9_turn_140 rfl ?_
              obtain ⟨S34, hS34, hv4⟩ := mb hv4
              obtain ⟨hkS34, hS34⟩ := og hS34
              refine C_callV hc hz (As := [.int (1 : Int32)]) hkS34 (by decide) (c4_addKeep l D y _ _ hS34) w4_43 w4_44 w4_45 w1_5 w4_46 hdX_X4_addKeep ⟨(Nat.le_of_ble_eq_true rfl), (Nat.le_of_ble_eq_true rfl)⟩ rfl rfl rfl (Nat.le_of_ble_eq_true rfl) dX9_turn_141 ?_
              refine V_aload_n hc dX9_turn_144 rfl 0 rfl ?_
              obtain ⟨a35, ha35, hv4⟩ := mb hv4
              refine C_getr hc rfl iW9 (by decide) 1 (by decide) rfl ha35 w1_132 dX9_turn_145 ?_
              refine V_iconst hc (v := (1 : Int32)) dX9_turn_148 rfl ?_
              obtain ⟨S36, hS36, hv4⟩ := mb hv4
              obtain ⟨hkS36, hS36⟩ := og hS36
              refine C_callV hc hz (As := [.int (1 : Int32)]) hkS36 (by decide) (c5_pass l D y _ _ hS36) w4_47 w4_32 w4_33 w1_4 w4_34 hdX_X5_pass ⟨(Nat.le_of_ble_eq_true rfl), (Nat.le_of_ble_eq_true rfl)⟩ rfl rfl rfl (Nat.le_of_ble_eq_true rfl) dX9_turn_149 ?_
              refine V_goto hc dX9_turn_152 rfl ?_
              obtain rfl := Option.some.inj hv4
              exact V_sub [0, 1, 2, 3, 4, 5] rfl hJ62
          · rw [if_pos hq76] at hv4
            refine V_aload_n hc dX9_turn_79 rfl 0 rfl ?_
            obtain ⟨a37, ha37, hv4⟩ := mb hv4
            refine C_getr hc rfl iW9 (by decide) 2 (by decide) rfl ha37 w1_133 dX9_turn_80 ?_
            refine V_aload_n hc dX9_turn_83 rfl 0 rfl ?_
            obtain ⟨a38, ha38, hv4⟩ := mb hv4
            refine C_getr hc rfl iW9 (by decide) 0 (by decide) rfl ha38 w1_131 dX9_turn_84 ?_
            obtain ⟨v39, hv39, hv4⟩ := mb hv4
            refine C_geti hc rfl iW5 (by decide) 2 (by decide) rfl hv39 w1_117 dX9_turn_87 ?_
            obtain ⟨S40, hS40, hv4⟩ := mb hv4
            obtain ⟨hkS40, hS40⟩ := og hS40
            refine C_callV hc hz (As := [.int v39]) hkS40 (by decide) (c4_addPut l D y _ _ hS40) w4_39 w4_40 w4_41 w1_5 w4_42 hdX_X4_addPut ⟨(Nat.le_of_ble_eq_true rfl), (Nat.le_of_ble_eq_true rfl)⟩ rfl rfl rfl (Nat.le_of_ble_eq_true rfl) dX9_turn_90 ?_
            refine V_aload_n hc dX9_turn_93 rfl 0 rfl ?_
            obtain ⟨a41, ha41, hv4⟩ := mb hv4
            refine C_getr hc rfl iW9 (by decide) 3 (by decide) rfl ha41 w1_134 dX9_turn_94 ?_
            refine V_iconst hc (v := (1 : Int32)) dX9_turn_97 rfl ?_
            obtain ⟨S42, hS42, hv4⟩ := mb hv4
            obtain ⟨hkS42, hS42⟩ := og hS42
            refine C_callV hc hz (As := [.int (1 : Int32)]) hkS42 (by decide) (c4_addKeep l D y _ _ hS42) w4_43 w4_44 w4_45 w1_5 w4_46 hdX_X4_addKeep ⟨(Nat.le_of_ble_eq_true rfl), (Nat.le_of_ble_eq_true rfl)⟩ rfl rfl rfl (Nat.le_of_ble_eq_true rfl) dX9_turn_98 ?_
            refine V_aload_n hc dX9_turn_101 rfl 0 rfl ?_
            obtain ⟨a43, ha43, hv4⟩ := mb hv4
            refine C_getr hc rfl iW9 (by decide) 0 (by decide) rfl ha43 w1_131 dX9_turn_102 ?_
            refine V_iconst hc (v := (1 : Int32)) dX9_turn_105 rfl ?_
            obtain ⟨S44, hS44, hv4⟩ := mb hv4
            obtain ⟨hkS44, hS44⟩ := og hS44
            refine C_callV hc hz (As := [.int (1 : Int32)]) hkS44 (by decide) (c5_pass l D y _ _ hS44) w4_47 w4_32 w4_33 w1_4 w4_34 hdX_X5_pass ⟨(Nat.le_of_ble_eq_true rfl), (Nat.le_of_ble_eq_true rfl)⟩ rfl rfl rfl (Nat.le_of_ble_eq_true rfl) dX9_turn_106 ?_
            refine V_goto hc dX9_turn_109 rfl ?_
            obtain rfl := Option.some.inj hv4
            exact V_sub [0, 1, 2, 3, 4, 5] rfl hJ62
set_option maxHeartbeats 4000000 in
set_option maxRecDepth 100000 in
theorem c9_turn (l : Launch) (D : va_G) (y : CyT) (X : Nat × Nat) (hX : X.2 ≤ 100000000) {S S' : CS} {h : Nat} {p1 : Nat} {p2 : Nat} {p3 : Int32} (hf : f9_turn X S h p1 p2 p3 = some S') : CT l D y yX9_turn cX9_turn 6 none 2 44 X.1 X.2 [.ref h, .ref p1, .ref p2, .int p3] (cZ S) (cU S) (cw y S) (cZ S') (cU S') (cw y S') none := by
  refine CT.of (by decide) (Nat.le_of_ble_eq_true rfl) (fun E hc hzz hnm => ?_)
  have hc : Cx E "FarEditors$Weaver" cX9_turn 6 := hc
  have hz := hzz.1
  have hT := hz.2.2.1
  show V E (cZ S) (cU S) (cw y S) 0 [(0, .ref h), (1, .ref p1), (2, .ref p2), (3, .int p3)] []
  unfold f9_turn at hf
  refine V_aload_n hc dX9_turn_0 rfl 1 rfl ?_
  obtain ⟨v1, hv1, hf⟩ := mb hf
  refine C_geti hc rfl iW4 (by decide) 1 (by decide) rfl hv1 w1_106 dX9_turn_1 ?_
  refine V_aload_n hc dX9_turn_4 rfl 2 rfl ?_
  obtain ⟨v2, hv2, hf⟩ := mb hf
  refine C_geti hc rfl iW4 (by decide) 1 (by decide) rfl hv2 w1_106 dX9_turn_5 ?_
  refine V_iadd hc dX9_turn_8 ?_
  refine V_istore hc dX9_turn_9 (by decide) rfl ?_
  refine V_aload_n hc dX9_turn_11 rfl 1 rfl ?_
  obtain ⟨a3, ha3, hf⟩ := mb hf
  refine C_getr hc rfl iW9 (by decide) 2 (by decide) rfl ha3 w1_133 dX9_turn_12 ?_
  refine V_iload hc dX9_turn_15 0 rfl ?_
  obtain ⟨S4, hS4, hf⟩ := mb hf
  obtain ⟨hkS4, hS4⟩ := og hS4
  refine C_callV hc hz (As := [.int (v1 + v2)]) hkS4 (by decide) (c4_begin l D y X hX hS4) w4_20 w4_21 w4_22 w1_5 w4_23 hdX_X4_begin ⟨(Nat.le_of_ble_eq_true rfl), (Nat.le_of_ble_eq_true rfl)⟩ rfl rfl rfl (Nat.le_of_ble_eq_true rfl) dX9_turn_17 ?_
  refine V_aload_n hc dX9_turn_20 rfl 1 rfl ?_
  obtain ⟨a5, ha5, hf⟩ := mb hf
  refine C_getr hc rfl iW9 (by decide) 3 (by decide) rfl ha5 w1_134 dX9_turn_21 ?_
  refine V_iload hc dX9_turn_24 0 rfl ?_
  obtain ⟨S6, hS6, hf⟩ := mb hf
  obtain ⟨hkS6, hS6⟩ := og hS6
  refine C_callV hc hz (As := [.int (v1 + v2)]) hkS6 (by decide) (c4_begin l D y X hX hS6) w4_20 w4_21 w4_22 w1_5 w4_23 hdX_X4_begin ⟨(Nat.le_of_ble_eq_true rfl), (Nat.le_of_ble_eq_true rfl)⟩ rfl rfl rfl (Nat.le_of_ble_eq_true rfl) dX9_turn_26 ?_
  refine V_aload_n hc dX9_turn_29 rfl 1 rfl ?_
  obtain ⟨a7, ha7, hf⟩ := mb hf
  refine C_getr hc rfl iW9 (by decide) 0 (by decide) rfl ha7 w1_131 dX9_turn_30 ?_
  refine V_aload_n hc dX9_turn_33 rfl 2 rfl ?_
  obtain ⟨S8, hS8, hf⟩ := mb hf
  obtain ⟨hkS8, hS8⟩ := og hS8
  refine C_callV hc hz (As := [.ref p1]) hkS8 (by decide) (c5_open l D y _ _ hS8) w4_27 w4_28 w4_29 w1_4 w4_30 hdX_X5_open ⟨(Nat.le_of_ble_eq_true rfl), (Nat.le_of_ble_eq_true rfl)⟩ rfl rfl rfl (Nat.le_of_ble_eq_true rfl) dX9_turn_34 ?_
  refine V_aload_n hc dX9_turn_37 rfl 1 rfl ?_
  obtain ⟨a9, ha9, hf⟩ := mb hf
  refine C_getr hc rfl iW9 (by decide) 1 (by decide) rfl ha9 w1_132 dX9_turn_38 ?_
  refine V_aload_n hc dX9_turn_41 rfl 3 rfl ?_
  obtain ⟨S10, hS10, hf⟩ := mb hf
  obtain ⟨hkS10, hS10⟩ := og hS10
  refine C_callV hc hz (As := [.ref p2]) hkS10 (by decide) (c5_open l D y _ _ hS10) w4_27 w4_28 w4_29 w1_4 w4_30 hdX_X5_open ⟨(Nat.le_of_ble_eq_true rfl), (Nat.le_of_ble_eq_true rfl)⟩ rfl rfl rfl (Nat.le_of_ble_eq_true rfl) dX9_turn_42 ?_
  refine V_iconst hc (v := (0 : Int32)) dX9_turn_45 rfl ?_
  refine V_istore hc dX9_turn_46 (by decide) rfl ?_
  obtain ⟨S11, hv12, hf⟩ := mb hf
  refine V_sub [2, 3, 4, 5, 1, 0] rfl (LX9_turn_48_ok hc h p1 p2 p3 (v1 + v2) hz FU _ _ hv12 ?_)
  refine V_aload_n hc dX9_turn_165 rfl 1 rfl ?_
  refine V_aload_n hc dX9_turn_166 rfl 0 rfl ?_
  obtain ⟨a13, ha13, hf⟩ := mb hf
  refine C_getr hc rfl iW9 (by decide) 2 (by decide) rfl ha13 w1_133 dX9_turn_167 ?_
  obtain ⟨S14, hS14, hf⟩ := mb hf
  obtain ⟨hkS14, hS14⟩ := og hS14
  refine C_callV hc hz (As := [.ref a13]) hkS14 (by decide) (c4_swap l D y _ _ hS14) w4_61 w4_62 w4_63 w1_5 w4_64 hdX_X4_swap ⟨(Nat.le_of_ble_eq_true rfl), (Nat.le_of_ble_eq_true rfl)⟩ rfl rfl rfl (Nat.le_of_ble_eq_true rfl) dX9_turn_170 ?_
  refine V_aload_n hc dX9_turn_173 rfl 2 rfl ?_
  refine V_aload_n hc dX9_turn_174 rfl 0 rfl ?_
  obtain ⟨a15, ha15, hf⟩ := mb hf
  refine C_getr hc rfl iW9 (by decide) 3 (by decide) rfl ha15 w1_134 dX9_turn_175 ?_
  obtain ⟨S16, hS16, hf⟩ := mb hf
  obtain ⟨hkS16, hS16⟩ := og hS16
  refine C_callV hc hz (As := [.ref a15]) hkS16 (by decide) (c4_swap l D y _ _ hS16) w4_61 w4_62 w4_63 w1_5 w4_64 hdX_X4_swap ⟨(Nat.le_of_ble_eq_true rfl), (Nat.le_of_ble_eq_true rfl)⟩ rfl rfl rfl (Nat.le_of_ble_eq_true rfl) dX9_turn_178 ?_
  obtain rfl := Option.some.inj hf
  exact V_vret hc hzz rfl rfl rfl rfl dX9_turn_181
noncomputable def f7_hasPlace (S : CS) (h : Nat) (p1 : Int32) : Option (Int32) :=
  (
    if p1 < 0 then (
      some (0 : Int32)
    ) else (
      (gi S 7 h 1).bind fun v3 =>
      if v3 ≤ p1 then (
        some (0 : Int32)
      ) else (
        some (1 : Int32)
      )
    )
  ).bind fun v1 =>
  (bz v1).bind fun v4 =>
  some v4
theorem hdX_X7_hasPlace : yX7_hasPlace.cls = "FarEditors$Text" ∧ yX7_hasPlace.cls ≠ "java/lang/invoke/MethodHandle" ∧ yX7_hasPlace.cls ≠ "java/lang/invoke/VarHandle" ∧ (parseMethodDescriptor yX7_hasPlace.desc).map (fun d => d.parameters.length) = some 1 := by decide +kernel
set_option maxHeartbeats 4000000 in
set_option maxRecDepth 100000 in
theorem c7_hasPlace (l : Launch) (D : va_G) (y : CyT) (zM uM : Nat) {S : CS} {h : Nat} {p1 : Int32} {r : Int32} (hf : f7_hasPlace S h p1 = some r) : CT l D y yX7_hasPlace cX7_hasPlace 2 (some .boolean) 0 0 zM uM [.ref h, .int p1] (cZ S) (cU S) (cw y S) (cZ S) (cU S) (cw y S) (some (.int r)) := by
  refine CT.of (by decide) (Nat.le_of_ble_eq_true rfl) (fun E hc hzz hnm => ?_)
  have hc : Cx E "FarEditors$Text" cX7_hasPlace 2 := hc
  have hz := hzz.1
  have hT := hz.2.2.1
  show V E (cZ S) (cU S) (cw y S) 0 [(0, .ref h), (1, .int p1)] []
  unfold f7_hasPlace at hf
  refine V_iload_n hc dX7_hasPlace_0 rfl 1 rfl ?_
  obtain ⟨v1, hv2, hf⟩ := mb hf
  have hJ1 : V E (cZ S) (cU S) (cw y S) 17 [] [.int v1] := by
    obtain ⟨v4, hv4, hf⟩ := mb hf
    obtain ⟨hbv4, rfl⟩ := bz_some hv4
    obtain rfl := Option.some.inj hf
    exact V_iret hc hzz (bz_nar hbv4) rfl rfl rfl rfl dX7_hasPlace_17
  refine V_if_lt hc dX7_hasPlace_1 rfl (fun hq1 => ?_) (fun hq1 => ?_)
  · rw [if_pos hq1] at hv2
    refine V_iconst hc (v := (0 : Int32)) dX7_hasPlace_16 rfl ?_
    obtain rfl := Option.some.inj hv2
    exact V_sub [] rfl hJ1
  · rw [if_neg hq1] at hv2
    refine V_iload_n hc dX7_hasPlace_4 rfl 1 rfl ?_
    refine V_aload_n hc dX7_hasPlace_5 rfl 0 rfl ?_
    obtain ⟨v3, hv3, hv2⟩ := mb hv2
    refine C_geti hc rfl iW7 (by decide) 1 (by decide) rfl hv3 w1_168 dX7_hasPlace_6 ?_
    refine V_icmp_ge hc dX7_hasPlace_9 rfl (fun hq9 => ?_) (fun hq9 => ?_)
    · rw [if_pos hq9] at hv2
      refine V_iconst hc (v := (0 : Int32)) dX7_hasPlace_16 rfl ?_
      obtain rfl := Option.some.inj hv2
      exact V_sub [] rfl hJ1
    · rw [if_neg hq9] at hv2
      refine V_iconst hc (v := (1 : Int32)) dX7_hasPlace_12 rfl ?_
      refine V_goto hc dX7_hasPlace_13 rfl ?_
      obtain rfl := Option.some.inj hv2
      exact V_sub [] rfl hJ1
noncomputable def f7_writerOf (S : CS) (h : Nat) (p1 : Int32) : Option (Int32) :=
  (cal S 7 h (f7_hasPlace S h p1)).bind fun v1 =>
  (
    if v1 = 0 then (
      some (0 : Int32)
    ) else (
      (gr S 7 h 0).bind fun a4 =>
      (ldi S a4 p1).bind fun v5 =>
      some (v5 >>> ((5 : Int32) &&& 31))
    )
  ).bind fun v2 =>
  some v2
theorem hdX_X7_writerOf : yX7_writerOf.cls = "FarEditors$Text" ∧ yX7_writerOf.cls ≠ "java/lang/invoke/MethodHandle" ∧ yX7_writerOf.cls ≠ "java/lang/invoke/VarHandle" ∧ (parseMethodDescriptor yX7_writerOf.desc).map (fun d => d.parameters.length) = some 1 := by decide +kernel
set_option maxHeartbeats 4000000 in
set_option maxRecDepth 100000 in
theorem c7_writerOf (l : Launch) (D : va_G) (y : CyT) (zM uM : Nat) {S : CS} {h : Nat} {p1 : Int32} {r : Int32} (hf : f7_writerOf S h p1 = some r) : CT l D y yX7_writerOf cX7_writerOf 2 (some .int) 1 21 zM uM [.ref h, .int p1] (cZ S) (cU S) (cw y S) (cZ S) (cU S) (cw y S) (some (.int r)) := by
  refine CT.of (by decide) (Nat.le_of_ble_eq_true rfl) (fun E hc hzz hnm => ?_)
  have hc : Cx E "FarEditors$Text" cX7_writerOf 2 := hc
  have hz := hzz.1
  have hT := hz.2.2.1
  show V E (cZ S) (cU S) (cw y S) 0 [(0, .ref h), (1, .int p1)] []
  unfold f7_writerOf at hf
  refine V_aload_n hc dX7_writerOf_0 rfl 0 rfl ?_
  refine V_iload_n hc dX7_writerOf_1 rfl 1 rfl ?_
  obtain ⟨v1, hv1, hf⟩ := mb hf
  obtain ⟨hkv1, hv1⟩ := og hv1
  refine C_callV hc hz (As := [.int p1]) hkv1 (by decide) (c7_hasPlace l D y _ _ hv1) w4_73 w4_74 w4_75 w1_7 w4_76 hdX_X7_hasPlace ⟨(Nat.le_of_ble_eq_true rfl), (Nat.le_of_ble_eq_true rfl)⟩ rfl rfl rfl (Nat.le_of_ble_eq_true rfl) dX7_writerOf_2 ?_
  obtain ⟨v2, hv3, hf⟩ := mb hf
  have hJ5 : V E (cZ S) (cU S) (cw y S) 20 [] [.int v2] := by
    obtain rfl := Option.some.inj hf
    exact V_iret hc hzz rfl rfl rfl rfl rfl dX7_writerOf_20
  refine V_if_eq hc dX7_writerOf_5 rfl (fun hq5 => ?_) (fun hq5 => ?_)
  · rw [if_pos hq5] at hv3
    refine V_iconst hc (v := (0 : Int32)) dX7_writerOf_19 rfl ?_
    obtain rfl := Option.some.inj hv3
    exact V_sub [] rfl hJ5
  · rw [if_neg hq5] at hv3
    refine V_aload_n hc dX7_writerOf_8 rfl 0 rfl ?_
    obtain ⟨a4, ha4, hv3⟩ := mb hv3
    refine C_getr hc rfl iW7 (by decide) 0 (by decide) rfl ha4 w1_166 dX7_writerOf_9 ?_
    refine V_iload_n hc dX7_writerOf_12 rfl 1 rfl ?_
    obtain ⟨v5, hv5, hv3⟩ := mb hv3
    refine C_iald hc hT hv5 dX7_writerOf_13 ?_
    refine V_iconst hc (v := (5 : Int32)) dX7_writerOf_14 rfl ?_
    refine V_ishr hc dX7_writerOf_15 ?_
    refine V_goto hc dX7_writerOf_16 rfl ?_
    obtain rfl := Option.some.inj hv3
    exact V_sub [] rfl hJ5
noncomputable def f10_ownerOf (S : CS) (h : Nat) (p1 : Int32) : Option (Int32) :=
  (
    if p1 < (1 : Int32) then (
      some (-1 : Int32)
    ) else (
      (gi S 10 h 11).bind fun v3 =>
      if v3 < p1 then (
        some (-1 : Int32)
      ) else (
        (gr S 10 h 0).bind fun a4 =>
        (gr S 6 a4 2).bind fun a5 =>
        (ldi S a5 (p1 - (1 : Int32))).bind fun v6 =>
        some v6
      )
    )
  ).bind fun v1 =>
  some v1
theorem hdX_X10_ownerOf : yX10_ownerOf.cls = "FarEditors$World" ∧ yX10_ownerOf.cls ≠ "java/lang/invoke/MethodHandle" ∧ yX10_ownerOf.cls ≠ "java/lang/invoke/VarHandle" ∧ (parseMethodDescriptor yX10_ownerOf.desc).map (fun d => d.parameters.length) = some 1 := by decide +kernel
set_option maxHeartbeats 4000000 in
set_option maxRecDepth 100000 in
theorem c10_ownerOf (l : Launch) (D : va_G) (y : CyT) (zM uM : Nat) {S : CS} {h : Nat} {p1 : Int32} {r : Int32} (hf : f10_ownerOf S h p1 = some r) : CT l D y yX10_ownerOf cX10_ownerOf 2 (some .int) 0 0 zM uM [.ref h, .int p1] (cZ S) (cU S) (cw y S) (cZ S) (cU S) (cw y S) (some (.int r)) := by
  refine CT.of (by decide) (Nat.le_of_ble_eq_true rfl) (fun E hc hzz hnm => ?_)
  have hc : Cx E "FarEditors$World" cX10_ownerOf 2 := hc
  have hz := hzz.1
  have hT := hz.2.2.1
  show V E (cZ S) (cU S) (cw y S) 0 [(0, .ref h), (1, .int p1)] []
  unfold f10_ownerOf at hf
  refine V_iload_n hc dX10_ownerOf_0 rfl 1 rfl ?_
  refine V_iconst hc (v := (1 : Int32)) dX10_ownerOf_1 rfl ?_
  obtain ⟨v1, hv2, hf⟩ := mb hf
  have hJ2 : V E (cZ S) (cU S) (cw y S) 28 [] [.int v1] := by
    obtain rfl := Option.some.inj hf
    exact V_iret hc hzz rfl rfl rfl rfl rfl dX10_ownerOf_28
  refine V_icmp_lt hc dX10_ownerOf_2 rfl (fun hq2 => ?_) (fun hq2 => ?_)
  · rw [if_pos hq2] at hv2
    refine V_iconst hc (v := (-1 : Int32)) dX10_ownerOf_27 rfl ?_
    obtain rfl := Option.some.inj hv2
    exact V_sub [] rfl hJ2
  · rw [if_neg hq2] at hv2
    refine V_iload_n hc dX10_ownerOf_5 rfl 1 rfl ?_
    refine V_aload_n hc dX10_ownerOf_6 rfl 0 rfl ?_
    obtain ⟨v3, hv3, hv2⟩ := mb hv2
    refine C_geti hc rfl iW10 (by decide) 11 (by decide) rfl hv3 w2_95 dX10_ownerOf_7 ?_
    refine V_icmp_gt hc dX10_ownerOf_10 rfl (fun hq10 => ?_) (fun hq10 => ?_)
    · rw [if_pos hq10] at hv2
      refine V_iconst hc (v := (-1 : Int32)) dX10_ownerOf_27 rfl ?_
      obtain rfl := Option.some.inj hv2
      exact V_sub [] rfl hJ2
    · rw [if_neg hq10] at hv2
      refine V_aload_n hc dX10_ownerOf_13 rfl 0 rfl ?_
      obtain ⟨a4, ha4, hv2⟩ := mb hv2
      refine C_getr hc rfl iW10 (by decide) 0 (by decide) rfl ha4 w2_71 dX10_ownerOf_14 ?_
      obtain ⟨a5, ha5, hv2⟩ := mb hv2
      refine C_getr hc rfl iW6 (by decide) 2 (by decide) rfl ha5 w1_187 dX10_ownerOf_17 ?_
      refine V_iload_n hc dX10_ownerOf_20 rfl 1 rfl ?_
      refine V_iconst hc (v := (1 : Int32)) dX10_ownerOf_21 rfl ?_
      refine V_isub hc dX10_ownerOf_22 ?_
      obtain ⟨v6, hv6, hv2⟩ := mb hv2
      refine C_iald hc hT hv6 dX10_ownerOf_23 ?_
      refine V_goto hc dX10_ownerOf_24 rfl ?_
      obtain rfl := Option.some.inj hv2
      exact V_sub [] rfl hJ2
noncomputable def LX10_countForeignCuts_60 (h : Nat) (c1 : Nat) (c2 : Int32) (c5 : Int32) (c7 : Int32) (S : CS) : Nat → Int32 → Int32 → Option (Int32 × Int32)
  | 0, _, _ => none
  | n + 1, i3, i4 =>
    if c7 ≤ i4 then (
      some (i3, i4)
    ) else (
      (gr S 10 h 2).bind fun a1 =>
      (cal S 7 a1 (f7_writerOf S a1 i4)).bind fun v2 =>
      (cal S 10 h (f10_ownerOf S h v2)).bind fun v3 =>
      (
        if v3 = c2 then (
          some (0 : Int32)
        ) else (
          some (1 : Int32)
        )
      ).bind fun v4 =>
      LX10_countForeignCuts_60 h c1 c2 c5 c7 S n (i3 + v4) (i4 + (1 : Int32))
    )
noncomputable def LX10_countForeignCuts_8 (h : Nat) (c1 : Nat) (c2 : Int32) (S : CS) : Nat → Int32 → Int32 → Int32 → Option (Int32)
  | 0, _, _, _ => none
  | n + 1, i3, i4, i5 =>
    (gi S 4 c1 1).bind fun v1 =>
    if v1 ≤ i5 then (
      some i3
    ) else (
      (gr S 4 c1 0).bind fun a2 =>
      (ldi S a2 i5).bind fun v3 =>
      (
        if v3 ≤ (31 : Int32) then (
          some i4
        ) else (
          some (i4 + (v3 - (31 : Int32)))
        )
      ).bind fun x4 =>
      (
        if 0 ≤ v3 then (
          some x4
        ) else (
          some (x4 - v3)
        )
      ).bind fun v6 =>
      bn2 (LX10_countForeignCuts_60 h c1 c2 i5 v6 S FU i3 x4) fun x8 x9 =>
      LX10_countForeignCuts_8 h c1 c2 S n x8 x9 (i5 + (1 : Int32))
    )
noncomputable def f10_countForeignCuts (S : CS) (h : Nat) (p1 : Nat) (p2 : Int32) : Option (Int32) :=
  (LX10_countForeignCuts_8 h p1 p2 S FU (0 : Int32) (0 : Int32) (0 : Int32)).bind fun x1 =>
  some x1
theorem hdX_X10_countForeignCuts : yX10_countForeignCuts.cls = "FarEditors$World" ∧ yX10_countForeignCuts.cls ≠ "java/lang/invoke/MethodHandle" ∧ yX10_countForeignCuts.cls ≠ "java/lang/invoke/VarHandle" ∧ (parseMethodDescriptor yX10_countForeignCuts.desc).map (fun d => d.parameters.length) = some 2 := by decide +kernel
set_option maxHeartbeats 4000000 in
set_option maxRecDepth 100000 in
theorem LX10_countForeignCuts_60_ok {E : CxT} {l : Launch} {D : va_G} {y : CyT} {zM uM : Nat} (hc : Cx E "FarEditors$World" cX10_countForeignCuts 8) (h : Nat) (c1 : Nat) (c2 : Int32) (c5 : Int32) (c7 : Int32) (S : CS) (hz : Cy E l D y 2 42 zM uM) : ∀ (n : Nat) (i3 : Int32) (i4 : Int32) {o3 : Int32} {o4 : Int32}, LX10_countForeignCuts_60 h c1 c2 c5 c7 S n i3 i4 = some (o3, o4) → (hx0 : V E (cZ S) (cU S) (cw y S) 98 [(0, .ref h), (1, .ref c1), (2, .int c2), (3, .int o3), (4, .int o4), (5, .int c5)] []) → V E (cZ S) (cU S) (cw y S) 60 [(0, .ref h), (1, .ref c1), (2, .int c2), (3, .int i3), (4, .int i4), (5, .int c5), (7, .int c7)] [] := by
  have hT := hz.2.2.1
  intro n
  induction n with
  | zero => intro i3 i4 o3 o4 hf; cases hf
  | succ n ih =>
    intro i3 i4 o3 o4 hf hx0
    unfold LX10_countForeignCuts_60 at hf
    refine V_iload hc dX10_countForeignCuts_60 4 rfl ?_
    refine V_iload hc dX10_countForeignCuts_62 6 rfl ?_
    refine V_icmp_ge hc dX10_countForeignCuts_64 rfl (fun hq64 => ?_) (fun hq64 => ?_)
    · rw [if_pos hq64] at hf
      obtain ⟨rfl, rfl⟩ := si2 hf
      exact V_sub [0, 1, 2, 3, 4, 5] rfl hx0
    · rw [if_neg hq64] at hf
      refine V_iload_n hc dX10_countForeignCuts_67 rfl 3 rfl ?_
      refine V_aload_n hc dX10_countForeignCuts_68 rfl 0 rfl ?_
      refine V_aload_n hc dX10_countForeignCuts_69 rfl 0 rfl ?_
      obtain ⟨a1, ha1, hf⟩ := mb hf
      refine C_getr hc rfl iW10 (by decide) 2 (by decide) rfl ha1 w2_75 dX10_countForeignCuts_70 ?_
      refine V_iload hc dX10_countForeignCuts_73 4 rfl ?_
      obtain ⟨v2, hv2, hf⟩ := mb hf
      obtain ⟨hkv2, hv2⟩ := og hv2
      refine C_callV hc hz (As := [.int i4]) hkv2 (by decide) (c7_writerOf l D y _ _ hv2) w4_69 w4_70 w4_71 w1_7 w4_72 hdX_X7_writerOf ⟨(Nat.le_of_ble_eq_true rfl), (Nat.le_of_ble_eq_true rfl)⟩ rfl rfl rfl (Nat.le_of_ble_eq_true rfl) dX10_countForeignCuts_75 ?_
      obtain ⟨v3, hv3, hf⟩ := mb hf
      obtain ⟨hkv3, hv3⟩ := og hv3
      refine C_callV hc hz (As := [.int v2]) hkv3 (by decide) (c10_ownerOf l D y _ _ hv3) w4_77 w4_78 w4_79 w1_8 w4_80 hdX_X10_ownerOf ⟨(Nat.le_of_ble_eq_true rfl), (Nat.le_of_ble_eq_true rfl)⟩ rfl rfl rfl (Nat.le_of_ble_eq_true rfl) dX10_countForeignCuts_78 ?_
      refine V_iload_n hc dX10_countForeignCuts_81 rfl 2 rfl ?_
      obtain ⟨v4, hv5, hf⟩ := mb hf
      have hJ82 : V E (cZ S) (cU S) (cw y S) 90 [(0, .ref h), (1, .ref c1), (2, .int c2), (4, .int i4), (5, .int c5), (7, .int c7)] [.int v4, .int i3] := by
        refine V_iadd hc dX10_countForeignCuts_90 ?_
        refine V_istore_n hc dX10_countForeignCuts_91 rfl (by decide) rfl ?_
        refine V_iinc hc (j := 4) (v := (i4 + (1 : Int32))) dX10_countForeignCuts_92 rfl rfl (by decide) rfl ?_
        refine V_goto hc dX10_countForeignCuts_95 rfl ?_
        exact V_sub [2, 3, 4, 1, 0, 5, 6] rfl (ih _ _ hf hx0)
      refine V_icmp_ne hc dX10_countForeignCuts_82 rfl (fun hq82 => ?_) (fun hq82 => ?_)
      · rw [if_neg hq82] at hv5
        refine V_iconst hc (v := (1 : Int32)) dX10_countForeignCuts_89 rfl ?_
        obtain rfl := Option.some.inj hv5
        exact V_sub [0, 1, 2, 4, 5, 6] rfl hJ82
      · rw [if_pos hq82] at hv5
        refine V_iconst hc (v := (0 : Int32)) dX10_countForeignCuts_85 rfl ?_
        refine V_goto hc dX10_countForeignCuts_86 rfl ?_
        obtain rfl := Option.some.inj hv5
        exact V_sub [0, 1, 2, 4, 5, 6] rfl hJ82
set_option maxHeartbeats 4000000 in
set_option maxRecDepth 100000 in
theorem LX10_countForeignCuts_8_ok {E : CxT} {l : Launch} {D : va_G} {y : CyT} {zM uM : Nat} (hc : Cx E "FarEditors$World" cX10_countForeignCuts 8) (h : Nat) (c1 : Nat) (c2 : Int32) (S : CS) (hz : Cy E l D y 2 42 zM uM) : ∀ (n : Nat) (i3 : Int32) (i4 : Int32) (i5 : Int32) {o3 : Int32}, LX10_countForeignCuts_8 h c1 c2 S n i3 i4 i5 = some o3 → (hx0 : V E (cZ S) (cU S) (cw y S) 104 [(3, .int o3)] []) → V E (cZ S) (cU S) (cw y S) 8 [(0, .ref h), (1, .ref c1), (2, .int c2), (3, .int i3), (4, .int i4), (5, .int i5)] [] := by
  have hT := hz.2.2.1
  intro n
  induction n with
  | zero => intro i3 i4 i5 o3 hf; cases hf
  | succ n ih =>
    intro i3 i4 i5 o3 hf hx0
    unfold LX10_countForeignCuts_8 at hf
    refine V_iload hc dX10_countForeignCuts_8 5 rfl ?_
    refine V_aload_n hc dX10_countForeignCuts_10 rfl 1 rfl ?_
    obtain ⟨v1, hv1, hf⟩ := mb hf
    refine C_geti hc rfl iW4 (by decide) 1 (by decide) rfl hv1 w1_108 dX10_countForeignCuts_11 ?_
    refine V_icmp_ge hc dX10_countForeignCuts_14 rfl (fun hq14 => ?_) (fun hq14 => ?_)
    · rw [if_pos hq14] at hf
      obtain rfl := Option.some.inj hf
      exact V_sub [3] rfl hx0
    · rw [if_neg hq14] at hf
      refine V_aload_n hc dX10_countForeignCuts_17 rfl 1 rfl ?_
      obtain ⟨a2, ha2, hf⟩ := mb hf
      refine C_getr hc rfl iW4 (by decide) 0 (by decide) rfl ha2 w1_104 dX10_countForeignCuts_18 ?_
      refine V_iload hc dX10_countForeignCuts_21 5 rfl ?_
      obtain ⟨v3, hv3, hf⟩ := mb hf
      refine C_iald hc hT hv3 dX10_countForeignCuts_23 ?_
      refine V_istore hc dX10_countForeignCuts_24 (by decide) rfl ?_
      refine V_iload hc dX10_countForeignCuts_26 0 rfl ?_
      refine V_bipush hc (v := (31 : Int32)) dX10_countForeignCuts_28 rfl ?_
      obtain ⟨x4, hv5, hf⟩ := mb hf
      have hJ30 : V E (cZ S) (cU S) (cw y S) 43 [(0, .ref h), (1, .ref c1), (2, .int c2), (3, .int i3), (4, .int x4), (5, .int i5), (6, .int v3)] [] := by
        refine V_iload hc dX10_countForeignCuts_43 6 rfl ?_
        obtain ⟨v6, hv7, hf⟩ := mb hf
        have hJ45 : V E (cZ S) (cU S) (cw y S) 58 [(0, .ref h), (1, .ref c1), (2, .int c2), (3, .int i3), (4, .int x4), (5, .int i5)] [.int v6] := by
          refine V_istore hc dX10_countForeignCuts_58 (by decide) rfl ?_
          obtain ⟨x8, x9, hv10, hf⟩ := mb2 hf
          refine V_sub [1, 2, 3, 4, 5, 6, 0] rfl (LX10_countForeignCuts_60_ok hc h c1 c2 i5 v6 S hz FU _ _ hv10 ?_)
          refine V_iinc hc (j := 5) (v := (i5 + (1 : Int32))) dX10_countForeignCuts_98 rfl rfl (by decide) rfl ?_
          refine V_goto hc dX10_countForeignCuts_101 rfl ?_
          exact V_sub [1, 2, 3, 4, 5, 0] rfl (ih _ _ _ hf hx0)
        refine V_if_ge hc dX10_countForeignCuts_45 rfl (fun hq45 => ?_) (fun hq45 => ?_)
        · rw [if_pos hq45] at hv7
          refine V_iload hc dX10_countForeignCuts_56 4 rfl ?_
          obtain rfl := Option.some.inj hv7
          exact V_sub [0, 1, 2, 3, 4, 5] rfl hJ45
        · rw [if_neg hq45] at hv7
          refine V_iload hc dX10_countForeignCuts_48 4 rfl ?_
          refine V_iload hc dX10_countForeignCuts_50 6 rfl ?_
          refine V_isub hc dX10_countForeignCuts_52 ?_
          refine V_goto hc dX10_countForeignCuts_53 rfl ?_
          obtain rfl := Option.some.inj hv7
          exact V_sub [0, 1, 2, 3, 4, 5] rfl hJ45
      refine V_icmp_le hc dX10_countForeignCuts_30 rfl (fun hq30 => ?_) (fun hq30 => ?_)
      · rw [if_pos hq30] at hv5
        obtain rfl := Option.some.inj hv5
        exact V_sub [1, 2, 3, 4, 5, 6, 0] rfl hJ30
      · rw [if_neg hq30] at hv5
        refine V_iload hc dX10_countForeignCuts_33 5 rfl ?_
        refine V_iload hc dX10_countForeignCuts_35 0 rfl ?_
        refine V_bipush hc (v := (31 : Int32)) dX10_countForeignCuts_37 rfl ?_
        refine V_isub hc dX10_countForeignCuts_39 ?_
        refine V_iadd hc dX10_countForeignCuts_40 ?_
        refine V_istore hc dX10_countForeignCuts_41 (by decide) rfl ?_
        obtain rfl := Option.some.inj hv5
        exact V_sub [2, 3, 4, 5, 0, 6, 1] rfl hJ30
set_option maxHeartbeats 4000000 in
set_option maxRecDepth 100000 in
theorem c10_countForeignCuts (l : Launch) (D : va_G) (y : CyT) (zM uM : Nat) {S : CS} {h : Nat} {p1 : Nat} {p2 : Int32} {r : Int32} (hf : f10_countForeignCuts S h p1 p2 = some r) : CT l D y yX10_countForeignCuts cX10_countForeignCuts 8 (some .int) 2 42 zM uM [.ref h, .ref p1, .int p2] (cZ S) (cU S) (cw y S) (cZ S) (cU S) (cw y S) (some (.int r)) := by
  refine CT.of (by decide) (Nat.le_of_ble_eq_true rfl) (fun E hc hzz hnm => ?_)
  have hc : Cx E "FarEditors$World" cX10_countForeignCuts 8 := hc
  have hz := hzz.1
  have hT := hz.2.2.1
  show V E (cZ S) (cU S) (cw y S) 0 [(0, .ref h), (1, .ref p1), (2, .int p2)] []
  unfold f10_countForeignCuts at hf
  refine V_iconst hc (v := (0 : Int32)) dX10_countForeignCuts_0 rfl ?_
  refine V_istore_n hc dX10_countForeignCuts_1 rfl (by decide) rfl ?_
  refine V_iconst hc (v := (0 : Int32)) dX10_countForeignCuts_2 rfl ?_
  refine V_istore hc dX10_countForeignCuts_3 (by decide) rfl ?_
  refine V_iconst hc (v := (0 : Int32)) dX10_countForeignCuts_5 rfl ?_
  refine V_istore hc dX10_countForeignCuts_6 (by decide) rfl ?_
  obtain ⟨x1, hv2, hf⟩ := mb hf
  refine V_sub [3, 4, 5, 2, 1, 0] rfl (LX10_countForeignCuts_8_ok hc h p1 p2 S hz FU _ _ _ hv2 ?_)
  refine V_iload_n hc dX10_countForeignCuts_104 rfl 0 rfl ?_
  obtain rfl := Option.some.inj hf
  exact V_iret hc hzz rfl rfl rfl rfl rfl dX10_countForeignCuts_105
noncomputable def LX9_change_9 (h : Nat) (c1 : Nat) (c2 : Nat) (c3 : Int32) : Nat → Int32 → Int32 → Int32 → CS → Option (Int32 × CS)
  | 0, _, _, _, _ => none
  | n + 1, i4, i5, i6, S =>
    (gi S 4 c2 1).bind fun v1 =>
    if v1 ≤ i6 then (
      some (i5, S)
    ) else (
      (gr S 4 c2 0).bind fun a2 =>
      (ldi S a2 i6).bind fun v3 =>
      bn3 (
        if 0 ≤ v3 then (
          if v3 ≤ (31 : Int32) then (
            (gr S 9 h 4).bind fun a8 =>
            (aln S 14 a8).bind fun v9 =>
            if v9 ≤ i5 then (
              some (i4, i5, S)
            ) else (
              (gr S 9 h 4).bind fun a10 =>
              (sti S a10 i5 (v3 ||| (c3 <<< ((5 : Int32) &&& 31)))).bind fun S11 =>
              some (i4, (i5 + (1 : Int32)), S11)
            )
          ) else (
            (gi S 7 c1 1).bind fun v12 =>
            (gr S 9 h 4).bind fun a13 =>
            (aln S 14 a13).bind fun v14 =>
            bn3 (
              if (if (if (v14 - i5) < (v12 - i4) then (v14 - i5) else (v12 - i4)) < (v3 - (31 : Int32)) then (if (v14 - i5) < (v12 - i4) then (v14 - i5) else (v12 - i4)) else (v3 - (31 : Int32))) ≤ 0 then (
                some (i4, i5, S)
              ) else (
                (gr S 7 c1 0).bind fun a19 =>
                (gr S 9 h 4).bind fun a20 =>
                (cpy S a19 i4 a20 i5 (if (if (v14 - i5) < (v12 - i4) then (v14 - i5) else (v12 - i4)) < (v3 - (31 : Int32)) then (if (v14 - i5) < (v12 - i4) then (v14 - i5) else (v12 - i4)) else (v3 - (31 : Int32)))).bind fun S21 =>
                some ((i4 + (if (if (v14 - i5) < (v12 - i4) then (v14 - i5) else (v12 - i4)) < (v3 - (31 : Int32)) then (if (v14 - i5) < (v12 - i4) then (v14 - i5) else (v12 - i4)) else (v3 - (31 : Int32)))), (i5 + (if (if (v14 - i5) < (v12 - i4) then (v14 - i5) else (v12 - i4)) < (v3 - (31 : Int32)) then (if (v14 - i5) < (v12 - i4) then (v14 - i5) else (v12 - i4)) else (v3 - (31 : Int32)))), S21)
              )
            ) fun x15 x16 S17 =>
            some (x15, x16, S17)
          )
        ) else (
          some ((i4 - v3), i5, S)
        )
      ) fun x4 x5 S6 =>
      LX9_change_9 h c1 c2 c3 n x4 x5 (i6 + (1 : Int32)) S6
    )
noncomputable def f9_change (S : CS) (h : Nat) (p1 : Nat) (p2 : Nat) (p3 : Int32) : Option (CS) :=
  bn2 (LX9_change_9 h p1 p2 p3 FU (0 : Int32) (0 : Int32) (0 : Int32) S) fun x1 S2 =>
  (gr S2 7 p1 0).bind fun a4 =>
  (gr S2 9 h 4).bind fun a5 =>
  (pr S2 7 p1 0 a5).bind fun S6 =>
  (pi S6 7 p1 1 x1).bind fun S7 =>
  (pr S7 9 h 4 a4).bind fun S8 =>
  some S8
theorem hdX_X9_change : yX9_change.cls = "FarEditors$Weaver" ∧ yX9_change.cls ≠ "java/lang/invoke/MethodHandle" ∧ yX9_change.cls ≠ "java/lang/invoke/VarHandle" ∧ (parseMethodDescriptor yX9_change.desc).map (fun d => d.parameters.length) = some 3 := by decide +kernel
set_option maxHeartbeats 4000000 in
set_option maxRecDepth 100000 in
theorem LX9_change_9_ok {E : CxT} {l : Launch} {D : va_G} {y : CyT} {zM uM : Nat} (hc : Cx E "FarEditors$Weaver" cX9_change 9) (h : Nat) (c1 : Nat) (c2 : Nat) (c3 : Int32) (hz : Cy E l D y 1 26 zM uM) : ∀ (n : Nat) (i4 : Int32) (i5 : Int32) (i6 : Int32) (S : CS) {o5 : Int32} {So : CS}, LX9_change_9 h c1 c2 c3 n i4 i5 i6 S = some (o5, So) → (hx0 : V E (cZ So) (cU So) (cw y So) 148 [(0, .ref h), (1, .ref c1), (5, .int o5)] []) → V E (cZ S) (cU S) (cw y S) 9 [(0, .ref h), (1, .ref c1), (2, .ref c2), (3, .int c3), (4, .int i4), (5, .int i5), (6, .int i6)] [] := by
  have hT := hz.2.2.1
  intro n
  induction n with
  | zero => intro i4 i5 i6 S o5 So hf; cases hf
  | succ n ih =>
    intro i4 i5 i6 S o5 So hf hx0
    unfold LX9_change_9 at hf
    refine V_iload hc dX9_change_9 6 rfl ?_
    refine V_aload_n hc dX9_change_11 rfl 2 rfl ?_
    obtain ⟨v1, hv1, hf⟩ := mb hf
    refine C_geti hc rfl iW4 (by decide) 1 (by decide) rfl hv1 w1_106 dX9_change_12 ?_
    refine V_icmp_ge hc dX9_change_15 rfl (fun hq15 => ?_) (fun hq15 => ?_)
    · rw [if_pos hq15] at hf
      obtain ⟨rfl, rfl⟩ := si2 hf
      exact V_sub [0, 1, 5] rfl hx0
    · rw [if_neg hq15] at hf
      refine V_aload_n hc dX9_change_18 rfl 2 rfl ?_
      obtain ⟨a2, ha2, hf⟩ := mb hf
      refine C_getr hc rfl iW4 (by decide) 0 (by decide) rfl ha2 w1_102 dX9_change_19 ?_
      refine V_iload hc dX9_change_22 6 rfl ?_
      obtain ⟨v3, hv3, hf⟩ := mb hf
      refine C_iald hc hT hv3 dX9_change_24 ?_
      refine V_istore hc dX9_change_25 (by decide) rfl ?_
      refine V_iload hc dX9_change_27 0 rfl ?_
      obtain ⟨x4, x5, S6, hv7, hf⟩ := mb3 hf
      have hJ29 : V E (cZ S6) (cU S6) (cw y S6) 142 [(0, .ref h), (1, .ref c1), (2, .ref c2), (3, .int c3), (4, .int x4), (5, .int x5), (6, .int i6)] [] := by
        refine V_iinc hc (j := 6) (v := (i6 + (1 : Int32))) dX9_change_142 rfl rfl (by decide) rfl ?_
        refine V_goto hc dX9_change_145 rfl ?_
        exact V_sub [1, 2, 3, 4, 5, 6, 0] rfl (ih _ _ _ _ hf hx0)
      refine V_if_ge hc dX9_change_29 rfl (fun hq29 => ?_) (fun hq29 => ?_)
      · rw [if_pos hq29] at hv7
        refine V_iload hc dX9_change_42 0 rfl ?_
        refine V_bipush hc (v := (31 : Int32)) dX9_change_44 rfl ?_
        refine V_icmp_le hc dX9_change_46 rfl (fun hq46 => ?_) (fun hq46 => ?_)
        · rw [if_pos hq46] at hv7
          refine V_iload hc dX9_change_116 6 rfl ?_
          refine V_aload_n hc dX9_change_118 rfl 1 rfl ?_
          obtain ⟨a8, ha8, hv7⟩ := mb hv7
          refine C_getr hc rfl iW9 (by decide) 4 (by decide) rfl ha8 w1_135 dX9_change_119 ?_
          obtain ⟨v9, hv9, hv7⟩ := mb hv7
          refine C_alen hc hT hv9 dX9_change_122 ?_
          refine V_icmp_ge hc dX9_change_123 rfl (fun hq123 => ?_) (fun hq123 => ?_)
          · rw [if_pos hq123] at hv7
            obtain ⟨rfl, rfl, rfl⟩ := si3 hv7
            exact V_sub [1, 2, 3, 4, 5, 6, 7] rfl hJ29
          · rw [if_neg hq123] at hv7
            refine V_aload_n hc dX9_change_126 rfl 1 rfl ?_
            obtain ⟨a10, ha10, hv7⟩ := mb hv7
            refine C_getr hc rfl iW9 (by decide) 4 (by decide) rfl ha10 w1_135 dX9_change_127 ?_
            refine V_iload hc dX9_change_130 6 rfl ?_
            refine V_iinc hc (j := 6) (v := (i5 + (1 : Int32))) dX9_change_132 rfl rfl (by decide) rfl ?_
            refine V_iload hc dX9_change_135 1 rfl ?_
            refine V_iload_n hc dX9_change_137 rfl 5 rfl ?_
            refine V_iconst hc (v := (5 : Int32)) dX9_change_138 rfl ?_
            refine V_ishl hc dX9_change_139 ?_
            refine V_ior hc dX9_change_140 ?_
            obtain ⟨S11, hS11, hv7⟩ := mb hv7
            refine C_iast hc hT hS11 dX9_change_141 ?_
            obtain ⟨rfl, rfl, rfl⟩ := si3 hv7
            exact V_sub [2, 3, 4, 5, 6, 0, 7] rfl hJ29
        · rw [if_neg hq46] at hv7
          refine V_iload hc dX9_change_49 0 rfl ?_
          refine V_bipush hc (v := (31 : Int32)) dX9_change_51 rfl ?_
          refine V_isub hc dX9_change_53 ?_
          refine V_aload_n hc dX9_change_54 rfl 2 rfl ?_
          obtain ⟨v12, hv12, hv7⟩ := mb hv7
          refine C_geti hc rfl iW7 (by decide) 1 (by decide) rfl hv12 w1_169 dX9_change_55 ?_
          refine V_iload hc dX9_change_58 5 rfl ?_
          refine V_isub hc dX9_change_60 ?_
          refine V_aload_n hc dX9_change_61 rfl 1 rfl ?_
          obtain ⟨a13, ha13, hv7⟩ := mb hv7
          refine C_getr hc rfl iW9 (by decide) 4 (by decide) rfl ha13 w1_135 dX9_change_62 ?_
          obtain ⟨v14, hv14, hv7⟩ := mb hv7
          refine C_alen hc hT hv14 dX9_change_65 ?_
          refine V_iload hc dX9_change_66 6 rfl ?_
          refine V_isub hc dX9_change_68 ?_
          refine C_min hc hz w4_52 w3_194 w1_18 w3_195 ⟨(Nat.le_of_ble_eq_true rfl), (Nat.le_of_ble_eq_true rfl)⟩ (Nat.le_of_ble_eq_true rfl) dX9_change_69 ?_
          refine C_min hc hz w4_52 w3_194 w1_18 w3_195 ⟨(Nat.le_of_ble_eq_true rfl), (Nat.le_of_ble_eq_true rfl)⟩ (Nat.le_of_ble_eq_true rfl) dX9_change_72 ?_
          refine V_istore hc dX9_change_75 (by decide) rfl ?_
          refine V_iload hc dX9_change_77 0 rfl ?_
          obtain ⟨x15, x16, S17, hv18, hv7⟩ := mb3 hv7
          have hJ79 : V E (cZ S17) (cU S17) (cw y S17) 113 [(0, .ref h), (1, .ref c1), (2, .ref c2), (3, .int c3), (4, .int x15), (5, .int x16), (6, .int i6)] [] := by
            refine V_goto hc dX9_change_113 rfl ?_
            obtain ⟨rfl, rfl, rfl⟩ := si3 hv7
            exact V_sub [0, 1, 2, 3, 4, 5, 6] rfl hJ29
          refine V_if_le hc dX9_change_79 rfl (fun hq79 => ?_) (fun hq79 => ?_)
          · rw [if_pos hq79] at hv18
            obtain ⟨rfl, rfl, rfl⟩ := si3 hv18
            exact V_sub [2, 3, 4, 5, 6, 7, 8] rfl hJ79
          · rw [if_neg hq79] at hv18
            refine V_aload_n hc dX9_change_82 rfl 3 rfl ?_
            obtain ⟨a19, ha19, hv18⟩ := mb hv18
            refine C_getr hc rfl iW7 (by decide) 0 (by decide) rfl ha19 w1_167 dX9_change_83 ?_
            refine V_iload hc dX9_change_86 6 rfl ?_
            refine V_aload_n hc dX9_change_88 rfl 2 rfl ?_
            obtain ⟨a20, ha20, hv18⟩ := mb hv18
            refine C_getr hc rfl iW9 (by decide) 4 (by decide) rfl ha20 w1_135 dX9_change_89 ?_
            refine V_iload hc dX9_change_92 7 rfl ?_
            refine V_iload hc dX9_change_94 0 rfl ?_
            obtain ⟨S21, hS21, hv18⟩ := mb hv18
            refine C_copy hc hz hS21 w4_85 w3_198 w3_197 w1_19 ⟨(Nat.le_of_ble_eq_true rfl), (Nat.le_of_ble_eq_true rfl)⟩ (Nat.le_of_ble_eq_true rfl) dX9_change_96 ?_
            refine V_iload hc dX9_change_99 6 rfl ?_
            refine V_iload hc dX9_change_101 0 rfl ?_
            refine V_iadd hc dX9_change_103 ?_
            refine V_istore hc dX9_change_104 (by decide) rfl ?_
            refine V_iload hc dX9_change_106 7 rfl ?_
            refine V_iload hc dX9_change_108 1 rfl ?_
            refine V_iadd hc dX9_change_110 ?_
            refine V_istore hc dX9_change_111 (by decide) rfl ?_
            obtain ⟨rfl, rfl, rfl⟩ := si3 hv18
            exact V_sub [4, 5, 6, 7, 1, 0, 8] rfl hJ79
      · rw [if_neg hq29] at hv7
        refine V_iload hc dX9_change_32 5 rfl ?_
        refine V_iload hc dX9_change_34 0 rfl ?_
        refine V_isub hc dX9_change_36 ?_
        refine V_istore hc dX9_change_37 (by decide) rfl ?_
        refine V_goto hc dX9_change_39 rfl ?_
        obtain ⟨rfl, rfl, rfl⟩ := si3 hv7
        exact V_sub [2, 3, 4, 5, 0, 6, 7] rfl hJ29
set_option maxHeartbeats 4000000 in
set_option maxRecDepth 100000 in
theorem c9_change (l : Launch) (D : va_G) (y : CyT) (zM uM : Nat) {S S' : CS} {h : Nat} {p1 : Nat} {p2 : Nat} {p3 : Int32} (hf : f9_change S h p1 p2 p3 = some S') : CT l D y yX9_change cX9_change 9 none 1 26 zM uM [.ref h, .ref p1, .ref p2, .int p3] (cZ S) (cU S) (cw y S) (cZ S') (cU S') (cw y S') none := by
  refine CT.of (by decide) (Nat.le_of_ble_eq_true rfl) (fun E hc hzz hnm => ?_)
  have hc : Cx E "FarEditors$Weaver" cX9_change 9 := hc
  have hz := hzz.1
  have hT := hz.2.2.1
  show V E (cZ S) (cU S) (cw y S) 0 [(0, .ref h), (1, .ref p1), (2, .ref p2), (3, .int p3)] []
  unfold f9_change at hf
  refine V_iconst hc (v := (0 : Int32)) dX9_change_0 rfl ?_
  refine V_istore hc dX9_change_1 (by decide) rfl ?_
  refine V_iconst hc (v := (0 : Int32)) dX9_change_3 rfl ?_
  refine V_istore hc dX9_change_4 (by decide) rfl ?_
  refine V_iconst hc (v := (0 : Int32)) dX9_change_6 rfl ?_
  refine V_istore hc dX9_change_7 (by decide) rfl ?_
  obtain ⟨x1, S2, hv3, hf⟩ := mb2 hf
  refine V_sub [3, 4, 5, 6, 2, 1, 0] rfl (LX9_change_9_ok hc h p1 p2 p3 hz FU _ _ _ _ hv3 ?_)
  refine V_aload_n hc dX9_change_148 rfl 1 rfl ?_
  obtain ⟨a4, ha4, hf⟩ := mb hf
  refine C_getr hc rfl iW7 (by decide) 0 (by decide) rfl ha4 w1_167 dX9_change_149 ?_
  refine V_astore hc dX9_change_152 (by decide) rfl ?_
  refine V_aload_n hc dX9_change_154 rfl 2 rfl ?_
  refine V_aload_n hc dX9_change_155 rfl 1 rfl ?_
  obtain ⟨a5, ha5, hf⟩ := mb hf
  refine C_getr hc rfl iW9 (by decide) 4 (by decide) rfl ha5 w1_135 dX9_change_156 ?_
  obtain ⟨S6, hS6, hf⟩ := mb hf
  refine C_putr hc rfl iW7 tyX7 tyX7_ok nmX7 (by decide) 0 (by decide) rfl hS6 w1_167 rfl rfl rfl dX9_change_159 ?_
  refine V_aload_n hc dX9_change_162 rfl 2 rfl ?_
  refine V_iload hc dX9_change_163 3 rfl ?_
  obtain ⟨S7, hS7, hf⟩ := mb hf
  refine C_puti hc rfl iW7 tyX7 tyX7_ok nmX7 (by decide) 1 (by decide) rfl hS7 w1_169 rfl rfl rfl dX9_change_165 ?_
  refine V_aload_n hc dX9_change_168 rfl 1 rfl ?_
  refine V_aload hc dX9_change_169 0 rfl ?_
  obtain ⟨S8, hS8, hf⟩ := mb hf
  refine C_putr hc rfl iW9 tyX9 tyX9_ok nmX9 (by decide) 4 (by decide) rfl hS8 w1_135 rfl rfl rfl dX9_change_171 ?_
  obtain rfl := Option.some.inj hf
  exact V_vret hc hzz rfl rfl rfl rfl dX9_change_174
