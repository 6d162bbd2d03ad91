def sl (i : Nat) : Int32 := Int32.ofNat (sLen.getD i 0)
def sch (i : Nat) (j : Int32) : Option Int32 := if j < 0 ∨ sLen.getD i 0 ≤ j.toNatClampNeg then none else some ((sByt.getD i []).getD j.toNatClampNeg 0)
theorem s_len : ∀ i, i < 10 → Int32.ofNat (sLen.getD i 0) >>> ((0 : Int32) &&& 31) = sl i := by decide +kernel
theorem s_byt : ∀ i, i < 10 → ∀ j, j < sLen.getD i 0 → ((((sByt.getD i []).getD j 0 &&& (255 : Int32)).toUInt32 % 65536).toInt32 = (sByt.getD i []).getD j 0 ∧ narrow .char (.int ((sByt.getD i []).getD j 0)) = .int ((sByt.getD i []).getD j 0)) := by decide +kernel
section VS
variable {E : CxT} {own : String} {cc : ByteArray} {nl : Nat} {pc : Nat} {lv : List (Nat × Value)} {st stk : List Value} {z u : Nat} {ws : va_W} {l : Launch} {D : va_G} {ty : CyT} {fr lo zM uM z' u' : Nat} {ret : Option FieldType} {ws' : va_W} {rv : Option Value}
theorem V_gets (hc : Cx E own cc nl) {C n d : String} {v : Value} (hX : va_Z C n d v (xF E) (xS E) (xS E).heap) {index : Nat} (hlink : Cond.fieldLink own index C n d ∈ WB) (hdg : decode cc pc = .ok (.getstatic index, 3)) (kk : V E z u ws (pc + 3) lv (v :: st)) : V E z u ws pc lv st := fun H locs ls h hP hD hS hZ => va_gets hc.1 hc.2.1 hX hS hc.2.2.2.1 (hc.2.2.2.2.1 _ hlink) (fun _ h9 => h9) hdg (kk H locs ls h hP hD hS hZ)
theorem V_getO (hc : Cx E own cc nl) {o n d : String} {q : Nat} {v : Value} (hX : va_OF o n d v q (xF E) (xS E) (xS E).heap) {index : Nat} (hlink : Cond.fieldLink own index o n d ∈ WB) (hdg : decode cc pc = .ok (.getfield index, 3)) (kk : V E z u ws (pc + 3) lv (v :: st)) : V E z u ws pc lv (.ref q :: st) := fun H locs ls h hP hD hS hZ => vk_getf hc.1 hc.2.1 hX hS hc.2.2.2.1 (hc.2.2.2.2.1 _ hlink) (fun _ h9 => h9) hdg (kk H locs ls h hP hD hS hZ)
theorem V_tlen (hc : Cx E own cc nl) {t N : Nat} {f : Nat → Value} {ty : FieldType} (hX : va_T ty t N f (xF E) (xS E) (xS E).heap) {v : Int32} (hv : Int32.ofNat N = v) (hdg : decode cc pc = .ok (.arraylength, 1)) (kk : V E z u ws (pc + 1) lv (.int v :: st)) : V E z u ws pc lv (.ref t :: st) := fun H locs ls h hP hD hS hZ => va_tlen hc.1 hc.2.1 hX hS hv hdg (kk H locs ls h hP hD hS hZ)
theorem V_tb (hc : Cx E own cc nl) {t N : Nat} {f : Nat → Value} (hX : va_T .byte t N f (xF E) (xS E) (xS E).heap) {i : Int32} (hin : vp_in i N) {v : Value} (hv : f i.toNatClampNeg = v) (hdg : decode cc pc = .ok (.baload, 1)) (kk : V E z u ws (pc + 1) lv (v :: st)) : V E z u ws pc lv (.int i :: .ref t :: st) := fun H locs ls h hP hD hS hZ => va_tb hc.1 hc.2.1 hX hS hin hv hdg (kk H locs ls h hP hD hS hZ)
theorem V_i2c (hc : Cx E own cc nl) {x v : Int32} (hdg : decode cc pc = .ok (.i2c, 1)) (hv : (x.toUInt32 % 65536).toInt32 = v) (kk : V E z u ws (pc + 1) lv (.int v :: st)) : V E z u ws pc lv (.int x :: st) := fun H locs ls h hP hD hS hZ => lv_i2c hc.1 hc.2.1 hdg hv (kk H locs ls h hP hD hS hZ)
theorem V_ldcS (hc : Cx E "FarEditors$Told" cc nl) {i index : Nat} (hi : i < 10) (hk : sK.getD i 0 = index) (hdg : decode cc pc = .ok (.ldc index, 2)) (kk : V E z u ws (pc + 2) lv (.ref (aK (xT E) i) :: st)) : V E z u ws pc lv st := fun H locs ls h hP hD hS hZ => va_ldcS hc.1 hc.2.1 hc.2.2.2.1 (hk ▸ hc.2.2.2.2.2.2.2.2.2.1 i hi) hdg (kk H locs ls h hP hD hS hZ)
/-- a call upon a String constant -/
theorem V_callVS (hc : Cx E own cc nl) (hz : Cy E l D ty fr lo zM uM) {yy : MethodName} {cb : ByteArray} {nl' : Nat} {ret' : Option FieldType} {fr' lo' : Nat} {As : List Value} {i : Nat} {rv1 : Option Value} {index n' : Nat} (hi : i < 10) (hM : CT l D ty yy cb nl' ret' fr' lo' zM uM (.ref (aK ty i) :: As) z u ws z u ws rv1)
    (h1 : Cond.methodLink own index yy ∈ WB) (h2 : Cond.instanceMethod yy ∈ WB) (h3 : Cond.selects "java/lang/String" yy yy ∈ WB) (h4 : Cond.initialized "java/lang/String" ∈ WB) (h5 : Cond.code yy cb nl' ret' ∈ WB)
    (hd : yy.cls = "java/lang/String" ∧ yy.cls ≠ "java/lang/invoke/MethodHandle" ∧ yy.cls ≠ "java/lang/invoke/VarHandle" ∧ (parseMethodDescriptor yy.desc).map (fun d => d.parameters.length) = some n')
    (hR : fr' + 1 ≤ fr ∧ 8 + (nl' + 11) + lo' ≤ lo) (hn : As.length = n') (hst : stk = As.reverse ++ .ref (aK ty i) :: st) (hroom : (st.map fun v => v.category).sum ≤ 8)
    (hdg : decode cc pc = .ok (.invokevirtual index, 3)) (kk : V E z u ws (pc + 3) lv (rv1.toList ++ st)) : V E z u ws pc lv stk := by
  intro H locs ls h hP hD hS hZ
  obtain ⟨z1, z2, z3, ⟨z4, z5, z6⟩⟩ := hz
  subst z1 z2 z3 z5 z6
  have hK := hc.2.2.2.2.2.1
  have h0 := hS.1
  have hz1 := hZ.1
  have hz2 := hZ.2.1
  have hz3 := hZ.2.2.1
  have hz4 := hZ.2.2.2
  exact V_run (hr := va_runV (As := As) (rest := st) (b := aK (xT E) i) ⟨hc.1, hc.2.1, hc.2.2.1.1, hc.2.2.2.1, hc.2.2.2.2.1⟩ (hM hZ.2.1 hZ.2.2.2) (cwV n' hc.2.2.2.2.1 (gV h1 h2 h3 h4 h5) rfl rfl rfl hd (by rw [z4]; exact hR))
    ⟨V_blind, vk_recv hc.2.2.2.2.2.2.2.2.2.2.1 hi hS, fun U hU hW => ⟨rfl, by rw [hU]; exact hZ.1, by rw [hU]; exact hP, ⟨va_K.moved hW.alike hK, by rw [hU]; exact JX.call hc.2.2.2.2.2.2.2.2 hW hS (V_free hc hD hS hZ.1)⟩, hD.weaken (fun _ _ _ _ => trivial)⟩⟩ rfl hn h.1 hst (lv_room hroom) hdg (by rw [z4]; exact ⟨by show _ + _ ≤ xZ E - _; omega, by show _ + _ ≤ xW E - _; omega⟩)) (V_free hc hD hS hZ.1) h hS hZ.2.2.1 kk
end VS
theorem hdS_l : (⟨"java/lang/String", "length", "()I"⟩ : MethodName).cls = "java/lang/String" ∧ (⟨"java/lang/String", "length", "()I"⟩ : MethodName).cls ≠ "java/lang/invoke/MethodHandle" ∧ (⟨"java/lang/String", "length", "()I"⟩ : MethodName).cls ≠ "java/lang/invoke/VarHandle" ∧ (parseMethodDescriptor (⟨"java/lang/String", "length", "()I"⟩ : MethodName).desc).map (fun d => d.parameters.length) = some 0 := by decide +kernel
theorem hdS_c : (⟨"java/lang/String", "coder", "()B"⟩ : MethodName).cls = "java/lang/String" ∧ (⟨"java/lang/String", "coder", "()B"⟩ : MethodName).cls ≠ "java/lang/invoke/MethodHandle" ∧ (⟨"java/lang/String", "coder", "()B"⟩ : MethodName).cls ≠ "java/lang/invoke/VarHandle" ∧ (parseMethodDescriptor (⟨"java/lang/String", "coder", "()B"⟩ : MethodName).desc).map (fun d => d.parameters.length) = some 0 := by decide +kernel
theorem hdS_a : (⟨"java/lang/String", "charAt", "(I)C"⟩ : MethodName).cls = "java/lang/String" ∧ (⟨"java/lang/String", "charAt", "(I)C"⟩ : MethodName).cls ≠ "java/lang/invoke/MethodHandle" ∧ (⟨"java/lang/String", "charAt", "(I)C"⟩ : MethodName).cls ≠ "java/lang/invoke/VarHandle" ∧ (parseMethodDescriptor (⟨"java/lang/String", "charAt", "(I)C"⟩ : MethodName).desc).map (fun d => d.parameters.length) = some 1 := by decide +kernel
theorem hdS_i : (⟨"java/lang/String", "isLatin1", "()Z"⟩ : MethodName).cls = "java/lang/String" ∧ (⟨"java/lang/String", "isLatin1", "()Z"⟩ : MethodName).cls ≠ "java/lang/invoke/MethodHandle" ∧ (⟨"java/lang/String", "isLatin1", "()Z"⟩ : MethodName).cls ≠ "java/lang/invoke/VarHandle" ∧ (parseMethodDescriptor (⟨"java/lang/String", "isLatin1", "()Z"⟩ : MethodName).desc).map (fun d => d.parameters.length) = some 0 := by decide +kernel
theorem hdS_1 : (⟨"java/lang/StringLatin1", "charAt", "([BI)C"⟩ : MethodName).cls = "java/lang/StringLatin1" ∧ (⟨"java/lang/StringLatin1", "charAt", "([BI)C"⟩ : MethodName).cls ≠ "java/lang/invoke/MethodHandle" ∧ (⟨"java/lang/StringLatin1", "charAt", "([BI)C"⟩ : MethodName).cls ≠ "java/lang/invoke/VarHandle" ∧ (parseMethodDescriptor (⟨"java/lang/StringLatin1", "charAt", "([BI)C"⟩ : MethodName).desc).map (fun d => d.parameters.length) = some 2 := by decide +kernel
theorem hdS_k : (⟨"java/lang/String", "checkIndex", "(II)V"⟩ : MethodName).cls = "java/lang/String" ∧ (⟨"java/lang/String", "checkIndex", "(II)V"⟩ : MethodName).cls ≠ "java/lang/invoke/MethodHandle" ∧ (⟨"java/lang/String", "checkIndex", "(II)V"⟩ : MethodName).cls ≠ "java/lang/invoke/VarHandle" ∧ (parseMethodDescriptor (⟨"java/lang/String", "checkIndex", "(II)V"⟩ : MethodName).desc).map (fun d => d.parameters.length) = some 2 := by decide +kernel
theorem hdS_p : (⟨"jdk/internal/util/Preconditions", "checkIndex", "(IILjava/util/function/BiFunction;)I"⟩ : MethodName).cls = "jdk/internal/util/Preconditions" ∧ (⟨"jdk/internal/util/Preconditions", "checkIndex", "(IILjava/util/function/BiFunction;)I"⟩ : MethodName).cls ≠ "java/lang/invoke/MethodHandle" ∧ (⟨"jdk/internal/util/Preconditions", "checkIndex", "(IILjava/util/function/BiFunction;)I"⟩ : MethodName).cls ≠ "java/lang/invoke/VarHandle" ∧ (parseMethodDescriptor (⟨"jdk/internal/util/Preconditions", "checkIndex", "(IILjava/util/function/BiFunction;)I"⟩ : MethodName).desc).map (fun d => d.parameters.length) = some 3 := by decide +kernel
theorem s_small : ∀ i, i < 10 → sLen.getD i 0 < 100 := by decide +kernel
theorem s_lt {j : Int32} {n : Nat} (hn : n < 100) (h0 : ¬ j < 0) (h : j.toNatClampNeg < n) : j < Int32.ofNat n := by
  rw [Int32.lt_iff_toInt_lt]
  have h1 : ¬ j.toInt < 0 := fun q => h0 (Int32.lt_iff_toInt_lt.mpr q)
  have h2 : j.toInt = (j.toNatClampNeg : Int) := by rw [← Int32.toNat_toInt]; omega
  have h3 : (Int32.ofNat n).toInt = (n : Int) := by rw [Int32.toInt_ofNat']; have hz : Int32.size = 4294967296 := rfl; exact Int.bmod_eq_of_le (by omega) (by omega)
  omega
set_option maxHeartbeats 4000000 in
set_option maxRecDepth 100000 in
theorem cS_p (l : Launch) (D : va_G) (y : CyT) (zM uM z u : Nat) (ws : va_W) {i n : Int32} (o : Option Nat) (h0 : ¬ i < 0) (h1 : i < n) : CT l D y (⟨"jdk/internal/util/Preconditions", "checkIndex", "(IILjava/util/function/BiFunction;)I"⟩ : MethodName) cJ3_checkIndex_8e157 3 (some .int) 0 0 zM uM [.int i, .int n, va_rf o] z u ws z u ws (some (.int i)) := by
  refine CT.of (by decide) (by cases o <;> exact Nat.le_of_ble_eq_true rfl) (fun E hc hzz hnm => ?_)
  have hc : Cx E "jdk/internal/util/Preconditions" cJ3_checkIndex_8e157 3 := hc
  have hz := hzz.1
  show V E z u ws 0 [(0, .int i), (1, .int n), (2, va_rf o)] []
  refine V_iload_n hc dJ3_checkIndex_8e157_0 rfl 0 rfl ?_
  refine V_if_lt hc dJ3_checkIndex_8e157_1 rfl (fun hh => absurd hh h0) (fun _ => ?_)
  refine V_iload_n hc dJ3_checkIndex_8e157_4 rfl 0 rfl ?_
  refine V_iload_n hc dJ3_checkIndex_8e157_5 rfl 1 rfl ?_
  refine V_icmp_lt hc dJ3_checkIndex_8e157_6 rfl (fun _ => ?_) (fun hh => absurd h1 hh)
  refine V_iload_n hc dJ3_checkIndex_8e157_16 rfl 0 rfl ?_
  exact V_iret hc hzz rfl rfl rfl rfl rfl dJ3_checkIndex_8e157_17
set_option maxHeartbeats 4000000 in
set_option maxRecDepth 100000 in
theorem cS_k (l : Launch) (D : va_G) (y : CyT) (zM uM z u : Nat) (ws : va_W) {i n : Int32} (h0 : ¬ i < 0) (h1 : i < n) : CT l D y (⟨"java/lang/String", "checkIndex", "(II)V"⟩ : MethodName) cJ0_checkIndex_df160 2 none 1 22 zM uM [.int i, .int n] z u ws z u ws none := by
  refine CT.of (by decide) (Nat.le_of_ble_eq_true rfl) (fun E hc hzz hnm => ?_)
  have hc : Cx E "java/lang/String" cJ0_checkIndex_df160 2 := hc
  have hz := hzz.1
  have hT := hz.2.2.1
  have hJ := hc.2.2.2.2.2.2.2.2
  rw [hT] at hJ
  show V E z u ws 0 [(0, .int i), (1, .int n)] []
  refine V_iload_n hc dJ0_checkIndex_df160_0 rfl 0 rfl ?_
  refine V_iload_n hc dJ0_checkIndex_df160_1 rfl 1 rfl ?_
  refine V_gets hc hJ.2.2.2.2 w3_89 dJ0_checkIndex_df160_2 ?_
  refine V_callSX hc hz (As := [.int i, .int n, va_rf (aF y)]) (cS_p l D y _ _ _ _ _ (aF y) h0 h1) w3_91 w3_92 w1_16 w3_93 hdS_p.2 ⟨(Nat.le_of_ble_eq_true rfl), (Nat.le_of_ble_eq_true rfl)⟩ rfl rfl (Nat.le_of_ble_eq_true rfl) dJ0_checkIndex_df160_5 ?_
  refine V_pop hc dJ0_checkIndex_df160_8 rfl ?_
  exact V_vret hc hzz rfl rfl rfl rfl dJ0_checkIndex_df160_9
set_option maxHeartbeats 4000000 in
set_option maxRecDepth 100000 in
theorem cS_1 (l : Launch) (D : va_G) (y : CyT) (zM uM z u : Nat) (ws : va_W) {i : Nat} {j : Int32} (hi : i < 10) (h0 : vp_in j (sLen.getD i 0)) : CT l D y (⟨"java/lang/StringLatin1", "charAt", "([BI)C"⟩ : MethodName) cJ1_charAt_3b067 2 (some .char) 2 43 zM uM [.ref (aV y i), .int j] z u ws z u ws (some (.int ((sByt.getD i []).getD j.toNatClampNeg 0))) := by
  refine CT.of (by decide) (Nat.le_of_ble_eq_true rfl) (fun E hc hzz hnm => ?_)
  have hc : Cx E "java/lang/StringLatin1" cJ1_charAt_3b067 2 := hc
  have hz := hzz.1
  have hT := hz.2.2.1
  have hJ := hc.2.2.2.2.2.2.2.2
  rw [hT] at hJ
  show V E z u ws 0 [(0, .ref (aV y i)), (1, .int j)] []
  have hs := (hJ.2.2.1.1 i hi).2.2.2
  have hlt : j.toNatClampNeg < sLen.getD i 0 := Nat.not_le.mp fun q => h0 (Or.inr q)
  have hn := s_small i hi
  refine V_iload_n hc dJ1_charAt_3b067_0 rfl 1 rfl ?_
  refine V_aload_n hc dJ1_charAt_3b067_1 rfl 0 rfl ?_
  refine V_tlen hc hs rfl dJ1_charAt_3b067_2 ?_
  refine V_callSX hc hz (As := [.int j, .int (Int32.ofNat (sLen.getD i 0))]) (cS_k l D y _ _ _ _ _ (fun q => h0 (Or.inl q)) (s_lt hn (fun q => h0 (Or.inl q)) hlt)) w3_86 w3_87 w1_14 w3_88 hdS_k.2 ⟨(Nat.le_of_ble_eq_true rfl), (Nat.le_of_ble_eq_true rfl)⟩ rfl rfl (Nat.le_of_ble_eq_true rfl) dJ1_charAt_3b067_3 ?_
  refine V_aload_n hc dJ1_charAt_3b067_6 rfl 0 rfl ?_
  refine V_iload_n hc dJ1_charAt_3b067_7 rfl 1 rfl ?_
  refine V_tb hc hs h0 rfl dJ1_charAt_3b067_8 ?_
  refine V_sipush hc (v := (255 : Int32)) dJ1_charAt_3b067_9 rfl ?_
  refine V_iand hc dJ1_charAt_3b067_12 ?_
  refine V_i2c hc dJ1_charAt_3b067_13 (s_byt i hi _ hlt).1 ?_
  exact V_iret hc hzz (s_byt i hi _ hlt).2 rfl rfl rfl rfl dJ1_charAt_3b067_14
set_option maxHeartbeats 4000000 in
set_option maxRecDepth 100000 in
theorem cS_c (l : Launch) (D : va_G) (y : CyT) (zM uM z u : Nat) (ws : va_W) {i : Nat} (hi : i < 10) : CT l D y (⟨"java/lang/String", "coder", "()B"⟩ : MethodName) cJ0_coder_7d493 1 (some .byte) 0 0 zM uM [.ref (aK y i)] z u ws z u ws (some (.int 0)) := by
  refine CT.of (by decide) (Nat.le_of_ble_eq_true rfl) (fun E hc hzz hnm => ?_)
  have hc : Cx E "java/lang/String" cJ0_coder_7d493 1 := hc
  have hz := hzz.1
  have hT := hz.2.2.1
  have hJ := hc.2.2.2.2.2.2.2.2
  rw [hT] at hJ
  show V E z u ws 0 [(0, .ref (aK y i))] []
  refine V_gets hc hJ.2.2.2.1 w3_73 dJ0_coder_7d493_0 ?_
  refine V_if_eq hc dJ0_coder_7d493_3 rfl (fun hh => absurd hh (by decide)) (fun _ => ?_)
  refine V_aload_n hc dJ0_coder_7d493_6 rfl 0 rfl ?_
  refine V_getO hc (hJ.2.2.1.1 i hi).2.1 w9_79 dJ0_coder_7d493_7 ?_
  refine V_goto hc dJ0_coder_7d493_10 rfl ?_
  exact V_iret hc hzz rfl rfl rfl rfl rfl dJ0_coder_7d493_14
set_option maxHeartbeats 4000000 in
set_option maxRecDepth 100000 in
theorem cS_i (l : Launch) (D : va_G) (y : CyT) (zM uM z u : Nat) (ws : va_W) {i : Nat} (hi : i < 10) : CT l D y (⟨"java/lang/String", "isLatin1", "()Z"⟩ : MethodName) cJ0_isLatin1_aae02 1 (some .boolean) 0 0 zM uM [.ref (aK y i)] z u ws z u ws (some (.int 1)) := by
  refine CT.of (by decide) (Nat.le_of_ble_eq_true rfl) (fun E hc hzz hnm => ?_)
  have hc : Cx E "java/lang/String" cJ0_isLatin1_aae02 1 := hc
  have hz := hzz.1
  have hT := hz.2.2.1
  have hJ := hc.2.2.2.2.2.2.2.2
  rw [hT] at hJ
  show V E z u ws 0 [(0, .ref (aK y i))] []
  refine V_gets hc hJ.2.2.2.1 w3_73 dJ0_isLatin1_aae02_0 ?_
  refine V_if_eq hc dJ0_isLatin1_aae02_3 rfl (fun hh => absurd hh (by decide)) (fun _ => ?_)
  refine V_aload_n hc dJ0_isLatin1_aae02_6 rfl 0 rfl ?_
  refine V_getO hc (hJ.2.2.1.1 i hi).2.1 w9_79 dJ0_isLatin1_aae02_7 ?_
  refine V_if_ne hc dJ0_isLatin1_aae02_10 rfl (fun hh => absurd rfl hh) (fun _ => ?_)
  refine V_iconst hc (v := (1 : Int32)) dJ0_isLatin1_aae02_13 rfl ?_
  refine V_goto hc dJ0_isLatin1_aae02_14 rfl ?_
  exact V_iret hc hzz rfl rfl rfl rfl rfl dJ0_isLatin1_aae02_18
set_option maxHeartbeats 4000000 in
set_option maxRecDepth 100000 in
theorem cS_l (l : Launch) (D : va_G) (y : CyT) (zM uM z u : Nat) (ws : va_W) {i : Nat} (hi : i < 10) : CT l D y (⟨"java/lang/String", "length", "()I"⟩ : MethodName) cJ0_length_8abf5 1 (some .int) 1 20 zM uM [.ref (aK y i)] z u ws z u ws (some (.int (sl i))) := by
  refine CT.of (by decide) (Nat.le_of_ble_eq_true rfl) (fun E hc hzz hnm => ?_)
  have hc : Cx E "java/lang/String" cJ0_length_8abf5 1 := hc
  have hz := hzz.1
  have hT := hz.2.2.1
  have hJ := hc.2.2.2.2.2.2.2.2
  rw [hT] at hJ
  show V E z u ws 0 [(0, .ref (aK y i))] []
  refine V_aload_n hc dJ0_length_8abf5_0 rfl 0 rfl ?_
  refine V_getO hc (hJ.2.2.1.1 i hi).2.2.1 w9_78 dJ0_length_8abf5_1 ?_
  refine V_tlen hc (hJ.2.2.1.1 i hi).2.2.2 rfl dJ0_length_8abf5_4 ?_
  refine V_aload_n hc dJ0_length_8abf5_5 rfl 0 rfl ?_
  refine V_callVS hc hz (As := []) hi (cS_c l D y _ _ _ _ _ hi) w3_69 w3_70 w3_71 w1_14 w3_72 hdS_c ⟨(Nat.le_of_ble_eq_true rfl), (Nat.le_of_ble_eq_true rfl)⟩ rfl rfl (Nat.le_of_ble_eq_true rfl) dJ0_length_8abf5_6 ?_
  refine V_ishr hc dJ0_length_8abf5_9 ?_
  rw [s_len i hi]
  exact V_iret hc hzz rfl rfl rfl rfl rfl dJ0_length_8abf5_10
set_option maxHeartbeats 4000000 in
set_option maxRecDepth 100000 in
theorem cS_a (l : Launch) (D : va_G) (y : CyT) (zM uM z u : Nat) (ws : va_W) {i : Nat} {j v : Int32} (hi : i < 10) (hv : sch i j = some v) : CT l D y (⟨"java/lang/String", "charAt", "(I)C"⟩ : MethodName) cJ0_charAt_5068e 2 (some .char) 3 64 zM uM [.ref (aK y i), .int j] z u ws z u ws (some (.int v)) := by
  refine CT.of (by decide) (Nat.le_of_ble_eq_true rfl) (fun E hc hzz hnm => ?_)
  have hc : Cx E "java/lang/String" cJ0_charAt_5068e 2 := hc
  have hz := hzz.1
  have hT := hz.2.2.1
  have hJ := hc.2.2.2.2.2.2.2.2
  rw [hT] at hJ
  show V E z u ws 0 [(0, .ref (aK y i)), (1, .int j)] []
  have h9 : vp_in j (sLen.getD i 0) ∧ (sByt.getD i []).getD j.toNatClampNeg 0 = v := by
    unfold sch at hv
    split at hv
    · cases hv
    · rename_i hh
      exact ⟨hh, Option.some.inj hv⟩
  obtain ⟨h0, rfl⟩ := h9
  have hlt : j.toNatClampNeg < sLen.getD i 0 := Nat.not_le.mp fun q => h0 (Or.inr q)
  refine V_aload_n hc dJ0_charAt_5068e_0 rfl 0 rfl ?_
  refine V_callVS hc hz (As := []) hi (cS_i l D y _ _ _ _ _ hi) w3_79 w3_80 w3_81 w1_14 w3_82 hdS_i ⟨(Nat.le_of_ble_eq_true rfl), (Nat.le_of_ble_eq_true rfl)⟩ rfl rfl (Nat.le_of_ble_eq_true rfl) dJ0_charAt_5068e_1 ?_
  refine V_if_eq hc dJ0_charAt_5068e_4 rfl (fun hh => absurd hh (by decide)) (fun _ => ?_)
  refine V_aload_n hc dJ0_charAt_5068e_7 rfl 0 rfl ?_
  refine V_getO hc (hJ.2.2.1.1 i hi).2.2.1 w9_78 dJ0_charAt_5068e_8 ?_
  refine V_iload_n hc dJ0_charAt_5068e_11 rfl 1 rfl ?_
  refine V_callSX hc hz (As := [.ref (aV y i), .int j]) (cS_1 l D y _ _ _ _ _ hi h0) w3_83 w3_84 w1_15 w3_85 hdS_1.2 ⟨(Nat.le_of_ble_eq_true rfl), (Nat.le_of_ble_eq_true rfl)⟩ rfl rfl (Nat.le_of_ble_eq_true rfl) dJ0_charAt_5068e_12 ?_
  exact V_iret hc hzz (s_byt i hi _ hlt).2 rfl rfl rfl rfl dJ0_charAt_5068e_15
