theorem P_left {D : va_G} {wA wB : va_W} {H : Heap} (h : va_P D vwCl (wA ++ wB) H) : va_P D vwCl wA H := fun k q hk => h k q (by rw [List.getElem?_append_left (List.getElem?_eq_some_iff.mp hk).1]; exact hk)
theorem P_right {D : va_G} {wA wB : va_W} {H : Heap} (h : va_P D vwCl (wA ++ wB) H) : va_P D vwCl wB H := fun k q hk => h (wA.length + k) q (by rw [List.getElem?_append_right (by omega), Nat.add_sub_cancel_left]; exact hk)
theorem D_left {A : Nat → Prop} {wA wB : va_W} (h : va_D A (wA ++ wB)) : va_D A wA := ⟨fun i j p q hi hj e => h.1 i j p q (by rw [List.getElem?_append_left (List.getElem?_eq_some_iff.mp hi).1]; exact hi) (by rw [List.getElem?_append_left (List.getElem?_eq_some_iff.mp hj).1]; exact hj) e, fun k q hk => h.2 k q (by rw [List.getElem?_append_left (List.getElem?_eq_some_iff.mp hk).1]; exact hk)⟩
theorem D_right {A : Nat → Prop} {wA wB : va_W} (h : va_D A (wA ++ wB)) : va_D A wB := ⟨fun i j p q hi hj e => by
    have := h.1 (wA.length + i) (wA.length + j) p q (by rw [List.getElem?_append_right (by omega), Nat.add_sub_cancel_left]; exact hi) (by rw [List.getElem?_append_right (by omega), Nat.add_sub_cancel_left]; exact hj) e
    omega, fun k q hk => h.2 (wA.length + k) q (by rw [List.getElem?_append_right (by omega), Nat.add_sub_cancel_left]; exact hk)⟩
theorem D_apart {A : Nat → Prop} {wA wB : va_W} (h : va_D A (wA ++ wB)) {i j : Nat} {x w : Nat × va_E} (hi : wA[i]? = some x) (hj : wB[j]? = some w) : x.1 ≠ w.1 := fun e => by
  have hl := (List.getElem?_eq_some_iff.mp hi).1
  have := h.1 i (wA.length + j) x w (by rw [List.getElem?_append_left hl]; exact hi) (by rw [List.getElem?_append_right (by omega), Nat.add_sub_cancel_left]; exact hj) e
  omega
section LC
variable {E : CxT} {own : String} {cc : ByteArray} {nl : Nat} {pc : Nat} {lv : List (Nat × Value)} {st stk : List Value} {z u : Nat} {wA wB w1 : va_W} {l : Launch} {D : va_G} {ty : CyT} {fr lo zM uM : Nat}
theorem V_perm (kk : V E z u (wB ++ wA) pc lv st) : V E z u (wA ++ wB) pc lv st := fun H locs ls h hP hD hS hZ =>
  kk H locs ls h ((P_right hP).app (P_left hP)) (va_D.app (D_right hD) (D_left hD) (fun i j x y hx hy hxy => D_apart hD hy hx hxy.symm)) hS hZ
theorem V_runF {rest : List Value} {mc' ms' z1 u1 : Nat} {a : Array Value} {rv1 : Option Value} {H : Heap} {locs : List Loc} {ls : Array Slot} (hr : va_Run (xP E) (xL E) (xE E) (xR E) (xS E) (xM E) (xA E) (xB E) (xH E) (xC E) H locs (z - (xS E).heap.size) (u - xU E) mc' ms' (F0 (xM E) pc ls st) rest (QT (xD E) (va_A wA z) u z1 u1 (xZ E) (xW E) w1 rv1 a) (va_A wA z)) (hF : ∀ q, va_A wA z q → xF E q) (h : lv_has ls (xN E) lv) (hP : va_P (xD E) vwCl (wA ++ wB) H) (hD : va_D (xF E) (wA ++ wB)) (hS : va_S (xF E) (xS E).heap H locs) (hHz : H.size = z) (hu : xU E ≤ u) (kk : V E z1 u1 (w1 ++ wB) (pc + 3) lv (rv1.toList ++ rest)) :
    W (xP E) (xL E) (xE E) (xR E) (xS E) (xM E) (xA E) (xB E) (xH E) (xC E) H locs (z - (xS E).heap.size) (u - xU E) (xQ E) (F0 (xM E) pc ls st) := by
  intro T hT X
  obtain ⟨v, st₀, t, T', L, h0, X', hL, e1, e2, ⟨hv, hP1, hD1, ⟨hz, hk⟩, hSZ, q1, q2, q3⟩, hgo⟩ := hr T hT X
  cases hv
  rw [h0] at hz hk hSZ
  have X2 : Stand (xP E) (xL E) (xE E) (xR E) (xS E) (xM E) (xA E) (xB E) (xH E) (xC E) T' (locs ++ L) (z1 - (xS E).heap.size) (u1 - xU E) := by
    have h5 := same_tight X.same X'.same (by rw [hT, e1]; exact hSZ) (by rw [hT, e1]; exact hz)
    have e3 : u - xU E + (u1 - u) = u1 - xU E := by omega
    rw [e3] at h5
    exact { X' with same := h5 }
  have hout : ∀ (k : Nat) (x : Nat × va_E), wB[k]? = some x → x.1 < H.size ∧ ¬ va_A wA z x.1 := fun k x hx => by
    have hl := (P_right hP k x hx).lt
    refine ⟨hl, ?_⟩
    rintro (⟨i, e, he⟩ | hq)
    · exact D_apart hD he hx rfl
    · omega
  have hPB : va_P (xD E) vwCl wB t.heap := (P_right hP).kept (fun k x hx => hk x.1 (hout k x hx).1 (hout k x hx).2)
  obtain ⟨t2, a1, b1⟩ := kk T'.heap (locs ++ L) ls h (by rw [e1]; exact hP1.app hPB) (va_D.app (hD1.weaken (fun _ q _ h => hF q.1 h)) (D_right hD) (fun i j x y hx hy hxy => (hout j y hy).2 (hxy ▸ hD1.2 i x hx)))
    ⟨Nat.le_trans hS.1 (by rw [e1]; exact hz), fun q h1 h2 => by rw [e1, hk q (Nat.lt_of_lt_of_le h1 hS.1) (fun z => h2 (hF q z))]; exact hS.2.1 q h1 h2, fun q hq => by
      rcases List.mem_append.mp hq with h | h
      · exact hS.2.2 q h
      · exact hF _ (hL q h)⟩ ⟨by rw [e1]; exact hSZ.1, q1, by omega, q3⟩ T' rfl X2
  exact ⟨t2, hgo t2 a1, b1⟩
theorem V_callF (hc : Cx E own cc nl) (hz : Cy E l D ty fr lo zM uM) {y : MethodName} {cb : ByteArray} {nl' : Nat} {ret' : Option FieldType} {fr' lo' : Nat} {As : List Value} {b : Nat} {rv1 : Option Value} {z1 u1 : Nat} {C : String} {index n' : Nat} {ci q0 : Nat} {fs : List Value} {vc : vw_C} (hM : CT l D ty y cb nl' ret' fr' lo' zM uM (.ref b :: As) z u wA z1 u1 w1 rv1)
    (h1 : Cond.methodLink own index y ∈ WB) (h2 : Cond.instanceMethod y ∈ WB) (h3 : Cond.selects C y y ∈ WB) (h4 : Cond.initialized C ∈ WB) (h5 : Cond.code y cb nl' ret' ∈ WB)
    (hd : y.cls = C ∧ y.cls ≠ "java/lang/invoke/MethodHandle" ∧ y.cls ≠ "java/lang/invoke/VarHandle" ∧ (parseMethodDescriptor y.desc).map (fun d => d.parameters.length) = some n')
    (hR : fr' + 1 ≤ fr ∧ 8 + (nl' + 11) + lo' ≤ lo) (hq : wA[q0]? = some (b, .inr (ci, fs))) (hcl : vwCl[ci]? = some vc) (hC : vc.1 = C) (hn : As.length = n') (hst : stk = As.reverse ++ .ref b :: st) (hroom : (st.map fun v => v.category).sum ≤ 8)
    (hdg : decode cc pc = .ok (.invokevirtual index, 3)) (kk : V E z1 u1 (w1 ++ wB) (pc + 3) lv (rv1.toList ++ st)) : V E z u (wA ++ wB) pc lv stk := by
  intro H locs ls h hP hD hS hZ
  obtain ⟨z1, z2, z3, ⟨z4, z5, z6⟩⟩ := hz
  subst z1 z2 z3 hC z5 z6
  have hK := hc.2.2.2.2.2.1
  have h0 := hS.1
  have hz1 := hZ.1
  have hz2 := hZ.2.1
  have hz3 := hZ.2.2.1
  have hz4 := hZ.2.2.2
  exact V_runF (hr := va_runV (As := As) (rest := st) (b := b) ⟨hc.1, hc.2.1, hc.2.2.1.1, hc.2.2.2.1, hc.2.2.2.2.1⟩ (hM hZ.2.1 hZ.2.2.2) (cwV n' hc.2.2.2.2.1 (gV h1 h2 h3 h4 h5) rfl rfl rfl hd (by rw [z4]; exact hR))
    ⟨V_blind, va_recv hK (P_left hP) hcl hq, fun U hU hW => ⟨rfl, by rw [hU]; exact hZ.1, by rw [hU]; exact P_left hP, ⟨va_K.moved hW.alike hK, by rw [hU]; exact JX.call hc.2.2.2.2.2.2.2.2 hW hS (V_free hc (D_left hD) hS hZ.1)⟩, (D_left hD).weaken (fun _ _ _ _ => trivial)⟩⟩ rfl hn h.1 hst (lv_room hroom) hdg (by rw [z4]; exact ⟨by show _ + _ ≤ xZ E - _; omega, by show _ + _ ≤ xW E - _; omega⟩)) (V_free hc (D_left hD) hS hZ.1) h hP hD hS hZ.1 hZ.2.2.1 kk
theorem V_callIF (hc : Cx E own cc nl) (hz : Cy E l D ty fr lo zM uM) {y : MethodName} {cb : ByteArray} {nl' : Nat} {fr' lo' : Nat} {As : List Value} {b : Nat} {z1 u1 : Nat} {index n' : Nat} (hM : CT l D ty y cb nl' none fr' lo' zM uM (.ref b :: As) z u wA z1 u1 w1 none)
    (h1 : Cond.methodLink own index y ∈ WB) (h2 : Cond.instanceMethod y ∈ WB) (h4 : Cond.initialized y.cls ∈ WB) (h5 : Cond.code y cb nl' none ∈ WB) (hnm : y.name = "<init>")
    (hd : y.cls ≠ "java/lang/invoke/MethodHandle" ∧ y.cls ≠ "java/lang/invoke/VarHandle" ∧ (parseMethodDescriptor y.desc).map (fun d => d.parameters.length) = some n')
    (hR : fr' + 1 ≤ fr ∧ 8 + (nl' + 11) + lo' ≤ lo) (hn : As.length = n') (hst : stk = As.reverse ++ .ref b :: st) (hroom : (st.map fun v => v.category).sum ≤ 8)
    (hdg : decode cc pc = .ok (.invokespecial index, 3)) (kk : V E z1 u1 (w1 ++ wB) (pc + 3) lv st) : V E z u (wA ++ wB) pc lv stk := by
  intro H locs ls h hP hD hS hZ
  obtain ⟨z1, z2, z3, ⟨z4, z5, z6⟩⟩ := hz
  subst z1 z2 z3 z5 z6
  have hK := hc.2.2.2.2.2.1
  have h0 := hS.1
  have hz1 := hZ.1
  have hz2 := hZ.2.1
  have hz3 := hZ.2.2.1
  have hz4 := hZ.2.2.2
  have hts := hc.2.2.2.2.1
  exact V_runF (hr := va_runI (As := As) (rest := st) (b := b) ⟨hc.1, hc.2.1, hc.2.2.1.1, hc.2.2.2.1, hts⟩ (hM hZ.2.1 hZ.2.2.2) (cwI n' hts (gI h5) rfl rfl rfl (hts _ h4) (hts _ h1) (hts _ h2) hnm hd (by rw [z4]; exact hR))
    ⟨V_blind, fun U hU hW => ⟨rfl, by rw [hU]; exact hZ.1, by rw [hU]; exact P_left hP, ⟨va_K.moved hW.alike hK, by rw [hU]; exact JX.call hc.2.2.2.2.2.2.2.2 hW hS (V_free hc (D_left hD) hS hZ.1)⟩, (D_left hD).weaken (fun _ _ _ _ => trivial)⟩⟩ rfl hn h.1 hst (lv_room hroom) hdg (by rw [z4]; exact ⟨by show _ + _ ≤ xZ E - _; omega, by show _ + _ ≤ xW E - _; omega⟩)) (V_free hc (D_left hD) hS hZ.1) h hP hD hS hZ.1 hZ.2.2.1 kk
/-- the script's ints -/
def sx (xs : Nat → Int32) (L : Nat) (i : Int32) : Option Int32 := if i < 0 ∨ L ≤ i.toNatClampNeg then none else some (xs i.toNatClampNeg)
theorem V_sld (hc : Cx E own cc nl) {ws : va_W} {b L : Nat} {xs : Nat → Int32} (hX : va_X b L xs (xS E) (xS E).heap) (hbl : b < (xS E).heap.size) (hbA : ¬ xF E b) {i v : Int32} (hv : sx xs L i = some v) (hdg : decode cc pc = .ok (.iaload, 1)) (kk : V E z u ws (pc + 1) lv (.int v :: st)) : V E z u ws pc lv (.int i :: .ref b :: st) := by
  have h9 : vp_in i L ∧ xs i.toNatClampNeg = v := by
    unfold sx at hv
    split at hv
    · cases hv
    · rename_i hh
      exact ⟨hh, Option.some.inj hv⟩
  obtain ⟨h1, rfl⟩ := h9
  exact fun H locs ls h hP hD hS hZ => va_sld hc.1 hc.2.1 hX hbl hbA hS h1 hdg (kk H locs ls h hP hD hS hZ)
theorem V_slen (hc : Cx E own cc nl) {ws : va_W} {b L : Nat} {xs : Nat → Int32} (hX : va_X b L xs (xS E) (xS E).heap) (hbl : b < (xS E).heap.size) (hbA : ¬ xF E b) (hdg : decode cc pc = .ok (.arraylength, 1)) (kk : V E z u ws (pc + 1) lv (.int (Int32.ofNat L) :: st)) : V E z u ws pc lv (.ref b :: st) := fun H locs ls h hP hD hS hZ => va_slen hc.1 hc.2.1 hX hbl hbA hS hdg (kk H locs ls h hP hD hS hZ)
end LC
section LD
variable {E : CxT} {own : String} {cc : ByteArray} {nl : Nat} {pc : Nat} {lv : List (Nat × Value)} {st stk : List Value} {l : Launch} {D : va_G} {y : CyT} {fr lo zM uM : Nat} {S S1 : CS} {h : Nat} {q : Nat → Nat} {M M1 : MS} {r : Int32}
/-- a call upon the class, upon the reference -/
theorem L_callC (hc : Cx E own cc nl) (hz : Cy E l D y fr lo zM uM) {yy : MethodName} {cb : ByteArray} {nl' : Nat} {ret' : Option FieldType} {fr' lo' : Nat} {As : List Value} {b : Nat} {index n' : Nat} (hk : kd S b = 11) (hM : CT l D y yy cb nl' ret' fr' lo' zM uM (.ref b :: As) (cZ S) (cU S) (cw y S) (cZ S1) (cU S1) (cw y S1) (some (.int r)))
    (h1 : Cond.methodLink own index yy ∈ WB) (h2 : Cond.instanceMethod yy ∈ WB) (h3 : Cond.selects "FarEditors" yy yy ∈ WB) (h4 : Cond.initialized "FarEditors" ∈ WB) (h5 : Cond.code yy cb nl' ret' ∈ WB)
    (hd : yy.cls = "FarEditors" ∧ yy.cls ≠ "java/lang/invoke/MethodHandle" ∧ yy.cls ≠ "java/lang/invoke/VarHandle" ∧ (parseMethodDescriptor yy.desc).map (fun d => d.parameters.length) = some n')
    (hR : fr' + 1 ≤ fr ∧ 8 + (nl' + 11) + lo' ≤ lo) (hn : As.length = n') (hst : stk = As.reverse ++ .ref b :: st) (hroom : (st.map fun v => v.category).sum ≤ 8)
    (hdg : decode cc pc = .ok (.invokevirtual index, 3)) (kk : V E (cZ S1) (cU S1) (cw y S1 ++ mw h q y M) (pc + 3) lv (.int r :: st)) : V E (cZ S) (cU S) (cw y S ++ mw h q y M) pc lv stk := by
  obtain ⟨h3', h4'⟩ := kd_in hk (by omega)
  obtain ⟨q0, hq⟩ := cw_get (y := y) h3'
  rw [cE_obj h4' (by decide)] at hq
  exact V_callF hc hz hM h1 h2 h3 h4 h5 hd hR hq (ci := 11) rfl rfl hn hst hroom hdg kk
theorem L_callM (hc : Cx E own cc nl) (hz : Cy E l D y fr lo zM uM) {yy : MethodName} {cb : ByteArray} {nl' : Nat} {ret' : Option FieldType} {fr' lo' : Nat} {As : List Value} {z u index n' : Nat} {wA : va_W} (hM : CT l D y yy cb nl' ret' fr' lo' zM uM (.ref h :: As) z u (mw h q y M) z u (mw h q y M1) (some (.int r)))
    (h1 : Cond.methodLink own index yy ∈ WB) (h2 : Cond.instanceMethod yy ∈ WB) (h3 : Cond.selects "FarEditorsModel" yy yy ∈ WB) (h4 : Cond.initialized "FarEditorsModel" ∈ WB) (h5 : Cond.code yy cb nl' ret' ∈ WB)
    (hd : yy.cls = "FarEditorsModel" ∧ yy.cls ≠ "java/lang/invoke/MethodHandle" ∧ yy.cls ≠ "java/lang/invoke/VarHandle" ∧ (parseMethodDescriptor yy.desc).map (fun d => d.parameters.length) = some n')
    (hR : fr' + 1 ≤ fr ∧ 8 + (nl' + 11) + lo' ≤ lo) (hn : As.length = n') (hst : stk = As.reverse ++ .ref h :: st) (hroom : (st.map fun v => v.category).sum ≤ 8)
    (hdg : decode cc pc = .ok (.invokevirtual index, 3)) (kk : V E z u (wA ++ mw h q y M1) (pc + 3) lv (.int r :: st)) : V E z u (wA ++ mw h q y M) pc lv stk :=
  V_perm (V_callF hc hz hM h1 h2 h3 h4 h5 hd hR mw_0 (ci := 12) rfl rfl hn hst hroom hdg (V_perm kk))
end LD
