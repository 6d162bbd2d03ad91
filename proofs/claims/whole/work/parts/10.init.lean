/-- the fields while the reference is made -/
def iFs (r : Nat → Option Nat) (F : Nat → Int32) (sd : Int64) : List Value := [va_rf (r 0), .int (F 1), .int (F 2), .int (F 3), .int (F 4), .int (F 5), .int (F 6), .int (F 7), .int (F 8), va_rf (r 9), va_rf (r 10), va_rf (r 11), va_rf (r 12), va_rf (r 13), va_rf (r 14), va_rf (r 15), va_rf (r 16), va_rf (r 17), va_rf (r 18), va_rf (r 19), va_rf (r 20), va_rf (r 21), va_rf (r 22), va_rf (r 23), va_rf (r 24), .int (F 25), .int (F 26), .int (F 27), .int (F 28), va_rf (r 29), va_rf (r 30), .int (F 31), .int (F 32), .int (F 33), .int (F 34), va_rf (r 35), va_rf (r 36), va_rf (r 37), va_rf (r 38), va_rf (r 39), va_rf (r 40), va_rf (r 41), .int (F 42), .int (F 43), .int (F 44), .int (F 45), .int (F 46), va_rf (r 47), va_rf (r 48), .int (F 49), va_rf (r 50), .int (F 51), va_rf (r 52), .int (F 53), va_rf (r 54), va_rf (r 55), .int (F 56), va_rf (r 57), va_rf (r 58), .int (F 59), va_rf (r 60), .int (F 61), .int (F 62), .long sd]
/-- the first j arrays are there, from the cell z on -/
def rr (j z k : Nat) : Option Nat := if mPo k = 0 then none else if mPo k ≤ j then some (z + (mPo k - 1)) else none
/-- where the arrays are then -/
def mq (z : Nat) : Nat → Nat := fun k => z + (mPo k - 1)
/-- what they hold then -/
def m0A : Nat → Nat → Int32 := fun k => match k with
  | 10 => (upd (upd (upd (upd (fun _ => 0) 0 116) 1 101) 2 120) 3 116)
  | 11 => (upd (upd (upd (upd (upd (upd (upd (fun _ => 0) 0 101) 1 100) 2 105) 3 116) 4 111) 5 114) 6 115)
  | 12 => (upd (upd (upd (upd (upd (fun _ => 0) 0 100) 1 101) 2 108) 3 97) 4 121)
  | 13 => (upd (upd (upd (upd (fun _ => 0) 0 116) 1 105) 2 101) 3 115)
  | 14 => (upd (upd (upd (upd (fun _ => 0) 0 101) 1 100) 2 105) 3 116)
  | 15 => (upd (upd (upd (upd (upd (upd (fun _ => 0) 0 99) 1 117) 2 114) 3 115) 4 111) 5 114)
  | 16 => (upd (upd (upd (upd (fun _ => 0) 0 109) 1 97) 2 114) 3 107)
  | 17 => (upd (upd (upd (fun _ => 0) 0 111) 1 102) 2 102)
  | 18 => (upd (upd (fun _ => 0) 0 111) 1 110)
  | 19 => (upd (upd (upd (upd (fun _ => 0) 0 116) 1 105) 2 99) 3 107)
  | _ => fun _ => 0
def m0F : Nat → Int32 := upd (fun _ => 0) 8 (-1)
/-- the reference as it is made -/
def M0 : MS := (m0F, m0A, 1)
def alL (z : Nat) (y : CyT) : va_W := [(z + 0, .inl (y.2.1, 1600, .inl (m0A 0))), (z + 1, .inl (y.2.1, 7, .inl (m0A 9))), (z + 2, .inl (y.1, 4, .inl (m0A 10))), (z + 3, .inl (y.1, 7, .inl (m0A 11))), (z + 4, .inl (y.1, 5, .inl (m0A 12))), (z + 5, .inl (y.1, 4, .inl (m0A 13))), (z + 6, .inl (y.1, 4, .inl (m0A 14))), (z + 7, .inl (y.1, 6, .inl (m0A 15))), (z + 8, .inl (y.1, 4, .inl (m0A 16))), (z + 9, .inl (y.1, 3, .inl (m0A 17))), (z + 10, .inl (y.1, 2, .inl (m0A 18))), (z + 11, .inl (y.1, 4, .inl (m0A 19))), (z + 12, .inl (y.2.1, 700, .inl (m0A 20))), (z + 13, .inl (y.2.1, 700, .inl (m0A 21))), (z + 14, .inl (y.2.1, 700, .inl (m0A 22))), (z + 15, .inl (y.2.1, 700, .inl (m0A 23))), (z + 16, .inl (y.2.1, 700, .inl (m0A 24))), (z + 17, .inl (y.2.1, 700, .inl (m0A 29))), (z + 18, .inl (y.2.1, 10476, .inl (m0A 30))), (z + 19, .inl (y.2.1, 40, .inl (m0A 35))), (z + 20, .inl (y.2.1, 108, .inl (m0A 36))), (z + 21, .inl (y.2.1, 108, .inl (m0A 37))), (z + 22, .inl (y.2.1, 108, .inl (m0A 38))), (z + 23, .inl (y.2.1, 108, .inl (m0A 39))), (z + 24, .inl (y.2.1, 3000, .inl (m0A 40))), (z + 25, .inl (y.2.1, 700, .inl (m0A 41))), (z + 26, .inl (y.2.1, 300, .inl (m0A 47))), (z + 27, .inl (y.2.1, 300, .inl (m0A 48))), (z + 28, .inl (y.2.1, 300, .inl (m0A 50))), (z + 29, .inl (y.2.1, 10476, .inl (m0A 52))), (z + 30, .inl (y.2.1, 24, .inl (m0A 54))), (z + 31, .inl (y.2.1, 6000, .inl (m0A 55))), (z + 32, .inl (y.2.1, 32, .inl (m0A 57))), (z + 33, .inl (y.2.2.1, 24, .inl (m0A 58))), (z + 34, .inl (y.2.1, 209520, .inl (m0A 60)))]
def iw (h : Nat) (y : CyT) (j z : Nat) (F : Nat → Int32) (sd : Int64) (w : va_W) : va_W := (h, .inr (12, iFs (rr j z) F sd)) :: w
section IR
variable {E : CxT} {own : String} {cc : ByteArray} {nl : Nat} {ws : va_W} {pc : Nat} {lv : List (Nat × Value)} {st : List Value} {z u : Nat} {l : Launch} {D : va_G} {y : CyT} {fr lo zM uM : Nat}
theorem V_zu {z1 u1 : Nat} (h1 : z = z1) (h2 : u = u1) (kk : V E z1 u1 ws pc lv st) : V E z u ws pc lv st := h1 ▸ h2 ▸ kk
theorem V_newP (hc : Cx E own cc nl) (hz : Cy E l D y fr lo zM uM) {at_ : ArrayType} {ty : FieldType} (hty : newarray.typeOf at_ = ty) {t : Nat} {cA : ClassId} (ht : (tyL y)[t]? = some (cA, ty)) (hpr : ∀ U, va_RA U cA ty → U.vm.findClass ("[" ++ (newarray.typeOf at_).toString) = some cA) {n : Int32} {N : Nat} (hn : ¬ n < 0) (hN : n.toNatClampNeg = N) (hd : ∀ c : ClassId, arrV c N (fun _ => defaultValue (newarray.typeOf at_)) = vp_cell c (N, .inl (fun _ => 0))) (hb : componentBytes (newarray.typeOf at_) ≤ 4) (g1 : z < zM) (g2 : u + N ≤ uM) (hX : uM ≤ 100000000) (h1 : Cond.arrayClass (newarray.typeOf at_) ∈ WB) (hdg : decode cc pc = .ok (.newarray at_, 2)) (kk : V E (z + 1) (u + N) (ws ++ [(z, .inl (cA, N, .inl (fun _ => 0)))]) (pc + 2) lv (.ref z :: st)) : V E z u ws pc lv (.int n :: st) := by
  intro H locs ls h hP hD hS hZ
  obtain ⟨-, -, hT, ⟨z4, z5, z6⟩⟩ := hz
  have hts := hc.2.2.2.2.1
  have hK := hc.2.2.2.2.2.1
  have h0 := hS.1
  have hz1 := hZ.1
  have hz3 := hZ.2.2.1
  have hbb : N * componentBytes (newarray.typeOf at_) ≤ 536870912 := Nat.le_trans (Nat.mul_le_mul_left N hb) (by omega)
  refine va_newaK (atype := at_) hc.1 hc.2.1 (hts _ h1) rfl hdg rfl hn hN hbb (by rw [z4]; show _ ≤ zM - _; omega) (by rw [z4]; show _ ≤ uM - _; omega) hZ.1 fun H1 cB e1 q1 o1 hAr hNm => ?_
  have hcA : cB = cA := by
    have h5 := (hK.2 t (cA, ty) (by rw [hT]; exact ht)).2
    exact Option.some.inj (hNm.symm.trans (hpr _ h5))
  subst hcA
  have hk : ∀ (k : Nat) (x : Nat × va_E), ws[k]? = some x → H1[x.1]? = H[x.1]? := fun k x hx => o1 x.1 (by have := (hP k x hx).lt; omega)
  have hP1 : va_P (xD E) vwCl (ws ++ [(z, .inl (cB, N, .inl (fun _ => 0)))]) H1 := (hP.kept hk).app (fun k x hx => by
    have hk1 : k < 1 := (List.getElem?_eq_some_iff.mp hx).1
    rw [show k = 0 by omega] at hx
    cases hx
    show H1[z]? = some (vp_cell _ _)
    rw [e1, hd])
  have hD1 := hD.push (e := .inl (cB, N, .inl (fun _ => 0))) hP hZ.1.symm (hc.2.2.2.2.2.2.1 _ (by rw [← hZ.1]; exact hS.1))
  have e4 : z + 1 - (xS E).heap.size = z - (xS E).heap.size + 1 := by omega
  have e5 : u + N - xU E = u - xU E + N := by omega
  have h9 := kk H1 locs ls h hP1 hD1 ⟨Nat.le_trans hS.1 (by omega), fun x h1 h2 => (o1 x (by omega)).trans (hS.2.1 x h1 h2), hS.2.2⟩ ⟨q1, by rw [z5]; exact g1, by omega, by rw [z6]; exact g2⟩
  rw [e4, e5] at h9
  exact h9
theorem V_newN {at_ : ArrayType} (hc : Cx E own cc nl) (hz : Cy E l D y fr lo zM uM) (hat : at_ = .int ∨ at_ = .char ∨ at_ = .boolean) {t : Nat} {cA : ClassId} (ht : (tyL y)[t]? = some (cA, newarray.typeOf at_)) {n : Int32} {N : Nat} (hn : ¬ n < 0) (hN : n.toNatClampNeg = N) (g1 : z < zM) (g2 : u + N ≤ uM) (hX : uM ≤ 100000000) (h1 : Cond.arrayClass (newarray.typeOf at_) ∈ WB) (hdg : decode cc pc = .ok (.newarray at_, 2)) (kk : V E (z + 1) (u + N) (ws ++ [(z, .inl (cA, N, .inl (fun _ => 0)))]) (pc + 2) lv (.ref z :: st)) : V E z u ws pc lv (.int n :: st) := by
  rcases hat with rfl | rfl | rfl
  · exact V_newP hc hz rfl ht (fun U h => h) hn hN (fun c => rfl) (by decide) g1 g2 hX h1 hdg kk
  · exact V_newP hc hz rfl ht (fun U h => h) hn hN (fun c => rfl) (by decide) g1 g2 hX h1 hdg kk
  · exact V_newP hc hz rfl ht (fun U h => h) hn hN (fun c => rfl) (by decide) g1 g2 hX h1 hdg kk
end IR
theorem hd12_init : yX12_init.cls = "FarEditorsModel" ∧ yX12_init.cls ≠ "java/lang/invoke/MethodHandle" ∧ yX12_init.cls ≠ "java/lang/invoke/VarHandle" ∧ (parseMethodDescriptor yX12_init.desc).map (fun d => d.parameters.length) = some 0 := by decide +kernel
set_option maxHeartbeats 40000000 in
set_option maxRecDepth 100000 in
/-- the reference is made: 35 cells of 247474 slots come beside it -/
theorem c12_init (l : Launch) (D : va_G) (h : Nat) (y : CyT) (zM uM z u : Nat) (hX : uM ≤ 100000000) (g1 : z + 35 ≤ zM) (g2 : u + 247474 ≤ uM) : CT l D y yX12_init cX12_init 1 none 1 20 zM uM [.ref h] z u (iw h y 0 z (fun _ => 0) 0 []) (z + 35) (u + 247474) (mw h (mq z) y M0) none := by
  refine CT.of (by decide) (Nat.le_of_ble_eq_true rfl) (fun E hc hzz hnm => ?_)
  have hc : Cx E "FarEditorsModel" cX12_init 1 := hc
  have hnm : (xH E).name = "<init>" := hnm
  have hz := hzz.1
  have hT := hz.2.2.1
  show V E z u (iw h y 0 z (fun _ => 0) 0 []) 0 [(0, .ref h)] []
  refine V_aload_n hc dX12_init_0 rfl 0 rfl ?_
  refine V_objInit hc hz w6_56 w1_27 w1_28 ⟨(Nat.le_of_ble_eq_true rfl), (Nat.le_of_ble_eq_true rfl)⟩ (Nat.le_of_ble_eq_true rfl) dX12_init_1 ?_
  refine V_aload_n hc dX12_init_4 rfl 0 rfl ?_
  refine V_sipush hc (v := (1600 : Int32)) dX12_init_5 rfl ?_
  refine V_newN (at_ := .int) hc hz (by simp) (t := 1) rfl (N := 1600) (by decide) (by decide) (by omega) (by omega) hX w1_82 dX12_init_8 ?_
  refine V_zu (z1 := z + 1) (u1 := u + 1600) (by omega) (by omega) ?_
  refine V_eq (ws' := (iw h y 0 z (fun _ => 0) 0 ((alL z y).take 1))) rfl ?_
  refine V_putF hc hnm (ci := 12) rfl iW12 tyX12 tyX12_ok nmX12 0 rfl 0 (by decide) w6_58 rfl rfl rfl rfl (Nat.le_of_ble_eq_true rfl) (ws' := (iw h y 1 z (fun _ => 0) 0 ((alL z y).take 1))) rfl dX12_init_10 ?_
  refine V_aload_n hc dX12_init_13 rfl 0 rfl ?_
  refine V_iconst hc (v := (-1 : Int32)) dX12_init_14 rfl ?_
  refine V_put hc (ci := 12) rfl iW12 tyX12 tyX12_ok nmX12 0 rfl 8 (by decide) w6_66 rfl rfl rfl (Nat.le_of_ble_eq_true rfl) (ws' := (iw h y 1 z (upd (fun _ => 0) 8 (-1)) 0 ((alL z y).take 1))) rfl dX12_init_15 ?_
  refine V_aload_n hc dX12_init_18 rfl 0 rfl ?_
  refine V_bipush hc (v := (7 : Int32)) dX12_init_19 rfl ?_
  refine V_newN (at_ := .int) hc hz (by simp) (t := 1) rfl (N := 7) (by decide) (by decide) (by omega) (by omega) hX w1_82 dX12_init_21 ?_
  refine V_zu (z1 := z + 2) (u1 := u + 1607) (by omega) (by omega) ?_
  refine V_eq (ws' := (iw h y 1 z (upd (fun _ => 0) 8 (-1)) 0 ((alL z y).take 2))) rfl ?_
  refine V_putF hc hnm (ci := 12) rfl iW12 tyX12 tyX12_ok nmX12 0 rfl 9 (by decide) w6_67 rfl rfl rfl rfl (Nat.le_of_ble_eq_true rfl) (ws' := (iw h y 2 z (upd (fun _ => 0) 8 (-1)) 0 ((alL z y).take 2))) rfl dX12_init_23 ?_
  refine V_aload_n hc dX12_init_26 rfl 0 rfl ?_
  refine V_iconst hc (v := (4 : Int32)) dX12_init_27 rfl ?_
  refine V_newN (at_ := .char) hc hz (by simp) (t := 0) rfl (N := 4) (by decide) (by decide) (by omega) (by omega) hX w7_11 dX12_init_28 ?_
  refine V_zu (z1 := z + 3) (u1 := u + 1611) (by omega) (by omega) ?_
  refine V_eq (ws' := (iw h y 2 z (upd (fun _ => 0) 8 (-1)) 0 ((alL z y).take 2 ++ [(z + 2, .inl (y.1, 4, .inl (fun _ => 0)))]))) rfl ?_
  refine V_dup hc dX12_init_30 rfl ?_
  refine V_iconst hc (v := (0 : Int32)) dX12_init_31 rfl ?_
  refine V_bipush hc (v := (116 : Int32)) dX12_init_32 rfl ?_
  refine V_cast hc 3 0 (m := 4) (f := (fun _ => 0)) rfl (by rw [hT]; rfl) (by unfold vp_in; decide) (ws' := (iw h y 2 z (upd (fun _ => 0) 8 (-1)) 0 ((alL z y).take 2 ++ [(z + 2, .inl (y.1, 4, .inl (upd (fun _ => 0) 0 116)))]))) rfl dX12_init_34 ?_
  refine V_dup hc dX12_init_35 rfl ?_
  refine V_iconst hc (v := (1 : Int32)) dX12_init_36 rfl ?_
  refine V_bipush hc (v := (101 : Int32)) dX12_init_37 rfl ?_
  refine V_cast hc 3 0 (m := 4) (f := (upd (fun _ => 0) 0 116)) rfl (by rw [hT]; rfl) (by unfold vp_in; decide) (ws' := (iw h y 2 z (upd (fun _ => 0) 8 (-1)) 0 ((alL z y).take 2 ++ [(z + 2, .inl (y.1, 4, .inl (upd (upd (fun _ => 0) 0 116) 1 101)))]))) rfl dX12_init_39 ?_
  refine V_dup hc dX12_init_40 rfl ?_
  refine V_iconst hc (v := (2 : Int32)) dX12_init_41 rfl ?_
  refine V_bipush hc (v := (120 : Int32)) dX12_init_42 rfl ?_
  refine V_cast hc 3 0 (m := 4) (f := (upd (upd (fun _ => 0) 0 116) 1 101)) rfl (by rw [hT]; rfl) (by unfold vp_in; decide) (ws' := (iw h y 2 z (upd (fun _ => 0) 8 (-1)) 0 ((alL z y).take 2 ++ [(z + 2, .inl (y.1, 4, .inl (upd (upd (upd (fun _ => 0) 0 116) 1 101) 2 120)))]))) rfl dX12_init_44 ?_
  refine V_dup hc dX12_init_45 rfl ?_
  refine V_iconst hc (v := (3 : Int32)) dX12_init_46 rfl ?_
  refine V_bipush hc (v := (116 : Int32)) dX12_init_47 rfl ?_
  refine V_cast hc 3 0 (m := 4) (f := (upd (upd (upd (fun _ => 0) 0 116) 1 101) 2 120)) rfl (by rw [hT]; rfl) (by unfold vp_in; decide) (ws' := (iw h y 2 z (upd (fun _ => 0) 8 (-1)) 0 ((alL z y).take 2 ++ [(z + 2, .inl (y.1, 4, .inl (upd (upd (upd (upd (fun _ => 0) 0 116) 1 101) 2 120) 3 116)))]))) rfl dX12_init_49 ?_
  refine V_putF hc hnm (ci := 12) rfl iW12 tyX12 tyX12_ok nmX12 0 rfl 10 (by decide) w6_68 rfl rfl rfl rfl (Nat.le_of_ble_eq_true rfl) (ws' := (iw h y 3 z (upd (fun _ => 0) 8 (-1)) 0 ((alL z y).take 3))) rfl dX12_init_50 ?_
  refine V_aload_n hc dX12_init_53 rfl 0 rfl ?_
  refine V_bipush hc (v := (7 : Int32)) dX12_init_54 rfl ?_
  refine V_newN (at_ := .char) hc hz (by simp) (t := 0) rfl (N := 7) (by decide) (by decide) (by omega) (by omega) hX w7_11 dX12_init_56 ?_
  refine V_zu (z1 := z + 4) (u1 := u + 1618) (by omega) (by omega) ?_
  refine V_eq (ws' := (iw h y 3 z (upd (fun _ => 0) 8 (-1)) 0 ((alL z y).take 3 ++ [(z + 3, .inl (y.1, 7, .inl (fun _ => 0)))]))) rfl ?_
  refine V_dup hc dX12_init_58 rfl ?_
  refine V_iconst hc (v := (0 : Int32)) dX12_init_59 rfl ?_
  refine V_bipush hc (v := (101 : Int32)) dX12_init_60 rfl ?_
  refine V_cast hc 4 0 (m := 7) (f := (fun _ => 0)) rfl (by rw [hT]; rfl) (by unfold vp_in; decide) (ws' := (iw h y 3 z (upd (fun _ => 0) 8 (-1)) 0 ((alL z y).take 3 ++ [(z + 3, .inl (y.1, 7, .inl (upd (fun _ => 0) 0 101)))]))) rfl dX12_init_62 ?_
  refine V_dup hc dX12_init_63 rfl ?_
  refine V_iconst hc (v := (1 : Int32)) dX12_init_64 rfl ?_
  refine V_bipush hc (v := (100 : Int32)) dX12_init_65 rfl ?_
  refine V_cast hc 4 0 (m := 7) (f := (upd (fun _ => 0) 0 101)) rfl (by rw [hT]; rfl) (by unfold vp_in; decide) (ws' := (iw h y 3 z (upd (fun _ => 0) 8 (-1)) 0 ((alL z y).take 3 ++ [(z + 3, .inl (y.1, 7, .inl (upd (upd (fun _ => 0) 0 101) 1 100)))]))) rfl dX12_init_67 ?_
  refine V_dup hc dX12_init_68 rfl ?_
  refine V_iconst hc (v := (2 : Int32)) dX12_init_69 rfl ?_
  refine V_bipush hc (v := (105 : Int32)) dX12_init_70 rfl ?_
  refine V_cast hc 4 0 (m := 7) (f := (upd (upd (fun _ => 0) 0 101) 1 100)) rfl (by rw [hT]; rfl) (by unfold vp_in; decide) (ws' := (iw h y 3 z (upd (fun _ => 0) 8 (-1)) 0 ((alL z y).take 3 ++ [(z + 3, .inl (y.1, 7, .inl (upd (upd (upd (fun _ => 0) 0 101) 1 100) 2 105)))]))) rfl dX12_init_72 ?_
  refine V_dup hc dX12_init_73 rfl ?_
  refine V_iconst hc (v := (3 : Int32)) dX12_init_74 rfl ?_
  refine V_bipush hc (v := (116 : Int32)) dX12_init_75 rfl ?_
  refine V_cast hc 4 0 (m := 7) (f := (upd (upd (upd (fun _ => 0) 0 101) 1 100) 2 105)) rfl (by rw [hT]; rfl) (by unfold vp_in; decide) (ws' := (iw h y 3 z (upd (fun _ => 0) 8 (-1)) 0 ((alL z y).take 3 ++ [(z + 3, .inl (y.1, 7, .inl (upd (upd (upd (upd (fun _ => 0) 0 101) 1 100) 2 105) 3 116)))]))) rfl dX12_init_77 ?_
  refine V_dup hc dX12_init_78 rfl ?_
  refine V_iconst hc (v := (4 : Int32)) dX12_init_79 rfl ?_
  refine V_bipush hc (v := (111 : Int32)) dX12_init_80 rfl ?_
  refine V_cast hc 4 0 (m := 7) (f := (upd (upd (upd (upd (fun _ => 0) 0 101) 1 100) 2 105) 3 116)) rfl (by rw [hT]; rfl) (by unfold vp_in; decide) (ws' := (iw h y 3 z (upd (fun _ => 0) 8 (-1)) 0 ((alL z y).take 3 ++ [(z + 3, .inl (y.1, 7, .inl (upd (upd (upd (upd (upd (fun _ => 0) 0 101) 1 100) 2 105) 3 116) 4 111)))]))) rfl dX12_init_82 ?_
  refine V_dup hc dX12_init_83 rfl ?_
  refine V_iconst hc (v := (5 : Int32)) dX12_init_84 rfl ?_
  refine V_bipush hc (v := (114 : Int32)) dX12_init_85 rfl ?_
  refine V_cast hc 4 0 (m := 7) (f := (upd (upd (upd (upd (upd (fun _ => 0) 0 101) 1 100) 2 105) 3 116) 4 111)) rfl (by rw [hT]; rfl) (by unfold vp_in; decide) (ws' := (iw h y 3 z (upd (fun _ => 0) 8 (-1)) 0 ((alL z y).take 3 ++ [(z + 3, .inl (y.1, 7, .inl (upd (upd (upd (upd (upd (upd (fun _ => 0) 0 101) 1 100) 2 105) 3 116) 4 111) 5 114)))]))) rfl dX12_init_87 ?_
  refine V_dup hc dX12_init_88 rfl ?_
  refine V_bipush hc (v := (6 : Int32)) dX12_init_89 rfl ?_
  refine V_bipush hc (v := (115 : Int32)) dX12_init_91 rfl ?_
  refine V_cast hc 4 0 (m := 7) (f := (upd (upd (upd (upd (upd (upd (fun _ => 0) 0 101) 1 100) 2 105) 3 116) 4 111) 5 114)) rfl (by rw [hT]; rfl) (by unfold vp_in; decide) (ws' := (iw h y 3 z (upd (fun _ => 0) 8 (-1)) 0 ((alL z y).take 3 ++ [(z + 3, .inl (y.1, 7, .inl (upd (upd (upd (upd (upd (upd (upd (fun _ => 0) 0 101) 1 100) 2 105) 3 116) 4 111) 5 114) 6 115)))]))) rfl dX12_init_93 ?_
  refine V_putF hc hnm (ci := 12) rfl iW12 tyX12 tyX12_ok nmX12 0 rfl 11 (by decide) w6_69 rfl rfl rfl rfl (Nat.le_of_ble_eq_true rfl) (ws' := (iw h y 4 z (upd (fun _ => 0) 8 (-1)) 0 ((alL z y).take 4))) rfl dX12_init_94 ?_
  refine V_aload_n hc dX12_init_97 rfl 0 rfl ?_
  refine V_iconst hc (v := (5 : Int32)) dX12_init_98 rfl ?_
  refine V_newN (at_ := .char) hc hz (by simp) (t := 0) rfl (N := 5) (by decide) (by decide) (by omega) (by omega) hX w7_11 dX12_init_99 ?_
  refine V_zu (z1 := z + 5) (u1 := u + 1623) (by omega) (by omega) ?_
  refine V_eq (ws' := (iw h y 4 z (upd (fun _ => 0) 8 (-1)) 0 ((alL z y).take 4 ++ [(z + 4, .inl (y.1, 5, .inl (fun _ => 0)))]))) rfl ?_
  refine V_dup hc dX12_init_101 rfl ?_
  refine V_iconst hc (v := (0 : Int32)) dX12_init_102 rfl ?_
  refine V_bipush hc (v := (100 : Int32)) dX12_init_103 rfl ?_
  refine V_cast hc 5 0 (m := 5) (f := (fun _ => 0)) rfl (by rw [hT]; rfl) (by unfold vp_in; decide) (ws' := (iw h y 4 z (upd (fun _ => 0) 8 (-1)) 0 ((alL z y).take 4 ++ [(z + 4, .inl (y.1, 5, .inl (upd (fun _ => 0) 0 100)))]))) rfl dX12_init_105 ?_
  refine V_dup hc dX12_init_106 rfl ?_
  refine V_iconst hc (v := (1 : Int32)) dX12_init_107 rfl ?_
  refine V_bipush hc (v := (101 : Int32)) dX12_init_108 rfl ?_
  refine V_cast hc 5 0 (m := 5) (f := (upd (fun _ => 0) 0 100)) rfl (by rw [hT]; rfl) (by unfold vp_in; decide) (ws' := (iw h y 4 z (upd (fun _ => 0) 8 (-1)) 0 ((alL z y).take 4 ++ [(z + 4, .inl (y.1, 5, .inl (upd (upd (fun _ => 0) 0 100) 1 101)))]))) rfl dX12_init_110 ?_
  refine V_dup hc dX12_init_111 rfl ?_
  refine V_iconst hc (v := (2 : Int32)) dX12_init_112 rfl ?_
  refine V_bipush hc (v := (108 : Int32)) dX12_init_113 rfl ?_
  refine V_cast hc 5 0 (m := 5) (f := (upd (upd (fun _ => 0) 0 100) 1 101)) rfl (by rw [hT]; rfl) (by unfold vp_in; decide) (ws' := (iw h y 4 z (upd (fun _ => 0) 8 (-1)) 0 ((alL z y).take 4 ++ [(z + 4, .inl (y.1, 5, .inl (upd (upd (upd (fun _ => 0) 0 100) 1 101) 2 108)))]))) rfl dX12_init_115 ?_
  refine V_dup hc dX12_init_116 rfl ?_
  refine V_iconst hc (v := (3 : Int32)) dX12_init_117 rfl ?_
  refine V_bipush hc (v := (97 : Int32)) dX12_init_118 rfl ?_
  refine V_cast hc 5 0 (m := 5) (f := (upd (upd (upd (fun _ => 0) 0 100) 1 101) 2 108)) rfl (by rw [hT]; rfl) (by unfold vp_in; decide) (ws' := (iw h y 4 z (upd (fun _ => 0) 8 (-1)) 0 ((alL z y).take 4 ++ [(z + 4, .inl (y.1, 5, .inl (upd (upd (upd (upd (fun _ => 0) 0 100) 1 101) 2 108) 3 97)))]))) rfl dX12_init_120 ?_
  refine V_dup hc dX12_init_121 rfl ?_
  refine V_iconst hc (v := (4 : Int32)) dX12_init_122 rfl ?_
  refine V_bipush hc (v := (121 : Int32)) dX12_init_123 rfl ?_
  refine V_cast hc 5 0 (m := 5) (f := (upd (upd (upd (upd (fun _ => 0) 0 100) 1 101) 2 108) 3 97)) rfl (by rw [hT]; rfl) (by unfold vp_in; decide) (ws' := (iw h y 4 z (upd (fun _ => 0) 8 (-1)) 0 ((alL z y).take 4 ++ [(z + 4, .inl (y.1, 5, .inl (upd (upd (upd (upd (upd (fun _ => 0) 0 100) 1 101) 2 108) 3 97) 4 121)))]))) rfl dX12_init_125 ?_
  refine V_putF hc hnm (ci := 12) rfl iW12 tyX12 tyX12_ok nmX12 0 rfl 12 (by decide) w6_70 rfl rfl rfl rfl (Nat.le_of_ble_eq_true rfl) (ws' := (iw h y 5 z (upd (fun _ => 0) 8 (-1)) 0 ((alL z y).take 5))) rfl dX12_init_126 ?_
  refine V_aload_n hc dX12_init_129 rfl 0 rfl ?_
  refine V_iconst hc (v := (4 : Int32)) dX12_init_130 rfl ?_
  refine V_newN (at_ := .char) hc hz (by simp) (t := 0) rfl (N := 4) (by decide) (by decide) (by omega) (by omega) hX w7_11 dX12_init_131 ?_
  refine V_zu (z1 := z + 6) (u1 := u + 1627) (by omega) (by omega) ?_
  refine V_eq (ws' := (iw h y 5 z (upd (fun _ => 0) 8 (-1)) 0 ((alL z y).take 5 ++ [(z + 5, .inl (y.1, 4, .inl (fun _ => 0)))]))) rfl ?_
  refine V_dup hc dX12_init_133 rfl ?_
  refine V_iconst hc (v := (0 : Int32)) dX12_init_134 rfl ?_
  refine V_bipush hc (v := (116 : Int32)) dX12_init_135 rfl ?_
  refine V_cast hc 6 0 (m := 4) (f := (fun _ => 0)) rfl (by rw [hT]; rfl) (by unfold vp_in; decide) (ws' := (iw h y 5 z (upd (fun _ => 0) 8 (-1)) 0 ((alL z y).take 5 ++ [(z + 5, .inl (y.1, 4, .inl (upd (fun _ => 0) 0 116)))]))) rfl dX12_init_137 ?_
  refine V_dup hc dX12_init_138 rfl ?_
  refine V_iconst hc (v := (1 : Int32)) dX12_init_139 rfl ?_
  refine V_bipush hc (v := (105 : Int32)) dX12_init_140 rfl ?_
  refine V_cast hc 6 0 (m := 4) (f := (upd (fun _ => 0) 0 116)) rfl (by rw [hT]; rfl) (by unfold vp_in; decide) (ws' := (iw h y 5 z (upd (fun _ => 0) 8 (-1)) 0 ((alL z y).take 5 ++ [(z + 5, .inl (y.1, 4, .inl (upd (upd (fun _ => 0) 0 116) 1 105)))]))) rfl dX12_init_142 ?_
  refine V_dup hc dX12_init_143 rfl ?_
  refine V_iconst hc (v := (2 : Int32)) dX12_init_144 rfl ?_
  refine V_bipush hc (v := (101 : Int32)) dX12_init_145 rfl ?_
  refine V_cast hc 6 0 (m := 4) (f := (upd (upd (fun _ => 0) 0 116) 1 105)) rfl (by rw [hT]; rfl) (by unfold vp_in; decide) (ws' := (iw h y 5 z (upd (fun _ => 0) 8 (-1)) 0 ((alL z y).take 5 ++ [(z + 5, .inl (y.1, 4, .inl (upd (upd (upd (fun _ => 0) 0 116) 1 105) 2 101)))]))) rfl dX12_init_147 ?_
  refine V_dup hc dX12_init_148 rfl ?_
  refine V_iconst hc (v := (3 : Int32)) dX12_init_149 rfl ?_
  refine V_bipush hc (v := (115 : Int32)) dX12_init_150 rfl ?_
  refine V_cast hc 6 0 (m := 4) (f := (upd (upd (upd (fun _ => 0) 0 116) 1 105) 2 101)) rfl (by rw [hT]; rfl) (by unfold vp_in; decide) (ws' := (iw h y 5 z (upd (fun _ => 0) 8 (-1)) 0 ((alL z y).take 5 ++ [(z + 5, .inl (y.1, 4, .inl (upd (upd (upd (upd (fun _ => 0) 0 116) 1 105) 2 101) 3 115)))]))) rfl dX12_init_152 ?_
  refine V_putF hc hnm (ci := 12) rfl iW12 tyX12 tyX12_ok nmX12 0 rfl 13 (by decide) w6_71 rfl rfl rfl rfl (Nat.le_of_ble_eq_true rfl) (ws' := (iw h y 6 z (upd (fun _ => 0) 8 (-1)) 0 ((alL z y).take 6))) rfl dX12_init_153 ?_
  refine V_aload_n hc dX12_init_156 rfl 0 rfl ?_
  refine V_iconst hc (v := (4 : Int32)) dX12_init_157 rfl ?_
  refine V_newN (at_ := .char) hc hz (by simp) (t := 0) rfl (N := 4) (by decide) (by decide) (by omega) (by omega) hX w7_11 dX12_init_158 ?_
  refine V_zu (z1 := z + 7) (u1 := u + 1631) (by omega) (by omega) ?_
  refine V_eq (ws' := (iw h y 6 z (upd (fun _ => 0) 8 (-1)) 0 ((alL z y).take 6 ++ [(z + 6, .inl (y.1, 4, .inl (fun _ => 0)))]))) rfl ?_
  refine V_dup hc dX12_init_160 rfl ?_
  refine V_iconst hc (v := (0 : Int32)) dX12_init_161 rfl ?_
  refine V_bipush hc (v := (101 : Int32)) dX12_init_162 rfl ?_
  refine V_cast hc 7 0 (m := 4) (f := (fun _ => 0)) rfl (by rw [hT]; rfl) (by unfold vp_in; decide) (ws' := (iw h y 6 z (upd (fun _ => 0) 8 (-1)) 0 ((alL z y).take 6 ++ [(z + 6, .inl (y.1, 4, .inl (upd (fun _ => 0) 0 101)))]))) rfl dX12_init_164 ?_
  refine V_dup hc dX12_init_165 rfl ?_
  refine V_iconst hc (v := (1 : Int32)) dX12_init_166 rfl ?_
  refine V_bipush hc (v := (100 : Int32)) dX12_init_167 rfl ?_
  refine V_cast hc 7 0 (m := 4) (f := (upd (fun _ => 0) 0 101)) rfl (by rw [hT]; rfl) (by unfold vp_in; decide) (ws' := (iw h y 6 z (upd (fun _ => 0) 8 (-1)) 0 ((alL z y).take 6 ++ [(z + 6, .inl (y.1, 4, .inl (upd (upd (fun _ => 0) 0 101) 1 100)))]))) rfl dX12_init_169 ?_
  refine V_dup hc dX12_init_170 rfl ?_
  refine V_iconst hc (v := (2 : Int32)) dX12_init_171 rfl ?_
  refine V_bipush hc (v := (105 : Int32)) dX12_init_172 rfl ?_
  refine V_cast hc 7 0 (m := 4) (f := (upd (upd (fun _ => 0) 0 101) 1 100)) rfl (by rw [hT]; rfl) (by unfold vp_in; decide) (ws' := (iw h y 6 z (upd (fun _ => 0) 8 (-1)) 0 ((alL z y).take 6 ++ [(z + 6, .inl (y.1, 4, .inl (upd (upd (upd (fun _ => 0) 0 101) 1 100) 2 105)))]))) rfl dX12_init_174 ?_
  refine V_dup hc dX12_init_175 rfl ?_
  refine V_iconst hc (v := (3 : Int32)) dX12_init_176 rfl ?_
  refine V_bipush hc (v := (116 : Int32)) dX12_init_177 rfl ?_
  refine V_cast hc 7 0 (m := 4) (f := (upd (upd (upd (fun _ => 0) 0 101) 1 100) 2 105)) rfl (by rw [hT]; rfl) (by unfold vp_in; decide) (ws' := (iw h y 6 z (upd (fun _ => 0) 8 (-1)) 0 ((alL z y).take 6 ++ [(z + 6, .inl (y.1, 4, .inl (upd (upd (upd (upd (fun _ => 0) 0 101) 1 100) 2 105) 3 116)))]))) rfl dX12_init_179 ?_
  refine V_putF hc hnm (ci := 12) rfl iW12 tyX12 tyX12_ok nmX12 0 rfl 14 (by decide) w6_72 rfl rfl rfl rfl (Nat.le_of_ble_eq_true rfl) (ws' := (iw h y 7 z (upd (fun _ => 0) 8 (-1)) 0 ((alL z y).take 7))) rfl dX12_init_180 ?_
  refine V_aload_n hc dX12_init_183 rfl 0 rfl ?_
  refine V_bipush hc (v := (6 : Int32)) dX12_init_184 rfl ?_
  refine V_newN (at_ := .char) hc hz (by simp) (t := 0) rfl (N := 6) (by decide) (by decide) (by omega) (by omega) hX w7_11 dX12_init_186 ?_
  refine V_zu (z1 := z + 8) (u1 := u + 1637) (by omega) (by omega) ?_
  refine V_eq (ws' := (iw h y 7 z (upd (fun _ => 0) 8 (-1)) 0 ((alL z y).take 7 ++ [(z + 7, .inl (y.1, 6, .inl (fun _ => 0)))]))) rfl ?_
  refine V_dup hc dX12_init_188 rfl ?_
  refine V_iconst hc (v := (0 : Int32)) dX12_init_189 rfl ?_
  refine V_bipush hc (v := (99 : Int32)) dX12_init_190 rfl ?_
  refine V_cast hc 8 0 (m := 6) (f := (fun _ => 0)) rfl (by rw [hT]; rfl) (by unfold vp_in; decide) (ws' := (iw h y 7 z (upd (fun _ => 0) 8 (-1)) 0 ((alL z y).take 7 ++ [(z + 7, .inl (y.1, 6, .inl (upd (fun _ => 0) 0 99)))]))) rfl dX12_init_192 ?_
  refine V_dup hc dX12_init_193 rfl ?_
  refine V_iconst hc (v := (1 : Int32)) dX12_init_194 rfl ?_
  refine V_bipush hc (v := (117 : Int32)) dX12_init_195 rfl ?_
  refine V_cast hc 8 0 (m := 6) (f := (upd (fun _ => 0) 0 99)) rfl (by rw [hT]; rfl) (by unfold vp_in; decide) (ws' := (iw h y 7 z (upd (fun _ => 0) 8 (-1)) 0 ((alL z y).take 7 ++ [(z + 7, .inl (y.1, 6, .inl (upd (upd (fun _ => 0) 0 99) 1 117)))]))) rfl dX12_init_197 ?_
  refine V_dup hc dX12_init_198 rfl ?_
  refine V_iconst hc (v := (2 : Int32)) dX12_init_199 rfl ?_
  refine V_bipush hc (v := (114 : Int32)) dX12_init_200 rfl ?_
  refine V_cast hc 8 0 (m := 6) (f := (upd (upd (fun _ => 0) 0 99) 1 117)) rfl (by rw [hT]; rfl) (by unfold vp_in; decide) (ws' := (iw h y 7 z (upd (fun _ => 0) 8 (-1)) 0 ((alL z y).take 7 ++ [(z + 7, .inl (y.1, 6, .inl (upd (upd (upd (fun _ => 0) 0 99) 1 117) 2 114)))]))) rfl dX12_init_202 ?_
  refine V_dup hc dX12_init_203 rfl ?_
  refine V_iconst hc (v := (3 : Int32)) dX12_init_204 rfl ?_
  refine V_bipush hc (v := (115 : Int32)) dX12_init_205 rfl ?_
  refine V_cast hc 8 0 (m := 6) (f := (upd (upd (upd (fun _ => 0) 0 99) 1 117) 2 114)) rfl (by rw [hT]; rfl) (by unfold vp_in; decide) (ws' := (iw h y 7 z (upd (fun _ => 0) 8 (-1)) 0 ((alL z y).take 7 ++ [(z + 7, .inl (y.1, 6, .inl (upd (upd (upd (upd (fun _ => 0) 0 99) 1 117) 2 114) 3 115)))]))) rfl dX12_init_207 ?_
  refine V_dup hc dX12_init_208 rfl ?_
  refine V_iconst hc (v := (4 : Int32)) dX12_init_209 rfl ?_
  refine V_bipush hc (v := (111 : Int32)) dX12_init_210 rfl ?_
  refine V_cast hc 8 0 (m := 6) (f := (upd (upd (upd (upd (fun _ => 0) 0 99) 1 117) 2 114) 3 115)) rfl (by rw [hT]; rfl) (by unfold vp_in; decide) (ws' := (iw h y 7 z (upd (fun _ => 0) 8 (-1)) 0 ((alL z y).take 7 ++ [(z + 7, .inl (y.1, 6, .inl (upd (upd (upd (upd (upd (fun _ => 0) 0 99) 1 117) 2 114) 3 115) 4 111)))]))) rfl dX12_init_212 ?_
  refine V_dup hc dX12_init_213 rfl ?_
  refine V_iconst hc (v := (5 : Int32)) dX12_init_214 rfl ?_
  refine V_bipush hc (v := (114 : Int32)) dX12_init_215 rfl ?_
  refine V_cast hc 8 0 (m := 6) (f := (upd (upd (upd (upd (upd (fun _ => 0) 0 99) 1 117) 2 114) 3 115) 4 111)) rfl (by rw [hT]; rfl) (by unfold vp_in; decide) (ws' := (iw h y 7 z (upd (fun _ => 0) 8 (-1)) 0 ((alL z y).take 7 ++ [(z + 7, .inl (y.1, 6, .inl (upd (upd (upd (upd (upd (upd (fun _ => 0) 0 99) 1 117) 2 114) 3 115) 4 111) 5 114)))]))) rfl dX12_init_217 ?_
  refine V_putF hc hnm (ci := 12) rfl iW12 tyX12 tyX12_ok nmX12 0 rfl 15 (by decide) w6_73 rfl rfl rfl rfl (Nat.le_of_ble_eq_true rfl) (ws' := (iw h y 8 z (upd (fun _ => 0) 8 (-1)) 0 ((alL z y).take 8))) rfl dX12_init_218 ?_
  refine V_aload_n hc dX12_init_221 rfl 0 rfl ?_
  refine V_iconst hc (v := (4 : Int32)) dX12_init_222 rfl ?_
  refine V_newN (at_ := .char) hc hz (by simp) (t := 0) rfl (N := 4) (by decide) (by decide) (by omega) (by omega) hX w7_11 dX12_init_223 ?_
  refine V_zu (z1 := z + 9) (u1 := u + 1641) (by omega) (by omega) ?_
  refine V_eq (ws' := (iw h y 8 z (upd (fun _ => 0) 8 (-1)) 0 ((alL z y).take 8 ++ [(z + 8, .inl (y.1, 4, .inl (fun _ => 0)))]))) rfl ?_
  refine V_dup hc dX12_init_225 rfl ?_
  refine V_iconst hc (v := (0 : Int32)) dX12_init_226 rfl ?_
  refine V_bipush hc (v := (109 : Int32)) dX12_init_227 rfl ?_
  refine V_cast hc 9 0 (m := 4) (f := (fun _ => 0)) rfl (by rw [hT]; rfl) (by unfold vp_in; decide) (ws' := (iw h y 8 z (upd (fun _ => 0) 8 (-1)) 0 ((alL z y).take 8 ++ [(z + 8, .inl (y.1, 4, .inl (upd (fun _ => 0) 0 109)))]))) rfl dX12_init_229 ?_
  refine V_dup hc dX12_init_230 rfl ?_
  refine V_iconst hc (v := (1 : Int32)) dX12_init_231 rfl ?_
  refine V_bipush hc (v := (97 : Int32)) dX12_init_232 rfl ?_
  refine V_cast hc 9 0 (m := 4) (f := (upd (fun _ => 0) 0 109)) rfl (by rw [hT]; rfl) (by unfold vp_in; decide) (ws' := (iw h y 8 z (upd (fun _ => 0) 8 (-1)) 0 ((alL z y).take 8 ++ [(z + 8, .inl (y.1, 4, .inl (upd (upd (fun _ => 0) 0 109) 1 97)))]))) rfl dX12_init_234 ?_
  refine V_dup hc dX12_init_235 rfl ?_
  refine V_iconst hc (v := (2 : Int32)) dX12_init_236 rfl ?_
  refine V_bipush hc (v := (114 : Int32)) dX12_init_237 rfl ?_
  refine V_cast hc 9 0 (m := 4) (f := (upd (upd (fun _ => 0) 0 109) 1 97)) rfl (by rw [hT]; rfl) (by unfold vp_in; decide) (ws' := (iw h y 8 z (upd (fun _ => 0) 8 (-1)) 0 ((alL z y).take 8 ++ [(z + 8, .inl (y.1, 4, .inl (upd (upd (upd (fun _ => 0) 0 109) 1 97) 2 114)))]))) rfl dX12_init_239 ?_
  refine V_dup hc dX12_init_240 rfl ?_
  refine V_iconst hc (v := (3 : Int32)) dX12_init_241 rfl ?_
  refine V_bipush hc (v := (107 : Int32)) dX12_init_242 rfl ?_
  refine V_cast hc 9 0 (m := 4) (f := (upd (upd (upd (fun _ => 0) 0 109) 1 97) 2 114)) rfl (by rw [hT]; rfl) (by unfold vp_in; decide) (ws' := (iw h y 8 z (upd (fun _ => 0) 8 (-1)) 0 ((alL z y).take 8 ++ [(z + 8, .inl (y.1, 4, .inl (upd (upd (upd (upd (fun _ => 0) 0 109) 1 97) 2 114) 3 107)))]))) rfl dX12_init_244 ?_
  refine V_putF hc hnm (ci := 12) rfl iW12 tyX12 tyX12_ok nmX12 0 rfl 16 (by decide) w6_74 rfl rfl rfl rfl (Nat.le_of_ble_eq_true rfl) (ws' := (iw h y 9 z (upd (fun _ => 0) 8 (-1)) 0 ((alL z y).take 9))) rfl dX12_init_245 ?_
  refine V_aload_n hc dX12_init_248 rfl 0 rfl ?_
  refine V_iconst hc (v := (3 : Int32)) dX12_init_249 rfl ?_
  refine V_newN (at_ := .char) hc hz (by simp) (t := 0) rfl (N := 3) (by decide) (by decide) (by omega) (by omega) hX w7_11 dX12_init_250 ?_
  refine V_zu (z1 := z + 10) (u1 := u + 1644) (by omega) (by omega) ?_
  refine V_eq (ws' := (iw h y 9 z (upd (fun _ => 0) 8 (-1)) 0 ((alL z y).take 9 ++ [(z + 9, .inl (y.1, 3, .inl (fun _ => 0)))]))) rfl ?_
  refine V_dup hc dX12_init_252 rfl ?_
  refine V_iconst hc (v := (0 : Int32)) dX12_init_253 rfl ?_
  refine V_bipush hc (v := (111 : Int32)) dX12_init_254 rfl ?_
  refine V_cast hc 10 0 (m := 3) (f := (fun _ => 0)) rfl (by rw [hT]; rfl) (by unfold vp_in; decide) (ws' := (iw h y 9 z (upd (fun _ => 0) 8 (-1)) 0 ((alL z y).take 9 ++ [(z + 9, .inl (y.1, 3, .inl (upd (fun _ => 0) 0 111)))]))) rfl dX12_init_256 ?_
  refine V_dup hc dX12_init_257 rfl ?_
  refine V_iconst hc (v := (1 : Int32)) dX12_init_258 rfl ?_
  refine V_bipush hc (v := (102 : Int32)) dX12_init_259 rfl ?_
  refine V_cast hc 10 0 (m := 3) (f := (upd (fun _ => 0) 0 111)) rfl (by rw [hT]; rfl) (by unfold vp_in; decide) (ws' := (iw h y 9 z (upd (fun _ => 0) 8 (-1)) 0 ((alL z y).take 9 ++ [(z + 9, .inl (y.1, 3, .inl (upd (upd (fun _ => 0) 0 111) 1 102)))]))) rfl dX12_init_261 ?_
  refine V_dup hc dX12_init_262 rfl ?_
  refine V_iconst hc (v := (2 : Int32)) dX12_init_263 rfl ?_
  refine V_bipush hc (v := (102 : Int32)) dX12_init_264 rfl ?_
  refine V_cast hc 10 0 (m := 3) (f := (upd (upd (fun _ => 0) 0 111) 1 102)) rfl (by rw [hT]; rfl) (by unfold vp_in; decide) (ws' := (iw h y 9 z (upd (fun _ => 0) 8 (-1)) 0 ((alL z y).take 9 ++ [(z + 9, .inl (y.1, 3, .inl (upd (upd (upd (fun _ => 0) 0 111) 1 102) 2 102)))]))) rfl dX12_init_266 ?_
  refine V_putF hc hnm (ci := 12) rfl iW12 tyX12 tyX12_ok nmX12 0 rfl 17 (by decide) w6_75 rfl rfl rfl rfl (Nat.le_of_ble_eq_true rfl) (ws' := (iw h y 10 z (upd (fun _ => 0) 8 (-1)) 0 ((alL z y).take 10))) rfl dX12_init_267 ?_
  refine V_aload_n hc dX12_init_270 rfl 0 rfl ?_
  refine V_iconst hc (v := (2 : Int32)) dX12_init_271 rfl ?_
  refine V_newN (at_ := .char) hc hz (by simp) (t := 0) rfl (N := 2) (by decide) (by decide) (by omega) (by omega) hX w7_11 dX12_init_272 ?_
  refine V_zu (z1 := z + 11) (u1 := u + 1646) (by omega) (by omega) ?_
  refine V_eq (ws' := (iw h y 10 z (upd (fun _ => 0) 8 (-1)) 0 ((alL z y).take 10 ++ [(z + 10, .inl (y.1, 2, .inl (fun _ => 0)))]))) rfl ?_
  refine V_dup hc dX12_init_274 rfl ?_
  refine V_iconst hc (v := (0 : Int32)) dX12_init_275 rfl ?_
  refine V_bipush hc (v := (111 : Int32)) dX12_init_276 rfl ?_
  refine V_cast hc 11 0 (m := 2) (f := (fun _ => 0)) rfl (by rw [hT]; rfl) (by unfold vp_in; decide) (ws' := (iw h y 10 z (upd (fun _ => 0) 8 (-1)) 0 ((alL z y).take 10 ++ [(z + 10, .inl (y.1, 2, .inl (upd (fun _ => 0) 0 111)))]))) rfl dX12_init_278 ?_
  refine V_dup hc dX12_init_279 rfl ?_
  refine V_iconst hc (v := (1 : Int32)) dX12_init_280 rfl ?_
  refine V_bipush hc (v := (110 : Int32)) dX12_init_281 rfl ?_
  refine V_cast hc 11 0 (m := 2) (f := (upd (fun _ => 0) 0 111)) rfl (by rw [hT]; rfl) (by unfold vp_in; decide) (ws' := (iw h y 10 z (upd (fun _ => 0) 8 (-1)) 0 ((alL z y).take 10 ++ [(z + 10, .inl (y.1, 2, .inl (upd (upd (fun _ => 0) 0 111) 1 110)))]))) rfl dX12_init_283 ?_
  refine V_putF hc hnm (ci := 12) rfl iW12 tyX12 tyX12_ok nmX12 0 rfl 18 (by decide) w6_76 rfl rfl rfl rfl (Nat.le_of_ble_eq_true rfl) (ws' := (iw h y 11 z (upd (fun _ => 0) 8 (-1)) 0 ((alL z y).take 11))) rfl dX12_init_284 ?_
  refine V_aload_n hc dX12_init_287 rfl 0 rfl ?_
  refine V_iconst hc (v := (4 : Int32)) dX12_init_288 rfl ?_
  refine V_newN (at_ := .char) hc hz (by simp) (t := 0) rfl (N := 4) (by decide) (by decide) (by omega) (by omega) hX w7_11 dX12_init_289 ?_
  refine V_zu (z1 := z + 12) (u1 := u + 1650) (by omega) (by omega) ?_
  refine V_eq (ws' := (iw h y 11 z (upd (fun _ => 0) 8 (-1)) 0 ((alL z y).take 11 ++ [(z + 11, .inl (y.1, 4, .inl (fun _ => 0)))]))) rfl ?_
  refine V_dup hc dX12_init_291 rfl ?_
  refine V_iconst hc (v := (0 : Int32)) dX12_init_292 rfl ?_
  refine V_bipush hc (v := (116 : Int32)) dX12_init_293 rfl ?_
  refine V_cast hc 12 0 (m := 4) (f := (fun _ => 0)) rfl (by rw [hT]; rfl) (by unfold vp_in; decide) (ws' := (iw h y 11 z (upd (fun _ => 0) 8 (-1)) 0 ((alL z y).take 11 ++ [(z + 11, .inl (y.1, 4, .inl (upd (fun _ => 0) 0 116)))]))) rfl dX12_init_295 ?_
  refine V_dup hc dX12_init_296 rfl ?_
  refine V_iconst hc (v := (1 : Int32)) dX12_init_297 rfl ?_
  refine V_bipush hc (v := (105 : Int32)) dX12_init_298 rfl ?_
  refine V_cast hc 12 0 (m := 4) (f := (upd (fun _ => 0) 0 116)) rfl (by rw [hT]; rfl) (by unfold vp_in; decide) (ws' := (iw h y 11 z (upd (fun _ => 0) 8 (-1)) 0 ((alL z y).take 11 ++ [(z + 11, .inl (y.1, 4, .inl (upd (upd (fun _ => 0) 0 116) 1 105)))]))) rfl dX12_init_300 ?_
  refine V_dup hc dX12_init_301 rfl ?_
  refine V_iconst hc (v := (2 : Int32)) dX12_init_302 rfl ?_
  refine V_bipush hc (v := (99 : Int32)) dX12_init_303 rfl ?_
  refine V_cast hc 12 0 (m := 4) (f := (upd (upd (fun _ => 0) 0 116) 1 105)) rfl (by rw [hT]; rfl) (by unfold vp_in; decide) (ws' := (iw h y 11 z (upd (fun _ => 0) 8 (-1)) 0 ((alL z y).take 11 ++ [(z + 11, .inl (y.1, 4, .inl (upd (upd (upd (fun _ => 0) 0 116) 1 105) 2 99)))]))) rfl dX12_init_305 ?_
  refine V_dup hc dX12_init_306 rfl ?_
  refine V_iconst hc (v := (3 : Int32)) dX12_init_307 rfl ?_
  refine V_bipush hc (v := (107 : Int32)) dX12_init_308 rfl ?_
  refine V_cast hc 12 0 (m := 4) (f := (upd (upd (upd (fun _ => 0) 0 116) 1 105) 2 99)) rfl (by rw [hT]; rfl) (by unfold vp_in; decide) (ws' := (iw h y 11 z (upd (fun _ => 0) 8 (-1)) 0 ((alL z y).take 11 ++ [(z + 11, .inl (y.1, 4, .inl (upd (upd (upd (upd (fun _ => 0) 0 116) 1 105) 2 99) 3 107)))]))) rfl dX12_init_310 ?_
  refine V_putF hc hnm (ci := 12) rfl iW12 tyX12 tyX12_ok nmX12 0 rfl 19 (by decide) w6_77 rfl rfl rfl rfl (Nat.le_of_ble_eq_true rfl) (ws' := (iw h y 12 z (upd (fun _ => 0) 8 (-1)) 0 ((alL z y).take 12))) rfl dX12_init_311 ?_
  refine V_aload_n hc dX12_init_314 rfl 0 rfl ?_
  refine V_sipush hc (v := (700 : Int32)) dX12_init_315 rfl ?_
  refine V_newN (at_ := .int) hc hz (by simp) (t := 1) rfl (N := 700) (by decide) (by decide) (by omega) (by omega) hX w1_82 dX12_init_318 ?_
  refine V_zu (z1 := z + 13) (u1 := u + 2350) (by omega) (by omega) ?_
  refine V_eq (ws' := (iw h y 12 z (upd (fun _ => 0) 8 (-1)) 0 ((alL z y).take 13))) rfl ?_
  refine V_putF hc hnm (ci := 12) rfl iW12 tyX12 tyX12_ok nmX12 0 rfl 20 (by decide) w6_78 rfl rfl rfl rfl (Nat.le_of_ble_eq_true rfl) (ws' := (iw h y 13 z (upd (fun _ => 0) 8 (-1)) 0 ((alL z y).take 13))) rfl dX12_init_320 ?_
  refine V_aload_n hc dX12_init_323 rfl 0 rfl ?_
  refine V_sipush hc (v := (700 : Int32)) dX12_init_324 rfl ?_
  refine V_newN (at_ := .int) hc hz (by simp) (t := 1) rfl (N := 700) (by decide) (by decide) (by omega) (by omega) hX w1_82 dX12_init_327 ?_
  refine V_zu (z1 := z + 14) (u1 := u + 3050) (by omega) (by omega) ?_
  refine V_eq (ws' := (iw h y 13 z (upd (fun _ => 0) 8 (-1)) 0 ((alL z y).take 14))) rfl ?_
  refine V_putF hc hnm (ci := 12) rfl iW12 tyX12 tyX12_ok nmX12 0 rfl 21 (by decide) w6_79 rfl rfl rfl rfl (Nat.le_of_ble_eq_true rfl) (ws' := (iw h y 14 z (upd (fun _ => 0) 8 (-1)) 0 ((alL z y).take 14))) rfl dX12_init_329 ?_
  refine V_aload_n hc dX12_init_332 rfl 0 rfl ?_
  refine V_sipush hc (v := (700 : Int32)) dX12_init_333 rfl ?_
  refine V_newN (at_ := .int) hc hz (by simp) (t := 1) rfl (N := 700) (by decide) (by decide) (by omega) (by omega) hX w1_82 dX12_init_336 ?_
  refine V_zu (z1 := z + 15) (u1 := u + 3750) (by omega) (by omega) ?_
  refine V_eq (ws' := (iw h y 14 z (upd (fun _ => 0) 8 (-1)) 0 ((alL z y).take 15))) rfl ?_
  refine V_putF hc hnm (ci := 12) rfl iW12 tyX12 tyX12_ok nmX12 0 rfl 22 (by decide) w6_80 rfl rfl rfl rfl (Nat.le_of_ble_eq_true rfl) (ws' := (iw h y 15 z (upd (fun _ => 0) 8 (-1)) 0 ((alL z y).take 15))) rfl dX12_init_338 ?_
  refine V_aload_n hc dX12_init_341 rfl 0 rfl ?_
  refine V_sipush hc (v := (700 : Int32)) dX12_init_342 rfl ?_
  refine V_newN (at_ := .int) hc hz (by simp) (t := 1) rfl (N := 700) (by decide) (by decide) (by omega) (by omega) hX w1_82 dX12_init_345 ?_
  refine V_zu (z1 := z + 16) (u1 := u + 4450) (by omega) (by omega) ?_
  refine V_eq (ws' := (iw h y 15 z (upd (fun _ => 0) 8 (-1)) 0 ((alL z y).take 16))) rfl ?_
  refine V_putF hc hnm (ci := 12) rfl iW12 tyX12 tyX12_ok nmX12 0 rfl 23 (by decide) w6_81 rfl rfl rfl rfl (Nat.le_of_ble_eq_true rfl) (ws' := (iw h y 16 z (upd (fun _ => 0) 8 (-1)) 0 ((alL z y).take 16))) rfl dX12_init_347 ?_
  refine V_aload_n hc dX12_init_350 rfl 0 rfl ?_
  refine V_sipush hc (v := (700 : Int32)) dX12_init_351 rfl ?_
  refine V_newN (at_ := .int) hc hz (by simp) (t := 1) rfl (N := 700) (by decide) (by decide) (by omega) (by omega) hX w1_82 dX12_init_354 ?_
  refine V_zu (z1 := z + 17) (u1 := u + 5150) (by omega) (by omega) ?_
  refine V_eq (ws' := (iw h y 16 z (upd (fun _ => 0) 8 (-1)) 0 ((alL z y).take 17))) rfl ?_
  refine V_putF hc hnm (ci := 12) rfl iW12 tyX12 tyX12_ok nmX12 0 rfl 24 (by decide) w6_82 rfl rfl rfl rfl (Nat.le_of_ble_eq_true rfl) (ws' := (iw h y 17 z (upd (fun _ => 0) 8 (-1)) 0 ((alL z y).take 17))) rfl dX12_init_356 ?_
  refine V_aload_n hc dX12_init_359 rfl 0 rfl ?_
  refine V_sipush hc (v := (700 : Int32)) dX12_init_360 rfl ?_
  refine V_newN (at_ := .int) hc hz (by simp) (t := 1) rfl (N := 700) (by decide) (by decide) (by omega) (by omega) hX w1_82 dX12_init_363 ?_
  refine V_zu (z1 := z + 18) (u1 := u + 5850) (by omega) (by omega) ?_
  refine V_eq (ws' := (iw h y 17 z (upd (fun _ => 0) 8 (-1)) 0 ((alL z y).take 18))) rfl ?_
  refine V_putF hc hnm (ci := 12) rfl iW12 tyX12 tyX12_ok nmX12 0 rfl 29 (by decide) w6_87 rfl rfl rfl rfl (Nat.le_of_ble_eq_true rfl) (ws' := (iw h y 18 z (upd (fun _ => 0) 8 (-1)) 0 ((alL z y).take 18))) rfl dX12_init_365 ?_
  refine V_aload_n hc dX12_init_368 rfl 0 rfl ?_
  refine V_sipush hc (v := (10476 : Int32)) dX12_init_369 rfl ?_
  refine V_newN (at_ := .int) hc hz (by simp) (t := 1) rfl (N := 10476) (by decide) (by decide) (by omega) (by omega) hX w1_82 dX12_init_372 ?_
  refine V_zu (z1 := z + 19) (u1 := u + 16326) (by omega) (by omega) ?_
  refine V_eq (ws' := (iw h y 18 z (upd (fun _ => 0) 8 (-1)) 0 ((alL z y).take 19))) rfl ?_
  refine V_putF hc hnm (ci := 12) rfl iW12 tyX12 tyX12_ok nmX12 0 rfl 30 (by decide) w6_88 rfl rfl rfl rfl (Nat.le_of_ble_eq_true rfl) (ws' := (iw h y 19 z (upd (fun _ => 0) 8 (-1)) 0 ((alL z y).take 19))) rfl dX12_init_374 ?_
  refine V_aload_n hc dX12_init_377 rfl 0 rfl ?_
  refine V_bipush hc (v := (40 : Int32)) dX12_init_378 rfl ?_
  refine V_newN (at_ := .int) hc hz (by simp) (t := 1) rfl (N := 40) (by decide) (by decide) (by omega) (by omega) hX w1_82 dX12_init_380 ?_
  refine V_zu (z1 := z + 20) (u1 := u + 16366) (by omega) (by omega) ?_
  refine V_eq (ws' := (iw h y 19 z (upd (fun _ => 0) 8 (-1)) 0 ((alL z y).take 20))) rfl ?_
  refine V_putF hc hnm (ci := 12) rfl iW12 tyX12 tyX12_ok nmX12 0 rfl 35 (by decide) w6_93 rfl rfl rfl rfl (Nat.le_of_ble_eq_true rfl) (ws' := (iw h y 20 z (upd (fun _ => 0) 8 (-1)) 0 ((alL z y).take 20))) rfl dX12_init_382 ?_
  refine V_aload_n hc dX12_init_385 rfl 0 rfl ?_
  refine V_bipush hc (v := (108 : Int32)) dX12_init_386 rfl ?_
  refine V_newN (at_ := .int) hc hz (by simp) (t := 1) rfl (N := 108) (by decide) (by decide) (by omega) (by omega) hX w1_82 dX12_init_388 ?_
  refine V_zu (z1 := z + 21) (u1 := u + 16474) (by omega) (by omega) ?_
  refine V_eq (ws' := (iw h y 20 z (upd (fun _ => 0) 8 (-1)) 0 ((alL z y).take 21))) rfl ?_
  refine V_putF hc hnm (ci := 12) rfl iW12 tyX12 tyX12_ok nmX12 0 rfl 36 (by decide) w6_94 rfl rfl rfl rfl (Nat.le_of_ble_eq_true rfl) (ws' := (iw h y 21 z (upd (fun _ => 0) 8 (-1)) 0 ((alL z y).take 21))) rfl dX12_init_390 ?_
  refine V_aload_n hc dX12_init_393 rfl 0 rfl ?_
  refine V_bipush hc (v := (108 : Int32)) dX12_init_394 rfl ?_
  refine V_newN (at_ := .int) hc hz (by simp) (t := 1) rfl (N := 108) (by decide) (by decide) (by omega) (by omega) hX w1_82 dX12_init_396 ?_
  refine V_zu (z1 := z + 22) (u1 := u + 16582) (by omega) (by omega) ?_
  refine V_eq (ws' := (iw h y 21 z (upd (fun _ => 0) 8 (-1)) 0 ((alL z y).take 22))) rfl ?_
  refine V_putF hc hnm (ci := 12) rfl iW12 tyX12 tyX12_ok nmX12 0 rfl 37 (by decide) w6_95 rfl rfl rfl rfl (Nat.le_of_ble_eq_true rfl) (ws' := (iw h y 22 z (upd (fun _ => 0) 8 (-1)) 0 ((alL z y).take 22))) rfl dX12_init_398 ?_
  refine V_aload_n hc dX12_init_401 rfl 0 rfl ?_
  refine V_bipush hc (v := (108 : Int32)) dX12_init_402 rfl ?_
  refine V_newN (at_ := .int) hc hz (by simp) (t := 1) rfl (N := 108) (by decide) (by decide) (by omega) (by omega) hX w1_82 dX12_init_404 ?_
  refine V_zu (z1 := z + 23) (u1 := u + 16690) (by omega) (by omega) ?_
  refine V_eq (ws' := (iw h y 22 z (upd (fun _ => 0) 8 (-1)) 0 ((alL z y).take 23))) rfl ?_
  refine V_putF hc hnm (ci := 12) rfl iW12 tyX12 tyX12_ok nmX12 0 rfl 38 (by decide) w6_96 rfl rfl rfl rfl (Nat.le_of_ble_eq_true rfl) (ws' := (iw h y 23 z (upd (fun _ => 0) 8 (-1)) 0 ((alL z y).take 23))) rfl dX12_init_406 ?_
  refine V_aload_n hc dX12_init_409 rfl 0 rfl ?_
  refine V_bipush hc (v := (108 : Int32)) dX12_init_410 rfl ?_
  refine V_newN (at_ := .int) hc hz (by simp) (t := 1) rfl (N := 108) (by decide) (by decide) (by omega) (by omega) hX w1_82 dX12_init_412 ?_
  refine V_zu (z1 := z + 24) (u1 := u + 16798) (by omega) (by omega) ?_
  refine V_eq (ws' := (iw h y 23 z (upd (fun _ => 0) 8 (-1)) 0 ((alL z y).take 24))) rfl ?_
  refine V_putF hc hnm (ci := 12) rfl iW12 tyX12 tyX12_ok nmX12 0 rfl 39 (by decide) w6_97 rfl rfl rfl rfl (Nat.le_of_ble_eq_true rfl) (ws' := (iw h y 24 z (upd (fun _ => 0) 8 (-1)) 0 ((alL z y).take 24))) rfl dX12_init_414 ?_
  refine V_aload_n hc dX12_init_417 rfl 0 rfl ?_
  refine V_sipush hc (v := (3000 : Int32)) dX12_init_418 rfl ?_
  refine V_newN (at_ := .int) hc hz (by simp) (t := 1) rfl (N := 3000) (by decide) (by decide) (by omega) (by omega) hX w1_82 dX12_init_421 ?_
  refine V_zu (z1 := z + 25) (u1 := u + 19798) (by omega) (by omega) ?_
  refine V_eq (ws' := (iw h y 24 z (upd (fun _ => 0) 8 (-1)) 0 ((alL z y).take 25))) rfl ?_
  refine V_putF hc hnm (ci := 12) rfl iW12 tyX12 tyX12_ok nmX12 0 rfl 40 (by decide) w6_98 rfl rfl rfl rfl (Nat.le_of_ble_eq_true rfl) (ws' := (iw h y 25 z (upd (fun _ => 0) 8 (-1)) 0 ((alL z y).take 25))) rfl dX12_init_423 ?_
  refine V_aload_n hc dX12_init_426 rfl 0 rfl ?_
  refine V_sipush hc (v := (700 : Int32)) dX12_init_427 rfl ?_
  refine V_newN (at_ := .int) hc hz (by simp) (t := 1) rfl (N := 700) (by decide) (by decide) (by omega) (by omega) hX w1_82 dX12_init_430 ?_
  refine V_zu (z1 := z + 26) (u1 := u + 20498) (by omega) (by omega) ?_
  refine V_eq (ws' := (iw h y 25 z (upd (fun _ => 0) 8 (-1)) 0 ((alL z y).take 26))) rfl ?_
  refine V_putF hc hnm (ci := 12) rfl iW12 tyX12 tyX12_ok nmX12 0 rfl 41 (by decide) w6_99 rfl rfl rfl rfl (Nat.le_of_ble_eq_true rfl) (ws' := (iw h y 26 z (upd (fun _ => 0) 8 (-1)) 0 ((alL z y).take 26))) rfl dX12_init_432 ?_
  refine V_aload_n hc dX12_init_435 rfl 0 rfl ?_
  refine V_sipush hc (v := (300 : Int32)) dX12_init_436 rfl ?_
  refine V_newN (at_ := .int) hc hz (by simp) (t := 1) rfl (N := 300) (by decide) (by decide) (by omega) (by omega) hX w1_82 dX12_init_439 ?_
  refine V_zu (z1 := z + 27) (u1 := u + 20798) (by omega) (by omega) ?_
  refine V_eq (ws' := (iw h y 26 z (upd (fun _ => 0) 8 (-1)) 0 ((alL z y).take 27))) rfl ?_
  refine V_putF hc hnm (ci := 12) rfl iW12 tyX12 tyX12_ok nmX12 0 rfl 47 (by decide) w6_105 rfl rfl rfl rfl (Nat.le_of_ble_eq_true rfl) (ws' := (iw h y 27 z (upd (fun _ => 0) 8 (-1)) 0 ((alL z y).take 27))) rfl dX12_init_441 ?_
  refine V_aload_n hc dX12_init_444 rfl 0 rfl ?_
  refine V_sipush hc (v := (300 : Int32)) dX12_init_445 rfl ?_
  refine V_newN (at_ := .int) hc hz (by simp) (t := 1) rfl (N := 300) (by decide) (by decide) (by omega) (by omega) hX w1_82 dX12_init_448 ?_
  refine V_zu (z1 := z + 28) (u1 := u + 21098) (by omega) (by omega) ?_
  refine V_eq (ws' := (iw h y 27 z (upd (fun _ => 0) 8 (-1)) 0 ((alL z y).take 28))) rfl ?_
  refine V_putF hc hnm (ci := 12) rfl iW12 tyX12 tyX12_ok nmX12 0 rfl 48 (by decide) w6_106 rfl rfl rfl rfl (Nat.le_of_ble_eq_true rfl) (ws' := (iw h y 28 z (upd (fun _ => 0) 8 (-1)) 0 ((alL z y).take 28))) rfl dX12_init_450 ?_
  refine V_aload_n hc dX12_init_453 rfl 0 rfl ?_
  refine V_sipush hc (v := (300 : Int32)) dX12_init_454 rfl ?_
  refine V_newN (at_ := .int) hc hz (by simp) (t := 1) rfl (N := 300) (by decide) (by decide) (by omega) (by omega) hX w1_82 dX12_init_457 ?_
  refine V_zu (z1 := z + 29) (u1 := u + 21398) (by omega) (by omega) ?_
  refine V_eq (ws' := (iw h y 28 z (upd (fun _ => 0) 8 (-1)) 0 ((alL z y).take 29))) rfl ?_
  refine V_putF hc hnm (ci := 12) rfl iW12 tyX12 tyX12_ok nmX12 0 rfl 50 (by decide) w6_108 rfl rfl rfl rfl (Nat.le_of_ble_eq_true rfl) (ws' := (iw h y 29 z (upd (fun _ => 0) 8 (-1)) 0 ((alL z y).take 29))) rfl dX12_init_459 ?_
  refine V_aload_n hc dX12_init_462 rfl 0 rfl ?_
  refine V_sipush hc (v := (10476 : Int32)) dX12_init_463 rfl ?_
  refine V_newN (at_ := .int) hc hz (by simp) (t := 1) rfl (N := 10476) (by decide) (by decide) (by omega) (by omega) hX w1_82 dX12_init_466 ?_
  refine V_zu (z1 := z + 30) (u1 := u + 31874) (by omega) (by omega) ?_
  refine V_eq (ws' := (iw h y 29 z (upd (fun _ => 0) 8 (-1)) 0 ((alL z y).take 30))) rfl ?_
  refine V_putF hc hnm (ci := 12) rfl iW12 tyX12 tyX12_ok nmX12 0 rfl 52 (by decide) w6_110 rfl rfl rfl rfl (Nat.le_of_ble_eq_true rfl) (ws' := (iw h y 30 z (upd (fun _ => 0) 8 (-1)) 0 ((alL z y).take 30))) rfl dX12_init_468 ?_
  refine V_aload_n hc dX12_init_471 rfl 0 rfl ?_
  refine V_bipush hc (v := (24 : Int32)) dX12_init_472 rfl ?_
  refine V_newN (at_ := .int) hc hz (by simp) (t := 1) rfl (N := 24) (by decide) (by decide) (by omega) (by omega) hX w1_82 dX12_init_474 ?_
  refine V_zu (z1 := z + 31) (u1 := u + 31898) (by omega) (by omega) ?_
  refine V_eq (ws' := (iw h y 30 z (upd (fun _ => 0) 8 (-1)) 0 ((alL z y).take 31))) rfl ?_
  refine V_putF hc hnm (ci := 12) rfl iW12 tyX12 tyX12_ok nmX12 0 rfl 54 (by decide) w6_112 rfl rfl rfl rfl (Nat.le_of_ble_eq_true rfl) (ws' := (iw h y 31 z (upd (fun _ => 0) 8 (-1)) 0 ((alL z y).take 31))) rfl dX12_init_476 ?_
  refine V_aload_n hc dX12_init_479 rfl 0 rfl ?_
  refine V_sipush hc (v := (6000 : Int32)) dX12_init_480 rfl ?_
  refine V_newN (at_ := .int) hc hz (by simp) (t := 1) rfl (N := 6000) (by decide) (by decide) (by omega) (by omega) hX w1_82 dX12_init_483 ?_
  refine V_zu (z1 := z + 32) (u1 := u + 37898) (by omega) (by omega) ?_
  refine V_eq (ws' := (iw h y 31 z (upd (fun _ => 0) 8 (-1)) 0 ((alL z y).take 32))) rfl ?_
  refine V_putF hc hnm (ci := 12) rfl iW12 tyX12 tyX12_ok nmX12 0 rfl 55 (by decide) w6_113 rfl rfl rfl rfl (Nat.le_of_ble_eq_true rfl) (ws' := (iw h y 32 z (upd (fun _ => 0) 8 (-1)) 0 ((alL z y).take 32))) rfl dX12_init_485 ?_
  refine V_aload_n hc dX12_init_488 rfl 0 rfl ?_
  refine V_bipush hc (v := (32 : Int32)) dX12_init_489 rfl ?_
  refine V_newN (at_ := .int) hc hz (by simp) (t := 1) rfl (N := 32) (by decide) (by decide) (by omega) (by omega) hX w1_82 dX12_init_491 ?_
  refine V_zu (z1 := z + 33) (u1 := u + 37930) (by omega) (by omega) ?_
  refine V_eq (ws' := (iw h y 32 z (upd (fun _ => 0) 8 (-1)) 0 ((alL z y).take 33))) rfl ?_
  refine V_putF hc hnm (ci := 12) rfl iW12 tyX12 tyX12_ok nmX12 0 rfl 57 (by decide) w6_115 rfl rfl rfl rfl (Nat.le_of_ble_eq_true rfl) (ws' := (iw h y 33 z (upd (fun _ => 0) 8 (-1)) 0 ((alL z y).take 33))) rfl dX12_init_493 ?_
  refine V_aload_n hc dX12_init_496 rfl 0 rfl ?_
  refine V_bipush hc (v := (24 : Int32)) dX12_init_497 rfl ?_
  refine V_newN (at_ := .boolean) hc hz (by simp) (t := 2) rfl (N := 24) (by decide) (by decide) (by omega) (by omega) hX w7_12 dX12_init_499 ?_
  refine V_zu (z1 := z + 34) (u1 := u + 37954) (by omega) (by omega) ?_
  refine V_eq (ws' := (iw h y 33 z (upd (fun _ => 0) 8 (-1)) 0 ((alL z y).take 34))) rfl ?_
  refine V_putF hc hnm (ci := 12) rfl iW12 tyX12 tyX12_ok nmX12 0 rfl 58 (by decide) w6_116 rfl rfl rfl rfl (Nat.le_of_ble_eq_true rfl) (ws' := (iw h y 34 z (upd (fun _ => 0) 8 (-1)) 0 ((alL z y).take 34))) rfl dX12_init_501 ?_
  refine V_aload_n hc dX12_init_504 rfl 0 rfl ?_
  refine V_ldc hc w6_57 dX12_init_505 ?_
  refine V_newN (at_ := .int) hc hz (by simp) (t := 1) rfl (N := 209520) (by decide) (by decide) (by omega) (by omega) hX w1_82 dX12_init_507 ?_
  refine V_zu (z1 := z + 35) (u1 := u + 247474) (by omega) (by omega) ?_
  refine V_eq (ws' := (iw h y 34 z (upd (fun _ => 0) 8 (-1)) 0 ((alL z y).take 35))) rfl ?_
  refine V_putF hc hnm (ci := 12) rfl iW12 tyX12 tyX12_ok nmX12 0 rfl 60 (by decide) w6_118 rfl rfl rfl rfl (Nat.le_of_ble_eq_true rfl) (ws' := (iw h y 35 z (upd (fun _ => 0) 8 (-1)) 0 ((alL z y).take 35))) rfl dX12_init_509 ?_
  refine V_aload_n hc dX12_init_512 rfl 0 rfl ?_
  refine V_lconst hc (v := (1 : Int64)) dX12_init_513 rfl ?_
  refine V_put hc (ci := 12) rfl iW12 tyX12 tyX12_ok nmX12 0 rfl 63 (by decide) w6_121 rfl rfl rfl (Nat.le_of_ble_eq_true rfl) (ws' := (iw h y 35 z (upd (fun _ => 0) 8 (-1)) 1 ((alL z y).take 35))) rfl dX12_init_514 ?_
  refine V_eq (ws' := mw h (mq z) y M0) rfl ?_
  exact V_vret hc hzz rfl rfl rfl rfl dX12_init_517
