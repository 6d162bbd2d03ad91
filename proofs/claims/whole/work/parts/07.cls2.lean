theorem df0 : ∀ j, j < 10 → defaultValue (tyX0 j) = vp_V ((ft 0).map (fun p => if p.1 then Value.null else .int 0)) j := fun j h => match j, h with
  | 0, _ => rfl
  | 1, _ => rfl
  | 2, _ => rfl
  | 3, _ => rfl
  | 4, _ => rfl
  | 5, _ => rfl
  | 6, _ => rfl
  | 7, _ => rfl
  | 8, _ => rfl
  | 9, _ => rfl
  | k + 10, h => absurd h (by omega)
theorem df1 : ∀ j, j < 15 → defaultValue (tyX1 j) = vp_V ((ft 1).map (fun p => if p.1 then Value.null else .int 0)) j := fun j h => match j, h with
  | 0, _ => rfl
  | 1, _ => rfl
  | 2, _ => rfl
  | 3, _ => rfl
  | 4, _ => rfl
  | 5, _ => rfl
  | 6, _ => rfl
  | 7, _ => rfl
  | 8, _ => rfl
  | 9, _ => rfl
  | 10, _ => rfl
  | 11, _ => rfl
  | 12, _ => rfl
  | 13, _ => rfl
  | 14, _ => rfl
  | k + 15, h => absurd h (by omega)
theorem df2 : ∀ j, j < 4 → defaultValue (tyX2 j) = vp_V ((ft 2).map (fun p => if p.1 then Value.null else .int 0)) j := fun j h => match j, h with
  | 0, _ => rfl
  | 1, _ => rfl
  | 2, _ => rfl
  | 3, _ => rfl
  | k + 4, h => absurd h (by omega)
theorem df3 : ∀ j, j < 2 → defaultValue (tyX3 j) = vp_V ((ft 3).map (fun p => if p.1 then Value.null else .int 0)) j := fun j h => match j, h with
  | 0, _ => rfl
  | 1, _ => rfl
  | k + 2, h => absurd h (by omega)
theorem df4 : ∀ j, j < 2 → defaultValue (tyX4 j) = vp_V ((ft 4).map (fun p => if p.1 then Value.null else .int 0)) j := fun j h => match j, h with
  | 0, _ => rfl
  | 1, _ => rfl
  | k + 2, h => absurd h (by omega)
theorem df5 : ∀ j, j < 4 → defaultValue (tyX5 j) = vp_V ((ft 5).map (fun p => if p.1 then Value.null else .int 0)) j := fun j h => match j, h with
  | 0, _ => rfl
  | 1, _ => rfl
  | 2, _ => rfl
  | 3, _ => rfl
  | k + 4, h => absurd h (by omega)
theorem df6 : ∀ j, j < 3 → defaultValue (tyX6 j) = vp_V ((ft 6).map (fun p => if p.1 then Value.null else .int 0)) j := fun j h => match j, h with
  | 0, _ => rfl
  | 1, _ => rfl
  | 2, _ => rfl
  | k + 3, h => absurd h (by omega)
theorem df7 : ∀ j, j < 2 → defaultValue (tyX7 j) = vp_V ((ft 7).map (fun p => if p.1 then Value.null else .int 0)) j := fun j h => match j, h with
  | 0, _ => rfl
  | 1, _ => rfl
  | k + 2, h => absurd h (by omega)
theorem df8 : ∀ j, j < 12 → defaultValue (tyX8 j) = vp_V ((ft 8).map (fun p => if p.1 then Value.null else .int 0)) j := fun j h => match j, h with
  | 0, _ => rfl
  | 1, _ => rfl
  | 2, _ => rfl
  | 3, _ => rfl
  | 4, _ => rfl
  | 5, _ => rfl
  | 6, _ => rfl
  | 7, _ => rfl
  | 8, _ => rfl
  | 9, _ => rfl
  | 10, _ => rfl
  | 11, _ => rfl
  | k + 12, h => absurd h (by omega)
theorem df9 : ∀ j, j < 7 → defaultValue (tyX9 j) = vp_V ((ft 9).map (fun p => if p.1 then Value.null else .int 0)) j := fun j h => match j, h with
  | 0, _ => rfl
  | 1, _ => rfl
  | 2, _ => rfl
  | 3, _ => rfl
  | 4, _ => rfl
  | 5, _ => rfl
  | 6, _ => rfl
  | k + 7, h => absurd h (by omega)
theorem df10 : ∀ j, j < 12 → defaultValue (tyX10 j) = vp_V ((ft 10).map (fun p => if p.1 then Value.null else .int 0)) j := fun j h => match j, h with
  | 0, _ => rfl
  | 1, _ => rfl
  | 2, _ => rfl
  | 3, _ => rfl
  | 4, _ => rfl
  | 5, _ => rfl
  | 6, _ => rfl
  | 7, _ => rfl
  | 8, _ => rfl
  | 9, _ => rfl
  | 10, _ => rfl
  | 11, _ => rfl
  | k + 12, h => absurd h (by omega)
theorem df11 : ∀ j, j < 14 → defaultValue (tyX11 j) = vp_V ((ft 11).map (fun p => if p.1 then Value.null else .int 0)) j := fun j h => match j, h with
  | 0, _ => rfl
  | 1, _ => rfl
  | 2, _ => rfl
  | 3, _ => rfl
  | 4, _ => rfl
  | 5, _ => rfl
  | 6, _ => rfl
  | 7, _ => rfl
  | 8, _ => rfl
  | 9, _ => rfl
  | 10, _ => rfl
  | 11, _ => rfl
  | 12, _ => rfl
  | 13, _ => rfl
  | k + 14, h => absurd h (by omega)
theorem bz_fits {v : Int32} (h : v = 0 ∨ v = 1) : fits .boolean (.int v) = true := by
  rcases h with rfl | rfl <;> rfl
theorem fv_born {S : CS} {ci n : Nat} : (ft ci).map (fv (bornO S ci n) (cZ S)) = (ft ci).map (fun p => if p.1 then Value.null else .int 0) := by
  apply List.map_congr_left
  intro p _
  simp [fv, bornO, cI, cJ, va_up, va_rf]
theorem up_bornO {y : CyT} {S : CS} {ci n : Nat} (hci : ci < 12) (b : Nat) : va_up (cE y S) (cZ S) (.inr (ci, (ft ci).map (fun p => if p.1 then Value.null else .int 0))) b = cE y (bornO S ci n) b := by
  by_cases hb : b = cZ S
  · subst hb
    rw [va_up_self, cE_obj (S := bornO S ci n) (ci := ci) (va_up_self _ _ _) hci, fv_born]
  · rw [va_up_ne _ _ hb]
    have h0 : cK (bornO S ci n) b = cK S b := va_up_ne _ _ hb
    have h1 : cI (bornO S ci n) b = cI S b := va_up_ne _ _ hb
    have h2 : cJ (bornO S ci n) b = cJ S b := va_up_ne _ _ hb
    have h3 : fv (bornO S ci n) b = fv S b := by funext p; simp only [fv, h1, h2]
    unfold cE
    rw [h3, h0]
    rfl
theorem up_bornI {y : CyT} {S : CS} {n : Nat} (b : Nat) : va_up (cE y S) (cZ S) (.inl (y.2.1, n, .inl (fun _ => 0))) b = cE y (bornA S 14 n) b := by
  by_cases hb : b = cZ S
  · subst hb
    rw [va_up_self, cE_int (S := bornA S 14 n) (va_up_self _ _ _)]
    have h1 : cN (bornA S 14 n) (cZ S) = n := va_up_self _ _ _
    have h2 : cA (bornA S 14 n) (cZ S) = (fun _ => 0) := va_up_self _ _ _
    rw [h1, h2]
  · rw [va_up_ne _ _ hb]
    have h0 : cK (bornA S 14 n) b = cK S b := va_up_ne _ _ hb
    have h1 : cN (bornA S 14 n) b = cN S b := va_up_ne _ _ hb
    have h2 : cA (bornA S 14 n) b = cA S b := va_up_ne _ _ hb
    have h4 : cB (bornA S 14 n) b = cB S b := va_up_ne _ _ hb
    have h3 : fv (bornA S 14 n) b = fv S b := rfl
    unfold cE
    rw [h3, h0, h1, h2, h4]
theorem up_bornR {y : CyT} {S : CS} {ck n : Nat} (h6 : 16 ≤ ck) (h7 : ck ≤ 19) (b : Nat) : va_up (cE y S) (cZ S) (.inl (cyR y ck, n, .inr (.inr (.inr (.inr (fun _ => none)))))) b = cE y (bornA S ck n) b := by
  by_cases hb : b = cZ S
  · subst hb
    rw [va_up_self, cE_ref (S := bornA S ck n) (va_up_self _ _ _) h6 h7]
    have h1 : cN (bornA S ck n) (cZ S) = n := va_up_self _ _ _
    have h2 : cB (bornA S ck n) (cZ S) = (fun _ => none) := va_up_self _ _ _
    rw [h1, h2]
  · rw [va_up_ne _ _ hb]
    have h0 : cK (bornA S ck n) b = cK S b := va_up_ne _ _ hb
    have h1 : cN (bornA S ck n) b = cN S b := va_up_ne _ _ hb
    have h2 : cA (bornA S ck n) b = cA S b := va_up_ne _ _ hb
    have h4 : cB (bornA S ck n) b = cB S b := va_up_ne _ _ hb
    have h3 : fv (bornA S ck n) b = fv S b := rfl
    unfold cE
    rw [h3, h0, h1, h2, h4]
theorem cw_push {D : va_G} {y : CyT} {S S1 : CS} {H : Heap} {e : va_E} (hP : va_P D vwCl (cw y S) H) (hz : H.size = cZ S) (hL : cL S1 = cL S ++ [cZ S]) (he : ∀ b, va_up (cE y S) (cZ S) e b = cE y S1 b) : cw y S ++ [(cZ S, e)] = cw y S1 := by
  have hn : cZ S ∉ cL S := by
    intro h
    obtain ⟨k, hk⟩ := cw_get (y := y) h
    have := (hP k _ hk).lt
    omega
  unfold cw
  rw [hL, va_pl_push hn]
  exact va_pl_congr he
/-- the heap has grown by the cell e: the world too -/
theorem cw_grow {E : CxT} {own : String} {cc : ByteArray} {nl : Nat} (hc : Cx E own cc nl) {y : CyT} {S S1 : CS} {H H1 : Heap} {locs : List Loc} {e : va_E} (hP : va_P (xD E) vwCl (cw y S) H) (hD : va_D (xF E) (cw y S)) (hS : va_S (xF E) (xS E).heap H locs) (hz : H.size = cZ S) (hL : cL S1 = cL S ++ [cZ S]) (he : ∀ b, va_up (cE y S) (cZ S) e b = cE y S1 b) (z1 : H1.size = H.size + 1) (o1 : ∀ q : Nat, q < H.size → H1[q]? = H[q]?) (hat : va_at (xD E) vwCl (cZ S, e) H1) : va_P (xD E) vwCl (cw y S1) H1 ∧ va_D (xF E) (cw y S1) ∧ va_S (xF E) (xS E).heap H1 locs := by
  have h1 := cw_push hP hz hL he
  refine ⟨?_, ?_, ⟨Nat.le_trans hS.1 (by omega), fun x h1 h2 => (o1 x (Nat.lt_of_lt_of_le h1 hS.1)).trans (hS.2.1 x h1 h2), hS.2.2⟩⟩
  · rw [← h1]
    refine (hP.kept (fun k x hx => o1 x.1 ((hP k x hx).lt))).app (fun k x hx => ?_)
    have hk : k < 1 := (List.getElem?_eq_some_iff.mp hx).1
    rw [show k = 0 by omega] at hx
    cases hx
    exact hat
  · rw [← h1]
    exact hD.push hP hz.symm (hc.2.2.2.2.2.2.1 _ (by rw [← hz]; exact hS.1))
section CN
variable {E : CxT} {own : String} {cc : ByteArray} {nl : Nat} {pc : Nat} {lv : List (Nat × Value)} {st stk : List Value} {y : CyT} {S S1 : CS} {l : Launch} {D : va_G} {ty : CyT} {fr lo z' u' : Nat} {ret : Option FieldType} {ws' : va_W} {rv : Option Value} {X : Nat × Nat}
theorem C_new (hc : Cx E own cc nl) (hz : Cy E l D ty fr lo X.1 X.2) {ci N : Nat} {C : String} {T : u_T} (hcl : vwCl[ci]? = some (C, T, N)) (hin : ∀ w ∈ u_ws C T N, w ∈ WB) (ty0 : Nat → FieldType) (hty : ∀ k, k < N → parseFieldDescriptor (T k).2.2.1 = some (ty0 k)) (hdf : ∀ j, j < N → defaultValue (ty0 j) = vp_V ((ft ci).map (fun p => if p.1 then Value.null else .int 0)) j) (hci : ci < 12) (hv : nwo X S ci N = some S1) {index : Nat} (h1 : Cond.classLink own index C ∈ WB) (h2 : Cond.instantiable C N ∈ WB) (h3 : Cond.initialized C ∈ WB) (hdg : decode cc pc = .ok (.new index, 3)) (kk : V E (cZ S1) (cU S1) (cw y S1) (pc + 3) lv (.ref (cZ S) :: st)) : V E (cZ S) (cU S) (cw y S) pc lv st := by
  obtain ⟨g1, g2⟩ := og hv
  obtain rfl := Option.some.inj g2
  intro H locs ls h hP hD hS hZ
  obtain ⟨-, -, -, ⟨z4, z5, z6⟩⟩ := hz
  have hts := hc.2.2.2.2.1
  have hK := hc.2.2.2.2.2.1
  have hKn := hK.1 ci _ hcl
  have h0 := hS.1
  have hz1 := hZ.1
  have hz3 := hZ.2.2.1
  refine W.newcK hc.1 hc.2.1 hc.2.2.2.1 (hts _ h1) (hts _ h2) (hts _ h3) rfl hdg (by rw [z4]; show _ ≤ X.1 - _; omega) (by rw [z4]; show _ ≤ X.2 - _; omega) hKn.2.1 hZ.1 fun H1 kC hkC e1 q1 o1 => ?_
  have hat : va_at (xD E) vwCl (cZ S, .inr (ci, (ft ci).map (fun p => if p.1 then Value.null else .int 0))) H1 := ⟨_, hcl, (u_born ty0 hts hin hKn hkC e1 hty).to hdf⟩
  obtain ⟨hP1, hD1, hS1⟩ := cw_grow hc (S1 := bornO S ci N) hP hD hS hZ.1 rfl (up_bornO hci) (by rw [q1, hZ.1]) (by rw [hZ.1]; exact o1) hat
  have e4 : cZ (bornO S ci N) - (xS E).heap.size = cZ S - (xS E).heap.size + 1 := by show cZ S + 1 - _ = _; omega
  have e5 : cU (bornO S ci N) - xU E = cU S - xU E + N := by show cU S + N - _ = _; omega
  have h9 := kk H1 locs ls h hP1 hD1 hS1 ⟨q1, by rw [z5]; exact g1.1, by show _ ≤ cU S + N; omega, by rw [z6]; exact g1.2⟩
  rw [e4, e5] at h9
  exact h9
theorem C_newi (hc : Cx E own cc nl) (hz : Cy E l D y fr lo X.1 X.2) {n : Int32} (hv : nwa X S 14 n = some S1) (hX : X.2 ≤ 100000000) (h1 : Cond.arrayClass .int ∈ WB) (hdg : decode cc pc = .ok (.newarray .int, 2)) (kk : V E (cZ S1) (cU S1) (cw y S1) (pc + 2) lv (.ref (cZ S) :: st)) : V E (cZ S) (cU S) (cw y S) pc lv (.int n :: st) := by
  obtain ⟨g1, g2⟩ := og hv
  obtain rfl := Option.some.inj g2
  intro H locs ls h hP hD hS hZ
  obtain ⟨-, -, hT, ⟨z4, z5, z6⟩⟩ := hz
  have hts := hc.2.2.2.2.1
  have hK := hc.2.2.2.2.2.1
  have h0 := hS.1
  have hz1 := hZ.1
  have hz3 := hZ.2.2.1
  refine va_newaK (atype := .int) hc.1 hc.2.1 (hts _ h1) rfl hdg rfl g1.2 rfl (by show _ * 4 ≤ _; omega) (by rw [z4]; show _ ≤ X.1 - _; omega) (by rw [z4]; show _ ≤ X.2 - _; omega) hZ.1 fun H1 cA e1 q1 o1 hAr hNm => ?_
  have hcA : cA = y.2.1 := by
    have h5 := (hK.2 1 (y.2.1, .int) (by rw [hT]; rfl)).2
    exact Option.some.inj (hNm.symm.trans h5)
  subst hcA
  have hat : va_at (xD E) vwCl (cZ S, .inl (y.2.1, n.toNatClampNeg, .inl (fun _ => 0))) H1 := by
    show H1[cZ S]? = some (vp_cell _ _)
    rw [e1]
    rfl
  obtain ⟨hP1, hD1, hS1⟩ := cw_grow hc (S1 := bornA S 14 n.toNatClampNeg) hP hD hS hZ.1 rfl up_bornI (by rw [q1, hZ.1]) (by rw [hZ.1]; exact o1) hat
  have e4 : cZ (bornA S 14 n.toNatClampNeg) - (xS E).heap.size = cZ S - (xS E).heap.size + 1 := by show cZ S + 1 - _ = _; omega
  have e5 : cU (bornA S 14 n.toNatClampNeg) - xU E = cU S - xU E + n.toNatClampNeg := by show cU S + _ - _ = _; omega
  have h9 := kk H1 locs ls h hP1 hD1 hS1 ⟨q1, by rw [z5]; exact g1.1.1, by show _ ≤ cU S + _; omega, by rw [z6]; exact g1.1.2⟩
  rw [e4, e5] at h9
  exact h9
theorem C_newr (hc : Cx E own cc nl) (hz : Cy E l D y fr lo X.1 X.2) {ck : Nat} (h6 : 16 ≤ ck) (h7 : ck ≤ 19) {n : Int32} (hv : nwa X S ck n = some S1) (hX : X.2 ≤ 100000000) {index : Nat} (h1 : Cond.classLink own index (cOb ck) ∈ WB) (hdg : decode cc pc = .ok (.anewarray index, 3)) (kk : V E (cZ S1) (cU S1) (cw y S1) (pc + 3) lv (.ref (cZ S) :: st)) : V E (cZ S) (cU S) (cw y S) pc lv (.int n :: st) := by
  obtain ⟨g1, g2⟩ := og hv
  obtain rfl := Option.some.inj g2
  intro H locs ls h hP hD hS hZ
  obtain ⟨-, -, hT, ⟨z4, z5, z6⟩⟩ := hz
  have hts := hc.2.2.2.2.1
  have hK := hc.2.2.2.2.2.1
  have h0 := hS.1
  have hz1 := hZ.1
  have hz3 := hZ.2.2.1
  have hAO : va_AO (cOb ck) (xS E) := by
    have h8 := hc.2.2.2.2.2.2.2.2.1
    rcases (show ck = 16 ∨ ck = 17 ∨ ck = 18 ∨ ck = 19 by omega) with rfl | rfl | rfl | rfl
    · exact h8.1
    · exact h8.2.1
    · exact h8.2.2.1
    · exact h8.2.2.2
  refine W.anew hc.1 hc.2.1 hc.2.2.2.1 (hts _ h1) (va_AO.use hAO) rfl hdg rfl g1.2 (by omega) (by rw [z4]; show _ ≤ X.1 - _; omega) (by rw [z4]; show _ ≤ X.2 - _; omega) fun cA kA comp f1 f2 f3 f4 => ?_
  have hcA : cA = cyR y ck := by
    obtain ⟨_, _, _, _, _, h5⟩ := (hK.2 (ck - 13) (cyR y ck, .object (cOb ck)) (by rw [hT]; exact ty_ref h6 h7)).2
    exact Option.some.inj (f1.symm.trans h5)
  subst hcA
  generalize hH1 : H.push ({ cls := cyR y ck, slots := Array.replicate n.toNatClampNeg .null, vm := .none } : Cell) = H1
  have q1 : H1.size = H.size + 1 := by rw [← hH1, Array.size_push]
  have o1 : ∀ q : Nat, q < H.size → H1[q]? = H[q]? := fun q hq => by rw [← hH1, Array.getElem?_push, if_neg (Nat.ne_of_lt hq)]
  have hat : va_at (xD E) vwCl (cZ S, .inl (cyR y ck, n.toNatClampNeg, .inr (.inr (.inr (.inr (fun _ => none)))))) H1 := by
    show H1[cZ S]? = some (vp_cell _ _)
    rw [vp_cell_q, ← hZ.1, ← hH1, Array.getElem?_push_size, ← arrV_new]
    rfl
  obtain ⟨hP1, hD1, hS1⟩ := cw_grow hc (S1 := bornA S ck n.toNatClampNeg) hP hD hS hZ.1 rfl (up_bornR h6 h7) q1 o1 hat
  have e4 : cZ (bornA S ck n.toNatClampNeg) - (xS E).heap.size = cZ S - (xS E).heap.size + 1 := by show cZ S + 1 - _ = _; omega
  have e5 : cU (bornA S ck n.toNatClampNeg) - xU E = cU S - xU E + n.toNatClampNeg := by show cU S + _ - _ = _; omega
  have h9 := kk H1 locs ls h hP1 hD1 hS1 ⟨by rw [q1, hZ.1]; rfl, by rw [z5]; exact g1.1.1, by show _ ≤ cU S + _; omega, by rw [z6]; exact g1.1.2⟩
  rw [e4, e5] at h9
  rw [hZ.1]
  exact h9
end CN
section CM
variable {E : CxT} {own : String} {cc : ByteArray} {nl : Nat} {pc : Nat} {lv : List (Nat × Value)} {st stk : List Value} {y : CyT} {S S1 : CS} {l : Launch} {D : va_G} {ty : CyT} {fr lo zM uM z' u' : Nat} {ret : Option FieldType} {ws' : va_W} {rv : Option Value}
theorem C_copy (hc : Cx E own cc nl) (hz : Cy E l D y fr lo zM uM) {a b : Nat} {sp dp n : Int32} (hv : cpy S a sp b dp n = some S1) {index : Nat} (h1 : Cond.methodLink own index arraycopyName ∈ WB) (h2 : Cond.native arraycopyName ∈ WB) (h3 : Cond.static arraycopyName ∈ WB) (h4 : Cond.initialized "java/lang/System" ∈ WB) (hR : 1 ≤ fr ∧ 26 ≤ lo) (hroom : (st.map fun v => v.category).sum ≤ 8) (hdg : decode cc pc = .ok (.invokestatic index, 3)) (kk : V E (cZ S1) (cU S1) (cw y S1) (pc + 3) lv st) : V E (cZ S) (cU S) (cw y S) pc lv (.int n :: .int dp :: .ref b :: .int sp :: .ref a :: st) := by
  obtain ⟨g1, g2⟩ := og hv
  obtain rfl := Option.some.inj g2
  obtain ⟨⟨k1, k2⟩, ⟨n1, n2, n3⟩, b1, b2⟩ := g1
  obtain ⟨a3, a4⟩ := kd_in k1 (by omega)
  obtain ⟨b3, b4⟩ := kd_in k2 (by omega)
  obtain ⟨q0, hq0⟩ := cw_get (y := y) a3
  obtain ⟨q1, hq1⟩ := cw_get (y := y) b3
  intro H locs ls h hP hD hS hZ
  obtain ⟨-, -, hT, ⟨z4, z5, z6⟩⟩ := hz
  have hts := hc.2.2.2.2.1
  have hq0' := hq0
  have hq1' := hq1
  rw [cE_int a4] at hq0'
  rw [cE_int b4] at hq1'
  have h0 := hS.1
  have hz1 := hZ.1
  refine va_copyi hc.1 hc.2.1 (hc.2.2.1.1.trans h.1.symm) hc.2.2.2.1 (hts _ h1) (hts _ h2) (hts _ h3) (hts _ h4) hc.2.2.2.2.2.1 hP hD (vS_self hS) q0 q1 1 1 hq0' hq1' (ty := .int) (by rw [hT]; rfl) (by rw [hT]; rfl) rfl n1 n2 n3 b1 b2 (fun _ _ => rfl) (by rw [z4]; exact hR.1) (by rw [z4]; show _ + (7 + 11) ≤ lo; omega) hdg (fun H1 locs1 hP1 hD1 hS1 => W_sz fun hsz => ?_)
  have hw := cw_set (S1 := setA S b (va_cpy (cA S a) (cA S b) sp.toNatClampNeg dp.toNatClampNeg n.toNatClampNeg)) hD b3 hq1 rfl (up_setA b4)
  exact kk H1 locs1 ls h (hw ▸ hP1) (hw ▸ hD1) (vS_comp hS hS1) ⟨by have := hS1.1; show H1.size = cZ S; omega, hZ.2⟩
theorem C_min (hc : Cx E own cc nl) (hz : Cy E l D ty fr lo zM uM) {z u : Nat} {ws : va_W} {a b : Int32} {index : Nat} (h1 : Cond.methodLink own index Lib.Math.min.name ∈ WB) (h2 : Cond.static Lib.Math.min.name ∈ WB) (h3 : Cond.initialized "java/lang/Math" ∈ WB) (h4 : Cond.code Lib.Math.min.name Lib.Math.min.code 2 (some .int) ∈ WB) (hR : 1 ≤ fr ∧ 21 ≤ lo) (hroom : (st.map fun v => v.category).sum ≤ 8) (hdg : decode cc pc = .ok (.invokestatic index, 3)) (kk : V E z u ws (pc + 3) lv (.int (if b < a then b else a) :: st)) : V E z u ws pc lv (.int b :: .int a :: st) := by
  intro H locs ls h hP hD hS hZ
  obtain ⟨-, -, -, ⟨z4, z5, z6⟩⟩ := hz
  have hts := hc.2.2.2.2.1
  have h0 := hS.1
  obtain ⟨hz1, hz2, hz3, hz5⟩ := hZ
  rw [z5] at hz2
  rw [z6] at hz5
  exact va_mmin hc.1 hc.2.1 (hc.2.2.1.1.trans h.1.symm) hc.2.2.2.1 (hts _ h1) (hts _ h2) (hts _ h3) (hts _ h4) (by rw [z4]; exact hR.1) (by rw [z4]; show _ + 13 ≤ lo; omega) (by rw [z4]; show _ ≤ zM - _; omega) (by rw [z4]; show _ ≤ uM - _; omega) hdg (kk H locs ls h hP hD hS ⟨hz1, by rw [z5]; exact hz2, hz3, by rw [z6]; exact hz5⟩)
theorem C_max (hc : Cx E own cc nl) (hz : Cy E l D ty fr lo zM uM) {z u : Nat} {ws : va_W} {a b : Int32} {index : Nat} (h1 : Cond.methodLink own index Lib.Math.max.name ∈ WB) (h2 : Cond.static Lib.Math.max.name ∈ WB) (h3 : Cond.initialized "java/lang/Math" ∈ WB) (h4 : Cond.code Lib.Math.max.name Lib.Math.max.code 2 (some .int) ∈ WB) (hR : 1 ≤ fr ∧ 21 ≤ lo) (hroom : (st.map fun v => v.category).sum ≤ 8) (hdg : decode cc pc = .ok (.invokestatic index, 3)) (kk : V E z u ws (pc + 3) lv (.int (if a < b then b else a) :: st)) : V E z u ws pc lv (.int b :: .int a :: st) := by
  intro H locs ls h hP hD hS hZ
  obtain ⟨-, -, -, ⟨z4, z5, z6⟩⟩ := hz
  have hts := hc.2.2.2.2.1
  have h0 := hS.1
  obtain ⟨hz1, hz2, hz3, hz5⟩ := hZ
  rw [z5] at hz2
  rw [z6] at hz5
  exact va_mmax hc.1 hc.2.1 (hc.2.2.1.1.trans h.1.symm) hc.2.2.2.1 (hts _ h1) (hts _ h2) (hts _ h3) (hts _ h4) (by rw [z4]; exact hR.1) (by rw [z4]; show _ + 13 ≤ lo; omega) (by rw [z4]; show _ ≤ zM - _; omega) (by rw [z4]; show _ ≤ uM - _; omega) hdg (kk H locs ls h hP hD hS ⟨hz1, by rw [z5]; exact hz2, hz3, by rw [z6]; exact hz5⟩)
theorem V_objInit (hc : Cx E own cc nl) (hz : Cy E l D ty fr lo zM uM) {z u : Nat} {ws : va_W} {a : Nat} {index : Nat} (h1 : Cond.methodLink own index Lib.objectInit ∈ WB) (h2 : Cond.instanceMethod Lib.objectInit ∈ WB) (h3 : Cond.code Lib.objectInit ⟨#[0xb1]⟩ 1 none ∈ WB) (hR : 1 ≤ fr ∧ 20 ≤ lo) (hroom : (st.map fun v => v.category).sum ≤ 8) (hdg : decode cc pc = .ok (.invokespecial index, 3)) (kk : V E z u ws (pc + 3) lv st) : V E z u ws pc lv (.ref a :: st) := by
  intro H locs ls h hP hD hS hZ
  obtain ⟨-, -, -, ⟨z4, z5, z6⟩⟩ := hz
  have hts := hc.2.2.2.2.1
  have h8 := lv_room (m := xM E) (pc := pc) (ls := ls) (rest := .ref a :: st) hroom
  exact W.objInit hc.1 hc.2.1 hc.2.2.2.1 (hts _ h1) (hts _ h2) (hts _ h3) rfl (h.1.trans hc.2.2.1.1.symm) rfl hdg (by rw [z4]; exact hR.1) (by rw [z4]; show _ ≤ lo; omega) (kk H locs ls h hP hD hS hZ)
theorem V_callSX (hc : Cx E own cc nl) (hz : Cy E l D ty fr lo zM uM) {z u z1 u1 : Nat} {ws w1 : va_W} {yy : MethodName} {cb : ByteArray} {nl' : Nat} {ret' : Option FieldType} {fr' lo' : Nat} {As : List Value} {rv1 : Option Value} {index n' : Nat} (hM : CT l D ty yy cb nl' ret' fr' lo' zM uM As z u ws z1 u1 w1 rv1)
    (h1 : Cond.methodLink own index yy ∈ WB) (h2 : Cond.static yy ∈ WB) (h4 : Cond.initialized yy.cls ∈ WB) (h5 : Cond.code yy cb nl' ret' ∈ WB)
    (hd : yy.cls ≠ "java/lang/invoke/MethodHandle" ∧ yy.cls ≠ "java/lang/invoke/VarHandle" ∧ (parseMethodDescriptor yy.desc).map (fun d => d.parameters.length) = some n')
    (hR : fr' + 1 ≤ fr ∧ 8 + (nl' + 11) + lo' ≤ lo) (hn : As.length = n') (hst : stk = As.reverse ++ st) (hroom : (st.map fun v => v.category).sum ≤ 8)
    (hdg : decode cc pc = .ok (.invokestatic index, 3)) (kk : V E z1 u1 w1 (pc + 3) lv (rv1.toList ++ st)) : V E z u ws pc lv stk := by
  intro H locs ls h hP hD hS hZ
  obtain ⟨z1, z2, z3, ⟨z4, z5, z6⟩⟩ := hz
  subst z1 z2 z3 z5 z6
  have hK := hc.2.2.2.2.2.1
  have h0 := hS.1
  have hz1 := hZ.1
  have hz2 := hZ.2.1
  have hz3 := hZ.2.2.1
  have hz4 := hZ.2.2.2
  have hts := hc.2.2.2.2.1
  exact V_run (hr := va_runS (As := As) (rest := st) ⟨hc.1, hc.2.1, hc.2.2.1.1, hc.2.2.2.1, hts⟩ (hM hZ.2.1 hZ.2.2.2) ⟨callB_of n' hts (gI h5) rfl rfl rfl (hts _ h4) (hts _ h1) hd (by rw [z4]; exact hR), hts _ h2⟩
    ⟨V_blind, fun U hU hW => ⟨rfl, by rw [hU]; exact hZ.1, by rw [hU]; exact hP, ⟨va_K.moved hW.alike hK, by rw [hU]; exact JX.call hc.2.2.2.2.2.2.2.2 hW hS (V_free hc hD hS hZ.1)⟩, hD.weaken (fun _ _ _ _ => trivial)⟩⟩ rfl hn h.1 hst (lv_room hroom) hdg (by rw [z4]; exact ⟨by show _ + _ ≤ xZ E - _; omega, by show _ + _ ≤ xW E - _; omega⟩)) (V_free hc hD hS hZ.1) h hS hZ.2.2.1 kk
/-- a call upon an object of kind ci -/
def cal {α : Type} (S : CS) (ci b : Nat) (o : Option α) : Option α := if kd S b = ci then o else none
theorem C_callV (hc : Cx E own cc nl) (hz : Cy E l D ty fr lo zM uM) {yy : MethodName} {cb : ByteArray} {nl' : Nat} {ret' : Option FieldType} {fr' lo' : Nat} {As : List Value} {b ci : Nat} {rv1 : Option Value} {vc : vw_C} {index n' : Nat} (hk : kd S b = ci) (hci : ci < 12) (hM : CT l D ty yy cb nl' ret' fr' lo' zM uM (.ref b :: As) (cZ S) (cU S) (cw y S) (cZ S1) (cU S1) (cw y S1) rv1)
    (h1 : Cond.methodLink own index yy ∈ WB) (h2 : Cond.instanceMethod yy ∈ WB) (h3 : Cond.selects vc.1 yy yy ∈ WB) (h4 : Cond.initialized vc.1 ∈ WB) (h5 : Cond.code yy cb nl' ret' ∈ WB)
    (hd : yy.cls = vc.1 ∧ yy.cls ≠ "java/lang/invoke/MethodHandle" ∧ yy.cls ≠ "java/lang/invoke/VarHandle" ∧ (parseMethodDescriptor yy.desc).map (fun d => d.parameters.length) = some n')
    (hR : fr' + 1 ≤ fr ∧ 8 + (nl' + 11) + lo' ≤ lo) (hcl : vwCl[ci]? = some vc) (hn : As.length = n') (hst : stk = As.reverse ++ .ref b :: st) (hroom : (st.map fun v => v.category).sum ≤ 8)
    (hdg : decode cc pc = .ok (.invokevirtual index, 3)) (kk : V E (cZ S1) (cU S1) (cw y S1) (pc + 3) lv (rv1.toList ++ st)) : V E (cZ S) (cU S) (cw y S) pc lv stk := by
  obtain ⟨h3', h4'⟩ := kd_in hk (by omega)
  obtain ⟨q0, hq⟩ := cw_get (y := y) h3'
  rw [cE_obj h4' hci] at hq
  exact V_callV hc hz hM h1 h2 h3 h4 h5 hd hR hq hcl rfl hn hst hroom hdg kk
end CM
