/-! THE CLAIM OUT OF ONE WALK OF THE LAW'S BODY. Your part is whole_start (and what it stands on); all else here is the same for every law, but numbers. -/
def R_law : String := "FarEditorsLaw"
def lw_P (b : Addr) (xs : List Int32) (args : Array Value) (s : State) : Prop := args = #[.ref b] ∧ s.IntsAt b xs ∧ xs.length ≤ 3072 ∧ (Jvm.Cond.and given_1 narrow_1).before args s = true
def lw_Q (_ : Array Value) (s : State) (o : Outcome) (t : State) : Prop := o = .returned (some (.int 1)) ∧ Framed s o t [] 600000 7302250
def lw_Z (below : List Frame) (a : Array Value) (s : State) : State → Prop := fun t => ∃ o, t.status = .running ∧ Ended t below o ∧ lw_Q a s o t
/-- the law's own end, with 1 on the stack, nothing written that was there before, its room as the claim has it -/
theorem lw_ret {p : Program} {l : Launch} {e : Env} {s : State} {m : MethodId} {below : List Frame} {meth : Method} {c : Code} {b : Nat} (hx : p.tables.exec = Jvm.exec) (hb : c.code = code) (hr : meth.sig.returnType = ret) (hlocks : meth.locks = false) {pc : Nat} {H : Heap} {ls : Array Slot} (hdg : decode code pc = .ok (.ireturn, 1)) : W p l e room_1 s m #[Value.ref b] below meth c H [] 600000 7302250 (lw_Z below #[Value.ref b] s) (F0 m pc ls [.int 1]) := by
  intro T hT X
  obtain ⟨fs, hret, hrun, hended, hW, hframe⟩ := X.leave (v := some (.int 1)) (hlocks := hlocks) (fun h => by rw [hr] at h; cases h)
  have hmeth' : T.vm.method? m = some meth := X.method'
  refine ⟨T.setFrames fs, ?_, .returned (some (.int 1)), hrun, hended, rfl, ⟨_, rfl⟩, hW, hframe⟩
  jvm_step X.here [X.here.top, hx, hb, hdg, hmeth', hr, ret, narrow_b1]
  (try refine ⟨rfl, ?_⟩); (try refine ⟨rfl, ?_⟩)
  first | (intro acts; rw [hret _ acts rfl rfl rfl]) | rw [hret _ _ rfl rfl rfl]
  exact Steps.refl _
/-- what holds at the law's entry: the machine, the code, the tables' words (any of lw_tbl by 'hts w (by decide +kernel)'), the script of L ints xs at the cell b, what the Statement gives of the start (any of its parts by flat_of_before) -/
def lw_At (p : Program) (s : State) (m : MethodId) (meth : Method) (c : Code) (b L : Nat) (xs : Nat → Int32) : Prop :=
  p.tables.exec = Jvm.exec ∧ c.code = code ∧ meth.sig.returnType = ret ∧ c.maxLocals = 4 ∧ s.vm.findClass R_law = some m.cls ∧ (∀ w ∈ lw_tbl, w.before #[Value.ref b] s = true) ∧ va_X b L xs s s.heap ∧ b < s.heap.size ∧ meth.locks = false ∧ (Jvm.Cond.and given_1 narrow_1).before #[Value.ref b] s = true
theorem df12 (z : Nat) : ∀ j, j < 64 → defaultValue (tyX12 j) = vp_V (iFs (rr 0 z) (fun _ => 0) 0) j := fun j h => match j, h with
  | 0, _ => rfl
  | 1, _ => rfl
  | 2, _ => rfl
  | 3, _ => rfl
  | 4, _ => rfl
  | 5, _ => rfl
  | 6, _ => rfl
  | 7, _ => rfl
  | 8, _ => rfl
  | 9, _ => rfl
  | 10, _ => rfl
  | 11, _ => rfl
  | 12, _ => rfl
  | 13, _ => rfl
  | 14, _ => rfl
  | 15, _ => rfl
  | 16, _ => rfl
  | 17, _ => rfl
  | 18, _ => rfl
  | 19, _ => rfl
  | 20, _ => rfl
  | 21, _ => rfl
  | 22, _ => rfl
  | 23, _ => rfl
  | 24, _ => rfl
  | 25, _ => rfl
  | 26, _ => rfl
  | 27, _ => rfl
  | 28, _ => rfl
  | 29, _ => rfl
  | 30, _ => rfl
  | 31, _ => rfl
  | 32, _ => rfl
  | 33, _ => rfl
  | 34, _ => rfl
  | 35, _ => rfl
  | 36, _ => rfl
  | 37, _ => rfl
  | 38, _ => rfl
  | 39, _ => rfl
  | 40, _ => rfl
  | 41, _ => rfl
  | 42, _ => rfl
  | 43, _ => rfl
  | 44, _ => rfl
  | 45, _ => rfl
  | 46, _ => rfl
  | 47, _ => rfl
  | 48, _ => rfl
  | 49, _ => rfl
  | 50, _ => rfl
  | 51, _ => rfl
  | 52, _ => rfl
  | 53, _ => rfl
  | 54, _ => rfl
  | 55, _ => rfl
  | 56, _ => rfl
  | 57, _ => rfl
  | 58, _ => rfl
  | 59, _ => rfl
  | 60, _ => rfl
  | 61, _ => rfl
  | 62, _ => rfl
  | 63, _ => rfl
  | k + 64, h => absurd h (by omega)
theorem V_newO {E : CxT} {own : String} {cc : ByteArray} {nl : Nat} {pc : Nat} {lv : List (Nat × Value)} {st : List Value} {z u : Nat} {ws : va_W} {l : Launch} {D : va_G} {ty : CyT} {fr lo zM uM : Nat} (hc : Cx E own cc nl) (hz : Cy E l D ty fr lo zM uM) {ci N : Nat} {C : String} {T : u_T} (hcl : vwCl[ci]? = some (C, T, N)) (hin : ∀ w ∈ u_ws C T N, w ∈ WB) (ty0 : Nat → FieldType) (hty : ∀ k, k < N → parseFieldDescriptor (T k).2.2.1 = some (ty0 k)) {fs : List Value} (hdf : ∀ j, j < N → defaultValue (ty0 j) = vp_V fs j) (g1 : z < zM) (g2 : u + N ≤ uM) {index : Nat} (h1 : Cond.classLink own index C ∈ WB) (h2 : Cond.instantiable C N ∈ WB) (h3 : Cond.initialized C ∈ WB) (hdg : decode cc pc = .ok (.new index, 3)) (kk : V E (z + 1) (u + N) (ws ++ [(z, .inr (ci, fs))]) (pc + 3) lv (.ref z :: st)) : V E z u ws pc lv st := by
  intro H locs ls h hP hD hS hZ
  obtain ⟨-, -, -, ⟨z4, z5, z6⟩⟩ := hz
  have hts := hc.2.2.2.2.1
  have hK := hc.2.2.2.2.2.1
  have hKn := hK.1 ci _ hcl
  have h0 := hS.1
  have hz1 := hZ.1
  have hz3 := hZ.2.2.1
  refine W.newcK hc.1 hc.2.1 hc.2.2.2.1 (hts _ h1) (hts _ h2) (hts _ h3) rfl hdg (by rw [z4]; show _ ≤ zM - _; omega) (by rw [z4]; show _ ≤ uM - _; omega) hKn.2.1 hZ.1 fun H1 kC hkC e1 q1 o1 => ?_
  have hP1 : va_P (xD E) vwCl (ws ++ [(z, .inr (ci, fs))]) H1 := (hP.kept (fun k x hx => o1 x.1 (by have := (hP k x hx).lt; omega))).app (fun k x hx => by
    have hk1 : k < 1 := (List.getElem?_eq_some_iff.mp hx).1
    rw [show k = 0 by omega] at hx
    cases hx
    exact ⟨_, hcl, (u_born ty0 hts hin hKn hkC e1 hty).to hdf⟩)
  have hD1 := hD.push (e := .inr (ci, fs)) hP hZ.1.symm (hc.2.2.2.2.2.2.1 _ (by rw [← hZ.1]; exact hS.1))
  have e4 : z + 1 - (xS E).heap.size = z - (xS E).heap.size + 1 := by omega
  have e5 : u + N - xU E = u - xU E + N := by omega
  have h9 := kk H1 locs ls h hP1 hD1 ⟨Nat.le_trans hS.1 (by omega), fun x h1 h2 => (o1 x (by omega)).trans (hS.2.1 x h1 h2), hS.2.2⟩ ⟨q1, by rw [z5]; exact g1, by omega, by rw [z6]; exact g2⟩
  rw [e4, e5] at h9
  exact h9
/-- nothing of the class is there; so many cells and slots of others come -/
def S00 (z : Nat) : CS := ([], fun _ => 0, fun _ _ => 0, fun _ _ => none, fun _ => 0, fun _ _ => 0, fun _ _ => none, z, 0)
def skp (S : CS) (n m : Nat) : CS := (S.1, S.2.1, S.2.2.1, S.2.2.2.1, S.2.2.2.2.1, S.2.2.2.2.2.1, S.2.2.2.2.2.2.1, cZ S + n, cU S + m)
/-- what is left to be shown of numbers alone: the class is made, and the law's loop goes through -/
def PureOk (z Ln : Nat) (xs : Nat → Int32) : Prop := ∃ S2 : CS, f11_init (z + 600000, 7302250) (bornO (S00 z) 11 14) z = some S2 ∧ cZ S2 + 36 ≤ z + 600000 ∧ cU S2 + 247538 ≤ 7302250 ∧ lawL (z + 600000, 7302250) xs Ln z FU 0 (skp S2 36 247538) M0 = some ()
abbrev gnC : Cond := Jvm.Cond.and given_1 narrow_1
abbrev tmS (i : Nat) : Term := Term.string "FarEditors$Told" (sK.getD i 0)
theorem st_ex : ∀ i, i < 10 → Cond.exactly (tmS i) "java/lang/String" ∈ flatC gnC := by decide +kernel
theorem st_co : ∀ i, i < 10 → Cond.eq (.field (tmS i) "java/lang/String" "coder" "B") (.int 0) ∈ flatC gnC := by decide +kernel
theorem st_ar : ∀ i, i < 10 → Cond.arrayOf (.field (tmS i) "java/lang/String" "value" "[B") .byte ∈ flatC gnC := by decide +kernel
theorem st_le : ∀ i, i < 10 → Cond.eq (.length (.field (tmS i) "java/lang/String" "value" "[B")) (.int (Int32.ofNat (sLen.getD i 0))) ∈ flatC gnC := by decide +kernel
theorem st_el : ∀ i, i < 10 → ∀ j, j < sLen.getD i 0 → Cond.eq (.elem (.field (tmS i) "java/lang/String" "value" "[B") (.int (Int32.ofNat j))) (.int ((sByt.getD i []).getD j 0)) ∈ flatC gnC := by decide +kernel
theorem st_ne : ∀ i, i < 10 → ∀ j, j < 10 → i ≠ j → Cond.not (Cond.eq (tmS i) (tmS j)) ∈ flatC gnC ∨ Cond.not (Cond.eq (tmS j) (tmS i)) ∈ flatC gnC := by decide +kernel
theorem st_sr : ∀ i, i < 10 → Cond.stringRef "FarEditors$Told" (sK.getD i 0) (sT.getD i "") ∈ lw_tbl := fun i h => match i, h with
  | 0, _ => (List.mem_append_right _ (show _ ∈ tables_1 from (List.mem_append_right _ (List.mem_append_right _ (List.mem_append_left _ (List.mem_of_getElem? (i := 51) rfl))))))
  | 1, _ => (List.mem_append_right _ (show _ ∈ tables_1 from (List.mem_append_right _ (List.mem_append_right _ (List.mem_append_left _ (List.mem_of_getElem? (i := 52) rfl))))))
  | 2, _ => (List.mem_append_right _ (show _ ∈ tables_1 from (List.mem_append_right _ (List.mem_append_right _ (List.mem_append_left _ (List.mem_of_getElem? (i := 53) rfl))))))
  | 3, _ => (List.mem_append_right _ (show _ ∈ tables_1 from (List.mem_append_right _ (List.mem_append_right _ (List.mem_append_left _ (List.mem_of_getElem? (i := 54) rfl))))))
  | 4, _ => (List.mem_append_right _ (show _ ∈ tables_1 from (List.mem_append_right _ (List.mem_append_right _ (List.mem_append_left _ (List.mem_of_getElem? (i := 55) rfl))))))
  | 5, _ => (List.mem_append_right _ (show _ ∈ tables_1 from (List.mem_append_right _ (List.mem_append_right _ (List.mem_append_left _ (List.mem_of_getElem? (i := 56) rfl))))))
  | 6, _ => (List.mem_append_right _ (show _ ∈ tables_1 from (List.mem_append_right _ (List.mem_append_right _ (List.mem_append_left _ (List.mem_of_getElem? (i := 57) rfl))))))
  | 7, _ => (List.mem_append_right _ (show _ ∈ tables_1 from (List.mem_append_right _ (List.mem_append_right _ (List.mem_append_left _ (List.mem_of_getElem? (i := 58) rfl))))))
  | 8, _ => (List.mem_append_right _ (show _ ∈ tables_1 from (List.mem_append_right _ (List.mem_append_right _ (List.mem_append_left _ (List.mem_of_getElem? (i := 59) rfl))))))
  | 9, _ => (List.mem_append_right _ (show _ ∈ tables_1 from (List.mem_append_right _ (List.mem_append_right _ (List.mem_append_left _ (List.mem_of_getElem? (i := 60) rfl))))))
  | k + 10, h => absurd h (by omega)
theorem st_JX {s : State} {b : Nat} {F : Nat → Prop} (hF : ∀ a : Nat, a < s.heap.size → ¬ F a) (hts : ∀ w ∈ lw_tbl, w.before #[Value.ref b] s = true) (hg : gnC.before #[Value.ref b] s = true) : ∃ (kK kV : Nat → Nat) (o : Option Nat), ∀ c1 c2 c3 c4 c5 c6 c7 : ClassId, JX (c1, c2, c3, c4, c5, c6, c7, kK, kV, o) F s s.heap := by
  have hs := flat_of_before _ hg
  obtain ⟨kK, kV, hS, hev⟩ := vk_Sof (args := #[Value.ref b]) (s := s) (N := 10) (tm := tmS) (len := sLen) (byt := sByt) (A := F) (fun i hi => Nat.lt_of_lt_of_le (s_small i hi) (by decide)) (fun i hi => hs _ (st_ex i hi)) (fun i hi => hs _ (st_co i hi)) (fun i hi => hs _ (st_ar i hi)) (fun i hi => hs _ (st_le i hi)) (fun i hi j hj => hs _ (st_el i hi j hj)) (fun i j hi hj hij => (st_ne i hi j hj hij).elim (fun h => Or.inl (hs _ h)) (fun h => Or.inr (hs _ h))) hF
  have hR : ∀ i, i < 10 → vk_R "FarEditors$Told" (sK.getD i 0) (sT.getD i "") (kK i) s := fun i hi => vk_R.of (A := #[Value.ref b]) (hts _ (st_sr i hi)) (hev i hi)
  have hZ1 : va_Z "java/lang/String" "COMPACT_STRINGS" "Z" (.int 1) F s s.heap := va_Zof (hts _ (List.mem_append_right _ (show _ ∈ tables_1 from (List.mem_append_right _ (List.mem_append_right _ (List.mem_append_left _ (List.mem_of_getElem? (i := 74) rfl))))))) (hts _ (List.mem_append_right _ (show _ ∈ tables_1 from (List.mem_append_left _ (List.mem_of_getElem? (i := 14) rfl))))) (va_eqt (hs (Cond.eq (.static "java/lang/String" "COMPACT_STRINGS" "Z") (.int 1)) (by decide +kernel))) hF
  have hZ2 : va_Zq "jdk/internal/util/Preconditions" "SIOOBE_FORMATTER" "Ljava/util/function/BiFunction;" F s s.heap := va_Zqof (hts _ (List.mem_append_right _ (show _ ∈ tables_1 from (List.mem_append_right _ (List.mem_append_right _ (List.mem_append_left _ (List.mem_of_getElem? (i := 90) rfl))))))) (hts _ (List.mem_append_right _ (show _ ∈ tables_1 from (List.mem_append_left _ (List.mem_of_getElem? (i := 16) rfl))))) (hs (Cond.isRef (.static "jdk/internal/util/Preconditions" "SIOOBE_FORMATTER" "Ljava/util/function/BiFunction;")) (by decide +kernel)) hF
  have hA : AO4 s := ⟨hts (Cond.arrayOver (.object "FarEditors$Editor")) (List.mem_append_right _ (show _ ∈ tables_1 from (List.mem_append_left _ (List.mem_of_getElem? (i := 205) rfl)))), hts (Cond.arrayOver (.object "FarEditors$Op")) (List.mem_append_right _ (show _ ∈ tables_1 from (List.mem_append_left _ (List.mem_of_getElem? (i := 178) rfl)))), hts (Cond.arrayOver (.object "FarEditors$Text")) (List.mem_append_right _ (show _ ∈ tables_1 from (List.mem_append_right _ (List.mem_append_left _ (List.mem_of_getElem? (i := 152) rfl))))), hts (Cond.arrayOver (.object "FarEditors$World")) (List.mem_append_right _ (show _ ∈ tables_1 from (List.mem_append_right _ (List.mem_append_left _ (List.mem_of_getElem? (i := 129) rfl)))))⟩
  rcases hZ2 with hZ2 | ⟨t, hZ2⟩
  · exact ⟨kK, kV, none, fun c1 c2 c3 c4 c5 c6 c7 => ⟨hA, hR, hS, hZ1, hZ2⟩⟩
  · exact ⟨kK, kV, some t, fun c1 c2 c3 c4 c5 c6 c7 => ⟨hA, hR, hS, hZ1, hZ2⟩⟩
theorem st_arrP {s : State} {b : Nat} {ty : FieldType} (h : (Cond.arrayClass ty).before #[Value.ref b] s = true) : ∃ c : ClassId, ArrOfT s c ty ∧ s.vm.findClass ("[" ++ ty.toString) = some c := by
  obtain ⟨c, k, comp, h1, h2, h3⟩ := Cond.arrayClass_spec h
  exact ⟨c, fun n z => ⟨fun k h => (by cases h), k, h2, comp, h3⟩, h1⟩
theorem st_arrO {s : State} {C : String} (h : va_AO C s) : ∃ c : ClassId, ArrOfT s c (.object C) ∧ va_RA s c (.object C) := by
  obtain ⟨comp, c, k, h1, h2, h3, h4, h5⟩ := Cond.arrayOver_spec h
  exact ⟨c, fun n z => ⟨fun k h => (by cases h), k, h3, comp, h4⟩, k, comp, h3, h4, h1, h5⟩
theorem st_K {s : State} {b : Nat} (hts : ∀ w ∈ lw_tbl, w.before #[Value.ref b] s = true) (hA : AO4 s) : ∃ (D : va_G) (c1 c2 c3 c4 c5 c6 c7 : ClassId), ∀ (kK kV : Nat → Nat) (o : Option Nat), va_K D vwCl (tyL (c1, c2, c3, c4, c5, c6, c7, kK, kV, o)) s := by
  have htw : ∀ w ∈ WB, w.before #[Value.ref b] s = true := fun w hw => hts w (List.mem_filter.mp hw).1
  obtain ⟨d0, e0, k0⟩ := u_known (C := RX0) (T := TX0) (N := 10) (n := 10) htw iW0 (htw _ w2_146)
  obtain ⟨d1, e1, k1⟩ := u_known (C := RX1) (T := TX1) (N := 15) (n := 15) htw iW1 (htw _ w1_206)
  obtain ⟨d2, e2, k2⟩ := u_known (C := RX2) (T := TX2) (N := 4) (n := 4) htw iW2 (htw _ w2_123)
  obtain ⟨d3, e3, k3⟩ := u_known (C := RX3) (T := TX3) (N := 2) (n := 2) htw iW3 (htw _ w1_216)
  obtain ⟨d4, e4, k4⟩ := u_known (C := RX4) (T := TX4) (N := 2) (n := 2) htw iW4 (htw _ w1_96)
  obtain ⟨d5, e5, k5⟩ := u_known (C := RX5) (T := TX5) (N := 4) (n := 4) htw iW5 (htw _ w1_90)
  obtain ⟨d6, e6, k6⟩ := u_known (C := RX6) (T := TX6) (N := 3) (n := 3) htw iW6 (htw _ w1_155)
  obtain ⟨d7, e7, k7⟩ := u_known (C := RX7) (T := TX7) (N := 2) (n := 2) htw iW7 (htw _ w1_161)
  obtain ⟨d8, e8, k8⟩ := u_known (C := RX8) (T := TX8) (N := 12) (n := 12) htw iW8 (htw _ w1_30)
  obtain ⟨d9, e9, k9⟩ := u_known (C := RX9) (T := TX9) (N := 7) (n := 7) htw iW9 (htw _ w1_84)
  obtain ⟨d10, e10, k10⟩ := u_known (C := RX10) (T := TX10) (N := 12) (n := 12) htw iW10 (htw _ w1_197)
  obtain ⟨d11, e11, k11⟩ := u_known (C := RX11) (T := TX11) (N := 14) (n := 14) htw iW11 (htw _ w1_22)
  obtain ⟨d12, e12, k12⟩ := u_known (C := RX12) (T := TX12) (N := 64) (n := 64) htw iW12 (htw _ w6_52)
  obtain ⟨c1, a1, b1⟩ := st_arrP (hts (Cond.arrayClass .char) (List.mem_append_right _ (show _ ∈ tables_1 from (List.mem_append_right _ (List.mem_append_right _ (List.mem_append_right _ (List.mem_append_right _ (List.mem_append_right _ (List.mem_append_right _ (List.mem_append_left _ (List.mem_of_getElem? (i := 11) rfl)))))))))))
  obtain ⟨c2, a2, b2⟩ := st_arrP (hts (Cond.arrayClass .int) (List.mem_append_right _ (show _ ∈ tables_1 from (List.mem_append_left _ (List.mem_of_getElem? (i := 82) rfl)))))
  obtain ⟨c3, a3, b3⟩ := st_arrP (hts (Cond.arrayClass .boolean) (List.mem_append_right _ (show _ ∈ tables_1 from (List.mem_append_right _ (List.mem_append_right _ (List.mem_append_right _ (List.mem_append_right _ (List.mem_append_right _ (List.mem_append_right _ (List.mem_append_left _ (List.mem_of_getElem? (i := 12) rfl)))))))))))
  obtain ⟨c4, a4, b4⟩ := st_arrO hA.1
  obtain ⟨c5, a5, b5⟩ := st_arrO hA.2.1
  obtain ⟨c6, a6, b6⟩ := st_arrO hA.2.2.1
  obtain ⟨c7, a7, b7⟩ := st_arrO hA.2.2.2
  refine ⟨(fun c => [d0, d1, d2, d3, d4, d5, d6, d7, d8, d9, d10, d11, d12].getD c 0, fun c => [e0, e1, e2, e3, e4, e5, e6, e7, e8, e9, e10, e11, e12].getD c (fun _ => 0)), c1, c2, c3, c4, c5, c6, c7, fun kK kV o => ⟨fun c q hq => ?_, fun k q hk => ?_⟩⟩
  · rcases c with _ | c
    · cases hq; exact k0
    rcases c with _ | c
    · cases hq; exact k1
    rcases c with _ | c
    · cases hq; exact k2
    rcases c with _ | c
    · cases hq; exact k3
    rcases c with _ | c
    · cases hq; exact k4
    rcases c with _ | c
    · cases hq; exact k5
    rcases c with _ | c
    · cases hq; exact k6
    rcases c with _ | c
    · cases hq; exact k7
    rcases c with _ | c
    · cases hq; exact k8
    rcases c with _ | c
    · cases hq; exact k9
    rcases c with _ | c
    · cases hq; exact k10
    rcases c with _ | c
    · cases hq; exact k11
    rcases c with _ | c
    · cases hq; exact k12
    cases hq
  · rcases k with _ | k
    · cases hk; exact ⟨a1, b1⟩
    rcases k with _ | k
    · cases hk; exact ⟨a2, b2⟩
    rcases k with _ | k
    · cases hk; exact ⟨a3, b3⟩
    rcases k with _ | k
    · cases hk; exact ⟨a4, b4⟩
    rcases k with _ | k
    · cases hk; exact ⟨a5, b5⟩
    rcases k with _ | k
    · cases hk; exact ⟨a6, b6⟩
    rcases k with _ | k
    · cases hk; exact ⟨a7, b7⟩
    cases hk
set_option maxHeartbeats 4000000 in
set_option maxRecDepth 100000 in
theorem law_go {p : Program} {e : Env} {s : State} {m : MethodId} {below : List Frame} {meth : Method} {c : Code} (l : Launch) {b L : Nat} {xs : Nat → Int32} (C0 : lw_At p s m meth c b L xs) (hpure : PureOk s.heap.size L xs) : W p l e room_1 s m #[Value.ref b] below meth c s.heap [] 0 0 (lw_Z below #[Value.ref b] s) (entryFrame m ([Value.ref b] : List Value).toArray 4) := by
  obtain ⟨hx, hb, hr, hml, hown, hts, hXs, hbl, hlocks, hgv⟩ := C0
  have hF0 : ∀ a : Nat, a < s.heap.size → ¬ (fun q : Nat => s.heap.size ≤ q) a := fun a ha h => absurd ha (Nat.not_lt.mpr h)
  obtain ⟨kK, kV, o, hJ⟩ := st_JX (F := fun q : Nat => s.heap.size ≤ q) hF0 hts hgv
  obtain ⟨D, c1, c2, c3, c4, c5, c6, c7, hK⟩ := st_K hts (hJ 0 0 0 0 0 0 0).1
  generalize hy : ((c1, c2, c3, c4, c5, c6, c7, kK, kV, o) : CyT) = y
  have hK := hK kK kV o
  have hJ := hJ c1 c2 c3 c4 c5 c6 c7
  rw [hy] at hK hJ
  obtain ⟨S2, hi, g1, g2, hlaw⟩ := hpure
  generalize hXe : ((s.heap.size + 600000, 7302250) : Nat × Nat) = X at hi hlaw
  have hX1 : X.1 = s.heap.size + 600000 := by rw [← hXe]
  have hX2 : X.2 = 7302250 := by rw [← hXe]
  have hX : X.2 ≤ 100000000 := by rw [hX2]; decide
  generalize hEe : ((p, l, e, room_1, s, m, #[Value.ref b], below, meth, c, D, (fun q : Nat => s.heap.size ≤ q), lw_Z below #[Value.ref b] s, 4, y, 0, X.1, X.2) : CxT) = E
  have hc : Cx E "FarEditorsLaw" cL_law 4 := by
    subst hEe
    exact ⟨hx, hb, ⟨hml, rfl⟩, hown, fun w hw => hts w (List.mem_filter.mp hw).1, hK, fun q h => h, hlocks, hJ⟩
  have hz : Cy E l D y 13 478 X.1 X.2 := by
    subst hEe
    refine ⟨rfl, rfl, rfl, ?_, rfl, rfl⟩
    show room_1 = _
    rw [hX1, hX2]
    show _ = ({ frames := 13, cells := s.heap.size + 600000 - s.heap.size, slots := 7302250 - 0, locals := 478 } : Room)
    rw [Nat.add_sub_cancel_left]
    rfl
  have hsE : xS E = s := by subst hEe; rfl
  have hXs' : va_X b L xs (xS E) (xS E).heap := by rw [hsE]; exact hXs
  have hbl' : b < (xS E).heap.size := by rw [hsE]; exact hbl
  have hbA : ¬ xF E b := by subst hEe; exact Nat.not_le.mpr hbl
  have hend : ∀ (h : Nat) (q : Nat → Nat) (i : Int32) (S : CS) (M : MS), V E (cZ S) (cU S) (cw y S ++ mw h q y M) 1396 [(0, .ref b), (1, .ref s.heap.size), (2, .ref h), (3, .int i)] [] := by
    intro h q i S M
    refine V_iconst hc (v := (1 : Int32)) dL_law_1396 rfl ?_
    subst hEe
    intro H locs ls hl hP hD hS hZ
    have hz1 : cZ S ≤ X.1 := hZ.2.1
    have hz2 : cU S ≤ X.2 := hZ.2.2.2
    refine va_forget (fun q hq => hS.2.2 q hq) (W.widen (k := 600000) (n := 7302250) ?_ ?_ (lw_ret hx hb hr hlocks dL_law_1397))
    · show cZ S - s.heap.size ≤ 600000
      omega
    · show cU S - 0 ≤ 7302250
      omega
  have hV : V E s.heap.size 0 [] 0 [(0, .ref b)] [] := by
    refine C_new (y := y) (S := S00 s.heap.size) (S1 := bornO (S00 s.heap.size) 11 14) hc hz (ci := 11) rfl iW11 tyX11 tyX11_ok df11 (by decide) ?_ w1_21 w1_22 w1_1 dL_law_0 ?_
    · unfold nwo
      rw [if_pos ⟨by show s.heap.size < X.1; omega, by show 0 + 14 ≤ X.2; omega⟩]
    refine V_dup hc dL_law_3 rfl ?_
    refine V_callI hc hz (As := []) (c11_init l D y X hX hi) w1_23 w1_24 w1_1 w1_25 rfl hdX_X11_init.2 ⟨(Nat.le_of_ble_eq_true rfl), (Nat.le_of_ble_eq_true rfl)⟩ rfl rfl (Nat.le_of_ble_eq_true rfl) dL_law_4 ?_
    refine V_astore_n hc dL_law_7 rfl (by decide) rfl ?_
    refine V_newO hc hz (ci := 12) rfl iW12 tyX12 tyX12_ok (df12 (cZ S2 + 1)) (by omega) (by omega) w6_51 w6_52 w1_13 dL_law_8 ?_
    refine V_dup hc dL_law_11 rfl ?_
    refine V_perm ?_
    refine V_callIF hc hz (As := []) (c12_init l D (cZ S2) y X.1 X.2 (cZ S2 + 1) (cU S2 + 64) hX (by omega) (by omega)) w6_53 w6_54 w1_13 w6_55 rfl hd12_init.2 ⟨(Nat.le_of_ble_eq_true rfl), (Nat.le_of_ble_eq_true rfl)⟩ rfl rfl (Nat.le_of_ble_eq_true rfl) dL_law_12 ?_
    refine V_perm ?_
    refine V_astore_n hc dL_law_15 rfl (by decide) rfl ?_
    refine V_iconst hc (v := (0 : Int32)) dL_law_16 rfl ?_
    refine V_istore_n hc dL_law_17 rfl (by decide) rfl ?_
    refine V_zu (z1 := cZ (skp S2 36 247538)) (u1 := cU (skp S2 36 247538)) (by show _ = cZ S2 + 36; omega) (by show _ = cU S2 + 247538; omega) ?_
    exact V_sub [3, 2, 1, 0] rfl (lawL_ok (x := s.heap.size) hc hz hX hXs' hbl' hbA (hend (cZ S2) (mq (cZ S2 + 1))) FU 0 (skp S2 36 247538) M0 hlaw)
  rw [lg_entry_eq]
  have hl := lv_entry [Value.ref b] (n := 4) (Nat.le_of_ble_eq_true rfl)
  subst hEe
  refine W.widen (Nat.zero_le _) (Nat.zero_le _) (hV s.heap [] _ hl (fun k q h => by simp at h) ⟨fun i j p q h => by simp at h, fun k q h => by simp at h⟩ va_S.rf ⟨rfl, ?_, Nat.le_refl _, Nat.zero_le _⟩)
  show s.heap.size ≤ X.1
  omega
