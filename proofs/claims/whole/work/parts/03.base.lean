/-- the array classes (of char, int, boolean, and of four kinds of objects); the addresses of the String constants, of their bytes; one static of the JDK -/
abbrev CyT : Type := ClassId × ClassId × ClassId × ClassId × ClassId × ClassId × ClassId × (Nat → Nat) × (Nat → Nat) × Option Nat
abbrev aK (y : CyT) : Nat → Nat := y.2.2.2.2.2.2.2.1
abbrev aV (y : CyT) : Nat → Nat := y.2.2.2.2.2.2.2.2.1
abbrev aF (y : CyT) : Option Nat := y.2.2.2.2.2.2.2.2.2
abbrev tyL (y : CyT) : List (ClassId × FieldType) := [(y.1, .char), (y.2.1, .int), (y.2.2.1, .boolean), (y.2.2.2.1, .object "FarEditors$Editor"), (y.2.2.2.2.1, .object "FarEditors$Op"), (y.2.2.2.2.2.1, .object "FarEditors$Text"), (y.2.2.2.2.2.2.1, .object "FarEditors$World")]
/-- the String constants: their places in the pool, texts, lengths, bytes -/
def sK : List Nat := [116, 118, 120, 122, 124, 126, 128, 130, 132, 134]
def sT : List String := ["text", "delay", "ties", "edit", "cursor", "mark", "off", "on", "tick", "editors"]
def sLen : List Nat := [4, 5, 4, 4, 6, 4, 3, 2, 4, 7]
def sByt : List (List Int32) := [[116, 101, 120, 116], [100, 101, 108, 97, 121], [116, 105, 101, 115], [101, 100, 105, 116], [99, 117, 114, 115, 111, 114], [109, 97, 114, 107], [111, 102, 102], [111, 110], [116, 105, 99, 107], [101, 100, 105, 116, 111, 114, 115]]
/-- the fixed things of a method's walk: program, launch, env, room, start, method, arguments, frames below, Method, Code, layout, the cells that may change, the end, number of locals, array classes -/
abbrev CxT : Type := Program × Launch × Env × Room × State × MethodId × Array Value × List Frame × Method × Code × va_G × (Nat → Prop) × (State → Prop) × Nat × CyT × Nat × Nat × Nat
abbrev xP (E : CxT) : Program := E.1
abbrev xL (E : CxT) : Launch := E.2.1
abbrev xE (E : CxT) : Env := E.2.2.1
abbrev xR (E : CxT) : Room := E.2.2.2.1
abbrev xS (E : CxT) : State := E.2.2.2.2.1
abbrev xM (E : CxT) : MethodId := E.2.2.2.2.2.1
abbrev xA (E : CxT) : Array Value := E.2.2.2.2.2.2.1
abbrev xB (E : CxT) : List Frame := E.2.2.2.2.2.2.2.1
abbrev xH (E : CxT) : Method := E.2.2.2.2.2.2.2.2.1
abbrev xC (E : CxT) : Code := E.2.2.2.2.2.2.2.2.2.1
abbrev xD (E : CxT) : va_G := E.2.2.2.2.2.2.2.2.2.2.1
abbrev xF (E : CxT) : Nat → Prop := E.2.2.2.2.2.2.2.2.2.2.2.1
abbrev xQ (E : CxT) : State → Prop := E.2.2.2.2.2.2.2.2.2.2.2.2.1
abbrev xN (E : CxT) : Nat := E.2.2.2.2.2.2.2.2.2.2.2.2.2.1
abbrev xT (E : CxT) : CyT := E.2.2.2.2.2.2.2.2.2.2.2.2.2.2.1
abbrev xU (E : CxT) : Nat := E.2.2.2.2.2.2.2.2.2.2.2.2.2.2.2.1
abbrev xZ (E : CxT) : Nat := E.2.2.2.2.2.2.2.2.2.2.2.2.2.2.2.2.1
abbrev xW (E : CxT) : Nat := E.2.2.2.2.2.2.2.2.2.2.2.2.2.2.2.2.2
/-- the machine at pc with locals lv, operands st, over the world ws, the heap of z cells, u slots made since the count began: it comes to its end -/
def V (E : CxT) (z u : Nat) (ws : va_W) (pc : Nat) (lv : List (Nat × Value)) (st : List Value) : Prop :=
  ∀ (H : Heap) (locs : List Loc) (ls : Array Slot), lv_has ls (xN E) lv → va_P (xD E) vwCl ws H → va_D (xF E) ws → va_S (xF E) (xS E).heap H locs → (H.size = z ∧ z ≤ xZ E ∧ xU E ≤ u ∧ u ≤ xW E) →
    W (xP E) (xL E) (xE E) (xR E) (xS E) (xM E) (xA E) (xB E) (xH E) (xC E) H locs (z - (xS E).heap.size) (u - xU E) (xQ E) (F0 (xM E) pc ls st)
theorem W_sz {p : Program} {l : Launch} {e : Env} {R : Room} {s : State} {m : MethodId} {args : Array Value} {below : List Frame} {meth : Method} {c : Code} {H : Heap} {locs : List Loc} {cells slots : Nat} {Q : State → Prop} {g : JFrame} (h : H.size ≤ s.heap.size + cells → W p l e R s m args below meth c H locs cells slots Q g) : W p l e R s m args below meth c H locs cells slots Q g := fun T hT X => h (by have h1 := X.same.2.2.1; rw [← hT]; exact h1) T hT X
theorem vS_self {A : Nat → Prop} {H0 H : Heap} {locs : List Loc} (h : va_S A H0 H locs) : va_S A H H locs := ⟨Nat.le_refl _, fun _ _ _ => rfl, h.2.2⟩
theorem vS_comp {A : Nat → Prop} {H0 H H1 : Heap} {locs locs1 : List Loc} (h : va_S A H0 H locs) (h1 : va_S A H H1 locs1) : va_S A H0 H1 locs1 := ⟨Nat.le_trans h.1 h1.1, fun q hq hA => (h1.2.1 q (Nat.lt_of_lt_of_le hq h.1) hA).trans (h.2.1 q hq hA), h1.2.2⟩
/-- arrays of the four kinds of objects can be made -/
def AO4 (U : State) : Prop := va_AO "FarEditors$Editor" U ∧ va_AO "FarEditors$Op" U ∧ va_AO "FarEditors$Text" U ∧ va_AO "FarEditors$World" U
theorem AO4.moved {u U : State} (hvm : u.vm.Alike U.vm) (h : AO4 u) : AO4 U := ⟨h.1.moved hvm, h.2.1.moved hvm, h.2.2.1.moved hvm, h.2.2.2.moved hvm⟩
/-- what is there beside the worlds: that, the String constants, two statics of the JDK; none of it is a cell of F -/
def JX (y : CyT) (F : Nat → Prop) (U : State) (H : Heap) : Prop := AO4 U ∧ (∀ i, i < 10 → vk_R "FarEditors$Told" (sK.getD i 0) (sT.getD i "") (aK y i) U) ∧ vk_S 10 sLen sByt (aK y) (aV y) F U H ∧ va_Z "java/lang/String" "COMPACT_STRINGS" "Z" (.int 1) F U H ∧ va_Z "jdk/internal/util/Preconditions" "SIOOBE_FORMATTER" "Ljava/util/function/BiFunction;" (va_rf (aF y)) F U H
theorem JX.calling {y : CyT} {F : Nat → Prop} {U : State} {H : Heap} {g : JFrame} {mk : MethodId} {a : Array Value} (h : JX y F U H) : JX y F (U.calling g mk a) H := by
  have hv : U.vm.Alike (U.calling g mk a).vm := Vm.Alike.refl U.vm
  exact ⟨h.1.moved hv, fun i hi => vk_R.same (u := U) rfl (h.2.1 i hi), h.2.2.1.moved hv, h.2.2.2.1.moved hv, h.2.2.2.2.moved hv⟩
theorem JX.call {y : CyT} {F G : Nat → Prop} {s U : State} {H : Heap} {locs : List Loc} (h : JX y F s s.heap) (hW : s.WarmedH U.vm) (hS : va_S F s.heap H locs) (hG : ∀ q, G q → F q) : JX y G U H := by
  have hv := hW.alike
  have hk : ∀ a : Nat, a < s.heap.size → ¬ F a → H[a]? = s.heap[a]? := hS.2.1
  exact ⟨h.1.moved hv, fun i hi => (h.2.1 i hi).warm hW, ((h.2.2.1.moved hv).kept hk).narrow hG, ((h.2.2.2.1.moved hv).kept hk).narrow hG, ((h.2.2.2.2.moved hv).kept hk).narrow hG⟩
/-- what holds of the fixed things: own is the class whose method is walked, cc its bytes -/
def Cx (E : CxT) (own : String) (cc : ByteArray) (nl : Nat) : Prop :=
  (xP E).tables.exec = Jvm.exec ∧ (xC E).code = cc ∧ ((xC E).maxLocals = xN E ∧ xN E = nl) ∧ (xS E).vm.findClass own = some (xM E).cls ∧ (∀ w ∈ WB, w.before (xA E) (xS E) = true) ∧ va_K (xD E) vwCl (tyL (xT E)) (xS E) ∧ (∀ q, (xS E).heap.size ≤ q → xF E q) ∧ (xH E).locks = false ∧ JX (xT E) (xF E) (xS E) (xS E).heap
section VR
variable {E : CxT} {own : String} {cc : ByteArray} {nl : Nat} {ws : va_W} {pc : Nat} {lv : List (Nat × Value)} {st : List Value} {z u : Nat}
theorem V_sub (ks : List Nat) {lv' : List (Nat × Value)} (hl : lv_pick lv ks = lv') (kk : V E z u ws pc lv' st) : V E z u ws pc lv st := fun H locs ls h hP hD hS hZ => kk H locs ls (lv_sub h ks hl) hP hD hS hZ
theorem V_eq {ws' : va_W} (h : ws = ws') (kk : V E z u ws' pc lv st) : V E z u ws pc lv st := h ▸ kk
theorem V_iconst (hc : Cx E own cc nl) {i : Int} {v : Int32} (hdg : decode cc pc = .ok (.iconst i, 1)) (hv : Int32.ofInt i = v) (kk : V E z u ws (pc + 1) lv (.int v :: st)) : V E z u ws pc lv (st) := fun H locs ls h hP hD hS hZ => lv_iconst hc.1 hc.2.1 hdg hv (kk H locs ls h hP hD hS hZ)
theorem V_bipush (hc : Cx E own cc nl) {i : Int} {v : Int32} (hdg : decode cc pc = .ok (.bipush i, 2)) (hv : (Int8.ofInt i).toInt32 = v) (kk : V E z u ws (pc + 2) lv (.int v :: st)) : V E z u ws pc lv (st) := fun H locs ls h hP hD hS hZ => lv_bipush hc.1 hc.2.1 hdg hv (kk H locs ls h hP hD hS hZ)
theorem V_sipush (hc : Cx E own cc nl) {i : Int} {v : Int32} (hdg : decode cc pc = .ok (.sipush i, 3)) (hv : (Int16.ofInt i).toInt32 = v) (kk : V E z u ws (pc + 3) lv (.int v :: st)) : V E z u ws pc lv (st) := fun H locs ls h hP hD hS hZ => lv_sipush hc.1 hc.2.1 hdg hv (kk H locs ls h hP hD hS hZ)
theorem V_lconst (hc : Cx E own cc nl) {i : Fin 2} {v : Int64} (hdg : decode cc pc = .ok (.lconst i, 1)) (hv : Int64.ofNat (i : Nat) = v) (kk : V E z u ws (pc + 1) lv (.long v :: st)) : V E z u ws pc lv (st) := fun H locs ls h hP hD hS hZ => lv_lconst hc.1 hc.2.1 hdg hv (kk H locs ls h hP hD hS hZ)
theorem V_iload_n (hc : Cx E own cc nl) {f : Fin 4} {i : Nat} {x : Int32} (hdg : decode cc pc = .ok (.iload_n f, 1)) (hi : (f : Nat) = i) (j : Nat) (hj : lv[j]? = some (i, .int x)) (kk : V E z u ws (pc + 1) lv (.int x :: st)) : V E z u ws pc lv st := fun H locs ls h hP hD hS hZ => lv_iload_n hc.1 hc.2.1 hdg hi (lv_at h j hj) (kk H locs ls h hP hD hS hZ)
theorem V_iload (hc : Cx E own cc nl) {i : Nat} {x : Int32} (hdg : decode cc pc = .ok (.iload i, 2)) (j : Nat) (hj : lv[j]? = some (i, .int x)) (kk : V E z u ws (pc + 2) lv (.int x :: st)) : V E z u ws pc lv st := fun H locs ls h hP hD hS hZ => lv_iload hc.1 hc.2.1 hdg (lv_at h j hj) (kk H locs ls h hP hD hS hZ)
theorem V_lload_n (hc : Cx E own cc nl) {f : Fin 4} {i : Nat} {x : Int64} (hdg : decode cc pc = .ok (.lload_n f, 1)) (hi : (f : Nat) = i) (j : Nat) (hj : lv[j]? = some (i, .long x)) (kk : V E z u ws (pc + 1) lv (.long x :: st)) : V E z u ws pc lv st := fun H locs ls h hP hD hS hZ => lv_lload_n hc.1 hc.2.1 hdg hi (lv_at h j hj) (kk H locs ls h hP hD hS hZ)
theorem V_lload (hc : Cx E own cc nl) {i : Nat} {x : Int64} (hdg : decode cc pc = .ok (.lload i, 2)) (j : Nat) (hj : lv[j]? = some (i, .long x)) (kk : V E z u ws (pc + 2) lv (.long x :: st)) : V E z u ws pc lv st := fun H locs ls h hP hD hS hZ => lv_lload hc.1 hc.2.1 hdg (lv_at h j hj) (kk H locs ls h hP hD hS hZ)
theorem V_aload_n (hc : Cx E own cc nl) {f : Fin 4} {i : Nat} {x : Nat} (hdg : decode cc pc = .ok (.aload_n f, 1)) (hi : (f : Nat) = i) (j : Nat) (hj : lv[j]? = some (i, .ref x)) (kk : V E z u ws (pc + 1) lv (.ref x :: st)) : V E z u ws pc lv st := fun H locs ls h hP hD hS hZ => lv_aload_n hc.1 hc.2.1 hdg hi (lv_at h j hj) (kk H locs ls h hP hD hS hZ)
theorem V_aload (hc : Cx E own cc nl) {i : Nat} {x : Nat} (hdg : decode cc pc = .ok (.aload i, 2)) (j : Nat) (hj : lv[j]? = some (i, .ref x)) (kk : V E z u ws (pc + 2) lv (.ref x :: st)) : V E z u ws pc lv st := fun H locs ls h hP hD hS hZ => lv_aload hc.1 hc.2.1 hdg (lv_at h j hj) (kk H locs ls h hP hD hS hZ)
theorem V_istore_n (hc : Cx E own cc nl) {f : Fin 4} {i : Nat} {x : Int32} {lv' : List (Nat × Value)} (hdg : decode cc pc = .ok (.istore_n f, 1)) (hi : (f : Nat) = i) (hn : i < nl) (hl : (i, Value.int x) :: lv.filter (fun q => !(q.1 == i) && !(q.1 + 1 == i && q.2.category == 2)) = lv') (kk : V E z u ws (pc + 1) lv' st) : V E z u ws pc lv (.int x :: st) := fun H locs ls h hP hD hS hZ => lv_istore_n hc.1 hc.2.1 hdg hi h (hc.2.2.1.2 ▸ hn) hl (fun ls' h' => kk H locs ls' h' hP hD hS hZ)
theorem V_istore (hc : Cx E own cc nl) {i : Nat} {x : Int32} {lv' : List (Nat × Value)} (hdg : decode cc pc = .ok (.istore i, 2)) (hn : i < nl) (hl : (i, Value.int x) :: lv.filter (fun q => !(q.1 == i) && !(q.1 + 1 == i && q.2.category == 2)) = lv') (kk : V E z u ws (pc + 2) lv' st) : V E z u ws pc lv (.int x :: st) := fun H locs ls h hP hD hS hZ => lv_istore hc.1 hc.2.1 hdg h (hc.2.2.1.2 ▸ hn) hl (fun ls' h' => kk H locs ls' h' hP hD hS hZ)
theorem V_astore_n (hc : Cx E own cc nl) {f : Fin 4} {i : Nat} {x : Nat} {lv' : List (Nat × Value)} (hdg : decode cc pc = .ok (.astore_n f, 1)) (hi : (f : Nat) = i) (hn : i < nl) (hl : (i, Value.ref x) :: lv.filter (fun q => !(q.1 == i) && !(q.1 + 1 == i && q.2.category == 2)) = lv') (kk : V E z u ws (pc + 1) lv' st) : V E z u ws pc lv (.ref x :: st) := fun H locs ls h hP hD hS hZ => lv_astore_n hc.1 hc.2.1 hdg hi h (hc.2.2.1.2 ▸ hn) hl (fun ls' h' => kk H locs ls' h' hP hD hS hZ)
theorem V_astore (hc : Cx E own cc nl) {i : Nat} {x : Nat} {lv' : List (Nat × Value)} (hdg : decode cc pc = .ok (.astore i, 2)) (hn : i < nl) (hl : (i, Value.ref x) :: lv.filter (fun q => !(q.1 == i) && !(q.1 + 1 == i && q.2.category == 2)) = lv') (kk : V E z u ws (pc + 2) lv' st) : V E z u ws pc lv (.ref x :: st) := fun H locs ls h hP hD hS hZ => lv_astore hc.1 hc.2.1 hdg h (hc.2.2.1.2 ▸ hn) hl (fun ls' h' => kk H locs ls' h' hP hD hS hZ)
theorem V_lstore_n (hc : Cx E own cc nl) {f : Fin 4} {i : Nat} {x : Int64} {lv' : List (Nat × Value)} (hdg : decode cc pc = .ok (.lstore_n f, 1)) (hi : (f : Nat) = i) (hn : i + 1 < nl) (hl : (i, Value.long x) :: lv.filter (fun q => !(q.1 == i) && (!(q.1 == i + 1) && !(q.1 + 1 == i && q.2.category == 2))) = lv') (kk : V E z u ws (pc + 1) lv' st) : V E z u ws pc lv (.long x :: st) := fun H locs ls h hP hD hS hZ => lv_lstore_n hc.1 hc.2.1 hdg hi h (hc.2.2.1.2 ▸ hn) hl (fun ls' h' => kk H locs ls' h' hP hD hS hZ)
theorem V_iinc (hc : Cx E own cc nl) {i j : Nat} {d : Int} {x v : Int32} {lv' : List (Nat × Value)} (hdg : decode cc pc = .ok (.iinc i d, 3)) (hk : lv[j]? = some (i, .int x)) (hv : x + Int32.ofInt d = v) (hn : i < nl) (hl : (i, Value.int v) :: lv.filter (fun q => !(q.1 == i) && !(q.1 + 1 == i && q.2.category == 2)) = lv') (kk : V E z u ws (pc + 3) lv' st) : V E z u ws pc lv st := fun H locs ls h hP hD hS hZ => lv_iinc hc.1 hc.2.1 hdg h hk hv (hc.2.2.1.2 ▸ hn) hl (fun ls' h' => kk H locs ls' h' hP hD hS hZ)
theorem V_iadd (hc : Cx E own cc nl) {x y : Int32} (hdg : decode cc pc = .ok (.iadd, 1)) (kk : V E z u ws (pc + 1) lv (.int (x + y) :: st)) : V E z u ws pc lv (.int y :: .int x :: st) := fun H locs ls h hP hD hS hZ => lv_iadd hc.1 hc.2.1 hdg (kk H locs ls h hP hD hS hZ)
theorem V_isub (hc : Cx E own cc nl) {x y : Int32} (hdg : decode cc pc = .ok (.isub, 1)) (kk : V E z u ws (pc + 1) lv (.int (x - y) :: st)) : V E z u ws pc lv (.int y :: .int x :: st) := fun H locs ls h hP hD hS hZ => lv_isub hc.1 hc.2.1 hdg (kk H locs ls h hP hD hS hZ)
theorem V_imul (hc : Cx E own cc nl) {x y : Int32} (hdg : decode cc pc = .ok (.imul, 1)) (kk : V E z u ws (pc + 1) lv (.int (x * y) :: st)) : V E z u ws pc lv (.int y :: .int x :: st) := fun H locs ls h hP hD hS hZ => lv_imul hc.1 hc.2.1 hdg (kk H locs ls h hP hD hS hZ)
theorem V_iand (hc : Cx E own cc nl) {x y : Int32} (hdg : decode cc pc = .ok (.iand, 1)) (kk : V E z u ws (pc + 1) lv (.int (x &&& y) :: st)) : V E z u ws pc lv (.int y :: .int x :: st) := fun H locs ls h hP hD hS hZ => lv_iand hc.1 hc.2.1 hdg (kk H locs ls h hP hD hS hZ)
theorem V_ior (hc : Cx E own cc nl) {x y : Int32} (hdg : decode cc pc = .ok (.ior, 1)) (kk : V E z u ws (pc + 1) lv (.int (x ||| y) :: st)) : V E z u ws pc lv (.int y :: .int x :: st) := fun H locs ls h hP hD hS hZ => lv_ior hc.1 hc.2.1 hdg (kk H locs ls h hP hD hS hZ)
theorem V_ishr (hc : Cx E own cc nl) {x y : Int32} (hdg : decode cc pc = .ok (.ishr, 1)) (kk : V E z u ws (pc + 1) lv (.int (x >>> (y &&& 31)) :: st)) : V E z u ws pc lv (.int y :: .int x :: st) := fun H locs ls h hP hD hS hZ => lv_ishr hc.1 hc.2.1 hdg (kk H locs ls h hP hD hS hZ)
theorem V_ishl (hc : Cx E own cc nl) {x y : Int32} (hdg : decode cc pc = .ok (.ishl, 1)) (kk : V E z u ws (pc + 1) lv (.int (x <<< (y &&& 31)) :: st)) : V E z u ws pc lv (.int y :: .int x :: st) := fun H locs ls h hP hD hS hZ => lv_ishl hc.1 hc.2.1 hdg (kk H locs ls h hP hD hS hZ)
theorem V_idiv (hc : Cx E own cc nl) {x y : Int32} (hdg : decode cc pc = .ok (.idiv, 1)) (hne : ¬ y = 0) (kk : V E z u ws (pc + 1) lv (.int (x / y) :: st)) : V E z u ws pc lv (.int y :: .int x :: st) := fun H locs ls h hP hD hS hZ => lv_idiv hc.1 hc.2.1 hdg hne (kk H locs ls h hP hD hS hZ)
theorem V_irem (hc : Cx E own cc nl) {x y : Int32} (hdg : decode cc pc = .ok (.irem, 1)) (hne : ¬ y = 0) (kk : V E z u ws (pc + 1) lv (.int (x - x / y * y) :: st)) : V E z u ws pc lv (.int y :: .int x :: st) := fun H locs ls h hP hD hS hZ => lv_irem hc.1 hc.2.1 hdg hne (kk H locs ls h hP hD hS hZ)
theorem V_ineg (hc : Cx E own cc nl) {x : Int32} (hdg : decode cc pc = .ok (.ineg, 1)) (kk : V E z u ws (pc + 1) lv (.int (-x) :: st)) : V E z u ws pc lv (.int x :: st) := fun H locs ls h hP hD hS hZ => lv_ineg hc.1 hc.2.1 hdg (kk H locs ls h hP hD hS hZ)
theorem V_ladd (hc : Cx E own cc nl) {x y : Int64} (hdg : decode cc pc = .ok (.ladd, 1)) (kk : V E z u ws (pc + 1) lv (.long (x + y) :: st)) : V E z u ws pc lv (.long y :: .long x :: st) := fun H locs ls h hP hD hS hZ => lv_ladd hc.1 hc.2.1 hdg (kk H locs ls h hP hD hS hZ)
theorem V_lmul (hc : Cx E own cc nl) {x y : Int64} (hdg : decode cc pc = .ok (.lmul, 1)) (kk : V E z u ws (pc + 1) lv (.long (x * y) :: st)) : V E z u ws pc lv (.long y :: .long x :: st) := fun H locs ls h hP hD hS hZ => lv_lmul hc.1 hc.2.1 hdg (kk H locs ls h hP hD hS hZ)
theorem V_land (hc : Cx E own cc nl) {x y : Int64} (hdg : decode cc pc = .ok (.land, 1)) (kk : V E z u ws (pc + 1) lv (.long (x &&& y) :: st)) : V E z u ws pc lv (.long y :: .long x :: st) := fun H locs ls h hP hD hS hZ => lv_land hc.1 hc.2.1 hdg (kk H locs ls h hP hD hS hZ)
theorem V_ldiv (hc : Cx E own cc nl) {x y : Int64} (hdg : decode cc pc = .ok (.ldiv, 1)) (hne : ¬ y = 0) (kk : V E z u ws (pc + 1) lv (.long (x / y) :: st)) : V E z u ws pc lv (.long y :: .long x :: st) := fun H locs ls h hP hD hS hZ => lv_ldiv hc.1 hc.2.1 hdg hne (kk H locs ls h hP hD hS hZ)
theorem V_lrem (hc : Cx E own cc nl) {x y : Int64} (hdg : decode cc pc = .ok (.lrem, 1)) (hne : ¬ y = 0) (kk : V E z u ws (pc + 1) lv (.long (x - x / y * y) :: st)) : V E z u ws pc lv (.long y :: .long x :: st) := fun H locs ls h hP hD hS hZ => lv_lrem hc.1 hc.2.1 hdg hne (kk H locs ls h hP hD hS hZ)
theorem V_lcmp (hc : Cx E own cc nl) {x y : Int64} (hdg : decode cc pc = .ok (.lcmp, 1)) (kk : V E z u ws (pc + 1) lv (.int (lg_cmp x y) :: st)) : V E z u ws pc lv (.long y :: .long x :: st) := fun H locs ls h hP hD hS hZ => W.lcmp hc.1 hc.2.1 hdg (kk H locs ls h hP hD hS hZ)
theorem V_i2l (hc : Cx E own cc nl) {x : Int32} (hdg : decode cc pc = .ok (.i2l, 1)) (kk : V E z u ws (pc + 1) lv (.long x.toInt64 :: st)) : V E z u ws pc lv (.int x :: st) := fun H locs ls h hP hD hS hZ => lv_i2l hc.1 hc.2.1 hdg rfl (kk H locs ls h hP hD hS hZ)
theorem V_l2i (hc : Cx E own cc nl) {x : Int64} (hdg : decode cc pc = .ok (.l2i, 1)) (kk : V E z u ws (pc + 1) lv (.int x.toInt32 :: st)) : V E z u ws pc lv (.long x :: st) := fun H locs ls h hP hD hS hZ => lv_l2i hc.1 hc.2.1 hdg rfl (kk H locs ls h hP hD hS hZ)
theorem V_dup (hc : Cx E own cc nl) {va : Value} (hdg : decode cc pc = .ok (.dup, 1)) (hva : va.category = 1) (kk : V E z u ws (pc + 1) lv (va :: va :: st)) : V E z u ws pc lv (va :: st) := fun H locs ls h hP hD hS hZ => lv_dup hc.1 hc.2.1 hdg hva (kk H locs ls h hP hD hS hZ)
theorem V_pop (hc : Cx E own cc nl) {va : Value} (hdg : decode cc pc = .ok (.pop, 1)) (hva : va.category = 1) (kk : V E z u ws (pc + 1) lv (st)) : V E z u ws pc lv (va :: st) := fun H locs ls h hP hD hS hZ => lv_pop hc.1 hc.2.1 hdg hva (kk H locs ls h hP hD hS hZ)
theorem V_dup_x1 (hc : Cx E own cc nl) {va vb : Value} (hdg : decode cc pc = .ok (.dup_x1, 1)) (hva : va.category = 1) (hvb : vb.category = 1) (kk : V E z u ws (pc + 1) lv (va :: vb :: va :: st)) : V E z u ws pc lv (va :: vb :: st) := fun H locs ls h hP hD hS hZ => lv_dup_x1 hc.1 hc.2.1 hdg hva hvb (kk H locs ls h hP hD hS hZ)
theorem V_dup2 (hc : Cx E own cc nl) {va vb : Value} (hdg : decode cc pc = .ok (.dup2, 1)) (hva : va.category = 1) (hvb : vb.category = 1) (kk : V E z u ws (pc + 1) lv (va :: vb :: va :: vb :: st)) : V E z u ws pc lv (va :: vb :: st) := fun H locs ls h hP hD hS hZ => lv_dup2_11 hc.1 hc.2.1 hdg hva hvb (kk H locs ls h hP hD hS hZ)
theorem V_goto (hc : Cx E own cc nl) {off : Int} {tgt : Nat} (hdg : decode cc pc = .ok (.goto off, 3)) (ht : (pc : Int) + off = (tgt : Int)) (kk : V E z u ws tgt lv st) : V E z u ws pc lv st := fun H locs ls h hP hD hS hZ => lv_goto hc.1 hc.2.1 hdg ht (kk H locs ls h hP hD hS hZ)
theorem V_if_eq (hc : Cx E own cc nl) {x : Int32} {off : Int} {tgt : Nat} (hdg : decode cc pc = .ok (.ifCond .eq off, 3)) (ht : (pc : Int) + off = (tgt : Int)) (kt : (x = 0) → V E z u ws tgt lv st) (kf : ¬ (x = 0) → V E z u ws (pc + 3) lv st) : V E z u ws pc lv (.int x :: st) := fun H locs ls h hP hD hS hZ => lv_if_eq hc.1 hc.2.1 hdg ht (fun q => kt q H locs ls h hP hD hS hZ) (fun q => kf q H locs ls h hP hD hS hZ)
theorem V_if_ne (hc : Cx E own cc nl) {x : Int32} {off : Int} {tgt : Nat} (hdg : decode cc pc = .ok (.ifCond .ne off, 3)) (ht : (pc : Int) + off = (tgt : Int)) (kt : (¬ x = 0) → V E z u ws tgt lv st) (kf : (x = 0) → V E z u ws (pc + 3) lv st) : V E z u ws pc lv (.int x :: st) := fun H locs ls h hP hD hS hZ => lv_if_ne hc.1 hc.2.1 hdg ht (fun q => kt q H locs ls h hP hD hS hZ) (fun q => kf q H locs ls h hP hD hS hZ)
theorem V_if_lt (hc : Cx E own cc nl) {x : Int32} {off : Int} {tgt : Nat} (hdg : decode cc pc = .ok (.ifCond .lt off, 3)) (ht : (pc : Int) + off = (tgt : Int)) (kt : (x < 0) → V E z u ws tgt lv st) (kf : ¬ (x < 0) → V E z u ws (pc + 3) lv st) : V E z u ws pc lv (.int x :: st) := fun H locs ls h hP hD hS hZ => lv_if_lt hc.1 hc.2.1 hdg ht (fun q => kt q H locs ls h hP hD hS hZ) (fun q => kf q H locs ls h hP hD hS hZ)
theorem V_if_ge (hc : Cx E own cc nl) {x : Int32} {off : Int} {tgt : Nat} (hdg : decode cc pc = .ok (.ifCond .ge off, 3)) (ht : (pc : Int) + off = (tgt : Int)) (kt : (0 ≤ x) → V E z u ws tgt lv st) (kf : ¬ (0 ≤ x) → V E z u ws (pc + 3) lv st) : V E z u ws pc lv (.int x :: st) := fun H locs ls h hP hD hS hZ => lv_if_ge hc.1 hc.2.1 hdg ht (fun q => kt q H locs ls h hP hD hS hZ) (fun q => kf q H locs ls h hP hD hS hZ)
theorem V_if_gt (hc : Cx E own cc nl) {x : Int32} {off : Int} {tgt : Nat} (hdg : decode cc pc = .ok (.ifCond .gt off, 3)) (ht : (pc : Int) + off = (tgt : Int)) (kt : (0 < x) → V E z u ws tgt lv st) (kf : ¬ (0 < x) → V E z u ws (pc + 3) lv st) : V E z u ws pc lv (.int x :: st) := fun H locs ls h hP hD hS hZ => lv_if_gt hc.1 hc.2.1 hdg ht (fun q => kt q H locs ls h hP hD hS hZ) (fun q => kf q H locs ls h hP hD hS hZ)
theorem V_if_le (hc : Cx E own cc nl) {x : Int32} {off : Int} {tgt : Nat} (hdg : decode cc pc = .ok (.ifCond .le off, 3)) (ht : (pc : Int) + off = (tgt : Int)) (kt : (x ≤ 0) → V E z u ws tgt lv st) (kf : ¬ (x ≤ 0) → V E z u ws (pc + 3) lv st) : V E z u ws pc lv (.int x :: st) := fun H locs ls h hP hD hS hZ => lv_if_le hc.1 hc.2.1 hdg ht (fun q => kt q H locs ls h hP hD hS hZ) (fun q => kf q H locs ls h hP hD hS hZ)
theorem V_icmp_eq (hc : Cx E own cc nl) {x y : Int32} {off : Int} {tgt : Nat} (hdg : decode cc pc = .ok (.if_icmp .eq off, 3)) (ht : (pc : Int) + off = (tgt : Int)) (kt : (x = y) → V E z u ws tgt lv st) (kf : ¬ (x = y) → V E z u ws (pc + 3) lv st) : V E z u ws pc lv (.int y :: .int x :: st) := fun H locs ls h hP hD hS hZ => lv_icmp_eq hc.1 hc.2.1 hdg ht (fun q => kt q H locs ls h hP hD hS hZ) (fun q => kf q H locs ls h hP hD hS hZ)
theorem V_icmp_ne (hc : Cx E own cc nl) {x y : Int32} {off : Int} {tgt : Nat} (hdg : decode cc pc = .ok (.if_icmp .ne off, 3)) (ht : (pc : Int) + off = (tgt : Int)) (kt : (¬ x = y) → V E z u ws tgt lv st) (kf : (x = y) → V E z u ws (pc + 3) lv st) : V E z u ws pc lv (.int y :: .int x :: st) := fun H locs ls h hP hD hS hZ => lv_icmp_ne hc.1 hc.2.1 hdg ht (fun q => kt q H locs ls h hP hD hS hZ) (fun q => kf q H locs ls h hP hD hS hZ)
theorem V_icmp_lt (hc : Cx E own cc nl) {x y : Int32} {off : Int} {tgt : Nat} (hdg : decode cc pc = .ok (.if_icmp .lt off, 3)) (ht : (pc : Int) + off = (tgt : Int)) (kt : (x < y) → V E z u ws tgt lv st) (kf : ¬ (x < y) → V E z u ws (pc + 3) lv st) : V E z u ws pc lv (.int y :: .int x :: st) := fun H locs ls h hP hD hS hZ => lv_icmp_lt hc.1 hc.2.1 hdg ht (fun q => kt q H locs ls h hP hD hS hZ) (fun q => kf q H locs ls h hP hD hS hZ)
theorem V_icmp_ge (hc : Cx E own cc nl) {x y : Int32} {off : Int} {tgt : Nat} (hdg : decode cc pc = .ok (.if_icmp .ge off, 3)) (ht : (pc : Int) + off = (tgt : Int)) (kt : (y ≤ x) → V E z u ws tgt lv st) (kf : ¬ (y ≤ x) → V E z u ws (pc + 3) lv st) : V E z u ws pc lv (.int y :: .int x :: st) := fun H locs ls h hP hD hS hZ => lv_icmp_ge hc.1 hc.2.1 hdg ht (fun q => kt q H locs ls h hP hD hS hZ) (fun q => kf q H locs ls h hP hD hS hZ)
theorem V_icmp_gt (hc : Cx E own cc nl) {x y : Int32} {off : Int} {tgt : Nat} (hdg : decode cc pc = .ok (.if_icmp .gt off, 3)) (ht : (pc : Int) + off = (tgt : Int)) (kt : (y < x) → V E z u ws tgt lv st) (kf : ¬ (y < x) → V E z u ws (pc + 3) lv st) : V E z u ws pc lv (.int y :: .int x :: st) := fun H locs ls h hP hD hS hZ => lv_icmp_gt hc.1 hc.2.1 hdg ht (fun q => kt q H locs ls h hP hD hS hZ) (fun q => kf q H locs ls h hP hD hS hZ)
theorem V_icmp_le (hc : Cx E own cc nl) {x y : Int32} {off : Int} {tgt : Nat} (hdg : decode cc pc = .ok (.if_icmp .le off, 3)) (ht : (pc : Int) + off = (tgt : Int)) (kt : (x ≤ y) → V E z u ws tgt lv st) (kf : ¬ (x ≤ y) → V E z u ws (pc + 3) lv st) : V E z u ws pc lv (.int y :: .int x :: st) := fun H locs ls h hP hD hS hZ => lv_icmp_le hc.1 hc.2.1 hdg ht (fun q => kt q H locs ls h hP hD hS hZ) (fun q => kf q H locs ls h hP hD hS hZ)
theorem V_tableIn (hc : Cx E own cc nl) {dflt lo hi : Int} {offs : Array Int} {len : Nat} {x : Int32} {off : Int} {tgt : Nat} (hdg : decode cc pc = .ok (.tableswitch dflt lo hi offs, len)) (h1 : ¬ x.toInt < lo) (h2 : ¬ hi < x.toInt) (ho : offs[(x.toInt - lo).toNat]? = some off) (ht : (pc : Int) + off = (tgt : Int)) (kk : V E z u ws tgt lv st) : V E z u ws pc lv (.int x :: st) := fun H locs ls h hP hD hS hZ => lv_tableIn hc.1 hc.2.1 hdg h1 h2 ho ht (kk H locs ls h hP hD hS hZ)
theorem V_tableOut (hc : Cx E own cc nl) {dflt lo hi : Int} {offs : Array Int} {len : Nat} {x : Int32} {tgt : Nat} (hdg : decode cc pc = .ok (.tableswitch dflt lo hi offs, len)) (hh : x.toInt < lo ∨ hi < x.toInt) (ht : (pc : Int) + dflt = (tgt : Int)) (kk : V E z u ws tgt lv st) : V E z u ws pc lv (.int x :: st) := fun H locs ls h hP hD hS hZ => lv_tableOut hc.1 hc.2.1 hdg hh ht (kk H locs ls h hP hD hS hZ)
theorem V_ldc2 (hc : Cx E own cc nl) {index : Nat} {v : Int64} (hw : Cond.constantLong own index v ∈ WB) (hdg : decode cc pc = .ok (.ldc2_w index, 3)) (kk : V E z u ws (pc + 3) lv (.long v :: st)) : V E z u ws pc lv st := fun H locs ls h hP hD hS hZ => lv_ldc2 hc.1 hc.2.1 hc.2.2.2.1 (hc.2.2.2.2.1 _ hw) hdg (kk H locs ls h hP hD hS hZ)
theorem V_ldc (hc : Cx E own cc nl) {index : Nat} {v : Int32} (hw : Cond.constant own index v ∈ WB) (hdg : decode cc pc = .ok (.ldc index, 2)) (kk : V E z u ws (pc + 2) lv (.int v :: st)) : V E z u ws pc lv st := fun H locs ls h hP hD hS hZ => lv_ldc hc.1 hc.2.1 hc.2.2.2.1 (hc.2.2.2.2.1 _ hw) hdg (kk H locs ls h hP hD hS hZ)
theorem V_get (hc : Cx E own cc nl) {ci N : Nat} {C : String} {T : u_T} (hcl : vwCl[ci]? = some (C, T, N)) (hin : ∀ w ∈ u_ws C T N, w ∈ WB) {a : Nat} {fs : List Value} (q0 : Nat) (he : ws[q0]? = some (a, .inr (ci, fs))) (kf : Nat) (hk : kf < N) {index : Nat} (hlink : Cond.fieldLink own index (T kf).1 (T kf).2.1 (T kf).2.2.1 ∈ WB) {v : Value} (hv : fs[kf]? = some v) (hdg : decode cc pc = .ok (.getfield index, 3)) (kk : V E z u ws (pc + 3) lv (v :: st)) : V E z u ws pc lv (.ref a :: st) := fun H locs ls h hP hD hS hZ => va_get hc.1 hc.2.1 hc.2.2.2.2.1 hin hc.2.2.2.1 hc.2.2.2.2.2.1 hP q0 he hcl kf hk (hc.2.2.2.2.1 _ hlink) (fun _ h9 => h9) hv hdg (kk H locs ls h hP hD hS hZ)
theorem V_put (hc : Cx E own cc nl) {ci N : Nat} {C : String} {T : u_T} (hcl : vwCl[ci]? = some (C, T, N)) (hin : ∀ w ∈ u_ws C T N, w ∈ WB) (ty0 : Nat → FieldType) (hty : ∀ k, k < N → parseFieldDescriptor (T k).2.2.1 = some (ty0 k)) (hnm : ∀ a, a < N → ∀ b, b < N → a ≠ b → (T a).2.1 ≠ (T b).2.1) {a : Nat} {fs : List Value} (q0 : Nat) (he : ws[q0]? = some (a, .inr (ci, fs))) (kf : Nat) (hk : kf < N) {index : Nat} (hlink : Cond.fieldLink own index (T kf).1 (T kf).2.1 (T kf).2.2.1 ∈ WB) (hfin : (T kf).2.2.2 = false) {v : Value} (hn : narrow (ty0 kf) v = v) (hfit : fits (ty0 kf) v = true) (hl : kf < fs.length) {ws' : va_W} (hws : ws.set q0 (a, .inr (ci, fs.set kf v)) = ws') (hdg : decode cc pc = .ok (.putfield index, 3)) (kk : V E z u ws' (pc + 3) lv st) : V E z u ws pc lv (v :: .ref a :: st) := fun H locs ls h hP hD hS hZ => va_put hc.1 hc.2.1 hc.2.2.2.2.1 hin ty0 hty hnm hc.2.2.2.1 hc.2.2.2.2.2.1 hP hD (vS_self hS) q0 he hcl kf hk (hc.2.2.2.2.1 _ hlink) (fun _ h9 => h9) hfin (hty kf hk) hn hfit hl hdg (fun H1 locs1 hP1 hD1 hS1 => W_sz fun hsz => kk H1 locs1 ls h (hws ▸ hP1) (hws ▸ hD1) (vS_comp hS hS1) ⟨by have := hS1.1; have := hS.1; have := hZ.1; omega, hZ.2⟩)
theorem V_iald (hc : Cx E own cc nl) {a : Nat} (q0 t0 : Nat) {cA : ClassId} {m : Nat} {f : Nat → Int32} (ha : ws[q0]? = some (a, .inl (cA, m, .inl f))) (ht : (tyL (xT E))[t0]? = some (cA, .int)) {i : Int32} (hin : vp_in i m) (hdg : decode cc pc = .ok (.iaload, 1)) (kk : V E z u ws (pc + 1) lv (.int (f i.toNatClampNeg) :: st)) : V E z u ws pc lv (.int i :: .ref a :: st) := fun H locs ls h hP hD hS hZ => va_iald hc.1 hc.2.1 hc.2.2.2.2.2.1 hP q0 t0 ha ht hin hdg (kk H locs ls h hP hD hS hZ)
theorem V_iast (hc : Cx E own cc nl) {a : Nat} (q0 t0 : Nat) {cA : ClassId} {m : Nat} {f : Nat → Int32} (ha : ws[q0]? = some (a, .inl (cA, m, .inl f))) (ht : (tyL (xT E))[t0]? = some (cA, .int)) {i x : Int32} (hin : vp_in i m) {ws' : va_W} (hws : ws.set q0 (a, .inl (cA, m, .inl (upd f i.toNatClampNeg x))) = ws') (hdg : decode cc pc = .ok (.iastore, 1)) (kk : V E z u ws' (pc + 1) lv st) : V E z u ws pc lv (.int x :: .int i :: .ref a :: st) := fun H locs ls h hP hD hS hZ => va_iast hc.1 hc.2.1 hc.2.2.2.2.2.1 hP hD (vS_self hS) q0 t0 ha ht hin hdg (fun H1 locs1 hP1 hD1 hS1 => W_sz fun hsz => kk H1 locs1 ls h (hws ▸ hP1) (hws ▸ hD1) (vS_comp hS hS1) ⟨by have := hS1.1; have := hS.1; have := hZ.1; omega, hZ.2⟩)
theorem V_zast (hc : Cx E own cc nl) {a : Nat} (q0 t0 : Nat) {cA : ClassId} {m : Nat} {f : Nat → Int32} (ha : ws[q0]? = some (a, .inl (cA, m, .inl f))) (ht : (tyL (xT E))[t0]? = some (cA, .boolean)) {i x : Int32} (hin : vp_in i m) {ws' : va_W} (hws : ws.set q0 (a, .inl (cA, m, .inl (upd f i.toNatClampNeg (vp_nar .boolean x)))) = ws') (hdg : decode cc pc = .ok (.bastore, 1)) (kk : V E z u ws' (pc + 1) lv st) : V E z u ws pc lv (.int x :: .int i :: .ref a :: st) := fun H locs ls h hP hD hS hZ => va_zast hc.1 hc.2.1 hc.2.2.2.2.2.1 hP hD (vS_self hS) q0 t0 ha ht hin hdg (fun H1 locs1 hP1 hD1 hS1 => W_sz fun hsz => kk H1 locs1 ls h (hws ▸ hP1) (hws ▸ hD1) (vS_comp hS hS1) ⟨by have := hS1.1; have := hS.1; have := hZ.1; omega, hZ.2⟩)
theorem V_cald (hc : Cx E own cc nl) {a : Nat} (q0 t0 : Nat) {cA : ClassId} {m : Nat} {f : Nat → Int32} (ha : ws[q0]? = some (a, .inl (cA, m, .inl f))) (ht : (tyL (xT E))[t0]? = some (cA, .char)) {i : Int32} (hin : vp_in i m) (hdg : decode cc pc = .ok (.caload, 1)) (kk : V E z u ws (pc + 1) lv (.int (f i.toNatClampNeg) :: st)) : V E z u ws pc lv (.int i :: .ref a :: st) := fun H locs ls h hP hD hS hZ => va_cald hc.1 hc.2.1 hc.2.2.2.2.2.1 hP q0 t0 ha ht hin hdg (kk H locs ls h hP hD hS hZ)
theorem V_zald (hc : Cx E own cc nl) {a : Nat} (q0 t0 : Nat) {cA : ClassId} {m : Nat} {f : Nat → Int32} (ha : ws[q0]? = some (a, .inl (cA, m, .inl f))) (ht : (tyL (xT E))[t0]? = some (cA, .boolean)) {i : Int32} (hin : vp_in i m) (hdg : decode cc pc = .ok (.baload, 1)) (kk : V E z u ws (pc + 1) lv (.int (f i.toNatClampNeg) :: st)) : V E z u ws pc lv (.int i :: .ref a :: st) := fun H locs ls h hP hD hS hZ => va_zald hc.1 hc.2.1 hc.2.2.2.2.2.1 hP q0 t0 ha ht hin hdg (kk H locs ls h hP hD hS hZ)
theorem V_putF (hc : Cx E own cc nl) (hnm2 : (xH E).name = "<init>") {ci N : Nat} {C : String} {T : u_T} (hcl : vwCl[ci]? = some (C, T, N)) (hin : ∀ w ∈ u_ws C T N, w ∈ WB) (ty0 : Nat → FieldType) (hty : ∀ k, k < N → parseFieldDescriptor (T k).2.2.1 = some (ty0 k)) (hnm : ∀ a, a < N → ∀ b, b < N → a ≠ b → (T a).2.1 ≠ (T b).2.1) {a : Nat} {fs : List Value} (q0 : Nat) (he : ws[q0]? = some (a, .inr (ci, fs))) (kf : Nat) (hk : kf < N) {index : Nat} (hlink : Cond.fieldLink own index (T kf).1 (T kf).2.1 (T kf).2.2.1 ∈ WB) (hfin : (T kf).2.2.2 = true) (hdecl : (T kf).1 = own) {v : Value} (hn : narrow (ty0 kf) v = v) (hfit : fits (ty0 kf) v = true) (hl : kf < fs.length) {ws' : va_W} (hws : ws.set q0 (a, .inr (ci, fs.set kf v)) = ws') (hdg : decode cc pc = .ok (.putfield index, 3)) (kk : V E z u ws' (pc + 3) lv st) : V E z u ws pc lv (v :: .ref a :: st) := fun H locs ls h hP hD hS hZ => va_putF hc.1 hc.2.1 hc.2.2.2.2.1 hin ty0 hty hnm hc.2.2.2.1 hc.2.2.2.2.2.1 hP hD (vS_self hS) q0 he hcl kf hk (hc.2.2.2.2.1 _ hlink) (fun _ h9 => h9) hfin hnm2 hdecl (hty kf hk) hn hfit hl hdg (fun H1 locs1 hP1 hD1 hS1 => W_sz fun hsz => kk H1 locs1 ls h (hws ▸ hP1) (hws ▸ hD1) (vS_comp hS hS1) ⟨by have := hS1.1; have := hS.1; have := hZ.1; omega, hZ.2⟩)
theorem V_cast (hc : Cx E own cc nl) {a : Nat} (q0 t0 : Nat) {cA : ClassId} {m : Nat} {f : Nat → Int32} (ha : ws[q0]? = some (a, .inl (cA, m, .inl f))) (ht : (tyL (xT E))[t0]? = some (cA, .char)) {i x : Int32} (hin : vp_in i m) {ws' : va_W} (hws : ws.set q0 (a, .inl (cA, m, .inl (upd f i.toNatClampNeg (vp_nar .char x)))) = ws') (hdg : decode cc pc = .ok (.castore, 1)) (kk : V E z u ws' (pc + 1) lv st) : V E z u ws pc lv (.int x :: .int i :: .ref a :: st) := fun H locs ls h hP hD hS hZ => va_cast hc.1 hc.2.1 hc.2.2.2.2.2.1 hP hD (vS_self hS) q0 t0 ha ht hin hdg (fun H1 locs1 hP1 hD1 hS1 => W_sz fun hsz => kk H1 locs1 ls h (hws ▸ hP1) (hws ▸ hD1) (vS_comp hS hS1) ⟨by have := hS1.1; have := hS.1; have := hZ.1; omega, hZ.2⟩)
theorem V_aald (hc : Cx E own cc nl) {a : Nat} (q0 t0 : Nat) {cA : ClassId} {C : String} {m : Nat} {f : Nat → Option Nat} (ha : ws[q0]? = some (a, .inl (cA, m, .inr (.inr (.inr (.inr f)))))) (ht : (tyL (xT E))[t0]? = some (cA, .object C)) {i : Int32} (hin : vp_in i m) (hdg : decode cc pc = .ok (.aaload, 1)) (kk : V E z u ws (pc + 1) lv (va_rf (f i.toNatClampNeg) :: st)) : V E z u ws pc lv (.int i :: .ref a :: st) := fun H locs ls h hP hD hS hZ => va_aldq hc.1 hc.2.1 hc.2.2.2.2.2.1 hP q0 t0 ha ht hin hdg (kk H locs ls h hP hD hS hZ)
theorem V_aast (hc : Cx E own cc nl) {a : Nat} (q0 t0 qk ci : Nat) {cA : ClassId} {r : vw_C} {m v : Nat} {vs : List Value} {f : Nat → Option Nat} (ha : ws[q0]? = some (a, .inl (cA, m, .inr (.inr (.inr (.inr f)))))) (ht : (tyL (xT E))[t0]? = some (cA, .object r.1)) (hv : ws[qk]? = some (v, .inr (ci, vs))) (hcl : vwCl[ci]? = some r) {i : Int32} (hin : vp_in i m) {ws' : va_W} (hws : ws.set q0 (a, .inl (cA, m, .inr (.inr (.inr (.inr (va_up f i.toNatClampNeg (some v))))))) = ws') (hdg : decode cc pc = .ok (.aastore, 1)) (kk : V E z u ws' (pc + 1) lv st) : V E z u ws pc lv (.ref v :: .int i :: .ref a :: st) := fun H locs ls h hP hD hS hZ => va_astq hc.1 hc.2.1 hc.2.2.2.2.2.1 hP hD (vS_self hS) q0 t0 qk ci ha ht hv hcl hin hdg (fun H1 locs1 hP1 hD1 hS1 => W_sz fun hsz => kk H1 locs1 ls h (hws ▸ hP1) (hws ▸ hD1) (vS_comp hS hS1) ⟨by have := hS1.1; have := hS.1; have := hZ.1; omega, hZ.2⟩)
theorem V_ifnonnull (hc : Cx E own cc nl) {o : Option Nat} {off : Int} {tgt : Nat} (hdg : decode cc pc = .ok (.ifnonnull off, 3)) (ht : (pc : Int) + off = (tgt : Int)) (kt : ¬ o = none → V E z u ws tgt lv st) (kf : o = none → V E z u ws (pc + 3) lv st) : V E z u ws pc lv (va_rf o :: st) := by
  cases o with
  | none => exact fun H locs ls h hP hD hS hZ => lv_ifnonnullN hc.1 hc.2.1 hdg (kf rfl H locs ls h hP hD hS hZ)
  | some x => exact fun H locs ls h hP hD hS hZ => lv_ifnonnull hc.1 hc.2.1 hdg ht (kt (by simp) H locs ls h hP hD hS hZ)
/-- the new cell is the next one -/
theorem V_born {A : Nat → Prop} {D : va_G} {H H1 : Heap} {q : Nat} {e : va_E} {locs locs1 : List Loc} {z b : Nat} (hz : H.size = z) (hb : b ≤ z) (hsz : H1.size ≤ b + (z - b + 1)) (hP1 : va_P D vwCl (ws ++ [(q, e)]) H1) (hD1 : va_D (va_A ws H.size) (ws ++ [(q, e)])) : q = z ∧ H1.size = z + 1 := by
  have h1 : (ws ++ [(q, e)])[ws.length]? = some (q, e) := by simp
  have hlt : q < H1.size := (hP1 _ _ h1).lt
  have hge : z ≤ q := by
    rcases hD1.2 _ _ h1 with ⟨i, e', hi⟩ | h
    · have hil : i < ws.length := (List.getElem?_eq_some_iff.mp hi).1
      have h2 : (ws ++ [(q, e)])[i]? = some (q, e') := by rw [List.getElem?_append_left hil]; exact hi
      have := hD1.1 _ _ _ _ h1 h2 rfl
      omega
    · rw [← hz]; exact h
  omega
theorem vS_born {A : Nat → Prop} {H0 H H1 : Heap} {locs : List Loc} (hS : va_S A H0 H locs) (h1 : va_S (va_A ws H.size) H H1 []) (hA : ∀ q, va_A ws H.size q → A q) : va_S A H0 H1 locs := ⟨Nat.le_trans hS.1 h1.1, fun q hq hn => (h1.2.1 q (Nat.lt_of_lt_of_le hq hS.1) (fun h => hn (hA q h))).trans (hS.2.1 q hq hn), hS.2.2⟩
theorem V_alen (hc : Cx E own cc nl) {a : Nat} (q0 t0 : Nat) {cA : ClassId} {x : vp_A} (ha : ws[q0]? = some (a, .inl (cA, x))) {ty : FieldType} (ht : (tyL (xT E))[t0]? = some (cA, ty)) {v : Int32} (hv : Int32.ofNat x.1 = v) (hdg : decode cc pc = .ok (.arraylength, 1)) (kk : V E z u ws (pc + 1) lv (.int v :: st)) : V E z u ws pc lv (.ref a :: st) := fun H locs ls h hP hD hS hZ => va_alen hc.1 hc.2.1 hc.2.2.2.2.2.1 hP q0 t0 ha ht hv hdg (kk H locs ls h hP hD hS hZ)
end VR
/-- the heap has z' cells then, the old ones are as long as they were, the new ones have at most ds slots -/
def SZ (H0 H1 : Heap) (z' ds : Nat) : Prop := H1.size = z' ∧ (∀ (a : Nat) (c : Cell), H0[a]? = some c → ∃ c' : Cell, H1[a]? = some c' ∧ c'.slots.size = c.slots.size) ∧ ((H1.toList.drop H0.size).map (fun c : Cell => c.slots.size)).sum ≤ ds
/-- a method's end: the answer rv, the world ws', nothing changed outside F -/
def QT (D : va_G) (F : Nat → Prop) (u z' u' zM uM : Nat) (ws' : va_W) (rv : Option Value) : Array Value → State → Outcome → State → Prop := fun _ st oc t => oc = .returned rv ∧ va_P D vwCl ws' t.heap ∧ va_D F ws' ∧ va_F F st t ∧ SZ st.heap t.heap z' (u' - u) ∧ z' ≤ zM ∧ u ≤ u' ∧ u' ≤ uM
/-- a method's contract: from the world ws with the arguments avs it returns rv with the world ws'; the heap has z cells and u slots are counted, z' and u' then; no more than zM and uM -/
def CT (l : Launch) (D : va_G) (ty : CyT) (y : MethodName) (cb : ByteArray) (nl : Nat) (ret : Option FieldType) (fr lo zM uM : Nat) (avs : List Value) (z u : Nat) (ws : va_W) (z' u' : Nat) (ws' : va_W) (rv : Option Value) : Prop :=
  z ≤ zM → u ≤ uM → Met l y (.code y cb nl ret :: WB) { frames := fr, cells := zM - z, slots := uM - u, locals := lo } (va_Pc avs (fun U => U.heap.size = z ∧ va_P D vwCl ws U.heap ∧ (va_K D vwCl (tyL ty) U ∧ JX ty (va_A ws z) U U.heap) ∧ va_D (fun _ => True) ws)) (QT D (va_A ws z) u z' u' zM uM ws' rv) (zM - z) (uM - u) (va_A ws z)
/-- what is fixed of the room of a walk -/
def Cy (E : CxT) (l : Launch) (D : va_G) (ty : CyT) (fr lo : Nat) (zM uM : Nat) : Prop :=
  xL E = l ∧ xD E = D ∧ xT E = ty ∧ (xR E = { frames := fr, cells := zM - (xS E).heap.size, slots := uM - xU E, locals := lo } ∧ xZ E = zM ∧ xW E = uM)
/-- .. and of its end -/
def Cz (E : CxT) (l : Launch) (D : va_G) (ty : CyT) (fr lo : Nat) (ret : Option FieldType) (zM uM z' u' : Nat) (ws' : va_W) (rv : Option Value) : Prop :=
  Cy E l D ty fr lo zM uM ∧ (xH E).sig.returnType = ret ∧ xQ E = MQ (xB E) (QT D (xF E) (xU E) z' u' zM uM ws' rv) (xA E) (xS E) (zM - (xS E).heap.size) (uM - xU E) (xF E)
theorem CT.of {l : Launch} {D : va_G} {ty : CyT} {y : MethodName} {cb : ByteArray} {nl : Nat} {ret : Option FieldType} {fr lo zM uM : Nat} {avs : List Value} {z u z' u' : Nat} {ws ws' : va_W} {rv : Option Value} (hy : plainName y.cls = true) (hav : (lg_sl avs).length ≤ nl)
    (h : ∀ E : CxT, Cx E y.cls cb nl → Cz E l D ty fr lo ret zM uM z' u' ws' rv → (xH E).name = y.name → V E z u ws 0 (lv_args 0 avs) []) : CT l D ty y cb nl ret fr lo zM uM avs z u ws z' u' ws' rv := by
  intro hzM huM
  refine Met.ofW (cc := cb) (maxL := nl) (ret := ret) hy rfl ?_
  intro p e s m args below meth c s₁ B hml hv
  obtain ⟨rfl, hsz, hP, ⟨hK, hAO⟩, hD0⟩ := hv
  have hts := atoms_spec (ws := .code y cb nl ret :: WB) B.pre
  have hown : s.vm.findClass y.cls = some m.cls := findClass_of_methodNamed B.named
  subst hsz
  have hD := hD0.self (sz := s.heap.size)
  rw [lg_entry_eq]
  have hl := lv_entry avs (n := nl) hav
  refine W.widen (Nat.zero_le _) (Nat.zero_le _) (h (p, l, e, { frames := fr, cells := zM - s.heap.size, slots := uM - u, locals := lo }, s, m, avs.toArray, below, meth, c, D, va_A ws s.heap.size, MQ below (QT D (va_A ws s.heap.size) u z' u' zM uM ws' rv) avs.toArray s (zM - s.heap.size) (uM - u) (va_A ws s.heap.size), nl, ty, u, zM, uM) ?_ ?_ (name_of_methodNamed B.named B.method).1 s.heap [] _ hl hP hD va_S.rf ⟨rfl, hzM, Nat.le_refl _, huM⟩)
  · exact ⟨B.exec, B.bytes, ⟨hml, rfl⟩, hown, fun w hw => hts w (List.mem_cons_of_mem _ hw), hK, fun q hq => Or.inr hq, B.notSynchronized, hAO⟩
  · exact ⟨⟨rfl, rfl, rfl, ⟨rfl, rfl, rfl⟩⟩, B.returns, rfl⟩
theorem SZ_same {s T : State} {locs : List Loc} {k n : Nat} {H : Heap} (hT : T.heap = H) (X : s.sameButNew (T.setVm s.vm) locs k n) {z' : Nat} (hz : H.size = z') : SZ s.heap H z' n := by
  subst hT
  refine ⟨hz, fun a c hc => ?_, X.2.2.2.2.1⟩
  obtain ⟨c', h1, -, h3, -⟩ := X.2.2.2.2.2 a c hc
  exact ⟨c', h1, h3⟩
theorem same_tight {s T T' : State} {locs locs' : List Loc} {k n k' n' z1 ds : Nat} (X : s.sameButNew (T.setVm s.vm) locs k n) (X' : s.sameButNew (T'.setVm s.vm) locs' k' n') (hS : SZ T.heap T'.heap z1 ds) (hle : T.heap.size ≤ T'.heap.size) : s.sameButNew (T'.setVm s.vm) locs' (z1 - s.heap.size) (n + ds) := by
  refine ⟨X'.1, X'.2.1, ?_, X'.2.2.2.1, ?_, X'.2.2.2.2.2⟩
  · have h1 := hS.1
    have h2 : s.heap.size ≤ T'.heap.size := X'.2.1
    show T'.heap.size ≤ _
    omega
  · have hb : s.heap.size ≤ T.heap.size := X.2.1
    have hn : ((T.heap.toList.drop s.heap.size).map (fun c : Cell => c.slots.size)).sum ≤ n := X.2.2.2.2.1
    show ((T'.heap.toList.drop s.heap.size).map (fun c : Cell => c.slots.size)).sum ≤ n + ds
    rw [← List.take_append_drop (T.heap.size - s.heap.size) (T'.heap.toList.drop s.heap.size), List.map_append, List.sum_append, List.drop_drop]
    have e1 : s.heap.size + (T.heap.size - s.heap.size) = T.heap.size := by omega
    rw [e1]
    have e2 : ((T'.heap.toList.drop s.heap.size).take (T.heap.size - s.heap.size)).map (fun c : Cell => c.slots.size) = (T.heap.toList.drop s.heap.size).map (fun c : Cell => c.slots.size) := by
      apply List.ext_getElem?
      intro i
      simp only [List.getElem?_map, List.getElem?_take, List.getElem?_drop]
      by_cases hi : i < T.heap.size - s.heap.size
      · rw [if_pos hi]
        have hlt : s.heap.size + i < T.heap.size := by omega
        obtain ⟨c, hc⟩ : ∃ c, T.heap[s.heap.size + i]? = some c := ⟨_, Array.getElem?_eq_getElem hlt⟩
        obtain ⟨c', h1, h2⟩ := hS.2.1 _ _ hc
        rw [Array.getElem?_toList, Array.getElem?_toList, hc, h1]
        simp [h2]
      · rw [if_neg hi]
        have : T.heap.toList[s.heap.size + i]? = none := by
          apply List.getElem?_eq_none
          simp
          omega
        rw [this]
    rw [e2]
    have := hS.2.2
    omega
section VZ
variable {E : CxT} {own : String} {cc : ByteArray} {nl : Nat} {ws : va_W} {pc : Nat} {lv : List (Nat × Value)} {st : List Value} {z u : Nat} {l : Launch} {D : va_G} {ty : CyT} {fr lo zM uM z' u' : Nat} {ret : Option FieldType} {ws' : va_W} {rv : Option Value}
theorem V_iret (hc : Cx E own cc nl) {v : Int32} {t0 : FieldType} (hz : Cz E l D ty fr lo (some t0) zM uM z' u' ws' rv) (hn : narrow t0 (.int v) = .int v) (hw : ws = ws') (hv : some (.int v) = rv) (h1 : z = z') (h2 : u = u') (hdg : decode cc pc = .ok (.ireturn, 1)) : V E z u ws pc lv [.int v] := by
  intro H locs ls h hP hD hS hZ T hT X
  subst hw hv h1 h2
  obtain ⟨⟨-, z2, -, ⟨-, z4, z4'⟩⟩, z5, z6⟩ := hz
  have hSZ := SZ_same hT X.same hZ.1
  rw [z6]
  rw [z4, z4'] at hZ
  exact W.widen (by omega) (by omega) (W.zret hc.1 hc.2.1 z5 hn (fun t ht hW => ⟨rfl, by rw [ht, ← z2]; exact hP, hD, hS.F ht, by rw [ht]; exact hSZ, hZ.2.1, hZ.2.2.1, hZ.2.2.2⟩) hS.2.2 hdg hc.2.2.2.2.2.2.2.1) T hT X
theorem V_aret (hc : Cx E own cc nl) {v : Nat} {t0 : FieldType} (hz : Cz E l D ty fr lo (some t0) zM uM z' u' ws' rv) (hrt : (∃ n, t0 = .object n) ∨ ∃ t, t0 = .array t) (hw : ws = ws') (hv : some (.ref v) = rv) (h1 : z = z') (h2 : u = u') (hdg : decode cc pc = .ok (.areturn, 1)) : V E z u ws pc lv [.ref v] := by
  intro H locs ls h hP hD hS hZ T hT X
  subst hw hv h1 h2
  obtain ⟨⟨-, z2, -, ⟨-, z4, z4'⟩⟩, z5, z6⟩ := hz
  have hSZ := SZ_same hT X.same hZ.1
  rw [z6]
  rw [z4, z4'] at hZ
  exact W.widen (by omega) (by omega) (W.aret hc.1 hc.2.1 z5 hrt (Or.inr ⟨v, rfl⟩) (fun t ht hW => ⟨rfl, by rw [ht, ← z2]; exact hP, hD, hS.F ht, by rw [ht]; exact hSZ, hZ.2.1, hZ.2.2.1, hZ.2.2.2⟩) hS.2.2 hdg hc.2.2.2.2.2.2.2.1) T hT X
theorem V_vret (hc : Cx E own cc nl) (hz : Cz E l D ty fr lo none zM uM z' u' ws' rv) (hw : ws = ws') (hv : none = rv) (h1 : z = z') (h2 : u = u') (hdg : decode cc pc = .ok (.return_, 1)) : V E z u ws pc lv [] := by
  intro H locs ls h hP hD hS hZ T hT X
  subst hw hv h1 h2
  obtain ⟨⟨-, z2, -, ⟨-, z4, z4'⟩⟩, z5, z6⟩ := hz
  have hSZ := SZ_same hT X.same hZ.1
  rw [z6]
  rw [z4, z4'] at hZ
  exact W.widen (by omega) (by omega) (W.vret hc.1 hc.2.1 z5 (fun t ht hW => ⟨rfl, by rw [ht, ← z2]; exact hP, hD, hS.F ht, by rw [ht]; exact hSZ, hZ.2.1, hZ.2.2.1, hZ.2.2.2⟩) hS.2.2 hdg hc.2.2.2.2.2.2.2.1) T hT X
theorem V_run {rest : List Value} {mc' ms' z1 u1 : Nat} {a : Array Value} {w1 : va_W} {rv1 : Option Value} {H : Heap} {locs : List Loc} {ls : Array Slot} (hr : va_Run (xP E) (xL E) (xE E) (xR E) (xS E) (xM E) (xA E) (xB E) (xH E) (xC E) H locs (z - (xS E).heap.size) (u - xU E) mc' ms' (F0 (xM E) pc ls st) rest (QT (xD E) (va_A ws z) u z1 u1 (xZ E) (xW E) w1 rv1 a) (va_A ws z)) (hF : ∀ q, va_A ws z q → xF E q) (h : lv_has ls (xN E) lv) (hS : va_S (xF E) (xS E).heap H locs) (hu : xU E ≤ u) (kk : V E z1 u1 w1 (pc + 3) lv (rv1.toList ++ rest)) :
    W (xP E) (xL E) (xE E) (xR E) (xS E) (xM E) (xA E) (xB E) (xH E) (xC E) H locs (z - (xS E).heap.size) (u - xU E) (xQ E) (F0 (xM E) pc ls st) := by
  intro T hT X
  obtain ⟨v, st₀, t, T', L, h0, X', hL, e1, e2, ⟨hv, hP1, hD1, ⟨hz, hk⟩, hSZ, q1, q2, q3⟩, hgo⟩ := hr T hT X
  cases hv
  rw [h0] at hz hk hSZ
  have X2 : Stand (xP E) (xL E) (xE E) (xR E) (xS E) (xM E) (xA E) (xB E) (xH E) (xC E) T' (locs ++ L) (z1 - (xS E).heap.size) (u1 - xU E) := by
    have h5 := same_tight X.same X'.same (by rw [hT, e1]; exact hSZ) (by rw [hT, e1]; exact hz)
    have e3 : u - xU E + (u1 - u) = u1 - xU E := by omega
    rw [e3] at h5
    exact { X' with same := h5 }
  obtain ⟨t2, a1, b1⟩ := kk T'.heap (locs ++ L) ls h (by rw [e1]; exact hP1) (hD1.weaken (fun _ q _ h => hF q.1 h))
    ⟨Nat.le_trans hS.1 (by rw [e1]; exact hz), fun q h1 h2 => by rw [e1, hk q (Nat.lt_of_lt_of_le h1 hS.1) (fun z => h2 (hF q z))]; exact hS.2.1 q h1 h2, fun q hq => by
      rcases List.mem_append.mp hq with h | h
      · exact hS.2.2 q h
      · exact hF _ (hL q h)⟩ ⟨by rw [e1]; exact hSZ.1, q1, by omega, q3⟩ T' rfl X2
  exact ⟨t2, hgo t2 a1, b1⟩
end VZ
theorem gW {w : Cond} (h : w ∈ WB) : w ∈ WB ∧ ((w.onTables && w.keeps) = true ∨ ∃ ty, w = .arrayClass ty) := ⟨h, good_of_word (List.mem_filter.mp h).2⟩
theorem gV {own C : String} {index : Nat} {y : MethodName} {w0 : Cond} (h1 : Cond.methodLink own index y ∈ WB) (h2 : Cond.instanceMethod y ∈ WB) (h3 : Cond.selects C y y ∈ WB) (h4 : Cond.initialized C ∈ WB) (h5 : w0 ∈ WB) : GoodIn WB (wsV own index C y (w0 :: WB)) := by
  intro w hw
  rcases List.mem_append.mp hw with hw | hw
  · rcases List.mem_cons.mp hw with rfl | hw
    · exact gW h1
    rcases List.mem_cons.mp hw with rfl | hw
    · exact gW h2
    rcases List.mem_cons.mp hw with rfl | hw
    · exact gW h3
    rcases List.mem_cons.mp hw with rfl | hw
    · exact gW h4
    exact absurd hw List.not_mem_nil
  · rcases List.mem_cons.mp hw with rfl | hw
    · exact gW h5
    · exact gW hw
theorem gS {own : String} {index : Nat} {y : MethodName} {w0 : Cond} (h1 : Cond.methodLink own index y ∈ WB) (h2 : Cond.static y ∈ WB) (h4 : Cond.initialized own ∈ WB) (h5 : w0 ∈ WB) : GoodIn WB (wsS own index y (w0 :: WB)) := by
  intro w hw
  rcases List.mem_append.mp hw with hw | hw
  · rcases List.mem_cons.mp hw with rfl | hw
    · exact gW h1
    rcases List.mem_cons.mp hw with rfl | hw
    · exact gW h2
    rcases List.mem_cons.mp hw with rfl | hw
    · exact gW h4
    exact absurd hw List.not_mem_nil
  · rcases List.mem_cons.mp hw with rfl | hw
    · exact gW h5
    · exact gW hw
theorem gI {w0 : Cond} (h5 : w0 ∈ WB) : GoodIn WB (w0 :: WB) := by
  intro w hw
  rcases List.mem_cons.mp hw with rfl | hw
  · exact gW h5
  · exact gW hw
section VC
variable {E : CxT} {own : String} {cc : ByteArray} {nl : Nat} {ws : va_W} {pc : Nat} {lv : List (Nat × Value)} {st stk : List Value} {z u : Nat} {l : Launch} {D : va_G} {ty : CyT} {fr lo zM uM z' u' : Nat} {ret : Option FieldType} {ws' : va_W} {rv : Option Value}
variable {y : MethodName} {cb : ByteArray} {nl' : Nat} {ret' : Option FieldType} {fr' lo' : Nat} {As : List Value} {b : Nat} {w1 : va_W} {rv1 : Option Value} {z1 u1 : Nat} {C : String} {index n' : Nat} {ci q0 : Nat} {fs : List Value} {vc : vw_C}
theorem V_free (hc : Cx E own cc nl) {H : Heap} {locs : List Loc} (hD : va_D (xF E) ws) (hS : va_S (xF E) (xS E).heap H locs) (hz : H.size = z) : ∀ q, va_A ws z q → xF E q := by
  subst hz
  rintro q (⟨i, e, he⟩ | hq)
  · exact hD.2 i _ he
  · exact hc.2.2.2.2.2.2.1 q (Nat.le_trans hS.1 hq)
theorem V_blind {As : List Value} {ws : va_W} {z : Nat} {D : va_G} {ty : CyT} : FrameBlind (va_Pc As (fun U => U.heap.size = z ∧ va_P D vwCl ws U.heap ∧ (va_K D vwCl (tyL ty) U ∧ JX ty (va_A ws z) U U.heap) ∧ va_D (fun _ => True) ws)) := fun a U g mk q => by
  obtain ⟨q0, q1, qP, qK, qD⟩ := q
  exact ⟨q0, q1, qP, ⟨va_K.moved (u := U) (U := U.calling g mk a) (Vm.Alike.refl U.vm) qK.1, JX.calling qK.2⟩, qD⟩
theorem V_callV (hc : Cx E own cc nl) (hz : Cy E l D ty fr lo zM uM) (hM : CT l D ty y cb nl' ret' fr' lo' zM uM (.ref b :: As) z u ws z1 u1 w1 rv1)
    (h1 : Cond.methodLink own index y ∈ WB) (h2 : Cond.instanceMethod y ∈ WB) (h3 : Cond.selects C y y ∈ WB) (h4 : Cond.initialized C ∈ WB) (h5 : Cond.code y cb nl' ret' ∈ WB)
    (hd : y.cls = C ∧ y.cls ≠ "java/lang/invoke/MethodHandle" ∧ y.cls ≠ "java/lang/invoke/VarHandle" ∧ (parseMethodDescriptor y.desc).map (fun d => d.parameters.length) = some n')
    (hR : fr' + 1 ≤ fr ∧ 8 + (nl' + 11) + lo' ≤ lo) (hq : ws[q0]? = some (b, .inr (ci, fs))) (hcl : vwCl[ci]? = some vc) (hC : vc.1 = C) (hn : As.length = n') (hst : stk = As.reverse ++ .ref b :: st) (hroom : (st.map fun v => v.category).sum ≤ 8)
    (hdg : decode cc pc = .ok (.invokevirtual index, 3)) (kk : V E z1 u1 w1 (pc + 3) lv (rv1.toList ++ st)) : V E z u ws pc lv stk := by
  intro H locs ls h hP hD hS hZ
  obtain ⟨z1, z2, z3, ⟨z4, z5, z6⟩⟩ := hz
  subst z1 z2 z3 hC z5 z6
  have hK := hc.2.2.2.2.2.1
  have h0 := hS.1
  have hz1 := hZ.1
  have hz2 := hZ.2.1
  have hz3 := hZ.2.2.1
  have hz4 := hZ.2.2.2
  exact V_run (hr := va_runV (As := As) (rest := st) (b := b) ⟨hc.1, hc.2.1, hc.2.2.1.1, hc.2.2.2.1, hc.2.2.2.2.1⟩ (hM hZ.2.1 hZ.2.2.2) (cwV n' hc.2.2.2.2.1 (gV h1 h2 h3 h4 h5) rfl rfl rfl hd (by rw [z4]; exact hR))
    ⟨V_blind, va_recv hK hP hcl hq, fun U hU hW => ⟨rfl, by rw [hU]; exact hZ.1, by rw [hU]; exact hP, ⟨va_K.moved hW.alike hK, by rw [hU]; exact JX.call hc.2.2.2.2.2.2.2.2 hW hS (V_free hc hD hS hZ.1)⟩, hD.weaken (fun _ _ _ _ => trivial)⟩⟩ rfl hn h.1 hst (lv_room hroom) hdg (by rw [z4]; exact ⟨by show _ + _ ≤ xZ E - _; omega, by show _ + _ ≤ xW E - _; omega⟩)) (V_free hc hD hS hZ.1) h hS hZ.2.2.1 kk
theorem V_callS (hc : Cx E own cc nl) (hz : Cy E l D ty fr lo zM uM) (hM : CT l D ty y cb nl' ret' fr' lo' zM uM As z u ws z1 u1 w1 rv1)
    (h1 : Cond.methodLink own index y ∈ WB) (h2 : Cond.static y ∈ WB) (h4 : Cond.initialized own ∈ WB) (h5 : Cond.code y cb nl' ret' ∈ WB)
    (hd : y.cls = own ∧ y.cls ≠ "java/lang/invoke/MethodHandle" ∧ y.cls ≠ "java/lang/invoke/VarHandle" ∧ (parseMethodDescriptor y.desc).map (fun d => d.parameters.length) = some n')
    (hR : fr' + 1 ≤ fr ∧ 8 + (nl' + 11) + lo' ≤ lo) (hn : As.length = n') (hst : stk = As.reverse ++ st) (hroom : (st.map fun v => v.category).sum ≤ 8)
    (hdg : decode cc pc = .ok (.invokestatic index, 3)) (kk : V E z1 u1 w1 (pc + 3) lv (rv1.toList ++ st)) : V E z u ws pc lv stk := by
  intro H locs ls h hP hD hS hZ
  obtain ⟨z1, z2, z3, ⟨z4, z5, z6⟩⟩ := hz
  subst z1 z2 z3 z5 z6
  have hK := hc.2.2.2.2.2.1
  have h0 := hS.1
  have hz1 := hZ.1
  have hz2 := hZ.2.1
  have hz3 := hZ.2.2.1
  have hz4 := hZ.2.2.2
  exact V_run (hr := va_runS (As := As) (rest := st) ⟨hc.1, hc.2.1, hc.2.2.1.1, hc.2.2.2.1, hc.2.2.2.2.1⟩ (hM hZ.2.1 hZ.2.2.2) (cwS n' hc.2.2.2.2.1 (gS h1 h2 h4 h5) rfl rfl rfl hd (by rw [z4]; exact hR))
    ⟨V_blind, fun U hU hW => ⟨rfl, by rw [hU]; exact hZ.1, by rw [hU]; exact hP, ⟨va_K.moved hW.alike hK, by rw [hU]; exact JX.call hc.2.2.2.2.2.2.2.2 hW hS (V_free hc hD hS hZ.1)⟩, hD.weaken (fun _ _ _ _ => trivial)⟩⟩ rfl hn h.1 hst (lv_room hroom) hdg (by rw [z4]; exact ⟨by show _ + _ ≤ xZ E - _; omega, by show _ + _ ≤ xW E - _; omega⟩)) (V_free hc hD hS hZ.1) h hS hZ.2.2.1 kk
theorem V_callI (hc : Cx E own cc nl) (hz : Cy E l D ty fr lo zM uM) (hM : CT l D ty y cb nl' none fr' lo' zM uM (.ref b :: As) z u ws z1 u1 w1 none)
    (h1 : Cond.methodLink own index y ∈ WB) (h2 : Cond.instanceMethod y ∈ WB) (h4 : Cond.initialized y.cls ∈ WB) (h5 : Cond.code y cb nl' none ∈ WB) (hnm : y.name = "<init>")
    (hd : y.cls ≠ "java/lang/invoke/MethodHandle" ∧ y.cls ≠ "java/lang/invoke/VarHandle" ∧ (parseMethodDescriptor y.desc).map (fun d => d.parameters.length) = some n')
    (hR : fr' + 1 ≤ fr ∧ 8 + (nl' + 11) + lo' ≤ lo) (hn : As.length = n') (hst : stk = As.reverse ++ .ref b :: st) (hroom : (st.map fun v => v.category).sum ≤ 8)
    (hdg : decode cc pc = .ok (.invokespecial index, 3)) (kk : V E z1 u1 w1 (pc + 3) lv st) : V E z u ws pc lv stk := by
  intro H locs ls h hP hD hS hZ
  obtain ⟨z1, z2, z3, ⟨z4, z5, z6⟩⟩ := hz
  subst z1 z2 z3 z5 z6
  have hK := hc.2.2.2.2.2.1
  have h0 := hS.1
  have hz1 := hZ.1
  have hz2 := hZ.2.1
  have hz3 := hZ.2.2.1
  have hz4 := hZ.2.2.2
  have hts := hc.2.2.2.2.1
  exact V_run (hr := va_runI (As := As) (rest := st) (b := b) ⟨hc.1, hc.2.1, hc.2.2.1.1, hc.2.2.2.1, hts⟩ (hM hZ.2.1 hZ.2.2.2) (cwI n' hts (gI h5) rfl rfl rfl (hts _ h4) (hts _ h1) (hts _ h2) hnm hd (by rw [z4]; exact hR))
    ⟨V_blind, fun U hU hW => ⟨rfl, by rw [hU]; exact hZ.1, by rw [hU]; exact hP, ⟨va_K.moved hW.alike hK, by rw [hU]; exact JX.call hc.2.2.2.2.2.2.2.2 hW hS (V_free hc hD hS hZ.1)⟩, hD.weaken (fun _ _ _ _ => trivial)⟩⟩ rfl hn h.1 hst (lv_room hroom) hdg (by rw [z4]; exact ⟨by show _ + _ ≤ xZ E - _; omega, by show _ + _ ≤ xW E - _; omega⟩)) (V_free hc hD hS hZ.1) h hS hZ.2.2.1 kk
end VC
