/-- the fixed things of a method's walk: program, launch, env, room, start, method, arguments, frames below, Method, Code, layout, the cells that may change, the end, number of locals, array classes -/
abbrev CxT : Type := Program × Launch × Env × Room × State × MethodId × Array Value × List Frame × Method × Code × va_G × (Nat → Prop) × (State → Prop) × Nat × List (ClassId × FieldType)
abbrev xP (E : CxT) : Program := E.1
abbrev xL (E : CxT) : Launch := E.2.1
abbrev xE (E : CxT) : Env := E.2.2.1
abbrev xR (E : CxT) : Room := E.2.2.2.1
abbrev xS (E : CxT) : State := E.2.2.2.2.1
abbrev xM (E : CxT) : MethodId := E.2.2.2.2.2.1
abbrev xA (E : CxT) : Array Value := E.2.2.2.2.2.2.1
abbrev xB (E : CxT) : List Frame := E.2.2.2.2.2.2.2.1
abbrev xH (E : CxT) : Method := E.2.2.2.2.2.2.2.2.1
abbrev xC (E : CxT) : Code := E.2.2.2.2.2.2.2.2.2.1
abbrev xD (E : CxT) : va_G := E.2.2.2.2.2.2.2.2.2.2.1
abbrev xF (E : CxT) : Nat → Prop := E.2.2.2.2.2.2.2.2.2.2.2.1
abbrev xQ (E : CxT) : State → Prop := E.2.2.2.2.2.2.2.2.2.2.2.2.1
abbrev xN (E : CxT) : Nat := E.2.2.2.2.2.2.2.2.2.2.2.2.2.1
abbrev xT (E : CxT) : List (ClassId × FieldType) := E.2.2.2.2.2.2.2.2.2.2.2.2.2.2
/-- the machine at pc with locals lv, operands st, over the world ws, k cells of n slots made: it comes to its end -/
def V (E : CxT) (ws : va_W) (pc : Nat) (lv : List (Nat × Value)) (st : List Value) (k n : Nat) : Prop :=
  ∀ (H : Heap) (locs : List Loc) (ls : Array Slot), lv_has ls (xN E) lv → va_P (xD E) vwCl ws H → va_D (xF E) ws → va_S (xF E) (xS E).heap H locs →
    W (xP E) (xL E) (xE E) (xR E) (xS E) (xM E) (xA E) (xB E) (xH E) (xC E) H locs k n (xQ E) (F0 (xM E) pc ls st)


/-- what holds of the fixed things: own is the class whose method is walked, cc its bytes -/
def Cx (E : CxT) (own : String) (cc : ByteArray) (nl : Nat) : Prop :=
  (xP E).tables.exec = Jvm.exec ∧ (xC E).code = cc ∧ ((xC E).maxLocals = xN E ∧ xN E = nl) ∧ (xS E).vm.findClass own = some (xM E).cls ∧ (∀ w ∈ WB, w.before (xA E) (xS E) = true) ∧ va_K (xD E) vwCl (xT E) (xS E) ∧ (∀ q, (xS E).heap.size ≤ q → xF E q) ∧ (xH E).locks = false
section VR
variable {E : CxT} {own : String} {cc : ByteArray} {nl : Nat} {ws : va_W} {pc : Nat} {lv : List (Nat × Value)} {st : List Value} {k n : Nat}
theorem V_sub (ks : List Nat) {lv' : List (Nat × Value)} (hl : lv_pick lv ks = lv') (kk : V E ws pc lv' st k n) : V E ws pc lv st k n := fun H locs ls h hP hD hS => kk H locs ls (lv_sub h ks hl) hP hD hS
theorem V_widen {k' n' : Nat} (h1 : k ≤ k') (h2 : n ≤ n') (kk : V E ws pc lv st k' n') : V E ws pc lv st k n := fun H locs ls h hP hD hS => W.widen h1 h2 (kk H locs ls h hP hD hS)
theorem V_eq {ws' : va_W} (h : ws = ws') (kk : V E ws' pc lv st k n) : V E ws pc lv st k n := h ▸ kk
theorem V_iconst (hc : Cx E own cc nl) {i : Int} {v : Int32} (hdg : decode cc pc = .ok (.iconst i, 1)) (hv : Int32.ofInt i = v) (kk : V E ws (pc + 1) lv (.int v :: st) k n) : V E ws pc lv (st) k n := fun H locs ls h hP hD hS => lv_iconst hc.1 hc.2.1 hdg hv (kk H locs ls h hP hD hS)
theorem V_bipush (hc : Cx E own cc nl) {i : Int} {v : Int32} (hdg : decode cc pc = .ok (.bipush i, 2)) (hv : (Int8.ofInt i).toInt32 = v) (kk : V E ws (pc + 2) lv (.int v :: st) k n) : V E ws pc lv (st) k n := fun H locs ls h hP hD hS => lv_bipush hc.1 hc.2.1 hdg hv (kk H locs ls h hP hD hS)
theorem V_sipush (hc : Cx E own cc nl) {i : Int} {v : Int32} (hdg : decode cc pc = .ok (.sipush i, 3)) (hv : (Int16.ofInt i).toInt32 = v) (kk : V E ws (pc + 3) lv (.int v :: st) k n) : V E ws pc lv (st) k n := fun H locs ls h hP hD hS => lv_sipush hc.1 hc.2.1 hdg hv (kk H locs ls h hP hD hS)
theorem V_lconst (hc : Cx E own cc nl) {i : Fin 2} {v : Int64} (hdg : decode cc pc = .ok (.lconst i, 1)) (hv : Int64.ofNat (i : Nat) = v) (kk : V E ws (pc + 1) lv (.long v :: st) k n) : V E ws pc lv (st) k n := fun H locs ls h hP hD hS => lv_lconst hc.1 hc.2.1 hdg hv (kk H locs ls h hP hD hS)
theorem V_iload_n (hc : Cx E own cc nl) {f : Fin 4} {i : Nat} {x : Int32} (hdg : decode cc pc = .ok (.iload_n f, 1)) (hi : (f : Nat) = i) (j : Nat) (hj : lv[j]? = some (i, .int x)) (kk : V E ws (pc + 1) lv (.int x :: st) k n) : V E ws pc lv st k n := fun H locs ls h hP hD hS => lv_iload_n hc.1 hc.2.1 hdg hi (lv_at h j hj) (kk H locs ls h hP hD hS)
theorem V_iload (hc : Cx E own cc nl) {i : Nat} {x : Int32} (hdg : decode cc pc = .ok (.iload i, 2)) (j : Nat) (hj : lv[j]? = some (i, .int x)) (kk : V E ws (pc + 2) lv (.int x :: st) k n) : V E ws pc lv st k n := fun H locs ls h hP hD hS => lv_iload hc.1 hc.2.1 hdg (lv_at h j hj) (kk H locs ls h hP hD hS)
theorem V_lload_n (hc : Cx E own cc nl) {f : Fin 4} {i : Nat} {x : Int64} (hdg : decode cc pc = .ok (.lload_n f, 1)) (hi : (f : Nat) = i) (j : Nat) (hj : lv[j]? = some (i, .long x)) (kk : V E ws (pc + 1) lv (.long x :: st) k n) : V E ws pc lv st k n := fun H locs ls h hP hD hS => lv_lload_n hc.1 hc.2.1 hdg hi (lv_at h j hj) (kk H locs ls h hP hD hS)
theorem V_lload (hc : Cx E own cc nl) {i : Nat} {x : Int64} (hdg : decode cc pc = .ok (.lload i, 2)) (j : Nat) (hj : lv[j]? = some (i, .long x)) (kk : V E ws (pc + 2) lv (.long x :: st) k n) : V E ws pc lv st k n := fun H locs ls h hP hD hS => lv_lload hc.1 hc.2.1 hdg (lv_at h j hj) (kk H locs ls h hP hD hS)
theorem V_aload_n (hc : Cx E own cc nl) {f : Fin 4} {i : Nat} {x : Nat} (hdg : decode cc pc = .ok (.aload_n f, 1)) (hi : (f : Nat) = i) (j : Nat) (hj : lv[j]? = some (i, .ref x)) (kk : V E ws (pc + 1) lv (.ref x :: st) k n) : V E ws pc lv st k n := fun H locs ls h hP hD hS => lv_aload_n hc.1 hc.2.1 hdg hi (lv_at h j hj) (kk H locs ls h hP hD hS)
theorem V_aload (hc : Cx E own cc nl) {i : Nat} {x : Nat} (hdg : decode cc pc = .ok (.aload i, 2)) (j : Nat) (hj : lv[j]? = some (i, .ref x)) (kk : V E ws (pc + 2) lv (.ref x :: st) k n) : V E ws pc lv st k n := fun H locs ls h hP hD hS => lv_aload hc.1 hc.2.1 hdg (lv_at h j hj) (kk H locs ls h hP hD hS)
theorem V_istore_n (hc : Cx E own cc nl) {f : Fin 4} {i : Nat} {x : Int32} {lv' : List (Nat × Value)} (hdg : decode cc pc = .ok (.istore_n f, 1)) (hi : (f : Nat) = i) (hn : i < nl) (hl : (i, Value.int x) :: lv.filter (fun q => !(q.1 == i) && !(q.1 + 1 == i && q.2.category == 2)) = lv') (kk : V E ws (pc + 1) lv' st k n) : V E ws pc lv (.int x :: st) k n := fun H locs ls h hP hD hS => lv_istore_n hc.1 hc.2.1 hdg hi h (hc.2.2.1.2 ▸ hn) hl (fun ls' h' => kk H locs ls' h' hP hD hS)
theorem V_istore (hc : Cx E own cc nl) {i : Nat} {x : Int32} {lv' : List (Nat × Value)} (hdg : decode cc pc = .ok (.istore i, 2)) (hn : i < nl) (hl : (i, Value.int x) :: lv.filter (fun q => !(q.1 == i) && !(q.1 + 1 == i && q.2.category == 2)) = lv') (kk : V E ws (pc + 2) lv' st k n) : V E ws pc lv (.int x :: st) k n := fun H locs ls h hP hD hS => lv_istore hc.1 hc.2.1 hdg h (hc.2.2.1.2 ▸ hn) hl (fun ls' h' => kk H locs ls' h' hP hD hS)
theorem V_astore_n (hc : Cx E own cc nl) {f : Fin 4} {i : Nat} {x : Nat} {lv' : List (Nat × Value)} (hdg : decode cc pc = .ok (.astore_n f, 1)) (hi : (f : Nat) = i) (hn : i < nl) (hl : (i, Value.ref x) :: lv.filter (fun q => !(q.1 == i) && !(q.1 + 1 == i && q.2.category == 2)) = lv') (kk : V E ws (pc + 1) lv' st k n) : V E ws pc lv (.ref x :: st) k n := fun H locs ls h hP hD hS => lv_astore_n hc.1 hc.2.1 hdg hi h (hc.2.2.1.2 ▸ hn) hl (fun ls' h' => kk H locs ls' h' hP hD hS)
theorem V_astore (hc : Cx E own cc nl) {i : Nat} {x : Nat} {lv' : List (Nat × Value)} (hdg : decode cc pc = .ok (.astore i, 2)) (hn : i < nl) (hl : (i, Value.ref x) :: lv.filter (fun q => !(q.1 == i) && !(q.1 + 1 == i && q.2.category == 2)) = lv') (kk : V E ws (pc + 2) lv' st k n) : V E ws pc lv (.ref x :: st) k n := fun H locs ls h hP hD hS => lv_astore hc.1 hc.2.1 hdg h (hc.2.2.1.2 ▸ hn) hl (fun ls' h' => kk H locs ls' h' hP hD hS)
theorem V_lstore_n (hc : Cx E own cc nl) {f : Fin 4} {i : Nat} {x : Int64} {lv' : List (Nat × Value)} (hdg : decode cc pc = .ok (.lstore_n f, 1)) (hi : (f : Nat) = i) (hn : i + 1 < nl) (hl : (i, Value.long x) :: lv.filter (fun q => !(q.1 == i) && (!(q.1 == i + 1) && !(q.1 + 1 == i && q.2.category == 2))) = lv') (kk : V E ws (pc + 1) lv' st k n) : V E ws pc lv (.long x :: st) k n := fun H locs ls h hP hD hS => lv_lstore_n hc.1 hc.2.1 hdg hi h (hc.2.2.1.2 ▸ hn) hl (fun ls' h' => kk H locs ls' h' hP hD hS)
theorem V_iinc (hc : Cx E own cc nl) {i j : Nat} {d : Int} {x v : Int32} {lv' : List (Nat × Value)} (hdg : decode cc pc = .ok (.iinc i d, 3)) (hk : lv[j]? = some (i, .int x)) (hv : x + Int32.ofInt d = v) (hn : i < nl) (hl : (i, Value.int v) :: lv.filter (fun q => !(q.1 == i) && !(q.1 + 1 == i && q.2.category == 2)) = lv') (kk : V E ws (pc + 3) lv' st k n) : V E ws pc lv st k n := fun H locs ls h hP hD hS => lv_iinc hc.1 hc.2.1 hdg h hk hv (hc.2.2.1.2 ▸ hn) hl (fun ls' h' => kk H locs ls' h' hP hD hS)
theorem V_iadd (hc : Cx E own cc nl) {x y : Int32} (hdg : decode cc pc = .ok (.iadd, 1)) (kk : V E ws (pc + 1) lv (.int (x + y) :: st) k n) : V E ws pc lv (.int y :: .int x :: st) k n := fun H locs ls h hP hD hS => lv_iadd hc.1 hc.2.1 hdg (kk H locs ls h hP hD hS)
theorem V_isub (hc : Cx E own cc nl) {x y : Int32} (hdg : decode cc pc = .ok (.isub, 1)) (kk : V E ws (pc + 1) lv (.int (x - y) :: st) k n) : V E ws pc lv (.int y :: .int x :: st) k n := fun H locs ls h hP hD hS => lv_isub hc.1 hc.2.1 hdg (kk H locs ls h hP hD hS)
theorem V_imul (hc : Cx E own cc nl) {x y : Int32} (hdg : decode cc pc = .ok (.imul, 1)) (kk : V E ws (pc + 1) lv (.int (x * y) :: st) k n) : V E ws pc lv (.int y :: .int x :: st) k n := fun H locs ls h hP hD hS => lv_imul hc.1 hc.2.1 hdg (kk H locs ls h hP hD hS)
theorem V_iand (hc : Cx E own cc nl) {x y : Int32} (hdg : decode cc pc = .ok (.iand, 1)) (kk : V E ws (pc + 1) lv (.int (x &&& y) :: st) k n) : V E ws pc lv (.int y :: .int x :: st) k n := fun H locs ls h hP hD hS => lv_iand hc.1 hc.2.1 hdg (kk H locs ls h hP hD hS)
theorem V_ior (hc : Cx E own cc nl) {x y : Int32} (hdg : decode cc pc = .ok (.ior, 1)) (kk : V E ws (pc + 1) lv (.int (x ||| y) :: st) k n) : V E ws pc lv (.int y :: .int x :: st) k n := fun H locs ls h hP hD hS => lv_ior hc.1 hc.2.1 hdg (kk H locs ls h hP hD hS)
theorem V_ishr (hc : Cx E own cc nl) {x y : Int32} (hdg : decode cc pc = .ok (.ishr, 1)) (kk : V E ws (pc + 1) lv (.int (x >>> (y &&& 31)) :: st) k n) : V E ws pc lv (.int y :: .int x :: st) k n := fun H locs ls h hP hD hS => lv_ishr hc.1 hc.2.1 hdg (kk H locs ls h hP hD hS)
theorem V_ishl (hc : Cx E own cc nl) {x y : Int32} (hdg : decode cc pc = .ok (.ishl, 1)) (kk : V E ws (pc + 1) lv (.int (x <<< (y &&& 31)) :: st) k n) : V E ws pc lv (.int y :: .int x :: st) k n := fun H locs ls h hP hD hS => lv_ishl hc.1 hc.2.1 hdg (kk H locs ls h hP hD hS)
theorem V_idiv (hc : Cx E own cc nl) {x y : Int32} (hdg : decode cc pc = .ok (.idiv, 1)) (hne : ¬ y = 0) (kk : V E ws (pc + 1) lv (.int (x / y) :: st) k n) : V E ws pc lv (.int y :: .int x :: st) k n := fun H locs ls h hP hD hS => lv_idiv hc.1 hc.2.1 hdg hne (kk H locs ls h hP hD hS)
theorem V_irem (hc : Cx E own cc nl) {x y : Int32} (hdg : decode cc pc = .ok (.irem, 1)) (hne : ¬ y = 0) (kk : V E ws (pc + 1) lv (.int (x - x / y * y) :: st) k n) : V E ws pc lv (.int y :: .int x :: st) k n := fun H locs ls h hP hD hS => lv_irem hc.1 hc.2.1 hdg hne (kk H locs ls h hP hD hS)
theorem V_ineg (hc : Cx E own cc nl) {x : Int32} (hdg : decode cc pc = .ok (.ineg, 1)) (kk : V E ws (pc + 1) lv (.int (-x) :: st) k n) : V E ws pc lv (.int x :: st) k n := fun H locs ls h hP hD hS => lv_ineg hc.1 hc.2.1 hdg (kk H locs ls h hP hD hS)
theorem V_ladd (hc : Cx E own cc nl) {x y : Int64} (hdg : decode cc pc = .ok (.ladd, 1)) (kk : V E ws (pc + 1) lv (.long (x + y) :: st) k n) : V E ws pc lv (.long y :: .long x :: st) k n := fun H locs ls h hP hD hS => lv_ladd hc.1 hc.2.1 hdg (kk H locs ls h hP hD hS)
theorem V_lmul (hc : Cx E own cc nl) {x y : Int64} (hdg : decode cc pc = .ok (.lmul, 1)) (kk : V E ws (pc + 1) lv (.long (x * y) :: st) k n) : V E ws pc lv (.long y :: .long x :: st) k n := fun H locs ls h hP hD hS => lv_lmul hc.1 hc.2.1 hdg (kk H locs ls h hP hD hS)
theorem V_land (hc : Cx E own cc nl) {x y : Int64} (hdg : decode cc pc = .ok (.land, 1)) (kk : V E ws (pc + 1) lv (.long (x &&& y) :: st) k n) : V E ws pc lv (.long y :: .long x :: st) k n := fun H locs ls h hP hD hS => lv_land hc.1 hc.2.1 hdg (kk H locs ls h hP hD hS)
theorem V_ldiv (hc : Cx E own cc nl) {x y : Int64} (hdg : decode cc pc = .ok (.ldiv, 1)) (hne : ¬ y = 0) (kk : V E ws (pc + 1) lv (.long (x / y) :: st) k n) : V E ws pc lv (.long y :: .long x :: st) k n := fun H locs ls h hP hD hS => lv_ldiv hc.1 hc.2.1 hdg hne (kk H locs ls h hP hD hS)
theorem V_lrem (hc : Cx E own cc nl) {x y : Int64} (hdg : decode cc pc = .ok (.lrem, 1)) (hne : ¬ y = 0) (kk : V E ws (pc + 1) lv (.long (x - x / y * y) :: st) k n) : V E ws pc lv (.long y :: .long x :: st) k n := fun H locs ls h hP hD hS => lv_lrem hc.1 hc.2.1 hdg hne (kk H locs ls h hP hD hS)
theorem V_lcmp (hc : Cx E own cc nl) {x y : Int64} (hdg : decode cc pc = .ok (.lcmp, 1)) (kk : V E ws (pc + 1) lv (.int (lg_cmp x y) :: st) k n) : V E ws pc lv (.long y :: .long x :: st) k n := fun H locs ls h hP hD hS => W.lcmp hc.1 hc.2.1 hdg (kk H locs ls h hP hD hS)
theorem V_i2l (hc : Cx E own cc nl) {x : Int32} (hdg : decode cc pc = .ok (.i2l, 1)) (kk : V E ws (pc + 1) lv (.long x.toInt64 :: st) k n) : V E ws pc lv (.int x :: st) k n := fun H locs ls h hP hD hS => lv_i2l hc.1 hc.2.1 hdg rfl (kk H locs ls h hP hD hS)
theorem V_l2i (hc : Cx E own cc nl) {x : Int64} (hdg : decode cc pc = .ok (.l2i, 1)) (kk : V E ws (pc + 1) lv (.int x.toInt32 :: st) k n) : V E ws pc lv (.long x :: st) k n := fun H locs ls h hP hD hS => lv_l2i hc.1 hc.2.1 hdg rfl (kk H locs ls h hP hD hS)
theorem V_dup (hc : Cx E own cc nl) {va : Value} (hdg : decode cc pc = .ok (.dup, 1)) (hva : va.category = 1) (kk : V E ws (pc + 1) lv (va :: va :: st) k n) : V E ws pc lv (va :: st) k n := fun H locs ls h hP hD hS => lv_dup hc.1 hc.2.1 hdg hva (kk H locs ls h hP hD hS)
theorem V_pop (hc : Cx E own cc nl) {va : Value} (hdg : decode cc pc = .ok (.pop, 1)) (hva : va.category = 1) (kk : V E ws (pc + 1) lv (st) k n) : V E ws pc lv (va :: st) k n := fun H locs ls h hP hD hS => lv_pop hc.1 hc.2.1 hdg hva (kk H locs ls h hP hD hS)
theorem V_dup_x1 (hc : Cx E own cc nl) {va vb : Value} (hdg : decode cc pc = .ok (.dup_x1, 1)) (hva : va.category = 1) (hvb : vb.category = 1) (kk : V E ws (pc + 1) lv (va :: vb :: va :: st) k n) : V E ws pc lv (va :: vb :: st) k n := fun H locs ls h hP hD hS => lv_dup_x1 hc.1 hc.2.1 hdg hva hvb (kk H locs ls h hP hD hS)
theorem V_dup2 (hc : Cx E own cc nl) {va vb : Value} (hdg : decode cc pc = .ok (.dup2, 1)) (hva : va.category = 1) (hvb : vb.category = 1) (kk : V E ws (pc + 1) lv (va :: vb :: va :: vb :: st) k n) : V E ws pc lv (va :: vb :: st) k n := fun H locs ls h hP hD hS => lv_dup2_11 hc.1 hc.2.1 hdg hva hvb (kk H locs ls h hP hD hS)
theorem V_goto (hc : Cx E own cc nl) {off : Int} {tgt : Nat} (hdg : decode cc pc = .ok (.goto off, 3)) (ht : (pc : Int) + off = (tgt : Int)) (kk : V E ws tgt lv st k n) : V E ws pc lv st k n := fun H locs ls h hP hD hS => lv_goto hc.1 hc.2.1 hdg ht (kk H locs ls h hP hD hS)
theorem V_if_eq (hc : Cx E own cc nl) {x : Int32} {off : Int} {tgt : Nat} (hdg : decode cc pc = .ok (.ifCond .eq off, 3)) (ht : (pc : Int) + off = (tgt : Int)) (kt : (x = 0) → V E ws tgt lv st k n) (kf : ¬ (x = 0) → V E ws (pc + 3) lv st k n) : V E ws pc lv (.int x :: st) k n := fun H locs ls h hP hD hS => lv_if_eq hc.1 hc.2.1 hdg ht (fun q => kt q H locs ls h hP hD hS) (fun q => kf q H locs ls h hP hD hS)
theorem V_if_ne (hc : Cx E own cc nl) {x : Int32} {off : Int} {tgt : Nat} (hdg : decode cc pc = .ok (.ifCond .ne off, 3)) (ht : (pc : Int) + off = (tgt : Int)) (kt : (¬ x = 0) → V E ws tgt lv st k n) (kf : (x = 0) → V E ws (pc + 3) lv st k n) : V E ws pc lv (.int x :: st) k n := fun H locs ls h hP hD hS => lv_if_ne hc.1 hc.2.1 hdg ht (fun q => kt q H locs ls h hP hD hS) (fun q => kf q H locs ls h hP hD hS)
theorem V_if_lt (hc : Cx E own cc nl) {x : Int32} {off : Int} {tgt : Nat} (hdg : decode cc pc = .ok (.ifCond .lt off, 3)) (ht : (pc : Int) + off = (tgt : Int)) (kt : (x < 0) → V E ws tgt lv st k n) (kf : ¬ (x < 0) → V E ws (pc + 3) lv st k n) : V E ws pc lv (.int x :: st) k n := fun H locs ls h hP hD hS => lv_if_lt hc.1 hc.2.1 hdg ht (fun q => kt q H locs ls h hP hD hS) (fun q => kf q H locs ls h hP hD hS)
theorem V_if_ge (hc : Cx E own cc nl) {x : Int32} {off : Int} {tgt : Nat} (hdg : decode cc pc = .ok (.ifCond .ge off, 3)) (ht : (pc : Int) + off = (tgt : Int)) (kt : (0 ≤ x) → V E ws tgt lv st k n) (kf : ¬ (0 ≤ x) → V E ws (pc + 3) lv st k n) : V E ws pc lv (.int x :: st) k n := fun H locs ls h hP hD hS => lv_if_ge hc.1 hc.2.1 hdg ht (fun q => kt q H locs ls h hP hD hS) (fun q => kf q H locs ls h hP hD hS)
theorem V_if_gt (hc : Cx E own cc nl) {x : Int32} {off : Int} {tgt : Nat} (hdg : decode cc pc = .ok (.ifCond .gt off, 3)) (ht : (pc : Int) + off = (tgt : Int)) (kt : (0 < x) → V E ws tgt lv st k n) (kf : ¬ (0 < x) → V E ws (pc + 3) lv st k n) : V E ws pc lv (.int x :: st) k n := fun H locs ls h hP hD hS => lv_if_gt hc.1 hc.2.1 hdg ht (fun q => kt q H locs ls h hP hD hS) (fun q => kf q H locs ls h hP hD hS)
theorem V_if_le (hc : Cx E own cc nl) {x : Int32} {off : Int} {tgt : Nat} (hdg : decode cc pc = .ok (.ifCond .le off, 3)) (ht : (pc : Int) + off = (tgt : Int)) (kt : (x ≤ 0) → V E ws tgt lv st k n) (kf : ¬ (x ≤ 0) → V E ws (pc + 3) lv st k n) : V E ws pc lv (.int x :: st) k n := fun H locs ls h hP hD hS => lv_if_le hc.1 hc.2.1 hdg ht (fun q => kt q H locs ls h hP hD hS) (fun q => kf q H locs ls h hP hD hS)
theorem V_icmp_eq (hc : Cx E own cc nl) {x y : Int32} {off : Int} {tgt : Nat} (hdg : decode cc pc = .ok (.if_icmp .eq off, 3)) (ht : (pc : Int) + off = (tgt : Int)) (kt : (x = y) → V E ws tgt lv st k n) (kf : ¬ (x = y) → V E ws (pc + 3) lv st k n) : V E ws pc lv (.int y :: .int x :: st) k n := fun H locs ls h hP hD hS => lv_icmp_eq hc.1 hc.2.1 hdg ht (fun q => kt q H locs ls h hP hD hS) (fun q => kf q H locs ls h hP hD hS)
theorem V_icmp_ne (hc : Cx E own cc nl) {x y : Int32} {off : Int} {tgt : Nat} (hdg : decode cc pc = .ok (.if_icmp .ne off, 3)) (ht : (pc : Int) + off = (tgt : Int)) (kt : (¬ x = y) → V E ws tgt lv st k n) (kf : (x = y) → V E ws (pc + 3) lv st k n) : V E ws pc lv (.int y :: .int x :: st) k n := fun H locs ls h hP hD hS => lv_icmp_ne hc.1 hc.2.1 hdg ht (fun q => kt q H locs ls h hP hD hS) (fun q => kf q H locs ls h hP hD hS)
theorem V_icmp_lt (hc : Cx E own cc nl) {x y : Int32} {off : Int} {tgt : Nat} (hdg : decode cc pc = .ok (.if_icmp .lt off, 3)) (ht : (pc : Int) + off = (tgt : Int)) (kt : (x < y) → V E ws tgt lv st k n) (kf : ¬ (x < y) → V E ws (pc + 3) lv st k n) : V E ws pc lv (.int y :: .int x :: st) k n := fun H locs ls h hP hD hS => lv_icmp_lt hc.1 hc.2.1 hdg ht (fun q => kt q H locs ls h hP hD hS) (fun q => kf q H locs ls h hP hD hS)
theorem V_icmp_ge (hc : Cx E own cc nl) {x y : Int32} {off : Int} {tgt : Nat} (hdg : decode cc pc = .ok (.if_icmp .ge off, 3)) (ht : (pc : Int) + off = (tgt : Int)) (kt : (y ≤ x) → V E ws tgt lv st k n) (kf : ¬ (y ≤ x) → V E ws (pc + 3) lv st k n) : V E ws pc lv (.int y :: .int x :: st) k n := fun H locs ls h hP hD hS => lv_icmp_ge hc.1 hc.2.1 hdg ht (fun q => kt q H locs ls h hP hD hS) (fun q => kf q H locs ls h hP hD hS)
theorem V_icmp_gt (hc : Cx E own cc nl) {x y : Int32} {off : Int} {tgt : Nat} (hdg : decode cc pc = .ok (.if_icmp .gt off, 3)) (ht : (pc : Int) + off = (tgt : Int)) (kt : (y < x) → V E ws tgt lv st k n) (kf : ¬ (y < x) → V E ws (pc + 3) lv st k n) : V E ws pc lv (.int y :: .int x :: st) k n := fun H locs ls h hP hD hS => lv_icmp_gt hc.1 hc.2.1 hdg ht (fun q => kt q H locs ls h hP hD hS) (fun q => kf q H locs ls h hP hD hS)
theorem V_icmp_le (hc : Cx E own cc nl) {x y : Int32} {off : Int} {tgt : Nat} (hdg : decode cc pc = .ok (.if_icmp .le off, 3)) (ht : (pc : Int) + off = (tgt : Int)) (kt : (x ≤ y) → V E ws tgt lv st k n) (kf : ¬ (x ≤ y) → V E ws (pc + 3) lv st k n) : V E ws pc lv (.int y :: .int x :: st) k n := fun H locs ls h hP hD hS => lv_icmp_le hc.1 hc.2.1 hdg ht (fun q => kt q H locs ls h hP hD hS) (fun q => kf q H locs ls h hP hD hS)
theorem V_tableIn (hc : Cx E own cc nl) {dflt lo hi : Int} {offs : Array Int} {len : Nat} {x : Int32} {off : Int} {tgt : Nat} (hdg : decode cc pc = .ok (.tableswitch dflt lo hi offs, len)) (h1 : ¬ x.toInt < lo) (h2 : ¬ hi < x.toInt) (ho : offs[(x.toInt - lo).toNat]? = some off) (ht : (pc : Int) + off = (tgt : Int)) (kk : V E ws tgt lv st k n) : V E ws pc lv (.int x :: st) k n := fun H locs ls h hP hD hS => lv_tableIn hc.1 hc.2.1 hdg h1 h2 ho ht (kk H locs ls h hP hD hS)
theorem V_tableOut (hc : Cx E own cc nl) {dflt lo hi : Int} {offs : Array Int} {len : Nat} {x : Int32} {tgt : Nat} (hdg : decode cc pc = .ok (.tableswitch dflt lo hi offs, len)) (hh : x.toInt < lo ∨ hi < x.toInt) (ht : (pc : Int) + dflt = (tgt : Int)) (kk : V E ws tgt lv st k n) : V E ws pc lv (.int x :: st) k n := fun H locs ls h hP hD hS => lv_tableOut hc.1 hc.2.1 hdg hh ht (kk H locs ls h hP hD hS)
theorem V_ldc2 (hc : Cx E own cc nl) {index : Nat} {v : Int64} (hw : Cond.constantLong own index v ∈ WB) (hdg : decode cc pc = .ok (.ldc2_w index, 3)) (kk : V E ws (pc + 3) lv (.long v :: st) k n) : V E ws pc lv st k n := fun H locs ls h hP hD hS => lv_ldc2 hc.1 hc.2.1 hc.2.2.2.1 (hc.2.2.2.2.1 _ hw) hdg (kk H locs ls h hP hD hS)
theorem V_ldc (hc : Cx E own cc nl) {index : Nat} {v : Int32} (hw : Cond.constant own index v ∈ WB) (hdg : decode cc pc = .ok (.ldc index, 2)) (kk : V E ws (pc + 2) lv (.int v :: st) k n) : V E ws pc lv st k n := fun H locs ls h hP hD hS => lv_ldc hc.1 hc.2.1 hc.2.2.2.1 (hc.2.2.2.2.1 _ hw) hdg (kk H locs ls h hP hD hS)
theorem V_get (hc : Cx E own cc nl) {ci N : Nat} {C : String} {T : u_T} (hcl : vwCl[ci]? = some (C, T, N)) (hin : ∀ w ∈ u_ws C T N, w ∈ WB) {a : Nat} {fs : List Value} (q0 : Nat) (he : ws[q0]? = some (a, .inr (ci, fs))) (kf : Nat) (hk : kf < N) {index : Nat} (hlink : Cond.fieldLink own index (T kf).1 (T kf).2.1 (T kf).2.2.1 ∈ WB) {v : Value} (hv : fs[kf]? = some v) (hdg : decode cc pc = .ok (.getfield index, 3)) (kk : V E ws (pc + 3) lv (v :: st) k n) : V E ws pc lv (.ref a :: st) k n := fun H locs ls h hP hD hS => va_get hc.1 hc.2.1 hc.2.2.2.2.1 hin hc.2.2.2.1 hc.2.2.2.2.2.1 hP q0 he hcl kf hk (hc.2.2.2.2.1 _ hlink) (fun _ h9 => h9) hv hdg (kk H locs ls h hP hD hS)
theorem V_put (hc : Cx E own cc nl) {ci N : Nat} {C : String} {T : u_T} (hcl : vwCl[ci]? = some (C, T, N)) (hin : ∀ w ∈ u_ws C T N, w ∈ WB) (ty0 : Nat → FieldType) (hty : ∀ k, k < N → parseFieldDescriptor (T k).2.2.1 = some (ty0 k)) (hnm : ∀ a, a < N → ∀ b, b < N → a ≠ b → (T a).2.1 ≠ (T b).2.1) {a : Nat} {fs : List Value} (q0 : Nat) (he : ws[q0]? = some (a, .inr (ci, fs))) (kf : Nat) (hk : kf < N) {index : Nat} (hlink : Cond.fieldLink own index (T kf).1 (T kf).2.1 (T kf).2.2.1 ∈ WB) (hfin : (T kf).2.2.2 = false) {v : Value} (hn : narrow (ty0 kf) v = v) (hfit : fits (ty0 kf) v = true) (hl : kf < fs.length) {ws' : va_W} (hws : ws.set q0 (a, .inr (ci, fs.set kf v)) = ws') (hdg : decode cc pc = .ok (.putfield index, 3)) (kk : V E ws' (pc + 3) lv st k n) : V E ws pc lv (v :: .ref a :: st) k n := fun H locs ls h hP hD hS => va_put hc.1 hc.2.1 hc.2.2.2.2.1 hin ty0 hty hnm hc.2.2.2.1 hc.2.2.2.2.2.1 hP hD hS q0 he hcl kf hk (hc.2.2.2.2.1 _ hlink) (fun _ h9 => h9) hfin (hty kf hk) hn hfit hl hdg (fun H1 locs1 hP1 hD1 hS1 => kk H1 locs1 ls h (hws ▸ hP1) (hws ▸ hD1) hS1)
theorem V_iald (hc : Cx E own cc nl) {a : Nat} (q0 t0 : Nat) {cA : ClassId} {m : Nat} {f : Nat → Int32} (ha : ws[q0]? = some (a, .inl (cA, m, .inl f))) (ht : (xT E)[t0]? = some (cA, .int)) {i : Int32} (hin : vp_in i m) (hdg : decode cc pc = .ok (.iaload, 1)) (kk : V E ws (pc + 1) lv (.int (f i.toNatClampNeg) :: st) k n) : V E ws pc lv (.int i :: .ref a :: st) k n := fun H locs ls h hP hD hS => va_iald hc.1 hc.2.1 hc.2.2.2.2.2.1 hP q0 t0 ha ht hin hdg (kk H locs ls h hP hD hS)
theorem V_iast (hc : Cx E own cc nl) {a : Nat} (q0 t0 : Nat) {cA : ClassId} {m : Nat} {f : Nat → Int32} (ha : ws[q0]? = some (a, .inl (cA, m, .inl f))) (ht : (xT E)[t0]? = some (cA, .int)) {i x : Int32} (hin : vp_in i m) {ws' : va_W} (hws : ws.set q0 (a, .inl (cA, m, .inl (upd f i.toNatClampNeg x))) = ws') (hdg : decode cc pc = .ok (.iastore, 1)) (kk : V E ws' (pc + 1) lv st k n) : V E ws pc lv (.int x :: .int i :: .ref a :: st) k n := fun H locs ls h hP hD hS => va_iast hc.1 hc.2.1 hc.2.2.2.2.2.1 hP hD hS q0 t0 ha ht hin hdg (fun H1 locs1 hP1 hD1 hS1 => kk H1 locs1 ls h (hws ▸ hP1) (hws ▸ hD1) hS1)
theorem V_zast (hc : Cx E own cc nl) {a : Nat} (q0 t0 : Nat) {cA : ClassId} {m : Nat} {f : Nat → Int32} (ha : ws[q0]? = some (a, .inl (cA, m, .inl f))) (ht : (xT E)[t0]? = some (cA, .boolean)) {i x : Int32} (hin : vp_in i m) {ws' : va_W} (hws : ws.set q0 (a, .inl (cA, m, .inl (upd f i.toNatClampNeg (vp_nar .boolean x)))) = ws') (hdg : decode cc pc = .ok (.bastore, 1)) (kk : V E ws' (pc + 1) lv st k n) : V E ws pc lv (.int x :: .int i :: .ref a :: st) k n := fun H locs ls h hP hD hS => va_zast hc.1 hc.2.1 hc.2.2.2.2.2.1 hP hD hS q0 t0 ha ht hin hdg (fun H1 locs1 hP1 hD1 hS1 => kk H1 locs1 ls h (hws ▸ hP1) (hws ▸ hD1) hS1)
theorem V_cald (hc : Cx E own cc nl) {a : Nat} (q0 t0 : Nat) {cA : ClassId} {m : Nat} {f : Nat → Int32} (ha : ws[q0]? = some (a, .inl (cA, m, .inl f))) (ht : (xT E)[t0]? = some (cA, .char)) {i : Int32} (hin : vp_in i m) (hdg : decode cc pc = .ok (.caload, 1)) (kk : V E ws (pc + 1) lv (.int (f i.toNatClampNeg) :: st) k n) : V E ws pc lv (.int i :: .ref a :: st) k n := fun H locs ls h hP hD hS => va_cald hc.1 hc.2.1 hc.2.2.2.2.2.1 hP q0 t0 ha ht hin hdg (kk H locs ls h hP hD hS)
theorem V_zald (hc : Cx E own cc nl) {a : Nat} (q0 t0 : Nat) {cA : ClassId} {m : Nat} {f : Nat → Int32} (ha : ws[q0]? = some (a, .inl (cA, m, .inl f))) (ht : (xT E)[t0]? = some (cA, .boolean)) {i : Int32} (hin : vp_in i m) (hdg : decode cc pc = .ok (.baload, 1)) (kk : V E ws (pc + 1) lv (.int (f i.toNatClampNeg) :: st) k n) : V E ws pc lv (.int i :: .ref a :: st) k n := fun H locs ls h hP hD hS => va_zald hc.1 hc.2.1 hc.2.2.2.2.2.1 hP q0 t0 ha ht hin hdg (kk H locs ls h hP hD hS)
theorem V_alen (hc : Cx E own cc nl) {a : Nat} (q0 t0 : Nat) {cA : ClassId} {x : vp_A} (ha : ws[q0]? = some (a, .inl (cA, x))) {ty : FieldType} (ht : (xT E)[t0]? = some (cA, ty)) {v : Int32} (hv : Int32.ofNat x.1 = v) (hdg : decode cc pc = .ok (.arraylength, 1)) (kk : V E ws (pc + 1) lv (.int v :: st) k n) : V E ws pc lv (.ref a :: st) k n := fun H locs ls h hP hD hS => va_alen hc.1 hc.2.1 hc.2.2.2.2.2.1 hP q0 t0 ha ht hv hdg (kk H locs ls h hP hD hS)
end VR
/-- a method's end: the answer rv, the world ws', nothing changed outside F -/
def QT (D : va_G) (F : Nat → Prop) (ws' : va_W) (rv : Option Value) : Array Value → State → Outcome → State → Prop := fun _ st oc t => oc = .returned rv ∧ va_P D vwCl ws' t.heap ∧ va_D F ws' ∧ va_F F st t
/-- a method's contract: from the world ws with the arguments avs it returns rv with the world ws'; mc cells of ms slots are made -/
def CT (l : Launch) (D : va_G) (ty : List (ClassId × FieldType)) (y : MethodName) (cb : ByteArray) (nl : Nat) (ret : Option FieldType) (fr lo : Nat) (avs : List Value) (ws ws' : va_W) (rv : Option Value) (mc ms : Nat) : Prop :=
  ∀ sz : Nat, Met l y (.code y cb nl ret :: WB) { frames := fr, cells := mc, slots := ms, locals := lo } (va_Pc avs (fun U => U.heap.size = sz ∧ va_P D vwCl ws U.heap ∧ va_K D vwCl ty U ∧ va_D (fun _ => True) ws)) (QT D (va_A ws sz) ws' rv) mc ms (va_A ws sz)
/-- what is fixed of the end of a walk -/
def Cz (E : CxT) (l : Launch) (D : va_G) (ty : List (ClassId × FieldType)) (fr lo : Nat) (ret : Option FieldType) (ws' : va_W) (rv : Option Value) (mc ms : Nat) : Prop :=
  xL E = l ∧ xD E = D ∧ xT E = ty ∧ xR E = { frames := fr, cells := mc, slots := ms, locals := lo } ∧ (xH E).sig.returnType = ret ∧ xQ E = MQ (xB E) (QT D (xF E) ws' rv) (xA E) (xS E) mc ms (xF E)
theorem CT.of {l : Launch} {D : va_G} {ty : List (ClassId × FieldType)} {y : MethodName} {cb : ByteArray} {nl : Nat} {ret : Option FieldType} {fr lo : Nat} {avs : List Value} {ws ws' : va_W} {rv : Option Value} {mc ms : Nat} (hy : plainName y.cls = true) (hav : (lg_sl avs).length ≤ nl)
    (h : ∀ E : CxT, Cx E y.cls cb nl → Cz E l D ty fr lo ret ws' rv mc ms → V E ws 0 (lv_args 0 avs) [] 0 0) : CT l D ty y cb nl ret fr lo avs ws ws' rv mc ms := by
  intro sz
  refine Met.ofW (cc := cb) (maxL := nl) (ret := ret) hy rfl ?_
  intro p e s m args below meth c s₁ B hml hv
  obtain ⟨rfl, hsz, hP, hK, hD0⟩ := hv
  have hts := atoms_spec (ws := .code y cb nl ret :: WB) B.pre
  have hown : s.vm.findClass y.cls = some m.cls := findClass_of_methodNamed B.named
  subst hsz
  have hD := hD0.self (sz := s.heap.size)
  rw [lg_entry_eq]
  have hl := lv_entry avs (n := nl) hav
  refine h (p, l, e, { frames := fr, cells := mc, slots := ms, locals := lo }, s, m, avs.toArray, below, meth, c, D, va_A ws s.heap.size, MQ below (QT D (va_A ws s.heap.size) ws' rv) avs.toArray s mc ms (va_A ws s.heap.size), nl, ty) ?_ ?_ s.heap [] _ hl hP hD va_S.rf
  · exact ⟨B.exec, B.bytes, ⟨hml, rfl⟩, hown, fun w hw => hts w (List.mem_cons_of_mem _ hw), hK, fun q hq => Or.inr hq, B.notSynchronized⟩
  · exact ⟨rfl, rfl, rfl, rfl, B.returns, rfl⟩
section VZ
variable {E : CxT} {own : String} {cc : ByteArray} {nl : Nat} {ws : va_W} {pc : Nat} {lv : List (Nat × Value)} {st : List Value} {k n : Nat} {l : Launch} {D : va_G} {ty : List (ClassId × FieldType)} {fr lo : Nat} {ret : Option FieldType} {ws' : va_W} {rv : Option Value} {mc ms : Nat}
theorem V_iret (hc : Cx E own cc nl) {v : Int32} {t0 : FieldType} (hz : Cz E l D ty fr lo (some t0) ws' rv mc ms) (hn : narrow t0 (.int v) = .int v) (hw : ws = ws') (hv : some (.int v) = rv) (h1 : k = mc) (h2 : n = ms) (hdg : decode cc pc = .ok (.ireturn, 1)) : V E ws pc lv [.int v] k n := by
  intro H locs ls h hP hD hS
  subst hw hv h1 h2
  obtain ⟨-, z2, -, -, z5, z6⟩ := hz
  rw [z6]
  exact W.zret hc.1 hc.2.1 z5 hn (fun t ht hW => ⟨rfl, by rw [ht, ← z2]; exact hP, hD, hS.F ht⟩) hS.2.2 hdg hc.2.2.2.2.2.2.2
theorem V_vret (hc : Cx E own cc nl) (hz : Cz E l D ty fr lo none ws' rv mc ms) (hw : ws = ws') (hv : none = rv) (h1 : k = mc) (h2 : n = ms) (hdg : decode cc pc = .ok (.return_, 1)) : V E ws pc lv [] k n := by
  intro H locs ls h hP hD hS
  subst hw hv h1 h2
  obtain ⟨-, z2, -, -, z5, z6⟩ := hz
  rw [z6]
  exact W.vret hc.1 hc.2.1 z5 (fun t ht hW => ⟨rfl, by rw [ht, ← z2]; exact hP, hD, hS.F ht⟩) hS.2.2 hdg hc.2.2.2.2.2.2.2
theorem V_run {y : MethodName} {rest : List Value} {g : JFrame} {mc' ms' : Nat} {a : Array Value} {w1 : va_W} {rv1 : Option Value} {H : Heap} {locs : List Loc} {ls : Array Slot} (hr : va_Run (xP E) (xL E) (xE E) (xR E) (xS E) (xM E) (xA E) (xB E) (xH E) (xC E) H locs k n mc' ms' (F0 (xM E) pc ls st) rest (QT (xD E) (va_A ws H.size) w1 rv1 a) (va_A ws H.size)) (hF : ∀ q, va_A ws H.size q → xF E q) (h : lv_has ls (xN E) lv) (hS : va_S (xF E) (xS E).heap H locs) (kk : V E w1 (pc + 3) lv (rv1.toList ++ rest) (k + mc') (n + ms')) :
    W (xP E) (xL E) (xE E) (xR E) (xS E) (xM E) (xA E) (xB E) (xH E) (xC E) H locs k n (xQ E) (F0 (xM E) pc ls st) := by
  intro T hT X
  obtain ⟨v, st₀, t, T', L, h0, X', hL, e1, e2, ⟨hv, hP1, hD1, hz, hk⟩, hgo⟩ := hr T hT X
  cases hv
  rw [h0] at hz hk
  obtain ⟨t2, a1, b1⟩ := kk T'.heap (locs ++ L) ls h (by rw [e1]; exact hP1) (hD1.weaken (fun _ q _ h => hF q.1 h))
    ⟨Nat.le_trans hS.1 (by rw [e1]; exact hz), fun q h1 h2 => by rw [e1, hk q (Nat.lt_of_lt_of_le h1 hS.1) (fun z => h2 (hF q z))]; exact hS.2.1 q h1 h2, fun q hq => by
      rcases List.mem_append.mp hq with h | h
      · exact hS.2.2 q h
      · exact hF _ (hL q h)⟩ T' rfl X'
  exact ⟨t2, hgo t2 a1, b1⟩
end VZ
theorem gW {w : Cond} (h : w ∈ WB) : w ∈ WB ∧ ((w.onTables && w.keeps) = true ∨ ∃ ty, w = .arrayClass ty) := ⟨h, good_of_word (List.mem_filter.mp h).2⟩
theorem gV {own C : String} {index : Nat} {y : MethodName} {w0 : Cond} (h1 : Cond.methodLink own index y ∈ WB) (h2 : Cond.instanceMethod y ∈ WB) (h3 : Cond.selects C y y ∈ WB) (h4 : Cond.initialized C ∈ WB) (h5 : w0 ∈ WB) : GoodIn WB (wsV own index C y (w0 :: WB)) := by
  intro w hw
  rcases List.mem_append.mp hw with hw | hw
  · rcases List.mem_cons.mp hw with rfl | hw
    · exact gW h1
    rcases List.mem_cons.mp hw with rfl | hw
    · exact gW h2
    rcases List.mem_cons.mp hw with rfl | hw
    · exact gW h3
    rcases List.mem_cons.mp hw with rfl | hw
    · exact gW h4
    exact absurd hw List.not_mem_nil
  · rcases List.mem_cons.mp hw with rfl | hw
    · exact gW h5
    · exact gW hw
theorem gS {own : String} {index : Nat} {y : MethodName} {w0 : Cond} (h1 : Cond.methodLink own index y ∈ WB) (h2 : Cond.static y ∈ WB) (h4 : Cond.initialized own ∈ WB) (h5 : w0 ∈ WB) : GoodIn WB (wsS own index y (w0 :: WB)) := by
  intro w hw
  rcases List.mem_append.mp hw with hw | hw
  · rcases List.mem_cons.mp hw with rfl | hw
    · exact gW h1
    rcases List.mem_cons.mp hw with rfl | hw
    · exact gW h2
    rcases List.mem_cons.mp hw with rfl | hw
    · exact gW h4
    exact absurd hw List.not_mem_nil
  · rcases List.mem_cons.mp hw with rfl | hw
    · exact gW h5
    · exact gW hw
theorem gI {w0 : Cond} (h5 : w0 ∈ WB) : GoodIn WB (w0 :: WB) := by
  intro w hw
  rcases List.mem_cons.mp hw with rfl | hw
  · exact gW h5
  · exact gW hw
section VC
variable {E : CxT} {own : String} {cc : ByteArray} {nl : Nat} {ws : va_W} {pc : Nat} {lv : List (Nat × Value)} {st stk : List Value} {k n : Nat} {l : Launch} {D : va_G} {ty : List (ClassId × FieldType)} {fr lo : Nat} {ret : Option FieldType} {ws' : va_W} {rv : Option Value} {mc ms : Nat}
variable {y : MethodName} {cb : ByteArray} {nl' : Nat} {ret' : Option FieldType} {fr' lo' : Nat} {As : List Value} {b : Nat} {w1 : va_W} {rv1 : Option Value} {mc' ms' : Nat} {C : String} {index n' : Nat} {ci q0 : Nat} {fs : List Value} {vc : vw_C}
theorem V_free (hc : Cx E own cc nl) {H : Heap} {locs : List Loc} (hD : va_D (xF E) ws) (hS : va_S (xF E) (xS E).heap H locs) : ∀ q, va_A ws H.size q → xF E q := by
  rintro q (⟨i, e, he⟩ | hq)
  · exact hD.2 i _ he
  · exact hc.2.2.2.2.2.2.1 q (Nat.le_trans hS.1 hq)
theorem V_callV (hc : Cx E own cc nl) (hz : Cz E l D ty fr lo ret ws' rv mc ms) (hM : CT l D ty y cb nl' ret' fr' lo' (.ref b :: As) ws w1 rv1 mc' ms')
    (h1 : Cond.methodLink own index y ∈ WB) (h2 : Cond.instanceMethod y ∈ WB) (h3 : Cond.selects C y y ∈ WB) (h4 : Cond.initialized C ∈ WB) (h5 : Cond.code y cb nl' ret' ∈ WB)
    (hd : y.cls = C ∧ y.cls ≠ "java/lang/invoke/MethodHandle" ∧ y.cls ≠ "java/lang/invoke/VarHandle" ∧ (parseMethodDescriptor y.desc).map (fun d => d.parameters.length) = some n')
    (hR : fr' + 1 ≤ fr ∧ 8 + (nl' + 11) + lo' ≤ lo) (hq : ws[q0]? = some (b, .inr (ci, fs))) (hcl : vwCl[ci]? = some vc) (hC : vc.1 = C) (hn : As.length = n') (hst : stk = As.reverse ++ .ref b :: st) (hroom : (st.map fun v => v.category).sum ≤ 8)
    (hf : k + mc' ≤ mc ∧ n + ms' ≤ ms) (hdg : decode cc pc = .ok (.invokevirtual index, 3)) (kk : V E w1 (pc + 3) lv (rv1.toList ++ st) (k + mc') (n + ms')) : V E ws pc lv stk k n := by
  intro H locs ls h hP hD hS
  obtain ⟨z1, z2, z3, z4, z5, z6⟩ := hz
  subst z1 z2 z3 hC
  have hK := hc.2.2.2.2.2.1
  exact V_run (y := y) (g := F0 (xM E) pc ls stk) (hr := va_runV (As := As) (rest := st) (b := b) ⟨hc.1, hc.2.1, hc.2.2.1.1, hc.2.2.2.1, hc.2.2.2.2.1⟩ (hM H.size) (cwV n' hc.2.2.2.2.1 (gV h1 h2 h3 h4 h5) rfl rfl rfl hd (by rw [z4]; exact hR))
    ⟨fun a U g mk q => by obtain ⟨q0, q1, qP, qK, qD⟩ := q; exact ⟨q0, q1, qP, va_K.moved (u := U) (U := U.calling g mk a) (Vm.Alike.refl U.vm) qK, qD⟩, va_recv hK hP hcl hq, fun U hU hW => ⟨rfl, by rw [hU], by rw [hU]; exact hP, va_K.moved hW.alike hK, hD.weaken (fun _ _ _ _ => trivial)⟩⟩ rfl hn h.1 hst (lv_room hroom) hdg (by rw [z4]; exact hf)) (V_free hc hD hS) h hS kk
theorem V_callS (hc : Cx E own cc nl) (hz : Cz E l D ty fr lo ret ws' rv mc ms) (hM : CT l D ty y cb nl' ret' fr' lo' As ws w1 rv1 mc' ms')
    (h1 : Cond.methodLink own index y ∈ WB) (h2 : Cond.static y ∈ WB) (h4 : Cond.initialized own ∈ WB) (h5 : Cond.code y cb nl' ret' ∈ WB)
    (hd : y.cls = own ∧ y.cls ≠ "java/lang/invoke/MethodHandle" ∧ y.cls ≠ "java/lang/invoke/VarHandle" ∧ (parseMethodDescriptor y.desc).map (fun d => d.parameters.length) = some n')
    (hR : fr' + 1 ≤ fr ∧ 8 + (nl' + 11) + lo' ≤ lo) (hn : As.length = n') (hst : stk = As.reverse ++ st) (hroom : (st.map fun v => v.category).sum ≤ 8)
    (hf : k + mc' ≤ mc ∧ n + ms' ≤ ms) (hdg : decode cc pc = .ok (.invokestatic index, 3)) (kk : V E w1 (pc + 3) lv (rv1.toList ++ st) (k + mc') (n + ms')) : V E ws pc lv stk k n := by
  intro H locs ls h hP hD hS
  obtain ⟨z1, z2, z3, z4, z5, z6⟩ := hz
  subst z1 z2 z3
  have hK := hc.2.2.2.2.2.1
  exact V_run (y := y) (g := F0 (xM E) pc ls stk) (hr := va_runS (As := As) (rest := st) ⟨hc.1, hc.2.1, hc.2.2.1.1, hc.2.2.2.1, hc.2.2.2.2.1⟩ (hM H.size) (cwS n' hc.2.2.2.2.1 (gS h1 h2 h4 h5) rfl rfl rfl hd (by rw [z4]; exact hR))
    ⟨fun a U g mk q => by obtain ⟨q0, q1, qP, qK, qD⟩ := q; exact ⟨q0, q1, qP, va_K.moved (u := U) (U := U.calling g mk a) (Vm.Alike.refl U.vm) qK, qD⟩, fun U hU hW => ⟨rfl, by rw [hU], by rw [hU]; exact hP, va_K.moved hW.alike hK, hD.weaken (fun _ _ _ _ => trivial)⟩⟩ rfl hn h.1 hst (lv_room hroom) hdg (by rw [z4]; exact hf)) (V_free hc hD hS) h hS kk
end VC
