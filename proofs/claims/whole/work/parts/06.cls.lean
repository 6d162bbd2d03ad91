/-- the class's cells: addresses, kinds, int fields, reference fields, lengths, int arrays, reference arrays, how many cells the heap has, how many slots are counted -/
abbrev CS : Type := List Nat × (Nat → Nat) × (Nat → Nat → Int32) × (Nat → Nat → Option Nat) × (Nat → Nat) × (Nat → Nat → Int32) × (Nat → Nat → Option Nat) × Nat × Nat
abbrev cL (S : CS) : List Nat := S.1
abbrev cK (S : CS) : Nat → Nat := S.2.1
abbrev cI (S : CS) : Nat → Nat → Int32 := S.2.2.1
abbrev cJ (S : CS) : Nat → Nat → Option Nat := S.2.2.2.1
abbrev cN (S : CS) : Nat → Nat := S.2.2.2.2.1
abbrev cA (S : CS) : Nat → Nat → Int32 := S.2.2.2.2.2.1
abbrev cB (S : CS) : Nat → Nat → Option Nat := S.2.2.2.2.2.2.1
abbrev cZ (S : CS) : Nat := S.2.2.2.2.2.2.2.1
abbrev cU (S : CS) : Nat := S.2.2.2.2.2.2.2.2
def setI (S : CS) (a k : Nat) (v : Int32) : CS := (S.1, S.2.1, va_up S.2.2.1 a (va_up (S.2.2.1 a) k v), S.2.2.2)
def setJ (S : CS) (a k : Nat) (v : Option Nat) : CS := (S.1, S.2.1, S.2.2.1, va_up S.2.2.2.1 a (va_up (S.2.2.2.1 a) k v), S.2.2.2.2)
def setA (S : CS) (a : Nat) (f : Nat → Int32) : CS := (S.1, S.2.1, S.2.2.1, S.2.2.2.1, S.2.2.2.2.1, va_up S.2.2.2.2.2.1 a f, S.2.2.2.2.2.2)
def setB (S : CS) (a : Nat) (f : Nat → Option Nat) : CS := (S.1, S.2.1, S.2.2.1, S.2.2.2.1, S.2.2.2.2.1, S.2.2.2.2.2.1, va_up S.2.2.2.2.2.2.1 a f, S.2.2.2.2.2.2.2)
/-- a new object of kind ci with n fields; a new array of kind ck and length n -/
def bornO (S : CS) (ci n : Nat) : CS := (S.1 ++ [cZ S], va_up S.2.1 (cZ S) ci, va_up S.2.2.1 (cZ S) (fun _ => 0), va_up S.2.2.2.1 (cZ S) (fun _ => none), S.2.2.2.2.1, S.2.2.2.2.2.1, S.2.2.2.2.2.2.1, cZ S + 1, cU S + n)
def bornA (S : CS) (ck n : Nat) : CS := (S.1 ++ [cZ S], va_up S.2.1 (cZ S) ck, S.2.2.1, S.2.2.2.1, va_up S.2.2.2.2.1 (cZ S) n, va_up S.2.2.2.2.2.1 (cZ S) (fun _ => 0), va_up S.2.2.2.2.2.2.1 (cZ S) (fun _ => none), cZ S + 1, cU S + n)
/-- the kind of a cell, 99 where there is none -/
def kd (S : CS) (a : Nat) : Nat := if a ∈ cL S then cK S a else 99
/-- the fields of a kind of objects: whether a reference, which -/
def ft : Nat → List (Bool × Nat) := fun k => match k with
  | 0 => [(true, 0), (true, 1), (true, 2), (true, 3), (true, 4), (true, 5), (false, 6), (false, 7), (false, 8), (false, 9)]
  | 1 => [(true, 0), (true, 1), (true, 2), (true, 3), (true, 4), (true, 5), (true, 6), (false, 7), (false, 8), (false, 9), (false, 10), (false, 11), (false, 12), (false, 13), (false, 14)]
  | 2 => [(true, 0), (false, 1), (false, 2), (false, 3)]
  | 3 => [(true, 0), (false, 1)]
  | 4 => [(true, 0), (false, 1)]
  | 5 => [(true, 0), (false, 1), (false, 2), (false, 3)]
  | 6 => [(true, 0), (true, 1), (true, 2)]
  | 7 => [(true, 0), (false, 1)]
  | 8 => [(true, 0), (false, 1), (false, 2), (false, 3), (false, 4), (false, 5), (false, 6), (true, 7), (false, 8), (true, 9), (true, 10), (false, 11)]
  | 9 => [(true, 0), (true, 1), (true, 2), (true, 3), (true, 4), (true, 5), (true, 6)]
  | 10 => [(true, 0), (true, 1), (true, 2), (true, 3), (true, 4), (false, 5), (false, 6), (false, 7), (false, 8), (false, 9), (false, 10), (false, 11)]
  | 11 => [(true, 0), (true, 1), (true, 2), (true, 3), (true, 4), (true, 5), (true, 6), (true, 7), (true, 8), (true, 9), (true, 10), (false, 11), (false, 12), (false, 13)]
  | _ => []
def fv (S : CS) (a : Nat) : Bool × Nat → Value := fun p => if p.1 then va_rf (cJ S a p.2) else .int (cI S a p.2)
def cE (y : CyT) (S : CS) (a : Nat) : va_E :=
  if cK S a = 14 then .inl (y.2.1, cN S a, .inl (cA S a))
  else if cK S a = 16 then .inl (y.2.2.2.1, cN S a, .inr (.inr (.inr (.inr (cB S a)))))
  else if cK S a = 17 then .inl (y.2.2.2.2.1, cN S a, .inr (.inr (.inr (.inr (cB S a)))))
  else if cK S a = 18 then .inl (y.2.2.2.2.2.1, cN S a, .inr (.inr (.inr (.inr (cB S a)))))
  else if cK S a = 19 then .inl (y.2.2.2.2.2.2.1, cN S a, .inr (.inr (.inr (.inr (cB S a)))))
  else .inr (cK S a, (ft (cK S a)).map (fv S a))
/-- the class's world -/
def cw (y : CyT) (S : CS) : va_W := va_pl (cL S) (cE y S)
/-- reads and writes; none where the cell isn't of that kind, or the place isn't there -/
def gi (S : CS) (ci a k : Nat) : Option Int32 := if kd S a = ci then some (cI S a k) else none
def gr (S : CS) (ci a k : Nat) : Option Nat := if kd S a = ci then cJ S a k else none
def pi (S : CS) (ci a k : Nat) (v : Int32) : Option CS := if kd S a = ci then some (setI S a k v) else none
def pr (S : CS) (ci a k b : Nat) : Option CS := if kd S a = ci then some (setJ S a k (some b)) else none
def ldi (S : CS) (a : Nat) (i : Int32) : Option Int32 := if kd S a = 14 ∧ ¬ (i < 0 ∨ cN S a ≤ i.toNatClampNeg) then some (cA S a i.toNatClampNeg) else none
def sti (S : CS) (a : Nat) (i v : Int32) : Option CS := if kd S a = 14 ∧ ¬ (i < 0 ∨ cN S a ≤ i.toNatClampNeg) then some (setA S a (upd (cA S a) i.toNatClampNeg v)) else none
def ldn (S : CS) (ck a : Nat) (i : Int32) : Option (Option Nat) := if kd S a = ck ∧ ¬ (i < 0 ∨ cN S a ≤ i.toNatClampNeg) then some (cB S a i.toNatClampNeg) else none
def ldr (S : CS) (ck a : Nat) (i : Int32) : Option Nat := if kd S a = ck ∧ ¬ (i < 0 ∨ cN S a ≤ i.toNatClampNeg) then cB S a i.toNatClampNeg else none
def str (S : CS) (ck cv a : Nat) (i : Int32) (b : Nat) : Option CS := if (kd S a = ck ∧ kd S b = cv) ∧ ¬ (i < 0 ∨ cN S a ≤ i.toNatClampNeg) then some (setB S a (va_up (cB S a) i.toNatClampNeg (some b))) else none
def aln (S : CS) (ck a : Nat) : Option Int32 := if kd S a = ck then some (Int32.ofNat (cN S a)) else none
def nwo (X : Nat × Nat) (S : CS) (ci n : Nat) : Option CS := if cZ S < X.1 ∧ cU S + n ≤ X.2 then some (bornO S ci n) else none
def nwa (X : Nat × Nat) (S : CS) (ck : Nat) (n : Int32) : Option CS := if (cZ S < X.1 ∧ cU S + n.toNatClampNeg ≤ X.2) ∧ ¬ n < 0 then some (bornA S ck n.toNatClampNeg) else none
def cpy (S : CS) (a : Nat) (sp : Int32) (b : Nat) (dp n : Int32) : Option CS :=
  if (kd S a = 14 ∧ kd S b = 14) ∧ (¬ sp < 0 ∧ ¬ dp < 0 ∧ ¬ n < 0) ∧ sp.toNatClampNeg + n.toNatClampNeg ≤ cN S a ∧ dp.toNatClampNeg + n.toNatClampNeg ≤ cN S b
  then some (setA S b (va_cpy (cA S a) (cA S b) sp.toNatClampNeg dp.toNatClampNeg n.toNatClampNeg)) else none
theorem og {α : Type} {p : Prop} [Decidable p] {o : Option α} {v : α} (h : (if p then o else none) = some v) : p ∧ o = some v := by
  by_cases hp : p
  · rw [if_pos hp] at h; exact ⟨hp, h⟩
  · rw [if_neg hp] at h; cases h
theorem kd_in {S : CS} {a ci : Nat} (h : kd S a = ci) (hci : ci < 99) : a ∈ cL S ∧ cK S a = ci := by
  unfold kd at h
  split at h
  · rename_i hh; exact ⟨hh, h⟩
  · omega
theorem cE_obj {y : CyT} {S : CS} {a ci : Nat} (h : cK S a = ci) (hci : ci < 12) : cE y S a = .inr (ci, (ft ci).map (fv S a)) := by
  unfold cE
  rw [if_neg (by omega), if_neg (by omega), if_neg (by omega), if_neg (by omega), if_neg (by omega), h]
theorem cE_int {y : CyT} {S : CS} {a : Nat} (h : cK S a = 14) : cE y S a = .inl (y.2.1, cN S a, .inl (cA S a)) := by unfold cE; rw [if_pos h]
/-- the array class of a kind of reference arrays -/
def cyR (y : CyT) (ck : Nat) : ClassId := if ck = 16 then y.2.2.2.1 else if ck = 17 then y.2.2.2.2.1 else if ck = 18 then y.2.2.2.2.2.1 else y.2.2.2.2.2.2.1
theorem cE_ref {y : CyT} {S : CS} {a ck : Nat} (h : cK S a = ck) (h1 : 16 ≤ ck) (h2 : ck ≤ 19) : cE y S a = .inl (cyR y ck, cN S a, .inr (.inr (.inr (.inr (cB S a))))) := by
  unfold cE cyR
  rcases (show ck = 16 ∨ ck = 17 ∨ ck = 18 ∨ ck = 19 by omega) with rfl | rfl | rfl | rfl <;> simp [h]
theorem cw_get {y : CyT} {S : CS} {a : Nat} (h : a ∈ cL S) : ∃ k : Nat, (cw y S)[k]? = some (a, cE y S a) := va_pl_get (X := []) h
theorem cw_set {A : Nat → Prop} {y : CyT} {S S1 : CS} {a k : Nat} {e : va_E} (hD : va_D A (cw y S)) (h : a ∈ cL S) (hk : (cw y S)[k]? = some (a, cE y S a)) (hL : cL S1 = cL S) (he : ∀ b, va_up (cE y S) a e b = cE y S1 b) : (cw y S).set k (a, e) = cw y S1 := by
  have h1 := va_pl_set (X := []) (e := e) hD h hk
  unfold cw
  rw [hL, show (va_pl (cL S) (cE y S)).set k (a, e) = va_pl (cL S) (va_up (cE y S) a e) from h1]
  exact va_pl_congr he
def okl : List (Bool × Nat) → Nat → Bool
  | [], _ => true
  | p :: l, n => p.2 == n && okl l (n + 1)
theorem okl_ix : ∀ (l : List (Bool × Nat)) (n : Nat), okl l n = true → ∀ (j : Nat) (p : Bool × Nat), l[j]? = some p → p.2 = n + j := by
  intro l
  induction l with
  | nil => intro n _ j p h; simp at h
  | cons a l ih =>
    intro n hk j p h
    simp only [okl, Bool.and_eq_true, beq_iff_eq] at hk
    cases j with
    | zero =>
      have h1 : a = p := by simpa using h
      subst h1
      simpa using hk.1
    | succ j =>
      have h1 := ih (n + 1) hk.2 j p (by simpa using h)
      omega
theorem ft_ok : ∀ ci : Nat, okl (ft ci) 0 = true := by
  intro ci
  unfold ft
  split <;> rfl
theorem ft_ix (ci j : Nat) (p : Bool × Nat) (h : (ft ci)[j]? = some p) : p.2 = j := by
  have h1 := okl_ix (ft ci) 0 (ft_ok ci) j p h
  omega

theorem fs_setI {S : CS} {a k : Nat} {v : Int32} {ci : Nat} (hft : (ft ci)[k]? = some (false, k)) : ((ft ci).map (fv S a)).set k (.int v) = (ft ci).map (fv (setI S a k v) a) := by
  apply List.ext_getElem?
  intro j
  have hl : k < ((ft ci).map (fv S a)).length := by rw [List.length_map]; exact (List.getElem?_eq_some_iff.mp hft).1
  by_cases hj : j = k
  · subst hj
    rw [List.getElem?_set_self hl, List.getElem?_map, hft]
    simp [fv, setI, cI, cJ, va_up]
  · rw [List.getElem?_set_ne (Ne.symm hj), List.getElem?_map, List.getElem?_map]
    cases hp : (ft ci)[j]? with
    | none => rfl
    | some p =>
      have h1 := ft_ix _ _ _ hp
      have h2 : p.2 ≠ k := by rw [h1]; exact hj
      simp [fv, setI, cI, cJ, va_up, h2]
theorem fs_setJ {S : CS} {a k : Nat} {v : Option Nat} {ci : Nat} (hft : (ft ci)[k]? = some (true, k)) : ((ft ci).map (fv S a)).set k (va_rf v) = (ft ci).map (fv (setJ S a k v) a) := by
  apply List.ext_getElem?
  intro j
  have hl : k < ((ft ci).map (fv S a)).length := by rw [List.length_map]; exact (List.getElem?_eq_some_iff.mp hft).1
  by_cases hj : j = k
  · subst hj
    rw [List.getElem?_set_self hl, List.getElem?_map, hft]
    simp [fv, setJ, cI, cJ, va_up]
  · rw [List.getElem?_set_ne (Ne.symm hj), List.getElem?_map, List.getElem?_map]
    cases hp : (ft ci)[j]? with
    | none => rfl
    | some p =>
      have h1 := ft_ix _ _ _ hp
      have h2 : p.2 ≠ k := by rw [h1]; exact hj
      simp [fv, setJ, cI, cJ, va_up, h2]
theorem up_setI {y : CyT} {S : CS} {a k ci : Nat} {v : Int32} (h : cK S a = ci) (hci : ci < 12) (hft : (ft ci)[k]? = some (false, k)) (b : Nat) : va_up (cE y S) a (.inr (ci, ((ft ci).map (fv S a)).set k (.int v))) b = cE y (setI S a k v) b := by
  by_cases hb : b = a
  · subst hb
    rw [va_up_self, fs_setI hft]
    exact (cE_obj (S := setI S b k v) h hci).symm
  · rw [va_up_ne _ _ hb]
    have h1 : cI (setI S a k v) b = cI S b := va_up_ne _ _ hb
    have h2 : fv (setI S a k v) b = fv S b := by funext p; simp only [fv, h1]; rfl
    unfold cE
    rw [h2]
    rfl
theorem up_setJ {y : CyT} {S : CS} {a k ci : Nat} {v : Option Nat} (h : cK S a = ci) (hci : ci < 12) (hft : (ft ci)[k]? = some (true, k)) (b : Nat) : va_up (cE y S) a (.inr (ci, ((ft ci).map (fv S a)).set k (va_rf v))) b = cE y (setJ S a k v) b := by
  by_cases hb : b = a
  · subst hb
    rw [va_up_self, fs_setJ hft]
    exact (cE_obj (S := setJ S b k v) h hci).symm
  · rw [va_up_ne _ _ hb]
    have h1 : cJ (setJ S a k v) b = cJ S b := va_up_ne _ _ hb
    have h2 : fv (setJ S a k v) b = fv S b := by funext p; simp only [fv, h1]; rfl
    unfold cE
    rw [h2]
    rfl
theorem up_setA {y : CyT} {S : CS} {a : Nat} {f : Nat → Int32} (h : cK S a = 14) (b : Nat) : va_up (cE y S) a (.inl (y.2.1, cN S a, .inl f)) b = cE y (setA S a f) b := by
  by_cases hb : b = a
  · subst hb
    rw [va_up_self, cE_int (S := setA S b f) h]
    have h1 : cA (setA S b f) b = f := va_up_self _ _ _
    rw [h1]
    rfl
  · rw [va_up_ne _ _ hb]
    have h1 : cA (setA S a f) b = cA S b := va_up_ne _ _ hb
    unfold cE
    rw [h1]
    rfl
theorem up_setB {y : CyT} {S : CS} {a ck : Nat} {f : Nat → Option Nat} (h : cK S a = ck) (h1 : 16 ≤ ck) (h2 : ck ≤ 19) (b : Nat) : va_up (cE y S) a (.inl (cyR y ck, cN S a, .inr (.inr (.inr (.inr f))))) b = cE y (setB S a f) b := by
  by_cases hb : b = a
  · subst hb
    rw [va_up_self, cE_ref (S := setB S b f) h h1 h2]
    have h1 : cB (setB S b f) b = f := va_up_self _ _ _
    rw [h1]
    rfl
  · rw [va_up_ne _ _ hb]
    have h1 : cB (setB S a f) b = cB S b := va_up_ne _ _ hb
    unfold cE
    rw [h1]
    rfl
section CR
variable {E : CxT} {own : String} {cc : ByteArray} {nl : Nat} {pc : Nat} {lv : List (Nat × Value)} {st : List Value} {y : CyT} {S : CS}
theorem C_geti (hc : Cx E own cc nl) {ci N : Nat} {C : String} {T : u_T} (hcl : vwCl[ci]? = some (C, T, N)) (hin : ∀ w ∈ u_ws C T N, w ∈ WB) (hci : ci < 12) {a : Nat} (kf : Nat) (hk : kf < N) (hft : (ft ci)[kf]? = some (false, kf)) {v : Int32} (hv : gi S ci a kf = some v) {index : Nat} (hlink : Cond.fieldLink own index (T kf).1 (T kf).2.1 (T kf).2.2.1 ∈ WB) (hdg : decode cc pc = .ok (.getfield index, 3)) (kk : V E (cZ S) (cU S) (cw y S) (pc + 3) lv (.int v :: st)) : V E (cZ S) (cU S) (cw y S) pc lv (.ref a :: st) := by
  obtain ⟨h1, h2⟩ := og hv
  obtain ⟨h3, h4⟩ := kd_in h1 (by omega)
  obtain ⟨q0, hq⟩ := cw_get (y := y) h3
  rw [cE_obj h4 hci] at hq
  exact V_get hc hcl hin q0 hq kf hk hlink (by rw [List.getElem?_map, hft, ← Option.some.inj h2]; rfl) hdg kk
theorem C_getr (hc : Cx E own cc nl) {ci N : Nat} {C : String} {T : u_T} (hcl : vwCl[ci]? = some (C, T, N)) (hin : ∀ w ∈ u_ws C T N, w ∈ WB) (hci : ci < 12) {a : Nat} (kf : Nat) (hk : kf < N) (hft : (ft ci)[kf]? = some (true, kf)) {v : Nat} (hv : gr S ci a kf = some v) {index : Nat} (hlink : Cond.fieldLink own index (T kf).1 (T kf).2.1 (T kf).2.2.1 ∈ WB) (hdg : decode cc pc = .ok (.getfield index, 3)) (kk : V E (cZ S) (cU S) (cw y S) (pc + 3) lv (.ref v :: st)) : V E (cZ S) (cU S) (cw y S) pc lv (.ref a :: st) := by
  obtain ⟨h1, h2⟩ := og hv
  obtain ⟨h3, h4⟩ := kd_in h1 (by omega)
  obtain ⟨q0, hq⟩ := cw_get (y := y) h3
  rw [cE_obj h4 hci] at hq
  exact V_get hc hcl hin q0 hq kf hk hlink (by rw [List.getElem?_map, hft]; simp [fv, h2, va_rf]) hdg kk
theorem C_puti (hc : Cx E own cc nl) {ci N : Nat} {C : String} {T : u_T} (hcl : vwCl[ci]? = some (C, T, N)) (hin : ∀ w ∈ u_ws C T N, w ∈ WB) (ty0 : Nat → FieldType) (hty : ∀ k, k < N → parseFieldDescriptor (T k).2.2.1 = some (ty0 k)) (hnm : ∀ a, a < N → ∀ b, b < N → a ≠ b → (T a).2.1 ≠ (T b).2.1) (hci : ci < 12) {a : Nat} (kf : Nat) (hk : kf < N) (hft : (ft ci)[kf]? = some (false, kf)) {v : Int32} {S1 : CS} (hv : pi S ci a kf v = some S1) {index : Nat} (hlink : Cond.fieldLink own index (T kf).1 (T kf).2.1 (T kf).2.2.1 ∈ WB) (hfin : (T kf).2.2.2 = false) (hn : narrow (ty0 kf) (.int v) = .int v) (hfit : fits (ty0 kf) (.int v) = true) (hdg : decode cc pc = .ok (.putfield index, 3)) (kk : V E (cZ S1) (cU S1) (cw y S1) (pc + 3) lv st) : V E (cZ S) (cU S) (cw y S) pc lv (.int v :: .ref a :: st) := by
  obtain ⟨h1, h2⟩ := og hv
  obtain rfl := Option.some.inj h2
  obtain ⟨h3, h4⟩ := kd_in h1 (by omega)
  obtain ⟨q0, hq⟩ := cw_get (y := y) h3
  intro H locs ls h hP hD hS hZ
  have hq2 := hq
  rw [cE_obj h4 hci] at hq2
  exact V_put hc hcl hin ty0 hty hnm q0 hq2 kf hk hlink hfin hn hfit (by rw [List.length_map]; exact (List.getElem?_eq_some_iff.mp hft).1) (cw_set (S1 := setI S a kf v) hD h3 hq rfl (up_setI h4 hci hft)) hdg kk H locs ls h hP hD hS hZ
theorem C_putr (hc : Cx E own cc nl) {ci N : Nat} {C : String} {T : u_T} (hcl : vwCl[ci]? = some (C, T, N)) (hin : ∀ w ∈ u_ws C T N, w ∈ WB) (ty0 : Nat → FieldType) (hty : ∀ k, k < N → parseFieldDescriptor (T k).2.2.1 = some (ty0 k)) (hnm : ∀ a, a < N → ∀ b, b < N → a ≠ b → (T a).2.1 ≠ (T b).2.1) (hci : ci < 12) {a : Nat} (kf : Nat) (hk : kf < N) (hft : (ft ci)[kf]? = some (true, kf)) {v : Nat} {S1 : CS} (hv : pr S ci a kf v = some S1) {index : Nat} (hlink : Cond.fieldLink own index (T kf).1 (T kf).2.1 (T kf).2.2.1 ∈ WB) (hfin : (T kf).2.2.2 = false) (hn : narrow (ty0 kf) (.ref v) = .ref v) (hfit : fits (ty0 kf) (.ref v) = true) (hdg : decode cc pc = .ok (.putfield index, 3)) (kk : V E (cZ S1) (cU S1) (cw y S1) (pc + 3) lv st) : V E (cZ S) (cU S) (cw y S) pc lv (.ref v :: .ref a :: st) := by
  obtain ⟨h1, h2⟩ := og hv
  obtain rfl := Option.some.inj h2
  obtain ⟨h3, h4⟩ := kd_in h1 (by omega)
  obtain ⟨q0, hq⟩ := cw_get (y := y) h3
  intro H locs ls h hP hD hS hZ
  have hq2 := hq
  rw [cE_obj h4 hci] at hq2
  exact V_put hc hcl hin ty0 hty hnm q0 hq2 kf hk hlink hfin hn hfit (by rw [List.length_map]; exact (List.getElem?_eq_some_iff.mp hft).1) (cw_set (S1 := setJ S a kf (some v)) hD h3 hq rfl (up_setJ (v := some v) h4 hci hft)) hdg kk H locs ls h hP hD hS hZ
theorem C_putrF (hc : Cx E own cc nl) (hnm2 : (xH E).name = "<init>") {ci N : Nat} {C : String} {T : u_T} (hcl : vwCl[ci]? = some (C, T, N)) (hin : ∀ w ∈ u_ws C T N, w ∈ WB) (ty0 : Nat → FieldType) (hty : ∀ k, k < N → parseFieldDescriptor (T k).2.2.1 = some (ty0 k)) (hnm : ∀ a, a < N → ∀ b, b < N → a ≠ b → (T a).2.1 ≠ (T b).2.1) (hci : ci < 12) {a : Nat} (kf : Nat) (hk : kf < N) (hft : (ft ci)[kf]? = some (true, kf)) {v : Nat} {S1 : CS} (hv : pr S ci a kf v = some S1) {index : Nat} (hlink : Cond.fieldLink own index (T kf).1 (T kf).2.1 (T kf).2.2.1 ∈ WB) (hfin : (T kf).2.2.2 = true) (hdecl : (T kf).1 = own) (hn : narrow (ty0 kf) (.ref v) = .ref v) (hfit : fits (ty0 kf) (.ref v) = true) (hdg : decode cc pc = .ok (.putfield index, 3)) (kk : V E (cZ S1) (cU S1) (cw y S1) (pc + 3) lv st) : V E (cZ S) (cU S) (cw y S) pc lv (.ref v :: .ref a :: st) := by
  obtain ⟨h1, h2⟩ := og hv
  obtain rfl := Option.some.inj h2
  obtain ⟨h3, h4⟩ := kd_in h1 (by omega)
  obtain ⟨q0, hq⟩ := cw_get (y := y) h3
  intro H locs ls h hP hD hS hZ
  have hq2 := hq
  rw [cE_obj h4 hci] at hq2
  exact V_putF hc hnm2 hcl hin ty0 hty hnm q0 hq2 kf hk hlink hfin hdecl hn hfit (by rw [List.length_map]; exact (List.getElem?_eq_some_iff.mp hft).1) (cw_set (S1 := setJ S a kf (some v)) hD h3 hq rfl (up_setJ (v := some v) h4 hci hft)) hdg kk H locs ls h hP hD hS hZ
theorem C_iald (hc : Cx E own cc nl) (hT : xT E = y) {a : Nat} {i v : Int32} (hv : ldi S a i = some v) (hdg : decode cc pc = .ok (.iaload, 1)) (kk : V E (cZ S) (cU S) (cw y S) (pc + 1) lv (.int v :: st)) : V E (cZ S) (cU S) (cw y S) pc lv (.int i :: .ref a :: st) := by
  obtain ⟨h1, h2⟩ := og hv
  obtain ⟨h3, h4⟩ := kd_in h1.1 (by omega)
  obtain ⟨q0, hq⟩ := cw_get (y := y) h3
  rw [cE_int h4] at hq
  rw [← Option.some.inj h2] at kk
  exact V_iald hc q0 1 hq (by rw [hT]; rfl) h1.2 hdg kk
theorem C_iast (hc : Cx E own cc nl) (hT : xT E = y) {a : Nat} {i v : Int32} {S1 : CS} (hv : sti S a i v = some S1) (hdg : decode cc pc = .ok (.iastore, 1)) (kk : V E (cZ S1) (cU S1) (cw y S1) (pc + 1) lv st) : V E (cZ S) (cU S) (cw y S) pc lv (.int v :: .int i :: .ref a :: st) := by
  obtain ⟨h1, h2⟩ := og hv
  obtain rfl := Option.some.inj h2
  obtain ⟨h3, h4⟩ := kd_in h1.1 (by omega)
  obtain ⟨q0, hq⟩ := cw_get (y := y) h3
  intro H locs ls h hP hD hS hZ
  have hq2 := hq
  rw [cE_int h4] at hq2
  exact V_iast hc q0 1 hq2 (by rw [hT]; rfl) h1.2 (cw_set (S1 := setA S a (upd (cA S a) i.toNatClampNeg v)) hD h3 hq rfl (up_setA h4)) hdg kk H locs ls h hP hD hS hZ
/-- where the array class of a kind is among the array classes, its objects' class -/
def cOb (ck : Nat) : String := if ck = 16 then "FarEditors$Editor" else if ck = 17 then "FarEditors$Op" else if ck = 18 then "FarEditors$Text" else "FarEditors$World"
theorem ty_ref {ck : Nat} (h1 : 16 ≤ ck) (h2 : ck ≤ 19) : (tyL y)[ck - 13]? = some (cyR y ck, .object (cOb ck)) := by
  rcases (show ck = 16 ∨ ck = 17 ∨ ck = 18 ∨ ck = 19 by omega) with rfl | rfl | rfl | rfl <;> rfl
theorem C_aaldn (hc : Cx E own cc nl) (hT : xT E = y) {ck a : Nat} (h6 : 16 ≤ ck) (h7 : ck ≤ 19) {i : Int32} {v : Option Nat} (hv : ldn S ck a i = some v) (hdg : decode cc pc = .ok (.aaload, 1)) (kk : V E (cZ S) (cU S) (cw y S) (pc + 1) lv (va_rf v :: st)) : V E (cZ S) (cU S) (cw y S) pc lv (.int i :: .ref a :: st) := by
  obtain ⟨h1, h2⟩ := og hv
  obtain ⟨h3, h4⟩ := kd_in h1.1 (by omega)
  obtain ⟨q0, hq⟩ := cw_get (y := y) h3
  rw [cE_ref h4 h6 h7] at hq
  rw [← Option.some.inj h2] at kk
  exact V_aald hc q0 (ck - 13) hq (by rw [hT]; exact ty_ref h6 h7) h1.2 hdg kk
theorem C_aald (hc : Cx E own cc nl) (hT : xT E = y) {ck a : Nat} (h6 : 16 ≤ ck) (h7 : ck ≤ 19) {i : Int32} {v : Nat} (hv : ldr S ck a i = some v) (hdg : decode cc pc = .ok (.aaload, 1)) (kk : V E (cZ S) (cU S) (cw y S) (pc + 1) lv (.ref v :: st)) : V E (cZ S) (cU S) (cw y S) pc lv (.int i :: .ref a :: st) := by
  obtain ⟨h1, h2⟩ := og hv
  exact C_aaldn hc hT h6 h7 (v := some v) (show ldn S ck a i = some (some v) by unfold ldn; rw [if_pos h1, h2]) hdg kk
theorem C_aast (hc : Cx E own cc nl) (hT : xT E = y) {ck cv a b : Nat} (h6 : 16 ≤ ck) (h7 : ck ≤ 19) {r : vw_C} (hcl : vwCl[cv]? = some r) (hr : r.1 = cOb ck) (hcv : cv < 12) {i : Int32} {S1 : CS} (hv : str S ck cv a i b = some S1) (hdg : decode cc pc = .ok (.aastore, 1)) (kk : V E (cZ S1) (cU S1) (cw y S1) (pc + 1) lv st) : V E (cZ S) (cU S) (cw y S) pc lv (.ref b :: .int i :: .ref a :: st) := by
  obtain ⟨h1, h2⟩ := og hv
  obtain rfl := Option.some.inj h2
  obtain ⟨h3, h4⟩ := kd_in h1.1.1 (by omega)
  obtain ⟨h3b, h4b⟩ := kd_in h1.1.2 (by omega)
  obtain ⟨q0, hq⟩ := cw_get (y := y) h3
  obtain ⟨q1, hq1⟩ := cw_get (y := y) h3b
  rw [cE_obj h4b hcv] at hq1
  intro H locs ls h hP hD hS hZ
  have hq2 := hq
  rw [cE_ref h4 h6 h7] at hq2
  exact V_aast hc q0 (ck - 13) q1 cv hq2 (by rw [hT, hr]; exact ty_ref h6 h7) hq1 hcl h1.2 (cw_set (S1 := setB S a (va_up (cB S a) i.toNatClampNeg (some b))) hD h3 hq rfl (up_setB h4 h6 h7)) hdg kk H locs ls h hP hD hS hZ
theorem C_alen (hc : Cx E own cc nl) (hT : xT E = y) {a : Nat} {v : Int32} (hv : aln S 14 a = some v) (hdg : decode cc pc = .ok (.arraylength, 1)) (kk : V E (cZ S) (cU S) (cw y S) (pc + 1) lv (.int v :: st)) : V E (cZ S) (cU S) (cw y S) pc lv (.ref a :: st) := by
  obtain ⟨h1, h2⟩ := og hv
  obtain ⟨h3, h4⟩ := kd_in h1 (by omega)
  obtain ⟨q0, hq⟩ := cw_get (y := y) h3
  rw [cE_int h4] at hq
  exact V_alen hc q0 1 hq (by rw [hT]; rfl) (Option.some.inj h2) hdg kk
theorem C_alenr (hc : Cx E own cc nl) (hT : xT E = y) {ck a : Nat} (h6 : 16 ≤ ck) (h7 : ck ≤ 19) {v : Int32} (hv : aln S ck a = some v) (hdg : decode cc pc = .ok (.arraylength, 1)) (kk : V E (cZ S) (cU S) (cw y S) (pc + 1) lv (.int v :: st)) : V E (cZ S) (cU S) (cw y S) pc lv (.ref a :: st) := by
  obtain ⟨h1, h2⟩ := og hv
  obtain ⟨h3, h4⟩ := kd_in h1 (by omega)
  obtain ⟨q0, hq⟩ := cw_get (y := y) h3
  rw [cE_ref h4 h6 h7] at hq
  exact V_alen hc q0 (ck - 13) hq (by rw [hT]; exact ty_ref h6 h7) (Option.some.inj h2) hdg kk
end CR
