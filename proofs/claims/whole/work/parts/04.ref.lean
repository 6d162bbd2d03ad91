/-- the reference: its int fields by number, its arrays by the field that holds them, its seed -/
abbrev MS : Type := (Nat → Int32) × (Nat → Nat → Int32) × Int64
abbrev gF (M : MS) (k : Nat) : Int32 := M.1 k
abbrev gA (M : MS) (k : Nat) : Nat → Int32 := M.2.1 k
def sF (M : MS) (k : Nat) (v : Int32) : MS := (upd M.1 k v, M.2.1, M.2.2)
def sA (M : MS) (k i : Nat) (v : Int32) : MS := (M.1, fun j => if j = k then upd (M.2.1 k) i v else M.2.1 j, M.2.2)
def sL (M : MS) (v : Int64) : MS := (M.1, M.2.1, v)
/-- the length of the array of a field -/
def mLn : Nat → Nat := fun k => match k with
  | 0 => 1600
  | 9 => 7
  | 10 => 4
  | 11 => 7
  | 12 => 5
  | 13 => 4
  | 14 => 4
  | 15 => 6
  | 16 => 4
  | 17 => 3
  | 18 => 2
  | 19 => 4
  | 20 => 700
  | 21 => 700
  | 22 => 700
  | 23 => 700
  | 24 => 700
  | 29 => 700
  | 30 => 10476
  | 35 => 40
  | 36 => 108
  | 37 => 108
  | 38 => 108
  | 39 => 108
  | 40 => 3000
  | 41 => 700
  | 47 => 300
  | 48 => 300
  | 50 => 300
  | 52 => 10476
  | 54 => 24
  | 55 => 6000
  | 57 => 32
  | 58 => 24
  | 60 => 209520
  | _ => 0
/-- where an array is in the world, its kind among the array classes -/
def mPo : Nat → Nat := fun k => match k with
  | 0 => 1
  | 9 => 2
  | 10 => 3
  | 11 => 4
  | 12 => 5
  | 13 => 6
  | 14 => 7
  | 15 => 8
  | 16 => 9
  | 17 => 10
  | 18 => 11
  | 19 => 12
  | 20 => 13
  | 21 => 14
  | 22 => 15
  | 23 => 16
  | 24 => 17
  | 29 => 18
  | 30 => 19
  | 35 => 20
  | 36 => 21
  | 37 => 22
  | 38 => 23
  | 39 => 24
  | 40 => 25
  | 41 => 26
  | 47 => 27
  | 48 => 28
  | 50 => 29
  | 52 => 30
  | 54 => 31
  | 55 => 32
  | 57 => 33
  | 58 => 34
  | 60 => 35
  | _ => 0
def mKi : Nat → Nat := fun k => match k with
  | 0 => 1
  | 9 => 1
  | 10 => 0
  | 11 => 0
  | 12 => 0
  | 13 => 0
  | 14 => 0
  | 15 => 0
  | 16 => 0
  | 17 => 0
  | 18 => 0
  | 19 => 0
  | 20 => 1
  | 21 => 1
  | 22 => 1
  | 23 => 1
  | 24 => 1
  | 29 => 1
  | 30 => 1
  | 35 => 1
  | 36 => 1
  | 37 => 1
  | 38 => 1
  | 39 => 1
  | 40 => 1
  | 41 => 1
  | 47 => 1
  | 48 => 1
  | 50 => 1
  | 52 => 1
  | 54 => 1
  | 55 => 1
  | 57 => 1
  | 58 => 2
  | 60 => 1
  | _ => 9
def mIs : Nat → Bool := fun k => match k with
  | 1 => true
  | 2 => true
  | 3 => true
  | 4 => true
  | 5 => true
  | 6 => true
  | 7 => true
  | 8 => true
  | 25 => true
  | 26 => true
  | 27 => true
  | 28 => true
  | 31 => true
  | 32 => true
  | 33 => true
  | 34 => true
  | 42 => true
  | 43 => true
  | 44 => true
  | 45 => true
  | 46 => true
  | 49 => true
  | 51 => true
  | 53 => true
  | 56 => true
  | 59 => true
  | 61 => true
  | 62 => true
  | _ => false
abbrev mFs (q : Nat → Nat) (M : MS) : List Value := [.ref (q 0), .int (M.1 1), .int (M.1 2), .int (M.1 3), .int (M.1 4), .int (M.1 5), .int (M.1 6), .int (M.1 7), .int (M.1 8), .ref (q 9), .ref (q 10), .ref (q 11), .ref (q 12), .ref (q 13), .ref (q 14), .ref (q 15), .ref (q 16), .ref (q 17), .ref (q 18), .ref (q 19), .ref (q 20), .ref (q 21), .ref (q 22), .ref (q 23), .ref (q 24), .int (M.1 25), .int (M.1 26), .int (M.1 27), .int (M.1 28), .ref (q 29), .ref (q 30), .int (M.1 31), .int (M.1 32), .int (M.1 33), .int (M.1 34), .ref (q 35), .ref (q 36), .ref (q 37), .ref (q 38), .ref (q 39), .ref (q 40), .ref (q 41), .int (M.1 42), .int (M.1 43), .int (M.1 44), .int (M.1 45), .int (M.1 46), .ref (q 47), .ref (q 48), .int (M.1 49), .ref (q 50), .int (M.1 51), .ref (q 52), .int (M.1 53), .ref (q 54), .ref (q 55), .int (M.1 56), .ref (q 57), .ref (q 58), .int (M.1 59), .ref (q 60), .int (M.1 61), .int (M.1 62), .long M.2.2]
/-- the world of the reference: the object at h, its arrays at q of their fields -/
def mw (h : Nat) (q : Nat → Nat) (y : CyT) (M : MS) : va_W := (h, .inr (12, mFs q M)) :: [(q 0, .inl (y.2.1, 1600, .inl (M.2.1 0))), (q 9, .inl (y.2.1, 7, .inl (M.2.1 9))), (q 10, .inl (y.1, 4, .inl (M.2.1 10))), (q 11, .inl (y.1, 7, .inl (M.2.1 11))), (q 12, .inl (y.1, 5, .inl (M.2.1 12))), (q 13, .inl (y.1, 4, .inl (M.2.1 13))), (q 14, .inl (y.1, 4, .inl (M.2.1 14))), (q 15, .inl (y.1, 6, .inl (M.2.1 15))), (q 16, .inl (y.1, 4, .inl (M.2.1 16))), (q 17, .inl (y.1, 3, .inl (M.2.1 17))), (q 18, .inl (y.1, 2, .inl (M.2.1 18))), (q 19, .inl (y.1, 4, .inl (M.2.1 19))), (q 20, .inl (y.2.1, 700, .inl (M.2.1 20))), (q 21, .inl (y.2.1, 700, .inl (M.2.1 21))), (q 22, .inl (y.2.1, 700, .inl (M.2.1 22))), (q 23, .inl (y.2.1, 700, .inl (M.2.1 23))), (q 24, .inl (y.2.1, 700, .inl (M.2.1 24))), (q 29, .inl (y.2.1, 700, .inl (M.2.1 29))), (q 30, .inl (y.2.1, 10476, .inl (M.2.1 30))), (q 35, .inl (y.2.1, 40, .inl (M.2.1 35))), (q 36, .inl (y.2.1, 108, .inl (M.2.1 36))), (q 37, .inl (y.2.1, 108, .inl (M.2.1 37))), (q 38, .inl (y.2.1, 108, .inl (M.2.1 38))), (q 39, .inl (y.2.1, 108, .inl (M.2.1 39))), (q 40, .inl (y.2.1, 3000, .inl (M.2.1 40))), (q 41, .inl (y.2.1, 700, .inl (M.2.1 41))), (q 47, .inl (y.2.1, 300, .inl (M.2.1 47))), (q 48, .inl (y.2.1, 300, .inl (M.2.1 48))), (q 50, .inl (y.2.1, 300, .inl (M.2.1 50))), (q 52, .inl (y.2.1, 10476, .inl (M.2.1 52))), (q 54, .inl (y.2.1, 24, .inl (M.2.1 54))), (q 55, .inl (y.2.1, 6000, .inl (M.2.1 55))), (q 57, .inl (y.2.1, 32, .inl (M.2.1 57))), (q 58, .inl (y.2.2.1, 24, .inl (M.2.1 58))), (q 60, .inl (y.2.1, 209520, .inl (M.2.1 60)))]
section RR
variable {E : CxT} {cc : ByteArray} {nl : Nat} {own : String} {pc : Nat} {lv : List (Nat × Value)} {st : List Value} {z u : Nat} {h : Nat} {q : Nat → Nat} {y : CyT} {M : MS}
theorem mw_0 : (mw h q y M)[0]? = some (h, .inr (12, mFs q M)) := rfl
theorem mIs_get {kf : Nat} (hk : mIs kf = true) : (mFs q M)[kf]? = some (.int (M.1 kf)) := by
  unfold mIs at hk
  split at hk <;> first | rfl | cases hk
theorem mIs_put {kf : Nat} (hk : mIs kf = true) (v : Int32) : (mw h q y M).set 0 (h, .inr (12, (mFs q M).set kf (.int v))) = mw h q y (sF M kf v) := by
  unfold mIs at hk
  split at hk <;> first | rfl | cases hk
theorem mKi_at {ka t : Nat} (hk : mKi ka = t) (ht : t < 3) {a : ClassId} {f : FieldType} (hy : (tyL y)[t]? = some (a, f)) : (mw h q y M)[mPo ka]? = some (q ka, .inl (a, mLn ka, .inl (M.2.1 ka))) := by
  unfold mKi at hk
  split at hk <;> subst hk <;> first | (cases hy; rfl) | (exact absurd ht (by decide))
theorem mKi_set {ka t : Nat} (hk : mKi ka = t) (ht : t < 3) {a : ClassId} {f : FieldType} (hy : (tyL y)[t]? = some (a, f)) (i : Nat) (v : Int32) : (mw h q y M).set (mPo ka) (q ka, .inl (a, mLn ka, .inl (upd (M.2.1 ka) i v))) = mw h q y (sA M ka i v) := by
  unfold mKi at hk
  split at hk <;> subst hk <;> first | (cases hy; rfl) | (exact absurd ht (by decide))
/-- an int read and written, none outside the array -/
def ld (M : MS) (ka : Nat) (i : Int32) : Option Int32 := if i < 0 ∨ mLn ka ≤ i.toNatClampNeg then none else some (M.2.1 ka i.toNatClampNeg)
def sd (M : MS) (ka : Nat) (i v : Int32) : Option MS := if i < 0 ∨ mLn ka ≤ i.toNatClampNeg then none else some (sA M ka i.toNatClampNeg v)
theorem ld_some {ka : Nat} {i v : Int32} (hv : ld M ka i = some v) : vp_in i (mLn ka) ∧ M.2.1 ka i.toNatClampNeg = v := by
  unfold ld at hv
  split at hv
  · cases hv
  · rename_i hh
    exact ⟨hh, Option.some.inj hv⟩
theorem sd_some {ka : Nat} {i v : Int32} {M1 : MS} (hv : sd M ka i v = some M1) : vp_in i (mLn ka) ∧ sA M ka i.toNatClampNeg v = M1 := by
  unfold sd at hv
  split at hv
  · cases hv
  · rename_i hh
    exact ⟨hh, Option.some.inj hv⟩
/-- a bind that answers -/
theorem mb {α β : Type} {o : Option α} {f : α → Option β} {r : β} (h : o.bind f = some r) : ∃ v, o = some v ∧ f v = some r := by
  cases o with
  | none => cases h
  | some v => exact ⟨v, rfl, h⟩
theorem R_geti (hc : Cx E own cc nl) (kf : Nat) (hk : mIs kf = true) (hn : kf < 64) {index : Nat} (hlink : Cond.fieldLink own index (TX12 kf).1 (TX12 kf).2.1 (TX12 kf).2.2.1 ∈ WB) (hdg : decode cc pc = .ok (.getfield index, 3)) (kk : V E z u (mw h q y M) (pc + 3) lv (.int (gF M kf) :: st)) : V E z u (mw h q y M) pc lv (.ref h :: st) := V_get hc (ci := 12) rfl iW12 0 mw_0 kf hn hlink (mIs_get hk) hdg kk
theorem R_getr (hc : Cx E own cc nl) (kf : Nat) (hk : (mFs q M)[kf]? = some (.ref (q kf))) (hn : kf < 64) {index : Nat} (hlink : Cond.fieldLink own index (TX12 kf).1 (TX12 kf).2.1 (TX12 kf).2.2.1 ∈ WB) (hdg : decode cc pc = .ok (.getfield index, 3)) (kk : V E z u (mw h q y M) (pc + 3) lv (.ref (q kf) :: st)) : V E z u (mw h q y M) pc lv (.ref h :: st) := V_get hc (ci := 12) rfl iW12 0 mw_0 kf hn hlink hk hdg kk
theorem R_getl (hc : Cx E own cc nl) {index : Nat} (hlink : Cond.fieldLink own index (TX12 63).1 (TX12 63).2.1 (TX12 63).2.2.1 ∈ WB) (hdg : decode cc pc = .ok (.getfield index, 3)) (kk : V E z u (mw h q y M) (pc + 3) lv (.long M.2.2 :: st)) : V E z u (mw h q y M) pc lv (.ref h :: st) := V_get hc (ci := 12) rfl iW12 0 mw_0 63 (by decide) hlink rfl hdg kk
theorem R_puti (hc : Cx E own cc nl) (kf : Nat) (hk : mIs kf = true) (hn : kf < 64) {index : Nat} (hlink : Cond.fieldLink own index (TX12 kf).1 (TX12 kf).2.1 (TX12 kf).2.2.1 ∈ WB) (hfin : (TX12 kf).2.2.2 = false) {v : Int32} (hv : narrow (tyX12 kf) (.int v) = .int v) (hfit : fits (tyX12 kf) (.int v) = true) (hdg : decode cc pc = .ok (.putfield index, 3)) (kk : V E z u (mw h q y (sF M kf v)) (pc + 3) lv st) : V E z u (mw h q y M) pc lv (.int v :: .ref h :: st) := V_put hc (ci := 12) rfl iW12 tyX12 tyX12_ok nmX12 0 mw_0 kf hn hlink hfin hv hfit (by simpa using hn) (mIs_put hk v) hdg kk
theorem R_putl (hc : Cx E own cc nl) {index : Nat} (hlink : Cond.fieldLink own index (TX12 63).1 (TX12 63).2.1 (TX12 63).2.2.1 ∈ WB) {v : Int64} (hdg : decode cc pc = .ok (.putfield index, 3)) (kk : V E z u (mw h q y (sL M v)) (pc + 3) lv st) : V E z u (mw h q y M) pc lv (.long v :: .ref h :: st) := V_put hc (ci := 12) rfl iW12 tyX12 tyX12_ok nmX12 0 mw_0 63 (by decide) hlink rfl rfl rfl (by simp) rfl hdg kk
theorem R_iald (hc : Cx E own cc nl) (hT : xT E = y) {ka : Nat} (hk : mKi ka = 1) {i v : Int32} (hv : ld M ka i = some v) (hdg : decode cc pc = .ok (.iaload, 1)) (kk : V E z u (mw h q y M) (pc + 1) lv (.int v :: st)) : V E z u (mw h q y M) pc lv (.int i :: .ref (q ka) :: st) := by
  obtain ⟨h1, rfl⟩ := ld_some hv
  exact V_iald hc (mPo ka) 1 (mKi_at hk (by decide) rfl) (by rw [hT]; rfl) h1 hdg kk
theorem R_cald (hc : Cx E own cc nl) (hT : xT E = y) {ka : Nat} (hk : mKi ka = 0) {i v : Int32} (hv : ld M ka i = some v) (hdg : decode cc pc = .ok (.caload, 1)) (kk : V E z u (mw h q y M) (pc + 1) lv (.int v :: st)) : V E z u (mw h q y M) pc lv (.int i :: .ref (q ka) :: st) := by
  obtain ⟨h1, rfl⟩ := ld_some hv
  exact V_cald hc (mPo ka) 0 (mKi_at hk (by decide) rfl) (by rw [hT]; rfl) h1 hdg kk
theorem R_zald (hc : Cx E own cc nl) (hT : xT E = y) {ka : Nat} (hk : mKi ka = 2) {i v : Int32} (hv : ld M ka i = some v) (hdg : decode cc pc = .ok (.baload, 1)) (kk : V E z u (mw h q y M) (pc + 1) lv (.int v :: st)) : V E z u (mw h q y M) pc lv (.int i :: .ref (q ka) :: st) := by
  obtain ⟨h1, rfl⟩ := ld_some hv
  exact V_zald hc (mPo ka) 2 (mKi_at hk (by decide) rfl) (by rw [hT]; rfl) h1 hdg kk
theorem R_iast (hc : Cx E own cc nl) (hT : xT E = y) {ka : Nat} (hk : mKi ka = 1) {i v : Int32} {M1 : MS} (hv : sd M ka i v = some M1) (hdg : decode cc pc = .ok (.iastore, 1)) (kk : V E z u (mw h q y M1) (pc + 1) lv st) : V E z u (mw h q y M) pc lv (.int v :: .int i :: .ref (q ka) :: st) := by
  obtain ⟨h1, rfl⟩ := sd_some hv
  exact V_iast hc (mPo ka) 1 (mKi_at hk (by decide) rfl) (by rw [hT]; rfl) h1 (mKi_set hk (by decide) rfl _ _) hdg kk
theorem R_zast (hc : Cx E own cc nl) (hT : xT E = y) {ka : Nat} (hk : mKi ka = 2) {i v : Int32} {M1 : MS} (hv : sd M ka i (vp_nar .boolean v) = some M1) (hdg : decode cc pc = .ok (.bastore, 1)) (kk : V E z u (mw h q y M1) (pc + 1) lv st) : V E z u (mw h q y M) pc lv (.int v :: .int i :: .ref (q ka) :: st) := by
  obtain ⟨h1, rfl⟩ := sd_some hv
  exact V_zast hc (mPo ka) 2 (mKi_at hk (by decide) rfl) (by rw [hT]; rfl) h1 (mKi_set hk (by decide) rfl _ _) hdg kk
theorem R_alen (hc : Cx E own cc nl) (hT : xT E = y) {ka t : Nat} (hk : mKi ka = t) (ht : t < 3) {a : ClassId} {f : FieldType} (hy : (tyL y)[t]? = some (a, f)) {v : Int32} (hv : Int32.ofNat (mLn ka) = v) (hdg : decode cc pc = .ok (.arraylength, 1)) (kk : V E z u (mw h q y M) (pc + 1) lv (.int v :: st)) : V E z u (mw h q y M) pc lv (.ref (q ka) :: st) := V_alen hc (mPo ka) t (mKi_at hk ht hy) (by rw [hT]; exact hy) hv hdg kk
end RR
/-- the steps that a loop may take -/
noncomputable def FU : Nat := Classical.choose (⟨20000, rfl⟩ : ∃ n : Nat, n = 20000)
theorem FU_eq : FU = 20000 := Classical.choose_spec (⟨20000, rfl⟩ : ∃ n : Nat, n = 20000)
def bz (v : Int32) : Option Int32 := if v = 0 ∨ v = 1 then some v else none
theorem bz_some {v w : Int32} (h : bz v = some w) : (v = 0 ∨ v = 1) ∧ v = w := by
  unfold bz at h
  split at h
  · rename_i hh
    exact ⟨hh, Option.some.inj h⟩
  · cases h
theorem bz_nar {v : Int32} (h : v = 0 ∨ v = 1) : narrow .boolean (.int v) = .int v := by
  rcases h with rfl | rfl <;> rfl
def bn2 {α1 α2 β : Type} (o : Option (α1 × α2)) (f : α1 → α2 → Option β) : Option β := o.bind fun p => f p.1 p.2
theorem mb2 {α1 α2 β : Type} {o : Option (α1 × α2)} {f : α1 → α2 → Option β} {r : β} (h : bn2 o f = some r) : ∃ a1 a2, o = some (a1, a2) ∧ f a1 a2 = some r := by
  cases o with
  | none => cases h
  | some p => exact ⟨p.1, p.2, rfl, h⟩
def bn3 {α1 α2 α3 β : Type} (o : Option (α1 × α2 × α3)) (f : α1 → α2 → α3 → Option β) : Option β := o.bind fun p => f p.1 p.2.1 p.2.2
theorem mb3 {α1 α2 α3 β : Type} {o : Option (α1 × α2 × α3)} {f : α1 → α2 → α3 → Option β} {r : β} (h : bn3 o f = some r) : ∃ a1 a2 a3, o = some (a1, a2, a3) ∧ f a1 a2 a3 = some r := by
  cases o with
  | none => cases h
  | some p => exact ⟨p.1, p.2.1, p.2.2, rfl, h⟩
def bn4 {α1 α2 α3 α4 β : Type} (o : Option (α1 × α2 × α3 × α4)) (f : α1 → α2 → α3 → α4 → Option β) : Option β := o.bind fun p => f p.1 p.2.1 p.2.2.1 p.2.2.2
theorem mb4 {α1 α2 α3 α4 β : Type} {o : Option (α1 × α2 × α3 × α4)} {f : α1 → α2 → α3 → α4 → Option β} {r : β} (h : bn4 o f = some r) : ∃ a1 a2 a3 a4, o = some (a1, a2, a3, a4) ∧ f a1 a2 a3 a4 = some r := by
  cases o with
  | none => cases h
  | some p => exact ⟨p.1, p.2.1, p.2.2.1, p.2.2.2, rfl, h⟩
def bn5 {α1 α2 α3 α4 α5 β : Type} (o : Option (α1 × α2 × α3 × α4 × α5)) (f : α1 → α2 → α3 → α4 → α5 → Option β) : Option β := o.bind fun p => f p.1 p.2.1 p.2.2.1 p.2.2.2.1 p.2.2.2.2
theorem mb5 {α1 α2 α3 α4 α5 β : Type} {o : Option (α1 × α2 × α3 × α4 × α5)} {f : α1 → α2 → α3 → α4 → α5 → Option β} {r : β} (h : bn5 o f = some r) : ∃ a1 a2 a3 a4 a5, o = some (a1, a2, a3, a4, a5) ∧ f a1 a2 a3 a4 a5 = some r := by
  cases o with
  | none => cases h
  | some p => exact ⟨p.1, p.2.1, p.2.2.1, p.2.2.2.1, p.2.2.2.2, rfl, h⟩
def bn6 {α1 α2 α3 α4 α5 α6 β : Type} (o : Option (α1 × α2 × α3 × α4 × α5 × α6)) (f : α1 → α2 → α3 → α4 → α5 → α6 → Option β) : Option β := o.bind fun p => f p.1 p.2.1 p.2.2.1 p.2.2.2.1 p.2.2.2.2.1 p.2.2.2.2.2
theorem mb6 {α1 α2 α3 α4 α5 α6 β : Type} {o : Option (α1 × α2 × α3 × α4 × α5 × α6)} {f : α1 → α2 → α3 → α4 → α5 → α6 → Option β} {r : β} (h : bn6 o f = some r) : ∃ a1 a2 a3 a4 a5 a6, o = some (a1, a2, a3, a4, a5, a6) ∧ f a1 a2 a3 a4 a5 a6 = some r := by
  cases o with
  | none => cases h
  | some p => exact ⟨p.1, p.2.1, p.2.2.1, p.2.2.2.1, p.2.2.2.2.1, p.2.2.2.2.2, rfl, h⟩
def bn7 {α1 α2 α3 α4 α5 α6 α7 β : Type} (o : Option (α1 × α2 × α3 × α4 × α5 × α6 × α7)) (f : α1 → α2 → α3 → α4 → α5 → α6 → α7 → Option β) : Option β := o.bind fun p => f p.1 p.2.1 p.2.2.1 p.2.2.2.1 p.2.2.2.2.1 p.2.2.2.2.2.1 p.2.2.2.2.2.2
theorem mb7 {α1 α2 α3 α4 α5 α6 α7 β : Type} {o : Option (α1 × α2 × α3 × α4 × α5 × α6 × α7)} {f : α1 → α2 → α3 → α4 → α5 → α6 → α7 → Option β} {r : β} (h : bn7 o f = some r) : ∃ a1 a2 a3 a4 a5 a6 a7, o = some (a1, a2, a3, a4, a5, a6, a7) ∧ f a1 a2 a3 a4 a5 a6 a7 = some r := by
  cases o with
  | none => cases h
  | some p => exact ⟨p.1, p.2.1, p.2.2.1, p.2.2.2.1, p.2.2.2.2.1, p.2.2.2.2.2.1, p.2.2.2.2.2.2, rfl, h⟩
def bn8 {α1 α2 α3 α4 α5 α6 α7 α8 β : Type} (o : Option (α1 × α2 × α3 × α4 × α5 × α6 × α7 × α8)) (f : α1 → α2 → α3 → α4 → α5 → α6 → α7 → α8 → Option β) : Option β := o.bind fun p => f p.1 p.2.1 p.2.2.1 p.2.2.2.1 p.2.2.2.2.1 p.2.2.2.2.2.1 p.2.2.2.2.2.2.1 p.2.2.2.2.2.2.2
theorem mb8 {α1 α2 α3 α4 α5 α6 α7 α8 β : Type} {o : Option (α1 × α2 × α3 × α4 × α5 × α6 × α7 × α8)} {f : α1 → α2 → α3 → α4 → α5 → α6 → α7 → α8 → Option β} {r : β} (h : bn8 o f = some r) : ∃ a1 a2 a3 a4 a5 a6 a7 a8, o = some (a1, a2, a3, a4, a5, a6, a7, a8) ∧ f a1 a2 a3 a4 a5 a6 a7 a8 = some r := by
  cases o with
  | none => cases h
  | some p => exact ⟨p.1, p.2.1, p.2.2.1, p.2.2.2.1, p.2.2.2.2.1, p.2.2.2.2.2.1, p.2.2.2.2.2.2.1, p.2.2.2.2.2.2.2, rfl, h⟩
def bn9 {α1 α2 α3 α4 α5 α6 α7 α8 α9 β : Type} (o : Option (α1 × α2 × α3 × α4 × α5 × α6 × α7 × α8 × α9)) (f : α1 → α2 → α3 → α4 → α5 → α6 → α7 → α8 → α9 → Option β) : Option β := o.bind fun p => f p.1 p.2.1 p.2.2.1 p.2.2.2.1 p.2.2.2.2.1 p.2.2.2.2.2.1 p.2.2.2.2.2.2.1 p.2.2.2.2.2.2.2.1 p.2.2.2.2.2.2.2.2
theorem mb9 {α1 α2 α3 α4 α5 α6 α7 α8 α9 β : Type} {o : Option (α1 × α2 × α3 × α4 × α5 × α6 × α7 × α8 × α9)} {f : α1 → α2 → α3 → α4 → α5 → α6 → α7 → α8 → α9 → Option β} {r : β} (h : bn9 o f = some r) : ∃ a1 a2 a3 a4 a5 a6 a7 a8 a9, o = some (a1, a2, a3, a4, a5, a6, a7, a8, a9) ∧ f a1 a2 a3 a4 a5 a6 a7 a8 a9 = some r := by
  cases o with
  | none => cases h
  | some p => exact ⟨p.1, p.2.1, p.2.2.1, p.2.2.2.1, p.2.2.2.2.1, p.2.2.2.2.2.1, p.2.2.2.2.2.2.1, p.2.2.2.2.2.2.2.1, p.2.2.2.2.2.2.2.2, rfl, h⟩
def bn10 {α1 α2 α3 α4 α5 α6 α7 α8 α9 α10 β : Type} (o : Option (α1 × α2 × α3 × α4 × α5 × α6 × α7 × α8 × α9 × α10)) (f : α1 → α2 → α3 → α4 → α5 → α6 → α7 → α8 → α9 → α10 → Option β) : Option β := o.bind fun p => f p.1 p.2.1 p.2.2.1 p.2.2.2.1 p.2.2.2.2.1 p.2.2.2.2.2.1 p.2.2.2.2.2.2.1 p.2.2.2.2.2.2.2.1 p.2.2.2.2.2.2.2.2.1 p.2.2.2.2.2.2.2.2.2
theorem mb10 {α1 α2 α3 α4 α5 α6 α7 α8 α9 α10 β : Type} {o : Option (α1 × α2 × α3 × α4 × α5 × α6 × α7 × α8 × α9 × α10)} {f : α1 → α2 → α3 → α4 → α5 → α6 → α7 → α8 → α9 → α10 → Option β} {r : β} (h : bn10 o f = some r) : ∃ a1 a2 a3 a4 a5 a6 a7 a8 a9 a10, o = some (a1, a2, a3, a4, a5, a6, a7, a8, a9, a10) ∧ f a1 a2 a3 a4 a5 a6 a7 a8 a9 a10 = some r := by
  cases o with
  | none => cases h
  | some p => exact ⟨p.1, p.2.1, p.2.2.1, p.2.2.2.1, p.2.2.2.2.1, p.2.2.2.2.2.1, p.2.2.2.2.2.2.1, p.2.2.2.2.2.2.2.1, p.2.2.2.2.2.2.2.2.1, p.2.2.2.2.2.2.2.2.2, rfl, h⟩
theorem si2 {α1 α2 : Type} {a1 b1 : α1} {a2 b2 : α2} (h : some (a1, a2) = some (b1, b2)) : a1 = b1 ∧ a2 = b2 := by
  cases h
  exact ⟨rfl, rfl⟩
theorem si3 {α1 α2 α3 : Type} {a1 b1 : α1} {a2 b2 : α2} {a3 b3 : α3} (h : some (a1, a2, a3) = some (b1, b2, b3)) : a1 = b1 ∧ a2 = b2 ∧ a3 = b3 := by
  cases h
  exact ⟨rfl, rfl, rfl⟩
theorem si4 {α1 α2 α3 α4 : Type} {a1 b1 : α1} {a2 b2 : α2} {a3 b3 : α3} {a4 b4 : α4} (h : some (a1, a2, a3, a4) = some (b1, b2, b3, b4)) : a1 = b1 ∧ a2 = b2 ∧ a3 = b3 ∧ a4 = b4 := by
  cases h
  exact ⟨rfl, rfl, rfl, rfl⟩
theorem si5 {α1 α2 α3 α4 α5 : Type} {a1 b1 : α1} {a2 b2 : α2} {a3 b3 : α3} {a4 b4 : α4} {a5 b5 : α5} (h : some (a1, a2, a3, a4, a5) = some (b1, b2, b3, b4, b5)) : a1 = b1 ∧ a2 = b2 ∧ a3 = b3 ∧ a4 = b4 ∧ a5 = b5 := by
  cases h
  exact ⟨rfl, rfl, rfl, rfl, rfl⟩
theorem si6 {α1 α2 α3 α4 α5 α6 : Type} {a1 b1 : α1} {a2 b2 : α2} {a3 b3 : α3} {a4 b4 : α4} {a5 b5 : α5} {a6 b6 : α6} (h : some (a1, a2, a3, a4, a5, a6) = some (b1, b2, b3, b4, b5, b6)) : a1 = b1 ∧ a2 = b2 ∧ a3 = b3 ∧ a4 = b4 ∧ a5 = b5 ∧ a6 = b6 := by
  cases h
  exact ⟨rfl, rfl, rfl, rfl, rfl, rfl⟩
theorem si7 {α1 α2 α3 α4 α5 α6 α7 : Type} {a1 b1 : α1} {a2 b2 : α2} {a3 b3 : α3} {a4 b4 : α4} {a5 b5 : α5} {a6 b6 : α6} {a7 b7 : α7} (h : some (a1, a2, a3, a4, a5, a6, a7) = some (b1, b2, b3, b4, b5, b6, b7)) : a1 = b1 ∧ a2 = b2 ∧ a3 = b3 ∧ a4 = b4 ∧ a5 = b5 ∧ a6 = b6 ∧ a7 = b7 := by
  cases h
  exact ⟨rfl, rfl, rfl, rfl, rfl, rfl, rfl⟩
theorem si8 {α1 α2 α3 α4 α5 α6 α7 α8 : Type} {a1 b1 : α1} {a2 b2 : α2} {a3 b3 : α3} {a4 b4 : α4} {a5 b5 : α5} {a6 b6 : α6} {a7 b7 : α7} {a8 b8 : α8} (h : some (a1, a2, a3, a4, a5, a6, a7, a8) = some (b1, b2, b3, b4, b5, b6, b7, b8)) : a1 = b1 ∧ a2 = b2 ∧ a3 = b3 ∧ a4 = b4 ∧ a5 = b5 ∧ a6 = b6 ∧ a7 = b7 ∧ a8 = b8 := by
  cases h
  exact ⟨rfl, rfl, rfl, rfl, rfl, rfl, rfl, rfl⟩
theorem si9 {α1 α2 α3 α4 α5 α6 α7 α8 α9 : Type} {a1 b1 : α1} {a2 b2 : α2} {a3 b3 : α3} {a4 b4 : α4} {a5 b5 : α5} {a6 b6 : α6} {a7 b7 : α7} {a8 b8 : α8} {a9 b9 : α9} (h : some (a1, a2, a3, a4, a5, a6, a7, a8, a9) = some (b1, b2, b3, b4, b5, b6, b7, b8, b9)) : a1 = b1 ∧ a2 = b2 ∧ a3 = b3 ∧ a4 = b4 ∧ a5 = b5 ∧ a6 = b6 ∧ a7 = b7 ∧ a8 = b8 ∧ a9 = b9 := by
  cases h
  exact ⟨rfl, rfl, rfl, rfl, rfl, rfl, rfl, rfl, rfl⟩
theorem si10 {α1 α2 α3 α4 α5 α6 α7 α8 α9 α10 : Type} {a1 b1 : α1} {a2 b2 : α2} {a3 b3 : α3} {a4 b4 : α4} {a5 b5 : α5} {a6 b6 : α6} {a7 b7 : α7} {a8 b8 : α8} {a9 b9 : α9} {a10 b10 : α10} (h : some (a1, a2, a3, a4, a5, a6, a7, a8, a9, a10) = some (b1, b2, b3, b4, b5, b6, b7, b8, b9, b10)) : a1 = b1 ∧ a2 = b2 ∧ a3 = b3 ∧ a4 = b4 ∧ a5 = b5 ∧ a6 = b6 ∧ a7 = b7 ∧ a8 = b8 ∧ a9 = b9 ∧ a10 = b10 := by
  cases h
  exact ⟨rfl, rfl, rfl, rfl, rfl, rfl, rfl, rfl, rfl, rfl⟩
section RC
variable {E : CxT} {own : String} {cc : ByteArray} {nl : Nat} {ws : va_W} {pc : Nat} {lv : List (Nat × Value)} {st stk : List Value} {l : Launch} {D : va_G} {ty : CyT} {fr lo zM uM z' u' z u : Nat} {ret : Option FieldType} {ws' : va_W} {rv : Option Value}
variable {yy : MethodName} {cb : ByteArray} {nl' : Nat} {ret' : Option FieldType} {fr' lo' : Nat} {As : List Value} {h : Nat} {q : Nat → Nat} {y : CyT} {M M1 : MS} {r : Int32} {index n' : Nat}
theorem R_callVi (hc : Cx E own cc nl) (hz : Cy E l D ty fr lo zM uM) (hM : CT l D ty yy cb nl' ret' fr' lo' zM uM (.ref h :: As) z u (mw h q y M) z u (mw h q y M1) (some (.int r)))
    (h1 : Cond.methodLink own index yy ∈ WB) (h2 : Cond.instanceMethod yy ∈ WB) (h3 : Cond.selects "FarEditorsModel" yy yy ∈ WB) (h4 : Cond.initialized "FarEditorsModel" ∈ WB) (h5 : Cond.code yy cb nl' ret' ∈ WB)
    (hd : yy.cls = "FarEditorsModel" ∧ yy.cls ≠ "java/lang/invoke/MethodHandle" ∧ yy.cls ≠ "java/lang/invoke/VarHandle" ∧ (parseMethodDescriptor yy.desc).map (fun d => d.parameters.length) = some n')
    (hR : fr' + 1 ≤ fr ∧ 8 + (nl' + 11) + lo' ≤ lo) (hn : As.length = n') (hst : stk = As.reverse ++ .ref h :: st) (hroom : (st.map fun v => v.category).sum ≤ 8)
    (hdg : decode cc pc = .ok (.invokevirtual index, 3)) (kk : V E z u (mw h q y M1) (pc + 3) lv (.int r :: st)) : V E z u (mw h q y M) pc lv stk :=
  V_callV hc hz hM h1 h2 h3 h4 h5 hd hR mw_0 (ci := 12) rfl rfl hn hst hroom hdg kk
theorem R_callSi (hc : Cx E own cc nl) (hz : Cy E l D ty fr lo zM uM) (hM : CT l D ty yy cb nl' ret' fr' lo' zM uM As z u (mw h q y M) z u (mw h q y M1) (some (.int r)))
    (h1 : Cond.methodLink own index yy ∈ WB) (h2 : Cond.static yy ∈ WB) (h4 : Cond.initialized own ∈ WB) (h5 : Cond.code yy cb nl' ret' ∈ WB)
    (hd : yy.cls = own ∧ yy.cls ≠ "java/lang/invoke/MethodHandle" ∧ yy.cls ≠ "java/lang/invoke/VarHandle" ∧ (parseMethodDescriptor yy.desc).map (fun d => d.parameters.length) = some n')
    (hR : fr' + 1 ≤ fr ∧ 8 + (nl' + 11) + lo' ≤ lo) (hn : As.length = n') (hst : stk = As.reverse ++ st) (hroom : (st.map fun v => v.category).sum ≤ 8)
    (hdg : decode cc pc = .ok (.invokestatic index, 3)) (kk : V E z u (mw h q y M1) (pc + 3) lv (.int r :: st)) : V E z u (mw h q y M) pc lv stk :=
  V_callS hc hz hM h1 h2 h4 h5 hd hR hn hst hroom hdg kk
theorem R_callVv (hc : Cx E own cc nl) (hz : Cy E l D ty fr lo zM uM) (hM : CT l D ty yy cb nl' ret' fr' lo' zM uM (.ref h :: As) z u (mw h q y M) z u (mw h q y M1) none)
    (h1 : Cond.methodLink own index yy ∈ WB) (h2 : Cond.instanceMethod yy ∈ WB) (h3 : Cond.selects "FarEditorsModel" yy yy ∈ WB) (h4 : Cond.initialized "FarEditorsModel" ∈ WB) (h5 : Cond.code yy cb nl' ret' ∈ WB)
    (hd : yy.cls = "FarEditorsModel" ∧ yy.cls ≠ "java/lang/invoke/MethodHandle" ∧ yy.cls ≠ "java/lang/invoke/VarHandle" ∧ (parseMethodDescriptor yy.desc).map (fun d => d.parameters.length) = some n')
    (hR : fr' + 1 ≤ fr ∧ 8 + (nl' + 11) + lo' ≤ lo) (hn : As.length = n') (hst : stk = As.reverse ++ .ref h :: st) (hroom : (st.map fun v => v.category).sum ≤ 8)
    (hdg : decode cc pc = .ok (.invokevirtual index, 3)) (kk : V E z u (mw h q y M1) (pc + 3) lv (st)) : V E z u (mw h q y M) pc lv stk :=
  V_callV hc hz hM h1 h2 h3 h4 h5 hd hR mw_0 (ci := 12) rfl rfl hn hst hroom hdg kk
theorem R_callSv (hc : Cx E own cc nl) (hz : Cy E l D ty fr lo zM uM) (hM : CT l D ty yy cb nl' ret' fr' lo' zM uM As z u (mw h q y M) z u (mw h q y M1) none)
    (h1 : Cond.methodLink own index yy ∈ WB) (h2 : Cond.static yy ∈ WB) (h4 : Cond.initialized own ∈ WB) (h5 : Cond.code yy cb nl' ret' ∈ WB)
    (hd : yy.cls = own ∧ yy.cls ≠ "java/lang/invoke/MethodHandle" ∧ yy.cls ≠ "java/lang/invoke/VarHandle" ∧ (parseMethodDescriptor yy.desc).map (fun d => d.parameters.length) = some n')
    (hR : fr' + 1 ≤ fr ∧ 8 + (nl' + 11) + lo' ≤ lo) (hn : As.length = n') (hst : stk = As.reverse ++ st) (hroom : (st.map fun v => v.category).sum ≤ 8)
    (hdg : decode cc pc = .ok (.invokestatic index, 3)) (kk : V E z u (mw h q y M1) (pc + 3) lv (st)) : V E z u (mw h q y M) pc lv stk :=
  V_callS hc hz hM h1 h2 h4 h5 hd hR hn hst hroom hdg kk
end RC
