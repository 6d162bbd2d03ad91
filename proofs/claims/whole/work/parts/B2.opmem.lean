/-! ===== PART II, the class: an operation in the class's memory ===== -/
/-- what was there stays, but for what P names -/
def Fm (P : Nat → Prop) (S S' : CS) : Prop := cZ S ≤ cZ S' ∧ ∀ x, x < cZ S → kd S' x = kd S x ∧ cN S' x = cN S x ∧ (¬ P x → cI S' x = cI S x ∧ cJ S' x = cJ S x ∧ cA S' x = cA S x ∧ cB S' x = cB S x)
theorem Fm_refl (P : Nat → Prop) (S : CS) : Fm P S S := ⟨Nat.le_refl _, fun _ _ => ⟨rfl, rfl, fun _ => ⟨rfl, rfl, rfl, rfl⟩⟩⟩
theorem Fm_trans {P : Nat → Prop} {S S' S'' : CS} (h1 : Fm P S S') (h2 : Fm P S' S'') : Fm P S S'' := by
  refine ⟨Nat.le_trans h1.1 h2.1, fun x hx => ?_⟩
  obtain ⟨a1, a2, a3⟩ := h1.2 x hx
  obtain ⟨b1, b2, b3⟩ := h2.2 x (Nat.lt_of_lt_of_le hx h1.1)
  refine ⟨b1.trans a1, b2.trans a2, fun hp => ?_⟩
  obtain ⟨c1, c2, c3, c4⟩ := a3 hp
  obtain ⟨d1, d2, d3, d4⟩ := b3 hp
  exact ⟨d1.trans c1, d2.trans c2, d3.trans c3, d4.trans c4⟩
theorem Fm_mono {P Q : Nat → Prop} {S S' : CS} (h : Fm P S S') (hq : ∀ x, x < cZ S → P x → Q x) : Fm Q S S' := ⟨h.1, fun x hx => ⟨(h.2 x hx).1, (h.2 x hx).2.1, fun hn => (h.2 x hx).2.2 (fun hp => hn (hq x hx hp))⟩⟩
theorem Fm_setI {P : Nat → Prop} {S : CS} {a k : Nat} {v : Int32} (h : P a) : Fm P S (setI S a k v) := ⟨Nat.le_refl _, fun x _ => ⟨rfl, rfl, fun hp => ⟨va_up_ne _ _ (fun e => hp (e ▸ h)), rfl, rfl, rfl⟩⟩⟩
theorem Fm_setA {P : Nat → Prop} {S : CS} {a : Nat} {f : Nat → Int32} (h : P a) : Fm P S (setA S a f) := ⟨Nat.le_refl _, fun x _ => ⟨rfl, rfl, fun hp => ⟨rfl, rfl, va_up_ne _ _ (fun e => hp (e ▸ h)), rfl⟩⟩⟩
theorem Fm_setJ {P : Nat → Prop} {S : CS} {a k : Nat} {v : Option Nat} (h : P a) : Fm P S (setJ S a k v) := ⟨Nat.le_refl _, fun x _ => ⟨rfl, rfl, fun hp => ⟨rfl, va_up_ne _ _ (fun e => hp (e ▸ h)), rfl, rfl⟩⟩⟩
theorem cI_self (S : CS) (a k : Nat) (v : Int32) : cI (setI S a k v) a k = v := by
  show va_up S.2.2.1 a (va_up (S.2.2.1 a) k v) a k = v
  rw [va_up_self, va_up_self]
theorem cA_self (S : CS) (a : Nat) (f : Nat → Int32) : cA (setA S a f) a = f := va_up_self _ _ _
theorem gi_k {S : CS} {ci a k : Nat} (h : kd S a = ci) : gi S ci a k = some (cI S a k) := by unfold gi; rw [if_pos h]
theorem gr_k {S : CS} {ci a k b : Nat} (h : kd S a = ci) (hj : cJ S a k = some b) : gr S ci a k = some b := by unfold gr; rw [if_pos h]; exact hj
theorem pi_k {S : CS} {ci a k : Nat} {v : Int32} (h : kd S a = ci) : pi S ci a k v = some (setI S a k v) := by unfold pi; rw [if_pos h]
theorem aln_k {S : CS} {ck a : Nat} (h : kd S a = ck) : aln S ck a = some (nI (cN S a)) := by unfold aln; rw [if_pos h]; rfl
theorem ldi_k {S : CS} {a i : Nat} (h : kd S a = 14) (hi : i < cN S a) (hn : cN S a < 2 ^ 31) : ldi S a (nI i) = some (cA S a i) := by
  unfold ldi
  rw [if_pos ⟨h, nI_in hi hn⟩, nI_clamp (by omega)]
theorem sti_k {S : CS} {a i : Nat} {v : Int32} (h : kd S a = 14) (hi : i < cN S a) (hn : cN S a < 2 ^ 31) : sti S a (nI i) v = some (setA S a (upd (cA S a) i v)) := by
  unfold sti
  rw [if_pos ⟨h, nI_in hi hn⟩, nI_clamp (by omega)]
/-- an Op h whose row a holds the parts R (the last one first) -/
def OpA (S : CS) (h a : Nat) (R : List Pt) : Prop := (h < cZ S ∧ a < cZ S ∧ kd S h = 4 ∧ kd S a = 14 ∧ cJ S h 0 = some a) ∧ cI S h 1 = nI R.length ∧ R.length ≤ cN S a ∧ cN S a < 1000000 ∧ seg (cA S a) 0 (R.reverse.map pc)
theorem nI_negI {m : Nat} (h : m < 1000000) : (-(nI m)).toInt = -(m : Int) := by
  rw [Int32.toInt_neg, nI_toInt (by omega)]
  exact Int.bmod_eq_of_le (by omega) (by omega)
theorem pc_int {x : Pt} (h : okPt x) : (pc x).toInt = if x.1 = 0 then 31 + (x.2 : Int) else if x.1 = 1 then (x.2 : Int) else -(x.2 : Int) := by
  unfold pc
  rcases h with ⟨h1, h2, h3⟩ | ⟨h1, h2, h3⟩ | ⟨h1, h2, h3⟩
  · rw [if_pos h1, if_pos h1, nI_toInt (by omega)]; omega
  · rw [if_neg (by omega), if_pos h1, if_neg (by omega), if_pos h1, nI_toInt (by omega)]
  · rw [if_neg (by omega), if_neg (by omega), if_neg (by omega), if_neg (by omega), nI_negI (by omega)]
theorem pc_le31 {x : Pt} (h : okPt x) : pc x ≤ 31 ↔ x.1 ≠ 0 := by
  rw [Int32.le_iff_toInt_le, pc_int h, show (31 : Int32).toInt = 31 from by decide]
  rcases h with ⟨h1, h2, h3⟩ | ⟨h1, h2, h3⟩ | ⟨h1, h2, h3⟩
  · rw [if_pos h1]; omega
  · rw [if_neg (by omega), if_pos h1]; omega
  · rw [if_neg (by omega), if_neg (by omega)]; omega
theorem pc_ge0 {x : Pt} (h : okPt x) : 0 ≤ pc x ↔ x.1 ≠ 2 := by
  rw [Int32.le_iff_toInt_le, pc_int h, show (0 : Int32).toInt = 0 from by decide]
  rcases h with ⟨h1, h2, h3⟩ | ⟨h1, h2, h3⟩ | ⟨h1, h2, h3⟩
  · rw [if_pos h1]; omega
  · rw [if_neg (by omega), if_pos h1]; omega
  · rw [if_neg (by omega), if_neg (by omega)]; omega
theorem pc_keep (n : Nat) : pc (0, n) = nI (31 + n) := by unfold pc; rw [if_pos rfl]
theorem pc_cut (n : Nat) : pc (2, n) = -(nI n) := by unfold pc; rw [if_neg (show ¬ ((2, n) : Pt).1 = 0 from by simp), if_neg (show ¬ ((2, n) : Pt).1 = 1 from by simp)]
theorem pc_put (n : Nat) : pc (1, n) = nI n := by unfold pc; rw [if_neg (show ¬ ((1, n) : Pt).1 = 0 from by simp), if_pos rfl]
theorem rev_cons (x : Pt) (r : List Pt) : (x :: r).reverse.map pc = r.reverse.map pc ++ [pc x] := by simp
theorem OpA_last {S : CS} {h a : Nat} {x : Pt} {r : List Pt} (hO : OpA S h a (x :: r)) : cA S a r.length = pc x := by
  have := hO.2.2.2.2
  rw [rev_cons, seg_app] at this
  have h2 := this.2 0 (by simp)
  rw [Nat.add_zero, Nat.zero_add, List.length_map, List.length_reverse] at h2
  exact h2
/-- a part more at the end -/
theorem OpA_push {S : CS} {h a : Nat} {R : List Pt} (x : Pt) (hO : OpA S h a R) (hs : R.length < cN S a) : OpA (setA (setI S h 1 (nI (R.length + 1))) a (upd (cA S a) R.length (pc x))) h a (x :: R) := by
  obtain ⟨⟨h1, h2, h3, h4, h5⟩, h6, h7, h8, h9⟩ := hO
  refine ⟨⟨h1, h2, h3, h4, h5⟩, cI_self S h 1 _, hs, h8, ?_⟩
  rw [cA_self, rev_cons]
  have := seg_snoc (v := pc x) h9
  rw [List.length_map, List.length_reverse, Nat.zero_add] at this
  exact this
/-- another part at the end -/
theorem OpA_top {S : CS} {h a : Nat} {x y : Pt} {r : List Pt} (hO : OpA S h a (x :: r)) : OpA (setA S a (upd (cA S a) r.length (pc y))) h a (y :: r) := by
  obtain ⟨⟨h1, h2, h3, h4, h5⟩, h6, h7, h8, h9⟩ := hO
  refine ⟨⟨h1, h2, h3, h4, h5⟩, h6, h7, h8, ?_⟩
  rw [cA_self, rev_cons]
  rw [rev_cons, seg_app] at h9
  have := seg_snoc (v := pc y) h9.1
  rw [List.length_map, List.length_reverse, Nat.zero_add] at this
  exact this
