/-! ===== PART II, the class: a world is copied ===== -/
def sumF (f : Nat → Nat) : Nat → Nat → Nat
  | _, 0 => 0
  | j, d + 1 => f j + sumF f (j + 1) d
theorem sumF_le {f : Nat → Nat} {B : Nat} : ∀ (d j : Nat), (∀ i, i < j + d → f i ≤ B) → sumF f j d ≤ d * B := by
  intro d
  induction d with
  | zero => intro j _; rw [sumF]; omega
  | succ d ih =>
    intro j h
    rw [sumF]
    have h1 := h j (by omega)
    have h2 := ih (j + 1) (fun i hi => h i (by omega))
    rw [Nat.succ_mul]
    omega
/-- what the copy of an editor costs -/
def cpE (S : CS) (e d : Nat) (E : Ed) (wh : Bool) : Nat := cpyC S (d + 3) (e + 3) + cpyC S (d + 5) (e + 5) + (if wh = true then szS (eUnd E) + szS (eDon E) else 0)
theorem szO_Fo {H : Nat → Prop} {S S' : CS} {h : Nat} (hW : Wf S) (hk : kd S h = 4) (hf : Fo H S S') (hn : ¬ H h) : szO S' h = szO S h := by unfold szO; rw [fld_Fo hW hk (by omega) hf hn]
/-- one editor is copied: from e into d -/
theorem copyEd {z : Nat} {X : Nat × Nat} {S : CS} {e d n c : Nat} {E : Ed} {wh whs : Bool} (hww : wh = true → whs = true) (hW : Wf S) (hR : Rm z X (cpE S e d E wh + c) S) (hED : EdS S d) (hJ : EdJ S d wh) (hE : EdW S e n E whs) (hn : n ≤ 100) (h4 : (eMks E).length ≤ 4) (hed : d + 45 ≤ e ∨ e + 45 ≤ d) (hc3 : ∀ m, cpc z (d + 3) m m) (hc5 : ∀ m, cpc z (d + 5) m m) (hcp : wh = true → ∀ h m, d + 7 ≤ h → h ≤ d + 42 → cpc z h m m) :
    ∃ S1 S', cal S 1 d (f1_copyLine X S d e) = some S1 ∧ (∀ x k, x < cZ S → Sta (kd S x) k → cJ S1 x k = cJ S x k) ∧ Sg z (fun x => d ≤ x ∧ x < d + 45) (cpyC S (d + 3) (e + 3) + cpyC S (d + 5) (e + 5)) S S1 ∧ (if wh = true then cal S1 1 d (f1_copyText X S1 d e) = some S' else S' = S1) ∧ EdW S' d n E wh ∧ (szO S (e + 3) ≤ lenO S1 (d + 3) ∧ szO S (e + 5) ≤ lenO S1 (d + 5) ∧ lenO S (d + 3) ≤ lenO S1 (d + 3) ∧ lenO S (d + 5) ≤ lenO S1 (d + 5)) ∧ (lenO S' (d + 3) = lenO S1 (d + 3) ∧ lenO S' (d + 5) = lenO S1 (d + 5)) ∧ Sg z (fun x => d ≤ x ∧ x < d + 45) (cpE S e d E wh) S S' := by
  unfold cpE at hR ⊢
  obtain ⟨S1, e1, l1, k1, a1, ⟨z1, z2, z3, z4⟩, s1⟩ := copyLine_E (z := z) (X := X) (d := (if wh = true then szS (eUnd E) + szS (eDon E) else 0) + c) hW (Rm_mono hR (by omega)) hED hE.1 hn hed hc3 hc5
  have s1' : Sg z (fun x => d ≤ x ∧ x < d + 45) (cpyC S (d + 3) (e + 3) + cpyC S (d + 5) (e + 5)) S S1 := Sg_mono hW s1 (fun x hx => by rcases hx with h | h | h <;> omega) (Nat.le_refl _)
  have hR1 := Rm_step (d := (if wh = true then szS (eUnd E) + szS (eDon E) else 0) + c) (Rm_mono hR (by omega)) s1
  cases hwh : wh with
  | false =>
    refine ⟨S1, S1, by rw [cal_k hED.1]; exact e1, s1.2.2.2.2.1, s1', by rw [if_neg (by decide)], ⟨l1, fun h => by cases h⟩, ⟨z1, z2, z3, z4⟩, ⟨rfl, rfl⟩, ?_⟩
    exact Sg_mono hW s1' (fun _ h => h) (by omega)
  | true =>
    rw [hwh] at hR1
    have hE1 : EdW S1 e n E whs := EdW_Sg hW hE s1 (fun x x1 x2 h => by rcases h with h | h | h <;> omega)
    obtain ⟨t1, m1⟩ := hE1.2 (hww hwh)
    obtain ⟨⟨hs, i1⟩, ⟨ks, i2⟩⟩ := hJ.2.2 hwh
    have i1' := InvS_Sg hW i1 s1 (fun h => by rcases h with h | h | h <;> omega)
    have i2' := InvS_Sg hW i2 s1 (fun h => by rcases h with h | h | h <;> omega)
    obtain ⟨S2, e2, t2, m2, k2, a2, s2⟩ := copyText_E (z := z) (X := X) (d := c) s1.1 (by rw [if_pos rfl] at hR1; exact hR1) l1.1 ⟨hs, i1'⟩ ⟨ks, i2'⟩ hE1.1.1 t1 m1 h4 hed (hcp hwh)
    have s2' : Sg z (fun x => d ≤ x ∧ x < d + 45) (szS (eUnd E) + szS (eDon E)) S1 S2 := Sg_mono s1.1 s2 (fun x hx => by rcases hx with h | h | h <;> omega) (Nat.le_refl _)
    obtain ⟨q1, ⟨n8, n10, n11, n12, n13, n14⟩, q3, q4, q5⟩ := l1
    have l2 : EdLn S2 d n E := ⟨EdS_Sg s1.1 q1 s2, ⟨by rw [k2 8 (by omega) (by omega)]; exact n8, by rw [k2 10 (by omega) (by omega)]; exact n10, by rw [k2 11 (by omega) (by omega)]; exact n11, by rw [k2 12 (by omega) (by omega)]; exact n12, by rw [k2 13 (by omega) (by omega)]; exact n13, by rw [k2 14 (by omega) (by omega)]; exact n14⟩, fun j hj => by rw [a2]; exact q3 j hj, OpS_Fo s1.1 q4 s2.2.1 (fun h => by rcases h with h | h | h <;> omega), OpS_Fo s1.1 q5 s2.2.1 (fun h => by rcases h with h | h | h <;> omega)⟩
    refine ⟨S1, S2, by rw [cal_k hED.1]; exact e1, s1.2.2.2.2.1, s1', by rw [if_pos rfl, cal_k q1.1]; exact e2, ⟨l2, fun _ => ⟨t2, m2⟩⟩, ⟨z1, z2, z3, z4⟩, ⟨lenO_Fo s1.1 q1.2.2.1.2.1 s2.2.1 (fun h => by rcases h with h | h | h <;> omega), lenO_Fo s1.1 q1.2.2.1.2.2.1 s2.2.1 (fun h => by rcases h with h | h | h <;> omega)⟩, ?_⟩
    rw [if_pos rfl]
    exact Sg_trans s1' s2'
