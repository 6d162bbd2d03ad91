/-! ===== PART II, the class: the weaver's readers and outs ===== -/
/-- the weaver -/
def Wv (S : CS) (g : Nat) : Prop := kd S g = 9 ∧ cJ S g 0 = some (g + 1) ∧ cJ S g 1 = some (g + 4) ∧ cJ S g 2 = some (g + 7) ∧ cJ S g 3 = some (g + 9) ∧ cJ S g 5 = some (g + 12) ∧ cJ S g 6 = some (g + 14) ∧ kd S (g + 1) = 5 ∧ kd S (g + 4) = 5 ∧ kd S (g + 7) = 4 ∧ kd S (g + 9) = 4 ∧ kd S (g + 12) = 4 ∧ kd S (g + 14) = 4
theorem Wv_Sg {z : Nat} {H : Nat → Prop} {c : Nat} {S S' : CS} {g : Nat} (hW : Wf S) (h : Wv S g) (hs : Sg z H c S S') : Wv S' g := by
  obtain ⟨a1, a2, a3, a4, a5, a6, a7, a8, a9, b1, b2, b3, b4⟩ := h
  obtain ⟨s1, s2, s3, s4, s5, s6⟩ := hs
  have k : ∀ x c, kd S x = c → c < 99 → kd S' x = c := fun x c hx hc => by rw [(s2.2.1 x (kd_lt hW.1 hx hc)).1]; exact hx
  have j : ∀ i a, i ≠ 4 → cJ S g i = some a → cJ S' g i = some a := fun i a hi ha => by
    rw [s5 g i (kd_lt hW.1 a1 (by omega)) (by rw [a1]; unfold Sta; omega)]; exact ha
  exact ⟨k _ _ a1 (by omega), j _ _ (by omega) a2, j _ _ (by omega) a3, j _ _ (by omega) a4, j _ _ (by omega) a5, j _ _ (by omega) a6, j _ _ (by omega) a7, k _ _ a8 (by omega), k _ _ a9 (by omega), k _ _ b1 (by omega), k _ _ b2 (by omega), k _ _ b3 (by omega), k _ _ b4 (by omega)⟩
theorem RdR_Fo {H : Nat → Prop} {S S' : CS} {g o : Nat} {R L : List Pt} (hD : RdR S g o R L) (hf : Fo H S S') (hn : ¬ H g) : RdR S' g o R L := by
  obtain ⟨⟨a1, a2, a3⟩, n, a4, a5, a6⟩ := hD
  obtain ⟨f1, f2, f3, f4⟩ := hf
  obtain ⟨b1, b2, b3, b4⟩ := f2 g a1
  obtain ⟨c1, c2, c3⟩ := b4 hn
  exact ⟨⟨by omega, by rw [b1]; exact a2, by rw [c2]; exact a3⟩, n, a4, by rw [c1]; exact a5, by rw [c1]; exact a6⟩
theorem lenO_Fo {H : Nat → Prop} {S S' : CS} {h : Nat} (hW : Wf S) (hk : kd S h = 4) (hf : Fo H S S') (hn : ¬ H h) : lenO S' h = lenO S h := by
  obtain ⟨a, q1, q2, q3, q4, q5⟩ := hW.2.2.2.1 h hk
  obtain ⟨f1, f2, f3, f4⟩ := hf
  have hz := hW.2.1 h 0 a q1
  obtain ⟨b1, b2, b3, b4⟩ := f2 h hz.1
  rw [lenO_of q1, lenO_of (a := a) (by rw [(b4 hn).2.1]; exact q1), (f2 a hz.2).2.1]
abbrev Hw (g : Nat) : Nat → Prop := fun x => x = g + 1 ∨ x = g + 4 ∨ x = g + 7 ∨ x = g + 9
/-- two operations before the readers, what is put out so far -/
def TS (S : CS) (g p q : Nat) (RA RB A B CA CB : List Pt) : Prop := Wf S ∧ Wv S g ∧ RdR S (g + 1) p RA A ∧ RdR S (g + 4) q RB B ∧ OpR S p RA ∧ OpR S q RB ∧ OpR S (g + 7) CA ∧ OpR S (g + 9) CB ∧ (p ≠ g + 7 ∧ p ≠ g + 9 ∧ q ≠ g + 7 ∧ q ≠ g + 9)
section TSs
variable {z : Nat} {S S' : CS} {g p q : Nat} {RA RB A B CA CB : List Pt}
theorem kd45 {S : CS} {x y : Nat} (hx : kd S x = 4) (hy : kd S y = 5) : x ≠ y := fun e => by rw [e, hy] at hx; omega
theorem TS_A {C : List Pt} (h : TS S g p q RA RB A B CA CB) (ho : OpR S' (g + 7) C) (hl : lenO S' (g + 7) = lenO S (g + 7)) (hs : Sg z (fun x => x = g + 7) 0 S S') : TS S' g p q RA RB A B C CB ∧ lenO S' (g + 7) = lenO S (g + 7) ∧ lenO S' (g + 9) = lenO S (g + 9) ∧ Sg z (Hw g) 0 S S' := by
  obtain ⟨h1, h2, h3, h4, h5, h6, h7, h8, h9, ha, hb, hc⟩ := h
  refine ⟨⟨hs.1, Wv_Sg h1 h2 hs, RdR_Fo h3 hs.2.1 (by omega), RdR_Fo h4 hs.2.1 (by omega), OpR_Fo h1 h5 hs.2.1 h9, OpR_Fo h1 h6 hs.2.1 hb, ho, OpR_Fo h1 h8 hs.2.1 (by omega), h9, ha, hb, hc⟩, hl, lenO_Fo h1 (OpR_kd h8) hs.2.1 (by omega), Sg_mono h1 hs (fun x hx => Or.inr (Or.inr (Or.inl hx))) (Nat.le_refl _)⟩
theorem TS_B {C : List Pt} (h : TS S g p q RA RB A B CA CB) (ho : OpR S' (g + 9) C) (hl : lenO S' (g + 9) = lenO S (g + 9)) (hs : Sg z (fun x => x = g + 9) 0 S S') : TS S' g p q RA RB A B CA C ∧ lenO S' (g + 7) = lenO S (g + 7) ∧ lenO S' (g + 9) = lenO S (g + 9) ∧ Sg z (Hw g) 0 S S' := by
  obtain ⟨h1, h2, h3, h4, h5, h6, h7, h8, h9, ha, hb, hc⟩ := h
  refine ⟨⟨hs.1, Wv_Sg h1 h2 hs, RdR_Fo h3 hs.2.1 (by omega), RdR_Fo h4 hs.2.1 (by omega), OpR_Fo h1 h5 hs.2.1 ha, OpR_Fo h1 h6 hs.2.1 hc, OpR_Fo h1 h7 hs.2.1 (by omega), ho, h9, ha, hb, hc⟩, lenO_Fo h1 (OpR_kd h7) hs.2.1 (by omega), hl, Sg_mono h1 hs (fun x hx => Or.inr (Or.inr (Or.inr hx))) (Nat.le_refl _)⟩
theorem TS_r {L : List Pt} (h : TS S g p q RA RB A B CA CB) (ho : RdR S' (g + 1) p RA L) (hs : Sg z (fun x => x = g + 1) 0 S S') : TS S' g p q RA RB L B CA CB ∧ lenO S' (g + 7) = lenO S (g + 7) ∧ lenO S' (g + 9) = lenO S (g + 9) ∧ Sg z (Hw g) 0 S S' := by
  obtain ⟨h1, h2, h3, h4, h5, h6, h7, h8, h9, ha, hb, hc⟩ := h
  have k5 := h3.1.2.1
  refine ⟨⟨hs.1, Wv_Sg h1 h2 hs, ho, RdR_Fo h4 hs.2.1 (by omega), OpR_Fo h1 h5 hs.2.1 (kd45 (OpR_kd h5) k5), OpR_Fo h1 h6 hs.2.1 (kd45 (OpR_kd h6) k5), OpR_Fo h1 h7 hs.2.1 (by omega), OpR_Fo h1 h8 hs.2.1 (by omega), h9, ha, hb, hc⟩, lenO_Fo h1 (OpR_kd h7) hs.2.1 (by omega), lenO_Fo h1 (OpR_kd h8) hs.2.1 (by omega), Sg_mono h1 hs (fun x hx => Or.inl hx) (Nat.le_refl _)⟩
theorem TS_s {L : List Pt} (h : TS S g p q RA RB A B CA CB) (ho : RdR S' (g + 4) q RB L) (hs : Sg z (fun x => x = g + 4) 0 S S') : TS S' g p q RA RB A L CA CB ∧ lenO S' (g + 7) = lenO S (g + 7) ∧ lenO S' (g + 9) = lenO S (g + 9) ∧ Sg z (Hw g) 0 S S' := by
  obtain ⟨h1, h2, h3, h4, h5, h6, h7, h8, h9, ha, hb, hc⟩ := h
  have k5 := h4.1.2.1
  refine ⟨⟨hs.1, Wv_Sg h1 h2 hs, RdR_Fo h3 hs.2.1 (by omega), ho, OpR_Fo h1 h5 hs.2.1 (kd45 (OpR_kd h5) k5), OpR_Fo h1 h6 hs.2.1 (kd45 (OpR_kd h6) k5), OpR_Fo h1 h7 hs.2.1 (by omega), OpR_Fo h1 h8 hs.2.1 (by omega), h9, ha, hb, hc⟩, lenO_Fo h1 (OpR_kd h7) hs.2.1 (by omega), lenO_Fo h1 (OpR_kd h8) hs.2.1 (by omega), Sg_mono h1 hs (fun x hx => Or.inr (Or.inl hx)) (Nat.le_refl _)⟩
/-- the result of a step: a state, lengths as they were, the weaver's own objects alone changed -/
def TR (z : Nat) (S : CS) (g p q : Nat) (RA RB A B CA CB : List Pt) (o : Option CS) : Prop := ∃ S', o = some S' ∧ TS S' g p q RA RB A B CA CB ∧ lenO S' (g + 7) = lenO S (g + 7) ∧ lenO S' (g + 9) = lenO S (g + 9) ∧ Sg z (Hw g) 0 S S'
theorem TR_bind {A' B' CA' CB' : List Pt} {o : Option CS} {f : CS → Option CS} (h : TR z S g p q RA RB A B CA CB o) (h2 : ∀ S', o = some S' → TS S' g p q RA RB A B CA CB → lenO S' (g + 7) = lenO S (g + 7) → lenO S' (g + 9) = lenO S (g + 9) → TR z S' g p q RA RB A' B' CA' CB' (f S')) : TR z S g p q RA RB A' B' CA' CB' (o.bind f) := by
  obtain ⟨S', e1, e2, e3, e4, e5⟩ := h
  obtain ⟨S'', g1, g2, g3, g4, g5⟩ := h2 S' e1 e2 e3 e4
  exact ⟨S'', by rw [e1]; exact g1, g2, g3.trans e3, g4.trans e4, Sg_trans e5 g5⟩
theorem TR_end (h : TS S g p q RA RB A B CA CB) : TR z S g p q RA RB A B CA CB (some S) := ⟨S, rfl, h, rfl, rfl, Sg_refl h.1⟩
theorem TR_some {o : Option CS} (h : TR z S g p q RA RB A B CA CB o) : TR z S g p q RA RB A B CA CB (o.bind fun S' => some S') := TR_bind h (fun S' _ h2 _ _ => TR_end h2)
/-- what the weaver's fields give -/
theorem TS_g (h : TS S g p q RA RB A B CA CB) : gr S 9 g 0 = some (g + 1) ∧ gr S 9 g 1 = some (g + 4) ∧ gr S 9 g 2 = some (g + 7) ∧ gr S 9 g 3 = some (g + 9) := by
  obtain ⟨h1, ⟨w1, w2, w3, w4, w5, _⟩, _⟩ := h
  exact ⟨gr_k w1 w2, gr_k w1 w3, gr_k w1 w4, gr_k w1 w5⟩
theorem TS_kA (h : TS S g p q RA RB A B CA CB) {n : Nat} (h1 : 1 ≤ n) (hd : (decR CA).length + n < 100000) (hs : CA.length + 1 ≤ lenO S (g + 7)) : TR z S g p q RA RB A B (addK n CA) CB (cal S 4 (g + 7) (f4_addKeep S (g + 7) (nI n))) := by
  have ho := h.2.2.2.2.2.2.1
  obtain ⟨S', e1, e2, e3, e4⟩ := addKeep_R (z := z) h.1 ho h1 hd hs
  rw [cal_k (OpR_kd ho), e1]
  exact ⟨S', rfl, TS_A h e2 e3 e4⟩
theorem TS_cA (h : TS S g p q RA RB A B CA CB) {n : Nat} (h1 : 1 ≤ n) (hd : (decR CA).length + n < 100000) (hs : CA.length + 1 ≤ lenO S (g + 7)) : TR z S g p q RA RB A B (addC n CA) CB (cal S 4 (g + 7) (f4_addCut S (g + 7) (nI n))) := by
  have ho := h.2.2.2.2.2.2.1
  obtain ⟨S', e1, e2, e3, e4⟩ := addCut_R (z := z) h.1 ho h1 hd hs
  rw [cal_k (OpR_kd ho), e1]
  exact ⟨S', rfl, TS_A h e2 e3 e4⟩
theorem TS_pA (h : TS S g p q RA RB A B CA CB) {n : Nat} (h1 : 1 ≤ n) (h2 : n ≤ 26) (hs : CA.length + 1 ≤ lenO S (g + 7)) : TR z S g p q RA RB A B (addP n CA) CB (cal S 4 (g + 7) (f4_addPut S (g + 7) (nI n))) := by
  have ho := h.2.2.2.2.2.2.1
  obtain ⟨S', e1, e2, e3, e4⟩ := addPut_R (z := z) h.1 ho h1 h2 hs
  rw [cal_k (OpR_kd ho), e1]
  exact ⟨S', rfl, TS_A h e2 e3 e4⟩
theorem TS_kB (h : TS S g p q RA RB A B CA CB) {n : Nat} (h1 : 1 ≤ n) (hd : (decR CB).length + n < 100000) (hs : CB.length + 1 ≤ lenO S (g + 9)) : TR z S g p q RA RB A B CA (addK n CB) (cal S 4 (g + 9) (f4_addKeep S (g + 9) (nI n))) := by
  have ho := h.2.2.2.2.2.2.2.1
  obtain ⟨S', e1, e2, e3, e4⟩ := addKeep_R (z := z) h.1 ho h1 hd hs
  rw [cal_k (OpR_kd ho), e1]
  exact ⟨S', rfl, TS_B h e2 e3 e4⟩
theorem TS_cB (h : TS S g p q RA RB A B CA CB) {n : Nat} (h1 : 1 ≤ n) (hd : (decR CB).length + n < 100000) (hs : CB.length + 1 ≤ lenO S (g + 9)) : TR z S g p q RA RB A B CA (addC n CB) (cal S 4 (g + 9) (f4_addCut S (g + 9) (nI n))) := by
  have ho := h.2.2.2.2.2.2.2.1
  obtain ⟨S', e1, e2, e3, e4⟩ := addCut_R (z := z) h.1 ho h1 hd hs
  rw [cal_k (OpR_kd ho), e1]
  exact ⟨S', rfl, TS_B h e2 e3 e4⟩
theorem TS_pB (h : TS S g p q RA RB A B CA CB) {n : Nat} (h1 : 1 ≤ n) (h2 : n ≤ 26) (hs : CB.length + 1 ≤ lenO S (g + 9)) : TR z S g p q RA RB A B CA (addP n CB) (cal S 4 (g + 9) (f4_addPut S (g + 9) (nI n))) := by
  have ho := h.2.2.2.2.2.2.2.1
  obtain ⟨S', e1, e2, e3, e4⟩ := addPut_R (z := z) h.1 ho h1 h2 hs
  rw [cal_k (OpR_kd ho), e1]
  exact ⟨S', rfl, TS_B h e2 e3 e4⟩
theorem TS_rA {x : Pt} {L : List Pt} (h : TS S g p q RA RB (x :: L) B CA CB) {m : Nat} (h1 : 1 ≤ m) (h2 : m ≤ cntP2 x) : TR z S g p q RA RB (dropC m (x :: L)) B CA CB (cal S 5 (g + 1) (f5_pass S (g + 1) (nI m))) := by
  have hr := h.2.2.1
  obtain ⟨S', e1, e2, e3⟩ := pass_R (z := z) h.1 hr h.2.2.2.2.1 h1 h2
  rw [cal_k hr.1.2.1, e1]
  exact ⟨S', rfl, TS_r h e2 e3⟩
theorem TS_rB {x : Pt} {L : List Pt} (h : TS S g p q RA RB A (x :: L) CA CB) {m : Nat} (h1 : 1 ≤ m) (h2 : m ≤ cntP2 x) : TR z S g p q RA RB A (dropC m (x :: L)) CA CB (cal S 5 (g + 4) (f5_pass S (g + 4) (nI m))) := by
  have hr := h.2.2.2.1
  obtain ⟨S', e1, e2, e3⟩ := pass_R (z := z) h.1 hr h.2.2.2.2.2.1 h1 h2
  rw [cal_k hr.1.2.1, e1]
  exact ⟨S', rfl, TS_s h e2 e3⟩
/-- what stands before a reader -/
theorem rd_part {o gg : Nat} {R L : List Pt} {x : Pt} (hD : RdR S gg o R (x :: L)) : okPt x ∧ gi S 5 gg 3 = some (nI (cntP2 x)) ∧ (x.1 = 1 → gi S 5 gg 2 = some (nI x.2)) := by
  obtain ⟨⟨a1, a2, a3⟩, n, a4, a5, b1, b2, b3, b4, b5, b6, b7⟩ := hD
  exact ⟨b2, by rw [gi_k a2, b3], fun h => by rw [gi_k a2, b5 h]⟩
theorem rd_nil {o gg : Nat} {R : List Pt} (hD : RdR S gg o R []) : gi S 5 gg 3 = some 0 := by
  obtain ⟨⟨a1, a2, a3⟩, n, a4, a5, b1, b2, b3⟩ := hD
  rw [gi_k a2, b3]
theorem rd_put {o gg : Nat} {R L : List Pt} (hD : RdR S gg o R L) : cal S 5 gg (f5_isAtPut S gg) = some (bI (putH L)) := by rw [cal_k hD.1.2.1]; exact atPut_R hD
theorem rd_cut {o gg : Nat} {R L : List Pt} (hD : RdR S gg o R L) : cal S 5 gg (f5_isAtCut S gg) = some (bI (cutH L)) := by rw [cal_k hD.1.2.1]; exact atCut_R hD
end TSs
