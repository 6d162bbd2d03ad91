/-! ===== PART II, the class: all that a FarEditors has ===== -/
def TpS (S : CS) (z : Nat) : Prop :=
  kd S z = 11 ∧ (cJ S z 0 = some (z + 1) ∧ cJ S z 1 = some (z + 6) ∧ cJ S z 2 = some (z + 22) ∧ cJ S z 3 = some (z + 227) ∧ cJ S z 4 = some (z + 412) ∧ cJ S z 5 = some (z + 597) ∧ cJ S z 6 = some (z + 599) ∧ cJ S z 7 = some (z + 654) ∧ cJ S z 8 = some (z + 656) ∧ cJ S z 9 = some (z + 658) ∧ cJ S z 10 = some (z + 660)) ∧
  (kd S (z + 1) = 8 ∧ cJ S (z + 1) 0 = some (z + 2) ∧ cJ S (z + 1) 7 = some (z + 3) ∧ cJ S (z + 1) 9 = some (z + 4) ∧ cJ S (z + 1) 10 = some (z + 5)) ∧
  ((kd S (z + 2) = 14 ∧ cN S (z + 2) = 1600) ∧ (kd S (z + 3) = 14 ∧ cN S (z + 3) = 1600) ∧ (kd S (z + 4) = 14 ∧ cN S (z + 4) = 60) ∧ (kd S (z + 5) = 14 ∧ cN S (z + 5) = 240)) ∧
  (kd S (z + 597) = 2 ∧ cJ S (z + 597) 0 = some (z + 598) ∧ kd S (z + 598) = 19 ∧ cN S (z + 598) = 20) ∧
  (kd S (z + 599) = 0 ∧ cJ S (z + 599) 0 = some (z + 600) ∧ cJ S (z + 599) 1 = some (z + 601) ∧ cJ S (z + 599) 2 = some (z + 602) ∧ cJ S (z + 599) 3 = some (z + 603) ∧ cJ S (z + 599) 4 = some (z + 604) ∧ cJ S (z + 599) 5 = some (z + 605)) ∧
  ((kd S (z + 600) = 18 ∧ cN S (z + 600) = 24) ∧ (kd S (z + 601) = 14 ∧ cN S (z + 601) = 4) ∧ (kd S (z + 602) = 14 ∧ cN S (z + 602) = 4) ∧ (kd S (z + 603) = 14 ∧ cN S (z + 603) = 16) ∧ (kd S (z + 604) = 14 ∧ cN S (z + 604) = 16) ∧ (kd S (z + 605) = 14 ∧ cN S (z + 605) = 27)) ∧
  (∀ i, i < 24 → cB S (z + 600) i = some (z + 606 + 2 * i) ∧ kd S (z + 606 + 2 * i) = 7) ∧
  (kd S (z + 654) = 4 ∧ kd S (z + 656) = 4 ∧ kd S (z + 658) = 7 ∧ kd S (z + 660) = 14 ∧ cN S (z + 660) = 7)
theorem TpS_Sg {z c : Nat} {H : Nat → Prop} {S S' : CS} {q : Nat} (hW : Wf S) (h : TpS S q) (hs : Sg z H c S S') : TpS S' q := by
  obtain ⟨a1, ⟨j0, j1, j2, j3, j4, j5, j6, j7, j8, j9, j10⟩, ⟨b0, b1, b2, b3, b4⟩, ⟨⟨c0, c1⟩, ⟨c2, c3⟩, ⟨c4, c5⟩, ⟨c6, c7⟩⟩, ⟨d0, d1, d2, d3⟩, ⟨e0, e1, e2, e3, e4, e5, e6⟩, ⟨⟨f0, f1⟩, ⟨f2, f3⟩, ⟨f4, f5⟩, ⟨f6, f7⟩, ⟨f8, f9⟩, ⟨fa, fb⟩⟩, g0, ⟨h0, h1, h2, h3, h4⟩⟩ := h
  obtain ⟨s1, s2, s3, s4, s5, s6⟩ := hs
  have k : ∀ x c, kd S x = c → c < 99 → kd S' x = c := fun x c hx hc => by rw [(s2.2.1 x (kd_lt hW.1 hx hc)).1]; exact hx
  have n : ∀ x c m, kd S x = c → c < 99 → cN S x = m → cN S' x = m := fun x c m hx hc hm => by rw [(s2.2.1 x (kd_lt hW.1 hx hc)).2.1]; exact hm
  have j : ∀ x c i a, kd S x = c → (c = 11 ∨ c = 8 ∨ c = 2 ∨ c = 0) → cJ S x i = some a → cJ S' x i = some a := fun x c i a hx hc ha => by
    rw [s5 x i (kd_lt hW.1 hx (by omega)) (by rw [hx]; unfold Sta; omega)]; exact ha
  have ja := fun i a => j q 11 i a a1 (by omega)
  have jb := fun i a => j (q + 1) 8 i a b0 (by omega)
  have jd := fun i a => j (q + 597) 2 i a d0 (by omega)
  have je := fun i a => j (q + 599) 0 i a e0 (by omega)
  refine ⟨k _ _ a1 (by omega), ⟨ja _ _ j0, ja _ _ j1, ja _ _ j2, ja _ _ j3, ja _ _ j4, ja _ _ j5, ja _ _ j6, ja _ _ j7, ja _ _ j8, ja _ _ j9, ja _ _ j10⟩, ⟨k _ _ b0 (by omega), jb _ _ b1, jb _ _ b2, jb _ _ b3, jb _ _ b4⟩, ⟨⟨k _ _ c0 (by omega), n _ _ _ c0 (by omega) c1⟩, ⟨k _ _ c2 (by omega), n _ _ _ c2 (by omega) c3⟩, ⟨k _ _ c4 (by omega), n _ _ _ c4 (by omega) c5⟩, ⟨k _ _ c6 (by omega), n _ _ _ c6 (by omega) c7⟩⟩, ⟨k _ _ d0 (by omega), jd _ _ d1, k _ _ d2 (by omega), n _ _ _ d2 (by omega) d3⟩, ⟨k _ _ e0 (by omega), je _ _ e1, je _ _ e2, je _ _ e3, je _ _ e4, je _ _ e5, je _ _ e6⟩, ⟨⟨k _ _ f0 (by omega), n _ _ _ f0 (by omega) f1⟩, ⟨k _ _ f2 (by omega), n _ _ _ f2 (by omega) f3⟩, ⟨k _ _ f4 (by omega), n _ _ _ f4 (by omega) f5⟩, ⟨k _ _ f6 (by omega), n _ _ _ f6 (by omega) f7⟩, ⟨k _ _ f8 (by omega), n _ _ _ f8 (by omega) f9⟩, ⟨k _ _ fa (by omega), n _ _ _ fa (by omega) fb⟩⟩, fun i hi => ⟨?_, k _ _ (g0 i hi).2 (by omega)⟩, ⟨k _ _ h0 (by omega), k _ _ h1 (by omega), k _ _ h2 (by omega), k _ _ h3 (by omega), n _ _ _ h3 (by omega) h4⟩⟩
  rw [s6 (q + 600) (kd_lt hW.1 f0 (by omega)) (by omega) (by omega)]; exact (g0 i hi).1
/-- the tape -/
def TpT (S : CS) (z : Nat) (A : St) : Prop := cI S (z + 1) 1 = nI (aTape A).length ∧ seg (cA S (z + 2)) 0 (aTape A)
/-- faults, refusals, the seed -/
def TpF (S : CS) (z : Nat) (A : St) : Prop := cI S z 11 = aFk A ∧ cI S z 12 = aFp A ∧ (∀ k, k < 7 → cA S (z + 660) k = aRf A k) ∧ cI S z 13 = nI (aSeed A)
def AhC (S : CS) (z : Nat) : Prop := WdS S (z + 412) (z + 22) (z + 6) ∧ ∀ i, i < 4 → EdJ S (z + 412 + 5 + 45 * i) false
/-- the worlds that there are for those before -/
def KpC (S : CS) (z : Nat) (K : Nat → Option Nat) : Prop := ∀ j, j < 20 → cB S (z + 598) j = K j ∧ ∀ k, K j = some k → z + 661 ≤ k ∧ k + 185 ≤ cZ S ∧ WdS S k (z + 22) (z + 6) ∧ (∀ i, i < 4 → EdJ S (k + 5 + 45 * i) true) ∧ ∀ j' k', j' < 20 → j' ≠ j → K j' = some k' → k + 185 ≤ k' ∨ k' + 185 ≤ k
def HsC (S : CS) (z : Nat) (A : St) (K : Nat → Option Nat) (fi : Nat) : Prop := fi < 20 ∧ cI S (z + 597) 1 = nI fi ∧ cI S (z + 597) 2 = nI (aHist A).length ∧ ∀ j W, (aHist A)[j]? = some W → ∃ k, K ((fi + (aHist A).length + 19 - j) % 20) = some k ∧ WdC S k (z + 22) (z + 6) (aCnt A) (aTies A) (aTold A) W true
/-- the ends, as they are known -/
def EndC (S : CS) (z : Nat) (A : St) : Prop := cI S (z + 599) 7 = nI (endsA A).length ∧ ∀ n t, (endsA A)[n]? = some t → ∃ t', TxL S (z + 606 + 2 * n) t' ∧ ltr t' = t
def CmC (S : CS) (z : Nat) (A : St) (ch : Nat) : Prop := cI S (z + 597) 3 = nI ch ∧ (cI S (z + 599) 8 = nI (aSeen A).length ∧ seg (cA S (z + 603)) 0 ((aSeen A).map Prod.fst) ∧ seg (cA S (z + 604)) 0 ((aSeen A).map Prod.snd)) ∧ (cI S (z + 599) 9 = nI ch → EndC S z A) ∧ (cI S (z + 599) 9 = -1 ∨ ∃ c', c' ≤ ch ∧ cI S (z + 599) 9 = nI c')
def CR (S : CS) (z : Nat) (A : St) (K : Nat → Option Nat) (fi ch : Nat) : Prop :=
  Wf S ∧ TpS S z ∧ TpT S z A ∧ TpF S z A ∧ ShC S (z + 6) (z + 22) (aTold A) (wRow (aW A)) ∧ WdC S (z + 227) (z + 22) (z + 6) (aCnt A) (aTies A) (aTold A) (aW A) true ∧ AhC S z ∧ KpC S z K ∧ HsC S z A K fi ∧ CmC S z A ch
section FR
variable {z c : Nat} {H : Nat → Prop} {S S' : CS} {A : St} {K : Nat → Option Nat} {fi ch : Nat}
theorem TpT_Sg (hW : Wf S) (hT : TpS S z) (h : TpT S z A) (hs : Sg z H c S S') (hn : ¬ H (z + 1)) : TpT S' z A := by
  unfold TpT
  rw [fld_Fo hW hT.2.2.1.1 (by omega) hs.2.1 hn, arr_Fo hW hT.2.2.1.2.1 hT.2.2.2.1.1.1 hs.2.1 hn]
  exact h
theorem TpF_Sg (hW : Wf S) (hT : TpS S z) (h : TpF S z A) (hs : Sg z H c S S') (hn : ¬ H z) : TpF S' z A := by
  unfold TpF
  rw [fld_Fo hW hT.1 (by omega) hs.2.1 hn, arr_Fo hW hT.2.1.2.2.2.2.2.2.2.2.2.2 hT.2.2.2.2.2.2.2.2.2.2.2.1 hs.2.1 hn]
  exact h
theorem AhC_Sg (hW : Wf S) (h : AhC S z) (hs : Sg z H c S S') (hn : ∀ x, z + 417 ≤ x → x < z + 597 → ¬ H x) : AhC S' z :=
  ⟨WdS_Sg hW h.1 hs, fun i hi => EdJ_Sg hW (h.2 i hi) hs (fun x hx => hn x (by omega) (by omega))⟩
theorem KpC_Sg (hW : Wf S) (hT : TpS S z) (h : KpC S z K) (hs : Sg z H c S S') (hn : ¬ H (z + 598)) (hk : ∀ j k, j < 20 → K j = some k → ∀ x, k ≤ x → x < k + 185 → ¬ H x) : KpC S' z K := by
  intro j hj
  obtain ⟨h1, h2⟩ := h j hj
  have hz := hT.2.2.2.2.1.2.2.1
  refine ⟨by rw [((hs.2.1.2.1 (z + 598) (kd_lt hW.1 hz (by omega))).2.2.2 hn).2.2]; exact h1, fun k hkj => ?_⟩
  obtain ⟨a1, a2, a3, a4, a5⟩ := h2 k hkj
  have := hs.2.1.1
  exact ⟨a1, by omega, WdS_Sg hW a3 hs, fun i hi => EdJ_Sg hW (a4 i hi) hs (fun x hx => hk j k hj hkj x (by omega) (by omega)), a5⟩
theorem HsC_Sg (hW : Wf S) (hT : TpS S z) (h : HsC S z A K fi) (hs : Sg z H c S S') (hn : ¬ H (z + 597)) (hk : ∀ j k, j < 20 → K j = some k → ∀ x, k ≤ x → x < k + 185 → ¬ H x) : HsC S' z A K fi := by
  obtain ⟨h1, h2, h3, h4⟩ := h
  have hi := fld_Fo hW hT.2.2.2.2.1.1 (by omega) hs.2.1 hn
  refine ⟨h1, by rw [hi]; exact h2, by rw [hi]; exact h3, fun j W hj => ?_⟩
  obtain ⟨k, k1, k2⟩ := h4 j W hj
  exact ⟨k, k1, WdC_Sg hW k2 hs (hk _ k (Nat.mod_lt _ (by omega)) k1)⟩
theorem EndC_Sg (hW : Wf S) (hT : TpS S z) (h : EndC S z A) (hs : Sg z H c S S') (hn : ∀ x, z + 599 ≤ x → x < z + 654 → ¬ H x) (hl : (endsA A).length ≤ 24) : EndC S' z A := by
  refine ⟨by rw [fld_Fo hW hT.2.2.2.2.2.1.1 (by omega) hs.2.1 (hn _ (by omega) (by omega))]; exact h.1, fun n t ht => ?_⟩
  obtain ⟨t', h1, h2⟩ := h.2 n t ht
  have := (List.getElem?_eq_some_iff.mp ht).1
  exact ⟨t', TxL_Fo hW h1 hs.2.1 (hn _ (by omega) (by omega)), h2⟩
theorem CmC_Sg (hW : Wf S) (hT : TpS S z) (h : CmC S z A ch) (hs : Sg z H c S S') (hn : ∀ x, z + 597 ≤ x → x < z + 654 → ¬ H x) (hl : (endsA A).length ≤ 24) : CmC S' z A ch := by
  obtain ⟨h1, h2, h3, h4⟩ := h
  have e0 := hT.2.2.2.2.2.1
  have f0 := hT.2.2.2.2.2.2.1
  have hi := fld_Fo hW e0.1 (by omega) hs.2.1 (hn _ (by omega) (by omega))
  have hi2 := fld_Fo hW hT.2.2.2.2.1.1 (by omega) hs.2.1 (hn _ (by omega) (by omega))
  have a3 := arr_Fo hW e0.2.2.2.2.1 f0.2.2.2.1.1 hs.2.1 (hn _ (by omega) (by omega))
  have a4 := arr_Fo hW e0.2.2.2.2.2.1 f0.2.2.2.2.1.1 hs.2.1 (hn _ (by omega) (by omega))
  unfold CmC
  rw [hi, hi2, a3, a4]
  exact ⟨h1, h2, fun hh => EndC_Sg hW hT (h3 hh) hs (fun x x1 x2 => hn x (by omega) (by omega)) hl, h4⟩
end FR
