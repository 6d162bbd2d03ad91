/-! ===== PART II, the class: the server's row, a world ===== -/
/-- the row of the server: start r+1, operations r+5+2i, owners r+4 -/
def RwS (S : CS) (r : Nat) : Prop := kd S r = 6 ∧ (cJ S r 0 = some (r + 1) ∧ cJ S r 1 = some (r + 3) ∧ cJ S r 2 = some (r + 4)) ∧ kd S (r + 1) = 7 ∧ (kd S (r + 3) = 17 ∧ cN S (r + 3) = 100) ∧ (kd S (r + 4) = 14 ∧ cN S (r + 4) = 100) ∧ ∀ i, i < 100 → cB S (r + 3) i = some (r + 5 + 2 * i) ∧ kd S (r + 5 + 2 * i) = 4
theorem RwS_Sg {z c : Nat} {H : Nat → Prop} {S S' : CS} {r : Nat} (hW : Wf S) (h : RwS S r) (hs : Sg z H c S S') (hn : ¬ H (r + 3)) : RwS S' r := by
  obtain ⟨a1, ⟨j0, j1, j2⟩, k1, ⟨k3, n3⟩, ⟨k4, n4⟩, ho⟩ := h
  obtain ⟨s1, s2, s3, s4, s5, s6⟩ := hs
  have rz := kd_lt hW.1 a1 (by omega)
  have k : ∀ x c, kd S x = c → c < 99 → kd S' x = c := fun x c hx hc => by rw [(s2.2.1 x (kd_lt hW.1 hx hc)).1]; exact hx
  have n : ∀ x c m, kd S x = c → c < 99 → cN S x = m → cN S' x = m := fun x c m hx hc hm => by rw [(s2.2.1 x (kd_lt hW.1 hx hc)).2.1]; exact hm
  have j : ∀ i a, cJ S r i = some a → cJ S' r i = some a := fun i a ha => by rw [s5 r i rz (by rw [a1]; unfold Sta; omega)]; exact ha
  refine ⟨k _ _ a1 (by omega), ⟨j _ _ j0, j _ _ j1, j _ _ j2⟩, k _ _ k1 (by omega), ⟨k _ _ k3 (by omega), n _ _ _ k3 (by omega) n3⟩, ⟨k _ _ k4 (by omega), n _ _ _ k4 (by omega) n4⟩, fun i hi => ⟨?_, k _ _ (ho i hi).2 (by omega)⟩⟩
  rw [((s2.2.1 (r + 3) (kd_lt hW.1 k3 (by omega))).2.2.2 hn).2.2]; exact (ho i hi).1
/-- what the row holds -/
def RwM (S : CS) (r : Nat) (row : List (Nat × List Int32)) : Prop := row.length ≤ 100 ∧ ∀ (i : Nat) (o : Nat × List Int32), row[i]? = some o → OpL S (r + 5 + 2 * i) o.2 ∧ cA S (r + 4) i = nI o.1
theorem RwM_Sg {z c : Nat} {H : Nat → Prop} {S S' : CS} {r : Nat} {row : List (Nat × List Int32)} (hW : Wf S) (hS : RwS S r) (h : RwM S r row) (hs : Sg z H c S S') (hn : ¬ H r) (ho : ∀ i, i < row.length → ¬ H (r + 5 + 2 * i)) : RwM S' r row := by
  refine ⟨h.1, fun i o hi => ?_⟩
  obtain ⟨h1, h2⟩ := h.2 i o hi
  refine ⟨OpL_Fo hW h1 hs.2.1 (ho i (List.getElem?_eq_some_iff.mp hi).1), ?_⟩
  rw [arr_Fo hW hS.2.1.2.2 hS.2.2.2.2.1.1 hs.2.1 hn]; exact h2
/-- a world w, with the row r and the weaver g -/
def WdS (S : CS) (w r g : Nat) : Prop := kd S w = 10 ∧ (cJ S w 0 = some r ∧ cJ S w 1 = some g ∧ cJ S w 2 = some (w + 1) ∧ cJ S w 3 = some (w + 3) ∧ cJ S w 4 = some (w + 4)) ∧ kd S (w + 1) = 7 ∧ (kd S (w + 3) = 16 ∧ cN S (w + 3) = 4) ∧ (kd S (w + 4) = 14 ∧ cN S (w + 4) = 4) ∧ ∀ i, i < 4 → cB S (w + 3) i = some (w + 5 + 45 * i) ∧ EdS S (w + 5 + 45 * i)
theorem WdS_Sg {z c : Nat} {H : Nat → Prop} {S S' : CS} {w r g : Nat} (hW : Wf S) (h : WdS S w r g) (hs : Sg z H c S S') : WdS S' w r g := by
  obtain ⟨a1, ⟨j0, j1, j2, j3, j4⟩, k1, ⟨k3, n3⟩, ⟨k4, n4⟩, ho⟩ := h
  obtain ⟨s1, s2, s3, s4, s5, s6⟩ := id hs
  have wz := kd_lt hW.1 a1 (by omega)
  have k : ∀ x c, kd S x = c → c < 99 → kd S' x = c := fun x c hx hc => by rw [(s2.2.1 x (kd_lt hW.1 hx hc)).1]; exact hx
  have n : ∀ x c m, kd S x = c → c < 99 → cN S x = m → cN S' x = m := fun x c m hx hc hm => by rw [(s2.2.1 x (kd_lt hW.1 hx hc)).2.1]; exact hm
  have j : ∀ i a, cJ S w i = some a → cJ S' w i = some a := fun i a ha => by rw [s5 w i wz (by rw [a1]; unfold Sta; omega)]; exact ha
  refine ⟨k _ _ a1 (by omega), ⟨j _ _ j0, j _ _ j1, j _ _ j2, j _ _ j3, j _ _ j4⟩, k _ _ k1 (by omega), ⟨k _ _ k3 (by omega), n _ _ _ k3 (by omega) n3⟩, ⟨k _ _ k4 (by omega), n _ _ _ k4 (by omega) n4⟩, fun i hi => ⟨?_, EdS_Sg hW (ho i hi).2 hs⟩⟩
  rw [s6 (w + 3) (kd_lt hW.1 k3 (by omega)) (by omega) (by omega)]; exact (ho i hi).1
/-- its numbers -/
def WdN (S : CS) (w cnt ties : Nat) (W : Wd) : Prop := cI S w 6 = nI cnt ∧ cI S w 7 = nI ties ∧ cI S w 8 = nI (wTk W) ∧ cI S w 9 = nI (wEd W) ∧ cI S w 10 = nI (wPu W) ∧ cI S w 11 = nI (wRow W).length
section WQ
variable {S : CS} {w r g cnt ties : Nat} {W : Wd}
theorem ed_at (h : WdS S w r g) {i : Nat} (hi : i < 4) : ldr S 16 (w + 3) (nI i) = some (w + 5 + 45 * i) := ldr_k h.2.2.2.1.1 (by have := h.2.2.2.1.2; omega) (by have := h.2.2.2.1.2; omega) (h.2.2.2.2.2 i hi).1
theorem knows_W (h : WdS S w r g) (hc : cI S w 6 = nI cnt) (hcnt : cnt ≤ 4) (p : Int32) : f10_knows S w p = some (bI (decide (0 ≤ p.toInt ∧ p.toInt < cnt))) := by
  unfold f10_knows
  have n0 : (0 : Int32).toInt = 0 := by decide
  rw [gi_k h.1, hc, Option.bind_some, gr_k h.1 h.2.1.2.2.2.1, Option.bind_some, aln_k h.2.2.2.1.1, h.2.2.2.1.2, Option.bind_some]
  by_cases h1 : p < 0
  · rw [if_pos h1, decide_eq_false (fun hh => by rw [Int32.lt_iff_toInt_lt] at h1; omega)]; rfl
  · rw [if_neg h1]
    rw [Int32.lt_iff_toInt_lt] at h1
    by_cases h2 : nI cnt ≤ p
    · rw [if_pos h2, decide_eq_false (fun hh => by rw [Int32.le_iff_toInt_le, nI_toInt (by omega)] at h2; omega)]; rfl
    · rw [if_neg h2]
      rw [Int32.le_iff_toInt_le, nI_toInt (by omega)] at h2
      rw [if_neg (fun hh => by rw [Int32.le_iff_toInt_le, nI_toInt (by omega)] at hh; omega), decide_eq_true (by omega)]; rfl
theorem isAhead_W (h : WdS S w r g) (ht : cI S w 7 = nI ties) (hties : ties ≤ 2) {e o : Nat} (he : e < 1000) (ho : o < 1000) : f10_isAhead S w (nI e) (nI o) = some (bI (aheadB ties e o)) := by
  unfold f10_isAhead aheadB
  rw [gi_k h.1, ht, Option.bind_some, Option.bind_some]
  by_cases t0 : ties = 0
  · subst t0
    rw [if_pos (by decide), if_pos rfl]
    by_cases hlt : e < o
    · rw [if_neg (nI_ge hlt (by omega)), decide_eq_true hlt]; rfl
    · rw [if_pos (nI_le (by omega) (by omega)), decide_eq_false hlt]; rfl
  · rw [if_neg (nI_ne0 (by omega) (by omega)), if_neg t0]
    by_cases t1 : ties = 1
    · subst t1
      rw [if_pos (show nI 1 = 1 from rfl), decide_eq_true rfl, Bool.true_and]
      by_cases hlt : o < e
      · rw [if_neg (nI_ge hlt (by omega)), decide_eq_true hlt]; rfl
      · rw [if_pos (nI_le (by omega) (by omega)), decide_eq_false hlt]; rfl
    · have t2 : ties = 2 := by omega
      subst t2
      rw [if_neg (by decide), decide_eq_false (by decide), Bool.false_and]; rfl
theorem canTick_W (h : WdS S w r g) (hN : WdN S w cnt ties W) (hcnt : cnt ≤ 4) (htk : wTk W ≤ 999) (n : Int32) : f10_canTick S w n = some (bI (decide (0 < cnt ∧ (1 ≤ n.toInt ∧ n.toInt ≤ 99) ∧ (wTk W : Int) + n.toInt ≤ 999))) := by
  unfold f10_canTick
  have n1 : (1 : Int32).toInt = 1 := by decide
  have n99 : (99 : Int32).toInt = 99 := by decide
  rw [gi_k h.1, hN.1, Option.bind_some, gi_k h.1, hN.2.2.1, Option.bind_some]
  by_cases h0 : cnt = 0
  · subst h0
    rw [if_pos (by decide), decide_eq_false (by omega)]; rfl
  · rw [if_neg (z_nle (by omega) (by omega))]
    by_cases h1 : n < 1
    · rw [if_pos h1, decide_eq_false (fun hh => by rw [Int32.lt_iff_toInt_lt] at h1; omega)]; rfl
    · rw [if_neg h1]
      rw [Int32.lt_iff_toInt_lt] at h1
      by_cases h2 : 99 < n
      · rw [if_pos h2, decide_eq_false (fun hh => by rw [Int32.lt_iff_toInt_lt] at h2; omega)]; rfl
      · rw [if_neg h2]
        rw [Int32.lt_iff_toInt_lt] at h2
        have hn := nI_ofInt (p := n) (by omega)
        rw [hn, nI_add]
        by_cases h3 : 999 < wTk W + n.toInt.toNat
        · rw [if_pos (show (999 : Int32) < nI (wTk W + n.toInt.toNat) from nI_lt (a := 999) h3 (by omega)), ← hn, decide_eq_false (by omega)]; rfl
        · rw [if_neg (show ¬ (999 : Int32) < nI (wTk W + n.toInt.toNat) from nI_nlt (a := 999) (by omega) (by omega)), ← hn, decide_eq_true (by omega)]; rfl
theorem canEdit_W (hW : Wf S) (h : WdS S w r g) (hN : WdN S w cnt ties W) {o : Nat} {A : List Int32} (hO : OpL S o A) (hl : A.length ≤ 100000) (he : wEd W ≤ 100) (hp : wPu W ≤ 200) : f10_canEdit S w o = some (bI (canW W A)) := by
  have hpl : putsL A ≤ A.length := by
    have key : ∀ l : List Int32, putsL l ≤ l.length := by
      intro l
      induction l with
      | nil => exact Nat.le_refl _
      | cons v l ih => rw [putsL, List.length_cons]; split <;> omega
    exact key A
  unfold f10_canEdit canW
  rw [cal_k (OpL_kd hO), changes_N hW hO, Option.bind_some, gi_k h.1, hN.2.2.2.1, Option.bind_some, gi_k h.1, hN.2.2.2.2.1, Option.bind_some, cal_k (OpL_kd hO), countPut_N hW hO, Option.bind_some, nI_add]
  cases hi : idleB A with
  | true => rfl
  | false =>
    rw [if_neg (show ¬ bI (!false) = 0 by decide)]
    by_cases h1 : wEd W < 100
    · rw [if_neg (show ¬ (100 : Int32) ≤ nI (wEd W) from nI_ge (b := 100) h1 (by omega)), decide_eq_true h1]
      by_cases h2 : wPu W + putsL A ≤ 200
      · rw [if_neg (show ¬ (200 : Int32) < nI (wPu W + putsL A) from nI_nlt (a := 200) h2 (by omega)), decide_eq_true h2]; rfl
      · rw [if_pos (show (200 : Int32) < nI (wPu W + putsL A) from nI_lt (a := 200) (by omega) (by omega)), decide_eq_false h2]; rfl
    · rw [if_pos (show (100 : Int32) ≤ nI (wEd W) from nI_le (a := 100) (by omega) (by omega)), decide_eq_false h1]; rfl
end WQ
