/-! ===== PART II, the reference: an operation letter by letter, and as it is kept ===== -/
theorem fa_and (a b : Nat) : nI a &&& nI b = nI (a &&& b) := by
  apply Int32.toBitVec_inj.1
  show BitVec.ofNat 32 a &&& BitVec.ofNat 32 b = BitVec.ofNat 32 (a &&& b)
  apply BitVec.eq_of_getLsbD_eq
  intro i hi
  simp [hi]
theorem fa_mask (n k : Nat) : nI n &&& nI (2 ^ k - 1) = nI (n % 2 ^ k) := by rw [fa_and, Nat.and_two_pow_sub_one_eq_mod]
theorem e_shr {p w : Nat} (hp : p < 1000000) (hw : w < 32) : nI (32 * p + w) >>> ((5 : Int32) &&& 31) = nI p := by
  rw [pk_shrN (by omega) _ 5 (by decide)]
  congr 1
  omega
theorem e_and {p w : Nat} (hw : w < 32) : nI (32 * p + w) &&& (31 : Int32) = nI w := by
  have h := fa_mask (32 * p + w) 5
  rw [show (32 * p + w) % 2 ^ 5 = w by omega] at h
  exact h
/-- what may stand in an operation: 0 kept, -1 cut, 1 .. 26 put -/
def okV (v : Int32) : Prop := v = 0 ∨ v = -1 ∨ ∃ w : Nat, 1 ≤ w ∧ w ≤ 26 ∧ v = nI w
/-- how a thing that isn't kept is kept: 27 for a cut -/
def cod (v : Int32) : Nat := if v = -1 then 27 else v.toNatClampNeg
/-- an operation as it is kept: a number for each thing that isn't kept, by its place -/
def gatherL : List Int32 → Nat → List Int32
  | [], _ => []
  | v :: l, p => if v = 0 then gatherL l (p + 1) else nI (32 * p + cod v) :: gatherL l (if v = -1 then p + 1 else p)
/-- the letters of the text that it is of -/
def oldL : List Int32 → Nat
  | [] => 0
  | v :: l => (if v ≤ 0 then 1 else 0) + oldL l
theorem oldL_app (a b : List Int32) : oldL (a ++ b) = oldL a + oldL b := by
  induction a with
  | nil => simp [oldL]
  | cons v a ih => simp only [List.cons_append, oldL, ih]; omega
theorem oldL_rep (d : Nat) : oldL (List.replicate d 0) = d := by
  induction d with
  | zero => rfl
  | succ d ih => rw [List.replicate_succ, oldL, ih, if_pos (by decide)]; omega
theorem gatherL_rep (d p : Nat) (l : List Int32) : gatherL (List.replicate d 0 ++ l) p = gatherL l (p + d) := by
  induction d generalizing p with
  | zero => rfl
  | succ d ih => rw [List.replicate_succ, List.cons_append, gatherL, if_pos rfl, ih]; congr 1; omega
theorem row_split (B : List Int32) : B = List.replicate B.length 0 ∨ ∃ (d : Nat) (v : Int32) (B' : List Int32), B = List.replicate d 0 ++ v :: B' ∧ v ≠ 0 := by
  induction B with
  | nil => exact Or.inl rfl
  | cons v B ih =>
    by_cases hv : v = 0
    · subst hv
      rcases ih with h | ⟨d, v, B', h, hv⟩
      · left
        rw [List.length_cons, List.replicate_succ, ← h]
      · right
        exact ⟨d + 1, v, B', by rw [List.replicate_succ, List.cons_append, ← h], hv⟩
    · exact Or.inr ⟨0, v, B, rfl, hv⟩
/-- the list lies in the row from a place on -/
def seg (f : Nat → Int32) (a : Nat) (l : List Int32) : Prop := ∀ k, k < l.length → f (a + k) = l.getD k 0
theorem seg_cons {f : Nat → Int32} {a : Nat} {v : Int32} {l : List Int32} (h : seg f a (v :: l)) : f a = v ∧ seg f (a + 1) l := by
  refine ⟨by simpa using h 0 (by simp), fun k hk => ?_⟩
  have := h (k + 1) (by simpa using hk)
  rw [show a + (k + 1) = a + 1 + k by omega] at this
  simpa using this
theorem cod_lt {v : Int32} (h : okV v) (h0 : v ≠ 0) : cod v < 32 ∧ (cod v = 27 ↔ v = -1) ∧ (if nI (cod v) = (27 : Int32) then some (-1 : Int32) else some (nI (cod v))) = some v := by
  rcases h with rfl | rfl | ⟨w, h1, h2, rfl⟩
  · exact absurd rfl h0
  · unfold cod; decide
  · have hne : ¬ nI w = -1 := by
      intro h
      have h3 : (nI w).toInt = (-1 : Int32).toInt := by rw [h]
      rw [nI_toInt (by omega)] at h3
      have : (-1 : Int32).toInt = -1 := by decide
      omega
    have hc : cod (nI w) = w := by unfold cod; rw [if_neg hne, nI_clamp (by omega)]
    rw [hc]
    refine ⟨by omega, ⟨fun h => by omega, fun h => absurd h hne⟩, ?_⟩
    rw [if_neg (fun h => by
      have h4 : nI w = nI 27 := h
      rw [nI_eq (by omega) (by omega)] at h4
      omega)]
theorem spreads_out (a1 a5 : Nat) (hne : a1 ≠ a5) (first many old : Nat) (M : MS) (f : Nat → Int32) (hfm : first + many ≤ mLn a1) (hold : old < 100000) (hFU : 100000 ≤ FU + 90000) :
    ∀ (m n p k : Nat) (l B : List Int32), B.length = m → (∀ v ∈ B, okV v) → seg (M.2.1 a1) (first + k) (gatherL B p) → many = k + (gatherL B p).length → old = p + oldL B → (gatherL B p).length < n → l.length + B.length ≤ mLn a5 → l.length + B.length < 10000 →
    L12_spreads_9 a1 (nI first) (nI many) (nI old) a5 n (nI l.length) (nI p) (nI k) (sR M a5 (wr f 0 l)) = some (0, nI (l.length + B.length), sR M a5 (wr f 0 (l ++ B))) := by
  have hs1 := mLn_s a1
  have hs5 := mLn_s a5
  intro m
  induction m using Nat.strongRecOn with
  | _ m ih =>
  intro n p k l B hB hv hseg hmany hold2 hn hl hl2
  obtain ⟨n, rfl⟩ : ∃ j, n = j + 1 := ⟨n - 1, by omega⟩
  unfold L12_spreads_9
  rw [if_neg (nI_nlt (by omega) (by omega))]
  have hin := fun (d : Nat) (g : Nat) (hg : g < 100000) (h1 : p + d = g) (h2 : l.length + d ≤ mLn a5) (h3 : d < 10000) => spreads_in a1 (nI first) (nI many) (nI old) a5 (nI k) hg d FU 0 p l M f h1 (by omega) (by omega)
  rcases row_split B with h0 | ⟨d, v, B', h0, hv0⟩
  · have hg0 : gatherL B p = [] := by
      rw [h0]
      have := gatherL_rep B.length p []
      simpa [gatherL] using this
    have ho : oldL B = B.length := by
      conv => lhs; rw [h0]
      exact oldL_rep _
    rw [hg0] at hmany
    have hk : k = many := by simpa using hmany.symm
    subst hk
    rw [if_pos rfl, Option.bind_some]
    have h1 := hin B.length old hold (by omega) (by omega) (by omega)
    rw [Nat.zero_add] at h1
    rw [h1, bn3_s, if_pos rfl, ← h0]
  · subst h0
    rw [gatherL_rep, gatherL, if_neg hv0] at hseg hmany hn
    obtain ⟨hat, hseg'⟩ := seg_cons hseg
    have hov := hv v (by simp)
    obtain ⟨hc1, hc2, hc3⟩ := cod_lt hov hv0
    rw [oldL_app, oldL_rep] at hold2
    simp only [List.length_append, List.length_replicate, List.length_cons] at hl hl2 hmany hn hB
    have hkm : k ≠ many := by omega
    have hpd : p + d < 100000 := by omega
    rw [if_neg (by rw [nI_eq (by omega) (by omega)]; exact hkm), nI_add, ld_n (by omega), sR_ne _ _ hne, hat]
    simp only [Option.bind_some]
    rw [e_shr (by omega) hc1]
    have h1 := hin d (p + d) hpd rfl (by omega) (by omega)
    rw [Nat.zero_add] at h1
    rw [h1, bn3_s]
    rw [if_neg (by rw [nI_eq (by omega) (by omega)]; exact hkm), ld_n (by omega), sR_ne _ _ hne, hat]
    simp only [Option.bind_some]
    rw [e_and hc1, hc3]
    simp only [Option.bind_some]
    have hlen : (l ++ List.replicate d 0).length = l.length + d := by simp
    rw [sd_n (by omega), sR_sR, sR_get]
    have hw := wr_snoc f 0 (l ++ List.replicate d 0) v
    rw [Nat.zero_add, hlen] at hw
    rw [hw]
    simp only [Option.bind_some]
    have hp' : (if nI (cod v) = (27 : Int32) then some (nI (p + d) + (1 : Int32)) else some (nI (p + d))) = some (nI (if v = -1 then p + d + 1 else p + d)) := by
      by_cases h27 : v = -1
      · have hh := hc2.mpr h27
        rw [hh, if_pos (show nI 27 = (27 : Int32) from rfl), if_pos h27, nI_1]
      · have hh : ¬ cod v = 27 := fun h => h27 (hc2.mp h)
        rw [if_neg (show ¬ nI (cod v) = (27 : Int32) from fun h => hh ((nI_eq (by omega) (by omega)).mp (show nI (cod v) = nI 27 from h))), if_neg h27]
    rw [hp']
    simp only [Option.bind_some]
    rw [nI_1, nI_1]
    have hvle : oldL (v :: B') = (if v = -1 then 1 else 0) + oldL B' := by
      rw [oldL]
      congr 1
      rcases hov with rfl | rfl | ⟨w, h1, h2, rfl⟩
      · exact absurd rfl hv0
      · decide
      · have hw1 : ¬ nI w ≤ 0 := nI_nle (by omega) (by omega)
        have hw2 : ¬ nI w = -1 := fun h => by rw [h] at hw1; exact hw1 (by decide)
        rw [if_neg hw1, if_neg hw2]
    have h2 := ih B'.length (by omega) n (if v = -1 then p + d + 1 else p + d) (k + 1) (l ++ List.replicate d 0 ++ [v]) B' rfl (fun x hx => hv x (by simp [hx])) (by rw [show first + (k + 1) = first + k + 1 by omega]; exact hseg') (by omega) (by rw [hold2, hvle]; by_cases h27 : v = -1 <;> simp only [h27, if_true, if_false] <;> omega) (by omega) (by simp; omega) (by simp; omega)
    have hlen2 : (l ++ List.replicate d 0 ++ [v]).length = l.length + d + 1 := by rw [List.length_append, hlen]; rfl
    rw [hlen2] at h2
    rw [h2]
    have e1 : l ++ List.replicate d 0 ++ [v] ++ B' = l ++ (List.replicate d 0 ++ v :: B') := by simp
    rw [e1]
    have e2 : l.length + d + 1 + B'.length = l.length + (List.replicate d 0 ++ v :: B').length := by simp; omega
    rw [e2]
/-- what is kept, spread out: the operation itself -/
theorem spreads_ok {M : MS} {a1 a5 first : Nat} {A : List Int32} (hne : a1 ≠ a5) (hA : ∀ v ∈ A, okV v) (hseg : seg (M.2.1 a1) first (gatherL A 0)) (hfm : first + (gatherL A 0).length ≤ mLn a1) (hl : A.length ≤ mLn a5) (hl2 : A.length < 9000) (hg : (gatherL A 0).length ≤ A.length) (ho : oldL A ≤ A.length) :
    f12_spreads M a1 (nI first) (nI (gatherL A 0).length) (nI (oldL A)) a5 = some (nI A.length, sR M a5 (wr (M.2.1 a5) 0 A)) := by
  unfold f12_spreads
  have h0 := spreads_out a1 a5 hne first (gatherL A 0).length (oldL A) M (M.2.1 a5) hfm (by omega) (by rw [FU_eq]; omega) A.length FU 0 0 [] A rfl hA hseg (by simp) (by simp) (by rw [FU_eq]; omega) (by simpa using hl) (by simp; omega)
  rw [wr_nil, sR_self] at h0
  simp only [List.length_nil, Nat.zero_add, List.nil_append] at h0
  rw [show (0 : Int32) = nI 0 from rfl, h0, bn3_s, if_pos rfl]
theorem gatherL_le (l : List Int32) (p : Nat) : (gatherL l p).length ≤ l.length := by
  induction l generalizing p with
  | nil => simp [gatherL]
  | cons v l ih =>
    rw [gatherL]
    split
    · have := ih (p + 1); simp; omega
    · have := ih (if v = -1 then p + 1 else p); simp; omega
theorem oldL_le (l : List Int32) : oldL l ≤ l.length := by
  induction l with
  | nil => simp [oldL]
  | cons v l ih => rw [oldL, List.length_cons]; split <;> omega
