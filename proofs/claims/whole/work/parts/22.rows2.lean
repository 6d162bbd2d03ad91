/-! ===== PART II, the reference: counting in a row, keeping it ===== -/
theorem i_nlt {a b : Int32} (h : ¬ a < b) : b ≤ a := by
  rw [Int32.le_iff_toInt_le]
  rw [Int32.lt_iff_toInt_lt] at h
  omega
theorem i_lt_nle {a b : Int32} (h : a < b) : ¬ b ≤ a := by
  rw [Int32.le_iff_toInt_le]
  rw [Int32.lt_iff_toInt_lt] at h
  omega
/-- how many are put -/
def putsL : List Int32 → Nat
  | [] => 0
  | v :: l => (if v ≤ 0 then 0 else 1) + putsL l
theorem fa_or (a b : Nat) : nI a ||| nI b = nI (a ||| b) := by
  apply Int32.toBitVec_inj.1
  show BitVec.ofNat 32 a ||| BitVec.ofNat 32 b = BitVec.ofNat 32 (a ||| b)
  apply BitVec.eq_of_getLsbD_eq
  intro i hi
  simp [hi]
theorem fa_or_sum {a k : Nat} (b : Nat) (h : a < 2 ^ k) : nI (2 ^ k * b) ||| nI a = nI (2 ^ k * b + a) := by rw [fa_or, Nat.two_pow_add_eq_or_of_lt h]
theorem e_or {p w : Nat} (hp : p < 1000000) (hw : w < 32) : (nI p <<< ((5 : Int32) &&& 31)) ||| nI w = nI (32 * p + w) := by
  rw [pk_shlN _ 5 (by decide) (by omega), show p * 2 ^ 5 = 2 ^ 5 * p by omega, fa_or_sum p (by omega)]
theorem oldOf_loop {M : MS} {a1 : Nat} : ∀ (B : List Int32) (n k c : Nat), seg (M.2.1 a1) k B → k + B.length ≤ mLn a1 → B.length < n → c + B.length < 100000 → L12_oldOf_4 a1 (nI (k + B.length)) M n (nI c) (nI k) = some (nI (c + oldL B)) := by
  intro B
  have hs := mLn_s a1
  induction B with
  | nil =>
    intro n k c hseg hk hn hc
    obtain ⟨n, rfl⟩ : ∃ j, n = j + 1 := ⟨n - 1, by omega⟩
    unfold L12_oldOf_4
    rw [if_pos (nI_le (by simp) (by omega))]
    rfl
  | cons v B ih =>
    intro n k c hseg hk hn hc
    rw [List.length_cons] at hk hn hc
    obtain ⟨n, rfl⟩ : ∃ j, n = j + 1 := ⟨n - 1, by omega⟩
    obtain ⟨h1, h2⟩ := seg_cons hseg
    unfold L12_oldOf_4
    rw [List.length_cons, if_neg (nI_ge (by omega) (by omega)), ld_n (by omega), h1, Option.bind_some]
    have e : (if 0 < v then some (nI c) else some (nI c + (1 : Int32))) = some (nI (c + (if v ≤ 0 then 1 else 0))) := by
      by_cases hv : 0 < v
      · rw [if_pos hv, if_neg (i_lt_nle hv)]; rfl
      · rw [if_neg hv, if_pos (i_nlt hv), nI_1]
    rw [e, Option.bind_some, nI_1]
    have h3 := ih n (k + 1) (c + (if v ≤ 0 then 1 else 0)) h2 (by omega) (by omega) (by split <;> omega)
    rw [show k + 1 + B.length = k + (B.length + 1) by omega] at h3
    rw [h3, oldL, Nat.add_assoc]
theorem oldOf_ok {M : MS} {a1 : Nat} {A : List Int32} (hseg : seg (M.2.1 a1) 0 A) (hl : A.length ≤ mLn a1) (h9 : A.length < 9000) : f12_oldOf M a1 (nI A.length) = some (nI (oldL A)) := by
  unfold f12_oldOf
  have h := oldOf_loop (M := M) (a1 := a1) A FU 0 0 hseg (by omega) (by rw [FU_eq]; omega) (by omega)
  rw [Nat.zero_add, Nat.zero_add] at h
  rw [show (0 : Int32) = nI 0 from rfl, h, Option.bind_some]
theorem putsOf_loop {M : MS} {a1 : Nat} : ∀ (B : List Int32) (n k c : Nat), seg (M.2.1 a1) k B → k + B.length ≤ mLn a1 → B.length < n → c + B.length < 100000 → L12_putsOf_4 a1 (nI (k + B.length)) M n (nI c) (nI k) = some (nI (c + putsL B)) := by
  intro B
  have hs := mLn_s a1
  induction B with
  | nil =>
    intro n k c hseg hk hn hc
    obtain ⟨n, rfl⟩ : ∃ j, n = j + 1 := ⟨n - 1, by omega⟩
    unfold L12_putsOf_4
    rw [if_pos (nI_le (by simp) (by omega))]
    rfl
  | cons v B ih =>
    intro n k c hseg hk hn hc
    rw [List.length_cons] at hk hn hc
    obtain ⟨n, rfl⟩ : ∃ j, n = j + 1 := ⟨n - 1, by omega⟩
    obtain ⟨h1, h2⟩ := seg_cons hseg
    unfold L12_putsOf_4
    rw [List.length_cons, if_neg (nI_ge (by omega) (by omega)), ld_n (by omega), h1, Option.bind_some]
    have e : (if v ≤ 0 then some (nI c) else some (nI c + (1 : Int32))) = some (nI (c + (if v ≤ 0 then 0 else 1))) := by
      by_cases hv : v ≤ 0
      · rw [if_pos hv, if_pos hv]; rfl
      · rw [if_neg hv, if_neg hv, nI_1]
    rw [e, Option.bind_some, nI_1]
    have h3 := ih n (k + 1) (c + (if v ≤ 0 then 0 else 1)) h2 (by omega) (by omega) (by split <;> omega)
    rw [show k + 1 + B.length = k + (B.length + 1) by omega] at h3
    rw [h3, putsL, Nat.add_assoc]
theorem putsOf_ok {M : MS} {a1 : Nat} {A : List Int32} (hseg : seg (M.2.1 a1) 0 A) (hl : A.length ≤ mLn a1) (h9 : A.length < 9000) : f12_putsOf M a1 (nI A.length) = some (nI (putsL A)) := by
  unfold f12_putsOf
  have h := putsOf_loop (M := M) (a1 := a1) A FU 0 0 hseg (by omega) (by rw [FU_eq]; omega) (by omega)
  rw [Nat.zero_add, Nat.zero_add] at h
  rw [show (0 : Int32) = nI 0 from rfl, h, Option.bind_some]
theorem cod_enc {v : Int32} (h : okV v) (h0 : v ≠ 0) : (if v = (-1 : Int32) then some (27 : Int32) else some v) = some (nI (cod v)) := by
  rcases h with rfl | rfl | ⟨w, h1, h2, rfl⟩
  · exact absurd rfl h0
  · unfold cod; decide
  · have hw1 : ¬ nI w ≤ 0 := nI_nle (by omega) (by omega)
    have hw2 : ¬ nI w = -1 := fun h => by rw [h] at hw1; exact hw1 (by decide)
    rw [if_neg hw2]
    unfold cod
    rw [if_neg hw2, nI_clamp (by omega)]
theorem ok_pos {v : Int32} (h : okV v) : 0 < v ↔ ¬ v = 0 ∧ ¬ v = -1 := by
  rcases h with rfl | rfl | ⟨w, h1, h2, rfl⟩
  · decide
  · decide
  · have hw1 : ¬ nI w ≤ 0 := nI_nle (by omega) (by omega)
    have hw2 : ¬ nI w = -1 := fun h => by rw [h] at hw1; exact hw1 (by decide)
    have hw3 : ¬ nI w = 0 := fun h => by rw [h] at hw1; exact hw1 (by decide)
    exact ⟨fun _ => ⟨hw3, hw2⟩, fun _ => nI_lt (a := 0) (by omega) (by omega)⟩
theorem gathers_loop {M : MS} {a1 a3 first : Nat} {f : Nat → Int32} (hne : a1 ≠ a3) : ∀ (B : List Int32) (n k p : Nat) (l : List Int32), (∀ v ∈ B, okV v) → seg (M.2.1 a1) k B → k + B.length ≤ mLn a1 → B.length < n → p + B.length < 100000 → first + l.length + (gatherL B p).length ≤ mLn a3 →
    L12_gathers_9 a1 (nI (k + B.length)) a3 (nI first) n (nI l.length) (nI p) (nI k) (sR M a3 (wr f first l)) = some (nI (l.length + (gatherL B p).length), sR M a3 (wr f first (l ++ gatherL B p))) := by
  intro B
  have hs := mLn_s a1
  have hs3 := mLn_s a3
  induction B with
  | nil =>
    intro n k p l hv hseg hk hn hp hl
    obtain ⟨n, rfl⟩ : ∃ j, n = j + 1 := ⟨n - 1, by omega⟩
    unfold L12_gathers_9
    rw [if_pos (nI_le (by simp) (by omega))]
    simp [gatherL]
  | cons v B ih =>
    intro n k p l hv hseg hk hn hp hl
    have hov := hv v (by simp)
    rw [List.length_cons] at hk hn hp
    obtain ⟨n, rfl⟩ : ∃ j, n = j + 1 := ⟨n - 1, by omega⟩
    obtain ⟨h1, h2⟩ := seg_cons hseg
    unfold L12_gathers_9
    rw [List.length_cons, if_neg (nI_ge (by omega) (by omega)), ld_n (by omega), sR_ne _ _ hne, h1, Option.bind_some]
    by_cases hv0 : v = 0
    · rw [if_pos hv0, bn2_s, ld_n (by omega), sR_ne _ _ hne, h1, Option.bind_some, if_neg (by rw [hv0]; decide), Option.bind_some, nI_1, nI_1]
      rw [gatherL, if_pos hv0] at hl ⊢
      have h3 := ih n (k + 1) (p + 1) l (fun x hx => hv x (by simp [hx])) h2 (by omega) (by omega) (by omega) hl
      rw [show k + 1 + B.length = k + (B.length + 1) by omega] at h3
      exact h3
    · have hg : gatherL (v :: B) p = nI (32 * p + cod v) :: gatherL B (if v = -1 then p + 1 else p) := by rw [gatherL, if_neg hv0]
      rw [hg, List.length_cons] at hl
      rw [hg, List.length_cons]
      have hc := (cod_lt hov hv0).1
      simp only [Option.bind_some]
      rw [if_neg hv0, cod_enc hov hv0, Option.bind_some, nI_add, e_or (by omega) hc, sd_n (by omega), sR_sR, sR_get, wr_snoc, Option.bind_some, bn2_s, ld_n (by omega), sR_ne _ _ hne, h1, Option.bind_some]
      have e : (if 0 < v then some (nI p) else some (nI p + (1 : Int32))) = some (nI (if v = -1 then p + 1 else p)) := by
        by_cases h27 : v = -1
        · rw [if_neg (by rw [h27]; decide), if_pos h27, nI_1]
        · rw [if_pos ((ok_pos hov).mpr ⟨hv0, h27⟩), if_neg h27]
      rw [e, Option.bind_some, nI_1, nI_1]
      have h3 := ih n (k + 1) (if v = -1 then p + 1 else p) (l ++ [nI (32 * p + cod v)]) (fun x hx => hv x (by simp [hx])) h2 (by omega) (by omega) (by split <;> omega) (by simp; omega)
      rw [show k + 1 + B.length = k + (B.length + 1) by omega, List.length_append, List.length_singleton] at h3
      rw [h3]
      simp [Nat.add_assoc, Nat.add_comm 1]
theorem gathers_ok {M : MS} {a1 a3 first : Nat} {A : List Int32} (hne : a1 ≠ a3) (hA : ∀ v ∈ A, okV v) (hseg : seg (M.2.1 a1) 0 A) (hl : A.length ≤ mLn a1) (h9 : A.length < 9000) (hf : first + (gatherL A 0).length ≤ mLn a3) :
    f12_gathers M a1 (nI A.length) a3 (nI first) = some (nI (gatherL A 0).length, sR M a3 (wr (M.2.1 a3) first (gatherL A 0))) := by
  unfold f12_gathers
  have h := gathers_loop (M := M) (first := first) (f := M.2.1 a3) hne A FU 0 0 [] hA hseg (by omega) (by rw [FU_eq]; omega) (by omega) (by simpa using hf)
  rw [wr_nil, sR_self] at h
  simp only [List.length_nil, Nat.zero_add, List.nil_append] at h
  rw [show (0 : Int32) = nI 0 from rfl, h, bn2_s]
