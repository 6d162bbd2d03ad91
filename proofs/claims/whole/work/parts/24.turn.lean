/-! ===== PART II, the reference: one operation turned over another ===== -/
/-- the rows C and D with what was given so far -/
def cd (M : MS) (fC fD : Nat → Int32) (c d : List Int32) : MS := (upd (upd M.1 27 (nI c.length)) 28 (nI d.length), va_up (va_up M.2.1 22 (wr fC 0 c)) 23 (wr fD 0 d), M.2.2)
theorem cd_F (M : MS) (fC fD : Nat → Int32) (c d : List Int32) {k : Nat} (h1 : k ≠ 27) (h2 : k ≠ 28) : gF (cd M fC fD c d) k = M.1 k := by
  show upd _ _ _ k = _
  unfold upd
  rw [if_neg h2, if_neg h1]
theorem cd_A (M : MS) (fC fD : Nat → Int32) (c d : List Int32) {k : Nat} (h1 : k ≠ 22) (h2 : k ≠ 23) : (cd M fC fD c d).2.1 k = M.2.1 k := by
  show va_up _ _ _ k = _
  rw [va_up_ne _ _ h2, va_up_ne _ _ h1]
theorem MS_ext {M N : MS} (h1 : ∀ k, M.1 k = N.1 k) (h2 : ∀ k, M.2.1 k = N.2.1 k) (h3 : M.2.2 = N.2.2) : M = N := Prod.ext (funext h1) (Prod.ext (funext h2) h3)
theorem givesC_ok (M : MS) (fC fD : Nat → Int32) (c d : List Int32) (v : Int32) (h : c.length < 700) : f12_givesC (cd M fC fD c d) v = some (cd M fC fD (c ++ [v]) d) := by
  unfold f12_givesC
  have e27 : gF (cd M fC fD c d) 27 = nI c.length := rfl
  rw [e27, sd_n h, Option.bind_some]
  congr 1
  have e22 : (cd M fC fD c d).2.1 22 = wr fC 0 c := rfl
  rw [e22]
  have hw := wr_snoc fC 0 c v
  rw [Nat.zero_add] at hw
  rw [hw]
  refine MS_ext (fun k => ?_) (fun k => ?_) rfl
  · show upd (upd (upd M.1 27 (nI c.length)) 28 (nI d.length)) 27 (nI c.length + 1) k = upd (upd M.1 27 (nI (c ++ [v]).length)) 28 (nI d.length) k
    rw [nI_1, List.length_append, List.length_singleton]
    unfold upd
    by_cases h1 : k = 27
    · subst h1; rfl
    · simp [h1]
  · show va_up (va_up (va_up M.2.1 22 (wr fC 0 c)) 23 (wr fD 0 d)) 22 (wr fC 0 (c ++ [v])) k = va_up (va_up M.2.1 22 (wr fC 0 (c ++ [v]))) 23 (wr fD 0 d) k
    unfold va_up
    by_cases h1 : k = 22
    · subst h1; rfl
    · simp [h1]
theorem givesD_ok (M : MS) (fC fD : Nat → Int32) (c d : List Int32) (v : Int32) (h : d.length < 700) : f12_givesD (cd M fC fD c d) v = some (cd M fC fD c (d ++ [v])) := by
  unfold f12_givesD
  have e28 : gF (cd M fC fD c d) 28 = nI d.length := rfl
  rw [e28, sd_n h, Option.bind_some]
  congr 1
  have e23 : (cd M fC fD c d).2.1 23 = wr fD 0 d := rfl
  rw [e23]
  have hw := wr_snoc fD 0 d v
  rw [Nat.zero_add] at hw
  rw [hw]
  refine MS_ext (fun k => ?_) (fun k => ?_) rfl
  · show upd (upd (upd M.1 27 (nI c.length)) 28 (nI d.length)) 28 (nI d.length + 1) k = upd (upd M.1 27 (nI c.length)) 28 (nI (d ++ [v]).length) k
    rw [nI_1, List.length_append, List.length_singleton]
    unfold upd
    by_cases h1 : k = 28
    · subst h1; rfl
    · simp [h1]
  · show va_up (va_up (va_up M.2.1 22 (wr fC 0 c)) 23 (wr fD 0 d)) 23 (wr fD 0 (d ++ [v])) k = va_up (va_up M.2.1 22 (wr fC 0 c)) 23 (wr fD 0 (d ++ [v])) k
    unfold va_up
    by_cases h1 : k = 23
    · subst h1; rfl
    · simp [h1]
/-- A over B, B over A, not settled yet -/
def turnR (ah : Bool) : List Int32 → List Int32 → List Int32 × List Int32
  | [], [] => ([], [])
  | [], b :: B => (0 :: (turnR ah [] B).1, b :: (turnR ah [] B).2)
  | a :: A, [] => (a :: (turnR ah A []).1, 0 :: (turnR ah A []).2)
  | a :: A, b :: B =>
    if 0 < a ∧ (ah = true ∨ ¬ 0 < b) then (a :: (turnR ah A (b :: B)).1, 0 :: (turnR ah A (b :: B)).2)
    else if 0 < b then (0 :: (turnR ah (a :: A) B).1, b :: (turnR ah (a :: A) B).2)
    else ((if b = 0 then [a] else []) ++ (turnR ah A B).1, (if a = 0 then [b] else []) ++ (turnR ah A B).2)
termination_by A B => A.length + B.length
theorem oldL_0 {B : List Int32} {b : Int32} (h : oldL (b :: B) = 0) : 0 < b ∧ oldL B = 0 := by
  rw [oldL] at h
  by_cases hb : b ≤ 0
  · rw [if_pos hb] at h; omega
  · rw [if_neg hb] at h
    refine ⟨?_, by omega⟩
    rw [Int32.lt_iff_toInt_lt]
    rw [Int32.le_iff_toInt_le] at hb
    omega
theorem i_pos_nle {a : Int32} : 0 < a ↔ ¬ a ≤ 0 := by
  rw [Int32.lt_iff_toInt_lt, Int32.le_iff_toInt_le]
  omega
theorem turns_loop {M : MS} {fC fD : Nat → Int32} {ah : Bool} {c1 : Int32} (hc1 : c1 = if ah then 1 else 0) {NA NB : Nat} (hA25 : M.1 25 = nI NA) (hB26 : M.1 26 = nI NB) (hNA : NA ≤ 700) (hNB : NB ≤ 700) :
    ∀ (m n i j : Nat) (A B c d : List Int32), A.length + B.length = m → seg (M.2.1 20) i A → seg (M.2.1 21) j B → i + A.length = NA → j + B.length = NB → oldL A = oldL B → c.length + A.length + B.length ≤ 700 → d.length + A.length + B.length ≤ 700 → A.length + B.length < n →
    L12_turns_14 c1 n (nI i) (nI j) (cd M fC fD c d) = some (cd M fC fD (c ++ (turnR ah A B).1) (d ++ (turnR ah A B).2)) := by
  have h20 : mLn 20 = 700 := rfl
  have h21 : mLn 21 = 700 := rfl
  have g25 : ∀ c d, gF (cd M fC fD c d) 25 = nI NA := fun c d => by rw [cd_F _ _ _ _ _ (by decide) (by decide), hA25]
  have g26 : ∀ c d, gF (cd M fC fD c d) 26 = nI NB := fun c d => by rw [cd_F _ _ _ _ _ (by decide) (by decide), hB26]
  have l20 : ∀ (c d : List Int32) (i : Nat), i < 700 → ld (cd M fC fD c d) 20 (nI i) = some (M.2.1 20 i) := fun c d i hi => by rw [ld_n (by omega), cd_A _ _ _ _ _ (by decide) (by decide)]
  have l21 : ∀ (c d : List Int32) (i : Nat), i < 700 → ld (cd M fC fD c d) 21 (nI i) = some (M.2.1 21 i) := fun c d i hi => by rw [ld_n (by omega), cd_A _ _ _ _ _ (by decide) (by decide)]
  have n01 : ¬ (1 : Int32) = 0 := by decide
  intro m
  induction m using Nat.strongRecOn with
  | _ m ih =>
  intro n i j A B c d hm hsA hsB hiA hjB ho hc hd hn
  obtain ⟨n, rfl⟩ : ∃ k, n = k + 1 := ⟨n - 1, by omega⟩
  unfold L12_turns_14
  rcases A with _ | ⟨a, A⟩
  · simp only [List.length_nil, Nat.add_zero] at hiA
    subst hiA
    rw [g25, if_neg (nI_nlt (Nat.le_refl _) (by omega)), g26]
    rcases B with _ | ⟨b, B⟩
    · simp only [List.length_nil, Nat.add_zero] at hjB
      subst hjB
      rw [if_pos (nI_le (Nat.le_refl _) (by omega)), turnR]
      simp
    · rw [List.length_cons] at hjB hc hd hn hm
      obtain ⟨h1, h2⟩ := seg_cons hsB
      obtain ⟨hb, hob⟩ := oldL_0 (show oldL (b :: B) = 0 by rw [← ho]; rfl)
      rw [if_neg (nI_ge (by omega) (by omega)), if_pos (nI_le (Nat.le_refl _) (by omega)), Option.bind_some, if_neg (nI_ge (by omega) (by omega)), l21 _ _ _ (by omega), h1, Option.bind_some, if_neg (i_pos_nle.mp hb), Option.bind_some, if_pos rfl, if_neg n01, givesC_ok _ _ _ _ _ _ (by omega), Option.bind_some, l21 _ _ _ (by omega), h1, Option.bind_some, givesD_ok _ _ _ _ _ _ (by omega), Option.bind_some, bn3_s, nI_1]
      rw [ih (B.length) (by simp at hm; omega) n i (j + 1) [] B (c ++ [0]) (d ++ [b]) (by simp) hsA h2 (by simp) (by omega) (by rw [hob]; rfl) (by simp; omega) (by simp; omega) (by simp at hn ⊢; omega)]
      rw [turnR]
      simp
  · rw [List.length_cons] at hiA hc hd hn hm
    obtain ⟨a1, a2⟩ := seg_cons hsA
    rw [g25, if_pos (nI_lt (by omega) (by omega)), if_neg (nI_ge (by omega) (by omega)), l20 _ _ _ (by omega), a1, Option.bind_some, g26]
    rcases B with _ | ⟨b, B⟩
    · simp only [List.length_nil, Nat.add_zero] at hjB
      subst hjB
      obtain ⟨ha, hoa⟩ := oldL_0 (show oldL (a :: A) = 0 by rw [ho]; rfl)
      have hrec := ih A.length (by simp at hm; omega) n (i + 1) j A [] (c ++ [a]) (d ++ [0]) (by simp) a2 hsB (by omega) (by simp) (by rw [hoa]; rfl) (by simp at hc ⊢; omega) (by simp at hd ⊢; omega) (by simp at hn ⊢; omega)
      simp only [List.length_nil] at hc hd
      rw [if_neg (i_pos_nle.mp ha), Option.bind_some, if_pos (nI_le (Nat.le_refl _) (by omega)), Option.bind_some, if_neg n01]
      have hstep : (f12_givesC (cd M fC fD c d) a).bind (fun M25 => (f12_givesD M25 (0 : Int32)).bind fun M26 => some ((nI i + (1 : Int32)), nI j, M26)) = some (nI (i + 1), nI j, cd M fC fD (c ++ [a]) (d ++ [0])) := by
        rw [givesC_ok _ _ _ _ _ _ (by omega), Option.bind_some, givesD_ok _ _ _ _ _ _ (by omega), Option.bind_some, nI_1]
      by_cases hz : c1 = 0
      · rw [if_pos hz, if_pos rfl, Option.bind_some, hstep, bn3_s, hrec, turnR]
        simp
      · rw [if_neg hz, Option.bind_some, hstep, bn3_s, hrec, turnR]
        simp
    · rw [List.length_cons] at hjB hc hd hn hm
      obtain ⟨b1, b2⟩ := seg_cons hsB
      rw [if_neg (nI_ge (by omega) (by omega)), l21 _ _ _ (by omega), b1, Option.bind_some]
      by_cases ha : 0 < a
      · rw [if_neg (i_pos_nle.mp ha), Option.bind_some]
        have hoA : oldL (a :: A) = oldL A := by rw [oldL, if_neg (i_pos_nle.mp ha)]; omega
        have hstepA : (f12_givesC (cd M fC fD c d) a).bind (fun M25 => (f12_givesD M25 (0 : Int32)).bind fun M26 => some ((nI i + (1 : Int32)), nI j, M26)) = some (nI (i + 1), nI j, cd M fC fD (c ++ [a]) (d ++ [0])) := by
          rw [givesC_ok _ _ _ _ _ _ (by omega), Option.bind_some, givesD_ok _ _ _ _ _ _ (by omega), Option.bind_some, nI_1]
        have hrecA := ih (A.length + (b :: B).length) (by simp; omega) n (i + 1) j A (b :: B) (c ++ [a]) (d ++ [0]) rfl a2 hsB (by omega) (by simp; omega) (by rw [← hoA]; exact ho) (by simp; omega) (by simp; omega) (by simp; omega)
        by_cases hb : 0 < b
        · rw [if_neg (i_pos_nle.mp hb), Option.bind_some, if_neg n01]
          have hoB : oldL (b :: B) = oldL B := by rw [oldL, if_neg (i_pos_nle.mp hb)]; omega
          cases ah with
          | true =>
            have hz : ¬ c1 = 0 := by rw [hc1]; decide
            rw [if_neg hz, Option.bind_some, hstepA, bn3_s, hrecA, turnR, if_pos ⟨ha, Or.inl rfl⟩]
            simp
          | false =>
            have hz : c1 = 0 := by rw [hc1]; rfl
            rw [if_pos hz, if_neg n01, if_neg n01, givesC_ok _ _ _ _ _ _ (by omega), Option.bind_some, l21 _ _ _ (by omega), b1, Option.bind_some, givesD_ok _ _ _ _ _ _ (by omega), Option.bind_some, bn3_s, nI_1]
            rw [ih ((a :: A).length + B.length) (by simp; omega) n i (j + 1) (a :: A) B (c ++ [0]) (d ++ [b]) rfl hsA b2 (by simp; omega) (by omega) (by rw [← hoB]; exact ho) (by simp; omega) (by simp; omega) (by simp; omega)]
            rw [turnR, if_neg (by simp [hb]), if_pos hb]
            simp
        · rw [if_pos (i_nlt hb), Option.bind_some, if_neg n01]
          have hcond : 0 < a ∧ (ah = true ∨ ¬ 0 < b) := ⟨ha, Or.inr hb⟩
          by_cases hz : c1 = 0
          · rw [if_pos hz, if_pos rfl, Option.bind_some, hstepA, bn3_s, hrecA, turnR, if_pos hcond]
            simp
          · rw [if_neg hz, Option.bind_some, hstepA, bn3_s, hrecA, turnR, if_pos hcond]
            simp
      · rw [if_pos (i_nlt ha), Option.bind_some]
        have hcond : ¬ (0 < a ∧ (ah = true ∨ ¬ 0 < b)) := fun h => ha h.1
        by_cases hb : 0 < b
        · rw [if_neg (i_pos_nle.mp hb), Option.bind_some, if_pos rfl, if_neg n01]
          have hoB : oldL (b :: B) = oldL B := by rw [oldL, if_neg (i_pos_nle.mp hb)]; omega
          rw [givesC_ok _ _ _ _ _ _ (by omega), Option.bind_some, l21 _ _ _ (by omega), b1, Option.bind_some, givesD_ok _ _ _ _ _ _ (by omega), Option.bind_some, bn3_s, nI_1]
          rw [ih ((a :: A).length + B.length) (by simp; omega) n i (j + 1) (a :: A) B (c ++ [0]) (d ++ [b]) rfl hsA b2 (by simp; omega) (by omega) (by rw [← hoB]; exact ho) (by simp; omega) (by simp; omega) (by simp; omega)]
          rw [turnR, if_neg hcond, if_pos hb]
          simp
        · rw [if_pos (i_nlt hb), Option.bind_some, if_pos rfl, if_pos rfl, Option.bind_some]
          have hoA : oldL (a :: A) = 1 + oldL A := by rw [oldL, if_pos (i_nlt ha)]
          have hoB : oldL (b :: B) = 1 + oldL B := by rw [oldL, if_pos (i_nlt hb)]
          have s1 : (if b = 0 then (some a).bind fun v14 => (f12_givesC (cd M fC fD c d) v14).bind fun M15 => some M15 else some (cd M fC fD c d)) = some (cd M fC fD (c ++ (if b = 0 then [a] else [])) d) := by
            by_cases hb0 : b = 0
            · rw [if_pos hb0, if_pos hb0, Option.bind_some, givesC_ok _ _ _ _ _ _ (by omega), Option.bind_some]
            · rw [if_neg hb0, if_neg hb0, List.append_nil]
          rw [s1, Option.bind_some, l20 _ _ _ (by omega), a1, Option.bind_some]
          have s2 : ∀ c' : List Int32, (if a = 0 then (ld (cd M fC fD c' d) 21 (nI j)).bind fun v19 => (f12_givesD (cd M fC fD c' d) v19).bind fun M20 => some M20 else some (cd M fC fD c' d)) = some (cd M fC fD c' (d ++ (if a = 0 then [b] else []))) := by
            intro c'
            by_cases ha0 : a = 0
            · rw [if_pos ha0, if_pos ha0, l21 _ _ _ (by omega), b1, Option.bind_some, givesD_ok _ _ _ _ _ _ (by omega), Option.bind_some]
            · rw [if_neg ha0, if_neg ha0, List.append_nil]
          rw [s2, Option.bind_some, bn3_s, nI_1, nI_1]
          rw [ih (A.length + B.length) (by omega) n (i + 1) (j + 1) A B _ _ rfl a2 b2 (by omega) (by omega) (by omega) (by split <;> simp <;> omega) (by split <;> simp <;> omega) (by omega)]
          rw [turnR, if_neg hcond, if_neg hb]
          simp
