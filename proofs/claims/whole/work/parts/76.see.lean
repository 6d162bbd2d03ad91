/-! ===== PART II, the reference: see ===== -/
def pairsOf : List Int32 → List (Int32 × Int32)
  | a :: b :: l => (a, b) :: pairsOf l
  | _ => []
def seeB : List Int32 → Bool
  | a :: b :: l => decide (a.toInt < 240) && (decide (b.toInt ≤ 26) && seeB l)
  | _ => true
theorem see_loop {M : MS} {N : Nat} (hN : N ≤ 1600) : ∀ (k : Nat) (l : List Int32) (n i : Nat), l.length = 2 * k → i + l.length = N → seg (M.2.1 0) i l → k < n → L12_see_43 (nI N) M n (1 : Int32) (nI i) = some (bI (seeB l)) := by
  intro k
  induction k with
  | zero =>
    intro l n i hl hi hs hn
    obtain ⟨n, rfl⟩ : ∃ j, n = j + 1 := ⟨n - 1, by omega⟩
    have : l = [] := List.length_eq_zero_iff.mp (by omega)
    subst this
    unfold L12_see_43
    rw [List.length_nil] at hi
    rw [if_pos (nI_le (by omega) (by omega))]; rfl
  | succ k ih =>
    intro l n i hl hi hs hn
    obtain ⟨n, rfl⟩ : ∃ j, n = j + 1 := ⟨n - 1, by omega⟩
    match l, hl, hi, hs with
    | a :: b :: l, hl, hi, hs =>
      simp only [List.length_cons] at hl hi
      obtain ⟨s1, s2⟩ := seg_cons hs
      obtain ⟨s3, s4⟩ := seg_cons s2
      unfold L12_see_43
      rw [if_neg (nI_ge (by omega) (by omega)), if_neg (show ¬ (1 : Int32) = 0 from by decide), ld_n (show i < 1600 by omega), s1, Option.bind_some, seeB]
      have e240 : (240 : Int32).toInt = 240 := by decide
      have e26 : (26 : Int32).toInt = 26 := by decide
      have stop : ∀ (n : Nat) (j : Nat), L12_see_43 (nI N) M (n + 1) (0 : Int32) (nI j) = some 0 := fun n j => by
        unfold L12_see_43
        by_cases hj : nI N ≤ nI j
        · rw [if_pos hj]
        · rw [if_neg hj, if_pos rfl]
      obtain ⟨n, rfl⟩ : ∃ j, n = j + 1 := ⟨n - 1, by omega⟩
      by_cases ha : a.toInt < 240
      · rw [if_neg (show ¬ (240 : Int32) ≤ a from fun hh => by have := Int32.le_iff_toInt_le.mp hh; omega), nI_1, ld_n (show i + 1 < 1600 by omega), s3, Option.bind_some, nI_2]
        by_cases hb : b.toInt ≤ 26
        · rw [if_neg (show ¬ (26 : Int32) < b from fun hh => by have := Int32.lt_iff_toInt_lt.mp hh; omega), Option.bind_some, ih l (n + 1) (i + 2) (by omega) (by omega) s4 (by omega)]
          simp [ha, hb]
        · rw [if_pos (show (26 : Int32) < b from Int32.lt_iff_toInt_lt.mpr (by omega)), Option.bind_some, stop]
          simp [hb]; rfl
      · rw [if_pos (show (240 : Int32) ≤ a from Int32.le_iff_toInt_le.mpr (by omega)), Option.bind_some, nI_2, stop]
        simp [ha]; rfl
    | [a], hl, _, _ => simp at hl; omega
    | [], hl, _, _ => simp at hl
theorem flat_pairs : ∀ (k : Nat) (l : List Int32), l.length = 2 * k → flatP (pairsOf l) = l ∧ (pairsOf l).length = k := by
  intro k
  induction k with
  | zero =>
    intro l hl
    have : l = [] := List.length_eq_zero_iff.mp (by omega)
    subst this
    exact ⟨rfl, rfl⟩
  | succ k ih =>
    intro l hl
    match l, hl with
    | a :: b :: l, hl =>
      simp only [List.length_cons] at hl
      obtain ⟨h1, h2⟩ := ih l (by omega)
      exact ⟨by rw [pairsOf, flatP, h1], by rw [pairsOf, List.length_cons, h2]⟩
    | [a], hl => simp at hl; omega
    | [], hl => simp at hl
def sSee (A : St) (s : List (Int32 × Int32)) : St := (A.1, A.2.1, aW A, aHist A, s, aSeed A)
def aSee (A : St) : Int32 × St := if 0 < aCnt A ∧ 0 < (aTape A).length ∧ (aTape A).length % 2 = 0 ∧ (aTape A).length / 2 ≤ 16 ∧ seeB (aTape A) = true then (nI ((aTape A).length / 2), sSee (sTp A []) (pairsOf (aTape A))) else (-1, sRf (sTp A []) 1)
theorem div2 {n : Nat} (h : n < 10000) : nI n / (2 : Int32) = nI (n / 2) := by
  rw [show (2 : Int32) = nI 2 from rfl]
  apply Int32.toInt_inj.mp
  rw [Int32.toInt_div, nI_toInt (by omega), nI_toInt (by omega), nI_toInt (by omega)]
  have h1 : (n : Int).tdiv ((2 : Nat) : Int) = ((n / 2 : Nat) : Int) := by rw [Int.ofNat_tdiv]
  rw [h1, Int.bmod_def]
  have : ((n / 2 : Nat) : Int) % (2 ^ 32 : Nat) = ((n / 2 : Nat) : Int) := by
    apply Int.emod_eq_of_lt <;> omega
  rw [this]
  rw [if_pos (by omega)]
theorem see_ok {M : MS} {A : St} (h : RS M A) (hg : GA A) : ∃ M', f12_see M = some ((aSee A).1, M') ∧ RS M' (aSee A).2 := by
  have hl := hg.1
  have h1 : gF M 1 = nI (aTape A).length := h.1
  have hT : RS (sF M 1 (0 : Int32)) (sTp A []) := RS_tape h (Frm_sF (by decide)) ⟨by rw [sF_get]; rfl, fun k hk => absurd hk (Nat.not_lt_zero _)⟩
  have h31 : (gF (sF M 1 (0 : Int32)) 31 = 0) ↔ ¬ 0 < aCnt A := told_iff (A := sTp A []) hT
  have h2 := h.2.1
  unfold f12_see aSee
  rw [h1, div2 (by omega)]
  have hmod : nI (aTape A).length - nI ((aTape A).length / 2) * (2 : Int32) = nI ((aTape A).length % 2) := by
    rw [show (2 : Int32) = nI 2 from rfl, nI_mul, nI_sub (by omega), show (aTape A).length - (aTape A).length / 2 * 2 = (aTape A).length % 2 by omega]
  rw [hmod]
  have hno : ∀ (v : Int32), v = 0 → ∃ M', ((some v).bind fun v1 => (L12_see_43 (nI (aTape A).length) (sF M 1 0) FU v1 0).bind fun x3 => if x3 = 0 then (bn2 (f12_refuses (sF M 1 0) 1) fun v7 M8 => some (v7, M8)) else ((L12_see_101 (nI (aTape A).length) FU 0 (sF M 1 0)).bind fun M5 => some ((gF (sF M5 56 (nI ((aTape A).length / 2))) 56), (sF M5 56 (nI ((aTape A).length / 2)))))) = some (-1, M') ∧ RS M' (sRf (sTp A []) 1) := by
    intro v hv
    subst hv
    obtain ⟨n, hn⟩ : ∃ n, FU = n + 1 := ⟨19999, FU_eq⟩
    have hz : L12_see_43 (nI (aTape A).length) (sF M 1 0) FU 0 0 = some 0 := by
      rw [hn]
      unfold L12_see_43
      by_cases hj : nI (aTape A).length ≤ 0
      · rw [if_pos hj]
      · rw [if_neg hj, if_pos rfl]
    obtain ⟨M', r1, r2⟩ := refuses_ok hT 1 (by omega)
    refine ⟨M', ?_, r2⟩
    rw [Option.bind_some, hz, Option.bind_some, if_pos rfl, show f12_refuses (sF M 1 (0 : Int32)) (1 : Int32) = _ from r1, bn2_s]
  by_cases hc : 0 < aCnt A
  · rw [if_neg (fun hh => h31.mp hh hc)]
    by_cases hp : 0 < (aTape A).length
    · rw [if_neg (nI_nle hp (by omega))]
      by_cases he : (aTape A).length % 2 = 0
      · rw [he, if_pos (show nI 0 = (0 : Int32) from rfl), show (16 : Int32) = nI 16 from rfl]
        by_cases h16 : (aTape A).length / 2 ≤ 16
        · rw [if_neg (nI_nlt (by omega) (by omega)), Option.bind_some]
          have hsl := see_loop (M := sF M 1 (0 : Int32)) (N := (aTape A).length) hl ((aTape A).length / 2) (aTape A) FU 0 (by omega) (by omega) h2 (by rw [FU_eq]; omega)
          rw [show L12_see_43 (nI (aTape A).length) (sF M 1 (0 : Int32)) FU (1 : Int32) (0 : Int32) = _ from hsl, Option.bind_some]
          cases hb : seeB (aTape A) with
          | false =>
            obtain ⟨M', r1, r2⟩ := refuses_ok hT 1 (by omega)
            rw [if_pos (show bI false = (0 : Int32) from rfl), if_neg (fun hh => by cases hh.2.2.2.2)]
            exact ⟨M', by rw [show f12_refuses (sF M 1 (0 : Int32)) (1 : Int32) = _ from r1, bn2_s], r2⟩
          | true =>
            rw [if_neg (show ¬ bI true = (0 : Int32) from by decide), if_pos ⟨hc, hp, rfl, h16, rfl⟩]
            obtain ⟨f1, f2⟩ := flat_pairs ((aTape A).length / 2) (aTape A) (by omega)
            have hcp : L12_see_101 (nI (aTape A).length) FU (0 : Int32) (sF M 1 (0 : Int32)) = some (sR (sF M 1 (0 : Int32)) 57 (wr ((sF M 1 (0 : Int32)).2.1 57) 0 (aTape A))) := by
              refine cpl0 (src := 0) (s := 0) (d := 0) (by decide) (show 0 + (aTape A).length ≤ 1600 by omega) (show 0 + (aTape A).length ≤ 32 by omega) (by rw [FU_eq]; omega) h2 (fun n i f hi => ?_) (fun n f => ?_)
              · conv => lhs; unfold L12_see_101
                rw [if_neg (nI_ge hi (by omega)), Nat.zero_add, nI_1]
              · unfold L12_see_101
                rw [if_pos (nI_le (Nat.le_refl _) (by omega))]
            rw [hcp, Option.bind_some, show gF (sF (sR (sF M 1 (0 : Int32)) 57 (wr ((sF M 1 (0 : Int32)).2.1 57) 0 (aTape A))) 56 (nI ((aTape A).length / 2))) 56 = nI ((aTape A).length / 2) from sF_get _ _ _]
            refine ⟨_, rfl, ?_⟩
            obtain ⟨t1, t2, t3, t4, t5, t6, t7, t8, t9, t10, t11, t12, t13⟩ := hT
            have a : ∀ k, k ≠ 57 → (sF (sR (sF M 1 (0 : Int32)) 57 (wr ((sF M 1 (0 : Int32)).2.1 57) 0 (aTape A))) 56 (nI ((aTape A).length / 2))).2.1 k = (sF M 1 (0 : Int32)).2.1 k := fun k hk => sR_ne _ _ hk
            have f : ∀ k, k ≠ 56 → (sF (sR (sF M 1 (0 : Int32)) 57 (wr ((sF M 1 (0 : Int32)).2.1 57) 0 (aTape A))) 56 (nI ((aTape A).length / 2))).1 k = (sF M 1 (0 : Int32)).1 k := fun k hk => sF_ne _ _ hk
            refine ⟨by rw [f 1 (by decide)]; exact t1, by rw [a 0 (by decide)]; exact t2, by rw [f 7 (by decide)]; exact t3, by rw [f 8 (by decide)]; exact t4, fun k hk => by rw [a 9 (by decide)]; exact t5 k hk, by rw [f 31 (by decide)]; exact t6, ?_, ?_, ?_, ?_, ?_, t12, ?_⟩
            · unfold RT; rw [f 34 (by decide), a 35 (by decide)]; exact t7
            · rw [RW_RN] at t8 ⊢
              rw [f 32 (by decide), f 33 (by decide), a 30 (by decide)]
              exact ⟨t8.1, t8.2.1, t8.2.2.1, by intro i o ho; rw [a 36 (by decide), a 37 (by decide), a 38 (by decide), a 39 (by decide), a 40 (by decide)]; exact t8.2.2.2 i o ho⟩
            · unfold RH; rw [f 61 (by decide), f 62 (by decide), a 60 (by decide)]; exact t9
            · rw [sF_get]
              show _ = nI (pairsOf (aTape A)).length
              rw [f2]
            · show seg ((sR (sF M 1 (0 : Int32)) 57 (wr ((sF M 1 (0 : Int32)).2.1 57) 0 (aTape A))).2.1 57) 0 (flatP (pairsOf (aTape A)))
              rw [sR_get, f1]; exact seg_wr
            · unfold RKw
              rw [a 10 (by decide), a 11 (by decide), a 12 (by decide), a 13 (by decide), a 14 (by decide), a 15 (by decide), a 16 (by decide), a 17 (by decide), a 18 (by decide), a 19 (by decide)]
              exact t13
        · rw [if_pos (nI_lt (by omega) (by omega)), if_neg (fun hh => h16 hh.2.2.2.1)]
          exact hno 0 rfl
      · rw [if_neg (show ¬ nI ((aTape A).length % 2) = (0 : Int32) from nI_ne0 (by omega) (by omega)), if_neg (fun hh => he hh.2.2.1)]
        exact hno 0 rfl
    · rw [if_pos (show nI (aTape A).length ≤ (0 : Int32) from by rw [show (aTape A).length = 0 by omega]; decide), if_neg (fun hh => hp hh.2.1)]
      exact hno 0 rfl
  · rw [if_pos (h31.mpr hc), if_neg (fun hh => hc hh.1)]
    exact hno 0 rfl
