/-! ===== PART II: all that there is, and how the reference keeps it ===== -/
/-- tape, fault, its place, refusals; editors, ties, told text; the world; the worlds before; what is seen; the seed -/
abbrev St : Type := (List Int32 × Int32 × Int32 × (Nat → Int32)) × (Nat × Nat × List Int32) × Wd × List Wd × List (Int32 × Int32) × Nat
abbrev aTape (A : St) := A.1.1
abbrev aFk (A : St) := A.1.2.1
abbrev aFp (A : St) := A.1.2.2.1
abbrev aRf (A : St) := A.1.2.2.2
abbrev aCnt (A : St) := A.2.1.1
abbrev aTies (A : St) := A.2.1.2.1
abbrev aTold (A : St) := A.2.1.2.2
abbrev aW (A : St) := A.2.2.1
abbrev aHist (A : St) := A.2.2.2.1
abbrev aSeen (A : St) := A.2.2.2.2.1
abbrev aSeed (A : St) := A.2.2.2.2.2
def flatP : List (Int32 × Int32) → List Int32
  | [] => []
  | x :: l => x.1 :: x.2 :: flatP l
/-- a world as it lies in a row of numbers -/
def RN (f : Nat → Int32) (cnt : Nat) (W : Wd) : Prop := f 0 = nI (wTk W) ∧ f 1 = nI (wRow W).length ∧ f 2 = nI (wEd W) ∧ f 3 = nI (wPu W) ∧ ∀ i, i < cnt → REd f (4 + 2618 * i) (wRow W).length (wE W i)
theorem RW_RN {M : MS} {cnt ties : Nat} {W : Wd} : RW M cnt ties W ↔ M.1 32 = nI cnt ∧ M.1 33 = nI ties ∧ RN (M.2.1 30) cnt W ∧ RRow M (wRow W) := by
  unfold RW RN
  constructor
  · rintro ⟨h1, h2, h3, h4, h5, h6, h7, h8⟩; exact ⟨h1, h2, ⟨h3, h4, h5, h6, h8⟩, h7⟩
  · rintro ⟨h1, h2, ⟨h3, h4, h5, h6, h8⟩, h7⟩; exact ⟨h1, h2, h3, h4, h5, h6, h7, h8⟩
/-- the worlds before: the newest one first -/
def RH (M : MS) (cnt : Nat) (hist : List Wd) : Prop := M.1 61 = nI hist.length ∧ ∃ nw : Nat, nw < 20 ∧ M.1 62 = nI nw ∧ ∀ j W, hist[j]? = some W → RN (fun k => M.2.1 60 (10476 * ((nw + 20 - j) % 20) + k)) cnt W
/-- the words that the reference knows -/
def RKw (M : MS) : Prop := seg (M.2.1 10) 0 [116, 101, 120, 116] ∧ seg (M.2.1 11) 0 [101, 100, 105, 116, 111, 114, 115] ∧ seg (M.2.1 12) 0 [100, 101, 108, 97, 121] ∧ seg (M.2.1 13) 0 [116, 105, 101, 115] ∧ seg (M.2.1 14) 0 [101, 100, 105, 116] ∧ seg (M.2.1 15) 0 [99, 117, 114, 115, 111, 114] ∧ seg (M.2.1 16) 0 [109, 97, 114, 107] ∧ seg (M.2.1 17) 0 [111, 102, 102] ∧ seg (M.2.1 18) 0 [111, 110] ∧ seg (M.2.1 19) 0 [116, 105, 99, 107]
def RS (M : MS) (A : St) : Prop :=
  M.1 1 = nI (aTape A).length ∧ seg (M.2.1 0) 0 (aTape A) ∧ M.1 7 = aFk A ∧ M.1 8 = aFp A ∧ (∀ k, k < 7 → M.2.1 9 k = aRf A k) ∧ M.1 31 = bI (decide (0 < aCnt A)) ∧ RT M (aTold A) ∧ RW M (aCnt A) (aTies A) (aW A) ∧ RH M (aCnt A) (aHist A) ∧ M.1 56 = nI (aSeen A).length ∧ seg (M.2.1 57) 0 (flatP (aSeen A)) ∧ M.2.2 = Int64.ofNat (aSeed A) ∧ RKw M
/-- what holds of all that there is -/
def GA (A : St) : Prop :=
  (aTape A).length ≤ 1600 ∧ (∀ v ∈ aTape A, ∃ w : Nat, w < 256 ∧ v = nI w) ∧ Good (aCnt A) (aTies A) (aTold A).length (aW A) ∧ (∀ v ∈ aTold A, okP v) ∧ wTk (aW A) ≤ 999 ∧ (aCnt A = 0 ∨ 2 ≤ aCnt A) ∧ (aCnt A = 0 → wRow (aW A) = [] ∧ aTold A = [] ∧ wTk (aW A) = 0 ∧ wEd (aW A) = 0 ∧ wPu (aW A) = 0 ∧ aHist A = [] ∧ aSeen A = [] ∧ aTies A = 0) ∧ (aHist A).length ≤ 20 ∧
  (∀ W ∈ aHist A, Good (aCnt A) (aTies A) (aTold A).length W ∧ wTk W ≤ 999 ∧ wRow W <+: wRow (aW A)) ∧ (∀ j W W', (aHist A)[j]? = some W → (aHist A)[j + 1]? = some W' → wRow W' <+: wRow W) ∧
  (aSeen A).length ≤ 16 ∧ (∀ x ∈ aSeen A, (∃ p : Nat, p < 240 ∧ x.1 = nI p) ∧ ∃ c : Nat, c ≤ 26 ∧ x.2 = nI c) ∧ aSeed A < 2 ^ 31
/-- what may change while nothing is -/
def scrA (k : Nat) : Prop := k ≠ 0 ∧ k ≠ 9 ∧ ¬ (10 ≤ k ∧ k ≤ 19) ∧ k ≠ 30 ∧ k ≠ 35 ∧ ¬ (36 ≤ k ∧ k ≤ 40) ∧ k ≠ 57 ∧ k ≠ 60
def scrF (k : Nat) : Prop := k ≠ 1 ∧ k ≠ 7 ∧ k ≠ 8 ∧ k ≠ 31 ∧ k ≠ 32 ∧ k ≠ 33 ∧ k ≠ 34 ∧ k ≠ 56 ∧ k ≠ 61 ∧ k ≠ 62
theorem RS_same {M M' : MS} {A : St} (h : RS M A) (ha : ∀ k, ¬ scrA k → ¬ (36 ≤ k ∧ k ≤ 40) → M'.2.1 k = M.2.1 k) (hf : ∀ k, ¬ scrF k → M'.1 k = M.1 k) (hl : M'.2.2 = M.2.2) (hR : RRow M' (wRow (aW A))) : RS M' A := by
  obtain ⟨h1, h2, h3, h4, h5, h6, h7, h8, h9, h10, h11, h12, h13⟩ := h
  have a : ∀ k, (k = 0 ∨ k = 9 ∨ (10 ≤ k ∧ k ≤ 19) ∨ k = 30 ∨ k = 35 ∨ k = 57 ∨ k = 60) → M'.2.1 k = M.2.1 k := fun k hk => ha k (fun hs => by unfold scrA at hs; omega) (by omega)
  have f : ∀ k, (k = 1 ∨ k = 7 ∨ k = 8 ∨ k = 31 ∨ k = 32 ∨ k = 33 ∨ k = 34 ∨ k = 56 ∨ k = 61 ∨ k = 62) → M'.1 k = M.1 k := fun k hk => hf k (fun hs => by unfold scrF at hs; omega)
  refine ⟨by rw [f 1 (by omega)]; exact h1, by rw [a 0 (by omega)]; exact h2, by rw [f 7 (by omega)]; exact h3, by rw [f 8 (by omega)]; exact h4, fun k hk => by rw [a 9 (by omega)]; exact h5 k hk, by rw [f 31 (by omega)]; exact h6, ?_, ?_, ?_, by rw [f 56 (by omega)]; exact h10, by rw [a 57 (by omega)]; exact h11, by rw [hl]; exact h12, ?_⟩
  · unfold RT; rw [f 34 (by omega), a 35 (by omega)]; exact h7
  · rw [RW_RN] at h8 ⊢
    rw [f 32 (by omega), f 33 (by omega), a 30 (by omega)]
    exact ⟨h8.1, h8.2.1, h8.2.2.1, hR⟩
  · unfold RH; rw [f 61 (by omega), f 62 (by omega), a 60 (by omega)]; exact h9
  · unfold RKw
    rw [a 10 (by omega), a 11 (by omega), a 12 (by omega), a 13 (by omega), a 14 (by omega), a 15 (by omega), a 16 (by omega), a 17 (by omega), a 18 (by omega), a 19 (by omega)]
    exact h13
theorem RS_frm {M M' : MS} {A : St} {As Fs : List Nat} (h : RS M A) (hf : Frm As Fs M M') (ha : ∀ k ∈ As, scrA k) (hF : ∀ k ∈ Fs, scrF k) : RS M' A := by
  refine RS_same h (fun k hk _ => hf.1 k (fun hm => hk (ha k hm))) (fun k hk => hf.2.1 k (fun hm => hk (hF k hm))) hf.2.2 ?_
  have hR := h.2.2.2.2.2.2.2.1.2.2.2.2.2.2.1
  intro i o ho
  have e : ∀ k, 36 ≤ k → k ≤ 40 → M'.2.1 k = M.2.1 k := fun k k1 k2 => hf.1 k (fun hm => by have := ha k hm; unfold scrA at this; omega)
  rw [e 36 (by omega) (by omega), e 37 (by omega) (by omega), e 38 (by omega) (by omega), e 39 (by omega) (by omega), e 40 (by omega) (by omega)]
  exact hR i o ho
/-- whether that is an editor -/
def isEd (A : St) (e : Int32) : Prop := 0 ≤ e.toInt ∧ e.toInt < aCnt A
theorem isEditor_ok {M : MS} {A : St} (h : RS M A) (hg : GA A) (e : Int32) : f12_isEditor M e = some (if 0 ≤ e.toInt ∧ e.toInt < aCnt A then 1 else 0) := by
  have hc4 := hg.2.2.1.1
  have h31 := h.2.2.2.2.2.1
  have h32 := h.2.2.2.2.2.2.2.1.1
  unfold f12_isEditor
  rw [show gF M 31 = _ from h31, show gF M 32 = _ from h32]
  by_cases hc : 0 < aCnt A
  · rw [if_neg (by simp [hc, bI]), isIn_ok, i64, i64, show (1 : Int32) = nI 1 from rfl, nI_sub (by omega), nI_toInt (by omega), show (0 : Int64).toInt = 0 from by decide, Option.bind_some]
    by_cases he : 0 ≤ e.toInt ∧ e.toInt < aCnt A
    · rw [if_pos (show 0 ≤ e.toInt ∧ e.toInt ≤ ((aCnt A - 1 : Nat) : Int) by omega), if_pos he, show nI 1 = (1 : Int32) from rfl, if_neg (by decide), Option.bind_some, bz1, Option.bind_some]
    · rw [if_neg (show ¬ (0 ≤ e.toInt ∧ e.toInt ≤ ((aCnt A - 1 : Nat) : Int)) by omega), if_neg he, if_pos rfl, Option.bind_some, bz0, Option.bind_some]
  · rw [if_pos (by simp [hc, bI]), Option.bind_some, bz0, Option.bind_some, if_neg (by omega)]
/-- how many are on their way -/
def wayN (cnt : Nat) (W : Wd) : Nat := sumN (fun i => (wRow W).length - eRev (wE W i) + (if (eLft (wE W i)).isSome then 1 else 0)) cnt
theorem way_loop {M : MS} {cnt ties tl : Nat} {W : Wd} (h : RW M cnt ties W) (hg : Good cnt ties tl W) : ∀ (d n i : Nat), i + d = cnt → d < n → L12_wayMany_4 M n (nI (wayN i W)) (nI i) = some (nI (wayN cnt W)) := by
  have hc4 := hg.1
  have hl := row_le hg
  intro d
  induction d with
  | zero =>
    intro n i hi hn
    obtain ⟨n, rfl⟩ : ∃ j, n = j + 1 := ⟨n - 1, by omega⟩
    unfold L12_wayMany_4
    have : cnt = i := by omega
    subst this
    rw [show gF M 32 = nI cnt from h.1, if_pos (nI_le (by omega) (by omega))]
  | succ d ih =>
    intro n i hi hn
    obtain ⟨n, rfl⟩ : ∃ j, n = j + 1 := ⟨n - 1, by omega⟩
    have hr := (h.2.2.2.2.2.2.2 i (by omega)).1
    have e1 := (hg.2.2.2.2.2.2.2.2 i (by omega)).1
    have e3 := (hg.2.2.2.2.2.2.2.2 i (by omega)).2.2.1
    unfold L12_wayMany_4
    rw [show gF M 32 = nI cnt from h.1, if_neg (nI_ge (by omega) (by omega)), show ld M 30 (1 : Int32) = some (nI (wRow W).length) from by rw [show (1 : Int32) = nI 1 from rfl, ld_n (show 1 < 10476 by omega), h.2.2.2.1], Option.bind_some, show f12_its M (nI i) (0 : Int32) = some (nI (eRev (wE W i))) from by rw [show (0 : Int32) = nI 0 from rfl, its_ok (by omega), Nat.add_zero, hr.1], Option.bind_some, show f12_its M (nI i) (19 : Int32) = some (oI (eLft (wE W i))) from by rw [show (19 : Int32) = nI 19 from rfl, its_ok (by omega), hr.2.2.2.2.2.2.2.2.1], Option.bind_some]
    have e4 : (if oI (eLft (wE W i)) = (-1 : Int32) then some (0 : Int32) else some (1 : Int32)) = some (nI (if (eLft (wE W i)).isSome then 1 else 0)) := by
      cases hL : eLft (wE W i) with
      | none => rfl
      | some k =>
        have := e3 k hL
        rw [if_neg (show ¬ oI (some k) = (-1 : Int32) from fun hh' => by
          have hh : nI k = (-1 : Int32) := hh'
          have h3 : (nI k).toInt = (-1 : Int32).toInt := by rw [hh]
          rw [nI_toInt (by omega)] at h3
          have : (-1 : Int32).toInt = -1 := by decide
          omega)]
        rfl
    rw [e4, Option.bind_some, nI_sub e1, nI_add, nI_add, nI_1]
    have := ih n (i + 1) (by omega) (by omega)
    rw [show wayN (i + 1) W = wayN i W + ((wRow W).length - eRev (wE W i) + (if (eLft (wE W i)).isSome then 1 else 0)) from rfl] at this
    exact this
theorem wayMany_ok {M : MS} {cnt ties tl : Nat} {W : Wd} (h : RW M cnt ties W) (hg : Good cnt ties tl W) : f12_wayMany M = some (nI (wayN cnt W)) := by
  have hc4 := hg.1
  have := way_loop h hg cnt FU 0 (by omega) (by rw [FU_eq]; omega)
  unfold f12_wayMany
  rw [show L12_wayMany_4 M FU (0 : Int32) (0 : Int32) = _ from this, Option.bind_some]
