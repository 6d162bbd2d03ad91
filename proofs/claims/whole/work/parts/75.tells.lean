/-! ===== PART II, the reference: fits, tells ===== -/
def fitA (A : St) (i : Nat) : Bool := fitB ((endsA A).getD i []) (aSeen A)
def kthF (fit : Nat → Bool) (k : Int) : Nat → Nat → Nat → Option Nat
  | 0, _, _ => none
  | d + 1, i, c => if fit i then (if (c : Int) = k then some i else kthF fit k d (i + 1) (c + 1)) else kthF fit k d (i + 1) c
theorem kth_loop {M : MS} {N : Nat} {k : Int32} {fit : Nat → Bool} (hN : N ≤ 24) (h53 : M.1 53 = nI N) (h58 : ∀ j, j < N → M.2.1 58 j = bI (fit j)) : ∀ (d n i c : Nat), i + d = N → c ≤ i → d < n → L12_fits_32 k M n (nI c) (nI i) = some (match kthF fit k.toInt d i c with | none => (1, nI N) | some j => (0, nI j)) := by
  intro d
  induction d with
  | zero =>
    intro n i c hi hc hn
    obtain ⟨n, rfl⟩ : ∃ j, n = j + 1 := ⟨n - 1, by omega⟩
    unfold L12_fits_32
    rw [show gF M 53 = _ from h53, if_pos (nI_le (by omega) (by omega)), show i = N by omega]; rfl
  | succ d ih =>
    intro n i c hi hc hn
    obtain ⟨n, rfl⟩ : ∃ j, n = j + 1 := ⟨n - 1, by omega⟩
    unfold L12_fits_32
    rw [show gF M 53 = _ from h53, if_neg (nI_ge (by omega) (by omega)), ld_n (show i < 24 by omega), h58 i (by omega), Option.bind_some, kthF]
    cases fit i with
    | false => rw [if_pos (show bI false = (0 : Int32) from rfl), nI_1, ih n (i + 1) c (by omega) (by omega) (by omega)]; rfl
    | true =>
      rw [if_neg (show ¬ bI true = (0 : Int32) from by decide), if_pos rfl]
      by_cases hk : (c : Int) = k.toInt
      · rw [if_pos (show nI c = k from Int32.toInt_inj.mp (by rw [nI_toInt (by omega)]; exact hk)), if_pos hk]
      · rw [if_neg (show ¬ nI c = k from fun hh => hk (by rw [← hh, nI_toInt (by omega)])), if_neg hk, nI_1, nI_1, ih n (i + 1) (c + 1) (by omega) (by omega) (by omega)]
def qFits (A : St) (k : Int32) : Int32 := if 0 < aCnt A ∧ -1 ≤ k.toInt then (if k = -1 then nI (cntF (endsA A) (aSeen A) (endsA A).length) else match kthF (fitA A) k.toInt (endsA A).length 0 0 with | none => -1 | some i => nI i) else -1
theorem fits_ok {M : MS} {A : St} (h : RS M A) (hg : GA A) (k : Int32) : ∃ M', f12_fits M k = some (qFits A k, M') ∧ RS M' A := by
  have hl := ends_len hg
  unfold f12_fits qFits
  by_cases hc : 0 < aCnt A
  · rw [if_neg (fun hh => (told_iff h).mp hh hc)]
    by_cases hk : -1 ≤ k.toInt
    · rw [if_pos (le_neg1.mpr hk), if_pos (show 0 < aCnt A ∧ -1 ≤ k.toInt from ⟨hc, hk⟩)]
      obtain ⟨M1, a1, a2, a3, a4, a5⟩ := laysFits_ok h hg
      rw [a1, Option.bind_some]
      refine ⟨M1, ?_, a2⟩
      by_cases k1 : k = -1
      · rw [if_pos k1, if_pos k1, show gF M1 59 = _ from a4]
      · have hkl := kth_loop (k := k) (fit := fitA A) hl a3.1 a5 (endsA A).length FU 0 0 (by omega) (by omega) (by rw [FU_eq]; omega)
        rw [if_neg k1, if_neg k1, show L12_fits_32 k M1 FU (0 : Int32) (0 : Int32) = _ from hkl]
        cases kthF (fitA A) k.toInt (endsA A).length 0 0 with
        | none => dsimp only; rw [bn2_s, if_neg (by decide)]
        | some j => dsimp only; rw [bn2_s, if_pos rfl]
    · rw [if_neg (fun hh => hk (le_neg1.mp hh)), if_neg (fun hh => hk hh.2)]; exact ⟨M, rfl, h⟩
  · rw [if_pos ((told_iff h).mpr hc), if_neg (fun hh => hc hh.1)]; exact ⟨M, rfl, h⟩
/-- how many fits have a letter at a place -/
def cntV (A : St) (p v : Nat) : Nat → Nat
  | 0 => 0
  | n + 1 => cntV A p v n + (if fitA A n = true ∧ endP ((endsA A).getD n []) p = nI v then 1 else 0)
/-- how many are left at the most -/
def mostP (A : St) (p : Nat) : Nat → Nat
  | 0 => 0
  | v + 1 => max (mostP A p v) (cntV A p v (endsA A).length)
theorem cntV_le (A : St) (p v n : Nat) : cntV A p v n ≤ n := by
  induction n with
  | zero => exact Nat.le_refl _
  | succ n ih => rw [cntV]; split <;> omega
theorem mostP_le (A : St) (p v : Nat) : mostP A p v ≤ (endsA A).length := by
  induction v with
  | zero => exact Nat.zero_le _
  | succ v ih => rw [mostP]; exact Nat.max_le.mpr ⟨ih, cntV_le _ _ _ _⟩
theorem cntV_loop {M : MS} {A : St} {p v : Nat} {c2 : Int32} (hE : EN M (endsA A)) (hl : (endsA A).length ≤ 24) (h58 : ∀ j, j < (endsA A).length → M.2.1 58 j = bI (fitA A j)) (hp : p < 240) : ∀ (d n i : Nat), i + d = (endsA A).length → d < n → L12_mostAt_16 (nI p) c2 (nI v) M n (nI (cntV A p v i)) (nI i) = some (nI (cntV A p v (endsA A).length)) := by
  intro d
  induction d with
  | zero =>
    intro n i hi hn
    obtain ⟨n, rfl⟩ : ∃ j, n = j + 1 := ⟨n - 1, by omega⟩
    unfold L12_mostAt_16
    rw [show gF M 53 = _ from hE.1, if_pos (nI_le (by omega) (by omega)), show i = (endsA A).length by omega]
  | succ d ih =>
    intro n i hi hn
    obtain ⟨n, rfl⟩ : ∃ j, n = j + 1 := ⟨n - 1, by omega⟩
    have ho := List.getElem?_eq_getElem (show i < (endsA A).length by omega)
    have hgd : (endsA A).getD i [] = (endsA A)[i]'(by omega) := by rw [List.getD_eq_getElem?_getD, ho]; rfl
    rw [← hgd] at ho
    have hr := ih n (i + 1) (by omega) (by omega)
    rw [cntV] at hr
    unfold L12_mostAt_16
    rw [show gF M 53 = _ from hE.1, if_neg (nI_ge (by omega) (by omega)), ld_n (show i < 24 by omega), h58 i (by omega), Option.bind_some]
    cases hf : fitA A i with
    | false =>
      rw [if_neg (fun hh => by rw [hf] at hh; cases hh.1), Nat.add_zero] at hr
      rw [if_pos (show bI false = (0 : Int32) from rfl), Option.bind_some, nI_1]
      exact hr
    | true =>
      rw [if_neg (show ¬ bI true = (0 : Int32) from by decide), endAt_ok hE ho hl (by omega), Option.bind_some]
      by_cases hv : endP ((endsA A).getD i []) p = nI v
      · rw [if_pos ⟨hf, hv⟩] at hr
        rw [if_pos hv, Option.bind_some, nI_1, nI_1]
        exact hr
      · rw [if_neg (fun hh => hv hh.2), Nat.add_zero] at hr
        rw [if_neg hv, Option.bind_some, nI_1]
        exact hr
theorem most_loop {M : MS} {A : St} {p : Nat} (hE : EN M (endsA A)) (hl : (endsA A).length ≤ 24) (h58 : ∀ j, j < (endsA A).length → M.2.1 58 j = bI (fitA A j)) (hp : p < 240) : ∀ (d n v : Nat), v + d = 27 → d < n → L12_mostAt_4 (nI p) M n (nI (mostP A p v)) (nI v) = some (nI (mostP A p 27)) := by
  intro d
  induction d with
  | zero =>
    intro n v hv hn
    obtain ⟨n, rfl⟩ : ∃ j, n = j + 1 := ⟨n - 1, by omega⟩
    unfold L12_mostAt_4
    rw [show (26 : Int32) = nI 26 from rfl, if_pos (nI_lt (by omega) (by omega)), show v = 27 by omega]
  | succ d ih =>
    intro n v hv hn
    obtain ⟨n, rfl⟩ : ∃ j, n = j + 1 := ⟨n - 1, by omega⟩
    have hc := cntV_loop (v := v) (c2 := nI (mostP A p v)) hE hl h58 hp (endsA A).length FU 0 (by omega) (by rw [FU_eq]; omega)
    have b1 := cntV_le A p v (endsA A).length
    have b2 := mostP_le A p v
    have hst : (if nI (cntV A p v (endsA A).length) ≤ nI (mostP A p v) then some (nI (mostP A p v)) else some (nI (cntV A p v (endsA A).length))) = some (nI (mostP A p (v + 1))) := by
      rw [mostP]
      by_cases hle : cntV A p v (endsA A).length ≤ mostP A p v
      · rw [if_pos (nI_le hle (by omega)), Nat.max_eq_left hle]
      · rw [if_neg (nI_ge (by omega) (by omega)), Nat.max_eq_right (by omega)]
    unfold L12_mostAt_4
    rw [show (26 : Int32) = nI 26 from rfl, if_neg (nI_nlt (by omega) (by omega)), show L12_mostAt_16 (nI p) (nI (mostP A p v)) (nI v) M FU (0 : Int32) (0 : Int32) = _ from hc, Option.bind_some, hst, Option.bind_some, nI_1]
    exact ih n (v + 1) (by omega) (by omega)
theorem mostAt_ok {M : MS} {A : St} {p : Nat} (hE : EN M (endsA A)) (hl : (endsA A).length ≤ 24) (h58 : ∀ j, j < (endsA A).length → M.2.1 58 j = bI (fitA A j)) (hp : p < 240) : f12_mostAt M (nI p) = some (nI (mostP A p 27)) := by
  have h := most_loop hE hl h58 hp 27 FU 0 (by omega) (by rw [FU_eq]; omega)
  unfold f12_mostAt
  rw [show L12_mostAt_4 (nI p) M FU (0 : Int32) (0 : Int32) = _ from h, Option.bind_some]
/-- the place that tells most, of the first so many -/
def bst (A : St) : Nat → Nat
  | 0 => 0
  | p + 1 => if mostP A p 27 < mostP A (bst A p) 27 then p else bst A p
theorem bst_lt (A : St) (p : Nat) : bst A p < p + 1 := by
  induction p with
  | zero => rw [bst]; omega
  | succ p ih => rw [bst]; split <;> omega
theorem bst_loop {M : MS} {A : St} {c1 : Int32} (hE : EN M (endsA A)) (hl : (endsA A).length ≤ 24) (h58 : ∀ j, j < (endsA A).length → M.2.1 58 j = bI (fitA A j)) : ∀ (d n p : Nat), p + d = 240 → d < n → L12_tells_36 c1 M n (nI (bst A p)) (nI p) = some (nI (bst A 240)) := by
  intro d
  induction d with
  | zero =>
    intro n p hp hn
    obtain ⟨n, rfl⟩ : ∃ j, n = j + 1 := ⟨n - 1, by omega⟩
    unfold L12_tells_36
    rw [show (240 : Int32) = nI 240 from rfl, if_pos (nI_le (by omega) (by omega)), show p = 240 by omega]
  | succ d ih =>
    intro n p hp hn
    obtain ⟨n, rfl⟩ : ∃ j, n = j + 1 := ⟨n - 1, by omega⟩
    have hb := bst_lt A p
    have b1 := mostP_le A p 27
    have b2 := mostP_le A (bst A p) 27
    have hst : (if nI (mostP A (bst A p) 27) ≤ nI (mostP A p 27) then some (nI (bst A p)) else some (nI p)) = some (nI (bst A (p + 1))) := by
      rw [bst]
      by_cases hlt : mostP A p 27 < mostP A (bst A p) 27
      · rw [if_neg (nI_ge hlt (by omega)), if_pos hlt]
      · rw [if_pos (nI_le (by omega) (by omega)), if_neg hlt]
    unfold L12_tells_36
    rw [show (240 : Int32) = nI 240 from rfl, if_neg (nI_ge (by omega) (by omega)), mostAt_ok hE hl h58 (by omega), Option.bind_some, mostAt_ok hE hl h58 (by omega), Option.bind_some, hst, Option.bind_some, nI_1]
    exact ih n (p + 1) (by omega) (by omega)
theorem bst_1 (A : St) : bst A 1 = 0 := by
  rw [bst, bst, if_neg (by omega)]
def qTells (A : St) (w : Int32) : Int32 := if 0 < aCnt A ∧ (0 ≤ w.toInt ∧ w.toInt ≤ 1) ∧ cntF (endsA A) (aSeen A) (endsA A).length ≠ 0 then (if w = 0 then nI (bst A 240) else nI (mostP A (bst A 240) 27)) else -1
theorem cntF_le (ts : List (List Int32)) (seen : List (Int32 × Int32)) (n : Nat) : cntF ts seen n ≤ n := by
  induction n with
  | zero => exact Nat.le_refl _
  | succ n ih => rw [cntF]; split <;> omega
theorem tells_ok {M : MS} {A : St} (h : RS M A) (hg : GA A) (w : Int32) : ∃ M', f12_tells M w = some (qTells A w, M') ∧ RS M' A := by
  have hl := ends_len hg
  have hcl := cntF_le (endsA A) (aSeen A) (endsA A).length
  unfold f12_tells qTells
  by_cases hc : 0 < aCnt A
  · rw [if_neg (fun hh => (told_iff h).mp hh hc), isIn_ok, i64, show (0 : Int64).toInt = 0 from by decide, show (1 : Int64).toInt = 1 from by decide, Option.bind_some]
    by_cases hw : 0 ≤ w.toInt ∧ w.toInt ≤ 1
    · rw [if_pos hw, if_neg (show ¬ (1 : Int32) = 0 from by decide)]
      obtain ⟨M2, a1, a2, a3, a4, a5⟩ := laysFits_ok h hg
      have a5' : ∀ j, j < (endsA A).length → M2.2.1 58 j = bI (fitA A j) := a5
      rw [a1, Option.bind_some, show gF M2 59 = _ from a4]
      refine ⟨M2, ?_, a2⟩
      by_cases hz : cntF (endsA A) (aSeen A) (endsA A).length = 0
      · rw [hz, if_pos (show nI 0 = (0 : Int32) from rfl), if_neg (fun hh => hh.2.2 rfl)]
      · have hb := bst_loop (c1 := w) a3 hl a5' 239 FU 1 (by omega) (by rw [FU_eq]; omega)
        rw [bst_1] at hb
        have hbl : bst A 240 < 240 := by
          have h1 : bst A 240 = if mostP A 239 27 < mostP A (bst A 239) 27 then 239 else bst A 239 := rfl
          have h2 := bst_lt A 239
          rw [h1]
          split <;> omega
        rw [if_neg (nI_ne0 (by omega) (by omega)), if_pos (show 0 < aCnt A ∧ (0 ≤ w.toInt ∧ w.toInt ≤ 1) ∧ cntF (endsA A) (aSeen A) (endsA A).length ≠ 0 from ⟨hc, hw, hz⟩), show L12_tells_36 w M2 FU (0 : Int32) (1 : Int32) = _ from hb, Option.bind_some]
        by_cases w0 : w = 0
        · rw [if_pos w0, if_pos w0, Option.bind_some]
        · rw [if_neg w0, if_neg w0, mostAt_ok a3 hl a5' hbl, Option.bind_some, Option.bind_some]
    · rw [if_neg hw, if_pos rfl, if_neg (fun hh => hw hh.2.1)]; exact ⟨M, rfl, h⟩
  · rw [if_pos ((told_iff h).mpr hc), if_neg (fun hh => hc hh.1)]; exact ⟨M, rfl, h⟩
