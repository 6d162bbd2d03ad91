/-! ===== PART II, the reference: the orders ===== -/
/-- whether something is on its way from an editor -/
def onW (cnt : Nat) (W : Wd) (e : Nat) : Bool := decide (e < cnt) && (eLft (wE W e)).isSome
theorem isOnWay_ok {M : MS} {cnt ties tl : Nat} {W : Wd} (h : RW M cnt ties W) (hg : Good cnt ties tl W) {e : Nat} (he : e < 4) : f12_isOnWay M (nI e) = some (bI (onW cnt W e)) := by
  have hc4 := hg.1
  unfold f12_isOnWay onW
  rw [show gF M 32 = nI cnt from h.1]
  by_cases hec : e < cnt
  · have hr := (h.2.2.2.2.2.2.2 e hec).1
    have e3 := (hg.2.2.2.2.2.2.2.2 e hec).2.2.1
    rw [if_neg (nI_ge hec (by omega)), show f12_its M (nI e) (19 : Int32) = some (oI (eLft (wE W e))) from by rw [show (19 : Int32) = nI 19 from rfl, its_ok (by omega), hr.2.2.2.2.2.2.2.2.1], Option.bind_some]
    cases hL : eLft (wE W e) with
    | none => rw [if_pos (show oI none = (-1 : Int32) from rfl)]; simp [hec]; rfl
    | some k =>
      have := e3 k hL
      rw [if_neg (show ¬ oI (some k) = (-1 : Int32) from fun hh => by
        have h3 : (nI k).toInt = -1 := is1.mp hh
        rw [nI_toInt (by omega)] at h3
        omega)]
      simp [hec]; rfl
  · rw [if_pos (nI_le (by omega) (by omega))]
    simp [hec]; rfl
/-- how many wait -/
def sndN (on : Nat → Bool) : Nat → Nat
  | 0 => 0
  | n + 1 => sndN on n + (if on n then 1 else 0)
theorem senders_loop {M : MS} {cnt ties tl : Nat} {W : Wd} (h : RW M cnt ties W) (hg : Good cnt ties tl W) : ∀ (d n i : Nat), i + d = cnt → d < n → L12_senders_4 M n (nI (sndN (onW cnt W) i)) (nI i) = some (nI (sndN (onW cnt W) cnt)) := by
  have hc4 := hg.1
  intro d
  induction d with
  | zero =>
    intro n i hi hn
    obtain ⟨n, rfl⟩ : ∃ j, n = j + 1 := ⟨n - 1, by omega⟩
    have : cnt = i := by omega
    unfold L12_senders_4
    rw [show gF M 32 = nI cnt from h.1, if_pos (nI_le (by omega) (by omega)), this]
  | succ d ih =>
    intro n i hi hn
    obtain ⟨n, rfl⟩ : ∃ j, n = j + 1 := ⟨n - 1, by omega⟩
    have hst : (if bI (onW cnt W i) = 0 then some (nI (sndN (onW cnt W) i)) else some (nI (sndN (onW cnt W) i) + 1)) = some (nI (sndN (onW cnt W) (i + 1))) := by
      rw [sndN]
      cases onW cnt W i with
      | false => rfl
      | true => rw [if_neg (show ¬ bI true = (0 : Int32) from by decide), nI_1]; rfl
    unfold L12_senders_4
    rw [show gF M 32 = nI cnt from h.1, if_neg (nI_ge (by omega) (by omega)), isOnWay_ok h hg (by omega), Option.bind_some, hst, Option.bind_some, nI_1]
    exact ih n (i + 1) (by omega) (by omega)
theorem senders_ok {M : MS} {cnt ties tl : Nat} {W : Wd} (h : RW M cnt ties W) (hg : Good cnt ties tl W) : f12_senders M = some (nI (sndN (onW cnt W) cnt)) := by
  have hc4 := hg.1
  have := senders_loop h hg cnt FU 0 (by omega) (by rw [FU_eq]; omega)
  unfold f12_senders
  rw [show L12_senders_4 M FU (0 : Int32) (0 : Int32) = _ from this, Option.bind_some]
theorem sndN_le (on : Nat → Bool) (n : Nat) : sndN on n ≤ n := by
  induction n with
  | zero => exact Nat.le_refl _
  | succ n ih => rw [sndN]; split <;> omega
/-- the k-th of a row of m, by fours -/
def dig (m r k : Nat) : Nat := r / 4 ^ (m - 1 - k) % 4
theorem dig_ok {m r k : Nat} (hm : m ≤ 4) (hk : k < m) (hr : r < 256) : (nI r >>> (((2 : Int32) * ((nI m - 1) - nI k)) &&& 31)) &&& (3 : Int32) = nI (dig m r k) := by
  rw [show (1 : Int32) = nI 1 from rfl, nI_sub (by omega), nI_sub (by omega), show (2 : Int32) = nI 2 from rfl, nI_mul]
  unfold dig
  have h3 := fun n => fa_mask n 2
  rcases (show m - 1 - k = 0 ∨ m - 1 - k = 1 ∨ m - 1 - k = 2 ∨ m - 1 - k = 3 by omega) with h | h | h | h
  · rw [h, pk_shrN (by omega) _ 0 (by decide)]
    exact h3 _
  · rw [h, pk_shrN (by omega) _ 2 (by decide)]
    exact h3 _
  · rw [h, pk_shrN (by omega) _ 4 (by decide)]
    exact h3 _
  · rw [h, pk_shrN (by omega) _ 6 (by decide)]
    exact h3 _
theorem met_test : ∀ met, met < 16 → ∀ e, e < 4 → (((nI met >>> (nI e &&& 31)) &&& 1 = 1) ↔ met.testBit e = true) := by decide
theorem met_or : ∀ met, met < 16 → ∀ e, e < 4 → nI met ||| ((1 : Int32) <<< (nI e &&& 31)) = nI (met ||| (1 <<< e)) ∧ met ||| (1 <<< e) < 16 := by decide
/-- whether a number tells a row of all that wait, each once -/
def ordB (on : Nat → Bool) (m r : Nat) : Nat → Nat → Nat → Bool
  | 0, _, _ => true
  | d + 1, k, met => on (dig m r k) && (!(met.testBit (dig m r k)) && ordB on m r d (k + 1) (met ||| (1 <<< dig m r k)))
theorem isOrder_loop {M : MS} {cnt ties tl m r : Nat} {W : Wd} (h : RW M cnt ties W) (hg : Good cnt ties tl W) (hm : m ≤ 4) (hr : r < 256) : ∀ (d n k met : Nat), k + d = m → met < 16 → d < n → L12_isOrder_5 (nI r) (nI m) M n (nI met) (nI k) = some (if ordB (onW cnt W) m r d k met then 1 else 0) := by
  intro d
  induction d with
  | zero =>
    intro n k met hk hmet hn
    obtain ⟨n, rfl⟩ : ∃ j, n = j + 1 := ⟨n - 1, by omega⟩
    unfold L12_isOrder_5
    rw [if_pos (nI_le (by omega) (by omega))]; rfl
  | succ d ih =>
    intro n k met hk hmet hn
    obtain ⟨n, rfl⟩ : ∃ j, n = j + 1 := ⟨n - 1, by omega⟩
    have hd4 : dig m r k < 4 := Nat.mod_lt _ (by omega)
    obtain ⟨o1, o2⟩ := met_or met hmet (dig m r k) hd4
    have ht := met_test met hmet (dig m r k) hd4
    unfold L12_isOrder_5
    rw [if_neg (nI_ge (by omega) (by omega)), dig_ok hm (by omega) hr, isOnWay_ok h hg hd4, Option.bind_some, ordB]
    cases onW cnt W (dig m r k) with
    | false => rw [if_pos (show bI false = (0 : Int32) from rfl)]; rfl
    | true =>
      rw [if_neg (show ¬ bI true = (0 : Int32) from by decide)]
      cases hb : met.testBit (dig m r k) with
      | true => rw [if_pos (ht.mpr hb)]; rfl
      | false => rw [if_neg (fun hh => by rw [ht.mp hh] at hb; cases hb), o1, nI_1, ih n (k + 1) _ (by omega) o2 (by omega)]; rfl
theorem isOrder_ok {M : MS} {cnt ties tl m r : Nat} {W : Wd} (h : RW M cnt ties W) (hg : Good cnt ties tl W) (hm : m ≤ 4) (hr : r < 256) : f12_isOrder M (nI r) (nI m) = some (bI (ordB (onW cnt W) m r m 0 0)) := by
  have := isOrder_loop h hg hm hr m FU 0 0 (by omega) (by omega) (by rw [FU_eq]; omega)
  unfold f12_isOrder
  rw [show L12_isOrder_5 (nI r) (nI m) M FU (0 : Int32) (0 : Int32) = _ from this, Option.bind_some]
  cases ordB (onW cnt W) m r m 0 0 <;> rfl
