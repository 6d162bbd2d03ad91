/-! ===== PART II, the reference: its rows as lists ===== -/
/-- the whole of an array anew -/
def sR (M : MS) (k : Nat) (f : Nat → Int32) : MS := (M.1, va_up M.2.1 k f, M.2.2)
theorem sA_sR (M : MS) (k i : Nat) (v : Int32) : sA M k i v = sR M k (upd (M.2.1 k) i v) := rfl
theorem sR_get (M : MS) (k : Nat) (f : Nat → Int32) : (sR M k f).2.1 k = f := va_up_self _ _ _
theorem sR_ne (M : MS) {k j : Nat} (f : Nat → Int32) (h : j ≠ k) : (sR M k f).2.1 j = M.2.1 j := va_up_ne _ _ h
theorem sR_F (M : MS) (k : Nat) (f : Nat → Int32) : (sR M k f).1 = M.1 := rfl
theorem sR_L (M : MS) (k : Nat) (f : Nat → Int32) : (sR M k f).2.2 = M.2.2 := rfl
theorem sR_sR (M : MS) (k : Nat) (f g : Nat → Int32) : sR (sR M k f) k g = sR M k g := by
  unfold sR
  have : va_up (va_up M.2.1 k f) k g = va_up M.2.1 k g := by
    funext j
    by_cases h : j = k
    · subst h; rw [va_up_self, va_up_self]
    · rw [va_up_ne _ _ h, va_up_ne _ _ h, va_up_ne _ _ h]
  simp only [this]
theorem sR_self (M : MS) (k : Nat) : sR M k (M.2.1 k) = M := by
  have : va_up M.2.1 k (M.2.1 k) = M.2.1 := by
    funext j
    by_cases h : j = k
    · subst h; rw [va_up_self]
    · rw [va_up_ne _ _ h]
  unfold sR
  rw [this]
theorem bn2_s {α1 α2 β : Type} {a1 : α1} {a2 : α2} {f : α1 → α2 → Option β} : bn2 (some (a1, a2)) f = f a1 a2 := rfl
theorem bn3_s {α1 α2 α3 β : Type} {a1 : α1} {a2 : α2} {a3 : α3} {f : α1 → α2 → α3 → Option β} : bn3 (some (a1, a2, a3)) f = f a1 a2 a3 := rfl
theorem bn4_s {α1 α2 α3 α4 β : Type} {a1 : α1} {a2 : α2} {a3 : α3} {a4 : α4} {f : α1 → α2 → α3 → α4 → Option β} : bn4 (some (a1, a2, a3, a4)) f = f a1 a2 a3 a4 := rfl
theorem bn5_s {α1 α2 α3 α4 α5 β : Type} {a1 : α1} {a2 : α2} {a3 : α3} {a4 : α4} {a5 : α5} {f : α1 → α2 → α3 → α4 → α5 → Option β} : bn5 (some (a1, a2, a3, a4, a5)) f = f a1 a2 a3 a4 a5 := rfl
theorem bn6_s {α1 α2 α3 α4 α5 α6 β : Type} {a1 : α1} {a2 : α2} {a3 : α3} {a4 : α4} {a5 : α5} {a6 : α6} {f : α1 → α2 → α3 → α4 → α5 → α6 → Option β} : bn6 (some (a1, a2, a3, a4, a5, a6)) f = f a1 a2 a3 a4 a5 a6 := rfl
theorem bn7_s {α1 α2 α3 α4 α5 α6 α7 β : Type} {a1 : α1} {a2 : α2} {a3 : α3} {a4 : α4} {a5 : α5} {a6 : α6} {a7 : α7} {f : α1 → α2 → α3 → α4 → α5 → α6 → α7 → Option β} : bn7 (some (a1, a2, a3, a4, a5, a6, a7)) f = f a1 a2 a3 a4 a5 a6 a7 := rfl
theorem bn8_s {α1 α2 α3 α4 α5 α6 α7 α8 β : Type} {a1 : α1} {a2 : α2} {a3 : α3} {a4 : α4} {a5 : α5} {a6 : α6} {a7 : α7} {a8 : α8} {f : α1 → α2 → α3 → α4 → α5 → α6 → α7 → α8 → Option β} : bn8 (some (a1, a2, a3, a4, a5, a6, a7, a8)) f = f a1 a2 a3 a4 a5 a6 a7 a8 := rfl
theorem mLn_s : ∀ k : Nat, mLn k < 2 ^ 31 := by
  intro k
  unfold mLn
  split <;> decide
theorem sd_n {M : MS} {k i : Nat} {v : Int32} (h : i < mLn k) : sd M k (nI i) v = some (sR M k (upd (M.2.1 k) i v)) := by
  have h1 := mLn_s k
  unfold sd
  rw [if_neg (nI_in h h1), nI_clamp (by omega)]
  rfl
theorem ld_n {M : MS} {k i : Nat} (h : i < mLn k) : ld M k (nI i) = some (M.2.1 k i) := by
  have h1 := mLn_s k
  unfold ld
  rw [if_neg (nI_in h h1), nI_clamp (by omega)]
/-- a list is written from a place on -/
def wr (f : Nat → Int32) (a : Nat) (l : List Int32) : Nat → Int32 := fun i => if a ≤ i ∧ i < a + l.length then l.getD (i - a) 0 else f i
theorem wr_nil (f : Nat → Int32) (a : Nat) : wr f a [] = f := by
  funext i
  unfold wr
  rw [if_neg (by simp)]
theorem wr_snoc (f : Nat → Int32) (a : Nat) (l : List Int32) (v : Int32) : upd (wr f a l) (a + l.length) v = wr f a (l ++ [v]) := by
  funext i
  unfold upd wr
  by_cases h : i = a + l.length
  · subst h
    rw [if_pos rfl, if_pos (by simp)]
    simp
  · rw [if_neg h]
    by_cases h2 : a ≤ i ∧ i < a + l.length
    · rw [if_pos h2, if_pos (by simp; omega)]
      rw [List.getD_eq_getElem?_getD, List.getD_eq_getElem?_getD, List.getElem?_append_left (by omega)]
    · rw [if_neg h2, if_neg (by simp; omega)]
theorem wr_in {f : Nat → Int32} {a k : Nat} {l : List Int32} (h : k < l.length) : wr f a l (a + k) = l.getD k 0 := by
  unfold wr
  rw [if_pos (by omega), Nat.add_sub_cancel_left]
theorem wr_out {f : Nat → Int32} {a i : Nat} {l : List Int32} (h : i < a ∨ a + l.length ≤ i) : wr f a l i = f i := by
  unfold wr
  rw [if_neg (by omega)]
/-- spreads, inside: so many 0 are written -/
theorem spreads_in (a1 : Nat) (c1 c2 c3 : Int32) (a5 : Nat) (c7 : Int32) {g : Nat} (hg : g < 100000) : ∀ (d n a p : Nat) (l : List Int32) (M : MS) (f : Nat → Int32), p + d = g → d < n → a + l.length + d ≤ mLn a5 → L12_spreads_35 a1 c1 c2 c3 a5 c7 (nI g) n (nI (a + l.length)) (nI p) (sR M a5 (wr f a l)) = some (nI (a + l.length + d), nI g, sR M a5 (wr f a (l ++ List.replicate d 0))) := by
  intro d
  induction d with
  | zero =>
    intro n a p l M f hp hn hl
    obtain ⟨n, rfl⟩ : ∃ k, n = k + 1 := ⟨n - 1, by omega⟩
    unfold L12_spreads_35
    rw [if_pos (nI_le (by omega) (by omega))]
    simp [show p = g by omega]
  | succ d ih =>
    intro n a p l M f hp hn hl
    have hs := mLn_s a5
    obtain ⟨n, rfl⟩ : ∃ k, n = k + 1 := ⟨n - 1, by omega⟩
    unfold L12_spreads_35
    rw [if_neg (nI_ge (by omega) (by omega)), sd_n (by omega), Option.bind_some, sR_sR, sR_get, wr_snoc, nI_1, nI_1]
    have h1 := ih n a (p + 1) (l ++ [0]) M f (by omega) (by omega) (by simp; omega)
    rw [List.length_append, List.length_singleton, ← Nat.add_assoc] at h1
    rw [h1]
    simp [List.replicate_succ, Nat.add_assoc, Nat.add_comm 1 d]
