/-! ===== PART II, the reference: its stacks of operations ===== -/
/-- a stack lies in the array from a place on: each with the room that it had when it came; where it ends -/
def stk (f : Nat → Int32) : Nat → List (Nat × List Int32) → Prop
  | _, [] => True
  | a, x :: s => f a = nI x.1 ∧ (gatherL x.2 0).length ≤ x.1 ∧ KeptAt f (a + 1) x.2 ∧ stk f (a + 3 + x.1) s
def stkE : Nat → List (Nat × List Int32) → Nat
  | a, [] => a
  | a, x :: s => stkE (a + 3 + x.1) s
theorem stkE_ge (s : List (Nat × List Int32)) (a : Nat) : a ≤ stkE a s := by
  induction s generalizing a with
  | nil => exact Nat.le_refl _
  | cons x s ih => rw [stkE]; have := ih (a + 3 + x.1); omega
theorem stkE_app (s t : List (Nat × List Int32)) (a : Nat) : stkE a (s ++ t) = stkE (stkE a s) t := by
  induction s generalizing a with
  | nil => rfl
  | cons x s ih => rw [List.cons_append, stkE, stkE, ih]
theorem stkE_sh (s : List (Nat × List Int32)) (a b : Nat) : stkE (a + b) s = stkE a s + b := by
  induction s generalizing a with
  | nil => rfl
  | cons x s ih => rw [stkE, stkE, ← ih]; congr 1; omega
theorem stk_app {f : Nat → Int32} (s t : List (Nat × List Int32)) (a : Nat) : stk f a (s ++ t) ↔ stk f a s ∧ stk f (stkE a s) t := by
  induction s generalizing a with
  | nil => simp [stk, stkE]
  | cons x s ih => rw [List.cons_append, stk, stk, stkE, ih]; simp only [and_assoc]
theorem stk_sh {f f' : Nat → Int32} : ∀ (s : List (Nat × List Int32)) (a b : Nat), stk f a s → (∀ j, a + j < stkE a s → f' (b + j) = f (a + j)) → stk f' b s := by
  intro s
  induction s with
  | nil => intro a b h hf; trivial
  | cons x s ih =>
    intro a b h hf
    rw [stk] at h
    rw [stkE] at hf
    obtain ⟨h1, h2, h3, h4⟩ := h
    have hg := stkE_ge s (a + 3 + x.1)
    refine ⟨?_, h2, ?_, ?_⟩
    · have := hf 0 (by omega); rw [Nat.add_zero, Nat.add_zero] at this; rw [this, h1]
    · refine KeptAt_sh h3 (fun j hj => ?_)
      rw [Nat.add_assoc, hf (1 + j) (by omega), ← Nat.add_assoc]
    · refine ih (a + 3 + x.1) (b + 3 + x.1) h4 (fun j hj => ?_)
      rw [show b + 3 + x.1 + j = b + (3 + x.1 + j) by omega, hf _ (by omega)]
      congr 1; omega
theorem stk_eq {f f' : Nat → Int32} {s : List (Nat × List Int32)} {a : Nat} (h : stk f a s) (hf : ∀ j, a ≤ j → j < stkE a s → f' j = f j) : stk f' a s :=
  stk_sh s a a h (fun j hj => hf _ (by omega) hj)
theorem entryAt_loop {M : MS} {K : Nat} : ∀ (s t : List (Nat × List Int32)) (n a k : Nat), stk (M.2.1 30) a (s ++ t) → stkE a (s ++ t) ≤ 10476 → k + s.length = K → K < 10000 → s.length < n → L12_entryAt_5 (nI K) M n (nI a) (nI k) = some (nI (stkE a s)) := by
  intro s
  induction s with
  | nil =>
    intro t n a k h he hk hK hn
    obtain ⟨n, rfl⟩ : ∃ j, n = j + 1 := ⟨n - 1, by omega⟩
    rw [List.length_nil] at hk
    unfold L12_entryAt_5
    rw [if_pos (nI_le (by omega) (by omega)), stkE]
  | cons x s ih =>
    intro t n a k h he hk hK hn
    rw [List.length_cons] at hk hn
    obtain ⟨n, rfl⟩ : ∃ j, n = j + 1 := ⟨n - 1, by omega⟩
    rw [List.cons_append, stk] at h
    rw [List.cons_append, stkE] at he
    obtain ⟨h1, h2, h3, h4⟩ := h
    have hg := stkE_ge (s ++ t) (a + 3 + x.1)
    unfold L12_entryAt_5
    rw [if_neg (nI_ge (by omega) (by omega)), ld_n (show a < 10476 by omega), h1, Option.bind_some, nI_r3, nI_add, nI_1, stkE, ← Nat.add_assoc]
    exact ih t n (a + 3 + x.1) (k + 1) h4 he (by omega) hK (by omega)
theorem entryAt_ok {M : MS} {a : Nat} (s t : List (Nat × List Int32)) (h : stk (M.2.1 30) a (s ++ t)) (he : stkE a (s ++ t) ≤ 10476) (hs : s.length < 1000) : f12_entryAt M (nI a) (nI s.length) = some (nI (stkE a s)) := by
  have h1 := entryAt_loop (K := s.length) s t FU a 0 h he (by omega) (by omega) (by rw [FU_eq]; omega)
  unfold f12_entryAt
  rw [show L12_entryAt_5 (nI s.length) M FU (nI a) (0 : Int32) = _ from h1, Option.bind_some]
theorem drops_loop {M : MS} {a d E : Nat} (hE : E ≤ 10476) (hd : 0 < d) : ∀ (m n k : Nat), k + m = E → a + d ≤ k → m < n →
    L12_dropsOldest_18 (nI a) (nI (a + d)) (nI E) n (nI k) (sR M 30 (fun j => if a ≤ j ∧ j + d < k then M.2.1 30 (j + d) else M.2.1 30 j)) = some (sR M 30 (fun j => if a ≤ j ∧ j + d < E then M.2.1 30 (j + d) else M.2.1 30 j)) := by
  intro m
  induction m with
  | zero =>
    intro n k hk hak hn
    obtain ⟨n, rfl⟩ : ∃ j, n = j + 1 := ⟨n - 1, by omega⟩
    unfold L12_dropsOldest_18
    rw [if_pos (nI_le (by omega) (by omega)), show k = E by omega]
  | succ m ih =>
    intro n k hk hak hn
    obtain ⟨n, rfl⟩ : ∃ j, n = j + 1 := ⟨n - 1, by omega⟩
    unfold L12_dropsOldest_18
    rw [if_neg (nI_ge (by omega) (by omega)), ld_n (show k < 10476 by omega), sR_get, if_neg (by omega), Option.bind_some, nI_add, nI_sub (by omega), sd_n (show a + k - (a + d) < 10476 by omega), sR_get, sR_sR, Option.bind_some, nI_1]
    rw [← ih n (k + 1) (by omega) (by omega) (by omega)]
    congr 2
    funext j
    unfold upd
    by_cases hj : j = a + k - (a + d)
    · rw [if_pos hj, if_pos (by omega), show j + d = k by omega]
    · rw [if_neg hj]
      by_cases h3 : a ≤ j ∧ j + d < k
      · show (if a ≤ j ∧ j + d < k then _ else _) = _
        rw [if_pos h3, if_pos (by omega)]
      · show (if a ≤ j ∧ j + d < k then _ else _) = _
        rw [if_neg h3, if_neg (by omega)]
theorem dropsOldest_ok {M : MS} {a : Nat} (x : Nat × List Int32) (s : List (Nat × List Int32)) (h : stk (M.2.1 30) a (x :: s)) (he : stkE a (x :: s) ≤ 10476) (hs : s.length = 7) :
    ∃ f', f12_dropsOldest M (nI a) (8 : Int32) = some (sR M 30 f') ∧ stk f' a s ∧ (∀ j, j < a ∨ stkE a (x :: s) ≤ j → f' j = M.2.1 30 j) ∧ stkE a s ≤ stkE a (x :: s) := by
  have e1 : f12_entryAt M (nI a) (1 : Int32) = some (nI (a + 3 + x.1)) := entryAt_ok [x] s h he (by simp)
  have e2 : f12_entryAt M (nI a) (8 : Int32) = some (nI (stkE a (x :: s))) := by
    have := entryAt_ok (x :: s) [] (by rw [List.append_nil]; exact h) (by rw [List.append_nil]; exact he) (by simp [hs])
    rw [List.length_cons, hs] at this
    exact this
  rw [stkE] at he e2
  rw [stk] at h
  have hg := stkE_ge s (a + 3 + x.1)
  have hsh : stkE (a + 3 + x.1) s = stkE a s + (3 + x.1) := by rw [Nat.add_assoc, stkE_sh]
  have h1 := drops_loop (M := M) (a := a) (d := 3 + x.1) he (by omega) (stkE (a + 3 + x.1) s - (a + 3 + x.1)) FU (a + 3 + x.1) (by omega) (by omega) (by rw [FU_eq]; omega)
  have e0 : sR M 30 (fun j => if a ≤ j ∧ j + (3 + x.1) < a + 3 + x.1 then M.2.1 30 (j + (3 + x.1)) else M.2.1 30 j) = M := by
    have : (fun j => if a ≤ j ∧ j + (3 + x.1) < a + 3 + x.1 then M.2.1 30 (j + (3 + x.1)) else M.2.1 30 j) = M.2.1 30 := by
      funext j; rw [if_neg (by omega)]
    rw [this, sR_self]
  rw [e0, ← Nat.add_assoc] at h1
  refine ⟨fun j => if a ≤ j ∧ j + (3 + x.1) < stkE (a + 3 + x.1) s then M.2.1 30 (j + (3 + x.1)) else M.2.1 30 j, ?_, ?_, ?_, ?_⟩
  · unfold f12_dropsOldest
    rw [e1, Option.bind_some, e2, Option.bind_some, h1, Option.bind_some]
  · refine stk_sh s (a + 3 + x.1) a h.2.2.2 (fun j hj => ?_)
    rw [if_pos (by omega), show a + j + (3 + x.1) = a + 3 + x.1 + j by omega]
  · intro j hj
    rw [stkE] at hj
    dsimp only
    rw [if_neg (by omega)]
  · rw [stkE, hsh]; omega
/-- one more comes on a stack of eight at the most -/
def pushS (s : List (Nat × List Int32)) (x : Nat × List Int32) : List (Nat × List Int32) := (if s.length = 8 then s.tail else s) ++ [x]
theorem push1 {M : MS} {a m : Nat} {C : List Int32} (s : List (Nat × List Int32)) (hm : m < 10476) (hmo : m < a ∨ stkE a s + 3 + (gatherL C 0).length ≤ m) (hr : Row M 22 27 C) (hv : ∀ v ∈ C, okV v) (hl : C.length ≤ 700) (h : stk (M.2.1 30) a s) (hs : s.length < 1000) (he : stkE a s + 3 + (gatherL C 0).length ≤ 10476) (hc : M.2.1 30 m = nI s.length) :
    ∃ f', ((ld M 30 (nI m)).bind fun v9 => (f12_entryAt M (nI a) v9).bind fun v10 => (f12_keepsC M (v10 + 1)).bind fun M11 => (ld M11 30 (v10 + 1)).bind fun v12 => (sd M11 30 v10 v12).bind fun M13 => (ld M13 30 (nI m)).bind fun v14 => (sd M13 30 (nI m) (v14 + 1)).bind fun M15 => some M15) = some (sR M 30 f') ∧ stk f' a (s ++ [((gatherL C 0).length, C)]) ∧ f' m = nI (s.length + 1) ∧ (∀ j, j ≠ m → j < stkE a s ∨ stkE a s + 3 + (gatherL C 0).length ≤ j → f' j = M.2.1 30 j) := by
  have hg := stkE_ge s a
  have e1 := entryAt_ok s [] (M := M) (a := a) (by rw [List.append_nil]; exact h) (by rw [List.append_nil]; omega) hs
  obtain ⟨f1, k1, k2, k3⟩ := keepsC_ok (p := stkE a s + 1) hr hv hl (by omega)
  refine ⟨upd (upd f1 (stkE a s) (nI (gatherL C 0).length)) m (nI (s.length + 1)), ?_, ?_, ?_, ?_⟩
  · rw [ld_n (show m < 10476 from hm), Option.bind_some, hc, e1, Option.bind_some, nI_1, k1, Option.bind_some, ld_n (show stkE a s + 1 < 10476 by omega), sR_get, k2.1, Option.bind_some, sd_n (show stkE a s < 10476 by omega), sR_get, sR_sR, Option.bind_some, ld_n (show m < 10476 from hm), sR_get, Option.bind_some]
    have e5 : upd f1 (stkE a s) (nI (gatherL C 0).length) m = nI s.length := by
      unfold upd
      rw [if_neg (by omega), k3 m (by omega), hc]
    rw [e5, nI_1, sd_n (show m < 10476 from hm), sR_get, sR_sR, Option.bind_some]
  · rw [stk_app]
    refine ⟨stk_eq h (fun j h1 h2 => ?_), ?_, Nat.le_refl _, ?_, trivial⟩
    · unfold upd; rw [if_neg (by omega), if_neg (by omega), k3 j (by omega)]
    · unfold upd; rw [if_neg (by omega), if_pos rfl]
    · refine KeptAt_eq k2 (fun j h1 h2 => ?_)
      unfold upd; rw [if_neg (by dsimp only at h2; omega), if_neg (by omega)]
  · unfold upd; rw [if_pos rfl]
  · intro j hj h1
    unfold upd; rw [if_neg hj, if_neg (by omega), k3 j (by omega)]
theorem pushes_ok {M : MS} {e st co : Nat} {C : List Int32} (s : List (Nat × List Int32)) (a m : Nat) (ha : a = 4 + 2618 * e + st) (hm : m = 4 + 2618 * e + co) (hml : m < a) (hr : Row M 22 27 C) (hv : ∀ v ∈ C, okV v) (hl : C.length ≤ 700) (h : stk (M.2.1 30) a s) (hs : s.length ≤ 8) (he0 : stkE a s ≤ 10476) (he : stkE a (if s.length = 8 then s.tail else s) + 3 + (gatherL C 0).length ≤ 10476) (hc : M.2.1 30 m = nI s.length) :
    ∃ f', f12_pushes M (nI e) (nI st) (nI co) = some (sR M 30 f') ∧ stk f' a (pushS s ((gatherL C 0).length, C)) ∧ f' m = nI (pushS s ((gatherL C 0).length, C)).length ∧ (∀ j, j ≠ m → j < a ∨ (stkE a s ≤ j ∧ stkE a (if s.length = 8 then s.tail else s) + 3 + (gatherL C 0).length ≤ j) → f' j = M.2.1 30 j) := by
  subst ha hm
  unfold f12_pushes
  rw [of_ok, of_ok]
  simp only [Option.bind_some]
  have hg := stkE_ge s (4 + 2618 * e + st)
  rw [ld_n (show 4 + 2618 * e + co < 10476 by omega), hc]
  simp only [Option.bind_some]
  by_cases h8 : s.length = 8
  · obtain ⟨x, t, rfl⟩ : ∃ x t, s = x :: t := by
      rcases s with _ | ⟨x, t⟩
      · simp at h8
      · exact ⟨x, t, rfl⟩
    rw [List.length_cons] at h8
    obtain ⟨f1, d1, d2, d3, d4⟩ := dropsOldest_ok x t h he0 (by omega)
    have e8 : (if (x :: t).length = 8 then (x :: t).tail else x :: t) = t := by rw [if_pos (by rw [List.length_cons]; exact h8), List.tail_cons]
    rw [e8] at he ⊢
    rw [if_pos (by rw [List.length_cons, h8]; rfl), d1]
    simp only [Option.bind_some]
    rw [ld_n (show 4 + 2618 * e + co < 10476 by omega), sR_get, d3 _ (by omega), hc, List.length_cons, h8, Option.bind_some, show nI 8 - 1 = nI 7 from rfl, sd_n (show 4 + 2618 * e + co < 10476 by omega), sR_get, sR_sR]
    simp only [Option.bind_some]
    have hst : stk ((sR M 30 (upd f1 (4 + 2618 * e + co) (nI 7))).2.1 30) (4 + 2618 * e + st) t := by
      rw [sR_get]
      refine stk_eq d2 (fun j h1 h2 => ?_)
      unfold upd; rw [if_neg (by omega)]
    obtain ⟨f', p1, p2, p3, p4⟩ := push1 (M := sR M 30 (upd f1 (4 + 2618 * e + co) (nI 7))) (a := 4 + 2618 * e + st) (m := 4 + 2618 * e + co) t (by omega) (Or.inl hml) (by unfold Row; rw [sR_ne _ _ (by decide)]; exact hr) hv hl hst (by omega) he (by rw [sR_get]; unfold upd; rw [if_pos rfl, show t.length = 7 by omega])
    refine ⟨f', by rw [p1, sR_sR], ?_, ?_, ?_⟩
    · unfold pushS; rw [if_pos (by rw [List.length_cons]; exact h8)]; exact p2
    · unfold pushS; rw [if_pos (by rw [List.length_cons]; exact h8), p3]; simp
    · intro j hj h1
      have hg2 := stkE_ge t (4 + 2618 * e + st)
      rw [p4 j hj (by omega), sR_get]
      unfold upd
      rw [if_neg hj, d3 j (by omega)]
  · rw [if_neg h8] at he ⊢
    rw [if_neg (by rw [show (8 : Int32) = nI 8 from rfl, nI_eq (by omega) (by omega)]; exact h8), Option.bind_some]
    obtain ⟨f', p1, p2, p3, p4⟩ := push1 (a := 4 + 2618 * e + st) (m := 4 + 2618 * e + co) s (by omega) (Or.inl hml) hr hv hl h (by omega) he hc
    refine ⟨f', p1, ?_, ?_, ?_⟩
    · unfold pushS; rw [if_neg h8]; exact p2
    · unfold pushS; rw [if_neg h8, p3]; simp
    · intro j hj h1
      exact p4 j hj (by omega)
