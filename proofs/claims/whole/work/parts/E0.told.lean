/-! ===== PART II, the class: the tape is read: signs, blanks ===== -/
/-- used, count, editors, the word's length, parts, kinds, numbers -/
abbrev Tm : Type := Nat × Nat × Int32 × Int32 × (Nat → Int32) × (Nat → Int32) × (Nat → Int32)
def PR (S : CS) (z : Nat) (T : List Int32) (i : Nat) (v : Tm) : Prop :=
  (Wf S ∧ TpS S z) ∧ (cI S (z + 1) 1 = nI T.length ∧ seg (cA S (z + 2)) 0 T) ∧ cI S (z + 1) 11 = nI i ∧ cI S (z + 1) 2 = 0 ∧ (cI S (z + 1) 4 = nI v.2.1 ∧ cI S (z + 1) 8 = nI v.1 ∧ cI S (z + 1) 5 = v.2.2.1 ∧ cI S (z + 1) 6 = v.2.2.2.1) ∧ (cA S (z + 3) = v.2.2.2.2.1 ∧ cA S (z + 4) = v.2.2.2.2.2.1 ∧ cA S (z + 5) = v.2.2.2.2.2.2) ∧ i ≤ T.length ∧ T.length ≤ 1600
abbrev H1 (z : Nat) : Nat → Prop := fun x => x = z + 1
/-- it went well -/
def OK8 (z : Nat) (S S' : CS) (T : List Int32) (i : Nat) (v : Tm) : Prop := PR S' z T i v ∧ Sg z (H1 z) 0 S S'
/-- there is a fault -/
def BD8 (z : Nat) (S S' : CS) (k q : Nat) : Prop := (Wf S' ∧ TpS S' z) ∧ cI S' (z + 1) 2 = nI k ∧ cI S' (z + 1) 3 = nI q ∧ Sg z (H1 z) 0 S S'
section T0
variable {S S' S'' : CS} {z i k q : Nat} {T : List Int32} {v : Tm}
theorem OK8_tr {v' : Tm} {i' : Nat} (h1 : OK8 z S S' T i v) (h2 : OK8 z S' S'' T i' v') : OK8 z S S'' T i' v' := ⟨h2.1, by have := Sg_trans h1.2 h2.2; exact this⟩
theorem BD8_tr (h1 : OK8 z S S' T i v) (h2 : BD8 z S' S'' k q) : BD8 z S S'' k q := ⟨h2.1, h2.2.1, h2.2.2.1, by have := Sg_trans h1.2 h2.2.2.2; exact this⟩
theorem OK8_rf (h : PR S z T i v) : OK8 z S S T i v := ⟨h, Sg_refl h.1.1⟩
theorem PR_k (h : PR S z T i v) : kd S (z + 1) = 8 := h.1.2.2.2.1.1
theorem PR_b (h : PR S z T i v) : gr S 8 (z + 1) 0 = some (z + 2) ∧ kd S (z + 2) = 14 ∧ cN S (z + 2) = 1600 := ⟨gr_k h.1.2.2.2.1.1 h.1.2.2.2.1.2.1, h.1.2.2.2.2.1.1.1, h.1.2.2.2.2.1.1.2⟩
/-- a number of the reader is set -/
theorem PR_set {j : Nat} {x : Int32} (h : PR S z T i v) (hj : j ≠ 1) : Sg z (H1 z) 0 S (setI S (z + 1) j x) ∧ (Wf (setI S (z + 1) j x) ∧ TpS (setI S (z + 1) j x) z) ∧ (cI (setI S (z + 1) j x) (z + 1) j = x) ∧ (∀ k, k ≠ j → cI (setI S (z + 1) j x) (z + 1) k = cI S (z + 1) k) ∧ cA (setI S (z + 1) j x) = cA S := by
  have s1 : Sg z (H1 z) 0 S (setI S (z + 1) j x) := Sg_setI h.1.1 rfl
  exact ⟨s1, ⟨s1.1, TpS_Sg h.1.1 h.1.2 s1⟩, cI_self _ _ _ _, fun k hk => by rw [cI_set, if_neg (by omega)], rfl⟩
theorem PR_at {i' : Nat} (h : PR S z T i v) (hi : i' ≤ T.length) : OK8 z S (setI S (z + 1) 11 (nI i')) T i' v := by
  obtain ⟨s1, w, a, b, c⟩ := PR_set (j := 11) (x := nI i') h (by omega)
  obtain ⟨_, ⟨h1, h2⟩, h3, h4, ⟨h5, h6, h7, h8⟩, h9, h10, h11⟩ := h
  refine ⟨⟨w, ⟨by rw [b 1 (by omega)]; exact h1, by rw [c]; exact h2⟩, a, by rw [b 2 (by omega)]; exact h4, ⟨by rw [b 4 (by omega)]; exact h5, by rw [b 8 (by omega)]; exact h6, by rw [b 5 (by omega)]; exact h7, by rw [b 6 (by omega)]; exact h8⟩, by rw [c]; exact h9, hi, h11⟩, s1⟩
theorem gi_P (h : PR S z T i v) : gi S 8 (z + 1) 11 = some (nI i) := by rw [gi_k (PR_k h), h.2.2.1]
theorem gl_P (h : PR S z T i v) : gi S 8 (z + 1) 1 = some (nI T.length) := by rw [gi_k (PR_k h), h.2.1.1]
theorem ld_P (h : PR S z T i v) {j : Nat} (hj : j < T.length) : ldi S (z + 2) (nI j) = some (byteAt T j) := by
  obtain ⟨b1, b2, b3⟩ := PR_b h
  have hl := h.2.2.2.2.2.2.2
  have hs := h.2.1.2 j hj
  rw [Nat.zero_add] at hs
  rw [ldi_k b2 (by omega) (by omega), hs]
  unfold byteAt
  rw [if_pos hj]
theorem lk_le {i : Nat} (h : i ≤ T.length) : lkP T i ≤ T.length := by
  have key : ∀ l : List Int32, skL l ≤ l.length := by
    intro l
    induction l with
    | nil => exact Nat.le_refl _
    | cons x l ih => rw [skL, List.length_cons]; split <;> omega
  have := key (T.drop i)
  rw [List.length_drop] at this
  unfold lkP
  omega
theorem drop_byte {i : Nat} (h : i < T.length) : T.drop i = byteAt T i :: T.drop (i + 1) := by
  rw [List.drop_eq_getElem_cons h]
  unfold byteAt
  rw [if_pos h, List.getD_eq_getElem?_getD, List.getElem?_eq_getElem h]; rfl
theorem lk_step {i : Nat} (h : i < T.length) : lkP T i = if byteAt T i = 10 ∨ byteAt T i = 32 then lkP T (i + 1) else i := by
  unfold lkP
  rw [drop_byte h, skL]
  split
  · omega
  · omega
theorem lk_end {i : Nat} (h : T.length ≤ i) : lkP T i = i := by
  unfold lkP
  rw [List.drop_eq_nil_of_le h]
  rfl
theorem skip_lp : ∀ (d n i : Nat) (S : CS), i + d = T.length → d < n → PR S z T i v → ∃ S', LX8_skipBlanks_0 (z + 1) n S = some S' ∧ OK8 z S S' T (lkP T i) v := by
  intro d
  induction d with
  | zero =>
    intro n i S hi hn h
    obtain ⟨n, rfl⟩ : ∃ k, n = k + 1 := ⟨n - 1, by omega⟩
    have hl := h.2.2.2.2.2.2.2
    unfold LX8_skipBlanks_0
    rw [gi_P h, Option.bind_some, gl_P h, Option.bind_some, if_pos (nI_le (by omega) (by omega)), lk_end (by omega)]
    exact ⟨S, rfl, OK8_rf h⟩
  | succ d ih =>
    intro n i S hi hn h
    obtain ⟨n, rfl⟩ : ∃ k, n = k + 1 := ⟨n - 1, by omega⟩
    have hl := h.2.2.2.2.2.2.2
    obtain ⟨b1, b2, b3⟩ := PR_b h
    have h1 := PR_at (i' := i + 1) h (by omega)
    obtain ⟨S', r1, r2⟩ := ih n (i + 1) (setI S (z + 1) 11 (nI (i + 1))) (by omega) (by omega) h1.1
    unfold LX8_skipBlanks_0
    rw [gi_P h, Option.bind_some, gl_P h, Option.bind_some, if_neg (nI_ge (by omega) (by omega)), b1, Option.bind_some, Option.bind_some, ld_P h (by omega), Option.bind_some, lk_step (by omega)]
    by_cases c1 : byteAt T i = 10
    · rw [if_pos c1, if_pos (Or.inl c1), Option.bind_some, nI_1, pi_k (PR_k h), Option.bind_some]
      exact ⟨S', r1, OK8_tr h1 r2⟩
    · rw [if_neg c1, Option.bind_some, Option.bind_some, ld_P h (by omega), Option.bind_some]
      by_cases c2 : byteAt T i = 32
      · rw [if_pos c2, if_pos (Or.inr c2), Option.bind_some, nI_1, pi_k (PR_k h), Option.bind_some]
        exact ⟨S', r1, OK8_tr h1 r2⟩
      · rw [if_neg c2, if_neg (fun hh => hh.elim c1 c2)]
        exact ⟨S, rfl, OK8_rf h⟩
theorem skip_P (h : PR S z T i v) : ∃ S', cal S 8 (z + 1) (f8_skipBlanks S (z + 1)) = some S' ∧ OK8 z S S' T (lkP T i) v := by
  have h1 := h.2.2.2.2.2.2
  obtain ⟨S', r1, r2⟩ := skip_lp (T.length - i) FU i S (by omega) (by rw [FU_eq]; omega) h
  rw [cal_k (PR_k h)]
  unfold f8_skipBlanks
  rw [r1, Option.bind_some]
  exact ⟨S', rfl, r2⟩
theorem byte_end {i : Nat} (h : T.length ≤ i) : byteAt T i = -1 := by unfold byteAt; rw [if_neg (by omega)]
theorem lt_n1 : isLt (-1) = false ∧ isDg (-1) = false := by decide
theorem isLt_P (h : PR S z T i v) : cal S 8 (z + 1) (f8_isAtLetter S (z + 1)) = some (bI (isLt (byteAt T i))) := by
  have h1 := h.2.2.2.2.2.2
  obtain ⟨b1, b2, b3⟩ := PR_b h
  rw [cal_k (PR_k h)]
  unfold f8_isAtLetter
  rw [gi_P h, Option.bind_some, gl_P h, Option.bind_some]
  by_cases hi : i < T.length
  · rw [if_neg (nI_ge hi (by omega)), b1, Option.bind_some, Option.bind_some, ld_P h hi, Option.bind_some]
    unfold isLt
    by_cases c1 : byteAt T i < 97
    · rw [if_pos c1, Option.bind_some, decide_eq_false (fun hh => by rw [Int32.lt_iff_toInt_lt, show (97 : Int32).toInt = 97 from by decide] at c1; omega)]; rfl
    · rw [if_neg c1, Option.bind_some, Option.bind_some, ld_P h hi, Option.bind_some, decide_eq_true (by rw [Int32.lt_iff_toInt_lt, show (97 : Int32).toInt = 97 from by decide] at c1; omega)]
      by_cases c2 : 122 < byteAt T i
      · rw [if_pos c2, Option.bind_some, decide_eq_false (fun hh => by rw [Int32.lt_iff_toInt_lt, show (122 : Int32).toInt = 122 from by decide] at c2; omega)]; rfl
      · rw [if_neg c2, Option.bind_some, decide_eq_true (by rw [Int32.lt_iff_toInt_lt, show (122 : Int32).toInt = 122 from by decide] at c2; omega)]; rfl
  · rw [if_pos (nI_le (by omega) (by omega)), Option.bind_some, byte_end (by omega), lt_n1.1]; rfl
theorem isDg_P (h : PR S z T i v) : cal S 8 (z + 1) (f8_isAtDigit S (z + 1)) = some (bI (isDg (byteAt T i))) := by
  have h1 := h.2.2.2.2.2.2
  obtain ⟨b1, b2, b3⟩ := PR_b h
  rw [cal_k (PR_k h)]
  unfold f8_isAtDigit
  rw [gi_P h, Option.bind_some, gl_P h, Option.bind_some]
  by_cases hi : i < T.length
  · rw [if_neg (nI_ge hi (by omega)), b1, Option.bind_some, Option.bind_some, ld_P h hi, Option.bind_some]
    unfold isDg
    by_cases c1 : byteAt T i < 48
    · rw [if_pos c1, Option.bind_some, decide_eq_false (fun hh => by rw [Int32.lt_iff_toInt_lt, show (48 : Int32).toInt = 48 from by decide] at c1; omega)]; rfl
    · rw [if_neg c1, Option.bind_some, Option.bind_some, ld_P h hi, Option.bind_some, decide_eq_true (by rw [Int32.lt_iff_toInt_lt, show (48 : Int32).toInt = 48 from by decide] at c1; omega)]
      by_cases c2 : 57 < byteAt T i
      · rw [if_pos c2, Option.bind_some, decide_eq_false (fun hh => by rw [Int32.lt_iff_toInt_lt, show (57 : Int32).toInt = 57 from by decide] at c2; omega)]; rfl
      · rw [if_neg c2, Option.bind_some, decide_eq_true (by rw [Int32.lt_iff_toInt_lt, show (57 : Int32).toInt = 57 from by decide] at c2; omega)]; rfl
  · rw [if_pos (nI_le (by omega) (by omega)), Option.bind_some, byte_end (by omega), lt_n1.2]; rfl
theorem look_P (h : PR S z T i v) : cal S 8 (z + 1) (f8_look S (z + 1)) = some (byteAt T i) := by
  have h1 := h.2.2.2.2.2.2
  obtain ⟨b1, b2, b3⟩ := PR_b h
  rw [cal_k (PR_k h)]
  unfold f8_look
  rw [gi_P h, Option.bind_some, gl_P h, Option.bind_some]
  by_cases hi : i < T.length
  · rw [if_neg (nI_ge hi (by omega)), b1, Option.bind_some, Option.bind_some, ld_P h hi, Option.bind_some, Option.bind_some]
  · rw [if_pos (nI_le (by omega) (by omega)), Option.bind_some, byte_end (by omega)]
theorem fail_P (h : PR S z T i v) (k q : Nat) : ∃ S', cal S 8 (z + 1) (f8_fail S (z + 1) (nI k) (nI q)) = some (0, S') ∧ BD8 z S S' k q := by
  rw [cal_k (PR_k h)]
  unfold f8_fail
  have s1 : Sg z (H1 z) 0 S (setI S (z + 1) 2 (nI k)) := Sg_setI h.1.1 rfl
  have s2 : Sg z (H1 z) 0 (setI S (z + 1) 2 (nI k)) (setI (setI S (z + 1) 2 (nI k)) (z + 1) 3 (nI q)) := Sg_setI s1.1 rfl
  have s12 := Sg_trans s1 s2
  rw [pi_k (PR_k h), Option.bind_some, pi_I (PR_k h), Option.bind_some]
  exact ⟨_, rfl, ⟨s2.1, TpS_Sg h.1.1 h.1.2 s12⟩, by rw [cI_set, if_neg (by omega), cI_self], cI_self _ _ _ _, s12⟩
/-- a word and a number side by side need a blank -/
theorem ends_P (h : PR S z T i v) : (isDg (byteAt T i) = false ∧ cal S 8 (z + 1) (f8_endsWell S (z + 1)) = some (1, S)) ∨ (isDg (byteAt T i) = true ∧ ∃ S', cal S 8 (z + 1) (f8_endsWell S (z + 1)) = some (0, S') ∧ BD8 z S S' 1 i) := by
  have hd := isDg_P h
  rw [cal_k (PR_k h)]
  unfold f8_endsWell
  rw [hd, Option.bind_some]
  cases hb : isDg (byteAt T i) with
  | false => refine Or.inl ⟨rfl, ?_⟩; rw [if_pos (show bI false = 0 from rfl), bn2_s]; rfl
  | true =>
    obtain ⟨S', r1, r2⟩ := fail_P h 1 i
    refine Or.inr ⟨rfl, S', ?_, r2⟩
    rw [if_neg (show ¬ bI true = 0 by decide), gi_P h, Option.bind_some, show cal S 8 (z + 1) (f8_fail S (z + 1) 1 (nI i)) = some (0, S') from r1, bn2_s, if_pos rfl, bn2_s]; rfl
/-- a part is added -/
theorem add_P {x : Int32} (h : PR S z T i v) (hu : v.1 < 1600) : ∃ S', cal S 8 (z + 1) (f8_addPart S (z + 1) x) = some S' ∧ OK8 z S S' T i (v.1 + 1, v.2.1, v.2.2.1, v.2.2.2.1, upd v.2.2.2.2.1 v.1 x, v.2.2.2.2.2) := by
  obtain ⟨u, cn, ed, wl, f, g, n⟩ := v
  obtain ⟨⟨hW, hT⟩, ⟨h1, h2⟩, h3, h4, ⟨h5, h6, h7, h8⟩, ⟨h9, h9b, h9c⟩, h10, h11⟩ := id h
  dsimp only at h5 h6 h7 h8 h9 h9b h9c hu ⊢
  obtain ⟨b0, b1, b2, b3, b4⟩ := hT.2.2.1
  obtain ⟨_, ⟨c2, c3⟩, _⟩ := hT.2.2.2.1
  have s1 : Sg z (H1 z) 0 S (setI S (z + 1) 8 (nI (u + 1))) := Sg_setI hW rfl
  have s2 : Sg z (H1 z) 0 (setI S (z + 1) 8 (nI (u + 1))) (setA (setI S (z + 1) 8 (nI (u + 1))) (z + 3) (upd f u x)) := Sg_setA s1.1 rfl (k := 7) b2
  have s12 := Sg_trans s1 s2
  have i1 : ∀ k, k ≠ 8 → cI (setA (setI S (z + 1) 8 (nI (u + 1))) (z + 3) (upd f u x)) (z + 1) k = cI S (z + 1) k := fun k hk => by rw [cI_setA, cI_set, if_neg (by omega)]
  have i8 : cI (setA (setI S (z + 1) 8 (nI (u + 1))) (z + 3) (upd f u x)) (z + 1) 8 = nI (u + 1) := by rw [cI_setA, cI_self]
  have a3 : cA (setA (setI S (z + 1) 8 (nI (u + 1))) (z + 3) (upd f u x)) (z + 3) = upd f u x := cA_self _ _ _
  have aO : ∀ y, y ≠ z + 3 → cA (setA (setI S (z + 1) 8 (nI (u + 1))) (z + 3) (upd f u x)) y = cA S y := fun y hy => cA_ne hy
  have e9 : sti (setI S (z + 1) 8 (nI (u + 1))) (z + 3) (nI u) x = some (setA (setI S (z + 1) 8 (nI (u + 1))) (z + 3) (upd f u x)) := by
    rw [sti_k (S := setI S (z + 1) 8 (nI (u + 1))) c2 (by show u < cN S (z + 3); omega) (by show cN S (z + 3) < _; omega)]
    show some (setA _ _ (upd (cA S (z + 3)) u x)) = _
    rw [h9]
  rw [cal_k b0]
  unfold f8_addPart
  rw [gi_k b0, h6, Option.bind_some, gr_k b0 b2, Option.bind_some, aln_k c2, c3, Option.bind_some, if_neg (nI_ge (by omega) (by omega)), Option.bind_some, Option.bind_some, nI_1, pi_k b0, Option.bind_some, e9, Option.bind_some, Option.bind_some]
  exact ⟨_, rfl, ⟨⟨s12.1, TpS_Sg hW hT s12⟩, ⟨by rw [i1 1 (by omega)]; exact h1, by rw [aO _ (by omega)]; exact h2⟩, by rw [i1 11 (by omega)]; exact h3, by rw [i1 2 (by omega)]; exact h4, ⟨by rw [i1 4 (by omega)]; exact h5, i8, by rw [i1 5 (by omega)]; exact h7, by rw [i1 6 (by omega)]; exact h8⟩, ⟨a3, by rw [aO _ (by omega)]; exact h9b, by rw [aO _ (by omega)]; exact h9c⟩, h10, h11⟩, s12⟩
/-- a number is kept -/
theorem setN_P {k : Nat} {x : Int32} (h : PR S z T i v) (hk : 4 * v.2.1 + k < 240) : ∃ S', cal S 8 (z + 1) (f8_setNumber S (z + 1) (nI k) x) = some S' ∧ OK8 z S S' T i (v.1, v.2.1, v.2.2.1, v.2.2.2.1, v.2.2.2.2.1, v.2.2.2.2.2.1, upd v.2.2.2.2.2.2 (4 * v.2.1 + k) x) := by
  obtain ⟨u, cn, ed, wl, f, g, n⟩ := v
  obtain ⟨⟨hW, hT⟩, ⟨h1, h2⟩, h3, h4, ⟨h5, h6, h7, h8⟩, ⟨h9, h9b, h9c⟩, h10, h11⟩ := id h
  dsimp only at h5 h6 h7 h8 h9 h9b h9c hk ⊢
  obtain ⟨b0, b1, b2, b3, b4⟩ := hT.2.2.1
  obtain ⟨_, _, _, ⟨c6, c7⟩⟩ := hT.2.2.2.1
  have s1 : Sg z (H1 z) 0 S (setA S (z + 5) (upd n (4 * cn + k) x)) := Sg_setA hW rfl b4
  have a5 : cA (setA S (z + 5) (upd n (4 * cn + k) x)) (z + 5) = upd n (4 * cn + k) x := cA_self _ _ _
  have aO : ∀ y, y ≠ z + 5 → cA (setA S (z + 5) (upd n (4 * cn + k) x)) y = cA S y := fun y hy => cA_ne hy
  rw [cal_k b0]
  unfold f8_setNumber
  rw [gi_k b0, h5, Option.bind_some, show (4 : Int32) = nI 4 from rfl, nI_mul, nI_add, if_neg (show ¬ nI (4 * cn + k) < (0 : Int32) from fun x => by rw [Int32.lt_iff_toInt_lt, i0, nI_toInt (by omega)] at x; omega), gr_k b0 b4, Option.bind_some, aln_k c6, c7, Option.bind_some, if_neg (nI_ge (by omega) (by omega)), Option.bind_some, sti_k c6 (by omega) (by omega), h9c, Option.bind_some, Option.bind_some]
  exact ⟨_, rfl, ⟨⟨s1.1, TpS_Sg hW hT s1⟩, ⟨by rw [cI_setA]; exact h1, by rw [aO _ (by omega)]; exact h2⟩, by rw [cI_setA]; exact h3, by rw [cI_setA]; exact h4, ⟨by rw [cI_setA]; exact h5, by rw [cI_setA]; exact h6, by rw [cI_setA]; exact h7, by rw [cI_setA]; exact h8⟩, ⟨by rw [aO _ (by omega)]; exact h9, by rw [aO _ (by omega)]; exact h9b, a5⟩, h10, h11⟩, s1⟩
end T0
