/-! ===== PART II, the class: words and numbers are read ===== -/
def addT (v : Tm) (l : List Int32) : Tm := (v.1 + l.length, v.2.1, v.2.2.1, v.2.2.2.1, wr v.2.2.2.2.1 v.1 l, v.2.2.2.2.2)
theorem wr_cons (f : Nat → Int32) (a : Nat) (x : Int32) (l : List Int32) : wr (upd f a x) (a + 1) l = wr f a (x :: l) := by
  funext i
  unfold wr upd
  rw [List.length_cons]
  by_cases h1 : a + 1 ≤ i ∧ i < a + 1 + l.length
  · rw [if_pos h1, if_pos (by omega), show i - a = (i - (a + 1)) + 1 by omega]; rfl
  · rw [if_neg h1]
    by_cases h2 : i = a
    · subst h2; rw [if_pos rfl, if_pos (by omega), Nat.sub_self]; rfl
    · rw [if_neg h2, if_neg (by omega)]
theorem addT_cons (v : Tm) (x : Int32) (l : List Int32) : addT (v.1 + 1, v.2.1, v.2.2.1, v.2.2.2.1, upd v.2.2.2.2.1 v.1 x, v.2.2.2.2.2) l = addT v (x :: l) := by
  unfold addT
  dsimp only
  rw [wr_cons, List.length_cons, show v.1 + 1 + l.length = v.1 + (l.length + 1) by omega]
theorem addT_nil (v : Tm) : addT v [] = v := by
  unfold addT
  rw [wr_nil]; rfl
section T1
variable {S S' S'' : CS} {z i k q : Nat} {T : List Int32} {v : Tm}
theorem ltN_pos {i : Nat} (h : isLt (byteAt T i) = true) : i < T.length ∧ ltN (T.drop i) = ltN (T.drop (i + 1)) + 1 := by
  have hi : i < T.length := Decidable.byContradiction fun hh => by
    rw [byte_end (by omega), lt_n1.1] at h; cases h
  refine ⟨hi, ?_⟩
  rw [drop_byte hi, ltN, if_pos h]
theorem ltN_zero {i : Nat} (h : isLt (byteAt T i) = false) : ltN (T.drop i) = 0 := by
  by_cases hi : i < T.length
  · rw [drop_byte hi, ltN, if_neg (by rw [h]; decide)]
  · rw [List.drop_eq_nil_of_le (by omega)]; rfl
theorem ltN_end (i : Nat) : isLt (byteAt T (i + ltN (T.drop i))) = false ∧ i + ltN (T.drop i) ≤ max i T.length := by
  have key : ∀ d i, i + d = T.length → isLt (byteAt T (i + ltN (T.drop i))) = false ∧ i + ltN (T.drop i) ≤ T.length := by
    intro d
    induction d with
    | zero =>
      intro i hi
      rw [List.drop_eq_nil_of_le (by omega)]
      show isLt (byteAt T (i + 0)) = false ∧ i + 0 ≤ T.length
      rw [Nat.add_zero, byte_end (by omega)]
      exact ⟨lt_n1.1, by omega⟩
    | succ d ih =>
      intro i hi
      by_cases hb : isLt (byteAt T i) = true
      · obtain ⟨_, h2⟩ := ltN_pos hb
        obtain ⟨h3, h4⟩ := ih (i + 1) (by omega)
        rw [h2, show i + (ltN (T.drop (i + 1)) + 1) = i + 1 + ltN (T.drop (i + 1)) by omega]
        exact ⟨h3, h4⟩
      · have hf : isLt (byteAt T i) = false := by cases hh : isLt (byteAt T i) <;> simp_all
        rw [ltN_zero hf, Nat.add_zero]
        exact ⟨hf, by omega⟩
  by_cases hi : i ≤ T.length
  · obtain ⟨h1, h2⟩ := key (T.length - i) i (by omega)
    exact ⟨h1, by omega⟩
  · rw [List.drop_eq_nil_of_le (by omega)]
    show isLt (byteAt T (i + 0)) = false ∧ _
    rw [Nat.add_zero, byte_end (by omega)]
    exact ⟨lt_n1.1, by show i + 0 ≤ _; omega⟩
/-- letters are added as parts -/
theorem word_lp {s most : Nat} (hm : most ≤ 100) : ∀ (d n a : Nat) (S : CS) (v : Tm), a + d = min most (ltN (T.drop s)) → d < n → ltN (T.drop (s + a)) = ltN (T.drop s) - a → PR S z T (s + a) v → v.1 ≤ s + a → ∃ S', LX8_readWord_9 (z + 1) (nI most) (nI s) n S = some S' ∧ OK8 z S S' T (s + min most (ltN (T.drop s))) (addT v (ltrs T (s + a) (s + min most (ltN (T.drop s))))) := by
  intro d
  induction d with
  | zero =>
    intro n a S v ha hn hl h hu
    obtain ⟨n, rfl⟩ : ∃ k, n = k + 1 := ⟨n - 1, by omega⟩
    have h1 := h.2.2.2.2.2.2
    have hmin : min most (ltN (T.drop s)) = a := by omega
    rw [hmin, ltrs_nil, addT_nil]
    refine ⟨S, ?_, OK8_rf h⟩
    unfold LX8_readWord_9
    rw [gi_P h, Option.bind_some, gl_P h, Option.bind_some]
    by_cases c1 : T.length ≤ s + a
    · rw [if_pos (nI_le c1 (by omega))]
    · rw [if_neg (nI_ge (by omega) (by omega)), Option.bind_some, nI_sub (by omega), Nat.add_sub_cancel_left]
      by_cases c2 : most ≤ a
      · rw [if_pos (nI_le c2 (by omega))]
      · have hz : ltN (T.drop (s + a)) = 0 := by omega
        have hf : isLt (byteAt T (s + a)) = false := Decidable.byContradiction fun hh => by
          have hh : isLt (byteAt T (s + a)) = true := by revert hh; cases isLt (byteAt T (s + a)) <;> simp
          have := (ltN_pos hh).2
          omega
        rw [if_neg (nI_ge (by omega) (by omega)), isLt_P h, Option.bind_some, hf, if_pos (show bI false = 0 from rfl)]
  | succ d ih =>
    intro n a S v ha hn hl h hu
    obtain ⟨n, rfl⟩ : ∃ k, n = k + 1 := ⟨n - 1, by omega⟩
    have h1 := h.2.2.2.2.2.2
    obtain ⟨b1, b2, b3⟩ := PR_b h
    have hb : isLt (byteAt T (s + a)) = true := Decidable.byContradiction fun hh => by
      have hf : isLt (byteAt T (s + a)) = false := by revert hh; cases isLt (byteAt T (s + a)) <;> simp
      have := ltN_zero hf
      omega
    obtain ⟨hi, h2⟩ := ltN_pos hb
    obtain ⟨S8, r1, r2⟩ := add_P (x := byteAt T (s + a) - 97 + 1) h (by omega)
    have h3 := PR_at (i' := s + (a + 1)) r2.1 (by omega)
    have hlen : s + min most (ltN (T.drop s)) ≤ T.length := by
      have := (ltN_end (T := T) s).2
      omega
    obtain ⟨S', x1, x2⟩ := ih n (a + 1) (setI S8 (z + 1) 11 (nI (s + (a + 1)))) _ (by omega) (by omega) (by rw [show s + (a + 1) = s + a + 1 by omega]; omega) h3.1 (by dsimp only; omega)
    unfold LX8_readWord_9
    rw [gi_P h, Option.bind_some, gl_P h, Option.bind_some, if_neg (nI_ge hi (by omega)), Option.bind_some, nI_sub (by omega), Nat.add_sub_cancel_left, if_neg (nI_ge (by omega) (by omega)), isLt_P h, Option.bind_some, hb, if_neg (show ¬ bI true = 0 by decide), b1, Option.bind_some, Option.bind_some, ld_P h hi, Option.bind_some, r1, Option.bind_some, gi_P r2.1, Option.bind_some, nI_1, pi_k (PR_k r2.1), Option.bind_some]
    refine ⟨S', by rw [show s + a + 1 = s + (a + 1) by omega]; exact x1, ?_⟩
    have e2 : ltrs T (s + a) (s + min most (ltN (T.drop s))) = (byteAt T (s + a) - 97 + 1) :: ltrs T (s + (a + 1)) (s + min most (ltN (T.drop s))) := by
      rw [ltrs_cons (by omega) hlen]
      unfold byteAt
      rw [if_pos hi]; rfl
    rw [e2, ← addT_cons]
    exact OK8_tr r2 (OK8_tr h3 x2)
theorem word_P {most : Nat} (h : PR S z T i v) (hu : v.1 ≤ i) (hm : most ≤ 100) (h1m : 1 ≤ most) : ∃ S' r, cal S 8 (z + 1) (f8_readWord S (z + 1) (nI most)) = some (r, S') ∧
    ((r = 1 ∧ isLt (byteAt T (lkP T i)) = true ∧ ltN (T.drop (lkP T i)) ≤ most ∧ OK8 z S S' T (lkP T i + ltN (T.drop (lkP T i))) (addT v (ltrs T (lkP T i) (lkP T i + ltN (T.drop (lkP T i)))))) ∨ (r = 0 ∧ isLt (byteAt T (lkP T i)) = true ∧ most < ltN (T.drop (lkP T i)) ∧ BD8 z S S' 1 (lkP T i + most)) ∨ (r = 0 ∧ isLt (byteAt T (lkP T i)) = false ∧ BD8 z S S' 1 (lkP T i))) := by
  have h1 := h.2.2.2.2.2.2
  obtain ⟨S1, r1, r2⟩ := skip_P h
  have hle := lk_le h1.1
  have hge := lk_ge T i
  have hen := (ltN_end (T := T) (lkP T i)).2
  obtain ⟨S3, x1, x2⟩ := word_lp (s := lkP T i) hm (min most (ltN (T.drop (lkP T i)))) FU 0 S1 v (by omega) (by rw [FU_eq]; omega) (by rw [Nat.add_zero]; omega) r2.1 (by omega)
  rw [Nat.add_zero] at x2
  have k1 := PR_k h
  rw [cal_k k1]
  unfold f8_readWord
  rw [r1, Option.bind_some, gi_P r2.1, Option.bind_some, x1, Option.bind_some, gi_P x2.1, Option.bind_some]
  have hA := OK8_tr r2 x2
  by_cases hb : isLt (byteAt T (lkP T i)) = true
  · obtain ⟨hi, h2⟩ := ltN_pos hb
    rw [if_neg (nI_ge (by omega) (by omega)), isLt_P x2.1, Option.bind_some]
    by_cases hmo : ltN (T.drop (lkP T i)) ≤ most
    · rw [Nat.min_eq_right hmo] at x2 hA ⊢
      rw [(ltN_end (lkP T i)).1, if_pos (show bI false = 0 from rfl), bn2_s]
      exact ⟨S3, 1, rfl, Or.inl ⟨rfl, hb, hmo, hA⟩⟩
    · rw [Nat.min_eq_left (by omega)] at x2 hA ⊢
      have hb2 : isLt (byteAt T (lkP T i + most)) = true := by
        have := ltN_get (T.drop (lkP T i)) most (by omega)
        have hlt : most < (T.drop (lkP T i)).length := by rw [List.length_drop]; omega
        rw [← byte_drop hlt] at this
        exact this
      obtain ⟨S15, y1, y2⟩ := fail_P x2.1 1 (lkP T i + most)
      rw [hb2, if_neg (show ¬ bI true = 0 by decide), Option.bind_some, show cal S3 8 (z + 1) (f8_fail S3 (z + 1) 1 (nI (lkP T i + most))) = some (0, S15) from y1, bn2_s, if_pos rfl, bn2_s]
      exact ⟨S15, 0, rfl, Or.inr (Or.inl ⟨rfl, hb, by omega, BD8_tr hA y2⟩)⟩
  · have hf : isLt (byteAt T (lkP T i)) = false := by cases hh : isLt (byteAt T (lkP T i)) <;> simp_all
    have hz := ltN_zero hf
    rw [hz, Nat.min_eq_right (Nat.zero_le _), Nat.add_zero] at x2 hA ⊢
    obtain ⟨S15, y1, y2⟩ := fail_P x2.1 1 (lkP T i)
    rw [if_pos (nI_le (Nat.le_refl _) (by omega)), Option.bind_some, show cal S3 8 (z + 1) (f8_fail S3 (z + 1) 1 (nI (lkP T i))) = some (0, S15) from y1, bn2_s, if_pos rfl, bn2_s]
    exact ⟨S15, 0, rfl, Or.inr (Or.inr ⟨rfl, hf, BD8_tr hA y2⟩)⟩
/-- digits, one or two -/
theorem dig_lp {s : Nat} {c1 c2 : Int32} : ∀ (e n a va : Nat) (S : CS), a + e = 2 → e < n → va < 100 → (a = 2 ∨ (a = 1 ∧ va < 10) ∨ (a = 0 ∧ va = 0)) → PR S z T (s + a) v → ∃ S', LX8_readDigits_12 (z + 1) c1 c2 (nI s) n (nI va) S = some (nI (scN (T.drop (s + a)) a va).2.2, S') ∧ OK8 z S S' T (s + (scN (T.drop (s + a)) a va).2.1) v ∧ (isDg (byteAt T (s + (scN (T.drop (s + a)) a va).2.1)) = !(scN (T.drop (s + a)) a va).1) ∧ (scN (T.drop (s + a)) a va).2.2 < 100 ∧ (scN (T.drop (s + a)) a va).2.1 ≤ 2 ∧ (isDg (byteAt T (s + a)) = false → (scN (T.drop (s + a)) a va).2.1 = a) ∧ (isDg (byteAt T (s + a)) = true → a < 2 → a < (scN (T.drop (s + a)) a va).2.1) := by
  intro e
  induction e with
  | zero =>
    intro n a va S ha hn hv hva h
    obtain ⟨n, rfl⟩ : ∃ k, n = k + 1 := ⟨n - 1, by omega⟩
    have h1 := h.2.2.2.2.2.2
    have ha2 : a = 2 := by omega
    subst ha2
    have hsc : (scN (T.drop (s + 2)) 2 va).2 = (2, va) ∧ (isDg (byteAt T (s + 2)) = !(scN (T.drop (s + 2)) 2 va).1) := by
      by_cases hi : s + 2 < T.length
      · rw [drop_byte hi, scN]
        cases hb : isDg (byteAt T (s + 2)) with
        | true => rw [if_pos rfl, if_pos rfl]; exact ⟨rfl, rfl⟩
        | false => rw [if_neg (by decide)]; exact ⟨rfl, rfl⟩
      · rw [List.drop_eq_nil_of_le (by omega), byte_end (by omega)]
        exact ⟨rfl, lt_n1.2⟩
    obtain ⟨q1, q2⟩ := hsc
    rw [q1]
    dsimp only
    refine ⟨S, ?_, OK8_rf h, q2, hv, by omega, fun _ => rfl, fun _ hh => by omega⟩
    unfold LX8_readDigits_12
    rw [gi_P h, Option.bind_some, gl_P h, Option.bind_some]
    by_cases c1 : T.length ≤ s + 2
    · rw [if_pos (nI_le c1 (by omega))]
    · rw [if_neg (nI_ge (by omega) (by omega)), Option.bind_some, nI_sub (by omega), Nat.add_sub_cancel_left, if_pos (show (2 : Int32) ≤ nI 2 by decide)]
  | succ e ih =>
    intro n a va S ha hn hv hva h
    obtain ⟨n, rfl⟩ : ∃ k, n = k + 1 := ⟨n - 1, by omega⟩
    have h1 := h.2.2.2.2.2.2
    obtain ⟨b1, b2, b3⟩ := PR_b h
    by_cases hi : s + a < T.length
    · cases hb : isDg (byteAt T (s + a)) with
      | false =>
        rw [drop_byte hi, scN, hb, if_neg (by decide)]
        dsimp only
        refine ⟨S, ?_, OK8_rf h, by rw [hb]; rfl, hv, by omega, fun _ => rfl, fun hh => by cases hh⟩
        unfold LX8_readDigits_12
        rw [gi_P h, Option.bind_some, gl_P h, Option.bind_some, if_neg (nI_ge hi (by omega)), Option.bind_some, nI_sub (by omega), Nat.add_sub_cancel_left, if_neg (show ¬ (2 : Int32) ≤ nI a from nI_ge (b := 2) (by omega) (by omega)), isDg_P h, Option.bind_some, hb, if_pos (show bI false = 0 from rfl)]
      | true =>
        have hb' := hb
        unfold isDg at hb'
        simp only [Bool.and_eq_true, decide_eq_true_eq] at hb'
        obtain ⟨d1, d2⟩ := hb'
        rw [drop_byte hi, scN, hb, if_pos rfl, if_neg (show ¬ a = 2 by omega)]
        have hw := nI_ofInt (p := byteAt T (s + a)) (by omega)
        generalize hwd : (byteAt T (s + a)).toInt.toNat = w at hw
        have hw48 : ((byteAt T (s + a)).toInt - 48).toNat = w - 48 := by omega
        rw [hw48]
        have h3 := PR_at (i' := s + (a + 1)) h (by omega)
        obtain ⟨S', x1, x2, x3, x4, x5, x6, x7⟩ := ih n (a + 1) (10 * va + (w - 48)) (setI S (z + 1) 11 (nI (s + (a + 1)))) (by omega) (by omega) (by omega) (by omega) h3.1
        have hge : a + 1 ≤ (scN (T.drop (s + a + 1)) (a + 1) (10 * va + (w - 48))).2.1 := (scN_le _ _ _).2
        rw [show s + (a + 1) = s + a + 1 by omega] at x1 x2 x3 x4 x5 x6 x7
        refine ⟨S', ?_, OK8_tr h3 x2, x3, x4, x5, (fun hh => by cases hh), fun _ _ => by omega⟩
        unfold LX8_readDigits_12
        rw [gi_P h, Option.bind_some, gl_P h, Option.bind_some, if_neg (nI_ge hi (by omega)), Option.bind_some, nI_sub (by omega), Nat.add_sub_cancel_left, if_neg (show ¬ (2 : Int32) ≤ nI a from nI_ge (b := 2) (by omega) (by omega)), isDg_P h, Option.bind_some, hb, if_neg (show ¬ bI true = 0 by decide), b1, Option.bind_some, Option.bind_some, ld_P h hi, Option.bind_some, hw, Option.bind_some, nI_1, pi_k (PR_k h), Option.bind_some, show (10 : Int32) = nI 10 from rfl, nI_mul, nI_add, show (48 : Int32) = nI 48 from rfl, nI_sub (by omega), show 10 * va + w - 48 = 10 * va + (w - 48) by omega]
        exact x1
    · rw [List.drop_eq_nil_of_le (by omega), show scN ([] : List Int32) a va = (true, a, va) from rfl]
      dsimp only
      have hbe : byteAt T (s + a) = -1 := byte_end (by omega)
      rw [hbe, lt_n1.2]
      refine ⟨S, ?_, OK8_rf h, rfl, hv, by omega, fun _ => rfl, fun hh => by cases hh⟩
      unfold LX8_readDigits_12
      rw [gi_P h, Option.bind_some, gl_P h, Option.bind_some, if_pos (nI_le (by omega) (by omega))]
theorem num_P {lo hi : Nat} (h : PR S z T i v) (hlo : lo ≤ 100) (hhi : hi ≤ 100) : ∃ S' r, cal S 8 (z + 1) (f8_readDigits S (z + 1) (nI lo) (nI hi)) = some (r, S') ∧
    ((r = nI (scN (T.drop (lkP T i)) 0 0).2.2 ∧ isDg (byteAt T (lkP T i)) = true ∧ (scN (T.drop (lkP T i)) 0 0).1 = true ∧ (lo ≤ (scN (T.drop (lkP T i)) 0 0).2.2 ∧ (scN (T.drop (lkP T i)) 0 0).2.2 ≤ hi) ∧ (scN (T.drop (lkP T i)) 0 0).2.2 < 100 ∧ OK8 z S S' T (lkP T i + (scN (T.drop (lkP T i)) 0 0).2.1) v ∧ isDg (byteAt T (lkP T i + (scN (T.drop (lkP T i)) 0 0).2.1)) = false) ∨
     (r = -1 ∧ isDg (byteAt T (lkP T i)) = true ∧ (scN (T.drop (lkP T i)) 0 0).1 = true ∧ ¬ (lo ≤ (scN (T.drop (lkP T i)) 0 0).2.2 ∧ (scN (T.drop (lkP T i)) 0 0).2.2 ≤ hi) ∧ BD8 z S S' 2 (lkP T i)) ∨
     (r = -1 ∧ isDg (byteAt T (lkP T i)) = true ∧ (scN (T.drop (lkP T i)) 0 0).1 = false ∧ BD8 z S S' 1 (lkP T i + (scN (T.drop (lkP T i)) 0 0).2.1)) ∨
     (r = -1 ∧ isDg (byteAt T (lkP T i)) = false ∧ BD8 z S S' 1 (lkP T i))) := by
  have h1 := h.2.2.2.2.2.2
  obtain ⟨S1, r1, r2⟩ := skip_P h
  have hle := lk_le h1.1
  obtain ⟨S4, x1, x2, x3, x4, x5, x6, x7⟩ := dig_lp (s := lkP T i) (c1 := nI lo) (c2 := nI hi) 2 FU 0 0 S1 (by omega) (by rw [FU_eq]; omega) (by omega) (by omega) r2.1
  simp only [Nat.add_zero] at x1 x2 x3 x4 x5 x6 x7
  have hA := OK8_tr r2 x2
  rw [cal_k (PR_k h)]
  unfold f8_readDigits
  rw [r1, Option.bind_some, gi_P r2.1, Option.bind_some, show LX8_readDigits_12 (z + 1) (nI lo) (nI hi) (nI (lkP T i)) FU 0 S1 = _ from x1, bn2_s, gi_P x2.1, Option.bind_some]
  cases hb : isDg (byteAt T (lkP T i)) with
  | false =>
    rw [x6 hb, Nat.add_zero] at x2 hA ⊢
    obtain ⟨S9, y1, y2⟩ := fail_P x2.1 1 (lkP T i)
    rw [if_pos rfl, Option.bind_some, show cal S4 8 (z + 1) (f8_fail S4 (z + 1) 1 (nI (lkP T i))) = some (0, S9) from y1, bn2_s]
    exact ⟨S9, -1, rfl, Or.inr (Or.inr (Or.inr ⟨rfl, rfl, BD8_tr hA y2⟩))⟩
  | true =>
    have hlt := x7 hb (by omega)
    have hpr := x2.1.2.2.2.2.2.2
    rw [if_neg (fun hh => by have := nI_inj hh (by omega) (by omega); omega), isDg_P x2.1, Option.bind_some, x3]
    cases hs : (scN (T.drop (lkP T i)) 0 0).1 with
    | false =>
      obtain ⟨S9, y1, y2⟩ := fail_P x2.1 1 (lkP T i + (scN (T.drop (lkP T i)) 0 0).2.1)
      rw [if_neg (show ¬ bI (!false) = 0 by decide), Option.bind_some, show cal S4 8 (z + 1) (f8_fail S4 (z + 1) 1 (nI (lkP T i + (scN (T.drop (lkP T i)) 0 0).2.1))) = some (0, S9) from y1, bn2_s]
      exact ⟨S9, -1, rfl, Or.inr (Or.inr (Or.inl ⟨rfl, rfl, rfl, BD8_tr hA y2⟩))⟩
    | true =>
      rw [if_pos (show bI (!true) = 0 from rfl)]
      rw [hs] at x3
      by_cases c1 : (scN (T.drop (lkP T i)) 0 0).2.2 < lo
      · obtain ⟨S9, y1, y2⟩ := fail_P x2.1 2 (lkP T i)
        rw [if_pos (nI_lt c1 (by omega)), show cal S4 8 (z + 1) (f8_fail S4 (z + 1) 2 (nI (lkP T i))) = some (0, S9) from y1, bn2_s]
        exact ⟨S9, -1, rfl, Or.inr (Or.inl ⟨rfl, rfl, rfl, by omega, BD8_tr hA y2⟩)⟩
      · rw [if_neg (fun hh => c1 ((nI_ltI (by omega) (by omega)).mp hh))]
        by_cases c2 : (scN (T.drop (lkP T i)) 0 0).2.2 ≤ hi
        · rw [if_pos (nI_le c2 (by omega))]
          exact ⟨S4, _, rfl, Or.inl ⟨rfl, rfl, rfl, ⟨by omega, c2⟩, x4, hA, rfl⟩⟩
        · obtain ⟨S9, y1, y2⟩ := fail_P x2.1 2 (lkP T i)
          rw [if_neg (nI_ge (by omega) (by omega)), show cal S4 8 (z + 1) (f8_fail S4 (z + 1) 2 (nI (lkP T i))) = some (0, S9) from y1, bn2_s]
          exact ⟨S9, -1, rfl, Or.inr (Or.inl ⟨rfl, rfl, rfl, by omega, BD8_tr hA y2⟩)⟩
end T1
