/-! ===== PART II, the class: keywords are read ===== -/
def kcl (m : Nat) : Nat := if m = 0 then 10 else if m = 9 then 11 else 11 + m
theorem kcl_w : ∀ m, m < 10 → sByt.getD m [] = kwL (kcl m) ∧ sLen.getD m 0 = (kwL (kcl m)).length ∧ 1 ≤ (kwL (kcl m)).length ∧ (kwL (kcl m)).length ≤ 7 := by decide
section T2
variable {S S' S'' : CS} {z i k q : Nat} {T : List Int32} {v : Tm}
theorem sl_k {m : Nat} (hm : m < 10) : sl m = nI (kwL (kcl m)).length := by unfold sl; rw [(kcl_w m hm).2.1]; rfl
theorem sch_k {m j : Nat} (hm : m < 10) (hj : j < (kwL (kcl m)).length) : sch m (nI j) = some ((kwL (kcl m)).getD j 0) := by
  obtain ⟨h1, h2, h3, h4⟩ := kcl_w m hm
  unfold sch
  rw [h2, h1, if_neg (nI_in hj (by omega)), nI_clamp (by omega)]
theorem letters_lp {s : Nat} {c1 : Int32} : ∀ (d n a : Nat) (S : CS), a + d = ltN (T.drop s) → d < n → ltN (T.drop (s + a)) = d → PR S z T (s + a) v → ∃ S', LX8_findKeyword_5 (z + 1) c1 n S = some S' ∧ OK8 z S S' T (s + ltN (T.drop s)) v := by
  intro d
  induction d with
  | zero =>
    intro n a S ha hn hl h
    obtain ⟨n, rfl⟩ : ∃ k, n = k + 1 := ⟨n - 1, by omega⟩
    have h1 := h.2.2.2.2.2.2
    have hae : ltN (T.drop s) = a := by omega
    rw [hae]
    refine ⟨S, ?_, OK8_rf h⟩
    unfold LX8_findKeyword_5
    rw [gi_P h, Option.bind_some, gl_P h, Option.bind_some]
    by_cases c1 : T.length ≤ s + a
    · rw [if_pos (nI_le c1 (by omega))]
    · have hf : isLt (byteAt T (s + a)) = false := Decidable.byContradiction fun hh => by
        have hh : isLt (byteAt T (s + a)) = true := by revert hh; cases isLt (byteAt T (s + a)) <;> simp
        have := (ltN_pos hh).2
        omega
      rw [if_neg (nI_ge (by omega) (by omega)), isLt_P h, Option.bind_some, hf, if_pos (show bI false = 0 from rfl)]
  | succ d ih =>
    intro n a S ha hn hl h
    obtain ⟨n, rfl⟩ : ∃ k, n = k + 1 := ⟨n - 1, by omega⟩
    have h1 := h.2.2.2.2.2.2
    have hb : isLt (byteAt T (s + a)) = true := Decidable.byContradiction fun hh => by
      have hf : isLt (byteAt T (s + a)) = false := by revert hh; cases isLt (byteAt T (s + a)) <;> simp
      have := ltN_zero hf
      omega
    obtain ⟨hi, h2⟩ := ltN_pos hb
    have h3 := PR_at (i' := s + (a + 1)) h (by omega)
    obtain ⟨S', x1, x2⟩ := ih n (a + 1) (setI S (z + 1) 11 (nI (s + (a + 1)))) (by omega) (by omega) (by rw [show s + (a + 1) = s + a + 1 by omega]; omega) h3.1
    unfold LX8_findKeyword_5
    rw [gi_P h, Option.bind_some, gl_P h, Option.bind_some, if_neg (nI_ge hi (by omega)), isLt_P h, Option.bind_some, hb, if_neg (show ¬ bI true = 0 by decide), Option.bind_some, nI_1, pi_k (PR_k h), Option.bind_some]
    exact ⟨S', x1, OK8_tr h3 x2⟩
theorem word_eq {T w : List Int32} {s : Nat} (hl : s + w.length ≤ T.length) : ((T.drop s).take w.length = w) ↔ ∀ j, j < w.length → byteAt T (s + j) = w.getD j 0 := by
  have hlen : ((T.drop s).take w.length).length = w.length := by rw [List.length_take, List.length_drop]; omega
  have hget : ∀ j, j < w.length → ((T.drop s).take w.length)[j]? = some (byteAt T (s + j)) := fun j hj => by
    rw [List.getElem?_take_of_lt hj, List.getElem?_drop, List.getElem?_eq_getElem (by omega)]
    unfold byteAt
    rw [if_pos (by omega), List.getD_eq_getElem?_getD, List.getElem?_eq_getElem (by omega)]; rfl
  constructor
  · intro h j hj
    have h1 := hget j hj
    rw [h, List.getElem?_eq_getElem hj] at h1
    rw [List.getD_eq_getElem?_getD, List.getElem?_eq_getElem hj]
    exact (Option.some.inj h1).symm
  · intro h
    apply List.ext_getElem hlen
    intro j h1 h2
    have := hget j h2
    rw [List.getElem?_eq_getElem h1] at this
    rw [Option.some.inj this, h j h2, List.getD_eq_getElem?_getD, List.getElem?_eq_getElem h2]; rfl
theorem isWord_lp {m s at' : Nat} (hm : m < 10) (h : PR S z T at' v) (hs : s + (kwL (kcl m)).length ≤ T.length) : ∀ (d n j : Nat), j + d = (kwL (kcl m)).length → d < n → ∃ r : Bool, LX8_isWord_22 (z + 1) m (nI s) S n 1 (nI j) = some (bI r) ∧ (r = true ↔ ∀ x, j ≤ x → x < (kwL (kcl m)).length → byteAt T (s + x) = (kwL (kcl m)).getD x 0) := by
  have hk7 := (kcl_w m hm).2.2.2
  obtain ⟨b1, b2, b3⟩ := PR_b h
  have h1 := h.2.2.2.2.2.2
  intro d
  induction d with
  | zero =>
    intro n j hj hn
    obtain ⟨n, rfl⟩ : ∃ k, n = k + 1 := ⟨n - 1, by omega⟩
    unfold LX8_isWord_22
    rw [sl_k hm, if_pos (nI_le (by omega) (by omega))]
    exact ⟨true, rfl, fun _ x x1 x2 => by omega, fun _ => rfl⟩
  | succ d ih =>
    intro n j hj hn
    obtain ⟨n, rfl⟩ : ∃ k, n = k + 1 := ⟨n - 1, by omega⟩
    unfold LX8_isWord_22
    rw [sl_k hm, if_neg (nI_ge (by omega) (by omega)), if_neg (by decide), b1, Option.bind_some, nI_add, ld_P h (by omega), Option.bind_some, sch_k hm (by omega), Option.bind_some]
    by_cases he : byteAt T (s + j) = (kwL (kcl m)).getD j 0
    · rw [if_pos he, Option.bind_some, nI_1]
      obtain ⟨r, r1, r2⟩ := ih n (j + 1) (by omega) (by omega)
      refine ⟨r, r1, r2.trans ⟨fun hh x x1 x2 => ?_, fun hh x x1 x2 => hh x (by omega) x2⟩⟩
      by_cases hx : x = j
      · subst hx; exact he
      · exact hh x (by omega) x2
    · rw [if_neg he, Option.bind_some]
      refine ⟨false, ?_, fun hh => (by cases hh), fun hh => absurd (hh j (Nat.le_refl _) (by omega)) he⟩
      obtain ⟨n, rfl⟩ : ∃ k, n = k + 1 := ⟨n - 1, by omega⟩
      unfold LX8_isWord_22
      rw [if_pos (show (0 : Int32) = 0 from rfl)]
      split <;> rfl
theorem isWord_P {m s : Nat} (hm : m < 10) (hlk : lkP T s = s) (h : PR S z T (s + ltN (T.drop s)) v) : cal S 8 (z + 1) (f8_isWord S (z + 1) m (nI s)) = some (bI (hereAt T (kwL (kcl m)) s)) := by
  have hk := kcl_w m hm
  have h1 := h.2.2.2.2.2.2
  rw [cal_k (PR_k h)]
  unfold f8_isWord
  rw [gi_P h, Option.bind_some, sl_k hm, nI_sub (by omega), Nat.add_sub_cancel_left]
  unfold hereAt
  rw [hlk]
  by_cases hl : ltN (T.drop s) = (kwL (kcl m)).length
  · obtain ⟨r, r1, r2⟩ := isWord_lp hm h (show s + (kwL (kcl m)).length ≤ T.length by omega) (kwL (kcl m)).length FU 0 (by omega) (by rw [FU_eq]; omega)
    have hlt : isLt (byteAt T s) = true := Decidable.byContradiction fun hh => by
      have hf : isLt (byteAt T s) = false := by revert hh; cases isLt (byteAt T s) <;> simp
      have := ltN_zero hf
      omega
    have key : r = decide (isLt (byteAt T s) = true ∧ ltN (T.drop s) = (kwL (kcl m)).length ∧ (T.drop s).take (kwL (kcl m)).length = kwL (kcl m)) := by
      have hw := word_eq (T := T) (w := kwL (kcl m)) (s := s) (by omega)
      cases r with
      | true => exact (decide_eq_true ⟨hlt, hl, hw.mpr (fun j hj => r2.mp rfl j (Nat.zero_le _) hj)⟩).symm
      | false => exact (decide_eq_false (fun hh => by
          have := r2.mpr (fun x _ hx => hw.mp hh.2.2 x hx)
          cases this)).symm
    rw [if_pos (by rw [hl]), Option.bind_some, show LX8_isWord_22 (z + 1) m (nI s) S FU 1 0 = some (bI r) from r1, Option.bind_some, bz_bI, Option.bind_some, key]
  · have hlen := (ltN_end (T := T) s).2
    rw [if_neg (fun hh => hl (nI_inj hh (by omega) (by omega)).symm), Option.bind_some]
    have hF : ∃ k, FU = k + 1 := ⟨19999, by rw [FU_eq]⟩
    obtain ⟨k, hkk⟩ := hF
    rw [hkk]
    unfold LX8_isWord_22
    rw [if_pos (show (0 : Int32) = 0 from rfl)]
    have : (if sl m ≤ (0 : Int32) then some (0 : Int32) else some 0) = some 0 := by split <;> rfl
    rw [this, Option.bind_some, decide_eq_false (fun hh => hl hh.2.1)]; rfl
theorem name_P : ∀ m, m < 10 → f8_nameOf (nI m) = some m := by decide
theorem key_lp {s : Nat} {c1 : Int32} (hlk : lkP T s = s) (hc : c1 = nI s) (h : PR S z T (s + ltN (T.drop s)) v) : ∀ (d n m : Nat), m + d = 10 → d < n → (∃ y, LX8_findKeyword_38 (z + 1) c1 S n (nI m) = some (1, y) ∧ ∀ x, m ≤ x → x < 10 → hereAt T (kwL (kcl x)) s = false) ∨ (∃ x, m ≤ x ∧ x < 10 ∧ LX8_findKeyword_38 (z + 1) c1 S n (nI m) = some (0, nI x) ∧ hereAt T (kwL (kcl x)) s = true) := by
  subst hc
  intro d
  induction d with
  | zero =>
    intro n m hm hn
    obtain ⟨n, rfl⟩ : ∃ k, n = k + 1 := ⟨n - 1, by omega⟩
    refine Or.inl ⟨nI m, ?_, fun x x1 x2 => by omega⟩
    unfold LX8_findKeyword_38
    rw [if_pos (show (9 : Int32) < nI m from nI_lt (a := 9) (by omega) (by omega))]
  | succ d ih =>
    intro n m hm hn
    obtain ⟨n, rfl⟩ : ∃ k, n = k + 1 := ⟨n - 1, by omega⟩
    unfold LX8_findKeyword_38
    rw [if_neg (show ¬ (9 : Int32) < nI m from fun hh => by rw [show (9 : Int32) = nI 9 from rfl, nI_ltI (by omega) (by omega)] at hh; omega), name_P m (by omega), Option.bind_some, isWord_P (by omega) hlk h, Option.bind_some]
    cases hb : hereAt T (kwL (kcl m)) s with
    | false =>
      rw [if_pos (show bI false = 0 from rfl), nI_1]
      rcases ih n (m + 1) (by omega) (by omega) with ⟨y, y1, y2⟩ | ⟨x, x1, x2, x3, x4⟩
      · refine Or.inl ⟨y, y1, fun x x1 x2 => ?_⟩
        by_cases hx : x = m
        · subst hx; exact hb
        · exact y2 x (by omega) x2
      · exact Or.inr ⟨x, by omega, x2, x3, x4⟩
    | true =>
      rw [if_neg (show ¬ bI true = 0 by decide)]
      exact Or.inr ⟨m, Nat.le_refl _, by omega, rfl, hb⟩
theorem key_P {s : Nat} (hlk : lkP T s = s) (h : PR S z T s v) : ∃ S' r, cal S 8 (z + 1) (f8_findKeyword S (z + 1)) = some (r, S') ∧ OK8 z S S' T (s + ltN (T.drop s)) v ∧ ((r = -1 ∧ ∀ x, x < 10 → hereAt T (kwL (kcl x)) s = false) ∨ ∃ x, x < 10 ∧ r = nI x ∧ hereAt T (kwL (kcl x)) s = true) := by
  have h1 := h.2.2.2.2.2.2
  have hlen := (ltN_end (T := T) s).2
  obtain ⟨S2, r1, r2⟩ := letters_lp (s := s) (c1 := nI s) (ltN (T.drop s)) FU 0 S (by omega) (by rw [FU_eq]; omega) (by rw [Nat.add_zero]) h
  rw [cal_k (PR_k h)]
  unfold f8_findKeyword
  rw [gi_P h, Option.bind_some, r1, Option.bind_some]
  rcases key_lp hlk rfl r2.1 10 FU 0 (by omega) (by rw [FU_eq]; omega) with ⟨y, y1, y2⟩ | ⟨x, x1, x2, x3, x4⟩
  · rw [show LX8_findKeyword_38 (z + 1) (nI s) S2 FU 0 = some (1, y) from y1, bn2_s, if_neg (by decide)]
    exact ⟨S2, -1, rfl, r2, Or.inl ⟨rfl, fun x hx => y2 x (Nat.zero_le _) hx⟩⟩
  · rw [show LX8_findKeyword_38 (z + 1) (nI s) S2 FU 0 = some (0, nI x) from x3, bn2_s, if_pos rfl]
    exact ⟨S2, nI x, rfl, r2, Or.inr ⟨x, x2, rfl, x4⟩⟩
theorem here_len {w : List Int32} {s : Nat} (hlk : lkP T s = s) (h : hereAt T w s = true) : ltN (T.drop s) = w.length := by
  unfold hereAt at h
  rw [hlk, decide_eq_true_eq] at h
  exact h.2.1
theorem kcl_ne : ∀ x, x < 10 → ∀ y, y < 10 → kwL (kcl x) = kwL (kcl y) → x = y := by decide
theorem fail_eq {S S' : CS} {a b r : Int32} (hk : kd S (z + 1) = 8) (h : cal S 8 (z + 1) (f8_fail S (z + 1) a b) = some (r, S')) : cI S' (z + 1) 4 = cI S (z + 1) 4 := by
  rw [cal_k hk] at h
  unfold f8_fail at h
  rw [pi_k hk, Option.bind_some, pi_I hk, Option.bind_some] at h
  have := (Prod.mk.inj (Option.some.inj h)).2
  rw [← this, cI_set, if_neg (by omega), cI_set, if_neg (by omega)]
theorem ends_eq {r : Int32} (h : PR S z T i v) (hd : isDg (byteAt T i) = true) (he : cal S 8 (z + 1) (f8_endsWell S (z + 1)) = some (r, S')) : cI S' (z + 1) 4 = cI S (z + 1) 4 := by
  have hdg := isDg_P h
  obtain ⟨S1, f1, f2⟩ := fail_P h 1 i
  have f1' : cal S 8 (z + 1) (f8_fail S (z + 1) 1 (nI i)) = some (0, S1) := f1
  rw [cal_k (PR_k h)] at he
  unfold f8_endsWell at he
  rw [hdg, Option.bind_some, hd, if_neg (show ¬ bI true = 0 by decide), gi_P h, Option.bind_some, f1', bn2_s, if_pos rfl, bn2_s] at he
  have he2 : some ((0 : Int32), S1) = some (r, S') := he
  have := (Prod.mk.inj (Option.some.inj he2)).2
  rw [← this]
  exact fail_eq (PR_k h) f1
/-- the keyword of a statement -/
theorem readK_P (h : PR S z T i v) (hc : v.2.1 < 1000) : ∃ S' r, cal S 8 (z + 1) (f8_readKeyword S (z + 1)) = some (r, S') ∧ cI S' (z + 1) 4 = nI v.2.1 ∧
    ((∃ x, x < 9 ∧ r = nI x ∧ hereAt T (kwL (kcl x)) (lkP T i) = true ∧ (x = 0 ↔ v.2.1 = 0) ∧ OK8 z S S' T (lkP T i + (kwL (kcl x)).length) v ∧ isDg (byteAt T (lkP T i + (kwL (kcl x)).length)) = false) ∨
     (∃ x, x < 9 ∧ r = -1 ∧ hereAt T (kwL (kcl x)) (lkP T i) = true ∧ (x = 0 ↔ v.2.1 = 0) ∧ BD8 z S S' 1 (lkP T i + (kwL (kcl x)).length) ∧ isDg (byteAt T (lkP T i + (kwL (kcl x)).length)) = true) ∨
     (r = -1 ∧ (∀ x, x < 9 → (x = 0 ↔ v.2.1 = 0) → hereAt T (kwL (kcl x)) (lkP T i) = false) ∧ BD8 z S S' 1 (lkP T i))) := by
  have h1 := h.2.2.2.2.2.2
  obtain ⟨S1, r1, r2⟩ := skip_P h
  have hlk := lk_lk T i
  obtain ⟨S4, r, x1, x2, x3⟩ := key_P hlk r2.1
  have hA := OK8_tr r2 x2
  have bad : (∀ x, x < 9 → (x = 0 ↔ v.2.1 = 0) → hereAt T (kwL (kcl x)) (lkP T i) = false) → ∃ S' r', (bn2 (cal S4 8 (z + 1) (f8_fail S4 (z + 1) 1 (nI (lkP T i)))) fun v5 S6 => some ((-1 : Int32), S6)) = some (r', S') ∧ cI S' (z + 1) 4 = nI v.2.1 ∧ (r' = -1 ∧ (∀ x, x < 9 → (x = 0 ↔ v.2.1 = 0) → hereAt T (kwL (kcl x)) (lkP T i) = false) ∧ BD8 z S S' 1 (lkP T i)) := fun hall => by
    obtain ⟨S9, y1, y2⟩ := fail_P x2.1 1 (lkP T i)
    rw [show cal S4 8 (z + 1) (f8_fail S4 (z + 1) 1 (nI (lkP T i))) = some (0, S9) from y1, bn2_s]
    exact ⟨S9, -1, rfl, by rw [fail_eq (PR_k x2.1) y1, x2.1.2.2.2.2.1.1], rfl, hall, BD8_tr hA y2⟩
  rw [cal_k (PR_k h)]
  unfold f8_readKeyword
  rw [r1, Option.bind_some, gi_P r2.1, Option.bind_some, x1, bn2_s]
  rcases x3 with ⟨rfl, hno⟩ | ⟨x, hx, rfl, hyes⟩
  · rw [if_pos rfl]
    obtain ⟨S', r', b1, b4, b2⟩ := bad (fun x hx _ => hno x (by omega))
    exact ⟨S', r', b1, b4, Or.inr (Or.inr b2)⟩
  · have huniq : ∀ y, y < 10 → y ≠ x → hereAt T (kwL (kcl y)) (lkP T i) = false := fun y hy hne => by
      cases hb : hereAt T (kwL (kcl y)) (lkP T i) with
      | false => rfl
      | true => exact absurd (kcl_ne y hy x hx (here_ex hb hyes)) hne
    rw [if_neg (show ¬ nI x = (-1 : Int32) from fun hh => by
        have h3 := is1.mp hh
        rw [nI_toInt (by omega)] at h3
        omega)]
    by_cases h9 : x = 9
    · subst h9
      rw [if_pos (show nI 9 = (9 : Int32) from rfl)]
      obtain ⟨S', r', b1, b4, b2⟩ := bad (fun y hy _ => huniq y (by omega) (by omega))
      exact ⟨S', r', b1, b4, Or.inr (Or.inr b2)⟩
    · rw [if_neg (show ¬ nI x = (9 : Int32) from fun hh => h9 (nI_inj (b := 9) hh (by omega) (by omega)))]
      have e1 : (if nI x = (0 : Int32) then some (1 : Int32) else some 0) = some (bI (decide (x = 0))) := by
        by_cases hx0 : x = 0
        · subst hx0; rfl
        · rw [if_neg (nI_ne0 (by omega) (by omega)), decide_eq_false hx0]; rfl
      have e2 : (if nI v.2.1 = (0 : Int32) then some (1 : Int32) else some 0) = some (bI (decide (v.2.1 = 0))) := by
        by_cases hx0 : v.2.1 = 0
        · rw [hx0]; rfl
        · rw [if_neg (nI_ne0 (by omega) (by omega)), decide_eq_false hx0]; rfl
      have e4 : gi S4 8 (z + 1) 4 = some (nI v.2.1) := by rw [gi_k (PR_k x2.1), x2.1.2.2.2.2.1.1]
      rw [e1, Option.bind_some, e4, Option.bind_some, e2, Option.bind_some]
      by_cases hxc : x = 0 ↔ v.2.1 = 0
      · rw [if_pos (by rw [decide_eq_decide.mpr hxc])]
        rw [here_len hlk hyes] at x2 hA
        rcases ends_P x2.1 with ⟨d1, d2⟩ | ⟨d1, S', d2, d3⟩
        · rw [d2, bn2_s, if_neg (by decide), Option.bind_some]
          exact ⟨S4, nI x, rfl, x2.1.2.2.2.2.1.1, Or.inl ⟨x, by omega, rfl, hyes, hxc, hA, d1⟩⟩
        · rw [d2, bn2_s, if_pos rfl, Option.bind_some]
          exact ⟨S', -1, rfl, by rw [ends_eq x2.1 d1 d2, x2.1.2.2.2.2.1.1], Or.inr (Or.inl ⟨x, by omega, rfl, hyes, hxc, BD8_tr hA d3, d1⟩)⟩
      · rw [if_neg (fun hh => hxc (by
          have : decide (x = 0) = decide (v.2.1 = 0) := by
            revert hh
            cases decide (x = 0) <;> cases decide (v.2.1 = 0) <;> decide
          exact decide_eq_decide.mp this))]
        obtain ⟨S', r', b1, b4, b2⟩ := bad (fun y hy hyc => by
          by_cases hyx : y = x
          · subst hyx; exact absurd hyc hxc
          · exact huniq y (by omega) hyx)
        exact ⟨S', r', b1, b4, Or.inr (Or.inr b2)⟩
end T2
