/-! ===== PART II, the class: undo, redo ===== -/
theorem bn2_id {α β : Type} (x : Option (α × β)) : (bn2 x fun a b => some (a, b)) = x := by cases x <;> rfl
/-- the latest that changes something is of the text -/
theorem lastN_ok {s : List (Nat × List Int32)} {n : Nat} : ∀ (k : Nat), k ≤ s.length → chn (s.take k) n → ∀ j, lastN s k = some j → j < k ∧ ∃ x, s[j]? = some x ∧ okO x.2 ∧ oldL x.2 = n ∧ chn (s.take j) (newL x.2) := by
  intro k
  induction k with
  | zero => intro _ _ j hj; cases hj
  | succ k ih =>
    intro hk hch j hj
    have hx := List.getElem?_eq_getElem (show k < s.length by omega)
    generalize s[k] = x at hx
    rw [take_snoc hx] at hch
    obtain ⟨c1, c2, c3⟩ := chn_snoc hch
    rw [lastN, hx] at hj
    dsimp only at hj
    cases hI : idleB x.2 with
    | true =>
      rw [hI, if_pos rfl] at hj
      obtain ⟨q1, q2⟩ := ih (by omega) (by rw [← c2, ← idle_cnt hI]; exact c3) j hj
      exact ⟨by omega, q2⟩
    | false =>
      rw [hI, if_neg (by decide)] at hj
      have : k = j := Option.some.inj hj
      subst this
      exact ⟨by omega, x, hx, c1, c2, c3⟩
theorem putsS_get : ∀ (s : List (Nat × List Int32)) (k : Nat) (x : Nat × List Int32), s[k]? = some x → putsL x.2 ≤ putsS s := by
  intro s
  induction s with
  | nil => intro k x h; simp at h
  | cons y s ih =>
    intro k x h
    rw [putsS]
    cases k with
    | zero => simp at h; subst h; omega
    | succ k => have := ih k x (by simpa using h); omega
section AI
variable {S S' : CS} {z fi ch c c0 : Nat} {A A' : St} {K K' : Nat → Option Nat} {H : Nat → Prop} {X : Nat × Nat}
theorem find_loopC {u : Nat} {s : List (Nat × List Int32)} (hW : Wf S) (hI : InvL S u s) : ∀ (k n : Nat), k ≤ s.length → k < n → LX3_findLatestThatChanges_7 u S n (nI k - 1) = some (oI (lastN s k)) := by
  obtain ⟨hs, i1, i2, i3, i4⟩ := hI
  intro k
  induction k with
  | zero =>
    intro n hk hn
    obtain ⟨n, rfl⟩ : ∃ j, n = j + 1 := ⟨n - 1, by omega⟩
    unfold LX3_findLatestThatChanges_7
    rw [if_pos (by decide)]; rfl
  | succ k ih =>
    intro n hk hn
    obtain ⟨n, rfl⟩ : ∃ j, n = j + 1 := ⟨n - 1, by omega⟩
    have hx := List.getElem?_eq_getElem (show k < s.length by omega)
    generalize s[k] = x at hx
    obtain ⟨o, q1, q2⟩ := i4 k x hx
    obtain ⟨o', q3, q4, q5⟩ := InvS_ld i1 (show k < 8 by omega)
    have : o' = o := Option.some.inj (q3.symm.trans q1)
    subst this
    unfold LX3_findLatestThatChanges_7
    rw [show nI (k + 1) - 1 = nI k from nI_sub (b := 1) (by omega), if_neg (show ¬ nI k < (0 : Int32) from fun x => by rw [Int32.lt_iff_toInt_lt, i0, nI_toInt (by omega)] at x; omega), gr_k i1.1.1 i1.1.2.1, Option.bind_some, q4, Option.bind_some, cal_k q5.2.2, changes_N hW q2, Option.bind_some, lastN, hx]
    dsimp only
    cases hI : idleB x.2 with
    | true =>
      rw [if_pos (show bI (!true) = 0 from rfl), show nI k + (-1 : Int32) = nI k - 1 by rw [Int32.sub_eq_add_neg], ih n (by omega) (by omega), if_pos rfl]
    | false =>
      rw [if_neg (show ¬ bI (!false) = 0 by decide), if_neg (by decide)]; rfl
theorem find_C {u : Nat} {s : List (Nat × List Int32)} (hW : Wf S) (hI : InvL S u s) : f3_findLatestThatChanges S u = some (oI (lastN s s.length)) := by
  have h8 : s.length ≤ 8 := hI.choose_spec.2.2.1
  have hl := find_loopC hW hI s.length FU (Nat.le_refl _) (by rw [FU_eq]; omega)
  have hlt : ∀ j, lastN s s.length = some j → j < 8 := by
    have : ∀ k, k ≤ 8 → ∀ j, lastN s k = some j → j < 8 := by
      intro k
      induction k with
      | zero => intro _ j hj; cases hj
      | succ k ih =>
        intro hk j hj
        rw [lastN] at hj
        split at hj
        · cases hj
        · split at hj
          · exact ih (by omega) j hj
          · have := Option.some.inj hj; omega
    exact this s.length h8
  obtain ⟨hs, i1, i2, i3, i4⟩ := hI
  unfold f3_findLatestThatChanges
  rw [gi_k i1.1.1, i2, Option.bind_some, hl, Option.bind_some]
  cases hL : lastN s s.length with
  | none => rw [if_pos (show oI none < 0 by decide)]; rfl
  | some j =>
    have := hlt j hL
    rw [show oI (some j) = nI j from rfl, if_neg (show ¬ nI j < (0 : Int32) from fun x => by rw [Int32.lt_iff_toInt_lt, i0, nI_toInt (by omega)] at x; omega)]; rfl
theorem inv_A {i u v kind : Nat} {s : List (Nat × List Int32)} {E0 : Nat → Ed} (h : CR S z A K fi ch) (hg : GA A) (hch : ch < 1000) (hR : Rm z X (117162 * (20 - made K) + (7600 + c)) S) (hi : i < aCnt A)
    (hk : (kind = 1 ∧ u = z + 227 + 5 + 45 * i + 7 ∧ v = z + 227 + 5 + 45 * i + 25 ∧ s = eUnd (wE (aW A) i) ∧ ∀ k, E0 k = sUnd (wE (aW A) i) (s.take k)) ∨ (kind = 2 ∧ u = z + 227 + 5 + 45 * i + 25 ∧ v = z + 227 + 5 + 45 * i + 7 ∧ s = eDon (wE (aW A) i) ∧ ∀ k, E0 k = sDon (wE (aW A) i) (s.take k))) :
    ActR z X c ch (cal S 11 z (f11_changeByInverse X S z (z + 227 + 5 + 45 * i) u v)) (match lastN s s.length with | none => (-1, sRf A 2) | some k => match s[k]? with | none => (-1, sRf A 2) | some x => if canE A x.2 = true then (nI (newL x.2), sWd (keepA A) (edW A i (E0 k) x.2 kind)) else (-1, sRf A 2)) := by
  obtain ⟨hW, hT, hTp, hTf, hsh, hwd, ha, hkk, hh, hc⟩ := id h
  have hc4 := hg.2.2.1.1
  have hi4 : i < 4 := by omega
  obtain ⟨t0, t1, t2, t3, t4, t5, t6, t7, t8, t9⟩ := TpS_g hT
  have hE := (hwd.2.2.2.2.2 i hi4).2 hi
  have hIn : InvL S u s ∧ chn s (eTxt (wE (aW A) i)).length ∧ s.length ≤ 8 ∧ putsS s ≤ 240 := by
    obtain ⟨e1, e2, e3, e4, e5, e6, e7, e8, e9, e10, e11, e12, e13, e14, e15, _⟩ := hg.2.2.1.2.2.2.2.2.2.2.2 i hi
    have g3 := hg.2.2.1.2.2.1
    have g4 := hg.2.2.1.2.2.2.1
    rcases hk with ⟨_, h1, _, h2, _⟩ | ⟨_, h1, _, h2, _⟩
    · rw [h1, h2]; exact ⟨(hE.2 rfl).1.2.1, e11, e9, by omega⟩
    · rw [h1, h2]; exact ⟨(hE.2 rfl).1.2.2, e12, e10, by omega⟩
  obtain ⟨hI, hcn, h8, hps⟩ := hIn
  obtain ⟨hs, i1, i2, i3, i4⟩ := id hI
  rw [cal_k hT.1]
  unfold f11_changeByInverse
  rw [cal_k i1.1.1, find_C hW hI, Option.bind_some]
  cases hL : lastN s s.length with
  | none =>
    rw [if_pos (show oI none = -1 from rfl)]
    exact act_ref (k := 2) h hg (by omega) hR
  | some k =>
    obtain ⟨k1, x, k2, k4, k5, k7⟩ := lastN_ok (n := (eTxt (wE (aW A) i)).length) s.length (Nat.le_refl _) (by rw [List.take_length]; exact hcn) k hL
    obtain ⟨o, q1, q2⟩ := i4 k x k2
    obtain ⟨o', q3, q4, q5⟩ := InvS_ld i1 (show k < 8 by omega)
    have : o' = o := Option.some.inj (q3.symm.trans q1)
    subst this
    have hb := TxL_bd (hE.2 rfl).1.1
    have hxl : x.2.length ≤ 100000 := by
      have c1 := cnt_len k4
      have c2 := putsS_get s k x k2
      have := hps
      omega
    dsimp only
    rw [show oI (some k) = nI k from rfl, if_neg (show ¬ nI k = (-1 : Int32) from fun hh => by
        have h3 := is1.mp hh
        rw [nI_toInt (by omega)] at h3
        omega), t3, Option.bind_some, gr_k i1.1.1 i1.1.2.1, Option.bind_some, q4, Option.bind_some, can_C h hg q2 hxl, Option.bind_some, k2]
    dsimp only
    by_cases hcan : canE A x.2 = true
    · rw [hcan, if_neg (show ¬ bI true = 0 by decide), if_pos rfl, t5, Option.bind_some, Option.bind_some]
      obtain ⟨p1, p2⟩ := canE_of hcan
      obtain ⟨S6, K', fi', e6, C6, R6, st6, op6⟩ := keep_C (X := X) (c := 240 + c) h hg hch (Rm_mono hR (by omega))
      have hg6 := GA_keepA hg (by omega)
      obtain ⟨u0, u1, u2, u3, u4, u5, u6, u7, u8, u9⟩ := TpS_g C6.2.1
      have hR6 : Rm z X (240 + (117162 * (20 - made K') + c)) S6 := by rw [show 240 + (117162 * (20 - made K') + c) = 117162 * (20 - made K') + (240 + c) by omega]; exact R6
      rw [e6, Option.bind_some, u3, Option.bind_some]
      obtain ⟨hW6, hT6, _, _, hsh6, hwd6, _, _, _, _⟩ := id C6
      have hE6 := (hwd6.2.2.2.2.2 i hi4).2 hi
      obtain ⟨x1, y1⟩ := hE6.2 rfl
      obtain ⟨S', r1, r2, r3, r4, r5, ra, r6, r7⟩ := inverse_E (z := z) (X := X) (c0 := 240) (c := 117162 * (20 - made K') + c) (w := z + 227) (r := z + 22) (g := z + 6) (e := z + 227 + 5 + 45 * i) (u := u) (v := v) (k := k) (kind := kind) (E := wE (aW A) i) (E0 := E0 k) (s := s) (x := x) (by
        rcases hk with ⟨h1, h2, h3, h4, h5⟩ | ⟨h1, h2, h3, h4, h5⟩
        · exact Or.inl ⟨h1, h2, h3, h4, h5 k⟩
        · exact Or.inr ⟨h1, h2, h3, h4, h5 k⟩) k2 (ClsP_w z hi4) (by omega) (by omega) hW6 hR6 (Nat.le_refl _) hsh6.1 hwd6.1 hE6.1 x1 y1 hwd6.2.1.2.2.2.1 hwd6.2.1.2.2.2.2.1 (ed_bounds hg.2.2.1 hi k4 k5 p1) hsh6.2.1
      obtain ⟨C9, st9⟩ := edC_all (A := keepA A) (kind := kind) (E0 := E0 k) C6 hg6 st6 hi r7 r2 r3 r4 r5 ra r6
      have hE9 := (C9.2.2.2.2.2.1.2.2.2.2.2 i (by omega)).2 hi
      have e1 : wE (aW (sWd (keepA A) (edW (keepA A) i (E0 k) x.2 kind))) i = editE (E0 k) x.2 kind := edW_self (keepA A) i _ _ _
      rw [e1] at hE9
      have tx := (hE9.2 rfl).1.1
      have et0 : eTxt (E0 k) = eTxt (wE (aW A) i) := by
        rcases hk with ⟨_, _, _, _, h5⟩ | ⟨_, _, _, _, h5⟩ <;> rw [h5 k] <;> rfl
      rw [cal_k hwd6.1.1, r1, Option.bind_some, gr_k hE9.1.1.1 hE9.1.1.2.1.1, Option.bind_some, TxL_sz tx, Option.bind_some, (editE_txt _ _ _).1, et0, chgL_len k4]
      exact ⟨S', K', fi', ch + 1, rfl, C9, by omega, Rm_step hR6 r7⟩
    · have hcf : canE A x.2 = false := by cases hh : canE A x.2 <;> simp_all
      rw [hcf, if_pos (show bI false = 0 from rfl), if_neg (by decide)]
      exact act_ref (k := 2) h hg (by omega) hR
theorem undo_A (h : CR S z A K fi ch) (hg : GA A) (hch : ch < 1000) (hR : Rm z X (117162 * (20 - made K) + (7600 + c)) S) (p : Int32) : ActR z X c ch (f11_undo X S z p) (aUndo A p) := by
  have hkn := kn_C h hg p
  have hed := fun hp => ed_C h hg (p := p) hp
  obtain ⟨hW, hT, hTp, hTf, hsh, hwd, ha, hk, hh, hc⟩ := id h
  obtain ⟨t0, t1, t2, t3, t4, t5, t6, t7, t8, t9⟩ := TpS_g hT
  unfold f11_undo aUndo
  rw [t3, Option.bind_some, hkn, Option.bind_some]
  by_cases hp : 0 ≤ p.toInt ∧ p.toInt < aCnt A
  · obtain ⟨p1, p2, p3, p4, ⟨⟨k1, _⟩, k6⟩⟩ := hed hp
    rw [decide_eq_true hp, if_neg (show ¬ bI true = 0 by decide), if_pos hp, Option.bind_some, gr_k hwd.1.1 hwd.1.2.1.2.2.2.1, Option.bind_some, p4, Option.bind_some, gr_k k1.1 k1.2.1.2.2.2.1, Option.bind_some, gr_k k1.1 k1.2.1.2.2.2.2.1, Option.bind_some, bn2_id]
    exact inv_A h hg hch hR p2 (E0 := fun k => sUnd (wE (aW A) p.toInt.toNat) ((eUnd (wE (aW A) p.toInt.toNat)).take k)) (Or.inl ⟨rfl, rfl, rfl, rfl, fun k => rfl⟩)
  · rw [decide_eq_false hp, if_pos (show bI false = 0 from rfl), if_neg hp]
    exact act_ref (k := 2) h hg (by omega) hR
theorem redo_A (h : CR S z A K fi ch) (hg : GA A) (hch : ch < 1000) (hR : Rm z X (117162 * (20 - made K) + (7600 + c)) S) (p : Int32) : ActR z X c ch (f11_redo X S z p) (aRedo A p) := by
  have hkn := kn_C h hg p
  have hed := fun hp => ed_C h hg (p := p) hp
  obtain ⟨hW, hT, hTp, hTf, hsh, hwd, ha, hk, hh, hc⟩ := id h
  obtain ⟨t0, t1, t2, t3, t4, t5, t6, t7, t8, t9⟩ := TpS_g hT
  unfold f11_redo aRedo
  rw [t3, Option.bind_some, hkn, Option.bind_some]
  by_cases hp : 0 ≤ p.toInt ∧ p.toInt < aCnt A
  · obtain ⟨p1, p2, p3, p4, ⟨⟨k1, _⟩, k6⟩⟩ := hed hp
    rw [decide_eq_true hp, if_neg (show ¬ bI true = 0 by decide), if_pos hp, Option.bind_some, gr_k hwd.1.1 hwd.1.2.1.2.2.2.1, Option.bind_some, p4, Option.bind_some, gr_k k1.1 k1.2.1.2.2.2.2.1, Option.bind_some, gr_k k1.1 k1.2.1.2.2.2.1, Option.bind_some, bn2_id]
    exact inv_A h hg hch hR p2 (E0 := fun k => sDon (wE (aW A) p.toInt.toNat) ((eDon (wE (aW A) p.toInt.toNat)).take k)) (Or.inr ⟨rfl, rfl, rfl, rfl, fun k => rfl⟩)
  · rw [decide_eq_false hp, if_pos (show bI false = 0 from rfl), if_neg hp]
    exact act_ref (k := 2) h hg (by omega) hR
end AI
