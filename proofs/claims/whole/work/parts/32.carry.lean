/-! ===== PART II, the reference: what an editor has is turned, carried ===== -/
def aheadB (ties one other : Nat) : Bool := if ties = 0 then decide (one < other) else decide (ties = 1) && decide (other < one)
theorem bz0 : bz 0 = some 0 := rfl
theorem bz1 : bz 1 = some 1 := rfl
theorem isAhead_ok {M : MS} {ties one other : Nat} (h : M.1 33 = nI ties) (ht : ties < 1000) (h1 : one < 1000) (h2 : other < 1000) : f12_isAhead M (nI one) (nI other) = some (if aheadB ties one other then 1 else 0) := by
  unfold f12_isAhead aheadB
  rw [show gF M 33 = nI ties from h]
  by_cases t0 : ties = 0
  · subst t0
    rw [if_pos (show nI 0 = (0 : Int32) from rfl), if_pos rfl]
    by_cases h3 : one < other
    · rw [if_neg (nI_ge h3 (by omega)), Option.bind_some, bz1]; simp [h3]
    · rw [if_pos (nI_le (by omega) (by omega)), Option.bind_some, bz0]; simp [h3]
  · rw [if_neg (nI_ne0 (by omega) (by omega)), if_neg t0]
    by_cases t1 : ties = 1
    · subst t1
      rw [if_pos (show nI 1 = (1 : Int32) from rfl)]
      by_cases h3 : other < one
      · rw [if_neg (nI_ge h3 (by omega)), Option.bind_some, bz1]; simp [h3]
      · rw [if_pos (nI_le (by omega) (by omega)), Option.bind_some, bz0]; simp [h3]
    · rw [if_neg (by rw [show (1 : Int32) = nI 1 from rfl, nI_eq (by omega) (by omega)]; exact t1), Option.bind_some, bz0]; simp [t1]
/-- as Frm, but of the great array these places -/
def FN (As Fs : List Nat) (P : Nat → Prop) (M M' : MS) : Prop := (∀ k, k ∉ As → k ≠ 30 → M'.2.1 k = M.2.1 k) ∧ (∀ k, k ∉ Fs → M'.1 k = M.1 k) ∧ M'.2.2 = M.2.2 ∧ ∀ j, ¬ P j → M'.2.1 30 j = M.2.1 30 j
theorem FN_refl (As Fs : List Nat) (P : Nat → Prop) (M : MS) : FN As Fs P M M := ⟨fun _ _ _ => rfl, fun _ _ => rfl, rfl, fun _ _ => rfl⟩
theorem FN_trans {As Fs : List Nat} {P : Nat → Prop} {M M' M'' : MS} (h1 : FN As Fs P M M') (h2 : FN As Fs P M' M'') : FN As Fs P M M'' :=
  ⟨fun k h h' => by rw [h2.1 k h h', h1.1 k h h'], fun k h => by rw [h2.2.1 k h, h1.2.1 k h], by rw [h2.2.2.1, h1.2.2.1], fun j h => by rw [h2.2.2.2 j h, h1.2.2.2 j h]⟩
theorem FN_mono {As Fs As' Fs' : List Nat} {P P' : Nat → Prop} {M M' : MS} (h : FN As Fs P M M') (h1 : ∀ k, k ∈ As → k ∈ As') (h2 : ∀ k, k ∈ Fs → k ∈ Fs') (h3 : ∀ j, P j → P' j) : FN As' Fs' P' M M' :=
  ⟨fun k hk => h.1 k (fun hh => hk (h1 k hh)), fun k hk => h.2.1 k (fun hh => hk (h2 k hh)), h.2.2.1, fun j hj => h.2.2.2 j (fun hh => hj (h3 j hh))⟩
theorem FN_Frm {As Fs As' Fs' : List Nat} {P : Nat → Prop} {M M' : MS} (h : Frm As Fs M M') (h30 : 30 ∉ As) (h1 : ∀ k, k ∈ As → k ∈ As') (h2 : ∀ k, k ∈ Fs → k ∈ Fs') : FN As' Fs' P M M' :=
  ⟨fun k hk _ => h.1 k (fun hh => hk (h1 k hh)), fun k hk => h.2.1 k (fun hh => hk (h2 k hh)), h.2.2, fun j _ => by rw [h.1 30 h30]⟩
theorem FN_now {As Fs : List Nat} {P : Nat → Prop} {M : MS} {f : Nat → Int32} (h : ∀ j, ¬ P j → f j = M.2.1 30 j) : FN As Fs P M (sR M 30 f) :=
  ⟨fun k _ h3 => sR_ne _ _ h3, fun _ _ => rfl, rfl, fun j hj => by rw [sR_get, h j hj]⟩
theorem Row_FN {As Fs : List Nat} {P : Nat → Prop} {M M' : MS} {ka kf : Nat} {A : List Int32} (h : Row M ka kf A) (hf : FN As Fs P M M') (h0 : ka ≠ 30) (h1 : ka ∉ As) (h2 : kf ∉ Fs) : Row M' ka kf A := by
  unfold Row
  rw [hf.1 _ h1 h0, hf.2.1 _ h2]
  exact h
/-- a kept operation is turned over B, B over it -/
theorem over_ok {M : MS} {p e by' ties : Nat} {A B : List Int32} (hp : p + 2 + (gatherL A 0).length ≤ 10476) (hk : KeptAt (M.2.1 30) p A) (hB : Row M 21 26 B) (hA : okO A) (hB' : okO B) (ho : oldL A = oldL B) (hl : A.length + B.length ≤ 700) (ht : M.1 33 = nI ties) (ht2 : ties < 1000) (he : e < 1000) (hb : by' < 1000) :
    ∃ M' M2 v3 M4 M6, f12_keptToA M (nI p) = some M2 ∧ f12_isAhead M2 (nI e) (nI by') = some v3 ∧ f12_turns M2 v3 = some M4 ∧ f12_keepsC M4 (nI p) = some M6 ∧ f12_takesDAsB M6 = some M' ∧ KeptAt (M'.2.1 30) p (turnC (aheadB ties e by') A B) ∧ Row M' 21 26 (turnD (aheadB ties e by') A B) ∧ FN [20, 21, 22, 23, 24] [25, 26, 27, 28] (fun j => p ≤ j ∧ j < p + 2 + (gatherL A 0).length) M M' := by
  obtain ⟨M2, a1, a2, a3⟩ := keptToA_ok hk hA (by omega) hp
  have b1 := isAhead_ok (M := M2) (ties := ties) (one := e) (other := by') (by rw [a3.2.1 _ (by decide)]; exact ht) ht2 he hb
  obtain ⟨M4, c1, c2, c3, c4⟩ := turns_ok (ah := aheadB ties e by') a2 (Row_frm hB a3 (by decide) (by decide)) ho hl
  obtain ⟨t1, t2, t3, t4, t5, t6, t7, t8, t9⟩ := turn_ok (ah := aheadB ties e by') hA hB' ho
  have l1 := turnR_len (aheadB ties e by') A B
  have m1 := mk_len hA 0
  have m2 := mk_len t1 0
  have e1 : (turnC (aheadB ties e by') A B).length ≤ 700 := by unfold turnC; rw [settleL_len]; omega
  have e2 : (turnD (aheadB ties e by') A B).length ≤ 700 := by unfold turnD; rw [settleL_len]; omega
  obtain ⟨f', d1, d2, d3⟩ := keepsC_ok (p := p) (show Row M4 22 27 (turnC (aheadB ties e by') A B) from c2) t1 e1 (by omega)
  have r3 : Row (sR M4 30 f') 23 28 (turnD (aheadB ties e by') A B) := by unfold Row; rw [sR_ne _ _ (by decide)]; exact c3
  obtain ⟨M', g1, g2, g3⟩ := takesDAsB_ok r3 e2
  refine ⟨M', M2, _, M4, sR M4 30 f', a1, b1, c1, d1, g1, ?_, g2, ?_⟩
  · rw [g3.1 30 (by decide), sR_get]; exact d2
  · refine FN_trans (FN_Frm a3 (by decide) (by simp) (by simp)) (FN_trans (FN_Frm c4 (by decide) (by simp) (by simp)) (FN_trans (FN_now ?_) (FN_Frm g3 (by decide) (by simp) (by simp))))
    intro j hj
    exact d3 j (by omega)
theorem turnedOver_ok {M : MS} {e w by' ties : Nat} {A B : List Int32} (hp : 4 + 2618 * e + w + 2 + (gatherL A 0).length ≤ 10476) (hk : KeptAt (M.2.1 30) (4 + 2618 * e + w) A) (hB : Row M 21 26 B) (hA : okO A) (hB' : okO B) (ho : oldL A = oldL B) (hl : A.length + B.length ≤ 700) (ht : M.1 33 = nI ties) (ht2 : ties < 1000) (he : e < 1000) (hb : by' < 1000) :
    ∃ M', f12_turnedOver M (nI e) (nI by') (nI w) = some M' ∧ KeptAt (M'.2.1 30) (4 + 2618 * e + w) (turnC (aheadB ties e by') A B) ∧ Row M' 21 26 (turnD (aheadB ties e by') A B) ∧ FN [20, 21, 22, 23, 24] [25, 26, 27, 28] (fun j => 4 + 2618 * e + w ≤ j ∧ j < 4 + 2618 * e + w + 2 + (gatherL A 0).length) M M' := by
  obtain ⟨M', M2, v3, M4, M6, h1, h2, h3, h4, h5, h6, h7, h8⟩ := over_ok hp hk hB hA hB' ho hl ht ht2 he hb
  refine ⟨M', ?_, h6, h7, h8⟩
  unfold f12_turnedOver
  rw [of_ok]
  simp only [Option.bind_some, h1, h2, h3, h4, h5]
/-- a stack is carried over B, the latest first -/
def carS (ah : Bool) : List (Nat × List Int32) → List Int32 → List (Nat × List Int32) × List Int32
  | [], B => ([], B)
  | x :: s, B => ((x.1, turnC ah x.2 (carS ah s B).2) :: (carS ah s B).1, turnD ah x.2 (carS ah s B).2)
theorem carS_snoc (ah : Bool) (s : List (Nat × List Int32)) (x : Nat × List Int32) (B : List Int32) : carS ah (s ++ [x]) B = ((carS ah s (turnD ah x.2 B)).1 ++ [(x.1, turnC ah x.2 B)], (carS ah s (turnD ah x.2 B)).2) := by
  induction s with
  | nil => rfl
  | cons y s ih => rw [List.cons_append, carS, carS, ih]; rfl
theorem carS_len (ah : Bool) (s : List (Nat × List Int32)) (B : List Int32) : (carS ah s B).1.length = s.length := by
  induction s with
  | nil => rfl
  | cons y s ih => rw [carS, List.length_cons, List.length_cons, ih]
theorem carS_E (ah : Bool) (s : List (Nat × List Int32)) (B : List Int32) (a : Nat) : stkE a (carS ah s B).1 = stkE a s := by
  induction s generalizing a with
  | nil => rfl
  | cons y s ih => rw [carS, stkE, stkE, ih]
/-- a stack is one of texts of so many letters: the latest is of that many, each other one of what the next makes -/
def chn : List (Nat × List Int32) → Nat → Prop
  | [], _ => True
  | x :: s, n => okO x.2 ∧ chn s n ∧ oldL x.2 = (match s with | [] => n | y :: _ => newL y.2)
/-- how many letters are put by all of them -/
def putsS : List (Nat × List Int32) → Nat
  | [] => 0
  | x :: s => putsL x.2 + putsS s
theorem chn_snoc {s : List (Nat × List Int32)} {x : Nat × List Int32} {n : Nat} (h : chn (s ++ [x]) n) : okO x.2 ∧ oldL x.2 = n ∧ chn s (newL x.2) := by
  induction s with
  | nil => exact ⟨h.1, h.2.2, trivial⟩
  | cons y s ih =>
    obtain ⟨h1, h2, h3⟩ : okO y.2 ∧ chn (s ++ [x]) n ∧ oldL y.2 = (match s ++ [x] with | [] => n | z :: _ => newL z.2) := h
    obtain ⟨i1, i2, i3⟩ := ih h2
    refine ⟨i1, i2, h1, i3, ?_⟩
    rcases s with _ | ⟨z, s⟩
    · exact h3
    · exact h3
theorem putsS_app (s t : List (Nat × List Int32)) : putsS (s ++ t) = putsS s + putsS t := by
  induction s with
  | nil => simp [putsS]
  | cons y s ih => rw [List.cons_append, putsS, putsS, ih]; omega
theorem carries_loop {e by' ties a : Nat} (ht2 : ties < 1000) (he : e < 1000) (hb : by' < 1000) {c6 : Int32} :
    ∀ (k : Nat) (s t : List (Nat × List Int32)) (n N : Nat) (B : List Int32) (M : MS), s.length = k → stk (M.2.1 30) a (s ++ t) → stkE a (s ++ t) ≤ 10476 → k < 1000 → chn s N → okO B → oldL B = N → N + putsS s + putsL B ≤ 240 → Row M 21 26 B → M.1 33 = nI ties → k < n →
    ∃ M', L12_carriesStack_56 (nI e) (nI by') (nI a) c6 n (nI k - 1) M = some M' ∧ stk (M'.2.1 30) a ((carS (aheadB ties e by') s B).1 ++ t) ∧ FN [20, 21, 22, 23, 24] [25, 26, 27, 28] (fun j => a ≤ j ∧ j < stkE a s) M M' := by
  intro k
  induction k with
  | zero =>
    intro s t n N B M hs hst hE hk hch hB hold hsum hr ht hn
    obtain ⟨n, rfl⟩ : ∃ j, n = j + 1 := ⟨n - 1, by omega⟩
    have : s = [] := List.length_eq_zero_iff.mp hs
    subst this
    unfold L12_carriesStack_56
    rw [if_pos (by decide)]
    exact ⟨M, rfl, hst, FN_refl _ _ _ _⟩
  | succ k ih =>
    intro s t n N B M hs hst hE hk hch hB hold hsum hr ht hn
    obtain ⟨n, rfl⟩ : ∃ j, n = j + 1 := ⟨n - 1, by omega⟩
    obtain ⟨s, x, rfl⟩ : ∃ s' x, s = s' ++ [x] := by
      refine ⟨s.dropLast, s.getLast (by intro h; rw [h] at hs; simp at hs), ?_⟩
      exact (List.dropLast_concat_getLast _).symm
    rw [List.length_append, List.length_singleton] at hs
    obtain ⟨c1, c2, c3⟩ := chn_snoc hch
    rw [putsS_app] at hsum
    simp only [putsS] at hsum
    have hlx := (cnt_len c1)
    have hlB := (cnt_len hB)
    rw [List.append_assoc] at hst hE
    have hE' := hE
    rw [stkE_app, List.cons_append, List.nil_append, stkE] at hE'
    have hg := stkE_ge t (stkE a s + 3 + x.1)
    have hge := stkE_ge s a
    obtain ⟨st1, st2⟩ := (stk_app _ _ _).mp hst
    rw [List.cons_append, List.nil_append, stk] at st2
    obtain ⟨x1, x2, x3, x4⟩ := st2
    have eE := entryAt_ok s ([x] ++ t) hst hE (by omega)
    obtain ⟨M', M2, v3, M4, M6, h1, h2, h3, h4, h5, h6, h7, h8⟩ := over_ok (p := stkE a s + 1) (e := e) (by' := by') (ties := ties) (by omega) x3 hr c1 hB (by omega) (by omega) ht ht2 he hb
    obtain ⟨t1, t2, t3, t4, t5, t6, t7, t8, t9⟩ := turn_ok (ah := aheadB ties e by') c1 hB (by omega)
    have m1 := mk_len c1 0
    have m2 := mk_len t1 0
    have hst' : stk (M'.2.1 30) a (s ++ ((x.1, turnC (aheadB ties e by') x.2 B) :: t)) := by
      rw [stk_app]
      refine ⟨stk_eq st1 (fun j j1 j2 => h8.2.2.2 j (by omega)), ?_, by dsimp only; omega, h6, stk_eq x4 (fun j j1 j2 => h8.2.2.2 j (by omega))⟩
      rw [h8.2.2.2 _ (by omega)]; exact x1
    obtain ⟨M'', g1, g2, g3⟩ := ih s ((x.1, turnC (aheadB ties e by') x.2 B) :: t) n (newL x.2) (turnD (aheadB ties e by') x.2 B) M' (by omega) hst' (by rw [stkE_app, stkE]; exact hE') (by omega) c3 t2 t4 (by omega) h7 (by rw [h8.2.1 _ (by decide)]; exact ht) (by omega)
    refine ⟨M'', ?_, ?_, ?_⟩
    · unfold L12_carriesStack_56
      rw [nI_pred, if_neg (nI_pos (by omega)), show k = s.length by omega, eE, Option.bind_some, nI_1, h1]
      simp only [Option.bind_some, h2, h3, h4, h5]
      rw [show s.length = k by omega, show nI k + (-1 : Int32) = nI k - 1 by rw [Int32.sub_eq_add_neg]]
      exact g1
    · rw [carS_snoc]
      simp only [List.append_assoc, List.singleton_append]
      exact g2
    · refine FN_trans (FN_mono h8 (fun _ h => h) (fun _ h => h) ?_) (FN_mono g3 (fun _ h => h) (fun _ h => h) ?_)
      · intro j hj
        rw [stkE_app]; simp only [stkE]; omega
      · intro j hj
        rw [stkE_app]; simp only [stkE]; omega
