/-! ===== PART II, the reference: taken back, a text changed, a place carried ===== -/
def invR : List Int32 → List Int32 → List Int32
  | [], _ => []
  | v :: A, t => (if v = 0 then 0 else if v = -1 then t.headD 0 else -1) :: invR A (if v ≤ 0 then t.tail else t)
theorem invR_len (A t : List Int32) : (invR A t).length = A.length := by
  induction A generalizing t with
  | nil => rfl
  | cons v A ih => rw [invR, List.length_cons, List.length_cons, ih]
def chgL : List Int32 → List Int32 → List Int32
  | [], _ => []
  | v :: A, t => if v < 0 then chgL A t.tail else if v = 0 then t.headD 0 :: chgL A t.tail else v :: chgL A t
theorem chgL_len {A : List Int32} (hA : ∀ v ∈ A, okV v) (t : List Int32) : (chgL A t).length = newL A := by
  induction A generalizing t with
  | nil => rfl
  | cons v A ih =>
    have h' : ∀ v ∈ A, okV v := fun x hx => hA x (by simp [hx])
    rw [chgL, newL]
    rcases ok3 (hA v (by simp)) with rfl | rfl | ⟨p1, p2, p3, p4, p5⟩
    · simp only [k3, if_true, if_false, List.length_cons, ih h']; omega
    · simp only [k6, if_true, if_false, ih h']; omega
    · simp only [p3, p4, if_true, if_false, List.length_cons, ih h']; omega
theorem seg_hd {f : Nat → Int32} {a : Nat} {t : List Int32} (h : seg f a t) (hl : 0 < t.length) : f a = t.headD 0 ∧ seg f (a + 1) t.tail ∧ t.length = t.tail.length + 1 := by
  rcases t with _ | ⟨x, t⟩
  · simp at hl
  · exact ⟨(seg_cons h).1, (seg_cons h).2, by simp⟩
theorem inverts_loop {a1 NA : Nat} (h22 : a1 ≠ 22) (hNA : NA ≤ 700) :
    ∀ (A : List Int32) (n i p : Nat) (t c : List Int32) (M : MS), M.1 25 = nI NA → seg (M.2.1 20) i A → seg (M.2.1 a1) p t → i + A.length = NA → p + t.length ≤ mLn a1 → (∀ v ∈ A, okV v) → oldL A ≤ t.length → Row M 22 27 c → c.length + A.length ≤ 700 → A.length < n →
    ∃ M', L12_inverts_10 a1 n (nI p) (nI i) M = some M' ∧ Row M' 22 27 (c ++ invR A t) ∧ Frm [22] [27] M M' := by
  have hs := mLn_s a1
  intro A
  induction A with
  | nil =>
    intro n i p t c M h25 hsA hst hi hp hv ho hr hc hn
    obtain ⟨n, rfl⟩ : ∃ k, n = k + 1 := ⟨n - 1, by omega⟩
    rw [List.length_nil, Nat.add_zero] at hi
    unfold L12_inverts_10
    rw [show gF M 25 = nI NA from h25, if_pos (nI_le (by omega) (by omega)), invR, List.append_nil]
    exact ⟨M, rfl, hr, Frm_refl _ _ _⟩
  | cons v A ih =>
    intro n i p t c M h25 hsA hst hi hp hv ho hr hc hn
    rw [List.length_cons] at hi hc hn
    obtain ⟨n, rfl⟩ : ∃ k, n = k + 1 := ⟨n - 1, by omega⟩
    obtain ⟨a1', a2⟩ := seg_cons hsA
    have l1 : ld M 20 (nI i) = some v := by rw [ld_n (show i < 700 by omega), a1']
    have g := fun x => gC_ok hr (show c.length < 700 by omega) x
    have l3 : ∀ x, ld (gC M x) 20 (nI i) = some v := fun x => by rw [ld_n (show i < 700 by omega), (gC_frm M x).1 _ (by decide), a1']
    have hv' : ∀ x ∈ A, okV x := fun x hx => hv x (by simp [hx])
    have step : ∀ (x : Int32) (p' : Nat) (t' : List Int32), seg (M.2.1 a1) p' t' → p' + t'.length ≤ mLn a1 → oldL A ≤ t'.length →
        ∃ M', L12_inverts_10 a1 n (nI p') (nI (i + 1)) (gC M x) = some M' ∧ Row M' 22 27 (c ++ (x :: invR A t')) ∧ Frm [22] [27] M M' := by
      intro x p' t' h1 h2 h3
      have hf := gC_frm M x
      obtain ⟨M', e1, e2, e3⟩ := ih n (i + 1) p' t' (c ++ [x]) (gC M x) (by rw [hf.2.1 _ (by decide), h25]) (by rw [hf.1 _ (by decide)]; exact a2) (by rw [hf.1 _ (by simp [h22])]; exact h1) (by omega) h2 hv' h3 (gC_row hr (by omega) x) (by simp; omega) (by omega)
      refine ⟨M', e1, ?_, Frm_trans hf e3⟩
      rw [List.append_assoc] at e2
      exact e2
    have c1 : (gF M 25 ≤ nI i) = False := eq_false (by rw [show gF M 25 = nI NA from h25]; exact nI_ge (by omega) (by omega))
    unfold L12_inverts_10
    rw [invR]
    rw [oldL] at ho
    rcases ok3 (hv v (by simp)) with rfl | rfl | ⟨p1, p2, p3, p4, p5⟩
    · simp only [k4, if_true] at ho
      obtain ⟨t1, t2, t3⟩ := seg_hd hst (by omega)
      simp only [c1, l1, l3, k3, k4, if_true, if_false, Option.bind_some, g, nI_1]
      exact step 0 (p + 1) t.tail t2 (by omega) (by omega)
    · simp only [k5, if_true] at ho
      obtain ⟨t1, t2, t3⟩ := seg_hd hst (by omega)
      have l2 : ld M a1 (nI p) = some (t.headD 0) := by rw [ld_n (by omega), t1]
      simp only [c1, l1, l2, l3, k1, k5, k7, if_true, if_false, Option.bind_some, g, nI_1]
      exact step _ (p + 1) t.tail t2 (by omega) (by omega)
    · simp only [p2, if_false] at ho
      simp only [c1, l1, l3, p1, p2, p4, p5, if_true, if_false, Option.bind_some, g, nI_1]
      exact step (-1) p t hst hp (by omega)
theorem inverts_ok {M : MS} {A t : List Int32} {a1 p : Nat} (h22 : a1 ≠ 22) (hA : Row M 20 25 A) (hst : seg (M.2.1 a1) p t) (hp : p + t.length ≤ mLn a1) (hv : ∀ v ∈ A, okV v) (ho : oldL A ≤ t.length) (hl : A.length ≤ 700) :
    ∃ M', f12_inverts M a1 (nI p) = some M' ∧ Row M' 22 27 (settleL (invR A t)) ∧ Frm [22, 24] [27] M M' := by
  have hf : Frm [22, 24] [27] M (sF M 27 (0 : Int32)) := Frm_sF (by decide)
  obtain ⟨M1, e1, e2, e3⟩ := inverts_loop (NA := A.length) h22 hl A FU 0 p t [] (sF M 27 (0 : Int32)) (by rw [hf.2.1 _ (by decide)]; exact hA.1) hA.2 hst (by omega) hp hv ho (row_new M) (by simp; omega) (by rw [FU_eq]; omega)
  rw [List.nil_append] at e2
  obtain ⟨M', h1, h2, h3⟩ := settle1 e2 (by rw [invR_len]; omega) (Frm_trans hf (Frm_mono e3 (by simp) (by simp)))
  refine ⟨M', ?_, h2, h3⟩
  unfold f12_inverts
  rw [show L12_inverts_10 a1 FU (nI p) (0 : Int32) (sF M 27 (0 : Int32)) = some M1 from e1, Option.bind_some, h1, Option.bind_some]
theorem changes_loop {a1 a3 N : Nat} {c2 : Int32} (h29 : a1 ≠ 29) (h29' : a3 ≠ 29) (hN : N ≤ mLn a3) :
    ∀ (A : List Int32) (n i p : Nat) (t c : List Int32) (M : MS), seg (M.2.1 a3) i A → seg (M.2.1 a1) p t → i + A.length = N → p + t.length ≤ mLn a1 → (∀ v ∈ A, okV v) → oldL A ≤ t.length → seg (M.2.1 29) 0 c → c.length + A.length ≤ 700 → A.length < n →
    ∃ M', L12_changes_9 a1 c2 a3 (nI N) n (nI c.length) (nI p) (nI i) M = some (nI (c ++ chgL A t).length, M') ∧ seg (M'.2.1 29) 0 (c ++ chgL A t) ∧ Frm [29] [] M M' := by
  have hs := mLn_s a1
  have hs3 := mLn_s a3
  intro A
  induction A with
  | nil =>
    intro n i p t c M hsA hst hi hp hv ho hr hc hn
    obtain ⟨n, rfl⟩ : ∃ k, n = k + 1 := ⟨n - 1, by omega⟩
    rw [List.length_nil, Nat.add_zero] at hi
    unfold L12_changes_9
    rw [if_pos (nI_le (by omega) (by omega)), chgL, List.append_nil]
    exact ⟨M, rfl, hr, Frm_refl _ _ _⟩
  | cons v A ih =>
    intro n i p t c M hsA hst hi hp hv ho hr hc hn
    rw [List.length_cons] at hi hc hn
    obtain ⟨n, rfl⟩ : ∃ k, n = k + 1 := ⟨n - 1, by omega⟩
    obtain ⟨a1', a2⟩ := seg_cons hsA
    have l1 : ld M a3 (nI i) = some v := by rw [ld_n (by omega), a1']
    have hv' : ∀ x ∈ A, okV x := fun x hx => hv x (by simp [hx])
    have w : ∀ x, sd M 29 (nI c.length) x = some (sR M 29 (upd (M.2.1 29) c.length x)) := fun x => sd_n (show c.length < 700 by omega)
    have l3 : ∀ x, ld (sR M 29 x) a3 (nI i) = some v := fun x => by rw [ld_n (by omega), sR_ne _ _ h29', a1']
    have step : ∀ (x : Int32) (p' : Nat) (t' : List Int32), seg (M.2.1 a1) p' t' → p' + t'.length ≤ mLn a1 → oldL A ≤ t'.length →
        ∃ M', L12_changes_9 a1 c2 a3 (nI N) n (nI (c.length + 1)) (nI p') (nI (i + 1)) (sR M 29 (upd (M.2.1 29) c.length x)) = some (nI (c ++ (x :: chgL A t')).length, M') ∧ seg (M'.2.1 29) 0 (c ++ (x :: chgL A t')) ∧ Frm [29] [] M M' := by
      intro x p' t' h1 h2 h3
      have hf : Frm [29] [] M (sR M 29 (upd (M.2.1 29) c.length x)) := Frm_sR (by decide)
      have hsn : seg (upd (M.2.1 29) c.length x) 0 (c ++ [x]) := by
        have := seg_snoc (v := x) hr
        rw [Nat.zero_add] at this
        exact this
      obtain ⟨M', e1, e2, e3⟩ := ih n (i + 1) p' t' (c ++ [x]) (sR M 29 (upd (M.2.1 29) c.length x)) (by rw [hf.1 _ (by simp [h29'])]; exact a2) (by rw [hf.1 _ (by simp [h29])]; exact h1) (by omega) h2 hv' h3 (by rw [sR_get]; exact hsn) (by simp; omega) (by omega)
      rw [List.append_assoc, List.length_append (as := c) (bs := [x]), List.length_singleton] at e1
      rw [List.append_assoc] at e2
      exact ⟨M', e1, e2, Frm_trans hf e3⟩
    unfold L12_changes_9
    rw [chgL, if_neg (nI_ge (by omega) (by omega))]
    rw [oldL] at ho
    rcases ok3 (hv v (by simp)) with rfl | rfl | ⟨p1, p2, p3, p4, p5⟩
    · simp only [k4, if_true] at ho
      obtain ⟨t1, t2, t3⟩ := seg_hd hst (by omega)
      have l2 : ld M a1 (nI p) = some (t.headD 0) := by rw [ld_n (by omega), t1]
      simp only [l1, l2, l3, w, k3, if_true, if_false, Option.bind_some, bn2_s, nI_1]
      exact step _ (p + 1) t.tail t2 (by omega) (by omega)
    · simp only [k5, if_true] at ho
      obtain ⟨t1, t2, t3⟩ := seg_hd hst (by omega)
      simp only [l1, k6, k7, if_true, if_false, Option.bind_some, bn2_s, nI_1]
      exact ih n (i + 1) (p + 1) t.tail c M a2 t2 (by omega) (by omega) hv' (by omega) hr (by omega) (by omega)
    · simp only [p2, if_false] at ho
      simp only [l1, l3, w, p1, p3, p4, if_true, if_false, Option.bind_some, bn2_s, nI_1]
      exact step v p t hst hp (by omega)
theorem changes_ok {M : MS} {A t : List Int32} {a1 a3 p : Nat} (h29 : a1 ≠ 29) (h29' : a3 ≠ 29) (hA : seg (M.2.1 a3) 0 A) (hl3 : A.length ≤ mLn a3) (hst : seg (M.2.1 a1) p t) (hp : p + t.length ≤ mLn a1) (hv : ∀ v ∈ A, okV v) (ho : oldL A ≤ t.length) (hl : A.length ≤ 700) (hp2 : p + newL A ≤ mLn a1) :
    ∃ g, f12_changes M a1 (nI p) a3 (nI A.length) = some (nI (newL A), sR (sR M 29 g) a1 (wr (M.2.1 a1) p (chgL A t))) := by
  have hs := mLn_s a1
  obtain ⟨M1, e1, e2, e3⟩ := changes_loop (c2 := nI p) h29 h29' hl3 A FU 0 p t [] M hA hst (by omega) hp hv ho (fun k hk => absurd hk (Nat.not_lt_zero _)) (by simp; omega) (by rw [FU_eq]; omega)
  rw [List.nil_append] at e1 e2
  have hlen := chgL_len hv t
  have hM1 : M1 = sR M 29 (M1.2.1 29) := by
    refine MS_ext (fun k => e3.2.1 k (by simp)) (fun k => ?_) e3.2.2
    by_cases hk : k = 29
    · subst hk; rw [sR_get]
    · rw [sR_ne _ _ hk, e3.1 k (by simp [hk])]
  have hnl : newL A ≤ 700 := by
    have : ∀ l : List Int32, newL l ≤ l.length := fun l => by
      induction l with
      | nil => exact Nat.le_refl _
      | cons v l ih => rw [newL, List.length_cons]; split <;> omega
    have := this A
    omega
  have h2 : L12_changes_70 a1 (nI p) (nI (newL A)) FU (0 : Int32) M1 = some (sR M1 a1 (wr (M1.2.1 a1) p (chgL A t))) := by
    refine cpl0 (src := 29) (s := 0) (d := p) (Ne.symm h29) (show 0 + _ ≤ 700 by omega) (by omega) (by rw [FU_eq]; omega) e2 (fun n i f hi => ?_) (fun n f => ?_)
    · conv => lhs; unfold L12_changes_70
      rw [if_neg (nI_ge (by omega) (by omega)), Nat.zero_add, nI_1, nI_add]
    · unfold L12_changes_70
      rw [if_pos (nI_le (by omega) (by omega))]
  refine ⟨M1.2.1 29, ?_⟩
  unfold f12_changes
  rw [show L12_changes_9 a1 (nI p) a3 (nI A.length) FU (0 : Int32) (nI p) (0 : Int32) M = _ from e1, bn2_s, hlen, h2, Option.bind_some]
  have e9 : M1.2.1 a1 = M.2.1 a1 := e3.1 _ (by simp [h29])
  rw [e9]
  conv => lhs; rw [hM1]
/-- where a place is behind it -/
def carN (place : Nat) (more : Bool) : List Int32 → Nat → Nat → Nat
  | [], _, q => q
  | v :: A, p, q => if 0 < v then carN place more A p (if p < place ∨ p = place ∧ more = true then q + 1 else q) else carN place more A (p + 1) (if v = -1 ∧ p < place then q - 1 else q)
theorem nI_dec {q : Nat} (h : 0 < q) : nI q + (-1 : Int32) = nI (q - 1) := by
  obtain ⟨k, rfl⟩ : ∃ k, q = k + 1 := ⟨q - 1, by omega⟩
  rw [Nat.add_sub_cancel, nI_succ, Int32.add_assoc]
  have : (1 : Int32) + -1 = 0 := by decide
  rw [this, Int32.add_zero]
theorem carried_loop {M : MS} {a1 N place : Nat} {more : Bool} {c3 : Int32} (hm : c3 = 0 ↔ ¬ more = true) (hN : N ≤ mLn a1) (hpl : place < 100000) :
    ∀ (A : List Int32) (n i p q : Nat), seg (M.2.1 a1) i A → i + A.length = N → (∀ v ∈ A, okV v) → place ≤ q + p → p + A.length < 100000 → q + A.length < 1000000 → A.length < n →
    L12_carried_9 a1 (nI N) (nI place) c3 M n (nI p) (nI q) (nI i) = some (nI (carN place more A p q)) := by
  have hs := mLn_s a1
  intro A
  induction A with
  | nil =>
    intro n i p q hsA hi hv hq hp hq2 hn
    obtain ⟨n, rfl⟩ : ∃ k, n = k + 1 := ⟨n - 1, by omega⟩
    rw [List.length_nil, Nat.add_zero] at hi
    unfold L12_carried_9
    rw [if_pos (nI_le (by omega) (by omega)), carN]
  | cons v A ih =>
    intro n i p q hsA hi hv hq hp hq2 hn
    rw [List.length_cons] at hi hn hp hq2
    obtain ⟨n, rfl⟩ : ∃ k, n = k + 1 := ⟨n - 1, by omega⟩
    obtain ⟨a1', a2⟩ := seg_cons hsA
    have l1 : ld M a1 (nI i) = some v := by rw [ld_n (by omega), a1']
    have hv' : ∀ x ∈ A, okV x := fun x hx => hv x (by simp [hx])
    unfold L12_carried_9
    rw [if_neg (nI_ge (by omega) (by omega)), carN]
    rcases ok3 (hv v (by simp)) with rfl | rfl | ⟨p1, p2, p3, p4, p5⟩
    · simp only [l1, k2, k3, k4, if_true, if_false, Option.bind_some, bn2_s, nI_1, false_and]
      exact ih n (i + 1) (p + 1) q a2 (by omega) hv' (by omega) (by omega) (by omega) (by omega)
    · simp only [l1, k5, k7, if_true, if_false, Option.bind_some, true_and]
      by_cases hp1 : p < place
      · rw [if_neg (nI_ge hp1 (by omega)), Option.bind_some, bn2_s, nI_1, nI_1, nI_dec (by omega), if_pos hp1]
        exact ih n (i + 1) (p + 1) (q - 1) a2 (by omega) hv' (by omega) (by omega) (by omega) (by omega)
      · rw [if_pos (nI_le (by omega) (by omega)), Option.bind_some, bn2_s, nI_1, nI_1, if_neg hp1]
        exact ih n (i + 1) (p + 1) q a2 (by omega) hv' (by omega) (by omega) (by omega) (by omega)
    · simp only [l1, p1, p2, if_true, if_false, Option.bind_some, hm]
      by_cases hp1 : p < place
      · rw [if_pos (nI_lt hp1 (by omega)), bn2_s, nI_1, nI_1, if_pos (Or.inl hp1)]
        exact ih n (i + 1) p (q + 1) a2 (by omega) hv' (by omega) (by omega) (by omega) (by omega)
      · rw [if_neg (nI_nlt (by omega) (by omega))]
        by_cases hp2 : p = place
        · rw [if_pos (by rw [hp2])]
          by_cases hmo : more = true
          · rw [if_neg (fun h => h hmo), bn2_s, nI_1, nI_1, if_pos (Or.inr ⟨hp2, hmo⟩)]
            exact ih n (i + 1) p (q + 1) a2 (by omega) hv' (by omega) (by omega) (by omega) (by omega)
          · rw [if_pos hmo, bn2_s, nI_1, if_neg (by rintro (h | h); exact hp1 h; exact hmo h.2)]
            exact ih n (i + 1) p q a2 (by omega) hv' (by omega) (by omega) (by omega) (by omega)
        · rw [if_neg (by rw [nI_eq (by omega) (by omega)]; exact hp2), bn2_s, nI_1, if_neg (by rintro (h | h); exact hp1 h; exact hp2 h.1)]
          exact ih n (i + 1) p q a2 (by omega) hv' (by omega) (by omega) (by omega) (by omega)
theorem carried_ok {M : MS} {a1 place : Nat} {A : List Int32} (more : Bool) (hA : seg (M.2.1 a1) 0 A) (hl : A.length ≤ mLn a1) (h9 : A.length < 9000) (hv : ∀ v ∈ A, okV v) (hpl : place < 100000) :
    f12_carried M a1 (nI A.length) (nI place) (if more then 1 else 0) = some (nI (carN place more A 0 place)) := by
  have h := carried_loop (more := more) (c3 := if more then 1 else 0) (by cases more <;> simp) hl hpl A FU 0 0 place hA (by omega) hv (by omega) (by omega) (by omega) (by rw [FU_eq]; omega)
  unfold f12_carried
  rw [show L12_carried_9 a1 (nI A.length) (nI place) (if more then 1 else 0) M FU (0 : Int32) (nI place) (0 : Int32) = _ from h, Option.bind_some]
