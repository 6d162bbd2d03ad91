/-! ===== PART II, the reference: the server's text ===== -/
theorem isIn_ok (p q r : Int64) : f12_isIn p q r = some (if q.toInt ≤ p.toInt ∧ p.toInt ≤ r.toInt then 1 else 0) := by
  unfold f12_isIn
  by_cases h1 : p < q
  · rw [if_pos ((lg_cmp_lt p q).mpr h1), Option.bind_some, bz0, Option.bind_some, if_neg]
    rw [Int64.lt_iff_toInt_lt] at h1
    omega
  · rw [if_neg (fun h => h1 ((lg_cmp_lt p q).mp h))]
    rw [Int64.lt_iff_toInt_lt] at h1
    by_cases h2 : r < p
    · rw [if_pos ((lg_cmp_gt p r).mpr h2), Option.bind_some, bz0, Option.bind_some, if_neg]
      rw [Int64.lt_iff_toInt_lt] at h2
      omega
    · rw [if_neg (fun h => h2 ((lg_cmp_gt p r).mp h)), Option.bind_some, bz1, Option.bind_some, if_pos]
      rw [Int64.lt_iff_toInt_lt] at h2
      omega
theorem i64 (a : Int32) : a.toInt64.toInt = a.toInt := Int32.toInt_toInt64 a
/-- letters with something of each: what is put gets c -/
def chgC (c : Int32) : List Int32 → List Int32 → List Int32
  | [], _ => []
  | v :: A, t => if v < 0 then chgC c A t.tail else if v = 0 then t.headD 0 :: chgC c A t.tail else c :: chgC c A t
theorem chgC_len {c : Int32} {A : List Int32} (hA : ∀ v ∈ A, okV v) (t : List Int32) : (chgC c A t).length = newL A := by
  induction A generalizing t with
  | nil => rfl
  | cons v A ih =>
    have h' : ∀ v ∈ A, okV v := fun x hx => hA x (by simp [hx])
    rw [chgC, newL]
    rcases ok3 (hA v (by simp)) with rfl | rfl | ⟨p1, p2, p3, p4, p5⟩
    · simp only [k3, if_true, if_false, List.length_cons, ih h']; omega
    · simp only [k6, if_true, if_false, ih h']; omega
    · simp only [p3, p4, if_true, if_false, List.length_cons, ih h']; omega
theorem both_loop {N : Nat} {c1 : Int32} (hN : N ≤ 700) :
    ∀ (A : List Int32) (n i p : Nat) (t u c d : List Int32) (M : MS), M.1 26 = nI N → seg (M.2.1 21) i A → seg (M.2.1 47) p t → seg (M.2.1 48) p u → u.length = t.length → i + A.length = N → p + t.length ≤ 300 → (∀ v ∈ A, okV v) → oldL A ≤ t.length → seg (M.2.1 50) 0 c → seg (M.2.1 29) 0 d → c.length = d.length → c.length + newL A ≤ 300 → A.length < n →
    ∃ M', L12_changesBoth_7 c1 n (nI c.length) (nI p) (nI i) M = some (nI (c ++ chgL A t).length, M') ∧ seg (M'.2.1 50) 0 (c ++ chgL A t) ∧ seg (M'.2.1 29) 0 (d ++ chgC c1 A u) ∧ Frm [50, 29] [] M M' := by
  intro A
  induction A with
  | nil =>
    intro n i p t u c d M h26 hsA hst hsu hut hi hp hv ho hr hr2 hcd hc hn
    obtain ⟨n, rfl⟩ : ∃ k, n = k + 1 := ⟨n - 1, by omega⟩
    rw [List.length_nil, Nat.add_zero] at hi
    unfold L12_changesBoth_7
    rw [show gF M 26 = nI N from h26, if_pos (nI_le (by omega) (by omega)), chgL, chgC, List.append_nil, List.append_nil]
    exact ⟨M, rfl, hr, hr2, Frm_refl _ _ _⟩
  | cons v A ih =>
    intro n i p t u c d M h26 hsA hst hsu hut hi hp hv ho hr hr2 hcd hc hn
    rw [List.length_cons] at hi hn
    obtain ⟨n, rfl⟩ : ∃ k, n = k + 1 := ⟨n - 1, by omega⟩
    obtain ⟨a1', a2⟩ := seg_cons hsA
    have l1 : ld M 21 (nI i) = some v := by rw [ld_n (show i < 700 by omega), a1']
    have hv' : ∀ x ∈ A, okV x := fun x hx => hv x (by simp [hx])
    have step : ∀ (x y : Int32) (p' : Nat) (t' u' : List Int32), c.length < 300 → seg (M.2.1 47) p' t' → seg (M.2.1 48) p' u' → u'.length = t'.length → p' + t'.length ≤ 300 → oldL A ≤ t'.length → c.length + 1 + newL A ≤ 300 →
        ∃ M', L12_changesBoth_7 c1 n (nI (c.length + 1)) (nI p') (nI (i + 1)) (sR (sR M 50 (upd (M.2.1 50) c.length x)) 29 (upd (M.2.1 29) c.length y)) = some (nI (c ++ (x :: chgL A t')).length, M') ∧ seg (M'.2.1 50) 0 (c ++ (x :: chgL A t')) ∧ seg (M'.2.1 29) 0 (d ++ (y :: chgC c1 A u')) ∧ Frm [50, 29] [] M M' := by
      intro x y p' t' u' hcl h1 h1' hut' h2 h3 h4
      have hf : Frm [50, 29] [] M (sR (sR M 50 (upd (M.2.1 50) c.length x)) 29 (upd (M.2.1 29) c.length y)) := Frm_trans (Frm_sR (by decide)) (Frm_sR (by decide))
      have hsn : seg (upd (M.2.1 50) c.length x) 0 (c ++ [x]) := by
        have := seg_snoc (v := x) hr
        rw [Nat.zero_add] at this
        exact this
      have hsn2 : seg (upd (M.2.1 29) c.length y) 0 (d ++ [y]) := by
        have := seg_snoc (v := y) hr2
        rw [Nat.zero_add, ← hcd] at this
        exact this
      obtain ⟨M', e1, e2, e3, e4⟩ := ih n (i + 1) p' t' u' (c ++ [x]) (d ++ [y]) (sR (sR M 50 (upd (M.2.1 50) c.length x)) 29 (upd (M.2.1 29) c.length y)) (by rw [hf.2.1 _ (by simp)]; exact h26) (by rw [hf.1 _ (by decide)]; exact a2) (by rw [hf.1 _ (by decide)]; exact h1) (by rw [hf.1 _ (by decide)]; exact h1') hut' (by omega) h2 hv' h3 (by rw [sR_ne _ _ (by decide), sR_get]; exact hsn) (by rw [sR_get]; exact hsn2) (by simp; exact hcd) (by simp; omega) (by omega)
      rw [List.append_assoc, List.length_append (as := c) (bs := [x]), List.length_singleton] at e1
      rw [List.append_assoc] at e2 e3
      exact ⟨M', e1, e2, e3, Frm_trans hf e4⟩
    unfold L12_changesBoth_7
    rw [chgL, chgC, show gF M 26 = nI N from h26, if_neg (nI_ge (by omega) (by omega))]
    rw [oldL] at ho
    rw [newL] at hc
    rcases ok3 (hv v (by simp)) with rfl | rfl | ⟨p1, p2, p3, p4, p5⟩
    · simp only [k4, if_true] at ho
      simp only [k3, if_false] at hc
      obtain ⟨t1, t2, t3⟩ := seg_hd hst (by omega)
      obtain ⟨u1, u2, u3⟩ := seg_hd hsu (by omega)
      have w : ∀ x, sd M 50 (nI c.length) x = some (sR M 50 (upd (M.2.1 50) c.length x)) := fun x => sd_n (show c.length < 300 by omega)
      have l2 : ld M 47 (nI p) = some (t.headD 0) := by rw [ld_n (show p < 300 by omega), t1]
      have l3 : ∀ f, ld (sR M 50 f) 21 (nI i) = some 0 := fun f => by rw [ld_n (show i < 700 by omega), sR_ne _ _ (by decide), a1']
      have l4 : ∀ f, ld (sR M 50 f) 48 (nI p) = some (u.headD 0) := fun f => by rw [ld_n (show p < 300 by omega), sR_ne _ _ (by decide), u1]
      have w2 : ∀ f x, sd (sR M 50 f) 29 (nI c.length) x = some (sR (sR M 50 f) 29 (upd (M.2.1 29) c.length x)) := fun f x => by rw [sd_n (show c.length < 700 by omega), sR_ne _ _ (by decide)]
      have l5 : ∀ f g, ld (sR (sR M 50 f) 29 g) 21 (nI i) = some 0 := fun f g => by rw [ld_n (show i < 700 by omega), sR_ne _ _ (by decide), sR_ne _ _ (by decide), a1']
      simp only [l1, l2, l3, l4, l5, w, w2, k3, if_true, if_false, Option.bind_some, bn2_s, nI_1]
      exact step _ _ (p + 1) t.tail u.tail (by omega) t2 u2 (by omega) (by omega) (by omega) (by omega)
    · simp only [k5, if_true] at ho
      simp only [k6, if_true] at hc
      obtain ⟨t1, t2, t3⟩ := seg_hd hst (by omega)
      obtain ⟨u1, u2, u3⟩ := seg_hd hsu (by omega)
      simp only [l1, k6, k7, if_true, if_false, Option.bind_some, bn2_s, nI_1]
      exact ih n (i + 1) (p + 1) t.tail u.tail c d M h26 a2 t2 u2 (by omega) (by omega) (by omega) hv' (by omega) hr hr2 hcd (by omega) (by omega)
    · simp only [p2, if_false] at ho
      simp only [p3, if_false] at hc
      have w : ∀ x, sd M 50 (nI c.length) x = some (sR M 50 (upd (M.2.1 50) c.length x)) := fun x => sd_n (show c.length < 300 by omega)
      have l3 : ∀ f, ld (sR M 50 f) 21 (nI i) = some v := fun f => by rw [ld_n (show i < 700 by omega), sR_ne _ _ (by decide), a1']
      have w2 : ∀ f x, sd (sR M 50 f) 29 (nI c.length) x = some (sR (sR M 50 f) 29 (upd (M.2.1 29) c.length x)) := fun f x => by rw [sd_n (show c.length < 700 by omega), sR_ne _ _ (by decide)]
      have l5 : ∀ f g, ld (sR (sR M 50 f) 29 g) 21 (nI i) = some v := fun f g => by rw [ld_n (show i < 700 by omega), sR_ne _ _ (by decide), sR_ne _ _ (by decide), a1']
      simp only [l1, l3, l5, w, w2, p1, p3, p4, if_true, if_false, Option.bind_some, bn2_s, nI_1]
      exact step v c1 p t u (by omega) hst hsu hut hp (by omega) (by omega)
/-- loops that copy two lists at a time -/
theorem both_copy : ∀ (l m l1 m1 : List Int32) (n : Nat) (M : MS), l.length = m.length → l1.length = m1.length → l1.length + l.length ≤ 300 → seg (M.2.1 50) l1.length l → seg (M.2.1 29) l1.length m → seg (M.2.1 47) 0 l1 → seg (M.2.1 48) 0 m1 → l.length < n →
    ∃ M', L12_changesBoth_109 (nI (l1.length + l.length)) n (nI l1.length) M = some M' ∧ seg (M'.2.1 47) 0 (l1 ++ l) ∧ seg (M'.2.1 48) 0 (m1 ++ m) ∧ Frm [47, 48] [] M M' := by
  intro l
  induction l with
  | nil =>
    intro m l1 m1 n M h1 h2 h3 s1 s2 s3 s4 hn
    obtain ⟨n, rfl⟩ : ∃ k, n = k + 1 := ⟨n - 1, by omega⟩
    have : m = [] := List.length_eq_zero_iff.mp (by rw [← h1]; rfl)
    subst this
    unfold L12_changesBoth_109
    rw [if_pos (nI_le (by simp) (by simp at h3 ⊢; omega)), List.append_nil, List.append_nil]
    exact ⟨M, rfl, s3, s4, Frm_refl _ _ _⟩
  | cons v l ih =>
    intro m l1 m1 n M h1 h2 h3 s1 s2 s3 s4 hn
    rw [List.length_cons] at h1 h3 hn
    obtain ⟨n, rfl⟩ : ∃ k, n = k + 1 := ⟨n - 1, by omega⟩
    cases m with
    | nil => simp at h1
    | cons w m =>
      rw [List.length_cons] at h1
      obtain ⟨a1, a2⟩ := seg_cons s1
      obtain ⟨b1, b2⟩ := seg_cons s2
      have hf : Frm [47, 48] [] M (sR (sR M 47 (upd (M.2.1 47) l1.length v)) 48 (upd (M.2.1 48) l1.length w)) := Frm_trans (Frm_sR (by decide)) (Frm_sR (by decide))
      have t1 : seg (upd (M.2.1 47) l1.length v) 0 (l1 ++ [v]) := by
        have := seg_snoc (v := v) s3
        rw [Nat.zero_add] at this
        exact this
      have t2 : seg (upd (M.2.1 48) l1.length w) 0 (m1 ++ [w]) := by
        have := seg_snoc (v := w) s4
        rw [Nat.zero_add, ← h2] at this
        exact this
      obtain ⟨M', e1, e2, e3, e4⟩ := ih m (l1 ++ [v]) (m1 ++ [w]) n (sR (sR M 47 (upd (M.2.1 47) l1.length v)) 48 (upd (M.2.1 48) l1.length w)) (by omega) (by simp; exact h2) (by simp; omega) (by rw [hf.1 50 (by decide), List.length_append, List.length_singleton]; exact a2) (by rw [hf.1 29 (by decide), List.length_append, List.length_singleton]; exact b2) (by rw [sR_ne _ _ (by decide), sR_get]; exact t1) (by rw [sR_get]; exact t2) (by omega)
      rw [List.length_append, List.length_singleton, show l1.length + 1 + l.length = l1.length + (l.length + 1) by omega] at e1
      rw [List.append_assoc] at e2 e3
      refine ⟨M', ?_, e2, e3, Frm_trans hf e4⟩
      unfold L12_changesBoth_109
      rw [List.length_cons, if_neg (nI_ge (by omega) (by omega)), ld_n (show l1.length < 300 by omega), a1, Option.bind_some, sd_n (show l1.length < 300 by omega), Option.bind_some, ld_n (show l1.length < 700 by omega), sR_ne _ _ (by decide), b1, Option.bind_some, sd_n (show l1.length < 300 by omega), sR_ne _ _ (by decide), Option.bind_some, nI_1]
      exact e1
theorem changesBoth_ok {M : MS} {A t u : List Int32} {c1 : Int32} (hB : Row M 21 26 A) (hA : okO A) (hl : A.length ≤ 700) (hst : seg (M.2.1 47) 0 t) (hsu : seg (M.2.1 48) 0 u) (hut : u.length = t.length) (ht : t.length ≤ 300) (ho : oldL A = t.length) (hn : newL A ≤ 300) :
    ∃ M', f12_changesBoth M c1 = some (nI (newL A), M') ∧ seg (M'.2.1 47) 0 (chgL A t) ∧ seg (M'.2.1 48) 0 (chgC c1 A u) ∧ Frm [29, 47, 48, 50] [] M M' := by
  obtain ⟨M1, a1, a2, a3, a4⟩ := both_loop (c1 := c1) hl A FU 0 0 t u [] [] M hB.1 hB.2 hst hsu hut (by omega) (by omega) hA (by omega) (fun k hk => absurd hk (Nat.not_lt_zero _)) (fun k hk => absurd hk (Nat.not_lt_zero _)) rfl (by simp; exact hn) (by rw [FU_eq]; omega)
  rw [List.nil_append] at a1 a2 a3
  have l1 := chgL_len hA t
  have l2 := chgC_len (c := c1) hA u
  obtain ⟨M', b1, b2, b3, b4⟩ := both_copy (chgL A t) (chgC c1 A u) [] [] FU M1 (by omega) rfl (by simp; omega) a2 a3 (fun k hk => absurd hk (Nat.not_lt_zero _)) (fun k hk => absurd hk (Nat.not_lt_zero _)) (by rw [FU_eq]; omega)
  refine ⟨M', ?_, b2, b3, Frm_trans (Frm_mono a4 (by simp) (by simp)) (Frm_mono b4 (by simp) (by simp))⟩
  unfold f12_changesBoth
  rw [show L12_changesBoth_7 c1 FU (0 : Int32) (0 : Int32) (0 : Int32) M = _ from a1, bn2_s, l1]
  rw [List.length_nil, Nat.zero_add, l1] at b1
  rw [show L12_changesBoth_109 (nI (newL A)) FU (0 : Int32) M1 = _ from b1, Option.bind_some]
