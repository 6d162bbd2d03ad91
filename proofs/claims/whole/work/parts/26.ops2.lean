/-! ===== PART II, the reference: one behind another, taken back, a text changed, a place carried ===== -/
/-- the letters of the text that it makes -/
def newL : List Int32 → Nat
  | [] => 0
  | v :: l => (if v < 0 then 0 else 1) + newL l
/-- B behind A, not settled yet -/
def joinR : List Int32 → List Int32 → List Int32
  | [], [] => []
  | [], b :: B => b :: joinR [] B
  | a :: A, [] => a :: joinR A []
  | a :: A, b :: B =>
    if a = -1 then -1 :: joinR A (b :: B)
    else if 0 < b then b :: joinR (a :: A) B
    else (if b = 0 then [a] else if a = 0 then [-1] else []) ++ joinR A B
termination_by A B => A.length + B.length
theorem joinR_len (A B : List Int32) : (joinR A B).length ≤ A.length + B.length := by
  fun_induction joinR A B <;> (try split) <;> (try split) <;> simp only [List.length_cons, List.length_nil, List.length_append] at * <;> omega
theorem i_nlt0 {a : Int32} : ¬ a < 0 ↔ 0 ≤ a := by
  rw [Int32.lt_iff_toInt_lt, Int32.le_iff_toInt_le]
  omega
theorem newL_0 {a : Int32} {A : List Int32} (hv : okV a) (h : newL (a :: A) = 0) : a = -1 ∧ newL A = 0 := by
  rw [newL] at h
  rcases ok3 hv with rfl | rfl | ⟨p1, p2, p3, p4, p5⟩
  · simp only [k3, if_false] at h; omega
  · exact ⟨rfl, by omega⟩
  · simp only [p3, if_false] at h; omega
theorem joins_loop {NA NB : Nat} (hNA : NA ≤ 700) (hNB : NB ≤ 700) :
    ∀ (m n i j : Nat) (A B c : List Int32) (M : MS), A.length + B.length = m → M.1 25 = nI NA → M.1 26 = nI NB → seg (M.2.1 20) i A → seg (M.2.1 21) j B → i + A.length = NA → j + B.length = NB → (∀ v ∈ A, okV v) → (∀ v ∈ B, okV v) → newL A = oldL B → Row M 22 27 c → c.length + A.length + B.length ≤ 700 → A.length + B.length < n →
    ∃ M', L12_joins_9 n (nI i) (nI j) M = some M' ∧ Row M' 22 27 (c ++ joinR A B) ∧ Frm [22] [27] M M' := by
  intro m
  induction m using Nat.strongRecOn with
  | _ m ih =>
  intro n i j A B c M hm h25 h26 hsA hsB hiA hjB hvA hvB ho hr hc hn
  obtain ⟨n, rfl⟩ : ∃ k, n = k + 1 := ⟨n - 1, by omega⟩
  have step : ∀ (v : Int32) (i' j' : Nat) (A' B' : List Int32), A'.length + B'.length < m → seg (M.2.1 20) i' A' → seg (M.2.1 21) j' B' → i' + A'.length = NA → j' + B'.length = NB → (∀ v ∈ A', okV v) → (∀ v ∈ B', okV v) → newL A' = oldL B' →
      ∃ M', L12_joins_9 n (nI i') (nI j') (gC M v) = some M' ∧ Row M' 22 27 (c ++ (v :: joinR A' B')) ∧ Frm [22] [27] M M' := by
    intro v i' j' A' B' hm' s1 s2 h1 h2 h3 h4 h5
    have hcl : c.length < 700 := by omega
    have hf := gC_frm M v
    obtain ⟨M', e1, e2, e3⟩ := ih _ (by omega) n i' j' A' B' (c ++ [v]) (gC M v) rfl (by rw [hf.2.1 _ (by decide), h25]) (by rw [hf.2.1 _ (by decide), h26]) (by rw [hf.1 _ (by decide)]; exact s1) (by rw [hf.1 _ (by decide)]; exact s2) h1 h2 h3 h4 h5 (gC_row hr hcl v) (by simp; omega) (by omega)
    refine ⟨M', e1, ?_, Frm_trans hf e3⟩
    rw [List.append_assoc] at e2
    exact e2
  have g : ∀ v, A.length + B.length ≠ 0 → f12_givesC M v = some (gC M v) := fun v h => gC_ok hr (by omega) v
  unfold L12_joins_9
  rcases A with _ | ⟨a, A⟩
  · rw [List.length_nil, Nat.add_zero] at hiA
    have c1 : (nI i < gF M 25) = False := eq_false (by rw [show gF M 25 = nI NA from h25]; exact nI_nlt (by omega) (by omega))
    have c2 : (gF M 25 ≤ nI i) = True := eq_true (by rw [show gF M 25 = nI NA from h25]; exact nI_le (by omega) (by omega))
    rcases B with _ | ⟨b, B⟩
    · rw [List.length_nil, Nat.add_zero] at hjB
      have c3 : (gF M 26 ≤ nI j) = True := eq_true (by rw [show gF M 26 = nI NB from h26]; exact nI_le (by omega) (by omega))
      simp only [c1, c2, c3, if_true, if_false]
      exact ⟨M, rfl, by rw [joinR, List.append_nil]; exact hr, Frm_refl _ _ _⟩
    · rw [List.length_cons] at hjB
      have c3 : (gF M 26 ≤ nI j) = False := eq_false (by rw [show gF M 26 = nI NB from h26]; exact nI_ge (by omega) (by omega))
      obtain ⟨b1, b2⟩ := seg_cons hsB
      have l2 : ld M 21 (nI j) = some b := by rw [ld_n (show j < 700 by omega), b1]
      have hob : oldL (b :: B) = 0 := by rw [← ho]; rfl
      obtain ⟨hb, hoB⟩ := oldL_0 hob
      have hb2 : (b ≤ 0) = False := eq_false (i_pos_nle.mp hb)
      simp only [c1, c2, c3, l2, hb2, if_true, if_false, Option.bind_some, g b (by simp), nI_1]
      rw [joinR]
      exact step b i (j + 1) [] B (by simp at hm ⊢; omega) hsA b2 (by simp; omega) (by omega) hvA (fun v h => hvB v (by simp [h])) (by rw [hoB]; rfl)
  · rw [List.length_cons] at hiA
    have c1 : (nI i < gF M 25) = True := eq_true (by rw [show gF M 25 = nI NA from h25]; exact nI_lt (by omega) (by omega))
    have c2 : (gF M 25 ≤ nI i) = False := eq_false (by rw [show gF M 25 = nI NA from h25]; exact nI_ge (by omega) (by omega))
    obtain ⟨a1, a2⟩ := seg_cons hsA
    have l1 : ld M 20 (nI i) = some a := by rw [ld_n (show i < 700 by omega), a1]
    have hva := hvA a (by simp)
    have hvA' : ∀ v ∈ A, okV v := fun v h => hvA v (by simp [h])
    rcases B with _ | ⟨b, B⟩
    · obtain ⟨ha, hoa⟩ := newL_0 hva (by rw [ho]; rfl)
      subst ha
      simp only [c1, c2, l1, if_true, if_false, Option.bind_some, g (-1) (by simp), nI_1]
      rw [joinR]
      exact step (-1) (i + 1) j A [] (by simp at hm ⊢; omega) a2 hsB (by omega) hjB hvA' hvB (by rw [hoa]; rfl)
    · rw [List.length_cons] at hjB
      have c3 : (gF M 26 ≤ nI j) = False := eq_false (by rw [show gF M 26 = nI NB from h26]; exact nI_ge (by omega) (by omega))
      obtain ⟨b1, b2⟩ := seg_cons hsB
      have l2 : ld M 21 (nI j) = some b := by rw [ld_n (show j < 700 by omega), b1]
      have hvb := hvB b (by simp)
      have hvB' : ∀ v ∈ B, okV v := fun v h => hvB v (by simp [h])
      by_cases ha : a = -1
      · subst ha
        simp only [c1, c2, l1, if_true, if_false, Option.bind_some, g (-1) (by simp), nI_1]
        rw [joinR, if_pos rfl]
        exact step (-1) (i + 1) j A (b :: B) (by simp at hm ⊢; omega) a2 hsB (by omega) (by simp; omega) hvA' hvB (by rw [newL] at ho; simp only [k6, if_true] at ho; omega)
      · have hna : ¬ a < 0 := by
          rcases ok3 hva with rfl | rfl | ⟨p1, p2, p3, p4, p5⟩
          · decide
          · exact absurd rfl ha
          · rw [p3]; exact id
        rw [newL, if_neg hna, oldL] at ho
        rw [joinR, if_neg ha]
        rcases ok3 hvb with rfl | rfl | ⟨p1, p2, p3, p4, p5⟩
        · simp only [c1, c2, c3, l1, l2, ha, k3, k4, if_true, if_false, Option.bind_some, g a (by simp), nI_1]
          exact step a (i + 1) (j + 1) A B (by simp at hm ⊢; omega) a2 b2 (by omega) (by omega) hvA' hvB' (by simp only [k4, if_true] at ho; omega)
        · have ho' : newL A = oldL B := by simp only [k5, if_true] at ho; omega
          by_cases ha0 : a = 0
          · subst ha0
            simp only [c1, c2, c3, l1, l2, k1, k2, k5, k7, if_true, if_false, Option.bind_some, g (-1) (by simp), nI_1]
            exact step (-1) (i + 1) (j + 1) A B (by simp at hm ⊢; omega) a2 b2 (by omega) (by omega) hvA' hvB' ho'
          · simp only [c1, c2, c3, l1, l2, ha, ha0, k1, k5, k7, if_true, if_false, Option.bind_some, nI_1, List.nil_append]
            exact ih _ (by simp at hm; omega) n (i + 1) (j + 1) A B c M rfl h25 h26 a2 b2 (by omega) (by omega) hvA' hvB' ho' hr (by simp at hc; omega) (by simp at hn; omega)
        · simp only [c1, c2, c3, l1, l2, ha, p1, p2, if_true, if_false, Option.bind_some, g b (by simp), nI_1]
          refine step b i (j + 1) (a :: A) B (by simp at hm ⊢; omega) hsA b2 (by simp; omega) (by omega) hvA hvB' ?_
          rw [newL, if_neg hna]
          simp only [p2, if_false] at ho
          omega
theorem settle1 {M M1 : MS} {C : List Int32} (r1 : Row M1 22 27 C) (hl : C.length ≤ 700) (fr : Frm [22, 24] [27] M M1) :
    ∃ M', f12_settles M1 22 (gF M1 27) = some M' ∧ Row M' 22 27 (settleL C) ∧ Frm [22, 24] [27] M M' := by
  obtain ⟨g, h2⟩ := settles_ok (a1 := 22) (by decide) r1.2 (show C.length ≤ 700 from hl) hl
  refine ⟨_, by rw [show gF M1 27 = nI C.length from r1.1]; exact h2, ⟨by rw [settleL_len]; exact r1.1, by rw [sR_get]; exact seg_wr⟩, Frm_trans fr (Frm_trans (Frm_sR (by decide)) (Frm_sR (by decide)))⟩
theorem row_new (M : MS) : Row (sF M 27 (0 : Int32)) 22 27 [] := ⟨by rw [sF_get]; rfl, fun k hk => absurd hk (Nat.not_lt_zero _)⟩
theorem joins_ok {M : MS} {A B : List Int32} (hA : Row M 20 25 A) (hB : Row M 21 26 B) (hvA : ∀ v ∈ A, okV v) (hvB : ∀ v ∈ B, okV v) (ho : newL A = oldL B) (hl : A.length + B.length ≤ 700) :
    ∃ M', f12_joins M = some M' ∧ Row M' 22 27 (settleL (joinR A B)) ∧ Frm [22, 24] [27] M M' := by
  have hf : Frm [22, 24] [27] M (sF M 27 (0 : Int32)) := Frm_sF (by decide)
  obtain ⟨M1, e1, e2, e3⟩ := joins_loop (NA := A.length) (NB := B.length) (by omega) (by omega) _ FU 0 0 A B [] (sF M 27 (0 : Int32)) rfl (by rw [hf.2.1 _ (by decide)]; exact hA.1) (by rw [hf.2.1 _ (by decide)]; exact hB.1) hA.2 hB.2 (by omega) (by omega) hvA hvB ho (row_new M) (by simp; omega) (by rw [FU_eq]; omega)
  rw [List.nil_append] at e2
  have hj := joinR_len A B
  obtain ⟨M', h1, h2, h3⟩ := settle1 e2 (by omega) (Frm_trans hf (Frm_mono e3 (by simp) (by simp)))
  refine ⟨M', ?_, h2, h3⟩
  unfold f12_joins
  rw [show L12_joins_9 FU (0 : Int32) (0 : Int32) (sF M 27 (0 : Int32)) = some M1 from e1, Option.bind_some, h1, Option.bind_some]
