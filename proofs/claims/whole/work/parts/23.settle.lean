/-! ===== PART II, the reference: between two that are kept what is put comes ahead of what is cut ===== -/
def notC : List Int32 → List Int32
  | [] => []
  | v :: l => if v = -1 then notC l else v :: notC l
def cutsN : List Int32 → Nat
  | [] => 0
  | v :: l => (if v = -1 then 1 else 0) + cutsN l
theorem notC_len (l : List Int32) : (notC l).length + cutsN l = l.length := by
  induction l with
  | nil => rfl
  | cons v l ih =>
    rw [notC, cutsN, List.length_cons]
    by_cases h : v = -1
    · rw [if_pos h, if_pos h]; omega
    · rw [if_neg h, if_neg h, List.length_cons]; omega
/-- a group without a 0: its puts, then its cuts -/
def grp (G : List Int32) : List Int32 := notC G ++ List.replicate (cutsN G) (-1)
theorem grp_len (G : List Int32) : (grp G).length = G.length := by
  unfold grp
  rw [List.length_append, List.length_replicate, notC_len]
/-- the groups one by one -/
def settleG : List Int32 → List Int32 → List Int32
  | [], G => grp G
  | v :: l, G => if v = 0 then grp G ++ 0 :: settleG l [] else settleG l (G ++ [v])
def settleL (l : List Int32) : List Int32 := settleG l []
theorem settleG_len (l G : List Int32) : (settleG l G).length = l.length + G.length := by
  induction l generalizing G with
  | nil => simp [settleG, grp_len]
  | cons v l ih =>
    rw [settleG]
    split
    · rw [List.length_append, grp_len, List.length_cons, ih]; simp; omega
    · rw [ih]; simp; omega
theorem settleL_len (l : List Int32) : (settleL l).length = l.length := by
  unfold settleL; rw [settleG_len]; simp
theorem settleG_app (G B G0 : List Int32) (hG : ∀ v ∈ G, v ≠ 0) : settleG (G ++ B) G0 = settleG B (G0 ++ G) := by
  induction G generalizing G0 with
  | nil => simp
  | cons v G ih =>
    rw [List.cons_append, settleG, if_neg (hG v (by simp)), ih _ (fun x hx => hG x (by simp [hx]))]
    simp
theorem grp_split (B : List Int32) : (∀ v ∈ B, v ≠ 0) ∨ ∃ G B' : List Int32, B = G ++ 0 :: B' ∧ ∀ v ∈ G, v ≠ 0 := by
  induction B with
  | nil => exact Or.inl (fun v h => absurd h List.not_mem_nil)
  | cons v B ih =>
    by_cases hv : v = 0
    · exact Or.inr ⟨[], B, by rw [hv]; rfl, fun v h => absurd h List.not_mem_nil⟩
    · rcases ih with h | ⟨G, B', h, hG⟩
      · left
        intro x hx
        rcases List.mem_cons.mp hx with rfl | hx
        · exact hv
        · exact h x hx
      · right
        refine ⟨v :: G, B', by rw [h]; rfl, ?_⟩
        intro x hx
        rcases List.mem_cons.mp hx with rfl | hx
        · exact hv
        · exact hG x hx
theorem seg_app {f : Nat → Int32} {a : Nat} {l m : List Int32} : seg f a (l ++ m) ↔ seg f a l ∧ seg f (a + l.length) m := by
  constructor
  · intro h
    refine ⟨fun k hk => ?_, fun k hk => ?_⟩
    · rw [h k (by simp; omega), List.getD_eq_getElem?_getD, List.getD_eq_getElem?_getD, List.getElem?_append_left hk]
    · rw [Nat.add_assoc, h (l.length + k) (by simp; omega), List.getD_eq_getElem?_getD, List.getD_eq_getElem?_getD, List.getElem?_append_right (by omega), Nat.add_sub_cancel_left]
  · rintro ⟨h1, h2⟩ k hk
    rw [List.length_append] at hk
    by_cases hk2 : k < l.length
    · rw [h1 k hk2, List.getD_eq_getElem?_getD, List.getD_eq_getElem?_getD, List.getElem?_append_left hk2]
    · have := h2 (k - l.length) (by omega)
      rw [show a + l.length + (k - l.length) = a + k by omega] at this
      rw [this, List.getD_eq_getElem?_getD, List.getD_eq_getElem?_getD, List.getElem?_append_right (by omega)]
theorem seg_wr {f : Nat → Int32} {a : Nat} {l : List Int32} : seg (wr f a l) a l := fun k hk => wr_in hk
theorem seg_wr_out {f : Nat → Int32} {a b : Nat} {l m : List Int32} (h : seg f b m) (hd : b + m.length ≤ a ∨ a + l.length ≤ b) : seg (wr f a l) b m := fun k hk => by rw [wr_out (by omega)]; exact h k hk
theorem settles_to {M : MS} {a1 : Nat} {c3 : Int32} : ∀ (G : List Int32) (n k N : Nat), (∀ v ∈ G, v ≠ 0) → seg (M.2.1 a1) k G → N ≤ mLn a1 → k + G.length ≤ N → (k + G.length = N ∨ (k + G.length < N ∧ (M.2.1 a1) (k + G.length) = 0)) → G.length < n → L12_settles_10 a1 (nI N) c3 M n (nI k) = some (nI (k + G.length)) := by
  intro G
  have hs := mLn_s a1
  induction G with
  | nil =>
    intro n k N hG hseg hN hk he hn
    obtain ⟨n, rfl⟩ : ∃ j, n = j + 1 := ⟨n - 1, by omega⟩
    unfold L12_settles_10
    simp only [List.length_nil, Nat.add_zero] at he hk ⊢
    rcases he with he | ⟨he, h0⟩
    · rw [if_pos (nI_le (by omega) (by omega))]
    · rw [if_neg (nI_ge he (by omega)), ld_n (by omega), h0, Option.bind_some, if_pos rfl]
  | cons v G ih =>
    intro n k N hG hseg hN hk he hn
    rw [List.length_cons] at hk he hn ⊢
    obtain ⟨n, rfl⟩ : ∃ j, n = j + 1 := ⟨n - 1, by omega⟩
    obtain ⟨h1, h2⟩ := seg_cons hseg
    unfold L12_settles_10
    rw [if_neg (nI_ge (by omega) (by omega)), ld_n (by omega), h1, Option.bind_some, if_neg (hG v (by simp)), nI_1]
    have h3 := ih n (k + 1) N (fun x hx => hG x (by simp [hx])) h2 hN (by omega) (by rw [show k + 1 + G.length = k + (G.length + 1) by omega]; exact he) (by omega)
    rw [show k + 1 + G.length = k + (G.length + 1) by omega] at h3
    exact h3
theorem settles_puts {M : MS} {a1 k : Nat} {c2 c3 : Int32} {g : Nat → Int32} (hne : a1 ≠ 24) : ∀ (B : List Int32) (n j : Nat) (ps : List Int32), seg (M.2.1 a1) j B → j + B.length ≤ mLn a1 → k + ps.length + B.length ≤ 700 → B.length < n →
    L12_settles_35 a1 c2 c3 (nI (j + B.length)) n (nI (k + ps.length)) (nI j) (sR M 24 (wr g k ps)) = some (nI (k + (ps ++ notC B).length), sR M 24 (wr g k (ps ++ notC B))) := by
  intro B
  have hs := mLn_s a1
  have h24 : mLn 24 = 700 := rfl
  induction B with
  | nil =>
    intro n j ps hseg hj hk hn
    obtain ⟨n, rfl⟩ : ∃ i, n = i + 1 := ⟨n - 1, by omega⟩
    unfold L12_settles_35
    rw [if_pos (nI_le (by simp) (by omega))]
    simp [notC]
  | cons v B ih =>
    intro n j ps hseg hj hk hn
    rw [List.length_cons] at hj hk hn
    obtain ⟨n, rfl⟩ : ∃ i, n = i + 1 := ⟨n - 1, by omega⟩
    obtain ⟨h1, h2⟩ := seg_cons hseg
    unfold L12_settles_35
    rw [List.length_cons, if_neg (nI_ge (by omega) (by omega)), ld_n (by omega), sR_ne _ _ hne, h1]
    simp only [Option.bind_some]
    by_cases hv : v = -1
    · rw [if_pos hv, bn2_s, nI_1]
      have h3 := ih n (j + 1) ps h2 (by omega) (by omega) (by omega)
      rw [show j + 1 + B.length = j + (B.length + 1) by omega] at h3
      rw [h3]
      have e : notC (v :: B) = notC B := by rw [notC, if_pos hv]
      rw [e]
    · rw [if_neg hv, sd_n (by omega), sR_sR, sR_get, wr_snoc, Option.bind_some, bn2_s, nI_1, nI_1]
      have h3 := ih n (j + 1) (ps ++ [v]) h2 (by omega) (by simp; omega) (by omega)
      rw [show j + 1 + B.length = j + (B.length + 1) by omega, show k + (ps ++ [v]).length = k + ps.length + 1 by simp; omega] at h3
      rw [h3]
      have e : notC (v :: B) = v :: notC B := by rw [notC, if_neg hv]
      rw [e]
      simp
theorem settles_cuts {M : MS} {a1 k : Nat} {c2 c3 : Int32} {g : Nat → Int32} : ∀ (d n : Nat) (ps : List Int32) (N : Nat), k + ps.length + d = N → N ≤ 700 → d < n →
    L12_settles_70 a1 c2 c3 (nI N) n (nI (k + ps.length)) (sR M 24 (wr g k ps)) = some (sR M 24 (wr g k (ps ++ List.replicate d (-1)))) := by
  intro d
  have h24 : mLn 24 = 700 := rfl
  induction d with
  | zero =>
    intro n ps N hN h7 hn
    obtain ⟨n, rfl⟩ : ∃ i, n = i + 1 := ⟨n - 1, by omega⟩
    unfold L12_settles_70
    rw [if_pos (nI_le (by omega) (by omega))]
    simp
  | succ d ih =>
    intro n ps N hN h7 hn
    obtain ⟨n, rfl⟩ : ∃ i, n = i + 1 := ⟨n - 1, by omega⟩
    unfold L12_settles_70
    rw [if_neg (nI_ge (by omega) (by omega)), sd_n (by omega), sR_sR, sR_get, wr_snoc, Option.bind_some, nI_1]
    have h3 := ih n (ps ++ [-1]) N (by simp; omega) h7 (by omega)
    rw [show k + (ps ++ [(-1 : Int32)]).length = k + ps.length + 1 by simp; omega] at h3
    rw [h3]
    simp [List.replicate_succ]
theorem settles_copy {M : MS} {a1 k : Nat} {c2 : Int32} {F : Nat → Int32} (hne : a1 ≠ 24) : ∀ (Q : List Int32) (n : Nat) (l : List Int32) (N : Nat), seg (M.2.1 24) (k + l.length) Q → k + l.length + Q.length = N → N ≤ 700 → N ≤ mLn a1 → Q.length < n →
    L12_settles_94 a1 c2 (nI N) n (nI (k + l.length)) (sR M a1 (wr F k l)) = some (sR M a1 (wr F k (l ++ Q))) := by
  intro Q
  have hs := mLn_s a1
  have h24 : mLn 24 = 700 := rfl
  induction Q with
  | nil =>
    intro n l N hseg hN h7 hm hn
    obtain ⟨n, rfl⟩ : ∃ i, n = i + 1 := ⟨n - 1, by omega⟩
    unfold L12_settles_94
    rw [List.length_nil] at hN
    rw [if_pos (nI_le (by omega) (by omega))]
    simp
  | cons v Q ih =>
    intro n l N hseg hN h7 hm hn
    rw [List.length_cons] at hN hn
    obtain ⟨n, rfl⟩ : ∃ i, n = i + 1 := ⟨n - 1, by omega⟩
    obtain ⟨h1, h2⟩ := seg_cons hseg
    unfold L12_settles_94
    rw [if_neg (nI_ge (by omega) (by omega)), ld_n (by omega), sR_ne _ _ (Ne.symm hne), h1, Option.bind_some, sd_n (by omega), sR_sR, sR_get, wr_snoc, Option.bind_some, nI_1]
    have h3 := ih n (l ++ [v]) N (by rw [List.length_append, List.length_singleton, ← Nat.add_assoc]; exact h2) (by simp; omega) h7 hm (by omega)
    rw [show k + (l ++ [v]).length = k + l.length + 1 by simp; omega] at h3
    rw [h3]
    simp
theorem sR_swap (M : MS) {j k : Nat} (f g : Nat → Int32) (h : j ≠ k) : sR (sR M j f) k g = sR (sR M k g) j f := by
  unfold sR
  have : va_up (va_up M.2.1 j f) k g = va_up (va_up M.2.1 k g) j f := by
    funext i
    by_cases h1 : i = k
    · subst h1; rw [va_up_self, va_up_ne _ _ (Ne.symm h), va_up_self]
    · by_cases h2 : i = j
      · subst h2; rw [va_up_ne _ _ h1, va_up_self, va_up_self]
      · rw [va_up_ne _ _ h1, va_up_ne _ _ h2, va_up_ne _ _ h2, va_up_ne _ _ h1]
  simp only [this]
/-- one group -/
theorem settles_grp {M : MS} {a1 k : Nat} {R g : Nat → Int32} {c2 : Int32} (hne : a1 ≠ 24) (G : List Int32) (hseg : seg R k G) (hl : k + G.length ≤ mLn a1) (h7 : k + G.length ≤ 700) (hFU : 10000 ≤ FU) :
    ∃ g' : Nat → Int32, (bn2 (L12_settles_35 a1 c2 (nI k) (nI (k + G.length)) FU (nI k) (nI k) (sR (sR M 24 g) a1 R)) fun x3 M4 => (L12_settles_70 a1 c2 (nI k) (nI (k + G.length)) FU x3 M4).bind fun M6 => L12_settles_94 a1 c2 (nI (k + G.length)) FU (nI k) M6) = some (sR (sR M 24 g') a1 (wr R k (grp G))) := by
  have e0 : sR (sR M 24 g) a1 R = sR (sR M a1 R) 24 (wr g k []) := by rw [wr_nil, sR_swap _ _ _ (Ne.symm hne)]
  have h1 := settles_puts (M := sR M a1 R) (a1 := a1) (k := k) (c2 := c2) (c3 := nI k) (g := g) hne G FU k [] (by rw [sR_get]; exact hseg) hl (by simp; omega) (by omega)
  have hn := notC_len G
  simp only [List.length_nil, Nat.add_zero, List.nil_append] at h1
  have h2 := settles_cuts (M := sR M a1 R) (a1 := a1) (k := k) (c2 := c2) (c3 := nI k) (g := g) (cutsN G) FU (notC G) (k + G.length) (by omega) h7 (by omega)
  have h3 := settles_copy (M := sR (sR M a1 R) 24 (wr g k (notC G ++ List.replicate (cutsN G) (-1)))) (a1 := a1) (k := k) (c2 := c2) (F := R) hne (grp G) FU [] (k + G.length) (by rw [sR_get]; exact seg_wr) (by rw [grp_len]; simp) h7 hl (by rw [grp_len]; omega)
  simp only [List.length_nil, Nat.add_zero, List.nil_append] at h3
  refine ⟨wr g k (grp G), ?_⟩
  rw [e0, h1, bn2_s, h2, Option.bind_some]
  have e1 : sR (sR M a1 R) 24 (wr g k (notC G ++ List.replicate (cutsN G) (-1))) = sR (sR (sR M a1 R) 24 (wr g k (notC G ++ List.replicate (cutsN G) (-1)))) a1 (wr R k []) := by
    have hx : (sR (sR M a1 R) 24 (wr g k (notC G ++ List.replicate (cutsN G) (-1)))).2.1 a1 = R := by rw [sR_ne _ _ hne, sR_get]
    have h9 := sR_self (sR (sR M a1 R) 24 (wr g k (notC G ++ List.replicate (cutsN G) (-1)))) a1
    rw [hx] at h9
    rw [wr_nil]
    exact h9.symm
  rw [e1, h3, sR_swap M R _ hne, sR_sR]
  rfl
theorem wr_wr {f : Nat → Int32} {a b : Nat} {l m : List Int32} (h : a + l.length = b) : wr (wr f a l) b m = wr f a (l ++ m) := by
  funext i
  unfold wr
  by_cases h1 : b ≤ i ∧ i < b + m.length
  · rw [if_pos h1, if_pos (by simp; omega), List.getD_eq_getElem?_getD, List.getD_eq_getElem?_getD, List.getElem?_append_right (by omega)]
    congr 2
    omega
  · rw [if_neg h1]
    by_cases h2 : a ≤ i ∧ i < a + l.length
    · rw [if_pos h2, if_pos (by simp; omega), List.getD_eq_getElem?_getD, List.getD_eq_getElem?_getD, List.getElem?_append_left (by omega)]
    · rw [if_neg h2, if_neg (by simp; omega)]
theorem wr_self {f : Nat → Int32} {a : Nat} {l : List Int32} (h : seg f a l) : wr f a l = f := by
  funext i
  unfold wr
  by_cases h1 : a ≤ i ∧ i < a + l.length
  · rw [if_pos h1]
    have := h (i - a) (by omega)
    rw [show a + (i - a) = i by omega] at this
    exact this.symm
  · rw [if_neg h1]
theorem settles_loop {M : MS} {a1 : Nat} (hne : a1 ≠ 24) (hFU : 10000 ≤ FU) : ∀ (m n : Nat) (g R : Nat → Int32) (l B : List Int32), B.length = m → seg R 0 (l ++ B) → l.length + B.length ≤ mLn a1 → l.length + B.length ≤ 700 → B.length < n →
    ∃ g' : Nat → Int32, L12_settles_2 a1 (nI (l.length + B.length)) n (nI l.length) (sR (sR M 24 g) a1 R) = some (sR (sR M 24 g') a1 (wr R l.length (settleL B))) := by
  have hs := mLn_s a1
  intro m
  induction m using Nat.strongRecOn with
  | _ m ih =>
  intro n g R l B hB hseg hl h7 hn
  obtain ⟨n, rfl⟩ : ∃ i, n = i + 1 := ⟨n - 1, by omega⟩
  obtain ⟨hs1, hs2⟩ := seg_app.mp hseg
  rw [Nat.zero_add] at hs2
  unfold L12_settles_2
  by_cases hB0 : B = []
  · subst hB0
    refine ⟨g, ?_⟩
    rw [if_pos (nI_le (by simp) (by simp; omega))]
    have : settleL [] = [] := rfl
    rw [this, wr_nil]
  have hpos : 0 < B.length := List.length_pos_iff.mpr hB0
  rw [if_neg (nI_ge (by omega) (by omega))]
  have hR : (sR (sR M 24 g) a1 R).2.1 a1 = R := sR_get _ _ _
  rcases grp_split B with hG | ⟨G, B', rfl, hG⟩
  · have h1 := settles_to (M := sR (sR M 24 g) a1 R) (a1 := a1) (c3 := nI l.length) B FU l.length (l.length + B.length) hG (by rw [hR]; exact hs2) hl (by omega) (Or.inl rfl) (by omega)
    rw [h1, Option.bind_some]
    obtain ⟨g', h2⟩ := settles_grp (M := M) (g := g) (c2 := nI (l.length + B.length)) hne B hs2 hl h7 hFU
    obtain ⟨⟨x3, M4⟩, e3, h3⟩ : ∃ v, L12_settles_35 a1 (nI (l.length + B.length)) (nI l.length) (nI (l.length + B.length)) FU (nI l.length) (nI l.length) (sR (sR M 24 g) a1 R) = some v ∧ _ := mb h2
    obtain ⟨M6, e6, h6⟩ := mb h3
    rw [e3, bn2_s, e6, Option.bind_some, h6, Option.bind_some, nI_1]
    obtain ⟨n, rfl⟩ : ∃ i, n = i + 1 := ⟨n - 1, by omega⟩
    refine ⟨g', ?_⟩
    unfold L12_settles_2
    rw [if_pos (nI_le (by omega) (by omega))]
    have e : settleL B = grp B := by
      have := settleG_app B [] [] hG
      rw [List.append_nil, List.nil_append] at this
      exact this
    rw [e]
  · simp only [List.length_append, List.length_cons] at hl h7 hn hB hpos
    obtain ⟨hs3, hs4⟩ := seg_app.mp hs2
    obtain ⟨hs5, hs6⟩ := seg_cons hs4
    have h1 := settles_to (M := sR (sR M 24 g) a1 R) (a1 := a1) (c3 := nI l.length) G FU l.length (l.length + (G ++ 0 :: B').length) hG (by rw [hR]; exact hs3) (by simp only [List.length_append, List.length_cons]; omega) (by simp only [List.length_append, List.length_cons]; omega) (Or.inr ⟨by simp only [List.length_append, List.length_cons]; omega, by rw [hR]; exact hs5⟩) (by omega)
    rw [h1, Option.bind_some]
    obtain ⟨g', h2⟩ := settles_grp (M := M) (g := g) (c2 := nI (l.length + (G ++ 0 :: B').length)) hne G hs3 (by omega) (by omega) hFU
    obtain ⟨⟨x3, M4⟩, e3, h3⟩ : ∃ v, L12_settles_35 a1 (nI (l.length + (G ++ 0 :: B').length)) (nI l.length) (nI (l.length + G.length)) FU (nI l.length) (nI l.length) (sR (sR M 24 g) a1 R) = some v ∧ _ := mb h2
    obtain ⟨M6, e6, h6⟩ := mb h3
    rw [e3, bn2_s, e6, Option.bind_some, h6, Option.bind_some, nI_1]
    have hlen : (l ++ (grp G ++ [0])).length = l.length + G.length + 1 := by rw [List.length_append, List.length_append, grp_len]; simp; omega
    have hseg2 : seg (wr R l.length (grp G)) 0 ((l ++ (grp G ++ [0])) ++ B') := by
      rw [List.append_assoc, seg_app]
      refine ⟨seg_wr_out hs1 (Or.inl (by omega)), ?_⟩
      rw [Nat.zero_add, List.append_assoc, seg_app]
      refine ⟨seg_wr, ?_⟩
      rw [grp_len]
      have h0 : seg (wr R l.length (grp G)) (l.length + G.length) (0 :: B') := seg_wr_out hs4 (Or.inr (by rw [grp_len]; omega))
      exact h0
    obtain ⟨g2, h8⟩ := ih B'.length (by omega) n g' (wr R l.length (grp G)) (l ++ (grp G ++ [0])) B' rfl hseg2 (by rw [hlen]; omega) (by rw [hlen]; omega) (by omega)
    rw [hlen] at h8
    refine ⟨g2, ?_⟩
    have e9 : l.length + G.length + 1 + B'.length = l.length + (G ++ 0 :: B').length := by simp; omega
    rw [e9] at h8
    rw [h8]
    have e : settleL (G ++ 0 :: B') = grp G ++ (0 :: settleL B') := by
      unfold settleL
      rw [settleG_app G _ [] hG, List.nil_append, settleG, if_pos rfl]
    have hz : wr R l.length (grp G) = wr (wr R l.length (grp G)) (l.length + G.length) [0] := by
      refine (wr_self ?_).symm
      have h0 : seg (wr R l.length (grp G)) (l.length + G.length) (0 :: B') := seg_wr_out hs4 (Or.inr (by rw [grp_len]; omega))
      exact (seg_app.mp (show seg _ _ ([0] ++ B') from h0)).1
    rw [hz, wr_wr (show l.length + G.length + [(0 : Int32)].length = l.length + G.length + 1 from rfl), wr_wr (by rw [grp_len]), e]
    simp
theorem settles_ok {M : MS} {a1 : Nat} {A : List Int32} (hne : a1 ≠ 24) (hseg : seg (M.2.1 a1) 0 A) (hl : A.length ≤ mLn a1) (h7 : A.length ≤ 700) : ∃ g : Nat → Int32, f12_settles M a1 (nI A.length) = some (sR (sR M 24 g) a1 (wr (M.2.1 a1) 0 (settleL A))) := by
  obtain ⟨g, h⟩ := settles_loop (M := M) hne (by rw [FU_eq]; omega) A.length FU (M.2.1 24) (M.2.1 a1) [] A rfl hseg (by simpa using hl) (by simpa using h7) (by rw [FU_eq]; omega)
  rw [sR_self, sR_self] at h
  simp only [List.length_nil, Nat.zero_add] at h
  refine ⟨g, ?_⟩
  unfold f12_settles
  rw [show (0 : Int32) = nI 0 from rfl, h, Option.bind_some]
