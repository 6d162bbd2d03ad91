/-! ===== PART II, the reference: one who reads, with where the last word ended ===== -/
def RQ (M : MS) (T : List Int32) (p : Pz) : Prop := RP M T p ∧ (∀ x, pEd p = some x → x ≤ T.length) ∧ RKw M
def ekP (p p' : Pz) : Prop := pEd p' = pEd p ∨ pEd p' = some (pAt p')
theorem pFail_ed (p : Pz) (k q : Nat) : pEd (pFail p k q) = pEd p ∧ pAt (pFail p k q) = pAt p := by unfold pFail; split <;> exact ⟨rfl, rfl⟩
theorem RKw_frm {M M' : MS} {Fs : List Nat} (h : RKw M) (hf : Frm [] Fs M M') : RKw M' := by
  unfold RKw at h ⊢
  have e : ∀ k, M'.2.1 k = M.2.1 k := fun k => hf.1 k (by simp)
  simp only [e]
  exact h
theorem RQ_of {M M' : MS} {T : List Int32} {p p' : Pz} {Fs : List Nat} (h : RQ M T p) (h' : RP M' T p') (hf : Frm [] Fs M M') (he : ekP p p') : RQ M' T p' := by
  refine ⟨h', ?_, RKw_frm h.2.2 hf⟩
  intro x hx
  rcases he with he | he
  · rw [he] at hx; exact h.2.1 x hx
  · rw [he] at hx
    have := Option.some.inj hx
    have := h'.2.2.2.2.2.2.2.1
    omega
theorem RQ_e {M : MS} {T : List Int32} {p : Pz} (h : RQ M T p) : ∀ x, pEd p = some x → x ≤ 1600 := fun x hx => by have := h.2.1 x hx; have := h.1.2.2.2.2.2.2.1; omega
theorem ek_lk (T : List Int32) (p : Pz) : ekP p (pLk T p) := by unfold pLk ekP; split <;> exact Or.inl rfl
theorem ek_take (T w : List Int32) (p : Pz) : ekP p (pTake T w p).2 := by
  unfold pTake
  split
  · exact Or.inr rfl
  · exact ek_lk T p
theorem ek_ask (T w : List Int32) (p : Pz) : ekP p (pAsk T w p) := by
  unfold pAsk
  split
  · split
    · exact ek_take T w p
    · obtain ⟨a, b⟩ := pFail_ed (pTake T w p).2 1 (pAt (pTake T w p).2)
      unfold ekP
      rw [a, b]
      exact ek_take T w p
  · exact Or.inl rfl
theorem ek_sign (T : List Int32) (c : Int32) (p : Pz) : ekP p (pSign T c p).2 := by
  unfold pSign
  split
  · split <;> exact Or.inl rfl
  · exact Or.inl rfl
theorem ek_askS (T : List Int32) (c : Int32) (p : Pz) : ekP p (pAskS T c p) := by
  unfold pAskS
  split
  · split
    · exact ek_sign T c p
    · obtain ⟨a, b⟩ := pFail_ed (pSign T c p).2 1 (pAt (pSign T c p).2)
      unfold ekP
      rw [a, b]
      exact ek_sign T c p
  · exact Or.inl rfl
theorem ek_fail (p : Pz) (k q : Nat) : ekP p (pFail p k q) := Or.inl (pFail_ed p k q).1
theorem ek_num (T : List Int32) (lo hi : Nat) (p : Pz) : ekP p (pNum T lo hi p).2 := by
  unfold pNum
  split
  · split
    · split
      · dsimp only
        split
        · exact Or.inr rfl
        · refine Or.inr ?_
          rw [(pFail_ed _ _ _).1, (pFail_ed _ _ _).2]
      · exact Or.inl (pFail_ed _ _ _).1
    · exact Or.inl (pFail_ed _ _ _).1
  · exact Or.inl rfl
theorem ek_word (T : List Int32) (most : Nat) (p : Pz) : ekP p (pWord T most p).2 := by
  unfold pWord
  split
  · exact Or.inr rfl
  · exact Or.inl rfl
theorem RQ_look {M : MS} {T : List Int32} {p : Pz} (h : RQ M T p) : ∃ M', f12_look M = some (byteAt T (lkP T (pAt p)), M') ∧ RQ M' T (lkP T (pAt p), p.2) ∧ Frm [] [2, 4, 5, 6] M M' := by
  obtain ⟨M', g1, g2, g3⟩ := look_ok h.1
  exact ⟨M', g1, RQ_of h g2 g3 (Or.inl rfl), Frm_mono g3 (by simp) (by simp)⟩
theorem RQ_fail {M : MS} {T : List Int32} {p : Pz} {kind place : Nat} (h : RQ M T p) (hk : kind ≤ 5) : ∃ M', f12_fail M (nI kind) (nI place) = some M' ∧ RQ M' T (pFail p kind place) ∧ Frm [] [2, 4, 5, 6] M M' := by
  obtain ⟨M', g1, g2, g3⟩ := fail_ok h.1 hk
  exact ⟨M', g1, RQ_of h g2 g3 (ek_fail _ _ _), Frm_mono g3 (by simp) (by simp)⟩
theorem RQ_sign {M : MS} {T : List Int32} {p : Pz} {c : Int32} (h : RQ M T p) (hc : c ≠ -1) : ∃ M', f12_takesSign M c = some (bI (pSign T c p).1, M') ∧ RQ M' T (pSign T c p).2 ∧ Frm [] [2, 4, 5, 6] M M' := by
  obtain ⟨M', g1, g2, g3⟩ := takesSign_ok h.1 hc
  exact ⟨M', g1, RQ_of h g2 g3 (ek_sign _ _ _), Frm_mono g3 (by simp) (by simp)⟩
theorem RQ_askS {M : MS} {T : List Int32} {p : Pz} {c : Int32} (h : RQ M T p) (hc : c ≠ -1) : ∃ M', f12_asksSign M c = some M' ∧ RQ M' T (pAskS T c p) ∧ Frm [] [2, 4, 5, 6] M M' := by
  obtain ⟨M', g1, g2, g3⟩ := asksSign_ok h.1 hc
  exact ⟨M', g1, RQ_of h g2 g3 (ek_askS _ _ _), Frm_mono g3 (by simp) (by simp)⟩
theorem RQ_num {M : MS} {T : List Int32} {p : Pz} {lo hi : Nat} (h : RQ M T p) (hlo : lo < 1000) (hhi : hi < 1000) : ∃ M', f12_number M (nI lo) (nI hi) = some (nI (pNum T lo hi p).1, M') ∧ RQ M' T (pNum T lo hi p).2 ∧ Frm [] [2, 4, 5, 6] M M' := by
  obtain ⟨M', g1, g2, g3⟩ := number_ok h.1 (RQ_e h) hlo hhi
  exact ⟨M', g1, RQ_of h g2 g3 (ek_num _ _ _ _), g3⟩
theorem RQ_word {M : MS} {T : List Int32} {p : Pz} {most : Nat} (h : RQ M T p) (hm : most < 1000) : ∃ M', f12_word M (nI most) = some (nI (pWord T most p).1, M') ∧ RQ M' T (pWord T most p).2 ∧ Frm [] [2, 4, 5, 6] M M' := by
  obtain ⟨M', g1, g2, g3⟩ := word_ok h.1 (RQ_e h) hm
  exact ⟨M', g1, RQ_of h g2 g3 (ek_word _ _ _), g3⟩
/-- the words -/
def kwL : Nat → List Int32
  | 10 => [116, 101, 120, 116]
  | 11 => [101, 100, 105, 116, 111, 114, 115]
  | 12 => [100, 101, 108, 97, 121]
  | 13 => [116, 105, 101, 115]
  | 14 => [101, 100, 105, 116]
  | 15 => [99, 117, 114, 115, 111, 114]
  | 16 => [109, 97, 114, 107]
  | 17 => [111, 102, 102]
  | 18 => [111, 110]
  | 19 => [116, 105, 99, 107]
  | _ => []
theorem RKw_get {M : MS} {k : Nat} (h : RKw M) (h1 : 10 ≤ k) (h2 : k ≤ 19) : seg (M.2.1 k) 0 (kwL k) ∧ mLn k = (kwL k).length ∧ (kwL k).length ≤ 7 := by
  obtain ⟨g0, g1, g2, g3, g4, g5, g6, g7, g8, g9⟩ := h
  rcases (show k = 10 ∨ k = 11 ∨ k = 12 ∨ k = 13 ∨ k = 14 ∨ k = 15 ∨ k = 16 ∨ k = 17 ∨ k = 18 ∨ k = 19 by omega) with rfl | rfl | rfl | rfl | rfl | rfl | rfl | rfl | rfl | rfl
  · exact ⟨g0, rfl, by decide⟩
  · exact ⟨g1, rfl, by decide⟩
  · exact ⟨g2, rfl, by decide⟩
  · exact ⟨g3, rfl, by decide⟩
  · exact ⟨g4, rfl, by decide⟩
  · exact ⟨g5, rfl, by decide⟩
  · exact ⟨g6, rfl, by decide⟩
  · exact ⟨g7, rfl, by decide⟩
  · exact ⟨g8, rfl, by decide⟩
  · exact ⟨g9, rfl, by decide⟩
theorem RQ_take {M : MS} {T : List Int32} {p : Pz} (k : Nat) (h : RQ M T p) (h1 : 10 ≤ k) (h2 : k ≤ 19) : ∃ M', f12_takes M k = some (bI (pTake T (kwL k) p).1, M') ∧ RQ M' T (pTake T (kwL k) p).2 ∧ Frm [] [2, 4, 5, 6] M M' := by
  obtain ⟨k1, k2, k3⟩ := RKw_get h.2.2 h1 h2
  obtain ⟨M', g1, g2, g3⟩ := takes_ok h.1 (RQ_e h) k1 k2 k3
  exact ⟨M', g1, RQ_of h g2 g3 (ek_take _ _ _), Frm_mono g3 (by simp) (by simp)⟩
theorem RQ_ask {M : MS} {T : List Int32} {p : Pz} (k : Nat) (h : RQ M T p) (h1 : 10 ≤ k) (h2 : k ≤ 19) : ∃ M', f12_asks M k = some M' ∧ RQ M' T (pAsk T (kwL k) p) ∧ Frm [] [2, 4, 5, 6] M M' := by
  obtain ⟨k1, k2, k3⟩ := RKw_get h.2.2 h1 h2
  obtain ⟨M', g1, g2, g3⟩ := asks_ok h.1 (RQ_e h) k1 k2 k3
  exact ⟨M', g1, RQ_of h g2 g3 (ek_ask _ _ _), Frm_mono g3 (by simp) (by simp)⟩
