/-! ===== PART II, the class: a session is read ===== -/
theorem all_lk {T : List Int32} {cnt n k : Nat} {p : Pz} (hb : pBd p = 0) : pAll T cnt (n + 1) k (lkP T (pAt p), p.2) = pAll T cnt (n + 1) k p := by
  have hb2 : pBd ((lkP T (pAt p), p.2) : Pz) = 0 := hb
  rw [pAll, pAll, if_pos hb, if_pos hb2]
  show (if byteAt T (lkP T (lkP T (pAt p))) = -1 then _ else _) = _
  rw [lk_lk]
section TA
variable {S S' S'' : CS} {z i k q : Nat} {T : List Int32} {v : Tm}
def SesR (z : Nat) (S : CS) (T : List Int32) (k : Nat) (v : Tm) (R : List Sm) (pf : Pz) (S' : CS) : Prop :=
  (∃ v' i', pBd pf = 0 ∧ OK8 z S S' T i' v' ∧ byteAt T i' = -1 ∧ KeepW v v' ∧ v'.1 ≤ 1600 ∧ v'.2.1 = k + R.length ∧ ∀ j s, R[j]? = some s → v'.2.2.2.2.2.1 (k + j) = nI s.1 ∧ StmA v'.2.2.2.2.1 v'.2.2.2.2.2.2 (k + j) v'.1 s) ∨
  (∃ v' i', OK8 z S S' T i' v' ∧ byteAt T i' ≠ -1 ∧ pBd pf = 5 ∧ pBp pf = some i') ∨ BDp z S S' pf
theorem ses_stop {n k : Nat} {p : Pz} (h : BDp z S S' p) (hk : k ≤ 60) : LX8_readSession_6 (z + 1) (n + 1) (nI k) S' = some S' := by
  obtain ⟨a, q, ⟨b, b5⟩, ⟨c1, c2⟩, c3, _⟩ := h
  have b0 := c2.2.2.1.1
  unfold LX8_readSession_6
  by_cases h60 : 60 ≤ k
  · rw [if_pos (show (60 : Int32) ≤ nI k from nI_le (a := 60) h60 (by omega))]
  · rw [if_neg (show ¬ (60 : Int32) ≤ nI k from nI_ge (b := 60) (by omega) (by omega)), gi_k b0, c3, Option.bind_some, if_neg (nI_ne0 (by omega) (by omega))]
theorem ses_lp {cnt : Nat} (hNB : NB T) (h1 : 1 ≤ cnt) (h4 : cnt ≤ 100) : ∀ (d k n : Nat) (p : Pz) (S : CS) (v : Tm), k + d = 60 → d < n → 1 ≤ k → PR S z T (pAt p) v → free p (pAt p) → lkP T (pAt p) = pAt p → v.1 ≤ pAt p → v.2.1 = k → v.2.2.1 = nI cnt →
    ∃ S', LX8_readSession_6 (z + 1) n (nI k) S = some S' ∧ SesR z S T k v (pAll T cnt (d + 2) k p).1 (pAll T cnt (d + 2) k p).2 S' := by
  intro d
  induction d with
  | zero =>
    intro k n p S v hk hn hk1 h hf hlk hu hv hcn
    obtain ⟨n, rfl⟩ : ∃ j, n = j + 1 := ⟨n - 1, by omega⟩
    have hk60 : k = 60 := by omega
    subst hk60
    have hb := free_bd hf
    refine ⟨S, ?_, ?_⟩
    · unfold LX8_readSession_6
      rw [if_pos (by decide)]
    · by_cases hbe : byteAt T (pAt p) = -1
      · have e1 : pAll T cnt (0 + 2) 60 p = ([], (lkP T (pAt p), p.2)) := by
          rw [pAll, if_pos hb, hlk, if_pos hbe]
        rw [e1]
        exact Or.inl ⟨v, pAt p, hb, OK8_rf h, hbe, KeepW_rf v, by have := h.2.2.2.2.2.2; omega, by rw [hv]; rfl, fun j s hj => by simp at hj⟩
      · have hF : pBd (pFail p 5 (pAt p)) ≠ 0 := fail_is (by omega)
        have hst : (pStm T cnt 60 p).2 = pFail p 5 (pAt p) := by
          unfold pStm
          rw [if_pos rfl]
          show pAskS T 59 (pBody T cnt (pFail p 5 (pAt p))).2 = _
          rw [body_bad hF, askS_bad hF]
        have e1 : (pAll T cnt (0 + 2) 60 p).2 = pFail p 5 (pAt p) := by
          rw [pAll, if_pos hb, hlk, if_neg hbe]
          show (pAll T cnt (0 + 1) (60 + 1) (pStm T cnt 60 p).2).2 = _
          rw [hst, all_bad hF]
        rw [e1, fail_go hb]
        exact Or.inr (Or.inl ⟨v, pAt p, OK8_rf h, hbe, rfl, rfl⟩)
  | succ d ih =>
    intro k n p S v hk hn hk1 h hf hlk hu hv hcn
    obtain ⟨n, rfl⟩ : ∃ j, n = j + 1 := ⟨n - 1, by omega⟩
    have hb := free_bd hf
    have hpr := h.2.2.2.2.2.2
    have hk0 := PR_k h
    have g2 : gi S 8 (z + 1) 2 = some 0 := by rw [gi_k hk0, h.2.2.2.1]
    by_cases hi : T.length ≤ pAt p
    · have hbe : byteAt T (pAt p) = -1 := byte_end hi
      have e1 : pAll T cnt (d + 1 + 2) k p = ([], (lkP T (pAt p), p.2)) := by
        rw [pAll, if_pos hb, hlk, if_pos hbe]
      rw [e1]
      refine ⟨S, ?_, Or.inl ⟨v, pAt p, hb, OK8_rf h, hbe, KeepW_rf v, by have := h.2.2.2.2.2.2; omega, by rw [hv]; rfl, fun j s hj => by simp at hj⟩⟩
      unfold LX8_readSession_6
      rw [if_neg (show ¬ (60 : Int32) ≤ nI k from nI_ge (b := 60) (by omega) (by omega)), g2, Option.bind_some, if_pos rfl, if_neg (nI_ne0 (by omega) (by omega)), gi_P h, Option.bind_some, gl_P h, Option.bind_some, if_pos (nI_le hi (by omega))]
    · have hbe : byteAt T (pAt p) ≠ -1 := hNB _ (by omega)
      obtain ⟨S1, o1, o2⟩ := stm_R (cnt := cnt) h hf hlk hu (by omega) (by omega) hcn h1 h4
      rw [hv] at o2
      have hun : LX8_readSession_6 (z + 1) (n + 1) (nI k) S = LX8_readSession_6 (z + 1) n (nI (k + 1)) S1 := by
        have := o1 (fun S7 => LX8_readSession_6 (z + 1) n (nI k + 1) S7)
        conv => lhs; unfold LX8_readSession_6
        rw [if_neg (show ¬ (60 : Int32) ≤ nI k from nI_ge (b := 60) (by omega) (by omega)), g2, Option.bind_some, if_pos rfl, if_neg (nI_ne0 (by omega) (by omega)), gi_P h, Option.bind_some, gl_P h, Option.bind_some, if_neg (nI_ge (by omega) (by omega)), ← nI_1]
        exact this
      have e1 : pAll T cnt (d + 1 + 2) k p = ((pStm T cnt k p).1 :: (pAll T cnt (d + 2) (k + 1) (pStm T cnt k p).2).1, (pAll T cnt (d + 2) (k + 1) (pStm T cnt k p).2).2) := by
        rw [pAll, if_pos hb, hlk, if_neg hbe]
      rw [hun, e1]
      rcases o2 with ⟨v', y1, y2, y3, y4, y5, y6, y7, y8⟩ | y
      · obtain ⟨S', w1, w2⟩ := ih (k + 1) n (lkP T (pAt (pStm T cnt k p).2), (pStm T cnt k p).2.2) S1 v' (by omega) (by omega) (by omega) y2.1 y8 (lk_lk _ _) y7 (by rw [y4]) (by rw [y3.2.2.1]; exact hcn)
        rw [all_lk (n := d + 1) y1] at w2
        refine ⟨S', w1, ?_⟩
        rcases w2 with ⟨v'', i', a1, a2, a3, a4, a45, a5, a6⟩ | ⟨v'', i', a1, a2, a3, a4⟩ | a
        · refine Or.inl ⟨v'', i', a1, OK8_tr y2 a2, a3, KeepW_tr y3 a4, a45, by
            have a5' : v''.2.1 = k + 1 + (pAll T cnt (d + 2) (k + 1) (pStm T cnt k p).2).1.length := a5
            rw [List.length_cons]; omega, fun j s hj => ?_⟩
          cases j with
          | zero =>
            have hs : (pStm T cnt k p).1 = s := by simpa using hj
            subst hs
            obtain ⟨b1, b2, b3, b4, b5, b6, b7⟩ := a4
            rw [Nat.add_zero]
            exact ⟨by rw [b5 k (by omega)]; exact y5, StmA_keep y6 b1 b6 (fun j hj => b7 j (by rw [y4]; exact hj))⟩
          | succ j =>
            have := a6 j s (by simpa using hj)
            rw [show k + (j + 1) = k + 1 + j by omega]
            exact this
        · exact Or.inr (Or.inl ⟨v'', i', OK8_tr y2 a1, a2, a3, a4⟩)
        · exact Or.inr (Or.inr (BDp_tr y2 a))
      · rw [all_bad y.1]
        obtain ⟨n, rfl⟩ : ∃ j, n = j + 1 := ⟨n - 1, by omega⟩
        exact ⟨S1, ses_stop y (by omega), Or.inr (Or.inr y)⟩
end TA
