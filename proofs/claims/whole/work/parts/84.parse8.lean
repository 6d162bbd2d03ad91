/-! ===== PART II, the reference: a statement is read ===== -/
/-- a statement: kind (1 delay, 2 ties, 3 edit, 4 cursor, 5 mark, 6 off, 7 on, 8 tick), its numbers, its steps -/
abbrev Sm : Type := Nat × (Nat × Nat × Nat × Nat) × List Sv
/-- the head: where the text is from, to, how many editors -/
def pHead (T : List Int32) (p : Pz) : (Nat × Nat × Nat) × Pz :=
  let w := pWord T 40 (pAsk T (kwL 10) p)
  let m := pNum T 2 4 (pAsk T (kwL 11) w.2)
  ((w.1, pAt w.2, m.1), m.2)
theorem pNum_le (T : List Int32) (lo hi : Nat) (p : Pz) (hlo : lo < 100) : (pNum T lo hi p).1 < 100 := by
  have hsc : ∀ (l : List Int32) (d v : Nat), d ≤ 2 → v < 10 ^ d → (scN l d v).2.2 < 100 := by
    intro l
    induction l with
    | nil => intro d v hd hv; show v < 100; rcases (show d = 0 ∨ d = 1 ∨ d = 2 by omega) with rfl | rfl | rfl <;> omega
    | cons c l ih =>
      intro d v hd hv
      have hv2 : v < 100 := by rcases (show d = 0 ∨ d = 1 ∨ d = 2 by omega) with rfl | rfl | rfl <;> omega
      rw [scN]
      split
      · split
        · exact hv2
        · rename_i hg h2
          have hcd : 48 ≤ c.toInt ∧ c.toInt ≤ 57 := by
            unfold isDg at hg
            simp only [Bool.and_eq_true, decide_eq_true_eq] at hg
            exact hg
          exact ih (d + 1) _ (by omega) (by rcases (show d = 0 ∨ d = 1 by omega) with rfl | rfl <;> omega)
      · exact hv2
  unfold pNum
  split
  · split
    · split
      · exact hsc _ 0 0 (by omega) (by decide)
      · exact hlo
    · exact hlo
  · exact hlo
theorem RQ_F {M : MS} {T : List Int32} {p : Pz} {k : Nat} {v : Int32} (h : RQ M T p) (hk : k ≠ 2 ∧ k ≠ 3 ∧ k ≠ 4 ∧ k ≠ 5 ∧ k ≠ 6) : RQ (sF M k v) T p := by
  obtain ⟨⟨h1, h2, h3, h4, h5, h6, h7⟩, h8, h9⟩ := h
  exact ⟨⟨by rw [sF_ne _ _ (by omega)]; exact h1, h2, by rw [sF_ne _ _ (by omega)]; exact h3, by rw [sF_ne _ _ (by omega)]; exact h4, by rw [sF_ne _ _ (by omega)]; exact h5, by rw [sF_ne _ _ (by omega)]; exact h6, h7⟩, h8, h9⟩
theorem headTold_ok {M : MS} {T : List Int32} {p : Pz} (h : RQ M T p) : ∃ M', f12_headTold M = some M' ∧ RQ M' T (pHead T p).2 ∧ M'.1 44 = nI (pHead T p).1.1 ∧ M'.1 45 = nI (pHead T p).1.2.1 ∧ M'.1 43 = nI (pHead T p).1.2.2 ∧ Frm [] [2, 4, 5, 6, 43, 44, 45] M M' := by
  obtain ⟨M1, a1, a2, a3⟩ := RQ_ask 10 h (by omega) (by omega)
  obtain ⟨M3, b1, b2, b3⟩ := RQ_word (most := 40) a2 (by omega)
  have b4 : RQ (sF (sF M3 44 (nI (pWord T 40 (pAsk T (kwL 10) p)).1)) 45 (gF (sF M3 44 (nI (pWord T 40 (pAsk T (kwL 10) p)).1)) 2)) T (pWord T 40 (pAsk T (kwL 10) p)).2 := RQ_F (RQ_F b2 (by omega)) (by omega)
  obtain ⟨M4, c1, c2, c3⟩ := RQ_ask 11 b4 (by omega) (by omega)
  obtain ⟨M6, d1, d2, d3⟩ := RQ_num (lo := 2) (hi := 4) c2 (by omega) (by omega)
  have hat : gF (sF M3 44 (nI (pWord T 40 (pAsk T (kwL 10) p)).1)) 2 = nI (pAt (pWord T 40 (pAsk T (kwL 10) p)).2) := by
    show (sF M3 44 (nI (pWord T 40 (pAsk T (kwL 10) p)).1)).1 2 = _
    rw [sF_ne _ _ (by decide)]; exact b2.1.2.2.1
  refine ⟨sF M6 43 (nI (pNum T 2 4 (pAsk T (kwL 11) (pWord T 40 (pAsk T (kwL 10) p)).2)).1), ?_, RQ_F d2 (by omega), ?_, ?_, sF_get _ _ _, ?_⟩
  · unfold f12_headTold
    rw [a1, Option.bind_some, show f12_word M1 (40 : Int32) = _ from b1, bn2_s, c1, Option.bind_some, show f12_number M4 (2 : Int32) (4 : Int32) = _ from d1, bn2_s]
  · rw [sF_ne _ _ (by decide), d3.2.1 44 (by decide), c3.2.1 44 (by decide), sF_ne _ _ (by decide), sF_get]
    rfl
  · rw [sF_ne _ _ (by decide), d3.2.1 45 (by decide), c3.2.1 45 (by decide), sF_get, hat]
    rfl
  · exact Frm_trans (Frm_mono a3 (by simp) (by simp)) (Frm_trans (Frm_mono b3 (by simp) (by simp)) (Frm_trans (Frm_sF (by decide)) (Frm_trans (Frm_sF (by decide)) (Frm_trans (Frm_mono c3 (by simp) (by simp)) (Frm_trans (Frm_mono d3 (by simp) (by simp)) (Frm_sF (by decide)))))))
/-- what stands in a statement -/
def pBody (T : List Int32) (cnt : Nat) (p : Pz) : Sm × Pz :=
  let t2 := pTake T (kwL 12) p
  let t3 := pTake T (kwL 13) t2.2
  let t4 := pTake T (kwL 14) t3.2
  let t5 := pTake T (kwL 15) t4.2
  let t6 := pTake T (kwL 16) t5.2
  let t7 := pTake T (kwL 17) t6.2
  let t8 := pTake T (kwL 18) t7.2
  if t2.1 then (let e := pNum T 0 (cnt - 1) t2.2; let n := pNum T 0 9 e.2; ((1, (e.1, n.1, 0, 0), []), n.2))
  else if t3.1 then (let n := pNum T 0 2 t3.2; ((2, (n.1, 0, 0, 0), []), n.2))
  else if t4.1 then (let e := pNum T 0 (cnt - 1) t4.2; let o := pOp T false 42 0 e.2; ((3, (e.1, 0, 0, 0), o.1), o.2))
  else if t5.1 then (let e := pNum T 0 (cnt - 1) t5.2; let n := pNum T 0 99 e.2; ((4, (e.1, n.1, 0, 0), []), n.2))
  else if t6.1 then (let e := pNum T 0 (cnt - 1) t6.2; let n := pNum T 0 99 e.2; let m := pNum T 0 99 n.2; let g := pNum T 0 3 m.2; ((5, (e.1, n.1, m.1, g.1), []), g.2))
  else if t7.1 then (let e := pNum T 0 (cnt - 1) t7.2; ((6, (e.1, 0, 0, 0), []), e.2))
  else if t8.1 then (let e := pNum T 0 (cnt - 1) t8.2; ((7, (e.1, 0, 0, 0), []), e.2))
  else (let n := pNum T 1 99 (pAsk T (kwL 19) t8.2); ((8, (n.1, 0, 0, 0), []), n.2))
def pStm (T : List Int32) (cnt k : Nat) (p : Pz) : Sm × Pz :=
  let b := pBody T cnt (if k = 60 then pFail p 5 (pAt p) else p)
  (b.1, pAskS T 59 b.2)
theorem RQ_edT {M : MS} {T : List Int32} {p : Pz} {cnt : Nat} (h : RQ M T p) (h43 : M.1 43 = nI cnt) (hc : 1 ≤ cnt) (hc4 : cnt < 100) : ∃ M', f12_editorTold M = some (nI (pNum T 0 (cnt - 1) p).1, M') ∧ RQ M' T (pNum T 0 (cnt - 1) p).2 ∧ Frm [] [2, 4, 5, 6] M M' ∧ M'.1 43 = nI cnt := by
  obtain ⟨M', g1, g2, g3⟩ := RQ_num (lo := 0) (hi := cnt - 1) h (by omega) (by omega)
  refine ⟨M', ?_, g2, g3, by rw [g3.2.1 43 (by decide)]; exact h43⟩
  unfold f12_editorTold
  rw [show gF M 43 = _ from h43, show (1 : Int32) = nI 1 from rfl, nI_sub hc, show f12_number M (0 : Int32) (nI (cnt - 1)) = _ from g1, bn2_s]
