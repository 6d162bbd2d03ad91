/-! ===== PART II, the reference: all statements are gone over ===== -/
theorem all_bad {T : List Int32} {cnt n k : Nat} {p : Pz} (h : pBd p ≠ 0) : pAll T cnt n k p = ([], p) := by
  cases n with
  | zero => rfl
  | succ n => unfold pAll; rw [if_neg h]
theorem kind_lk (T : List Int32) (a : Nat) : kindAt T (lkP T a) = kindAt T a := by unfold kindAt; simp only [here_lk]
theorem askS_bd {T : List Int32} {c : Int32} {p : Pz} (h : pBd p ≠ 0) : pBd (pAskS T c p) ≠ 0 := by rw [askS_bad h]; exact h
theorem over_step {T : List Int32} {p : Pz} {cnt d k : Nat} (hp : free p (pAt p)) (ho : pBd (pAll T cnt (d + 1) k p).2 = 0) (hne : byteAt T (lkP T (pAt p)) ≠ -1) :
    ∃ (b : Sm × Pz) (c : Nat), b = restK T cnt (kindAt T (pAt p)) (rdr T (kwL (11 + kindAt T (pAt p))) (pAt p)) ∧ c = lkP T (pAt b.2) ∧ kindAt T (pAt p) ≠ 0 ∧ pBd b.2 = 0 ∧ byteAt T c = 59 ∧ ns T (lkP T (pAt p)) c ∧ lkP T (pAt p) ≤ c ∧ pAll T cnt (d + 1) k p = (b.1 :: (pAll T cnt d (k + 1) (c + 1, b.2.2)).1, (pAll T cnt d (k + 1) (c + 1, b.2.2)).2) ∧ free (c + 1, b.2.2) (c + 1) ∧ k ≠ 60 := by
  have hb := free_bd hp
  rw [pAll, if_pos hb, if_neg hne] at ho ⊢
  dsimp only at ho ⊢
  have hs : pBd (pStm T cnt k (lkP T (pAt p), p.2)).2 = 0 := by
    by_cases hx : pBd (pStm T cnt k (lkP T (pAt p), p.2)).2 = 0
    · exact hx
    · rw [all_bad hx] at ho; exact absurd ho hx
  have hk60 : k ≠ 60 := by
    intro hk
    unfold pStm at hs
    dsimp only at hs
    rw [if_pos hk] at hs
    have hbd : pBd (pFail ((lkP T (pAt p), p.2) : Pz) 5 (lkP T (pAt p))) ≠ 0 := fail_is (by omega)
    rw [body_bad hbd, askS_bad hbd] at hs
    exact hbd hs
  have eS : pStm T cnt k (lkP T (pAt p), p.2) = ((pBody T cnt (lkP T (pAt p), p.2)).1, pAskS T 59 (pBody T cnt (lkP T (pAt p), p.2)).2) := by
    unfold pStm
    dsimp only
    rw [if_neg hk60]
  rw [eS] at hs ho ⊢
  obtain ⟨g1, g2, g3⟩ := askS_good hs
  obtain ⟨b1, b2⟩ := body_free (free_lk (T := T) hp) g1
  rw [kind_lk, rdr_lk] at b2
  rw [kind_lk] at b1
  rw [b2] at g1 g2 g3
  rw [b2]
  dsimp only
  generalize hB : restK T cnt (kindAt T (pAt p)) (rdr T (kwL (11 + kindAt T (pAt p))) (pAt p)) = b at *
  have hok : pBd (restK T cnt (kindAt T (pAt p)) (rdr T (kwL (11 + kindAt T (pAt p))) (pAt p))).2 = 0 := by rw [hB]; exact g1
  obtain ⟨e1, e2⟩ := rest_end hok
  obtain ⟨r1, r2, -, -⟩ := okR_rest hok
  rw [hB] at e1 e2 r1 r2
  have hh := (kind_is b1).1
  have n1 := here_ns hh
  have hrd : lkP T (pAt p) ≤ pAt (rdr T (kwL (11 + kindAt T (pAt p))) (pAt p)) := Nat.le_add_right _ _
  have l1 := lk_ge T (pAt b.2)
  refine ⟨b, lkP T (pAt b.2), rfl, rfl, b1, g1, g2, ns_tr n1 (ns_tr r2 (ns_lk _ _)), by omega, by rw [g3], ⟨rfl, ?_, fun x hx => ?_⟩, hk60⟩
  · exact e1
  · have := e2 x hx; omega
theorem over_skip {T : List Int32} {c1 : Int32} {c : Nat} {q' : Pz} {M : MS} (h : RQ M T q') (hc : byteAt T c = 59) (h2 : q'.2.2 = (0, none)) (he : ∀ x, pEd q' = some x → x ≤ pAt q') (hle : pAt q' ≤ c) (hns : ns T (pAt q') c) :
    ∃ M', L12_goesOver_38 c1 FU M = some M' ∧ RQ (sF M' 2 ((gF M' 2) + 1)) T (c + 1, q'.2) ∧ free (c + 1, q'.2) (c + 1) ∧ Frm [] [2, 4, 5, 6] M (sF M' 2 ((gF M' 2) + 1)) := by
  have hcl : c < T.length := by
    by_cases hl : c < T.length
    · exact hl
    · unfold byteAt at hc; rw [if_neg hl] at hc; exact absurd hc (by decide)
  have hT := h.1.2.2.2.2.2.2.1
  obtain ⟨M', a1, a2, a3⟩ := skip_loop (c1 := c1) hc FU q' M h hle hns (by rw [FU_eq]; omega)
  refine ⟨M', a1, ?_, ⟨rfl, h2, fun x hx => by have := he x hx; omega⟩, Frm_trans a3 (Frm_sF (by decide))⟩
  rw [show gF M' 2 = _ from a2.1.2.2.1, nI_1]
  exact ⟨RP_at (p := (c, q'.2)) (i := c + 1) a2.1 (by omega), fun x hx => by have := he x hx; omega, RKw_frm a2.2.2 (Frm_sF (k := 2) (Fs := [2]) (by decide))⟩
/-- all is as it was told, but for delays -/
def FrW (cnt : Nat) (told : List Int32) (W : Wd) : Prop := W.1 = (0, 0, 0) ∧ wRow W = [] ∧ ∀ i, i < cnt → eDel (wE W i) ≤ 9 ∧ wE W i = (0, 0, [], true, eDel (wE W i), none, none, none, eSnt (wE W i), told, [], [], eCom (wE W i))
theorem FrW_good {cnt ties : Nat} {told : List Int32} {W : Wd} (h : FrW cnt told W) (hc : cnt ≤ 4) (ht : ties ≤ 2) (hl : told.length ≤ 40) (ho : ∀ v ∈ told, okP v) : Good cnt ties told.length W := by
  obtain ⟨h1, h2, h3⟩ := h
  have t1 : wPu W = 0 := by show W.1.2.2 = 0; rw [h1]
  have t2 : wEd W = 0 := by show W.1.2.1 = 0; rw [h1]
  have u : ∀ i, i < cnt → unt (wE W i) = 0 ∧ untN (wE W i) = 0 := fun i hi => by rw [(h3 i hi).2]; exact ⟨rfl, rfl⟩
  have s0 : ∀ (f : Nat → Nat), (∀ i, i < cnt → f i = 0) → sumN f cnt = 0 := by
    intro f hf
    have : sumN f cnt = sumN (fun _ => 0) cnt := sumN_congr hf
    rw [this]
    clear hf this
    induction cnt with
    | zero => rfl
    | succ n ih => rw [sumN]; exact ih (by omega) (fun i hi => h3 i (by omega)) (fun i hi => u i (by omega))
  refine ⟨hc, ht, by omega, by omega, by omega, ?_, ?_, ?_, fun e he => ?_⟩
  · rw [h2]; trivial
  · rw [h2, s0 _ (fun i hi => (u i hi).1)]; exact Nat.zero_le _
  · rw [h2, s0 _ (fun i hi => (u i hi).2)]; exact Nat.zero_le _
  · obtain ⟨g1, g2⟩ := h3 e he
    have o0 : outs cnt e W = 0 := by
      unfold outs
      have z : ∀ i, i < cnt → (if i = e then 0 else unt (wE W i)) = 0 := fun i hi => by
        by_cases hx : i = e
        · rw [if_pos hx]
        · rw [if_neg hx]; exact (u i hi).1
      rw [h2, List.drop_nil, s0 _ z]
      rfl
    unfold EdOk
    rw [o0, h2]
    generalize eDel (wE W e) = dl at *
    generalize eSnt (wE W e) = sn at *
    generalize eCom (wE W e) = cm at *
    rw [g2]
    exact ⟨Nat.zero_le _, g1, fun k hk => (by cases hk), fun i hi => absurd hi (Nat.not_lt_zero _), ho, rfl, (show ∀ o ∈ ([] : List (Nat × List Int32)), o.1 ≠ e from fun o hx => absurd hx List.not_mem_nil), fun hh => (by cases hh), Nat.zero_le _, Nat.zero_le _, trivial, trivial, trivial, trivial, by show told.length + 0 + 0 + 0 ≤ told.length + wPu W; omega, by show 0 + 0 ≤ wPu W; omega, Nat.zero_le _, Nat.zero_le _, fun x hx => absurd hx List.not_mem_nil⟩
theorem FrW_laid {cnt : Nat} {told : List Int32} {W : Wd} {e n : Nat} (h : FrW cnt told W) (hn : n ≤ 9) : FrW cnt told (setE W e (sDel (wE W e) n)) := by
  obtain ⟨h1, h2, h3⟩ := h
  refine ⟨h1, h2, fun i hi => ?_⟩
  by_cases hie : i = e
  · subst hie
    rw [setE_self]
    obtain ⟨g1, g2⟩ := h3 i hi
    refine ⟨hn, ?_⟩
    conv => lhs; rw [g2]
    rfl
  · rw [setE_ne _ _ hie]; exact h3 i hi
