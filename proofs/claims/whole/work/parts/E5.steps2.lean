/-! ===== PART II, the class: the steps of an operation, all of them ===== -/
section T5
variable {S S' S'' : CS} {z i k q : Nat} {T : List Int32} {v : Tm}
/-- what comes of the steps: all read, or a fault that is told there, or one that is still to be told -/
def StpR (z : Nat) (S : CS) (T : List Int32) (wh : Bool) (v : Tm) (ss : List Sv) (pf : Pz) (o : Option (Nat × Int32 × CS)) : Prop :=
  ∃ (t : Nat) (x : Int32) (S' : CS), o = some (t, x, S') ∧ ((t = 2 ∧ ∃ k' i' l, k' ≤ 40 ∧ x = nI k' ∧ OK8 z S S' T i' (addT v l) ∧ lkP T i' = i' ∧ (addT v l).1 ≤ i' ∧ ((pBd pf = 0 ∧ pAt pf = i' ∧ EndB wh (byteAt T i') ∧ l = partsS ss ∧ (k' = 40 → True)) ∨ (pBd pf = (if k' = 40 then 5 else 1) ∧ pBp pf = some i' ∧ ¬ EndB wh (byteAt T i')))) ∨ ((t = 0 ∨ t = 1) ∧ BDp z S S' pf))
theorem StpR_tr {wh : Bool} {l : List Int32} {ss : List Sv} {pf : Pz} {o : Option (Nat × Int32 × CS)} {i : Nat} {s : Sv} (h1 : OK8 z S S' T i (addT v (partL s))) (h2 : StpR z S' T wh (addT v (partL s)) ss pf o) : StpR z S T wh v (s :: ss) pf o := by
  obtain ⟨t, x, S'', e, h⟩ := h2
  refine ⟨t, x, S'', e, ?_⟩
  rcases h with ⟨ht, k', i', l', a1, a2, a3, a4, a5, a6⟩ | ⟨ht, h⟩
  · rw [addT_app] at a3 a5
    refine Or.inl ⟨ht, k', i', partL s ++ l', a1, a2, OK8_tr h1 a3, a4, a5, ?_⟩
    rcases a6 with ⟨b1, b2, b3, b4, b5⟩ | b
    · exact Or.inl ⟨b1, b2, b3, by rw [b4]; rfl, b5⟩
    · exact Or.inr b
  · exact Or.inr ⟨ht, BDp_tr h1 h⟩
theorem end_noSt {wh : Bool} {c : Int32} (h : EndB wh c) : isSt c = false := by
  rcases h with rfl | ⟨_, rfl⟩ <;> decide
theorem st_noEnd {wh : Bool} {c : Int32} (h : isSt c = true) : ¬ EndB wh c := fun hh => by rw [end_noSt hh] at h; cases h
theorem stp_num {p : Pz} (hb : pBd p = 0) (hd : isDg (byteAt T (pAt p)) = true) : (pStp T p).2 = (pNum T 1 99 p).2 := by
  have hl := lk_dg hd
  have hs1 := sign_no (c := 43) hb (by rw [hl]; exact (dg_not hd).2.2.2.2.1)
  rw [hl] at hs1
  have hs2 := sign_no (c := 45) (p := (pAt p, p.2)) hb (by rw [show pAt ((pAt p, p.2) : Pz) = pAt p from rfl, hl]; exact (dg_not hd).2.2.2.2.2)
  rw [show pAt ((pAt p, p.2) : Pz) = pAt p from rfl, hl] at hs2
  unfold pStp
  rw [hs1, if_neg (fun hh => Bool.noConfusion hh), hs2]
theorem lk_i {i : Nat} (h : lkP T i = i) : lkP T (lkP T i) = lkP T i := by rw [h, h]
theorem steps_lp {wh : Bool} {sg : Int32} : ∀ (d k n : Nat) (p : Pz) (S : CS) (v : Tm), k + d = 40 → d < n → PR S z T (pAt p) v → pBd p = 0 → lkP T (pAt p) = pAt p → (k < 40 → CE T p) → v.1 ≤ pAt p → ¬ EndB wh (byteAt T (pAt p)) →
    StpR z S T wh v (pOp T wh (d + 2) k p).1 (pOp T wh (d + 2) k p).2 (LX8_readSteps_32 (z + 1) sg n (nI k) S) := by
  intro d
  induction d with
  | zero =>
    intro k n p S v hk hn h hb hlk hc hu hne
    obtain ⟨n, rfl⟩ : ∃ j, n = j + 1 := ⟨n - 1, by omega⟩
    have hk40 : k = 40 := by omega
    subst hk40
    have hf : pBd (pFail p 5 (pAt p)) ≠ 0 := by rw [fail_go hb]; show 5 ≠ 0; omega
    have hpo : (pOp T wh (0 + 2) 40 p).2 = (lkP T (pAt p), pEd p, 5, some (pAt p)) := by
      have e1 : pOp T wh (0 + 2) 40 p = (let s := pStp T (pFail p 5 (pAt p)); let p3 : Pz := (lkP T (pAt s.2), s.2.2); if byteAt T (pAt p3) = -1 ∨ (wh = false ∧ byteAt T (pAt p3) = 59) then ([s.1], p3) else (s.1 :: (pOp T wh (0 + 1) (40 + 1) p3).1, (pOp T wh (0 + 1) (40 + 1) p3).2)) := by
        rw [pOp, if_pos hb]; rfl
      rw [e1]
      dsimp only
      rw [step_bad hf, fail_go hb]
      have hp3 : byteAt T (pAt ((lkP T (pAt ((pAt p, pEd p, 5, some (pAt p)) : Pz)), ((pAt p, pEd p, 5, some (pAt p)) : Pz).2) : Pz)) = byteAt T (pAt p) := by
        show byteAt T (lkP T (pAt p)) = _
        rw [hlk]
      rw [hp3, if_neg (show ¬ (byteAt T (pAt p) = -1 ∨ (wh = false ∧ byteAt T (pAt p) = 59)) from hne)]
      show (pOp T wh (0 + 1) (40 + 1) (lkP T (pAt p), pEd p, 5, some (pAt p))).2 = _
      rw [op_bad (show pBd ((lkP T (pAt p), pEd p, 5, some (pAt p)) : Pz) ≠ 0 from fun hh => by
        have : (5 : Nat) = 0 := hh
        omega)]
    refine ⟨2, nI 40, S, ?_, Or.inl ⟨rfl, 40, pAt p, [], Nat.le_refl _, rfl, by rw [addT_nil]; exact OK8_rf h, hlk, by rw [addT_nil]; exact hu, Or.inr ⟨?_, ?_, hne⟩⟩⟩
    · unfold LX8_readSteps_32
      rw [if_pos (by decide)]
    · rw [hpo, if_pos rfl]
    · rw [hpo]
  | succ d ih =>
    intro k n p S v hk hn h hb hlk hc hu hne
    obtain ⟨n, rfl⟩ : ∃ j, n = j + 1 := ⟨n - 1, by omega⟩
    have hk40 : k ≠ 40 := by omega
    have hpr := h.2.2.2.2.2.2
    have hun : LX8_readSteps_32 (z + 1) sg (n + 1) (nI k) S = (if isSt (byteAt T (pAt p)) then (bn2 (cal S 8 (z + 1) (f8_readStep S (z + 1))) fun v2 S3 => if v2 = 0 then (some (0, nI k, S3)) else (if (40 : Int32) ≤ nI (k + 1) then ((cal S3 8 (z + 1) (f8_skipBlanks S3 (z + 1))).bind fun S4 => LX8_readSteps_32 (z + 1) sg n (nI (k + 1)) S4) else (bn2 (cal S3 8 (z + 1) (f8_endsWell S3 (z + 1))) fun v5 S6 => if v5 = 0 then (some (1, nI (k + 1), S6)) else ((cal S6 8 (z + 1) (f8_skipBlanks S6 (z + 1))).bind fun S7 => LX8_readSteps_32 (z + 1) sg n (nI (k + 1)) S7)))) else some (2, nI k, S)) := by
      conv => lhs; unfold LX8_readSteps_32
      rw [if_neg (show ¬ (40 : Int32) ≤ nI k from nI_ge (b := 40) (by omega) (by omega)), isStep_P h, Option.bind_some, nI_1]
      cases isSt (byteAt T (pAt p)) with
      | true => rw [if_neg (show ¬ bI true = 0 by decide), if_pos rfl]
      | false => rw [if_pos (show bI false = 0 from rfl), if_neg (by decide)]
    rw [hun, op_succ hb hk40]
    by_cases hst : isSt (byteAt T (pAt p)) = true
    · rw [if_pos hst]
      obtain ⟨S3, r, r1, r2⟩ := readStep_R h hb hu (hc (by omega)) hlk
      rw [r1, bn2_s]
      rcases r2 with ⟨rfl, ⟨e1, e2⟩, e3, e4⟩ | ⟨rfl, e⟩
      · rw [if_neg (show ¬ (1 : Int32) = 0 by decide)]
        have hp3 : pBd ((lkP T (pAt (pStp T p).2), (pStp T p).2.2) : Pz) = 0 := e1
        have hle3 := e2.1.2.2.2.2.2.2
        have hge3 := lk_ge T (pAt (pStp T p).2)
        -- behind the step
        have fin : ∀ (S7 : CS), OK8 z S S7 T (lkP T (pAt (pStp T p).2)) (addT v (partL (pStp T p).1)) → (k + 1 < 40 → isDg (byteAt T (pAt (pStp T p).2)) = false) → StpR z S T wh v (if byteAt T (lkP T (pAt (pStp T p).2)) = -1 ∨ (wh = false ∧ byteAt T (lkP T (pAt (pStp T p).2)) = 59) then ([(pStp T p).1], ((lkP T (pAt (pStp T p).2), (pStp T p).2.2) : Pz)) else ((pStp T p).1 :: (pOp T wh (d + 2) (k + 1) (lkP T (pAt (pStp T p).2), (pStp T p).2.2)).1, (pOp T wh (d + 2) (k + 1) (lkP T (pAt (pStp T p).2), (pStp T p).2.2)).2)).1 (if byteAt T (lkP T (pAt (pStp T p).2)) = -1 ∨ (wh = false ∧ byteAt T (lkP T (pAt (pStp T p).2)) = 59) then ([(pStp T p).1], ((lkP T (pAt (pStp T p).2), (pStp T p).2.2) : Pz)) else ((pStp T p).1 :: (pOp T wh (d + 2) (k + 1) (lkP T (pAt (pStp T p).2), (pStp T p).2.2)).1, (pOp T wh (d + 2) (k + 1) (lkP T (pAt (pStp T p).2), (pStp T p).2.2)).2)).2 (LX8_readSteps_32 (z + 1) sg n (nI (k + 1)) S7) := by
          intro S7 hO hdg
          by_cases hend : byteAt T (lkP T (pAt (pStp T p).2)) = -1 ∨ (wh = false ∧ byteAt T (lkP T (pAt (pStp T p).2)) = 59)
          · rw [if_pos hend]
            refine ⟨2, nI (k + 1), S7, ?_, Or.inl ⟨rfl, k + 1, lkP T (pAt (pStp T p).2), partL (pStp T p).1, by omega, rfl, hO, lk_lk _ _, by omega, Or.inl ⟨e1, rfl, hend, by show _ = partL _ ++ []; rw [List.append_nil], fun _ => trivial⟩⟩⟩
            obtain ⟨n, rfl⟩ : ∃ j, n = j + 1 := ⟨n - 1, by omega⟩
            unfold LX8_readSteps_32
            by_cases h40 : 40 ≤ k + 1
            · rw [if_pos (show (40 : Int32) ≤ nI (k + 1) from nI_le (a := 40) h40 (by omega))]
            · rw [if_neg (show ¬ (40 : Int32) ≤ nI (k + 1) from nI_ge (b := 40) (by omega) (by omega)), isStep_P hO.1, Option.bind_some, end_noSt hend, if_pos (show bI false = 0 from rfl)]
          · rw [if_neg hend]
            have hi := ih (k + 1) n (lkP T (pAt (pStp T p).2), (pStp T p).2.2) S7 (addT v (partL (pStp T p).1)) (by omega) (by omega) hO.1 e1 (lk_lk _ _) (fun hk1 x hx => by
              have hx2 : pEd (pStp T p).2 = some x := hx
              rw [e3] at hx2
              have hx3 : pAt (pStp T p).2 = x := Option.some.inj hx2
              refine ⟨by show x ≤ lkP T (pAt (pStp T p).2); omega, fun _ => ?_⟩
              rw [← hx3]
              exact hdg hk1) (by show _ ≤ lkP T (pAt (pStp T p).2); omega) hend
            exact StpR_tr (l := []) hO hi
        by_cases h40 : 40 ≤ k + 1
        · obtain ⟨S4, y1, y2⟩ := skip_P e2.1
          rw [if_pos (show (40 : Int32) ≤ nI (k + 1) from nI_le (a := 40) h40 (by omega)), y1, Option.bind_some]
          exact fin S4 (OK8_tr e2 y2) (fun hh => by omega)
        · rw [if_neg (show ¬ (40 : Int32) ≤ nI (k + 1) from nI_ge (b := 40) (by omega) (by omega))]
          rcases ends_P e2.1 with ⟨d1, d2⟩ | ⟨d1, S6, d2, d3⟩
          · obtain ⟨S4, y1, y2⟩ := skip_P e2.1
            rw [d2, bn2_s, if_neg (show ¬ (1 : Int32) = 0 by decide), y1, Option.bind_some]
            exact fin S4 (OK8_tr e2 y2) (fun _ => d1)
          · rw [d2, bn2_s, if_pos (show (0 : Int32) = 0 from rfl)]
            have hl := lk_dg d1
            have hne2 : ¬ (byteAt T (pAt (pStp T p).2) = -1 ∨ (wh = false ∧ byteAt T (pAt (pStp T p).2) = 59)) := fun hh => by
              have := dg_not d1
              rcases hh with hh | ⟨_, hh⟩
              · exact this.2.2.1 hh
              · exact this.2.2.2.1 hh
            rw [hl, if_neg hne2]
            have hE : ((pAt (pStp T p).2, (pStp T p).2.2) : Pz) = (pStp T p).2 := rfl
            rw [hE]
            have hpf : pBd (pOp T wh (d + 2) (k + 1) (pStp T p).2).2 = 1 ∧ pBp (pOp T wh (d + 2) (k + 1) (pStp T p).2).2 = some (pAt (pStp T p).2) := by
              have hq : (pStp T (pStp T p).2).2 = (pNum T 1 99 (pStp T p).2).2 := stp_num e1 d1
              obtain ⟨w1, w2⟩ := num_side (lo := 1) (hi := 99) e1 e3 d1
              have hbd : pBd (pStp T (pStp T p).2).2 ≠ 0 := by rw [hq, w1]; omega
              rw [op_succ e1 (by omega)]
              have hsh : ∀ (b : Prop) [Decidable b], (if b then ([(pStp T (pStp T p).2).1], ((lkP T (pAt (pStp T (pStp T p).2).2), (pStp T (pStp T p).2).2.2) : Pz)) else ((pStp T (pStp T p).2).1 :: (pOp T wh (d + 1) (k + 1 + 1) (lkP T (pAt (pStp T (pStp T p).2).2), (pStp T (pStp T p).2).2.2)).1, (pOp T wh (d + 1) (k + 1 + 1) (lkP T (pAt (pStp T (pStp T p).2).2), (pStp T (pStp T p).2).2.2)).2)).2 = ((lkP T (pAt (pStp T (pStp T p).2).2), (pStp T (pStp T p).2).2.2) : Pz) := by
                intro b _
                split
                · rfl
                · rw [op_bad (show pBd ((lkP T (pAt (pStp T (pStp T p).2).2), (pStp T (pStp T p).2).2.2) : Pz) ≠ 0 from hbd)]
              rw [hsh]
              refine ⟨?_, ?_⟩
              · show pBd (pStp T (pStp T p).2).2 = 1
                rw [hq]; exact w1
              · show pBp (pStp T (pStp T p).2).2 = _
                rw [hq]; exact w2
            exact ⟨1, nI (k + 1), S6, rfl, Or.inr ⟨Or.inr rfl, BDp_of (BD8_tr e2 d3) (by omega) hpf.1 hpf.2⟩⟩
      · rw [if_pos (show (0 : Int32) = 0 from rfl)]
        have hbd := e.1
        refine ⟨0, nI k, S3, rfl, Or.inr ⟨Or.inl rfl, ?_⟩⟩
        have hsh : ∀ (b : Prop) [Decidable b], (if b then ([(pStp T p).1], ((lkP T (pAt (pStp T p).2), (pStp T p).2.2) : Pz)) else ((pStp T p).1 :: (pOp T wh (d + 2) (k + 1) (lkP T (pAt (pStp T p).2), (pStp T p).2.2)).1, (pOp T wh (d + 2) (k + 1) (lkP T (pAt (pStp T p).2), (pStp T p).2.2)).2)).2 = ((lkP T (pAt (pStp T p).2), (pStp T p).2.2) : Pz) := by
          intro b _
          split
          · rfl
          · rw [op_bad (show pBd ((lkP T (pAt (pStp T p).2), (pStp T p).2.2) : Pz) ≠ 0 from hbd)]
        rw [hsh]
        exact e
    · have hsf : isSt (byteAt T (pAt p)) = false := by cases hh : isSt (byteAt T (pAt p)) <;> simp_all
      obtain ⟨w1, w2, w3⟩ := stp_no hb (by rw [hlk]; exact hsf)
      have hbd : pBd (pStp T p).2 ≠ 0 := by omega
      rw [hlk] at w2 w3
      have hsh : ∀ (b : Prop) [Decidable b], (if b then ([(pStp T p).1], ((lkP T (pAt (pStp T p).2), (pStp T p).2.2) : Pz)) else ((pStp T p).1 :: (pOp T wh (d + 2) (k + 1) (lkP T (pAt (pStp T p).2), (pStp T p).2.2)).1, (pOp T wh (d + 2) (k + 1) (lkP T (pAt (pStp T p).2), (pStp T p).2.2)).2)).2 = ((lkP T (pAt (pStp T p).2), (pStp T p).2.2) : Pz) := by
        intro b _
        split
        · rfl
        · rw [op_bad (show pBd ((lkP T (pAt (pStp T p).2), (pStp T p).2.2) : Pz) ≠ 0 from hbd)]
      rw [if_neg hst]
      refine ⟨2, nI k, S, rfl, Or.inl ⟨rfl, k, pAt p, [], by omega, rfl, by rw [addT_nil]; exact OK8_rf h, hlk, by rw [addT_nil]; exact hu, Or.inr ⟨?_, ?_, hne⟩⟩⟩
      · rw [hsh, if_neg hk40]; exact w1
      · rw [hsh]; exact w2
end T5
