/-! ===== PART II, the class: what a statement tells ===== -/
/-- a statement as it is kept: parts, numbers, its place among them, how many parts are used -/
def StmA (f n : Nat → Int32) (c u : Nat) (s : Sm) : Prop := n (4 * c) = nI s.2.1.1 ∧ ((s.1 = 1 ∨ s.1 = 4 ∨ s.1 = 5) → n (4 * c + 1) = nI s.2.1.2.1) ∧ (s.1 = 5 → n (4 * c + 2) = nI s.2.1.2.2.1 ∧ n (4 * c + 3) = nI s.2.1.2.2.2) ∧ (s.1 = 3 → ∃ a, n (4 * c + 1) = nI a ∧ n (4 * c + 2) = nI (a + (partsS s.2.2).length) ∧ a + (partsS s.2.2).length ≤ u ∧ seg f a (partsS s.2.2))
def KeepV (v v' : Tm) : Prop := v.1 ≤ v'.1 ∧ v'.2.1 = v.2.1 ∧ v'.2.2.1 = v.2.2.1 ∧ v'.2.2.2.1 = v.2.2.2.1 ∧ v'.2.2.2.2.2.1 = v.2.2.2.2.2.1 ∧ (∀ j, j < v.1 → v'.2.2.2.2.1 j = v.2.2.2.2.1 j) ∧ (∀ j, j < 4 * v.2.1 → v'.2.2.2.2.2.2 j = v.2.2.2.2.2.2 j)
theorem KeepV_rf (v : Tm) : KeepV v v := ⟨Nat.le_refl _, rfl, rfl, rfl, rfl, fun _ _ => rfl, fun _ _ => rfl⟩
theorem KeepV_tr {v v' v'' : Tm} (h1 : KeepV v v') (h2 : KeepV v' v'') : KeepV v v'' := by
  obtain ⟨a1, a2, a3, a4, a5, a6, a7⟩ := h1
  obtain ⟨b1, b2, b3, b4, b5, b6, b7⟩ := h2
  exact ⟨by omega, by rw [b2, a2], by rw [b3, a3], by rw [b4, a4], by rw [b5, a5], fun j hj => by rw [b6 j (by omega), a6 j hj], fun j hj => by rw [b7 j (by rw [a2]; exact hj), a7 j hj]⟩
theorem KeepV_sN (v : Tm) (k : Nat) (x : Int32) : KeepV v (sN v k x) := ⟨Nat.le_refl _, rfl, rfl, rfl, rfl, fun _ _ => rfl, fun j hj => upd_ne _ _ (by omega)⟩
theorem KeepV_add (v : Tm) (l : List Int32) : KeepV v (addT v l) := ⟨Nat.le_add_right _ _, rfl, rfl, rfl, rfl, fun j hj => wr_out (by omega), fun _ _ => rfl⟩
section T6
variable {S S' S'' : CS} {z i k q : Nat} {T : List Int32} {v : Tm}
/-- a fault that is still to be told: it is told where the reader stands -/
def PnD (z : Nat) (S S' : CS) (T : List Int32) (wh : Bool) (pf : Pz) : Prop := pBd pf = 1 ∧ ∃ i' v', OK8 z S S' T i' v' ∧ lkP T i' = i' ∧ ¬ EndB wh (byteAt T i') ∧ pBp pf = some i'
theorem PnD_tr {wh : Bool} {pf : Pz} (h1 : OK8 z S S' T i v) (h2 : PnD z S' S'' T wh pf) : PnD z S S'' T wh pf := by
  obtain ⟨a, i', v', b, c⟩ := h2
  exact ⟨a, i', v', OK8_tr h1 b, c⟩
theorem readSteps_R {wh : Bool} {p : Pz} {d : Nat} {sg : Int32} (hd : d = 40) (hsg : sg = if wh then -1 else 59) (h : PR S z T (pAt p) v) (hb : pBd p = 0) (hc : CE T p) (hu : v.1 ≤ pAt p) (hk : 4 * v.2.1 + 2 < 240) : ∃ S' r, cal S 8 (z + 1) (f8_readSteps S (z + 1) sg) = some (r, S') ∧
    ((r = 1 ∧ OKp z S S' T (pOp T wh (d + 2) 0 p).2 (sN (addT (sN v 1 (nI v.1)) (partsS (pOp T wh (d + 2) 0 p).1)) 2 (nI (v.1 + (partsS (pOp T wh (d + 2) 0 p).1).length))) ∧ EndB wh (byteAt T (pAt (pOp T wh (d + 2) 0 p).2)) ∧ lkP T (pAt (pOp T wh (d + 2) 0 p).2) = pAt (pOp T wh (d + 2) 0 p).2 ∧ v.1 + (partsS (pOp T wh (d + 2) 0 p).1).length ≤ pAt (pOp T wh (d + 2) 0 p).2) ∨
     (r = 0 ∧ BDp z S S' (pOp T wh (d + 2) 0 p).2) ∨ (r = 1 ∧ PnD z S S' T wh (pOp T wh (d + 2) 0 p).2)) := by
  have e8 : gi S 8 (z + 1) 8 = some (nI v.1) := by rw [gi_k (PR_k h), h.2.2.2.2.1.2.1]
  obtain ⟨S2, x1, x2⟩ := setN_P (k := 1) (x := nI v.1) h (by omega)
  have x2' : OK8 z S S2 T (pAt p) (sN v 1 (nI v.1)) := x2
  obtain ⟨S3, y1, y2⟩ := skip_P x2'.1
  have h3 := OK8_tr x2' y2
  have hst := isStep_P y2.1
  rw [cal_k (PR_k h)]
  unfold f8_readSteps
  rw [e8, Option.bind_some, show cal S 8 (z + 1) (f8_setNumber S (z + 1) 1 (nI v.1)) = some S2 from x1, Option.bind_some, y1, Option.bind_some, hst, Option.bind_some]
  have hge := lk_ge T (pAt p)
  by_cases hs : isSt (byteAt T (lkP T (pAt p))) = true
  · rw [hs, if_neg (show ¬ bI true = 0 by decide)]
    have hlp := steps_lp (z := z) (T := T) (wh := wh) (sg := sg) d 0 FU (lkP T (pAt p), p.2) S3 (sN v 1 (nI v.1)) (by omega) (by rw [FU_eq]; omega) y2.1 hb (lk_lk _ _) (fun _ x hx => by
      obtain ⟨c1, c2⟩ := hc x hx
      refine ⟨by show x ≤ lkP T (pAt p); omega, fun e => c2 ?_⟩
      have e : x = lkP T (lkP T (pAt p)) := e
      rw [lk_lk] at e; exact e) (by show v.1 ≤ lkP T (pAt p); omega) (st_noEnd hs)
    rw [op_lk (d := d + 1) hb] at hlp
    obtain ⟨t, x, S7, o1, o2⟩ := hlp
    rw [show LX8_readSteps_32 (z + 1) sg FU 0 S3 = some (t, x, S7) from o1, bn3_s]
    rcases o2 with ⟨rfl, k', i', l, k40, rfl, a1, a2, a3, a4⟩ | ⟨ht, e⟩
    · have e9 : gi S7 8 (z + 1) 8 = some (nI (v.1 + l.length)) := by rw [gi_k (PR_k a1.1), a1.1.2.2.2.2.1.2.1]; rfl
      obtain ⟨S10, w1, w2⟩ := setN_P (k := 2) (x := nI (v.1 + l.length)) a1.1 hk
      have w2' : OK8 z S7 S10 T i' (sN (addT (sN v 1 (nI v.1)) l) 2 (nI (v.1 + l.length))) := w2
      have hA : OK8 z S S10 T i' (sN (addT (sN v 1 (nI v.1)) l) 2 (nI (v.1 + l.length))) := OK8_tr (OK8_tr h3 a1) w2'
      rw [if_neg (by decide), if_neg (by decide), e9, Option.bind_some, show cal S7 8 (z + 1) (f8_setNumber S7 (z + 1) 2 (nI (v.1 + l.length))) = some S10 from w1, Option.bind_some]
      have hlook := look_P w2'.1
      rcases a4 with ⟨b1, b2, b3, b4, _⟩ | ⟨b1, b2, b3⟩
      · subst b4
        have hres : (bn2 (if nI k' < (40 : Int32) then some ((1 : Int32), S10) else ((cal S10 8 (z + 1) (f8_look S10 (z + 1))).bind fun v14 => if v14 = -1 then some (1, S10) else ((cal S10 8 (z + 1) (f8_look S10 (z + 1))).bind fun v15 => if v15 = sg then some (1, S10) else ((gi S10 8 (z + 1) 11).bind fun v16 => bn2 (cal S10 8 (z + 1) (f8_fail S10 (z + 1) 5 v16)) fun v17 S18 => if v17 = 0 then some (0, S18) else some (1, S18))))) fun v11 S12 => (bz v11).bind fun v19 => some (v19, S12)) = some (1, S10) := by
          by_cases hk4 : k' < 40
          · rw [if_pos (show nI k' < (40 : Int32) from nI_lt (b := 40) hk4 (by omega)), bn2_s]; rfl
          · rw [if_neg (show ¬ nI k' < (40 : Int32) from fun hh => by rw [show (40 : Int32) = nI 40 from rfl, nI_ltI (by omega) (by omega)] at hh; omega), hlook, Option.bind_some]
            rcases b3 with hm | ⟨hwf, h59⟩
            · rw [if_pos hm, bn2_s]; rfl
            · rw [if_neg (show ¬ byteAt T i' = -1 from fun hh => by rw [h59] at hh; exact absurd hh (by decide)), Option.bind_some, if_pos (by rw [hsg, hwf, h59]; rfl), bn2_s]; rfl
        rw [hres]
        refine ⟨S10, 1, rfl, Or.inl ⟨rfl, ⟨b1, by rw [b2]; exact hA⟩, by rw [b2]; exact b3, by rw [b2]; exact a2, by rw [b2]; exact a3⟩⟩
      · by_cases hk4 : k' < 40
        · rw [if_pos (show nI k' < (40 : Int32) from nI_lt (b := 40) hk4 (by omega)), bn2_s]
          rw [if_neg (by omega)] at b1
          exact ⟨S10, 1, rfl, Or.inr (Or.inr ⟨rfl, b1, i', _, hA, a2, b3, b2⟩)⟩
        · have hk40 : k' = 40 := by omega
          obtain ⟨S18, u1, u2⟩ := fail_P w2'.1 5 i'
          rw [if_neg (show ¬ nI k' < (40 : Int32) from fun hh => by rw [show (40 : Int32) = nI 40 from rfl, nI_ltI (by omega) (by omega)] at hh; omega), hlook, Option.bind_some, if_neg (show ¬ byteAt T i' = -1 from fun hh => b3 (Or.inl hh)), Option.bind_some, if_neg (show ¬ byteAt T i' = sg from fun hh => by
            cases wh with
            | true =>
              rw [hsg, if_pos rfl] at hh
              exact b3 (Or.inl hh)
            | false =>
              rw [hsg, if_neg (by decide)] at hh
              exact b3 (Or.inr ⟨rfl, hh⟩)), gi_P w2'.1, Option.bind_some, show cal S10 8 (z + 1) (f8_fail S10 (z + 1) 5 (nI i')) = some (0, S18) from u1, bn2_s, if_pos rfl, bn2_s]
          rw [if_pos hk40] at b1
          refine ⟨S18, 0, rfl, Or.inr (Or.inl ⟨rfl, BDp_of (BD8_tr hA u2) (by omega) b1 b2⟩)⟩
    · have : (if t = 0 then some ((0 : Int32), S7) else (if t = 1 then some (0, S7) else ((gi S7 8 (z + 1) 8).bind fun v9 => (cal S7 8 (z + 1) (f8_setNumber S7 (z + 1) 2 v9)).bind fun S10 => bn2 (if x < 40 then some ((1 : Int32), S10) else ((cal S10 8 (z + 1) (f8_look S10 (z + 1))).bind fun v14 => if v14 = -1 then some (1, S10) else ((cal S10 8 (z + 1) (f8_look S10 (z + 1))).bind fun v15 => if v15 = sg then some (1, S10) else ((gi S10 8 (z + 1) 11).bind fun v16 => bn2 (cal S10 8 (z + 1) (f8_fail S10 (z + 1) 5 v16)) fun v17 S18 => if v17 = 0 then some (0, S18) else some (1, S18))))) fun v11 S12 => (bz v11).bind fun v19 => some (v19, S12)))) = some (0, S7) := by
        rcases ht with rfl | rfl
        · rw [if_pos rfl]
        · rw [if_neg (by decide), if_pos rfl]
      rw [this]
      exact ⟨S7, 0, rfl, Or.inr (Or.inl ⟨rfl, BDp_tr h3 e⟩)⟩
  · have hsf : isSt (byteAt T (lkP T (pAt p))) = false := by cases hh : isSt (byteAt T (lkP T (pAt p))) <;> simp_all
    obtain ⟨w1, w2, w3⟩ := stp_no hb hsf
    have hbd : pBd (pStp T p).2 ≠ 0 := by omega
    obtain ⟨S22, u1, u2⟩ := fail_P y2.1 1 (lkP T (pAt p))
    rw [hsf, if_pos (show bI false = 0 from rfl), gi_P y2.1, Option.bind_some, show cal S3 8 (z + 1) (f8_fail S3 (z + 1) 1 (nI (lkP T (pAt p)))) = some (0, S22) from u1, bn2_s]
    have hsh : ∀ (b : Prop) [Decidable b], (if b then ([(pStp T p).1], ((lkP T (pAt (pStp T p).2), (pStp T p).2.2) : Pz)) else ((pStp T p).1 :: (pOp T wh (d + 1) (0 + 1) (lkP T (pAt (pStp T p).2), (pStp T p).2.2)).1, (pOp T wh (d + 1) (0 + 1) (lkP T (pAt (pStp T p).2), (pStp T p).2.2)).2)).2 = ((lkP T (pAt (pStp T p).2), (pStp T p).2.2) : Pz) := by
      intro b _
      split
      · rfl
      · rw [op_bad (show pBd ((lkP T (pAt (pStp T p).2), (pStp T p).2.2) : Pz) ≠ 0 from hbd)]
    refine ⟨S22, 0, rfl, Or.inr (Or.inl ⟨rfl, BDp_of (BD8_tr h3 u2) (by omega) ?_ ?_⟩)⟩
    · rw [op_succ (d := d + 1) hb (by decide), hsh]; exact w1
    · rw [op_succ (d := d + 1) hb (by decide), hsh]; exact w2
end T6
