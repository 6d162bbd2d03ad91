/-! ===== PART II, the reference: edit ===== -/
def pEdit (T : List Int32) : List Sv × Pz := pOp T true 42 0 rd0
def aEdit (A : St) (e : Int32) : Int32 × St :=
  if 0 ≤ e.toInt ∧ e.toInt < aCnt A then
    (if pBd (pEdit (aTape A)).2 = 0 ∧ stpsN (pEdit (aTape A)).1 ≤ (eTxt (wE (aW A) e.toInt.toNat)).length then aEd (sFa A (pEdit (aTape A)).2) e.toInt.toNat (opTo (pEdit (aTape A)).1 (eTxt (wE (aW A) e.toInt.toNat)).length) else (-1, sRf (sFa A (pEdit (aTape A)).2) 2))
  else (-1, sRf (sTp A []) 2)
theorem editDone_no {M : MS} {A : St} {i : Nat} {op : List Int32} (h : RS M A) (hg : GA A) (hr : Row M 20 25 op) (hl : op.length ≤ 700) (hc : canE A op = false) : ∃ M', f12_editDone M (nI i) (0 : Int32) = some (-1, M') ∧ RS M' (sRf A 2) := by
  have gd := GA_good hg
  obtain ⟨g1, g2, g3, g4, g5, g6, g7, g8, g9⟩ := id gd
  obtain ⟨w1, w2, w3, w4, w5, w6, w7, w8⟩ := RS_RW h
  have hce := canEdit_ok hr hl w5 w6 (by omega) (by omega)
  have hc' : ¬ (!(idleB op) && decide (wEd (aW A) < 100) && decide (wPu (aW A) + putsL op ≤ 200)) = true := by
    have : (!(idleB op) && decide (wEd (aW A) < 100) && decide (wPu (aW A) + putsL op ≤ 200)) = false := hc
    rw [this]; decide
  unfold f12_editDone
  rw [hce, Option.bind_some, if_neg hc', if_pos rfl]
  obtain ⟨M', r1, r2⟩ := refuses_ok h 2 (by omega)
  exact ⟨M', by rw [show f12_refuses M (2 : Int32) = _ from r1, bn2_s], r2⟩
theorem edit_eq (T : List Int32) : ∃ d : Nat, d = 42 ∧ pEdit T = pOp T true d 0 rd0 := ⟨42, rfl, by unfold pEdit; rfl⟩
theorem edit_ok {M : MS} {A : St} (h : RS M A) (hg : GA A) (e : Int32) : ∃ M', f12_edit M e = some ((aEdit A e).1, M') ∧ RS M' (aEdit A e).2 := by
  unfold f12_edit aEdit
  rw [isEditor_ok h hg, Option.bind_some]
  by_cases he : 0 ≤ e.toInt ∧ e.toInt < aCnt A
  · rw [if_pos he, if_neg (show ¬ (1 : Int32) = 0 from by decide), if_pos he]
    obtain ⟨M2, a1, a2, a3, a4⟩ := begins_ok h hg
    obtain ⟨M3, b1, b2, b3⟩ := opTold_ok (wh := true) a2
    have hen := ofI he.1
    have hi : e.toInt.toNat < aCnt A := by omega
    generalize hT : aTape A = T at *
    rw [a1, Option.bind_some, show f12_opTold M2 (1 : Int32) = _ from b1, Option.bind_some]
    generalize hM5 : sF (sF M3 7 (gF M3 5)) 8 (gF (sF M3 7 (gF M3 5)) 6) = M5
    have h56 : gF (sF M3 7 (gF M3 5)) 6 = gF M3 6 := by show (sF M3 7 (gF M3 5)).1 6 = M3.1 6; rw [sF_ne _ _ (by decide)]
    have hO : ∀ {wh : Bool} {len : Nat} {M : MS} {p : Pz} {k : Nat}, RQ M T p → pBd p = 0 → pBd (pOp T wh 42 0 p).2 = 0 → f12_its M (nI k) (21 : Int32) = some (nI len) → len ≤ 240 → ∃ M', f12_isOp M (nI k) = some (if stpsN (pOp T wh 42 0 p).1 ≤ len then 1 else 0, M') ∧ RQ M' T (pOp T wh 42 0 p).2 ∧ Frm [20, 24] [2, 4, 5, 6, 25] M M' ∧ (stpsN (pOp T wh 42 0 p).1 ≤ len → Row M' 20 25 (settleL ((stpsL (pOp T wh 42 0 p).1 ++ List.replicate (len - stpsN (pOp T wh 42 0 p).1) 0).take 700))) := fun h1 h2 h3 h4 h5 => isOp_ok h1 h2 h3 h4 h5
    have hK : ∀ {wh : Bool} {p : Pz}, pBd p = 0 → pBd (pOp T wh 42 0 p).2 = 0 → okO (stpsL (pOp T wh 42 0 p).1) ∧ oldL (stpsL (pOp T wh 42 0 p).1) = stpsN (pOp T wh 42 0 p).1 := fun h1 h2 => steps_ok 42 0 _ h1 h2
    have hP : pEdit T = pOp T true 42 0 rd0 := by unfold pEdit; rfl
    rw [← hP] at b2
    have hO1 := fun {M : MS} {len k : Nat} (h1 : RQ M T rd0) (h3 : pBd (pEdit T).2 = 0) (h4 : f12_its M (nI k) (21 : Int32) = some (nI len)) (h5 : len ≤ 240) => by
      have := hO (wh := true) (p := rd0) h1 rfl (by rw [← hP]; exact h3) h4 h5
      rw [← hP] at this
      exact this
    have hK1 := fun (h3 : pBd (pEdit T).2 = 0) => by
      have := hK (wh := true) (p := rd0) rfl (by rw [← hP]; exact h3)
      rw [← hP] at this
      exact this
    have hN1 : pBd (pEdit T).2 = 0 → (pEdit T).2.2.2 = (0, none) := fun h3 => by
      obtain ⟨d, -, hd⟩ := edit_eq T
      rw [hd] at h3 ⊢
      exact (okR_op d 0 rd0 rfl h3).2.2.1
    clear hO hK hP
    generalize pEdit T = R at *
    have m7 : M5.1 7 = nI (pBd R.2) := by rw [← hM5, sF_ne _ _ (by decide), sF_get]; exact b2.1.2.2.2.2.1
    have m8 : M5.1 8 = oI (pBp R.2) := by rw [← hM5, sF_get, h56]; exact b2.1.2.2.2.2.2.1
    have mQ : RQ M5 T R.2 := by rw [← hM5]; exact RQ_F (RQ_F b2 (by omega)) (by omega)
    have mA : ∀ j, M5.2.1 j = M.2.1 j := fun j => by
      have e5 : M5.2.1 j = M3.2.1 j := by rw [← hM5]; rfl
      rw [e5, b3.1 j List.not_mem_nil, a4.1 j List.not_mem_nil]
    have mL : M5.2.2 = M.2.2 := by
      have e5 : M5.2.2 = M3.2.2 := by rw [← hM5]; rfl
      rw [e5, b3.2.2, a4.2.2]
    have mF : ∀ j, (j = 1 ∨ 9 ≤ j) → M5.1 j = M2.1 j := fun j hj => by rw [← hM5, sF_ne _ _ (by omega), sF_ne _ _ (by omega)]; exact b3.2.1 j (by simp; omega)
    have hR : RS M5 (sFa A R.2) := RS_head h mA (fun j h1 h2 h3 h4 => by
      have hj : ¬ scrF j := h1
      have hj' : (j = 31 ∨ j = 32 ∨ j = 33 ∨ j = 34 ∨ j = 56 ∨ j = 61 ∨ j = 62) := by
        unfold scrF at hj; omega
      rw [mF j (by omega)]
      exact a4.2.1 j (by simp; omega)) mL (by rw [mF 1 (by omega)]; exact a3) m7 m8
    have hg1 : GA (sFa A R.2) := GA_sFa hg
    have hh9 := mQ.1.2.2.2.2.2.2.2.2
    rw [show gF M5 5 = _ from mQ.1.2.2.2.2.1]
    by_cases hok : pBd R.2 = 0
    · rw [hok, if_pos (show nI 0 = (0 : Int32) from rfl)]
      have gd := GA_good hg
      have hc4 := gd.1
      have hlen : (eTxt (wE (aW A) e.toInt.toNat)).length ≤ 240 := (Good_Bd gd hi).1
      obtain ⟨M4, g1, g2, g3⟩ := goes_to mQ (hN1 hok)
      have hR4 : RS M4 (sFa A R.2) := RS_frm hR g3 (by simp) (by simp [scrF])
      obtain ⟨M6, o1, o2, o3, o4⟩ := hO1 g2 hok (rw_its (RS_RW hR4) (GA_good hg1) hi) hlen
      obtain ⟨s1, s2⟩ := hK1 hok
      rw [← hen] at o1
      have hR6 : RS M6 (sFa A R.2) := RS_frm hR4 o3 (by simp [scrA]) (by simp [scrF])
      rw [g1, Option.bind_some, o1, bn2_s]
      by_cases hn : stpsN R.1 ≤ (eTxt (wE (aW A) e.toInt.toNat)).length
      · have r6 : Row M6 20 25 (settleL ((stpsL R.1 ++ List.replicate ((eTxt (wE (aW A) e.toInt.toNat)).length - stpsN R.1) 0).take 700)) := o4 hn
        obtain ⟨k1, k2⟩ := opTo_ok s1 s2 hn
        rw [if_pos (show stpsN R.1 ≤ (eTxt (wE (aW (sFa A R.2)) e.toInt.toNat)).length from hn), if_neg (show ¬ (1 : Int32) = 0 from by decide), if_pos ⟨rfl, hn⟩]
        by_cases hL : (stpsL R.1 ++ List.replicate ((eTxt (wE (aW A) e.toInt.toNat)).length - stpsN R.1) 0).length ≤ 700
        · have r7 : Row M6 20 25 (opTo R.1 (eTxt (wE (aW A) e.toInt.toNat)).length) := by
            have r6' := r6
            rw [List.take_of_length_le hL] at r6'
            exact r6'
          obtain ⟨M', d1, d2, d3⟩ := editDone_ok (A := sFa A R.2) hR6 hg1 hi r7 (settle_okV k1) (by show (settleL _).length ≤ 700; rw [settleL_len]; exact hL) (by show oldL (settleL _) = _; rw [settle_old]; exact k2)
          rw [← hen] at d1
          exact ⟨M', by rw [d1, bn2_s, bn2_s], d2⟩
        · obtain ⟨c1, c2⟩ := canW_cut (W := aW A) k1 (by rw [k2]; exact hlen) hL
          obtain ⟨M', d1, d2⟩ := editDone_no (A := sFa A R.2) (i := e.toInt.toNat) hR6 hg1 r6 (by rw [settleL_len, List.length_take]; omega) c1
          rw [← hen] at d1
          have eA : aEd (sFa A R.2) e.toInt.toNat (opTo R.1 (eTxt (wE (aW A) e.toInt.toNat)).length) = (-1, sRf (sFa A R.2) 2) := by
            unfold aEd
            rw [if_neg (by rw [show canE (sFa A R.2) (opTo R.1 (eTxt (wE (aW A) e.toInt.toNat)).length) = false from c2]; decide)]
          rw [eA]
          exact ⟨M', by rw [d1, bn2_s, bn2_s], d2⟩
      · rw [if_neg (show ¬ stpsN R.1 ≤ (eTxt (wE (aW (sFa A R.2)) e.toInt.toNat)).length from hn), if_pos rfl, if_neg (fun hh => hn hh.2)]
        obtain ⟨M', r1, r2⟩ := refuses_ok hR6 2 (by omega)
        exact ⟨M', by rw [show f12_refuses M6 (2 : Int32) = _ from r1, bn2_s, bn2_s], r2⟩
    · rw [if_neg (nI_ne0 (by omega) (by omega)), if_neg (fun hh => hok hh.1)]
      obtain ⟨M', r1, r2⟩ := refuses_ok hR 2 (by omega)
      exact ⟨M', by rw [show f12_refuses M5 (2 : Int32) = _ from r1, bn2_s], r2⟩
  · rw [if_neg he, if_pos rfl, if_neg he]
    have hR : RS (sF M 1 0) (sTp A []) := RS_tape h (Frm_sF (by decide)) ⟨by rw [sF_get]; rfl, fun k hk => absurd hk (Nat.not_lt_zero _)⟩
    obtain ⟨M', r1, r2⟩ := refuses_ok hR 2 (by omega)
    exact ⟨M', by rw [show f12_refuses (sF M 1 0) (2 : Int32) = _ from r1, bn2_s], r2⟩
