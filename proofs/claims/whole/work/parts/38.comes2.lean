/-! ===== PART II, the reference: an operation comes to an editor, whole ===== -/
theorem carS_cap (ah : Bool) (s : List (Nat × List Int32)) (B : List Int32) : capS (carS ah s B).1 = capS s := by
  induction s with
  | nil => rfl
  | cons y s ih => rw [carS, capS, capS, ih]
/-- all that is wanted for one of another to come -/
def comOk (ties e : Nat) (o : Nat × List Int32) (E : Ed) : Prop :=
  okO o.2 ∧ o.2.length ≤ 700 ∧ (∀ p, ePnd E = some p → okO p ∧ oldL p = oldL o.2 ∧ p.length + o.2.length ≤ 700) ∧
  okO (pB (ePnd E) (aheadB ties e o.1) o.2).2 ∧ (∀ q, eBuf E = some q → okO q ∧ oldL q = oldL (pB (ePnd E) (aheadB ties e o.1) o.2).2 ∧ q.length + (pB (ePnd E) (aheadB ties e o.1) o.2).2.length ≤ 700) ∧
  okO (pB (eBuf E) (aheadB ties e o.1) (pB (ePnd E) (aheadB ties e o.1) o.2).2).2 ∧ (pB (eBuf E) (aheadB ties e o.1) (pB (ePnd E) (aheadB ties e o.1) o.2).2).2.length ≤ 700 ∧ oldL (pB (eBuf E) (aheadB ties e o.1) (pB (ePnd E) (aheadB ties e o.1) o.2).2).2 = (eTxt E).length ∧ newL (pB (eBuf E) (aheadB ties e o.1) (pB (ePnd E) (aheadB ties e o.1) o.2).2).2 ≤ 240 ∧
  chn (eUnd E) (eTxt E).length ∧ chn (eDon E) (eTxt E).length ∧ (eTxt E).length + putsS (eUnd E) + putsL (pB (eBuf E) (aheadB ties e o.1) (pB (ePnd E) (aheadB ties e o.1) o.2).2).2 ≤ 240 ∧ (eTxt E).length + putsS (eDon E) + putsL (pB (eBuf E) (aheadB ties e o.1) (pB (ePnd E) (aheadB ties e o.1) o.2).2).2 ≤ 240 ∧ (eUnd E).length < 1000 ∧ (eDon E).length < 1000 ∧ Bd (comE ties e o E)
theorem comes_ok {M : MS} {e n ties : Nat} {E : Ed} {o : Nat × List Int32} (he : e < 4) (hn : n ≤ 100) (h : REd (M.2.1 30) (4 + 2618 * e) n E) (hb : Bd E) (hrev : eRev E < 108) (hop : OpAt M (eRev E) o) (ho1 : o.1 < 1000) (ht : M.1 33 = nI ties) (ht2 : ties < 1000) (hbq : ∀ q, eBuf E = some q → okO q ∧ q.length ≤ 700) (hc : o.1 ≠ e → comOk ties e o E) :
    ∃ M', f12_comes M (nI e) = some M' ∧ REd (M'.2.1 30) (4 + 2618 * e) n (comesE ties e o E) ∧ FN [20, 21, 22, 23, 24, 29, 41] [25, 26, 27, 28] (fun j => 4 + 2618 * e ≤ j ∧ j < 4 + 2618 * e + 2618) M M' := by
  have ofe : ∀ w : Nat, f12_of (nI e) (nI w) = some (nI (4 + 2618 * e + w)) := fun w => of_ok e w
  have hb4 : 4 + 2618 * e + 2618 ≤ 10476 := by omega
  have r0 := REd_rev (r := eRev E + 1) h hb hn
  have h36 : M.2.1 36 (eRev E) = nI o.1 := hop.1
  have hunf : f12_comes M (nI e) = if nI o.1 = nI e then ((f12_ownComes (sR M 30 (upd (M.2.1 30) (4 + 2618 * e) (nI (eRev E + 1)))) (nI e)).bind fun M22 => some M22) else ((f12_opToB (sR M 30 (upd (M.2.1 30) (4 + 2618 * e) (nI (eRev E + 1)))) (nI (eRev E))).bind fun M6 =>
    (f12_its M6 (nI e) (17 : Int32)).bind fun v7 =>
    (if v7 = 1 then ((ld M6 36 (nI (eRev E))).bind fun v10 =>
        (f12_turnedOver M6 (nI e) v10 (264 : Int32)).bind fun M11 =>
        some M11) else (some M6)).bind fun M8 =>
    (f12_its M8 (nI e) (18 : Int32)).bind fun v12 =>
    (if v12 = 1 then ((ld M8 36 (nI (eRev E))).bind fun v15 =>
        (f12_turnedOver M8 (nI e) v15 (1148 : Int32)).bind fun M16 =>
        some M16) else (some M8)).bind fun M13 =>
    (f12_textChanged M13 (nI e) 21 (gF M13 26) (0 : Int32)).bind fun M17 =>
    (ld M17 36 (nI (eRev E))).bind fun v18 =>
    (f12_carriesStack M17 (nI e) v18 (1590 : Int32) (22 : Int32)).bind fun M19 =>
    (ld M19 36 (nI (eRev E))).bind fun v20 =>
    (f12_carriesStack M19 (nI e) v20 (2054 : Int32) (23 : Int32)).bind fun M21 =>
    some M21) := by
    unfold f12_comes
    rw [show f12_its M (nI e) (0 : Int32) = some (nI (eRev E)) from by rw [show (0 : Int32) = nI 0 from rfl, its_ok (by omega), Nat.add_zero, h.1.1], Option.bind_some, show f12_of (nI e) (0 : Int32) = some (nI (4 + 2618 * e)) from ofe 0, Option.bind_some, ld_n (show 4 + 2618 * e < 10476 by omega), h.1.1, Option.bind_some, nI_1, sd_n (show 4 + 2618 * e < 10476 by omega), Option.bind_some, ld_n (show eRev E < mLn 36 from hrev), sR_ne _ _ (by decide), h36, Option.bind_some]
  rw [hunf]
  have f4 : ∀ As Fs, FN As Fs (fun j => 4 + 2618 * e ≤ j ∧ j < 4 + 2618 * e + 2618) M (sR M 30 (upd (M.2.1 30) (4 + 2618 * e) (nI (eRev E + 1)))) := fun As Fs => FN_now (fun j hj => upd_ne _ _ (by omega))
  generalize hM4 : sR M 30 (upd (M.2.1 30) (4 + 2618 * e) (nI (eRev E + 1))) = M4 at *
  have r4 : REd (M4.2.1 30) (4 + 2618 * e) n (sRev E (eRev E + 1)) := by subst hM4; rw [sR_get]; exact r0
  by_cases hown : o.1 = e
  · have ec : comesE ties e o E = ownE (sRev E (eRev E + 1)) := by unfold comesE; rw [if_pos hown]
    rw [if_pos (by rw [hown]), ec]
    obtain ⟨M', o1, o2, o3⟩ := ownComes_ok he hn r4 (Bd_rev hb) hbq
    refine ⟨M', by rw [o1, Option.bind_some], o2, FN_trans (f4 _ _) (FN_mono o3 (by simp) (by simp) (fun _ h => h))⟩
  · have ec : comesE ties e o E = comE ties e o E := by unfold comesE; rw [if_neg hown]
    rw [if_neg (by rw [nI_eq (by omega) (by omega)]; exact hown), ec]
    obtain ⟨c1, c2, c3, c4, c5, c6, c7, c8, c9, c10, c11, c12, c13, c14, c15, c16⟩ := hc hown
    have hop4 : OpAt M4 (eRev E) o := by
      subst hM4
      unfold OpAt
      simp only [sR_ne _ _ (show (36 : Nat) ≠ 30 by decide), sR_ne _ _ (show (37 : Nat) ≠ 30 by decide), sR_ne _ _ (show (38 : Nat) ≠ 30 by decide), sR_ne _ _ (show (39 : Nat) ≠ 30 by decide), sR_ne _ _ (show (40 : Nat) ≠ 30 by decide)]
      exact hop
    obtain ⟨M6, a1, a2, a3⟩ := opToB_ok hop4 c1 c2 hrev
    have f6 : FN [20, 21, 22, 23, 24, 29, 41] [25, 26, 27, 28] (fun j => 4 + 2618 * e ≤ j ∧ j < 4 + 2618 * e + 2618) M M6 := FN_trans (f4 _ _) (FN_Frm a3 (by decide) (by simp) (by simp))
    have t6 : ∀ {X : MS}, FN [20, 21, 22, 23, 24, 29, 41] [25, 26, 27, 28] (fun j => 4 + 2618 * e ≤ j ∧ j < 4 + 2618 * e + 2618) M X → X.1 33 = nI ties ∧ X.2.1 36 (eRev E) = nI o.1 := fun hx => ⟨by rw [hx.2.1 _ (by decide)]; exact ht, by rw [hx.1 36 (by decide) (by decide)]; exact h36⟩
    have b0 : Bd (sRev E (eRev E + 1)) := hb
    have r6 : REd (M6.2.1 30) (4 + 2618 * e) n (sRev E (eRev E + 1)) := by rw [a3.1 30 (by decide)]; exact r4
    obtain ⟨M8, p1, p2, p3, p4⟩ := stepP (by' := o.1) (ties := ties) (r := eRev E) he hn r6 b0 a2 c1 c3 (t6 f6).1 ht2 ho1 (t6 f6).2 hrev
    have f8 := FN_trans f6 (FN_mono p4 (As' := [20, 21, 22, 23, 24, 29, 41]) (Fs' := [25, 26, 27, 28]) (by simp) (by simp) (fun _ h => h))
    have b1 : Bd (sPnd (sRev E (eRev E + 1)) (pB (ePnd E) (aheadB ties e o.1) o.2).1) := by
      obtain ⟨q1, q2, q3, q4, q5, q6, q7, q8, q9⟩ := hb
      exact ⟨q1, q2, q3, q4, c16.2.2.2.2.1, q6, q7, q8, q9⟩
    obtain ⟨M13, s1, s2, s3, s4⟩ := stepB (by' := o.1) (ties := ties) (r := eRev E) he hn p2 b1 p3 c4 c5 (t6 f8).1 ht2 ho1 (t6 f8).2 hrev
    have f13 := FN_trans f8 (FN_mono s4 (As' := [20, 21, 22, 23, 24, 29, 41]) (Fs' := [25, 26, 27, 28]) (by simp) (by simp) (fun _ h => h))
    have b2 : Bd (sBuf (sPnd (sRev E (eRev E + 1)) (pB (ePnd E) (aheadB ties e o.1) o.2).1) (pB (eBuf E) (aheadB ties e o.1) (pB (ePnd E) (aheadB ties e o.1) o.2).2).1) := by
      obtain ⟨q1, q2, q3, q4, q5, q6, q7, q8, q9⟩ := b1
      exact ⟨q1, q2, q3, q4, q5, q6, c16.2.2.2.2.2.2.1, q8, q9⟩
    have s2' : REd (M13.2.1 30) (4 + 2618 * e) n (sBuf (sPnd (sRev E (eRev E + 1)) (pB (ePnd E) (aheadB ties e o.1) o.2).1) (pB (eBuf E) (aheadB ties e o.1) (pB (ePnd E) (aheadB ties e o.1) o.2).2).1) := s2
    generalize hB2 : (pB (eBuf E) (aheadB ties e o.1) (pB (ePnd E) (aheadB ties e o.1) o.2).2).2 = B2 at *
    have s3' : Row M13 21 26 B2 := by rw [← hB2]; exact s3
    obtain ⟨M17, x1, x2, x3⟩ := textChanged_ok (own := false) (a2 := 21) (e := e) (n := n) (by decide) (by decide) (show B2.length ≤ 700 from c7) c6 c7 he hn s3'.2 s2' b2 c8 c9
    have f17 := FN_trans f13 (FN_mono x3 (As' := [20, 21, 22, 23, 24, 29, 41]) (Fs' := [25, 26, 27, 28]) (P' := fun j => 4 + 2618 * e ≤ j ∧ j < 4 + 2618 * e + 2618) (by simp) (by simp) (fun j hj => by omega))
    have r17 : Row M17 21 26 B2 := Row_FN s3' x3 (by decide) (by decide) (by decide)
    have b3 : Bd (txtE (sBuf (sPnd (sRev E (eRev E + 1)) (pB (ePnd E) (aheadB ties e o.1) o.2).1) (pB (eBuf E) (aheadB ties e o.1) (pB (ePnd E) (aheadB ties e o.1) o.2).2).1) B2 false) := by
      have c16' := c16
      unfold comE at c16'
      rw [hB2] at c16'
      obtain ⟨q1, q2, q3, q4, q5, q6, q7, q8, q9⟩ := c16'
      exact ⟨q1, q2, q3, q4, q5, q6, q7, hb.2.2.2.2.2.2.2.1, hb.2.2.2.2.2.2.2.2⟩
    generalize hE3 : txtE (sBuf (sPnd (sRev E (eRev E + 1)) (pB (ePnd E) (aheadB ties e o.1) o.2).1) (pB (eBuf E) (aheadB ties e o.1) (pB (ePnd E) (aheadB ties e o.1) o.2).2).1) B2 false = E3 at *
    have eU : eUnd E3 = eUnd E := by subst hE3; rfl
    have eD : eDon E3 = eDon E := by subst hE3; rfl
    have cu := stkE_cap (eUnd E) (4 + 2618 * e + 1590)
    have cd' := stkE_cap (eDon E) (4 + 2618 * e + 2054)
    have hcu := hb.2.2.2.2.2.2.2.1
    have hcd := hb.2.2.2.2.2.2.2.2
    obtain ⟨M19, y1, y2, y3, y4⟩ := carriesStack_ok (M := M17) (e := e) (by' := o.1) (ties := ties) (st := 1590) (co := 22) (s := eUnd E) (B := B2) ht2 (by omega) ho1 (by rw [← eU]; exact x2.2.2.2.1.2.2.1) (by omega) c14 (by rw [c8]; exact c10) c6 (by rw [c8]; exact c12) r17 (t6 f17).1 (by omega) (by rw [← eU]; exact x2.2.2.2.1.1)
    have f19 := FN_trans f17 (FN_mono y4 (As' := [20, 21, 22, 23, 24, 29, 41]) (Fs' := [25, 26, 27, 28]) (P' := fun j => 4 + 2618 * e ≤ j ∧ j < 4 + 2618 * e + 2618) (by simp) (by simp) (fun j hj => by omega))
    have r19 : REd (M19.2.1 30) (4 + 2618 * e) n (sUnd E3 (carS (aheadB ties e o.1) (eUnd E) B2).1) := by
      refine REd_stk x2 b3 hn rfl (fun j j0 j1 j2 j3 => y4.2.2.2 j (by omega)) ⟨?_, ?_, y2, ?_⟩
      · rw [y4.2.2.2 _ (by omega), x2.2.2.2.1.1, eU]
        show _ = nI (carS (aheadB ties e o.1) (eUnd E) B2).1.length
        rw [carS_len]
      · rw [y4.2.2.2 _ (by omega)]; exact x2.2.2.2.1.2.1
      · exact stk_eq x2.2.2.2.1.2.2.2 (fun j j1 j2 => y4.2.2.2 j (by omega))
    have b4 : Bd (sUnd E3 (carS (aheadB ties e o.1) (eUnd E) B2).1) := by
      obtain ⟨q1, q2, q3, q4, q5, q6, q7, q8, q9⟩ := b3
      exact ⟨q1, q2, q3, q4, q5, q6, q7, by show capS (carS (aheadB ties e o.1) (eUnd E) B2).1 ≤ 464; rw [carS_cap]; exact hcu, q9⟩
    obtain ⟨M21, z1, z2, z3, z4⟩ := carriesStack_ok (M := M19) (e := e) (by' := o.1) (ties := ties) (st := 2054) (co := 23) (s := eDon E) (B := B2) ht2 (by omega) ho1 (by rw [← eD]; exact r19.2.2.2.1.2.2.2) (by omega) c15 (by rw [c8]; exact c11) c6 (by rw [c8]; exact c13) y3 (t6 f19).1 (by omega) (by rw [← eD]; exact r19.2.2.2.1.2.1)
    refine ⟨M21, ?_, ?_, FN_trans f19 (FN_mono z4 (by simp) (by simp) (fun j hj => by omega))⟩
    · rw [a1, Option.bind_some, ← Option.bind_assoc, p1, Option.bind_some, ← Option.bind_assoc, s1, Option.bind_some, show gF M13 26 = nI B2.length from s3'.1, show f12_textChanged M13 (nI e) 21 (nI B2.length) (0 : Int32) = some M17 from x1, Option.bind_some, ld_n (show eRev E < mLn 36 from hrev), (t6 f17).2, Option.bind_some, show (1590 : Int32) = nI 1590 from rfl, show (22 : Int32) = nI 22 from rfl, y1, Option.bind_some, ld_n (show eRev E < mLn 36 from hrev), (t6 f19).2, Option.bind_some, show (2054 : Int32) = nI 2054 from rfl, show (23 : Int32) = nI 23 from rfl, z1, Option.bind_some]
    · have eF : comE ties e o E = sDon (sUnd E3 (carS (aheadB ties e o.1) (eUnd E) B2).1) (carS (aheadB ties e o.1) (eDon E) B2).1 := by
        unfold comE; rw [hB2, hE3]
      rw [eF]
      refine REd_stk r19 b4 hn rfl (fun j j0 j1 j2 j3 => z4.2.2.2 j (by omega)) ⟨?_, ?_, ?_, z2⟩
      · rw [z4.2.2.2 _ (by omega)]; exact r19.2.2.2.1.1
      · rw [z4.2.2.2 _ (by omega), r19.2.2.2.1.2.1]
        show nI (eDon E3).length = nI (carS (aheadB ties e o.1) (eDon E) B2).1.length
        rw [eD, carS_len]
      · refine stk_eq r19.2.2.2.1.2.2.1 (fun j j1 j2 => z4.2.2.2 j ?_)
        have : stkE (4 + 2618 * e + 1590) (carS (aheadB ties e o.1) (eUnd E) B2).1 = 4 + 2618 * e + 1590 + capS (eUnd E) := by rw [stkE_cap, carS_cap]
        have j2' : j < stkE (4 + 2618 * e + 1590) (carS (aheadB ties e o.1) (eUnd E) B2).1 := j2
        omega
