/-! ===== PART II, the reference: an edit ===== -/
theorem canEdit_ok {M : MS} {A : List Int32} {ed pu : Nat} (hr : Row M 20 25 A) (hl : A.length ≤ 700) (h2 : M.2.1 30 2 = nI ed) (h3 : M.2.1 30 3 = nI pu) (hed : ed < 10000) (hpu : pu < 10000) :
    f12_canEdit M = some (if !(idleB A) && decide (ed < 100) && decide (pu + putsL A ≤ 200) then 1 else 0) := by
  have hpl : putsL A ≤ A.length := by
    clear hr hl
    induction A with
    | nil => exact Nat.le_refl _
    | cons v A ih => rw [putsL, List.length_cons]; split <;> omega
  unfold f12_canEdit
  rw [show gF M 25 = nI A.length from hr.1, isIdle_ok hr.2 (show A.length ≤ 700 from hl) (by omega), Option.bind_some]
  cases hi : idleB A with
  | true => simp only [if_true, k8, if_false, Option.bind_some, bz0]; simp
  | false =>
    simp only [Bool.false_eq_true, if_true, if_false]
    rw [show ld M 30 (2 : Int32) = some (nI ed) from by rw [show (2 : Int32) = nI 2 from rfl, ld_n (show 2 < 10476 by omega), h2], Option.bind_some, show (100 : Int32) = nI 100 from rfl, show (200 : Int32) = nI 200 from rfl]
    by_cases he : ed < 100
    · rw [if_neg (nI_ge he (by omega)), show ld M 30 (3 : Int32) = some (nI pu) from by rw [show (3 : Int32) = nI 3 from rfl, ld_n (show 3 < 10476 by omega), h3], Option.bind_some, putsOf_ok hr.2 (show A.length ≤ 700 from hl) (by omega), Option.bind_some, nI_add]
      by_cases hp : pu + putsL A ≤ 200
      · rw [if_neg (nI_nlt hp (by omega)), Option.bind_some, bz1]; simp [he, hp]
      · rw [if_pos (nI_lt (by omega) (by omega)), Option.bind_some, bz0]; simp [hp]
    · rw [if_pos (nI_le (by omega) (by omega)), Option.bind_some, bz0]; simp [he]
/-- what is pending is sent -/
def sndE (E : Ed) (p : List Int32) : Ed := sLft (sSnt (sPnd E (some p)) (p, eRev E)) (some (eDel E))
theorem sends_ok {M : MS} {e n : Nat} {E : Ed} {p : List Int32} (he : e < 4) (hn : n ≤ 100) (h : REd (M.2.1 30) (4 + 2618 * e) n E) (hb : Bd E) (hk : KeptAt (M.2.1 30) (4 + 2618 * e + 264) p) (hp : (gatherL p 0).length ≤ 440) (hpo : okO p) (hpl : p.length ≤ 700) :
    ∃ f', f12_sends M (nI e) = some (sR M 30 f') ∧ REd f' (4 + 2618 * e) n (sndE E p) ∧ (∀ j, j < 4 + 2618 * e ∨ 4 + 2618 * e + 2618 ≤ j → f' j = M.2.1 30 j) := by
  have hB0 : ∀ w : Nat, 4 + 2618 * e + w = (4 + 2618 * e) + w := fun _ => rfl
  generalize hB : 4 + 2618 * e = b at *
  have hb4 : b + 2618 ≤ 10476 := by omega
  obtain ⟨⟨k1, k2, k3, k4, k5, k6, k7, k8, k9, k10⟩, h2, ⟨o1, o2, o3, o4, o5⟩, h4, h5⟩ := h
  have ofe : ∀ w : Nat, f12_of (nI e) (nI w) = some (nI (b + w)) := fun w => by rw [of_ok, hB]
  obtain ⟨f1, c1, c2, c3⟩ := copiesOp_ok (to := b + 706) hk (Or.inr (by omega)) (by omega) (by omega)
  generalize hf : upd (upd (upd f1 (b + 20) (nI (eRev E))) (b + 19) (nI (eDel E))) (b + 17) (1 : Int32) = f'
  have o' : ∀ j, j ≠ b + 17 → j ≠ b + 19 → j ≠ b + 20 → (j < b + 706 ∨ b + 706 + 2 + (gatherL p 0).length ≤ j) → f' j = M.2.1 30 j := fun j j1 j2 j3 j4 => by
    subst hf; unfold upd; rw [if_neg j1, if_neg j2, if_neg j3, c3 j j4]
  have mk4 := hb.2.1
  have t4 := hb.1
  refine ⟨f', ?_, ⟨⟨?_, ?_, ?_, ?_, ?_, ?_, ?_, ?_, ?_, fun hh => ?_⟩, ?_, ⟨?_, fun hh => ?_, ?_, ?_, ?_⟩, ?_, ?_⟩, ?_⟩
  · unfold f12_sends
    rw [show (706 : Int32) = nI 706 from rfl, show (264 : Int32) = nI 264 from rfl, show (20 : Int32) = nI 20 from rfl, show (0 : Int32) = nI 0 from rfl, show (19 : Int32) = nI 19 from rfl, show (16 : Int32) = nI 16 from rfl, show (17 : Int32) = nI 17 from rfl]
    simp only [ofe, Option.bind_some]
    rw [c1, Option.bind_some, its_ok (by omega), hB, sR_get, Nat.add_zero, c3 b (by omega), k1, Option.bind_some, sd_n (show b + 20 < 10476 by omega), sR_get, sR_sR, Option.bind_some, its_ok (by omega), hB, sR_get]
    have e1 : upd f1 (b + 20) (nI (eRev E)) (b + 16) = nI (eDel E) := by unfold upd; rw [if_neg (by omega), c3 _ (by omega)]; exact k6
    rw [e1, Option.bind_some, sd_n (show b + 19 < 10476 by omega), sR_get, sR_sR, Option.bind_some, sd_n (show b + 17 < 10476 by omega), sR_get, sR_sR, hf, Option.bind_some]
  · rw [o' _ (by omega) (by omega) (by omega) (by omega)]; exact k1
  · rw [o' _ (by omega) (by omega) (by omega) (by omega)]; exact k2
  · rw [o' _ (by omega) (by omega) (by omega) (by omega)]; exact k3
  · exact mkAt_eq (eMks E) _ k4 (fun j j1 j2 => o' j (by omega) (by omega) (by omega) (by omega))
  · rw [o' _ (by omega) (by omega) (by omega) (by omega)]; exact k5
  · rw [o' _ (by omega) (by omega) (by omega) (by omega)]; exact k6
  · subst hf; unfold upd; rw [if_pos rfl]; rfl
  · rw [o' _ (by omega) (by omega) (by omega) (by omega)]; exact k8
  · subst hf; unfold upd; rw [if_neg (by omega), if_pos rfl]; rfl
  · subst hf; unfold upd; rw [if_neg (by omega), if_neg (by omega), if_pos rfl]; rfl
  · exact REt_eq (E := E) h2 (fun j hj => o' j (by omega) (by omega) (by omega) (by omega))
  · intro q hq
    have : p = q := Option.some.inj hq
    subst this
    exact KeptAt_eq hk (fun j j1 j2 => o' j (by omega) (by omega) (by omega) (by omega))
  · exact KeptAt_eq c2 (fun j j1 j2 => by subst hf; unfold upd; rw [if_neg (by omega), if_neg (by omega), if_neg (by omega)])
  · intro q hq
    have := hb.2.2.2.2.2.2.1 q hq
    exact KeptAt_eq (o3 q hq) (fun j j1 j2 => o' j (by omega) (by omega) (by omega) (by omega))
  · exact ⟨p, hpo, hpl, hp, KeptAt_eq hk (fun j j1 j2 => o' j (by omega) (by omega) (by omega) (by omega))⟩
  · exact StA_eq o5 (fun j j1 j2 => o' j (by omega) (by omega) (by omega) (by omega))
  · exact REs_eq (E := E) h4 hb (fun j hj => o' j (by omega) (by omega) (by omega) (by omega))
  · exact REc_eq (E := E) h5 hn (fun j j1 j2 => o' j (by omega) (by omega) (by omega) (by omega))
  · intro j hj
    exact o' j (by omega) (by omega) (by omega) (by omega)
/-- the inverse of A, as it comes on a stack -/
def invX (A t : List Int32) : Nat × List Int32 := ((gatherL (invC A t) 0).length, invC A t)
/-- the stacks at an edit (0), an undo (1), a redo (2) -/
def stkK (E : Ed) (A : List Int32) (kind : Nat) : Ed := if kind = 1 then sDon E (pushS (eDon E) (invX A (eTxt E))) else if kind = 0 then sDon (sUnd E (pushS (eUnd E) (invX A (eTxt E)))) [] else sUnd E (pushS (eUnd E) (invX A (eTxt E)))
/-- what is done with an edit that is made -/
def giveE (E : Ed) (A : List Int32) : Ed := match ePnd E with
  | none => sndE E A
  | some _ => sBuf E (some (match eBuf E with | none => A | some b => joinC b A))
def editE (E : Ed) (A : List Int32) (kind : Nat) : Ed := giveE (txtE (stkK E A kind) A true) A
theorem REd_stk {f f' : Nat → Int32} {b n : Nat} {E E' : Ed} (h : REd f b n E) (hb : Bd E) (hn : n ≤ 100) (he : E' = sDon (sUnd E (eUnd E')) (eDon E')) (hf : ∀ j, b ≤ j → j < b + 1590 ∨ b + 2518 ≤ j → j ≠ b + 22 → j ≠ b + 23 → f' j = f j) (hs : REs f' b E') : REd f' b n E' := by
  obtain ⟨h1, h2, h3, h4, h5⟩ := h
  have t1 := hb.1
  have e1 : REh f' b E := REh_eq h1 hb.2.1 (fun j j1 j2 => hf j (by omega) (by omega) (by omega) (by omega))
  have e2 : REt f' b E := REt_eq h2 (fun j hj => hf j (by omega) (by omega) (by omega) (by omega))
  have e3 : REo f' b E := REo_eq h3 hb (fun j j1 j2 => hf j (by omega) (by omega) (by omega) (by omega))
  have e5 : REc f' b n E := REc_eq h5 hn (fun j j1 j2 => hf j (by omega) (by omega) (by omega) (by omega))
  refine ⟨?_, ?_, ?_, hs, ?_⟩
  · rw [he]; exact e1
  · rw [he]; exact e2
  · rw [he]; exact e3
  · rw [he]; exact e5
theorem pushS_len {s : List (Nat × List Int32)} {x : Nat × List Int32} (h : s.length ≤ 8) : (pushS s x).length ≤ 8 := by
  unfold pushS
  rw [List.length_append, List.length_singleton]
  split
  · rw [List.length_tail]; omega
  · omega
theorem capS_app (s t : List (Nat × List Int32)) : capS (s ++ t) = capS s + capS t := by
  induction s with
  | nil => simp [capS]
  | cons y s ih => rw [List.cons_append, capS, capS, ih]; omega
/-- the head of an edit: counted, its inverse on a stack -/
theorem edits_head {M : MS} {e n kind ed pu : Nat} {E : Ed} {A : List Int32} (he : e < 4) (hn : n ≤ 100) (hk : kind ≤ 2) (hr : Row M 20 25 A) (hA : okO A) (hl : A.length ≤ 700) (h : REd (M.2.1 30) (4 + 2618 * e) n E) (hb : Bd E) (hb1 : Bd (stkK E A kind)) (ho : oldL A = (eTxt E).length) (ht : ∀ v ∈ eTxt E, okP v) (hu : (eUnd E).length ≤ 8) (hd : (eDon E).length ≤ 8) (h2 : M.2.1 30 2 = nI ed) (h3 : M.2.1 30 3 = nI pu) :
    ∃ M13, (∀ (K : MS → Option MS), ((ld M 30 (2 : Int32)).bind fun v1 => (sd M 30 (2 : Int32) (v1 + (1 : Int32))).bind fun M2 => (ld M2 30 (3 : Int32)).bind fun v3 => (f12_putsOf M2 20 (gF M2 25)).bind fun v4 => (sd M2 30 (3 : Int32) (v3 + v4)).bind fun M5 => (f12_of (nI e) (24 : Int32)).bind fun v6 => (f12_inverts M5 30 v6).bind fun M7 => (if nI kind = 1 then some (2054 : Int32) else some (1590 : Int32)).bind fun v8 => (if nI kind = 1 then some (23 : Int32) else some (22 : Int32)).bind fun v10 => (f12_pushes M7 (nI e) v8 v10).bind fun M12 => (if nI kind = 0 then (f12_of (nI e) (23 : Int32)).bind fun v15 => (sd M12 30 v15 (0 : Int32)).bind fun M16 => some M16 else some M12).bind K) = K M13) ∧ REd (M13.2.1 30) (4 + 2618 * e) n (stkK E A kind) ∧ Row M13 20 25 A ∧ M13.2.1 30 2 = nI (ed + 1) ∧ M13.2.1 30 3 = nI (pu + putsL A) ∧ FN [22, 24] [27] (fun j => j = 2 ∨ j = 3 ∨ (4 + 2618 * e ≤ j ∧ j < 4 + 2618 * e + 2618)) M M13 := by
  generalize hB : 4 + 2618 * e = b at *
  have hb4 : b + 2618 ≤ 10476 := by omega
  have ofe : ∀ w : Nat, f12_of (nI e) (nI w) = some (nI (b + w)) := fun w => by rw [of_ok, hB]
  have hlen := cnt_len hA
  generalize hf : upd (upd (M.2.1 30) 2 (nI (ed + 1))) 3 (nI (pu + putsL A)) = f5
  have o5 : ∀ j, j ≠ 2 → j ≠ 3 → f5 j = M.2.1 30 j := fun j j1 j2 => by subst hf; unfold upd; rw [if_neg j2, if_neg j1]
  have r5 : REd f5 b n E := REd_eq h hb hn (fun j j1 j2 => o5 j (by omega) (by omega))
  have rA5 : Row (sR M 30 f5) 20 25 A := by unfold Row; rw [sR_ne _ _ (by decide)]; exact hr
  have t1 := hb.1
  obtain ⟨M7, i1, i2, i3⟩ := inverts_ok (M := sR M 30 f5) (a1 := 30) (p := b + 24) (t := eTxt E) (by decide) rA5 (by rw [sR_get]; exact r5.2.1.2) (show b + 24 + _ ≤ 10476 by omega) hA (by omega) hl
  obtain ⟨c1, c2, c3, c4, c5⟩ := inv_ok hA ht (by omega)
  have cl := cnt_len c1
  have il : (settleL (invR A (eTxt E))).length ≤ 700 := by rw [settleL_len, invR_len]; exact hl
  have n7 : M7.2.1 30 = f5 := by rw [i3.1 30 (by decide), sR_get]
  have rA7 : Row M7 20 25 A := Row_frm rA5 i3 (by decide) (by decide)
  have cE : (stkK E A kind) = (stkK E A kind) := rfl
  have head : ∀ (K : MS → Option MS), ((ld M 30 (2 : Int32)).bind fun v1 => (sd M 30 (2 : Int32) (v1 + (1 : Int32))).bind fun M2 => (ld M2 30 (3 : Int32)).bind fun v3 => (f12_putsOf M2 20 (gF M2 25)).bind fun v4 => (sd M2 30 (3 : Int32) (v3 + v4)).bind fun M5 => (f12_of (nI e) (24 : Int32)).bind fun v6 => (f12_inverts M5 30 v6).bind K) = K M7 := by
    intro K
    rw [show (2 : Int32) = nI 2 from rfl, show (3 : Int32) = nI 3 from rfl, show (24 : Int32) = nI 24 from rfl, ld_n (show 2 < 10476 by omega), h2, Option.bind_some, nI_1, sd_n (show 2 < 10476 by omega), Option.bind_some, ld_n (show 3 < 10476 by omega), sR_get]
    have e3 : upd (M.2.1 30) 2 (nI (ed + 1)) 3 = nI pu := by unfold upd; rw [if_neg (by omega)]; exact h3
    have rA2 : Row (sR M 30 (upd (M.2.1 30) 2 (nI (ed + 1)))) 20 25 A := by unfold Row; rw [sR_ne _ _ (by decide)]; exact hr
    rw [e3, Option.bind_some, show gF (sR M 30 (upd (M.2.1 30) 2 (nI (ed + 1)))) 25 = nI A.length from rA2.1, putsOf_ok rA2.2 (show A.length ≤ 700 from hl) (by omega), Option.bind_some, nI_add, sd_n (show 3 < 10476 by omega), sR_get, sR_sR, hf, Option.bind_some, ofe, Option.bind_some, i1, Option.bind_some]
  have rest : ∃ M13, (∀ (K : MS → Option MS), ((if nI kind = 1 then some (2054 : Int32) else some (1590 : Int32)).bind fun v8 => (if nI kind = 1 then some (23 : Int32) else some (22 : Int32)).bind fun v10 => (f12_pushes M7 (nI e) v8 v10).bind fun M12 => (if nI kind = 0 then (f12_of (nI e) (23 : Int32)).bind fun v15 => (sd M12 30 v15 (0 : Int32)).bind fun M16 => some M16 else some M12).bind K) = K M13) ∧ ∃ f13, M13 = sR M7 30 f13 ∧ REd f13 b n (stkK E A kind) ∧ (∀ j, j < b ∨ b + 2618 ≤ j → f13 j = f5 j) := by
    have hbu := hb.2.2.2.2.2.2.2.1
    have hbd := hb.2.2.2.2.2.2.2.2
    have r7 : REd (M7.2.1 30) b n E := by rw [n7]; exact r5
    obtain ⟨-, -, -, ⟨s1, s2, s3, s4⟩, -⟩ := r7
    by_cases hk1 : kind = 1
    · subst hk1
      have eK : stkK E A 1 = sDon E (pushS (eDon E) (invX A (eTxt E))) := by unfold stkK; rw [if_pos rfl]
      have hcap : capS (pushS (eDon E) (invX A (eTxt E))) ≤ 464 := by have := hb1.2.2.2.2.2.2.2.2; rw [eK] at this; exact this
      have hcp := hcap
      unfold pushS at hcp
      rw [capS_app] at hcp
      simp only [capS, invX] at hcp
      have eE1 := stkE_cap (eDon E) (b + 2054)
      have eE2 := stkE_cap (if (eDon E).length = 8 then (eDon E).tail else eDon E) (b + 2054)
      obtain ⟨f13, p1, p2, p3, p4⟩ := pushes_ok (e := e) (st := 2054) (co := 23) (eDon E) (b + 2054) (b + 23) (by omega) (by omega) (by omega) i2 c1 il s4 hd (by omega) (by unfold invC at hcp; omega) s2
      refine ⟨sR M7 30 f13, ?_, f13, rfl, ?_, ?_⟩
      · intro K
        rw [if_pos (show nI 1 = (1 : Int32) from rfl), if_pos (show nI 1 = (1 : Int32) from rfl), Option.bind_some, Option.bind_some, show (2054 : Int32) = nI 2054 from rfl, show (23 : Int32) = nI 23 from rfl, p1, Option.bind_some, if_neg (show ¬ nI 1 = (0 : Int32) from by decide), Option.bind_some]
      · rw [eK]
        refine REd_stk r5 hb hn rfl (fun j j0 j1 j2 j3 => ?_) ⟨?_, p3, ?_, p2⟩
        · rw [p4 j j3 (by unfold invC at hcp; omega), n7]
        · rw [p4 _ (by omega) (by omega)]; exact s1
        · refine stk_eq s3 (fun j j1 j2 => ?_)
          have := stkE_cap (eUnd E) (b + 1590)
          have hj2 : j < stkE (b + 1590) (eUnd E) := j2
          exact p4 j (by omega) (by omega)
      · intro j hj
        rw [p4 j (by omega) (by unfold invC at hcp; omega), n7]
    · have hx : ∃ f12, f12_pushes M7 (nI e) (nI 1590) (nI 22) = some (sR M7 30 f12) ∧ stk f12 (b + 1590) (pushS (eUnd E) (invX A (eTxt E))) ∧ f12 (b + 22) = nI (pushS (eUnd E) (invX A (eTxt E))).length ∧ capS (pushS (eUnd E) (invX A (eTxt E))) ≤ 464 ∧ (∀ j, j ≠ b + 22 → j < b + 1590 ∨ b + 2054 ≤ j → f12 j = M7.2.1 30 j) := by
        have hcap : capS (pushS (eUnd E) (invX A (eTxt E))) ≤ 464 := by
          have := hb1.2.2.2.2.2.2.2.1
          unfold stkK at this
          rw [if_neg hk1] at this
          by_cases hk0 : kind = 0
          · rw [if_pos hk0] at this; exact this
          · rw [if_neg hk0] at this; exact this
        have hcp := hcap
        unfold pushS at hcp
        rw [capS_app] at hcp
        simp only [capS, invX] at hcp
        have eE1 := stkE_cap (eUnd E) (b + 1590)
        have eE2 := stkE_cap (if (eUnd E).length = 8 then (eUnd E).tail else eUnd E) (b + 1590)
        obtain ⟨f13, p1, p2, p3, p4⟩ := pushes_ok (e := e) (st := 1590) (co := 22) (eUnd E) (b + 1590) (b + 22) (by omega) (by omega) (by omega) i2 c1 il s3 hu (by omega) (by unfold invC at hcp; omega) s1
        exact ⟨f13, p1, p2, p3, hcap, fun j j1 j2 => p4 j j1 (by unfold invC at hcp; omega)⟩
      obtain ⟨f12, p1, p2, p3, p5, p4⟩ := hx
      have hn1 : ¬ nI kind = (1 : Int32) := by rw [show (1 : Int32) = nI 1 from rfl, nI_eq (by omega) (by omega)]; exact hk1
      have eEu := stkE_cap (pushS (eUnd E) (invX A (eTxt E))) (b + 1590)
      have eEd := stkE_cap (eDon E) (b + 2054)
      by_cases hk0 : kind = 0
      · subst hk0
        refine ⟨sR M7 30 (upd f12 (b + 23) 0), ?_, _, rfl, ?_, ?_⟩
        · intro K
          rw [if_neg hn1, if_neg hn1, Option.bind_some, Option.bind_some, show (1590 : Int32) = nI 1590 from rfl, show (22 : Int32) = nI 22 from rfl, p1, Option.bind_some, if_pos (show nI 0 = (0 : Int32) from rfl), show (23 : Int32) = nI 23 from rfl, ofe, Option.bind_some, sd_n (show b + 23 < 10476 by omega), sR_get, sR_sR, Option.bind_some, Option.bind_some]
        · have eK : stkK E A 0 = sDon (sUnd E (pushS (eUnd E) (invX A (eTxt E)))) [] := by unfold stkK; rw [if_neg hk1, if_pos rfl]
          rw [eK]
          refine REd_stk r5 hb hn rfl (fun j j0 j1 j2 j3 => ?_) ⟨?_, ?_, ?_, trivial⟩
          · unfold upd; rw [if_neg j3, p4 j j2 (by omega), n7]
          · unfold upd; rw [if_neg (by omega)]; exact p3
          · unfold upd; rw [if_pos rfl]; rfl
          · refine stk_eq p2 (fun j j1 j2 => ?_)
            unfold upd; rw [if_neg (by omega)]
        · intro j hj
          unfold upd
          rw [if_neg (by omega), p4 j (by omega) (by omega), n7]
      · have hn0 : ¬ nI kind = (0 : Int32) := nI_ne0 (by omega) (by omega)
        refine ⟨sR M7 30 f12, ?_, f12, rfl, ?_, ?_⟩
        · intro K
          rw [if_neg hn1, if_neg hn1, Option.bind_some, Option.bind_some, show (1590 : Int32) = nI 1590 from rfl, show (22 : Int32) = nI 22 from rfl, p1, Option.bind_some, if_neg hn0, Option.bind_some]
        · have eK : stkK E A kind = sUnd E (pushS (eUnd E) (invX A (eTxt E))) := by unfold stkK; rw [if_neg hk1, if_neg hk0]
          rw [eK]
          refine REd_stk r5 hb hn rfl (fun j j0 j1 j2 j3 => ?_) ⟨p3, ?_, p2, ?_⟩
          · rw [p4 j j2 (by omega), n7]
          · rw [p4 _ (by omega) (by omega)]; exact s2
          · exact stk_eq s4 (fun j j1 j2 => p4 j (by omega) (by omega))
        · intro j hj
          rw [p4 j (by omega) (by omega), n7]
  obtain ⟨M13, q1, f13, q2, q3, q4⟩ := rest
  refine ⟨M13, fun K => by rw [head, q1], by rw [q2, sR_get]; exact q3, by rw [q2]; unfold Row; rw [sR_ne _ _ (by decide)]; exact rA7, ?_, ?_, ?_⟩
  · rw [q2, sR_get, q4 2 (by omega)]; subst hf; unfold upd; rw [if_neg (by omega), if_pos rfl]
  · rw [q2, sR_get, q4 3 (by omega)]; subst hf; unfold upd; rw [if_pos rfl]
  · rw [q2]
    refine FN_trans (FN_now (f := f5) (fun j hj => o5 j (by omega) (by omega))) (FN_trans (FN_Frm i3 (by decide) (by simp) (by simp)) (FN_now (fun j hj => ?_)))
    rw [q4 j (by omega), n7]
