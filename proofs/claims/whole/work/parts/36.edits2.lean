/-! ===== PART II, the reference: an edit, whole; an own operation comes back ===== -/
theorem nI_lt_eq {a b : Nat} (h : a = b) : nI a = nI b := by rw [h]
theorem keepBuf {f f' : Nat → Int32} {b n : Nat} {E : Ed} {p : List Int32} (h : REd f b n E) (hb : Bd E) (hn : n ≤ 100) (hk : KeptAt f' (b + 1148) p) (h18 : f' (b + 18) = 1) (hp : (gatherL p 0).length ≤ 440) (hpo : okO p) (hpl : p.length ≤ 700) (hf : ∀ j, b ≤ j → j ≠ b + 18 → j < b + 1148 ∨ b + 1148 + 2 + (gatherL p 0).length ≤ j → f' j = f j) : REd f' b n (sBuf E (some p)) := by
  obtain ⟨⟨k1, k2, k3, k4, k5, k6, k7, k8, k9, k10⟩, h2, ⟨o1, o2, o3, o4, o5⟩, h4, h5⟩ := h
  have mk4 := hb.2.1
  have t4 := hb.1
  obtain ⟨-, -, -, -, b1, b2, b3, -, -⟩ := id hb
  refine ⟨⟨?_, ?_, ?_, ?_, ?_, ?_, ?_, ?_, ?_, fun hh => ?_⟩, ?_, ⟨?_, fun hh => ?_, ?_, ?_, ?_⟩, ?_, ?_⟩
  · rw [hf _ (by omega) (by omega) (by omega)]; exact k1
  · rw [hf _ (by omega) (by omega) (by omega)]; exact k2
  · rw [hf _ (by omega) (by omega) (by omega)]; exact k3
  · exact mkAt_eq (eMks E) _ k4 (fun j j1 j2 => hf j (by omega) (by omega) (by omega))
  · rw [hf _ (by omega) (by omega) (by omega)]; exact k5
  · rw [hf _ (by omega) (by omega) (by omega)]; exact k6
  · rw [hf _ (by omega) (by omega) (by omega)]; exact k7
  · rw [h18]; rfl
  · rw [hf _ (by omega) (by omega) (by omega)]; exact k9
  · rw [hf _ (by omega) (by omega) (by omega)]; exact k10 hh
  · exact REt_eq (E := E) h2 (fun j hj => hf j (by omega) (by omega) (by omega))
  · intro q hq
    have := b1 q hq
    exact KeptAt_eq (o1 q hq) (fun j j1 j2 => hf j (by omega) (by omega) (by omega))
  · have := b2 hh
    exact KeptAt_eq (p := (eSnt E).1) (o2 hh) (fun j j1 j2 => hf j (by omega) (by omega) (by omega))
  · intro q hq
    have : p = q := Option.some.inj hq
    subst this
    exact hk
  · exact StA_eq o4 (fun j j1 j2 => hf j (by omega) (by omega) (by omega))
  · exact ⟨p, hpo, hpl, hp, hk⟩
  · exact REs_eq (E := E) h4 hb (fun j hj => hf j (by omega) (by omega) (by omega))
  · exact REc_eq (E := E) h5 hn (fun j j1 j2 => hf j (by omega) (by omega) (by omega))
theorem edits_ok {M : MS} {e n kind ed pu : Nat} {E : Ed} {A : List Int32} (he : e < 4) (hn : n ≤ 100) (hk : kind ≤ 2) (hr : Row M 20 25 A) (hA : okO A) (hl : A.length ≤ 700) (h : REd (M.2.1 30) (4 + 2618 * e) n E) (hb : Bd E) (hb1 : Bd (stkK E A kind)) (hb2 : Bd (txtE (stkK E A kind) A true)) (hb3 : Bd (editE E A kind)) (ho : oldL A = (eTxt E).length) (hnw : newL A ≤ 240) (ht : ∀ v ∈ eTxt E, okP v) (hu : (eUnd E).length ≤ 8) (hd : (eDon E).length ≤ 8) (h2 : M.2.1 30 2 = nI ed) (h3 : M.2.1 30 3 = nI pu) (hbf : ∀ q, eBuf E = some q → okO q ∧ newL q = oldL A ∧ q.length + A.length ≤ 700) :
    ∃ M', f12_edits M (nI e) (nI kind) = some M' ∧ REd (M'.2.1 30) (4 + 2618 * e) n (editE E A kind) ∧ M'.2.1 30 2 = nI (ed + 1) ∧ M'.2.1 30 3 = nI (pu + putsL A) ∧ FN [20, 21, 22, 24, 29] [25, 26, 27] (fun j => j = 2 ∨ j = 3 ∨ (4 + 2618 * e ≤ j ∧ j < 4 + 2618 * e + 2618)) M M' := by
  obtain ⟨M13, g1, g2, g3, g4, g5, g6⟩ := edits_head he hn hk hr hA hl h hb hb1 ho ht hu hd h2 h3
  have eT : eTxt (stkK E A kind) = eTxt E := by unfold stkK; (repeat' split) <;> rfl
  have eP : ePnd (stkK E A kind) = ePnd E := by unfold stkK; (repeat' split) <;> rfl
  have eB : eBuf (stkK E A kind) = eBuf E := by unfold stkK; (repeat' split) <;> rfl
  obtain ⟨M17, c1, c2, c3⟩ := textChanged_ok (own := true) (a2 := 20) (e := e) (n := n) (by decide) (by decide) (show A.length ≤ 700 from hl) hA hl he hn g3.2 g2 hb1 (by rw [eT]; exact ho) hnw
  have hbdef : editE E A kind = giveE (txtE (stkK E A kind) A true) A := rfl
  rw [hbdef] at hb3 ⊢
  have eP3 : ePnd (txtE (stkK E A kind) A true) = ePnd E := eP
  have eB3 : eBuf (txtE (stkK E A kind) A true) = eBuf E := eB
  generalize txtE (stkK E A kind) A true = E3 at *
  generalize hB : 4 + 2618 * e = b at *
  have hb4 : b + 2618 ≤ 10476 := by omega
  have ofe : ∀ w : Nat, f12_of (nI e) (nI w) = some (nI (b + w)) := fun w => by rw [of_ok, hB]
  have rA : Row M17 20 25 A := Row_FN g3 c3 (by decide) (by decide) (by decide)
  have hlA := cnt_len hA
  have e2 : M17.2.1 30 2 = nI (ed + 1) := by rw [c3.2.2.2 2 (by omega)]; exact g4
  have e3 : M17.2.1 30 3 = nI (pu + putsL A) := by rw [c3.2.2.2 3 (by omega)]; exact g5
  have fr17 : FN [20, 21, 22, 24, 29] [25, 26, 27] (fun j => j = 2 ∨ j = 3 ∨ (b ≤ j ∧ j < b + 2618)) M M17 := FN_trans (FN_mono g6 (by simp) (by simp) (fun _ h => h)) (FN_mono c3 (by simp) (by simp) (fun j hj => by omega))
  have c1' : f12_textChanged M13 (nI e) 20 (gF M13 25) (1 : Int32) = some M17 := by rw [show gF M13 25 = nI A.length from g3.1]; exact c1
  have i17 : f12_its M17 (nI e) (17 : Int32) = some (bI (ePnd E).isSome) := by
    rw [show (17 : Int32) = nI 17 from rfl, its_ok (by omega), hB, c2.1.2.2.2.2.2.2.1, eP3]
  have i18 : f12_its M17 (nI e) (18 : Int32) = some (bI (eBuf E).isSome) := by
    rw [show (18 : Int32) = nI 18 from rfl, its_ok (by omega), hB, c2.1.2.2.2.2.2.2.2.1, eB3]
  have hunf : f12_edits M (nI e) (nI kind) = (f12_its M17 (nI e) (17 : Int32)).bind fun v18 => if v18 = 0 then ((f12_of (nI e) (264 : Int32)).bind fun v32 => (f12_keepsA M17 v32).bind fun M33 => (f12_sends M33 (nI e)).bind fun M34 => some M34) else ((f12_its M17 (nI e) (18 : Int32)).bind fun v19 => (if v19 = 1 then ((L12_edits_153 (nI e) FU 0 (sF M17 26 (gF M17 25))).bind fun M22 => (f12_of (nI e) (1148 : Int32)).bind fun v24 => (f12_keptToA M22 v24).bind fun M25 => (f12_joins M25).bind fun M26 => (f12_takesCAsA M26).bind fun M27 => some M27) else (some M17)).bind fun M20 => (f12_of (nI e) (1148 : Int32)).bind fun v28 => (f12_keepsA M20 v28).bind fun M29 => (f12_of (nI e) (18 : Int32)).bind fun v30 => (sd M29 30 v30 (1 : Int32)).bind fun M31 => some M31) := by
    unfold f12_edits
    rw [g1, c1', Option.bind_some]
  rw [hunf, i17, Option.bind_some]
  cases hP : ePnd E with
  | none =>
    have hg : giveE E3 A = sndE E3 A := by unfold giveE; rw [eP3, hP]
    rw [hg] at hb3 ⊢
    have hmA : (gatherL A 0).length ≤ 440 := hb3.2.2.2.2.1 A rfl
    obtain ⟨f1, p1, p2, p3⟩ := keepsA_ok (p := b + 264) rA hA hl (by omega)
    have r1 : REd f1 b n E3 := by
      obtain ⟨q1, q2, ⟨o1, o2, o3, o4, o5⟩, q4, q5⟩ := c2
      have t4 := hb2.1
      refine ⟨REh_eq q1 hb2.2.1 (fun j j1 j2 => p3 j (by omega)), REt_eq q2 (fun j hj => p3 j (by omega)), ⟨fun q hq => absurd hq (by rw [eP3, hP]; simp), fun hh => ?_, fun q hq => ?_, ⟨A, hA, hl, hmA, p2⟩, StA_eq o5 (fun j j1 j2 => p3 j (by omega))⟩, REs_eq q4 hb2 (fun j hj => p3 j (by omega)), REc_eq q5 hn (fun j j1 j2 => p3 j (by omega))⟩
      · have := hb2.2.2.2.2.2.1 hh
        exact KeptAt_eq (o2 hh) (fun j j1 j2 => p3 j (by omega))
      · have := hb2.2.2.2.2.2.2.1 q hq
        exact KeptAt_eq (o3 q hq) (fun j j1 j2 => p3 j (by omega))
    obtain ⟨f2, s1, s2, s3⟩ := sends_ok (M := sR M17 30 f1) (e := e) (n := n) (E := E3) (p := A) he hn (by rw [sR_get, hB]; exact r1) hb2 (by rw [sR_get, hB]; exact p2) hmA hA hl
    rw [hB] at s2 s3
    rw [sR_get] at s3
    refine ⟨sR M17 30 f2, ?_, by rw [sR_get]; exact s2, ?_, ?_, ?_⟩
    · rw [if_pos (show bI (none : Option (List Int32)).isSome = (0 : Int32) from rfl), show (264 : Int32) = nI 264 from rfl, ofe, Option.bind_some, p1, Option.bind_some, s1, Option.bind_some, sR_sR]
    · rw [sR_get, s3 2 (by omega), p3 2 (by omega)]; exact e2
    · rw [sR_get, s3 3 (by omega), p3 3 (by omega)]; exact e3
    · refine FN_trans fr17 (FN_now (fun j hj => ?_))
      rw [s3 j (by omega), p3 j (by omega)]
  | some q0 =>
    rw [if_neg (show ¬ bI (some q0).isSome = (0 : Int32) from by simp [bI]), i18, Option.bind_some]
    have tail : ∀ (M20 : MS) (C : List Int32), giveE E3 A = sBuf E3 (some C) → Row M20 20 25 C → okO C → C.length ≤ 700 → FN [20, 21, 22, 24, 29] [25, 26, 27] (fun j => j = 2 ∨ j = 3 ∨ (b ≤ j ∧ j < b + 2618)) M M20 → M20.2.1 30 = M17.2.1 30 →
        ∃ M', ((f12_of (nI e) (1148 : Int32)).bind fun v28 => (f12_keepsA M20 v28).bind fun M29 => (f12_of (nI e) (18 : Int32)).bind fun v30 => (sd M29 30 v30 (1 : Int32)).bind fun M31 => some M31) = some M' ∧ REd (M'.2.1 30) b n (giveE E3 A) ∧ M'.2.1 30 2 = nI (ed + 1) ∧ M'.2.1 30 3 = nI (pu + putsL A) ∧ FN [20, 21, 22, 24, 29] [25, 26, 27] (fun j => j = 2 ∨ j = 3 ∨ (b ≤ j ∧ j < b + 2618)) M M' := by
      intro M20 C hg hrC hC hlC hfr hnow
      rw [hg] at hb3 ⊢
      have hmC : (gatherL C 0).length ≤ 440 := hb3.2.2.2.2.2.2.1 C rfl
      obtain ⟨f1, p1, p2, p3⟩ := keepsA_ok (p := b + 1148) hrC hC hlC (by omega)
      refine ⟨sR M20 30 (upd f1 (b + 18) 1), ?_, ?_, ?_, ?_, ?_⟩
      · rw [show (1148 : Int32) = nI 1148 from rfl, show (18 : Int32) = nI 18 from rfl, ofe, ofe, Option.bind_some, p1, Option.bind_some, Option.bind_some, sd_n (show b + 18 < 10476 by omega), sR_get, sR_sR, Option.bind_some]
      · rw [sR_get]
        refine keepBuf c2 hb2 hn (KeptAt_eq p2 (fun j j1 j2 => by unfold upd; rw [if_neg (by omega)])) (by unfold upd; rw [if_pos rfl]) hmC hC hlC (fun j j0 j1 j2 => ?_)
        unfold upd; rw [if_neg j1, p3 j (by omega), hnow]
      · rw [sR_get]; unfold upd; rw [if_neg (by omega), p3 2 (by omega), hnow]; exact e2
      · rw [sR_get]; unfold upd; rw [if_neg (by omega), p3 3 (by omega), hnow]; exact e3
      · refine FN_trans hfr (FN_now (fun j hj => ?_))
        unfold upd; rw [if_neg (by omega), p3 j (by omega)]
    cases hQ : eBuf E with
    | none =>
      rw [if_neg (show ¬ bI (none : Option (List Int32)).isSome = (1 : Int32) from by simp [bI]), Option.bind_some]
      exact tail M17 A (by unfold giveE; rw [eP3, hP, eB3, hQ]) rA hA hl fr17 rfl
    | some q =>
      rw [if_pos (show bI (some q).isSome = (1 : Int32) from rfl)]
      obtain ⟨q1, q2, q3⟩ := hbf q hQ
      have hKq : KeptAt (M17.2.1 30) (b + 1148) q := c2.2.2.1.2.2.1 q (by rw [eB3]; exact hQ)
      have hmq := hb2.2.2.2.2.2.2.1 q (by rw [eB3]; exact hQ)
      have e25 : ∀ f, gF (sR (sF M17 26 (gF M17 25)) 21 f) 25 = nI A.length := fun f => rA.1
      have hcp : L12_edits_153 (nI e) FU 0 (sF M17 26 (gF M17 25)) = some (sR (sF M17 26 (gF M17 25)) 21 (wr (M17.2.1 21) 0 A)) := by
        refine cpl0 (src := 20) (s := 0) (d := 0) (by decide) (show 0 + A.length ≤ 700 by omega) (show 0 + A.length ≤ 700 by omega) (by rw [FU_eq]; omega) rA.2 (fun n i f hi => ?_) (fun n f => ?_)
        · conv => lhs; unfold L12_edits_153
          rw [e25, if_neg (nI_ge hi (by omega)), Nat.zero_add, nI_1]
        · unfold L12_edits_153
          rw [e25, if_pos (nI_le (Nat.le_refl _) (by omega))]
      generalize hM22 : sR (sF M17 26 (gF M17 25)) 21 (wr (M17.2.1 21) 0 A) = M22 at hcp
      have f22 : Frm [21] [26] M17 M22 := by subst hM22; exact Frm_trans (Frm_sF (by decide)) (Frm_sR (by decide))
      have r22 : Row M22 21 26 A := by
        subst hM22
        exact ⟨by rw [sR_F, sF_get]; exact rA.1, by rw [sR_get]; exact seg_wr⟩
      obtain ⟨M25, a1, a2, a3⟩ := keptToA_ok (M := M22) (p := b + 1148) (A := q) (by rw [f22.1 30 (by decide)]; exact hKq) q1 (by omega) (by omega)
      obtain ⟨M26, j1, j2, j3⟩ := joins_ok a2 (Row_frm r22 a3 (by decide) (by decide)) q1 hA q2 q3
      obtain ⟨w1, w2, w3, w4, w5⟩ := join_ok q1 hA q2
      have jl : (joinC q A).length ≤ 700 := by unfold joinC; rw [settleL_len]; have := joinR_len q A; omega
      obtain ⟨M27, t1, t2, t3⟩ := takesCAsA_ok (show Row M26 22 27 (joinC q A) from j2) jl
      rw [hcp, Option.bind_some, show (1148 : Int32) = nI 1148 from rfl, ofe, Option.bind_some, a1, Option.bind_some, j1, Option.bind_some, t1, Option.bind_some, Option.bind_some]
      have := tail M27 (joinC q A) (by unfold giveE; rw [eP3, hP, eB3, hQ]) t2 w1 jl (FN_trans fr17 (FN_trans (FN_Frm f22 (by decide) (by simp) (by simp)) (FN_trans (FN_Frm a3 (by decide) (by simp) (by simp)) (FN_trans (FN_Frm j3 (by decide) (by simp) (by simp)) (FN_Frm t3 (by decide) (by simp) (by simp)))))) (by rw [t3.1 30 (by decide), j3.1 30 (by decide), a3.1 30 (by decide), f22.1 30 (by decide)])
      rw [show (1148 : Int32) = nI 1148 from rfl, ofe, Option.bind_some] at this
      exact this
