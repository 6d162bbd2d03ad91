/-! ===== PART II, the reference: a statement is done ===== -/
theorem marked_rw {M : MS} {cnt ties tl i f t g : Nat} {W : Wd} (h : RW M cnt ties W) (gd : Good cnt ties tl W) (hi : i < cnt) (hm : (eMks (wE W i)).length < 4) :
    ∃ F : Nat → Int32, f12_marked M (nI i) (nI f) (nI t) (nI g) = some (sR M 30 F) ∧ RW (sR M 30 F) cnt ties (setE W i (addM (wE W i) f t g)) := by
  have hc4 := gd.1
  obtain ⟨hh, -⟩ := h.2.2.2.2.2.2.2 i hi
  obtain ⟨h1, h2, h3, h4, h5, h6, h7, h8, h9, h10⟩ := hh
  generalize hl : (eMks (wE W i)).length = l at *
  generalize hb : 4 + 2618 * i = b at *
  have ofe : ∀ w : Nat, f12_of (nI i) (nI w) = some (nI (b + w)) := fun w => by rw [of_ok, hb]
  generalize hF : upd (upd (upd (upd (M.2.1 30) (b + (3 + 3 * l)) (nI f)) (b + (3 + 3 * l) + 1) (nI t)) (b + (3 + 3 * l) + 2) (nI g)) (b + 2) (nI (l + 1)) = F
  have o : ∀ j, j ≠ b + 2 → (j < b + 3 + 3 * l ∨ b + 6 + 3 * l ≤ j) → F j = M.2.1 30 j := fun j j1 j2 => by
    subst hF
    rw [upd_ne _ _ j1, upd_ne _ _ (by omega), upd_ne _ _ (by omega), upd_ne _ _ (by omega)]
  refine ⟨F, ?_, ?_⟩
  · unfold f12_marked
    rw [show f12_its M (nI i) (2 : Int32) = some (nI l) from by rw [show (2 : Int32) = nI 2 from rfl, its_ok (by omega), hb, h3], Option.bind_some, show (3 : Int32) = nI 3 from rfl, nI_mul, nI_add, ofe, Option.bind_some, sd_n (show b + (3 + 3 * l) < 10476 by omega), Option.bind_some, nI_1, sd_n (show b + (3 + 3 * l) + 1 < 10476 by omega), sR_get, sR_sR, Option.bind_some, show (2 : Int32) = nI 2 from rfl, nI_add, sd_n (show b + (3 + 3 * l) + 2 < 10476 by omega), sR_get, sR_sR, Option.bind_some, ofe, Option.bind_some, ld_n (show b + 2 < 10476 by omega), sR_get, upd_ne _ _ (by omega), upd_ne _ _ (by omega), upd_ne _ _ (by omega), h3, Option.bind_some, nI_1, sd_n (show b + 2 < 10476 by omega), sR_get, sR_sR, hF, Option.bind_some]
  · have hh' : REh F b (addM (wE W i) f t g) := by
      refine ⟨by rw [o _ (by omega) (by omega)]; exact h1, by rw [o _ (by omega) (by omega)]; exact h2, ?_, ?_, by rw [o _ (by omega) (by omega)]; exact h5, by rw [o _ (by omega) (by omega)]; exact h6, by rw [o _ (by omega) (by omega)]; exact h7, by rw [o _ (by omega) (by omega)]; exact h8, by rw [o _ (by omega) (by omega)]; exact h9, fun hx => by rw [o _ (by omega) (by omega)]; exact h10 hx⟩
      · subst hF
        rw [upd_self]
        show _ = nI (eMks (wE W i) ++ [(f, t, g)]).length
        rw [List.length_append, hl]; rfl
      · show mkAt F (b + 3) (eMks (wE W i) ++ [(f, t, g)])
        rw [mkAt_app]
        refine ⟨mkAt_eq _ _ h4 (fun j j1 j2 => o j (by omega) (by omega)), ?_, ?_, ?_, trivial⟩
        · rw [hl]; subst hF
          rw [upd_ne _ _ (by omega), upd_ne _ _ (by omega), upd_ne _ _ (by omega), show b + 3 + 3 * l = b + (3 + 3 * l) by omega, upd_self]
        · rw [hl]; subst hF
          rw [upd_ne _ _ (by omega), upd_ne _ _ (by omega), show b + 3 + 3 * l + 1 = b + (3 + 3 * l) + 1 by omega, upd_self]
        · rw [hl]; subst hF
          rw [upd_ne _ _ (by omega), show b + 3 + 3 * l + 2 = b + (3 + 3 * l) + 2 by omega, upd_self]
    exact set_headW h gd hi (fun j hj => by rw [hb] at hj; exact o j (by omega) (by omega)) (by rw [hb]; exact hh') rfl rfl rfl rfl rfl rfl rfl rfl
theorem canMark_rw {M : MS} {cnt ties tl i f t : Nat} {W : Wd} (h : RW M cnt ties W) (gd : Good cnt ties tl W) (hi : i < cnt) (hf : f < 1000) (ht : t < 1000) : f12_canMark M (nI i) (nI f) (nI t) = some (if (eMks (wE W i)).length < 4 ∧ f ≤ t ∧ t ≤ (eTxt (wE W i)).length then 1 else 0) := by
  have hc4 := gd.1
  obtain ⟨hh, hT, -⟩ := h.2.2.2.2.2.2.2 i hi
  have hB := Good_Bd gd hi
  have hb1 := hB.1
  have hb2 := hB.2.1
  unfold f12_canMark
  rw [show f12_its M (nI i) (2 : Int32) = some (nI (eMks (wE W i)).length) from by rw [show (2 : Int32) = nI 2 from rfl, its_ok (by omega), hh.2.2.1], Option.bind_some, show f12_its M (nI i) (21 : Int32) = some (nI (eTxt (wE W i)).length) from by rw [show (21 : Int32) = nI 21 from rfl, its_ok (by omega), hT.1]]
  by_cases c1 : (eMks (wE W i)).length < 4
  · rw [if_neg (show ¬ (4 : Int32) ≤ nI (eMks (wE W i)).length from nI_ge (b := 4) c1 (by omega)), if_neg (nI_pos (by omega))]
    by_cases c3 : f ≤ t
    · rw [if_neg (nI_nlt c3 (by omega)), Option.bind_some]
      by_cases c4 : t ≤ (eTxt (wE W i)).length
      · rw [if_neg (nI_nlt c4 (by omega)), if_pos ⟨c1, c3, c4⟩]; rfl
      · rw [if_pos (nI_lt (by omega) (by omega)), if_neg (fun hx => c4 hx.2.2)]; rfl
    · rw [if_pos (nI_lt (by omega) (by omega)), if_neg (fun hx => c3 hx.2.1)]; rfl
  · rw [if_pos (show (4 : Int32) ≤ nI (eMks (wE W i)).length from nI_le (a := 4) (by omega) (by omega)), if_neg (fun hx => c1 hx.1)]; rfl
/-- numbers of a statement are within their bounds -/
theorem num_in {T : List Int32} {lo hi : Nat} {p : Pz} (h : pBd (pNum T lo hi p).2 = 0) : lo ≤ (pNum T lo hi p).1 ∧ (pNum T lo hi p).1 ≤ hi := by
  have g := num_good h
  rw [g.2.2.2.2.2.2]
  exact ⟨g.2.2.2.2.1, g.2.2.2.2.2.1⟩
abbrev AsD : List Nat := [20, 21, 22, 23, 24, 29, 36, 37, 38, 39, 40, 41]
abbrev FsD : List Nat := [2, 4, 5, 6, 25, 26, 27, 28, 42]
theorem fnD {M M' : MS} (h : Frm [] [2, 4, 5, 6] M M') : FN AsD FsD (fun _ => True) M M' := FN_Frm h List.not_mem_nil (by simp) (by simp)
theorem rw_its {M : MS} {cnt ties tl i : Nat} {W : Wd} (h : RW M cnt ties W) (gd : Good cnt ties tl W) (hi : i < cnt) : f12_its M (nI i) (21 : Int32) = some (nI (eTxt (wE W i)).length) := by
  have hc4 := gd.1
  rw [show (21 : Int32) = nI 21 from rfl, its_ok (by omega), (h.2.2.2.2.2.2.2 i hi).2.1.1]
/-- an operation of the tape is done -/
theorem done_op {M : MS} {T : List Int32} {p : Pz} {cnt ties tl e : Nat} {W : Wd} (h : RQ M T p) (hb : pBd p = 0) (ho : pBd (pOp T false 42 0 p).2 = 0) (hW : RW M cnt ties W) (hg : Good cnt ties tl W) (he : e < cnt) :
    ∃ M', (bn2 (f12_isOp M (nI e)) fun v50 M51 => (if v50 = 0 then some M51 else ((f12_canEdit M51).bind fun v54 => if v54 = 0 then some M51 else ((f12_edits M51 (nI e) 0).bind fun M55 => some M55))).bind fun M52 => some M52) = some M' ∧ RQ M' T (pOp T false 42 0 p).2 ∧ RW M' cnt ties (doneS cnt ties W (3, (e, 0, 0, 0), (pOp T false 42 0 p).1)) ∧ Good cnt ties tl (doneS cnt ties W (3, (e, 0, 0, 0), (pOp T false 42 0 p).1)) ∧ FN AsD FsD (fun _ => True) M M' := by
  have hlen : (eTxt (wE W e)).length ≤ 240 := (Good_Bd hg he).1
  obtain ⟨M51, a1, a2, a3, a4⟩ := isOp_ok h hb ho (rw_its hW hg he) hlen
  obtain ⟨s1, s2⟩ := steps_ok 42 0 p hb ho
  have f51 : FN AsD FsD (fun _ => True) M M51 := FN_Frm a3 (by decide) (by simp) (by simp)
  have w51 : RW M51 cnt ties W := RW_same hW (fun k hk => a3.1 k (by simp; omega)) (a3.2.1 32 (by decide)) (a3.2.1 33 (by decide))
  generalize (pOp T false 42 0 p).1 = ss at *
  rw [a1, bn2_s]
  have eD : doneS cnt ties W (3, (e, 0, 0, 0), ss) = if stpsN ss ≤ (eTxt (wE W e)).length ∧ canW W (opTo ss (eTxt (wE W e)).length) = true then editW W e (editE (wE W e) (opTo ss (eTxt (wE W e)).length) 0) (opTo ss (eTxt (wE W e)).length) else W := rfl
  rw [eD]
  by_cases hn : stpsN ss ≤ (eTxt (wE W e)).length
  · rw [if_pos hn, if_neg (show ¬ (1 : Int32) = 0 from by decide)]
    have r51 := a4 hn
    obtain ⟨o1, o2⟩ := opTo_ok s1 s2 hn
    have hcan := canEdit_ok (ed := wEd W) (pu := wPu W) r51 (by rw [settleL_len, List.length_take]; omega) w51.2.2.2.2.1 w51.2.2.2.2.2.1 (by have := hg.2.2.2.2.1; omega) (by have := hg.2.2.2.1; omega)
    have hno : canW W (settleL ((stpsL ss ++ List.replicate ((eTxt (wE W e)).length - stpsN ss) 0).take 700)) = false → canW W (opTo ss (eTxt (wE W e)).length) = false → ∃ M', (((f12_canEdit M51).bind fun v54 => if v54 = 0 then some M51 else ((f12_edits M51 (nI e) 0).bind fun M55 => some M55)).bind fun M52 => some M52) = some M' ∧ RQ M' T (pOp T false 42 0 p).2 ∧ RW M' cnt ties (if stpsN ss ≤ (eTxt (wE W e)).length ∧ canW W (opTo ss (eTxt (wE W e)).length) = true then editW W e (editE (wE W e) (opTo ss (eTxt (wE W e)).length) 0) (opTo ss (eTxt (wE W e)).length) else W) ∧ Good cnt ties tl (if stpsN ss ≤ (eTxt (wE W e)).length ∧ canW W (opTo ss (eTxt (wE W e)).length) = true then editW W e (editE (wE W e) (opTo ss (eTxt (wE W e)).length) 0) (opTo ss (eTxt (wE W e)).length) else W) ∧ FN AsD FsD (fun _ => True) M M' := by
      intro c1 c2
      have c1' : ¬ (!(idleB (settleL ((stpsL ss ++ List.replicate ((eTxt (wE W e)).length - stpsN ss) 0).take 700))) && decide (wEd W < 100) && decide (wPu W + putsL (settleL ((stpsL ss ++ List.replicate ((eTxt (wE W e)).length - stpsN ss) 0).take 700)) ≤ 200)) = true := by
        have : (!(idleB (settleL ((stpsL ss ++ List.replicate ((eTxt (wE W e)).length - stpsN ss) 0).take 700))) && decide (wEd W < 100) && decide (wPu W + putsL (settleL ((stpsL ss ++ List.replicate ((eTxt (wE W e)).length - stpsN ss) 0).take 700)) ≤ 200)) = false := c1
        rw [this]; decide
      rw [hcan, if_neg c1', Option.bind_some, if_pos rfl, Option.bind_some, if_neg (fun hh => by rw [c2] at hh; exact absurd hh.2 (by decide))]
      exact ⟨M51, rfl, a2, w51, hg, f51⟩
    by_cases hL : (stpsL ss ++ List.replicate ((eTxt (wE W e)).length - stpsN ss) 0).length ≤ 700
    · rw [List.take_of_length_le hL] at r51 hcan hno
      by_cases hcw : canW W (opTo ss (eTxt (wE W e)).length) = true
      · have hcw' : (!(idleB (settleL (stpsL ss ++ List.replicate ((eTxt (wE W e)).length - stpsN ss) 0))) && decide (wEd W < 100) && decide (wPu W + putsL (settleL (stpsL ss ++ List.replicate ((eTxt (wE W e)).length - stpsN ss) 0)) ≤ 200)) = true := hcw
        rw [hcan, if_pos hcw', Option.bind_some, if_neg (show ¬ (1 : Int32) = 0 from by decide), if_pos ⟨hn, hcw⟩]
        simp only [Bool.and_eq_true, decide_eq_true_eq] at hcw'
        obtain ⟨M55, b1, b2, b3, b4⟩ := edits_rw (op := opTo ss (eTxt (wE W e)).length) w51 hg he r51 (settle_okV o1) (by show oldL (settleL _) = _; rw [settle_old]; exact o2) (by show (settleL _).length ≤ 700; rw [settleL_len]; exact hL) hcw'.1.2 hcw'.2
        refine ⟨M55, by rw [b1, Option.bind_some, Option.bind_some], RQ_same a2 (fun k hk => b4.1 k (by simp; omega) (by omega)) (fun k k1 k2 => b4.2.1 k (by simp; omega)), b2, b3, FN_trans f51 (FN_mono b4 (by simp) (by simp) (fun _ h => h))⟩
      · exact hno (by rw [Bool.not_eq_true] at hcw; exact hcw) (by rw [Bool.not_eq_true] at hcw; exact hcw)
    · obtain ⟨c1, c2⟩ := canW_cut (W := W) o1 (by rw [o2]; exact hlen) hL
      exact hno c1 c2
  · rw [if_neg hn, if_pos rfl, Option.bind_some, if_neg (fun hh => hn hh.1)]
    exact ⟨M51, rfl, a2, w51, hg, f51⟩
