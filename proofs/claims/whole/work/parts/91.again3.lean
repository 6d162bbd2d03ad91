/-! ===== PART II, the reference: what a statement does to a world ===== -/
theorem set_headW {M : MS} {cnt ties tl i : Nat} {W : Wd} {E : Ed} {f : Nat → Int32} (h : RW M cnt ties W) (gd : Good cnt ties tl W) (hi : i < cnt) (hf : ∀ j, j < 4 + 2618 * i ∨ 4 + 2618 * i + 21 ≤ j → f j = M.2.1 30 j) (hh : REh f (4 + 2618 * i) E) (e1 : eTxt E = eTxt (wE W i)) (e2 : eUnd E = eUnd (wE W i)) (e3 : eDon E = eDon (wE W i)) (e4 : eCom E = eCom (wE W i)) (e5 : ePnd E = ePnd (wE W i)) (e6 : eBuf E = eBuf (wE W i)) (e7 : eLft E = eLft (wE W i)) (e8 : eSnt E = eSnt (wE W i)) : RW (sR M 30 f) cnt ties (setE W i E) := by
  have hb := Good_Bd gd hi
  have hr := h.2.2.2.2.2.2.2 i hi
  have ho : REo f (4 + 2618 * i) E := by
    have := REo_eq (f' := f) hr.2.2.1 hb (fun j j1 j2 => hf j (by omega))
    unfold REo at this ⊢
    rw [e5, e6, e7, e8]
    exact this
  refine RW_set (As := []) (Fs := []) h gd hi (FN_now (fun j hj => hf j (by omega))) (fun _ _ _ => List.not_mem_nil) List.not_mem_nil List.not_mem_nil ?_
  rw [sR_get]
  exact REd_head hr hb (row_le gd) hh ho e1 e2 e3 e4 (fun j j1 j2 => hf j (by omega))
theorem REh_cur {f : Nat → Int32} {b v : Nat} {E : Ed} (h : REh f b E) (m4 : (eMks E).length ≤ 4) : REh (upd f (b + 1) (nI v)) b (sCur E v) := by
  obtain ⟨h1, h2, h3, h4, h5, h6, h7, h8, h9, h10⟩ := h
  have o : ∀ j, j ≠ b + 1 → upd f (b + 1) (nI v) j = f j := fun j hj => upd_ne _ _ hj
  exact ⟨by rw [o _ (by omega)]; exact h1, by rw [upd_self]; rfl, by rw [o _ (by omega)]; exact h3, mkAt_eq (eMks E) _ h4 (fun j j1 j2 => o j (by omega)), by rw [o _ (by omega)]; exact h5, by rw [o _ (by omega)]; exact h6, by rw [o _ (by omega)]; exact h7, by rw [o _ (by omega)]; exact h8, by rw [o _ (by omega)]; exact h9, fun hx => by rw [o _ (by omega)]; exact h10 hx⟩
theorem REh_on {f : Nat → Int32} {b : Nat} {v : Bool} {E : Ed} (h : REh f b E) (m4 : (eMks E).length ≤ 4) : REh (upd f (b + 15) (bI v)) b (sOn E v) := by
  obtain ⟨h1, h2, h3, h4, h5, h6, h7, h8, h9, h10⟩ := h
  have o : ∀ j, j ≠ b + 15 → upd f (b + 15) (bI v) j = f j := fun j hj => upd_ne _ _ hj
  exact ⟨by rw [o _ (by omega)]; exact h1, by rw [o _ (by omega)]; exact h2, by rw [o _ (by omega)]; exact h3, mkAt_eq (eMks E) _ h4 (fun j j1 j2 => o j (by omega)), by rw [upd_self]; rfl, by rw [o _ (by omega)]; exact h6, by rw [o _ (by omega)]; exact h7, by rw [o _ (by omega)]; exact h8, by rw [o _ (by omega)]; exact h9, fun hx => by rw [o _ (by omega)]; exact h10 hx⟩
theorem REh_del {f : Nat → Int32} {b v : Nat} {E : Ed} (h : REh f b E) (m4 : (eMks E).length ≤ 4) : REh (upd f (b + 16) (nI v)) b (sDel E v) := by
  obtain ⟨h1, h2, h3, h4, h5, h6, h7, h8, h9, h10⟩ := h
  have o : ∀ j, j ≠ b + 16 → upd f (b + 16) (nI v) j = f j := fun j hj => upd_ne _ _ hj
  exact ⟨by rw [o _ (by omega)]; exact h1, by rw [o _ (by omega)]; exact h2, by rw [o _ (by omega)]; exact h3, mkAt_eq (eMks E) _ h4 (fun j j1 j2 => o j (by omega)), by rw [o _ (by omega)]; exact h5, by rw [upd_self]; rfl, by rw [o _ (by omega)]; exact h7, by rw [o _ (by omega)]; exact h8, by rw [o _ (by omega)]; exact h9, fun hx => by rw [o _ (by omega)]; exact h10 hx⟩
/-- a good world stays good where cursor, marks, line or delay of an editor change -/
theorem Good_head {cnt ties tl e : Nat} {W : Wd} {E : Ed} (hg : Good cnt ties tl W) (he : e < cnt) (h1 : E = sDel (sOn (sMks (sCur (wE W e) (eCur E)) (eMks E)) (eOn E)) (eDel E)) (hd : eDel E ≤ 9) (hc : eCur E ≤ (eTxt (wE W e)).length) (hm : (eMks E).length ≤ 4) (hM : ∀ x ∈ eMks E, x.1 ≤ x.2.1 ∧ x.2.1 ≤ (eTxt (wE W e)).length ∧ x.2.2 ≤ 3) : Good cnt ties tl (setE W e E) := by
  obtain ⟨e1, e2, e3, e4, e5, e6, e7, e8, e9, e10, e11, e12, e13, e14, e15, e16, e17, e18, e19⟩ := hg.2.2.2.2.2.2.2.2 e he
  generalize eCur E = x1 at *
  generalize eMks E = x2 at *
  generalize eOn E = x3 at *
  generalize eDel E = x4 at *
  subst h1
  refine Good_set hg he rfl rfl ?_
  unfold EdOk
  rw [outs_set, setE_self]
  exact ⟨e1, hd, e3, e4, e5, e6, e7, e8, e9, e10, e11, e12, e13, e14, e15, e16, hc, hm, hM⟩
/-- what stands from the beginning on: ties, delays -/
def laidS (tw : Nat × Wd) (s : Sm) : Nat × Wd := if s.1 = 1 then (tw.1, setE tw.2 s.2.1.1 (sDel (wE tw.2 s.2.1.1) s.2.1.2.1)) else if s.1 = 2 then (s.2.1.1, tw.2) else tw
/-- what is done -/
def doneS (cnt ties : Nat) (W : Wd) (s : Sm) : Wd :=
  if s.1 = 3 then (if stpsN s.2.2 ≤ (eTxt (wE W s.2.1.1)).length ∧ canW W (opTo s.2.2 (eTxt (wE W s.2.1.1)).length) = true then editW W s.2.1.1 (editE (wE W s.2.1.1) (opTo s.2.2 (eTxt (wE W s.2.1.1)).length) 0) (opTo s.2.2 (eTxt (wE W s.2.1.1)).length) else W)
  else if s.1 = 4 then (if s.2.1.2.1 ≤ (eTxt (wE W s.2.1.1)).length then setE W s.2.1.1 (sCur (wE W s.2.1.1) s.2.1.2.1) else W)
  else if s.1 = 5 then (if (eMks (wE W s.2.1.1)).length < 4 ∧ s.2.1.2.1 ≤ s.2.1.2.2.1 ∧ s.2.1.2.2.1 ≤ (eTxt (wE W s.2.1.1)).length then setE W s.2.1.1 (addM (wE W s.2.1.1) s.2.1.2.1 s.2.1.2.2.1 s.2.1.2.2.2) else W)
  else if s.1 = 6 then setE W s.2.1.1 (sOn (wE W s.2.1.1) false)
  else if s.1 = 7 then setE W s.2.1.1 (sOn (wE W s.2.1.1) true)
  else if s.1 = 8 then (if wTk W + s.2.1.1 ≤ 999 then itT ties cnt s.2.1.1 W else W)
  else W
theorem skip_loop {T : List Int32} {c1 : Int32} {c : Nat} (hc : byteAt T c = 59) : ∀ (n : Nat) (q : Pz) (M : MS), RQ M T q → pAt q ≤ c → ns T (pAt q) c → c - pAt q < n → ∃ M', L12_goesOver_38 c1 n M = some M' ∧ RQ M' T (c, q.2) ∧ Frm [] [2, 4, 5, 6] M M' := by
  intro n
  induction n with
  | zero => intro q M h h1 h2 hn; omega
  | succ n ih =>
    intro q M h h1 h2 hn
    have hcl : c < T.length := by
      by_cases hl : c < T.length
      · exact hl
      · unfold byteAt at hc; rw [if_neg hl] at hc; exact absurd hc (by decide)
    have hle : lkP T (pAt q) ≤ c := by
      by_cases hx : c < lkP T (pAt q)
      · exfalso
        have h3 : c - pAt q < skL (T.drop (pAt q)) := by unfold lkP at hx; omega
        have h4 := skL_le (T.drop (pAt q))
        have := byte_drop (T := T) (i := pAt q) (y := c - pAt q) (by omega)
        rw [show pAt q + (c - pAt q) = c by omega, hc] at this
        rcases skL_get _ _ h3 with h | h <;> rw [← this] at h <;> exact absurd h (by decide)
      · omega
    obtain ⟨M2, l1, l2, l3⟩ := RQ_look h
    unfold L12_goesOver_38
    rw [l1, bn2_s]
    by_cases he : lkP T (pAt q) = c
    · rw [he, if_pos hc]
      rw [he] at l2
      exact ⟨M2, rfl, l2, l3⟩
    · have hq := lk_ge T (pAt q)
      rw [if_neg (h2 _ hq (by omega)), show gF M2 2 = _ from l2.1.2.2.1, nI_1]
      have hr : RQ (sF M2 2 (nI (lkP T (pAt q) + 1))) T (lkP T (pAt q) + 1, q.2) := by
        refine ⟨RP_at (p := (lkP T (pAt q), q.2)) (i := lkP T (pAt q) + 1) l2.1 (by omega), l2.2.1, ?_⟩
        exact RKw_frm l2.2.2 (Frm_sF (k := 2) (Fs := [2]) (by decide))
      obtain ⟨M', i1, i2, i3⟩ := ih (lkP T (pAt q) + 1, q.2) _ hr (show lkP T (pAt q) + 1 ≤ c by omega) (fun x x1 x2 => h2 x (by have : lkP T (pAt q) + 1 ≤ x := x1; omega) x2) (show c - (lkP T (pAt q) + 1) < n by omega)
      exact ⟨M', i1, i2, Frm_trans l3 (Frm_trans (Frm_sF (by decide)) i3)⟩
theorem FN_of {M M' : MS} (h : Frm [] [2, 4, 5, 6] M M') : FN [] [2, 4, 5, 6] (fun _ => False) M M' := FN_Frm h List.not_mem_nil (fun _ h => h) (fun _ h => h)
/-- a world as it lies does not change by reading -/
theorem RW_read {M M' : MS} {cnt ties : Nat} {W : Wd} (h : RW M cnt ties W) (hf : Frm [] [2, 4, 5, 6] M M') : RW M' cnt ties W := by
  have a : ∀ k, M'.2.1 k = M.2.1 k := fun k => hf.1 k List.not_mem_nil
  obtain ⟨w1, w2, w3, w4, w5, w6, w7, w8⟩ := h
  refine ⟨by rw [hf.2.1 32 (by decide)]; exact w1, by rw [hf.2.1 33 (by decide)]; exact w2, by rw [a]; exact w3, by rw [a]; exact w4, by rw [a]; exact w5, by rw [a]; exact w6, ?_, fun i hi => by rw [a]; exact w8 i hi⟩
  intro i o ho
  rw [a, a, a, a, a]
  exact w7 i o ho
