/-! ===== PART II, the reference: the server takes, whole ===== -/
theorem sentTurned_ok {M : MS} {e cnt ties : Nat} {W : Wd} (h : RW M cnt ties W) (he : e < cnt) (hcnt : cnt ≤ 4) (ht2 : ties < 1000) (hb : Bd (wE W e)) (hl : (eLft (wE W e)).isSome = true) (hs : (eSnt (wE W e)).2 ≤ (wRow W).length) (hk : (wRow W).length ≤ 100) (hsum : sumMk (wRow W) ≤ 3000) (hf : fOk ties e ((wRow W).drop (eSnt (wE W e)).2) (eSnt (wE W e)).1) :
    ∃ M', f12_sentTurned M (nI e) = some M' ∧ Row M' 20 25 (tkOp ties e W) ∧ Frm [20, 21, 22, 23, 24] [25, 26, 27, 28] M M' := by
  obtain ⟨w1, w2, w3, w4, w5, w6, w7, w8⟩ := h
  obtain ⟨h1, h2, h3, h4, h5⟩ := w8 e he
  have hm := hb.2.2.2.2.2.1 hl
  obtain ⟨z1, z2⟩ := fOk_hd hf
  obtain ⟨M2, a1, a2, a3⟩ := keptToA_ok (h3.2.1 hl) z1 z2 (by omega)
  obtain ⟨M', g1, g2, g3⟩ := sent_loop (e := e) (ties := ties) (N := (wRow W).length) (by omega) ht2 (by omega) ((wRow W).drop (eSnt (wE W e)).2) FU (eSnt (wE W e)).2 (eSnt (wE W e)).1 M2 (by rw [List.length_drop]; omega) (by rw [a3.1 30 (by decide)]; exact w4) (by rw [a3.2.1 33 (by decide)]; exact w2) (fun k o ho => by
    rw [List.getElem?_drop] at ho
    have := RRow_op w7 hsum ho
    unfold OpAt at this ⊢
    rw [a3.1 36 (by decide), a3.1 37 (by decide), a3.1 38 (by decide), a3.1 39 (by decide), a3.1 40 (by decide)]
    exact this) hf a2 (by rw [List.length_drop, FU_eq]; omega)
  refine ⟨M', ?_, g2, Frm_trans (Frm_mono a3 (by simp) (by simp)) g3⟩
  unfold f12_sentTurned
  rw [show (706 : Int32) = nI 706 from rfl, of_ok, Option.bind_some, a1, Option.bind_some, show (20 : Int32) = nI 20 from rfl, its_ok (by omega), a3.1 30 (by decide), h1.2.2.2.2.2.2.2.2.2 hl, Option.bind_some, g1, Option.bind_some]
theorem getElem?_snoc {α : Type} {l : List α} {x : α} {i : Nat} {o : α} (h : (l ++ [x])[i]? = some o) : (i < l.length ∧ l[i]? = some o) ∨ (i = l.length ∧ o = x) := by
  by_cases hi : i < l.length
  · rw [List.getElem?_append_left hi] at h; exact Or.inl ⟨hi, h⟩
  · rw [List.getElem?_append_right (by omega)] at h
    by_cases h0 : i - l.length = 0
    · rw [h0] at h
      exact Or.inr ⟨by omega, by simpa using h.symm⟩
    · rw [List.getElem?_eq_none (by simp; omega)] at h
      cases h
theorem serverTakes_ok {M : MS} {e cnt ties : Nat} {W : Wd} (h : RW M cnt ties W) (he : e < cnt) (hcnt : cnt ≤ 4) (ht2 : ties < 1000) (hb : ∀ i, i < cnt → Bd (wE W i)) (hl : (eLft (wE W e)).isSome = true) (hs : (eSnt (wE W e)).2 ≤ (wRow W).length) (hk : (wRow W).length < 100) (hsum : sumMk (wRow W) + (gatherL (tkOp ties e W) 0).length ≤ 3000) (hf : fOk ties e ((wRow W).drop (eSnt (wE W e)).2) (eSnt (wE W e)).1) :
    ∃ M', f12_serverTakes M (nI e) = some M' ∧ RW M' cnt ties (takeW ties cnt e W) ∧ FN [20, 21, 22, 23, 24, 36, 37, 38, 39, 40] [25, 26, 27, 28] (fun _ => True) M M' := by
  obtain ⟨M1, a1, a2, a3⟩ := sentTurned_ok h he hcnt ht2 (hb e he) hl hs (by omega) (by omega) hf
  obtain ⟨z1, z2⟩ := fOk_end _ _ hf
  obtain ⟨w1, w2, w3, w4, w5, w6, w7, w8⟩ := h
  generalize hC : tkOp ties e W = C at *
  have z1' : okO C := by rw [← hC]; exact z1
  have z2' : C.length ≤ 700 := by rw [← hC]; exact z2
  generalize hkk : (wRow W).length = k at *
  have n1 : M1.2.1 30 = M.2.1 30 := a3.1 30 (by decide)
  -- the arrays of the row
  generalize hM5 : sR (sR M1 36 (upd (M1.2.1 36) k (nI e))) 37 (upd (M1.2.1 37) k (nI (oldL C))) = M5
  generalize hM10 : sR M5 38 (upd (M5.2.1 38) k (nI (sumMk (wRow W)))) = M10
  have r10 : Row M10 20 25 C := by
    subst hM10 hM5
    unfold Row
    rw [sR_ne _ _ (by decide), sR_ne _ _ (by decide), sR_ne _ _ (by decide)]
    exact a2
  have g := gathers_ok (M := M10) (a1 := 20) (a3 := 40) (first := sumMk (wRow W)) (by decide) z1' r10.2 (show C.length ≤ 700 from z2') (by omega) (show _ ≤ 3000 from hsum)
  generalize hM13 : sR M10 40 (wr (M10.2.1 40) (sumMk (wRow W)) (gatherL C 0)) = M13 at g
  generalize hM14 : sR M13 39 (upd (M13.2.1 39) k (nI (gatherL C 0).length)) = M14
  have q36 : M14.2.1 36 = upd (M.2.1 36) k (nI e) := by
    subst hM14 hM13 hM10 hM5
    rw [sR_ne _ _ (by decide), sR_ne _ _ (by decide), sR_ne _ _ (by decide), sR_ne _ _ (by decide), sR_get, a3.1 36 (by decide)]
  have q37 : M14.2.1 37 = upd (M.2.1 37) k (nI (oldL C)) := by
    subst hM14 hM13 hM10 hM5
    rw [sR_ne _ _ (by decide), sR_ne _ _ (by decide), sR_ne _ _ (by decide), sR_get, a3.1 37 (by decide)]
  have q38 : M14.2.1 38 = upd (M.2.1 38) k (nI (sumMk (wRow W))) := by
    subst hM14 hM13 hM10 hM5
    rw [sR_ne _ _ (by decide), sR_ne _ _ (by decide), sR_get, sR_ne _ _ (by decide), sR_ne _ _ (by decide), a3.1 38 (by decide)]
  have q39 : M14.2.1 39 = upd (M.2.1 39) k (nI (gatherL C 0).length) := by
    subst hM14 hM13 hM10 hM5
    rw [sR_get, sR_ne _ _ (by decide), sR_ne _ _ (by decide), sR_ne _ _ (by decide), sR_ne _ _ (by decide), a3.1 39 (by decide)]
  have q40 : M14.2.1 40 = wr (M.2.1 40) (sumMk (wRow W)) (gatherL C 0) := by
    subst hM14 hM13 hM10 hM5
    rw [sR_ne _ _ (by decide), sR_get, sR_ne _ _ (by decide), sR_ne _ _ (by decide), sR_ne _ _ (by decide), a3.1 40 (by decide)]
  have q30 : M14.2.1 30 = M.2.1 30 := by
    subst hM14 hM13 hM10 hM5
    rw [sR_ne _ _ (by decide), sR_ne _ _ (by decide), sR_ne _ _ (by decide), sR_ne _ _ (by decide), sR_ne _ _ (by decide), n1]
  have f14 : FN [20, 21, 22, 23, 24, 36, 37, 38, 39, 40] [25, 26, 27, 28] (fun _ => True) M M14 := by
    refine FN_trans (FN_Frm a3 (by decide) (by simp) (by simp)) ?_
    subst hM14 hM13 hM10 hM5
    exact FN_Frm (As := [36, 37, 38, 39, 40]) (Fs := []) (Frm_trans (Frm_sR (by decide)) (Frm_trans (Frm_sR (by decide)) (Frm_trans (Frm_sR (by decide)) (Frm_trans (Frm_sR (by decide)) (Frm_sR (by decide)))))) (by decide) (by simp) (by simp)
  obtain ⟨f', l1, l2, l3⟩ := lays_loop (cnt := cnt) (k := k) hcnt hk cnt FU 0 (sR M14 30 (upd (upd (M.2.1 30) 1 (nI (k + 1))) (4 + 2618 * e + 19) (-1))) (by omega) (by rw [sR_F, f14.2.1 32 (by decide)]; exact w1) (by rw [FU_eq]; omega)
  rw [sR_get] at l2 l3
  rw [sR_sR] at l1
  have o' : ∀ j, j ≠ 1 → j ≠ 4 + 2618 * e + 19 → (∀ x, x < cnt → j ≠ 4 + 2618 * x + 2518 + k) → f' j = M.2.1 30 j := fun j j1 j2 j3 => by rw [l2 j (fun x _ h2 => j3 x h2), upd_ne _ _ j2, upd_ne _ _ j1]
  refine ⟨sR M14 30 f', ?_, ?_, FN_trans f14 (FN_now (fun j hj => absurd trivial hj))⟩
  · unfold f12_serverTakes
    rw [a1, Option.bind_some, show ld M1 30 (1 : Int32) = some (nI k) from by rw [show (1 : Int32) = nI 1 from rfl, ld_n (show 1 < 10476 by omega), n1, w4], Option.bind_some, sd_n (show k < 108 by omega), Option.bind_some]
    have e1 : f12_oldOf (sR M1 36 (upd (M1.2.1 36) k (nI e))) 20 (gF (sR M1 36 (upd (M1.2.1 36) k (nI e))) 25) = some (nI (oldL C)) := by
      rw [show gF (sR M1 36 (upd (M1.2.1 36) k (nI e))) 25 = nI C.length from a2.1]
      exact oldOf_ok (by rw [sR_ne _ _ (by decide)]; exact a2.2) (show C.length ≤ 700 from z2') (by omega)
    rw [e1, Option.bind_some, sd_n (show k < 108 by omega), sR_ne _ _ (by decide), hM5, Option.bind_some]
    have e2 : (if nI k = (0 : Int32) then some (0 : Int32) else (ld M5 38 (nI k - 1)).bind fun v8 => (ld M5 39 (nI k - 1)).bind fun v9 => some (v8 + v9)) = some (nI (sumMk (wRow W))) := by
      by_cases hk0 : k = 0
      · have : wRow W = [] := List.length_eq_zero_iff.mp (by rw [hkk]; exact hk0)
        rw [if_pos (by rw [hk0]; rfl), this]; rfl
      · rw [if_neg (nI_ne0 (by omega) (by omega))]
        obtain ⟨m, rfl⟩ : ∃ m, k = m + 1 := ⟨k - 1, by omega⟩
        have hm : m < (wRow W).length := by omega
        obtain ⟨y1, y2, y3, y4, y5⟩ := w7 m (wRow W)[m] (List.getElem?_eq_getElem hm)
        have p38 : M5.2.1 38 = M.2.1 38 := by subst hM5; rw [sR_ne _ _ (by decide), sR_ne _ _ (by decide), a3.1 38 (by decide)]
        have p39 : M5.2.1 39 = M.2.1 39 := by subst hM5; rw [sR_ne _ _ (by decide), sR_ne _ _ (by decide), a3.1 39 (by decide)]
        rw [nI_pred, ld_n (show m < 108 by omega), Option.bind_some, ld_n (show m < 108 by omega), Option.bind_some, p38, p39, y4, y3, nI_add]
        have hsp : wRow W = (wRow W).take m ++ [(wRow W)[m]] := by
          rw [List.take_append_getElem hm, ← hkk, List.take_length]
        conv => rhs; rw [hsp, sumMk_app]
        simp only [sumMk, Nat.add_zero]
    rw [e2, Option.bind_some, sd_n (show k < 108 by omega), hM10, Option.bind_some, ld_n (show k < 108 by omega)]
    have e3 : M10.2.1 38 k = nI (sumMk (wRow W)) := by subst hM10; rw [sR_get, upd_self]
    rw [e3, Option.bind_some, show gF M10 25 = nI C.length from r10.1, g, bn2_s, sd_n (show k < 108 by omega), hM14, Option.bind_some, show (1 : Int32) = nI 1 from rfl, ld_n (show 1 < 10476 by omega), q30, w4, Option.bind_some, nI_add, sd_n (show 1 < 10476 by omega), q30, Option.bind_some, show (19 : Int32) = nI 19 from rfl, of_ok, Option.bind_some, sd_n (show 4 + 2618 * e + 19 < 10476 by omega), sR_get, sR_sR, Option.bind_some, show -nI 1 = (-1 : Int32) from rfl, show L12_serverTakes_118 (nI k) FU (0 : Int32) (sR M14 30 (upd (upd (M.2.1 30) 1 (nI (k + 1))) (4 + 2618 * e + 19) (-1))) = _ from l1, Option.bind_some]
  · have hlen : (wRow (takeW ties cnt e W)).length = k + 1 := by
      show (wRow W ++ [(e, tkOp ties e W)]).length = _
      rw [List.length_append, hkk]; rfl
    refine ⟨?_, ?_, ?_, ?_, ?_, ?_, ?_, ?_⟩
    · rw [sR_F, f14.2.1 32 (by decide)]; exact w1
    · rw [sR_F, f14.2.1 33 (by decide)]; exact w2
    · rw [sR_get, o' 0 (by omega) (by omega) (fun x hx => by omega)]; exact w3
    · rw [sR_get, l2 1 (fun x _ h2 => by omega), upd_ne _ _ (by omega), upd_self, hlen]
    · rw [sR_get, o' 2 (by omega) (by omega) (fun x hx => by omega)]; exact w5
    · rw [sR_get, o' 3 (by omega) (by omega) (fun x hx => by omega)]; exact w6
    · intro i o ho
      rw [sR_ne _ _ (by decide), sR_ne _ _ (by decide), sR_ne _ _ (by decide), sR_ne _ _ (by decide), sR_ne _ _ (by decide), q36, q37, q38, q39, q40]
      have ho' : (wRow W ++ [(e, tkOp ties e W)])[i]? = some o := ho
      rcases getElem?_snoc ho' with ⟨hi, h1⟩ | ⟨hi, h1⟩
      · obtain ⟨y1, y2, y3, y4, y5⟩ := w7 i o h1
        have ht : (wRow (takeW ties cnt e W)).take i = (wRow W).take i := by
          show (wRow W ++ [(e, tkOp ties e W)]).take i = _
          rw [List.take_append_of_le_length (by omega)]
        have hsm := sumMk_take h1
        rw [ht, upd_ne _ _ (by omega), upd_ne _ _ (by omega), upd_ne _ _ (by omega), upd_ne _ _ (by omega)]
        exact ⟨y1, y2, y3, y4, seg_wr_out y5 (Or.inl (by omega))⟩
      · subst h1
        rw [hkk] at hi
        subst hi
        have ht : (wRow (takeW ties cnt e W)).take i = wRow W := by
          show (wRow W ++ [(e, tkOp ties e W)]).take i = _
          rw [List.take_append_of_le_length (by omega), ← hkk, List.take_length]
        rw [ht, upd_self, upd_self, upd_self, upd_self, hC]
        exact ⟨rfl, rfl, rfl, rfl, seg_wr⟩
    · intro i hi
      rw [hlen, sR_get]
      have hE : wE (takeW ties cnt e W) i = tkE W e i := by
        show (if i < cnt then tkE W e i else wE W i) = _
        rw [if_pos hi]
      rw [hE]
      have hbi := hb i hi
      have t4 := hbi.1
      obtain ⟨h1, h2, h3, h4, h5⟩ := w8 i hi
      have ob : ∀ j, 4 + 2618 * i ≤ j → j < 4 + 2618 * i + 2518 → (i = e → j ≠ 4 + 2618 * e + 19) → f' j = M.2.1 30 j := fun j j1 j2 j3 => o' j (by omega) (fun hj => by
        by_cases hie : i = e
        · exact j3 hie hj
        · omega) (fun x hx => by omega)
      have hc : REc f' (4 + 2618 * i) (k + 1) (tkE W e i) := by
        intro m hm
        show f' (4 + 2618 * i + 2518 + m) = nI (if m = (wRow W).length then eDel (wE W i) else eCom (wE W i) m)
        by_cases hmk : m = k
        · rw [if_pos (by omega), hmk, l3 i (by omega) hi, upd_ne _ _ (by omega), upd_ne _ _ (by omega)]
          exact h1.2.2.2.2.2.1
        · rw [if_neg (by omega), o' _ (by omega) (by omega) (fun x hx => by omega)]
          exact h5 m (by omega)
      by_cases hie : i = e
      · subst hie
        have eT : tkE W i i = sCom (sLft (wE W i) none) (fun k => if k = (wRow W).length then eDel (wE W i) else eCom (wE W i) k) := by unfold tkE; rw [if_pos rfl]
        rw [eT] at hc ⊢
        obtain ⟨k1, k2, k3, k4, k5, k6, k7, k8, k9, k10⟩ := h1
        have mk4 := hbi.2.1
        refine ⟨⟨?_, ?_, ?_, mkAt_eq (eMks (wE W i)) _ k4 (fun j j1 j2 => ob j (by omega) (by omega) (fun _ => by omega)), ?_, ?_, ?_, ?_, ?_, fun hh => ?_⟩, REt_eq (E := wE W i) h2 (fun j hj => ob j (by omega) (by omega) (fun _ => by omega)), ⟨fun p hp => ?_, fun hh => ?_, fun p hp => ?_, StA_eq h3.2.2.2.1 (fun j j1 j2 => ob j (by omega) (by omega) (fun _ => by omega)), StA_eq h3.2.2.2.2 (fun j j1 j2 => ob j (by omega) (by omega) (fun _ => by omega))⟩, REs_eq (E := wE W i) h4 hbi (fun j hj => ob j (by omega) (by omega) (fun _ => by omega)), hc⟩
        · rw [ob _ (by omega) (by omega) (fun _ => by omega)]; exact k1
        · rw [ob _ (by omega) (by omega) (fun _ => by omega)]; exact k2
        · rw [ob _ (by omega) (by omega) (fun _ => by omega)]; exact k3
        · rw [ob _ (by omega) (by omega) (fun _ => by omega)]; exact k5
        · rw [ob _ (by omega) (by omega) (fun _ => by omega)]; exact k6
        · rw [ob _ (by omega) (by omega) (fun _ => by omega)]; exact k7
        · rw [ob _ (by omega) (by omega) (fun _ => by omega)]; exact k8
        · rw [l2 _ (fun x _ h2 => by omega), upd_self]; rfl
        · exact absurd hh (by simp [sCom, sLft, eLft])
        · have := hbi.2.2.2.2.1 p hp
          exact KeptAt_eq (h3.1 p hp) (fun j j1 j2 => ob j (by omega) (by omega) (fun _ => by omega))
        · exact absurd hh (by simp [sCom, sLft, eLft])
        · have := hbi.2.2.2.2.2.2.1 p hp
          exact KeptAt_eq (h3.2.2.1 p hp) (fun j j1 j2 => ob j (by omega) (by omega) (fun _ => by omega))
      · have eT : tkE W e i = sCom (wE W i) (fun k => if k = (wRow W).length then eDel (wE W i) else eCom (wE W i) k) := by unfold tkE; rw [if_neg hie]
        rw [eT] at hc ⊢
        exact ⟨REh_eq (E := wE W i) h1 hbi.2.1 (fun j j1 j2 => ob j (by omega) (by omega) (fun h => absurd h hie)), REt_eq (E := wE W i) h2 (fun j hj => ob j (by omega) (by omega) (fun h => absurd h hie)), REo_eq (E := wE W i) h3 hbi (fun j j1 j2 => ob j (by omega) (by omega) (fun h => absurd h hie)), REs_eq (E := wE W i) h4 hbi (fun j hj => ob j (by omega) (by omega) (fun h => absurd h hie)), hc⟩
