/-! ===== PART II, the reference: a session, an edit of the tape ===== -/
def sFa (A : St) (p : Pz) : St := (([], nI (pBd p), oI (pBp p), aRf A), A.2)
theorem RS_head {M M' : MS} {A : St} {fk fp : Int32} (h : RS M A) (ha : ∀ k, M'.2.1 k = M.2.1 k) (hf : ∀ k, ¬ scrF k → k ≠ 1 → k ≠ 7 → k ≠ 8 → M'.1 k = M.1 k) (hl : M'.2.2 = M.2.2) (h1 : M'.1 1 = 0) (h7 : M'.1 7 = fk) (h8 : M'.1 8 = fp) : RS M' (([], fk, fp, aRf A), A.2) := by
  obtain ⟨g1, g2, g3, g4, g5, g6, g7, g8, g9, g10, g11, g12, g13⟩ := h
  have f : ∀ k, (k = 31 ∨ k = 32 ∨ k = 33 ∨ k = 34 ∨ k = 56 ∨ k = 61 ∨ k = 62) → M'.1 k = M.1 k := fun k hk => hf k (fun hs => by unfold scrF at hs; omega) (by omega) (by omega) (by omega)
  refine ⟨h1, fun k hk => absurd hk (Nat.not_lt_zero _), h7, h8, fun k hk => by rw [ha]; exact g5 k hk, by rw [f 31 (by omega)]; exact g6, ?_, ?_, ?_, by rw [f 56 (by omega)]; exact g10, by rw [ha]; exact g11, by rw [hl]; exact g12, ?_⟩
  · unfold RT; rw [f 34 (by omega), ha]; exact g7
  · exact RW_same g8 (fun k _ => ha k) (f 32 (by omega)) (f 33 (by omega))
  · unfold RH; rw [f 61 (by omega), f 62 (by omega), ha]; exact g9
  · unfold RKw
    rw [ha, ha, ha, ha, ha, ha, ha, ha, ha, ha]
    exact g13
theorem begins_ok {M : MS} {A : St} (h : RS M A) (hg : GA A) : ∃ M', f12_begins M = some M' ∧ RQ M' (aTape A) rd0 ∧ M'.1 1 = 0 ∧ Frm [] [1, 2, 3, 4, 5, 6] M M' := by
  refine ⟨sF (sF (sF (sF (sF (sF M 3 (gF M 1)) 1 0) 5 0) 6 (-1)) 2 0) 4 (-1), rfl, ⟨⟨?_, h.2.1, ?_, ?_, ?_, ?_, hg.1, Nat.zero_le _, Nat.zero_le _⟩, fun x hx => (by cases hx), h.2.2.2.2.2.2.2.2.2.2.2.2⟩, ?_, ?_⟩
  · rw [sF_ne _ _ (by decide), sF_ne _ _ (by decide), sF_ne _ _ (by decide), sF_ne _ _ (by decide), sF_ne _ _ (by decide), sF_get]; exact h.1
  · rw [sF_ne _ _ (by decide), sF_get]; rfl
  · rw [sF_get]; rfl
  · rw [sF_ne _ _ (by decide), sF_ne _ _ (by decide), sF_ne _ _ (by decide), sF_get]; rfl
  · rw [sF_ne _ _ (by decide), sF_ne _ _ (by decide), sF_get]; rfl
  · rw [sF_ne _ _ (by decide), sF_ne _ _ (by decide), sF_ne _ _ (by decide), sF_ne _ _ (by decide), sF_get]
  · exact Frm_trans (Frm_sF (by decide)) (Frm_trans (Frm_sF (by decide)) (Frm_trans (Frm_sF (by decide)) (Frm_trans (Frm_sF (by decide)) (Frm_trans (Frm_sF (by decide)) (Frm_sF (by decide))))))
theorem goes_to {M : MS} {T : List Int32} {q : Pz} (h : RQ M T q) (hq : q.2.2 = (0, none)) : ∃ M', f12_goesTo M 0 = some M' ∧ RQ M' T rd0 ∧ Frm [] [2, 4, 5, 6, 43, 44, 45] M M' := by
  obtain ⟨⟨h1, h2, h3, h4, h5, h6, h7, h8, h9⟩, h10, h11⟩ := h
  have e5 : pBd q = 0 := by show q.2.2.1 = 0; rw [hq]
  have e6 : pBp q = none := by show q.2.2.2 = none; rw [hq]
  refine ⟨sF (sF M 2 0) 4 (-1), rfl, ⟨⟨?_, h2, ?_, ?_, ?_, ?_, h7, Nat.zero_le _, Nat.zero_le _⟩, fun x hx => (by cases hx), h11⟩, Frm_trans (Frm_sF (by decide)) (Frm_sF (by decide))⟩
  · rw [sF_ne _ _ (by decide), sF_ne _ _ (by decide)]; exact h1
  · rw [sF_ne _ _ (by decide), sF_get]; rfl
  · rw [sF_get]; rfl
  · rw [sF_ne _ _ (by decide), sF_ne _ _ (by decide), h5, e5]
  · rw [sF_ne _ _ (by decide), sF_ne _ _ (by decide), h6, e6]
theorem goes_head {M : MS} {T : List Int32} {q : Pz} (h : RQ M T q) (hq : q.2.2 = (0, none)) : ∃ M1 M2 M3, f12_goesTo M 0 = some M1 ∧ f12_headTold M1 = some M2 ∧ f12_asksSign M2 59 = some M3 ∧ RQ M3 T (pS1 T) ∧ M3.1 43 = nI (cntT T) ∧ Frm [] [2, 4, 5, 6, 43, 44, 45] M M3 := by
  obtain ⟨M1, a1, a2, a3⟩ := goes_to h hq
  obtain ⟨M2, b1, b2, b3, b4, b5, b6⟩ := headTold_ok a2
  obtain ⟨M3, c1, c2, c3⟩ := RQ_askS (c := 59) b2 (by decide)
  exact ⟨M1, M2, M3, a1, b1, c1, c2, by rw [c3.2.1 43 (by decide)]; exact b5, Frm_trans a3 (Frm_trans b6 (Frm_mono c3 (by simp) (by simp)))⟩
/-- a session stands: how all is then -/
def newSt (A : St) (T : List Int32) (R : List Sm) : St := (([], 0, -1, aRf A), (cntT T, (R.foldl laidS (0, W0t (toldT T))).1, toldT T), R.foldl (doneS (cntT T) (R.foldl laidS (0, W0t (toldT T))).1) (R.foldl laidS (0, W0t (toldT T))).2, [], [], aSeed A)
theorem W0t_Fr (cnt : Nat) (told : List Int32) : FrW cnt told (W0t told) := ⟨rfl, rfl, fun i hi => ⟨by show 1 ≤ 9; decide, rfl⟩⟩
/-- the tale's beginning is laid -/
theorem stands_lay {M : MS} {T : List Int32} {q : Pz} (h : RQ M T q) (hS : pBd (pS1 T) = 0) (h43 : M.1 43 = nI (cntT T)) (h44 : M.1 44 = nI (pHead T rd0).1.1) (h45 : M.1 45 = nI (pHead T rd0).1.2.1) :
    ∃ M', RQ M' T q ∧ RW M' (cntT T) 0 (W0t (toldT T)) ∧ RT M' (toldT T) ∧ M'.1 31 = 1 ∧ FN [35] [31, 32, 33, 34] (fun _ => True) M M' ∧
      (∀ K : MS → Option MS, (((L12_stands_33 FU 0 (sF (sF (sF (sF M 31 1) 32 (gF (sF M 31 1) 43)) 33 0) 34 ((gF (sF (sF (sF M 31 1) 32 (gF (sF M 31 1) 43)) 33 0) 45) - (gF (sF (sF (sF M 31 1) 32 (gF (sF M 31 1) 43)) 33 0) 44)))).bind fun M1 => (L12_stands_71 FU 0 M1).bind fun M3 => (L12_stands_93 FU 0 M3).bind K) = K M')) := by
  obtain ⟨c2, c4, -, l40, l1, ok, sum, hin⟩ := head_good hS
  have hT := h.1.2.2.2.2.2.2.1
  have hto : (pHead T rd0).1.2.1 ≤ T.length := by rcases hin with hh | hh <;> omega
  generalize hc : cntT T = cnt at *
  have hX : sF (sF (sF (sF M 31 1) 32 (gF (sF M 31 1) 43)) 33 0) 34 ((gF (sF (sF (sF M 31 1) 32 (gF (sF M 31 1) 43)) 33 0) 45) - (gF (sF (sF (sF M 31 1) 32 (gF (sF M 31 1) 43)) 33 0) 44)) = sF (sF (sF (sF M 31 1) 32 (nI cnt)) 33 0) 34 (nI (toldT T).length) := by
    have e1 : gF (sF M 31 1) 43 = nI cnt := by show (sF M 31 1).1 43 = _; rw [sF_ne _ _ (by decide)]; exact h43
    rw [e1]
    have e2 : gF (sF (sF (sF M 31 1) 32 (nI cnt)) 33 0) 45 = nI (pHead T rd0).1.2.1 := by show (sF (sF (sF M 31 1) 32 (nI cnt)) 33 0).1 45 = _; rw [sF_ne _ _ (by decide), sF_ne _ _ (by decide), sF_ne _ _ (by decide)]; exact h45
    have e3 : gF (sF (sF (sF M 31 1) 32 (nI cnt)) 33 0) 44 = nI (pHead T rd0).1.1 := by show (sF (sF (sF M 31 1) 32 (nI cnt)) 33 0).1 44 = _; rw [sF_ne _ _ (by decide), sF_ne _ _ (by decide), sF_ne _ _ (by decide)]; exact h44
    rw [e2, e3, nI_sub (by omega), show (pHead T rd0).1.2.1 - (pHead T rd0).1.1 = (toldT T).length by omega]
  rw [hX]
  generalize hY : sF (sF (sF (sF M 31 1) 32 (nI cnt)) 33 0) 34 (nI (toldT T).length) = Y
  have y31 : Y.1 31 = 1 := by rw [← hY, sF_ne _ _ (by decide), sF_ne _ _ (by decide), sF_ne _ _ (by decide), sF_get]
  have y32 : Y.1 32 = nI cnt := by rw [← hY, sF_ne _ _ (by decide), sF_ne _ _ (by decide), sF_get]
  have y33 : Y.1 33 = 0 := by rw [← hY, sF_ne _ _ (by decide), sF_get]
  have y34 : Y.1 34 = nI (toldT T).length := by rw [← hY, sF_get]
  have yF : ∀ k, k ≠ 31 → k ≠ 32 → k ≠ 33 → k ≠ 34 → Y.1 k = M.1 k := fun k k1 k2 k3 k4 => by rw [← hY, sF_ne _ _ k4, sF_ne _ _ k3, sF_ne _ _ k2, sF_ne _ _ k1]
  have yA : ∀ k, Y.2.1 k = M.2.1 k := fun k => by rw [← hY]; rfl
  have yL : Y.2.2 = M.2.2 := by rw [← hY]; rfl
  have t1 : L12_stands_33 FU (0 : Int32) Y = some (sR Y 35 (wr (Y.2.1 35) 0 (toldT T))) := by
    have := fill_loop (L := L12_stands_33) (k := 35) (a := 0) (l := toldT T) (P := fun X => X.1 34 = nI (toldT T).length ∧ X.1 44 = nI (pHead T rd0).1.1 ∧ X.2.1 0 = M.2.1 0) (fun X g hX => ⟨hX.1, hX.2.1, by rw [sR_ne _ _ (by decide)]; exact hX.2.2⟩) (fun n j X hX hj => by
      conv => lhs; unfold L12_stands_33
      have h0 := h.1.2.1 ((pHead T rd0).1.1 + j) (by omega)
      rw [Nat.zero_add] at h0
      have hv : (toldT T).getD j 0 = T.getD ((pHead T rd0).1.1 + j) 0 - 97 + 1 := by
        unfold toldT ltrs
        rw [List.getD_eq_getElem?_getD, List.getElem?_map, List.getElem?_take_of_lt (by omega), List.getElem?_drop, List.getElem?_eq_getElem (by omega), List.getD_eq_getElem?_getD, List.getElem?_eq_getElem (by omega)]
        rfl
      rw [show gF X 34 = _ from hX.1, if_neg (nI_ge hj (by omega)), show gF X 44 = _ from hX.2.1, nI_add, ld_n (show (pHead T rd0).1.1 + j < 1600 by omega), hX.2.2, h0, Option.bind_some, nI_1, Nat.zero_add, hv]) (fun n X hX => by
      unfold L12_stands_33
      rw [show gF X 34 = _ from hX.1, if_pos (nI_le (Nat.le_refl _) (by omega))]) (by show _ ≤ 40; omega) (toldT T).length FU 0 Y (Y.2.1 35) (by omega) ⟨y34, by rw [yF 44 (by omega) (by omega) (by omega) (by omega)]; exact h44, yA 0⟩ (by rw [FU_eq]; omega)
    rw [List.take_zero, wr_nil, sR_self] at this
    exact this
  generalize hZ : sR Y 35 (wr (Y.2.1 35) 0 (toldT T)) = Z at *
  have zF : ∀ k, Z.1 k = Y.1 k := fun k => by rw [← hZ]; rfl
  have zA : ∀ k, k ≠ 35 → Z.2.1 k = M.2.1 k := fun k hk => by rw [← hZ, sR_ne _ _ hk, yA]
  have z35 : seg (Z.2.1 35) 0 (toldT T) := by rw [← hZ, sR_get]; exact fun k hk => wr_in hk
  have zL : Z.2.2 = M.2.2 := by rw [← hZ]; exact yL
  have t2 : L12_stands_71 FU (0 : Int32) Z = some (sR Z 30 (wr (Z.2.1 30) 0 (List.replicate 10476 0))) := by
    have := fill_loop (L := L12_stands_71) (k := 30) (a := 0) (l := List.replicate 10476 0) (P := fun _ => True) (fun X g hX => trivial) (fun n j X hX hj => by
      rw [List.length_replicate] at hj
      conv => lhs; unfold L12_stands_71
      rw [show (10476 : Int32) = nI 10476 from rfl, if_neg (nI_ge hj (by omega)), nI_1, Nat.zero_add, show (List.replicate 10476 (0 : Int32)).getD j 0 = 0 from by rw [List.getD_eq_getElem?_getD, List.getElem?_replicate]; split <;> rfl]) (fun n X hX => by
      unfold L12_stands_71
      rw [List.length_replicate, show (10476 : Int32) = nI 10476 from rfl, if_pos (nI_le (Nat.le_refl _) (by omega))]) (by rw [List.length_replicate]; show _ ≤ 10476; omega) 10476 FU 0 Z (Z.2.1 30) (by rw [List.length_replicate]) trivial (by rw [FU_eq]; omega)
    rw [List.take_zero, wr_nil, sR_self] at this
    exact this
  have w0 : ∀ j, j < 10476 → wr (Z.2.1 30) 0 (List.replicate 10476 0) j = 0 := fun j hj => by
    have := wr_in (f := Z.2.1 30) (a := 0) (k := j) (l := List.replicate 10476 (0 : Int32)) (by rw [List.length_replicate]; exact hj)
    rw [Nat.zero_add] at this
    rw [this, List.getD_eq_getElem?_getD, List.getElem?_replicate]
    split <;> rfl
  obtain ⟨F, f1, f2⟩ := ini_loop (told := toldT T) (cnt := cnt) l40 c4 cnt FU 0 (sR Z 30 (wr (Z.2.1 30) 0 (List.replicate 10476 0))) (by omega) (by show Z.1 32 = _; rw [zF]; exact y32) (by show Z.1 34 = _; rw [zF]; exact y34) (by rw [sR_ne _ _ (by decide)]; exact z35) (by rw [sR_get]; exact ⟨fun j hj => w0 j (by omega), fun e he => absurd he (Nat.not_lt_zero _), fun j j1 j2 => w0 j j2⟩) (by rw [FU_eq]; omega)
  rw [sR_sR] at f1
  refine ⟨sR Z 30 F, ?_, ⟨?_, ?_, ?_, ?_, ?_, ?_, ?_, ?_⟩, ⟨?_, ?_, l40⟩, ?_, ⟨?_, ?_, ?_, fun j hj => absurd trivial hj⟩, fun K => ?_⟩
  · exact RQ_same h (fun k hk => by rw [sR_ne _ _ (by omega)]; exact zA k (by omega)) (fun k k1 k2 => by show Z.1 k = _; rw [zF]; exact yF k (by omega) (by omega) (by omega) (by omega))
  · show Z.1 32 = _; rw [zF]; exact y32
  · show Z.1 33 = _; rw [zF]; exact y33
  · rw [sR_get]; exact f2.1 0 (by omega)
  · rw [sR_get]; exact f2.1 1 (by omega)
  · rw [sR_get]; exact f2.1 2 (by omega)
  · rw [sR_get]; exact f2.1 3 (by omega)
  · intro i o ho; exact absurd (show ([] : List (Nat × List Int32))[i]? = some o from ho) (by simp)
  · intro i hi; rw [sR_get]; exact Ini_REd (f2.2.1 i hi)
  · show Z.1 34 = _; rw [zF]; exact y34
  · rw [sR_ne _ _ (by decide)]; exact z35
  · show Z.1 31 = _; rw [zF]; exact y31
  · intro k hk h30; rw [sR_ne _ _ h30]; exact zA k (fun hh => hk (by rw [hh]; decide))
  · intro k hk
    show Z.1 k = _
    rw [zF]
    simp only [List.mem_cons, List.not_mem_nil, or_false, not_or] at hk
    exact yF k hk.1 hk.2.1 hk.2.2.1 hk.2.2.2
  · exact zL
  · rw [t1, Option.bind_some, t2, Option.bind_some, show L12_stands_93 FU (0 : Int32) (sR Z 30 (wr (Z.2.1 30) 0 (List.replicate 10476 0))) = _ from f1, Option.bind_some]
