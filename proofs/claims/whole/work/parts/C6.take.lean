/-! ===== PART II, the class: what an editor sent comes to the server ===== -/
abbrev Hk (w g r n : Nat) : Nat → Prop := fun x => (x = w ∨ x = w + 1 ∨ ∃ y, y < 4 ∧ x = w + 5 + 45 * y) ∨ (g ≤ x ∧ x < g + 16) ∨ x = r ∨ x = r + 5 + 2 * n
/-- weights of the row's operations -/
def ClsR (z g r : Nat) : Prop := ∀ i, i < 100 → wt z (r + 5 + 2 * i) = wt z (g + 7) ∧ ∀ m, cpc z (r + 5 + 2 * i) m m
def tkC (S : CS) (nx p : Nat) : Nat := if lenO S nx < szO S p then szO S p else 0
theorem take_E {z : Nat} {X : Nat × Nat} {S : CS} {w r g cnt ties i c k : Nat} {W : Wd} {told : List Int32} {wh : Bool} (hcl : ClsG z g) (hcr : ClsR z g r) (hrg : r = g + 16) (hwr : r + 205 ≤ w) (hW : Wf S) (hR : Rm z X (tkC S (r + 5 + 2 * (wRow W).length) (w + 5 + 45 * i + 3) + c) S) (hsh : ShC S g r told (wRow W)) (hC : WdC S w r g cnt ties told W wh) (hg : Good cnt ties told.length W) (htd : ∀ v ∈ told, okP v) (hi : i < cnt) (hlf : eLft (wE W i) = some k) :
    ∃ S', f10_takeFrom X S w (nI i) = some S' ∧ WdC S' w r g cnt ties told (takeW ties cnt i W) wh ∧ ShC S' g r told (wRow (takeW ties cnt i W)) ∧ (∃ a, lenO S (r + 5 + 2 * (wRow W).length) ≤ a ∧ szO S (w + 5 + 45 * i + 3) ≤ a ∧ lpR a (lenO S (g + 7)) (lenO S' (r + 5 + 2 * (wRow W).length)) (lenO S' (g + 7))) ∧ Sg z (Hk w g r (wRow W).length) (tkC S (r + 5 + 2 * (wRow W).length) (w + 5 + 45 * i + 3)) S S' := by
  obtain ⟨p, y1, y2, _, y4, _, _, y7, y8, y9, _⟩ := take_all hg hi hlf
  have hg0 := hg
  obtain ⟨g1, g2, g3, g4, g5, g6, g7, g8, g9⟩ := hg
  obtain ⟨hS, hN, h5, hT, hF, hE⟩ := hC
  obtain ⟨hw, ⟨lb, hob⟩, hRw, hst, hRM⟩ := hsh
  obtain ⟨n6, n7, n8, n9, n10, n11⟩ := id hN
  obtain ⟨hwx, hcx⟩ := hcr (wRow W).length y4
  obtain ⟨a1, a2, a3, a4⟩ := pnd_cnt hg0 hi y1
  have hi4 : i < 4 := by omega
  have hL := ((hE i hi4).2 hi).1
  have hEi := hL.1
  have hp := hL.2.2.2.1
  rw [y1] at hp
  obtain ⟨hp1, hp2⟩ := OpS_get hp
  have hlen := srvX_len g6
  have lAl := lenA_le g6 (wRow W).length
  rw [List.take_length] at lAl
  have kB := cnt_len y7
  have hu : unt (wE W i) ≤ sumN (fun i => unt (wE W i)) cnt := sumN_ge (f := fun i => unt (wE W i)) hi
  have hun : putsL p ≤ unt (wE W i) := by unfold unt; rw [hlf, y1]; exact Nat.le_add_right _ _
  generalize hnl : (wRow W).length = L at *
  generalize hnx : r + 5 + 2 * L = nx at *
  generalize hee : w + 5 + 45 * i = e at *
  have knx : kd S nx = 4 := by rw [← hnx]; exact (hRw.2.2.2.2.2 L y4).2
  unfold f10_takeFrom
  rw [cal_k hS.1, knows_W hS n6 g1, nI_toInt (by omega), decide_eq_true (show 0 ≤ (i : Int) ∧ (i : Int) < cnt by omega), Option.bind_some, if_neg (show ¬ bI true = 0 by decide), gi_k hS.1, n11, Option.bind_some, gr_k hS.1 hS.2.1.1, Option.bind_some, gr_k hRw.1 hRw.2.1.2.1, Option.bind_some, aln_k hRw.2.2.2.1.1, hRw.2.2.2.1.2, Option.bind_some, if_pos (nI_lt y4 (by omega)), gr_k hS.1 hS.2.1.2.2.2.1, Option.bind_some, ed_at hS hi4, Option.bind_some, Option.bind_some, gr_k hRw.1 hRw.2.1.2.1, Option.bind_some, Option.bind_some, ldr_k hRw.2.2.2.1.1 (by have := hRw.2.2.2.1.2; omega) (by have := hRw.2.2.2.1.2; omega) (hRw.2.2.2.2.2 L y4).1, Option.bind_some, hnx, hee, gr_k hEi.1 hEi.2.1.2.1, Option.bind_some, cal_k knx]
  obtain ⟨S13, e13, o13, s13, l13a, l13b⟩ := copy_O (z := z) (X := X) hW hR knx hp1 (by omega) hcx
  have n13 : ∀ x, x ≠ nx → ¬ x = nx := fun _ h => h
  have hS13 := WdS_Sg hW hS s13
  have hw13 := Wv_Sg hW hw s13
  have hRw13 := RwS_Sg hW hRw s13 (show ¬ r + 3 = nx by omega)
  have hRM13 := RwM_Sg hW hRw hRM s13 (show ¬ r = nx by omega) (fun j hj => by omega)
  have iw13 : cI S13 w = cI S w := fld_Fo hW hS.1 (by omega) s13.2.1 (show ¬ w = nx by omega)
  have ie13 : cI S13 e = cI S e := fld_Fo hW hEi.1 (by omega) s13.2.1 (show ¬ e = nx by omega)
  have hE13 := EdS_Sg hW hEi s13
  have ob13 := OpL_Fo hW hob s13.2.1 (show ¬ g + 9 = nx by omega)
  have lg13 := lenO_Fo hW hw.2.2.2.2.2.2.2.2.2.1 s13.2.1 (show ¬ g + 7 = nx by omega)
  have hR13 : Rm z X c S13 := Rm_step (d := c) hR s13
  rw [e13, Option.bind_some, gi_k hE13.1, ie13, hL.2.1.1, Option.bind_some]
  have hrl := (g9 i hi).1
  have hFU := FU_gt
  have hpd := putsR_drop (wRow W) (eRev (wE W i))
  have lA := lenA_le g6 (eRev (wE W i))
  obtain ⟨S15, e15, o15, ob15, l15, s15⟩ := tk_loop (z := z) (X := X) (w := w) (r := r) (g := g) (cnt := cnt) (ties := ties) (e := i) (nx := nx) (c2 := e) (c := c) (row := wRow W) hcl hrg (by rw [hnl]; exact hnx.symm) hwr hwx g1 g2 hi4 (by omega) (L - eRev (wE W i)) (eRev (wE W i)) FU S13 p _ (by omega) (by omega) s13.1 hR13 hw13 hS13 hRw13 hRM13 (by rw [iw13]; exact n7) (by rw [iw13, hnl]; exact n11) o13 a1 a2 (chR_drop g6 _) (by omega) ⟨lb, ob13⟩
  rw [← y2] at o15
  have nH15 : ∀ x, r ≤ x → x ≠ nx → ¬ (x = nx ∨ x = g + 12 ∨ Hw g x) := fun x h1 h2 h => by
    rcases h with h | h | h | h | h | h <;> omega
  rw [e15, Option.bind_some]
  have hS15 := WdS_Sg s13.1 hS13 s15
  have hw15 := Wv_Sg s13.1 hw13 s15
  have hRw15 := RwS_Sg s13.1 hRw13 s15 (nH15 _ (by omega) (by omega))
  have hRM15 := RwM_Sg s13.1 hRw13 hRM13 s15 (nH15 _ (by omega) (by omega)) (fun j hj => nH15 _ (by omega) (by omega))
  have iw15 : cI S15 w = cI S w := by rw [fld_Fo s13.1 hS13.1 (by omega) s15.2.1 (nH15 w (by omega) (by omega)), iw13]
  have T15 := TxL_Fo s13.1 (TxL_Fo hW hT s13.2.1 (show ¬ w + 1 = nx by omega)) s15.2.1 (nH15 (w + 1) (by omega) (by omega))
  have F15 : cA S15 (w + 4) = cA S (w + 4) := by rw [arr_Fo s13.1 hS13.2.1.2.2.2.2 hS13.2.2.2.2.1.1 s15.2.1 (nH15 w (by omega) (by omega)), arr_Fo hW hS.2.1.2.2.2.2 hS.2.2.2.2.1.1 s13.2.1 (show ¬ w = nx by omega)]
  have hr4 : ∀ o ∈ wRow W, o.1 < 1000 := fun o ho => by
    obtain ⟨j, hj⟩ := List.getElem?_of_mem ho
    have := (chR_get g6 hj).2.1
    omega
  rw [gr_k hS15.1 hS15.2.1.2.2.2.2, Option.bind_some, ldi_k hS15.2.2.2.2.1.1 (by have := hS15.2.2.2.2.1.2; omega) (by have := hS15.2.2.2.2.1.2; omega), F15, hF i hi, Option.bind_some, cal_k hS15.1, cuts_W hS15 hRw15 hRM15 (by rw [iw15, hnl]; exact n11) T15 g6 htd (by omega) hr4 o15 (by rw [hlen]; exact y8) (by omega), Option.bind_some, nI_add, sti_k hS15.2.2.2.2.1.1 (by have := hS15.2.2.2.2.1.2; omega) (by have := hS15.2.2.2.2.1.2; omega), Option.bind_some]
  generalize hv : forC told.length (wRow W) i + cutF (wRow W) i (tkOp ties i W) (bysR told.length (wRow W)) = v
  have s20 : Sg z (fun x => x = w) 0 S15 (setA S15 (w + 4) (upd (cA S15 (w + 4)) i (nI v))) := Sg_setA s15.1 rfl hS15.2.1.2.2.2.2
  have F20 : cA (setA S15 (w + 4) (upd (cA S15 (w + 4)) i (nI v))) (w + 4) = upd (cA S (w + 4)) i (nI v) := by rw [cA_self, F15]
  rw [F15] at s20 F20 ⊢
  generalize hS20 : setA S15 (w + 4) (upd (cA S (w + 4)) i (nI v)) = S20 at s20 F20 ⊢
  have iw20 : cI S20 = cI S15 := by rw [← hS20]; rfl
  have hS20' := WdS_Sg s15.1 hS15 s20
  have hRw20 := RwS_Sg s15.1 hRw15 s20 (show ¬ r + 3 = w by omega)
  have hRM20 := RwM_Sg s15.1 hRw15 hRM15 s20 (show ¬ r = w by omega) (fun j hj => by omega)
  rw [gr_k hS20'.1 hS20'.2.1.1, Option.bind_some, gr_k hRw20.1 hRw20.2.1.2.2, Option.bind_some, gi_k hS20'.1, iw20, iw15, n11, Option.bind_some, sti_k hRw20.2.2.2.2.1.1 (by have := hRw20.2.2.2.2.1.2; omega) (by have := hRw20.2.2.2.2.1.2; omega), Option.bind_some]
  have s24 : Sg z (fun x => x = r) 0 S20 (setA S20 (r + 4) (upd (cA S20 (r + 4)) L (nI i))) := Sg_setA s20.1 rfl hRw20.2.1.2.2
  generalize hS24 : setA S20 (r + 4) (upd (cA S20 (r + 4)) L (nI i)) = S24 at s24 ⊢
  have iw24 : cI S24 = cI S15 := by rw [← hS24, ← iw20]; rfl
  have hS24' := WdS_Sg s20.1 hS20' s24
  have hRw24 := RwS_Sg s20.1 hRw20 s24 (show ¬ r + 3 = r by omega)
  have o24 := OpL_Fo s20.1 (OpL_Fo s15.1 o15 s20.2.1 (show ¬ nx = w by omega)) s24.2.1 (show ¬ nx = r by omega)
  have hRM24 : RwM S24 r (wRow W ++ [(i, tkOp ties i W)]) := by
    refine ⟨by rw [List.length_append, List.length_singleton]; omega, fun j o hj => ?_⟩
    have a24 : cA S24 (r + 4) = upd (cA S20 (r + 4)) L (nI i) := by rw [← hS24]; exact cA_self _ _ _
    rw [a24]
    by_cases hjl : j < L
    · rw [List.getElem?_append_left (by omega)] at hj
      obtain ⟨q1, q2⟩ := hRM20.2 j o hj
      exact ⟨OpL_Fo s20.1 q1 s24.2.1 (show ¬ r + 5 + 2 * j = r by omega), by rw [upd_ne _ _ (by omega)]; exact q2⟩
    · have hjn := (List.getElem?_eq_some_iff.mp hj).1
      rw [List.length_append, List.length_singleton] at hjn
      have hje : j = L := by omega
      rw [List.getElem?_append_right (by omega), hje, hnl, Nat.sub_self] at hj
      have := Option.some.inj hj
      subst this
      rw [hje, hnx, upd_self]
      exact ⟨o24, rfl⟩
  have F24 : cA S24 (w + 4) = upd (cA S (w + 4)) i (nI v) := by rw [← F20, ← hS24]; exact va_up_ne _ _ (by omega)
  obtain ⟨S25, e25, i25, A25, B25, s25⟩ := com_loopC (z := z) (w := w) (r := r) (g := g) (cnt := cnt) (L := L) (c2 := e) (c3 := nx) g1 (by omega) cnt 0 FU S24 (by omega) (by omega) s24.1 hS24' (by rw [iw24, iw15]; exact n6) (by rw [iw24, iw15]; exact n11)
  have e25' : LX10_takeFrom_154 w e nx FU 0 S24 = some S25 := e25
  have hS25 := WdS_Sg s24.1 hS24' s25
  rw [e25', Option.bind_some, gi_k hS25.1, i25, iw24, iw15, n11, Option.bind_some, nI_1, pi_k hS25.1, Option.bind_some]
  have s28 : Sg z (fun x => x = w) 0 S25 (setI S25 w 11 (nI (L + 1))) := Sg_setI s25.1 rfl
  have i28 : ∀ k, cI (setI S25 w 11 (nI (L + 1))) w k = if k = 11 then nI (L + 1) else cI S w k := fun k => by
    rw [cI_set]
    by_cases hk : k = 11
    · rw [if_pos ⟨rfl, hk⟩, if_pos hk]
    · rw [if_neg (fun hh => hk hh.2), if_neg hk, i25, iw24, iw15]
  generalize hS28 : setI S25 w 11 (nI (L + 1)) = S28 at s28 i28 ⊢
  have hS28' := WdS_Sg s25.1 hS25 s28
  have sB : Sg z (fun x => ∃ y, y < 4 ∧ x = w + 5 + 45 * y) 0 S24 S25 := s25
  have ne : ∀ x, (∀ y, y < 4 → x ≠ w + 5 + 45 * y) → ¬ (∃ y, y < 4 ∧ x = w + 5 + 45 * y) := fun x hx ⟨y, y1, y2⟩ => hx y y1 y2
  have T28 : TxL S28 (w + 1) (srvX told (wRow W)) := TxL_Fo s25.1 (TxL_Fo s24.1 (TxL_Fo s20.1 (TxL_Fo s15.1 T15 s20.2.1 (show ¬ w + 1 = w by omega)) s24.2.1 (show ¬ w + 1 = r by omega)) s25.2.1 (ne _ (fun y hy => by omega))) s28.2.1 (show ¬ w + 1 = w by omega)
  have o28 := OpL_Fo s25.1 (OpL_Fo s24.1 o24 s25.2.1 (ne nx (fun y hy => by omega))) s28.2.1 (show ¬ nx = w by omega)
  have hw28 := Wv_Sg s25.1 (Wv_Sg s24.1 (Wv_Sg s20.1 (Wv_Sg s15.1 hw15 s20) s24) s25) s28
  rw [gr_k hS28'.1 hS28'.2.1.2.1, Option.bind_some, gr_k hS28'.1 hS28'.2.1.2.2.1, Option.bind_some, gi_k hS28'.1, i28, if_pos rfl, Option.bind_some, cal_k hw28.1]
  obtain ⟨S32, e32, T32, s32⟩ := change_T (z := z) (w := nI (L + 1)) s28.1 hw28.1 T28 o28 (by rw [hlen]; exact y8) (by omega)
  rw [show L + 1 = (wRow W).length + 1 by omega, ← srvX_snoc (i, tkOp ties i W) g6] at T32
  have hE32 : EdS S32 e := EdS_Sg s28.1 (EdS_Sg s25.1 (EdS_Sg s24.1 (EdS_Sg s20.1 (EdS_Sg s15.1 (EdS_Sg s13.1 hE13 s15) s20) s24) s25) s28) s32
  rw [e32, Option.bind_some, pi_k hE32.1, Option.bind_some]
  have s33 : Sg z (fun x => x = e) 0 S32 (setI S32 e 11 (-1)) := Sg_setI s32.1 rfl
  -- the great steps
  have cst : Sg z (fun x => x = nx) (tkC S nx (e + 3)) S S13 := s13
  have sA : Sg z (fun x => x = nx ∨ (g ≤ x ∧ x < g + 16) ∨ x = w ∨ x = r) (tkC S nx (e + 3)) S S24 := by
    have q1 := Sg_mono hW cst (H' := fun x => x = nx ∨ (g ≤ x ∧ x < g + 16) ∨ x = w ∨ x = r) (fun x hx => Or.inl hx) (Nat.le_refl _)
    have q2 := Sg_mono s13.1 s15 (H' := fun x => x = nx ∨ (g ≤ x ∧ x < g + 16) ∨ x = w ∨ x = r) (fun x hx => by rcases hx with h | h | h | h | h | h <;> omega) (Nat.le_refl _)
    have q3 := Sg_mono s15.1 s20 (H' := fun x => x = nx ∨ (g ≤ x ∧ x < g + 16) ∨ x = w ∨ x = r) (fun x hx => by omega) (Nat.le_refl _)
    have q4 := Sg_mono s20.1 s24 (H' := fun x => x = nx ∨ (g ≤ x ∧ x < g + 16) ∨ x = w ∨ x = r) (fun x hx => by omega) (Nat.le_refl _)
    exact Sg_trans (Sg_trans (Sg_trans q1 q2) q3) q4
  have sC : Sg z (fun x => x = w ∨ x = w + 1 ∨ x = g) 0 S25 S32 := Sg_trans (Sg_mono s25.1 s28 (fun x hx => by omega) (Nat.le_refl 0)) (Sg_mono s28.1 s32 (fun x hx => by omega) (Nat.le_refl 0))
  have hW33 := s33.1
  have ed : ∀ j, j < 4 → EdJ (setI S32 e 11 (-1)) (w + 5 + 45 * j) wh ∧ (j < cnt → EdW (setI S32 e 11 (-1)) (w + 5 + 45 * j) (L + 1) (tkE W i j) wh) := by
    intro j hj
    obtain ⟨q1, q2⟩ := hE j hj
    have u1 := EdJ_Sg hW q1 sA (fun x hx => by omega)
    have u2 := EdJ_Sg s24.1 u1 s25 (fun x hx => ne x (fun y hy => by omega))
    have u3 := EdJ_Sg s25.1 u2 sC (fun x hx => by omega)
    refine ⟨EdJ_Sg s32.1 u3 s33 (fun x hx => by omega), fun hjc => ?_⟩
    have v1 := EdW_Sg hW (q2 hjc) sA (fun x x1 x2 => by omega)
    have v2 := EdW_com s24.1 v1 s25 (fun x x1 x2 => ne x (fun y hy => by omega)) (by rw [i25]) (A25 _ (fun x x1 x2 => by omega)) (by rw [B25 j (Nat.zero_le _) hjc, v1.1.2.1.2.1])
    have v3 := EdW_Sg s25.1 v2 sC (fun x x1 x2 => by omega)
    unfold tkE
    by_cases hji : j = i
    · subst hji
      rw [if_pos rfl]
      have := (EdW_lft (z := z) s32.1 v3).1
      rw [hee] at this
      rw [hee, hnl]
      exact this
    · rw [if_neg hji, hnl]
      exact EdW_Sg s32.1 v3 s33 (fun x x1 x2 => by omega)
  have hlt : (wRow (takeW ties cnt i W)).length = L + 1 := by
    show (wRow W ++ [(i, tkOp ties i W)]).length = L + 1
    rw [List.length_append, List.length_singleton, hnl]
  have iw33 : ∀ k, cI (setI S32 e 11 (-1)) w k = if k = 11 then nI (L + 1) else cI S w k := fun k => by
    rw [cI_set, if_neg (by omega), fld_Fo s28.1 hS28'.1 (by omega) s32.2.1 (show ¬ (w = w + 1 ∨ w = g) by omega)]; exact i28 k
  have hTop : Sg z (Hk w g r L) (tkC S nx (e + 3)) S (setI S32 e 11 (-1)) := by
    have q1 := Sg_mono hW sA (H' := Hk w g r L) (fun x hx => by
      rcases hx with h | h | h | h
      · exact Or.inr (Or.inr (Or.inr (by omega)))
      · exact Or.inr (Or.inl h)
      · exact Or.inl (Or.inl h)
      · exact Or.inr (Or.inr (Or.inl h))) (Nat.le_refl _)
    have q2 := Sg_mono s24.1 s25 (H' := Hk w g r L) (fun x hx => Or.inl (Or.inr (Or.inr hx))) (Nat.le_refl _)
    have q3 := Sg_mono s25.1 sC (H' := Hk w g r L) (fun x hx => by
      rcases hx with h | h | h
      · exact Or.inl (Or.inl h)
      · exact Or.inl (Or.inr (Or.inl h))
      · exact Or.inr (Or.inl (by omega))) (Nat.le_refl _)
    have q4 := Sg_mono s32.1 s33 (H' := Hk w g r L) (fun x hx => Or.inl (Or.inr (Or.inr ⟨i, hi4, by omega⟩))) (Nat.le_refl _)
    exact Sg_trans (Sg_trans (Sg_trans q1 q2) q3) q4
  -- from the row's step on
  have sD : Sg z (fun x => x = w ∨ x = w + 1 ∨ x = g ∨ (∃ y, y < 4 ∧ x = w + 5 + 45 * y)) 0 S24 (setI S32 e 11 (-1)) := by
    have q2 := Sg_mono s24.1 s25 (H' := fun x => x = w ∨ x = w + 1 ∨ x = g ∨ (∃ y, y < 4 ∧ x = w + 5 + 45 * y)) (fun x hx => Or.inr (Or.inr (Or.inr hx))) (Nat.le_refl _)
    have q3 := Sg_mono s25.1 sC (H' := fun x => x = w ∨ x = w + 1 ∨ x = g ∨ (∃ y, y < 4 ∧ x = w + 5 + 45 * y)) (fun x hx => by
      rcases hx with h | h | h
      · exact Or.inl h
      · exact Or.inr (Or.inl h)
      · exact Or.inr (Or.inr (Or.inl h))) (Nat.le_refl _)
    have q4 := Sg_mono s32.1 s33 (H' := fun x => x = w ∨ x = w + 1 ∨ x = g ∨ (∃ y, y < 4 ∧ x = w + 5 + 45 * y)) (fun x hx => Or.inr (Or.inr (Or.inr ⟨i, hi4, by omega⟩))) (Nat.le_refl _)
    exact Sg_trans (Sg_trans q2 q3) q4
  have nD : ∀ x, x < w → x ≠ g → ¬ (x = w ∨ x = w + 1 ∨ x = g ∨ (∃ y, y < 4 ∧ x = w + 5 + 45 * y)) := fun x h1 h2 h => by
    rcases h with h | h | h | ⟨y, y1, y2⟩ <;> omega
  obtain ⟨lb15, ob15⟩ := ob15
  have ob24 := OpL_Fo s20.1 (OpL_Fo s15.1 ob15 s20.2.1 (show ¬ g + 9 = w by omega)) s24.2.1 (show ¬ g + 9 = r by omega)
  refine ⟨_, rfl, ⟨WdS_Sg hW hS hTop, ⟨?_, ?_, ?_, ?_, ?_, ?_⟩, ?_, TxL_Fo s32.1 T32 s33.2.1 (show ¬ w + 1 = e by omega), fun j hj => ?_, fun j hj => ?_⟩, ⟨Wv_Sg hW hw hTop, ⟨lb15, OpL_Fo s24.1 ob24 sD.2.1 (nD _ (by omega) (by omega))⟩, RwS_Sg s24.1 hRw24 sD (nD _ (by omega) (by omega)), ?_, RwM_Sg s24.1 hRw24 hRM24 sD (nD _ (by omega) (by omega)) (fun j hj => nD _ (by rw [hlt] at hj; omega) (by omega))⟩, ?_, hTop⟩
  · rw [iw33, if_neg (by omega)]; exact n6
  · rw [iw33, if_neg (by omega)]; exact n7
  · rw [iw33, if_neg (by omega)]; exact n8
  · rw [iw33, if_neg (by omega)]; exact n9
  · rw [iw33, if_neg (by omega)]; exact n10
  · rw [iw33, if_pos rfl, hlt]
  · rw [iw33, if_neg (by omega)]; exact h5
  · have a33 : cA (setI S32 e 11 (-1)) (w + 4) = upd (cA S (w + 4)) i (nI v) := by
      show cA S32 (w + 4) = _
      rw [arr_Fo s28.1 hS28'.2.1.2.2.2.2 hS28'.2.2.2.2.1.1 s32.2.1 (show ¬ (w = w + 1 ∨ w = g) by omega)]
      have : cA S28 (w + 4) = cA S25 (w + 4) := by rw [← hS28]; rfl
      rw [this, A25 _ (fun x x1 x2 => by omega), F24]
    rw [a33]
    show _ = nI (forC told.length (wRow W ++ [(i, tkOp ties i W)]) j)
    rw [forC_snoc]
    by_cases hji : j = i
    · rw [hji, upd_self, if_pos rfl, ← hv]
    · rw [upd_ne _ _ hji, if_neg (fun h => hji h.symm), Nat.add_zero]; exact hF j hj
  · obtain ⟨q1, q2⟩ := ed j hj
    refine ⟨q1, fun hjc => ?_⟩
    rw [hlt]
    show EdW _ _ _ (if j < cnt then tkE W i j else wE W j) _
    rw [if_pos hjc]
    exact q2 hjc
  · have t24 : TxL S24 (r + 1) told := TxL_Fo hW hst sA.2.1 (by omega)
    exact TxL_Fo s24.1 t24 sD.2.1 (nD _ (by omega) (by omega))
  · have ln : lenO (setI S32 e 11 (-1)) nx = lenO S15 nx := by
      rw [lenO_Fo s24.1 (OpL_kd o24) sD.2.1 (nD _ (by omega) (by omega)), lenO_Fo s20.1 (OpL_kd (OpL_Fo s15.1 o15 s20.2.1 (show ¬ nx = w by omega))) s24.2.1 (show ¬ nx = r by omega), lenO_Fo s15.1 (OpL_kd o15) s20.2.1 (show ¬ nx = w by omega)]
    have k7 := hw15.2.2.2.2.2.2.2.2.2.1
    have k7b := (Wv_Sg s15.1 hw15 s20).2.2.2.2.2.2.2.2.2.1
    have k7c := (Wv_Sg s20.1 (Wv_Sg s15.1 hw15 s20) s24).2.2.2.2.2.2.2.2.2.1
    have lg : lenO (setI S32 e 11 (-1)) (g + 7) = lenO S15 (g + 7) := by
      rw [lenO_Fo s24.1 k7c sD.2.1 (nD _ (by omega) (by omega)), lenO_Fo s20.1 k7b s24.2.1 (show ¬ g + 7 = r by omega), lenO_Fo s15.1 k7 s20.2.1 (show ¬ g + 7 = w by omega)]
    refine ⟨lenO S13 nx, l13b, l13a, ?_⟩
    rw [ln, lg, ← lg13]
    exact l15
