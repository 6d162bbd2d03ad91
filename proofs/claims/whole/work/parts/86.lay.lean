/-! ===== PART II, the reference: an edit over a world alone; an operation is laid out of the tape ===== -/
theorem edits_rw {M : MS} {cnt ties tl i : Nat} {W : Wd} {op : List Int32} (h : RW M cnt ties W) (hg : Good cnt ties tl W) (hi : i < cnt) (hr : Row M 20 25 op) (hA : okO op) (ho : oldL op = (eTxt (wE W i)).length) (hl : op.length ≤ 700) (hed : wEd W < 100) (hpu : wPu W + putsL op ≤ 200) :
    ∃ M', f12_edits M (nI i) (0 : Int32) = some M' ∧ RW M' cnt ties (editW W i (editE (wE W i) op 0) op) ∧ Good cnt ties tl (editW W i (editE (wE W i) op 0) op) ∧ FN [20, 21, 22, 24, 29] [25, 26, 27] (fun _ => True) M M' := by
  have hc4 := hg.1
  obtain ⟨w1, w2, w3, w4, w5, w6, w7, w8⟩ := id h
  obtain ⟨e1, e2, e3, e4, e5, e6, e7, e8, e9, e10, e11, e12, e13, e14, e15, e16, e17, e18, e19⟩ := hg.2.2.2.2.2.2.2.2 i hi
  have hG : Good cnt ties tl (editW W i (editE (wE W i) op 0) op) := Good_edit (kind := 0) hg hi hA ho hed hpu (sDonUnd _) (eUnd (wE W i)) [] (Or.inr (Or.inl ⟨rfl, rfl, rfl⟩)) e9 (by simp) e11 trivial e13 trivial (by simp [putsS]) (by simp [ccS])
  have hWe : wE (editW W i (editE (wE W i) op 0) op) i = editE (wE W i) op 0 := by show (if i = i then _ else _) = _; rw [if_pos rfl]
  have hBf : Bd (editE (wE W i) op 0) := by have := Good_Bd hG hi; rw [hWe] at this; exact this
  obtain ⟨bk1, bk2⟩ := edit_Bd (Good_Bd hg hi) (sDonUnd _) hBf
  have hcl := cnt_len hA
  have htf : (eTxt (editE (wE W i) op 0)).length = newL op := by
    have : eTxt (editE (wE W i) op 0) = chgL op (eTxt (stkK (wE W i) op 0)) := by unfold editE giveE; split <;> rfl
    rw [this]; exact chgL_len hA _
  have hbuf : ∀ q, eBuf (wE W i) = some q → okO q ∧ newL q = oldL op ∧ q.length + op.length ≤ 700 := by
    intro q hq
    obtain ⟨q1, q2⟩ := buf_ok hg hi hq
    cases hp : ePnd (wE W i) with
    | none => rw [hp, hq] at e6; exact e6.elim
    | some p =>
      obtain ⟨a1, a2, a3, a4⟩ := pnd_cnt hg hi hp
      rw [hp, hq] at e6
      rw [hq] at a3
      have hpo : putsO (some q) = putsL q := rfl
      obtain ⟨c1, c2, c3, c4, c5⟩ := e6
      have l0 := lenA_le hg.2.2.2.2.2.1 (eRev (wE W i))
      have cp := cnt_len c1
      have cq := cnt_len c2
      have htl := hg.2.2.1
      exact ⟨q1, by omega, by omega⟩
  obtain ⟨M', f1, f2, f3, f4, f5⟩ := edits_ok (M := M) (e := i) (n := (wRow W).length) (kind := 0) (ed := wEd W) (pu := wPu W) (E := wE W i) (by omega) (row_le hg) (by omega) hr hA hl (w8 i hi) (Good_Bd hg hi) bk1 bk2 hBf ho (by have := hBf.1; omega) e5 e9 e10 w5 w6 hbuf
  refine ⟨M', f1, ?_, hG, FN_mono f5 (fun _ h => h) (fun _ h => h) (fun _ _ => trivial)⟩
  have o : ∀ j, ¬ (j = 2 ∨ j = 3 ∨ (4 + 2618 * i ≤ j ∧ j < 4 + 2618 * i + 2618)) → M'.2.1 30 j = M.2.1 30 j := fun j hj => f5.2.2.2 j hj
  refine ⟨by rw [f5.2.1 32 (by decide)]; exact w1, by rw [f5.2.1 33 (by decide)]; exact w2, by rw [o 0 (by omega)]; exact w3, by rw [o 1 (by omega)]; exact w4, f3, f4, ?_, fun j hj => ?_⟩
  · intro q o' ho'
    rw [f5.1 36 (by decide) (by decide), f5.1 37 (by decide) (by decide), f5.1 38 (by decide) (by decide), f5.1 39 (by decide) (by decide), f5.1 40 (by decide) (by decide)]
    exact w7 q o' ho'
  · by_cases hji : j = i
    · subst hji
      rw [hWe]; exact f2
    · have : wE (editW W i (editE (wE W i) op 0) op) j = wE W j := by show (if j = i then _ else _) = _; rw [if_neg hji]
      rw [this]
      exact REd_eq (n := (wRow W).length) (w8 j hj) (Good_Bd hg hj) (row_le hg) (fun q q1 q2 => o q (by omega))
theorem RQ_same {M M' : MS} {T : List Int32} {p : Pz} (h : RQ M T p) (ha : ∀ k, (k = 0 ∨ (10 ≤ k ∧ k ≤ 19)) → M'.2.1 k = M.2.1 k) (hf : ∀ k, 2 ≤ k → k ≤ 6 → M'.1 k = M.1 k) : RQ M' T p := by
  obtain ⟨⟨h1, h2, h3, h4, h5, h6, h7⟩, h8, h9⟩ := h
  refine ⟨⟨by rw [hf 3 (by omega) (by omega)]; exact h1, by rw [ha 0 (by omega)]; exact h2, by rw [hf 2 (by omega) (by omega)]; exact h3, by rw [hf 4 (by omega) (by omega)]; exact h4, by rw [hf 5 (by omega) (by omega)]; exact h5, by rw [hf 6 (by omega) (by omega)]; exact h6, h7⟩, h8, ?_⟩
  unfold RKw
  rw [ha 10 (by omega), ha 11 (by omega), ha 12 (by omega), ha 13 (by omega), ha 14 (by omega), ha 15 (by omega), ha 16 (by omega), ha 17 (by omega), ha 18 (by omega), ha 19 (by omega)]
  exact h9
def stepL (s : Sv) : List Int32 := if s.1 = 1 then s.2.2 else if s.1 = 2 then List.replicate s.2.1 (-1) else List.replicate s.2.1 0
def stepN (s : Sv) : Nat := if s.1 = 1 then 0 else s.2.1
def stpsL : List Sv → List Int32
  | [] => []
  | s :: l => stepL s ++ stpsL l
def stpsN : List Sv → Nat
  | [] => 0
  | s :: l => stepN s + stpsN l
theorem take_app {n : Nat} (x l : List Int32) : (x.take n ++ l).take n = (x ++ l).take n := by
  rw [List.take_append, List.take_append, List.take_take, Nat.min_self, List.length_take, show n - min n x.length = n - x.length by omega]
theorem gA_cut {M : MS} {c : List Int32} (h : Row M 20 25 c) (hl : c.length ≤ 700) (v : Int32) : ∃ M', f12_givesA M v = some M' ∧ Row M' 20 25 ((c ++ [v]).take 700) ∧ Frm [20] [25] M M' := by
  by_cases h7 : c.length = 700
  · refine ⟨M, ?_, ?_, Frm_refl _ _ _⟩
    · unfold f12_givesA
      rw [show gF M 25 = nI c.length from h.1, h7, if_pos (show nI 700 = (700 : Int32) from rfl)]
    · rw [List.take_append_of_le_length (by omega), List.take_of_length_le (by omega)]; exact h
  · refine ⟨gA1 M v, gA_ok h (by omega) v, ?_, gA_frm _ _⟩
    rw [List.take_of_length_le (by simp; omega)]; exact gA_row h (by omega) v
theorem ltrs_cons {T : List Int32} {i j : Nat} (h : i < j) (hj : j ≤ T.length) : ltrs T i j = (T.getD i 0 - 97 + 1) :: ltrs T (i + 1) j := by
  unfold ltrs
  rw [List.drop_eq_getElem_cons (show i < T.length by omega), show j - i = (j - (i + 1)) + 1 by omega, List.take_succ_cons, List.map_cons, List.getD_eq_getElem?_getD, List.getElem?_eq_getElem (by omega)]
  rfl
theorem ltrs_nil (T : List Int32) (i : Nat) : ltrs T i i = [] := by unfold ltrs; rw [Nat.sub_self]; rfl
theorem put_loop {T : List Int32} {c2 : Int32} : ∀ (d n i : Nat) (c : List Int32) (M : MS) (p : Pz), RQ M T p → i + d = pAt p → Row M 20 25 c → c.length ≤ 700 → d < n → ∃ M', L12_isOp_40 c2 n (nI i) M = some M' ∧ Row M' 20 25 ((c ++ ltrs T i (pAt p)).take 700) ∧ RQ M' T p ∧ Frm [20] [25] M M' := by
  intro d
  induction d with
  | zero =>
    intro n i c M p h hi hr hl hn
    obtain ⟨n, rfl⟩ : ∃ j, n = j + 1 := ⟨n - 1, by omega⟩
    have h8 := h.1.2.2.2.2.2.2.2.1
    have h7 := h.1.2.2.2.2.2.2.1
    unfold L12_isOp_40
    rw [show gF M 2 = _ from h.1.2.2.1, if_pos (nI_le (by omega) (by omega))]
    refine ⟨M, rfl, ?_, h, Frm_refl _ _ _⟩
    rw [show i = pAt p by omega, ltrs_nil, List.append_nil, List.take_of_length_le hl]; exact hr
  | succ d ih =>
    intro n i c M p h hi hr hl hn
    obtain ⟨n, rfl⟩ : ∃ j, n = j + 1 := ⟨n - 1, by omega⟩
    have h8 := h.1.2.2.2.2.2.2.2.1
    have h7 := h.1.2.2.2.2.2.2.1
    have h0 := h.1.2.1 i (by omega)
    rw [Nat.zero_add] at h0
    obtain ⟨M2, a1, a2, a3⟩ := gA_cut hr hl (T.getD i 0 - 97 + 1)
    have hq2 : RQ M2 T p := RQ_same h (fun k hk => a3.1 k (by simp; omega)) (fun k k1 k2 => a3.2.1 k (by simp; omega))
    obtain ⟨M', b1, b2, b3, b4⟩ := ih n (i + 1) _ M2 p hq2 (by omega) a2 (by rw [List.length_take]; omega) (by omega)
    refine ⟨M', ?_, ?_, b3, Frm_trans a3 b4⟩
    · unfold L12_isOp_40
      rw [show gF M 2 = _ from h.1.2.2.1, if_neg (nI_ge (by omega) (by omega)), ld_n (show i < 1600 by omega), h0, Option.bind_some, a1, Option.bind_some, nI_1]
      exact b1
    · rw [take_app, List.append_assoc] at b2
      rw [ltrs_cons (by omega) (by omega)]
      exact b2
theorem rep_loop {c2 v : Int32} (h2 : ¬ c2 < 0) {N : Nat} (hN : N < 1000) : ∀ (d n i : Nat) (c : List Int32) (M : MS), i + d = N → Row M 20 25 c → c.length ≤ 700 → d < n → ∃ M', L12_isOp_107 c2 v (nI N) n (nI i) M = some M' ∧ Row M' 20 25 ((c ++ List.replicate d v).take 700) ∧ Frm [20] [25] M M' := by
  intro d
  induction d with
  | zero =>
    intro n i c M hi hr hl hn
    obtain ⟨n, rfl⟩ : ∃ j, n = j + 1 := ⟨n - 1, by omega⟩
    unfold L12_isOp_107
    rw [if_pos (nI_le (by omega) (by omega))]
    exact ⟨M, rfl, by rw [List.replicate_zero, List.append_nil, List.take_of_length_le hl]; exact hr, Frm_refl _ _ _⟩
  | succ d ih =>
    intro n i c M hi hr hl hn
    obtain ⟨n, rfl⟩ : ∃ j, n = j + 1 := ⟨n - 1, by omega⟩
    obtain ⟨M2, a1, a2, a3⟩ := gA_cut hr hl v
    obtain ⟨M', b1, b2, b3⟩ := ih n (i + 1) _ M2 (by omega) a2 (by rw [List.length_take]; omega) (by omega)
    refine ⟨M', ?_, ?_, Frm_trans a3 b3⟩
    · unfold L12_isOp_107
      rw [if_neg (nI_ge (by omega) (by omega)), if_neg h2, a1, Option.bind_some, nI_1]
      exact b1
    · rw [take_app, List.append_assoc] at b2
      rw [List.replicate_succ]
      exact b2
theorem zer_loop : ∀ (d n : Nat) (c : List Int32) (M : MS), d < 100000 → Row M 20 25 c → c.length ≤ 700 → d < n → ∃ M', L12_isOp_162 n (nI d) M = some M' ∧ Row M' 20 25 ((c ++ List.replicate d 0).take 700) ∧ Frm [20] [25] M M' := by
  intro d
  induction d with
  | zero =>
    intro n c M hd hr hl hn
    obtain ⟨n, rfl⟩ : ∃ j, n = j + 1 := ⟨n - 1, by omega⟩
    unfold L12_isOp_162
    rw [if_pos (show nI 0 ≤ (0 : Int32) from by decide)]
    exact ⟨M, rfl, by rw [List.replicate_zero, List.append_nil, List.take_of_length_le hl]; exact hr, Frm_refl _ _ _⟩
  | succ d ih =>
    intro n c M hd hr hl hn
    obtain ⟨n, rfl⟩ : ∃ j, n = j + 1 := ⟨n - 1, by omega⟩
    obtain ⟨M2, a1, a2, a3⟩ := gA_cut hr hl 0
    obtain ⟨M', b1, b2, b3⟩ := ih n _ M2 (by omega) a2 (by rw [List.length_take]; omega) (by omega)
    refine ⟨M', ?_, ?_, Frm_trans a3 b3⟩
    · unfold L12_isOp_162
      rw [if_neg (show ¬ nI (d + 1) ≤ (0 : Int32) from nI_ge (a := 0) (by omega) (by omega)), a1, Option.bind_some, nI_dec (by omega), Nat.add_sub_cancel]
      exact b1
    · rw [take_app, List.append_assoc] at b2
      rw [List.replicate_succ]
      exact b2
theorem nI_dif {a b : Nat} (ha : a < 1000000) (hb : b < 1000000) : (nI a - nI b).toInt = (a : Int) - b := by
  rw [Int32.toInt_sub, nI_toInt (by omega), nI_toInt (by omega)]
  have hz : Int32.size = 4294967296 := rfl
  exact Int.bmod_eq_of_le (by omega) (by omega)
theorem nI_sub2 (a b c : Nat) : nI a - nI b - nI c = nI a - nI (b + c) := by
  rw [← nI_add]
  exact Int32.sub_sub _ _ _
theorem lk_lk (T : List Int32) (i : Nat) : lkP T (lkP T i) = lkP T i := by
  have key : ∀ l : List Int32, skL (l.drop (skL l)) = 0 := by
    intro l
    induction l with
    | nil => rfl
    | cons v l ih =>
      rw [skL]
      by_cases hv : v = 10 ∨ v = 32
      · rw [if_pos hv, List.drop_succ_cons]; exact ih
      · rw [if_neg hv, List.drop_zero, skL, if_neg hv]
  unfold lkP
  rw [← List.drop_drop, key]
  rfl
theorem op_bad {T : List Int32} {wh : Bool} {n k : Nat} {p : Pz} (h : pBd p ≠ 0) : pOp T wh n k p = ([], p) := by
  cases n with
  | zero => rfl
  | succ n => unfold pOp; rw [if_neg h]
theorem num_semi {T : List Int32} {lo hi : Nat} {p : Pz} (h : byteAt T (lkP T (pAt p)) = 59) : pBd (pNum T lo hi p).2 ≠ 0 := by
  unfold pNum
  by_cases hb : pBd p = 0
  · rw [if_pos hb, h, if_neg (fun hh => absurd hh.1 (by decide))]
    exact fail_is (by omega)
  · rw [if_neg hb]; exact hb
theorem stp_semi {T : List Int32} {p : Pz} (h : byteAt T (lkP T (pAt p)) = 59) : pBd (pStp T p).2 ≠ 0 := by
  by_cases hb : pBd p = 0
  · have e1 : pSign T 43 p = (false, (lkP T (pAt p), p.2)) := by unfold pSign; rw [if_pos hb, h, if_neg (by decide)]
    have e2 : pSign T 45 ((lkP T (pAt p), p.2) : Pz) = (false, (lkP T (pAt p), p.2)) := by
      unfold pSign
      rw [if_pos (show pBd ((lkP T (pAt p), p.2) : Pz) = 0 from hb)]
      dsimp only [pAt]
      rw [lk_lk, h, if_neg (by decide)]
    unfold pStp
    rw [e1, if_neg (show ¬ false = true from by decide)]
    dsimp only
    rw [e2]
    dsimp only
    exact num_semi (by dsimp only [pAt]; rw [lk_lk]; exact h)
  · rw [step_bad hb]; exact hb
