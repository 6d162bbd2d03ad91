/-! ===== PART II: one call of both sides ===== -/
def Pb (z : Nat) (X : Nat × Nat) (r : Nat) (S : CS) (M : MS) : Prop := ∃ A K fi ch, RS M A ∧ GA A ∧ CR S z A K fi ch ∧ ch + r ≤ 600 ∧ Rm z X (117162 * (20 - made K) + (7600 * r + 320 * (aTape A).length)) S
def Sx5 (xs : Nat → Int32) (Ln : Nat) (i v1 v2 v3 v4 v5 : Int32) : Prop := sx xs Ln (i + 1) = some v1 ∧ sx xs Ln (i + 2) = some v2 ∧ sx xs Ln (i + 3) = some v3 ∧ sx xs Ln (i + 4) = some v4 ∧ sx xs Ln (i + 5) = some v5
section TU
variable {S S' : CS} {M M' : MS} {A A' : St} {K : Nat → Option Nat} {z fi ch ch' k r Ln : Nat} {X : Nat × Nat} {xs : Nat → Int32} {i v1 v2 v3 v4 v5 : Int32}
theorem Pb_cst (hr : RS M' A') (hg : GA A') (hc : CR S' z A' K fi ch') (h1 : ch' ≤ ch + 1) (hch : ch + (r + 1) ≤ 600) (hR : Rm z X (117162 * (20 - made K) + (7600 * (r + 1) + 320 * (aTape A).length)) S) (hs : Cst z k S S') (hk : k + 320 * (aTape A').length ≤ 7600 + 320 * (aTape A).length) : Pb z X r S' M' :=
  ⟨A', K, fi, ch', hr, hg, hc, by omega, Rm_cst (c := k) (d := 117162 * (20 - made K) + (7600 * r + 320 * (aTape A').length)) (Rm_mono hR (by omega)) hs⟩
theorem Rm_act (hR : Rm z X (117162 * (20 - made K) + (7600 * (r + 1) + 320 * (aTape A).length)) S) : Rm z X (117162 * (20 - made K) + (7600 + (7600 * r + 320 * (aTape A).length))) S := Rm_mono hR (by omega)
theorem Pb_act {o : Option (Int32 × CS)} {v : Int32 × St} (ho : ActR z X (7600 * r + 320 * (aTape A).length) ch o v) (hr : RS M' v.2) (hg : GA v.2) (hch : ch + (r + 1) ≤ 600) (ht : (aTape v.2).length ≤ (aTape A).length) : ∃ S', o = some (v.1, S') ∧ Pb z X r S' M' := by
  obtain ⟨S', K', fi', ch', e, h1, h2, h3⟩ := ho
  exact ⟨S', e, v.2, K', fi', ch', hr, hg, h1, by omega, Rm_mono h3 (by omega)⟩

theorem lq_0 (hx : Sx5 xs Ln i v1 v2 v3 v4 v5) (h : Pb z X (r + 1) S M) : ∃ S' M', lc_0 X xs Ln z i S M = some (S', M') ∧ Pb z X r S' M' := by
  obtain ⟨x1, x2, x3, x4, x5⟩ := hx
  obtain ⟨A, K, fi, ch, hr, hg, hc, hch, hR⟩ := h
  have hk := hc.2.1.1
  obtain ⟨S', c1, c2, c3⟩ := feed_C hc hg v1 v2 v3 v4 v5
  obtain ⟨M', m1, m2⟩ := feed_ok hr hg v1 v2 v3 v4 v5
  refine ⟨S', M', ?_, Pb_cst (ch' := ch) m2 (GA_feed hg v1 v2 v3 v4 v5) c2 (by omega) hch hR c3 (by have := tp_feed (A := A) v1 v2 v3 v4 v5; omega)⟩
  unfold lc_0
  simp only [x1, x2, x3, x4, x5, Option.bind_some]
  rw [cal_k hk, c1, bn2_s, m1, bn2_s, if_pos rfl]
theorem lq_1 (hx : Sx5 xs Ln i v1 v2 v3 v4 v5) (h : Pb z X (r + 1) S M) : ∃ S' M', lc_1 X xs Ln z i S M = some (S', M') ∧ Pb z X r S' M' := by
  obtain ⟨x1, x2, x3, x4, x5⟩ := hx
  obtain ⟨A, K, fi, ch, hr, hg, hc, hch, hR⟩ := h
  have hk := hc.2.1.1
  obtain ⟨S', c1, c2, c3⟩ := end_C hc hg v1
  obtain ⟨M', m1, m2⟩ := end_ok hr hg v1
  refine ⟨S', M', ?_, Pb_cst (ch' := ch) m2 (GA_end hg v1) c2 (by omega) hch hR c3 (by have := tp_end (A := A) v1; omega)⟩
  unfold lc_1
  simp only [x1, Option.bind_some]
  rw [cal_k hk, c1, bn2_s, m1, bn2_s, if_pos rfl]
theorem lq_2 (hx : Sx5 xs Ln i v1 v2 v3 v4 v5) (h : Pb z X (r + 1) S M) : ∃ S' M', lc_2 X xs Ln z i S M = some (S', M') ∧ Pb z X r S' M' := by
  obtain ⟨x1, x2, x3, x4, x5⟩ := hx
  obtain ⟨A, K, fi, ch, hr, hg, hc, hch, hR⟩ := h
  have hk := hc.2.1.1
  obtain ⟨S', ch', c1, c2, c3, c4⟩ := session_A (X := X) (c := 0) hc hg (by omega) (Rm_mono hR (by omega))
  obtain ⟨M', m1, m2, m3⟩ := session_ok hr hg
  refine ⟨S', M', ?_, Pb_cst m2 m3 c2 c3 hch hR c4 (by rw [tp_sess]; show 320 * (aTape A).length + 320 * 0 ≤ _; omega)⟩
  unfold lc_2
  rw [cal_k hk, c1, bn2_s, m1, bn2_s, if_pos rfl]
theorem lq_3 (hx : Sx5 xs Ln i v1 v2 v3 v4 v5) (h : Pb z X (r + 1) S M) : ∃ S' M', lc_3 X xs Ln z i S M = some (S', M') ∧ Pb z X r S' M' := by
  obtain ⟨x1, x2, x3, x4, x5⟩ := hx
  obtain ⟨A, K, fi, ch, hr, hg, hc, hch, hR⟩ := h
  have hk := hc.2.1.1
  have c1 := fault_C hc v1
  have m1 := fault_ok hr v1
  refine ⟨S, M, ?_, Pb_cst (ch' := ch) hr hg hc (by omega) hch hR (Cst_rf z S) (by omega)⟩
  unfold lc_3
  simp only [x1, Option.bind_some]
  rw [cal_k hk, c1, Option.bind_some, m1, Option.bind_some, if_pos rfl]
theorem lq_4 (hx : Sx5 xs Ln i v1 v2 v3 v4 v5) (h : Pb z X (r + 1) S M) : ∃ S' M', lc_4 X xs Ln z i S M = some (S', M') ∧ Pb z X r S' M' := by
  obtain ⟨x1, x2, x3, x4, x5⟩ := hx
  obtain ⟨A, K, fi, ch, hr, hg, hc, hch, hR⟩ := h
  have hk := hc.2.1.1
  have c1 := has_C hc hg v1
  obtain ⟨M', m1, m2⟩ := has_ok hr hg v1
  refine ⟨S, M', ?_, Pb_cst (ch' := ch) m2 hg hc (by omega) hch hR (Cst_rf z S) (by omega)⟩
  unfold lc_4
  simp only [x1, Option.bind_some]
  rw [cal_k hk, c1, Option.bind_some, m1, bn2_s, if_pos rfl]
theorem lq_5 (hx : Sx5 xs Ln i v1 v2 v3 v4 v5) (h : Pb z X (r + 1) S M) : ∃ S' M', lc_5 X xs Ln z i S M = some (S', M') ∧ Pb z X r S' M' := by
  obtain ⟨x1, x2, x3, x4, x5⟩ := hx
  obtain ⟨A, K, fi, ch, hr, hg, hc, hch, hR⟩ := h
  have hk := hc.2.1.1
  have c1 := editor_C hc hg v1 v2
  have m1 := editor_ok hr hg v1 v2
  refine ⟨S, M, ?_, Pb_cst (ch' := ch) hr hg hc (by omega) hch hR (Cst_rf z S) (by omega)⟩
  unfold lc_5
  simp only [x1, x2, Option.bind_some]
  rw [cal_k hk, c1, Option.bind_some, m1, Option.bind_some, if_pos rfl]
theorem lq_6 (hx : Sx5 xs Ln i v1 v2 v3 v4 v5) (h : Pb z X (r + 1) S M) : ∃ S' M', lc_6 X xs Ln z i S M = some (S', M') ∧ Pb z X r S' M' := by
  obtain ⟨x1, x2, x3, x4, x5⟩ := hx
  obtain ⟨A, K, fi, ch, hr, hg, hc, hch, hR⟩ := h
  have hk := hc.2.1.1
  have c1 := letter_C hc hg v1 v2
  obtain ⟨M', m1, m2⟩ := letter_ok hr hg v1 v2
  refine ⟨S, M', ?_, Pb_cst (ch' := ch) m2 hg hc (by omega) hch hR (Cst_rf z S) (by omega)⟩
  unfold lc_6
  simp only [x1, x2, Option.bind_some]
  rw [cal_k hk, c1, Option.bind_some, m1, bn2_s, if_pos rfl]
theorem lq_7 (hx : Sx5 xs Ln i v1 v2 v3 v4 v5) (h : Pb z X (r + 1) S M) : ∃ S' M', lc_7 X xs Ln z i S M = some (S', M') ∧ Pb z X r S' M' := by
  obtain ⟨x1, x2, x3, x4, x5⟩ := hx
  obtain ⟨A, K, fi, ch, hr, hg, hc, hch, hR⟩ := h
  have hk := hc.2.1.1
  have c1 := step_C hc hg v1 v2 v3 v4
  obtain ⟨M', m1, m2⟩ := step_ok hr hg v1 v2 v3 v4
  refine ⟨S, M', ?_, Pb_cst (ch' := ch) m2 hg hc (by omega) hch hR (Cst_rf z S) (by omega)⟩
  unfold lc_7
  simp only [x1, x2, x3, x4, Option.bind_some]
  rw [cal_k hk, c1, Option.bind_some, m1, bn2_s, if_pos rfl]
theorem lq_8 (hx : Sx5 xs Ln i v1 v2 v3 v4 v5) (h : Pb z X (r + 1) S M) : ∃ S' M', lc_8 X xs Ln z i S M = some (S', M') ∧ Pb z X r S' M' := by
  obtain ⟨x1, x2, x3, x4, x5⟩ := hx
  obtain ⟨A, K, fi, ch, hr, hg, hc, hch, hR⟩ := h
  have hk := hc.2.1.1
  have c1 := row_C hc hg v1 v2 v3
  obtain ⟨M', m1, m2⟩ := row_ok hr hg v1 v2 v3
  refine ⟨S, M', ?_, Pb_cst (ch' := ch) m2 hg hc (by omega) hch hR (Cst_rf z S) (by omega)⟩
  unfold lc_8
  simp only [x1, x2, x3, Option.bind_some]
  rw [cal_k hk, c1, Option.bind_some, m1, bn2_s, if_pos rfl]
theorem lq_9 (hx : Sx5 xs Ln i v1 v2 v3 v4 v5) (h : Pb z X (r + 1) S M) : ∃ S' M', lc_9 X xs Ln z i S M = some (S', M') ∧ Pb z X r S' M' := by
  obtain ⟨x1, x2, x3, x4, x5⟩ := hx
  obtain ⟨A, K, fi, ch, hr, hg, hc, hch, hR⟩ := h
  have hk := hc.2.1.1
  have c1 := mark_C hc hg v1 v2 v3
  have m1 := mark_ok hr hg v1 v2 v3
  refine ⟨S, M, ?_, Pb_cst (ch' := ch) hr hg hc (by omega) hch hR (Cst_rf z S) (by omega)⟩
  unfold lc_9
  simp only [x1, x2, x3, Option.bind_some]
  rw [cal_k hk, c1, Option.bind_some, m1, Option.bind_some, if_pos rfl]
theorem lq_10 (hx : Sx5 xs Ln i v1 v2 v3 v4 v5) (h : Pb z X (r + 1) S M) : ∃ S' M', lc_10 X xs Ln z i S M = some (S', M') ∧ Pb z X r S' M' := by
  obtain ⟨x1, x2, x3, x4, x5⟩ := hx
  obtain ⟨A, K, fi, ch, hr, hg, hc, hch, hR⟩ := h
  have hk := hc.2.1.1
  obtain ⟨S', c1, c2, c3⟩ := was_C hc hg v1 v2
  obtain ⟨M', m1, m2⟩ := was_ok hr hg v1 v2
  refine ⟨S', M', ?_, Pb_cst (ch' := ch) m2 hg c2 (by omega) hch hR c3 (by omega)⟩
  unfold lc_10
  simp only [x1, x2, Option.bind_some]
  rw [cal_k hk, c1, bn2_s, m1, bn2_s, if_pos rfl]
theorem lq_11 (hx : Sx5 xs Ln i v1 v2 v3 v4 v5) (h : Pb z X (r + 1) S M) : ∃ S' M', lc_11 X xs Ln z i S M = some (S', M') ∧ Pb z X r S' M' := by
  obtain ⟨x1, x2, x3, x4, x5⟩ := hx
  obtain ⟨A, K, fi, ch, hr, hg, hc, hch, hR⟩ := h
  have hk := hc.2.1.1
  have c1 := by_C hc hg v1 v2
  obtain ⟨M', m1, m2⟩ := by_ok hr hg v1 v2
  refine ⟨S, M', ?_, Pb_cst (ch' := ch) m2 hg hc (by omega) hch hR (Cst_rf z S) (by omega)⟩
  unfold lc_11
  simp only [x1, x2, Option.bind_some]
  rw [cal_k hk, c1, Option.bind_some, m1, bn2_s, if_pos rfl]
theorem lq_12 (hx : Sx5 xs Ln i v1 v2 v3 v4 v5) (h : Pb z X (r + 1) S M) : ∃ S' M', lc_12 X xs Ln z i S M = some (S', M') ∧ Pb z X r S' M' := by
  obtain ⟨x1, x2, x3, x4, x5⟩ := hx
  obtain ⟨A, K, fi, ch, hr, hg, hc, hch, hR⟩ := h
  have hk := hc.2.1.1
  have c1 := share_C hc hg v1 v2
  obtain ⟨M', m1, m2⟩ := share_ok hr hg v1 v2
  refine ⟨S, M', ?_, Pb_cst (ch' := ch) m2 hg hc (by omega) hch hR (Cst_rf z S) (by omega)⟩
  unfold lc_12
  simp only [x1, x2, Option.bind_some]
  rw [cal_k hk, c1, Option.bind_some, m1, bn2_s, if_pos rfl]
theorem lq_13 (hx : Sx5 xs Ln i v1 v2 v3 v4 v5) (h : Pb z X (r + 1) S M) : ∃ S' M', lc_13 X xs Ln z i S M = some (S', M') ∧ Pb z X r S' M' := by
  obtain ⟨x1, x2, x3, x4, x5⟩ := hx
  obtain ⟨A, K, fi, ch, hr, hg, hc, hch, hR⟩ := h
  have hk := hc.2.1.1
  obtain ⟨S', c1, c2, c3⟩ := tog_C (X := X) (c := 0) hc hg (Rm_mono hR (by omega)) v1 v2 v3 v4
  obtain ⟨M', m1, m2⟩ := tog_ok hr hg v1 v2 v3 v4
  refine ⟨S', M', ?_, Pb_cst (ch' := ch) m2 hg c2 (by omega) hch hR c3 (by omega)⟩
  unfold lc_13
  simp only [x1, x2, x3, x4, Option.bind_some]
  rw [cal_k hk, c1, bn2_s, m1, bn2_s, if_pos rfl]
theorem lq_14 (hx : Sx5 xs Ln i v1 v2 v3 v4 v5) (h : Pb z X (r + 1) S M) : ∃ S' M', lc_14 X xs Ln z i S M = some (S', M') ∧ Pb z X r S' M' := by
  obtain ⟨x1, x2, x3, x4, x5⟩ := hx
  obtain ⟨A, K, fi, ch, hr, hg, hc, hch, hR⟩ := h
  have hk := hc.2.1.1
  obtain ⟨S', c1, c2, c3⟩ := wout_C (X := X) (c := 0) hc hg (Rm_mono hR (by omega)) v1 v2
  obtain ⟨M', m1, m2⟩ := wout_ok hr hg v1 v2
  refine ⟨S', M', ?_, Pb_cst (ch' := ch) m2 hg c2 (by omega) hch hR c3 (by omega)⟩
  unfold lc_14
  simp only [x1, x2, Option.bind_some]
  rw [cal_k hk, c1, bn2_s, m1, bn2_s, if_pos rfl]
theorem lq_15 (hx : Sx5 xs Ln i v1 v2 v3 v4 v5) (h : Pb z X (r + 1) S M) : ∃ S' M', lc_15 X xs Ln z i S M = some (S', M') ∧ Pb z X r S' M' := by
  obtain ⟨x1, x2, x3, x4, x5⟩ := hx
  obtain ⟨A, K, fi, ch, hr, hg, hc, hch, hR⟩ := h
  have hk := hc.2.1.1
  obtain ⟨S', c1, c2, c3⟩ := quiet_C (X := X) (c := 0) hc hg (Rm_mono hR (by omega)) 
  obtain ⟨M', m1, m2⟩ := quiet_ok hr hg 
  refine ⟨S', M', ?_, Pb_cst (ch' := ch) m2 hg c2 (by omega) hch hR c3 (by omega)⟩
  unfold lc_15
  rw [cal_k hk, c1, bn2_s, m1, bn2_s, if_pos rfl]
theorem lq_16 (hx : Sx5 xs Ln i v1 v2 v3 v4 v5) (h : Pb z X (r + 1) S M) : ∃ S' M', lc_16 X xs Ln z i S M = some (S', M') ∧ Pb z X r S' M' := by
  obtain ⟨x1, x2, x3, x4, x5⟩ := hx
  obtain ⟨A, K, fi, ch, hr, hg, hc, hch, hR⟩ := h
  have hk := hc.2.1.1
  obtain ⟨S', c1, c2, c3⟩ := later_C (X := X) (c := 0) hc hg (Rm_mono hR (by omega)) v1 v2
  obtain ⟨M', m1, m2⟩ := later_ok hr hg v1 v2
  refine ⟨S', M', ?_, Pb_cst (ch' := ch) m2 hg c2 (by omega) hch hR c3 (by omega)⟩
  unfold lc_16
  simp only [x1, x2, Option.bind_some]
  rw [cal_k hk, c1, bn2_s, m1, bn2_s, if_pos rfl]
theorem lq_17 (hx : Sx5 xs Ln i v1 v2 v3 v4 v5) (h : Pb z X (r + 1) S M) : ∃ S' M', lc_17 X xs Ln z i S M = some (S', M') ∧ Pb z X r S' M' := by
  obtain ⟨x1, x2, x3, x4, x5⟩ := hx
  obtain ⟨A, K, fi, ch, hr, hg, hc, hch, hR⟩ := h
  have hk := hc.2.1.1
  obtain ⟨S', c1, c2, c3⟩ := orders_C (X := X) (c := 0) hc hg (Rm_mono hR (by omega)) v1
  obtain ⟨M', m1, m2⟩ := orders_ok hr hg v1
  refine ⟨S', M', ?_, Pb_cst (ch' := ch) m2 hg c2 (by omega) hch hR c3 (by omega)⟩
  unfold lc_17
  simp only [x1, Option.bind_some]
  rw [cal_k hk, c1, bn2_s, m1, bn2_s, if_pos rfl]
theorem lq_18 (hx : Sx5 xs Ln i v1 v2 v3 v4 v5) (h : Pb z X (r + 1) S M) : ∃ S' M', lc_18 X xs Ln z i S M = some (S', M') ∧ Pb z X r S' M' := by
  obtain ⟨x1, x2, x3, x4, x5⟩ := hx
  obtain ⟨A, K, fi, ch, hr, hg, hc, hch, hR⟩ := h
  have hk := hc.2.1.1
  obtain ⟨S', c1, c2, c3⟩ := ends_C (X := X) (c := 0) hc hg (Rm_mono hR (by omega)) v1 v2
  obtain ⟨M', m1, m2⟩ := ends_ok hr hg v1 v2
  refine ⟨S', M', ?_, Pb_cst (ch' := ch) m2 hg c2 (by omega) hch hR c3 (by omega)⟩
  unfold lc_18
  simp only [x1, x2, Option.bind_some]
  rw [cal_k hk, c1, bn2_s, m1, bn2_s, if_pos rfl]
theorem lq_19 (hx : Sx5 xs Ln i v1 v2 v3 v4 v5) (h : Pb z X (r + 1) S M) : ∃ S' M', lc_19 X xs Ln z i S M = some (S', M') ∧ Pb z X r S' M' := by
  obtain ⟨x1, x2, x3, x4, x5⟩ := hx
  obtain ⟨A, K, fi, ch, hr, hg, hc, hch, hR⟩ := h
  have hk := hc.2.1.1
  obtain ⟨S', c1, c2, c3⟩ := see_C hc hg 
  obtain ⟨M', m1, m2⟩ := see_ok hr hg 
  refine ⟨S', M', ?_, Pb_cst (ch' := ch) m2 (GA_see hg ) c2 (by omega) hch hR c3 (by rw [tp_see]; show 0 + 320 * 0 ≤ _; omega)⟩
  unfold lc_19
  rw [cal_k hk, c1, bn2_s, m1, bn2_s, if_pos rfl]
theorem lq_20 (hx : Sx5 xs Ln i v1 v2 v3 v4 v5) (h : Pb z X (r + 1) S M) : ∃ S' M', lc_20 X xs Ln z i S M = some (S', M') ∧ Pb z X r S' M' := by
  obtain ⟨x1, x2, x3, x4, x5⟩ := hx
  obtain ⟨A, K, fi, ch, hr, hg, hc, hch, hR⟩ := h
  have hk := hc.2.1.1
  obtain ⟨S', c1, c2, c3⟩ := fits_C (X := X) (c := 0) hc hg (Rm_mono hR (by omega)) v1
  obtain ⟨M', m1, m2⟩ := fits_ok hr hg v1
  refine ⟨S', M', ?_, Pb_cst (ch' := ch) m2 hg c2 (by omega) hch hR c3 (by omega)⟩
  unfold lc_20
  simp only [x1, Option.bind_some]
  rw [cal_k hk, c1, bn2_s, m1, bn2_s, if_pos rfl]
theorem lq_21 (hx : Sx5 xs Ln i v1 v2 v3 v4 v5) (h : Pb z X (r + 1) S M) : ∃ S' M', lc_21 X xs Ln z i S M = some (S', M') ∧ Pb z X r S' M' := by
  obtain ⟨x1, x2, x3, x4, x5⟩ := hx
  obtain ⟨A, K, fi, ch, hr, hg, hc, hch, hR⟩ := h
  have hk := hc.2.1.1
  obtain ⟨S', c1, c2, c3⟩ := tells_C (X := X) (c := 0) hc hg (Rm_mono hR (by omega)) v1
  obtain ⟨M', m1, m2⟩ := tells_ok hr hg v1
  refine ⟨S', M', ?_, Pb_cst (ch' := ch) m2 hg c2 (by omega) hch hR c3 (by omega)⟩
  unfold lc_21
  simp only [x1, Option.bind_some]
  rw [cal_k hk, c1, bn2_s, m1, bn2_s, if_pos rfl]
theorem lq_22 (hx : Sx5 xs Ln i v1 v2 v3 v4 v5) (h : Pb z X (r + 1) S M) : ∃ S' M', lc_22 X xs Ln z i S M = some (S', M') ∧ Pb z X r S' M' := by
  obtain ⟨x1, x2, x3, x4, x5⟩ := hx
  obtain ⟨A, K, fi, ch, hr, hg, hc, hch, hR⟩ := h
  have hk := hc.2.1.1
  obtain ⟨M', m1, m2⟩ := edit_ok hr hg v1
  obtain ⟨S', c1, c2⟩ := Pb_act (edit_A (X := X) hc hg (by omega) (Rm_act hR) v1) m2 (GA_edit hg v1) hch (by rw [tp_edit]; exact Nat.zero_le _)
  refine ⟨S', M', ?_, c2⟩
  unfold lc_22
  simp only [x1, Option.bind_some]
  rw [cal_k hk, c1, bn2_s, m1, bn2_s, if_pos rfl]
theorem lq_23 (hx : Sx5 xs Ln i v1 v2 v3 v4 v5) (h : Pb z X (r + 1) S M) : ∃ S' M', lc_23 X xs Ln z i S M = some (S', M') ∧ Pb z X r S' M' := by
  obtain ⟨x1, x2, x3, x4, x5⟩ := hx
  obtain ⟨A, K, fi, ch, hr, hg, hc, hch, hR⟩ := h
  have hk := hc.2.1.1
  obtain ⟨M', m1, m2⟩ := put_ok hr hg v1 v2 v3
  obtain ⟨S', c1, c2⟩ := Pb_act (put_A (X := X) hc hg (by omega) (Rm_act hR) v1 v2 v3) m2 (GA_put hg v1 v2 v3) hch (by rw [tp_put]; exact Nat.le_refl _)
  refine ⟨S', M', ?_, c2⟩
  unfold lc_23
  simp only [x1, x2, x3, Option.bind_some]
  rw [cal_k hk, c1, bn2_s, m1, bn2_s, if_pos rfl]
theorem lq_24 (hx : Sx5 xs Ln i v1 v2 v3 v4 v5) (h : Pb z X (r + 1) S M) : ∃ S' M', lc_24 X xs Ln z i S M = some (S', M') ∧ Pb z X r S' M' := by
  obtain ⟨x1, x2, x3, x4, x5⟩ := hx
  obtain ⟨A, K, fi, ch, hr, hg, hc, hch, hR⟩ := h
  have hk := hc.2.1.1
  obtain ⟨M', m1, m2⟩ := cut_ok hr hg v1 v2 v3
  obtain ⟨S', c1, c2⟩ := Pb_act (cut_A (X := X) hc hg (by omega) (Rm_act hR) v1 v2 v3) m2 (GA_cut hg v1 v2 v3) hch (by rw [tp_cut]; exact Nat.le_refl _)
  refine ⟨S', M', ?_, c2⟩
  unfold lc_24
  simp only [x1, x2, x3, Option.bind_some]
  rw [cal_k hk, c1, bn2_s, m1, bn2_s, if_pos rfl]
theorem lq_25 (hx : Sx5 xs Ln i v1 v2 v3 v4 v5) (h : Pb z X (r + 1) S M) : ∃ S' M', lc_25 X xs Ln z i S M = some (S', M') ∧ Pb z X r S' M' := by
  obtain ⟨x1, x2, x3, x4, x5⟩ := hx
  obtain ⟨A, K, fi, ch, hr, hg, hc, hch, hR⟩ := h
  have hk := hc.2.1.1
  obtain ⟨M', m1, m2⟩ := type_ok hr hg v1 v2
  obtain ⟨S', c1, c2⟩ := Pb_act (type_A (X := X) hc hg (by omega) (Rm_act hR) v1 v2) m2 (GA_type hg v1 v2) hch (by rw [tp_type]; exact Nat.le_refl _)
  refine ⟨S', M', ?_, c2⟩
  unfold lc_25
  simp only [x1, x2, Option.bind_some]
  rw [cal_k hk, c1, bn2_s, m1, bn2_s, if_pos rfl]
theorem lq_26 (hx : Sx5 xs Ln i v1 v2 v3 v4 v5) (h : Pb z X (r + 1) S M) : ∃ S' M', lc_26 X xs Ln z i S M = some (S', M') ∧ Pb z X r S' M' := by
  obtain ⟨x1, x2, x3, x4, x5⟩ := hx
  obtain ⟨A, K, fi, ch, hr, hg, hc, hch, hR⟩ := h
  have hk := hc.2.1.1
  obtain ⟨M', m1, m2⟩ := cursor_ok hr hg v1 v2
  obtain ⟨S', c1, c2⟩ := Pb_act (cursor_A (X := X) hc hg (by omega) (Rm_act hR) v1 v2) m2 (GA_cursor hg v1 v2) hch (by rw [tp_cursor]; exact Nat.le_refl _)
  refine ⟨S', M', ?_, c2⟩
  unfold lc_26
  simp only [x1, x2, Option.bind_some]
  rw [cal_k hk, c1, bn2_s, m1, bn2_s, if_pos rfl]
theorem lq_27 (hx : Sx5 xs Ln i v1 v2 v3 v4 v5) (h : Pb z X (r + 1) S M) : ∃ S' M', lc_27 X xs Ln z i S M = some (S', M') ∧ Pb z X r S' M' := by
  obtain ⟨x1, x2, x3, x4, x5⟩ := hx
  obtain ⟨A, K, fi, ch, hr, hg, hc, hch, hR⟩ := h
  have hk := hc.2.1.1
  obtain ⟨M', m1, m2⟩ := marks_ok hr hg v1 v2 v3 v4
  obtain ⟨S', c1, c2⟩ := Pb_act (marks_A (X := X) hc hg (by omega) (Rm_act hR) v1 v2 v3 v4) m2 (GA_marks hg v1 v2 v3 v4) hch (by rw [tp_marks]; exact Nat.le_refl _)
  refine ⟨S', M', ?_, c2⟩
  unfold lc_27
  simp only [x1, x2, x3, x4, Option.bind_some]
  rw [cal_k hk, c1, bn2_s, m1, bn2_s, if_pos rfl]
theorem lq_28 (hx : Sx5 xs Ln i v1 v2 v3 v4 v5) (h : Pb z X (r + 1) S M) : ∃ S' M', lc_28 X xs Ln z i S M = some (S', M') ∧ Pb z X r S' M' := by
  obtain ⟨x1, x2, x3, x4, x5⟩ := hx
  obtain ⟨A, K, fi, ch, hr, hg, hc, hch, hR⟩ := h
  have hk := hc.2.1.1
  obtain ⟨M', m1, m2⟩ := clears_ok hr hg v1 v2
  obtain ⟨S', c1, c2⟩ := Pb_act (clears_A (X := X) hc hg (by omega) (Rm_act hR) v1 v2) m2 (GA_clears hg v1 v2) hch (by rw [tp_clears]; exact Nat.le_refl _)
  refine ⟨S', M', ?_, c2⟩
  unfold lc_28
  simp only [x1, x2, Option.bind_some]
  rw [cal_k hk, c1, bn2_s, m1, bn2_s, if_pos rfl]
theorem lq_29 (hx : Sx5 xs Ln i v1 v2 v3 v4 v5) (h : Pb z X (r + 1) S M) : ∃ S' M', lc_29 X xs Ln z i S M = some (S', M') ∧ Pb z X r S' M' := by
  obtain ⟨x1, x2, x3, x4, x5⟩ := hx
  obtain ⟨A, K, fi, ch, hr, hg, hc, hch, hR⟩ := h
  have hk := hc.2.1.1
  obtain ⟨M', m1, m2⟩ := undo_ok hr hg v1
  obtain ⟨S', c1, c2⟩ := Pb_act (undo_A (X := X) hc hg (by omega) (Rm_act hR) v1) m2 (GA_undo hr hg v1) hch (by rw [tp_undo]; exact Nat.le_refl _)
  refine ⟨S', M', ?_, c2⟩
  unfold lc_29
  simp only [x1, Option.bind_some]
  rw [cal_k hk, c1, bn2_s, m1, bn2_s, if_pos rfl]
theorem lq_30 (hx : Sx5 xs Ln i v1 v2 v3 v4 v5) (h : Pb z X (r + 1) S M) : ∃ S' M', lc_30 X xs Ln z i S M = some (S', M') ∧ Pb z X r S' M' := by
  obtain ⟨x1, x2, x3, x4, x5⟩ := hx
  obtain ⟨A, K, fi, ch, hr, hg, hc, hch, hR⟩ := h
  have hk := hc.2.1.1
  obtain ⟨M', m1, m2⟩ := redo_ok hr hg v1
  obtain ⟨S', c1, c2⟩ := Pb_act (redo_A (X := X) hc hg (by omega) (Rm_act hR) v1) m2 (GA_redo hr hg v1) hch (by rw [tp_redo]; exact Nat.le_refl _)
  refine ⟨S', M', ?_, c2⟩
  unfold lc_30
  simp only [x1, Option.bind_some]
  rw [cal_k hk, c1, bn2_s, m1, bn2_s, if_pos rfl]
theorem lq_31 (hx : Sx5 xs Ln i v1 v2 v3 v4 v5) (h : Pb z X (r + 1) S M) : ∃ S' M', lc_31 X xs Ln z i S M = some (S', M') ∧ Pb z X r S' M' := by
  obtain ⟨x1, x2, x3, x4, x5⟩ := hx
  obtain ⟨A, K, fi, ch, hr, hg, hc, hch, hR⟩ := h
  have hk := hc.2.1.1
  have hb : (if v2 = 0 then some (0 : Int32) else some 1) = some (bI (decide (v2 ≠ 0))) := by
    by_cases hv : v2 = 0
    · rw [if_pos hv, decide_eq_false (fun hh => hh hv)]; rfl
    · rw [if_neg hv, decide_eq_true hv]; rfl
  obtain ⟨M', m1, m2⟩ := line_ok hr hg v1 (bI (decide (v2 ≠ 0)))
  obtain ⟨S', c1, c2⟩ := Pb_act (line_A (X := X) hc hg (by omega) (Rm_act hR) v1 (decide (v2 ≠ 0))) m2 (GA_line hg v1 _) hch (by rw [tp_line]; exact Nat.le_refl _)
  refine ⟨S', M', ?_, c2⟩
  unfold lc_31
  simp only [x1, x2, Option.bind_some]
  rw [hb, Option.bind_some, cal_k hk, c1, bn2_s, Option.bind_some, m1, bn2_s, if_pos rfl]
theorem lq_32 (hx : Sx5 xs Ln i v1 v2 v3 v4 v5) (h : Pb z X (r + 1) S M) : ∃ S' M', lc_32 X xs Ln z i S M = some (S', M') ∧ Pb z X r S' M' := by
  obtain ⟨x1, x2, x3, x4, x5⟩ := hx
  obtain ⟨A, K, fi, ch, hr, hg, hc, hch, hR⟩ := h
  have hk := hc.2.1.1
  obtain ⟨M', m1, m2⟩ := delay_ok hr hg v1 v2
  obtain ⟨S', c1, c2⟩ := Pb_act (delay_A (X := X) hc hg (by omega) (Rm_act hR) v1 v2) m2 (GA_delay hg v1 v2) hch (by rw [tp_delay]; exact Nat.le_refl _)
  refine ⟨S', M', ?_, c2⟩
  unfold lc_32
  simp only [x1, x2, Option.bind_some]
  rw [cal_k hk, c1, bn2_s, m1, bn2_s, if_pos rfl]
theorem lq_33 (hx : Sx5 xs Ln i v1 v2 v3 v4 v5) (h : Pb z X (r + 1) S M) : ∃ S' M', lc_33 X xs Ln z i S M = some (S', M') ∧ Pb z X r S' M' := by
  obtain ⟨x1, x2, x3, x4, x5⟩ := hx
  obtain ⟨A, K, fi, ch, hr, hg, hc, hch, hR⟩ := h
  have hk := hc.2.1.1
  obtain ⟨M', m1, m2⟩ := ticks_ok hr hg v1
  obtain ⟨S', c1, c2⟩ := Pb_act (ticks_A (X := X) hc hg (by omega) (Rm_act hR) v1) m2 (GA_ticks hg v1) hch (by rw [tp_ticks]; exact Nat.le_refl _)
  refine ⟨S', M', ?_, c2⟩
  unfold lc_33
  simp only [x1, Option.bind_some]
  rw [cal_k hk, c1, bn2_s, m1, bn2_s, if_pos rfl]
theorem lq_34 (hx : Sx5 xs Ln i v1 v2 v3 v4 v5) (h : Pb z X (r + 1) S M) : ∃ S' M', lc_34 X xs Ln z i S M = some (S', M') ∧ Pb z X r S' M' := by
  obtain ⟨x1, x2, x3, x4, x5⟩ := hx
  obtain ⟨A, K, fi, ch, hr, hg, hc, hch, hR⟩ := h
  have hk := hc.2.1.1
  obtain ⟨M', m1, m2⟩ := chance_ok hr hg v1
  obtain ⟨S', c1, c2⟩ := Pb_act (chance_A (X := X) hc hg (by omega) (Rm_act hR) v1) m2 (GA_chance hr hg v1) hch (by rw [tp_chance]; exact Nat.le_refl _)
  refine ⟨S', M', ?_, c2⟩
  unfold lc_34
  simp only [x1, Option.bind_some]
  rw [cal_k hk, c1, bn2_s, m1, bn2_s, if_pos rfl]
theorem lq_35 (hx : Sx5 xs Ln i v1 v2 v3 v4 v5) (h : Pb z X (r + 1) S M) : ∃ S' M', lc_35 X xs Ln z i S M = some (S', M') ∧ Pb z X r S' M' := by
  obtain ⟨x1, x2, x3, x4, x5⟩ := hx
  obtain ⟨A, K, fi, ch, hr, hg, hc, hch, hR⟩ := h
  have hk := hc.2.1.1
  obtain ⟨S', ch', c1, c2, c3, c4⟩ := back_C (X := X) (c := 0) hc hg (by omega) (Rm_mono hR (by omega))
  obtain ⟨M', m1, m2⟩ := back_ok hr hg
  refine ⟨S', M', ?_, Pb_cst m2 (GA_back hg) c2 c3 hch hR c4 (by rw [tp_back]; omega)⟩
  unfold lc_35
  rw [cal_k hk, c1, bn2_s, m1, bn2_s, if_pos rfl]
theorem lq_36 (hx : Sx5 xs Ln i v1 v2 v3 v4 v5) (h : Pb z X (r + 1) S M) : ∃ S' M', lc_36 X xs Ln z i S M = some (S', M') ∧ Pb z X r S' M' := by
  obtain ⟨x1, x2, x3, x4, x5⟩ := hx
  obtain ⟨A, K, fi, ch, hr, hg, hc, hch, hR⟩ := h
  have hk := hc.2.1.1
  obtain ⟨S', c1, c2, c3⟩ := seed_C hc hg v1
  obtain ⟨M', m1, m2⟩ := seed_ok hr v1
  refine ⟨S', M', ?_, Pb_cst (ch' := ch) m2 (GA_seedA hg v1) c2 (by omega) hch hR c3 (by rw [tp_seed]; omega)⟩
  unfold lc_36
  simp only [x1, Option.bind_some]
  rw [cal_k hk, c1, bn2_s, m1, bn2_s, if_pos rfl]
theorem lq_37 (hx : Sx5 xs Ln i v1 v2 v3 v4 v5) (h : Pb z X (r + 1) S M) : ∃ S' M', lc_37 X xs Ln z i S M = some (S', M') ∧ Pb z X r S' M' := by
  obtain ⟨x1, x2, x3, x4, x5⟩ := hx
  obtain ⟨A, K, fi, ch, hr, hg, hc, hch, hR⟩ := h
  have hk := hc.2.1.1
  have c1 := status_C hc v1
  have m1 := status_ok hr v1
  refine ⟨S, M, ?_, Pb_cst (ch' := ch) hr hg hc (by omega) hch hR (Cst_rf z S) (by omega)⟩
  unfold lc_37
  simp only [x1, Option.bind_some]
  rw [cal_k hk, c1, Option.bind_some, m1, Option.bind_some, if_pos rfl]
end TU
