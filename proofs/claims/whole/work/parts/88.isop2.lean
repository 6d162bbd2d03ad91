/-! ===== PART II, the reference: what an operation of the tape is ===== -/
theorem bd_end (p : Pz) : pBd (endW p) = pBd p := rfl
theorem word_good {T : List Int32} {most : Nat} {p : Pz} (h : pBd (pWord T most p).2 = 0) : pBd p = 0 ∧ isLt (byteAt T (lkP T (pAt p))) = true ∧ pEd p ≠ some (lkP T (pAt p)) ∧ ltN (T.drop (lkP T (pAt p))) ≤ most ∧ pWord T most p = (lkP T (pAt p), endW (lkP T (pAt p) + ltN (T.drop (lkP T (pAt p))), p.2)) := by
  unfold pWord at h ⊢
  by_cases hb : pBd p = 0
  · rw [if_pos hb] at h ⊢
    by_cases hc : isLt (byteAt T (lkP T (pAt p))) = true ∧ pEd p ≠ some (lkP T (pAt p))
    · rw [if_pos hc] at h ⊢
      by_cases hm : 0 + ltN (T.drop (lkP T (pAt p))) ≤ most
      · rw [if_pos hm]
        exact ⟨hb, hc.1, hc.2, by omega, by rw [Nat.add_zero]⟩
      · rw [if_neg hm] at h
        exact absurd h (fail_is (by omega))
    · rw [if_neg hc] at h
      exact absurd h (fail_is (by omega))
  · rw [if_neg hb] at h
    exact absurd h hb
theorem ltN_all : ∀ l : List Int32, ∀ v ∈ l.take (ltN l), isLt v = true := by
  intro l
  induction l with
  | nil => intro v hv; simp at hv
  | cons c l ih =>
    intro v hv
    rw [ltN] at hv
    by_cases hc : isLt c = true
    · rw [if_pos hc, List.take_succ_cons] at hv
      rcases List.mem_cons.mp hv with rfl | hv
      · exact hc
      · exact ih v hv
    · rw [if_neg hc, List.take_zero] at hv
      exact absurd hv List.not_mem_nil
theorem lt_okP {c : Int32} (h : isLt c = true) : okP (c - 97 + 1) := by
  unfold isLt at h
  simp only [Bool.and_eq_true, decide_eq_true_eq] at h
  have hn := ofI (show 0 ≤ c.toInt by omega)
  refine ⟨c.toInt.toNat - 97 + 1, by omega, by omega, ?_⟩
  conv => lhs; rw [hn]
  rw [show (97 : Int32) = nI 97 from rfl, nI_sub (by omega), nI_1]
theorem oldL_okP {l : List Int32} (h : ∀ v ∈ l, okP v) : oldL l = 0 := by
  induction l with
  | nil => rfl
  | cons c l ih =>
    obtain ⟨p1, p2, p3, p4, p5⟩ := okP3 (h c List.mem_cons_self)
    rw [(cntP p1 p2 p3 p5 l).1]
    exact ih (fun v hv => h v (List.mem_cons_of_mem _ hv))
theorem oldL_cut (n : Nat) : oldL (List.replicate n (-1 : Int32)) = n := by
  induction n with
  | zero => rfl
  | succ n ih => rw [List.replicate_succ]; have := (cntC (List.replicate n (-1))).1; omega
theorem stp_ok {T : List Int32} {p : Pz} (h : pBd (pStp T p).2 = 0) : okO (stepL (pStp T p).1) ∧ oldL (stepL (pStp T p).1) = stepN (pStp T p).1 := by
  unfold pStp at h ⊢
  cases hs1 : (pSign T 43 p).1 with
  | true =>
    rw [hs1, if_pos rfl] at h
    rw [if_pos rfl]
    obtain ⟨-, -, -, -, w5⟩ := word_good h
    have hL : ∀ v ∈ ltrs T (pWord T 20 (pSign T 43 p).2).1 (pAt (pWord T 20 (pSign T 43 p).2).2), okP v := by
      rw [w5]
      intro v hv
      unfold ltrs at hv
      obtain ⟨c, hc, rfl⟩ := List.mem_map.mp hv
      rw [show pAt (endW (lkP T (pAt (pSign T 43 p).2) + ltN (T.drop (lkP T (pAt (pSign T 43 p).2))), (pSign T 43 p).2.2)) - lkP T (pAt (pSign T 43 p).2) = ltN (T.drop (lkP T (pAt (pSign T 43 p).2))) from Nat.add_sub_cancel_left _ _] at hc
      exact lt_okP (ltN_all _ c hc)
    exact ⟨fun v hv => okP_V (hL v hv), oldL_okP hL⟩
  | false =>
    rw [if_neg (by decide)]
    cases hs2 : (pSign T 45 (pSign T 43 p).2).1 with
    | false => exact ⟨fun v hv => by rw [List.eq_of_mem_replicate hv]; exact ok_0, oldL_rep _⟩
    | true => exact ⟨fun v hv => by rw [List.eq_of_mem_replicate hv]; exact ok_C, oldL_cut _⟩
theorem steps_ok {T : List Int32} {wh : Bool} : ∀ (d k : Nat) (p : Pz), pBd p = 0 → pBd (pOp T wh d k p).2 = 0 → okO (stpsL (pOp T wh d k p).1) ∧ oldL (stpsL (pOp T wh d k p).1) = stpsN (pOp T wh d k p).1 := by
  intro d
  induction d with
  | zero => intro k p hb h; exact ⟨fun v hv => absurd hv List.not_mem_nil, rfl⟩
  | succ d ih =>
    intro k p hb h
    obtain ⟨hk, hs⟩ := op_step_ok hb h
    obtain ⟨s1, s2⟩ := stp_ok hs
    rw [op_succ hb hk] at h ⊢
    split
    · refine ⟨?_, ?_⟩
      · show okO (stepL _ ++ []); rw [List.append_nil]; exact s1
      · show oldL (stepL _ ++ []) = stepN _ + 0; rw [List.append_nil]; exact s2
    · rename_i hc
      rw [if_neg hc] at h
      obtain ⟨i1, i2⟩ := ih (k + 1) (lkP T (pAt (pStp T p).2), (pStp T p).2.2) hs h
      refine ⟨fun v hv => ?_, ?_⟩
      · rcases List.mem_append.mp hv with hv | hv
        · exact s1 v hv
        · exact i1 v hv
      · show oldL (stepL _ ++ stpsL _) = stepN _ + stpsN _
        rw [oldL_app, s2, i2]
theorem isOp_ok {M : MS} {T : List Int32} {p : Pz} {wh : Bool} {e len : Nat} (h : RQ M T p) (hb : pBd p = 0) (ho : pBd (pOp T wh 42 0 p).2 = 0) (hits : f12_its M (nI e) (21 : Int32) = some (nI len)) (hlen : len ≤ 240) :
    ∃ M', f12_isOp M (nI e) = some (if stpsN (pOp T wh 42 0 p).1 ≤ len then 1 else 0, M') ∧ RQ M' T (pOp T wh 42 0 p).2 ∧ Frm [20, 24] [2, 4, 5, 6, 25] M M' ∧ (stpsN (pOp T wh 42 0 p).1 ≤ len → Row M' 20 25 (settleL ((stpsL (pOp T wh 42 0 p).1 ++ List.replicate (len - stpsN (pOp T wh 42 0 p).1) 0).take 700))) := by
  have r0 : Row (sF M 25 (0 : Int32)) 20 25 [] := ⟨by rw [sF_get]; rfl, fun k hk => absurd hk (Nat.not_lt_zero _)⟩
  obtain ⟨M3, a1, a2, a3, a4, c, a5, a6, a7⟩ := isOp_loop (wh := wh) hlen 42 FU 0 p (sF M 25 (0 : Int32)) [] 0 (RQ_F h (by omega)) hb ho (by omega) (by omega) (by rw [FU_eq]; omega) (by omega) ⟨[], r0, by simp, fun _ => rfl⟩
  have f0 : Frm [20, 24] [2, 4, 5, 6, 25] M (sF M 25 (0 : Int32)) := Frm_sF (by decide)
  have f3 : Frm [20, 24] [2, 4, 5, 6, 25] M M3 := Frm_trans f0 (Frm_mono a3 (by simp) (by simp))
  rw [Nat.zero_add, List.nil_append] at *
  generalize (pOp T wh 42 0 p).1 = ss at *
  have hd := nI_dif (a := len) (b := stpsN ss) (by omega) (by omega)
  have hsub : nI len - nI 0 = nI len := by rw [nI_sub (by omega)]; rfl
  rw [hsub] at a1
  unfold f12_isOp
  rw [hits, Option.bind_some, a1, bn2_s]
  by_cases hn : stpsN ss ≤ len
  · have hge : (0 : Int32) ≤ nI len - nI (stpsN ss) := Int32.le_iff_toInt_le.mpr (by rw [hd, show (0 : Int32).toInt = 0 from by decide]; omega)
    rw [if_pos hge, if_pos hn, nI_sub hn]
    obtain ⟨M5, b1, b2, b3⟩ := zer_loop (len - stpsN ss) FU c M3 (by omega) a5 a6 (by rw [FU_eq]; omega)
    rw [a7 hn, take_app] at b2
    rw [b1, Option.bind_some]
    generalize hX : (stpsL ss ++ List.replicate (len - stpsN ss) 0).take 700 = X at *
    have hXl : X.length ≤ 700 := by rw [← hX, List.length_take]; omega
    obtain ⟨g, s1⟩ := settles_ok (M := M5) (a1 := 20) (A := X) (by decide) b2.2 hXl hXl
    refine ⟨sR (sR M5 24 g) 20 (wr (M5.2.1 20) 0 (settleL X)), ?_, ?_, ?_, fun _ => ?_⟩
    · rw [show gF M5 25 = _ from b2.1, s1, Option.bind_some]
    · exact RQ_same (Frm_20 a2 b3) (fun k hk => by rw [sR_ne _ _ (by omega), sR_ne _ _ (by omega)]) (fun k k1 k2 => rfl)
    · exact Frm_trans f3 (Frm_trans (Frm_mono b3 (by simp) (by simp)) (Frm_trans (Frm_sR (by decide)) (Frm_sR (by decide))))
    · refine ⟨?_, ?_⟩
      · show M5.1 25 = _
        rw [settleL_len]; exact b2.1
      · rw [sR_get]
        intro k hk
        exact wr_in hk
  · have hge : ¬ (0 : Int32) ≤ nI len - nI (stpsN ss) := fun hh => by
      have := Int32.le_iff_toInt_le.mp hh
      rw [hd, show (0 : Int32).toInt = 0 from by decide] at this
      omega
    rw [if_neg hge, if_neg hn]
    exact ⟨M3, rfl, a2, f3, fun hh => absurd hh hn⟩
/-- whether an operation can be an edit -/
def canW (W : Wd) (op : List Int32) : Bool := !(idleB op) && decide (wEd W < 100) && decide (wPu W + putsL op ≤ 200)
theorem oldL_take (l : List Int32) (n : Nat) : oldL (l.take n) ≤ oldL l := by
  have := oldL_app (l.take n) (l.drop n)
  rw [List.take_append_drop] at this
  omega
theorem canW_puts {W : Wd} {op : List Int32} (h : 200 < putsL op) : canW W op = false := by
  unfold canW
  rw [show decide (wPu W + putsL op ≤ 200) = false from decide_eq_false (by omega), Bool.and_false]
theorem canW_cut {W : Wd} {L : List Int32} (hL : okO L) (ho : oldL L ≤ 240) (hl : ¬ L.length ≤ 700) : canW W (settleL (L.take 700)) = false ∧ canW W (settleL L) = false := by
  have h1 := cnt_len hL
  have h2 := cnt_len (A := L.take 700) (fun v hv => hL v (List.mem_of_mem_take hv))
  have h3 := oldL_take L 700
  rw [List.length_take] at h2
  exact ⟨canW_puts (by rw [settle_puts]; omega), canW_puts (by rw [settle_puts]; omega)⟩
theorem opTo_ok {ss : List Sv} {len : Nat} (h1 : okO (stpsL ss)) (h2 : oldL (stpsL ss) = stpsN ss) (h3 : stpsN ss ≤ len) : okO (stpsL ss ++ List.replicate (len - stpsN ss) 0) ∧ oldL (stpsL ss ++ List.replicate (len - stpsN ss) 0) = len := by
  refine ⟨fun v hv => ?_, by rw [oldL_app, oldL_rep, h2]; omega⟩
  rcases List.mem_append.mp hv with hv | hv
  · exact h1 v hv
  · rw [List.eq_of_mem_replicate hv]; exact ok_0
