/-! ===== PART II, the class: turn, as letters ===== -/
theorem len_dec {R : List Pt} (h : CanR R) : R.length ≤ (decR R).length := by
  induction R with
  | nil => exact Nat.le_refl _
  | cons x r ih =>
    have := ih h.2.2
    rw [decR, List.length_append, List.length_cons]
    have h1 := h.1
    have : 1 ≤ (dec1 x).length := by
      have := (dec1_ne h1).1
      cases hd : dec1 x with
      | nil => exact absurd hd this
      | cons a l => simp
    omega
theorem decF_R (R : List Pt) : decF R.reverse = decR R := by rw [← decR_F, List.reverse_reverse]
theorem Blt_nil : Blt [] [] := ⟨trivial, rfl⟩
theorem FU_gt : 19999 < FU := by rw [FU_eq]; omega
/-- an operation turns over another; both change -/
theorem turn_L {z : Nat} {X : Nat × Nat} {S : CS} {g p q c : Nat} {A B : List Int32} {ah : Bool} (hW : Wf S) (hR : Rm z X c S) (hw : Wv S g) (hg1 : grw z (g + 7)) (hg2 : grw z (g + 9)) (hwp : wt z p = wt z (g + 7)) (hwq : wt z q = wt z (g + 9)) (hp : OpL S p A) (hq : OpL S q B) (hpq : p ≠ q) (hne : p ≠ g + 7 ∧ p ≠ g + 9 ∧ q ≠ g + 7 ∧ q ≠ g + 9) (ho : oldL A = oldL B) (hlA : A.length ≤ 400) (hlB : B.length ≤ 400) :
    ∃ S', f9_turn X S g p q (bI ah) = some S' ∧ OpL S' p (turnC ah A B) ∧ OpL S' q (turnD ah A B) ∧ Sg z (fun x => x = p ∨ x = q ∨ Hw g x) 0 S S' ∧ (lenO S' (g + 7) = lenO S p ∧ lenO S (g + 7) ≤ lenO S' p) ∧ ∃ l, OpL S' (g + 9) l := by
  obtain ⟨RA, hpR, dA⟩ := hp
  obtain ⟨RB, hqR, dB⟩ := hq
  have lA := len_dec hpR.1
  have lB := len_dec hqR.1
  rw [dA] at lA
  rw [dB] at lB
  obtain ⟨w1, w2, w3, w4, w5, w6, w7, w8, w9, wa, wb, wc, wd⟩ := id hw
  obtain ⟨_, aA, hA⟩ := id hpR
  obtain ⟨_, aB, hB⟩ := id hqR
  obtain ⟨r7, t1, t2, t3, t4, t5⟩ := hW.2.2.2.1 (g + 7) wa
  obtain ⟨r9, u1, u2, u3, u4, u5⟩ := hW.2.2.2.1 (g + 9) wb
  unfold f9_turn
  rw [OpA_gi hA, Option.bind_some, OpA_gi hB, Option.bind_some, gr_k w1 w4, Option.bind_some, cal_k wa, nI_add]
  generalize hm : RA.length + RB.length = most
  have hH : ∀ x, (fun x => x = g + 7) x → (fun x => x = p ∨ x = q ∨ Hw g x) x := fun x hx => Or.inr (Or.inr (Or.inr (Or.inr (Or.inl hx))))
  obtain ⟨S1, e1, o1, ⟨m1, m1'⟩, s1⟩ := begin_R (m := most) hW hR hg1 wa (by omega)
  rw [e1, Option.bind_some]
  have hR1 := Rm_step (c := 0) (d := c) (by rw [Nat.zero_add]; exact hR) s1
  have v1 := Wv_Sg hW hw s1
  have p1 := OpR_Fo hW hpR s1.2.1 hne.1
  have q1 := OpR_Fo hW hqR s1.2.1 hne.2.2.1
  rw [gr_k v1.1 v1.2.2.2.2.1, Option.bind_some, cal_k v1.2.2.2.2.2.2.2.2.2.2.1]
  obtain ⟨S2, e2, o2, ⟨m2, m2'⟩, s2⟩ := begin_R (m := most) s1.1 hR1 hg2 v1.2.2.2.2.2.2.2.2.2.2.1 (by omega)
  rw [e2, Option.bind_some]
  have v2 := Wv_Sg s1.1 v1 s2
  have p2 := OpR_Fo s1.1 p1 s2.2.1 hne.2.1
  have q2 := OpR_Fo s1.1 q1 s2.2.1 hne.2.2.2
  have oA2 := OpR_Fo s1.1 o1 s2.2.1 (show ¬ g + 7 = g + 9 by omega)
  have lA2 : lenO S2 (g + 7) = lenO S1 (g + 7) := lenO_Fo s1.1 (OpR_kd o1) s2.2.1 (show ¬ g + 7 = g + 9 by omega)
  rw [gr_k v2.1 v2.2.1, Option.bind_some, cal_k v2.2.2.2.2.2.2.2.1]
  obtain ⟨S3, e3, o3, s3⟩ := open_R (z := z) s2.1 v2.2.2.2.2.2.2.2.1 p2
  rw [e3, Option.bind_some]
  have v3 := Wv_Sg s2.1 v2 s3
  have n1 : ∀ x, kd S2 x = 4 → ¬ x = g + 1 := fun x hx e => by rw [e, v2.2.2.2.2.2.2.2.1] at hx; omega
  have p3 := OpR_Fo s2.1 p2 s3.2.1 (n1 p (OpR_kd p2))
  have q3 := OpR_Fo s2.1 q2 s3.2.1 (n1 q (OpR_kd q2))
  have oA3 := OpR_Fo s2.1 oA2 s3.2.1 (show ¬ g + 7 = g + 1 by omega)
  have oB3 := OpR_Fo s2.1 o2 s3.2.1 (show ¬ g + 9 = g + 1 by omega)
  have lA3 : lenO S3 (g + 7) = lenO S2 (g + 7) := lenO_Fo s2.1 (OpR_kd oA2) s3.2.1 (show ¬ g + 7 = g + 1 by omega)
  have lB3 : lenO S3 (g + 9) = lenO S2 (g + 9) := lenO_Fo s2.1 (OpR_kd o2) s3.2.1 (show ¬ g + 9 = g + 1 by omega)
  rw [gr_k v3.1 v3.2.2.1, Option.bind_some, cal_k v3.2.2.2.2.2.2.2.2.1]
  obtain ⟨S4, e4, o4, s4⟩ := open_R (z := z) s3.1 v3.2.2.2.2.2.2.2.2.1 q3
  rw [e4, Option.bind_some]
  have v4 := Wv_Sg s3.1 v3 s4
  have n2 : ∀ x, kd S3 x = 4 → ¬ x = g + 4 := fun x hx e => by rw [e, v3.2.2.2.2.2.2.2.2.1] at hx; omega
  have t4 : TS S4 g p q RA RB RA.reverse RB.reverse [] [] := ⟨s4.1, v4, RdR_Fo o3 s4.2.1 (show ¬ g + 1 = g + 4 by omega), o4, OpR_Fo s3.1 p3 s4.2.1 (n2 p (OpR_kd p3)), OpR_Fo s3.1 q3 s4.2.1 (n2 q (OpR_kd q3)), OpR_Fo s3.1 oA3 s4.2.1 (show ¬ g + 7 = g + 4 by omega), OpR_Fo s3.1 oB3 s4.2.1 (show ¬ g + 9 = g + 4 by omega), hne⟩
  have lA4 : lenO S4 (g + 7) = lenO S3 (g + 7) := lenO_Fo s3.1 (OpR_kd oA3) s4.2.1 (show ¬ g + 7 = g + 4 by omega)
  have lB4 : lenO S4 (g + 9) = lenO S3 (g + 9) := lenO_Fo s3.1 (OpR_kd oB3) s4.2.1 (show ¬ g + 9 = g + 4 by omega)
  have dFA : decF RA.reverse = A := by rw [decF_R, dA]
  have dFB : decF RB.reverse = B := by rw [decF_R, dB]
  have hbn : BN (lenO S4 (g + 7)) (lenO S4 (g + 9)) RA.reverse RB.reverse [] [] := by
    refine ⟨?_, ?_, ?_, ?_⟩
    · rw [List.length_reverse, List.length_reverse, List.length_nil]; omega
    · rw [List.length_reverse, List.length_reverse, List.length_nil]; omega
    · rw [dFA, dFB]; show 0 + A.length + B.length < 100000; omega
    · rw [dFA, dFB]; show 0 + A.length + B.length < 100000; omega
  have hFU := FU_gt
  obtain ⟨A', B', S5, e5, t5', l5, l5', s5⟩ := tloop (z := z) (ah := ah) (most := most) (by omega) most 0 FU S4 _ _ _ _ (by omega) (by omega) t4 hbn rfl rfl
  rw [show (0 : Int32) = nI 0 from rfl, e5, Option.bind_some]
  have hT := turnP_ok ah most RA.reverse RB.reverse [] [] [] [] (fun x hx => CanR_ok hpR.1 x (List.mem_reverse.mp hx)) (fun x hx => CanR_ok hqR.1 x (List.mem_reverse.mp hx)) (by rw [dFA, dFB]; exact ho) Blt_nil Blt_nil (by rw [List.length_reverse, List.length_reverse]; omega) (by rw [dFA, dFB]; show 0 + A.length + B.length ≤ 100000; omega) (by rw [dFA, dFB]; show 0 + A.length + B.length ≤ 100000; omega)
  rw [dFA, dFB, List.nil_append, List.nil_append] at hT
  obtain ⟨x1, x2, x3, x4, x5, x6, x7, x8, x9⟩ := t5'
  have hs5 := Sg_trans (Sg_trans (Sg_trans (Sg_trans (Sg_mono hW s1 hH (Nat.le_refl 0)) (Sg_mono s1.1 s2 (H' := fun x => x = p ∨ x = q ∨ Hw g x) (fun x hx => Or.inr (Or.inr (Or.inr (Or.inr (Or.inr hx))))) (Nat.le_refl 0))) (Sg_mono s2.1 s3 (H' := fun x => x = p ∨ x = q ∨ Hw g x) (fun x hx => Or.inr (Or.inr (Or.inl hx))) (Nat.le_refl 0))) (Sg_mono s3.1 s4 (H' := fun x => x = p ∨ x = q ∨ Hw g x) (fun x hx => Or.inr (Or.inr (Or.inr (Or.inl hx)))) (Nat.le_refl 0))) (Sg_mono s4.1 s5 (H' := fun x => x = p ∨ x = q ∨ Hw g x) (fun x hx => Or.inr (Or.inr hx)) (Nat.le_refl 0))
  rw [gr_k x2.1 x2.2.2.2.1, Option.bind_some, cal_k (OpR_kd x5)]
  obtain ⟨S6, e6, a6, b6, l6, l6', s6⟩ := swap_R (z := z) x1 x5 x7 hne.1 hwp
  rw [e6, Option.bind_some]
  have v6 := Wv_Sg x1 x2 s6
  have q6 := OpR_Fo x1 x6 s6.2.1 (fun hh => hh.elim (fun e => hpq e.symm) (fun e => hne.2.2.1 e))
  have o6 := OpR_Fo x1 x8 s6.2.1 (fun hh => hh.elim (fun e => hne.2.1 e.symm) (fun e => by omega))
  rw [gr_k v6.1 v6.2.2.2.2.1, Option.bind_some, cal_k (OpR_kd q6)]
  obtain ⟨S7, e7, a7, b7, l7, l7', s7⟩ := swap_R (z := z) s6.1 q6 o6 hne.2.2.2 hwq
  rw [e7, Option.bind_some]
  have hpS7 := OpR_Fo s6.1 a6 s7.2.1 (fun hh => hh.elim (fun e => hpq e) (fun e => hne.2.1 e))
  have lp7 : lenO S7 p = lenO S6 p := lenO_Fo s6.1 (OpR_kd a6) s7.2.1 (fun hh => hh.elim (fun e => hpq e) (fun e => hne.2.1 e))
  have lg7 : lenO S7 (g + 7) = lenO S6 (g + 7) := lenO_Fo s6.1 (OpR_kd b6) s7.2.1 (fun hh => hh.elim (fun e => hne.2.2.1 e.symm) (fun e => by omega))
  have lpp : lenO S5 p = lenO S p := by
    rw [lenO_Fo s4.1 (OpR_kd t4.2.2.2.2.1) s5.2.1 (fun hh => by
      rcases hh with hh | hh | hh | hh
      · exact n1 p (OpR_kd p2) hh
      · exact n2 p (OpR_kd p3) hh
      · exact hne.1 hh
      · exact hne.2.1 hh), lenO_Fo s3.1 (OpR_kd p3) s4.2.1 (n2 p (OpR_kd p3)), lenO_Fo s2.1 (OpR_kd p2) s3.2.1 (n1 p (OpR_kd p2)), lenO_Fo s1.1 (OpR_kd p1) s2.2.1 hne.2.1, lenO_Fo hW (OpR_kd hpR) s1.2.1 hne.1]
  refine ⟨S7, rfl, ⟨_, hpS7, hT.1.2⟩, ⟨_, a7, hT.2.2⟩, ?_, ⟨?_, ?_⟩, ⟨_, _, b7, rfl⟩⟩
  · refine Sg_trans (Sg_trans hs5 (Sg_mono x1 s6 (fun x hx => ?_) (Nat.le_refl 0))) (Sg_mono s6.1 s7 (fun x hx => ?_) (Nat.le_refl 0))
    · exact hx.elim Or.inl (fun e => Or.inr (Or.inr (Or.inr (Or.inr (Or.inl e)))))
    · exact hx.elim (fun e => Or.inr (Or.inl e)) (fun e => Or.inr (Or.inr (Or.inr (Or.inr (Or.inr e)))))
  · rw [lg7, l6', lpp]
  · rw [lp7, l6]; omega
