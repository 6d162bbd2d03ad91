/-! ===== PART II, the class: operations are copied, changed for each other; a reader ===== -/
theorem swap_R {z : Nat} {S : CS} {h p : Nat} {R Q : List Pt} (hW : Wf S) (hO : OpR S h R) (hP : OpR S p Q) (hne : h ≠ p) (hw : wt z h = wt z p) : ∃ S', f4_swap S h p = some S' ∧ OpR S' h Q ∧ OpR S' p R ∧ lenO S' h = lenO S p ∧ lenO S' p = lenO S h ∧ Sg z (fun x => x = h ∨ x = p) 0 S S' := by
  obtain ⟨hc, a, hA⟩ := hO
  obtain ⟨hd, b, hB⟩ := hP
  obtain ⟨S', e1, e2, e3, _, _, _, _, e8, _⟩ := swap_ok hA hB hne
  obtain ⟨⟨q1, q2, q3, q4, q5⟩, q6, q7, q8, q9⟩ := id hA
  obtain ⟨⟨r1, r2, r3, r4, r5⟩, r6, r7, r8, r9⟩ := id hB
  have e : f4_swap S h p = some (setI (setI (setJ (setJ S h 0 (some b)) p 0 (some a)) h 1 (nI Q.length)) p 1 (nI R.length)) := by
    unfold f4_swap
    rw [OpA_gr hA, Option.bind_some, OpA_gi hA, Option.bind_some, OpA_gr hB, Option.bind_some, pr_k q3, Option.bind_some, gi_k (S := setJ S h 0 (some b)) r3, show cI (setJ S h 0 (some b)) p 1 = nI Q.length from r6, Option.bind_some, pi_k (S := setJ S h 0 (some b)) q3, Option.bind_some, pr_k (S := setI (setJ S h 0 (some b)) h 1 (nI Q.length)) r3, Option.bind_some, pi_k (S := setJ (setI (setJ S h 0 (some b)) h 1 (nI Q.length)) p 0 (some a)) r3, Option.bind_some]
    rfl
  have hS := Option.some.inj (e1.symm.trans e)
  have s1 : Sg z (fun x => x = h ∨ x = p) 0 S (setJ (setJ S h 0 (some b)) p 0 (some a)) := Sg_swapJ hW hne (Or.inl rfl) (Or.inr rfl) q5 r5 q4 r4 ⟨fun hh => hh.1 ⟨q3, rfl⟩, fun hh => hh.1 ⟨r3, rfl⟩⟩ (Or.inl ⟨q3, r3, rfl, rfl, hw⟩)
  have s2 := Sg_trans s1 (Sg_setI (k := 1) (v := nI Q.length) s1.1 (Or.inl rfl))
  have s3 := Sg_trans s2 (Sg_setI (k := 1) (v := nI R.length) s2.1 (Or.inr rfl))
  refine ⟨S', e1, ⟨hd, b, e2⟩, ⟨hc, a, e3⟩, ?_, ?_, ?_⟩
  · rw [lenO_of e2.1.2.2.2.2, lenO_of r5, e8]
  · rw [lenO_of e3.1.2.2.2.2, lenO_of q5, e8]
  · rw [hS]; exact s3
theorem cpy_seg {f h : Nat → Int32} {l : List Int32} {n : Nat} (hs : seg f 0 l) (hn : l.length ≤ n) : seg (va_cpy f h 0 0 n) 0 l := by
  intro k hk
  have := hs k hk
  rw [Nat.zero_add] at this ⊢
  unfold va_cpy
  rw [if_pos ⟨Nat.zero_le _, by omega⟩, Nat.zero_add, Nat.sub_zero]
  exact this
/-- a copy: no row is made, or one as long as the other's -/
theorem copy_R {z : Nat} {X : Nat × Nat} {S : CS} {h p c d : Nat} {Q : List Pt} (hW : Wf S) (hR : Rm z X d S) (q3 : kd S h = 4) (hP : OpR S p Q) (hne : h ≠ p) (hw : cpc z h Q.length c) : ∃ S', f4_copy X S h p = some S' ∧ OpR S' h Q ∧ ((lenO S' h = lenO S h ∧ Sg z (fun x => x = h) 0 S S') ∨ (lenO S h < Q.length ∧ lenO S' h = lenO S p ∧ Sg z (fun x => x = h) c S S')) := by
  obtain ⟨hd, b, hB⟩ := hP
  obtain ⟨⟨r1, r2, r3, r4, r5⟩, r6, r7, r8, r9⟩ := id hB
  obtain ⟨b', t1, t2, t3, t4, t5⟩ := hW.2.2.2.1 p r3
  have hbb : b' = b := Option.some.inj (t1.symm.trans r5)
  subst hbb
  obtain ⟨a, q5, q4, g3, g4, g5⟩ := hW.2.2.2.1 h q3
  obtain ⟨q1, q2⟩ := hW.2.1 h 0 a q5
  obtain ⟨u1, u2⟩ := Rm_use hR
  have hab : a ≠ b' := fun e => by
    rw [e] at q5
    exact hne (hW.2.2.1 h p 0 0 b' q5 r5 r4).1
  unfold f4_copy
  rw [OpA_gi hB, Option.bind_some, gr_k q3 q5, Option.bind_some, aln_k q4, Option.bind_some]
  by_cases hle : Q.length ≤ cN S a
  · rw [if_pos (nI_le hle (by omega)), Option.bind_some, OpA_gr hB, Option.bind_some, gr_k q3 q5, Option.bind_some, OpA_gi hB, Option.bind_some, cpy_k r4 q4 r7 hle (by omega), Option.bind_some]
    generalize hT : setA S a (va_cpy (cA S b') (cA S a) 0 0 Q.length) = T
    have kT : ∀ x, kd T x = kd S x := fun x => by rw [← hT]; rfl
    rw [gi_k (by rw [kT]; exact r3), Option.bind_some, pi_k (by rw [kT]; exact q3), Option.bind_some]
    have s1 : Sg z (fun x => x = h) 0 S T := by rw [← hT]; exact Sg_setA hW rfl q5
    refine ⟨_, rfl, ⟨hd, a, ⟨?_, ?_, ?_, ?_, ?_⟩, ?_, ?_, ?_, ?_⟩, Or.inl ⟨?_, Sg_trans s1 (Sg_setI (k := 1) (v := cI T p 1) s1.1 rfl)⟩⟩
    · rw [← hT]; exact q1
    · rw [← hT]; exact q2
    · rw [← hT]; exact q3
    · rw [← hT]; exact q4
    · rw [← hT]; exact q5
    · rw [cI_self, ← hT]; exact r6
    · rw [← hT]; exact hle
    · rw [← hT]; show cN S a < 1000000; omega
    · rw [← hT]
      show seg (cA (setA S a _) a) 0 _
      rw [cA_self]
      exact cpy_seg r9 (by rw [List.length_map, List.length_reverse]; exact Nat.le_refl _)
    · rw [← hT]; rfl
  · rw [if_neg (nI_ge (by omega) (by omega)), OpA_gr hB, Option.bind_some, OpA_al hB, Option.bind_some, nwa_k u1 (u2 _ t4) (by omega), Option.bind_some]
    have hk8 : kd (bornA S 14 (cN S b')) h = 4 := by rw [kd_bornA q1]; exact q3
    rw [pr_k hk8, Option.bind_some, Option.bind_some]
    have s1 : Sg z (fun x => x = h) c S (setJ (bornA S 14 (cN S b')) h 0 (some (cZ S))) := Sg_born hW q3 rfl (by omega) (by omega) (by rw [lenO_of q5]; exact hw _ _ (by omega) r7)
    generalize hT : setJ (bornA S 14 (cN S b')) h 0 (some (cZ S)) = T at s1 ⊢
    have zT : cZ T = cZ S + 1 := by rw [← hT]; rfl
    have nT : cN T (cZ S) = cN S b' := by rw [← hT]; exact va_up_self _ _ _
    have kT : kd T (cZ S) = 14 := by rw [← hT]; exact kd_newA S 14 (cN S b')
    have jT : cJ T h 0 = some (cZ S) := by rw [← hT]; exact cJ_self _ _ _ _
    have hPT : OpR T p Q := OpR_Fo hW ⟨hd, b', hB⟩ s1.2.1 (fun e => hne e.symm)
    obtain ⟨_, b2, hB2⟩ := hPT
    have khT : kd T h = 4 := by rw [(s1.2.1.2.1 h q1).1]; exact q3
    have jpT : cJ T p 0 = some b' := by rw [((s1.2.1.2.1 p r1).2.2.2 (fun e => hne e.symm)).2.1]; exact r5
    have hb2 : b2 = b' := Option.some.inj (hB2.1.2.2.2.2.symm.trans jpT)
    subst hb2
    rw [OpA_gr hB2, Option.bind_some, gr_k khT jT, Option.bind_some, OpA_gi hB2, Option.bind_some, cpy_k hB2.1.2.2.2.1 kT hB2.2.2.1 (by rw [nT]; exact r7) (by omega), Option.bind_some]
    have s2 := Sg_trans s1 (Sg_setA (f := va_cpy (cA T b2) (cA T (cZ S)) 0 0 Q.length) s1.1 rfl jT)
    generalize hV : setA T (cZ S) (va_cpy (cA T b2) (cA T (cZ S)) 0 0 Q.length) = V at s2 ⊢
    have kV : ∀ x, kd V x = kd T x := fun x => by rw [← hV]; rfl
    rw [gi_k (by rw [kV]; exact hB2.1.2.2.1), Option.bind_some, pi_k (by rw [kV]; exact khT), Option.bind_some]
    refine ⟨_, rfl, ⟨hd, cZ S, ⟨?_, ?_, ?_, ?_, ?_⟩, ?_, ?_, ?_, ?_⟩, Or.inr ⟨by rw [lenO_of q5]; omega, ?_, Sg_trans s2 (Sg_setI (k := 1) (v := cI V p 1) s2.1 rfl)⟩⟩
    · rw [← hV]; show h < cZ T; omega
    · rw [← hV]; show cZ S < cZ T; omega
    · rw [← hV]; exact khT
    · rw [← hV]; exact kT
    · rw [← hV]; exact jT
    · rw [cI_self, ← hV]; exact hB2.2.1
    · rw [← hV]; show Q.length ≤ cN T (cZ S); rw [nT]; exact r7
    · rw [← hV]; show cN T (cZ S) < 1000000; rw [nT]; omega
    · rw [← hV]
      show seg (cA (setA T (cZ S) _) (cZ S)) 0 _
      rw [cA_self]
      exact cpy_seg hB2.2.2.2.2 (by rw [List.length_map, List.length_reverse]; exact Nat.le_refl _)
    · rw [lenO_of r5, ← hV]
      show lenO T h = _
      rw [lenO_of jT, nT]
/-- a reader g of the operation o: the parts L are before it -/
def RdR (S : CS) (g o : Nat) (R L : List Pt) : Prop :=
  (g < cZ S ∧ kd S g = 5 ∧ cJ S g 0 = some o) ∧ (∃ n, n ≤ R.length ∧ cI S g 1 = nI n ∧ (match L with
    | [] => n = R.length ∧ cI S g 2 = 0 ∧ cI S g 3 = 0
    | x :: L' => n < R.length ∧ okPt x ∧ cI S g 3 = nI (cntP2 x) ∧ R.reverse.drop (n + 1) = L' ∧ (x.1 = 1 → cI S g 2 = nI x.2) ∧ (x.1 = 0 → 31 < cI S g 2) ∧ (x.1 = 2 → cI S g 2 < 0)))
theorem CanR_ok {R : List Pt} (h : CanR R) : ∀ x ∈ R, okPt x := by
  induction R with
  | nil => intro x hx; exact absurd hx List.not_mem_nil
  | cons y r ih =>
    intro x hx
    rcases List.mem_cons.mp hx with rfl | hx
    · exact h.1
    · exact ih h.2.2 x hx
