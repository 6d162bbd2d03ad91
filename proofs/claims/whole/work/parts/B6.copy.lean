/-! ===== PART II, the class: an operation is copied ===== -/
theorem cpy_k {S : CS} {a b n : Nat} (hb : kd S b = 14) (ha : kd S a = 14) (h1 : n ≤ cN S b) (h2 : n ≤ cN S a) (hn : n < 1000000) : cpy S b 0 a 0 (nI n) = some (setA S a (va_cpy (cA S b) (cA S a) 0 0 n)) := by
  unfold cpy
  rw [show (0 : Int32) = nI 0 from rfl, nI_clamp (by omega), nI_clamp (by omega), if_pos ⟨⟨hb, ha⟩, ⟨nI_pos (by omega), nI_pos (by omega), nI_pos (by omega)⟩, by omega, by omega⟩]
theorem cpy_fin {S : CS} {h p a b : Nat} {R Q : List Pt} (hO : OpA S h a R) (hP : OpA S p b Q) (hne : h ≠ p) (hab : a ≠ b) (hl : Q.length ≤ cN S a) : ∃ S', ((gr S 4 p 0).bind fun a10 => (gr S 4 h 0).bind fun a11 => (gi S 4 p 1).bind fun v12 => (cpy S a10 0 a11 0 v12).bind fun S13 => (gi S13 4 p 1).bind fun v14 => (pi S13 4 h 1 v14).bind fun S15 => some S15) = some S' ∧ OpA S' h a Q ∧ OpF h a S S' := by
  obtain ⟨⟨q1, q2, q3, q4, q5⟩, q6, q7, q8, q9⟩ := id hO
  obtain ⟨⟨r1, r2, r3, r4, r5⟩, r6, r7, r8, r9⟩ := id hP
  rw [OpA_gr hP, Option.bind_some, OpA_gr hO, Option.bind_some, OpA_gi hP, Option.bind_some, cpy_k r4 q4 r7 hl (by omega), Option.bind_some]
  generalize hT : setA S a (va_cpy (cA S b) (cA S a) 0 0 Q.length) = T
  have kT : ∀ x, kd T x = kd S x := fun x => by rw [← hT]; rfl
  rw [gi_k (by rw [kT]; exact r3), show cI T p 1 = nI Q.length from by rw [← hT]; exact r6, Option.bind_some, pi_k (by rw [kT]; exact q3), Option.bind_some]
  have fT : OpF h a S T := by rw [← hT]; exact OpF_setA
  refine ⟨_, rfl, ⟨⟨?_, ?_, ?_, ?_, ?_⟩, cI_self _ _ _ _, ?_, ?_, ?_⟩, OpF_trans fT OpF_setI⟩
  · show h < cZ T; rw [fT.2.1]; exact q1
  · show a < cZ T; rw [fT.2.1]; exact q2
  · show kd T h = 4; rw [kT]; exact q3
  · show kd T a = 14; rw [kT]; exact q4
  · show cJ T h 0 = some a; rw [fT.2.2.2.1]; exact q5
  · show Q.length ≤ cN T a; rw [fT.2.2.2.2.2.2.2]; exact hl
  · show cN T a < 1000000; rw [fT.2.2.2.2.2.2.2]; exact q8
  · show seg (cA T a) 0 _
    rw [← hT, cA_self]
    intro k hk
    have hk2 : k < Q.length := by simpa using hk
    have := r9 k hk
    rw [Nat.zero_add] at this ⊢
    unfold va_cpy
    rw [if_pos ⟨Nat.zero_le _, by omega⟩, Nat.zero_add, Nat.sub_zero]
    exact this
/-- an operation stays what it is where neither it nor its row is named -/
theorem OpA_Fm {P : Nat → Prop} {S S' : CS} {h a : Nat} {R : List Pt} (hO : OpA S h a R) (hf : Fm P S S') (h1 : ¬ P h) (h2 : ¬ P a) : OpA S' h a R := by
  obtain ⟨⟨q1, q2, q3, q4, q5⟩, q6, q7, q8, q9⟩ := hO
  obtain ⟨a1, a2, a3⟩ := hf.2 h q1
  obtain ⟨b1, b2, b3⟩ := hf.2 a q2
  obtain ⟨c1, c2, c3, c4⟩ := a3 h1
  obtain ⟨d1, d2, d3, d4⟩ := b3 h2
  have hz := hf.1
  exact ⟨⟨by omega, by omega, by rw [a1]; exact q3, by rw [b1]; exact q4, by rw [c2]; exact q5⟩, by rw [c1]; exact q6, by rw [b2]; exact q7, by rw [b2]; exact q8, by rw [d3]; exact q9⟩
theorem copy_ok {X : Nat × Nat} {S : CS} {h p a b : Nat} {R Q : List Pt} (hO : OpA S h a R) (hP : OpA S p b Q) (hne : h ≠ p) (hab : a ≠ b) (hz : cZ S < X.1) (hu : cU S + cN S b ≤ X.2) :
    ∃ S' a', f4_copy X S h p = some S' ∧ OpA S' h a' Q ∧ Fm (fun x => x = h ∨ x = a) S S' ∧ (∀ k, k ≠ 1 → cI S' h k = cI S h k) ∧ (∀ k, k ≠ 0 → cJ S' h k = cJ S h k) ∧ ((a' = a ∧ cZ S' = cZ S ∧ cU S' = cU S) ∨ (a' = cZ S ∧ cZ S' = cZ S + 1 ∧ cN S a < Q.length ∧ cN S' a' = cN S b ∧ cU S' = cU S + cN S b)) := by
  obtain ⟨⟨q1, q2, q3, q4, q5⟩, q6, q7, q8, q9⟩ := id hO
  obtain ⟨⟨r1, r2, r3, r4, r5⟩, r6, r7, r8, r9⟩ := id hP
  unfold f4_copy
  rw [OpA_gi hP, Option.bind_some, OpA_gr hO, Option.bind_some, OpA_al hO, Option.bind_some]
  by_cases hle : Q.length ≤ cN S a
  · rw [if_pos (nI_le hle (by omega)), Option.bind_some]
    obtain ⟨S', e1, e2, e3⟩ := cpy_fin hO hP hne hab hle
    exact ⟨S', a, e1, e2, e3.1, e3.2.2.2.2.1, fun k _ => by rw [e3.2.2.2.1], Or.inl ⟨rfl, e3.2.1, e3.2.2.1⟩⟩
  · rw [if_neg (nI_ge (by omega) (by omega)), OpA_gr hP, Option.bind_some, OpA_al hP, Option.bind_some, nwa_k hz hu (by omega), Option.bind_some]
    have hk8 : kd (bornA S 14 (cN S b)) h = 4 := by rw [kd_bornA q1]; exact q3
    rw [pr_k hk8, Option.bind_some, Option.bind_some]
    generalize hT : setJ (bornA S 14 (cN S b)) h 0 (some (cZ S)) = T
    have fT : Fm (fun x => x = h) S T := by rw [← hT]; exact Fm_trans Fm_bornA (Fm_setJ rfl)
    have zT : cZ T = cZ S + 1 := by rw [← hT]; rfl
    have nT : cN T (cZ S) = cN S b := by rw [← hT]; exact va_up_self _ _ _
    have hPT : OpA T p b Q := OpA_Fm hP fT (Ne.symm hne) (fun e => by
      have e' : b = h := e
      rw [e', q3] at r4; omega)
    have hOT : OpA T h (cZ S) (List.replicate R.length (1, 0)) ∨ True := Or.inr trivial
    have iT : cI T h 1 = nI R.length := by rw [← hT]; exact q6
    have hgr : gr T 4 h 0 = some (cZ S) := by
      refine gr_k (by rw [(fT.2 h q1).1]; exact q3) ?_
      rw [← hT]; exact cJ_self _ _ _ _
    have kT : kd T (cZ S) = 14 := by rw [← hT]; exact kd_newA S 14 (cN S b)
    have khT : kd T h = 4 := by rw [(fT.2 h q1).1]; exact q3
    have kbT : kd T b = 14 := hPT.1.2.2.2.1
    rw [OpA_gr hPT, Option.bind_some, hgr, Option.bind_some, OpA_gi hPT, Option.bind_some, cpy_k kbT kT hPT.2.2.1 (by rw [nT]; exact r7) (by omega), Option.bind_some]
    generalize hV : setA T (cZ S) (va_cpy (cA T b) (cA T (cZ S)) 0 0 Q.length) = V
    have kV : ∀ x, kd V x = kd T x := fun x => by rw [← hV]; rfl
    rw [gi_k (by rw [kV]; exact hPT.1.2.2.1), show cI V p 1 = nI Q.length from by rw [← hV]; exact hPT.2.1, Option.bind_some, pi_k (by rw [kV]; exact khT), Option.bind_some]
    have zV : cZ V = cZ S + 1 := by rw [← hV]; exact zT
    have nV : cN V = cN T := by rw [← hV]; rfl
    have fV : Fm (fun x => x = h ∨ x = a) S V := by
      refine ⟨by rw [zV]; omega, fun x hx => ?_⟩
      obtain ⟨u1, u2, u3⟩ := fT.2 x hx
      refine ⟨by rw [kV]; exact u1, by rw [nV]; exact u2, fun hp => ?_⟩
      obtain ⟨v1, v2, v3, v4⟩ := u3 (fun e => hp (Or.inl e))
      rw [← hV]
      refine ⟨v1, v2, ?_, v4⟩
      rw [← v3]
      exact va_up_ne _ _ (show x ≠ cZ S by omega)
    refine ⟨_, cZ S, rfl, ⟨⟨?_, ?_, ?_, ?_, ?_⟩, cI_self _ _ _ _, ?_, ?_, ?_⟩, Fm_trans fV (Fm_setI (Or.inl rfl)), fun k hk => ?_, fun k hk => ?_, Or.inr ⟨rfl, zV, by omega, ?_, ?_⟩⟩
    · show h < cZ V; rw [zV]; omega
    · show cZ S < cZ V; rw [zV]; omega
    · show kd V h = 4; rw [kV]; exact khT
    · show kd V (cZ S) = 14; rw [kV]; exact kT
    · show cJ V h 0 = some (cZ S); rw [← hV, ← hT]; exact cJ_self _ _ _ _
    · show Q.length ≤ cN V (cZ S); rw [nV, nT]; exact r7
    · show cN V (cZ S) < 1000000; rw [nV, nT]; exact r8
    · show seg (cA V (cZ S)) 0 _
      rw [← hV, cA_self]
      intro k hk
      have hk2 : k < Q.length := by simpa using hk
      have := hPT.2.2.2.2 k hk
      rw [Nat.zero_add] at this ⊢
      unfold va_cpy
      rw [if_pos ⟨Nat.zero_le _, by omega⟩, Nat.zero_add, Nat.sub_zero]
      exact this
    · rw [(OpF_setI (S := V) (h := h) (a := a)).2.2.2.2.1 k hk, ← hV, ← hT]; rfl
    · show cJ V h k = cJ S h k
      rw [← hV, ← hT]
      exact cJ_fld _ _ _ _ _ hk
    · show cN V (cZ S) = cN S b; rw [nV, nT]
    · show cU V = cU S + cN S b; rw [← hV, ← hT]; rfl
