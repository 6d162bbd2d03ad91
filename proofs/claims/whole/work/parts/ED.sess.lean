/-! ===== PART II, the class: a session is read, all of it; the world begins ===== -/
section TD
variable {S S' S'' : CS} {z fi ch c i k q : Nat} {A A' : St} {K K' : Nat → Option Nat} {H : Nat → Prop} {X : Nat × Nat} {T : List Int32} {v : Tm}
/-- what was told, as it is kept -/
def TSt (S : CS) (z : Nat) (T : List Int32) (R : List Sm) : Prop := cI S (z + 1) 4 = nI (1 + R.length) ∧ cI S (z + 1) 5 = nI (cntT T) ∧ cI S (z + 1) 6 = nI (toldT T).length ∧ seg (cA S (z + 3)) 0 (toldT T) ∧ cA S (z + 4) 0 = 0 ∧ ∀ j s, R[j]? = some s → cA S (z + 4) (1 + j) = nI s.1 ∧ StmA (cA S (z + 3)) (cA S (z + 5)) (1 + j) 1600 s
theorem TSt_Sg {T : List Int32} {R : List Sm} (hW : Wf S) (hT : TpS S z) (h : TSt S z T R) (hs : Sg z H c S S') (hn : ¬ H (z + 1)) : TSt S' z T R := by
  obtain ⟨b0, b1, b2, b3, b4⟩ := hT.2.2.1
  obtain ⟨_, ⟨c2, _⟩, ⟨c4, _⟩, ⟨c6, _⟩⟩ := hT.2.2.2.1
  unfold TSt
  rw [fld_Fo hW b0 (by omega) hs.2.1 hn, arr_Fo hW b2 c2 hs.2.1 hn, arr_Fo hW b3 c4 hs.2.1 hn, arr_Fo hW b4 c6 hs.2.1 hn]
  exact h
theorem readSes_R (h : CR S z A K fi ch) (hg : GA A) : ∃ S' r, cal S 8 (z + 1) (f8_readSession S (z + 1)) = some (r, S') ∧ FinR z S S' (pSess (aTape A)).2 r ∧ (pBd (pSess (aTape A)).2 = 0 → pBp (pSess (aTape A)).2 = none ∧ TSt S' z (aTape A) (pSess (aTape A)).1) := by
  obtain ⟨e, he, hE⟩ : ∃ e : Nat, e = 59 ∧ pSess (aTape A) = pAll (aTape A) (cntT (aTape A)) (e + 2) 1 (pS1 (aTape A)) := ⟨59, rfl, by unfold pSess; rfl⟩
  have hNB := NB_tape hg
  obtain ⟨S1, v, o1, o2, o3, o4⟩ := open_P h hg
  obtain ⟨S2, q1, q2⟩ := stm0_R o2.1 o3 o4
  have hF : FU = (FU - 1) + 1 := by rw [FU_eq]
  have hl0 : LX8_readSession_6 (z + 1) FU 0 S1 = LX8_readSession_6 (z + 1) (FU - 1) (nI 1) S2 := by
    have := q1 (fun S7 => LX8_readSession_6 (z + 1) (FU - 1) (0 + 1) S7)
    rw [hF]
    conv => lhs; unfold LX8_readSession_6
    rw [if_neg (by decide), gi_k (PR_k o2.1), o2.1.2.2.2.1, Option.bind_some, if_pos rfl, if_pos rfl]
    exact this
  have hrun : ∀ S6, LX8_readSession_6 (z + 1) (FU - 1) (nI 1) S2 = some S6 → cal S 8 (z + 1) (f8_readSession S (z + 1)) = tailF z 5 S6 := fun S6 h6 => by
    rw [cal_k h.2.1.2.2.1.1]
    unfold f8_readSession
    rw [o1, Option.bind_some, hl0, h6, Option.bind_some]
    rfl
  rw [hE]
  rcases q2 with ⟨v', b0, b1, b2, b3, b4, b5, b6, b7, b8⟩ | y
  · obtain ⟨c2, c4, cf, ctl, _, _, _, _⟩ := head_good b0
    have hfr := free_lk (T := aTape A) cf
    obtain ⟨S6, w1, w2⟩ := ses_lp (z := z) (cnt := cntT (aTape A)) hNB (by omega) (by omega) e 1 (FU - 1) (lkP (aTape A) (pAt (pS1 (aTape A))), (pS1 (aTape A)).2) S2 v' (by omega) (by rw [FU_eq]; omega) (by omega) b1.1 hfr (lk_lk _ _) b8 b2 b3
    have hlk : pAll (aTape A) (cntT (aTape A)) (e + 2) 1 (lkP (aTape A) (pAt (pS1 (aTape A))), (pS1 (aTape A)).2) = pAll (aTape A) (cntT (aTape A)) (e + 2) 1 (pS1 (aTape A)) := all_lk (n := e + 1) b0
    rw [hlk] at w2
    have hend := all_end (T := aTape A) (cnt := cntT (aTape A)) (e + 2) 1 (pS1 (aTape A)) cf
    generalize pAll (aTape A) (cntT (aTape A)) (e + 2) 1 (pS1 (aTape A)) = R at *
    have hOK := OK8_tr o2 b1
    rw [hrun S6 w1]
    rcases w2 with ⟨v'', i', a1, a2, a3, a4, a45, a5, a6⟩ | ⟨v'', i', a1, a2, a3, a4⟩ | a
    · have h6 := OK8_tr hOK a2
      obtain ⟨t1, t2⟩ := tail_ok (kk := 5) h6 a3 hNB a1
      obtain ⟨k1, k2, k3, k4, k5, k6, k7⟩ := a4
      obtain ⟨_, _, _, _, ⟨g1, g2, g3, g4⟩, ⟨g5, g6, g7⟩, _⟩ := h6.1
      refine ⟨_, 1, t1, t2, fun _ => ⟨?_, ?_, ?_, ?_, ?_, ?_, fun j s hj => ?_⟩⟩
      · show R.2.2.2.2 = none
        rw [hend a1]
      · rw [cI_set, if_neg (by omega), g1, a5]
      · rw [cI_set, if_neg (by omega), g3, k3, b3]
      · rw [cI_set, if_neg (by omega), g4, k4, b4]
      · show seg (cA S6 (z + 3)) 0 _
        rw [g5]
        intro j hj
        rw [k6 (0 + j) (by omega)]
        exact b6 j hj
      · show cA S6 (z + 4) 0 = 0
        rw [g6, k5 0 (by omega), b5]
      · show cA S6 (z + 4) (1 + j) = _ ∧ StmA (cA S6 (z + 3)) (cA S6 (z + 5)) (1 + j) 1600 s
        rw [g5, g6, g7]
        obtain ⟨m1, m2⟩ := a6 j s hj
        exact ⟨m1, StmA_keep m2 a45 (fun _ _ => rfl) (fun _ _ => rfl)⟩
    · obtain ⟨S'', t1, t2⟩ := tail_pend (kk := 5) (OK8_tr hOK a1) a2 (by omega) a3 a4
      exact ⟨S'', 0, t1, t2, fun hh => by rw [a3] at hh; omega⟩
    · obtain ⟨S'', t1, t2⟩ := tail_bad (kk := 5) (BDp_tr hOK a)
      exact ⟨S'', 0, t1, t2, fun hh => absurd hh a.1⟩
  · have hst : LX8_readSession_6 (z + 1) (FU - 1) (nI 1) S2 = some S2 := by
      have hF2 : FU - 1 = (FU - 2) + 1 := by rw [FU_eq]
      rw [hF2]
      exact ses_stop y (by omega)
    rw [hrun S2 hst, all_bad y.1]
    obtain ⟨S'', t1, t2⟩ := tail_bad (kk := 5) (BDp_tr o2 y)
    exact ⟨S'', 0, t1, t2, fun hh => absurd hh y.1⟩
/-- the text that was told becomes the start -/
theorem letters_C {h a n : Nat} {told : List Int32} (hW : Wf S) (hk : kd S h = 7) (ha : kd S a = 14 ∧ cN S a = 1600) (hs : seg (cA S a) 0 told) (hn : told.length = n) (hn40 : n ≤ 40) (hne : ∀ k, cJ S h k ≠ some a) : ∃ S', cal S 7 h (f7_copyLetters S h a (nI n)) = some S' ∧ TxL S' h told ∧ Sg z (fun x => x = h) 0 S S' := by
  obtain ⟨b, j1, k1, n1⟩ := hW.2.2.2.2 h 0 (Or.inl ⟨hk, rfl⟩)
  have s1 : Sg z (fun x => x = h) 0 S (setI S h 1 (nI n)) := Sg_setI hW rfl
  have s2 : Sg z (fun x => x = h) 0 (setI S h 1 (nI n)) (setA (setI S h 1 (nI n)) b (va_cpy (cA S a) (cA S b) 0 0 n)) := Sg_setA s1.1 rfl j1
  have s12 : Sg z (fun x => x = h) 0 S (setA (setI S h 1 (nI n)) b (va_cpy (cA S a) (cA S b) 0 0 n)) := by have := Sg_trans s1 s2; exact this
  rw [cal_k hk]
  unfold f7_copyLetters
  have e7 : cpy (setI S h 1 (nI n)) a 0 b 0 (nI n) = some (setA (setI S h 1 (nI n)) b (va_cpy (cA S a) (cA S b) 0 0 n)) := cpy_k (S := setI S h 1 (nI n)) ha.1 k1 (by show n ≤ cN S a; omega) (by show n ≤ cN S b; omega) (by omega)
  rw [aln_k ha.1, ha.2, Option.bind_some, gr_k hk j1, Option.bind_some, aln_k k1, n1, Option.bind_some, if_pos (show nI 240 < nI 1600 by decide), if_neg (show ¬ nI 240 < nI n from fun hh => by rw [nI_ltI (by omega) (by omega)] at hh; omega), pi_k hk, Option.bind_some, gr_k (S := setI S h 1 (nI n)) hk j1, Option.bind_some, gi_k (S := setI S h 1 (nI n)) hk, cI_self, Option.bind_some, e7, Option.bind_some]
  refine ⟨_, rfl, ⟨b, ⟨kd_lt hW.1 hk (by omega), kd_lt hW.1 k1 (by omega), hk, k1, j1, n1⟩, ?_, by omega, ?_⟩, s12⟩
  · rw [cI_setA, cI_self, hn]
  · rw [cA_self]
    exact seg_cpy hs hn
/-- an editor begins -/
theorem begin_E {e st : Nat} {told : List Int32} (hW : Wf S) (hE : EdS S e) (hJ : EdJ S e true) (hT : TxL S st told) (hne : st < e ∨ e + 45 ≤ st) : ∃ S', cal S 1 e (f1_begin S e st) = some S' ∧ EdW S' e 0 (E0t told) true ∧ Sg z (fun x => e ≤ x ∧ x < e + 45) 0 S S' := by
  obtain ⟨a1, ⟨j0, j1, j2, j3, j4, j5, j6⟩, ⟨k1, k3, k5, k7, k25⟩, _, _⟩ := id hE
  obtain ⟨p3, p5, p7⟩ := hJ
  obtain ⟨⟨hs1, v1⟩, ⟨hs2, v2⟩⟩ := p7 rfl
  obtain ⟨S2, e2, t2, s2⟩ := copy_T (z := z) hW k1 hT (show e + 1 ≠ st by omega)
  have s2' : Sg z (fun x => e ≤ x ∧ x < e + 45) 0 S S2 := Sg_mono hW s2 (fun x hx => by omega) (Nat.le_refl _)
  have hE2 := EdS_Sg hW hE s2
  have v1' := InvS_Sg hW v1 s2 (by omega)
  have v2' := InvS_Sg hW v2 s2 (by omega)
  have o3 := OpS_Fo hW p3 s2.2.1 (show ¬ e + 3 = e + 1 by omega)
  have o5 := OpS_Fo hW p5 s2.2.1 (show ¬ e + 5 = e + 1 by omega)
  rw [cal_k a1]
  unfold f1_begin
  rw [gr_k a1 j0, Option.bind_some, cal_k k1, e2, Option.bind_some]
  obtain ⟨a1, ⟨j0, j1, j2, j3, j4, j5, j6⟩, ⟨k1, k3, k5, k7, k25⟩, _, _⟩ := id hE2
  have sA : Sg z (fun x => e ≤ x ∧ x < e + 45) 0 S2 (setI S2 (e + 7) 1 0) := Sg_setI s2.1 (by omega)
  have sB : Sg z (fun x => e ≤ x ∧ x < e + 45) 0 (setI S2 (e + 7) 1 0) (setI (setI S2 (e + 7) 1 0) (e + 25) 1 0) := Sg_setI sA.1 (by omega)
  have sAB := Sg_trans sA sB
  have iA : cI (setI (setI S2 (e + 7) 1 0) (e + 25) 1 0) (e + 7) 1 = 0 := by rw [cI_set, if_neg (by omega), cI_self]
  have iB : cI (setI (setI S2 (e + 7) 1 0) (e + 25) 1 0) (e + 25) 1 = 0 := cI_self _ _ _ _
  have hEB := EdS_Sg s2.1 hE2 sAB
  rw [gr_k a1 j3, Option.bind_some, pi_k k7, Option.bind_some, gr_k (S := setI S2 (e + 7) 1 0) a1 j4, Option.bind_some, pi_I k25, Option.bind_some]
  have hkB : kd (setI (setI S2 (e + 7) 1 0) (e + 25) 1 0) e = 1 := hEB.1
  have tB : TxL (setI (setI S2 (e + 7) 1 0) (e + 25) 1 0) (e + 1) told := by
    have n1 : Sg z (fun x => x = e + 7) 0 S2 (setI S2 (e + 7) 1 0) := Sg_setI s2.1 rfl
    have n2 : Sg z (fun x => x = e + 25) 0 (setI S2 (e + 7) 1 0) (setI (setI S2 (e + 7) 1 0) (e + 25) 1 0) := Sg_setI n1.1 rfl
    exact TxL_Fo n1.1 (TxL_Fo s2.1 t2 n1.2.1 (by omega)) n2.2.1 (by omega)
  have vB1 : InvS (setI (setI S2 (e + 7) 1 0) (e + 25) 1 0) (e + 7) hs1 := v1'
  have vB2 : InvS (setI (setI S2 (e + 7) 1 0) (e + 25) 1 0) (e + 25) hs2 := v2'
  have oB3 : OpS (setI (setI S2 (e + 7) 1 0) (e + 25) 1 0) (e + 3) none := by
    have n1 : Sg z (fun x => x = e + 7) 0 S2 (setI S2 (e + 7) 1 0) := Sg_setI s2.1 rfl
    have n2 : Sg z (fun x => x = e + 25) 0 (setI S2 (e + 7) 1 0) (setI (setI S2 (e + 7) 1 0) (e + 25) 1 0) := Sg_setI n1.1 rfl
    exact OpS_Fo n1.1 (OpS_Fo s2.1 o3 n1.2.1 (show ¬ e + 3 = e + 7 by omega)) n2.2.1 (show ¬ e + 3 = e + 25 by omega)
  have oB5 : OpS (setI (setI S2 (e + 7) 1 0) (e + 25) 1 0) (e + 5) none := by
    have n1 : Sg z (fun x => x = e + 7) 0 S2 (setI S2 (e + 7) 1 0) := Sg_setI s2.1 rfl
    have n2 : Sg z (fun x => x = e + 25) 0 (setI S2 (e + 7) 1 0) (setI (setI S2 (e + 7) 1 0) (e + 25) 1 0) := Sg_setI n1.1 rfl
    exact OpS_Fo n1.1 (OpS_Fo s2.1 o5 n1.2.1 (show ¬ e + 5 = e + 7 by omega)) n2.2.1 (show ¬ e + 5 = e + 25 by omega)
  generalize setI (setI S2 (e + 7) 1 0) (e + 25) 1 0 = SB at *
  have chain : ∀ (k : Nat) (x : Int32) (SX : CS), kd SX e = 1 → Sg z (fun x => x = e) 0 SB SX → pi SX 1 e k x = some (setI SX e k x) ∧ kd (setI SX e k x) e = 1 ∧ Sg z (fun x => x = e) 0 SB (setI SX e k x) := fun k x SX hk hs => ⟨pi_k hk, hk, by
    have s1 : Sg z (fun x => x = e) 0 SX (setI SX e k x) := Sg_setI hs.1 rfl
    have := Sg_trans hs s1
    exact this⟩
  obtain ⟨q1, q2, q3⟩ := chain 7 0 SB hkB (Sg_refl sB.1)
  obtain ⟨r1, r2, r3⟩ := chain 8 0 _ q2 q3
  obtain ⟨u1, u2, u3⟩ := chain 9 0 _ r2 r3
  obtain ⟨w1, w2, w3⟩ := chain 10 1 _ u2 u3
  obtain ⟨x1, x2, x3⟩ := chain 11 (-1) _ w2 w3
  obtain ⟨y1, y2, y3⟩ := chain 12 0 _ x2 x3
  obtain ⟨z1, z2, z3⟩ := chain 13 0 _ y2 y3
  obtain ⟨m1, m2, m3⟩ := chain 14 1 _ z2 z3
  rw [q1, Option.bind_some, r1, Option.bind_some, u1, Option.bind_some, w1, Option.bind_some, x1, Option.bind_some, y1, Option.bind_some, z1, Option.bind_some, m1, Option.bind_some]
  have fI : ∀ k, k ≠ 14 → ∀ SX : CS, cI (setI SX e 14 1) e k = cI SX e k := fun k hk SX => by rw [cI_set, if_neg (by omega)]
  have hfin := Sg_trans sAB (Sg_mono sB.1 m3 (H' := fun x => e ≤ x ∧ x < e + 45) (fun x hx => by omega) (Nat.le_refl _))
  refine ⟨_, rfl, ⟨⟨EdS_Sg s2.1 hE2 hfin, ⟨?_, ?_, ?_, ?_, ?_, ?_⟩, fun j hj => absurd hj (Nat.not_lt_zero _), OpS_Fo sB.1 oB3 m3.2.1 (show ¬ e + 3 = e by omega), OpS_Fo sB.1 oB5 m3.2.1 (show ¬ e + 5 = e by omega)⟩, fun _ => ⟨⟨TxL_Fo sB.1 tB m3.2.1 (show ¬ e + 1 = e by omega), ⟨hs1, InvS_Sg sB.1 vB1 m3 (show ¬ e + 7 + 1 = e by omega), ?_, Nat.zero_le _, fun j x hx => by
    have hx' : ([] : List (Nat × List Int32))[j]? = some x := hx
    simp at hx'⟩, ⟨hs2, InvS_Sg sB.1 vB2 m3 (show ¬ e + 25 + 1 = e by omega), ?_, Nat.zero_le _, fun j x hx => by
    have hx' : ([] : List (Nat × List Int32))[j]? = some x := hx
    simp at hx'⟩⟩, ⟨?_, ?_, trivial⟩⟩⟩, by have := Sg_trans s2' hfin; exact this⟩
  · rw [fI 8 (by omega), cI_set, if_neg (by omega), cI_set, if_neg (by omega), cI_set, if_neg (by omega), cI_set, if_neg (by omega), cI_set, if_neg (by omega), cI_self]; rfl
  · rw [fI 10 (by omega), cI_set, if_neg (by omega), cI_set, if_neg (by omega), cI_set, if_neg (by omega), cI_self]; rfl
  · rw [fI 11 (by omega), cI_set, if_neg (by omega), cI_set, if_neg (by omega), cI_self]; rfl
  · rw [fI 12 (by omega), cI_set, if_neg (by omega), cI_self]; rfl
  · rw [fI 13 (by omega), cI_self]; rfl
  · rw [cI_self]; rfl
  · rw [fld_Fo sB.1 vB1.1.1 (by omega) m3.2.1 (show ¬ e + 7 = e by omega), iA]; rfl
  · rw [fld_Fo sB.1 vB2.1.1 (by omega) m3.2.1 (show ¬ e + 25 = e by omega), iB]; rfl
  · rw [fI 7 (by omega), cI_set, if_neg (by omega), cI_set, if_neg (by omega), cI_set, if_neg (by omega), cI_set, if_neg (by omega), cI_set, if_neg (by omega), cI_set, if_neg (by omega), cI_self]; rfl
  · rw [fI 9 (by omega), cI_set, if_neg (by omega), cI_set, if_neg (by omega), cI_set, if_neg (by omega), cI_set, if_neg (by omega), cI_self]; rfl
end TD
