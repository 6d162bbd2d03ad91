/-! ===== PART II, the class: operations by their letters ===== -/
def OpR (S : CS) (h : Nat) (R : List Pt) : Prop := CanR R ∧ ∃ a, OpA S h a R
/-- an operation that holds these letters -/
def OpL (S : CS) (h : Nat) (l : List Int32) : Prop := ∃ R, OpR S h R ∧ decR R = l
theorem OpR_kd {S : CS} {h : Nat} {R : List Pt} (hO : OpR S h R) : kd S h = 4 := by obtain ⟨_, a, h1⟩ := hO; exact h1.1.2.2.1
theorem OpL_kd {S : CS} {h : Nat} {l : List Int32} (hO : OpL S h l) : kd S h = 4 := by obtain ⟨R, h1, _⟩ := hO; exact OpR_kd h1
theorem OpR_Fo {H : Nat → Prop} {S S' : CS} {h : Nat} {R : List Pt} (hW : Wf S) (hO : OpR S h R) (hf : Fo H S S') (hn : ¬ H h) : OpR S' h R := by
  obtain ⟨hc, a, ⟨q1, q2, q3, q4, q5⟩, q6, q7, q8, q9⟩ := hO
  obtain ⟨f1, f2, f3, f4⟩ := hf
  obtain ⟨a1, a2, a3, a4⟩ := f2 h q1
  obtain ⟨b1, b2, b3, b4⟩ := f2 a q2
  obtain ⟨c1, c2, c3⟩ := a4 hn
  have hA := b3 q4 (fun ⟨h', k', r1, r2⟩ => hn (by
    have := (hW.2.2.1 h' h k' 0 a r2 q5 q4).1
    rw [← this]; exact r1))
  exact ⟨hc, a, ⟨by omega, by omega, by rw [a1]; exact q3, by rw [b1]; exact q4, by rw [c2]; exact q5⟩, by rw [c1]; exact q6, by rw [b2]; exact q7, by rw [b2]; exact q8, by rw [hA]; exact q9⟩
theorem OpL_Fo {H : Nat → Prop} {S S' : CS} {h : Nat} {l : List Int32} (hW : Wf S) (hO : OpL S h l) (hf : Fo H S S') (hn : ¬ H h) : OpL S' h l := by
  obtain ⟨R, h1, h2⟩ := hO
  exact ⟨R, OpR_Fo hW h1 hf hn, h2⟩
theorem Sg_OpF {z : Nat} {S S' : CS} {h a : Nat} (hW : Wf S) (hj : cJ S h 0 = some a) (hf : OpF h a S S') : Sg z (fun x => x = h) 0 S S' := by
  obtain ⟨f1, f2, f3, f4, f5, f6, ⟨f7, f8, f9, fa⟩, fb⟩ := hf
  exact Sg_same hW f6 f7 fb f2 f3 f4 (fun x hx => f9 x hx) (fun x _ => by rw [f8]) (fun x _ ho => fa x (fun e => ho ⟨h, 0, rfl, by rw [e]; exact hj⟩))
/-- the length of the row that an operation has -/
theorem OpR_len {S : CS} {h : Nat} {R : List Pt} (hW : Wf S) (hO : OpR S h R) : R.length ≤ lenO S h ∧ lenO S h ≤ 1600 := by
  obtain ⟨_, a, ⟨q1, q2, q3, q4, q5⟩, q6, q7, q8, q9⟩ := hO
  obtain ⟨b, r1, r2, r3, r4, r5⟩ := hW.2.2.2.1 h q3
  have : b = a := Option.some.inj (r1.symm.trans q5)
  subst this
  rw [lenO_of q5]
  exact ⟨q7, r4⟩
theorem addK_len (n : Nat) (R : List Pt) : (addK n R).length ≤ R.length + 1 := by
  unfold addK; cases R with
  | nil => simp
  | cons x r => dsimp only; split <;> simp
theorem addC_len (n : Nat) (R : List Pt) : (addC n R).length ≤ R.length + 1 := by
  unfold addC; cases R with
  | nil => simp
  | cons x r => dsimp only; split <;> simp
theorem addP_len (n : Nat) (R : List Pt) : (addP n R).length = R.length + 1 := by
  unfold addP; cases R with
  | nil => simp
  | cons x r => dsimp only; split <;> simp
/-- the row of an operation is the same: its length too -/
theorem addKeep_R {z : Nat} {S : CS} {h n : Nat} {R : List Pt} (hW : Wf S) (hO : OpR S h R) (h1 : 1 ≤ n) (hd : (decR R).length + n < 100000) (hs : R.length + 1 ≤ lenO S h) : ∃ S', f4_addKeep S h (nI n) = some S' ∧ OpR S' h (addK n R) ∧ lenO S' h = lenO S h ∧ Sg z (fun x => x = h) 0 S S' := by
  obtain ⟨hc, a, hA⟩ := hO
  have hj := hA.1.2.2.2.2
  rw [lenO_of hj] at hs
  have := addK_len n R
  obtain ⟨S', e1, e2, e3⟩ := addKeep_ok hA hc h1 (by omega) (by omega)
  exact ⟨S', e1, ⟨Can_addK hc h1 (by omega), a, e2⟩, by unfold lenO; rw [e3.2.2.2.1, e3.2.2.2.2.2.2.2], Sg_OpF hW hj e3⟩
theorem addCut_R {z : Nat} {S : CS} {h n : Nat} {R : List Pt} (hW : Wf S) (hO : OpR S h R) (h1 : 1 ≤ n) (hd : (decR R).length + n < 100000) (hs : R.length + 1 ≤ lenO S h) : ∃ S', f4_addCut S h (nI n) = some S' ∧ OpR S' h (addC n R) ∧ lenO S' h = lenO S h ∧ Sg z (fun x => x = h) 0 S S' := by
  obtain ⟨hc, a, hA⟩ := hO
  have hj := hA.1.2.2.2.2
  rw [lenO_of hj] at hs
  have := addC_len n R
  obtain ⟨S', e1, e2, e3⟩ := addCut_ok hA hc h1 (by omega) (by omega)
  exact ⟨S', e1, ⟨Can_addC hc h1 (by omega), a, e2⟩, by unfold lenO; rw [e3.2.2.2.1, e3.2.2.2.2.2.2.2], Sg_OpF hW hj e3⟩
theorem addPut_R {z : Nat} {S : CS} {h w : Nat} {R : List Pt} (hW : Wf S) (hO : OpR S h R) (h1 : 1 ≤ w) (h2 : w ≤ 26) (hs : R.length + 1 ≤ lenO S h) : ∃ S', f4_addPut S h (nI w) = some S' ∧ OpR S' h (addP w R) ∧ lenO S' h = lenO S h ∧ Sg z (fun x => x = h) 0 S S' := by
  obtain ⟨hc, a, hA⟩ := hO
  have hj := hA.1.2.2.2.2
  rw [lenO_of hj] at hs
  have := addP_len w R
  obtain ⟨S', e1, e2, e3⟩ := addPut_ok hA hc h1 h2 (by omega)
  exact ⟨S', e1, ⟨Can_addP hc h1 h2, a, e2⟩, by unfold lenO; rw [e3.2.2.2.1, e3.2.2.2.2.2.2.2], Sg_OpF hW hj e3⟩
/-- room for so much more -/
def Rm (z : Nat) (X : Nat × Nat) (c : Nat) (S : CS) : Prop := Tt z S + c + 1600 ≤ X.2 ∧ 12 * cZ S + X.2 + 12 ≤ 12 * X.1 + cU S
theorem Rm_step {z : Nat} {X : Nat × Nat} {H : Nat → Prop} {c d : Nat} {S S' : CS} (hR : Rm z X (c + d) S) (h : Sg z H c S S') : Rm z X d S' := ⟨by have := h.2.2.1; have := hR.1; omega, by have := h.2.2.2.1; have := hR.2; omega⟩
theorem Rm_mono {z : Nat} {X : Nat × Nat} {c d : Nat} {S : CS} (hR : Rm z X c S) (h : d ≤ c) : Rm z X d S := ⟨by have := hR.1; omega, hR.2⟩
theorem Rm_use {z : Nat} {X : Nat × Nat} {c : Nat} {S : CS} (hR : Rm z X c S) : cZ S < X.1 ∧ ∀ n, n ≤ 1600 → cU S + n ≤ X.2 := by
  have h1 := hR.1
  have h2 := hR.2
  unfold Tt at h1
  exact ⟨by omega, fun n hn => by omega⟩
/-- operations whose row may begin anew; what a copy costs -/
def grw (z h : Nat) : Prop := ∀ L L', 2 * L ≤ L' → L' + wt z h L ≤ wt z h L'
def cpc (z h s c : Nat) : Prop := ∀ L L', L < s → s ≤ L' → L' + wt z h L ≤ wt z h L' + c
theorem begin_R {z : Nat} {X : Nat × Nat} {S : CS} {h m c : Nat} (hW : Wf S) (hR : Rm z X c S) (hg : grw z h) (q3 : kd S h = 4) (hm : m ≤ 801) : ∃ S', f4_begin X S h (nI m) = some S' ∧ OpR S' h [] ∧ (m ≤ lenO S' h ∧ lenO S h ≤ lenO S' h) ∧ Sg z (fun x => x = h) 0 S S' := by
  obtain ⟨b, q5, q4, r3, r4, r5⟩ := hW.2.2.2.1 h q3
  obtain ⟨q1, q2⟩ := hW.2.1 h 0 b q5
  obtain ⟨u1, u2⟩ := Rm_use hR
  unfold f4_begin
  simp only [gr_k q3 q5, Option.bind_some, aln_k q4]
  by_cases hle : m ≤ cN S b
  · rw [if_pos (nI_le hle (by omega)), Option.bind_some, pi_k q3, Option.bind_some]
    refine ⟨_, rfl, ⟨trivial, b, ⟨q1, q2, q3, q4, q5⟩, cI_self _ _ _ _, Nat.zero_le _, by show cN S b < 1000000; omega, fun k hk => absurd hk (Nat.not_lt_zero _)⟩, ?_, Sg_setI hW rfl⟩
    rw [lenO_of (S := setI S h 1 0) q5, lenO_of q5]; exact ⟨hle, Nat.le_refl _⟩
  · have e2 : (if nI m < 2 * nI (cN S b) then 2 * nI (cN S b) else nI m) = nI (max m (2 * cN S b)) := by
      rw [show (2 : Int32) * nI (cN S b) = nI (2 * cN S b) from nI_mul 2 (cN S b)]
      by_cases hx : m < 2 * cN S b
      · rw [if_pos (nI_lt hx (by omega)), show max m (2 * cN S b) = 2 * cN S b by omega]
      · rw [if_neg (nI_nlt (by omega) (by omega)), show max m (2 * cN S b) = m by omega]
    rw [if_neg (nI_ge (by omega) (by omega)), e2]
    generalize hN : max m (2 * cN S b) = N
    rw [nwa_k u1 (u2 N (by omega)) (by omega), Option.bind_some]
    have hk8 : kd (bornA S 14 N) h = 4 := by rw [kd_bornA q1]; exact q3
    rw [pr_k hk8, Option.bind_some, Option.bind_some, pi_k (S := setJ (bornA S 14 N) h 0 (some (cZ S))) hk8, Option.bind_some]
    have s1 : Sg z (fun x => x = h) 0 S (setJ (bornA S 14 N) h 0 (some (cZ S))) := Sg_born hW q3 rfl (by omega) (by omega) (by rw [lenO_of q5]; exact hg (cN S b) N (by omega))
    refine ⟨_, rfl, ⟨trivial, cZ S, OpA_new q1 q3 (by omega) 0⟩, ?_, Sg_trans s1 (Sg_setI s1.1 rfl)⟩
    rw [lenO_of (S := setI (setJ (bornA S 14 N) h 0 (some (cZ S))) h 1 0) (a := cZ S) (cJ_self _ _ _ _)]
    rw [lenO_of q5]
    show m ≤ va_up S.2.2.2.2.1 (cZ S) N (cZ S) ∧ _ ≤ va_up S.2.2.2.2.1 (cZ S) N (cZ S)
    rw [va_up_self]; omega
