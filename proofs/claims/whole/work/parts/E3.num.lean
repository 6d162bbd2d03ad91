/-! ===== PART II, the class: numbers, steps: as the abstract reader reads them ===== -/
def CE (T : List Int32) (p : Pz) : Prop := ∀ x, pEd p = some x → x ≤ pAt p ∧ (x = lkP T (pAt p) → isDg (byteAt T x) = false)
theorem fail_go {p : Pz} {k q : Nat} (h : pBd p = 0) : pFail p k q = (pAt p, pEd p, k, some q) := by unfold pFail; rw [if_pos h]
theorem fail_g1 {a k q : Nat} {p : Pz} (h : pBd p = 0) : pFail (a, p.2) k q = (a, pEd p, k, some q) := fail_go (p := (a, p.2)) h
theorem fail_g2 {a k q : Nat} {b : Option Nat} {p : Pz} (h : pBd p = 0) : pFail (a, b, p.2.2) k q = (a, b, k, some q) := fail_go (p := (a, b, p.2.2)) h
theorem dg_not {c : Int32} (h : isDg c = true) : c ≠ 10 ∧ c ≠ 32 ∧ c ≠ -1 ∧ c ≠ 59 ∧ c ≠ 43 ∧ c ≠ 45 := by
  refine ⟨?_, ?_, ?_, ?_, ?_, ?_⟩ <;> intro e <;> rw [e] at h <;> revert h <;> decide
theorem lk_dg {T : List Int32} {i : Nat} (h : isDg (byteAt T i) = true) : lkP T i = i := by
  have hi : i < T.length := Decidable.byContradiction fun hh => by
    rw [byte_end (by omega), lt_n1.2] at h; cases h
  have := dg_not h
  rw [lk_step hi, if_neg (fun hh => hh.elim this.1 this.2.1)]
/-- a digit right behind a word -/
theorem num_side {T : List Int32} {lo hi : Nat} {p : Pz} (hb : pBd p = 0) (he : pEd p = some (pAt p)) (hd : isDg (byteAt T (pAt p)) = true) : pBd (pNum T lo hi p).2 = 1 ∧ pBp (pNum T lo hi p).2 = some (pAt p) := by
  have hl := lk_dg hd
  unfold pNum
  rw [if_pos hb, hl, if_neg (fun hh => hh.2 he), fail_go (show pBd ((pAt p, p.2) : Pz) = 0 from hb)]
  exact ⟨rfl, rfl⟩
def sN (v : Tm) (k : Nat) (x : Int32) : Tm := (v.1, v.2.1, v.2.2.1, v.2.2.2.1, v.2.2.2.2.1, v.2.2.2.2.2.1, upd v.2.2.2.2.2.2 (4 * v.2.1 + k) x)
section T3
variable {S S' S'' : CS} {z i k q : Nat} {T : List Int32} {v : Tm}
/-- a fault, as the abstract reader has it -/
def BDp (z : Nat) (S S' : CS) (p : Pz) : Prop := pBd p ≠ 0 ∧ ∃ q, (pBp p = some q ∧ pBd p ≤ 5) ∧ BD8 z S S' (pBd p) q
def OKp (z : Nat) (S S' : CS) (T : List Int32) (p : Pz) (v : Tm) : Prop := pBd p = 0 ∧ OK8 z S S' T (pAt p) v
theorem BDp_of {p : Pz} {k q : Nat} (h : BD8 z S S' k q) (hk : k ≠ 0 ∧ k ≤ 5) (h1 : pBd p = k) (h2 : pBp p = some q) : BDp z S S' p := ⟨by omega, q, ⟨h2, by omega⟩, by rw [h1]; exact h⟩
theorem BDp_tr {p : Pz} {i : Nat} (h1 : OK8 z S S' T i v) (h2 : BDp z S' S'' p) : BDp z S S'' p := by
  obtain ⟨a, q, b, c⟩ := h2
  exact ⟨a, q, b, BD8_tr h1 c⟩
theorem num_R {lo hi : Nat} {p : Pz} (h : PR S z T (pAt p) v) (hb : pBd p = 0) (hc : CE T p) (hlo : lo ≤ 100) (hhi : hi ≤ 100) : ∃ S' r, cal S 8 (z + 1) (f8_readDigits S (z + 1) (nI lo) (nI hi)) = some (r, S') ∧ ((r = nI (pNum T lo hi p).1 ∧ OKp z S S' T (pNum T lo hi p).2 v ∧ CE T (pNum T lo hi p).2 ∧ (pNum T lo hi p).1 < 100) ∨ (r = -1 ∧ BDp z S S' (pNum T lo hi p).2)) := by
  obtain ⟨S', r, r1, r2⟩ := num_P (lo := lo) (hi := hi) h hlo hhi
  refine ⟨S', r, r1, ?_⟩
  have hgd : isDg (byteAt T (lkP T (pAt p))) = true → pEd p ≠ some (lkP T (pAt p)) := fun hd he => by
    have := (hc _ he).2 rfl
    rw [hd] at this; cases this
  unfold pNum
  rw [if_pos hb]
  rcases r2 with ⟨e1, e2, e3, e4, e5, e6, e7⟩ | ⟨e1, e2, e3, e4, e5⟩ | ⟨e1, e2, e3, e4⟩ | ⟨e1, e2, e3⟩
  · rw [if_pos ⟨e2, hgd e2⟩, if_pos e3]
    dsimp only
    rw [if_pos e4]
    refine Or.inl ⟨e1, ⟨hb, e6⟩, fun x hx => ?_, e5⟩
    have : lkP T (pAt p) + (scN (T.drop (lkP T (pAt p))) 0 0).2.1 = x := Option.some.inj hx
    rw [← this]
    exact ⟨Nat.le_refl _, fun _ => e7⟩
  · rw [if_pos ⟨e2, hgd e2⟩, if_pos e3]
    dsimp only
    rw [if_neg e4, fail_g2 hb]
    exact Or.inr ⟨e1, BDp_of e5 (by omega) rfl rfl⟩
  · rw [if_pos ⟨e2, hgd e2⟩, if_neg (by rw [e3]; decide), fail_g1 hb]
    exact Or.inr ⟨e1, BDp_of e4 (by omega) rfl rfl⟩
  · rw [if_neg (fun hh => by rw [e2] at hh; cases hh.1), fail_g1 hb]
    exact Or.inr ⟨e1, BDp_of e3 (by omega) rfl rfl⟩
/-- a number is kept, whatever stands -/
theorem setN_T {k : Nat} {x : Int32} (hW : Wf S) (hT : TpS S z) : ∃ S', cal S 8 (z + 1) (f8_setNumber S (z + 1) (nI k) x) = some S' ∧ cI S' = cI S ∧ Sg z (H1 z) 0 S S' := by
  obtain ⟨b0, b1, b2, b3, b4⟩ := hT.2.2.1
  obtain ⟨_, _, _, ⟨c6, c7⟩⟩ := hT.2.2.2.1
  rw [cal_k b0]
  unfold f8_setNumber
  rw [gi_k b0, Option.bind_some]
  by_cases h1 : (4 * cI S (z + 1) 4 + nI k) < (0 : Int32)
  · rw [if_pos h1]; exact ⟨S, rfl, rfl, Sg_refl hW⟩
  · rw [if_neg h1, gr_k b0 b4, Option.bind_some, aln_k c6, c7, Option.bind_some]
    by_cases h2 : nI 240 ≤ (4 * cI S (z + 1) 4 + nI k)
    · rw [if_pos h2]; exact ⟨S, rfl, rfl, Sg_refl hW⟩
    · rw [if_neg h2]
      rw [Int32.lt_iff_toInt_lt, i0] at h1
      rw [i_ge (by omega)] at h2
      have hj := nI_ofInt (p := 4 * cI S (z + 1) 4 + nI k) (by omega)
      generalize hJ : (4 * cI S (z + 1) 4 + nI k).toInt.toNat = j at hj
      rw [hj, Option.bind_some, sti_k c6 (by omega) (by omega), Option.bind_some, Option.bind_some]
      exact ⟨_, rfl, rfl, Sg_setA hW rfl b4⟩
theorem BDp_set {p : Pz} {k : Nat} {x : Int32} (h : BDp z S S' p) : ∃ S'', cal S' 8 (z + 1) (f8_setNumber S' (z + 1) (nI k) x) = some S'' ∧ BDp z S S'' p := by
  obtain ⟨a, q, b, ⟨c1, c2⟩, c3, c4, c5⟩ := h
  obtain ⟨S'', r1, r2, r3⟩ := setN_T (k := k) (x := x) c1 c2
  exact ⟨S'', r1, a, q, b, ⟨r3.1, TpS_Sg c1 c2 r3⟩, by rw [r2]; exact c3, by rw [r2]; exact c4, by have := Sg_trans c5 r3; exact this⟩
theorem readN_R {k lo hi : Nat} {p : Pz} (h : PR S z T (pAt p) v) (hb : pBd p = 0) (hc : CE T p) (hk : 4 * v.2.1 + k < 240) (hlo : lo ≤ 100) (hhi : hi ≤ 100) : ∃ S' r, cal S 8 (z + 1) (f8_readNumber S (z + 1) (nI k) (nI lo) (nI hi)) = some (r, S') ∧ ((r = 1 ∧ OKp z S S' T (pNum T lo hi p).2 (sN v k (nI (pNum T lo hi p).1)) ∧ CE T (pNum T lo hi p).2 ∧ (pNum T lo hi p).1 < 100) ∨ (r = 0 ∧ BDp z S S' (pNum T lo hi p).2)) := by
  obtain ⟨S2, r, r1, r2⟩ := num_R (lo := lo) (hi := hi) h hb hc hlo hhi
  rw [cal_k (PR_k h)]
  unfold f8_readNumber
  rw [r1, bn2_s]
  rcases r2 with ⟨rfl, ⟨e1, e2⟩, e3, e4⟩ | ⟨rfl, e1⟩
  · obtain ⟨S3, x1, x2⟩ := setN_P (k := k) (x := nI (pNum T lo hi p).1) e2.1 hk
    rw [x1, Option.bind_some, if_neg (show ¬ nI (pNum T lo hi p).1 = (-1 : Int32) from fun hh => by
        have h3 := is1.mp hh
        rw [nI_toInt (by omega)] at h3
        omega)]
    exact ⟨S3, 1, rfl, Or.inl ⟨rfl, ⟨e1, OK8_tr e2 x2⟩, e3, e4⟩⟩
  · obtain ⟨S3, x1, x2⟩ := BDp_set (k := k) (x := -1) e1
    rw [x1, Option.bind_some, if_pos rfl]
    exact ⟨S3, 0, rfl, Or.inr ⟨rfl, x2⟩⟩
theorem readE_R {cnt : Nat} {p : Pz} (h : PR S z T (pAt p) v) (hb : pBd p = 0) (hc : CE T p) (hk : 4 * v.2.1 < 240) (hcn : v.2.2.1 = nI cnt) (h1 : 1 ≤ cnt) (h4 : cnt ≤ 100) : ∃ S' r, cal S 8 (z + 1) (f8_readEditor S (z + 1)) = some (r, S') ∧ ((r = 1 ∧ OKp z S S' T (pNum T 0 (cnt - 1) p).2 (sN v 0 (nI (pNum T 0 (cnt - 1) p).1)) ∧ CE T (pNum T 0 (cnt - 1) p).2 ∧ (pNum T 0 (cnt - 1) p).1 < 100) ∨ (r = 0 ∧ BDp z S S' (pNum T 0 (cnt - 1) p).2)) := by
  have e5 : gi S 8 (z + 1) 5 = some (nI cnt) := by rw [gi_k (PR_k h), h.2.2.2.2.1.2.2.1, hcn]
  obtain ⟨S', r, r1, r2⟩ := readN_R (k := 0) (lo := 0) (hi := cnt - 1) h hb hc (by omega) (by omega) (by omega)
  rw [cal_k (PR_k h)]
  unfold f8_readEditor
  rw [e5, Option.bind_some, show nI cnt - 1 = nI (cnt - 1) from nI_sub (b := 1) h1, show cal S 8 (z + 1) (f8_readNumber S (z + 1) 0 0 (nI (cnt - 1))) = some (r, S') from r1, bn2_s]
  rcases r2 with ⟨rfl, e⟩ | ⟨rfl, e⟩
  · exact ⟨S', 1, rfl, Or.inl ⟨rfl, e⟩⟩
  · exact ⟨S', 0, rfl, Or.inr ⟨rfl, e⟩⟩
/-- a step as parts -/
def partL (s : Sv) : List Int32 := if s.1 = 1 then s.2.2 else if s.1 = 2 then [-(nI s.2.1)] else [nI (31 + s.2.1)]
def isSt (c : Int32) : Bool := isDg c || (decide (c = 43) || decide (c = 45))
theorem isStep_P (h : PR S z T i v) : cal S 8 (z + 1) (f8_isAtStep S (z + 1)) = some (bI (isSt (byteAt T i))) := by
  have hd := isDg_P h
  have hl := look_P h
  rw [cal_k (PR_k h)]
  unfold f8_isAtStep isSt
  rw [hd, Option.bind_some]
  cases isDg (byteAt T i) with
  | true => rw [if_neg (show ¬ bI true = 0 by decide), Option.bind_some]; rfl
  | false =>
    rw [if_pos (show bI false = 0 from rfl), hl, Option.bind_some]
    by_cases c1 : byteAt T i = 43
    · rw [if_pos c1, Option.bind_some, decide_eq_true c1]; rfl
    · rw [if_neg c1, Option.bind_some, decide_eq_false c1]
      by_cases c2 : byteAt T i = 45
      · rw [if_pos c2, Option.bind_some, decide_eq_true c2]; rfl
      · rw [if_neg c2, Option.bind_some, decide_eq_false c2]; rfl
theorem sign_no {c : Int32} {p : Pz} (hb : pBd p = 0) (h : byteAt T (lkP T (pAt p)) ≠ c) : pSign T c p = (false, (lkP T (pAt p), p.2)) := by unfold pSign; rw [if_pos hb, if_neg h]
theorem sign_yes {c : Int32} {p : Pz} (hb : pBd p = 0) (h : byteAt T (lkP T (pAt p)) = c) : pSign T c p = (true, (lkP T (pAt p) + 1, p.2)) := by unfold pSign; rw [if_pos hb, if_pos h]
end T3
