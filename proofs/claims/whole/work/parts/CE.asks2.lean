/-! ===== PART II, the class: more that is asked, where nothing changes ===== -/
theorem findS_neg {k what : Int32} (hw : what.toInt < 0) : ∀ (gs : List (List Int32)) (n : Nat), findS (-1) k what n gs = -1 := by
  intro gs
  induction gs with
  | nil => intro n; rfl
  | cons g gs ih =>
    intro n
    have hv : stepV g what = -1 := by
      unfold stepV
      rw [if_neg (fun e => by rw [e] at hw; revert hw; decide), if_neg (fun e => by rw [e] at hw; revert hw; decide), if_neg (fun e => by omega)]
    rw [findS, hv]
    rw [show (if nI n = k then (-1 : Int32) else -1) = -1 from by split <;> rfl]
    exact ih _
theorem askS_neg {S : CS} {o : Nat} {A : List Int32} (hW : Wf S) (hO : OpL S o A) {k what : Int32} (h : k.toInt < 0 ∨ what.toInt < 0) : askS A k what = -1 := by
  rcases h with h | h
  · obtain ⟨R, hR, dA⟩ := hO
    have hlR := OpR_len hW hR
    have hse := steps_ex (FC_of hR.1)
    rw [List.length_reverse, decF_R, dA] at hse
    unfold askS
    rw [findS_none _ 0 (fun j hj e => by
      have := congrArg Int32.toInt e
      rw [nI_toInt (by omega)] at this
      omega)]
  · exact findS_neg h _ _
def opA (o : Option (List Int32)) (k what : Int32) : Int32 := match o with
  | none => -1
  | some P => askS P k what
theorem qStep_A (A : St) (p q k what : Int32) : qStep A p q k what = if (0 ≤ p.toInt ∧ p.toInt < aCnt A) ∧ 0 ≤ k.toInt ∧ 0 ≤ what.toInt then opA (opOf (wE (aW A) p.toInt.toNat) q) k what else -1 := by
  unfold qStep opA
  by_cases h : (0 ≤ p.toInt ∧ p.toInt < aCnt A) ∧ 0 ≤ k.toInt ∧ 0 ≤ what.toInt
  · rw [if_pos h, if_pos h]
    cases opOf (wE (aW A) p.toInt.toNat) q <;> rfl
  · rw [if_neg h, if_neg h]
section AL
variable {S : CS} {z fi ch : Nat} {A : St} {K : Nat → Option Nat}
theorem ask_if {o : Nat} {P : List Int32} {c : Prop} [Decidable c] (hW : Wf S) (hO : OpL S o P) (k what : Int32) (hc : ¬ c → k.toInt < 0 ∨ what.toInt < 0) : askS P k what = if c then askS P k what else -1 := by
  by_cases h : c
  · rw [if_pos h]
  · rw [if_neg h]; exact askS_neg hW hO (hc h)
theorem step_C (h : CR S z A K fi ch) (hg : GA A) (p q k what : Int32) : f11_step S z p q k what = some (qStep A p q k what) := by
  have hkn := kn_C h hg p
  have hed := fun hp => ed_C h hg (p := p) hp
  obtain ⟨hW, hT, hTp, hTf, hsh, hwd, ha, hk, hh, hc⟩ := h
  obtain ⟨a1, ⟨j0, j1, j2, j3, j4, j5, j6, j7, j8, j9, j10⟩, _⟩ := id hT
  obtain ⟨hS, ⟨n6, n7, n8, n9, n10, n11⟩, h5, hTx, hF, hE⟩ := id hwd
  rw [qStep_A]
  unfold f11_step
  rw [gr_k a1 j3, Option.bind_some, hkn, Option.bind_some]
  by_cases hp : 0 ≤ p.toInt ∧ p.toInt < aCnt A
  · obtain ⟨p1, p2, p3, p4, ⟨⟨k1, ⟨m8, m10, m11, m12, m13, m14⟩, k3, k4, k5⟩, k6⟩⟩ := hed hp
    obtain ⟨⟨t1, i1, u1⟩, _⟩ := k6 rfl
    rw [decide_eq_true hp, if_neg (show ¬ bI true = 0 by decide), Option.bind_some, gr_k hS.1 hS.2.1.2.2.2.1, Option.bind_some, p4, Option.bind_some]
    generalize hE : wE (aW A) p.toInt.toNat = E at *
    have key : ∀ (o : Option (List Int32)), (∀ P, o = some P → ∃ x, OpL S x P) → opA o k what = if (0 ≤ p.toInt ∧ p.toInt < ↑(aCnt A)) ∧ 0 ≤ k.toInt ∧ 0 ≤ what.toInt then opA o k what else -1 := fun o ho => by
      cases o with
      | none => show (-1 : Int32) = if _ then -1 else -1; split <;> rfl
      | some P => obtain ⟨x, hx⟩ := ho P rfl; exact ask_if hW hx k what (fun hh => by omega)
    have ho : ∀ P, opOf E q = some P → ∃ x, OpL S x P := fun P hP => by
      unfold opOf at hP
      split at hP
      · rw [hP] at k4; exact ⟨_, (OpS_get k4).1⟩
      · split at hP
        · rw [hP] at k5; exact ⟨_, (OpS_get k5).1⟩
        · split at hP
          · obtain ⟨x, hx, rfl⟩ := Option.map_eq_some_iff.mp hP
            obtain ⟨hs, _, _, _, io⟩ := i1
            rw [List.getLast?_eq_getElem?] at hx
            obtain ⟨y, _, hy⟩ := io _ _ hx
            exact ⟨y, hy⟩
          · split at hP
            · obtain ⟨x, hx, rfl⟩ := Option.map_eq_some_iff.mp hP
              obtain ⟨hs, _, _, _, io⟩ := u1
              rw [List.getLast?_eq_getElem?] at hx
              obtain ⟨y, _, hy⟩ := io _ _ hx
              exact ⟨y, hy⟩
            · cases hP
    rw [← key _ ho]
    unfold opOf
    by_cases q0 : q = 0
    · rw [if_pos q0, if_pos q0, gi_k k1.1, m12, Option.bind_some]
      cases hpn : ePnd E with
      | none => rfl
      | some P =>
        rw [hpn] at k4
        rw [if_neg (show ¬ bI (some P).isSome = 0 by rw [show bI (some P).isSome = 1 from rfl]; decide), gr_k k1.1 k1.2.1.2.1, Option.bind_some, cal_k k1.2.2.1.2.1, ask_N hW (OpS_get k4).1, Option.bind_some, Option.bind_some]; rfl
    · rw [if_neg q0, if_neg q0]
      by_cases q1 : q = 1
      · rw [if_pos q1, if_pos q1, gi_k k1.1, m13, Option.bind_some]
        cases hpn : eBuf E with
        | none => rfl
        | some P =>
          rw [hpn] at k5
          rw [if_neg (show ¬ bI (some P).isSome = 0 by rw [show bI (some P).isSome = 1 from rfl]; decide), gr_k k1.1 k1.2.1.2.2.1, Option.bind_some, cal_k k1.2.2.1.2.2.1, ask_N hW (OpS_get k5).1, Option.bind_some, Option.bind_some]; rfl
      · rw [if_neg q1, if_neg q1]
        by_cases q2 : q = 2
        · rw [if_pos q2, if_pos q2, gr_k k1.1 k1.2.1.2.2.2.1, Option.bind_some, cal_k k1.2.2.1.2.2.2.1, askLatest_I hW i1, Option.bind_some]; cases (eUnd E).getLast? <;> rfl
        · rw [if_neg q2, if_neg q2]
          by_cases q3 : q = 3
          · rw [if_pos q3, if_pos q3, gr_k k1.1 k1.2.1.2.2.2.2.1, Option.bind_some, cal_k k1.2.2.1.2.2.2.2, askLatest_I hW u1, Option.bind_some]; cases (eDon E).getLast? <;> rfl
          · rw [if_neg q3, if_neg q3]; rfl
  · rw [decide_eq_false hp, if_pos (show bI false = 0 from rfl), if_neg (fun hh => hp hh.1)]
theorem taken_C (h : CR S z A K fi ch) (hg : GA A) (p : Int32) : cal S 11 z (f11_isTaken S z p) = some (bI (decide (1 ≤ p.toInt ∧ p.toInt ≤ (wRow (aW A)).length))) := by
  obtain ⟨hW, hT, hTp, hTf, hsh, hwd, ha, hk, hh, hc⟩ := h
  have hl := row_le hg.2.2.1
  rw [cal_k hT.1]
  unfold f11_isTaken
  by_cases h1 : p < 1
  · rw [if_pos h1, Option.bind_some, decide_eq_false (fun hh => by rw [Int32.lt_iff_toInt_lt, show (1 : Int32).toInt = 1 from by decide] at h1; omega)]; rfl
  · rw [if_neg h1, gr_k hT.1 hT.2.1.2.2.2.1, Option.bind_some, gi_k hwd.1.1, hwd.2.1.2.2.2.2.2, Option.bind_some]
    rw [Int32.lt_iff_toInt_lt, show (1 : Int32).toInt = 1 from by decide] at h1
    by_cases h2 : nI (wRow (aW A)).length < p
    · rw [if_pos h2, Option.bind_some, decide_eq_false (fun hh => by rw [i_gt (by omega)] at h2; omega)]; rfl
    · rw [if_neg h2, Option.bind_some, decide_eq_true (by rw [i_gt (by omega)] at h2; omega)]; rfl
/-- an operation of the row that there is -/
theorem row_at (h : CR S z A K fi ch) (hg : GA A) {p : Int32} (hp : 1 ≤ p.toInt ∧ p.toInt ≤ (wRow (aW A)).length) : ∃ o, p = nI p.toInt.toNat ∧ p - 1 = nI (p.toInt.toNat - 1) ∧ (wRow (aW A))[p.toInt.toNat - 1]? = some o ∧ ldr S 17 (z + 22 + 3) (p - 1) = some (z + 22 + 5 + 2 * (p.toInt.toNat - 1)) ∧ OpL S (z + 22 + 5 + 2 * (p.toInt.toNat - 1)) o.2 ∧ ldi S (z + 22 + 4) (p - 1) = some (nI o.1) := by
  obtain ⟨hW, hT, hTp, hTf, hsh, hwd, ha, hk, hh, hc⟩ := h
  have hl := row_le hg.2.2.1
  obtain ⟨hw, hob, hRw, hst, hRM⟩ := hsh
  have hn := nI_ofInt (p := p) (by omega)
  have hn1 : p - 1 = nI (p.toInt.toNat - 1) := by
    have : nI p.toInt.toNat - nI 1 = nI (p.toInt.toNat - 1) := nI_sub (by omega)
    rw [← hn] at this; exact this
  have hge := List.getElem?_eq_getElem (show p.toInt.toNat - 1 < (wRow (aW A)).length by omega)
  obtain ⟨r1, r2⟩ := hRM.2 _ _ hge
  refine ⟨_, hn, hn1, hge, ?_, r1, ?_⟩
  · rw [hn1]; exact ldr_k hRw.2.2.2.1.1 (by have := hRw.2.2.2.1.2; omega) (by have := hRw.2.2.2.1.2; omega) (hRw.2.2.2.2.2 _ (by omega)).1
  · rw [hn1, ldi_k hRw.2.2.2.2.1.1 (by have := hRw.2.2.2.2.1.2; omega) (by have := hRw.2.2.2.2.1.2; omega), r2]
theorem row_C (h : CR S z A K fi ch) (hg : GA A) (p k what : Int32) : f11_row S z p k what = some (qRow A p k what) := by
  have htk := taken_C h hg p
  have hrw := fun hp => row_at h hg (p := p) hp
  obtain ⟨hW, hT, hTp, hTf, hsh, hwd, ha, hk, hh, hc⟩ := h
  obtain ⟨hw, hob, hRw, hst, hRM⟩ := id hsh
  unfold f11_row qRow
  rw [htk, Option.bind_some]
  by_cases hp : 1 ≤ p.toInt ∧ p.toInt ≤ (wRow (aW A)).length
  · obtain ⟨o, o1, o2, o3, o4, o5, o6⟩ := hrw hp
    rw [decide_eq_true hp, if_neg (show ¬ bI true = 0 by decide), gr_k hT.1 hT.2.1.2.2.1, Option.bind_some, gr_k hRw.1 hRw.2.1.2.1, Option.bind_some, o4, Option.bind_some, o3]
    dsimp only
    by_cases hk1 : k = -1
    · rw [if_pos hk1]
      by_cases hw0 : what = 0
      · rw [if_pos hw0, Option.bind_some, gr_k hRw.1 hRw.2.1.2.2, Option.bind_some, o6, Option.bind_some, if_pos ⟨hp, by rw [hk1]; decide, by rw [hw0]; decide⟩, if_pos hk1, if_pos hw0]
      · rw [if_neg hw0]
        by_cases hw1 : what = 1
        · rw [if_pos hw1, cal_k (OpL_kd o5), countSteps_N hW o5, Option.bind_some, Option.bind_some, if_pos ⟨hp, by rw [hk1]; decide, by rw [hw1]; decide⟩, if_pos hk1, if_neg hw0, if_pos hw1]
        · rw [if_neg hw1, Option.bind_some, if_pos hk1, if_neg hw0, if_neg hw1]
          split <;> rfl
    · rw [if_neg hk1, cal_k (OpL_kd o5), ask_N hW o5, Option.bind_some, if_neg hk1]
      rw [ask_if (c := (1 ≤ p.toInt ∧ p.toInt ≤ (wRow (aW A)).length) ∧ -1 ≤ k.toInt ∧ 0 ≤ what.toInt) hW o5 k what (fun hh => by
        have hm : (-1 : Int32).toInt = -1 := by decide
        omega)]
      by_cases hcc : (1 ≤ p.toInt ∧ p.toInt ≤ (wRow (aW A)).length) ∧ -1 ≤ k.toInt ∧ 0 ≤ what.toInt
      · rw [if_pos hcc, if_pos hcc]
      · rw [if_neg hcc, if_neg hcc]
  · rw [decide_eq_false hp, if_pos (show bI false = 0 from rfl), if_neg (fun hh => hp hh.1)]
theorem mkAt_gt {f : Nat → Int32} : ∀ (l : List (Nat × Nat × Nat)) (a i : Nat) (x : Nat × Nat × Nat), mkAt f a l → l[i]? = some x → f (a + 3 * i) = nI x.1 ∧ f (a + 3 * i + 1) = nI x.2.1 ∧ f (a + 3 * i + 2) = nI x.2.2 := by
  intro l
  induction l with
  | nil => intro a i x _ h; cases h
  | cons y l ih =>
    intro a i x h hi
    obtain ⟨h1, h2, h3, h4⟩ := h
    cases i with
    | zero =>
      have := Option.some.inj hi
      subst this
      exact ⟨h1, h2, h3⟩
    | succ i =>
      have := ih (a + 3) i x h4 hi
      rw [show a + 3 + 3 * i = a + 3 * (i + 1) by omega] at this
      exact this
theorem hasMark_E {e : Nat} {E : Ed} (hE : EdS S e) (hM : EdM S e E) (h4 : (eMks E).length ≤ 4) (q : Int32) : cal S 1 e (f1_hasMark S e q) = some (bI (decide (0 ≤ q.toInt ∧ q.toInt < (eMks E).length))) := by
  rw [cal_k hE.1]
  unfold f1_hasMark
  by_cases h1 : q < 0
  · rw [if_pos h1, Option.bind_some, decide_eq_false (fun hh => by rw [Int32.lt_iff_toInt_lt, i0] at h1; omega)]; rfl
  · rw [if_neg h1, gi_k hE.1, hM.1, Option.bind_some]
    rw [Int32.lt_iff_toInt_lt, i0] at h1
    by_cases h2 : nI (eMks E).length ≤ q
    · rw [if_pos h2, Option.bind_some, decide_eq_false (fun hh => by rw [i_ge (by omega)] at h2; omega)]; rfl
    · rw [if_neg h2, Option.bind_some, decide_eq_true (by rw [i_ge (by omega)] at h2; omega)]; rfl
theorem mark_C (h : CR S z A K fi ch) (hg : GA A) (p k what : Int32) : f11_mark S z p k what = some (qMark A p k what) := by
  have hkn := kn_C h hg p
  have hed := fun hp => ed_C h hg (p := p) hp
  obtain ⟨hW, hT, hTp, hTf, hsh, hwd, ha, hk, hh, hc⟩ := h
  obtain ⟨hS, ⟨n6, n7, n8, n9, n10, n11⟩, h5, hTx, hF, hE⟩ := id hwd
  unfold f11_mark qMark
  rw [gr_k hT.1 hT.2.1.2.2.2.1, Option.bind_some, hkn, Option.bind_some]
  by_cases hp : 0 ≤ p.toInt ∧ p.toInt < aCnt A
  · obtain ⟨p1, p2, p3, p4, ⟨⟨k1, _⟩, k6⟩⟩ := hed hp
    obtain ⟨_, hM⟩ := k6 rfl
    have h4 := (Good_Bd hg.2.2.1 p2).2.1
    rw [decide_eq_true hp, if_neg (show ¬ bI true = 0 by decide)]
    by_cases w0 : what < 0
    · rw [if_pos w0, if_neg (fun hh => by rw [Int32.lt_iff_toInt_lt, i0] at w0; omega)]
    · rw [if_neg w0]
      rw [Int32.lt_iff_toInt_lt, i0] at w0
      by_cases w2 : what ≤ 2
      · rw [if_pos w2, Option.bind_some, gr_k hS.1 hS.2.1.2.2.2.1, Option.bind_some, p4, Option.bind_some, hasMark_E k1 hM h4, Option.bind_some]
        rw [Int32.le_iff_toInt_le, show (2 : Int32).toInt = 2 from by decide] at w2
        by_cases hm : 0 ≤ k.toInt ∧ k.toInt < (eMks (wE (aW A) p.toInt.toNat)).length
        · have hge := List.getElem?_eq_getElem (show k.toInt.toNat < (eMks (wE (aW A) p.toInt.toNat)).length by omega)
          obtain ⟨g1, g2, g3⟩ := mkAt_gt _ _ _ _ hM.2.2 hge
          rw [Nat.zero_add] at g1 g2 g3
          have kn := nI_ofInt (p := k) (by omega)
          have wn := nI_ofInt (p := what) (by omega)
          have ew : 3 * k + what = nI (3 * k.toInt.toNat + what.toInt.toNat) := by
            rw [← nI_add, ← nI_mul, ← kn, ← wn]; rfl
          rw [decide_eq_true hm, if_neg (show ¬ bI true = 0 by decide), gr_k k1.1 k1.2.1.2.2.2.2.2.1, Option.bind_some, ew, ldi_k k1.2.2.2.1.1 (by have := k1.2.2.2.1.2; omega) (by have := k1.2.2.2.1.2; omega), Option.bind_some, Option.bind_some, if_pos ⟨hp, hm.1, by omega, w2⟩, hge]
          dsimp only
          by_cases e0 : what.toInt.toNat = 0
          · rw [e0, show 3 * k.toInt.toNat + 0 = 3 * k.toInt.toNat from rfl, g1, if_pos (by rw [wn, e0]; rfl)]
          · by_cases e1 : what.toInt.toNat = 1
            · rw [e1, g2, if_neg (fun e => e0 (by rw [e]; rfl)), if_pos (by rw [wn, e1]; rfl)]
            · rw [show what.toInt.toNat = 2 by omega, g3, if_neg (fun e => e0 (by rw [e]; rfl)), if_neg (fun e => e1 (by rw [e]; rfl))]
        · rw [decide_eq_false hm, if_pos (show bI false = 0 from rfl), Option.bind_some]
          by_cases hx : (0 ≤ p.toInt ∧ p.toInt < ↑(aCnt A)) ∧ 0 ≤ k.toInt ∧ 0 ≤ what.toInt ∧ what.toInt ≤ 2
          · rw [if_pos hx, List.getElem?_eq_none (by omega)]
          · rw [if_neg hx]
      · rw [if_neg w2, if_neg (fun hh => by rw [Int32.le_iff_toInt_le, show (2 : Int32).toInt = 2 from by decide] at w2; omega)]
  · rw [decide_eq_false hp, if_pos (show bI false = 0 from rfl), if_neg (fun hh => hp hh.1)]
end AL
