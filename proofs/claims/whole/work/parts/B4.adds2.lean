/-! ===== PART II, the class: a letter is put; a row is made ===== -/
theorem addPut_ok {S : CS} {h a w : Nat} {R : List Pt} (hO : OpA S h a R) (hR : CanR R) (h1 : 1 ≤ w) (h2 : w ≤ 26) (hs : (addP w R).length ≤ cN S a) : ∃ S', f4_addPut S h (nI w) = some S' ∧ OpA S' h a (addP w R) ∧ OpF h a S S' := by
  obtain ⟨⟨q1, q2, q3, q4, q5⟩, q6, q7, q8, q9⟩ := id hO
  have hl : R.length < cN S a := by
    have : (addP w R).length = R.length + 1 := by
      unfold addP
      cases R with
      | nil => rfl
      | cons x r => dsimp only; split <;> rfl
    omega
  unfold f4_addPut
  simp only [OpA_gi hO, OpA_gr hO, Option.bind_some, OpA_al hO]
  rw [if_pos (nI_lt hl (by omega)), sti_k q4 hl (by omega), Option.bind_some]
  generalize hS6 : setA S a (upd (cA S a) R.length (nI w)) = S6
  have k6 : ∀ x, kd S6 x = kd S x := fun x => by rw [← hS6]; rfl
  have n6 : cN S6 = cN S := by rw [← hS6]; rfl
  have g6 : gi S6 4 h 1 = some (nI R.length) := by rw [gi_k (by rw [k6]; exact q3), ← hS6]; exact congrArg some q6
  have r6 : gr S6 4 h 0 = some a := gr_k (by rw [k6]; exact q3) (by rw [← hS6]; exact q5)
  have a6 : cA S6 a = upd (cA S a) R.length (nI w) := by rw [← hS6]; exact cA_self _ _ _
  simp only [g6, r6, Option.bind_some]
  have plain : ∀ (y : Pt), pc y = nI w → OpA (setI S6 h 1 (nI (R.length + 1))) h a (y :: R) := fun y hy => by
    have := OpA_push y hO hl
    rw [hy] at this
    rw [← hS6]
    exact this
  have pln : OpF h a S (setI S6 h 1 (nI (R.length + 1))) := by rw [← hS6]; exact OpF_trans OpF_setA OpF_setI
  cases R with
  | nil =>
    rw [if_pos (show nI ([] : List Pt).length ≤ (0 : Int32) from by decide), Option.bind_some, g6, Option.bind_some, nI_1, pi_k (by rw [k6]; exact q3), Option.bind_some]
    exact ⟨_, rfl, plain (1, w) (pc_put w), pln⟩
  | cons x r =>
    have hx := hR.1
    have hlr : r.length < cN S a := by rw [List.length_cons] at q7; omega
    have hld : ldi S6 a (nI r.length) = some (pc x) := by
      rw [ldi_k (by rw [k6]; exact q4) (by rw [n6]; exact hlr) (by rw [n6]; omega), a6, upd_ne _ _ (by rw [List.length_cons]; omega), OpA_last hO]
    rw [if_neg (show ¬ nI (x :: r).length ≤ (0 : Int32) from nI_ge (a := 0) (by rw [List.length_cons]; omega) (by omega)), len_1, hld, Option.bind_some]
    unfold addP
    dsimp only
    by_cases h0 : x.1 = 2
    · rw [if_neg (fun hh => (pc_ge0 hx).mp hh h0), if_pos h0, Option.bind_some, sti_k (by rw [k6]; exact q4) (by rw [n6]; exact hl) (by rw [n6]; omega), Option.bind_some]
      generalize hS18 : setA S6 a (upd (cA S6 a) (x :: r).length (pc x)) = S18
      have k18 : ∀ y, kd S18 y = kd S y := fun y => by rw [← hS18]; exact k6 y
      have n18 : cN S18 = cN S := by rw [← hS18]; exact n6
      have i18 : cI S18 = cI S := by rw [← hS18, ← hS6]; rfl
      have j18 : cJ S18 = cJ S := by rw [← hS18, ← hS6]; rfl
      have a18 : cA S18 a = upd (cA S6 a) (x :: r).length (pc x) := by rw [← hS18]; exact cA_self _ _ _
      rw [gr_k (by rw [k18]; exact q3) (by rw [j18]; exact q5), Option.bind_some, gi_k (by rw [k18]; exact q3), i18, q6, Option.bind_some, len_1, sti_k (by rw [k18]; exact q4) (by rw [n18]; exact hlr) (by rw [n18]; omega), Option.bind_some, Option.bind_some]
      generalize hS21 : setA S18 a (upd (cA S18 a) r.length (nI w)) = S21
      have k21 : ∀ y, kd S21 y = kd S y := fun y => by rw [← hS21]; exact k18 y
      have i21 : cI S21 = cI S := by rw [← hS21]; exact i18
      have f21 : OpF h a S S21 := by rw [← hS21, ← hS18, ← hS6]; exact OpF_trans OpF_setA (OpF_trans OpF_setA OpF_setA)
      rw [gi_k (by rw [k21]; exact q3), i21, q6, Option.bind_some, nI_1, pi_k (by rw [k21]; exact q3), Option.bind_some]
      refine ⟨_, rfl, ⟨⟨?_, ?_, ?_, ?_, ?_⟩, cI_self _ _ _ _, ?_, ?_, ?_⟩, OpF_trans f21 OpF_setI⟩
      · show h < cZ S21; rw [f21.2.1]; exact q1
      · show a < cZ S21; rw [f21.2.1]; exact q2
      · show kd S21 h = 4; rw [k21]; exact q3
      · show kd S21 a = 14; rw [k21]; exact q4
      · show cJ S21 h 0 = some a; rw [f21.2.2.2.1]; exact q5
      · show (x :: (1, w) :: r).length ≤ cN S21 a
        rw [f21.2.2.2.2.2.2.2]; exact hl
      · show cN S21 a < 1000000
        rw [f21.2.2.2.2.2.2.2]; exact q8
      · show seg (cA S21 a) 0 _
        have e21 : cA S21 a = upd (upd (upd (cA S a) (x :: r).length (nI w)) (x :: r).length (pc x)) r.length (nI w) := by rw [← hS21, cA_self, a18, a6]
        rw [e21, rev_cons, rev_cons, pc_put, seg_app, seg_app]
        have hq := q9
        rw [rev_cons, seg_app] at hq
        refine ⟨⟨fun k hk => ?_, fun k hk => ?_⟩, fun k hk => ?_⟩
        · have hk2 : k < r.length := by simpa using hk
          rw [Nat.zero_add, upd_ne _ _ (by omega), upd_ne _ _ (by rw [List.length_cons]; omega), upd_ne _ _ (by rw [List.length_cons]; omega)]
          have := hq.1 k hk
          rw [Nat.zero_add] at this
          exact this
        · have hk0 : k = 0 := by simp at hk; omega
          subst hk0
          rw [Nat.add_zero, Nat.zero_add, List.length_map, List.length_reverse, upd_self]; rfl
        · have hk0 : k = 0 := by simp at hk; omega
          subst hk0
          rw [Nat.add_zero, Nat.zero_add, List.length_append, List.length_map, List.length_reverse, List.length_singleton, upd_ne _ _ (by omega), show r.length + 1 = (x :: r).length from rfl, upd_self]; rfl
    · rw [if_pos ((pc_ge0 hx).mpr h0), if_neg h0, Option.bind_some, g6, Option.bind_some, nI_1, pi_k (by rw [k6]; exact q3), Option.bind_some]
      exact ⟨_, rfl, plain (1, w) (pc_put w), pln⟩
/-- the list of cells lies below the heap's end -/
def WfS (S : CS) : Prop := ∀ x ∈ cL S, x < cZ S
theorem kd_bornA {S : CS} {ck n x : Nat} (hx : x < cZ S) : kd (bornA S ck n) x = kd S x := by
  unfold kd
  show (if x ∈ S.1 ++ [cZ S] then va_up S.2.1 (cZ S) ck x else 99) = if x ∈ S.1 then S.2.1 x else 99
  have hne : x ≠ cZ S := by omega
  rw [va_up_ne _ _ hne]
  by_cases hm : x ∈ S.1
  · rw [if_pos hm, if_pos (List.mem_append_left _ hm)]
  · rw [if_neg hm, if_neg (fun hh => by
      rcases List.mem_append.mp hh with hh | hh
      · exact hm hh
      · exact hne (List.mem_singleton.mp hh))]
theorem kd_newA (S : CS) (ck n : Nat) : kd (bornA S ck n) (cZ S) = ck := by
  unfold kd
  show (if cZ S ∈ S.1 ++ [cZ S] then va_up S.2.1 (cZ S) ck (cZ S) else 99) = ck
  rw [if_pos (List.mem_append_right _ (List.mem_singleton.mpr rfl)), va_up_self]
theorem Fm_bornA {P : Nat → Prop} {S : CS} {ck n : Nat} : Fm P S (bornA S ck n) := by
  refine ⟨Nat.le_succ _, fun x hx => ⟨kd_bornA hx, ?_, fun _ => ⟨rfl, rfl, ?_, ?_⟩⟩⟩
  · exact va_up_ne _ _ (show x ≠ cZ S by omega)
  · exact va_up_ne _ _ (show x ≠ cZ S by omega)
  · exact va_up_ne _ _ (show x ≠ cZ S by omega)
