/-! ===== PART II: a good world stays good when an operation comes, on ===== -/
def setE (W : Wd) (e : Nat) (E : Ed) : Wd := (W.1, wRow W, fun i => if i = e then E else wE W i)
theorem setE_self (W : Wd) (e : Nat) (E : Ed) : wE (setE W e E) e = E := by show (if e = e then E else wE W e) = E; rw [if_pos rfl]
theorem setE_ne (W : Wd) {e i : Nat} (E : Ed) (h : i ≠ e) : wE (setE W e E) i = wE W i := by show (if i = e then E else wE W i) = wE W i; rw [if_neg h]
/-- one editor is another, its untaken operations count as much: the others are as they were -/
theorem Ed_other {cnt ties tl e i : Nat} {W : Wd} {E : Ed} (hu : unt E = unt (wE W e)) (hi : i ≠ e) (h : EdOk cnt ties tl W i) : EdOk cnt ties tl (setE W e E) i := by
  have e1 : wE (setE W e E) i = wE W i := setE_ne _ _ hi
  have e2 : outs cnt i (setE W e E) = outs cnt i W := by
    unfold outs
    rw [e1]
    congr 1
    refine sumN_congr (fun j _ => ?_)
    by_cases hj : j = i
    · rw [if_pos hj, if_pos hj]
    · rw [if_neg hj, if_neg hj]
      by_cases hje : j = e
      · subst hje; rw [setE_self]; exact hu
      · rw [setE_ne _ _ hje]
  unfold EdOk at h ⊢
  rw [e1, e2]
  exact h
theorem Good_set {cnt ties tl e : Nat} {W : Wd} {E : Ed} (hg : Good cnt ties tl W) (he : e < cnt) (hu : unt E = unt (wE W e)) (hn : untN E = untN (wE W e)) (hE : EdOk cnt ties tl (setE W e E) e) : Good cnt ties tl (setE W e E) := by
  obtain ⟨g1, g2, g3, g4, g5, g6, g7, g8, g9⟩ := hg
  refine ⟨g1, g2, g3, g4, g5, g6, ?_, ?_, fun i hi => ?_⟩
  · have : sumN (fun i => unt (wE (setE W e E) i)) cnt = sumN (fun i => unt (wE W i)) cnt := sumN_congr (fun i _ => by
      by_cases h : i = e
      · subst h; rw [setE_self]; exact hu
      · rw [setE_ne _ _ h])
    rw [this]; exact g7
  · have : sumN (fun i => untN (wE (setE W e E) i)) cnt = sumN (fun i => untN (wE W i)) cnt := sumN_congr (fun i _ => by
      by_cases h : i = e
      · subst h; rw [setE_self]; exact hn
      · rw [setE_ne _ _ h])
    rw [this]; exact g8
  · by_cases h : i = e
    · subst h; exact hE
    · exact Ed_other hu h (g9 i hi)
theorem outs_set {cnt e : Nat} {W : Wd} {E : Ed} : outs cnt e (setE W e E) = foreR e ((wRow W).drop (eRev E)) + sumN (fun i => if i = e then 0 else unt (wE W i)) cnt := by
  unfold outs
  rw [setE_self]
  congr 1
  refine sumN_congr (fun j _ => ?_)
  by_cases hj : j = e
  · rw [if_pos hj, if_pos hj]
  · rw [if_neg hj, if_neg hj, setE_ne _ _ hj]
def comesW (ties e : Nat) (W : Wd) : Wd := match (wRow W)[eRev (wE W e)]? with
  | none => W
  | some o => setE W e (comesE ties e o (wE W e))
theorem Good_comes {cnt ties tl e : Nat} {W : Wd} (hg : Good cnt ties tl W) (he : e < cnt) : Good cnt ties tl (comesW ties e W) := by
  unfold comesW
  cases ho : (wRow W)[eRev (wE W e)]? with
  | none => exact hg
  | some o =>
    dsimp only
    have hg0 := hg
    obtain ⟨g1, g2, g3, g4, g5, g6, g7, g8, g9⟩ := hg
    obtain ⟨e1, e2, e3, e4, e5, e6, e7, e8, e9, e10, e11, e12, e13, e14, e15, e16, e17, e18, e19⟩ := g9 e he
    obtain ⟨hd, htk⟩ := drop_get ho
    have hlt : eRev (wE W e) < (wRow W).length := (List.getElem?_eq_some_iff.mp ho).1
    obtain ⟨o1, o2, o3, o4, o5⟩ := chR_get g6 ho
    by_cases hown : o.1 = e
    · have hE : comesE ties e o (wE W e) = ownE (sRev (wE W e) (eRev (wE W e) + 1)) := by unfold comesE; rw [if_pos hown]
      rw [hE]
      -- what is pending is this one
      have hst : ∃ p l2, ePnd (wE W e) = some p ∧ eLft (wE W e) = none ∧ o.2 = p ∧ (wRow W).drop (eRev (wE W e) + 1) = l2 ∧ ∀ x ∈ l2, x.1 ≠ e := by
        cases hp : ePnd (wE W e) with
        | none =>
          cases hl : eLft (wE W e) with
          | none => rw [hp, hl] at e7; exact absurd hown (e7 o (by rw [hd]; simp))
          | some k => rw [hp, hl] at e7; exact e7.elim
        | some p =>
          cases hl : eLft (wE W e) with
          | some k => rw [hp, hl] at e7; exact absurd hown (e7 o (by rw [hd]; simp))
          | none =>
            rw [hp, hl] at e7
            obtain ⟨l1, l2, r1, r2, r3⟩ := e7
            rw [hd] at r1
            cases l1 with
            | cons x l1 =>
              rw [List.cons_append] at r1
              have := (List.cons.inj r1).1
              exact absurd (by rw [← this]; exact hown) (r2 x (by simp))
            | nil =>
              rw [List.nil_append] at r1
              obtain ⟨q1, q2⟩ := List.cons.inj r1
              exact ⟨p, l2, rfl, rfl, by rw [q1]; rfl, q2, r3⟩
      obtain ⟨p, l2, hp, hl, hop, hdr, hno⟩ := hst
      have hL : newL p = lenA tl ((wRow W).take (eRev (wE W e) + 1)) := by rw [← hop]; exact o4
      have hfore : foreR e ((wRow W).drop (eRev (wE W e) + 1)) = foreR e ((wRow W).drop (eRev (wE W e))) := by
        rw [hd, foreR, if_pos hown, Nat.zero_add]
      have houts : outs cnt e W = foreR e ((wRow W).drop (eRev (wE W e))) + sumN (fun i => if i = e then 0 else unt (wE W i)) cnt := rfl
      cases hq : eBuf (wE W e) with
      | none =>
        have hO : ownE (sRev (wE W e) (eRev (wE W e) + 1)) = sPnd (sRev (wE W e) (eRev (wE W e) + 1)) none := by
          unfold ownE; rw [show eBuf (sRev (wE W e) (eRev (wE W e) + 1)) = none from hq]
        rw [hO]
        refine Good_set hg0 he ?_ ?_ ?_
        · unfold unt; show (if (eLft (wE W e)).isSome = true then putsO none else 0) + putsO (eBuf (wE W e)) = _; rw [hl]; simp
        · rfl
        · unfold EdOk
          rw [outs_set, setE_self]
          rw [hp, hq] at e6
          obtain ⟨c1, c2, c3⟩ := e6
          refine ⟨hlt, e2, e3, e4, e5, ?_, ?_, fun hh => ?_, e9, e10, e11, e12, e13, e14, ?_, e16, e17, e18, e19⟩
          · show chE (lenA tl ((wRow W).take (eRev (wE W e) + 1))) none (eBuf (wE W e)) (eTxt (wE W e)).length
            rw [hq]
            show (eTxt (wE W e)).length = _
            omega
          · show ownS ties e ((wRow W).drop (eRev (wE W e) + 1)) none (eLft (wE W e))
            rw [hl, hdr]; exact hno
          · have hh' : (eLft (wE W e)).isSome = true := hh
            rw [hl] at hh'; cases hh'
          · show (eTxt (wE W e)).length + putsS (eUnd (wE W e)) + putsS (eDon (wE W e)) + (foreR e ((wRow W).drop (eRev (wE W e) + 1)) + _) ≤ _
            rw [hfore, ← houts]; exact e15
      | some q =>
        have hO : ownE (sRev (wE W e) (eRev (wE W e) + 1)) = sndE (sBuf (sPnd (sRev (wE W e) (eRev (wE W e) + 1)) none) none) q := by
          unfold ownE; rw [show eBuf (sRev (wE W e) (eRev (wE W e) + 1)) = some q from hq]
        rw [hO]
        refine Good_set hg0 he ?_ ?_ ?_
        · unfold unt; show (if (some (eDel (wE W e))).isSome = true then putsO (some q) else 0) + putsO none = (if (eLft (wE W e)).isSome = true then putsO (ePnd (wE W e)) else 0) + putsO (eBuf (wE W e)); rw [hl, hq]; simp [putsO]
        · unfold untN; show (if (some (eDel (wE W e))).isSome = true then 1 else 0) + (if (none : Option (List Int32)).isSome = true then 1 else 0) = (if (eLft (wE W e)).isSome = true then 1 else 0) + (if (eBuf (wE W e)).isSome = true then 1 else 0); rw [hl, hq]; rfl
        · unfold EdOk
          rw [outs_set, setE_self]
          rw [hp, hq] at e6
          obtain ⟨c1, c2, c3, c4, c5⟩ := e6
          refine ⟨hlt, e2, fun k hk => ?_, e4, e5, ?_, ?_, fun hh => ?_, e9, e10, e11, e12, e13, e14, ?_, e16, e17, e18, e19⟩
          · have : eDel (wE W e) = k := Option.some.inj hk
            omega
          · show chE (lenA tl ((wRow W).take (eRev (wE W e) + 1))) (some q) none (eTxt (wE W e)).length
            exact ⟨c2, by omega, c5⟩
          · show ownS ties e ((wRow W).drop (eRev (wE W e) + 1)) (some q) (some (eDel (wE W e)))
            rw [hdr]; exact hno
          · refine ⟨Nat.le_refl _, c2, ?_, ?_⟩
            · show oldL q = lenA tl ((wRow W).take (eRev (wE W e) + 1))
              omega
            · show some q = some (foldT ties e (((wRow W).drop (eRev (wE W e) + 1)).take (eRev (wE W e) + 1 - (eRev (wE W e) + 1))) q)
              rw [Nat.sub_self]; rfl
          · show (eTxt (wE W e)).length + putsS (eUnd (wE W e)) + putsS (eDon (wE W e)) + (foreR e ((wRow W).drop (eRev (wE W e) + 1)) + _) ≤ _
            rw [hfore, ← houts]; exact e15
    · have hE : comesE ties e o (wE W e) = comE ties e o (wE W e) := by unfold comesE; rw [if_neg hown]
      rw [hE]
      obtain ⟨c1, c2, c3, c4, c5, c6, c7, c8, c9, c10, c11, c12, c13, c14, c15, c16, c17⟩ := com_all hg0 he ho hown
      refine Good_set hg0 he c4 c5 ?_
      have hfore := foreR_ge (e := e) (l := (wRow W).drop (eRev (wE W e))) (o := o) (by rw [List.getElem?_drop]; exact ho) hown
      rw [List.tail_drop] at hfore
      have houts : outs cnt e W = foreR e ((wRow W).drop (eRev (wE W e))) + sumN (fun i => if i = e then 0 else unt (wE W i)) cnt := rfl
      have hpnd : ePnd (comE ties e o (wE W e)) = (pB (ePnd (wE W e)) (aheadB ties e o.1) o.2).1 := rfl
      have hrev : eRev (comE ties e o (wE W e)) = eRev (wE W e) + 1 := rfl
      have hlft : eLft (comE ties e o (wE W e)) = eLft (wE W e) := rfl
      have hsnt : eSnt (comE ties e o (wE W e)) = eSnt (wE W e) := rfl
      unfold EdOk
      rw [outs_set, setE_self, hrev]
      refine ⟨hlt, e2, by rw [hlft]; exact e3, e4, c3, c2, ?_, fun hh => ?_, ?_, ?_, c7, c8, c9, c10, ?_, ?_, c15, c16, c17⟩
      · rw [hpnd, hlft]
        show ownS ties e ((wRow W).drop (eRev (wE W e) + 1)) _ _
        rw [hd] at e7
        cases hp : ePnd (wE W e) with
        | none =>
          cases hl : eLft (wE W e) with
          | none => rw [hp, hl] at e7; exact fun x hx => e7 x (by simp [hx])
          | some k => rw [hp, hl] at e7; exact e7.elim
        | some p =>
          cases hl : eLft (wE W e) with
          | some k => rw [hp, hl] at e7; exact fun x hx => e7 x (by simp [hx])
          | none =>
            rw [hp, hl] at e7
            obtain ⟨l1, l2, r1, r2, r3⟩ := e7
            cases l1 with
            | nil =>
              rw [List.nil_append] at r1
              have := (List.cons.inj r1).1
              exact absurd (by rw [this]) hown
            | cons x l1 =>
              rw [List.cons_append] at r1
              obtain ⟨q1, q2⟩ := List.cons.inj r1
              subst q1
              exact ⟨l1, l2, q2, fun y hy => r2 y (by simp [hy]), r3⟩
      · rw [hlft] at hh
        rw [hsnt, hpnd]
        obtain ⟨s1, s2, s3, s4⟩ := e8 hh
        refine ⟨by omega, s2, s3, ?_⟩
        rw [s4]
        show some (turnC (aheadB ties e o.1) _ o.2) = _
        congr 1
        have hx : ((wRow W).drop (eSnt (wE W e)).2)[eRev (wE W e) - (eSnt (wE W e)).2]? = some o := by
          rw [List.getElem?_drop, show (eSnt (wE W e)).2 + (eRev (wE W e) - (eSnt (wE W e)).2) = eRev (wE W e) by omega]; exact ho
        have hy := (drop_get hx).2
        show _ = foldT ties e (((wRow W).drop (eSnt (wE W e)).2).take (eRev (wE W e) + 1 - (eSnt (wE W e)).2)) (eSnt (wE W e)).1
        rw [show eRev (wE W e) + 1 - (eSnt (wE W e)).2 = eRev (wE W e) - (eSnt (wE W e)).2 + 1 by omega, hy, foldT_app]
        rfl
      · show (carS _ (eUnd (wE W e)) _).1.length ≤ 8
        rw [carS_len]; exact e9
      · show (carS _ (eDon (wE W e)) _).1.length ≤ 8
        rw [carS_len]; exact e10
      · rw [c11, c12]
        show _ ≤ tl + wPu W
        omega
      · rw [c13, c14]; exact e16
