/-! ===== PART II: a good world stays good at an edit ===== -/
theorem sumN_inc {f g : Nat → Nat} {d e : Nat} : ∀ {cnt : Nat}, e < cnt → (∀ j, j ≠ e → g j = f j) → g e ≤ f e + d → sumN g cnt ≤ sumN f cnt + d := by
  intro cnt
  induction cnt with
  | zero => intro h; omega
  | succ n ih =>
    intro h h1 h2
    rw [sumN, sumN]
    by_cases he : e = n
    · subst he
      have : sumN g e = sumN f e := sumN_congr (fun i hi => h1 i (by omega))
      omega
    · have := ih (by omega) h1 h2
      have := h1 n (fun h => he h.symm)
      omega
theorem chn_push {s : List (Nat × List Int32)} {x : Nat × List Int32} {n : Nat} (h : chn s (newL x.2)) (hx : okO x.2) (ho : oldL x.2 = n) : chn (s ++ [x]) n := by
  induction s with
  | nil => exact ⟨hx, trivial, ho⟩
  | cons y s ih =>
    obtain ⟨h1, h2, h3⟩ := h
    refine ⟨h1, ih h2, ?_⟩
    cases s with
    | nil => exact h3
    | cons z s => exact h3
theorem chn_tail {s : List (Nat × List Int32)} {n : Nat} (h : chn s n) : chn s.tail n := by
  cases s with
  | nil => exact trivial
  | cons x s => exact h.2.1
theorem pushS_ok {s : List (Nat × List Int32)} {x : Nat × List Int32} {n : Nat} (hl : s.length ≤ 8) (h : chn s (newL x.2)) (hc : capOk s) (hx : okO x.2) (ho : oldL x.2 = n) (hcx : putsL x.2 + cutsN x.2 ≤ x.1) :
    chn (pushS s x) n ∧ capOk (pushS s x) ∧ putsS (pushS s x) ≤ putsS s + putsL x.2 ∧ ccS (pushS s x) ≤ ccS s + (x.1 - putsL x.2) ∧ (pushS s x).length ≤ 8 := by
  have capA : ∀ (s t : List (Nat × List Int32)), capOk s → capOk t → capOk (s ++ t) := by
    intro s t h1 h2
    induction s with
    | nil => exact h2
    | cons y s ih => exact ⟨h1.1, ih h1.2⟩
  have ccA : ∀ (s t : List (Nat × List Int32)), ccS (s ++ t) = ccS s + ccS t := by
    intro s t
    induction s with
    | nil => simp [ccS]
    | cons y s ih => rw [List.cons_append, ccS, ccS, ih]; omega
  have tl : ∀ (s : List (Nat × List Int32)), capOk s → capOk s.tail ∧ putsS s.tail ≤ putsS s ∧ ccS s.tail ≤ ccS s := by
    intro s h
    cases s with
    | nil => exact ⟨trivial, Nat.le_refl _, Nat.le_refl _⟩
    | cons y s => exact ⟨h.2, by rw [List.tail_cons, putsS]; omega, by rw [List.tail_cons, ccS]; omega⟩
  obtain ⟨t1, t2, t3⟩ := tl s hc
  refine ⟨?_, ?_, ?_, ?_, pushS_len hl⟩
  · unfold pushS
    split
    · exact chn_push (chn_tail h) hx ho
    · exact chn_push h hx ho
  · unfold pushS
    split
    · exact capA _ _ t1 ⟨hcx, trivial⟩
    · exact capA _ _ hc ⟨hcx, trivial⟩
  · unfold pushS
    rw [putsS_app]
    simp only [putsS]
    split <;> omega
  · unfold pushS
    rw [ccA]
    simp only [ccS]
    split <;> omega
/-- a world with an edit made by editor e: E is what its text then has, stacks and all -/
def editW (W : Wd) (e : Nat) (E : Ed) (A : List Int32) : Wd := ((wTk W, wEd W + 1, wPu W + putsL A), wRow W, fun i => if i = e then E else wE W i)
theorem give_unt {E : Ed} {A : List Int32} {ties e : Nat} {rest : List (Nat × List Int32)} {L t : Nat} (hA : okO A) (ho : oldL A = t) (hch : chE L (ePnd E) (eBuf E) t) (hown : ownS ties e rest (ePnd E) (eLft E)) :
    unt (giveE E A) ≤ unt E + putsL A ∧ untN (giveE E A) ≤ untN E + 1 ∧ chE L (ePnd (giveE E A)) (eBuf (giveE E A)) (newL A) ∧ ownS ties e rest (ePnd (giveE E A)) (eLft (giveE E A)) := by
  unfold giveE
  cases hp : ePnd E with
  | none =>
    rw [hp] at hch hown
    cases hq : eBuf E with
    | some q => rw [hq] at hch; exact hch.elim
    | none =>
      rw [hq] at hch
      cases hl : eLft E with
      | some k => rw [hl] at hown; exact hown.elim
      | none =>
        rw [hl] at hown
        have hch' : t = L := hch
        refine ⟨?_, ?_, ?_, hown⟩
        · unfold unt
          show (if (some (eDel E)).isSome = true then putsO (some A) else 0) + putsO (eBuf E) ≤ _
          rw [hq, hl]; simp [putsO]
        · unfold untN
          show (if (some (eDel E)).isSome = true then 1 else 0) + (if (eBuf E).isSome = true then 1 else 0) ≤ _
          rw [hq, hl]; simp
        · show chE L (some A) (eBuf E) (newL A)
          rw [hq]
          exact ⟨hA, by omega, rfl⟩
  | some p =>
    rw [hp] at hch hown
    dsimp only
    cases hq : eBuf E with
    | none =>
      rw [hq] at hch
      obtain ⟨c1, c2, c3⟩ := hch
      refine ⟨?_, ?_, ?_, ?_⟩
      · unfold unt
        show (if (eLft E).isSome = true then putsO (ePnd E) else 0) + putsL A ≤ (if (eLft E).isSome = true then putsO (ePnd E) else 0) + putsO (eBuf E) + putsL A
        omega
      · unfold untN
        show (if (eLft E).isSome = true then 1 else 0) + 1 ≤ (if (eLft E).isSome = true then 1 else 0) + (if (eBuf E).isSome = true then 1 else 0) + 1
        omega
      · show chE L (ePnd E) (some A) (newL A)
        rw [hp]
        exact ⟨c1, hA, c2, by omega, rfl⟩
      · show ownS ties e rest (ePnd E) (eLft E)
        rw [hp]; exact hown
    | some q =>
      rw [hq] at hch
      obtain ⟨c1, c2, c3, c4, c5⟩ := hch
      obtain ⟨j1, j2, j3, j4, j5⟩ := join_ok c2 hA (by omega)
      refine ⟨?_, ?_, ?_, ?_⟩
      · unfold unt
        show (if (eLft E).isSome = true then putsO (ePnd E) else 0) + putsL (joinC q A) ≤ (if (eLft E).isSome = true then putsO (ePnd E) else 0) + putsO (eBuf E) + putsL A
        rw [hq]
        show _ ≤ (if (eLft E).isSome = true then putsO (ePnd E) else 0) + putsL q + putsL A
        omega
      · unfold untN
        show (if (eLft E).isSome = true then 1 else 0) + 1 ≤ (if (eLft E).isSome = true then 1 else 0) + (if (eBuf E).isSome = true then 1 else 0) + 1
        omega
      · show chE L (ePnd E) (some (joinC q A)) (newL A)
        rw [hp]
        exact ⟨c1, j1, c3, by omega, j3⟩
      · show ownS ties e rest (ePnd E) (eLft E)
        rw [hp]; exact hown
/-- S is the stack that the inverse comes on, T the other one -/
theorem Good_edit {cnt ties tl e kind : Nat} {W : Wd} {E0 : Ed} {A : List Int32} (hg : Good cnt ties tl W) (he : e < cnt) (hA : okO A) (ho : oldL A = (eTxt (wE W e)).length) (hed : wEd W < 100) (hpu : wPu W + putsL A ≤ 200)
    (hE0 : E0 = sDon (sUnd (wE W e) (eUnd E0)) (eDon E0)) (S T : List (Nat × List Int32)) (hST : (kind = 1 ∧ eDon E0 = S ∧ eUnd E0 = T) ∨ (kind = 0 ∧ eUnd E0 = S ∧ T = []) ∨ (kind = 2 ∧ eUnd E0 = S ∧ eDon E0 = T)) (hS8 : S.length ≤ 8) (hT8 : T.length ≤ 8) (hSc : chn S (eTxt (wE W e)).length) (hTc : chn T (newL A)) (hSk : capOk S) (hTk : capOk T) (hps : putsS S + putsS T ≤ putsS (eUnd (wE W e)) + putsS (eDon (wE W e))) (hcc : ccS S + ccS T ≤ ccS (eUnd (wE W e)) + ccS (eDon (wE W e))) :
    Good cnt ties tl (editW W e (editE E0 A kind) A) := by
  obtain ⟨g1, g2, g3, g4, g5, g6, g7, g8, g9⟩ := hg
  obtain ⟨e1, e2, e3, e4, e5, e6, e7, e8, e9, e10, e11, e12, e13, e14, e15, e16, e17, e18, e19⟩ := g9 e he
  have hT0 : eTxt E0 = eTxt (wE W e) := by rw [hE0]; rfl
  have inv := inv_ok (t := eTxt (wE W e)) hA e5 (by omega)
  obtain ⟨i1, i2, i3, i4, i5⟩ := inv
  have hx1 : (invX A (eTxt (wE W e))).1 = putsL (invC A (eTxt (wE W e))) + cutsN (invC A (eTxt (wE W e))) := mk_len i1 0
  obtain ⟨p1, p2, p3, p4, p5⟩ := pushS_ok (s := S) (x := invX A (eTxt (wE W e))) (n := newL A) hS8 (by show chn S (newL (invC A (eTxt (wE W e)))); rw [i3, ho]; exact hSc) hSk i1 i2 (by rw [hx1]; exact Nat.le_refl _)
  have hpx : putsL (invX A (eTxt (wE W e))).2 = cutsN A := i4
  have hcx : (invX A (eTxt (wE W e))).1 - putsL (invX A (eTxt (wE W e))).2 = putsL A := by rw [hx1]; show putsL (invC A (eTxt (wE W e))) + cutsN (invC A (eTxt (wE W e))) - putsL (invC A (eTxt (wE W e))) = _; omega
  -- the editor with its stacks
  generalize hK : stkK E0 A kind = K
  have kU : ∃ U D, K = sDon (sUnd (wE W e) U) D ∧ ((U = pushS S (invX A (eTxt (wE W e))) ∧ D = T) ∨ (D = pushS S (invX A (eTxt (wE W e))) ∧ U = T)) := by
    rcases hST with ⟨h1, h2, h3⟩ | ⟨h1, h2, h3⟩ | ⟨h1, h2, h3⟩
    · refine ⟨T, pushS S (invX A (eTxt (wE W e))), ?_, Or.inr ⟨rfl, rfl⟩⟩
      rw [← hK]; unfold stkK; rw [if_pos h1, h2, hT0, ← h3, hE0]; rfl
    · refine ⟨pushS S (invX A (eTxt (wE W e))), T, ?_, Or.inl ⟨rfl, rfl⟩⟩
      rw [← hK]; unfold stkK; rw [if_neg (by omega), if_pos h1, h2, hT0, h3, hE0]; rfl
    · refine ⟨pushS S (invX A (eTxt (wE W e))), T, ?_, Or.inl ⟨rfl, rfl⟩⟩
      rw [← hK]; unfold stkK; rw [if_neg (by omega), if_neg (by omega), h2, hT0, ← h3, hE0]; rfl
  obtain ⟨U, D, hKU, hUD⟩ := kU
  have kk : chn U (newL A) ∧ chn D (newL A) ∧ capOk U ∧ capOk D ∧ U.length ≤ 8 ∧ D.length ≤ 8 ∧ putsS U + putsS D ≤ putsS S + putsS T + cutsN A ∧ ccS U + ccS D ≤ ccS S + ccS T + putsL A := by
    rcases hUD with ⟨h1, h2⟩ | ⟨h1, h2⟩
    · rw [h1, h2]; exact ⟨p1, hTc, p2, hTk, p5, hT8, by omega, by omega⟩
    · rw [h1, h2]; exact ⟨hTc, p1, hTk, p2, hT8, p5, by omega, by omega⟩
  obtain ⟨k1, k2, k3, k4, k5, k6, k7, k8⟩ := kk
  generalize hE3 : txtE K A true = E3
  have q1 : eTxt E3 = chgL A (eTxt (wE W e)) := by rw [← hE3, hKU]; rfl
  have q2 : ePnd E3 = ePnd (wE W e) := by rw [← hE3, hKU]; rfl
  have q3 : eBuf E3 = eBuf (wE W e) := by rw [← hE3, hKU]; rfl
  have q4 : eLft E3 = eLft (wE W e) := by rw [← hE3, hKU]; rfl
  have q5 : eRev E3 = eRev (wE W e) := by rw [← hE3, hKU]; rfl
  have q6 : eDel E3 = eDel (wE W e) := by rw [← hE3, hKU]; rfl
  have q7 : eSnt E3 = eSnt (wE W e) := by rw [← hE3, hKU]; rfl
  have q8 : eCom E3 = eCom (wE W e) := by rw [← hE3, hKU]; rfl
  have q9 : eUnd E3 = U := by rw [← hE3, hKU]; rfl
  have q10 : eDon E3 = D := by rw [← hE3, hKU]; rfl
  have pl := txt_places (E := K) (own := true) hA (by rw [hKU]; exact ho) (by rw [hKU]; exact e17) (by rw [hKU]; exact e18) (by rw [hKU]; exact e19)
  rw [hE3] at pl
  have hF : editE E0 A kind = giveE E3 A := by unfold editE; rw [hK, hE3]
  have hl3 : (eTxt E3).length = newL A := by rw [q1]; exact chgL_len hA _
  obtain ⟨u1, u2, u3, u4⟩ := give_unt (E := E3) (A := A) (t := (eTxt (wE W e)).length) hA ho (by rw [q2, q3]; exact e6) (by rw [q2, q4]; exact e7)
  have hun : unt E3 = unt (wE W e) := by unfold unt; rw [q2, q3, q4]
  have hunN : untN E3 = untN (wE W e) := by unfold untN; rw [q3, q4]
  rw [hF]
  have r1 : eTxt (giveE E3 A) = eTxt E3 := by unfold giveE; split <;> rfl
  have r2 : eRev (giveE E3 A) = eRev E3 := by unfold giveE; split <;> rfl
  have r3 : eDel (giveE E3 A) = eDel E3 := by unfold giveE; split <;> rfl
  have r4 : eCom (giveE E3 A) = eCom E3 := by unfold giveE; split <;> rfl
  have r5 : eUnd (giveE E3 A) = eUnd E3 := by unfold giveE; split <;> rfl
  have r6 : eDon (giveE E3 A) = eDon E3 := by unfold giveE; split <;> rfl
  have r7 : eCur (giveE E3 A) = eCur E3 := by unfold giveE; split <;> rfl
  have r8 : eMks (giveE E3 A) = eMks E3 := by unfold giveE; split <;> rfl
  have cA := cnt_len hA
  have hWe : wE (editW W e (giveE E3 A) A) e = giveE E3 A := by show (if e = e then _ else _) = _; rw [if_pos rfl]
  have hWn : ∀ i, i ≠ e → wE (editW W e (giveE E3 A) A) i = wE W i := fun i hi => by show (if i = e then _ else _) = _; rw [if_neg hi]
  refine ⟨g1, g2, g3, hpu, by show wEd W + 1 ≤ 100; omega, g6, ?_, ?_, fun i hi => ?_⟩
  · have := sumN_inc (f := fun i => unt (wE W i)) (g := fun i => unt (wE (editW W e (giveE E3 A) A) i)) (d := putsL A) he (fun j hj => by rw [hWn j hj]) (by rw [hWe]; omega)
    show putsR (wRow W) + _ ≤ wPu W + putsL A
    omega
  · have := sumN_inc (f := fun i => untN (wE W i)) (g := fun i => untN (wE (editW W e (giveE E3 A) A) i)) (d := 1) he (fun j hj => by rw [hWn j hj]) (by rw [hWe]; omega)
    show (wRow W).length + _ ≤ wEd W + 1
    omega
  · by_cases hie : i = e
    · subst hie
      have houts : outs cnt i (editW W i (giveE E3 A) A) = outs cnt i W := by
        unfold outs
        rw [hWe, r2, q5]
        congr 1
        refine sumN_congr (fun j _ => ?_)
        by_cases hj : j = i
        · rw [if_pos hj, if_pos hj]
        · rw [if_neg hj, if_neg hj, hWn j hj]
      unfold EdOk
      rw [houts, hWe, r1, r2, r3, r4, r5, r6, r7, r8, hl3, q5, q6, q8, q9, q10]
      refine ⟨e1, e2, fun k hk => ?_, e4, ?_, u3, u4, fun hh => ?_, k5, k6, k1, k2, k3, k4, ?_, ?_, pl.1, pl.2.1, pl.2.2⟩
      · unfold giveE at hk
        split at hk
        · have : eDel E3 = k := Option.some.inj hk
          omega
        · exact e3 k (by rw [← q4]; exact hk)
      · rw [q1]; exact chg_okP A _ hA e5 (by omega)
      · unfold giveE at hh ⊢
        cases hp : ePnd E3 with
        | none =>
          dsimp only
          refine ⟨by rw [show (eSnt (sndE E3 A)).2 = eRev E3 from rfl, q5]; exact Nat.le_refl _, hA, ?_, ?_⟩
          · show oldL A = lenA tl ((wRow W).take (eRev E3))
            rw [q5]
            rw [← q2, hp] at e6
            cases hq : eBuf (wE W i) with
            | none =>
              rw [hq] at e6
              have e6' : (eTxt (wE W i)).length = _ := e6
              rw [ho]; exact e6'
            | some q => rw [hq] at e6; exact e6.elim
          · show some A = some (foldT ties i (((wRow W).drop (eRev E3)).take (eRev (wE W i) - eRev E3)) A)
            rw [q5, Nat.sub_self]; rfl
        | some p =>
          rw [hp] at hh
          dsimp only at hh ⊢
          have hh' : (eLft (wE W i)).isSome = true := by rw [← q4]; exact hh
          obtain ⟨s1, s2, s3, s4⟩ := e8 hh'
          show (eSnt E3).2 ≤ eRev (wE W i) ∧ okO (eSnt E3).1 ∧ oldL (eSnt E3).1 = lenA tl ((wRow W).take (eSnt E3).2) ∧ ePnd E3 = some (foldT ties i (((wRow W).drop (eSnt E3).2).take (eRev (wE W i) - (eSnt E3).2)) (eSnt E3).1)
          rw [q7, q2]
          exact ⟨s1, s2, s3, s4⟩
      · show newL A + putsS U + putsS D + outs cnt i W ≤ tl + (wPu W + putsL A)
        omega
      · show ccS U + ccS D ≤ wPu W + putsL A
        omega
    · have h9 := g9 i hi
      have houts : outs cnt i (editW W e (giveE E3 A) A) ≤ outs cnt i W + putsL A := by
        unfold outs
        rw [hWn i hie]
        have := sumN_inc (f := fun j => if j = i then 0 else unt (wE W j)) (g := fun j => if j = i then 0 else unt (wE (editW W e (giveE E3 A) A) j)) (d := putsL A) he (fun j hj => by
          by_cases hji : j = i
          · rw [if_pos hji, if_pos hji]
          · rw [if_neg hji, if_neg hji, hWn j hj]) (by rw [if_neg (fun h => hie h.symm), if_neg (fun h => hie h.symm), hWe]; omega)
        show foreR i ((wRow W).drop (eRev (wE W i))) + _ ≤ foreR i ((wRow W).drop (eRev (wE W i))) + _ + _
        omega
      obtain ⟨f1, f2, f3, f4, f5, f6, f7, f8, f9, f10, f11, f12, f13, f14, f15, f16, f17, f18, f19⟩ := h9
      unfold EdOk
      rw [hWn i hie]
      refine ⟨f1, f2, f3, f4, f5, f6, f7, f8, f9, f10, f11, f12, f13, f14, ?_, ?_, f17, f18, f19⟩
      · show _ ≤ tl + (wPu W + putsL A)
        omega
      · show _ ≤ wPu W + putsL A
        omega
