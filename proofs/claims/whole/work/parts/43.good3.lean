/-! ===== PART II: a good world stays good when an operation comes ===== -/
def topN (s : List (Nat × List Int32)) (n : Nat) : Nat := match s with | [] => n | y :: _ => newL y.2
theorem carS_ok (ah : Bool) : ∀ (s : List (Nat × List Int32)) (B : List Int32) (N : Nat), chn s N → okO B → oldL B = N → capOk s →
    chn (carS ah s B).1 (newL B) ∧ putsS (carS ah s B).1 = putsS s ∧ capOk (carS ah s B).1 ∧ ccS (carS ah s B).1 = ccS s ∧ okO (carS ah s B).2 ∧ oldL (carS ah s B).2 = topN s N ∧ newL (carS ah s B).2 = topN (carS ah s B).1 (newL B) := by
  intro s
  induction s with
  | nil => intro B N _ hB ho _; exact ⟨trivial, rfl, trivial, rfl, hB, ho, rfl⟩
  | cons x s ih =>
    intro B N hch hB ho hcap
    obtain ⟨h1, h2, h3⟩ := hch
    obtain ⟨c1, c2⟩ := hcap
    obtain ⟨i1, i2, i3, i4, i5, i6, i7⟩ := ih B N h2 hB ho c2
    have h3' : oldL x.2 = topN s N := h3
    obtain ⟨t1, t2, t3, t4, t5, t6, t7, t8, t9⟩ := turn_ok (ah := ah) h1 i5 (by omega)
    rw [carS]
    refine ⟨⟨t1, i1, ?_⟩, ?_, ⟨?_, i3⟩, ?_, t2, t4, t5.symm⟩
    · show oldL (turnC ah x.2 (carS ah s B).2) = topN (carS ah s B).1 (newL B)
      rw [t3]; exact i7
    · rw [putsS, putsS, i2]; dsimp only; omega
    · dsimp only; omega
    · rw [ccS, ccS, i4]; dsimp only; rw [t6]
theorem foreR_ge {e : Nat} {l : List (Nat × List Int32)} {o : Nat × List Int32} (h : l[0]? = some o) (hne : o.1 ≠ e) : putsL o.2 + foreR e l.tail = foreR e l := by
  cases l with
  | nil => simp at h
  | cons x l =>
    simp at h
    subst h
    rw [foreR, if_neg hne]; rfl
theorem drop_get {α : Type} {l : List α} {i : Nat} {o : α} (h : l[i]? = some o) : l.drop i = o :: l.drop (i + 1) ∧ l.take (i + 1) = l.take i ++ [o] := by
  have hi := (List.getElem?_eq_some_iff.mp h)
  obtain ⟨hi1, hi2⟩ := hi
  refine ⟨?_, ?_⟩
  · rw [← hi2]; exact List.drop_eq_getElem_cons hi1
  · rw [← hi2]; exact (List.take_append_getElem hi1).symm
/-- what comes of another: all that is wanted, and what it makes of the editor -/
theorem com_all {cnt ties tl e : Nat} {W : Wd} {o : Nat × List Int32} (hg : Good cnt ties tl W) (he : e < cnt) (ho : (wRow W)[eRev (wE W e)]? = some o) (hne : o.1 ≠ e) :
    comOk ties e o (wE W e) ∧
    chE (lenA tl ((wRow W).take (eRev (wE W e) + 1))) (ePnd (comE ties e o (wE W e))) (eBuf (comE ties e o (wE W e))) (eTxt (comE ties e o (wE W e))).length ∧
    (∀ v ∈ eTxt (comE ties e o (wE W e)), okP v) ∧ unt (comE ties e o (wE W e)) = unt (wE W e) ∧ untN (comE ties e o (wE W e)) = untN (wE W e) ∧
    (eTxt (comE ties e o (wE W e))).length ≤ (eTxt (wE W e)).length + putsL o.2 ∧
    chn (eUnd (comE ties e o (wE W e))) (eTxt (comE ties e o (wE W e))).length ∧ chn (eDon (comE ties e o (wE W e))) (eTxt (comE ties e o (wE W e))).length ∧ capOk (eUnd (comE ties e o (wE W e))) ∧ capOk (eDon (comE ties e o (wE W e))) ∧ putsS (eUnd (comE ties e o (wE W e))) = putsS (eUnd (wE W e)) ∧ putsS (eDon (comE ties e o (wE W e))) = putsS (eDon (wE W e)) ∧ ccS (eUnd (comE ties e o (wE W e))) = ccS (eUnd (wE W e)) ∧ ccS (eDon (comE ties e o (wE W e))) = ccS (eDon (wE W e)) ∧
    eCur (comE ties e o (wE W e)) ≤ (eTxt (comE ties e o (wE W e))).length ∧ (eMks (comE ties e o (wE W e))).length ≤ 4 ∧ (∀ x ∈ eMks (comE ties e o (wE W e)), x.1 ≤ x.2.1 ∧ x.2.1 ≤ (eTxt (comE ties e o (wE W e))).length ∧ x.2.2 ≤ 3) := by
  have hg0 := hg
  have hbd := Good_Bd hg he
  obtain ⟨g1, g2, g3, g4, g5, g6, g7, g8, g9⟩ := hg
  obtain ⟨e1, e2, e3, e4, e5, e6, e7, e8, e9, e10, e11, e12, e13, e14, e15, e16, e17, e18, e19⟩ := g9 e he
  obtain ⟨o1, o2, o3, o4, o5⟩ := chR_get g6 ho
  have l0 := lenA_le g6 (eRev (wE W e))
  have clo := cnt_len o1
  have hout : putsL o.2 ≤ outs cnt e W := by
    unfold outs
    have : ((wRow W).drop (eRev (wE W e)))[0]? = some o := by rw [List.getElem?_drop]; exact ho
    have := foreR_ge this hne
    omega
  generalize hah : aheadB ties e o.1 = ah
  -- the first step: what is pending
  have s1 : ∃ B1 : List Int32, (pB (ePnd (wE W e)) ah o.2).2 = B1 ∧ okO B1 ∧ putsL B1 = putsL o.2 ∧ oldL B1 = (match ePnd (wE W e) with | none => lenA tl ((wRow W).take (eRev (wE W e))) | some p => newL p) ∧ newL B1 = (match ePnd (wE W e) with | none => lenA tl ((wRow W).take (eRev (wE W e) + 1)) | some p => newL (turnC ah p o.2)) ∧ (∀ p, ePnd (wE W e) = some p → okO p ∧ oldL p = oldL o.2 ∧ p.length + o.2.length ≤ 700 ∧ okO (turnC ah p o.2) ∧ oldL (turnC ah p o.2) = newL o.2 ∧ putsL (turnC ah p o.2) = putsL p ∧ cutsN (turnC ah p o.2) ≤ cutsN p) := by
    cases hp : ePnd (wE W e) with
    | none => exact ⟨o.2, rfl, o1, rfl, o3, o4, fun p h => (Option.some_ne_none p h.symm).elim⟩
    | some p =>
      obtain ⟨a1, a2, a3, a4⟩ := pnd_cnt hg0 he hp
      have a5 := a4 o ho hne
      have cp := cnt_len a1
      obtain ⟨t1, t2, t3, t4, t5, t6, t7, t8, t9⟩ := turn_ok (ah := ah) a1 o1 (by omega)
      refine ⟨turnD ah p o.2, rfl, t2, t7, t4, t5.symm, fun p' h => ?_⟩
      have : p = p' := Option.some.inj h
      subst this
      exact ⟨a1, by omega, by omega, t1, t3, t6, t8⟩
  obtain ⟨B1, b1, b2, b3, b4, b5, b6⟩ := s1
  -- the second: the buffer
  have s2 : ∃ B2 : List Int32, (pB (eBuf (wE W e)) ah B1).2 = B2 ∧ okO B2 ∧ putsL B2 = putsL o.2 ∧ oldL B2 = (eTxt (wE W e)).length ∧ (∀ q, eBuf (wE W e) = some q → okO q ∧ oldL q = oldL B1 ∧ q.length + B1.length ≤ 700 ∧ okO (turnC ah q B1) ∧ putsL (turnC ah q B1) = putsL q ∧ cutsN (turnC ah q B1) ≤ cutsN q) ∧ chE (lenA tl ((wRow W).take (eRev (wE W e) + 1))) (pB (ePnd (wE W e)) ah o.2).1 (pB (eBuf (wE W e)) ah B1).1 (newL B2) ∧ putsO (pB (ePnd (wE W e)) ah o.2).1 = putsO (ePnd (wE W e)) ∧ putsO (pB (eBuf (wE W e)) ah B1).1 = putsO (eBuf (wE W e)) ∧ (pB (ePnd (wE W e)) ah o.2).1.isSome = (ePnd (wE W e)).isSome ∧ (pB (eBuf (wE W e)) ah B1).1.isSome = (eBuf (wE W e)).isSome := by
    cases hp : ePnd (wE W e) with
    | none =>
      rw [hp] at e6 b4 b5
      cases hq : eBuf (wE W e) with
      | some q => rw [hq] at e6; exact e6.elim
      | none =>
        rw [hq] at e6
        have e6' : (eTxt (wE W e)).length = lenA tl ((wRow W).take (eRev (wE W e))) := e6
        exact ⟨B1, rfl, b2, b3, by rw [b4, e6'], fun q h => (Option.some_ne_none q h.symm).elim, b5, rfl, rfl, rfl, rfl⟩
    | some p =>
      obtain ⟨p1, p2, p3, p4, p5, p6, p7⟩ := b6 p hp
      rw [hp] at e6 b4 b5
      cases hq : eBuf (wE W e) with
      | none =>
        rw [hq] at e6
        obtain ⟨q1, q2, q3⟩ := e6
        exact ⟨B1, rfl, b2, b3, by rw [b4]; exact q3, fun q h => (Option.some_ne_none q h.symm).elim, ⟨p4, by rw [← o4]; exact p5, by rw [b5]⟩, p6, rfl, rfl, rfl⟩
      | some q =>
        obtain ⟨a1, a2, a3, a4⟩ := pnd_cnt hg0 he hp
        have a5 := a4 o ho hne
        rw [hq] at e6 a3 a5
        have hpo : putsO (some q) = putsL q := rfl
        obtain ⟨q1, q2, q3, q4, q5⟩ := e6
        have cq := cnt_len q2
        have cp := cnt_len q1
        have cB := cnt_len b2
        obtain ⟨t1, t2, t3, t4, t5, t6, t7, t8, t9⟩ := turn_ok (ah := ah) q2 b2 (by rw [b4]; exact q4.symm)
        refine ⟨turnD ah q B1, rfl, t2, by omega, by omega, fun q' h => ?_, ⟨p4, t1, by rw [← o4]; exact p5, by rw [t3, b5], t5⟩, p6, t6, rfl, rfl⟩
        have : q = q' := Option.some.inj h
        subst this
        dsimp only at b4
        exact ⟨q2, by omega, by omega, t1, t6, t8⟩
  obtain ⟨B2, d1, d2, d3, d4, d5, d6, d7, d8, d9, d10⟩ := s2
  have cB2 := cnt_len d2
  have hE : comE ties e o (wE W e) = sDon (sUnd (txtE (sBuf (sPnd (sRev (wE W e) (eRev (wE W e) + 1)) (pB (ePnd (wE W e)) ah o.2).1) (pB (eBuf (wE W e)) ah B1).1) B2 false) (carS ah (eUnd (wE W e)) B2).1) (carS ah (eDon (wE W e)) B2).1 := by
    unfold comE; rw [hah, b1, d1]
  have hT : (eTxt (comE ties e o (wE W e))).length = newL B2 := by rw [hE]; exact chgL_len d2 _
  obtain ⟨u1, u2, u3, u4, u5, u6, u7⟩ := carS_ok ah (eUnd (wE W e)) B2 _ e11 d2 d4 e13
  obtain ⟨v1, v2, v3, v4, v5, v6, v7⟩ := carS_ok ah (eDon (wE W e)) B2 _ e12 d2 d4 e14
  have pl := txt_places (E := sBuf (sPnd (sRev (wE W e) (eRev (wE W e) + 1)) (pB (ePnd (wE W e)) ah o.2).1) (pB (eBuf (wE W e)) ah B1).1) (own := false) d2 d4 e17 e18 e19
  have hBd : Bd (comE ties e o (wE W e)) := by
    refine ⟨by omega, by rw [hE]; exact pl.2.1, fun x hx => ?_, ?_, fun p hp => ?_, fun hl => ?_, fun q hq => ?_, ?_, ?_⟩
    · rw [hE] at hx
      have := pl.2.2 x hx
      omega
    · rw [hE]
      have h9 : eCur (txtE (sBuf (sPnd (sRev (wE W e) (eRev (wE W e) + 1)) (pB (ePnd (wE W e)) ah o.2).1) (pB (eBuf (wE W e)) ah B1).1) B2 false) ≤ newL B2 := pl.1
      show eCur (txtE (sBuf (sPnd (sRev (wE W e) (eRev (wE W e) + 1)) (pB (ePnd (wE W e)) ah o.2).1) (pB (eBuf (wE W e)) ah B1).1) B2 false) < 10000
      omega
    · rw [hE] at hp
      have hp' : (pB (ePnd (wE W e)) ah o.2).1 = some p := hp
      cases hp0 : ePnd (wE W e) with
      | none => rw [hp0] at hp'; exact (Option.some_ne_none p hp'.symm).elim
      | some p0 =>
        rw [hp0] at hp'
        have : turnC ah p0 o.2 = p := Option.some.inj hp'
        subst this
        obtain ⟨p1, p2, p3, p4, p5, p6, p7⟩ := b6 p0 hp0
        have h1 := mk_len p4 0
        have h2 := mk_len p1 0
        have h3 := hbd.2.2.2.2.1 p0 hp0
        omega
    · rw [hE] at hl ⊢
      exact hbd.2.2.2.2.2.1 hl
    · rw [hE] at hq
      have hq' : (pB (eBuf (wE W e)) ah B1).1 = some q := hq
      cases hq0 : eBuf (wE W e) with
      | none => rw [hq0] at hq'; exact (Option.some_ne_none q hq'.symm).elim
      | some q0 =>
        rw [hq0] at hq'
        have : turnC ah q0 B1 = q := Option.some.inj hq'
        subst this
        obtain ⟨p1, p2, p3, p4, p6, p7⟩ := d5 q0 hq0
        have h1 := mk_len p4 0
        have h2 := mk_len p1 0
        have h3 := hbd.2.2.2.2.2.2.1 q0 hq0
        omega
    · rw [hE]; show capS (carS ah (eUnd (wE W e)) B2).1 ≤ 464; rw [carS_cap]; exact hbd.2.2.2.2.2.2.2.1
    · rw [hE]; show capS (carS ah (eDon (wE W e)) B2).1 ≤ 464; rw [carS_cap]; exact hbd.2.2.2.2.2.2.2.2
  refine ⟨?_, ?_, ?_, ?_, ?_, ?_, ?_, ?_, ?_, ?_, ?_, ?_, ?_, ?_, ?_, ?_, ?_⟩
  · unfold comOk
    rw [hah, b1, d1]
    exact ⟨o1, by omega, fun p hp => ⟨(b6 p hp).1, (b6 p hp).2.1, (b6 p hp).2.2.1⟩, b2, fun q hq => ⟨(d5 q hq).1, (d5 q hq).2.1, (d5 q hq).2.2.1⟩, d2, by omega, d4, by omega, e11, e12, by omega, by omega, by omega, by omega, hBd⟩
  · rw [hT, hE]; exact d6
  · rw [hE]; exact chg_okP B2 (eTxt (wE W e)) d2 e5 (by omega)
  · rw [hE]; unfold unt; show (if (eLft (wE W e)).isSome = true then putsO (pB (ePnd (wE W e)) ah o.2).1 else 0) + putsO (pB (eBuf (wE W e)) ah B1).1 = _; rw [d7, d8]
  · rw [hE]; unfold untN; show (if (eLft (wE W e)).isSome = true then 1 else 0) + (if (pB (eBuf (wE W e)) ah B1).1.isSome = true then 1 else 0) = _; rw [d10]
  · rw [hT]; omega
  · rw [hT, hE]; exact u1
  · rw [hT, hE]; exact v1
  · rw [hE]; exact u3
  · rw [hE]; exact v3
  · rw [hE]; exact u2
  · rw [hE]; exact v2
  · rw [hE]; exact u4
  · rw [hE]; exact v4
  · rw [hT, hE]; exact pl.1
  · rw [hE]; exact pl.2.1
  · rw [hT, hE]; exact pl.2.2
