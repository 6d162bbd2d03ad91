/-! ===== PART II: a good world stays good when the server takes ===== -/
theorem sumN_dec {f g : Nat → Nat} {d e : Nat} : ∀ {cnt : Nat}, e < cnt → (∀ j, j ≠ e → g j = f j) → g e + d = f e → sumN g cnt + d = sumN f cnt := by
  intro cnt
  induction cnt with
  | zero => intro h; omega
  | succ n ih =>
    intro h h1 h2
    rw [sumN, sumN]
    by_cases he : e = n
    · subst he
      have : sumN g e = sumN f e := sumN_congr (fun i hi => h1 i (by omega))
      omega
    · have := ih (by omega) h1 h2
      have := h1 n (fun h => he h.symm)
      omega
theorem foreR_snoc (e : Nat) (l : List (Nat × List Int32)) (o : Nat × List Int32) : foreR e (l ++ [o]) = foreR e l + (if o.1 = e then 0 else putsL o.2) := by
  induction l with
  | nil => simp [foreR]
  | cons x l ih => rw [List.cons_append, foreR, foreR, ih]; omega
theorem fold_puts {cnt ties e : Nat} : ∀ (l : List (Nat × List Int32)) (A : List Int32) (n : Nat), okO A → oldL A = n → chR cnt n l → putsL (foldT ties e l A) = putsL A := by
  intro l
  induction l with
  | nil => intro A n _ _ _; rfl
  | cons o l ih =>
    intro A n hA ho hl
    obtain ⟨h1, h2, h3, h4⟩ := hl
    obtain ⟨t1, t2, t3, t4, t5, t6, t7, t8, t9⟩ := turn_ok (ah := aheadB ties e o.1) hA h1 (by omega)
    rw [foldT, ih _ _ t1 t3 h4, t6]
/-- what the server makes of what was sent: all that is wanted -/
theorem take_all {cnt ties tl e : Nat} {W : Wd} (hg : Good cnt ties tl W) (he : e < cnt) {k : Nat} (hl : eLft (wE W e) = some k) :
    ∃ p, ePnd (wE W e) = some p ∧ tkOp ties e W = foldT ties e ((wRow W).drop (eRev (wE W e))) p ∧ (eSnt (wE W e)).2 ≤ (wRow W).length ∧ (wRow W).length < 100 ∧ sumMk (wRow W) + (gatherL (tkOp ties e W) 0).length ≤ 3000 ∧ fOk ties e ((wRow W).drop (eSnt (wE W e)).2) (eSnt (wE W e)).1 ∧ okO (tkOp ties e W) ∧ oldL (tkOp ties e W) = lenA tl (wRow W) ∧ putsL (tkOp ties e W) = putsL p ∧ fOk ties e ((wRow W).drop (eRev (wE W e))) p := by
  have hg0 := hg
  obtain ⟨g1, g2, g3, g4, g5, g6, g7, g8, g9⟩ := hg
  obtain ⟨e1, e2, e3, e4, e5, e6, e7, e8, e9, e10, e11, e12, e13, e14, e15, e16, e17, e18, e19⟩ := g9 e he
  obtain ⟨s1, s2, s3, s4⟩ := e8 (by rw [hl]; rfl)
  obtain ⟨a1, a2, a3, a4⟩ := pnd_cnt hg0 he s4
  have hu : unt (wE W e) ≤ sumN (fun i => unt (wE W i)) cnt := sumN_ge (f := fun i => unt (wE W i)) he
  have hn : untN (wE W e) ≤ sumN (fun i => untN (wE W i)) cnt := sumN_ge (f := fun i => untN (wE W i)) he
  generalize hp : foldT ties e (((wRow W).drop (eSnt (wE W e)).2).take (eRev (wE W e) - (eSnt (wE W e)).2)) (eSnt (wE W e)).1 = p at *
  have hun : unt (wE W e) = putsL p + putsO (eBuf (wE W e)) := by unfold unt; rw [hl, s4]; rfl
  have hunN : 1 ≤ untN (wE W e) := by unfold untN; rw [hl]; simp
  have hcs := chR_drop g6 (eSnt (wE W e)).2
  have hcr := chR_drop g6 (eRev (wE W e))
  have ls := lenA_le g6 (eSnt (wE W e)).2
  have lr := lenA_le g6 (eRev (wE W e))
  have ds := putsR_drop (wRow W) (eSnt (wE W e)).2
  have dr := putsR_drop (wRow W) (eRev (wE W e))
  have hsp : ((wRow W).drop (eSnt (wE W e)).2).take (eRev (wE W e) - (eSnt (wE W e)).2) ++ (wRow W).drop (eRev (wE W e)) = (wRow W).drop (eSnt (wE W e)).2 := by
    have := List.take_append_drop (eRev (wE W e) - (eSnt (wE W e)).2) ((wRow W).drop (eSnt (wE W e)).2)
    rw [List.drop_drop, show (eSnt (wE W e)).2 + (eRev (wE W e) - (eSnt (wE W e)).2) = eRev (wE W e) by omega] at this
    exact this
  have hps : putsL p = putsL (eSnt (wE W e)).1 := by
    rw [← hp]
    have hct : chR cnt (lenA tl ((wRow W).take (eSnt (wE W e)).2)) (((wRow W).drop (eSnt (wE W e)).2).take (eRev (wE W e) - (eSnt (wE W e)).2)) := by
      rw [← hsp, chR_app] at hcs
      exact hcs.1
    exact fold_puts _ _ _ s2 s3 hct
  have hC : tkOp ties e W = foldT ties e ((wRow W).drop (eRev (wE W e))) p := by
    unfold tkOp
    rw [← hsp, foldT_app, hp]
  obtain ⟨x1, x2, x3, x4, x5⟩ := fold_ok (ties := ties) (e := e) g1 _ _ _ s2 s3 hcs (by omega)
  obtain ⟨y1, y2, y3, y4, y5⟩ := fold_ok (ties := ties) (e := e) g1 _ _ _ a1 a2 hcr (by omega)
  have hm := sumMk_R _ _ g6
  have hc := lenA_cnt _ _ g6
  have hO : okO (tkOp ties e W) := x2
  have hml := mk_len hO 0
  have hcl := cnt_len hO
  have hold : oldL (tkOp ties e W) = lenA tl (wRow W) := by
    have h9 : oldL (tkOp ties e W) = lenA (lenA tl ((wRow W).take (eSnt (wE W e)).2)) ((wRow W).drop (eSnt (wE W e)).2) := x3
    rw [← lenA_app, List.take_append_drop] at h9
    exact h9
  have hpu : putsL (tkOp ties e W) = putsL p := by rw [hps]; exact x4
  exact ⟨p, s4, hC, by omega, by omega, by omega, x1, hO, hold, hpu, y1⟩
theorem Good_take {cnt ties tl e : Nat} {W : Wd} (hg : Good cnt ties tl W) (he : e < cnt) {k : Nat} (hl : eLft (wE W e) = some k) : Good cnt ties tl (takeW ties cnt e W) := by
  obtain ⟨p, p1, p2, p3, p4, p5, p6, p7, p8, p9, p10⟩ := take_all hg he hl
  obtain ⟨g1, g2, g3, g4, g5, g6, g7, g8, g9⟩ := hg
  generalize hC : tkOp ties e W = C at *
  have hrow : wRow (takeW ties cnt e W) = wRow W ++ [(e, C)] := by rw [← hC]; rfl
  have hEi : ∀ i, i < cnt → wE (takeW ties cnt e W) i = tkE W e i := fun i hi => by
    show (if i < cnt then tkE W e i else wE W i) = _
    rw [if_pos hi]
  have hne : ∀ i, i ≠ e → unt (wE (takeW ties cnt e W) i) = unt (wE W i) ∧ untN (wE (takeW ties cnt e W) i) = untN (wE W i) := fun i hi => by
    have : wE (takeW ties cnt e W) i = if i < cnt then tkE W e i else wE W i := rfl
    rw [this]
    split
    · unfold tkE; rw [if_neg hi]; exact ⟨rfl, rfl⟩
    · exact ⟨rfl, rfl⟩
  have hue : unt (wE (takeW ties cnt e W) e) + putsL p = unt (wE W e) := by
    rw [hEi e he]
    unfold tkE; rw [if_pos rfl]
    unfold unt
    show (if (none : Option Nat).isSome = true then putsO (ePnd (wE W e)) else 0) + putsO (eBuf (wE W e)) + putsL p = _
    rw [hl, p1]
    show 0 + putsO (eBuf (wE W e)) + putsL p = putsL p + putsO (eBuf (wE W e))
    omega
  have hnn : untN (wE (takeW ties cnt e W) e) + 1 = untN (wE W e) := by
    rw [hEi e he]
    unfold tkE; rw [if_pos rfl]
    unfold untN
    show (if (none : Option Nat).isSome = true then 1 else 0) + (if (eBuf (wE W e)).isSome = true then 1 else 0) + 1 = _
    rw [hl]
    show 0 + (if (eBuf (wE W e)).isSome = true then 1 else 0) + 1 = 1 + (if (eBuf (wE W e)).isSome = true then 1 else 0)
    omega
  refine ⟨g1, g2, g3, g4, g5, ?_, ?_, ?_, fun i hi => ?_⟩
  · rw [hrow, chR_app]; exact ⟨g6, p7, he, p8, trivial⟩
  · have := sumN_dec (f := fun i => unt (wE W i)) (g := fun i => unt (wE (takeW ties cnt e W) i)) he (fun j hj => (hne j hj).1) hue
    rw [hrow, putsR_app, putsR, putsR]
    show putsR (wRow W) + (putsL C + 0) + _ ≤ wPu W
    omega
  · have := sumN_dec (f := fun i => untN (wE W i)) (g := fun i => untN (wE (takeW ties cnt e W) i)) he (fun j hj => (hne j hj).2) hnn
    rw [hrow, List.length_append]
    show (wRow W).length + 1 + _ ≤ wEd W
    omega
  · obtain ⟨e1, e2, e3, e4, e5, e6, e7, e8, e9, e10, e11, e12, e13, e14, e15, e16, e17, e18, e19⟩ := g9 i hi
    have hrev : eRev (tkE W e i) = eRev (wE W i) := by unfold tkE; split <;> rfl
    have hdel : eDel (tkE W e i) = eDel (wE W i) := by unfold tkE; split <;> rfl
    have htxt : eTxt (tkE W e i) = eTxt (wE W i) := by unfold tkE; split <;> rfl
    have hpnd : ePnd (tkE W e i) = ePnd (wE W i) := by unfold tkE; split <;> rfl
    have hbuf : eBuf (tkE W e i) = eBuf (wE W i) := by unfold tkE; split <;> rfl
    have hund : eUnd (tkE W e i) = eUnd (wE W i) := by unfold tkE; split <;> rfl
    have hdon : eDon (tkE W e i) = eDon (wE W i) := by unfold tkE; split <;> rfl
    have hcur : eCur (tkE W e i) = eCur (wE W i) := by unfold tkE; split <;> rfl
    have hmks : eMks (tkE W e i) = eMks (wE W i) := by unfold tkE; split <;> rfl
    have hsnt : eSnt (tkE W e i) = eSnt (wE W i) := by unfold tkE; split <;> rfl
    have hcom : ∀ m, eCom (tkE W e i) m = if m = (wRow W).length then eDel (wE W i) else eCom (wE W i) m := fun m => by unfold tkE; split <;> rfl
    have hlft : eLft (tkE W e i) = if i = e then none else eLft (wE W i) := by unfold tkE; split <;> rfl
    have htk : (wRow W ++ [(e, C)]).take (eRev (wE W i)) = (wRow W).take (eRev (wE W i)) := List.take_append_of_le_length e1
    have hdr : (wRow W ++ [(e, C)]).drop (eRev (wE W i)) = (wRow W).drop (eRev (wE W i)) ++ [(e, C)] := List.drop_append_of_le_length e1
    have houts : outs cnt i (takeW ties cnt e W) = outs cnt i W := by
      unfold outs
      rw [hEi i hi, hrev, hrow, hdr, foreR_snoc]
      by_cases hie : i = e
      · subst hie
        rw [if_pos rfl, Nat.add_zero]
        congr 1
        refine sumN_congr (fun j hj => ?_)
        by_cases hji : j = i
        · rw [if_pos hji, if_pos hji]
        · rw [if_neg hji, if_neg hji]; exact (hne j hji).1
      · rw [if_neg (fun h => hie h.symm)]
        have := sumN_dec (f := fun j => if j = i then 0 else unt (wE W j)) (g := fun j => if j = i then 0 else unt (wE (takeW ties cnt e W) j)) (d := putsL p) he (fun j hj => by
          by_cases hji : j = i
          · rw [if_pos hji, if_pos hji]
          · rw [if_neg hji, if_neg hji]; exact (hne j hj).1) (by rw [if_neg (fun h => hie h.symm), if_neg (fun h => hie h.symm)]; exact hue)
        show foreR i ((wRow W).drop (eRev (wE W i))) + putsL C + _ = _
        omega
    have hlen : (wRow (takeW ties cnt e W)).length = (wRow W).length + 1 := by rw [hrow, List.length_append]; rfl
    unfold EdOk
    rw [houts, hlen, hEi i hi, hrow, hrev, hdel, htxt, hpnd, hbuf, hund, hdon, hcur, hmks, hsnt, htk, hdr, hlft]
    refine ⟨by omega, e2, fun k' hk' => ?_, fun m hm => ?_, e5, e6, ?_, fun hh => ?_, e9, e10, e11, e12, e13, e14, e15, e16, e17, e18, e19⟩
    · by_cases hie : i = e
      · rw [if_pos hie] at hk'; cases hk'
      · rw [if_neg hie] at hk'; exact e3 k' hk'
    · rw [hcom]
      split
      · exact e2
      · exact e4 m (by omega)
    · by_cases hie : i = e
      · subst hie
        rw [if_pos rfl, p1]
        rw [p1, hl] at e7
        exact ⟨(wRow W).drop (eRev (wE W i)), [], by rw [p2], e7, fun o ho => absurd ho List.not_mem_nil⟩
      · rw [if_neg hie]
        have hsn : ∀ o ∈ (wRow W).drop (eRev (wE W i)) ++ [(e, C)], (o ∈ (wRow W).drop (eRev (wE W i)) → o.1 ≠ i) → o.1 ≠ i := fun o ho h => by
          rcases List.mem_append.mp ho with ho | ho
          · exact h ho
          · rw [List.mem_singleton.mp ho]; exact fun h => hie h.symm
        cases hp : ePnd (wE W i) with
        | none =>
          cases hl' : eLft (wE W i) with
          | none => rw [hp, hl'] at e7; exact fun o ho => hsn o ho (fun h => e7 o h)
          | some k => rw [hp, hl'] at e7; exact e7.elim
        | some q =>
          cases hl' : eLft (wE W i) with
          | some k => rw [hp, hl'] at e7; exact fun o ho => hsn o ho (fun h => e7 o h)
          | none =>
            rw [hp, hl'] at e7
            obtain ⟨l1, l2, r1, r2, r3⟩ := e7
            refine ⟨l1, l2 ++ [(e, C)], by rw [r1]; simp, r2, fun o ho => ?_⟩
            rcases List.mem_append.mp ho with ho | ho
            · exact r3 o ho
            · rw [List.mem_singleton.mp ho]; exact fun h => hie h.symm
    · by_cases hie : i = e
      · rw [if_pos hie] at hh; cases hh
      · rw [if_neg hie] at hh
        obtain ⟨s1, s2, s3, s4⟩ := e8 hh
        refine ⟨s1, s2, ?_, ?_⟩
        · rw [List.take_append_of_le_length (by omega)]; exact s3
        · rw [List.drop_append_of_le_length (by omega), List.take_append_of_le_length (by rw [List.length_drop]; omega)]; exact s4
