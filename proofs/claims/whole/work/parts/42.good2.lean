/-! ===== PART II: what follows of a good world ===== -/
theorem sumN_ge {f : Nat → Nat} : ∀ {cnt e : Nat}, e < cnt → f e ≤ sumN f cnt := by
  intro cnt
  induction cnt with
  | zero => intro e h; omega
  | succ n ih =>
    intro e h
    rw [sumN]
    by_cases he : e = n
    · subst he; omega
    · have := ih (show e < n by omega); omega
theorem sumN_congr {f g : Nat → Nat} : ∀ {cnt : Nat}, (∀ i, i < cnt → f i = g i) → sumN f cnt = sumN g cnt := by
  intro cnt
  induction cnt with
  | zero => intro _; rfl
  | succ n ih => intro h; rw [sumN, sumN, ih (fun i hi => h i (by omega)), h n (by omega)]
theorem sumN_le {f g : Nat → Nat} : ∀ {cnt : Nat}, (∀ i, i < cnt → f i ≤ g i) → sumN f cnt ≤ sumN g cnt := by
  intro cnt
  induction cnt with
  | zero => intro _; exact Nat.le_refl _
  | succ n ih => intro h; rw [sumN, sumN]; have := ih (fun i hi => h i (by omega)); have := h n (by omega); omega
theorem sumN_split {f : Nat → Nat} : ∀ {cnt e : Nat}, e < cnt → sumN (fun i => if i = e then 0 else f i) cnt + f e = sumN f cnt := by
  intro cnt
  induction cnt with
  | zero => intro e h; omega
  | succ n ih =>
    intro e h
    rw [sumN, sumN]
    by_cases he : e = n
    · subst he
      rw [if_pos rfl]
      have : sumN (fun i => if i = e then 0 else f i) e = sumN f e := sumN_congr (fun i hi => by rw [if_neg (by omega)])
      omega
    · have := ih (show e < n by omega)
      rw [if_neg (by omega)]
      omega
theorem car_le {place : Nat} {more : Bool} : ∀ (A : List Int32) (p q n : Nat), okO A → q ≤ n + (place - p) → place ≤ p + oldL A → carN place more A p q ≤ n + newL A := by
  intro A
  induction A with
  | nil => intro p q n _ h1 h2; simp only [carN, newL, oldL] at *; omega
  | cons v A ih =>
    intro p q n hA h1 h2
    have hA' : okO A := fun x hx => hA x (by simp [hx])
    rw [carN]
    rcases ok3 (hA v (by simp)) with rfl | rfl | ⟨p1, p2, p3, p4, p5⟩
    · have c := cnt0 A
      rw [if_neg (by decide), if_neg (by rintro ⟨h, _⟩; exact absurd h (by decide))]
      have := ih (p + 1) q (n + 1) hA' (by omega) (by omega)
      omega
    · have c := cntC A
      rw [if_neg (by decide)]
      by_cases hp : p < place
      · rw [if_pos ⟨rfl, hp⟩]
        have := ih (p + 1) (q - 1) n hA' (by omega) (by omega)
        omega
      · rw [if_neg (fun h => hp h.2)]
        have := ih (p + 1) q n hA' (by omega) (by omega)
        omega
    · have c := cntP p1 p2 p3 p5 A
      rw [if_pos (by rw [p1]; trivial)]
      have h3 : (if p < place ∨ p = place ∧ more = true then q + 1 else q) ≤ q + 1 := by split <;> omega
      have := ih p _ (n + 1) hA' (show (if p < place ∨ p = place ∧ more = true then q + 1 else q) ≤ n + 1 + (place - p) by omega) (by omega)
      omega
theorem car_le0 {place : Nat} {more : Bool} {A : List Int32} (hA : okO A) (h : place ≤ oldL A) : carN place more A 0 place ≤ newL A := by
  have := car_le (place := place) (more := more) A 0 place 0 hA (by omega) (by omega)
  omega
/-- the places of an editor behind an operation -/
theorem txt_places {E : Ed} {A : List Int32} {own : Bool} (hA : okO A) (ho : oldL A = (eTxt E).length) (hc : eCur E ≤ (eTxt E).length) (hm : (eMks E).length ≤ 4) (hx : ∀ x ∈ eMks E, x.1 ≤ x.2.1 ∧ x.2.1 ≤ (eTxt E).length ∧ x.2.2 ≤ 3) :
    eCur (txtE E A own) ≤ newL A ∧ (eMks (txtE E A own)).length ≤ 4 ∧ (∀ x ∈ eMks (txtE E A own), x.1 ≤ x.2.1 ∧ x.2.1 ≤ newL A ∧ x.2.2 ≤ 3) := by
  refine ⟨car_le0 (place := eCur E) (more := own) hA (by omega), by show ((eMks E).map (carM A)).length ≤ 4; rw [List.length_map]; exact hm, ?_⟩
  intro x h
  have h' : x ∈ (eMks E).map (carM A) := h
  obtain ⟨y, hy, rfl⟩ := List.mem_map.mp h'
  obtain ⟨y1, y2, y3⟩ := hx y hy
  unfold carM
  refine ⟨Nat.le_max_left _ _, ?_, y3⟩
  have a1 := car_le0 (place := y.1) (more := decide (y.2.2 % 2 = 0)) hA (by omega)
  have a2 := car_le0 (place := y.2.1) (more := decide (1 < y.2.2)) hA (by omega)
  exact Nat.max_le.mpr ⟨a1, a2⟩
theorem txt_len {E : Ed} {A : List Int32} {own : Bool} (hA : okO A) : (eTxt (txtE E A own)).length = newL A := chgL_len hA (eTxt E)
theorem lenA_le {cnt tl : Nat} {row : List (Nat × List Int32)} (h : chR cnt tl row) (i : Nat) : lenA tl (row.take i) ≤ tl + putsR (row.take i) ∧ putsR (row.take i) ≤ putsR row := by
  have hs : row.take i ++ row.drop i = row := List.take_append_drop i row
  rw [← hs, chR_app] at h
  have h1 := lenA_cnt _ _ h.1
  have h2 := putsR_app (row.take i) (row.drop i)
  rw [hs] at h2
  omega
theorem putsR_drop (row : List (Nat × List Int32)) (i : Nat) : putsR (row.take i) + putsR (row.drop i) = putsR row := by
  have h2 := putsR_app (row.take i) (row.drop i)
  rw [List.take_append_drop] at h2
  omega
theorem chR_drop {cnt tl : Nat} {row : List (Nat × List Int32)} (h : chR cnt tl row) (i : Nat) : chR cnt (lenA tl (row.take i)) (row.drop i) := by
  have hs : row.take i ++ row.drop i = row := List.take_append_drop i row
  rw [← hs, chR_app] at h
  exact h.2
theorem putsR_mem {l : List (Nat × List Int32)} {s t : List (Nat × List Int32)} {o : Nat × List Int32} (h : l = s ++ o :: t) : putsL o.2 ≤ putsR l := by
  rw [h, putsR_app, putsR]; omega
/-- what is pending: of the server's text at the revision; its letters are counted -/
theorem pnd_cnt {cnt ties tl e : Nat} {W : Wd} (hg : Good cnt ties tl W) (he : e < cnt) {p : List Int32} (hp : ePnd (wE W e) = some p) :
    okO p ∧ oldL p = lenA tl ((wRow W).take (eRev (wE W e))) ∧ putsR ((wRow W).take (eRev (wE W e))) + putsL p + putsO (eBuf (wE W e)) ≤ wPu W ∧ (∀ o, (wRow W)[eRev (wE W e)]? = some o → o.1 ≠ e → putsR ((wRow W).take (eRev (wE W e))) + putsL o.2 + putsL p + putsO (eBuf (wE W e)) ≤ wPu W) := by
  obtain ⟨g1, g2, g3, g4, g5, g6, g7, g8, g9⟩ := hg
  obtain ⟨e1, e2, e3, e4, e5, e6, e7, e8, e9, e10, e11, e12, e13, e14, e15, e16, e17, e18, e19⟩ := g9 e he
  have hc : okO p ∧ oldL p = lenA tl ((wRow W).take (eRev (wE W e))) := by
    rw [hp] at e6
    cases hq : eBuf (wE W e) with
    | none => rw [hq] at e6; exact ⟨e6.1, e6.2.1⟩
    | some q => rw [hq] at e6; exact ⟨e6.1, e6.2.2.1⟩
  have hu : unt (wE W e) ≤ sumN (fun i => unt (wE W i)) cnt := sumN_ge (f := fun i => unt (wE W i)) he
  have hd := putsR_drop (wRow W) (eRev (wE W e))
  cases hL : eLft (wE W e) with
  | some k =>
    have hun : unt (wE W e) = putsL p + putsO (eBuf (wE W e)) := by unfold unt; rw [hL, hp]; rfl
    refine ⟨hc.1, hc.2, by omega, fun o ho hne => ?_⟩
    have := (chR_get g6 ho).2.2.2.2
    omega
  | none =>
    have hun : unt (wE W e) = putsO (eBuf (wE W e)) := by unfold unt; rw [hL]; simp
    rw [hp, hL] at e7
    obtain ⟨l1, l2, r1, r2, r3⟩ := e7
    have hch := chR_drop g6 (eRev (wE W e))
    rw [r1, chR_app] at hch
    have hpr : putsR ((wRow W).drop (eRev (wE W e))) = putsR l1 + (putsL (foldT ties e l1 p) + putsR l2) := by rw [r1, putsR_app, putsR]
    have l0 := lenA_le g6 (eRev (wE W e))
    -- the letters of the own one in the row are those of what is pending
    have hf : putsL (foldT ties e l1 p) = putsL p := by
      have key : ∀ (l : List (Nat × List Int32)) (A : List Int32) (n : Nat), okO A → oldL A = n → chR cnt n l → putsL (foldT ties e l A) = putsL A := by
        intro l
        induction l with
        | nil => intro A n _ _ _; rfl
        | cons o l ih =>
          intro A n hA ho hl
          obtain ⟨h1, h2, h3, h4⟩ := hl
          obtain ⟨t1, t2, t3, t4, t5, t6, t7, t8, t9⟩ := turn_ok (ah := aheadB ties e o.1) hA h1 (by omega)
          rw [foldT, ih _ _ t1 t3 h4, t6]
      exact key l1 p _ hc.1 hc.2 hch.1
    refine ⟨hc.1, hc.2, by omega, fun o ho hne => ?_⟩
    have ho' : ((wRow W).drop (eRev (wE W e)))[0]? = some o := by rw [List.getElem?_drop]; exact ho
    rw [r1] at ho'
    cases l1 with
    | nil =>
      simp at ho'
      exact absurd (by rw [← ho']) hne
    | cons x l1 =>
      simp at ho'
      subst ho'
      rw [putsR] at hpr
      omega
theorem Good_Bd {cnt ties tl e : Nat} {W : Wd} (hg : Good cnt ties tl W) (he : e < cnt) : Bd (wE W e) := by
  have hg0 := hg
  obtain ⟨g1, g2, g3, g4, g5, g6, g7, g8, g9⟩ := hg
  obtain ⟨e1, e2, e3, e4, e5, e6, e7, e8, e9, e10, e11, e12, e13, e14, e15, e16, e17, e18, e19⟩ := g9 e he
  have l0 := lenA_le g6 (eRev (wE W e))
  refine ⟨by omega, e18, fun x hx => by have := e19 x hx; omega, by omega, fun p hp => ?_, fun hl => ?_, fun q hq => ?_, ?_, ?_⟩
  · obtain ⟨a1, a2, a3, a4⟩ := pnd_cnt hg0 he hp
    have := mk_len a1 0
    have := cnt_len a1
    omega
  · obtain ⟨s1, s2, s3, s4⟩ := e8 hl
    have hd := lenA_le g6 (eSnt (wE W e)).2
    have := mk_len s2 0
    have := cnt_len s2
    obtain ⟨a1, a2, a3, a4⟩ := pnd_cnt hg0 he s4
    have key : ∀ (l : List (Nat × List Int32)) (A : List Int32) (n : Nat), okO A → oldL A = n → chR cnt n l → putsL (foldT ties e l A) = putsL A := by
      intro l
      induction l with
      | nil => intro A n _ _ _; rfl
      | cons o l ih =>
        intro A n hA ho hl
        obtain ⟨h1, h2, h3, h4⟩ := hl
        obtain ⟨t1, t2, t3, t4, t5, t6, t7, t8, t9⟩ := turn_ok (ah := aheadB ties e o.1) hA h1 (by omega)
        rw [foldT, ih _ _ t1 t3 h4, t6]
    have hcd := chR_drop g6 (eSnt (wE W e)).2
    have hct : chR cnt (lenA tl ((wRow W).take (eSnt (wE W e)).2)) (((wRow W).drop (eSnt (wE W e)).2).take (eRev (wE W e) - (eSnt (wE W e)).2)) := by
      have hs := List.take_append_drop (eRev (wE W e) - (eSnt (wE W e)).2) ((wRow W).drop (eSnt (wE W e)).2)
      rw [← hs, chR_app] at hcd
      exact hcd.1
    have hk := key _ _ _ s2 s3 hct
    omega
  · cases hp : ePnd (wE W e) with
    | none => rw [hp, hq] at e6; exact e6.elim
    | some p =>
      obtain ⟨a1, a2, a3, a4⟩ := pnd_cnt hg0 he hp
      rw [hp, hq] at e6
      obtain ⟨c1, c2, c3, c4, c5⟩ := e6
      rw [hq] at a3
      have hpo : putsO (some q) = putsL q := rfl
      have := mk_len c2 0
      have := cnt_len c2
      have := cnt_len c1
      omega
  · rw [capS_eq e13]; omega
  · rw [capS_eq e14]; omega
