/-! ===== PART II, the class: one behind the other, part by part ===== -/
def cntP2 (x : Pt) : Nat := if x.1 = 1 then 1 else x.2
def dropC (m : Nat) : List Pt → List Pt
  | [] => []
  | x :: l => if cntP2 x ≤ m then l else (x.1, x.2 - m) :: l
def comJ (x y : Pt) (C : List Pt) : List Pt := if y.1 = 2 then (if x.1 = 1 then C else addC (min (cntP2 x) y.2) C) else (if x.1 = 1 then addP x.2 C else addK (min (cntP2 x) y.2) C)
def cutH (L : List Pt) : Bool := match L with
  | [] => false
  | x :: _ => decide (x.1 = 2)
def joinP : Nat → List Pt → List Pt → List Pt → List Pt
  | 0, _, _, C => C
  | n + 1, A, B, C =>
    if cutH A = true then joinP n A.tail B (addC (A.headD (0, 0)).2 C)
    else if putH B = true then joinP n A B.tail (addP (B.headD (0, 0)).2 C)
    else match A, B with
      | x :: A', y :: B' => joinP n (dropC (min (cntP2 x) y.2) (x :: A')) (dropC (min (cntP2 x) y.2) (y :: B')) (comJ x y C)
      | [], B => joinP n [] B C
      | x :: A', [] => joinP n (x :: A') [] C
theorem dropC_P {m : Nat} {x : Pt} {l : List Pt} (h : x.1 ≠ 1) : dropC m (x :: l) = dropP m (x :: l) := by
  show (if cntP2 x ≤ m then l else (x.1, x.2 - m) :: l) = if x.2 ≤ m then l else (x.1, x.2 - m) :: l
  unfold cntP2
  rw [if_neg h]
theorem dropC_put {m : Nat} {x : Pt} {l : List Pt} (h : x.1 = 1) (hm : 1 ≤ m) : dropC m (x :: l) = l := by
  show (if cntP2 x ≤ m then l else (x.1, x.2 - m) :: l) = l
  unfold cntP2
  rw [if_pos h, if_pos hm]
theorem newL_rc {c : Int32} (h : ¬ c < 0) : ∀ (m : Nat) (l : List Int32), newL (List.replicate m c ++ l) = m + newL l := by
  intro m
  induction m with
  | zero => intro l; simp
  | succ m ih => intro l; rw [List.replicate_succ, List.cons_append, newL, if_neg h, ih]; omega
theorem newL_rcut : ∀ (m : Nat) (l : List Int32), newL (List.replicate m (-1) ++ l) = newL l := by
  intro m
  induction m with
  | zero => intro l; simp
  | succ m ih => intro l; rw [List.replicate_succ, List.cons_append, newL, if_pos (by decide), ih]; omega
theorem join_cut (B : List Int32) : ∀ (m : Nat) (A : List Int32), joinR (List.replicate m (-1) ++ A) B = List.replicate m (-1) ++ joinR A B := by
  intro m
  induction m with
  | zero => intro A; simp
  | succ m ih =>
    intro A
    rw [List.replicate_succ, List.cons_append, List.cons_append, ← ih]
    cases B with
    | nil => conv => lhs; unfold joinR
    | cons b B => conv => lhs; unfold joinR
                  rw [if_pos rfl]
theorem join_putB {c : Int32} (hc : 0 < c) {A B : List Int32} (hA : ∀ a, A.head? = some a → a ≠ -1) : joinR A (c :: B) = c :: joinR A B := by
  cases A with
  | nil => conv => lhs; unfold joinR
  | cons a A =>
    conv => lhs; unfold joinR
    rw [if_neg (hA a rfl), if_pos hc]
theorem join_keep {b : Int32} (hb : ¬ 0 < b) (hb2 : b = 0 ∨ b = -1) : ∀ (m : Nat) (A B : List Int32), joinR (List.replicate m 0 ++ A) (List.replicate m b ++ B) = List.replicate m b ++ joinR A B := by
  intro m
  induction m with
  | zero => intro A B; simp
  | succ m ih =>
    intro A B
    rw [List.replicate_succ, List.replicate_succ, List.cons_append, List.cons_append]
    conv => lhs; unfold joinR
    rw [if_neg (by decide), if_neg hb, ih]
    rcases hb2 with rfl | rfl
    · rw [if_pos rfl]; rfl
    · rw [if_neg (by decide), if_pos rfl]; rfl
theorem join_putA {a b : Int32} (ha : a ≠ -1) (ha0 : a ≠ 0) (hb : ¬ 0 < b) (A B : List Int32) : joinR (a :: A) (b :: B) = (if b = 0 then [a] else []) ++ joinR A B := by
  conv => lhs; unfold joinR
  rw [if_neg ha, if_neg hb]
  split <;> first | rfl | rw [if_neg ha0]
theorem kc_or (x : Pt) : kc x = 0 ∨ kc x = -1 := by unfold kc; split; exact Or.inl rfl; exact Or.inr rfl
theorem dec_hd {x : Pt} {l : List Pt} (h : okPt x) : ∃ v t, decF (x :: l) = v :: t ∧ (v = -1 ↔ x.1 = 2) := by
  rw [decF]
  unfold dec1
  rcases h with ⟨h1, h2, h3⟩ | ⟨h1, h2, h3⟩ | ⟨h1, h2, h3⟩
  · rw [if_pos h1, show x.2 = (x.2 - 1) + 1 by omega, List.replicate_succ]
    exact ⟨0, _, rfl, by constructor; intro hh; exact absurd hh (by decide); intro hh; omega⟩
  · rw [if_neg (by omega), if_pos h1]
    exact ⟨nI x.2, _, rfl, by
      obtain ⟨p1, p2, p3, p4⟩ := okP3 (v := nI x.2) ⟨x.2, h2, h3, rfl⟩
      constructor
      · intro hh
        have hn := nI_toInt (n := x.2) (by omega)
        rw [hh, show (-1 : Int32).toInt = -1 from by decide] at hn
        omega
      · intro hh; omega⟩
  · rw [if_neg (by omega), if_neg (by omega), show x.2 = (x.2 - 1) + 1 by omega, List.replicate_succ]
    exact ⟨-1, _, rfl, by constructor; intro _; exact h1; intro _; rfl⟩
theorem joinP_ok : ∀ (n : Nat) (A B C : List Pt) (r : List Int32), (∀ x ∈ A, okPt x) → (∀ x ∈ B, okPt x) → newL (decF A) = oldL (decF B) → Blt C r → A.length + B.length ≤ n → r.length + (decF A).length + (decF B).length ≤ 100000 →
    Blt (joinP n A B C) (r ++ joinR (decF A) (decF B)) := by
  intro n
  induction n with
  | zero =>
    intro A B C r hA hB ho h1 hn hl
    have eA : A = [] := List.length_eq_zero_iff.mp (by omega)
    have eB : B = [] := List.length_eq_zero_iff.mp (by omega)
    subst eA; subst eB
    have e : joinR (decF []) (decF []) = [] := by show joinR [] [] = _; unfold joinR; rfl
    rw [e, List.append_nil]
    exact h1
  | succ n ih =>
    intro A B C r hA hB ho h1 hn hl
    unfold joinP
    by_cases c1 : cutH A = true
    · rw [if_pos c1]
      cases A with
      | nil => exact absurd c1 (by decide)
      | cons x A =>
        have hx1 : x.1 = 2 := of_decide_eq_true c1
        have hx := hA x List.mem_cons_self
        have hx2 : 1 ≤ x.2 := by unfold okPt at hx; omega
        have ed : decF (x :: A) = List.replicate x.2 (-1) ++ decF A := by rw [decF]; unfold dec1; rw [if_neg (by omega), if_neg (by omega)]
        rw [ed, List.length_append, List.length_replicate] at hl
        rw [ed, newL_rcut] at ho
        rw [List.length_cons] at hn
        have := ih A B (addC x.2 C) (r ++ List.replicate x.2 (-1)) (fun y hy => hA y (List.mem_cons_of_mem _ hy)) hB ho (Blt_C h1 hx2 (by omega)) (by omega) (by rw [List.length_append, List.length_replicate]; omega)
        rw [ed, join_cut, ← List.append_assoc]
        exact this
    · rw [if_neg c1]
      by_cases c2 : putH B = true
      · rw [if_pos c2]
        cases B with
        | nil => exact absurd c2 (by decide)
        | cons y B =>
          have hy1 : y.1 = 1 := of_decide_eq_true c2
          have hy := hB y List.mem_cons_self
          have hy2 : 1 ≤ y.2 ∧ y.2 ≤ 26 := by unfold okPt at hy; omega
          have ed : decF (y :: B) = nI y.2 :: decF B := by rw [decF]; unfold dec1; rw [if_neg (by omega), if_pos hy1]; rfl
          have hpos : (0 : Int32) < nI y.2 := nI_lt (a := 0) (by omega) (by omega)
          have et := join_putB hpos (A := decF A) (B := decF B) (fun a ha hh => by
            cases A with
            | nil => cases ha
            | cons x A =>
              obtain ⟨v, t, e1, e2⟩ := dec_hd (l := A) (hA x List.mem_cons_self)
              rw [e1] at ha
              have hv : v = a := Option.some.inj ha
              exact c1 (decide_eq_true (e2.mp (hv.trans hh))))
          rw [ed] at ho hl ⊢
          rw [List.length_cons] at hl hn
          obtain ⟨p1, p2, p3, p4⟩ := okP3 (v := nI y.2) ⟨y.2, hy2.1, hy2.2, rfl⟩
          have hoo : oldL (nI y.2 :: decF B) = oldL (decF B) := (cntP p1 p2 p3 p4.2 (decF B)).1
          rw [hoo] at ho
          have := ih A B (addP y.2 C) (r ++ [nI y.2]) hA (fun z hz => hB z (List.mem_cons_of_mem _ hz)) ho (Blt_P h1 hy2.1 hy2.2) (by omega) (by rw [List.length_append, List.length_singleton]; omega)
          rw [et]
          rw [List.append_assoc] at this
          exact this
      · rw [if_neg c2]
        cases A with
        | nil =>
          cases B with
          | nil => exact ih [] [] C r hA hB ho h1 (by simp) hl
          | cons y B =>
            exfalso
            have hy := hB y List.mem_cons_self
            have hy1 := putH_f c2
            have hm : 1 ≤ y.2 := by unfold okPt at hy; omega
            have e := dec_drop (m := y.2) (l := B) hy hy1 (Nat.le_refl _)
            rw [e, show (if y.1 = 0 then (0 : Int32) else -1) = kc y from rfl, oldL_rc (kc_le y).1] at ho
            have : newL (decF ([] : List Pt)) = 0 := rfl
            omega
        | cons x A =>
          have hx := hA x List.mem_cons_self
          have hx2 : x.1 ≠ 2 := fun hh => c1 (decide_eq_true hh)
          have hm1 : 1 ≤ x.2 := by unfold okPt at hx; omega
          by_cases hx1 : x.1 = 1
          · have hxl : 1 ≤ x.2 ∧ x.2 ≤ 26 := by unfold okPt at hx; omega
            have ed : decF (x :: A) = nI x.2 :: decF A := by rw [decF]; unfold dec1; rw [if_neg (by omega), if_pos hx1]; rfl
            obtain ⟨p1, p2, p3, p4⟩ := okP3 (v := nI x.2) ⟨x.2, hxl.1, hxl.2, rfl⟩
            have hnw : newL (nI x.2 :: decF A) = 1 + newL (decF A) := by rw [newL, if_neg (of_eq_false p3)]
            have hne : nI x.2 ≠ -1 := fun hh => of_eq_false p3 (by rw [hh]; decide)
            cases B with
            | nil =>
              exfalso
              rw [ed, hnw] at ho
              have : oldL (decF ([] : List Pt)) = 0 := rfl
              omega
            | cons y B =>
              have hy := hB y List.mem_cons_self
              have hy1 := putH_f c2
              have hm2 : 1 ≤ y.2 := by unfold okPt at hy; omega
              have e2 := dec_drop (m := 1) (l := B) hy hy1 hm2
              rw [show (if y.1 = 0 then (0 : Int32) else -1) = kc y from rfl, List.replicate_one, List.singleton_append] at e2
              dsimp only
              rw [show min (cntP2 x) y.2 = 1 from by unfold cntP2; rw [if_pos hx1]; omega, dropC_put hx1 (Nat.le_refl 1), dropC_P hy1]
              rw [ed, e2, hnw, show oldL (kc y :: decF (dropP 1 (y :: B))) = 1 + oldL (decF (dropP 1 (y :: B))) from by rw [oldL, if_pos (kc_le y).1]] at ho
              rw [ed, e2, List.length_cons, List.length_cons] at hl
              have hb1 : Blt (comJ x y C) (r ++ if kc y = 0 then [nI x.2] else []) := by
                unfold comJ
                by_cases hy0 : y.1 = 2
                · rw [if_pos hy0, if_pos hx1, if_neg (fun hh => by have := (kc_le y).2.2.mp hh; omega), List.append_nil]; exact h1
                · rw [if_neg hy0, if_pos hx1, if_pos ((kc_le y).2.2.mpr (by unfold okPt at hy; omega))]; exact Blt_P h1 hxl.1 hxl.2
              have hrl : (r ++ if kc y = 0 then [nI x.2] else []).length ≤ r.length + 1 := by rw [List.length_append]; split <;> simp
              have d2 := (dropP_len (m := 1) (x := y) (l := B)).1
              rw [List.length_cons, List.length_cons] at hn
              rw [List.length_cons] at d2
              have := ih A (dropP 1 (y :: B)) (comJ x y C) _ (fun z hz => hA z (List.mem_cons_of_mem _ hz)) (dropP_ok hB) (by omega) hb1 (by omega) (by omega)
              rw [ed, e2, join_putA hne (fun hh => of_eq_false p2 (by rw [hh]; decide)) (kc_le y).2.1, ← List.append_assoc]
              exact this
          · have hx0 : x.1 = 0 := by unfold okPt at hx; omega
            have hkx : kc x = 0 := (kc_le x).2.2.mpr hx0
            have ec : cntP2 x = x.2 := by unfold cntP2; rw [if_neg hx1]
            cases B with
            | nil =>
              exfalso
              have e := dec_drop (m := x.2) (l := A) hx hx1 (Nat.le_refl _)
              rw [e, show (if x.1 = 0 then (0 : Int32) else -1) = kc x from rfl, hkx, newL_rc (by decide)] at ho
              have : oldL (decF ([] : List Pt)) = 0 := rfl
              omega
            | cons y B =>
              have hy := hB y List.mem_cons_self
              have hy1 := putH_f c2
              have hm2 : 1 ≤ y.2 := by unfold okPt at hy; omega
              dsimp only
              rw [ec]
              generalize hmm : min x.2 y.2 = m
              have e1 := dec_drop (m := m) (l := A) hx hx1 (by omega)
              have e2 := dec_drop (m := m) (l := B) hy hy1 (by omega)
              rw [show (if x.1 = 0 then (0 : Int32) else -1) = kc x from rfl, hkx] at e1
              rw [show (if y.1 = 0 then (0 : Int32) else -1) = kc y from rfl] at e2
              have hlA : (decF (x :: A)).length = m + (decF (dropP m (x :: A))).length := by rw [e1, List.length_append, List.length_replicate]
              have hlB : (decF (y :: B)).length = m + (decF (dropP m (y :: B))).length := by rw [e2, List.length_append, List.length_replicate]
              rw [e1, e2, newL_rc (by decide), oldL_rc (kc_le y).1] at ho
              have hb1 : Blt (comJ x y C) (r ++ List.replicate m (kc y)) := by
                unfold comJ
                rw [ec, hmm]
                by_cases hy0 : y.1 = 2
                · rw [if_pos hy0, if_neg hx1, show kc y = -1 from by unfold kc; rw [if_neg (by omega)]]; exact Blt_C h1 (by omega) (by omega)
                · rw [if_neg hy0, if_neg hx1, (kc_le y).2.2.mpr (by unfold okPt at hy; omega)]; exact Blt_K h1 (by omega) (by omega)
              have d1 := dropP_len (m := m) (x := x) (l := A)
              have d2 := dropP_len (m := m) (x := y) (l := B)
              have hdl : (dropP m (x :: A)).length + (dropP m (y :: B)).length ≤ n := by
                rw [List.length_cons] at d1 d2 hn
                rw [List.length_cons] at hn
                rcases Nat.le_total x.2 y.2 with hxy | hxy
                · have := d1.2 (by omega); omega
                · have := d2.2 (by omega); omega
              have := ih (dropP m (x :: A)) (dropP m (y :: B)) (comJ x y C) _ (dropP_ok hA) (dropP_ok hB) (by omega) hb1 hdl (by rw [List.length_append, List.length_replicate]; omega)
              rw [dropC_P hx1, dropC_P hy1, e1, e2, join_keep (kc_le y).2.1 (kc_or y), ← List.append_assoc]
              exact this
