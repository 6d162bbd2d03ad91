/-! ===== PART II, the class: one over the other, part by part: it is letter by letter's ===== -/
theorem oldL_rc {c : Int32} (h : c ≤ 0) : ∀ (m : Nat) (l : List Int32), oldL (List.replicate m c ++ l) = m + oldL l := by
  intro m
  induction m with
  | zero => intro l; simp
  | succ m ih => intro l; rw [List.replicate_succ, List.cons_append, oldL, if_pos h, ih]; omega
def kc (x : Pt) : Int32 := if x.1 = 0 then 0 else -1
theorem kc_le (x : Pt) : kc x ≤ 0 ∧ ¬ 0 < kc x ∧ (kc x = 0 ↔ x.1 = 0) := by
  unfold kc
  by_cases h : x.1 = 0
  · rw [if_pos h]; exact ⟨by decide, by decide, by simp [h]⟩
  · rw [if_neg h]; exact ⟨by decide, by decide, by constructor; intro hh; exact absurd hh (by decide); intro hh; exact absurd hh h⟩
theorem Blt_com {x y : Pt} {C : List Pt} {raw : List Int32} (h : Blt C raw) (h1 : 1 ≤ min x.2 y.2) (hs : raw.length + min x.2 y.2 ≤ 100000) : Blt (comA x y C) (raw ++ if kc y = 0 then List.replicate (min x.2 y.2) (kc x) else []) := by
  unfold comA
  by_cases hy : y.1 = 0
  · rw [if_pos hy, if_pos ((kc_le y).2.2.mpr hy)]
    by_cases hx : x.1 = 0
    · rw [if_pos hx, (kc_le x).2.2.mpr hx]; exact Blt_K h h1 hs
    · rw [if_neg hx, show kc x = -1 from by unfold kc; rw [if_neg hx]]; exact Blt_C h h1 hs
  · rw [if_neg hy, if_neg (fun hh => hy ((kc_le y).2.2.mp hh)), List.append_nil]; exact h
theorem putH_f {x : Pt} {l : List Pt} (h : ¬ putH (x :: l) = true) : x.1 ≠ 1 := fun hx => h (decide_eq_true hx)
theorem head_put {A : List Pt} (hA : ∀ x ∈ A, okPt x) {v : Int32} (hv : (decF A).head? = some v) (h0 : 0 < v) : putH A = true := by
  cases A with
  | nil => cases hv
  | cons x A =>
    obtain ⟨w, t, e1, e2⟩ := dec_head (l := A) (hA x List.mem_cons_self)
    rw [e1] at hv
    have : w = v := Option.some.inj hv
    rw [← this, e2] at h0
    exact decide_eq_true h0
theorem dec_len {x : Pt} {l : List Pt} (h : okPt x) : (decF l).length + (if x.1 = 1 then 1 else x.2) = (decF (x :: l)).length := by
  rw [decF, List.length_append]
  unfold dec1
  rcases h with ⟨h1, h2, h3⟩ | ⟨h1, h2, h3⟩ | ⟨h1, h2, h3⟩
  · rw [if_neg (by omega), if_pos h1, List.length_replicate]; omega
  · rw [if_pos h1, if_neg (by omega), if_pos h1, List.length_singleton]; omega
  · rw [if_neg (by omega), if_neg (by omega), if_neg (by omega), List.length_replicate]; omega
theorem turnP_ok (ah : Bool) : ∀ (n : Nat) (A B CA CB : List Pt) (rA rB : List Int32), (∀ x ∈ A, okPt x) → (∀ x ∈ B, okPt x) → oldL (decF A) = oldL (decF B) → Blt CA rA → Blt CB rB → A.length + B.length ≤ n → rA.length + (decF A).length + (decF B).length ≤ 100000 → rB.length + (decF A).length + (decF B).length ≤ 100000 →
    Blt (turnP ah n A B CA CB).1 (rA ++ (turnR ah (decF A) (decF B)).1) ∧ Blt (turnP ah n A B CA CB).2 (rB ++ (turnR ah (decF A) (decF B)).2) := by
  intro n
  induction n with
  | zero =>
    intro A B CA CB rA rB hA hB ho h1 h2 hn hl hl2
    have eA : A = [] := List.length_eq_zero_iff.mp (by omega)
    have eB : B = [] := List.length_eq_zero_iff.mp (by omega)
    subst eA; subst eB
    have e : turnR ah (decF []) (decF []) = ([], []) := by show turnR ah [] [] = _; unfold turnR; rfl
    rw [e]
    dsimp only
    rw [List.append_nil, List.append_nil]
    exact ⟨h1, h2⟩
  | succ n ih =>
    intro A B CA CB rA rB hA hB ho h1 h2 hn hl hl2
    unfold turnP
    by_cases c1 : putH A = true ∧ (ah = true ∨ putH B = false)
    · rw [if_pos c1]
      cases A with
      | nil => exact absurd c1.1 (by decide)
      | cons x A =>
        have hx1 : x.1 = 1 := of_decide_eq_true c1.1
        have hx := hA x List.mem_cons_self
        have hx2 : 1 ≤ x.2 ∧ x.2 ≤ 26 := by unfold okPt at hx; omega
        have ed : decF (x :: A) = nI x.2 :: decF A := by rw [decF]; unfold dec1; rw [if_neg (by omega), if_pos hx1]; rfl
        have hpos : (0 : Int32) < nI x.2 := nI_lt (a := 0) (by omega) (by omega)
        have et := turn_putA ah hpos (A := decF A) (B := decF B) (c1.2.imp id (fun hB0 b hb => by
          cases B with
          | nil => cases hb
          | cons y B =>
            obtain ⟨v, t, e1, e2⟩ := dec_head (l := B) (hB y List.mem_cons_self)
            rw [e1] at hb
            have : v = b := Option.some.inj hb
            rw [← this, e2]
            exact of_decide_eq_false hB0))
        rw [ed] at ho hl hl2 ⊢
        rw [List.length_cons] at hl hl2 hn
        obtain ⟨p1, p2, p3, p4⟩ := okP3 (v := nI x.2) ⟨x.2, hx2.1, hx2.2, rfl⟩
        have hoo : oldL (nI x.2 :: decF A) = oldL (decF A) := (cntP p1 p2 p3 p4.2 (decF A)).1
        rw [hoo] at ho
        obtain ⟨i1, i2⟩ := ih A B (addP x.2 CA) (addK 1 CB) (rA ++ [nI x.2]) (rB ++ List.replicate 1 0) (fun y hy => hA y (List.mem_cons_of_mem _ hy)) hB ho (Blt_P h1 hx2.1 hx2.2) (Blt_K h2 (by omega) (by omega)) (by omega) (by rw [List.length_append, List.length_singleton]; omega) (by rw [List.length_append, List.length_replicate]; omega)
        rw [et]
        rw [List.append_assoc] at i1 i2
        exact ⟨i1, i2⟩
    · rw [if_neg c1]
      by_cases c2 : putH B = true
      · rw [if_pos c2]
        cases B with
        | nil => exact absurd c2 (by decide)
        | cons y B =>
          have hy1 : y.1 = 1 := of_decide_eq_true c2
          have hy := hB y List.mem_cons_self
          have hy2 : 1 ≤ y.2 ∧ y.2 ≤ 26 := by unfold okPt at hy; omega
          have ed : decF (y :: B) = nI y.2 :: decF B := by rw [decF]; unfold dec1; rw [if_neg (by omega), if_pos hy1]; rfl
          have hpos : (0 : Int32) < nI y.2 := nI_lt (a := 0) (by omega) (by omega)
          have et := turn_putB ah hpos (A := decF A) (B := decF B) (fun a ha hh => c1 ⟨head_put hA ha hh.1, Or.inl hh.2⟩)
          rw [ed] at ho hl hl2 ⊢
          rw [List.length_cons] at hl hl2 hn
          obtain ⟨p1, p2, p3, p4⟩ := okP3 (v := nI y.2) ⟨y.2, hy2.1, hy2.2, rfl⟩
          have hoo : oldL (nI y.2 :: decF B) = oldL (decF B) := (cntP p1 p2 p3 p4.2 (decF B)).1
          rw [hoo] at ho
          obtain ⟨i1, i2⟩ := ih A B (addK 1 CA) (addP y.2 CB) (rA ++ List.replicate 1 0) (rB ++ [nI y.2]) hA (fun z hz => hB z (List.mem_cons_of_mem _ hz)) ho (Blt_K h1 (by omega) (by omega)) (Blt_P h2 hy2.1 hy2.2) (by omega) (by rw [List.length_append, List.length_replicate]; omega) (by rw [List.length_append, List.length_singleton]; omega)
          rw [et]
          rw [List.append_assoc] at i1 i2
          exact ⟨i1, i2⟩
      · rw [if_neg c2]
        cases A with
        | nil =>
          cases B with
          | nil => exact ih [] [] CA CB rA rB hA hB ho h1 h2 (by simp) hl hl2
          | cons y B =>
            exfalso
            have hy := hB y List.mem_cons_self
            have hy1 := putH_f c2
            have hm : 1 ≤ y.2 := by unfold okPt at hy; omega
            have e := dec_drop (m := y.2) (l := B) hy hy1 (Nat.le_refl _)
            rw [e, show (if y.1 = 0 then (0 : Int32) else -1) = kc y from rfl, oldL_rc (kc_le y).1] at ho
            have : oldL (decF ([] : List Pt)) = 0 := rfl
            omega
        | cons x A =>
          have hx := hA x List.mem_cons_self
          have hx1 : x.1 ≠ 1 := fun hh => c1 ⟨decide_eq_true hh, Or.inr (by cases hp : putH B with | false => rfl | true => exact absurd hp c2)⟩
          have hm1 : 1 ≤ x.2 := by unfold okPt at hx; omega
          cases B with
          | nil =>
            exfalso
            have e := dec_drop (m := x.2) (l := A) hx hx1 (Nat.le_refl _)
            rw [e, show (if x.1 = 0 then (0 : Int32) else -1) = kc x from rfl, oldL_rc (kc_le x).1] at ho
            have : oldL (decF ([] : List Pt)) = 0 := rfl
            omega
          | cons y B =>
            have hy := hB y List.mem_cons_self
            have hy1 := putH_f c2
            have hm2 : 1 ≤ y.2 := by unfold okPt at hy; omega
            dsimp only
            generalize hmm : min x.2 y.2 = m
            have e1 := dec_drop (m := m) (l := A) hx hx1 (by omega)
            have e2 := dec_drop (m := m) (l := B) hy hy1 (by omega)
            rw [show (if x.1 = 0 then (0 : Int32) else -1) = kc x from rfl] at e1
            rw [show (if y.1 = 0 then (0 : Int32) else -1) = kc y from rfl] at e2
            have hlA : (decF (x :: A)).length = m + (decF (dropP m (x :: A))).length := by rw [e1, List.length_append, List.length_replicate]
            have hlB : (decF (y :: B)).length = m + (decF (dropP m (y :: B))).length := by rw [e2, List.length_append, List.length_replicate]
            rw [e1, e2, oldL_rc (kc_le x).1, oldL_rc (kc_le y).1] at ho
            have hb1 := Blt_com (x := x) (y := y) h1 (by omega) (by omega)
            have hb2 := Blt_com (x := y) (y := x) h2 (by omega) (by rw [Nat.min_comm]; omega)
            rw [Nat.min_comm y.2 x.2] at hb2
            rw [hmm] at hb1 hb2
            have d1 := dropP_len (m := m) (x := x) (l := A)
            have d2 := dropP_len (m := m) (x := y) (l := B)
            have hdl : (dropP m (x :: A)).length + (dropP m (y :: B)).length ≤ n := by
              rw [List.length_cons] at d1 d2 hn
              rw [List.length_cons] at hn
              rcases Nat.le_total x.2 y.2 with hxy | hxy
              · have := d1.2 (by omega); omega
              · have := d2.2 (by omega); omega
            have lA : ∀ (c : Prop) [Decidable c] (v : Int32), (if c then List.replicate m v else []).length ≤ m := fun c _ v => by split <;> simp
            obtain ⟨i1, i2⟩ := ih (dropP m (x :: A)) (dropP m (y :: B)) (comA x y CA) (comA y x CB) _ _ (dropP_ok hA) (dropP_ok hB) (by omega) hb1 hb2 hdl (by rw [List.length_append]; have := lA (kc y = 0) (kc x); omega) (by rw [List.length_append]; have := lA (kc x = 0) (kc y); omega)
            rw [e1, e2, turn_run ah (kc_le x).2.1 (kc_le y).2.1]
            rw [List.append_assoc] at i1 i2
            exact ⟨i1, i2⟩
