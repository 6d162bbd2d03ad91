/-! ===== PART II, the class: one operation over another in memory ===== -/
theorem bI0 (b : Bool) : (bI b = 0) = (b = false) := by cases b <;> simp [bI]
theorem decR_addPl (w : Nat) (R : List Pt) : (decR (addP w R)).length = (decR R).length + 1 := by
  unfold addP
  cases R with
  | nil => simp [decR, dec1]
  | cons x r =>
    dsimp only
    split
    · rw [decR, decR, decR, List.length_append, List.length_append, List.length_append]
      have : (dec1 (1, w)).length = 1 := rfl
      omega
    · rw [decR, List.length_append]
      have : (dec1 (1, w)).length = 1 := rfl
      omega
/-- so much is left of the room -/
def BN (LA LB : Nat) (A B CA CB : List Pt) : Prop := CA.length + A.length + B.length ≤ LA ∧ CB.length + A.length + B.length ≤ LB ∧ (decR CA).length + (decF A).length + (decF B).length < 100000 ∧ (decR CB).length + (decF A).length + (decF B).length < 100000
noncomputable def blkA (S : CS) (h : Nat) : Option CS := (gr S 9 h 2).bind fun a => (gr S 9 h 0).bind fun b => (gi S 5 b 2).bind fun v => (cal S 4 a (f4_addPut S a v)).bind fun S1 => (gr S1 9 h 3).bind fun c => (cal S1 4 c (f4_addKeep S1 c 1)).bind fun S2 => (gr S2 9 h 0).bind fun d => (cal S2 5 d (f5_pass S2 d 1)).bind fun S3 => some S3
noncomputable def blkB (S : CS) (h : Nat) : Option CS := (gr S 9 h 3).bind fun a => (gr S 9 h 1).bind fun b => (gi S 5 b 2).bind fun v => (cal S 4 a (f4_addPut S a v)).bind fun S1 => (gr S1 9 h 2).bind fun c => (cal S1 4 c (f4_addKeep S1 c 1)).bind fun S2 => (gr S2 9 h 1).bind fun d => (cal S2 5 d (f5_pass S2 d 1)).bind fun S3 => some S3
noncomputable def tbody (S : CS) (h : Nat) (c3 : Int32) : Option CS := (gr S 9 h 0).bind fun a1 => (cal S 5 a1 (f5_isAtPut S a1)).bind fun v2 => (if v2 = 0 then (gr S 9 h 1).bind fun a5 => (cal S 5 a5 (f5_isAtPut S a5)).bind fun v6 => if v6 = 0 then (cal S 9 h (f9_turnCommon S h)).bind fun S7 => some S7 else blkB S h else if c3 = 0 then (gr S 9 h 1).bind fun a24 => (cal S 5 a24 (f5_isAtPut S a24)).bind fun v25 => if v25 = 0 then blkA S h else (gr S 9 h 1).bind fun a26 => (cal S 5 a26 (f5_isAtPut S a26)).bind fun v27 => if v27 = 0 then (cal S 9 h (f9_turnCommon S h)).bind fun S28 => some S28 else blkB S h else blkA S h)
theorem tloop_eq (h c1 c2 : Nat) (c3 c4 : Int32) (n : Nat) (i : Int32) (S : CS) : LX9_turn_48 h c1 c2 c3 c4 (n + 1) i S = if c4 ≤ i then some S else (tbody S h c3).bind fun S3 => LX9_turn_48 h c1 c2 c3 c4 n (i + 1) S3 := by
  conv => lhs; unfold LX9_turn_48
  by_cases h0 : c4 ≤ i
  · rw [if_pos h0, if_pos h0]
  · rw [if_neg h0, if_neg h0]
    unfold tbody blkA blkB
    rw [Option.bind_assoc]
    congr 1
    funext a1
    rw [Option.bind_assoc]
theorem turnP_com {ah : Bool} {d : Nat} {A B CA CB : List Pt} (ha : putH A = false) (hbb : putH B = false) : turnP ah (d + 1) A B CA CB = match A, B with
      | x :: A', y :: B' => turnP ah d (dropP (min x.2 y.2) (x :: A')) (dropP (min x.2 y.2) (y :: B')) (comA x y CA) (comA y x CB)
      | [], B => turnP ah d [] B CA CB
      | x :: A', [] => turnP ah d (x :: A') [] CA CB := by
  conv => lhs; unfold turnP
  rw [if_neg (fun hh => by rw [ha] at hh; exact absurd hh.1 (by decide)), if_neg (by rw [hbb]; decide)]
  cases A with
  | nil => rfl
  | cons x A => cases B with
    | nil => rfl
    | cons y B => rfl
section TM
variable {z : Nat} {S : CS} {g p q : Nat} {RA RB A B CA CB : List Pt}
theorem stA {x : Pt} (h : TS S g p q RA RB (x :: A) B CA CB) (hx : x.1 = 1) {LA LB : Nat} (hb : BN LA LB (x :: A) B CA CB) (hA : lenO S (g + 7) = LA) (hB : lenO S (g + 9) = LB) : TR z S g p q RA RB A B (addP x.2 CA) (addK 1 CB) (blkA S g) ∧ BN LA LB A B (addP x.2 CA) (addK 1 CB) := by
  obtain ⟨g0, g1, g2, g3⟩ := TS_g h
  obtain ⟨hok, hl, hp⟩ := rd_part h.2.2.1
  have hx2 : 1 ≤ x.2 ∧ x.2 ≤ 26 := by unfold okPt at hok; omega
  obtain ⟨b1, b2, b3, b4⟩ := hb
  have hdl := dec_len (l := A) hok
  rw [if_pos hx] at hdl
  rw [List.length_cons] at b1 b2
  have ec : cntP2 x = 1 := by unfold cntP2; rw [if_pos hx]
  constructor
  · unfold blkA
    rw [g2, Option.bind_some, g0, Option.bind_some, hp hx, Option.bind_some]
    refine TR_bind (TS_pA h hx2.1 hx2.2 (by omega)) (fun S1 _ t1 l1 l2 => ?_)
    rw [(TS_g t1).2.2.2, Option.bind_some]
    refine TR_bind (TS_kB (n := 1) t1 (Nat.le_refl 1) (by omega) (by omega)) (fun S2 _ t2 l3 l4 => ?_)
    rw [(TS_g t2).1, Option.bind_some]
    have := TS_rA (z := z) t2 (m := 1) (Nat.le_refl 1) (by omega)
    rw [dropC_put hx (Nat.le_refl 1)] at this
    exact TR_some this
  · have e1 := addP_len x.2 CA
    have e2 := addK_len 1 CB
    have e3 := decR_addPl x.2 CA
    have e4 : (decR (addK 1 CB)).length = (decR CB).length + 1 := by rw [decR_addK, List.length_append, List.length_replicate]
    exact ⟨by omega, by omega, by omega, by omega⟩
theorem stB {y : Pt} (h : TS S g p q RA RB A (y :: B) CA CB) (hy : y.1 = 1) {LA LB : Nat} (hb : BN LA LB A (y :: B) CA CB) (hA : lenO S (g + 7) = LA) (hB : lenO S (g + 9) = LB) : TR z S g p q RA RB A B (addK 1 CA) (addP y.2 CB) (blkB S g) ∧ BN LA LB A B (addK 1 CA) (addP y.2 CB) := by
  obtain ⟨g0, g1, g2, g3⟩ := TS_g h
  obtain ⟨hok, hl, hp⟩ := rd_part h.2.2.2.1
  have hy2 : 1 ≤ y.2 ∧ y.2 ≤ 26 := by unfold okPt at hok; omega
  obtain ⟨b1, b2, b3, b4⟩ := hb
  have hdl := dec_len (l := B) hok
  rw [if_pos hy] at hdl
  rw [List.length_cons] at b1 b2
  have ec : cntP2 y = 1 := by unfold cntP2; rw [if_pos hy]
  constructor
  · unfold blkB
    rw [g3, Option.bind_some, g1, Option.bind_some, hp hy, Option.bind_some]
    refine TR_bind (TS_pB h hy2.1 hy2.2 (by omega)) (fun S1 _ t1 l1 l2 => ?_)
    rw [(TS_g t1).2.2.1, Option.bind_some]
    refine TR_bind (TS_kA (n := 1) t1 (Nat.le_refl 1) (by omega) (by omega)) (fun S2 _ t2 l3 l4 => ?_)
    rw [(TS_g t2).2.1, Option.bind_some]
    have := TS_rB (z := z) t2 (m := 1) (Nat.le_refl 1) (by omega)
    rw [dropC_put hy (Nat.le_refl 1)] at this
    exact TR_some this
  · have e1 := addP_len y.2 CB
    have e2 := addK_len 1 CA
    have e3 := decR_addPl y.2 CB
    have e4 : (decR (addK 1 CA)).length = (decR CA).length + 1 := by rw [decR_addK, List.length_append, List.length_replicate]
    exact ⟨by omega, by omega, by omega, by omega⟩
theorem nI_minI {a b : Nat} (ha : a < 2 ^ 31) (hb : b < 2 ^ 31) : (if nI b < nI a then nI b else nI a) = nI (min a b) := by
  by_cases h : b < a
  · rw [if_pos (nI_lt h ha), Nat.min_eq_right (by omega)]
  · rw [if_neg (nI_nlt (by omega) hb), Nat.min_eq_left (by omega)]
theorem stC {x y : Pt} (h : TS S g p q RA RB (x :: A) (y :: B) CA CB) (hx : x.1 ≠ 1) (hy : y.1 ≠ 1) {LA LB : Nat} (hb : BN LA LB (x :: A) (y :: B) CA CB) (hA : lenO S (g + 7) = LA) (hB : lenO S (g + 9) = LB) : TR z S g p q RA RB (dropP (min x.2 y.2) (x :: A)) (dropP (min x.2 y.2) (y :: B)) (comA x y CA) (comA y x CB) (f9_turnCommon S g) ∧ BN LA LB (dropP (min x.2 y.2) (x :: A)) (dropP (min x.2 y.2) (y :: B)) (comA x y CA) (comA y x CB) := by
  obtain ⟨g0, g1, g2, g3⟩ := TS_g h
  obtain ⟨okx, hlx, _⟩ := rd_part h.2.2.1
  obtain ⟨oky, hly, _⟩ := rd_part h.2.2.2.1
  have ecx : cntP2 x = x.2 := by unfold cntP2; rw [if_neg hx]
  have ecy : cntP2 y = y.2 := by unfold cntP2; rw [if_neg hy]
  rw [ecx] at hlx
  rw [ecy] at hly
  have hx2 : 1 ≤ x.2 ∧ x.2 ≤ 100000 := by unfold okPt at okx; omega
  have hy2 : 1 ≤ y.2 ∧ y.2 ≤ 100000 := by unfold okPt at oky; omega
  have hcx := rd_cut h.2.2.1
  have hcy := rd_cut h.2.2.2.1
  obtain ⟨b1, b2, b3, b4⟩ := hb
  have e1 := dec_drop (m := min x.2 y.2) (l := A) okx hx (by omega)
  have e2 := dec_drop (m := min x.2 y.2) (l := B) oky hy (by omega)
  have hlA : (decF (x :: A)).length = min x.2 y.2 + (decF (dropP (min x.2 y.2) (x :: A))).length := by rw [e1, List.length_append, List.length_replicate]
  have hlB : (decF (y :: B)).length = min x.2 y.2 + (decF (dropP (min x.2 y.2) (y :: B))).length := by rw [e2, List.length_append, List.length_replicate]
  have d1 := dropP_len (m := min x.2 y.2) (x := x) (l := A)
  have d2 := dropP_len (m := min x.2 y.2) (x := y) (l := B)
  have hdl : (dropP (min x.2 y.2) (x :: A)).length + (dropP (min x.2 y.2) (y :: B)).length + 1 ≤ (x :: A).length + (y :: B).length := by
    rw [List.length_cons] at d1 d2
    rw [List.length_cons, List.length_cons]
    rcases Nat.le_total x.2 y.2 with hxy | hxy
    · have := d1.2 (by omega); omega
    · have := d2.2 (by omega); omega
  rw [List.length_cons, List.length_cons] at b1 b2
  rw [List.length_cons, List.length_cons] at hdl
  have em : min y.2 x.2 = min x.2 y.2 := Nat.min_comm _ _
  constructor
  · unfold f9_turnCommon
    rw [g0, Option.bind_some, hlx, Option.bind_some, g1, Option.bind_some, hly, Option.bind_some, nI_minI (by omega) (by omega), if_pos (z_lt (by omega) (by omega))]
    rw [Option.bind_some, hcx, Option.bind_some, Option.bind_some, hcy, Option.bind_some]
    simp only [bI0]
    have fin : ∀ (S9 : CS) (CA' CB' : List Pt), TS S9 g p q RA RB (x :: A) (y :: B) CA' CB' → TR z S9 g p q RA RB (dropP (min x.2 y.2) (x :: A)) (dropP (min x.2 y.2) (y :: B)) CA' CB' ((gr S9 9 g 0).bind fun a23 => (cal S9 5 a23 (f5_pass S9 a23 (nI (min x.2 y.2)))).bind fun S24 => (gr S24 9 g 1).bind fun a25 => (cal S24 5 a25 (f5_pass S24 a25 (nI (min x.2 y.2)))).bind fun S26 => some S26) := by
      intro S9 CA' CB' t
      rw [(TS_g t).1, Option.bind_some]
      have p1 := TS_rA (z := z) t (m := min x.2 y.2) (by omega) (by omega)
      rw [dropC_P hx] at p1
      refine TR_bind p1 (fun S24 _ t1 _ _ => ?_)
      rw [(TS_g t1).2.1, Option.bind_some]
      have p2 := TS_rB (z := z) t1 (m := min x.2 y.2) (by omega) (by omega)
      rw [dropC_P hy] at p2
      exact TR_some p2
    have hxc : (cutH (x :: A) = false) ↔ x.1 ≠ 2 := by show decide (x.1 = 2) = false ↔ _; rw [decide_eq_false_iff_not]
    have hyc : (cutH (y :: B) = false) ↔ y.1 ≠ 2 := by show decide (y.1 = 2) = false ↔ _; rw [decide_eq_false_iff_not]
    unfold comA
    rw [em]
    by_cases c1 : x.1 = 2
    · rw [if_neg (fun hh => hxc.mp hh c1), if_neg (show ¬ x.1 = 0 by omega), if_neg (show ¬ x.1 = 0 by omega)]
      by_cases c2 : y.1 = 2
      · rw [if_neg (fun hh => hyc.mp hh c2), if_neg (fun hh => hxc.mp hh c1), if_neg (show ¬ y.1 = 0 by omega)]
        exact TR_bind (TR_end h) (fun S9 _ t _ _ => fin S9 _ _ t)
      · rw [if_pos (hyc.mpr c2), if_pos (show y.1 = 0 by unfold okPt at oky; omega), g2, Option.bind_some]
        exact TR_bind (TR_some (TS_cA h (by omega) (by omega) (by omega))) (fun S9 _ t _ _ => fin S9 _ _ t)
    · have cx0 : x.1 = 0 := by unfold okPt at okx; omega
      rw [if_pos (hxc.mpr c1), if_pos cx0, if_pos cx0]
      by_cases c2 : y.1 = 2
      · rw [if_neg (fun hh => hyc.mp hh c2), if_neg (fun hh => hyc.mp hh c2), if_pos (hxc.mpr c1), if_neg (show ¬ y.1 = 0 by omega), if_neg (show ¬ y.1 = 0 by omega), g3, Option.bind_some]
        exact TR_bind (TR_some (TS_cB h (by omega) (by omega) (by omega))) (fun S9 _ t _ _ => fin S9 _ _ t)
      · have cy0 : y.1 = 0 := by unfold okPt at oky; omega
        rw [if_pos (hyc.mpr c2), if_pos cy0, if_pos cy0, g2, Option.bind_some]
        refine TR_bind (TR_bind (TS_kA h (by omega) (by omega) (by omega)) (fun S20 _ t1 l1 l2 => ?_)) (fun S9 _ t _ _ => fin S9 _ _ t)
        rw [(TS_g t1).2.2.2, Option.bind_some]
        exact TR_some (TS_kB t1 (by omega) (by omega) (by omega))
  · have q : ∀ (u v : Pt) (C : List Pt), (comA u v C).length ≤ C.length + 1 ∧ (decR (comA u v C)).length ≤ (decR C).length + min u.2 v.2 := by
      intro u v C
      unfold comA
      have e1 := addK_len (min u.2 v.2) C
      have e2 := addC_len (min u.2 v.2) C
      split
      · split
        · rw [decR_addK, List.length_append, List.length_replicate]; omega
        · rw [decR_addC, List.length_append, List.length_replicate]; omega
      · omega
    have q1 := q x y CA
    have q2 := q y x CB
    rw [em] at q2
    exact ⟨by omega, by omega, by omega, by omega⟩
theorem stN (h : TS S g p q RA RB A B CA CB) (he : A = [] ∨ B = []) (hpA : putH A = false) (hpB : putH B = false) : f9_turnCommon S g = some S := by
  obtain ⟨g0, g1, g2, g3⟩ := TS_g h
  unfold f9_turnCommon
  have hv : ∀ (gg o : Nat) (R L : List Pt), RdR S gg o R L → ∃ n, n ≤ 100000 ∧ gi S 5 gg 3 = some (nI n) ∧ (L = [] → n = 0) := by
    intro gg o R L hD
    cases L with
    | nil => exact ⟨0, by omega, rd_nil hD, fun _ => rfl⟩
    | cons x L =>
      obtain ⟨q1, q2, _⟩ := rd_part hD
      exact ⟨cntP2 x, (cntP2_pos q1).2, q2, fun hh => by cases hh⟩
  obtain ⟨n1, a1, a2, a3⟩ := hv _ _ _ _ h.2.2.1
  obtain ⟨n2, b1, b2, b3⟩ := hv _ _ _ _ h.2.2.2.1
  rw [g0, Option.bind_some, a2, Option.bind_some, g1, Option.bind_some, b2, Option.bind_some, nI_minI (by omega) (by omega)]
  have : min n1 n2 = 0 := by
    rcases he with he | he
    · rw [a3 he]; omega
    · rw [b3 he]; omega
  rw [this, if_neg (by decide)]
theorem tstep (h : TS S g p q RA RB A B CA CB) (ah : Bool) {LA LB : Nat} (hb : BN LA LB A B CA CB) (hA : lenO S (g + 7) = LA) (hB : lenO S (g + 9) = LB) :
    ∃ A1 B1 CA1 CB1, TR z S g p q RA RB A1 B1 CA1 CB1 (tbody S g (bI ah)) ∧ BN LA LB A1 B1 CA1 CB1 ∧ ∀ d, turnP ah (d + 1) A B CA CB = turnP ah d A1 B1 CA1 CB1 := by
  obtain ⟨g0, g1, g2, g3⟩ := TS_g h
  have hpa := rd_put h.2.2.1
  have hpb := rd_put h.2.2.2.1
  have k9 : kd S g = 9 := h.2.1.1
  unfold tbody
  rw [g0, Option.bind_some, hpa, Option.bind_some, g1, Option.bind_some, Option.bind_some, hpb, Option.bind_some, Option.bind_some]
  simp only [bI0, cal_k k9]
  have com : putH A = false → putH B = false → ∃ A1 B1 CA1 CB1, TR z S g p q RA RB A1 B1 CA1 CB1 ((f9_turnCommon S g).bind fun S7 => some S7) ∧ BN LA LB A1 B1 CA1 CB1 ∧ ∀ d, turnP ah (d + 1) A B CA CB = turnP ah d A1 B1 CA1 CB1 := by
    intro ha hbb
    have tp := fun d => turnP_com (ah := ah) (d := d) (A := A) (B := B) (CA := CA) (CB := CB) ha hbb
    cases A with
    | nil => exact ⟨[], B, CA, CB, by rw [stN h (Or.inl rfl) ha hbb]; exact TR_end h, hb, fun d => by rw [tp d]⟩
    | cons x A =>
      cases B with
      | nil => exact ⟨x :: A, [], CA, CB, by rw [stN h (Or.inr rfl) ha hbb]; exact TR_end h, hb, fun d => by rw [tp d]⟩
      | cons y B =>
        obtain ⟨r1, r2⟩ := stC (z := z) h (of_decide_eq_false ha) (of_decide_eq_false hbb) hb hA hB
        exact ⟨_, _, _, _, TR_some r1, r2, fun d => by rw [tp d]⟩
  have pB : putH B = true → ¬ (putH A = true ∧ (ah = true ∨ putH B = false)) → ∃ A1 B1 CA1 CB1, TR z S g p q RA RB A1 B1 CA1 CB1 (blkB S g) ∧ BN LA LB A1 B1 CA1 CB1 ∧ ∀ d, turnP ah (d + 1) A B CA CB = turnP ah d A1 B1 CA1 CB1 := by
    intro hbb hna
    cases B with
    | nil => exact absurd hbb (by decide)
    | cons y B =>
      obtain ⟨r1, r2⟩ := stB (z := z) h (of_decide_eq_true hbb) hb hA hB
      refine ⟨_, _, _, _, r1, r2, fun d => ?_⟩
      conv => lhs; unfold turnP
      rw [if_neg hna, if_pos hbb]
      rfl
  have pA : putH A = true → (ah = true ∨ putH B = false) → ∃ A1 B1 CA1 CB1, TR z S g p q RA RB A1 B1 CA1 CB1 (blkA S g) ∧ BN LA LB A1 B1 CA1 CB1 ∧ ∀ d, turnP ah (d + 1) A B CA CB = turnP ah d A1 B1 CA1 CB1 := by
    intro ha hor
    cases A with
    | nil => exact absurd ha (by decide)
    | cons x A =>
      obtain ⟨r1, r2⟩ := stA (z := z) h (of_decide_eq_true ha) hb hA hB
      refine ⟨_, _, _, _, r1, r2, fun d => ?_⟩
      conv => lhs; unfold turnP
      rw [if_pos ⟨ha, hor⟩]
      rfl
  cases ha : putH A with
  | false =>
    rw [if_pos rfl]
    cases hbb : putH B with
    | false => rw [if_pos rfl]; exact com ha hbb
    | true => rw [if_neg (by decide)]; exact pB hbb (fun hh => by rw [ha] at hh; exact absurd hh.1 (by decide))
  | true =>
    rw [if_neg (by decide)]
    cases hah : ah with
    | true => subst hah; rw [if_neg (by decide)]; exact pA ha (Or.inl rfl)
    | false =>
      subst hah
      rw [if_pos rfl]
      cases hbb : putH B with
      | false => rw [if_pos rfl]; exact pA ha (Or.inr hbb)
      | true => rw [if_neg (by decide), if_neg (by decide)]; exact pB hbb (fun hh => by rw [hbb] at hh; exact hh.2.elim (fun h => absurd h (by decide)) (fun h => absurd h (by decide)))
theorem tloop {ah : Bool} {LA LB most : Nat} (hm : most < 100000) : ∀ (d i n : Nat) (S : CS) (A B CA CB : List Pt), i + d = most → d < n → TS S g p q RA RB A B CA CB → BN LA LB A B CA CB → lenO S (g + 7) = LA → lenO S (g + 9) = LB →
    ∃ A' B', TR z S g p q RA RB A' B' (turnP ah d A B CA CB).1 (turnP ah d A B CA CB).2 (LX9_turn_48 g p q (bI ah) (nI most) n (nI i) S) := by
  intro d
  induction d with
  | zero =>
    intro i n S A B CA CB hi hn h hb hA hB
    obtain ⟨n, rfl⟩ : ∃ k, n = k + 1 := ⟨n - 1, by omega⟩
    rw [tloop_eq, if_pos (nI_le (by omega) (by omega))]
    exact ⟨A, B, TR_end h⟩
  | succ d ih =>
    intro i n S A B CA CB hi hn h hb hA hB
    obtain ⟨n, rfl⟩ : ∃ k, n = k + 1 := ⟨n - 1, by omega⟩
    rw [tloop_eq, if_neg (nI_ge (by omega) (by omega)), nI_1]
    obtain ⟨A1, B1, CA1, CB1, r1, r2, r3⟩ := tstep (z := z) h ah hb hA hB
    rw [r3 d]
    obtain ⟨S1, e1, t1, l1, l2, s1⟩ := r1
    obtain ⟨A', B', S2, e2, t2, l3, l4, s2⟩ := ih (i + 1) n S1 A1 B1 CA1 CB1 (by omega) (by omega) t1 r2 (l1.trans hA) (l2.trans hB)
    exact ⟨A', B', S2, by rw [e1]; exact e2, t2, l3.trans l1, l4.trans l2, Sg_trans s1 s2⟩
end TM
