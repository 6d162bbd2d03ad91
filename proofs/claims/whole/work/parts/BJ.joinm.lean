/-! ===== PART II, the class: one operation behind another in memory ===== -/
def BJ (LA : Nat) (A B C : List Pt) : Prop := C.length + A.length + B.length ≤ LA ∧ (decR C).length + (decF A).length + (decF B).length < 100000
noncomputable def blkP (S : CS) (h : Nat) : Option CS := (gr S 9 h 2).bind fun a8 => (gr S 9 h 1).bind fun a9 => (gi S 5 a9 2).bind fun v10 => (cal S 4 a8 (f4_addPut S a8 v10)).bind fun S11 => (gr S11 9 h 1).bind fun a12 => (cal S11 5 a12 (f5_pass S11 a12 1)).bind fun S13 => some S13
noncomputable def blkC (S : CS) (h : Nat) : Option CS := (gr S 9 h 2).bind fun a14 => (gr S 9 h 0).bind fun a15 => (gi S 5 a15 3).bind fun v16 => (cal S 4 a14 (f4_addCut S a14 v16)).bind fun S17 => (gr S17 9 h 0).bind fun a18 => (gr S17 9 h 0).bind fun a19 => (gi S17 5 a19 3).bind fun v20 => (cal S17 5 a18 (f5_pass S17 a18 v20)).bind fun S21 => some S21
noncomputable def cbody (S : CS) (h : Nat) : Option CS := (gr S 9 h 0).bind fun a1 => (cal S 5 a1 (f5_isAtCut S a1)).bind fun v2 => (if v2 = 0 then (gr S 9 h 1).bind fun a5 => (cal S 5 a5 (f5_isAtPut S a5)).bind fun v6 => if v6 = 0 then (cal S 9 h (f9_composeCommon S h)).bind fun S7 => some S7 else blkP S h else blkC S h)
theorem cloop_eq (h c1 : Nat) (c3 : Int32) (n : Nat) (i : Int32) (S : CS) : LX9_compose_37 h c1 c3 (n + 1) i S = if c3 ≤ i then some S else (cbody S h).bind fun S3 => LX9_compose_37 h c1 c3 n (i + 1) S3 := by
  conv => lhs; unfold LX9_compose_37
  by_cases h0 : c3 ≤ i
  · rw [if_pos h0, if_pos h0]
  · rw [if_neg h0, if_neg h0]
    unfold cbody blkP blkC
    rw [Option.bind_assoc]
    congr 1
    funext a1
    rw [Option.bind_assoc]
theorem joinP_com {d : Nat} {A B C : List Pt} (ha : cutH A = false) (hbb : putH B = false) : joinP (d + 1) A B C = match A, B with
      | x :: A', y :: B' => joinP d (dropC (min (cntP2 x) y.2) (x :: A')) (dropC (min (cntP2 x) y.2) (y :: B')) (comJ x y C)
      | [], B => joinP d [] B C
      | x :: A', [] => joinP d (x :: A') [] C := by
  conv => lhs; unfold joinP
  rw [if_neg (by rw [ha]; decide), if_neg (by rw [hbb]; decide)]
  cases A with
  | nil => rfl
  | cons x A => cases B with
    | nil => rfl
    | cons y B => rfl
theorem dropC_len {m : Nat} {x : Pt} {l : List Pt} : (dropC m (x :: l)).length ≤ (x :: l).length ∧ (cntP2 x ≤ m → (dropC m (x :: l)).length = l.length) := by
  rw [show dropC m (x :: l) = if cntP2 x ≤ m then l else (x.1, x.2 - m) :: l from rfl]
  constructor
  · split <;> simp
  · intro h; rw [if_pos h]
theorem dropC_dec {m : Nat} {x : Pt} {l : List Pt} (h : okPt x) (hm : m ≤ cntP2 x) (h1 : 1 ≤ m) : (decF (x :: l)).length = m + (decF (dropC m (x :: l))).length := by
  by_cases hx : x.1 = 1
  · have hd := dec_len (l := l) h
    rw [if_pos hx] at hd
    rw [dropC_put hx h1]
    unfold cntP2 at hm
    rw [if_pos hx] at hm
    omega
  · rw [dropC_P hx, dec_drop (m := m) h hx (by unfold cntP2 at hm; rw [if_neg hx] at hm; exact hm), List.length_append, List.length_replicate]
section JM
variable {z : Nat} {S : CS} {g p q : Nat} {RA RB A B CA CB : List Pt}
theorem sjP {y : Pt} (h : TS S g p q RA RB A (y :: B) CA CB) (hy : y.1 = 1) {LA : Nat} (hb : BJ LA A (y :: B) CA) (hA : lenO S (g + 7) = LA) : TR z S g p q RA RB A B (addP y.2 CA) CB (blkP S g) ∧ BJ LA A B (addP y.2 CA) := by
  obtain ⟨g0, g1, g2, g3⟩ := TS_g h
  obtain ⟨hok, hl, hp⟩ := rd_part h.2.2.2.1
  have hy2 : 1 ≤ y.2 ∧ y.2 ≤ 26 := by unfold okPt at hok; omega
  obtain ⟨b1, b2⟩ := hb
  have hdl := dec_len (l := B) hok
  rw [if_pos hy] at hdl
  rw [List.length_cons] at b1
  have ec : cntP2 y = 1 := by unfold cntP2; rw [if_pos hy]
  constructor
  · unfold blkP
    rw [g2, Option.bind_some, g1, Option.bind_some, hp hy, Option.bind_some]
    refine TR_bind (TS_pA h hy2.1 hy2.2 (by omega)) (fun S1 _ t1 l1 l2 => ?_)
    rw [(TS_g t1).2.1, Option.bind_some]
    have := TS_rB (z := z) t1 (m := 1) (Nat.le_refl 1) (by omega)
    rw [dropC_put hy (Nat.le_refl 1)] at this
    exact TR_some this
  · have e1 := addP_len y.2 CA
    have e3 := decR_addPl y.2 CA
    exact ⟨by omega, by omega⟩
theorem sjC {x : Pt} (h : TS S g p q RA RB (x :: A) B CA CB) (hx : x.1 = 2) {LA : Nat} (hb : BJ LA (x :: A) B CA) (hA : lenO S (g + 7) = LA) : TR z S g p q RA RB A B (addC x.2 CA) CB (blkC S g) ∧ BJ LA A B (addC x.2 CA) := by
  obtain ⟨g0, g1, g2, g3⟩ := TS_g h
  obtain ⟨hok, hl, hp⟩ := rd_part h.2.2.1
  have hx2 : 1 ≤ x.2 ∧ x.2 ≤ 100000 := by unfold okPt at hok; omega
  obtain ⟨b1, b2⟩ := hb
  have hdl := dec_len (l := A) hok
  rw [if_neg (by omega)] at hdl
  rw [List.length_cons] at b1
  have ec : cntP2 x = x.2 := by unfold cntP2; rw [if_neg (by omega)]
  rw [ec] at hl
  constructor
  · unfold blkC
    rw [g2, Option.bind_some, g0, Option.bind_some, hl, Option.bind_some]
    refine TR_bind (TS_cA h hx2.1 (by omega) (by omega)) (fun S1 _ t1 l1 l2 => ?_)
    obtain ⟨_, hl1, _⟩ := rd_part t1.2.2.1
    rw [ec] at hl1
    rw [(TS_g t1).1, Option.bind_some, Option.bind_some, hl1, Option.bind_some]
    have := TS_rA (z := z) t1 (m := x.2) (by omega) (by omega)
    rw [show dropC x.2 (x :: A) = A from by show (if cntP2 x ≤ x.2 then A else (x.1, x.2 - x.2) :: A) = A; rw [if_pos (by omega)]] at this
    exact TR_some this
  · have e1 := addC_len x.2 CA
    have e3 : (decR (addC x.2 CA)).length = (decR CA).length + x.2 := by rw [decR_addC, List.length_append, List.length_replicate]
    exact ⟨by omega, by omega⟩
theorem sjM {x y : Pt} (h : TS S g p q RA RB (x :: A) (y :: B) CA CB) (hx : x.1 ≠ 2) (hy : y.1 ≠ 1) {LA : Nat} (hb : BJ LA (x :: A) (y :: B) CA) (hA : lenO S (g + 7) = LA) : TR z S g p q RA RB (dropC (min (cntP2 x) y.2) (x :: A)) (dropC (min (cntP2 x) y.2) (y :: B)) (comJ x y CA) CB (f9_composeCommon S g) ∧ BJ LA (dropC (min (cntP2 x) y.2) (x :: A)) (dropC (min (cntP2 x) y.2) (y :: B)) (comJ x y CA) := by
  obtain ⟨g0, g1, g2, g3⟩ := TS_g h
  obtain ⟨okx, hlx, hpx⟩ := rd_part h.2.2.1
  obtain ⟨oky, hly, _⟩ := rd_part h.2.2.2.1
  have ecy : cntP2 y = y.2 := by unfold cntP2; rw [if_neg hy]
  rw [ecy] at hly
  have hx2 := cntP2_pos okx
  have hy2 : 1 ≤ y.2 ∧ y.2 ≤ 100000 := by unfold okPt at oky; omega
  have hcy := rd_cut h.2.2.2.1
  have hpa := rd_put h.2.2.1
  obtain ⟨b1, b2⟩ := hb
  have hlA := dropC_dec (m := min (cntP2 x) y.2) (l := A) okx (by omega) (by omega)
  have hlB := dropC_dec (m := min (cntP2 x) y.2) (l := B) oky (by omega) (by omega)
  have d1 := dropC_len (m := min (cntP2 x) y.2) (x := x) (l := A)
  have d2 := dropC_len (m := min (cntP2 x) y.2) (x := y) (l := B)
  rw [ecy] at d2
  have hdl : (dropC (min (cntP2 x) y.2) (x :: A)).length + (dropC (min (cntP2 x) y.2) (y :: B)).length + 1 ≤ (x :: A).length + (y :: B).length := by
    rw [List.length_cons] at d1 d2
    rw [List.length_cons, List.length_cons]
    rcases Nat.le_total (cntP2 x) y.2 with hxy | hxy
    · have := d1.2 (by omega); omega
    · have := d2.2 (by omega); omega
  rw [List.length_cons, List.length_cons] at b1
  rw [List.length_cons, List.length_cons] at hdl
  constructor
  · unfold f9_composeCommon
    rw [g0, Option.bind_some, hlx, Option.bind_some, g1, Option.bind_some, hly, Option.bind_some, nI_minI (by omega) (by omega), if_pos (z_lt (by omega) (by omega))]
    rw [Option.bind_some, hcy, Option.bind_some, Option.bind_some, hpa, Option.bind_some]
    simp only [bI0]
    have fin : ∀ (S9 : CS) (CA' CB' : List Pt), TS S9 g p q RA RB (x :: A) (y :: B) CA' CB' → TR z S9 g p q RA RB (dropC (min (cntP2 x) y.2) (x :: A)) (dropC (min (cntP2 x) y.2) (y :: B)) CA' CB' ((gr S9 9 g 0).bind fun a23 => (cal S9 5 a23 (f5_pass S9 a23 (nI (min (cntP2 x) y.2)))).bind fun S24 => (gr S24 9 g 1).bind fun a25 => (cal S24 5 a25 (f5_pass S24 a25 (nI (min (cntP2 x) y.2)))).bind fun S26 => some S26) := by
      intro S9 CA' CB' t
      rw [(TS_g t).1, Option.bind_some]
      refine TR_bind (TS_rA (z := z) t (m := min (cntP2 x) y.2) (by omega) (by omega)) (fun S24 _ t1 _ _ => ?_)
      rw [(TS_g t1).2.1, Option.bind_some]
      exact TR_some (TS_rB (z := z) t1 (m := min (cntP2 x) y.2) (by omega) (by omega))
    have hxp : (putH (x :: A) = false) ↔ x.1 ≠ 1 := by show decide (x.1 = 1) = false ↔ _; rw [decide_eq_false_iff_not]
    have hyc : (cutH (y :: B) = false) ↔ y.1 ≠ 2 := by show decide (y.1 = 2) = false ↔ _; rw [decide_eq_false_iff_not]
    unfold comJ
    by_cases c1 : x.1 = 1
    · have hx26 : 1 ≤ x.2 ∧ x.2 ≤ 26 := by unfold okPt at okx; omega
      rw [if_neg (fun hh => hxp.mp hh c1), if_pos c1, if_pos c1]
      by_cases c2 : y.1 = 2
      · rw [if_neg (fun hh => hyc.mp hh c2), if_pos c2]
        exact TR_bind (TR_end h) (fun S9 _ t _ _ => fin S9 _ _ t)
      · rw [if_pos (hyc.mpr c2), if_neg c2, g2, Option.bind_some, Option.bind_some, hpx c1, Option.bind_some]
        exact TR_bind (TR_some (TS_pA h hx26.1 hx26.2 (by omega))) (fun S9 _ t _ _ => fin S9 _ _ t)
    · rw [if_pos (hxp.mpr c1), if_neg c1, if_neg c1]
      by_cases c2 : y.1 = 2
      · rw [if_neg (fun hh => hyc.mp hh c2), if_pos c2, g2, Option.bind_some]
        exact TR_bind (TR_some (TS_cA h (by omega) (by omega) (by omega))) (fun S9 _ t _ _ => fin S9 _ _ t)
      · rw [if_pos (hyc.mpr c2), if_neg c2, g2, Option.bind_some]
        exact TR_bind (TR_some (TS_kA h (by omega) (by omega) (by omega))) (fun S9 _ t _ _ => fin S9 _ _ t)
  · have q : (comJ x y CA).length ≤ CA.length + 1 ∧ (decR (comJ x y CA)).length ≤ (decR CA).length + min (cntP2 x) y.2 := by
      unfold comJ
      have e1 := addK_len (min (cntP2 x) y.2) CA
      have e2 := addC_len (min (cntP2 x) y.2) CA
      have e3 := addP_len x.2 CA
      have e4 := decR_addPl x.2 CA
      split
      · split
        · omega
        · rw [decR_addC, List.length_append, List.length_replicate]; omega
      · split
        · omega
        · rw [decR_addK, List.length_append, List.length_replicate]; omega
    exact ⟨by omega, by omega⟩
theorem sjN (h : TS S g p q RA RB A B CA CB) (he : A = [] ∨ B = []) : f9_composeCommon S g = some S := by
  obtain ⟨g0, g1, g2, g3⟩ := TS_g h
  unfold f9_composeCommon
  have hv : ∀ (gg o : Nat) (R L : List Pt), RdR S gg o R L → ∃ n, n ≤ 100000 ∧ gi S 5 gg 3 = some (nI n) ∧ (L = [] → n = 0) := by
    intro gg o R L hD
    cases L with
    | nil => exact ⟨0, by omega, rd_nil hD, fun _ => rfl⟩
    | cons x L =>
      obtain ⟨q1, q2, _⟩ := rd_part hD
      exact ⟨cntP2 x, (cntP2_pos q1).2, q2, fun hh => by cases hh⟩
  obtain ⟨n1, a1, a2, a3⟩ := hv _ _ _ _ h.2.2.1
  obtain ⟨n2, b1, b2, b3⟩ := hv _ _ _ _ h.2.2.2.1
  rw [g0, Option.bind_some, a2, Option.bind_some, g1, Option.bind_some, b2, Option.bind_some, nI_minI (by omega) (by omega)]
  have : min n1 n2 = 0 := by
    rcases he with he | he
    · rw [a3 he]; omega
    · rw [b3 he]; omega
  rw [this, if_neg (by decide)]
theorem cstep (h : TS S g p q RA RB A B CA CB) {LA : Nat} (hb : BJ LA A B CA) (hA : lenO S (g + 7) = LA) :
    ∃ A1 B1 CA1, TR z S g p q RA RB A1 B1 CA1 CB (cbody S g) ∧ BJ LA A1 B1 CA1 ∧ ∀ d, joinP (d + 1) A B CA = joinP d A1 B1 CA1 := by
  obtain ⟨g0, g1, g2, g3⟩ := TS_g h
  have hpa := rd_cut h.2.2.1
  have hpb := rd_put h.2.2.2.1
  have k9 : kd S g = 9 := h.2.1.1
  unfold cbody
  rw [g0, Option.bind_some, hpa, Option.bind_some, g1, Option.bind_some, hpb, Option.bind_some]
  simp only [bI0, cal_k k9]
  cases ha : cutH A with
  | true =>
    rw [if_neg (by decide)]
    cases A with
    | nil => exact absurd ha (by decide)
    | cons x A =>
      obtain ⟨r1, r2⟩ := sjC (z := z) h (of_decide_eq_true ha) hb hA
      refine ⟨_, _, _, r1, r2, fun d => ?_⟩
      conv => lhs; unfold joinP
      rw [if_pos ha]
      rfl
  | false =>
    rw [if_pos rfl]
    cases hbb : putH B with
    | true =>
      rw [if_neg (by decide)]
      cases B with
      | nil => exact absurd hbb (by decide)
      | cons y B =>
        obtain ⟨r1, r2⟩ := sjP (z := z) h (of_decide_eq_true hbb) hb hA
        refine ⟨_, _, _, r1, r2, fun d => ?_⟩
        conv => lhs; unfold joinP
        rw [if_neg (by rw [ha]; decide), if_pos hbb]
        rfl
    | false =>
      rw [if_pos rfl]
      have tp := fun d => joinP_com (d := d) (A := A) (B := B) (C := CA) ha hbb
      cases A with
      | nil => exact ⟨[], B, CA, by rw [sjN h (Or.inl rfl)]; exact TR_end h, hb, fun d => by rw [tp d]⟩
      | cons x A =>
        cases B with
        | nil => exact ⟨x :: A, [], CA, by rw [sjN h (Or.inr rfl)]; exact TR_end h, hb, fun d => by rw [tp d]⟩
        | cons y B =>
          obtain ⟨r1, r2⟩ := sjM (z := z) h (of_decide_eq_false ha) (of_decide_eq_false hbb) hb hA
          exact ⟨_, _, _, TR_some r1, r2, fun d => by rw [tp d]⟩
theorem cloop {LA most : Nat} (hm : most < 100000) : ∀ (d i n : Nat) (S : CS) (A B CA : List Pt), i + d = most → d < n → TS S g p q RA RB A B CA CB → BJ LA A B CA → lenO S (g + 7) = LA →
    ∃ A' B', TR z S g p q RA RB A' B' (joinP d A B CA) CB (LX9_compose_37 g p (nI most) n (nI i) S) := by
  intro d
  induction d with
  | zero =>
    intro i n S A B CA hi hn h hb hA
    obtain ⟨n, rfl⟩ : ∃ k, n = k + 1 := ⟨n - 1, by omega⟩
    rw [cloop_eq, if_pos (nI_le (by omega) (by omega))]
    exact ⟨A, B, TR_end h⟩
  | succ d ih =>
    intro i n S A B CA hi hn h hb hA
    obtain ⟨n, rfl⟩ : ∃ k, n = k + 1 := ⟨n - 1, by omega⟩
    rw [cloop_eq, if_neg (nI_ge (by omega) (by omega)), nI_1]
    obtain ⟨A1, B1, CA1, r1, r2, r3⟩ := cstep (z := z) h hb hA
    rw [r3 d]
    obtain ⟨S1, e1, t1, l1, l2, s1⟩ := r1
    obtain ⟨A', B', S2, e2, t2, l3, l4, s2⟩ := ih (i + 1) n S1 A1 B1 CA1 (by omega) (by omega) t1 r2 (l1.trans hA)
    exact ⟨A', B', S2, by rw [e1]; exact e2, t2, l3.trans l1, l4.trans l2, Sg_trans s1 s2⟩
end JM
/-- the first one becomes what both do; outB holds some operation -/
theorem compose_L {z : Nat} {X : Nat × Nat} {S : CS} {g p q c : Nat} {A B : List Int32} (hW : Wf S) (hR : Rm z X c S) (hw : Wv S g) (hg1 : grw z (g + 7)) (hwp : wt z p = wt z (g + 7)) (hp : OpL S p A) (hq : OpL S q B) (hob : ∃ l, OpL S (g + 9) l) (hpq : p ≠ q) (hne : p ≠ g + 7 ∧ p ≠ g + 9 ∧ q ≠ g + 7 ∧ q ≠ g + 9) (ho : newL A = oldL B) (hlA : A.length ≤ 400) (hlB : B.length ≤ 400) :
    ∃ S', f9_compose X S g p q = some S' ∧ OpL S' p (joinC A B) ∧ Sg z (fun x => x = p ∨ Hw g x) 0 S S' ∧ (∃ l, OpL S' (g + 9) l) := by
  obtain ⟨RA, hpR, dA⟩ := hp
  obtain ⟨RB, hqR, dB⟩ := hq
  obtain ⟨lb, RC, hob, dC⟩ := hob
  have lA := len_dec hpR.1
  have lB := len_dec hqR.1
  rw [dA] at lA
  rw [dB] at lB
  obtain ⟨w1, w2, w3, w4, w5, w6, w7, w8, w9, wa, wb, wc, wd⟩ := id hw
  obtain ⟨_, aA, hA⟩ := id hpR
  obtain ⟨_, aB, hB⟩ := id hqR
  unfold f9_compose
  rw [OpA_gi hA, Option.bind_some, OpA_gi hB, Option.bind_some, gr_k w1 w4, Option.bind_some, cal_k wa, nI_add]
  generalize hm : RA.length + RB.length = most
  obtain ⟨S2, e1, oA2, ⟨m1, m1'⟩, s2⟩ := begin_R (m := most) hW hR hg1 wa (by omega)
  rw [e1, Option.bind_some]
  have v2 := Wv_Sg hW hw s2
  have p2 := OpR_Fo hW hpR s2.2.1 hne.1
  have q2 := OpR_Fo hW hqR s2.2.1 hne.2.2.1
  have o2 := OpR_Fo hW hob s2.2.1 (show ¬ g + 9 = g + 7 by omega)
  rw [gr_k v2.1 v2.2.1, Option.bind_some, cal_k v2.2.2.2.2.2.2.2.1]
  obtain ⟨S3, e3, o3, s3⟩ := open_R (z := z) s2.1 v2.2.2.2.2.2.2.2.1 p2
  rw [e3, Option.bind_some]
  have v3 := Wv_Sg s2.1 v2 s3
  have n1 : ∀ x, kd S2 x = 4 → ¬ x = g + 1 := fun x hx e => by rw [e, v2.2.2.2.2.2.2.2.1] at hx; omega
  have p3 := OpR_Fo s2.1 p2 s3.2.1 (n1 p (OpR_kd p2))
  have q3 := OpR_Fo s2.1 q2 s3.2.1 (n1 q (OpR_kd q2))
  have oA3 := OpR_Fo s2.1 oA2 s3.2.1 (show ¬ g + 7 = g + 1 by omega)
  have oB3 := OpR_Fo s2.1 o2 s3.2.1 (show ¬ g + 9 = g + 1 by omega)
  have lA3 : lenO S3 (g + 7) = lenO S2 (g + 7) := lenO_Fo s2.1 (OpR_kd oA2) s3.2.1 (show ¬ g + 7 = g + 1 by omega)
  rw [gr_k v3.1 v3.2.2.1, Option.bind_some, cal_k v3.2.2.2.2.2.2.2.2.1]
  obtain ⟨S4, e4, o4, s4⟩ := open_R (z := z) s3.1 v3.2.2.2.2.2.2.2.2.1 q3
  rw [e4, Option.bind_some]
  have v4 := Wv_Sg s3.1 v3 s4
  have n2 : ∀ x, kd S3 x = 4 → ¬ x = g + 4 := fun x hx e => by rw [e, v3.2.2.2.2.2.2.2.2.1] at hx; omega
  have t4 : TS S4 g p q RA RB RA.reverse RB.reverse [] RC := ⟨s4.1, v4, RdR_Fo o3 s4.2.1 (show ¬ g + 1 = g + 4 by omega), o4, OpR_Fo s3.1 p3 s4.2.1 (n2 p (OpR_kd p3)), OpR_Fo s3.1 q3 s4.2.1 (n2 q (OpR_kd q3)), OpR_Fo s3.1 oA3 s4.2.1 (show ¬ g + 7 = g + 4 by omega), OpR_Fo s3.1 oB3 s4.2.1 (show ¬ g + 9 = g + 4 by omega), hne⟩
  have lA4 : lenO S4 (g + 7) = lenO S3 (g + 7) := lenO_Fo s3.1 (OpR_kd oA3) s4.2.1 (show ¬ g + 7 = g + 4 by omega)
  have dFA : decF RA.reverse = A := by rw [decF_R, dA]
  have dFB : decF RB.reverse = B := by rw [decF_R, dB]
  have hbn : BJ (lenO S4 (g + 7)) RA.reverse RB.reverse [] := by
    refine ⟨?_, ?_⟩
    · rw [List.length_reverse, List.length_reverse, List.length_nil]; omega
    · rw [dFA, dFB]; show 0 + A.length + B.length < 100000; omega
  have hFU := FU_gt
  obtain ⟨A', B', S5, e5, t5', l5, l5', s5⟩ := cloop (z := z) (most := most) (by omega) most 0 FU S4 _ _ _ (by omega) (by omega) t4 hbn rfl
  rw [show (0 : Int32) = nI 0 from rfl, e5, Option.bind_some]
  have hT := joinP_ok most RA.reverse RB.reverse [] [] (fun x hx => CanR_ok hpR.1 x (List.mem_reverse.mp hx)) (fun x hx => CanR_ok hqR.1 x (List.mem_reverse.mp hx)) (by rw [dFA, dFB]; exact ho) Blt_nil (by rw [List.length_reverse, List.length_reverse]; omega) (by rw [dFA, dFB]; show 0 + A.length + B.length ≤ 100000; omega)
  rw [dFA, dFB, List.nil_append] at hT
  obtain ⟨x1, x2, x3, x4, x5, x6, x7, x8, x9⟩ := t5'
  have hs5 := Sg_trans (Sg_trans (Sg_trans (Sg_mono hW s2 (H' := fun x => x = p ∨ Hw g x) (fun x hx => Or.inr (Or.inr (Or.inr (Or.inl hx)))) (Nat.le_refl 0)) (Sg_mono s2.1 s3 (H' := fun x => x = p ∨ Hw g x) (fun x hx => Or.inr (Or.inl hx)) (Nat.le_refl 0))) (Sg_mono s3.1 s4 (H' := fun x => x = p ∨ Hw g x) (fun x hx => Or.inr (Or.inr (Or.inl hx))) (Nat.le_refl 0))) (Sg_mono s4.1 s5 (H' := fun x => x = p ∨ Hw g x) (fun x hx => Or.inr hx) (Nat.le_refl 0))
  rw [gr_k x2.1 x2.2.2.2.1, Option.bind_some, cal_k (OpR_kd x5)]
  obtain ⟨S6, e6, a6, b6, l6, l6', s6⟩ := swap_R (z := z) x1 x5 x7 hne.1 hwp
  rw [e6, Option.bind_some]
  have o6 := OpR_Fo x1 x8 s6.2.1 (fun hh => hh.elim (fun e => hne.2.1 e.symm) (fun e => by omega))
  refine ⟨S6, rfl, ⟨_, a6, hT.2⟩, ?_, ⟨_, _, o6, rfl⟩⟩
  refine Sg_trans hs5 (Sg_mono x1 s6 (fun x hx => ?_) (Nat.le_refl 0))
  exact hx.elim Or.inl (fun e => Or.inr (Or.inr (Or.inr (Or.inl e))))
