/-! ===== PART II, the class: a row of inverses is carried, copied ===== -/
abbrev Ht (g v : Nat) : Nat → Prop := fun x => (v + 2 ≤ x ∧ x ≤ v + 16) ∨ x = g + 14 ∨ Hw g x
/-- what the weights must be for the weaver g and a row of inverses v -/
def Cls (z g v : Nat) : Prop := grw z (g + 7) ∧ grw z (g + 9) ∧ wt z (g + 14) = wt z (g + 9) ∧ (∀ s, s ≤ 241 → cpc z (g + 14) s 0) ∧ (∀ h, v + 2 ≤ h → h ≤ v + 16 → wt z h = wt z (g + 7)) ∧ g + 16 ≤ v
theorem turnAll_loop {z : Nat} {X : Nat × Nat} {g v c : Nat} {hs : List Nat} {ah : Bool} (hc : Cls z g v) : ∀ (k : Nat) (s t : List (Nat × List Int32)) (n N : Nat) (B : List Int32) (S : CS), s.length = k → (s ++ t).length ≤ 8 → k < n → Wf S → Rm z X c S → Wv S g → InvS S v hs → InvO S hs (s ++ t) → OpL S (g + 14) B → chn s N → okO B → oldL B = N → N + putsS s + putsL B ≤ 240 → (∃ l, OpL S (g + 9) l) →
    ∃ S', LX9_turnAll_18 X g v (bI ah) n (nI k - 1) S = some S' ∧ InvO S' hs ((carS ah s B).1 ++ t) ∧ InvS S' v hs ∧ (∃ l, OpL S' (g + 9) l) ∧ Sg z (Ht g v) 0 S S' := by
  obtain ⟨w1, w2, w3, w4, w5, w6⟩ := hc
  intro k
  induction k with
  | zero =>
    intro s t n N B S hs0 hl hn hW hR hw hI hO hB hch hok ho hsum hob
    obtain ⟨n, rfl⟩ : ∃ j, n = j + 1 := ⟨n - 1, by omega⟩
    have : s = [] := List.length_eq_zero_iff.mp hs0
    subst this
    unfold LX9_turnAll_18
    rw [if_pos (by decide)]
    exact ⟨S, rfl, hO, hI, hob, Sg_refl hW⟩
  | succ k ih =>
    intro s t n N B S hs0 hl hn hW hR hw hI hO hB hch hok ho hsum hob
    obtain ⟨n, rfl⟩ : ∃ j, n = j + 1 := ⟨n - 1, by omega⟩
    obtain ⟨s, x, rfl⟩ : ∃ s' x, s = s' ++ [x] := by
      refine ⟨s.dropLast, s.getLast (by intro h; rw [h] at hs0; simp at hs0), ?_⟩
      exact (List.dropLast_concat_getLast _).symm
    rw [List.length_append, List.length_singleton] at hs0
    obtain ⟨c1, c2, c3⟩ := chn_snoc hch
    rw [putsS_app] at hsum
    simp only [putsS] at hsum
    have hlx := (cnt_len c1)
    have hlB := (cnt_len hok)
    rw [List.append_assoc, List.singleton_append] at hO hl
    rw [List.length_append, List.length_cons] at hl
    obtain ⟨h, d1, d2, d3⟩ := InvS_ld hI (i := k) (by omega)
    have hkx : (s ++ x :: t)[k]? = some x := by rw [List.getElem?_append_right (by omega), show k - s.length = 0 by omega]; rfl
    obtain ⟨h', q1, q2⟩ := hO k x hkx
    have : h' = h := Option.some.inj (q1.symm.trans d1)
    subst this
    unfold LX9_turnAll_18
    rw [nI_pred, if_neg (nI_pos (by omega)), gr_k hI.1.1 hI.1.2.1, Option.bind_some, d2, Option.bind_some, gr_k hw.1 hw.2.2.2.2.2.2.1, Option.bind_some, cal_k hw.1]
    obtain ⟨S1, e1, e2, e3, e4, _, e6⟩ := turn_L (z := z) (ah := ah) hW hR hw w1 w2 (w5 h' d3.1 d3.2.1) w3 q2 hB (by omega) ⟨by omega, by omega, by omega, by omega⟩ (by omega) (by omega) (by omega)
    obtain ⟨t1, t2, t3, t4, t5, t6, t7, t8, t9⟩ := turn_ok (ah := ah) c1 hok (by omega)
    rw [e1, Option.bind_some]
    have hne : ∀ i y, i ≠ k → (hs[i]? = some y) → ¬ (y = h' ∨ y = g + 14 ∨ Hw g y) := fun i y hi hy hh => by
      rcases hh with hh | hh
      · exact nd_ne hI.2.2.1 hy d1 hi hh
      · have := hI.2.2.2.1 y (List.mem_of_getElem? hy)
        rcases hh with hh | hh | hh | hh | hh <;> omega
    have s1 : Sg z (Ht g v) 0 S S1 := Sg_mono hW e4 (fun y hy => by
      rcases hy with hy | hy
      · exact Or.inl ⟨by omega, by omega⟩
      · exact Or.inr hy) (Nat.le_refl 0)
    have hO1 : InvO S1 hs (s ++ ((x.1, turnC ah x.2 B) :: t)) := by
      intro i y hy
      by_cases hi : i = k
      · subst hi
        rw [List.getElem?_append_right (by omega), show i - s.length = 0 by omega] at hy
        have : (x.1, turnC ah x.2 B) = y := Option.some.inj hy
        subst this
        exact ⟨h', d1, e2⟩
      · have hy' : (s ++ x :: t)[i]? = some y := by
          by_cases hlt : i < s.length
          · rw [List.getElem?_append_left hlt] at hy ⊢; exact hy
          · rw [List.getElem?_append_right (by omega)] at hy ⊢
            obtain ⟨m, hm⟩ : ∃ m, i - s.length = m + 1 := ⟨i - s.length - 1, by omega⟩
            rw [hm, List.getElem?_cons_succ] at hy ⊢
            exact hy
        obtain ⟨hh, r1, r2⟩ := hO i y hy'
        exact ⟨hh, r1, OpL_Fo hW r2 e4.2.1 (hne i hh hi r1)⟩
    have hI1 := InvS_Sg hW hI e4 (fun hh => by rcases hh with hh | hh | hh | hh | hh | hh <;> omega)
    obtain ⟨S2, g1, g2, g3, g4, g5⟩ := ih s ((x.1, turnC ah x.2 B) :: t) n (newL x.2) (turnD ah x.2 B) S1 (by omega) (by rw [List.length_append, List.length_cons]; omega) (by omega) e4.1 (Rm_step (c := 0) (d := c) (by rw [Nat.zero_add]; exact hR) e4) (Wv_Sg hW hw e4) hI1 hO1 e3 c3 t2 t4 (by omega) e6
    refine ⟨S2, ?_, ?_, g3, g4, Sg_trans s1 g5⟩
    · rw [show nI k + (-1 : Int32) = nI k - 1 by rw [Int32.sub_eq_add_neg]]; exact g1
    · rw [carS_snoc]
      simp only [List.append_assoc, List.singleton_append]
      exact g2
theorem InvL_of {S : CS} {v : Nat} {hs : List Nat} {s : List (Nat × List Int32)} (h1 : InvS S v hs) (h2 : cI S v 1 = nI s.length) (h3 : s.length ≤ 8) (h4 : InvO S hs s) : InvL S v s := ⟨hs, h1, h2, h3, h4⟩
/-- what comes is carried through a row of inverses -/
theorem turnAll_I {z : Nat} {X : Nat × Nat} {S : CS} {g v c N : Nat} {ah : Bool} {s : List (Nat × List Int32)} {B : List Int32} (hc : Cls z g v) (hW : Wf S) (hR : Rm z X c S) (hw : Wv S g) (hI : InvL S v s) (hB : OpL S (g + 12) B) (hch : chn s N) (hok : okO B) (ho : oldL B = N) (hsum : N + putsS s + putsL B ≤ 240) (hob : ∃ l, OpL S (g + 9) l) :
    ∃ S', f9_turnAll X S g v (bI ah) = some S' ∧ InvL S' v (carS ah s B).1 ∧ (∃ l, OpL S' (g + 9) l) ∧ Sg z (Ht g v) 0 S S' := by
  obtain ⟨w1, w2, w3, w4, w5, w6⟩ := id hc
  obtain ⟨R, hR12, dB⟩ := hB
  have lB := len_dec hR12.1
  have hlB := cnt_len hok
  rw [dB] at lB
  have k14 : kd S (g + 14) = 4 := hw.2.2.2.2.2.2.2.2.2.2.2.2
  unfold f9_turnAll
  rw [gr_k hw.1 hw.2.2.2.2.2.2.1, Option.bind_some, gr_k hw.1 hw.2.2.2.2.2.1, Option.bind_some, cal_k k14]
  obtain ⟨S1, e1, e2, e3⟩ := copy_R (z := z) hW hR k14 hR12 (by omega) (w4 R.length (by omega))
  have s1 : Sg z (fun x => x = g + 14) 0 S S1 := e3.elim (fun h => h.2) (fun h => h.2.2)
  rw [e1, Option.bind_some]
  obtain ⟨hs, i1, i2, i3, i4⟩ := hI
  have hw1 := Wv_Sg hW hw s1
  have i1' := InvS_Sg hW i1 s1 (show ¬ v + 1 = g + 14 by omega)
  have i4' := InvO_Fo hW i4 s1.2.1 (fun i h _ hh e => by have := i1.2.2.2.1 h (List.mem_of_getElem? hh); omega)
  have vz := kd_lt hW.1 i1.1.1 (by omega)
  have i2' : cI S1 v 1 = nI s.length := by rw [((s1.2.1.2.1 v vz).2.2.2 (show ¬ v = g + 14 by omega)).1]; exact i2
  obtain ⟨lb, hob⟩ := hob
  have hob1 := OpL_Fo hW hob s1.2.1 (show ¬ g + 9 = g + 14 by omega)
  have hFU := FU_gt
  rw [gi_k i1'.1.1, i2', Option.bind_some]
  obtain ⟨S2, g1, g2, g3, g4, g5⟩ := turnAll_loop (ah := ah) hc s.length s [] FU N B S1 rfl (by rw [List.append_nil]; exact i3) (by omega) s1.1 (Rm_step (c := 0) (d := c) (by rw [Nat.zero_add]; exact hR) s1) hw1 i1' (by rw [List.append_nil]; exact i4') ⟨R, e2, dB⟩ hch hok ho hsum ⟨lb, hob1⟩
  rw [g1, Option.bind_some]
  rw [List.append_nil] at g2
  have vz1 : v < cZ S1 := by have := s1.2.1.1; omega
  refine ⟨S2, rfl, InvL_of g3 ?_ (by rw [carS_len]; exact i3) g2, g4, Sg_trans (Sg_mono hW s1 (fun x hx => Or.inr (Or.inl hx)) (Nat.le_refl 0)) g5⟩
  rw [carS_len, ((g5.2.1.2.1 v vz1).2.2.2 (fun hh => by rcases hh with hh | hh | hh | hh | hh | hh <;> omega)).1]
  exact i2'
/-- sizes of the operations of a row -/
def szS : List (Nat × List Int32) → Nat
  | [] => 0
  | x :: s => (2 * (putsL x.2 + cutsN x.2) + 1) + szS s
/-- an operation's size by its marks -/
theorem size_marks {R : List Pt} (h : CanR R) : R.length ≤ 2 * (putsL (decR R) + cutsN (decR R)) + 1 := by
  have hp : ∀ a b : List Int32, putsL (a ++ b) = putsL a + putsL b := by
    intro a b
    induction a with
    | nil => rw [List.nil_append]; show _ = 0 + _; omega
    | cons v a ih => rw [List.cons_append, putsL, putsL, ih]; omega
  have hm : ∀ x : Pt, okPt x → x.1 ≠ 0 → 1 ≤ putsL (dec1 x) + cutsN (dec1 x) := by
    intro x hx h0
    unfold dec1
    rcases hx with ⟨h1, h2, h3⟩ | ⟨h1, h2, h3⟩ | ⟨h1, h2, h3⟩
    · exact absurd h1 h0
    · rw [if_neg h0, if_pos h1]
      obtain ⟨u1, u2, u3, u4, u5⟩ := okP3 (v := nI x.2) ⟨x.2, h2, h3, rfl⟩
      rw [putsL, if_neg (of_eq_false u2)]
      omega
    · rw [if_neg h0, if_neg (by omega), show x.2 = (x.2 - 1) + 1 by omega, List.replicate_succ, cutsN, if_pos rfl]
      omega
  have key : ∀ R : List Pt, CanR R → R.length ≤ 2 * (putsL (decR R) + cutsN (decR R)) + 1 ∧ ((∀ x, R.head? = some x → x.1 ≠ 0) → R.length ≤ 2 * (putsL (decR R) + cutsN (decR R))) := by
    intro R
    induction R with
    | nil => intro _; exact ⟨by show 0 ≤ _; omega, fun _ => by show 0 ≤ _; omega⟩
    | cons x r ih =>
      intro hc
      obtain ⟨c1, c2, c3⟩ := hc
      obtain ⟨i1, i2⟩ := ih c3
      rw [decR, hp, cutsN_app, List.length_cons]
      by_cases h0 : x.1 = 0
      · have : r.length ≤ 2 * (putsL (decR r) + cutsN (decR r)) := i2 (fun y hy => by
          have := c2 y hy
          unfold adj at this
          omega)
        exact ⟨by omega, fun hh => absurd h0 (hh x rfl)⟩
      · have := hm x c1 h0
        exact ⟨by omega, fun _ => by omega⟩
  exact (key R h).1
theorem icopy_loop {z : Nat} {X : Nat × Nat} {v w : Nat} {hs ks : List Nat} {s : List (Nat × List Int32)} (hvw : v + 18 ≤ w ∨ w + 18 ≤ v) (hcp : ∀ h m, v + 2 ≤ h → h ≤ v + 16 → cpc z h m m) (hl : s.length ≤ 8) : ∀ (d i n c : Nat) (S : CS), i + d = s.length → d < n → Wf S → Rm z X (szS (s.drop i) + c) S → InvS S v hs → InvS S w ks → cI S w 1 = nI s.length → InvO S ks s → InvO S hs (s.take i) →
    ∃ S', LX3_copy_2 X v w n (nI i) S = some S' ∧ InvS S' v hs ∧ InvS S' w ks ∧ InvO S' hs s ∧ cI S' w 1 = nI s.length ∧ Sg z (fun x => v + 2 ≤ x ∧ x ≤ v + 16) (szS (s.drop i)) S S' := by
  intro d
  induction d with
  | zero =>
    intro i n c S hi hn hW hR hI hK hcw hO hT
    obtain ⟨n, rfl⟩ : ∃ j, n = j + 1 := ⟨n - 1, by omega⟩
    unfold LX3_copy_2
    rw [gi_k hK.1.1, hcw, Option.bind_some, if_pos (nI_le (by omega) (by omega))]
    rw [List.take_of_length_le (by omega)] at hT
    exact ⟨S, rfl, hI, hK, hT, hcw, Sg_refl hW⟩
  | succ d ih =>
    intro i n c S hi hn hW hR hI hK hcw hO hT
    obtain ⟨n, rfl⟩ : ∃ j, n = j + 1 := ⟨n - 1, by omega⟩
    unfold LX3_copy_2
    have hil : i < s.length := by omega
    obtain ⟨h, d1, d2, d3⟩ := InvS_ld hI (i := i) (by omega)
    obtain ⟨k, e1, e2, e3⟩ := InvS_ld hK (i := i) (by omega)
    obtain ⟨k', q1, q2⟩ := hO i s[i] (List.getElem?_eq_getElem hil)
    have : k' = k := Option.some.inj (q1.symm.trans e1)
    subst this
    obtain ⟨R, hR2, dA⟩ := q2
    have hsz := size_marks hR2.1
    rw [dA] at hsz
    have hdr : s.drop i = s[i] :: s.drop (i + 1) := List.drop_eq_getElem_cons hil
    rw [hdr, szS] at hR ⊢
    rw [gi_k hK.1.1, hcw, Option.bind_some, if_neg (nI_ge (by omega) (by omega)), gr_k hI.1.1 hI.1.2.1, Option.bind_some, d2, Option.bind_some, gr_k hK.1.1 hK.1.2.1, Option.bind_some, e2, Option.bind_some, cal_k d3.2.2]
    obtain ⟨S1, r1, r2, r3⟩ := copy_R (z := z) hW hR d3.2.2 hR2 (by omega) (hcp h R.length d3.1 d3.2.1)
    have s1 : Sg z (fun x => x = h) (2 * (putsL s[i].2 + cutsN s[i].2) + 1) S S1 := r3.elim (fun hh => Sg_mono hW hh.2 (fun _ hx => hx) (by omega)) (fun hh => Sg_mono hW hh.2.2 (fun _ hx => hx) (by omega))
    rw [r1, Option.bind_some, nI_1]
    have wz := kd_lt hW.1 hK.1.1 (by omega)
    have hne : ∀ j y, j ≠ i → hs[j]? = some y → ¬ y = h := fun j y hj hy e => nd_ne hI.2.2.1 hy d1 hj e
    obtain ⟨S', t1, t2, t3, t4, t5, t6⟩ := ih (i + 1) n c S1 (by omega) (by omega) s1.1 (Rm_step (by rw [← Nat.add_assoc]; exact hR) s1) (InvS_Sg hW hI s1 (by omega)) (InvS_Sg hW hK s1 (by omega)) (by rw [((s1.2.1.2.1 w wz).2.2.2 (by omega)).1]; exact hcw) (InvO_Fo hW hO s1.2.1 (fun j y _ hy e => by have := hK.2.2.2.1 y (List.mem_of_getElem? hy); omega)) (by
      intro j y hy
      have hjl := (List.getElem?_eq_some_iff.mp hy).1
      rw [List.length_take] at hjl
      by_cases hji : j = i
      · subst hji
        rw [List.getElem?_take_of_lt (by omega), List.getElem?_eq_getElem hil] at hy
        have : s[j] = y := Option.some.inj hy
        subst this
        exact ⟨h, d1, R, r2, dA⟩
      · rw [List.getElem?_take_of_lt (by omega)] at hy
        obtain ⟨hh, u1, u2⟩ := hT j y (by rw [List.getElem?_take_of_lt (by omega)]; exact hy)
        exact ⟨hh, u1, OpL_Fo hW u2 s1.2.1 (hne j hh hji u1)⟩)
    exact ⟨S', t1, t2, t3, t4, t5, Sg_trans (Sg_mono hW s1 (fun x hx => by omega) (Nat.le_refl _)) t6⟩
/-- a row of inverses is copied -/
theorem icopy_I {z : Nat} {X : Nat × Nat} {S : CS} {v w c : Nat} {s : List (Nat × List Int32)} (hvw : v + 18 ≤ w ∨ w + 18 ≤ v) (hcp : ∀ h m, v + 2 ≤ h → h ≤ v + 16 → cpc z h m m) (hW : Wf S) (hR : Rm z X (szS s + c) S) (hv : ∃ hs, InvS S v hs) (hI : InvL S w s) : ∃ S', f3_copy X S v w = some S' ∧ InvL S' v s ∧ Sg z (fun x => v ≤ x ∧ x ≤ v + 17) (szS s) S S' := by
  obtain ⟨hs, hv⟩ := hv
  obtain ⟨ks, i1, i2, i3, i4⟩ := hI
  have hFU := FU_gt
  obtain ⟨S1, t1, t2, t3, t4, t5, t6⟩ := icopy_loop hvw hcp i3 s.length 0 FU c S (by omega) (by omega) hW (by rw [List.drop_zero]; exact hR) hv i1 i2 i4 (fun i x hx => by rw [List.take_zero] at hx; cases hx)
  rw [List.drop_zero] at t6
  have t1' : LX3_copy_2 X v w FU 0 S = some S1 := t1
  unfold f3_copy
  rw [t1', Option.bind_some, gi_k t3.1.1, t5, Option.bind_some, pi_k t2.1.1, Option.bind_some]
  have s2 : Sg z (fun x => v ≤ x ∧ x ≤ v + 17) 0 S1 (setI S1 v 1 (nI s.length)) := Sg_setI t6.1 ⟨Nat.le_refl _, by omega⟩
  refine ⟨_, rfl, ⟨hs, t2, cI_self _ _ _ _, i3, fun i x hx => ?_⟩, Sg_trans (Sg_mono hW t6 (fun x hx => by omega) (Nat.le_refl _)) s2⟩
  obtain ⟨h, q1, q2⟩ := t4 i x hx
  refine ⟨h, q1, OpL_Fo t6.1 q2 (Sg_setI (z := z) (H := fun x => x = v) (k := 1) (v := nI s.length) t6.1 rfl).2.1 (fun e => ?_)⟩
  have := OpL_kd q2
  rw [e, t2.1.1] at this
  omega
