/-! ===== PART II, the class: the next operation of the row comes to an editor ===== -/
abbrev Hr (g e : Nat) : Nat → Prop := fun x => (e ≤ x ∧ x < e + 45) ∨ (g ≤ x ∧ x < g + 16)
/-- bounds of what comes -/
def comB (ah : Bool) (B : List Int32) (E : Ed) : Prop :=
  okO B ∧ (∀ p, ePnd E = some p → okO p ∧ oldL p = oldL B ∧ newL B + putsL p ≤ 240) ∧
  okO (pB (ePnd E) ah B).2 ∧ (pB (ePnd E) ah B).2.length ≤ 240 ∧ (∀ q, eBuf E = some q → okO q ∧ oldL q = oldL (pB (ePnd E) ah B).2 ∧ newL (pB (ePnd E) ah B).2 + putsL q ≤ 240) ∧
  okO (pB (eBuf E) ah (pB (ePnd E) ah B).2).2 ∧ (pB (eBuf E) ah (pB (ePnd E) ah B).2).2.length ≤ 240
def comX (B : List Int32) (E : Ed) : Prop :=
  oldL B = (eTxt E).length ∧ newL B ≤ 240 ∧ chn (eUnd E) (eTxt E).length ∧ chn (eDon E) (eTxt E).length ∧ (eTxt E).length + putsS (eUnd E) + putsL B ≤ 240 ∧ (eTxt E).length + putsS (eDon E) + putsL B ≤ 240 ∧ (eMks E).length ≤ 4 ∧ (∀ x ∈ eMks E, x.1 < 10000 ∧ x.2.1 < 10000 ∧ x.2.2 ≤ 3) ∧ eCur E < 10000
/-- weights at an editor -/
def ClsE (z g e : Nat) : Prop := ClsG z g ∧ wt z (e + 3) = wt z (g + 7) ∧ wt z (e + 5) = wt z (g + 7)
theorem bring_E {z : Nat} {X : Nat × Nat} {S : CS} {w r g ties i c : Nat} {E : Ed} {row : List (Nat × List Int32)} {o : Nat × List Int32} {whole : Bool} (hcl : ClsE z g (w + 5 + 45 * i)) (hcw : whole = true → Cls z g (w + 5 + 45 * i + 7) ∧ Cls z g (w + 5 + 45 * i + 25)) (hrg : r = g + 16) (hwr : r + 205 ≤ w) (hW : Wf S) (hR : Rm z X c S) (hw : Wv S g) (hS : WdS S w r g) (hRw : RwS S r) (hRM : RwM S r row) (ht : cI S w 7 = nI ties) (hties : ties ≤ 2) (h5 : cI S w 5 = bI whole) (hi : i < 4) (hL : EdLn S (w + 5 + 45 * i) row.length E) (hT : whole = true → EdT S (w + 5 + 45 * i) E ∧ EdM S (w + 5 + 45 * i) E) (ho : row[eRev E]? = some o) (ho1 : o.1 < 4) (hol : o.2.length ≤ 240)
    (hcb : o.1 ≠ i → comB (aheadB ties i o.1) o.2 E) (hcx : o.1 ≠ i → whole = true → comX (pB (eBuf E) (aheadB ties i o.1) (pB (ePnd E) (aheadB ties i o.1) o.2).2).2 E) (hob : ∃ l, OpL S (g + 9) l) :
    ∃ S', f10_bringTo X S w (nI i) = some S' ∧ EdLn S' (w + 5 + 45 * i) row.length (comesE ties i o E) ∧ (whole = true → EdT S' (w + 5 + 45 * i) (comesE ties i o E) ∧ EdM S' (w + 5 + 45 * i) (comesE ties i o E)) ∧ (∃ l, OpL S' (g + 9) l) ∧ Sg z (Hr g (w + 5 + 45 * i)) 0 S S' := by
  generalize he : w + 5 + 45 * i = e at *
  have hge : r + 210 ≤ e := by omega
  obtain ⟨hE, hN, hC, hP, hBf⟩ := id hL
  obtain ⟨n8, n10, n11, n12, n13, n14⟩ := id hN
  obtain ⟨lb, hob⟩ := hob
  have hrl : eRev E < row.length := (List.getElem?_eq_some_iff.mp ho).1
  have hr100 := hRM.1
  obtain ⟨hro, hrow⟩ := hRM.2 _ _ ho
  obtain ⟨⟨_, _, hw12, _, hcp, _⟩, hw3, hw5⟩ := id hcl
  have k12 : kd S (g + 12) = 4 := hw.2.2.2.2.2.2.2.2.2.2.2.1
  unfold f10_bringTo
  have hea : ldr S 16 (w + 3) (nI i) = some e := by rw [← he]; exact ed_at hS hi
  rw [gr_k hS.1 hS.2.1.2.2.2.1, Option.bind_some, hea, Option.bind_some, gr_k hS.1 hS.2.1.1, Option.bind_some, gr_k hRw.1 hRw.2.1.2.2, Option.bind_some, gi_k hE.1, n8, Option.bind_some, ldi_k hRw.2.2.2.2.1.1 (by have := hRw.2.2.2.2.1.2; omega) (by have := hRw.2.2.2.2.1.2; omega), hrow, Option.bind_some, gr_k hS.1 hS.2.1.2.1, Option.bind_some, gr_k hw.1 hw.2.2.2.2.2.1, Option.bind_some, Option.bind_some, gr_k hRw.1 hRw.2.1.2.1, Option.bind_some, Option.bind_some, ldr_k hRw.2.2.2.1.1 (by have := hRw.2.2.2.1.2; omega) (by have := hRw.2.2.2.1.2; omega) (hRw.2.2.2.2.2 (eRev E) (by omega)).1, Option.bind_some, cal_k k12]
  obtain ⟨RB, hRB, dRB⟩ := hro
  have lRB := len_dec hRB.1
  rw [dRB] at lRB
  obtain ⟨S13, e13, o13, c13⟩ := copy_R (z := z) hW hR k12 hRB (by omega) (hcp RB.length (by omega))
  have s13 : Sg z (fun x => x = g + 12) 0 S S13 := c13.elim (fun h => h.2) (fun h => h.2.2)
  have hL13 := EdLn_Sg hW hL s13 (by omega) (by omega) (by omega)
  rw [e13, Option.bind_some, gi_k hL13.1.1, hL13.2.1.1, Option.bind_some, nI_1, pi_k hL13.1.1, Option.bind_some]
  have s15 : Sg z (fun x => x = e) 0 S13 (setI S13 e 8 (nI (eRev E + 1))) := Sg_setI s13.1 rfl
  generalize hS15 : setI S13 e 8 (nI (eRev E + 1)) = S15 at s15 ⊢
  have i15 : ∀ k, k ≠ 8 → cI S15 e k = cI S13 e k := fun k hk => by rw [← hS15, cI_set, if_neg (by omega)]
  have hL15 : EdLn S15 e row.length (sRev E (eRev E + 1)) := by
    obtain ⟨q1, ⟨r8, r10, r11, r12, r13, r14⟩, q3, q4, q5⟩ := hL13
    refine ⟨EdS_Sg s13.1 q1 s15, ⟨?_, ?_, ?_, ?_, ?_, ?_⟩, fun j hj => ?_, OpS_Fo s13.1 q4 s15.2.1 (show ¬ e + 3 = e by omega), OpS_Fo s13.1 q5 s15.2.1 (show ¬ e + 5 = e by omega)⟩
    · rw [← hS15, cI_self]; rfl
    · rw [i15 10 (by omega)]; exact r10
    · rw [i15 11 (by omega)]; exact r11
    · rw [i15 12 (by omega)]; exact r12
    · rw [i15 13 (by omega)]; exact r13
    · rw [i15 14 (by omega)]; exact r14
    · rw [← hS15]; exact q3 j hj
  have hw15 := Wv_Sg s13.1 (Wv_Sg hW hw s13) s15
  have hS15' := WdS_Sg s13.1 (WdS_Sg hW hS s13) s15
  have hB15 : OpL S15 (g + 12) o.2 := OpL_Fo s13.1 ⟨RB, o13, dRB⟩ s15.2.1 (show ¬ g + 12 = e by omega)
  have ob15 := OpL_Fo s13.1 (OpL_Fo hW hob s13.2.1 (show ¬ g + 9 = g + 12 by omega)) s15.2.1 (show ¬ g + 9 = e by omega)
  have wI15 : cI S15 w = cI S w := by rw [fld_Fo s13.1 (WdS_Sg hW hS s13).1 (by omega) s15.2.1 (show ¬ w = e by omega), fld_Fo hW hS.1 (by omega) s13.2.1 (show ¬ w = g + 12 by omega)]
  have hR15 := Rm_step (c := 0) (d := c) (by rw [Nat.zero_add]; exact Rm_step (c := 0) (d := c) (by rw [Nat.zero_add]; exact hR) s13) s15
  have ss15 : Sg z (Hr g e) 0 S S15 := Sg_trans (Sg_mono hW s13 (fun x hx => Or.inr (by omega)) (Nat.le_refl 0)) (Sg_mono s13.1 s15 (fun x hx => Or.inl (by omega)) (Nat.le_refl 0))
  have hT15 : whole = true → EdT S15 e (sRev E (eRev E + 1)) ∧ EdM S15 e (sRev E (eRev E + 1)) := fun hwh => by
    obtain ⟨t1, t2⟩ := hT hwh
    refine ⟨EdT_Sg s13.1 (EdT_Sg hW t1 s13 (fun x h1 => by omega)) s15 (fun x h1 => by omega), ?_⟩
    obtain ⟨m1, m2, m3⟩ := EdM_Sg hW hE t2 s13 (by omega)
    exact ⟨by rw [i15 7 (by omega)]; exact m1, by rw [i15 9 (by omega)]; exact m2, by rw [← hS15]; exact m3⟩
  unfold comesE
  by_cases hown : o.1 = i
  · rw [if_pos (by rw [hown]), if_pos hown, cal_k hL15.1.1]
    obtain ⟨S42, r1, r2, r3, r4, r5⟩ := takeOwn_E (z := z) s15.1 hL15 (hw3.trans hw5.symm)
    rw [r1, Option.bind_some]
    refine ⟨S42, rfl, r2, fun hwh => ?_, ⟨lb, OpL_Fo s15.1 ob15 r5.2.1 (fun h => by rcases h with h | h | h <;> omega)⟩, Sg_trans ss15 (Sg_mono s15.1 r5 (fun x hx => Or.inl (by rcases hx with h | h | h <;> omega)) (Nat.le_refl 0))⟩
    obtain ⟨t1, m1, m2, m3⟩ := hT15 hwh
    have hx : ∀ F : Ed, eTxt (ownE F) = eTxt F ∧ eUnd (ownE F) = eUnd F ∧ eDon (ownE F) = eDon F ∧ eMks (ownE F) = eMks F ∧ eCur (ownE F) = eCur F := fun F => by
      unfold ownE
      cases eBuf F <;> exact ⟨rfl, rfl, rfl, rfl, rfl⟩
    obtain ⟨x1, x2, x3, x4, x5⟩ := hx (sRev E (eRev E + 1))
    have t42 := EdT_Sg s15.1 t1 r5 (fun x h1 h => by rcases h with h | h | h <;> omega)
    unfold EdT EdM
    rw [x1, x2, x3, x4, x5]
    exact ⟨t42, by rw [r3 7 (by omega) (by omega) (by omega)]; exact m1, by rw [r3 9 (by omega) (by omega) (by omega)]; exact m2, by rw [r4]; exact m3⟩
  · obtain ⟨b1, b2, b3, b4, b5, b6, b7⟩ := hcb hown
    have hne : ¬ nI o.1 = nI i := fun e => by
      have := congrArg Int32.toInt e
      rw [nI_toInt (by omega), nI_toInt (by omega)] at this
      omega
    rw [if_neg hne, if_neg hown, cal_k hS15'.1, isAhead_W hS15' (by rw [wI15]; exact ht) hties (by omega) (by omega), Option.bind_some, gi_k hL15.1.1, hL15.2.1.2.2.2.1, Option.bind_some]
    generalize hah : aheadB ties i o.1 = ah at *
    obtain ⟨S18, S24, f1, l18, w18, v18, f2, l24, b24, o24, s18, s24⟩ := line_com (z := z) (X := X) (ah := ah) hcl.1 s15.1 hR15 hw15 hw3 hw5 (by omega) hL15 hB15 b1 hol b2 b3 b4 b5 ⟨lb, ob15⟩
    rw [gr_k hS15'.1 hS15'.2.1.2.1, Option.bind_some, gr_k hL15.1.1 hL15.1.2.1.2.1, Option.bind_some, f1, Option.bind_some]
    have hS18 := WdS_Sg s15.1 hS15' s18
    rw [gi_k l18.1.1, l18.2.1.2.2.2.2.1, Option.bind_some, gr_k hS18.1 hS18.2.1.2.1, Option.bind_some, gr_k l18.1.1 l18.1.2.1.2.2.1, Option.bind_some]
    have f2' : (if bI (eBuf (sPnd (sRev E (eRev E + 1)) (pB (ePnd (sRev E (eRev E + 1))) ah o.2).1)).isSome = 0 then some S18 else (cal S18 9 g (f9_turn X S18 g (e + 5) (g + 12) (bI ah))).bind fun S22 => some S22) = some S24 := f2
    rw [f2', Option.bind_some]
    have hS24 := WdS_Sg s15.1 hS15' s24
    have nH24 : ∀ x, x ≠ e + 3 → x ≠ e + 5 → x ≠ g + 12 → x ≠ g + 1 → x ≠ g + 4 → x ≠ g + 7 → x ≠ g + 9 → ¬ (x = e + 3 ∨ x = e + 5 ∨ x = g + 12 ∨ Hw g x) := fun x a1 a2 a3 a4 a5 a6 a7 h => by
      rcases h with h | h | h | h | h | h | h
      · exact a1 h
      · exact a2 h
      · exact a3 h
      · exact a4 h
      · exact a5 h
      · exact a6 h
      · exact a7 h
    have wI24 : cI S24 w = cI S w := by rw [fld_Fo s15.1 hS15'.1 (by omega) s24.2.1 (nH24 w (by omega) (by omega) (by omega) (by omega) (by omega) (by omega) (by omega)), wI15]
    have ss24 : Sg z (Hr g e) 0 S S24 := Sg_trans ss15 (Sg_mono s15.1 s24 (fun x hx => by
      rcases hx with h | h | h | h | h | h | h
      · exact Or.inl (by omega)
      · exact Or.inl (by omega)
      · exact Or.inr (by omega)
      · exact Or.inr (by omega)
      · exact Or.inr (by omega)
      · exact Or.inr (by omega)
      · exact Or.inr (by omega)) (Nat.le_refl 0))
    rw [gi_k hS24.1, wI24, h5, Option.bind_some]
    cases hwh : whole with
    | false =>
      rw [if_pos (show bI false = 0 from rfl), Option.bind_some]
      refine ⟨S24, rfl, ?_, fun h => (by cases h), o24, ss24⟩
      unfold comE
      rw [hah]
      exact l24
    | true =>
      obtain ⟨c1, c2⟩ := hcw hwh
      obtain ⟨y1, y2, y3, y4, y5, y6, y7, y8, y9⟩ := hcx hown hwh
      obtain ⟨t1, t2⟩ := hT15 hwh
      have nT : ∀ x, x = e + 1 ∨ (e + 7 ≤ x ∧ x < e + 43) → ¬ (x = e + 3 ∨ x = e + 5 ∨ x = g + 12 ∨ Hw g x) := fun x hx => nH24 x (by omega) (by omega) (by omega) (by omega) (by omega) (by omega) (by omega)
      have t24 := EdT_Sg s15.1 t1 s24 nT
      have m24 := EdM_Sg s15.1 hL15.1 t2 s24 (nH24 e (by omega) (by omega) (by omega) (by omega) (by omega) (by omega) (by omega))
      have hR24 := Rm_step (c := 0) (d := c) (by rw [Nat.zero_add]; exact hR15) s24
      have hw24 := Wv_Sg s15.1 hw15 s24
      obtain ⟨S41, g1, g2, g3, g4, g5, g6, g7⟩ := text_com (z := z) (X := X) (ah := ah) (w := w) (r := r) (E := sBuf (sPnd (sRev E (eRev E + 1)) (pB (ePnd E) ah o.2).1) (pB (eBuf E) ah (pB (ePnd E) ah o.2).2).1) c1 c2 (by omega) s24.1 hR24 hw24 hS24 l24.1 t24 m24 b24 b6 b7 y1 y2 y3 y4 y5 y6 y7 y8 y9 o24
      rw [if_neg (show ¬ bI true = 0 by decide), g1, Option.bind_some]
      obtain ⟨q1, ⟨r8, r10, r11, r12, r13, r14⟩, q3, q4, q5⟩ := l24
      have nC : ∀ x, x = e + 3 ∨ x = e + 5 → ¬ Hc g e x := fun x hx h => by
        rcases h with h | h | h | h | h | h | h | h | h <;> omega
      have hcE : comE ties i o E = comT ah (pB (eBuf E) ah (pB (ePnd E) ah o.2).2).2 (sBuf (sPnd (sRev E (eRev E + 1)) (pB (ePnd E) ah o.2).1) (pB (eBuf E) ah (pB (ePnd E) ah o.2).2).1) := by
        unfold comE
        rw [hah]
        rfl
      refine ⟨S41, rfl, ?_, fun _ => ?_, g6, Sg_trans ss24 (Sg_mono s24.1 g7 (fun x hx => ?_) (Nat.le_refl 0))⟩
      · rw [hcE]
        refine ⟨EdS_Sg s24.1 q1 g7, ⟨?_, ?_, ?_, ?_, ?_, ?_⟩, fun j hj => ?_, OpS_Fo s24.1 q4 g7.2.1 (nC _ (Or.inl rfl)), OpS_Fo s24.1 q5 g7.2.1 (nC _ (Or.inr rfl))⟩
        · rw [g4 8 (by omega)]; exact r8
        · rw [g4 10 (by omega)]; exact r10
        · rw [g4 11 (by omega)]; exact r11
        · rw [g4 12 (by omega)]; exact r12
        · rw [g4 13 (by omega)]; exact r13
        · rw [g4 14 (by omega)]; exact r14
        · rw [g5]; exact q3 j hj
      · rw [hcE]; exact ⟨g2, g3⟩
      · rcases hx with h | h | h | h | h | h | h | h | h
        · exact Or.inl (by omega)
        · exact Or.inl (by omega)
        · exact Or.inr (by omega)
        · exact Or.inl (by omega)
        · exact Or.inr (by omega)
        · exact Or.inr (by omega)
        · exact Or.inr (by omega)
        · exact Or.inr (by omega)
        · exact Or.inr (by omega)
