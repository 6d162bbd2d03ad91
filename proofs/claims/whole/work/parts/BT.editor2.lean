/-! ===== PART II, the class: an editor sends, takes its own, passes a tick; its line is copied ===== -/
theorem bz_bI (b : Bool) : bz (bI b) = some (bI b) := by cases b <;> rfl
def szO (S : CS) (h : Nat) : Nat := (cI S h 1).toInt.toNat
theorem szO_R {S : CS} {h : Nat} {R : List Pt} (hO : OpR S h R) : szO S h = R.length := by
  obtain ⟨_, a, hA⟩ := hO
  unfold szO
  rw [hA.2.1, nI_toInt (by have := hA.2.2.1; have := hA.2.2.2.1; omega)]
  omega
theorem szO_L {S : CS} {h : Nat} {l : List Int32} (hO : OpL S h l) : szO S h ≤ l.length := by
  obtain ⟨R, h1, h2⟩ := hO
  rw [szO_R h1, ← h2]
  exact len_dec h1.1
theorem copy_O {z : Nat} {X : Nat × Nat} {S : CS} {h p d : Nat} {l : List Int32} (hW : Wf S) (hR : Rm z X d S) (q3 : kd S h = 4) (hP : OpL S p l) (hne : h ≠ p) (hw : ∀ m, cpc z h m m) : ∃ S', f4_copy X S h p = some S' ∧ OpL S' h l ∧ Sg z (fun x => x = h) (if lenO S h < szO S p then szO S p else 0) S S' ∧ szO S p ≤ lenO S' h ∧ lenO S h ≤ lenO S' h := by
  obtain ⟨R, h1, h2⟩ := hP
  obtain ⟨S', e1, e2, e3⟩ := copy_R (z := z) hW hR q3 h1 hne (hw R.length)
  have hs := szO_R h1
  have hl := OpR_len hW h1
  have hl' : R.length ≤ lenO S' h := by
    rcases e3 with ⟨a1, a2⟩ | ⟨a1, a2, a3⟩
    · exact (OpR_len a2.1 e2).1
    · omega
  refine ⟨S', e1, ⟨R, e2, h2⟩, ?_, by omega, ?_⟩
  · rcases e3 with ⟨a1, a2⟩ | ⟨a1, a2, a3⟩
    · exact Sg_mono hW a2 (fun _ hx => hx) (Nat.zero_le _)
    · rw [hs, if_pos a1]; exact a3
  · rcases e3 with ⟨a1, a2⟩ | ⟨a1, a2, a3⟩
    · omega
    · omega
theorem send_E {z : Nat} {S : CS} {e n : Nat} {E : Ed} {p : List Int32} (hW : Wf S) (hE : EdS S e) (hr : cI S e 8 = nI (eRev E) ∧ cI S e 10 = nI (eDel E) ∧ cI S e 13 = bI (eBuf E).isSome ∧ cI S e 14 = bI (eOn E)) (hC : EdC S e n E) (hp : OpL S (e + 3) p) (hpl : p.length ≤ 240) (hb : OpS S (e + 5) (eBuf E)) :
    ∃ S', f1_send S e = some S' ∧ EdLn S' e n (sndE E p) ∧ (∀ k, k ≠ 12 → k ≠ 11 → cI S' e k = cI S e k) ∧ (cA S' = cA S) ∧ Sg z (fun x => x = e) 0 S S' := by
  unfold f1_send
  rw [pi_k hE.1, Option.bind_some, gi_k (S := setI S e 12 1) hE.1, show cI (setI S e 12 1) e 10 = nI (eDel E) from by rw [cI_set, if_neg (by omega)]; exact hr.2.1, Option.bind_some, pi_k (S := setI S e 12 1) hE.1, Option.bind_some]
  have s1 : Sg z (fun x => x = e) 0 S (setI S e 12 1) := Sg_setI hW rfl
  have s2 := Sg_trans s1 (Sg_setI (k := 11) (v := nI (eDel E)) s1.1 rfl)
  refine ⟨_, rfl, ⟨EdS_Sg hW hE s2, ⟨?_, ?_, ?_, ?_, ?_, ?_⟩, hC, OpS_some (OpL_Fo hW hp s2.2.1 (show ¬ e + 3 = e by omega)) hpl, OpS_Fo hW hb s2.2.1 (show ¬ e + 5 = e by omega)⟩, fun k h1 h2 => ?_, rfl, s2⟩
  · rw [cI_set, if_neg (by omega), cI_set, if_neg (by omega)]; exact hr.1
  · rw [cI_set, if_neg (by omega), cI_set, if_neg (by omega)]; exact hr.2.1
  · rw [cI_self]; rfl
  · rw [cI_set, if_neg (by omega), cI_self]; rfl
  · rw [cI_set, if_neg (by omega), cI_set, if_neg (by omega)]; exact hr.2.2.1
  · rw [cI_set, if_neg (by omega), cI_set, if_neg (by omega)]; exact hr.2.2.2
  · rw [cI_set, if_neg (by omega), cI_set, if_neg (by omega)]
abbrev He (e : Nat) : Nat → Prop := fun x => x = e ∨ x = e + 3 ∨ x = e + 5
theorem takeOwn_E {z : Nat} {S : CS} {e n : Nat} {E : Ed} (hW : Wf S) (hL : EdLn S e n E) (hw : wt z (e + 3) = wt z (e + 5)) :
    ∃ S', f1_takeOwn S e = some S' ∧ EdLn S' e n (ownE E) ∧ (∀ k, k ≠ 12 → k ≠ 13 → k ≠ 11 → cI S' e k = cI S e k) ∧ cA S' (e + 43) = cA S (e + 43) ∧ Sg z (He e) 0 S S' := by
  obtain ⟨hE, ⟨n8, n10, n11, n12, n13, n14⟩, hC, hP, hB⟩ := hL
  unfold f1_takeOwn
  rw [pi_k hE.1, Option.bind_some, gi_k (S := setI S e 12 0) hE.1, show cI (setI S e 12 0) e 13 = bI (eBuf E).isSome from by rw [cI_set, if_neg (by omega)]; exact n13, Option.bind_some]
  have s1 : Sg z (fun x => x = e) 0 S (setI S e 12 0) := Sg_setI hW rfl
  unfold ownE
  cases hb : eBuf E with
  | none =>
    rw [if_pos (show bI (none : Option (List Int32)).isSome = 0 from rfl), Option.bind_some]
    dsimp only
    refine ⟨_, rfl, ⟨EdS_Sg hW hE s1, ⟨?_, ?_, ?_, ?_, ?_, ?_⟩, hC, OpS_none (OpS_Fo hW hP s1.2.1 (show ¬ e + 3 = e by omega)), ?_⟩, fun k h1 _ _ => ?_, rfl, Sg_mono hW s1 (fun x hx => Or.inl hx) (Nat.le_refl 0)⟩
    · rw [cI_set, if_neg (by omega)]; exact n8
    · rw [cI_set, if_neg (by omega)]; exact n10
    · rw [cI_set, if_neg (by omega)]; exact n11
    · rw [cI_self]; rfl
    · rw [cI_set, if_neg (by omega)]; exact n13
    · rw [cI_set, if_neg (by omega)]; exact n14
    · exact OpS_Fo hW hB s1.2.1 (show ¬ e + 5 = e by omega)
    · rw [cI_set, if_neg (by omega)]
  | some q =>
    have hB' := hB
    rw [hb] at hB'
    obtain ⟨hq, hql⟩ := OpS_get hB'
    obtain ⟨lp, hlp, hlpl, _⟩ := id hP
    obtain ⟨RP, hRP, dRP⟩ := OpL_Fo hW hlp s1.2.1 (show ¬ e + 3 = e by omega)
    obtain ⟨RQ, hRQ, dRQ⟩ := OpL_Fo hW hq s1.2.1 (show ¬ e + 5 = e by omega)
    have hE1 := EdS_Sg hW hE s1
    rw [show bI (some q).isSome = 1 from rfl, if_neg (by decide), gr_k hE1.1 hE1.2.1.2.1, Option.bind_some, gr_k hE1.1 hE1.2.1.2.2.1, Option.bind_some, cal_k (OpR_kd hRP)]
    obtain ⟨S7, e1, o1, o2, _, _, s7⟩ := swap_R (z := z) s1.1 hRP hRQ (by omega) hw
    rw [e1, Option.bind_some]
    have hE7 := EdS_Sg s1.1 hE1 s7
    have f7 := fld_Fo s1.1 hE1.1 (by omega) s7.2.1 (show ¬ (e = e + 3 ∨ e = e + 5) by omega)
    have ar7 : ∀ k a, cJ (setI S e 12 0) e k = some a → kd (setI S e 12 0) a = 14 → cA S7 a = cA S a := fun k a h1 h2 => arr_Fo (S := setI S e 12 0) (H := fun x => x = e + 3 ∨ x = e + 5) s1.1 h1 h2 s7.2.1 (by omega)
    rw [pi_k hE7.1, Option.bind_some]
    have s8 : Sg z (fun x => x = e) 0 S7 (setI S7 e 13 0) := Sg_setI s7.1 rfl
    have hE8 := EdS_Sg s7.1 hE7 s8
    have a44 : cA S7 (e + 44) = cA S (e + 44) := ar7 6 _ hE1.2.1.2.2.2.2.2.2 hE1.2.2.2.2.1
    have a43 : cA S7 (e + 43) = cA S (e + 43) := ar7 5 _ hE1.2.1.2.2.2.2.2.1 hE1.2.2.2.1.1
    rw [cal_k hE8.1]
    have hc8 : ∀ k, k ≠ 13 → k ≠ 12 → cI (setI S7 e 13 0) e k = cI S e k := fun k h1 h2 => by
      rw [cI_set, if_neg (by omega), f7, cI_set, if_neg (by omega)]
    obtain ⟨S9, r1, r2, r3, r4, r5⟩ := send_E (z := z) (n := n) (E := sBuf (sPnd E none) none) (p := q) s8.1 hE8 ⟨by rw [hc8 8 (by omega) (by omega)]; exact n8, by rw [hc8 10 (by omega) (by omega)]; exact n10, cI_self _ _ _ _, by rw [hc8 14 (by omega) (by omega)]; exact n14⟩ (fun i hi => by show cA S7 (e + 44) i = _; rw [a44]; exact hC i hi) (OpL_Fo s7.1 ⟨RQ, o1, dRQ⟩ s8.2.1 (show ¬ e + 3 = e by omega)) hql ⟨lp, OpL_Fo s7.1 ⟨RP, o2, dRP⟩ s8.2.1 (show ¬ e + 5 = e by omega), hlpl, fun p hp => by cases hp⟩
    rw [r1, Option.bind_some, Option.bind_some]
    dsimp only
    refine ⟨S9, rfl, r2, fun k h1 h2 h3 => ?_, ?_, ?_⟩
    · rw [r3 k h1 h3, hc8 k h2 h1]
    · rw [r4]; exact a43
    · exact Sg_trans (Sg_trans (Sg_trans (Sg_mono hW s1 (fun x hx => Or.inl hx) (Nat.le_refl 0)) (Sg_mono s1.1 s7 (fun x hx => Or.inr hx) (Nat.le_refl 0))) (Sg_mono s7.1 s8 (fun x hx => Or.inl hx) (Nat.le_refl 0))) (Sg_mono s8.1 r5 (fun x hx => Or.inl hx) (Nat.le_refl 0))
theorem pt_loop {z : Nat} {e N r : Nat} {f0 : Nat → Nat} (hN : N ≤ 100) : ∀ (d i n : Nat) (S : CS), i + d = N → r ≤ i → d < n → Wf S → EdS S e → (∀ j, j < N → f0 j ≤ 9) → (∀ j, j < N → cA S (e + 44) j = nI (if r ≤ j ∧ j < i then f0 j - 1 else f0 j)) →
    ∃ S', LX1_passTick_22 e (nI N) n (nI i) S = some S' ∧ (∀ j, j < N → cA S' (e + 44) j = nI (if r ≤ j ∧ j < N then f0 j - 1 else f0 j)) ∧ cI S' = cI S ∧ cA S' (e + 43) = cA S (e + 43) ∧ Sg z (fun x => x = e) 0 S S' := by
  intro d
  induction d with
  | zero =>
    intro i n S hi hr hn hW hE hf hA
    obtain ⟨n, rfl⟩ : ∃ j, n = j + 1 := ⟨n - 1, by omega⟩
    unfold LX1_passTick_22
    rw [if_pos (nI_le (by omega) (by omega))]
    rw [show i = N by omega] at hA
    exact ⟨S, rfl, hA, rfl, rfl, Sg_refl hW⟩
  | succ d ih =>
    intro i n S hi hr hn hW hE hf hA
    obtain ⟨n, rfl⟩ : ∃ j, n = j + 1 := ⟨n - 1, by omega⟩
    unfold LX1_passTick_22
    have hj := hE.2.1.2.2.2.2.2.2
    have hk := hE.2.2.2.2.1
    have hn44 := hE.2.2.2.2.2
    have hv := hA i (by omega)
    rw [if_neg (by omega)] at hv
    have hfi := hf i (by omega)
    rw [if_neg (nI_ge (by omega) (by omega)), gr_k hE.1 hj, Option.bind_some, aln_k hk, hn44, Option.bind_some, if_neg (nI_ge (by omega) (by omega)), Option.bind_some, ldi_k hk (by omega) (by omega), hv, Option.bind_some]
    by_cases h0 : f0 i = 0
    · rw [h0, if_pos (by decide), Option.bind_some, nI_1]
      refine ih (i + 1) n S (by omega) (by omega) (by omega) hW hE hf (fun j hj2 => ?_)
      rw [hA j hj2]
      by_cases hji : j = i
      · subst hji; rw [if_neg (by omega), if_pos (by omega), h0]
      · congr 1
        by_cases hc : r ≤ j ∧ j < i
        · rw [if_pos hc, if_pos (by omega)]
        · rw [if_neg hc, if_neg (by omega)]
    · rw [if_neg (z_nle (by omega) (by omega)), Option.bind_some, ldi_k hk (by omega) (by omega), hv, Option.bind_some, show (1 : Int32) = nI 1 from rfl, nI_sub (by omega), sti_k hk (by omega) (by omega), Option.bind_some, Option.bind_some, nI_add]
      have s1 : Sg z (fun x => x = e) 0 S (setA S (e + 44) (upd (cA S (e + 44)) i (nI (f0 i - 1)))) := Sg_setA hW rfl hj
      obtain ⟨S', r1, r2, r3, r4, r5⟩ := ih (i + 1) n _ (by omega) (by omega) (by omega) s1.1 (EdS_Sg hW hE s1) hf (fun j hj2 => by
        rw [cA_self]
        by_cases hji : j = i
        · subst hji; rw [upd_self, if_pos (by omega)]
        · rw [upd_ne _ _ hji, hA j hj2]
          congr 1
          by_cases hc : r ≤ j ∧ j < i
          · rw [if_pos hc, if_pos (by omega)]
          · rw [if_neg hc, if_neg (by omega)])
      exact ⟨S', r1, r2, r3, r4.trans (va_up_ne _ _ (by omega)), Sg_trans s1 r5⟩
theorem passTick_E {z : Nat} {S : CS} {e n : Nat} {E : Ed} (hW : Wf S) (hL : EdLn S e n E) (hn : n ≤ 100) (hr : eRev E ≤ n) (hf : ∀ j, j < n → eCom E j ≤ 9) (hlf : ∀ k, eLft E = some k → k ≤ 9) (hon : eOn E = true) :
    ∃ S', f1_passTick S e (nI n) = some S' ∧ EdLn S' e n (passE n E) ∧ (∀ k, k ≠ 11 → cI S' e k = cI S e k) ∧ cA S' (e + 43) = cA S (e + 43) ∧ Sg z (fun x => x = e) 0 S S' := by
  obtain ⟨hE, ⟨n8, n10, n11, n12, n13, n14⟩, hC, hP, hB⟩ := hL
  unfold f1_passTick
  have h1 : ∃ S2, ((if cI S e 11 ≤ 0 then some S else (pi S 1 e 11 (cI S e 11 - 1)).bind fun S5 => some S5) = some S2) ∧ cI S2 e 11 = oI ((eLft E).map fun k => k - 1) ∧ (∀ k, k ≠ 11 → cI S2 e k = cI S e k) ∧ cA S2 = cA S ∧ Sg z (fun x => x = e) 0 S S2 := by
    cases hl : eLft E with
    | none =>
      rw [n11, hl, if_pos (by decide)]
      exact ⟨S, rfl, by rw [n11, hl]; rfl, fun _ _ => rfl, rfl, Sg_refl hW⟩
    | some k =>
      have hk9 := hlf k hl
      rw [n11, hl]
      by_cases hk : k = 0
      · subst hk
        rw [if_pos (by decide)]
        exact ⟨S, rfl, by rw [n11, hl]; rfl, fun _ _ => rfl, rfl, Sg_refl hW⟩
      · rw [if_neg (show ¬ oI (some k) ≤ 0 from z_nle (by omega) (by omega)), pi_k hE.1, Option.bind_some, show oI (some k) - 1 = nI (k - 1) from by show nI k - nI 1 = _; rw [nI_sub (by omega)]]
        exact ⟨_, rfl, cI_self _ _ _ _, fun j hj => by rw [cI_set, if_neg (by omega)], rfl, Sg_setI hW rfl⟩
  obtain ⟨S2, e1, e2, e3, e4, e5⟩ := h1
  have hE2 := EdS_Sg hW hE e5
  rw [gi_k hE.1, Option.bind_some, Option.bind_some, e1, Option.bind_some, gi_k hE2.1, e3 8 (by omega), n8, Option.bind_some]
  have hFU := FU_gt
  obtain ⟨S', r1, r2, r3, r4, r5⟩ := pt_loop (z := z) (e := e) (r := eRev E) (f0 := eCom E) hn (n - eRev E) (eRev E) FU S2 (by omega) (Nat.le_refl _) (by omega) e5.1 hE2 hf (fun j hj => by rw [e4, if_neg (by omega)]; exact hC j hj)
  rw [r1, Option.bind_some]
  have ss := Sg_trans e5 r5
  have hpE : passE n E = sCom (sLft E ((eLft E).map fun k => k - 1)) (fun k => if eRev E ≤ k ∧ k < n then eCom E k - 1 else eCom E k) := by unfold passE; rw [if_pos hon]
  refine ⟨S', rfl, ?_, fun k hk => by rw [r3]; exact e3 k hk, by rw [r4, e4], ss⟩
  rw [hpE]
  refine ⟨EdS_Sg hW hE ss, ⟨?_, ?_, ?_, ?_, ?_, ?_⟩, fun i hi => r2 i hi, OpS_Fo hW hP ss.2.1 (show ¬ e + 3 = e by omega), OpS_Fo hW hB ss.2.1 (show ¬ e + 5 = e by omega)⟩
  · rw [r3, e3 8 (by omega)]; exact n8
  · rw [r3, e3 10 (by omega)]; exact n10
  · rw [r3]; exact e2
  · rw [r3, e3 12 (by omega)]; exact n12
  · rw [r3, e3 13 (by omega)]; exact n13
  · rw [r3, e3 14 (by omega)]; exact n14
def cpyC (S : CS) (h p : Nat) : Nat := if lenO S h < szO S p then 240 else 0
/-- the line of an editor is copied -/
theorem copyLine_E {z : Nat} {X : Nat × Nat} {S : CS} {e w n d : Nat} {E : Ed} (hW : Wf S) (hR : Rm z X (cpyC S (e + 3) (w + 3) + cpyC S (e + 5) (w + 5) + d) S) (hE : EdS S e) (hL : EdLn S w n E) (hn : n ≤ 100) (hew : e + 45 ≤ w ∨ w + 45 ≤ e) (hw3 : ∀ m, cpc z (e + 3) m m) (hw5 : ∀ m, cpc z (e + 5) m m) :
    ∃ S', f1_copyLine X S e w = some S' ∧ EdLn S' e n E ∧ (∀ k, k = 7 ∨ k = 9 → cI S' e k = cI S e k) ∧ cA S' (e + 43) = cA S (e + 43) ∧ (szO S (w + 3) ≤ lenO S' (e + 3) ∧ szO S (w + 5) ≤ lenO S' (e + 5) ∧ lenO S (e + 3) ≤ lenO S' (e + 3) ∧ lenO S (e + 5) ≤ lenO S' (e + 5)) ∧ Sg z (He e) (cpyC S (e + 3) (w + 3) + cpyC S (e + 5) (w + 5)) S S' := by
  obtain ⟨hF, ⟨n8, n10, n11, n12, n13, n14⟩, hC, ⟨lp, hp, hpl, hpp⟩, ⟨lb, hb, hbl, hbb⟩⟩ := hL
  unfold f1_copyLine
  rw [gr_k hE.1 hE.2.1.2.1, Option.bind_some, gr_k hF.1 hF.2.1.2.1, Option.bind_some, cal_k hE.2.2.1.2.1]
  obtain ⟨S1, e1, o1, s1, l1, l1'⟩ := copy_O hW hR hE.2.2.1.2.1 hp (by omega) hw3
  have s1' : Sg z (fun x => x = e + 3) (cpyC S (e + 3) (w + 3)) S S1 := Sg_mono hW s1 (fun _ hx => hx) (by
    unfold cpyC
    have := szO_L hp
    split <;> omega)
  have hE1 := EdS_Sg hW hE s1
  have hF1 := EdS_Sg hW hF s1
  rw [e1, Option.bind_some, gr_k hE1.1 hE1.2.1.2.2.1, Option.bind_some, gr_k hF1.1 hF1.2.1.2.2.1, Option.bind_some, cal_k hE1.2.2.1.2.2.1]
  have hb1 := OpL_Fo hW hb s1.2.1 (show ¬ w + 5 = e + 3 by omega)
  have sz1 : szO S1 (w + 5) = szO S (w + 5) := by unfold szO; rw [fld_Fo hW (OpL_kd hb) (by omega) s1.2.1 (show ¬ w + 5 = e + 3 by omega)]
  have ln1 : lenO S1 (e + 5) = lenO S (e + 5) := lenO_Fo hW hE.2.2.1.2.2.1 s1.2.1 (show ¬ e + 5 = e + 3 by omega)
  obtain ⟨S2, e2, o2, s2, l2, l2'⟩ := copy_O s1.1 (Rm_step (by rw [← Nat.add_assoc]; exact hR) s1') hE1.2.2.1.2.2.1 hb1 (by omega) hw5
  have s2' : Sg z (fun x => x = e + 5) (cpyC S (e + 5) (w + 5)) S1 S2 := Sg_mono s1.1 s2 (fun _ hx => hx) (by
    unfold cpyC
    have := szO_L hb1
    rw [sz1, ln1]
    rw [sz1] at this
    split <;> omega)
  have hE2 := EdS_Sg s1.1 hE1 s2
  have hF2 := EdS_Sg s1.1 hF1 s2
  rw [e2, Option.bind_some, gr_k hF2.1 hF2.2.1.2.2.2.2.2.2, Option.bind_some, gr_k hE2.1 hE2.2.1.2.2.2.2.2.2, Option.bind_some, Option.bind_some, aln_k hE2.2.2.2.2.1, hE2.2.2.2.2.2, Option.bind_some, show (0 : Int32) = nI 0 from rfl, cpy_g hF2.2.2.2.2.1 hE2.2.2.2.2.1 (by have := hF2.2.2.2.2.2; omega) (by have := hE2.2.2.2.2.2; omega) (by have := hF2.2.2.2.2.2; omega) (by have := hE2.2.2.2.2.2; omega), Option.bind_some]
  have ne1 : ¬ w = e + 3 := by omega
  have fw : cI S2 w = cI S w := by rw [fld_Fo s1.1 hF1.1 (by omega) s2.2.1 (show ¬ w = e + 5 by omega), fld_Fo hW hF.1 (by omega) s1.2.1 (show ¬ w = e + 3 by omega)]
  have fe : cI S2 e = cI S e := by rw [fld_Fo s1.1 hE1.1 (by omega) s2.2.1 (show ¬ e = e + 5 by omega), fld_Fo hW hE.1 (by omega) s1.2.1 (show ¬ e = e + 3 by omega)]
  have aw : cA S2 (w + 44) = cA S (w + 44) := by rw [arr_Fo s1.1 hF1.2.1.2.2.2.2.2.2 hF1.2.2.2.2.1 s2.2.1 (show ¬ w = e + 5 by omega), arr_Fo hW hF.2.1.2.2.2.2.2.2 hF.2.2.2.2.1 s1.2.1 (show ¬ w = e + 3 by omega)]
  have ae : cA S2 (e + 43) = cA S (e + 43) := by rw [arr_Fo s1.1 hE1.2.1.2.2.2.2.2.1 hE1.2.2.2.1.1 s2.2.1 (show ¬ e = e + 5 by omega), arr_Fo hW hE.2.1.2.2.2.2.2.1 hE.2.2.2.1.1 s1.2.1 (show ¬ e = e + 3 by omega)]
  have s3 : Sg z (fun x => x = e) 0 S2 (setA S2 (e + 44) (va_cpy (cA S2 (w + 44)) (cA S2 (e + 44)) 0 0 100)) := Sg_setA s2.1 rfl hE2.2.1.2.2.2.2.2.2
  generalize hS3 : setA S2 (e + 44) (va_cpy (cA S2 (w + 44)) (cA S2 (e + 44)) 0 0 100) = S3 at s3 ⊢
  have k3 : ∀ x, kd S3 x = kd S2 x := fun x => by rw [← hS3]; rfl
  have i3 : cI S3 = cI S2 := by rw [← hS3]; rfl
  have a3 : cA S3 (e + 44) = va_cpy (cA S2 (w + 44)) (cA S2 (e + 44)) 0 0 100 := by rw [← hS3]; exact cA_self _ _ _
  have a3' : cA S3 (e + 43) = cA S2 (e + 43) := by rw [← hS3]; exact va_up_ne _ _ (by omega)
  have kw : kd S3 w = 1 := by rw [k3]; exact hF2.1
  have ke : kd S3 e = 1 := by rw [k3]; exact hE2.1
  have vw : ∀ k, cI S3 w k = cI S w k := fun k => by rw [i3, fw]
  have new : w ≠ e := by omega
  rw [gi_k kw, vw, n8, Option.bind_some, pi_k ke, Option.bind_some]
  rw [gi_k (S := setI S3 e 8 _) kw, show cI (setI S3 e 8 (nI (eRev E))) w 10 = nI (eDel E) from by rw [cI_set, if_neg (by omega), vw]; exact n10, Option.bind_some, pi_k (S := setI S3 e 8 _) ke, Option.bind_some]
  rw [gi_k (S := setI (setI S3 e 8 _) e 10 _) kw, show cI (setI (setI S3 e 8 (nI (eRev E))) e 10 (nI (eDel E))) w 11 = oI (eLft E) from by rw [cI_set, if_neg (by omega), cI_set, if_neg (by omega), vw]; exact n11, Option.bind_some, pi_k (S := setI (setI S3 e 8 _) e 10 _) ke, Option.bind_some]
  generalize hS4 : setI (setI (setI S3 e 8 (nI (eRev E))) e 10 (nI (eDel E))) e 11 (oI (eLft E)) = S4
  have k4 : ∀ x, kd S4 x = kd S3 x := fun x => by rw [← hS4]; rfl
  have w4 : ∀ k, cI S4 w k = cI S w k := fun k => by rw [← hS4, cI_set, if_neg (by omega), cI_set, if_neg (by omega), cI_set, if_neg (by omega), vw]
  have kw4 : kd S4 w = 1 := by rw [k4]; exact kw
  have ke4 : kd S4 e = 1 := by rw [k4]; exact ke
  rw [gi_k kw4, w4, n12, Option.bind_some, bz_bI, Option.bind_some, pi_k ke4, Option.bind_some]
  rw [gi_k (S := setI S4 e 12 _) kw4, show cI (setI S4 e 12 (bI (ePnd E).isSome)) w 13 = bI (eBuf E).isSome from by rw [cI_set, if_neg (by omega), w4]; exact n13, Option.bind_some, bz_bI, Option.bind_some, pi_k (S := setI S4 e 12 _) ke4, Option.bind_some]
  rw [gi_k (S := setI (setI S4 e 12 _) e 13 _) kw4, show cI (setI (setI S4 e 12 (bI (ePnd E).isSome)) e 13 (bI (eBuf E).isSome)) w 14 = bI (eOn E) from by rw [cI_set, if_neg (by omega), cI_set, if_neg (by omega), w4]; exact n14, Option.bind_some, bz_bI, Option.bind_some, pi_k (S := setI (setI S4 e 12 _) e 13 _) ke4, Option.bind_some]
  have t1 : Sg z (fun x => x = e) 0 S3 S4 := by
    rw [← hS4]
    have u1 : Sg z (fun x => x = e) 0 S3 (setI S3 e 8 (nI (eRev E))) := Sg_setI s3.1 rfl
    have u2 := Sg_trans u1 (Sg_setI (k := 10) (v := nI (eDel E)) u1.1 rfl)
    exact Sg_trans u2 (Sg_setI (k := 11) (v := oI (eLft E)) u2.1 rfl)
  have t2 := Sg_trans t1 (Sg_setI (k := 12) (v := bI (ePnd E).isSome) t1.1 rfl)
  have t3 := Sg_trans t2 (Sg_setI (k := 13) (v := bI (eBuf E).isSome) t2.1 rfl)
  have t4 := Sg_trans t3 (Sg_setI (k := 14) (v := bI (eOn E)) t3.1 rfl)
  have st := Sg_trans s3 t4
  generalize hS5 : setI (setI (setI S4 e 12 (bI (ePnd E).isSome)) e 13 (bI (eBuf E).isSome)) e 14 (bI (eOn E)) = S5 at st ⊢
  have vI : ∀ k, cI S5 e k = if k = 14 then bI (eOn E) else if k = 13 then bI (eBuf E).isSome else if k = 12 then bI (ePnd E).isSome else if k = 11 then oI (eLft E) else if k = 10 then nI (eDel E) else if k = 8 then nI (eRev E) else cI S e k := fun k => by
    rw [← hS5, cI_set, cI_set, cI_set, ← hS4, cI_set, cI_set, cI_set, i3, fe]
    simp only [true_and]
  have aI : cA S5 = cA S3 := by rw [← hS5, ← hS4]; rfl
  have nh : ∀ x, x ≠ e → ¬ x = e := fun x hx => hx
  have o1' := OpL_Fo s1.1 o1 s2.2.1 (show ¬ e + 3 = e + 5 by omega)
  refine ⟨S5, rfl, ⟨EdS_Sg s2.1 hE2 st, ⟨?_, ?_, ?_, ?_, ?_, ?_⟩, fun i hi => ?_, ⟨lp, OpL_Fo s2.1 o1' st.2.1 (show ¬ e + 3 = e by omega), hpl, hpp⟩, ⟨lb, OpL_Fo s2.1 o2 st.2.1 (show ¬ e + 5 = e by omega), hbl, hbb⟩⟩, fun k hk => ?_, ?_, ⟨?_, ?_, ?_, ?_⟩, ?_⟩
  · rw [vI]; rfl
  · rw [vI]; rfl
  · rw [vI]; rfl
  · rw [vI]; rfl
  · rw [vI]; rfl
  · rw [vI]; rfl
  · rw [aI, a3]
    unfold va_cpy
    rw [if_pos (by omega), aw, Nat.zero_add, Nat.sub_zero]
    exact hC i hi
  · rw [vI, if_neg (by omega), if_neg (by omega), if_neg (by omega), if_neg (by omega), if_neg (by omega), if_neg (by omega)]
  · rw [aI, a3', ae]
  · rw [lenO_Fo s2.1 hE2.2.2.1.2.1 st.2.1 (show ¬ e + 3 = e by omega), lenO_Fo s1.1 hE1.2.2.1.2.1 s2.2.1 (show ¬ e + 3 = e + 5 by omega)]; exact l1
  · rw [lenO_Fo s2.1 hE2.2.2.1.2.2.1 st.2.1 (show ¬ e + 5 = e by omega), ← sz1]; exact l2
  · rw [lenO_Fo s2.1 hE2.2.2.1.2.1 st.2.1 (show ¬ e + 3 = e by omega), lenO_Fo s1.1 hE1.2.2.1.2.1 s2.2.1 (show ¬ e + 3 = e + 5 by omega)]; exact l1'
  · rw [lenO_Fo s2.1 hE2.2.2.1.2.2.1 st.2.1 (show ¬ e + 5 = e by omega), ← ln1]; exact l2'
  · have q1 := Sg_mono hW s1' (H' := He e) (fun x hx => Or.inr (Or.inl hx)) (Nat.le_refl _)
    have q2 := Sg_mono s1.1 s2' (H' := He e) (fun x hx => Or.inr (Or.inr hx)) (Nat.le_refl _)
    have q3 := Sg_mono s2.1 st (H' := He e) (fun x hx => Or.inl hx) (Nat.le_refl _)
    have q4 := Sg_trans (Sg_trans q1 q2) q3
    exact q4
