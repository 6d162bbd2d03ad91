/-! ===== PART II, the class: chance ===== -/
theorem putsL_app (a b : List Int32) : putsL (a ++ b) = putsL a + putsL b := by
  induction a with
  | nil => exact (Nat.zero_add _).symm
  | cons v a ih => rw [List.cons_append, putsL, putsL, ih]; omega
theorem layO_1 {len kept cut : Nat} {l : Int32} (h : (l = 0 ∧ cut = 1) ∨ (okP l ∧ cut = 0)) : putsL (layO len kept l cut) + cutsN (layO len kept l cut) ≤ 1 := by
  have r0 : ∀ n, putsL (List.replicate n (0 : Int32)) = 0 ∧ cutsN (List.replicate n (0 : Int32)) = 0 := by
    intro n
    induction n with
    | zero => exact ⟨rfl, rfl⟩
    | succ n ih =>
      rw [List.replicate_succ]
      have := cnt0 (List.replicate n (0 : Int32))
      omega
  have ap : ∀ (l m : List Int32), putsL (l ++ m) = putsL l + putsL m ∧ cutsN (l ++ m) = cutsN l + cutsN m := fun l m => ⟨putsL_app l m, cutsN_app l m⟩
  unfold layO
  rw [(ap _ _).1, (ap _ _).2, (ap _ _).1, (ap _ _).2, (ap _ _).1, (ap _ _).2, (r0 kept).1, (r0 kept).2, (r0 _).1, (r0 _).2]
  rcases h with ⟨rfl, rfl⟩ | ⟨h1, rfl⟩
  · decide
  · obtain ⟨w, w1, w2, rfl⟩ := h1
    have : ∀ w : Fin 27, 1 ≤ w.1 → putsL (if nI w.1 ≤ (0 : Int32) then [] else [nI w.1]) + cutsN (if nI w.1 ≤ (0 : Int32) then [] else [nI w.1]) ≤ 1 := by decide
    have h := this ⟨w, by omega⟩ w1
    show 0 + (putsL (if nI w ≤ (0 : Int32) then [] else [nI w]) + (putsL [] + 0)) + (0 + (cutsN (if nI w ≤ (0 : Int32) then [] else [nI w]) + (cutsN [] + 0))) ≤ 1
    have e1 : putsL [] = 0 := rfl
    have e2 : cutsN [] = 0 := rfl
    dsimp only at h
    omega
section AK
variable {S S' : CS} {z fi ch c c0 : Nat} {A A' : St} {K K' : Nat → Option Nat} {H : Nat → Prop} {X : Nat × Nat}
theorem st_Sg (h : CR S z A K fi ch) (hs : Sg z H c S S') (hn : ¬ H (z + 599)) : cI S' (z + 599) 9 = cI S (z + 599) 9 := by
  rw [fld_Fo h.1 h.2.1.2.2.2.2.2.1.1 (by omega) hs.2.1 hn]
theorem phi_edit {i : Nat} {P : List Int32} (hg : GA A) (hi : i < aCnt A) (hok : okO P) (ho : oldL P = (eTxt (wE (aW A) i)).length) (h1 : putsL P + cutsN P ≤ 1) : phi (aCnt A) (edW A i (wE (aW A) i) P 0) ≤ phi (aCnt A) (aW A) + 3 := by
  obtain ⟨e1, e2, e3, e4, e5, e6, e7, _⟩ := hg.2.2.1.2.2.2.2.2.2.2.2 i hi
  have hE : phE (editE (wE (aW A) i) P 0) ≤ phE (wE (aW A) i) + 3 := by
    refine phE_edit hok ho h1 (fun b hb => ?_) (fun hn => ?_)
    · rw [hb] at e6
      cases hp : ePnd (wE (aW A) i) with
      | none => rw [hp] at e6; exact e6.elim
      | some p => rw [hp] at e6; exact ⟨e6.2.1, by rw [ho]; exact e6.2.2.2.2⟩
    · rw [hn] at e6 e7
      refine ⟨?_, ?_⟩
      · cases hl : eLft (wE (aW A) i) with
        | none => rfl
        | some k => rw [hl] at e7; exact e7.elim
      · cases hb : eBuf (wE (aW A) i) with
        | none => rfl
        | some b => rw [hb] at e6; exact e6.elim
  have key : ∀ n, n ≤ aCnt A → sumN (fun j => phE (wE (edW A i (wE (aW A) i) P 0) j)) n ≤ sumN (fun j => phE (wE (aW A) j)) n + (if i < n then 3 else 0) := by
    intro n
    induction n with
    | zero => intro _; exact Nat.zero_le _
    | succ n ih =>
      intro hn
      have := ih (by omega)
      rw [sumN, sumN]
      show _ + phE (if n = i then editE (wE (aW A) i) P 0 else wE (aW A) n) ≤ _
      by_cases hni : n = i
      · subst hni
        rw [if_pos rfl, if_pos (by omega)]
        rw [if_neg (by omega)] at this
        omega
      · rw [if_neg hni]
        by_cases hin : i < n
        · rw [if_pos hin] at this
          rw [if_pos (by omega)]
          omega
        · rw [if_neg hin] at this
          rw [if_neg (by omega)]
          omega
  have := key (aCnt A) (Nat.le_refl _)
  rw [if_pos hi] at this
  exact this
theorem plE_C {i : Nat} {P : List Int32} (h : CR S z A K fi ch) (hg : GA A) (hst : cI S (z + 599) 9 ≠ nI ch) (hR : Rm z X c S) (hi : i < aCnt A) (hO : OpL S (z + 654) P) (hok : okO P) (ho : oldL P = (eTxt (wE (aW A) i)).length) (hl : P.length ≤ 100000) (h1 : putsL P + cutsN P ≤ 1) :
    ∃ S', ((gr S 11 z 3).bind fun a18 => (gr S 11 z 7).bind fun a19 => (cal S 10 a18 (f10_canEdit S a18 a19)).bind fun v20 => (if v20 = 0 then some S else ((gr S 11 z 3).bind fun a23 => (gr S 11 z 7).bind fun a24 => (cal S 10 a23 (f10_editPlainly X S a23 (z + 227 + 5 + 45 * i) a24)).bind fun S25 => some S25)).bind fun S21 => some S21) = some S' ∧ CR S' z (plE A i P).2 K fi ch ∧ cI S' (z + 599) 9 ≠ nI ch ∧ GA (plE A i P).2 ∧ phi (aCnt A) (aW (plE A i P).2) ≤ phi (aCnt A) (aW A) + 3 ∧ Cst z 0 S S' := by
  obtain ⟨t0, t1, t2, t3, t4, t5, t6, t7, t8, t9⟩ := TpS_g h.2.1
  have hc4 := hg.2.2.1.1
  rw [t3, t7]
  simp only [Option.bind_some]
  rw [can_C h hg hO hl, Option.bind_some]
  unfold plE
  by_cases hcan : canE A P = true
  · obtain ⟨p1, p2⟩ := canE_of hcan
    obtain ⟨b1, b2, b3, b4, _⟩ := ed_bounds hg.2.2.1 hi hok ho p1
    have hsz := szO_w hO b4
    have hw : wgt (some P) ≤ 3 := by simp only [wgt]; omega
    obtain ⟨S9, e9, ⟨C9, st9⟩, s9⟩ := edP_C (X := X) (c0 := 0) (c := c) h hg hst (by rw [Nat.zero_add]; exact hR) (fun hx => by omega) hi hO hok ho p1
    rw [hcan, if_neg (show ¬ bI true = 0 by decide), if_pos rfl, e9, Option.bind_some, Option.bind_some]
    exact ⟨S9, rfl, C9, st9, GA_world hg (by omega) (Good_ed0 hg hi hok ho hcan) hg.2.2.2.2.1 (List.prefix_refl _), phi_edit hg hi hok ho h1, Cst_of s9⟩
  · have hcf : canE A P = false := by cases hh : canE A P <;> simp_all
    rw [hcf, if_pos (show bI false = 0 from rfl), if_neg (by decide), Option.bind_some]
    exact ⟨S, rfl, h, hst, hg, by show phi (aCnt A) (aW A) ≤ _; omega, Cst_rf z S⟩
def DrR (z : Nat) (K : Nat → Option Nat) (fi ch : Nat) (A : St) (S : CS) (o : Option CS) (A' : St) : Prop := ∃ S' c', o = some S' ∧ CR S' z A' K fi ch ∧ cI S' (z + 599) 9 ≠ nI ch ∧ GA A' ∧ c' + phi (aCnt A) (aW A') ≤ phi (aCnt A) (aW A) + 3 ∧ Cst z c' S S'
theorem drawn_C (h : CR S z A K fi ch) (hg : GA A) (hst : cI S (z + 599) 9 ≠ nI ch) (hc : 0 < aCnt A) (hR : Rm z X (phi (aCnt A) (aW A) + c) S) : DrR z K fi ch A S (cal S 11 z (f11_changeBySeed X S z)) (drawn A).2 := by
  have hc4 := hg.2.2.1.1
  have htk := hg.2.2.2.2.1
  have hs1 := seedN_lt (aSeed A)
  have g1 := GA_seed hg hs1
  have hway : seedN (aSeed A) / 64 % 4 < 4 := Nat.mod_lt _ (by omega)
  obtain ⟨S2, d1, C2, q2, s2⟩ := draw_C (k := 4) h hg (by omega) (by omega)
  have d1' : cal S 11 z (f11_draw S z 4) = some (nI (seedN (aSeed A) / 64 % 4), S2) := d1
  have st2 : cI S2 (z + 599) 9 ≠ nI ch := by rw [q2]; exact hst
  have R2 : Rm z X (phi (aCnt A) (aW A) + c) S2 := Rm_step (c := 0) (d := phi (aCnt A) (aW A) + c) (by rw [Nat.zero_add]; exact hR) s2
  rw [cal_k h.2.1.1]
  unfold f11_changeBySeed drawn
  rw [d1', bn2_s]
  generalize hA1 : sSd A (seedN (aSeed A)) = A1 at *
  have hW1 : aW A1 = aW A := by rw [← hA1]; exact sSd_W _ _
  have hC1 : aCnt A1 = aCnt A := by rw [← hA1]; exact sSd_C _ _
  have hT1 : aTies A1 = aTies A := by rw [← hA1]; exact sSd_T _ _
  generalize seedN (aSeed A) / 64 % 4 = way at *
  dsimp only
  obtain ⟨t0, t1, t2, t3, t4, t5, t6, t7, t8, t9⟩ := TpS_g C2.2.1
  have hwd2 := C2.2.2.2.2.2.1
  by_cases w3 : way = 3
  · subst w3
    rw [if_pos (show nI 3 = (3 : Int32) from rfl), if_pos rfl, t3, Option.bind_some, cal_k hwd2.1.1, canTick_W hwd2.1 hwd2.2.1 (by omega) (by rw [hW1]; exact htk), Option.bind_some]
    by_cases ht : wTk (aW A) < 999
    · obtain ⟨S45, c9, e9, C9, st9, p9, k9, _⟩ := world_tick (X := X) (c := c) C2 g1 st2 (by rw [hC1, hW1]; exact R2)
      have hg9 : GA (sWd A1 (tickW (aTies A1) (aCnt A1) (aW A1))) := GA_world g1 (by omega) (Good_tick (GA_good g1)) (by show wTk (aW A1) + 1 ≤ 999; rw [hW1]; omega) (tick_pre _ _ _)
      rw [hC1, hT1, hW1] at C9 hg9 p9
      rw [decide_eq_true (by rw [hC1, hW1]; exact ⟨hc, ⟨by decide, by decide⟩, by rw [show (1 : Int32).toInt = 1 from by decide]; omega⟩), if_neg (show ¬ bI true = 0 by decide), Option.bind_some, e9, Option.bind_some, Option.bind_some, if_pos ht]
      exact ⟨S45, c9, rfl, C9, st9, hg9, by show c9 + phi (aCnt A) (tickW (aTies A) (aCnt A) (aW A)) ≤ _; omega, by have := Cst_tr (Cst_of s2) k9; rw [Nat.zero_add] at this; exact this⟩
    · rw [decide_eq_false (by rw [hW1, show (1 : Int32).toInt = 1 from by decide]; omega), if_pos (show bI false = 0 from rfl), Option.bind_some, if_neg ht]
      exact ⟨S2, 0, rfl, C2, st2, g1, by rw [hW1]; omega, Cst_of s2⟩
  · rw [if_neg (show ¬ nI way = (3 : Int32) from by rw [show (3 : Int32) = nI 3 from rfl, nI_eq (by omega) (by omega)]; exact w3), if_neg w3, t3, Option.bind_some, gi_k hwd2.1.1, hwd2.2.1.1, hC1, Option.bind_some]
    have hs2 := seedN_lt (aSeed A1)
    have g2 := GA_seed g1 hs2
    obtain ⟨S6, d2, C6, q6, s6⟩ := draw_C (k := aCnt A) C2 g1 hc (by omega)
    have st6 : cI S6 (z + 599) 9 ≠ nI ch := by rw [q6]; exact st2
    rw [d2, bn2_s]
    have hi : seedN (aSeed A1) / 64 % aCnt A < aCnt A := Nat.mod_lt _ hc
    generalize hA2 : sSd A1 (seedN (aSeed A1)) = A2 at *
    have hW2 : aW A2 = aW A := by rw [← hA2]; exact (sSd_W _ _).trans hW1
    have hC2 : aCnt A2 = aCnt A := by rw [← hA2]; exact (sSd_C _ _).trans hC1
    generalize seedN (aSeed A1) / 64 % aCnt A = i at *
    obtain ⟨v0, v1, v2, v3, v4, v5, v6, v7, v8, v9⟩ := TpS_g C6.2.1
    have hwd6 := C6.2.2.2.2.2.1
    have hlen := (Good_Bd (GA_good hg) hi).1
    have hE6 := (hwd6.2.2.2.2.2 i (by omega)).2 (by omega)
    rw [hW2] at hE6
    have tx6 := (hE6.2 rfl).1.1
    have s26 : Sg z (fun y => y = z) 0 S S6 := by have := Sg_trans s2 s6; exact this
    have R6 : Rm z X (phi (aCnt A) (aW A) + c) S6 := Rm_step (c := 0) (d := phi (aCnt A) (aW A) + c) (by rw [Nat.zero_add]; exact hR) s26
    rw [v3, Option.bind_some, kn_C C6 g2, Option.bind_some, decide_eq_true (by rw [nI_toInt (by omega), hC2]; omega), if_neg (show ¬ bI true = 0 by decide), Option.bind_some, gr_k hwd6.1.1 hwd6.1.2.1.2.2.2.1, Option.bind_some, ed_at hwd6.1 (show i < 4 by omega), Option.bind_some, gr_k hE6.1.1.1 hE6.1.1.2.1.1, Option.bind_some, TxL_sz tx6, Option.bind_some]
    have hs3 := seedN_lt (aSeed A2)
    have g3 := GA_seed g2 hs3
    have hW3 : aW (sSd A2 (seedN (aSeed A2))) = aW A := (sSd_W _ _).trans hW2
    have hC3 : aCnt (sSd A2 (seedN (aSeed A2))) = aCnt A := (sSd_C _ _).trans hC2
    by_cases w2 : way = 2
    · subst w2
      rw [if_pos (show (2 : Int32) ≤ nI 2 by decide), if_pos rfl]
      by_cases hz : (eTxt (wE (aW A) i)).length = 0
      · rw [hz, if_pos (show nI 0 ≤ (0 : Int32) by decide), if_pos rfl]
        exact ⟨S6, 0, rfl, C6, st6, g2, by rw [hW2]; omega, Cst_of s26⟩
      · obtain ⟨S16, d3, C16, q16, s16⟩ := draw_C (k := (eTxt (wE (aW A) i)).length) C6 g2 (by omega) (by omega)
        have hpl : seedN (aSeed A2) / 64 % (eTxt (wE (aW A) i)).length < (eTxt (wE (aW A) i)).length := Nat.mod_lt _ (by omega)
        rw [if_neg (z_nle (by omega) (by omega)), if_neg hz, v7, Option.bind_some, d3, bn2_s]
        generalize hA3 : sSd A2 (seedN (aSeed A2)) = A3 at *
        generalize seedN (aSeed A2) / 64 % (eTxt (wE (aW A) i)).length = pl at *
        have s1 : Sg z (fun y => y = z) 0 S S16 := by have := Sg_trans s26 s16; exact this
        have R16 : Rm z X (phi (aCnt A) (aW A) + c) S16 := Rm_step (c := 0) (d := phi (aCnt A) (aW A) + c) (by rw [Nat.zero_add]; exact hR) s1
        obtain ⟨S17, e9, o9, s9⟩ := buildCut_L (z := z) (X := X) (at' := pl) (n := 1) (len := (eTxt (wE (aW A) i)).length) C16.1 R16 (grw_n (op_n z)) C16.2.1.2.2.2.2.2.2.2.2.1 (by omega) (by omega) (by omega)
        have C17 := CR_op C16 g3 s9
        have st17 : cI S17 (z + 599) 9 ≠ nI ch := by rw [st_Sg C16 s9 (by omega), q16]; exact st6
        obtain ⟨L1, L2, L3⟩ := lay_cnt (len := (eTxt (wE (aW A) i)).length) (kept := pl) (cut := 1) (letter := 0) (by omega) (Or.inl (by decide))
        obtain ⟨x0, x1, x2, x3, x4, x5, x6, x7, x8, x9⟩ := TpS_g C17.2.1
        obtain ⟨S', r1, r2, r3, r4, r5, r6⟩ := plE_C (X := X) (c := c) (i := i) C17 g3 st17 (Rm_mono (Rm_step (c := 0) (d := phi (aCnt A) (aW A) + c) (by rw [Nat.zero_add]; exact R16) s9) (by omega)) (by omega) o9 L1 (by rw [hW3]; exact L2) (by omega) (layO_1 (Or.inl ⟨rfl, rfl⟩))
        rw [hC3, hW3] at r5
        rw [cal_k C16.2.1.2.2.2.2.2.2.2.2.1, show f4_buildCut X S16 (z + 654) (nI pl) 1 (nI (eTxt (wE (aW A) i)).length) = some S17 from e9, Option.bind_some]
        refine ⟨S', 0, r1, r2, r3, r4, by omega, ?_⟩
        have := Cst_tr (Cst_tr (Cst_of s1) (Cst_of s9)) r6
        exact this
    · rw [if_neg (show ¬ (2 : Int32) ≤ nI way from nI_ge (b := 2) (by omega) (by omega)), if_neg w2, nI_1]
      obtain ⟨S27, d3, C27, q27, s27⟩ := draw_C (k := (eTxt (wE (aW A) i)).length + 1) C6 g2 (by omega) (by omega)
      have hpl : seedN (aSeed A2) / 64 % ((eTxt (wE (aW A) i)).length + 1) < (eTxt (wE (aW A) i)).length + 1 := Nat.mod_lt _ (by omega)
      rw [d3, bn2_s]
      generalize hA3 : sSd A2 (seedN (aSeed A2)) = A3 at *
      generalize seedN (aSeed A2) / 64 % ((eTxt (wE (aW A) i)).length + 1) = pl at *
      have hs4 := seedN_lt (aSeed A3)
      have g4 := GA_seed g3 hs4
      have hW4 : aW (sSd A3 (seedN (aSeed A3))) = aW A := (sSd_W _ _).trans hW3
      have hC4 : aCnt (sSd A3 (seedN (aSeed A3))) = aCnt A := (sSd_C _ _).trans hC3
      obtain ⟨S30, d4, C30, q30, s30⟩ := draw_C (k := 26) C27 g3 (by omega) (by omega)
      have d4' : cal S27 11 z (f11_draw S27 z 26) = some (nI (seedN (aSeed A3) / 64 % 26), S30) := d4
      have hlt : seedN (aSeed A3) / 64 % 26 < 26 := Nat.mod_lt _ (by omega)
      rw [(TpS_g C27.2.1).2.2.2.2.2.2.2.1, Option.bind_some, d4', bn2_s, nI_1]
      generalize hA4 : sSd A3 (seedN (aSeed A3)) = A4 at *
      generalize seedN (aSeed A3) / 64 % 26 = lt at *
      have s1 : Sg z (fun y => y = z) 0 S S30 := by have := Sg_trans (Sg_trans s26 s27) s30; exact this
      have R30 : Rm z X (phi (aCnt A) (aW A) + c) S30 := Rm_step (c := 0) (d := phi (aCnt A) (aW A) + c) (by rw [Nat.zero_add]; exact hR) s1
      obtain ⟨S31, e9, o9, s9⟩ := buildPut_L (z := z) (X := X) (at' := pl) (w := lt + 1) (len := (eTxt (wE (aW A) i)).length) C30.1 R30 (grw_n (op_n z)) C30.2.1.2.2.2.2.2.2.2.2.1 (by omega) (by omega) (by omega) (by omega)
      have C31 := CR_op C30 g4 s9
      have st31 : cI S31 (z + 599) 9 ≠ nI ch := by rw [st_Sg C30 s9 (by omega), q30, q27]; exact st6
      have hok : okP (nI (lt + 1)) := ⟨lt + 1, by omega, by omega, rfl⟩
      obtain ⟨L1, L2, L3⟩ := lay_cnt (len := (eTxt (wE (aW A) i)).length) (kept := pl) (cut := 0) (letter := nI (lt + 1)) (by omega) (Or.inr hok)
      obtain ⟨x0, x1, x2, x3, x4, x5, x6, x7, x8, x9⟩ := TpS_g C31.2.1
      obtain ⟨S', r1, r2, r3, r4, r5, r6⟩ := plE_C (X := X) (c := c) (i := i) C31 g4 st31 (Rm_mono (Rm_step (c := 0) (d := phi (aCnt A) (aW A) + c) (by rw [Nat.zero_add]; exact R30) s9) (by omega)) (by omega) o9 L1 (by rw [hW4]; exact L2) (by omega) (layO_1 (Or.inr ⟨hok, rfl⟩))
      rw [hC4, hW4] at r5
      rw [cal_k C30.2.1.2.2.2.2.2.2.2.2.1, show f4_buildPut X S30 (z + 654) (nI pl) (nI (lt + 1)) (nI (eTxt (wE (aW A) i)).length) = some S31 from e9, Option.bind_some]
      refine ⟨S', 0, r1, r2, r3, r4, by omega, ?_⟩
      have := Cst_tr (Cst_tr (Cst_of s1) (Cst_of s9)) r6
      exact this
theorem chance_loopC {N : Nat} {c2 : Int32} (hN : N ≤ 40) : ∀ (d i m : Nat) (A : St) (S : CS), i + d = N → d < m → CR S z A K fi ch → GA A → 0 < aCnt A → cI S (z + 599) 9 ≠ nI ch → Rm z X (phi (aCnt A) (aW A) + 3 * d + c) S →
    ∃ S' c', LX11_chance_48 X z (nI N) c2 m (nI i) S = some S' ∧ CR S' z (chL d A).2 K fi ch ∧ cI S' (z + 599) 9 ≠ nI ch ∧ GA (chL d A).2 ∧ c' ≤ phi (aCnt A) (aW A) + 3 * d ∧ Cst z c' S S' := by
  intro d
  induction d with
  | zero =>
    intro i m A S hi hm h hg hc0 hst hR
    obtain ⟨m, rfl⟩ : ∃ j, m = j + 1 := ⟨m - 1, by omega⟩
    unfold LX11_chance_48
    rw [if_pos (nI_le (by omega) (by omega))]
    exact ⟨S, 0, rfl, h, hst, hg, by omega, Cst_rf z S⟩
  | succ d ih =>
    intro i m A S hi hm h hg hc0 hst hR
    obtain ⟨m, rfl⟩ : ∃ j, m = j + 1 := ⟨m - 1, by omega⟩
    obtain ⟨S2, c1, e1, C2, st2, g2, a4, a5⟩ := drawn_C (X := X) (c := 3 * (d + 1) + c) h hg hst hc0 (Rm_mono hR (by omega))
    have hcc := drawn_cnt A
    obtain ⟨S', c2', e2, b1, b2, b3, b4, b5⟩ := ih (i + 1) m (drawn A).2 S2 (by omega) (by omega) C2 g2 (by rw [hcc]; exact hc0) st2 (by
      rw [hcc]
      exact Rm_cst (c := c1) (d := phi (aCnt A) (aW (drawn A).2) + 3 * d + c) (Rm_mono hR (by omega)) a5)
    unfold LX11_chance_48
    rw [if_neg (nI_ge (by omega) (by omega)), e1, Option.bind_some, nI_1, e2, chL]
    rw [hcc] at b4
    exact ⟨S', c1 + c2', rfl, b1, b2, b3, by omega, Cst_tr a5 b5⟩
theorem plE_ed (A : St) (i : Nat) (op : List Int32) : wEd (aW (plE A i op).2) = wEd (aW A) + (if (plE A i op).1 then 1 else 0) := by
  unfold plE
  split
  · rfl
  · rfl
theorem drawn_ed (A : St) : wEd (aW (drawn A).2) = wEd (aW A) + (if (drawn A).1 then 1 else 0) := by
  unfold drawn
  dsimp only
  split
  · dsimp only
    split
    · rfl
    · rfl
  · split
    · split
      · rfl
      · rw [plE_ed]; rfl
    · rw [plE_ed]; rfl
theorem chL_ed : ∀ (n : Nat) (A : St), wEd (aW (chL n A).2) = wEd (aW A) + (chL n A).1 := by
  intro n
  induction n with
  | zero => intro A; rfl
  | succ n ih =>
    intro A
    rw [chL, ih, drawn_ed]
    show _ = _ + ((if (drawn A).1 then 1 else 0) + (chL n (drawn A).2).1)
    omega
theorem chance_A (h : CR S z A K fi ch) (hg : GA A) (hch : ch < 1000) (hR : Rm z X (117162 * (20 - made K) + (7600 + c)) S) (p : Int32) : ActR z X c ch (f11_chance X S z p) (aChance A p) := by
  obtain ⟨hW, hT, hTp, hTf, hsh, hwd, ha, hk, hh, hc⟩ := id h
  have hc4 := hg.2.2.1.1
  obtain ⟨t0, t1, t2, t3, t4, t5, t6, t7, t8, t9⟩ := TpS_g hT
  unfold f11_chance aChance
  rw [t3, Option.bind_some, gi_k hwd.1.1, hwd.2.1.1, Option.bind_some]
  by_cases h0 : aCnt A = 0
  · rw [h0, if_pos (show nI 0 = (0 : Int32) from rfl), if_neg (fun hh => by omega)]
    exact act_ref (k := 4) h hg (by omega) hR
  · rw [if_neg (nI_ne0 (by omega) (by omega))]
    by_cases h1 : p < 1
    · rw [if_pos h1, if_neg (fun hh => by rw [Int32.lt_iff_toInt_lt, show (1 : Int32).toInt = 1 from by decide] at h1; omega)]
      exact act_ref (k := 4) h hg (by omega) hR
    · rw [if_neg h1]
      rw [Int32.lt_iff_toInt_lt, show (1 : Int32).toInt = 1 from by decide] at h1
      by_cases h2 : p ≤ 40
      · rw [if_pos h2]
        rw [Int32.le_iff_toInt_le, show (40 : Int32).toInt = 40 from by decide] at h2
        rw [if_pos ⟨by omega, by omega, h2⟩, t5, Option.bind_some, Option.bind_some]
        obtain ⟨S6, K', fi', e6, C6, R6, st6, op6⟩ := keep_C (X := X) (c := 2040 + c) h hg hch (Rm_mono hR (by omega))
        have hg6 := GA_keepA hg (by omega)
        obtain ⟨u0, u1, u2, u3, u4, u5, u6, u7, u8, u9⟩ := TpS_g C6.2.1
        have hwd6 := C6.2.2.2.2.2.1
        have hph := phi_le (aCnt A) (aW A) hc4
        have hpn := nI_ofInt (p := p) (by omega)
        have n6 : cI S6 (z + 227) 9 = nI (wEd (aW A)) := hwd6.2.1.2.2.2.1
        obtain ⟨S8, c8, e8, C8, st8, g8, b8, k8⟩ := chance_loopC (z := z) (X := X) (c := 117162 * (20 - made K') + c) (N := p.toInt.toNat) (c2 := nI (wEd (aW A))) (by omega) p.toInt.toNat 0 FU (keepA A) S6 (by omega) (by rw [FU_eq]; omega) C6 hg6 (by show 0 < aCnt A; omega) st6 (Rm_mono R6 (by show phi (aCnt A) (aW A) + 3 * p.toInt.toNat + _ ≤ _; omega))
        rw [← hpn] at e8
        have hwd8 := C8.2.2.2.2.2.1
        have b8' : c8 ≤ phi (aCnt A) (aW A) + 3 * p.toInt.toNat := b8
        have n8 : cI S8 (z + 227) 9 = nI (wEd (aW (chL p.toInt.toNat (keepA A)).2)) := hwd8.2.1.2.2.2.1
        have he : wEd (aW (chL p.toInt.toNat (keepA A)).2) = wEd (aW A) + (chL p.toInt.toNat (keepA A)).1 := chL_ed _ (keepA A)
        rw [e6, Option.bind_some, u3, Option.bind_some, gi_k hwd6.1.1, n6, Option.bind_some, show LX11_chance_48 X z p (nI (wEd (aW A))) FU 0 S6 = some S8 from e8, Option.bind_some, (TpS_g C8.2.1).2.2.2.1, Option.bind_some, gi_k hwd8.1.1, n8, Option.bind_some, nI_sub (by omega), he, Nat.add_sub_cancel_left]
        exact ⟨S8, K', fi', ch + 1, rfl, C8, by omega, Rm_cst (c := c8) (d := 117162 * (20 - made K') + c) (Rm_mono R6 (by omega)) k8⟩
      · rw [if_neg h2, if_neg (fun hh => h2 (by rw [Int32.le_iff_toInt_le, show (40 : Int32).toInt = 40 from by decide]; exact hh.2.2))]
        exact act_ref (k := 4) h hg (by omega) hR
end AK
