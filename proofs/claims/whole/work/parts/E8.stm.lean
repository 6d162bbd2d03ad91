/-! ===== PART II, the class: a statement is read ===== -/
def KeepW (v v' : Tm) : Prop := v.1 ≤ v'.1 ∧ v.2.1 ≤ v'.2.1 ∧ v'.2.2.1 = v.2.2.1 ∧ v'.2.2.2.1 = v.2.2.2.1 ∧ (∀ j, j < v.2.1 → v'.2.2.2.2.2.1 j = v.2.2.2.2.2.1 j) ∧ (∀ j, j < v.1 → v'.2.2.2.2.1 j = v.2.2.2.2.1 j) ∧ (∀ j, j < 4 * v.2.1 → v'.2.2.2.2.2.2 j = v.2.2.2.2.2.2 j)
theorem KeepW_rf (v : Tm) : KeepW v v := ⟨Nat.le_refl _, Nat.le_refl _, rfl, rfl, fun _ _ => rfl, fun _ _ => rfl, fun _ _ => rfl⟩
theorem KeepW_tr {v v' v'' : Tm} (h1 : KeepW v v') (h2 : KeepW v' v'') : KeepW v v'' := by
  obtain ⟨a1, a2, a3, a4, a5, a6, a7⟩ := h1
  obtain ⟨b1, b2, b3, b4, b5, b6, b7⟩ := h2
  exact ⟨by omega, by omega, by rw [b3, a3], by rw [b4, a4], fun j hj => by rw [b5 j (by omega), a5 j hj], fun j hj => by rw [b6 j (by omega), a6 j hj], fun j hj => by rw [b7 j (by omega), a7 j hj]⟩
theorem StmA_keep {f n f' n' : Nat → Int32} {c u u' : Nat} {s : Sm} (h : StmA f n c u s) (hu : u ≤ u') (hf : ∀ j, j < u → f' j = f j) (hn : ∀ j, j < 4 * (c + 1) → n' j = n j) : StmA f' n' c u' s := by
  obtain ⟨h1, h2, h3, h4⟩ := h
  refine ⟨by rw [hn _ (by omega)]; exact h1, fun hh => by rw [hn _ (by omega)]; exact h2 hh, fun hh => ⟨by rw [hn _ (by omega)]; exact (h3 hh).1, by rw [hn _ (by omega)]; exact (h3 hh).2⟩, fun hh => ?_⟩
  obtain ⟨a, a1, a2, a3, a4⟩ := h4 hh
  exact ⟨a, by rw [hn _ (by omega)]; exact a1, by rw [hn _ (by omega)]; exact a2, by omega, fun j hj => by rw [hf _ (by omega)]; exact a4 j hj⟩
theorem body_eq {T : List Int32} {cnt a : Nat} {p : Pz} (h : free p a) : (kindAt T a ≠ 0 → pBody T cnt p = restK T cnt (kindAt T a) (rdr T (kwL (11 + kindAt T a)) a)) ∧ (kindAt T a = 0 → pBd (pBody T cnt p).2 = 1 ∧ pBp (pBody T cnt p).2 = some (lkP T a)) := by
  have hl := free_lk (T := T) h
  have hL := fun (w : List Int32) => take_free (T := T) (w := w) hl
  have h12 := here_kind (T := T) (a := a) (k := 1) (by omega) (by omega)
  have h13 := here_kind (T := T) (a := a) (k := 2) (by omega) (by omega)
  have h14 := here_kind (T := T) (a := a) (k := 3) (by omega) (by omega)
  have h15 := here_kind (T := T) (a := a) (k := 4) (by omega) (by omega)
  have h16 := here_kind (T := T) (a := a) (k := 5) (by omega) (by omega)
  have h17 := here_kind (T := T) (a := a) (k := 6) (by omega) (by omega)
  have h18 := here_kind (T := T) (a := a) (k := 7) (by omega) (by omega)
  have h19 := here_kind (T := T) (a := a) (k := 8) (by omega) (by omega)
  unfold pBody
  dsimp only
  rw [take_free h, h12]
  by_cases k1 : kindAt T a = 1
  · rw [k1]
    exact ⟨fun _ => rfl, fun hh => by omega⟩
  rw [decide_eq_false k1]
  simp only [Bool.false_eq_true, ↓reduceIte]
  rw [hL, here_lk, h13, rdr_lk, lk_lk]
  by_cases k2 : kindAt T a = 2
  · rw [k2]
    exact ⟨fun _ => rfl, fun hh => by omega⟩
  rw [decide_eq_false k2]
  simp only [Bool.false_eq_true, ↓reduceIte]
  rw [hL, here_lk, h14, rdr_lk, lk_lk]
  by_cases k3 : kindAt T a = 3
  · rw [k3]
    exact ⟨fun _ => rfl, fun hh => by omega⟩
  rw [decide_eq_false k3]
  simp only [Bool.false_eq_true, ↓reduceIte]
  rw [hL, here_lk, h15, rdr_lk, lk_lk]
  by_cases k4 : kindAt T a = 4
  · rw [k4]
    exact ⟨fun _ => rfl, fun hh => by omega⟩
  rw [decide_eq_false k4]
  simp only [Bool.false_eq_true, ↓reduceIte]
  rw [hL, here_lk, h16, rdr_lk, lk_lk]
  by_cases k5 : kindAt T a = 5
  · rw [k5]
    exact ⟨fun _ => rfl, fun hh => by omega⟩
  rw [decide_eq_false k5]
  simp only [Bool.false_eq_true, ↓reduceIte]
  rw [hL, here_lk, h17, rdr_lk, lk_lk]
  by_cases k6 : kindAt T a = 6
  · rw [k6]
    exact ⟨fun _ => rfl, fun hh => by omega⟩
  rw [decide_eq_false k6]
  simp only [Bool.false_eq_true, ↓reduceIte]
  rw [hL, here_lk, h18, rdr_lk, lk_lk]
  by_cases k7 : kindAt T a = 7
  · rw [k7]
    exact ⟨fun _ => rfl, fun hh => by omega⟩
  rw [decide_eq_false k7]
  simp only [Bool.false_eq_true, ↓reduceIte]
  have hA : pAsk T (kwL 19) (lkP T a, p.2) = if kindAt T a = 8 then rdr T (kwL 19) a else pFail (lkP T a, p.2) 1 (lkP T a) := by
    unfold pAsk
    rw [if_pos (show pBd ((lkP T a, p.2) : Pz) = 0 from free_bd hl), hL, here_lk, h19, rdr_lk, lk_lk]
    by_cases k8 : kindAt T a = 8
    · rw [if_pos k8, decide_eq_true k8]; rfl
    · rw [if_neg k8, decide_eq_false k8]; rfl
  rw [hA]
  by_cases k8 : kindAt T a = 8
  · rw [if_pos k8, k8]
    exact ⟨fun _ => rfl, fun hh => by omega⟩
  · rw [if_neg k8]
    refine ⟨fun hh => ?_, fun _ => ?_⟩
    · obtain ⟨_, q1, q2⟩ := kind_is (T := T) (a := a) hh
      omega
    · rw [num_bad (show pBd (pFail ((lkP T a, p.2) : Pz) 1 (lkP T a)) ≠ 0 from fail_is (by omega)), fail_g1 (free_bd h)]
      exact ⟨rfl, rfl⟩
/-- a digit right behind the keyword -/
theorem rest_side {T : List Int32} {cnt m : Nat} {p : Pz} (hb : pBd p = 0) (he : pEd p = some (pAt p)) (hd : isDg (byteAt T (pAt p)) = true) : pBd (restK T cnt m p).2 = 1 ∧ pBp (restK T cnt m p).2 = some (pAt p) := by
  have hn := fun lo hi => num_side (lo := lo) (hi := hi) hb he hd
  have hx : ∀ lo hi, pBd (pNum T lo hi p).2 ≠ 0 := fun lo hi => by rw [(hn lo hi).1]; omega
  unfold restK
  split
  · dsimp only; rw [num_bad (hx _ _)]; exact hn _ _
  split
  · dsimp only; exact hn _ _
  split
  · dsimp only; rw [op_bad (hx _ _)]; exact hn _ _
  split
  · dsimp only; rw [num_bad (hx _ _)]; exact hn _ _
  split
  · dsimp only; rw [num_bad (hx _ _), num_bad (hx _ _), num_bad (hx _ _)]; exact hn _ _
  split
  · dsimp only; exact hn _ _
  split
  · dsimp only; exact hn _ _
  · dsimp only; exact hn _ _
section T8
variable {S S' S'' : CS} {z i k q : Nat} {T : List Int32} {v : Tm}
theorem sign_P (h : PR S z T i v) : ∃ S' r, cal S 8 (z + 1) (f8_readSign S (z + 1) 59) = some (r, S') ∧ ((r = 1 ∧ byteAt T (lkP T i) = 59 ∧ OK8 z S S' T (lkP T i + 1) v) ∨ (r = 0 ∧ byteAt T (lkP T i) ≠ 59 ∧ BD8 z S S' 1 (lkP T i))) := by
  obtain ⟨S1, r1, r2⟩ := skip_P h
  have hlook := look_P r2.1
  rw [cal_k (PR_k h)]
  unfold f8_readSign
  rw [r1, Option.bind_some, hlook, Option.bind_some]
  by_cases hc : byteAt T (lkP T i) = 59
  · have hi : lkP T i < T.length := Decidable.byContradiction fun hh => by
      rw [byte_end (by omega)] at hc; exact absurd hc (by decide)
    have h3 := PR_at (i' := lkP T i + 1) r2.1 (by omega)
    rw [if_pos hc, gi_P r2.1, Option.bind_some, nI_1, pi_k (PR_k r2.1), Option.bind_some]
    exact ⟨_, 1, rfl, Or.inl ⟨rfl, hc, OK8_tr r2 h3⟩⟩
  · obtain ⟨S7, y1, y2⟩ := fail_P r2.1 1 (lkP T i)
    rw [if_neg hc, gi_P r2.1, Option.bind_some, show cal S1 8 (z + 1) (f8_fail S1 (z + 1) 1 (nI (lkP T i))) = some (0, S7) from y1, bn2_s]
    exact ⟨S7, 0, rfl, Or.inr ⟨rfl, hc, BD8_tr r2 y2⟩⟩
theorem askS_no {p : Pz} (hb : pBd p = 0) (hc : byteAt T (lkP T (pAt p)) ≠ 59) : pBd (pAskS T 59 p) = 1 ∧ pBp (pAskS T 59 p) = some (lkP T (pAt p)) := by
  unfold pAskS
  rw [if_pos hb, sign_no hb hc, if_neg (fun hh => Bool.noConfusion hh), fail_g1 hb]
  exact ⟨rfl, rfl⟩
theorem askS_yes {p : Pz} (hb : pBd p = 0) (hc : byteAt T (lkP T (pAt p)) = 59) : pAskS T 59 p = (lkP T (pAt p) + 1, p.2) := by
  unfold pAskS
  rw [if_pos hb, sign_yes hb hc, if_pos rfl]
/-- the kind is kept -/
theorem kind_P {x : Int32} (h : PR S z T i v) (hc : v.2.1 < 60) : ∃ S', (gr S 8 (z + 1) 9) = some (z + 4) ∧ gi S 8 (z + 1) 4 = some (nI v.2.1) ∧ sti S (z + 4) (nI v.2.1) x = some S' ∧ OK8 z S S' T i (v.1, v.2.1, v.2.2.1, v.2.2.2.1, v.2.2.2.2.1, upd v.2.2.2.2.2.1 v.2.1 x, v.2.2.2.2.2.2) := by
  obtain ⟨⟨hW, hT⟩, ⟨h1, h2⟩, h3, h4, ⟨h5, h6, h7, h8⟩, ⟨h9, h9b, h9c⟩, h10, h11⟩ := id h
  obtain ⟨b0, b1, b2, b3, b4⟩ := hT.2.2.1
  obtain ⟨_, _, ⟨c4, c5⟩, _⟩ := hT.2.2.2.1
  have s1 : Sg z (H1 z) 0 S (setA S (z + 4) (upd v.2.2.2.2.2.1 v.2.1 x)) := Sg_setA hW rfl b3
  have aO : ∀ y, y ≠ z + 4 → cA (setA S (z + 4) (upd v.2.2.2.2.2.1 v.2.1 x)) y = cA S y := fun y hy => cA_ne hy
  refine ⟨setA S (z + 4) (upd v.2.2.2.2.2.1 v.2.1 x), gr_k b0 b3, by rw [gi_k b0, h5], ?_, ⟨⟨s1.1, TpS_Sg hW hT s1⟩, ⟨by rw [cI_setA]; exact h1, by rw [aO _ (by omega)]; exact h2⟩, by rw [cI_setA]; exact h3, by rw [cI_setA]; exact h4, ⟨by rw [cI_setA]; exact h5, by rw [cI_setA]; exact h6, by rw [cI_setA]; exact h7, by rw [cI_setA]; exact h8⟩, ⟨by rw [aO _ (by omega)]; exact h9, cA_self _ _ _, by rw [aO _ (by omega)]; exact h9c⟩, h10, h11⟩, s1⟩
  rw [sti_k c4 (by omega) (by omega), h9b]
theorem kind_B {x : Int32} {k q c : Nat} (h : BD8 z S S' k q) (hc : cI S' (z + 1) 4 = nI c) (hc60 : c < 60) : ∃ S'', (gr S' 8 (z + 1) 9) = some (z + 4) ∧ gi S' 8 (z + 1) 4 = some (nI c) ∧ sti S' (z + 4) (nI c) x = some S'' ∧ BD8 z S S'' k q := by
  obtain ⟨⟨hW, hT⟩, h1, h2, h3⟩ := h
  obtain ⟨b0, b1, b2, b3, b4⟩ := hT.2.2.1
  obtain ⟨_, _, ⟨c4, c5⟩, _⟩ := hT.2.2.2.1
  have s1 : Sg z (H1 z) 0 S' (setA S' (z + 4) (upd (cA S' (z + 4)) c x)) := Sg_setA hW rfl b3
  exact ⟨_, gr_k b0 b3, by rw [gi_k b0, hc], sti_k c4 (by omega) (by omega), ⟨s1.1, TpS_Sg hW hT s1⟩, by rw [cI_setA]; exact h1, by rw [cI_setA]; exact h2, by have := Sg_trans h3 s1; exact this⟩
/-- one more statement -/
theorem count_P (h : PR S z T i v) : ∃ S', gi S 8 (z + 1) 4 = some (nI v.2.1) ∧ pi S 8 (z + 1) 4 (nI v.2.1 + 1) = some S' ∧ OK8 z S S' T i (v.1, v.2.1 + 1, v.2.2) := by
  obtain ⟨s1, w, a, b, c⟩ := PR_set (j := 4) (x := nI (v.2.1 + 1)) h (by omega)
  have hk := PR_k h
  obtain ⟨_, ⟨h1, h2⟩, h3, h4, ⟨h5, h6, h7, h8⟩, h9, h10, h11⟩ := h
  refine ⟨setI S (z + 1) 4 (nI (v.2.1 + 1)), by rw [gi_k hk, h5], by rw [nI_1, pi_k hk], ⟨w, ⟨by rw [b 1 (by omega)]; exact h1, by rw [c]; exact h2⟩, by rw [b 11 (by omega)]; exact h3, by rw [b 2 (by omega)]; exact h4, ⟨a, by rw [b 8 (by omega)]; exact h6, by rw [b 5 (by omega)]; exact h7, by rw [b 6 (by omega)]; exact h8⟩, by rw [c]; exact h9, h10, h11⟩, s1⟩
noncomputable def stmF (z : Nat) (S : CS) (F : CS → Option CS) : Option CS :=
  bn2 (cal S 8 (z + 1) (f8_readKeyword S (z + 1))) fun v2 S3 => (gr S3 8 (z + 1) 9).bind fun a4 => (gi S3 8 (z + 1) 4).bind fun v5 => (sti S3 a4 v5 v2).bind fun S6 => (if v2 = -1 then (some S6) else (bn2 (cal S6 8 (z + 1) (f8_readRest S6 (z + 1) v2)) fun v9 S10 => if v9 = 0 then (some S10) else (bn2 (cal S10 8 (z + 1) (f8_readSign S10 (z + 1) 59)) fun v11 S12 => if v11 = 0 then (some S12) else ((gi S12 8 (z + 1) 4).bind fun v13 => (pi S12 8 (z + 1) 4 (v13 + 1)).bind fun S14 => (cal S14 8 (z + 1) (f8_skipBlanks S14 (z + 1))).bind fun S15 => some S15)))).bind F
/-- a statement behind the first -/
theorem stm_R {cnt : Nat} {p : Pz} (h : PR S z T (pAt p) v) (hf : free p (pAt p)) (hlk : lkP T (pAt p) = pAt p) (hu : v.1 ≤ pAt p) (hc1 : 1 ≤ v.2.1) (hc60 : v.2.1 < 60) (hcn : v.2.2.1 = nI cnt) (h1 : 1 ≤ cnt) (h4 : cnt ≤ 100) :
    ∃ S', (∀ F : CS → Option CS, stmF z S F = F S') ∧ ((∃ v', pBd (pStm T cnt v.2.1 p).2 = 0 ∧ OK8 z S S' T (lkP T (pAt (pStm T cnt v.2.1 p).2)) v' ∧ KeepW v v' ∧ v'.2.1 = v.2.1 + 1 ∧ v'.2.2.2.2.2.1 v.2.1 = nI (pStm T cnt v.2.1 p).1.1 ∧ StmA v'.2.2.2.2.1 v'.2.2.2.2.2.2 v.2.1 v'.1 (pStm T cnt v.2.1 p).1 ∧ v'.1 ≤ lkP T (pAt (pStm T cnt v.2.1 p).2) ∧ free (lkP T (pAt (pStm T cnt v.2.1 p).2), (pStm T cnt v.2.1 p).2.2) (lkP T (pAt (pStm T cnt v.2.1 p).2))) ∨ BDp z S S' (pStm T cnt v.2.1 p).2) := by
  have hst : pStm T cnt v.2.1 p = ((pBody T cnt p).1, pAskS T 59 (pBody T cnt p).2) := by unfold pStm; rw [if_neg (by omega)]
  rw [hst]
  obtain ⟨be1, be2⟩ := body_eq (T := T) (cnt := cnt) hf
  obtain ⟨S3, r, r1, r4, r2⟩ := readK_P h (by omega)
  rw [hlk] at r2
  rcases r2 with ⟨x, x9, rfl, hy, hx0, hO, hdg⟩ | ⟨x, x9, rfl, hy, hx0, hB, hdg⟩ | ⟨rfl, hno, hB⟩
  · have hx1 : 1 ≤ x := by
      rcases Nat.eq_zero_or_pos x with hh | hh
      · have := hx0.mp hh; omega
      · exact hh
    have hkc : kcl x = 11 + x := by unfold kcl; rw [if_neg (by omega), if_neg (by omega)]
    rw [hkc] at hy hO hdg
    have hkd := kind_of hx1 (by omega) hy
    have hb := be1 (by omega)
    rw [hkd] at hb
    rw [hb]
    have hrd : rdr T (kwL (11 + x)) (pAt p) = (pAt p + (kwL (11 + x)).length, some (pAt p + (kwL (11 + x)).length), 0, none) := by unfold rdr; rw [hlk]
    obtain ⟨S6, k1, k2, k3, k4⟩ := kind_P (x := nI x) hO.1 hc60
    have h6 := OK8_tr hO k4
    have hpr := h6.1
    have hR := rest_R (m := x) (cnt := cnt) (p := rdr T (kwL (11 + x)) (pAt p)) (v := (v.1, v.2.1, v.2.2.1, v.2.2.2.1, v.2.2.2.2.1, upd v.2.2.2.2.2.1 v.2.1 (nI x), v.2.2.2.2.2.2)) hx1 (by omega) (by rw [hrd]; exact hpr) (by rw [hrd]) (fun y hy => by
      rw [hrd] at hy ⊢
      have hy2 : pAt p + (kwL (11 + x)).length = y := Option.some.inj hy
      rw [← hy2]
      exact ⟨Nat.le_refl _, fun _ => hdg⟩) (by show 4 * v.2.1 + 3 < 240; omega) (by rw [hrd]; show v.1 ≤ pAt p + _; omega) hcn h1 h4
    obtain ⟨⟨S10, r', w1, w2⟩, hk1⟩ := hR
    rcases w2 with ⟨rfl, v', ⟨y1, y2⟩, y3, y4, y5⟩ | ⟨rfl, y⟩ | ⟨rfl, y1, i', v', y2, y3, y4, y5⟩
    · obtain ⟨S12, r'', q1, q2⟩ := sign_P y2.1
      have h10 := OK8_tr h6 y2
      rcases q2 with ⟨rfl, q3, q4⟩ | ⟨rfl, q3, q4⟩
      · obtain ⟨S14, c1, c2, c3⟩ := count_P q4.1
        obtain ⟨S15, u1, u2⟩ := skip_P c3.1
        have hfin := OK8_tr h10 (OK8_tr q4 (OK8_tr c3 u2))
        obtain ⟨z1, z2⟩ := rest_end y1
        obtain ⟨g1, g2, g3, g4, g5, g6, g7⟩ := y3
        rw [askS_yes y1 q3]
        refine ⟨S15, fun F => ?_, Or.inl ⟨(v'.1, v'.2.1 + 1, v'.2.2), y1, hfin, ?_, ?_, ?_, ?_, ?_, ?_⟩⟩
        · unfold stmF
          rw [r1, bn2_s, k1, Option.bind_some, k2, Option.bind_some, k3, Option.bind_some, if_neg (show ¬ nI x = (-1 : Int32) from fun hh => by
            have h3 := is1.mp hh
            rw [nI_toInt (by omega)] at h3
            omega), w1, bn2_s, if_neg (by decide), q1, bn2_s, if_neg (by decide), c1, Option.bind_some, c2, Option.bind_some, u1, Option.bind_some, Option.bind_some]
        · exact ⟨g1, by show v.2.1 ≤ v'.2.1 + 1; rw [g2]; exact Nat.le_succ _, g3, g4, fun j hj => by
            show v'.2.2.2.2.2.1 j = _
            rw [g5]
            exact upd_ne _ _ (by omega), g6, g7⟩
        · show v'.2.1 + 1 = _; rw [g2]
        · show v'.2.2.2.2.2.1 v.2.1 = _
          rw [g5, hk1]
          exact upd_self _ _ _
        · exact y4
        · show v'.1 ≤ lkP T (lkP T (pAt _) + 1)
          have := lk_ge T (pAt (restK T cnt x (rdr T (kwL (11 + x)) (pAt p))).2)
          have := lk_ge T (lkP T (pAt (restK T cnt x (rdr T (kwL (11 + x)) (pAt p))).2) + 1)
          omega
        · refine ⟨rfl, z1, fun y hy => ?_⟩
          have := z2 y hy
          have := lk_ge T (pAt (restK T cnt x (rdr T (kwL (11 + x)) (pAt p))).2)
          have := lk_ge T (lkP T (pAt (restK T cnt x (rdr T (kwL (11 + x)) (pAt p))).2) + 1)
          show y < lkP T (lkP T (pAt _) + 1)
          omega
      · obtain ⟨a1, a2⟩ := askS_no y1 q3
        refine ⟨S12, fun F => ?_, Or.inr (BDp_of (BD8_tr h10 q4) (by omega) a1 a2)⟩
        unfold stmF
        rw [r1, bn2_s, k1, Option.bind_some, k2, Option.bind_some, k3, Option.bind_some, if_neg (show ¬ nI x = (-1 : Int32) from fun hh => by
          have h3 := is1.mp hh
          rw [nI_toInt (by omega)] at h3
          omega), w1, bn2_s, if_neg (by decide), q1, bn2_s, if_pos rfl, Option.bind_some]
    · refine ⟨S10, fun F => ?_, Or.inr (by rw [askS_bad y.1]; exact BDp_tr h6 y)⟩
      unfold stmF
      rw [r1, bn2_s, k1, Option.bind_some, k2, Option.bind_some, k3, Option.bind_some, if_neg (show ¬ nI x = (-1 : Int32) from fun hh => by
        have h3 := is1.mp hh
        rw [nI_toInt (by omega)] at h3
        omega), w1, bn2_s, if_pos rfl, Option.bind_some]
    · obtain ⟨S12, r'', q1, q2⟩ := sign_P y2.1
      rw [y3] at q2
      rcases q2 with ⟨_, q3, _⟩ | ⟨rfl, q3, q4⟩
      · exact absurd (Or.inr ⟨rfl, q3⟩) y4
      · refine ⟨S12, fun F => ?_, Or.inr (by rw [askS_bad (by omega)]; exact BDp_of (BD8_tr (OK8_tr h6 y2) q4) (by omega) y1 y5)⟩
        unfold stmF
        rw [r1, bn2_s, k1, Option.bind_some, k2, Option.bind_some, k3, Option.bind_some, if_neg (show ¬ nI x = (-1 : Int32) from fun hh => by
          have h3 := is1.mp hh
          rw [nI_toInt (by omega)] at h3
          omega), w1, bn2_s, if_neg (by decide), q1, bn2_s, if_pos rfl, Option.bind_some]
  · have hx1 : 1 ≤ x := by
      rcases Nat.eq_zero_or_pos x with hh | hh
      · have := hx0.mp hh; omega
      · exact hh
    have hkc : kcl x = 11 + x := by unfold kcl; rw [if_neg (by omega), if_neg (by omega)]
    rw [hkc] at hy hB hdg
    have hkd := kind_of hx1 (by omega) hy
    have hb := be1 (by omega)
    rw [hkd] at hb
    rw [hb]
    have hrd : rdr T (kwL (11 + x)) (pAt p) = (pAt p + (kwL (11 + x)).length, some (pAt p + (kwL (11 + x)).length), 0, none) := by unfold rdr; rw [hlk]
    obtain ⟨s1, s2⟩ := rest_side (T := T) (cnt := cnt) (m := x) (p := rdr T (kwL (11 + x)) (pAt p)) (by rw [hrd]) (by rw [hrd]) (by rw [hrd]; exact hdg)
    obtain ⟨S6, k1, k2, k3, k4⟩ := kind_B (x := -1) hB r4 hc60
    refine ⟨S6, fun F => ?_, Or.inr (by rw [askS_bad (by omega)]; exact BDp_of k4 (by omega) s1 (by rw [s2, hrd]))⟩
    unfold stmF
    rw [r1, bn2_s, k1, Option.bind_some, k2, Option.bind_some, k3, Option.bind_some, if_pos rfl, Option.bind_some]
  · have hk0 : kindAt T (pAt p) = 0 := Decidable.byContradiction fun hh => by
      obtain ⟨q1, q2, q3⟩ := kind_is (T := T) (a := pAt p) hh
      have := hno (kindAt T (pAt p)) (by omega) (by omega)
      rw [show kcl (kindAt T (pAt p)) = 11 + kindAt T (pAt p) from by unfold kcl; rw [if_neg (by omega), if_neg (by omega)], q1] at this
      cases this
    obtain ⟨s1, s2⟩ := be2 hk0
    rw [hlk] at s2
    obtain ⟨S6, k1, k2, k3, k4⟩ := kind_B (x := -1) hB r4 hc60
    refine ⟨S6, fun F => ?_, Or.inr (by rw [askS_bad (by omega)]; exact BDp_of k4 (by omega) s1 s2)⟩
    unfold stmF
    rw [r1, bn2_s, k1, Option.bind_some, k2, Option.bind_some, k3, Option.bind_some, if_pos rfl, Option.bind_some]
end T8
