/-! ===== PART II, the class: what was told is done ===== -/
section TH
variable {S S' S'' : CS} {z fi ch c i k q : Nat} {A A' : St} {K K' : Nat → Option Nat} {H : Nat → Prop} {X : Nat × Nat} {T : List Int32} {R : List Sm}
theorem tk_down {cn : Nat} {ties : Nat} (hcn : cntT T = cn) (h0 : 0 < cn) : ∀ (n m : Nat) (W : Wd) (S : CS), n < m → n ≤ 1000 → Ses z A T R K fi ch ties W S → GA (newA A T ties W) → wTk W + n ≤ 999 → Rm z X (phi cn W + c) S →
    ∃ S' c', LX11_perform_44 X z m (nI n) S = some S' ∧ Ses z A T R K fi ch ties (itT ties cn n W) S' ∧ c' + phi cn (itT ties cn n W) ≤ phi cn W ∧ Cst z c' S S' := by
  subst hcn
  intro n
  induction n with
  | zero =>
    intro m W S hm hn h hg ht hR
    obtain ⟨m, rfl⟩ : ∃ j, m = j + 1 := ⟨m - 1, by omega⟩
    unfold LX11_perform_44
    rw [if_pos (show nI 0 ≤ (0 : Int32) by decide)]
    exact ⟨S, 0, rfl, h, by rw [itT]; omega, Cst_rf z S⟩
  | succ n ih =>
    intro m W S hm hn h hg ht hR
    obtain ⟨m, rfl⟩ : ∃ j, m = j + 1 := ⟨m - 1, by omega⟩
    obtain ⟨h1, hst, hts⟩ := id h
    obtain ⟨hW, hT, hTp, hTf, hsh, hwd, ha, hk, hh, hc⟩ := id h1
    obtain ⟨S2, c1, e1, a1, a2, a3, a4, a5⟩ := tick_C (X := X) (c := c) (ClsW_w z) hg.2.2.2.1 hW hR hsh hwd hg.2.2.1
    obtain ⟨C2, st2⟩ := CR_world h1 hst a5 (fun x hx => by
      rcases hx with h1 | h1 | h1 | h1 <;> omega) a1 a2
    have C2' : CR S2 z (newA A T ties (tickW ties (cntT T) W)) K fi ch := C2
    have hts2 := TSt_Sg hW hT hts a5 (fun hx => by rcases hx with h1 | h1 | h1 | h1 <;> omega)
    have hg2 : GA (newA A T ties (tickW ties (cntT T) W)) := GA_world (A := newA A T ties W) hg h0 (Good_tick (GA_good hg)) (by show wTk W + 1 ≤ 999; omega) (tick_pre _ _ _)
    have a4' : c1 + phi (cntT T) (tickW ties (cntT T) W) ≤ phi (cntT T) W := a4
    obtain ⟨S', c2, e2, b1, b2, b3⟩ := ih m (tickW ties (cntT T) W) S2 (by omega) (by omega) ⟨C2', st2, hts2⟩ hg2 (by show wTk W + 1 + n ≤ 999; omega) (Rm_step (c := c1) (d := phi (cntT T) (tickW ties (cntT T) W) + c) (Rm_mono hR (by omega)) a5)
    unfold LX11_perform_44
    rw [if_neg (z_nle (by omega) (by omega)), (TpS_g hT).2.2.2.1, Option.bind_some, cal_k hwd.1.1, e1, Option.bind_some, show nI (n + 1) + (-1 : Int32) = nI n from nI_dec (q := n + 1) (by omega), e2, itT]
    exact ⟨S', c1 + c2, rfl, b1, by omega, Cst_tr (Cst_of a5) b3⟩
/-- a statement of an editor is done -/
theorem perfFor_C {ties j : Nat} {W : Wd} {s : Sm} (h : Ses z A T R K fi ch ties W S) (hg : GA (newA A T ties W)) (hj : R[j]? = some s) (hj60 : 1 + j < 60) (hs : GoodSm (cntT T) s) (h2 : s.1 ≠ 2) (h8 : s.1 ≠ 8) (hR : Rm z X (cst s + c) S) : ∃ S', cal S 11 z (f11_performFor X S z (nI s.2.1.1) (nI (1 + j))) = some S' ∧ Ses z A T R K fi ch ties (doneS (cntT T) ties W s) S' ∧ Cst z (cst s) S S' := by
  obtain ⟨h1, hst, hts⟩ := id h
  obtain ⟨hW, hT, hTp, hTf, hsh, hwd, ha, hk, hh, hc⟩ := id h1
  obtain ⟨t0, t1, t2, t3, t4, t5, t6, t7, t8, t9⟩ := TpS_g hT
  obtain ⟨m1, m2, m3, m4, m5⟩ := hts.2.2.2.2.2 j s hj
  obtain ⟨k1, k2⟩ := kindOf_T hT hj60
  obtain ⟨g1, g2, g3, g4, g5, g6, g7, g8⟩ := id hs
  have he := g2 h2 h8
  have hc4 : cntT T ≤ 4 := hg.2.2.1.1
  have he4 : s.2.1.1 < 4 := by omega
  have n1 := numOf_T (c := 1 + j) (j := 1) hT (by omega)
  have n2 := numOf_T (c := 1 + j) (j := 2) hT (by omega)
  have n3 := numOf_T (c := 1 + j) (j := 3) hT (by omega)
  have n1' : cal S 8 (z + 1) (f8_numberOf S (z + 1) (nI (1 + j)) 1) = some (cA S (z + 5) (4 * (1 + j) + 1)) := n1
  have n2' : cal S 8 (z + 1) (f8_numberOf S (z + 1) (nI (1 + j)) 2) = some (cA S (z + 5) (4 * (1 + j) + 2)) := n2
  have n3' : cal S 8 (z + 1) (f8_numberOf S (z + 1) (nI (1 + j)) 3) = some (cA S (z + 5) (4 * (1 + j) + 3)) := n3
  rw [m1] at k2
  have hE : EdW S (z + 227 + 5 + 45 * s.2.1.1) (wRow W).length (wE W s.2.1.1) true := (hwd.2.2.2.2.2 s.2.1.1 he4).2 he
  have tx := (hE.2 rfl).1.1
  have hb240 := TxL_bd tx
  have hwd3 : kd S (z + 227) = 10 := hwd.1.1
  have he0 : (nI s.2.1.1).toInt.toNat = s.2.1.1 := by rw [nI_toInt (by omega)]; omega
  have hei : (nI s.2.1.1).toInt = (s.2.1.1 : Int) := nI_toInt (by omega)
  obtain ⟨⟨_, ⟨n8, n10, n11, n12, n13, n14⟩, _⟩, k7⟩ := id hE
  obtain ⟨_, m7, m9, mA⟩ := k7 rfl
  rw [cal_k hT.1]
  unfold f11_performFor
  rw [t3, t0]
  simp only [Option.bind_some]
  rw [gr_k hwd3 hwd.1.2.1.2.2.2.1, Option.bind_some, ed_at hwd.1 he4, Option.bind_some, n1', Option.bind_some, n2', Option.bind_some, n3', Option.bind_some, k1, Option.bind_some, k2, Option.bind_some]
  have kn : ∀ m : Nat, m < 100 → (nI s.1 = nI m ↔ s.1 = m) := fun m hm => ⟨fun e => nI_inj e (by omega) (by omega), fun e => by rw [e]⟩
  have kn3 : nI s.1 = 3 ↔ s.1 = 3 := kn 3 (by omega)
  have kn4 : nI s.1 = 4 ↔ s.1 = 4 := kn 4 (by omega)
  have kn5 : nI s.1 = 5 ↔ s.1 = 5 := kn 5 (by omega)
  have kn6 : nI s.1 = 6 ↔ s.1 = 6 := kn 6 (by omega)
  have kn7 : nI s.1 = 7 ↔ s.1 = 7 := kn 7 (by omega)
  unfold doneS
  by_cases c3 : s.1 = 3
  · obtain ⟨o1, o2, o3, o4⟩ := g5 c3
    obtain ⟨a, q1, q2, q3, q4⟩ := m5 c3
    have hcs : cst s = 240 := by unfold cst; rw [if_neg (by omega), if_pos c3]
    rw [hcs] at hR ⊢
    obtain ⟨S20, e1, e2, e3⟩ := told_op (X := X) (c := 240 + c) (a := a) (len := (eTxt (wE W s.2.1.1)).length) (f := cA S (z + 3)) hW hT hR o1 o2 o4 rfl q4 q3 hb240
    have C20 : CR S20 z (newA A T ties W) K fi ch := CR_op h1 hg e3
    have st20 : cI S20 (z + 599) 9 ≠ nI ch := by rw [st_Sg h1 e3 (by omega)]; exact hst
    have ts20 := TSt_Sg hW hT hts e3 (by omega)
    have R20 : Rm z X (240 + c) S20 := Rm_step (c := 0) (d := 240 + c) (by rw [Nat.zero_add]; exact hR) e3
    obtain ⟨b0, b1, b2, b3, b4⟩ := hT.2.2.1
    rw [if_pos (kn3.mpr c3), if_pos c3, t7, Option.bind_some, gr_k b0 b2, Option.bind_some, gr_k hE.1.1.1 hE.1.1.2.1.1, Option.bind_some, TxL_sz tx, Option.bind_some, q1, q2, e1, bn2_s]
    by_cases hle : stpsN s.2.2 ≤ (eTxt (wE W s.2.1.1)).length
    · obtain ⟨p1, p2⟩ := opTo_ok o3 o4 hle
      have hP1 : okO (opTo s.2.2 (eTxt (wE W s.2.1.1)).length) := settle_okV p1
      have hP2 : oldL (opTo s.2.2 (eTxt (wE W s.2.1.1)).length) = (eTxt (wE W s.2.1.1)).length := by unfold opTo; rw [settle_old]; exact p2
      have hlen : (opTo s.2.2 (eTxt (wE W s.2.1.1)).length).length ≤ 100000 := by
        have c1 := cnt_len hP1
        have c2 : putsL (opTo s.2.2 (eTxt (wE W s.2.1.1)).length) ≤ 5000 := by
          unfold opTo
          rw [settle_puts]
          have c3 := cnt_len p1
          have c4 := (ptsS_ok _ o1).2.2.2.2
          rw [List.length_append, List.length_replicate] at c3
          omega
        omega
      have hcanC := can_C C20 hg (e2 hle) hlen
      obtain ⟨v0, v1, v2, v3, v4, v5, v6, v7, v8, v9⟩ := TpS_g C20.2.1
      rw [decide_eq_true hle, if_neg (show ¬ bI true = 0 by decide), v3, v7]
      simp only [Option.bind_some]
      rw [hcanC, Option.bind_some]
      by_cases hcan : canE (newA A T ties W) (opTo s.2.2 (eTxt (wE W s.2.1.1)).length) = true
      · obtain ⟨w1, w2⟩ := canE_of hcan
        obtain ⟨S27, x1, ⟨x2, x3⟩, x4⟩ := edP_C (X := X) (c0 := 240) (c := c) (A := newA A T ties W) (i := s.2.1.1) C20 hg st20 R20 (fun _ => Nat.le_refl _) he (e2 hle) hP1 hP2 w1
        rw [hcan, if_neg (show ¬ bI true = 0 by decide), x1, Option.bind_some, Option.bind_some, if_pos ⟨hle, hcan⟩]
        exact ⟨S27, rfl, ⟨x2, x3, TSt_Sg C20.1 C20.2.1 ts20 x4 (fun hx => by have := Hp_in he4 hx; omega)⟩, Cst_mono (Cst_tr (Cst_of e3) (Cst_of x4)) (by omega)⟩
      · have hcf : canE (newA A T ties W) (opTo s.2.2 (eTxt (wE W s.2.1.1)).length) = false := by cases hh : canE (newA A T ties W) (opTo s.2.2 (eTxt (wE W s.2.1.1)).length) <;> simp_all
        rw [hcf, if_pos (show bI false = 0 from rfl), Option.bind_some, if_neg (fun hx => hcan hx.2)]
        exact ⟨S20, rfl, ⟨C20, st20, ts20⟩, Cst_mono (Cst_of e3) (by omega)⟩
    · rw [decide_eq_false hle, if_pos (show bI false = 0 from rfl), Option.bind_some, if_neg (fun hx => hle hx.1)]
      exact ⟨S20, rfl, ⟨C20, st20, ts20⟩, Cst_mono (Cst_of e3) (by omega)⟩
  rw [if_neg (fun e => c3 (kn3.mp e)), if_neg c3]
  by_cases c4 : s.1 = 4
  · have hq : cA S (z + 5) (4 * (1 + j) + 1) = nI s.2.1.2.1 := m3 (Or.inr (Or.inl c4))
    have hq99 := g6 c4
    have hpl := place_C h1 hg (nI s.2.1.1) (nI s.2.1.2.1)
    rw [if_pos (kn4.mpr c4), if_pos c4, hq, hpl, Option.bind_some]
    have hqi : (nI s.2.1.2.1).toInt = (s.2.1.2.1 : Int) := nI_toInt (by omega)
    by_cases hle : s.2.1.2.1 ≤ (eTxt (wE W s.2.1.1)).length
    · have s1 : Sg z (fun x => x = z + 227 + 5 + 45 * s.2.1.1) 0 S (setI S (z + 227 + 5 + 45 * s.2.1.1) 9 (nI s.2.1.2.1)) := Sg_setI hW rfl
      have o : ∀ j, j ≠ 9 → cI (setI S (z + 227 + 5 + 45 * s.2.1.1) 9 (nI s.2.1.2.1)) (z + 227 + 5 + 45 * s.2.1.1) j = cI S (z + 227 + 5 + 45 * s.2.1.1) j := fun j hj => by rw [cI_set, if_neg (by omega)]
      rw [decide_eq_true (by rw [he0, hei, hqi]; exact ⟨⟨by omega, by show (s.2.1.1 : Int) < (cntT T : Int); omega⟩, by omega, by show (s.2.1.2.1 : Int) ≤ ((eTxt (wE W s.2.1.1)).length : Int); omega⟩), if_neg (show ¬ bI true = 0 by decide), pi_k hE.1.1.1, Option.bind_some, Option.bind_some, if_pos hle]
      exact ⟨_, rfl, Ses_ed h hg he s1 (EdW_head hW hE s1 ⟨by rw [o 8 (by omega)]; exact n8, by rw [o 10 (by omega)]; exact n10, by rw [o 11 (by omega)]; exact n11, by rw [o 12 (by omega)]; exact n12, by rw [o 13 (by omega)]; exact n13, by rw [o 14 (by omega)]; exact n14⟩ ⟨by rw [o 7 (by omega)]; exact m7, cI_self _ _ _ _, mA⟩ rfl rfl rfl rfl rfl rfl rfl), Cst_mono (Cst_of s1) (by omega)⟩
    · rw [decide_eq_false (by
        rw [he0, hei, hqi]
        intro hx
        have : (s.2.1.2.1 : Int) ≤ ((eTxt (wE W s.2.1.1)).length : Int) := hx.2.2
        omega), if_pos (show bI false = 0 from rfl), Option.bind_some, if_neg hle]
      exact ⟨S, rfl, h, Cst_mono (Cst_rf z S) (by omega)⟩
  rw [if_neg (fun e => c4 (kn4.mp e)), if_neg c4]
  by_cases c5 : s.1 = 5
  · obtain ⟨q2, q3⟩ := m4 c5
    have hq : cA S (z + 5) (4 * (1 + j) + 1) = nI s.2.1.2.1 := m3 (Or.inr (Or.inr c5))
    obtain ⟨b1, b2, b3⟩ := g7 c5
    have hmk := mark_Q h1 hg (nI s.2.1.1) (nI s.2.1.2.1) (nI s.2.1.2.2.1) (nI s.2.1.2.2.2)
    have hm4 := (Good_Bd hg.2.2.1 (show s.2.1.1 < aCnt (newA A T ties W) from he)).2.1
    have hqi1 : (nI s.2.1.2.1).toInt = (s.2.1.2.1 : Int) := nI_toInt (by omega)
    have hqi2 : (nI s.2.1.2.2.1).toInt = (s.2.1.2.2.1 : Int) := nI_toInt (by omega)
    have hqi3 : (nI s.2.1.2.2.2).toInt = (s.2.1.2.2.2 : Int) := nI_toInt (by omega)
    rw [if_pos (kn5.mpr c5), if_pos c5, hq, q2, q3, hmk, Option.bind_some]
    by_cases hcm : (eMks (wE W s.2.1.1)).length < 4 ∧ s.2.1.2.1 ≤ s.2.1.2.2.1 ∧ s.2.1.2.2.1 ≤ (eTxt (wE W s.2.1.1)).length
    · obtain ⟨S', r1, r2, r3, r4, r5, r6⟩ := addMark_E (z := z) (f := nI s.2.1.2.1) (t := nI s.2.1.2.2.1) (g := nI s.2.1.2.2.2) hW hE.1.1 m7 hcm.1
      rw [decide_eq_true (by
        rw [he0, hei, hqi1, hqi2, hqi3]
        refine ⟨⟨by omega, by show (s.2.1.1 : Int) < (cntT T : Int); omega⟩, ⟨by omega, by omega⟩, hcm.1, by omega, by omega, ?_⟩
        show (s.2.1.2.2.1 : Int) ≤ ((eTxt (wE W s.2.1.1)).length : Int)
        omega), if_neg (show ¬ bI true = 0 by decide), cal_k hE.1.1.1, r1, bn2_s, Option.bind_some, if_pos hcm]
      refine ⟨S', rfl, Ses_ed h hg he r6 (EdW_head hW hE r6 ⟨by rw [r2 8 (by omega)]; exact n8, by rw [r2 10 (by omega)]; exact n10, by rw [r2 11 (by omega)]; exact n11, by rw [r2 12 (by omega)]; exact n12, by rw [r2 13 (by omega)]; exact n13, by rw [r2 14 (by omega)]; exact n14⟩ ⟨?_, by rw [r2 9 (by omega)]; exact m9, ?_⟩ r5 rfl rfl rfl rfl rfl rfl), Cst_mono (Cst_of r6) (by omega)⟩
      · rw [r3]
        show _ = nI (eMks (wE W s.2.1.1) ++ [_]).length
        rw [List.length_append]; rfl
      · show mkAt _ 0 (eMks (wE W s.2.1.1) ++ [(s.2.1.2.1, s.2.1.2.2.1, s.2.1.2.2.2)])
        rw [mkAt_ap, r4]
        refine ⟨mkAt_cg _ _ (fun j j1 j2 => by rw [upd_ne _ _ (by omega), upd_ne _ _ (by omega), upd_ne _ _ (by omega)]) mA, ?_, ?_, ?_, trivial⟩
        · rw [Nat.zero_add, upd_ne _ _ (by omega), upd_ne _ _ (by omega), upd_self]
        · rw [Nat.zero_add, upd_ne _ _ (by omega), upd_self]
        · rw [Nat.zero_add, upd_self]
    · rw [decide_eq_false (by
        rw [he0, hei, hqi1, hqi2, hqi3]
        rintro ⟨_, _, x1, _, x2, x3⟩
        have x1' : (eMks (wE W s.2.1.1)).length < 4 := x1
        have x3' : (s.2.1.2.2.1 : Int) ≤ ((eTxt (wE W s.2.1.1)).length : Int) := x3
        exact hcm ⟨x1', by omega, by omega⟩), if_pos (show bI false = 0 from rfl), Option.bind_some, if_neg hcm]
      exact ⟨S, rfl, h, Cst_mono (Cst_rf z S) (by omega)⟩
  rw [if_neg (fun e => c5 (kn5.mp e)), if_neg c5]
  have onP : ∀ b : Bool, ∃ S', (bz (bI b)).bind (fun v44 => (pi S 1 (z + 227 + 5 + 45 * s.2.1.1) 14 (bI b)).bind fun S45 => some S45) = some S' ∧ Ses z A T R K fi ch ties (setE W s.2.1.1 (sOn (wE W s.2.1.1) b)) S' ∧ Cst z (cst s) S S' := fun b => by
    have s1 : Sg z (fun x => x = z + 227 + 5 + 45 * s.2.1.1) 0 S (setI S (z + 227 + 5 + 45 * s.2.1.1) 14 (bI b)) := Sg_setI hW rfl
    have o : ∀ j, j ≠ 14 → cI (setI S (z + 227 + 5 + 45 * s.2.1.1) 14 (bI b)) (z + 227 + 5 + 45 * s.2.1.1) j = cI S (z + 227 + 5 + 45 * s.2.1.1) j := fun j hj => by rw [cI_set, if_neg (by omega)]
    rw [bz_bI, Option.bind_some, pi_k hE.1.1.1, Option.bind_some]
    exact ⟨_, rfl, Ses_ed h hg he s1 (EdW_head hW hE s1 ⟨by rw [o 8 (by omega)]; exact n8, by rw [o 10 (by omega)]; exact n10, by rw [o 11 (by omega)]; exact n11, by rw [o 12 (by omega)]; exact n12, by rw [o 13 (by omega)]; exact n13, cI_self _ _ _ _⟩ ⟨by rw [o 7 (by omega)]; exact m7, by rw [o 9 (by omega)]; exact m9, mA⟩ rfl rfl rfl rfl rfl rfl rfl), Cst_mono (Cst_of s1) (by omega)⟩
  by_cases c6 : s.1 = 6
  · rw [if_pos (kn6.mpr c6), if_pos c6]
    have e7 : (if nI s.1 = (7 : Int32) then some (1 : Int32) else some 0) = some (bI false) := by rw [if_neg (fun e => by have := kn7.mp e; omega)]; rfl
    obtain ⟨S', x1, x2⟩ := onP false
    rw [Option.bind_some, k2, Option.bind_some, e7, Option.bind_some]
    exact ⟨S', x1, x2⟩
  rw [if_neg (fun e => c6 (kn6.mp e)), if_neg c6]
  by_cases c7 : s.1 = 7
  · rw [if_pos (kn7.mpr c7), if_pos c7]
    have e7 : (if nI s.1 = (7 : Int32) then some (1 : Int32) else some 0) = some (bI true) := by rw [if_pos (kn7.mpr c7)]; rfl
    obtain ⟨S', x1, x2⟩ := onP true
    rw [Option.bind_some, k2, Option.bind_some, e7, Option.bind_some]
    exact ⟨S', x1, x2⟩
  rw [if_neg (fun e => c7 (kn7.mp e)), if_neg c7, if_neg h8]
  exact ⟨S, rfl, h, Cst_mono (Cst_rf z S) (by omega)⟩
theorem perf_C {ties j : Nat} {W : Wd} {s : Sm} (h : Ses z A T R K fi ch ties W S) (hg : GA (newA A T ties W)) (hc0 : 0 < cntT T) (hj : R[j]? = some s) (hj60 : 1 + j < 60) (hs : GoodSm (cntT T) s) (hR : Rm z X (cst s + c) S) : ∃ S', cal S 11 z (f11_perform X S z (nI (1 + j))) = some S' ∧ Ses z A T R K fi ch ties (doneS (cntT T) ties W s) S' ∧ Cst z (cst s) S S' := by
  obtain ⟨h1, hst, hts⟩ := id h
  obtain ⟨hW, hT, hTp, hTf, hsh, hwd, ha, hk, hh, hc⟩ := id h1
  obtain ⟨t0, t1, t2, t3, t4, t5, t6, t7, t8, t9⟩ := TpS_g hT
  obtain ⟨m1, m2, m3, m4, m5⟩ := hts.2.2.2.2.2 j s hj
  obtain ⟨k1, k2⟩ := kindOf_T hT hj60
  obtain ⟨g1, g2, g3, g4, g5, g6, g7, g8⟩ := id hs
  have hc4 : cntT T ≤ 4 := hg.2.2.1.1
  have n0 := numOf_T (c := 1 + j) (j := 0) hT (by omega)
  rw [show 4 * (1 + j) + 0 = 4 * (1 + j) from rfl, m2] at n0
  have n0' : cal S 8 (z + 1) (f8_numberOf S (z + 1) (nI (1 + j)) 0) = some (nI s.2.1.1) := n0
  rw [m1] at k2
  have kn : ∀ m : Nat, m < 100 → (nI s.1 = nI m ↔ s.1 = m) := fun m hm => ⟨fun e => nI_inj e (by omega) (by omega), fun e => by rw [e]⟩
  have kn8 : nI s.1 = 8 ↔ s.1 = 8 := kn 8 (by omega)
  have kn0 : nI s.1 = 0 ↔ s.1 = 0 := kn 0 (by omega)
  have kn2 : nI s.1 = 2 ↔ s.1 = 2 := kn 2 (by omega)
  rw [cal_k hT.1]
  unfold f11_perform
  rw [t0]
  simp only [Option.bind_some]
  rw [k1, Option.bind_some, k2, Option.bind_some, n0', Option.bind_some]
  by_cases c8 : s.1 = 8
  · obtain ⟨q1, q2⟩ := g8 c8
    have htk : wTk W ≤ 999 := hg.2.2.2.2.1
    have hcs : cst s = 1920 := by unfold cst; rw [if_pos c8]
    have hph : phi (cntT T) W ≤ 1920 := phi_le (cntT T) W hc4
    have hqi : (nI s.2.1.1).toInt = (s.2.1.1 : Int) := nI_toInt (by omega)
    have hdn : doneS (cntT T) ties W s = if wTk W + s.2.1.1 ≤ 999 then itT ties (cntT T) s.2.1.1 W else W := by
      unfold doneS
      rw [if_neg (by omega), if_neg (by omega), if_neg (by omega), if_neg (by omega), if_neg (by omega), if_pos c8]
    rw [hdn, hcs, if_pos (kn8.mpr c8), t3, Option.bind_some, cal_k hwd.1.1, canTick_W hwd.1 hwd.2.1 hc4 htk, Option.bind_some]
    rw [hcs] at hR
    by_cases hle : wTk W + s.2.1.1 ≤ 999
    · obtain ⟨S', c', e1, b1, b2, b3⟩ := tk_down (z := z) (X := X) (c := c) (A := A) (T := T) (R := R) (K := K) (fi := fi) (ch := ch) (ties := ties) rfl hc0 s.2.1.1 FU W S (by rw [FU_eq]; omega) (by omega) h hg hle (Rm_mono hR (by omega))
      rw [decide_eq_true (by
        rw [hqi]
        refine ⟨hc0, ⟨by omega, by omega⟩, ?_⟩
        show (wTk W : Int) + (s.2.1.1 : Int) ≤ 999
        omega), if_neg (show ¬ bI true = 0 by decide), Option.bind_some, e1, Option.bind_some, Option.bind_some, if_pos hle]
      exact ⟨S', rfl, b1, Cst_mono b3 (by omega)⟩
    · rw [decide_eq_false (by
        rw [hqi]
        rintro ⟨_, _, hx⟩
        have hx' : (wTk W : Int) + (s.2.1.1 : Int) ≤ 999 := hx
        omega), if_pos (show bI false = 0 from rfl), Option.bind_some, if_neg hle]
      obtain ⟨S', c', e1, b1, b2, b3⟩ := tk_down (z := z) (X := X) (c := c) (A := A) (T := T) (R := R) (K := K) (fi := fi) (ch := ch) (ties := ties) rfl hc0 0 FU W S (by rw [FU_eq]; omega) (by omega) h hg (by omega) (Rm_mono hR (by omega))
      rw [show LX11_perform_44 X z FU 0 S = some S' from e1, Option.bind_some, Option.bind_some]
      exact ⟨S', rfl, b1, Cst_mono b3 (by omega)⟩
  rw [if_neg (fun e => c8 (kn8.mp e)), if_neg (fun e => by have := kn0.mp e; omega)]
  by_cases c2 : s.1 = 2
  · have hdn : doneS (cntT T) ties W s = W := by
      unfold doneS
      rw [if_neg (by omega), if_neg (by omega), if_neg (by omega), if_neg (by omega), if_neg (by omega), if_neg (by omega)]
    rw [if_pos (kn2.mpr c2), Option.bind_some, hdn]
    exact ⟨S, rfl, h, Cst_mono (Cst_rf z S) (by omega)⟩
  · have he := g2 c2 c8
    have hkn := kn_C h1 hg (nI s.2.1.1)
    have hqi : (nI s.2.1.1).toInt = (s.2.1.1 : Int) := nI_toInt (by omega)
    obtain ⟨S', x1, x2, x3⟩ := perfFor_C (X := X) (c := c) h hg hj hj60 hs c2 c8 hR
    rw [if_neg (fun e => c2 (kn2.mp e)), t3, Option.bind_some, hkn, Option.bind_some, decide_eq_true (by
      rw [hqi]
      refine ⟨by omega, ?_⟩
      show (s.2.1.1 : Int) < (cntT T : Int)
      omega), if_neg (show ¬ bI true = 0 by decide), x1, Option.bind_some, Option.bind_some]
    exact ⟨S', rfl, x2, x3⟩
end TH
