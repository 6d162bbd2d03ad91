/-! ===== PART II, the class: what was told is settled and done ===== -/
theorem all_len {T : List Int32} {cnt : Nat} : ∀ (d k : Nat) (p : Pz), free p (pAt p) → k ≤ 60 → pBd (pAll T cnt d k p).2 = 0 → (pAll T cnt d k p).1.length + k ≤ 60 := by
  intro d
  induction d with
  | zero => intro k p hp hk ho; show 0 + k ≤ 60; omega
  | succ d ih =>
    intro k p hp hk ho
    by_cases hne : byteAt T (lkP T (pAt p)) = -1
    · have e1 : pAll T cnt (d + 1) k p = ([], (lkP T (pAt p), p.2)) := by rw [pAll, if_pos (free_bd hp), if_pos hne]
      rw [e1]
      show 0 + k ≤ 60; omega
    · obtain ⟨b, c, hb, hcc, hk0, hbd, h59, hns, hlc, hE, hfr, hk60⟩ := over_step hp ho hne
      rw [hE] at ho ⊢
      have := ih (k + 1) (c + 1, b.2.2) hfr (by omega) ho
      rw [List.length_cons]
      omega
section TG
variable {S S' S'' : CS} {z fi ch c i k q : Nat} {A A' : St} {K K' : Nat → Option Nat} {H : Nat → Prop} {X : Nat × Nat} {T : List Int32} {R : List Sm}
theorem numOf_T {c j : Nat} (hT : TpS S z) (hc : 4 * c + j < 240) : cal S 8 (z + 1) (f8_numberOf S (z + 1) (nI c) (nI j)) = some (cA S (z + 5) (4 * c + j)) := by
  obtain ⟨b0, b1, b2, b3, b4⟩ := hT.2.2.1
  obtain ⟨_, _, _, ⟨c6, c7⟩⟩ := hT.2.2.2.1
  rw [cal_k b0]
  unfold f8_numberOf
  rw [show (4 : Int32) = nI 4 from rfl, nI_mul, nI_add, if_neg (show ¬ nI (4 * c + j) < (0 : Int32) from fun x => by rw [Int32.lt_iff_toInt_lt, i0, nI_toInt (by omega)] at x; omega), gr_k b0 b4, Option.bind_some, aln_k c6, c7, Option.bind_some, if_neg (nI_ge (by omega) (by omega)), Option.bind_some, ldi_k c6 (by omega) (by omega), Option.bind_some, Option.bind_some]
theorem kindOf_T {c : Nat} (hT : TpS S z) (hc : c < 60) : gr S 8 (z + 1) 9 = some (z + 4) ∧ ldi S (z + 4) (nI c) = some (cA S (z + 4) c) := by
  obtain ⟨b0, b1, b2, b3, b4⟩ := hT.2.2.1
  obtain ⟨_, _, ⟨c4, c5⟩, _⟩ := hT.2.2.2.1
  exact ⟨gr_k b0 b3, ldi_k c4 (by omega) (by omega)⟩
/-- a step of a session's doing: where it stands -/
def Ses (z : Nat) (A : St) (T : List Int32) (R : List Sm) (K : Nat → Option Nat) (fi ch ties : Nat) (W : Wd) (S : CS) : Prop := CR S z (newA A T ties W) K fi ch ∧ cI S (z + 599) 9 ≠ nI ch ∧ TSt S z T R
theorem Ses_ties {ties t : Nat} {W : Wd} (h : Ses z A T R K fi ch ties W S) : Ses z A T R K fi ch t W (setI S (z + 227) 7 (nI t)) ∧ Sg z (fun x => x = z + 227) 0 S (setI S (z + 227) 7 (nI t)) := by
  obtain ⟨h1, hst, hts⟩ := h
  obtain ⟨hW, hT, hTp, hTf, hsh, hwd, ha, hk, hh, ⟨c1, c2, c3, c4⟩⟩ := h1
  have s1 : Sg z (fun x => x = z + 227) 0 S (setI S (z + 227) 7 (nI t)) := Sg_setI hW rfl
  have nk : ∀ j k, j < 20 → K j = some k → ∀ x, k ≤ x → x < k + 185 → ¬ x = z + 227 := fun j k hj hkj x x1 x2 => by have := K_lo hk hj hkj; omega
  obtain ⟨w1, ⟨n6, n7, n8, n9, n10, n11⟩, w3, w4, w5, w6⟩ := hwd
  have o : ∀ k, k ≠ 7 → cI (setI S (z + 227) 7 (nI t)) (z + 227) k = cI S (z + 227) k := fun k hk => by rw [cI_set, if_neg (by omega)]
  have o2 : ∀ a k, a ≠ z + 227 → cI (setI S (z + 227) 7 (nI t)) a k = cI S a k := fun a k ha => by rw [cI_set, if_neg (by omega)]
  refine ⟨⟨⟨s1.1, TpS_Sg hW hT s1, TpT_Sg hW hT hTp s1 (by omega), TpF_Sg hW hT hTf s1 (by omega), ShC_Sg hW hsh s1 (by omega) (fun x x1 x2 => by omega), ⟨WdS_Sg hW w1 s1, ⟨by rw [o 6 (by omega)]; exact n6, cI_self _ _ _ _, by rw [o 8 (by omega)]; exact n8, by rw [o 9 (by omega)]; exact n9, by rw [o 10 (by omega)]; exact n10, by rw [o 11 (by omega)]; exact n11⟩, by rw [o 5 (by omega)]; exact w3, TxL_Fo hW w4 s1.2.1 (by omega), w5, fun j hj => ?_⟩, AhC_Sg hW ha s1 (fun x x1 x2 => by omega), KpC_Sg hW hT hk s1 (by omega) nk, ⟨hh.1, by rw [o2 _ _ (by omega)]; exact hh.2.1, by rw [o2 _ _ (by omega)]; exact hh.2.2.1, fun j W1 hj => by
      have hj' : ([] : List Wd)[j]? = some W1 := hj
      simp at hj'⟩, by rw [o2 _ _ (by omega)]; exact c1, ⟨by rw [o2 _ _ (by omega)]; exact c2.1, c2.2.1, c2.2.2⟩, fun hh => absurd hh (by rw [o2 _ _ (by omega)]; exact hst), by rw [o2 _ _ (by omega)]; exact c4⟩, by rw [o2 _ _ (by omega)]; exact hst, TSt_Sg hW hT hts s1 (by omega)⟩, s1⟩
  obtain ⟨e1, e2⟩ := w6 j hj
  exact ⟨EdJ_Sg hW e1 s1 (fun x hx => by omega), fun hc => EdW_Sg hW (e2 hc) s1 (fun x x1 x2 => by omega)⟩
/-- a field of an editor -/
theorem Ses_ed {ties e : Nat} {W : Wd} {E : Ed} (h : Ses z A T R K fi ch ties W S) (hg : GA (newA A T ties W)) (he : e < cntT T) (hs : Sg z (fun x => x = z + 227 + 5 + 45 * e) 0 S S') (hE : EdW S' (z + 227 + 5 + 45 * e) (wRow W).length E true) : Ses z A T R K fi ch ties (setE W e E) S' := by
  obtain ⟨h1, hst, hts⟩ := h
  obtain ⟨C7, st7⟩ := CR_edit (A := newA A T ties W) (i := e) (E := E) h1 hg hst he hs (fun x hx => by omega) hE
  exact ⟨C7, st7, TSt_Sg h1.1 h1.2.1 hts hs (by omega)⟩
theorem settle_C {ties j : Nat} {W : Wd} {s : Sm} (h : Ses z A T R K fi ch ties W S) (hg : GA (newA A T ties W)) (hj : R[j]? = some s) (hj60 : 1 + j < 60) (hs : GoodSm (cntT T) s) : ∃ S', cal S 11 z (f11_settle S z (nI (1 + j))) = some S' ∧ Ses z A T R K fi ch (laidS (ties, W) s).1 (laidS (ties, W) s).2 S' ∧ Cst z 0 S S' := by
  obtain ⟨h1, hst, hts⟩ := id h
  obtain ⟨hW, hT, hTp, hTf, hsh, hwd, ha, hk, hh, hc⟩ := id h1
  obtain ⟨t0, t1, t2, t3, t4, t5, t6, t7, t8, t9⟩ := TpS_g hT
  obtain ⟨m1, m2, m3, m4, m5⟩ := hts.2.2.2.2.2 j s hj
  obtain ⟨k1, k2⟩ := kindOf_T hT hj60
  have n0 := numOf_T (c := 1 + j) (j := 0) hT (by omega)
  have n1 := numOf_T (c := 1 + j) (j := 1) hT (by omega)
  rw [show 4 * (1 + j) + 0 = 4 * (1 + j) from rfl] at n0
  rw [m2] at n0
  rw [m1] at k2
  have n0' : cal S 8 (z + 1) (f8_numberOf S (z + 1) (nI (1 + j)) 0) = some (nI s.2.1.1) := n0
  have n1' : cal S 8 (z + 1) (f8_numberOf S (z + 1) (nI (1 + j)) 1) = some (cA S (z + 5) (4 * (1 + j) + 1)) := n1
  obtain ⟨g1, g2, g3, g4, g5, g6, g7, g8⟩ := id hs
  have hwd3 : kd S (z + 227) = 10 := hwd.1.1
  rw [cal_k hT.1]
  unfold f11_settle laidS
  rw [t0, Option.bind_some, n0', Option.bind_some, Option.bind_some, k1, Option.bind_some, k2, Option.bind_some]
  by_cases c2 : s.1 = 2
  · obtain ⟨a1, a2⟩ := Ses_ties (t := s.2.1.1) h
    rw [c2, if_pos (show nI 2 = (2 : Int32) from rfl), if_neg (by decide), if_pos rfl, t3, Option.bind_some, pi_k hwd3, Option.bind_some, Option.bind_some]
    exact ⟨_, rfl, a1, Cst_of a2⟩
  · rw [if_neg (show ¬ nI s.1 = (2 : Int32) from fun hh => c2 (nI_inj (b := 2) hh (by omega) (by omega))), Option.bind_some, k1, Option.bind_some]
    by_cases c1 : s.1 = 1
    · have he := g2 c2 (by omega)
      have hdl := g3 c1
      have hkn := kn_C h1 hg (nI s.2.1.1)
      have hE := (hwd.2.2.2.2.2 s.2.1.1 (by have := hg.2.2.1.1; have : cntT T ≤ 4 := this; omega)).2 he
      have hE' : EdW S (z + 227 + 5 + 45 * s.2.1.1) (wRow W).length (wE W s.2.1.1) true := hE
      have he4 : s.2.1.1 < 4 := by have := hg.2.2.1.1; have : cntT T ≤ 4 := this; omega
      rw [m3 (Or.inl c1)] at n1'
      have s1 : Sg z (fun x => x = z + 227 + 5 + 45 * s.2.1.1) 0 S (setI S (z + 227 + 5 + 45 * s.2.1.1) 10 (nI s.2.1.2.1)) := Sg_setI hW rfl
      have hrun : ((gr S 11 z 3).bind fun a11 => (cal S 10 a11 (f10_knows S a11 (nI s.2.1.1))).bind fun v12 => if v12 = 0 then (some S) else ((gr S 11 z 3).bind fun a13 => (gr S 10 a13 3).bind fun a14 => (ldr S 16 a14 (nI s.2.1.1)).bind fun a15 => (some (z + 1)).bind fun a16 => (cal S 8 a16 (f8_numberOf S a16 (nI (1 + j)) 1)).bind fun v17 => (pi S 1 a15 10 v17).bind fun S18 => some S18)) = some (setI S (z + 227 + 5 + 45 * s.2.1.1) 10 (nI s.2.1.2.1)) := by
        rw [t3, Option.bind_some, hkn, Option.bind_some, decide_eq_true (by rw [nI_toInt (by omega)]; show 0 ≤ (s.2.1.1 : Int) ∧ (s.2.1.1 : Int) < (cntT T : Int); omega), if_neg (show ¬ bI true = 0 by decide), Option.bind_some, gr_k hwd3 hwd.1.2.1.2.2.2.1, Option.bind_some, ed_at hwd.1 he4, Option.bind_some, Option.bind_some, n1', Option.bind_some, pi_k hE'.1.1.1, Option.bind_some]
      have k1' : gr S 8 (z + 1) 9 = some (z + 4) := k1
      have hfin : ∀ (Y : Option CS), Y = some (setI S (z + 227 + 5 + 45 * s.2.1.1) 10 (nI s.2.1.2.1)) → ∃ S', (Y.bind fun S6 => some S6) = some S' ∧ Ses z A T R K fi ch ties (setE W s.2.1.1 (sDel (wE W s.2.1.1) s.2.1.2.1)) S' ∧ Cst z 0 S S' := fun Y hY => by
        rw [hY, Option.bind_some]
        obtain ⟨⟨_, ⟨n8, n10, n11, n12, n13, n14⟩, _⟩, k7⟩ := id hE'
        obtain ⟨_, m7, m9, mA⟩ := k7 rfl
        have o : ∀ j, j ≠ 10 → cI (setI S (z + 227 + 5 + 45 * s.2.1.1) 10 (nI s.2.1.2.1)) (z + 227 + 5 + 45 * s.2.1.1) j = cI S (z + 227 + 5 + 45 * s.2.1.1) j := fun j hj => by rw [cI_set, if_neg (by omega)]
        exact ⟨_, rfl, Ses_ed h hg he s1 (EdW_head hW hE' s1 ⟨by rw [o 8 (by omega)]; exact n8, cI_self _ _ _ _, by rw [o 11 (by omega)]; exact n11, by rw [o 12 (by omega)]; exact n12, by rw [o 13 (by omega)]; exact n13, by rw [o 14 (by omega)]; exact n14⟩ ⟨by rw [o 7 (by omega)]; exact m7, by rw [o 9 (by omega)]; exact m9, mA⟩ rfl rfl rfl rfl rfl rfl rfl), Cst_of s1⟩
      rw [k2, Option.bind_some]
      rw [c1, if_pos (show nI 1 = (1 : Int32) from rfl), if_pos rfl]
      exact hfin _ hrun
    · rw [k2, Option.bind_some, if_neg (show ¬ nI s.1 = (1 : Int32) from fun hh => c1 (nI_inj (b := 1) hh (by omega) (by omega))), Option.bind_some, if_neg c1, if_neg c2]
      exact ⟨S, rfl, h, Cst_rf z S⟩
end TG
