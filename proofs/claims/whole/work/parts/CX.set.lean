/-! ===== PART II, the class: what is set ===== -/
section AG
variable {S S' : CS} {z fi ch c c0 : Nat} {A A' : St} {K K' : Nat → Option Nat} {H : Nat → Prop} {X : Nat × Nat}
theorem EdW_head {e n : Nat} {E E' : Ed} (hW : Wf S) (h : EdW S e n E true) (hs : Sg z (fun x => x = e) 0 S S') (hN : EdN S' e E') (hM : EdM S' e E') (hc : cA S' (e + 44) = cA S (e + 44)) (e1 : eTxt E' = eTxt E) (e2 : eUnd E' = eUnd E) (e3 : eDon E' = eDon E) (e4 : eCom E' = eCom E) (e5 : ePnd E' = ePnd E) (e6 : eBuf E' = eBuf E) : EdW S' e n E' true := by
  obtain ⟨⟨a1, a2, a3, a4, a5⟩, h2⟩ := h
  obtain ⟨h3, h4⟩ := h2 rfl
  have n3 : ¬ e + 3 = e := by omega
  have n5 : ¬ e + 5 = e := by omega
  refine ⟨⟨EdS_Sg hW a1 hs, hN, fun i hi => by rw [hc, e4]; exact a3 i hi, by rw [e5]; exact OpS_Fo hW a4 hs.2.1 n3, by rw [e6]; exact OpS_Fo hW a5 hs.2.1 n5⟩, fun _ => ⟨?_, hM⟩⟩
  have := EdT_Sg hW h3 hs (fun x hx => by omega)
  unfold EdT at this ⊢
  rw [e1, e2, e3]
  exact this
/-- an act that sets something of one editor: the world is kept first -/
theorem aft_C (h : CR S z A K fi ch) (hg : GA A) (hch : ch < 1000) (hR : Rm z X (117162 * (20 - made K) + (7600 + c)) S) {p : Int32} (hp : 0 ≤ p.toInt ∧ p.toInt < aCnt A) : ∃ S6 K' fi', cal S 2 (z + 597) (f2_keep X S (z + 597) (z + 227)) = some S6 ∧ CR S6 z (keepA A) K' fi' (ch + 1) ∧ (gr S6 11 z 3 = some (z + 227) ∧ gr S6 10 (z + 227) 3 = some (z + 227 + 3) ∧ ldr S6 16 (z + 227 + 3) p = some (z + 227 + 5 + 45 * p.toInt.toNat)) ∧ EdW S6 (z + 227 + 5 + 45 * p.toInt.toNat) (wRow (aW A)).length (wE (aW A) p.toInt.toNat) true ∧
    ∀ (S' : CS) (E' : Ed) (r : Int32), Sg z (fun x => x = z + 227 + 5 + 45 * p.toInt.toNat) 0 S6 S' → EdN S' (z + 227 + 5 + 45 * p.toInt.toNat) E' → EdM S' (z + 227 + 5 + 45 * p.toInt.toNat) E' → cA S' (z + 227 + 5 + 45 * p.toInt.toNat + 44) = cA S6 (z + 227 + 5 + 45 * p.toInt.toNat + 44) → eTxt E' = eTxt (wE (aW A) p.toInt.toNat) → eUnd E' = eUnd (wE (aW A) p.toInt.toNat) → eDon E' = eDon (wE (aW A) p.toInt.toNat) → eCom E' = eCom (wE (aW A) p.toInt.toNat) → ePnd E' = ePnd (wE (aW A) p.toInt.toNat) → eBuf E' = eBuf (wE (aW A) p.toInt.toNat) → ActR z X c ch (some (r, S')) (r, sWd (keepA A) (setE (aW A) p.toInt.toNat E')) := by
  obtain ⟨S6, K', fi', e6, C6, R6, st6, op6⟩ := keep_C (X := X) (c := c) h hg hch (Rm_mono hR (by omega))
  have hc4 := hg.2.2.1.1
  have hg6 := GA_keepA hg (by omega)
  obtain ⟨u0, u1, u2, u3, u4, u5, u6, u7, u8, u9⟩ := TpS_g C6.2.1
  obtain ⟨p1, p2, p3, p4, p5⟩ := ed_C C6 hg6 (p := p) hp
  have hwd := C6.2.2.2.2.2.1
  refine ⟨S6, K', fi', e6, C6, ⟨u3, gr_k hwd.1.1 hwd.1.2.1.2.2.2.1, p4⟩, p5, fun S' E' r hs hN hM hc e1 e2 e3 e4 e5 e7 => ?_⟩
  obtain ⟨C7, st7⟩ := CR_edit (A := keepA A) C6 hg6 st6 p2 hs (fun x hx => by omega) (EdW_head C6.1 p5 hs hN hM hc e1 e2 e3 e4 e5 e7)
  exact ⟨S', K', fi', ch + 1, rfl, C7, by omega, Rm_step (c := 0) (d := 117162 * (20 - made K') + c) (by rw [Nat.zero_add]; exact R6) hs⟩
theorem cursor_A (h : CR S z A K fi ch) (hg : GA A) (hch : ch < 1000) (hR : Rm z X (117162 * (20 - made K) + (7600 + c)) S) (p q : Int32) : ActR z X c ch (f11_cursor X S z p q) (aCursor A p q) := by
  have hpl := place_C h hg p q
  have hed := fun hp => ed_C h hg (p := p) hp
  obtain ⟨hW, hT, hTp, hTf, hsh, hwd, ha, hk, hh, hc⟩ := id h
  obtain ⟨t0, t1, t2, t3, t4, t5, t6, t7, t8, t9⟩ := TpS_g hT
  unfold f11_cursor aCursor
  rw [t3, Option.bind_some, hpl, Option.bind_some]
  by_cases hp : (0 ≤ p.toInt ∧ p.toInt < aCnt A) ∧ 0 ≤ q.toInt ∧ q.toInt ≤ (eTxt (wE (aW A) p.toInt.toNat)).length
  · obtain ⟨p1, p2, p3, p4, ⟨⟨k1, kN, _⟩, k6⟩⟩ := hed hp.1
    have hb := TxL_bd (k6 rfl).1.1
    have hM := (k6 rfl).2
    have hcl := (hg.2.2.1.2.2.2.2.2.2.2.2 _ p2).2.2.2.2.2.2.2.2.2.2.2.2.2.2.2.2.1
    have hq := nI_ofInt (p := q) hp.2.1
    rw [decide_eq_true hp, if_neg (show ¬ bI true = 0 by decide), Option.bind_some, gr_k hwd.1.1 hwd.1.2.1.2.2.2.1, Option.bind_some, p4, Option.bind_some, gi_k k1.1, hM.2.1, Option.bind_some]
    by_cases hqe : q.toInt = eCur (wE (aW A) p.toInt.toNat)
    · have e : q.toInt.toNat = eCur (wE (aW A) p.toInt.toNat) := by omega
      rw [if_pos (by rw [← e]; exact hq.symm), if_neg (fun x => x.2.2 hqe)]
      exact act_refF (k := 3) h hg (by omega) hR
    · obtain ⟨S6, K', fi', e6, C6, ⟨g1, g2, g3⟩, E6, go⟩ := aft_C (X := X) (c := c) h hg hch hR hp.1
      rw [if_neg (fun x => hqe (by rw [← x, nI_toInt (by omega)])), t5, Option.bind_some, Option.bind_some, if_pos ⟨hp.1, hp.2, hqe⟩, e6, Option.bind_some, g1, Option.bind_some, g2, Option.bind_some, g3, Option.bind_some, pi_k E6.1.1.1, Option.bind_some]
      obtain ⟨⟨_, ⟨n8, n10, n11, n12, n13, n14⟩, _⟩, k7⟩ := E6
      obtain ⟨_, m7, m9, mA⟩ := k7 rfl
      have o : ∀ j, j ≠ 9 → cI (setI S6 (z + 227 + 5 + 45 * p.toInt.toNat) 9 q) (z + 227 + 5 + 45 * p.toInt.toNat) j = cI S6 (z + 227 + 5 + 45 * p.toInt.toNat) j := fun j hj => by rw [cI_set, if_neg (by omega)]
      exact go _ (sCur (wE (aW A) p.toInt.toNat) q.toInt.toNat) 1 (Sg_setI C6.1 rfl) ⟨by rw [o 8 (by omega)]; exact n8, by rw [o 10 (by omega)]; exact n10, by rw [o 11 (by omega)]; exact n11, by rw [o 12 (by omega)]; exact n12, by rw [o 13 (by omega)]; exact n13, by rw [o 14 (by omega)]; exact n14⟩ ⟨by rw [o 7 (by omega)]; exact m7, by rw [cI_self]; exact hq, mA⟩ rfl rfl rfl rfl rfl rfl rfl
  · rw [decide_eq_false hp, if_pos (show bI false = 0 from rfl), if_neg (fun hh => hp ⟨hh.1, hh.2.1⟩)]
    exact act_refF (k := 3) h hg (by omega) hR
theorem line_A (h : CR S z A K fi ch) (hg : GA A) (hch : ch < 1000) (hR : Rm z X (117162 * (20 - made K) + (7600 + c)) S) (p : Int32) (b : Bool) : ActR z X c ch (f11_line X S z p (bI b)) (aLine A p (bI b)) := by
  have hkn := kn_C h hg p
  have hed := fun hp => ed_C h hg (p := p) hp
  obtain ⟨hW, hT, hTp, hTf, hsh, hwd, ha, hk, hh, hc⟩ := id h
  obtain ⟨t0, t1, t2, t3, t4, t5, t6, t7, t8, t9⟩ := TpS_g hT
  have hbb : decide (bI b ≠ 0) = b := by cases b <;> decide
  unfold f11_line aLine
  rw [t3, Option.bind_some, hkn, Option.bind_some, hbb]
  by_cases hp : 0 ≤ p.toInt ∧ p.toInt < aCnt A
  · obtain ⟨p1, p2, p3, p4, ⟨⟨k1, ⟨_, _, _, _, _, k14⟩, _⟩, k6⟩⟩ := hed hp
    rw [decide_eq_true hp, if_neg (show ¬ bI true = 0 by decide), Option.bind_some, gr_k hwd.1.1 hwd.1.2.1.2.2.2.1, Option.bind_some, p4, Option.bind_some, gi_k k1.1, k14, Option.bind_some]
    by_cases hqe : eOn (wE (aW A) p.toInt.toNat) = b
    · rw [if_pos (by rw [hqe]), if_neg (fun x => x.2 hqe)]
      exact act_refF (k := 3) h hg (by omega) hR
    · obtain ⟨S6, K', fi', e6, C6, ⟨g1, g2, g3⟩, E6, go⟩ := aft_C (X := X) (c := c) h hg hch hR hp
      rw [if_neg (fun x => hqe (by revert x; cases eOn (wE (aW A) p.toInt.toNat) <;> cases b <;> decide)), t5, Option.bind_some, Option.bind_some, if_pos ⟨hp, hqe⟩, e6, Option.bind_some, g1, Option.bind_some, g2, Option.bind_some, g3, Option.bind_some, bz_bI, Option.bind_some, pi_k E6.1.1.1, Option.bind_some]
      obtain ⟨⟨_, ⟨n8, n10, n11, n12, n13, n14⟩, _⟩, k7⟩ := E6
      obtain ⟨_, m7, m9, mA⟩ := k7 rfl
      have o : ∀ j, j ≠ 14 → cI (setI S6 (z + 227 + 5 + 45 * p.toInt.toNat) 14 (bI b)) (z + 227 + 5 + 45 * p.toInt.toNat) j = cI S6 (z + 227 + 5 + 45 * p.toInt.toNat) j := fun j hj => by rw [cI_set, if_neg (by omega)]
      exact go _ (sOn (wE (aW A) p.toInt.toNat) b) 1 (Sg_setI C6.1 rfl) ⟨by rw [o 8 (by omega)]; exact n8, by rw [o 10 (by omega)]; exact n10, by rw [o 11 (by omega)]; exact n11, by rw [o 12 (by omega)]; exact n12, by rw [o 13 (by omega)]; exact n13, by rw [cI_self]; rfl⟩ ⟨by rw [o 7 (by omega)]; exact m7, by rw [o 9 (by omega)]; exact m9, mA⟩ rfl rfl rfl rfl rfl rfl rfl
  · rw [decide_eq_false hp, if_pos (show bI false = 0 from rfl), if_neg (fun hh => hp hh.1)]
    exact act_refF (k := 3) h hg (by omega) hR
theorem delay_A (h : CR S z A K fi ch) (hg : GA A) (hch : ch < 1000) (hR : Rm z X (117162 * (20 - made K) + (7600 + c)) S) (p q : Int32) : ActR z X c ch (f11_delay X S z p q) (aDelay A p q) := by
  have hkn := kn_C h hg p
  have hed := fun hp => ed_C h hg (p := p) hp
  obtain ⟨hW, hT, hTp, hTf, hsh, hwd, ha, hk, hh, hc⟩ := id h
  obtain ⟨t0, t1, t2, t3, t4, t5, t6, t7, t8, t9⟩ := TpS_g hT
  unfold f11_delay aDelay
  rw [t3, Option.bind_some, hkn, Option.bind_some]
  by_cases hp : 0 ≤ p.toInt ∧ p.toInt < aCnt A
  · obtain ⟨p1, p2, p3, p4, ⟨⟨k1, ⟨_, k10, _, _, _, _⟩, _⟩, k6⟩⟩ := hed hp
    have hdl := (hg.2.2.1.2.2.2.2.2.2.2.2 _ p2)
    rw [decide_eq_true hp, if_neg (show ¬ bI true = 0 by decide)]
    by_cases q0 : q < 0
    · rw [if_pos q0, if_neg (fun x => by rw [Int32.lt_iff_toInt_lt, i0] at q0; omega)]
      exact act_refF (k := 3) h hg (by omega) hR
    · rw [if_neg q0]
      rw [Int32.lt_iff_toInt_lt, i0] at q0
      by_cases q9 : 9 < q
      · rw [if_pos q9, if_neg (fun x => by rw [Int32.lt_iff_toInt_lt, show (9 : Int32).toInt = 9 from by decide] at q9; omega)]
        exact act_refF (k := 3) h hg (by omega) hR
      · rw [if_neg q9, Option.bind_some, gr_k hwd.1.1 hwd.1.2.1.2.2.2.1, Option.bind_some, p4, Option.bind_some, gi_k k1.1, k10, Option.bind_some]
        rw [Int32.lt_iff_toInt_lt, show (9 : Int32).toInt = 9 from by decide] at q9
        have hq := nI_ofInt (p := q) (by omega)
        have hd9 : eDel (wE (aW A) p.toInt.toNat) ≤ 9 := by have := hdl.2.1; omega
        by_cases hqe : (eDel (wE (aW A) p.toInt.toNat) : Int) = q.toInt
        · have e : q.toInt.toNat = eDel (wE (aW A) p.toInt.toNat) := by omega
          rw [if_pos (by rw [← e]; exact hq.symm), if_neg (fun x => x.2.2 hqe)]
          exact act_refF (k := 3) h hg (by omega) hR
        · obtain ⟨S6, K', fi', e6, C6, ⟨g1, g2, g3⟩, E6, go⟩ := aft_C (X := X) (c := c) h hg hch hR hp
          rw [if_neg (fun x => hqe (by rw [← x, nI_toInt (by omega)])), t5, Option.bind_some, Option.bind_some, if_pos ⟨hp, ⟨by omega, by omega⟩, hqe⟩, e6, Option.bind_some, g1, Option.bind_some, g2, Option.bind_some, g3, Option.bind_some, pi_k E6.1.1.1, Option.bind_some]
          obtain ⟨⟨_, ⟨n8, n10, n11, n12, n13, n14⟩, _⟩, k7⟩ := E6
          obtain ⟨_, m7, m9, mA⟩ := k7 rfl
          have o : ∀ j, j ≠ 10 → cI (setI S6 (z + 227 + 5 + 45 * p.toInt.toNat) 10 q) (z + 227 + 5 + 45 * p.toInt.toNat) j = cI S6 (z + 227 + 5 + 45 * p.toInt.toNat) j := fun j hj => by rw [cI_set, if_neg (by omega)]
          exact go _ (sDel (wE (aW A) p.toInt.toNat) q.toInt.toNat) 1 (Sg_setI C6.1 rfl) ⟨by rw [o 8 (by omega)]; exact n8, by rw [cI_self]; exact hq, by rw [o 11 (by omega)]; exact n11, by rw [o 12 (by omega)]; exact n12, by rw [o 13 (by omega)]; exact n13, by rw [o 14 (by omega)]; exact n14⟩ ⟨by rw [o 7 (by omega)]; exact m7, by rw [o 9 (by omega)]; exact m9, mA⟩ rfl rfl rfl rfl rfl rfl rfl
  · rw [decide_eq_false hp, if_pos (show bI false = 0 from rfl), if_neg (fun hh => hp hh.1)]
    exact act_refF (k := 3) h hg (by omega) hR
end AG
