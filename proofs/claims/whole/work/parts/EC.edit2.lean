/-! ===== PART II, the class: edit, a session's reading, their ends ===== -/
noncomputable def tailF (z : Nat) (kk : Int32) (S3 : CS) : Option (Int32 × CS) :=
  (gi S3 8 (z + 1) 2).bind fun v4 => (if v4 = 0 then ((gi S3 8 (z + 1) 11).bind fun v7 => (gi S3 8 (z + 1) 1).bind fun v8 => if v8 ≤ v7 then (some S3) else ((gi S3 8 (z + 1) 11).bind fun v9 => bn2 (cal S3 8 (z + 1) (f8_fail S3 (z + 1) kk v9)) fun v10 S11 => some S11)) else (some S3)).bind fun S5 => (pi S5 8 (z + 1) 1 0).bind fun S12 => (gi S12 8 (z + 1) 2).bind fun v13 => (if v13 = 0 then (some (1 : Int32)) else (some 0)).bind fun v14 => (bz v14).bind fun v16 => some (v16, S12)
section TC
variable {S S' S'' : CS} {z fi ch c i k q : Nat} {A A' : St} {K K' : Nat → Option Nat} {H : Nat → Prop} {X : Nat × Nat} {T : List Int32} {v : Tm}
def FinR (z : Nat) (S S' : CS) (pf : Pz) (r : Int32) : Prop := Sg z (H1 z) 0 S S' ∧ cI S' (z + 1) 1 = 0 ∧ cI S' (z + 1) 2 = nI (pBd pf) ∧ pBd pf ≤ 5 ∧ (pBd pf ≠ 0 → cI S' (z + 1) 3 = oI (pBp pf)) ∧ r = bI (decide (pBd pf = 0))
theorem tail_ok {kk : Int32} {pf : Pz} (h : OK8 z S S' T i v) (he : byteAt T i = -1) (hNB : NB T) (hb : pBd pf = 0) : tailF z kk S' = some (1, setI S' (z + 1) 1 0) ∧ FinR z S (setI S' (z + 1) 1 0) pf 1 := by
  have hl := h.1.2.2.2.2.2.2
  have hi : T.length ≤ i := Decidable.byContradiction fun hh => hNB i (by omega) he
  have hk := PR_k h.1
  have s1 : Sg z (H1 z) 0 S' (setI S' (z + 1) 1 0) := Sg_setI h.1.1.1 rfl
  have i2 : cI (setI S' (z + 1) 1 0) (z + 1) 2 = 0 := by rw [cI_set, if_neg (by omega)]; exact h.1.2.2.2.1
  refine ⟨?_, by have := Sg_trans h.2 s1; exact this, cI_self _ _ _ _, by rw [i2, hb]; rfl, by omega, fun hh => absurd hb hh, by rw [hb]; rfl⟩
  unfold tailF
  rw [gi_k hk, h.1.2.2.2.1, Option.bind_some, if_pos rfl, gi_P h.1, Option.bind_some, gl_P h.1, Option.bind_some, if_pos (nI_le hi (by omega)), Option.bind_some, pi_k hk, Option.bind_some, gi_k (S := setI S' (z + 1) 1 0) hk, i2, Option.bind_some, if_pos rfl, Option.bind_some]; rfl
theorem tail_bad8 {kk : Int32} {pf : Pz} (h : BD8 z S S' k q) (hk : k ≠ 0 ∧ k ≤ 5) (h1 : pBd pf = k) (h2 : pBp pf = some q) : (∃ S'', (pi S' 8 (z + 1) 1 0).bind (fun S12 => (gi S12 8 (z + 1) 2).bind fun v13 => (if v13 = 0 then (some (1 : Int32)) else (some 0)).bind fun v14 => (bz v14).bind fun v16 => some (v16, S12)) = some (0, S'') ∧ FinR z S S'' pf 0) := by
  obtain ⟨⟨hW, hT⟩, h3, h4, h5⟩ := h
  have hk0 := hT.2.2.1.1
  have s1 : Sg z (H1 z) 0 S' (setI S' (z + 1) 1 0) := Sg_setI hW rfl
  have i2 : cI (setI S' (z + 1) 1 0) (z + 1) 2 = nI k := by rw [cI_set, if_neg (by omega)]; exact h3
  refine ⟨setI S' (z + 1) 1 0, ?_, by have := Sg_trans h5 s1; exact this, cI_self _ _ _ _, by rw [i2, h1], by omega, fun _ => by rw [cI_set, if_neg (by omega), h4, h2]; rfl, by rw [decide_eq_false (by omega)]; rfl⟩
  rw [pi_k hk0, Option.bind_some, gi_k (S := setI S' (z + 1) 1 0) hk0, i2, Option.bind_some, if_neg (nI_ne0 (by omega) (by omega)), Option.bind_some]; rfl
theorem tail_bad {kk : Int32} {pf : Pz} (h : BDp z S S' pf) : ∃ S'', tailF z kk S' = some (0, S'') ∧ FinR z S S'' pf 0 := by
  obtain ⟨a, q, ⟨b, b5⟩, hB⟩ := h
  obtain ⟨S'', e1, e2⟩ := tail_bad8 (kk := kk) hB ⟨a, b5⟩ rfl b
  refine ⟨S'', ?_, e2⟩
  have hk0 := hB.1.2.2.2.1.1
  unfold tailF
  rw [gi_k hk0, hB.2.1, Option.bind_some, if_neg (nI_ne0 (by omega) (by omega)), Option.bind_some]
  exact e1
theorem tail_pend {kk : Nat} {pf : Pz} (h : OK8 z S S' T i v) (he : byteAt T i ≠ -1) (hk : kk ≠ 0 ∧ kk ≤ 5) (h1 : pBd pf = kk) (h2 : pBp pf = some i) : ∃ S'', tailF z (nI kk) S' = some (0, S'') ∧ FinR z S S'' pf 0 := by
  have hl := h.1.2.2.2.2.2.2
  have hi : i < T.length := Decidable.byContradiction fun hh => he (byte_end (by omega))
  obtain ⟨S9, y1, y2⟩ := fail_P h.1 kk i
  obtain ⟨S'', e1, e2⟩ := tail_bad8 (kk := nI kk) (BD8_tr h y2) hk h1 h2
  refine ⟨S'', ?_, e2⟩
  have hk0 := PR_k h.1
  unfold tailF
  rw [gi_k hk0, h.1.2.2.2.1, Option.bind_some, if_pos rfl, gi_P h.1, Option.bind_some, gl_P h.1, Option.bind_some, if_neg (nI_ge hi (by omega)), Option.bind_some, y1, bn2_s, Option.bind_some]
  exact e1
theorem op_2 {T : List Int32} {wh : Bool} {d k : Nat} {p : Pz} (hb : pBd p = 0) (h : pBd (pOp T wh d k p).2 = 0) : (pOp T wh d k p).2.2.2 = p.2.2 := (okR_op d k p hb h).2.2.1
/-- an operation of the tape is read -/
theorem readOp_R (h : CR S z A K fi ch) (hg : GA A) : ∃ S' r, cal S 8 (z + 1) (f8_readOp S (z + 1)) = some (r, S') ∧ FinR z S S' (pEdit (aTape A)).2 r ∧ (pBd (pEdit (aTape A)).2 = 0 → pBp (pEdit (aTape A)).2 = none ∧ cI S' (z + 1) 8 = nI (partsS (pEdit (aTape A)).1).length ∧ seg (cA S' (z + 3)) 0 (partsS (pEdit (aTape A)).1) ∧ (partsS (pEdit (aTape A)).1).length ≤ 1600) := by
  obtain ⟨d, hd, hE⟩ : ∃ d : Nat, d = 40 ∧ pEdit (aTape A) = pOp (aTape A) true (d + 2) 0 rd0 := ⟨40, rfl, by unfold pEdit; rfl⟩
  have hNB := NB_tape hg
  obtain ⟨S1, v, o1, o2, o3, o4⟩ := open_P h hg
  obtain ⟨S3, r, r1, r2⟩ := readSteps_R (p := rd0) (wh := true) (sg := -1) hd rfl o2.1 rfl (fun x hx => by cases hx) (by rw [o3]; exact Nat.zero_le _) (by rw [o4]; omega)
  have hrun : cal S 8 (z + 1) (f8_readOp S (z + 1)) = tailF z 1 S3 := by
    rw [cal_k h.2.1.2.2.1.1]
    unfold f8_readOp
    rw [o1, Option.bind_some, r1, bn2_s]
    rfl
  rw [hrun, hE]
  rcases r2 with ⟨rfl, ⟨e1, e2⟩, e3, e4, e5⟩ | ⟨rfl, e⟩ | ⟨rfl, e1, i', v', e2, e3, e4, e5⟩
  · have hOK := OK8_tr o2 e2
    have hend : byteAt (aTape A) (pAt (pOp (aTape A) true (d + 2) 0 rd0).2) = -1 := by
      rcases e3 with e3 | ⟨e3, _⟩
      · exact e3
      · cases e3
    obtain ⟨t1, t2⟩ := tail_ok (kk := 1) hOK hend hNB e1
    have hl := e2.1.2.2.2.2.2.2
    refine ⟨_, 1, t1, t2, fun _ => ⟨?_, ?_, ?_, by omega⟩⟩
    · have := op_2 (T := aTape A) (wh := true) (d := d + 2) (k := 0) (p := rd0) rfl e1
      show (pOp (aTape A) true (d + 2) 0 rd0).2.2.2.2 = none
      rw [this]
    · rw [cI_set, if_neg (by omega), hOK.1.2.2.2.2.1.2.1]
      show nI (v.1 + _) = _
      rw [o3, Nat.zero_add]
    · have h9 := hOK.1.2.2.2.2.2.1.1
      show seg (cA S3 (z + 3)) 0 _
      rw [h9]
      intro j hj
      show wr v.2.2.2.2.1 v.1 _ (0 + j) = _
      rw [o3, wr_in hj]
  · obtain ⟨S'', t1, t2⟩ := tail_bad (kk := 1) (BDp_tr o2 e)
    exact ⟨S'', 0, t1, t2, fun hh => absurd hh e.1⟩
  · obtain ⟨S'', t1, t2⟩ := tail_pend (kk := 1) (OK8_tr o2 e2) (fun hh => e4 (Or.inl hh)) (by omega) e1 e5
    exact ⟨S'', 0, t1, t2, fun hh => by rw [e1] at hh; omega⟩
/-- behind the reading: the tape is empty, the fault is noted -/
theorem read_C {r : Int32} {pf : Pz} (h : CR S z A K fi ch) (hg : GA A) (hF : FinR z S S' pf r) (h0 : pBd pf = 0 → pBp pf = none) : ∃ S'', cal S' 11 z (f11_noteFault S' z) = some S'' ∧ CR S'' z (sFa A pf) K fi ch ∧ Sg z (fun x => x = z) 0 S' S'' := by
  obtain ⟨f1, f2, f3, f4, f5, f6⟩ := hF
  have C1 : CR S' z (sTp A []) K fi ch := CR_tape h hg f1 ⟨f2, fun k hk => by simp at hk⟩
  exact note_C (A := sTp A []) C1 (GA_sTp hg) f3 f4 f5 h0 rfl
theorem edit_A (h : CR S z A K fi ch) (hg : GA A) (hch : ch < 1000) (hR : Rm z X (117162 * (20 - made K) + (7600 + c)) S) (p : Int32) : ActR z X c ch (f11_edit X S z p) (aEdit A p) := by
  have hkn := kn_C h hg p
  obtain ⟨hW, hT, hTp, hTf, hsh, hwd, ha, hk, hh, hc⟩ := id h
  obtain ⟨t0, t1, t2, t3, t4, t5, t6, t7, t8, t9⟩ := TpS_g hT
  have b0 := hT.2.2.1.1
  unfold f11_edit aEdit
  rw [t3, Option.bind_some, hkn, Option.bind_some]
  by_cases hp : 0 ≤ p.toInt ∧ p.toInt < aCnt A
  · rw [decide_eq_true hp, if_neg (show ¬ bI true = 0 by decide), if_pos hp, t0, Option.bind_some]
    obtain ⟨S5, r, r1, r2, r3⟩ := readOp_R h hg
    obtain ⟨S6, n1, n2, n3⟩ := read_C h hg r2 (fun hb => (r3 hb).1)
    have hg6 : GA (sFa A (pEdit (aTape A)).2) := GA_sFa hg
    have hr := r2.2.2.2.2.2
    have R6 : Rm z X (117162 * (20 - made K) + (7600 + c)) S6 := Rm_step (c := 0) (d := 117162 * (20 - made K) + (7600 + c)) (by rw [Nat.zero_add]; exact Rm_step (c := 0) (d := 117162 * (20 - made K) + (7600 + c)) (by rw [Nat.zero_add]; exact hR) r2.1) n3
    obtain ⟨u0, u1, u2, u3, u4, u5, u6, u7, u8, u9⟩ := TpS_g n2.2.1
    have hwd6 := n2.2.2.2.2.2.1
    obtain ⟨p1, p2, p3, p4, ⟨⟨k1, _⟩, k6⟩⟩ := ed_C n2 hg6 (p := p) hp
    have tx : TxL S6 (z + 227 + 5 + 45 * p.toInt.toNat + 1) (eTxt (wE (aW A) p.toInt.toNat)) := (k6 rfl).1.1
    have hb240 := TxL_bd tx
    rw [r1, bn2_s, n1, Option.bind_some, u3, Option.bind_some, gr_k hwd6.1.1 hwd6.1.2.1.2.2.2.1, Option.bind_some, p4, Option.bind_some]
    by_cases hb : pBd (pEdit (aTape A)).2 = 0
    · obtain ⟨g1, g2, g3, g4⟩ := r3 hb
      rw [hr, decide_eq_true hb, if_neg (show ¬ bI true = 0 by decide)]
      obtain ⟨d, hd, hE⟩ : ∃ d : Nat, d = 42 ∧ pEdit (aTape A) = pOp (aTape A) true d 0 rd0 := ⟨42, rfl, by unfold pEdit; rfl⟩
      have hgo : (∀ s ∈ (pEdit (aTape A)).1, GoodSv s) ∧ (pEdit (aTape A)).1.length + 0 ≤ 40 := by
        rw [hE] at hb ⊢
        exact ops_good d 0 rd0 (by omega) rfl hb
      have hst : okO (stpsL (pEdit (aTape A)).1) ∧ oldL (stpsL (pEdit (aTape A)).1) = stpsN (pEdit (aTape A)).1 := by
        rw [hE] at hb ⊢
        exact steps_ok d 0 rd0 rfl hb
      have q8 := n2.2.1.2.2.1
      have f8 : gi S6 8 (z + 1) 8 = some (nI (partsS (pEdit (aTape A)).1).length) := by
        rw [gi_k q8.1, fld_Fo r2.1.1 (TpS_Sg hW hT r2.1).2.2.1.1 (by omega) n3.2.1 (by omega), g2]
      have f3 : cA S6 (z + 3) = cA S5 (z + 3) := arr_Fo r2.1.1 (TpS_Sg hW hT r2.1).2.2.1.2.2.1 (TpS_Sg hW hT r2.1).2.2.2.1.2.1.1 n3.2.1 (by omega)
      obtain ⟨S20, e1, e2, e3⟩ := told_op (X := X) (c := 117162 * (20 - made K) + (7600 + c)) (a := 0) (len := (eTxt (wE (aW A) p.toInt.toNat)).length) (f := cA S5 (z + 3)) n2.1 n2.2.1 R6 hgo.1 (by omega) hst.2 f3 g3 (by omega) hb240
      rw [Nat.zero_add] at e1
      rw [u7, Option.bind_some, u0, Option.bind_some, gr_k q8.1 q8.2.2.1, Option.bind_some, Option.bind_some, f8, Option.bind_some, gr_k k1.1 k1.2.1.1, Option.bind_some, TxL_sz tx, Option.bind_some, show cal S6 4 (z + 654) (f4_build X S6 (z + 654) (z + 3) 0 (nI (partsS (pEdit (aTape A)).1).length) (nI (eTxt (wE (aW A) p.toInt.toNat)).length)) = _ from e1, bn2_s]
      have C20 := CR_op n2 hg6 e3
      have R20 : Rm z X (117162 * (20 - made K) + (7600 + c)) S20 := Rm_step (c := 0) (d := 117162 * (20 - made K) + (7600 + c)) (by rw [Nat.zero_add]; exact R6) e3
      by_cases hle : stpsN (pEdit (aTape A)).1 ≤ (eTxt (wE (aW A) p.toInt.toNat)).length
      · rw [decide_eq_true hle, if_neg (show ¬ bI true = 0 by decide), if_pos ⟨hb, hle⟩]
        obtain ⟨o1, o2⟩ := opTo_ok hst.1 hst.2 hle
        have hP1 : okO (opTo (pEdit (aTape A)).1 (eTxt (wE (aW A) p.toInt.toNat)).length) := settle_okV o1
        have hP2 : oldL (opTo (pEdit (aTape A)).1 (eTxt (wE (aW A) p.toInt.toNat)).length) = (eTxt (wE (aW A) p.toInt.toNat)).length := by unfold opTo; rw [settle_old]; exact o2
        have hlen : (opTo (pEdit (aTape A)).1 (eTxt (wE (aW A) p.toInt.toNat)).length).length ≤ 100000 := by
          have c1 := cnt_len hP1
          have c2 : putsL (opTo (pEdit (aTape A)).1 (eTxt (wE (aW A) p.toInt.toNat)).length) ≤ 4000 := by
            unfold opTo
            rw [settle_puts]
            have c3 := cnt_len o1
            have c4 := (ptsS_ok _ hgo.1).2.2.2.2
            rw [List.length_append, List.length_replicate] at c3
            omega
          omega
        obtain ⟨S', K', fi', ch', x1, x2, x3, x4, _⟩ := edOp_C (X := X) (c := c) C20 hg6 hch (Rm_mono R20 (by omega)) p2 (e2 hle) hP1 hP2 hlen
        rw [x1, bn2_s]
        exact ⟨S', K', fi', ch', rfl, x2, x3, x4⟩
      · rw [decide_eq_false hle, if_pos (show bI false = 0 from rfl), if_neg (fun hh => hle hh.2)]
        exact act_ref (k := 2) C20 hg6 (by omega) R20
    · rw [hr, decide_eq_false hb, if_pos (show bI false = 0 from rfl), if_neg (fun hh => hb hh.1)]
      exact act_ref (k := 2) n2 hg6 (by omega) R6
  · have s1 : Sg z (fun x => x = z + 1) 0 S (setI S (z + 1) 1 0) := Sg_setI hW rfl
    have C1 : CR (setI S (z + 1) 1 0) z (sTp A []) K fi ch := CR_tape h hg s1 ⟨cI_self _ _ _ _, fun k hk => by simp at hk⟩
    rw [decide_eq_false hp, if_pos (show bI false = 0 from rfl), if_neg hp, t0, Option.bind_some, pi_k b0, Option.bind_some]
    exact act_ref (k := 2) C1 (GA_sTp hg) (by omega) (Rm_step (c := 0) (d := 117162 * (20 - made K) + (7600 + c)) (by rw [Nat.zero_add]; exact hR) s1)
end TC
