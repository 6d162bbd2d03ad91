/-! ===== PART II, the class: by, share; refusals; what is asked with help of rows of its own ===== -/
section AM
variable {S : CS} {z fi ch : Nat} {A : St} {K : Nat → Option Nat}
theorem bysL_R (A : St) : bysL A (wRow (aW A)).length = bysR (aTold A).length (wRow (aW A)) := by
  unfold bysL bysR
  rw [List.take_length]
theorem by_C (h : CR S z A K fi ch) (hg : GA A) (p q : Int32) : f11_by S z p q = some (qBy A p q) := by
  obtain ⟨hW, hT, hTp, hTf, hsh, hwd, ha, hk, hh, hc⟩ := h
  obtain ⟨hw, hob, hRw, hst, hRM⟩ := id hsh
  obtain ⟨hS, ⟨n6, n7, n8, n9, n10, n11⟩, h5, hTx, hF, hE⟩ := id hwd
  have hgd := hg.2.2.1
  have hch := hgd.2.2.2.2.2.1
  have hl := row_le hgd
  have sl : (srvX (aTold A) (wRow (aW A))).length = (srvT (aTold A) (wRow (aW A))).length := by rw [srvX_len hch, srvT_len _ _ hch]
  have hbl := bys_ln hch
  unfold f11_by qBy
  rw [gr_k hT.1 hT.2.1.2.2.2.1, Option.bind_some, gr_k hS.1 hS.2.1.2.2.1, Option.bind_some, cal_k (TxL_kd hTx), hasPl hTx, Option.bind_some, sl, bysL_R]
  by_cases hp : 0 ≤ p.toInt ∧ p.toInt < (srvT (aTold A) (wRow (aW A))).length
  · have hcn : 0 < aCnt A := by
      rcases Nat.eq_zero_or_pos (aCnt A) with h0 | h0
      · obtain ⟨z1, z2, _⟩ := hg.2.2.2.2.2.2.1 h0
        rw [z1, z2] at hp
        have := hp.2
        simp [srvT] at this
        omega
      · exact h0
    rw [decide_eq_true hp, if_neg (show ¬ bI true = 0 by decide)]
    by_cases q0 : q < 0
    · rw [if_pos q0, if_neg (fun hh => by rw [Int32.lt_iff_toInt_lt, i0] at q0; omega)]
    · rw [if_neg q0]
      rw [Int32.lt_iff_toInt_lt, i0] at q0
      by_cases q1 : q ≤ 1
      · rw [if_pos q1, Option.bind_some, gr_k hS.1 hS.2.1.2.2.1, Option.bind_some, cal_k (TxL_kd hTx), wrtOf hTx, sl, if_pos hp, srvX_wr hch hg.2.2.2.1 hl, Option.bind_some]
        rw [Int32.le_iff_toInt_le, show (1 : Int32).toInt = 1 from by decide] at q1
        rw [if_pos (show 0 < aCnt A ∧ (0 ≤ q.toInt ∧ q.toInt ≤ 1) ∧ 0 ≤ p.toInt ∧ p.toInt < ((srvT (aTold A) (wRow (aW A))).length : Int) from ⟨hcn, ⟨by omega, q1⟩, hp⟩)]
        by_cases e0 : q = 0
        · rw [if_pos e0, if_pos e0, Option.bind_some]
        · have hge := List.getElem?_eq_getElem (show p.toInt.toNat < (bysR (aTold A).length (wRow (aW A))).length by omega)
          obtain ⟨j, j1, j2⟩ := bysR_num _ _ _ (List.mem_of_getElem? hge)
          rw [if_neg e0, if_neg e0, Option.bind_some, List.getD_eq_getElem?_getD, hge, Option.getD_some, j2, cal_k hS.1, owner_W hS hRw hRM n11 j1, Option.bind_some, Option.bind_some]
          unfold ownI
          cases ownOf (wRow (aW A)) (nI j) <;> rfl
      · rw [if_neg q1, if_neg (fun hh => by rw [Int32.le_iff_toInt_le, show (1 : Int32).toInt = 1 from by decide] at q1; omega)]
  · rw [decide_eq_false hp, if_pos (show bI false = 0 from rfl), if_neg (fun hh => hp hh.2.2)]
theorem cutF_cg {r1 r2 : List (Nat × List Int32)} {e : Nat} (h0 : ownOf r1 0 = ownOf r2 0) : ∀ (P b : List Int32), (∀ v ∈ b, ownOf r1 v = ownOf r2 v) → cutF r1 e P b = cutF r2 e P b := by
  intro P
  induction P with
  | nil => intro b _; rfl
  | cons v P ih =>
    intro b hb
    have hh : ownOf r1 (b.headD 0) = ownOf r2 (b.headD 0) := by
      cases b with
      | nil => exact h0
      | cons x b => exact hb x List.mem_cons_self
    rw [cutF, cutF, hh, ih _ (fun x hx => hb x (by
      split at hx
      · exact List.mem_of_mem_tail hx
      · exact hx))]
theorem forN_oth (A : St) (e : Nat) : ∀ n, n ≤ (wRow (aW A)).length → forN (aTold A).length (wRow (aW A)) e n = othC A e n := by
  intro n
  induction n with
  | zero => intro _; rfl
  | succ n ih =>
    intro hn
    rw [forN, othC, ih (by omega)]
    congr 1
    have hge := List.getElem?_eq_getElem (show n < (wRow (aW A)).length by omega)
    rw [hge]
    dsimp only
    split
    · rw [show bysL A n = bysR (aTold A).length ((wRow (aW A)).take n) from rfl]
      refine cutF_cg (by unfold ownOf; rw [if_pos rfl, if_pos rfl]) _ _ (fun v hv => ?_)
      obtain ⟨j, j1, rfl⟩ := bysR_num _ _ _ hv
      rw [List.length_take] at j1
      unfold ownOf
      by_cases h0 : nI j = 0
      · rw [if_pos h0, if_pos h0]
      · rw [if_neg h0, if_neg h0]
        by_cases hj : j < 2 ^ 31
        · rw [nI_toInt hj, show ((j : Int)).toNat = j from rfl, List.getElem?_take]
          by_cases hj0 : j = 0
          · rw [hj0] at h0; exact absurd rfl h0
          · rw [if_pos (by omega)]
        · have hrl : j ≤ (wRow (aW A)).length := by omega
          by_cases hx : (nI j).toInt.toNat - 1 < n
          · rw [List.getElem?_take, if_pos hx]
          · rw [List.getElem?_take, if_neg hx]
            exfalso
            have h3 : (nI j).toInt.toNat < 2 ^ 31 := by have := Int32.toInt_lt (nI j); omega
            omega
    · rfl
theorem cntB_loop {row : List (Nat × List Int32)} {told : List Int32} {w r g e cnt : Nat} (hS : WdS S w r g) (hRw : RwS S r) (hRM : RwM S r row) (h11 : cI S w 11 = nI row.length) (hTx : TxL S (w + 1) (srvX told row)) (hch : chR cnt told.length row) (hok : ∀ v ∈ told, okP v) (he : e < 1000) (hr : ∀ o ∈ row, o.1 < 1000) : ∀ (d n k i : Nat), i + d = (srvX told row).length → d < n → LX10_countLettersBy_4 w (nI e) S n (nI k) (nI i) = some (nI (k + cntB row e ((bysR told.length row).drop i))) := by
  have hl := hRM.1
  have hb := TxL_bd hTx
  have hbl := bys_ln hch
  have hsl : (srvX told row).length = (srvT told row).length := by rw [srvX_len hch, srvT_len row told hch]
  intro d
  induction d with
  | zero =>
    intro n k i hi hn
    obtain ⟨n, rfl⟩ : ∃ j, n = j + 1 := ⟨n - 1, by omega⟩
    unfold LX10_countLettersBy_4
    rw [gr_k hS.1 hS.2.1.2.2.1, Option.bind_some, TxL_sz hTx, Option.bind_some, if_pos (nI_le (by omega) (by omega)), List.drop_eq_nil_of_le (by omega)]
    rfl
  | succ d ih =>
    intro n k i hi hn
    obtain ⟨n, rfl⟩ : ∃ j, n = j + 1 := ⟨n - 1, by omega⟩
    have hge := List.getElem?_eq_getElem (show i < (bysR told.length row).length by omega)
    generalize (bysR told.length row)[i] = v at hge
    obtain ⟨j, j1, j2⟩ := bysR_num told.length row v (List.mem_of_getElem? hge)
    subst j2
    unfold LX10_countLettersBy_4
    have ho := own_eq (row := row) (v := nI j) he hr
    have ho2 : (if ownI row (nI j) = nI e then some (1 : Int32) else some (0 : Int32)) = some (nI (if ownOf row (nI j) = some e then 1 else 0)) := by
      by_cases hx : ownI row (nI j) = nI e
      · rw [if_pos hx] at ho ⊢
        by_cases hy : ownOf row (nI j) = some e
        · rw [if_pos hy]; rfl
        · rw [if_pos hy] at ho; exact absurd (Option.some.inj ho) (by decide)
      · rw [if_neg hx] at ho ⊢
        by_cases hy : ownOf row (nI j) = some e
        · rw [if_neg (fun hh => hh hy)] at ho; exact absurd (Option.some.inj ho) (by decide)
        · rw [if_neg hy]; rfl
    rw [gr_k hS.1 hS.2.1.2.2.1, Option.bind_some, TxL_sz hTx, Option.bind_some, if_neg (nI_ge (by omega) (by omega)), Option.bind_some, cal_k (TxL_kd hTx), wrtOf hTx, nI_toInt (by omega), if_pos ⟨by omega, by omega⟩, show ((i : Int)).toNat = i from rfl, srvX_wr hch hok hl, List.getD_eq_getElem?_getD, hge, Option.getD_some, Option.bind_some, cal_k hS.1, owner_W hS hRw hRM h11 j1, Option.bind_some, ho2, Option.bind_some, nI_add, nI_1, ih n _ (i + 1) (by omega) (by omega), (drop_get hge).1, cntB, Nat.add_assoc]
theorem share_C (h : CR S z A K fi ch) (hg : GA A) (p q : Int32) : f11_share S z p q = some (qShare A p q) := by
  have hkn := kn_C h hg p
  have hed := fun hp => ed_C h hg (p := p) hp
  obtain ⟨hW, hT, hTp, hTf, hsh, hwd, ha, hk, hh, hc⟩ := h
  obtain ⟨hw, hob, hRw, hst, hRM⟩ := id hsh
  obtain ⟨hS, ⟨n6, n7, n8, n9, n10, n11⟩, h5, hTx, hF, hE⟩ := id hwd
  have hgd := hg.2.2.1
  have hch := hgd.2.2.2.2.2.1
  have hFU := FU_gt
  unfold f11_share qShare
  rw [gr_k hT.1 hT.2.1.2.2.2.1, Option.bind_some, hkn, Option.bind_some]
  by_cases hp : 0 ≤ p.toInt ∧ p.toInt < aCnt A
  · obtain ⟨p1, p2, p3, p4, _⟩ := hed hp
    have hc4 := hgd.1
    have hr4 : ∀ o ∈ wRow (aW A), o.1 < 1000 := fun o ho => by
      obtain ⟨j, hj⟩ := List.getElem?_of_mem ho
      have := (chR_get hch hj).2.1
      omega
    rw [decide_eq_true hp, if_neg (show ¬ bI true = 0 by decide)]
    by_cases q0 : q = 0
    · have hb := TxL_bd hTx
      have := cntB_loop (e := p.toInt.toNat) hS hRw hRM n11 hTx hch hg.2.2.2.1 (by omega) hr4 (srvX (aTold A) (wRow (aW A))).length FU 0 0 (by omega) (by omega)
      rw [← p1, List.drop_zero, Nat.zero_add] at this
      rw [if_pos q0, Option.bind_some, cal_k hS.1]
      unfold f10_countLettersBy
      rw [show LX10_countLettersBy_4 (z + 227) p S FU 0 0 = _ from this, Option.bind_some, Option.bind_some, if_pos ⟨hp, by rw [q0]; decide, by rw [q0]; decide⟩, if_neg (by rw [q0]; decide), bysL_R]
    · rw [if_neg q0]
      by_cases q1 : q = 1
      · have hld : ldi S (z + 227 + 4) p = some (nI (forC (aTold A).length (wRow (aW A)) p.toInt.toNat)) := by
          have := ldi_k hS.2.2.2.2.1.1 (i := p.toInt.toNat) (by have := hS.2.2.2.2.1.2; omega) (by have := hS.2.2.2.2.1.2; omega)
          rw [← p1] at this
          rw [this, hF _ p2]
        rw [if_pos q1, Option.bind_some, gr_k hS.1 hS.2.1.2.2.2.2, Option.bind_some, hld, Option.bind_some, Option.bind_some, if_pos ⟨hp, by rw [q1]; decide, by rw [q1]; decide⟩, if_pos q1]
        unfold forC
        rw [forN_oth A _ _ (Nat.le_refl _)]
      · rw [if_neg q1, Option.bind_some, if_neg (fun hh => by
          have h1 := nI_ofInt (p := q) hh.2.1
          have h2 : q.toInt.toNat = 0 ∨ q.toInt.toNat = 1 := by omega
          rcases h2 with h2 | h2
          · rw [h2] at h1; exact q0 h1
          · rw [h2] at h1; exact q1 h1)]
  · rw [decide_eq_false hp, if_pos (show bI false = 0 from rfl), if_neg (fun hh => hp hh.1)]
end AM
