/-! ===== PART II, the class: a reader goes on ===== -/
theorem cI_set {S : CS} {h k : Nat} {v : Int32} {x j : Nat} : cI (setI S h k v) x j = if x = h ∧ j = k then v else cI S x j := by
  show va_up S.2.2.1 h (va_up (S.2.2.1 h) k v) x j = _
  by_cases hx : x = h
  · subst hx
    rw [va_up_self]
    by_cases hj : j = k
    · subst hj; rw [va_up_self, if_pos ⟨rfl, rfl⟩]
    · rw [va_up_ne _ _ hj, if_neg (fun hh => hj hh.2)]
  · rw [va_up_ne _ _ hx, if_neg (fun hh => hx hh.1)]
theorem cal_k {α : Type} {S : CS} {ci b : Nat} {o : Option α} (h : kd S b = ci) : cal S ci b o = o := by unfold cal; rw [if_pos h]
theorem z_lt {n : Nat} (h : 0 < n) (hn : n < 2 ^ 31) : (0 : Int32) < nI n := nI_lt (a := 0) h hn
theorem z_nle {n : Nat} (h : 0 < n) (hn : n < 2 ^ 31) : ¬ nI n ≤ (0 : Int32) := nI_ge (a := 0) h hn
theorem z_le {n : Nat} (hn : n < 2 ^ 31) : (0 : Int32) ≤ nI n := nI_le (a := 0) (Nat.zero_le n) hn
def lefV (v : Int32) : Int32 := if 0 ≤ v then (if v ≤ 31 then (if v ≤ 0 then 0 else 1) else v - 31) else -v
theorem pc_kinds {x : Pt} (h : okPt x) : lefV (pc x) = nI (cntP2 x) ∧ (x.1 = 1 → pc x = nI x.2) ∧ (x.1 = 0 → 31 < pc x) ∧ (x.1 = 2 → pc x < 0) := by
  have e1 := pc_le31 h
  have e2 := pc_ge0 h
  have ei := pc_int h
  have n31 : (31 : Int32).toInt = 31 := by decide
  have n0 : (0 : Int32).toInt = 0 := by decide
  refine ⟨?_, fun hx => ?_, fun hx => ?_, fun hx => ?_⟩
  · unfold lefV cntP2
    rcases h with ⟨h1, h2, h3⟩ | ⟨h1, h2, h3⟩ | ⟨h1, h2, h3⟩
    · rw [if_pos (e2.mpr (by omega)), if_neg (fun hh => e1.mp hh h1), if_neg (by omega)]
      have hp : pc x = nI (31 + x.2) := by unfold pc; rw [if_pos h1]
      rw [hp, show (31 : Int32) = nI 31 from rfl, nI_sub (by omega), Nat.add_sub_cancel_left]
    · rw [if_pos (e2.mpr (by omega)), if_pos (e1.mpr (by omega)), if_neg (fun hh => by
        rw [Int32.le_iff_toInt_le, ei, n0, if_neg (by omega), if_pos h1] at hh
        omega), if_pos h1]
      rfl
    · rw [if_neg (fun hh => e2.mp hh h1), if_neg (by omega)]
      have hp : pc x = -(nI x.2) := by unfold pc; rw [if_neg (by omega), if_neg (by omega)]
      rw [hp, Int32.neg_neg]
  · unfold pc; rw [if_neg (by omega), if_pos hx]
  · rw [Int32.lt_iff_toInt_lt, ei, n31, if_pos hx]
    unfold okPt at h
    omega
  · rw [Int32.lt_iff_toInt_lt, ei, n0, if_neg (by omega), if_neg (by omega)]
    unfold okPt at h
    omega
noncomputable def adv5 (S12 : CS) (h : Nat) : Option CS :=
      (gi S12 5 h 1).bind fun v13 =>
      (gr S12 5 h 0).bind fun a14 =>
      (gi S12 4 a14 1).bind fun v15 =>
      (
        if v15 ≤ v13 then (
          some (0 : Int32)
        ) else (
          (gr S12 5 h 0).bind fun a18 =>
          (gr S12 4 a18 0).bind fun a19 =>
          (gi S12 5 h 1).bind fun v20 =>
          (ldi S12 a19 v20).bind fun v21 =>
          some v21
        )
      ).bind fun v16 =>
      (pi S12 5 h 2 v16).bind fun S22 =>
      (gi S22 5 h 2).bind fun v23 =>
      (
        if 0 ≤ v23 then (
          (gi S22 5 h 2).bind fun v26 =>
          if v26 ≤ (31 : Int32) then (
            (gi S22 5 h 2).bind fun v27 =>
            if v27 ≤ 0 then (
              some (0 : Int32)
            ) else (
              some (1 : Int32)
            )
          ) else (
            (gi S22 5 h 2).bind fun v28 =>
            some (v28 - (31 : Int32))
          )
        ) else (
          (gi S22 5 h 2).bind fun v29 =>
          some (-v29)
        )
      ).bind fun v24 =>
      (pi S22 5 h 3 v24).bind fun S30 =>
      some S30
theorem pass_eq (S : CS) (h : Nat) (p1 : Int32) : f5_pass S h p1 = ((gi S 5 h 3).bind fun v1 => (pi S 5 h 3 (v1 - p1)).bind fun S2 => (gi S2 5 h 3).bind fun v3 => (if 0 < v3 then some S2 else (gi S2 5 h 1).bind fun v6 => (gi S2 5 h 1).bind fun v7 => (gr S2 5 h 0).bind fun a8 => (gi S2 4 a8 1).bind fun v9 => (if v9 ≤ v7 then some (0 : Int32) else some (1 : Int32)).bind fun v10 => (pi S2 5 h 1 (v6 + v10)).bind fun S12 => adv5 S12 h).bind fun S4 => some S4) := rfl
theorem adv_R {z : Nat} {S : CS} {g o i : Nat} {R : List Pt} (hW : Wf S) (hg : kd S g = 5) (hj : cJ S g 0 = some o) (hO : OpR S o R) (hi : cI S g 1 = nI i) (hl : i ≤ R.length) : ∃ S', adv5 S g = some S' ∧ RdR S' g o R (R.reverse.drop i) ∧ Sg z (fun x => x = g) 0 S S' := by
  obtain ⟨hc, a, hA⟩ := hO
  obtain ⟨⟨q1, q2, q3, q4, q5⟩, q6, q7, q8, q9⟩ := id hA
  have hgz : g < cZ S := kd_lt hW.1 hg (by omega)
  have hv : (if nI R.length ≤ nI i then some (0 : Int32) else (ldi S a (nI i)).bind fun v21 => some v21) = some ((R.reverse.map pc).getD i 0) := by
    by_cases he : i < R.length
    · rw [if_neg (nI_ge he (by omega)), ldi_k q4 (by omega) (by omega), Option.bind_some]
      have := q9 i (by rw [List.length_map, List.length_reverse]; exact he)
      rw [Nat.zero_add] at this
      rw [this]
    · rw [if_pos (nI_le (by omega) (by omega)), List.getD_eq_getElem?_getD, List.getElem?_eq_none (by rw [List.length_map, List.length_reverse]; omega)]
      rfl
  unfold adv5
  simp only [gi_k hg, gr_k hg hj, OpA_gi hA, OpA_gr hA, hi, Option.bind_some, hv, pi_k hg]
  generalize hvv : (R.reverse.map pc).getD i 0 = v
  have k2 : kd (setI S g 2 v) g = 5 := hg
  rw [gi_k k2, Option.bind_some, cI_self]
  have hlf : (if 0 ≤ v then (if v ≤ (31 : Int32) then (if v ≤ 0 then some (0 : Int32) else some (1 : Int32)) else some (v - (31 : Int32))) else some (-v)) = some (lefV v) := by
    unfold lefV
    split
    · split
      · split <;> rfl
      · rfl
    · rfl
  simp only [Option.bind_some, hlf, pi_k k2]
  have s1 : Sg z (fun x => x = g) 0 S (setI S g 2 v) := Sg_setI hW rfl
  refine ⟨_, rfl, ⟨⟨hgz, hg, hj⟩, i, hl, ?_, ?_⟩, Sg_trans s1 (Sg_setI (k := 3) (v := lefV v) s1.1 rfl)⟩
  · rw [cI_set, if_neg (by omega), cI_set, if_neg (by omega)]; exact hi
  · by_cases he : i < R.length
    · have hne : R.reverse.drop i = R.reverse[i]'(by rw [List.length_reverse]; exact he) :: R.reverse.drop (i + 1) := List.drop_eq_getElem_cons (by rw [List.length_reverse]; exact he)
      rw [hne]
      dsimp only
      generalize hx : R.reverse[i]'(by rw [List.length_reverse]; exact he) = x
      have hok : okPt x := CanR_ok hc x (List.mem_reverse.mp (hx ▸ List.getElem_mem _))
      have hvx : v = pc x := by
        rw [← hvv, List.getD_eq_getElem?_getD, List.getElem?_map, List.getElem?_eq_getElem (by rw [List.length_reverse]; exact he), hx]
        rfl
      obtain ⟨p1, p2, p3, p4⟩ := pc_kinds hok
      rw [← hvx] at p1 p2 p3 p4
      refine ⟨he, hok, ?_, rfl, ?_, ?_, ?_⟩
      · rw [cI_self]; exact p1
      · intro hh; rw [cI_set, if_neg (by omega), cI_self]; exact p2 hh
      · intro hh; rw [cI_set, if_neg (by omega), cI_self]; exact p3 hh
      · intro hh; rw [cI_set, if_neg (by omega), cI_self]; exact p4 hh
    · have hie : i = R.length := by omega
      have hv0 : v = 0 := by
        rw [← hvv, List.getD_eq_getElem?_getD, List.getElem?_eq_none (by rw [List.length_map, List.length_reverse]; omega)]
        rfl
      rw [hie, List.drop_eq_nil_of_le (by rw [List.length_reverse]; exact Nat.le_refl _)]
      refine ⟨rfl, ?_, ?_⟩
      · rw [cI_set, if_neg (by omega), cI_self]; exact hv0
      · rw [cI_self, hv0]; rfl
theorem cntP2_pos {x : Pt} (h : okPt x) : 1 ≤ cntP2 x ∧ cntP2 x ≤ 100000 := by
  unfold cntP2
  unfold okPt at h
  split <;> omega
theorem pass_R {z : Nat} {S : CS} {g o m : Nat} {R L : List Pt} {x : Pt} (hW : Wf S) (hD : RdR S g o R (x :: L)) (hO : OpR S o R) (h1 : 1 ≤ m) (h2 : m ≤ cntP2 x) : ∃ S', f5_pass S g (nI m) = some S' ∧ RdR S' g o R (dropC m (x :: L)) ∧ Sg z (fun x => x = g) 0 S S' := by
  obtain ⟨⟨hgz, hg, hj⟩, n, hn, hi, hlt, hok, h3, hdr, hp1, hp0, hp2⟩ := hD
  obtain ⟨cp1, cp2⟩ := cntP2_pos hok
  rw [pass_eq, gi_k hg, h3, Option.bind_some, pi_k hg, Option.bind_some, gi_k (S := setI S g 3 (nI (cntP2 x) - nI m)) hg, cI_self, Option.bind_some, nI_sub h2]
  have s1 : Sg z (fun x => x = g) 0 S (setI S g 3 (nI (cntP2 x - m))) := Sg_setI hW rfl
  by_cases hlt2 : m < cntP2 x
  · rw [if_pos (z_lt (by omega) (by omega)), Option.bind_some]
    have hx1 : x.1 ≠ 1 := fun hh => by unfold cntP2 at hlt2; rw [if_pos hh] at hlt2; omega
    have ec : cntP2 x = x.2 := by unfold cntP2; rw [if_neg hx1]
    rw [ec] at hlt2 cp2
    refine ⟨_, rfl, ⟨⟨hgz, hg, hj⟩, n, hn, ?_, ?_⟩, s1⟩
    · rw [cI_set, if_neg (by omega)]; exact hi
    · rw [show dropC m (x :: L) = (x.1, x.2 - m) :: L from by show (if cntP2 x ≤ m then L else (x.1, x.2 - m) :: L) = _; rw [if_neg (by omega)]]
      dsimp only
      have ec2 : cntP2 (x.1, x.2 - m) = x.2 - m := by unfold cntP2; dsimp only; rw [if_neg hx1]
      refine ⟨hlt, ?_, ?_, hdr, fun hh => absurd hh hx1, ?_, ?_⟩
      · unfold okPt at hok ⊢; dsimp only; omega
      · rw [cI_self, ec2, ec]
      · intro hh; rw [cI_set, if_neg (by omega)]; exact hp0 hh
      · intro hh; rw [cI_set, if_neg (by omega)]; exact hp2 hh
  · have hme : m = cntP2 x := by omega
    rw [hme, Nat.sub_self] at s1 ⊢
    rw [if_neg (show ¬ (0 : Int32) < nI 0 from by decide)]
    generalize hS2 : setI S g 3 (nI 0) = S2 at s1 ⊢
    have hO2 : OpR S2 o R := OpR_Fo hW hO s1.2.1 (fun e => by have := OpR_kd hO; rw [e, hg] at this; omega)
    have hg2 : kd S2 g = 5 := by rw [← hS2]; exact hg
    have hj2 : cJ S2 g 0 = some o := by rw [← hS2]; exact hj
    have hi2 : cI S2 g 1 = nI n := by rw [← hS2, cI_set, if_neg (by omega)]; exact hi
    have hgi : gi S2 4 o 1 = some (nI R.length) := by obtain ⟨_, a, hA⟩ := hO2; exact OpA_gi hA
    have hRl : R.length < 1000000 := by obtain ⟨_, a, hA⟩ := hO2; have := hA.2.2.1; have := hA.2.2.2.1; omega
    simp only [gi_k hg2, hi2, Option.bind_some, gr_k hg2 hj2, hgi]
    rw [if_neg (nI_ge hlt (by omega)), Option.bind_some, nI_1, pi_k hg2, Option.bind_some]
    have s2 := Sg_trans s1 (Sg_setI (k := 1) (v := nI (n + 1)) s1.1 rfl)
    have hO3 : OpR (setI S2 g 1 (nI (n + 1))) o R := OpR_Fo s1.1 hO2 (Sg_setI (z := z) (H := fun x => x = g) (k := 1) (v := nI (n + 1)) s1.1 rfl).2.1 (fun e => by have := OpR_kd hO; rw [e, hg] at this; omega)
    obtain ⟨S', e1, e2, e3⟩ := adv_R (z := z) (i := n + 1) s2.1 hg2 hj2 hO3 (cI_self _ _ _ _) hlt
    rw [e1, Option.bind_some]
    refine ⟨S', rfl, ?_, Sg_trans s2 e3⟩
    rw [show dropC (cntP2 x) (x :: L) = L from by show (if cntP2 x ≤ cntP2 x then L else (x.1, x.2 - cntP2 x) :: L) = _; rw [if_pos (Nat.le_refl _)], ← hdr]
    exact e2
theorem open_R {z : Nat} {S : CS} {g o : Nat} {R : List Pt} (hW : Wf S) (hg : kd S g = 5) (hO : OpR S o R) : ∃ S', f5_open S g o = some S' ∧ RdR S' g o R R.reverse ∧ Sg z (fun x => x = g) 0 S S' := by
  have ho := OpR_kd hO
  have hne : o ≠ g := fun e => by rw [e, hg] at ho; omega
  unfold f5_open
  rw [pr_k hg, Option.bind_some, pi_k (S := setJ S g 0 (some o)) hg, Option.bind_some, pi_k (S := setI (setJ S g 0 (some o)) g 1 (-1)) hg, Option.bind_some]
  have s1 : Sg z (fun x => x = g) 0 S (setJ S g 0 (some o)) := Sg_setJ5 hW rfl hg ho
  have s2 := Sg_trans s1 (Sg_setI (k := 1) (v := -1) s1.1 rfl)
  have s3 := Sg_trans s2 (Sg_setI (k := 3) (v := 0) s2.1 rfl)
  have s4 := Sg_trans s3 (Sg_setI (k := 3) (v := 0) s3.1 rfl)
  rw [cal_k (S := setI (setI (setJ S g 0 (some o)) g 1 (-1)) g 3 0) hg, pass_eq]
  generalize hS3 : setI (setI (setJ S g 0 (some o)) g 1 (-1)) g 3 0 = S3 at s3 s4 ⊢
  have hg3 : kd S3 g = 5 := by rw [← hS3]; exact hg
  rw [gi_k hg3, show cI S3 g 3 = 0 from by rw [← hS3]; exact cI_self _ _ _ _, Option.bind_some, show (0 : Int32) - 0 = 0 from by decide, pi_k hg3, Option.bind_some]
  generalize hS4 : setI S3 g 3 0 = S4 at s4 ⊢
  have hg4 : kd S4 g = 5 := by rw [← hS4]; exact hg3
  have hj4 : cJ S4 g 0 = some o := by rw [← hS4, ← hS3]; exact cJ_self _ _ _ _
  have hi4 : cI S4 g 1 = -1 := by
    rw [← hS4, cI_set, if_neg (by omega), ← hS3, cI_set, if_neg (by omega), cI_self]
  have h34 : cI S4 g 3 = 0 := by rw [← hS4]; exact cI_self _ _ _ _
  have hO4 : OpR S4 o R := OpR_Fo hW hO s4.2.1 hne
  have hgi : gi S4 4 o 1 = some (nI R.length) := by obtain ⟨_, a, hA⟩ := hO4; exact OpA_gi hA
  have hRl : R.length < 1000000 := by obtain ⟨_, a, hA⟩ := hO4; have := hA.2.2.1; have := hA.2.2.2.1; omega
  simp only [gi_k hg4, hi4, h34, Option.bind_some, gr_k hg4 hj4, hgi]
  have hneg : ¬ nI R.length ≤ (-1 : Int32) := fun hh => by
    rw [Int32.le_iff_toInt_le, nI_toInt (by omega), show (-1 : Int32).toInt = -1 from by decide] at hh
    omega
  rw [if_neg (show ¬ (0 : Int32) < 0 from by decide), if_neg hneg, Option.bind_some, show (-1 : Int32) + 1 = nI 0 from by decide, pi_k hg4, Option.bind_some]
  have s5 := Sg_trans s4 (Sg_setI (k := 1) (v := nI 0) s4.1 rfl)
  have hO5 : OpR (setI S4 g 1 (nI 0)) o R := OpR_Fo hW hO s5.2.1 hne
  obtain ⟨S', e1, e2, e3⟩ := adv_R (z := z) (i := 0) s5.1 hg4 hj4 hO5 (cI_self _ _ _ _) (Nat.zero_le _)
  rw [e1, Option.bind_some, Option.bind_some]
  exact ⟨S', rfl, by rw [List.drop_zero] at e2; exact e2, Sg_trans s5 e3⟩
theorem atPut_R {S : CS} {g o : Nat} {R L : List Pt} (hD : RdR S g o R L) : f5_isAtPut S g = some (bI (putH L)) := by
  obtain ⟨⟨hgz, hg, hj⟩, n, hn, hi, hm⟩ := hD
  unfold f5_isAtPut
  simp only [gi_k hg, Option.bind_some]
  cases L with
  | nil =>
    rw [hm.2.1, if_pos (by decide)]
    rfl
  | cons x L =>
    obtain ⟨hlt, hok, h3, hdr, hp1, hp0, hp2⟩ := hm
    show _ = some (bI (decide (x.1 = 1)))
    have n0 : (0 : Int32).toInt = 0 := by decide
    have n31 : (31 : Int32).toInt = 31 := by decide
    rcases hok with ⟨g1, g2, g3⟩ | ⟨g1, g2, g3⟩ | ⟨g1, g2, g3⟩
    · have hp := hp0 g1
      rw [if_neg (fun hh => by rw [Int32.le_iff_toInt_le] at hh; rw [Int32.lt_iff_toInt_lt] at hp; omega), if_pos hp, decide_eq_false (by omega)]
      rfl
    · have hp := hp1 g1
      rw [hp, if_neg (z_nle (by omega) (by omega)), if_neg (fun hh => by rw [Int32.lt_iff_toInt_lt, nI_toInt (by omega), n31] at hh; omega), decide_eq_true g1]
      rfl
    · have hp := hp2 g1
      rw [if_pos (by rw [Int32.le_iff_toInt_le]; rw [Int32.lt_iff_toInt_lt] at hp; omega), decide_eq_false (by omega)]
      rfl
theorem atCut_R {S : CS} {g o : Nat} {R L : List Pt} (hD : RdR S g o R L) : f5_isAtCut S g = some (bI (cutH L)) := by
  obtain ⟨⟨hgz, hg, hj⟩, n, hn, hi, hm⟩ := hD
  unfold f5_isAtCut
  simp only [gi_k hg, Option.bind_some]
  cases L with
  | nil =>
    rw [hm.2.1, if_pos (by decide)]
    rfl
  | cons x L =>
    obtain ⟨hlt, hok, h3, hdr, hp1, hp0, hp2⟩ := hm
    show _ = some (bI (decide (x.1 = 2)))
    have n0 : (0 : Int32).toInt = 0 := by decide
    have n31 : (31 : Int32).toInt = 31 := by decide
    rcases hok with ⟨g1, g2, g3⟩ | ⟨g1, g2, g3⟩ | ⟨g1, g2, g3⟩
    · have hp := hp0 g1
      rw [if_pos (by rw [Int32.le_iff_toInt_le]; rw [Int32.lt_iff_toInt_lt] at hp; omega), decide_eq_false (by omega)]
      rfl
    · have hp := hp1 g1
      rw [hp, if_pos (z_le (by omega)), decide_eq_false (by omega)]
      rfl
    · have hp := hp2 g1
      rw [if_neg (fun hh => by rw [Int32.le_iff_toInt_le] at hh; rw [Int32.lt_iff_toInt_lt] at hp; omega), decide_eq_true g1]
      rfl
