/-! ===== PART II, the class: an operation is taken back; a place is carried ===== -/
theorem invR_keep : ∀ (n : Nat) (A t : List Int32), invR (List.replicate n 0 ++ A) t = List.replicate n 0 ++ invR A (t.drop n) := by
  intro n
  induction n with
  | zero => intro A t; simp
  | succ n ih =>
    intro A t
    rw [List.replicate_succ, List.cons_append, invR, if_pos rfl, if_pos (by decide), ih, ← List.drop_one, List.drop_drop, Nat.add_comm]
    rfl
theorem invR_cut : ∀ (n : Nat) (A t : List Int32), n ≤ t.length → invR (List.replicate n (-1) ++ A) t = t.take n ++ invR A (t.drop n) := by
  intro n
  induction n with
  | zero => intro A t _; simp
  | succ n ih =>
    intro A t hl
    cases t with
    | nil => simp at hl
    | cons v t =>
      rw [List.replicate_succ, List.cons_append, invR, if_neg (by decide), if_pos rfl, if_pos (by decide), List.tail_cons, ih A t (by rw [List.length_cons] at hl; omega)]
      rfl
theorem isPut_pc {x : Pt} (h : okPt x) : f4_isPut (pc x) = some (bI (decide (x.1 = 1))) := by
  unfold f4_isPut
  have ei := pc_int h
  have n0 : (0 : Int32).toInt = 0 := by decide
  have n31 : (31 : Int32).toInt = 31 := by decide
  rcases h with ⟨g1, g2, g3⟩ | ⟨g1, g2, g3⟩ | ⟨g1, g2, g3⟩
  · rw [if_pos g1] at ei
    rw [if_neg (fun hh => by rw [Int32.le_iff_toInt_le] at hh; omega), if_pos (by rw [Int32.lt_iff_toInt_lt]; omega), decide_eq_false (by omega)]
    rfl
  · rw [if_neg (by omega), if_pos g1] at ei
    rw [if_neg (fun hh => by rw [Int32.le_iff_toInt_le] at hh; omega), if_neg (by rw [Int32.lt_iff_toInt_lt]; omega), decide_eq_true g1]
    rfl
  · rw [if_neg (by omega), if_neg (by omega)] at ei
    rw [if_pos (by rw [Int32.le_iff_toInt_le]; omega), decide_eq_false (by omega)]
    rfl
theorem inv_loop {z : Nat} {p t2 v : Nat} {R : List Pt} {t : List Int32} (hok : ∀ c ∈ t, okP c) (hne : t2 ≠ v) (hpv : p ≠ v) :
    ∀ (d i n at' : Nat) (S : CS) (C : List Pt) (raw : List Int32), i + d = R.length → d < n → Wf S → TxL S t2 t → OpR S p R → OpR S v C → Blt C raw → at' ≤ t.length → oldL (decF (R.reverse.drop i)) = t.length - at' → C.length + d + (t.length - at') ≤ lenO S v → raw.length + (decF (R.reverse.drop i)).length ≤ 90000 →
    ∃ S' C', LX9_invert_21 p t2 v n (nI at') (nI i) S = some S' ∧ OpR S' v C' ∧ Blt C' (raw ++ invR (decF (R.reverse.drop i)) (t.drop at')) ∧ Sg z (fun x => x = v) 0 S S' := by
  intro d
  induction d with
  | zero =>
    intro i n at' S C raw hi hn hW hT hO hV hb ha ho hc hr
    obtain ⟨n, rfl⟩ : ∃ k, n = k + 1 := ⟨n - 1, by omega⟩
    obtain ⟨y1, y2⟩ := pt_sz hO
    have hd : R.reverse.drop i = [] := List.drop_eq_nil_of_le (by rw [List.length_reverse]; omega)
    rw [hd]
    unfold LX9_invert_21
    rw [y1, Option.bind_some, if_pos (nI_le (by omega) (by omega)), show decF [] = [] from rfl, show invR [] (t.drop at') = [] from rfl, List.append_nil]
    exact ⟨S, C, rfl, hV, hb, Sg_refl hW⟩
  | succ d ih =>
    intro i n at' S C raw hi hn hW hT hO hV hb ha ho hc hr
    obtain ⟨n, rfl⟩ : ∃ k, n = k + 1 := ⟨n - 1, by omega⟩
    obtain ⟨y1, y2⟩ := pt_sz hO
    obtain ⟨x, L, hd⟩ : ∃ x L, R.reverse.drop i = x :: L := by
      cases hd : R.reverse.drop i with
      | nil => have := pt_end (by omega) hd; omega
      | cons x L => exact ⟨x, L, rfl⟩
    obtain ⟨hxo, hil, hdr, a, g1, g2⟩ := pt_at hO hd
    have hol := oldL_dec (l := L) hxo
    have hdl := dec_len (l := L) hxo
    have htb := TxL_bd hT
    rw [hd] at ho hr ⊢
    unfold LX9_invert_21
    rw [y1, Option.bind_some, if_neg (nI_ge hil (by omega)), g1, Option.bind_some, g2, Option.bind_some, isPut_pc hxo, Option.bind_some]
    have e1 := pc_le31 hxo
    rcases id hxo with ⟨h1, h2, h3⟩ | ⟨h1, h2, h3⟩ | ⟨h1, h2, h3⟩
    · have hp : pc x = nI (31 + x.2) := by unfold pc; rw [if_pos h1]
      have hd1 : pc x - 31 = nI x.2 := by rw [hp, show (31 : Int32) = nI 31 from rfl, nI_sub (by omega), Nat.add_sub_cancel_left]
      rw [if_neg (by omega)] at hol hdl
      rw [decide_eq_false (show ¬ x.1 = 1 by omega), if_pos (show bI false = 0 from rfl), if_neg (fun hh => e1.mp hh h1), hd1, cal_k (OpR_kd hV)]
      have hlr : (decR C).length = raw.length := by rw [hb.2, settleL_len]
      obtain ⟨S1, r1, r2, r3, r4⟩ := addKeep_R (z := z) hW hV (n := x.2) h2 (by omega) (by omega)
      rw [r1, Option.bind_some, bn2_s, nI_add, nI_1]
      have hcl := addK_len x.2 C
      obtain ⟨S', C', q1, q2, q3, q4⟩ := ih (i + 1) n (at' + x.2) S1 (addK x.2 C) (raw ++ List.replicate x.2 0) (by omega) (by omega) r4.1 (TxL_Fo hW hT r4.2.1 hne) (OpR_Fo hW hO r4.2.1 hpv) r2 (Blt_K hb h2 (by omega)) (by omega) (by rw [hdr]; omega) (by rw [r3]; omega) (by rw [hdr, List.length_append, List.length_replicate]; omega)
      rw [hdr] at q3
      refine ⟨S', C', q1, q2, ?_, Sg_trans r4 q4⟩
      rw [decF]
      unfold dec1
      rw [if_pos h1, invR_keep, List.drop_drop, ← List.append_assoc]
      exact q3
    · rw [if_pos h1] at hol hdl
      rw [decide_eq_true h1, if_neg (show ¬ bI true = 0 by decide), cal_k (OpR_kd hV)]
      have hlr : (decR C).length = raw.length := by rw [hb.2, settleL_len]
      obtain ⟨S1, r1, r2, r3, r4⟩ := addCut_R (z := z) hW hV (n := 1) (Nat.le_refl 1) (by omega) (by omega)
      rw [show (1 : Int32) = nI 1 from rfl, r1, Option.bind_some, bn2_s, nI_add]
      have hcl := addC_len 1 C
      obtain ⟨S', C', q1, q2, q3, q4⟩ := ih (i + 1) n at' S1 (addC 1 C) (raw ++ List.replicate 1 (-1)) (by omega) (by omega) r4.1 (TxL_Fo hW hT r4.2.1 hne) (OpR_Fo hW hO r4.2.1 hpv) r2 (Blt_C hb (Nat.le_refl 1) (by omega)) ha (by rw [hdr]; omega) (by rw [r3]; omega) (by rw [hdr, List.length_append, List.length_replicate]; omega)
      rw [hdr] at q3
      refine ⟨S', C', q1, q2, ?_, Sg_trans r4 q4⟩
      rw [decF]
      unfold dec1
      obtain ⟨u1, u2, u3, u4, u5⟩ := okP3 (v := nI x.2) ⟨x.2, h2, h3, rfl⟩
      rw [if_neg (by omega), if_pos h1, List.singleton_append, invR, if_neg (of_eq_false u4), if_neg (of_eq_false u5), if_neg (of_eq_false u2)]
      rw [List.append_assoc] at q3
      exact q3
    · have hp : pc x = -(nI x.2) := by unfold pc; rw [if_neg (by omega), if_neg (by omega)]
      rw [if_neg (by omega)] at hol hdl
      rw [decide_eq_false (show ¬ x.1 = 1 by omega), if_pos (show bI false = 0 from rfl), if_pos (e1.mpr (by omega)), TxL_sz hT, Option.bind_some]
      have hee : nI at' - pc x = nI (at' + x.2) := by rw [hp, Int32.sub_neg, nI_add]
      rw [hee, nI_minI (by omega) (by omega), Nat.min_eq_left (by omega)]
      have hFU := FU_gt
      obtain ⟨S1, C1, r1, r2, r3, r3l, r5, r4⟩ := inv_in (z := z) (c1 := p) (c5 := nI i) (e := at' + x.2) hok (by omega) hne x.2 at' FU S C raw rfl (by omega) hW hT hV hb (by omega)
      rw [r1, bn2_s, bn2_s, nI_1]
      have htk : ((t.drop at').take x.2).length = x.2 := by rw [List.length_take, List.length_drop]; omega
      obtain ⟨S', C', q1, q2, q3, q4⟩ := ih (i + 1) n (at' + x.2) S1 C1 _ (by omega) (by omega) r4.1 (TxL_Fo hW hT r4.2.1 hne) (OpR_Fo hW hO r4.2.1 hpv) r2 r3 (by omega) (by rw [hdr]; omega) (by rw [r5]; omega) (by rw [hdr, List.length_append, htk]; omega)
      rw [hdr] at q3
      refine ⟨S', C', q1, q2, ?_, Sg_trans r4 q4⟩
      rw [decF]
      unfold dec1
      rw [if_neg (by omega), if_neg (by omega), invR_cut x.2 (decF L) (t.drop at') (by rw [List.length_drop]; omega), List.drop_drop, ← List.append_assoc]
      exact q3
/-- an operation is taken back -/
theorem invert_L {z : Nat} {X : Nat × Nat} {S : CS} {g p t2 v c : Nat} {A t : List Int32} (hW : Wf S) (hR : Rm z X c S) (hg : grw z v) (hp : OpL S p A) (hT : TxL S t2 t) (hv : kd S v = 4) (hpv : p ≠ v) (hok : ∀ x ∈ t, okP x) (ho : oldL A = t.length) (hl : A.length ≤ 400) : ∃ S', f9_invert X S g p t2 v = some S' ∧ OpL S' v (invC A t) ∧ Sg z (fun x => x = v) 0 S S' := by
  obtain ⟨R, hO, dA⟩ := hp
  have lA := len_dec hO.1
  rw [dA] at lA
  have htb := TxL_bd hT
  have hne : t2 ≠ v := fun e => by have := TxL_kd hT; rw [e, hv] at this; omega
  unfold f9_invert
  rw [(pt_sz hO).1, Option.bind_some, TxL_sz hT, Option.bind_some, cal_k hv, nI_add, nI_1]
  obtain ⟨S1, e1, o1, ⟨m1, _⟩, s1⟩ := begin_R (m := R.length + t.length + 1) hW hR hg hv (by omega)
  rw [e1, Option.bind_some]
  have hFU := FU_gt
  have hdA : decF (R.reverse.drop 0) = A := by rw [List.drop_zero, decF_R, dA]
  obtain ⟨S', C', q1, q2, q3, q4⟩ := inv_loop (z := z) hok hne hpv R.length 0 FU 0 S1 [] [] (by omega) (by omega) s1.1 (TxL_Fo hW hT s1.2.1 hne) (OpR_Fo hW hO s1.2.1 hpv) o1 Blt_nil (Nat.zero_le _) (by rw [hdA]; omega) (by rw [List.length_nil]; omega) (by rw [hdA, List.length_nil]; omega)
  rw [hdA, List.drop_zero, List.nil_append] at q3
  have q1' : LX9_invert_21 p t2 v FU 0 0 S1 = some S' := q1
  rw [q1', Option.bind_some]
  exact ⟨S', rfl, ⟨C', q2, q3.2⟩, Sg_trans s1 q4⟩
theorem carN_past (place : Nat) (more : Bool) : ∀ (A : List Int32) (p q : Nat), place < p → carN place more A p q = q := by
  intro A
  induction A with
  | nil => intro p q _; rfl
  | cons v A ih =>
    intro p q h
    rw [carN]
    split
    · rw [if_neg (by omega)]; exact ih p q h
    · rw [if_neg (by omega)]; exact ih (p + 1) q (by omega)
theorem carN_keep (place : Nat) (more : Bool) (A : List Int32) : ∀ (n p q : Nat), carN place more (List.replicate n 0 ++ A) p q = carN place more A (p + n) q := by
  intro n
  induction n with
  | zero => intro p q; simp
  | succ n ih =>
    intro p q
    rw [List.replicate_succ, List.cons_append, carN, if_neg (by decide), if_neg (fun hh => absurd hh.1 (by decide)), ih, show p + 1 + n = p + (n + 1) by omega]
theorem carN_cut (place : Nat) (more : Bool) (A : List Int32) : ∀ (n p q : Nat), carN place more (List.replicate n (-1) ++ A) p q = carN place more A (p + n) (q - min n (place - p)) := by
  intro n
  induction n with
  | zero => intro p q; simp
  | succ n ih =>
    intro p q
    rw [List.replicate_succ, List.cons_append, carN, if_neg (by decide), ih]
    by_cases h : p < place
    · rw [if_pos ⟨rfl, h⟩, show p + 1 + n = p + (n + 1) by omega]
      congr 1
      omega
    · rw [if_neg (fun hh => h hh.2), show p + 1 + n = p + (n + 1) by omega]
      congr 1
      omega
theorem carry_loop {S : CS} {o place : Nat} {more : Bool} {R : List Pt} (hp : place < 100000) (hO : OpR S o R) : ∀ (d i n at' q : Nat), i + d = R.length → d < n → at' ≤ 1000000 + place → place ≤ q + at' → at' + (decF (R.reverse.drop i)).length ≤ 1000000 →
    LX4_carry_8 o (nI place) (bI more) S n (nI at') (nI q) (nI i) = some (nI (carN place more (decF (R.reverse.drop i)) at' q)) := by
  intro d
  induction d with
  | zero =>
    intro i n at' q hi hn h1 h2 h3
    obtain ⟨n, rfl⟩ : ∃ k, n = k + 1 := ⟨n - 1, by omega⟩
    obtain ⟨y1, y2⟩ := pt_sz hO
    have hd : R.reverse.drop i = [] := List.drop_eq_nil_of_le (by rw [List.length_reverse]; omega)
    rw [hd]
    unfold LX4_carry_8
    rw [y1, Option.bind_some, if_pos (nI_le (by omega) (by omega))]
    rfl
  | succ d ih =>
    intro i n at' q hi hn h1 h2 h3
    obtain ⟨n, rfl⟩ : ∃ k, n = k + 1 := ⟨n - 1, by omega⟩
    obtain ⟨y1, y2⟩ := pt_sz hO
    obtain ⟨x, L, hd⟩ : ∃ x L, R.reverse.drop i = x :: L := by
      cases hd : R.reverse.drop i with
      | nil => have := pt_end (by omega) hd; omega
      | cons x L => exact ⟨x, L, rfl⟩
    obtain ⟨hxo, hil, hdr, a, g1, g2⟩ := pt_at hO hd
    have hdl := dec_len (l := L) hxo
    rw [hd] at h3 ⊢
    unfold LX4_carry_8
    rw [y1, Option.bind_some, if_neg (nI_ge hil (by omega))]
    by_cases hpa : place < at'
    · rw [if_pos (nI_lt hpa (by omega)), carN_past place more _ at' q hpa]
    · rw [if_neg (nI_nlt (by omega) (by omega)), g1, Option.bind_some, g2, Option.bind_some, isPut_pc hxo, Option.bind_some]
      have e2 := pc_ge0 hxo
      rw [decF]
      unfold dec1
      rcases id hxo with ⟨k1, k2, k3⟩ | ⟨k1, k2, k3⟩ | ⟨k1, k2, k3⟩
      · have hpp : pc x = nI (31 + x.2) := by unfold pc; rw [if_pos k1]
        have hd1 : pc x - 31 = nI x.2 := by rw [hpp, show (31 : Int32) = nI 31 from rfl, nI_sub (by omega), Nat.add_sub_cancel_left]
        rw [if_neg (by omega)] at hdl
        rw [decide_eq_false (show ¬ x.1 = 1 by omega), if_pos (show bI false = 0 from rfl), if_pos (e2.mpr (by omega)), bn2_s, hd1, nI_add, nI_1, if_pos k1, carN_keep]
        have := ih (i + 1) n (at' + x.2) q (by omega) (by omega) (by omega) (by omega) (by rw [hdr]; omega)
        rw [hdr] at this
        exact this
      · obtain ⟨u1, u2, u3, u4, u5⟩ := okP3 (v := nI x.2) ⟨x.2, k2, k3, rfl⟩
        rw [if_pos k1] at hdl
        rw [decide_eq_true k1, if_neg (show ¬ bI true = 0 by decide), if_neg (show ¬ x.1 = 0 by omega), if_pos k1, List.singleton_append, carN, if_pos (of_eq_true u1)]
        have hv : (if nI at' < nI place then some (1 : Int32) else if bI more = 0 then some (0 : Int32) else some (1 : Int32)) = some (if at' < place ∨ at' = place ∧ more = true then 1 else 0) := by
          by_cases hlt : at' < place
          · rw [if_pos (nI_lt hlt (by omega)), if_pos (Or.inl hlt)]
          · rw [if_neg (nI_nlt (by omega) (by omega))]
            cases more with
            | true => rw [if_neg (by decide), if_pos (Or.inr ⟨by omega, rfl⟩)]
            | false => rw [if_pos (by decide), if_neg (fun hh => hh.elim (fun h => hlt h) (fun h => absurd h.2 (by decide)))]
        rw [hv, Option.bind_some, bn2_s, nI_1]
        have e3 : nI q + (if at' < place ∨ at' = place ∧ more = true then (1 : Int32) else 0) = nI (if at' < place ∨ at' = place ∧ more = true then q + 1 else q) := by
          split
          · rw [nI_1]
          · rw [Int32.add_zero]
        rw [e3]
        have := ih (i + 1) n at' (if at' < place ∨ at' = place ∧ more = true then q + 1 else q) (by omega) (by omega) h1 (by split <;> omega) (by rw [hdr]; omega)
        rw [hdr] at this
        exact this
      · have hpp : pc x = -(nI x.2) := by unfold pc; rw [if_neg (by omega), if_neg (by omega)]
        rw [if_neg (by omega)] at hdl
        rw [decide_eq_false (show ¬ x.1 = 1 by omega), if_pos (show bI false = 0 from rfl), if_neg (fun hh => e2.mp hh k1), bn2_s, hpp, Int32.neg_neg, nI_sub (by omega), nI_minI (by omega) (by omega), Int32.sub_neg, nI_add, nI_sub (by omega), nI_1, if_neg (by omega), if_neg (by omega), carN_cut]
        have := ih (i + 1) n (at' + x.2) (q - min x.2 (place - at')) (by omega) (by omega) (by omega) (by omega) (by rw [hdr]; omega)
        rw [hdr] at this
        exact this
theorem carry_N {S : CS} {o place : Nat} {more : Bool} {A : List Int32} (hW : Wf S) (hO : OpL S o A) (hp : place < 100000) (hl : A.length ≤ 1000) : f4_carry S o (nI place) (bI more) = some (nI (carN place more A 0 place)) := by
  obtain ⟨R, hR, dA⟩ := hO
  have hlR := OpR_len hW hR
  have hFU := FU_gt
  have hdA : decF (R.reverse.drop 0) = A := by rw [List.drop_zero, decF_R, dA]
  have := carry_loop (more := more) hp hR R.length 0 FU 0 place (by omega) (by omega) (by omega) (by omega) (by rw [hdA]; omega)
  rw [hdA] at this
  unfold f4_carry
  have this' : LX4_carry_8 o (nI place) (bI more) S FU 0 (nI place) 0 = some (nI (carN place more A 0 place)) := this
  rw [this']
  rfl
