/-! ===== PART II, the class: operations are built; whether they change something; how many they put ===== -/
theorem addKeep_0 {S : CS} {h : Nat} {v : Int32} (hv : ¬ 0 < v) : f4_addKeep S h v = some S := by
  unfold f4_addKeep
  rw [if_neg hv]
def kO (n : Nat) (R : List Pt) : List Pt := if n = 0 then R else addK n R
theorem decR_kO (n : Nat) (R : List Pt) : decR (kO n R) = decR R ++ List.replicate n 0 := by
  unfold kO
  split
  · rename_i h; rw [h, List.replicate_zero, List.append_nil]
  · exact decR_addK n R
theorem kO_len (n : Nat) (R : List Pt) : (kO n R).length ≤ R.length + 1 := by
  unfold kO
  split
  · omega
  · exact addK_len n R
theorem addKeep_O {z : Nat} {S : CS} {h n : Nat} {R : List Pt} (hW : Wf S) (hO : OpR S h R) (hd : (decR R).length + n < 100000) (hs : R.length + 1 ≤ lenO S h) : ∃ S', f4_addKeep S h (nI n) = some S' ∧ OpR S' h (kO n R) ∧ lenO S' h = lenO S h ∧ Sg z (fun x => x = h) 0 S S' := by
  unfold kO
  by_cases hn : n = 0
  · rw [if_pos hn, hn]
    exact ⟨S, addKeep_0 (by decide), hO, rfl, Sg_refl hW⟩
  · rw [if_neg hn]
    exact addKeep_R hW hO (by omega) hd hs
theorem buildPut_L {z : Nat} {X : Nat × Nat} {S : CS} {o at' w len c : Nat} (hW : Wf S) (hR : Rm z X c S) (hg : grw z o) (hk : kd S o = 4) (ha : at' ≤ len) (hl : len ≤ 400) (h1 : 1 ≤ w) (h2 : w ≤ 26) : ∃ S', f4_buildPut X S o (nI at') (nI w) (nI len) = some S' ∧ OpL S' o (layO len at' (nI w) 0) ∧ Sg z (fun x => x = o) 0 S S' := by
  unfold f4_buildPut
  obtain ⟨S1, e1, o1, ⟨m1, _⟩, s1⟩ := begin_R (m := 3) hW hR hg hk (by omega)
  rw [cal_k hk, show (3 : Int32) = nI 3 from rfl, e1, Option.bind_some, cal_k (OpR_kd o1)]
  obtain ⟨S2, e2, o2, l2, s2⟩ := addKeep_O (z := z) (n := at') s1.1 o1 (by show 0 + at' < 100000; omega) (by rw [List.length_nil]; omega)
  rw [e2, Option.bind_some, cal_k (OpR_kd o2)]
  have hl2 := kO_len at' []
  rw [List.length_nil] at hl2
  obtain ⟨S3, e3, o3, l3, s3⟩ := addPut_R (z := z) s2.1 o2 h1 h2 (by omega)
  rw [e3, Option.bind_some, cal_k (OpR_kd o3), nI_sub ha]
  have hd3 : decR (addP w (kO at' [])) = List.replicate at' 0 ++ [nI w] := by
    have e0 : decR (kO at' []) = List.replicate at' 0 := by rw [decR_kO]; rfl
    unfold addP
    cases hk0 : kO at' [] with
    | nil => rw [hk0] at e0; dsimp only; rw [← e0]; rfl
    | cons x r =>
      dsimp only
      have hx : ¬ x.1 = 2 := by
        unfold kO at hk0
        split at hk0
        · cases hk0
        · injection hk0 with q1 q2
          rw [← q1]; show ¬ 0 = 2; decide
      rw [hk0] at e0
      rw [if_neg hx, decR, e0]
      rfl
  obtain ⟨S4, e4, o4, l4, s4⟩ := addKeep_O (z := z) (n := len - at') s3.1 o3 (by rw [hd3, List.length_append, List.length_replicate, List.length_singleton]; omega) (by rw [addP_len]; omega)
  rw [e4, Option.bind_some]
  refine ⟨S4, rfl, ⟨_, o4, ?_⟩, Sg_trans (Sg_trans (Sg_trans s1 s2) s3) s4⟩
  rw [decR_kO, hd3]
  obtain ⟨u1, u2, u3, u4, u5⟩ := okP3 (v := nI w) ⟨w, h1, h2, rfl⟩
  unfold layO
  rw [if_neg (of_eq_false u2), List.replicate_zero, List.nil_append, Nat.add_zero, List.append_assoc]
theorem buildCut_L {z : Nat} {X : Nat × Nat} {S : CS} {o at' n len c : Nat} (hW : Wf S) (hR : Rm z X c S) (hg : grw z o) (hk : kd S o = 4) (ha : at' + n ≤ len) (hl : len ≤ 400) (h1 : 1 ≤ n) : ∃ S', f4_buildCut X S o (nI at') (nI n) (nI len) = some S' ∧ OpL S' o (layO len at' 0 n) ∧ Sg z (fun x => x = o) 0 S S' := by
  unfold f4_buildCut
  obtain ⟨S1, e1, o1, ⟨m1, _⟩, s1⟩ := begin_R (m := 3) hW hR hg hk (by omega)
  rw [cal_k hk, show (3 : Int32) = nI 3 from rfl, e1, Option.bind_some, cal_k (OpR_kd o1)]
  obtain ⟨S2, e2, o2, l2, s2⟩ := addKeep_O (z := z) (n := at') s1.1 o1 (by show 0 + at' < 100000; omega) (by rw [List.length_nil]; omega)
  rw [e2, Option.bind_some, cal_k (OpR_kd o2)]
  have hl2 := kO_len at' []
  rw [List.length_nil] at hl2
  have e0 : decR (kO at' []) = List.replicate at' 0 := by rw [decR_kO]; rfl
  obtain ⟨S3, e3, o3, l3, s3⟩ := addCut_R (z := z) s2.1 o2 (n := n) h1 (by rw [e0, List.length_replicate]; omega) (by omega)
  rw [e3, Option.bind_some, cal_k (OpR_kd o3), nI_sub (by omega), nI_sub (by omega)]
  have hd3 : decR (addC n (kO at' [])) = List.replicate at' 0 ++ List.replicate n (-1) := by rw [decR_addC, e0]
  have hl3 := addC_len n (kO at' [])
  obtain ⟨S4, e4, o4, l4, s4⟩ := addKeep_O (z := z) (n := len - at' - n) s3.1 o3 (by rw [hd3, List.length_append, List.length_replicate, List.length_replicate]; omega) (by omega)
  rw [e4, Option.bind_some]
  refine ⟨S4, rfl, ⟨_, o4, ?_⟩, Sg_trans (Sg_trans (Sg_trans s1 s2) s3) s4⟩
  rw [decR_kO, hd3]
  unfold layO
  rw [if_pos (show (0 : Int32) ≤ 0 by decide), List.nil_append, List.append_assoc, show len - at' - n = len - (at' + n) by omega]
theorem idle_dec {x : Pt} {L : List Pt} (h : okPt x) : idleB (decF (x :: L)) = (decide (x.1 = 0) && idleB (decF L)) := by
  rw [decF]
  unfold dec1
  rcases h with ⟨h1, h2, h3⟩ | ⟨h1, h2, h3⟩ | ⟨h1, h2, h3⟩
  · rw [if_pos h1, decide_eq_true h1, Bool.true_and]
    have key : ∀ (n : Nat) (l : List Int32), idleB (List.replicate n 0 ++ l) = idleB l := by
      intro n
      induction n with
      | zero => intro l; rfl
      | succ n ih => intro l; rw [List.replicate_succ, List.cons_append, idleB, ih, decide_eq_true rfl, Bool.true_and]
    exact key _ _
  · rw [if_neg (by omega), if_pos h1, decide_eq_false (show ¬ x.1 = 0 by omega), Bool.false_and, List.singleton_append, idleB]
    obtain ⟨u1, u2, u3, u4, u5⟩ := okP3 (v := nI x.2) ⟨x.2, h2, h3, rfl⟩
    rw [decide_eq_false (of_eq_false u4), Bool.false_and]
  · rw [if_neg (by omega), if_neg (by omega), decide_eq_false (show ¬ x.1 = 0 by omega), Bool.false_and, show x.2 = (x.2 - 1) + 1 by omega, List.replicate_succ, List.cons_append, idleB, decide_eq_false (by decide), Bool.false_and]
theorem puts_dec {x : Pt} {L : List Pt} (h : okPt x) : putsL (decF (x :: L)) = (if x.1 = 1 then 1 else 0) + putsL (decF L) := by
  rw [decF]
  unfold dec1
  have key : ∀ (c : Int32), c ≤ 0 → ∀ (n : Nat) (l : List Int32), putsL (List.replicate n c ++ l) = putsL l := by
    intro c hc n
    induction n with
    | zero => intro l; rfl
    | succ n ih => intro l; rw [List.replicate_succ, List.cons_append, putsL, if_pos hc, ih]; omega
  rcases h with ⟨h1, h2, h3⟩ | ⟨h1, h2, h3⟩ | ⟨h1, h2, h3⟩
  · rw [if_pos h1, if_neg (by omega), key 0 (by decide)]; omega
  · rw [if_neg (by omega), if_pos h1, if_pos h1, List.singleton_append, putsL]
    obtain ⟨u1, u2, u3, u4, u5⟩ := okP3 (v := nI x.2) ⟨x.2, h2, h3, rfl⟩
    rw [if_neg (of_eq_false u2)]
  · rw [if_neg (by omega), if_neg (by omega), if_neg (by omega), key (-1) (by decide)]; omega
theorem chg_loop {S : CS} {o : Nat} {R : List Pt} (hO : OpR S o R) : ∀ (d i n : Nat), i + d = R.length → d < n → LX4_changesSomething_2 o S n (nI i) = some (if idleB (decF (R.reverse.drop i)) then 1 else 0) := by
  obtain ⟨y1, y2⟩ := pt_sz hO
  intro d
  induction d with
  | zero =>
    intro i n hi hn
    obtain ⟨n, rfl⟩ : ∃ k, n = k + 1 := ⟨n - 1, by omega⟩
    have hd : R.reverse.drop i = [] := List.drop_eq_nil_of_le (by rw [List.length_reverse]; omega)
    unfold LX4_changesSomething_2
    rw [y1, Option.bind_some, if_pos (nI_le (by omega) (by omega)), hd]; rfl
  | succ d ih =>
    intro i n hi hn
    obtain ⟨n, rfl⟩ : ∃ k, n = k + 1 := ⟨n - 1, by omega⟩
    obtain ⟨x, L, hd⟩ : ∃ x L, R.reverse.drop i = x :: L := by
      cases hd : R.reverse.drop i with
      | nil => have := pt_end (by omega) hd; omega
      | cons x L => exact ⟨x, L, rfl⟩
    obtain ⟨hxo, hil, hdr, a, g1, g2⟩ := pt_at hO hd
    unfold LX4_changesSomething_2
    have e1 := pc_le31 hxo
    rw [y1, Option.bind_some, if_neg (nI_ge hil (by omega)), g1, Option.bind_some, g2, Option.bind_some, hd, idle_dec hxo]
    by_cases h0 : x.1 = 0
    · rw [if_pos ((pc_kinds hxo).2.2.1 h0), nI_1, ih (i + 1) n (by omega) (by omega), hdr, decide_eq_true h0, Bool.true_and]
    · rw [if_neg (fun hh => by
        have := e1.mpr h0
        rw [Int32.le_iff_toInt_le] at this
        rw [Int32.lt_iff_toInt_lt] at hh
        omega), decide_eq_false h0, Bool.false_and]; rfl
theorem changes_N {S : CS} {o : Nat} {A : List Int32} (hW : Wf S) (hO : OpL S o A) : f4_changesSomething S o = some (bI (!(idleB A))) := by
  obtain ⟨R, hR, dA⟩ := hO
  have hlR := OpR_len hW hR
  have hFU := FU_gt
  have := chg_loop hR R.length 0 FU (by omega) (by omega)
  rw [List.drop_zero, decF_R, dA] at this
  have this' : LX4_changesSomething_2 o S FU 0 = some (if idleB A then 1 else 0) := this
  unfold f4_changesSomething
  rw [this', Option.bind_some]
  cases idleB A <;> rfl
theorem cput_loop {S : CS} {o : Nat} {R : List Pt} (hO : OpR S o R) : ∀ (d i n c : Nat), i + d = R.length → d < n → LX4_countPut_4 o S n (nI c) (nI i) = some (nI (c + putsL (decF (R.reverse.drop i)))) := by
  obtain ⟨y1, y2⟩ := pt_sz hO
  intro d
  induction d with
  | zero =>
    intro i n c hi hn
    obtain ⟨n, rfl⟩ : ∃ k, n = k + 1 := ⟨n - 1, by omega⟩
    have hd : R.reverse.drop i = [] := List.drop_eq_nil_of_le (by rw [List.length_reverse]; omega)
    unfold LX4_countPut_4
    rw [y1, Option.bind_some, if_pos (nI_le (by omega) (by omega)), hd]; rfl
  | succ d ih =>
    intro i n c hi hn
    obtain ⟨n, rfl⟩ : ∃ k, n = k + 1 := ⟨n - 1, by omega⟩
    obtain ⟨x, L, hd⟩ : ∃ x L, R.reverse.drop i = x :: L := by
      cases hd : R.reverse.drop i with
      | nil => have := pt_end (by omega) hd; omega
      | cons x L => exact ⟨x, L, rfl⟩
    obtain ⟨hxo, hil, hdr, a, g1, g2⟩ := pt_at hO hd
    unfold LX4_countPut_4
    rw [y1, Option.bind_some, if_neg (nI_ge hil (by omega)), g1, Option.bind_some, g2, Option.bind_some, isPut_pc hxo, Option.bind_some, hd, puts_dec hxo]
    by_cases h0 : x.1 = 1
    · rw [decide_eq_true h0, if_neg (show ¬ bI true = 0 by decide), Option.bind_some, nI_1, nI_1, ih (i + 1) n (c + 1) (by omega) (by omega), hdr, if_pos h0, Nat.add_assoc]
    · rw [decide_eq_false h0, if_pos (show bI false = 0 from rfl), Option.bind_some, Int32.add_zero, nI_1, ih (i + 1) n c (by omega) (by omega), hdr, if_neg h0, Nat.zero_add]
theorem countPut_N {S : CS} {o : Nat} {A : List Int32} (hW : Wf S) (hO : OpL S o A) : f4_countPut S o = some (nI (putsL A)) := by
  obtain ⟨R, hR, dA⟩ := hO
  have hlR := OpR_len hW hR
  have hFU := FU_gt
  have := cput_loop hR R.length 0 FU 0 (by omega) (by omega)
  rw [List.drop_zero, decF_R, dA, Nat.zero_add] at this
  have this' : LX4_countPut_4 o S FU 0 0 = some (nI (putsL A)) := this
  unfold f4_countPut
  rw [this']; rfl
/-- parts that were told, in a row of numbers -/
theorem build_loop {z : Nat} {o a to' len : Nat} {P : List Pt} {f : Nat} : ∀ (d i n s : Nat) (S : CS) (C : List Pt) (raw : List Int32), i + d = P.length → f + P.length = to' → d < n → Wf S → OpR S o C → (∀ h k, cJ S h k = some a → h ≠ o) → (kd S a = 14 ∧ a < cZ S ∧ to' ≤ cN S a ∧ cN S a < 1000000) → (∀ k, k < P.length → cA S a (f + k) = (P.map pc).getD k 0) → (∀ x ∈ P, okPt x) → Blt C raw → C.length + d ≤ lenO S o → raw.length + (decF (P.drop i)).length ≤ 90000 →
    ∃ S' C', LX4_build_16 o a (nI to') n (nI len - nI s) (nI (f + i)) S = some (nI len - nI (s + oldL (decF (P.drop i))), S') ∧ OpR S' o C' ∧ Blt C' (raw ++ decF (P.drop i)) ∧ C'.length ≤ C.length + d ∧ lenO S' o = lenO S o ∧ Sg z (fun x => x = o) 0 S S' := by
  intro d
  induction d with
  | zero =>
    intro i n s S C raw hi hf hn hW hO hown ha hs hP hb hc hr
    obtain ⟨n, rfl⟩ : ∃ k, n = k + 1 := ⟨n - 1, by omega⟩
    have hd : P.drop i = [] := List.drop_eq_nil_of_le (by omega)
    unfold LX4_build_16
    rw [if_neg (show ¬ nI (f + i) < 0 from nI_pos (by omega)), if_pos (nI_le (by omega) (by omega)), hd]
    exact ⟨S, C, rfl, hO, by rw [show decF [] = [] from rfl, List.append_nil]; exact hb, by omega, rfl, Sg_refl hW⟩
  | succ d ih =>
    intro i n s S C raw hi hf hn hW hO hown ha hs hP hb hc hr
    obtain ⟨n, rfl⟩ : ∃ k, n = k + 1 := ⟨n - 1, by omega⟩
    have hil : i < P.length := by omega
    have hd : P.drop i = P[i] :: P.drop (i + 1) := List.drop_eq_getElem_cons hil
    generalize hx : P[i] = x at hd
    have hxo : okPt x := hP x (hx ▸ List.getElem_mem hil)
    have hld : ldi S a (nI (f + i)) = some (pc x) := by
      rw [ldi_k ha.1 (by omega) (by omega), hs i hil, List.getD_eq_getElem?_getD, List.getElem?_map, List.getElem?_eq_getElem hil, hx]; rfl
    have hol := oldL_dec (l := P.drop (i + 1)) hxo
    have hdl := dec_len (l := P.drop (i + 1)) hxo
    have hlr : (decR C).length = raw.length := by rw [hb.2, settleL_len]
    rw [hd] at hr ⊢
    unfold LX4_build_16
    rw [if_neg (show ¬ nI (f + i) < 0 from nI_pos (by omega)), if_neg (nI_ge (by omega) (by omega)), aln_k ha.1, Option.bind_some, if_neg (nI_ge (by omega) (by omega)), hld, Option.bind_some, isPut_pc hxo, Option.bind_some]
    have e2 := pc_ge0 hxo
    have next : ∀ (S1 : CS) (C1 : List Pt), OpR S1 o C1 → lenO S1 o = lenO S o → Sg z (fun x => x = o) 0 S S1 → Blt C1 (raw ++ dec1 x) → C1.length ≤ C.length + 1 → ∃ S' C', LX4_build_16 o a (nI to') n (nI len - nI (s + (if x.1 = 1 then 0 else x.2))) (nI (f + i) + 1) S1 = some (nI len - nI (s + oldL (decF (x :: P.drop (i + 1)))), S') ∧ OpR S' o C' ∧ Blt C' (raw ++ decF (x :: P.drop (i + 1))) ∧ C'.length ≤ C.length + (d + 1) ∧ lenO S' o = lenO S o ∧ Sg z (fun x => x = o) 0 S S' := by
      intro S1 C1 q1 q2 q3 q4 q5
      have hno : ¬ Own (fun x => x = o) S a := fun ⟨h, k, r1, r2⟩ => hown h k r2 r1
      obtain ⟨f1, f2, f3, f4⟩ := q3.2.1
      have hA := (f2 a ha.2.1).2.2.1 ha.1 hno
      have hdl1 : (dec1 x).length = (if x.1 = 1 then 1 else x.2) := by
        have e1 : (decF (x :: P.drop (i + 1))).length = (dec1 x).length + (decF (P.drop (i + 1))).length := by rw [decF, List.length_append]
        omega
      obtain ⟨S', C', r1, r2, r3, r4, r5, r6⟩ := ih (i + 1) n (s + (if x.1 = 1 then 0 else x.2)) S1 C1 (raw ++ dec1 x) (by omega) hf (by omega) q3.1 q1 (fun h k hj => by
        intro e
        subst e
        exact hno (f3 a ha.2.1 ha.1 ⟨h, k, rfl, hj⟩)) ⟨by rw [(f2 a ha.2.1).1]; exact ha.1, by omega, by rw [(f2 a ha.2.1).2.1]; exact ha.2.2.1, by rw [(f2 a ha.2.1).2.1]; exact ha.2.2.2⟩ (by rw [hA]; exact hs) hP q4 (by rw [q2]; omega) (by rw [List.length_append, hdl1]; omega)
      rw [nI_1, show f + i + 1 = f + (i + 1) by omega, r1, hol, Nat.add_assoc]
      refine ⟨S', C', rfl, r2, ?_, by omega, r5.trans q2, Sg_trans q3 r6⟩
      rw [decF, ← List.append_assoc]
      exact r3
    rcases id hxo with ⟨h1, h2, h3⟩ | ⟨h1, h2, h3⟩ | ⟨h1, h2, h3⟩
    · have hpp : pc x = nI (31 + x.2) := by unfold pc; rw [if_pos h1]
      have hd1 : pc x - 31 = nI x.2 := by rw [hpp, show (31 : Int32) = nI 31 from rfl, nI_sub (by omega), Nat.add_sub_cancel_left]
      rw [if_neg (by omega)] at hdl
      rw [decide_eq_false (show ¬ x.1 = 1 by omega), if_pos (show bI false = 0 from rfl), if_pos (e2.mpr (by omega)), hd1, cal_k (OpR_kd hO)]
      obtain ⟨S1, t1, t2, t3, t4⟩ := addKeep_R (z := z) hW hO (n := x.2) h2 (by omega) (by omega)
      rw [t1, Option.bind_some, bn2_s, nI_sub2]
      have := next S1 (addK x.2 C) t2 t3 t4 (by unfold dec1; rw [if_pos h1]; exact Blt_K hb h2 (by omega)) (addK_len _ _)
      rw [if_neg (by omega)] at this
      exact this
    · have hpp : pc x = nI x.2 := (pc_kinds hxo).2.1 h1
      rw [decide_eq_true h1, if_neg (show ¬ bI true = 0 by decide), hpp, cal_k (OpR_kd hO)]
      obtain ⟨S1, t1, t2, t3, t4⟩ := addPut_R (z := z) hW hO h2 h3 (by omega)
      rw [t1, Option.bind_some, bn2_s]
      have := next S1 (addP x.2 C) t2 t3 t4 (by unfold dec1; rw [if_neg (by omega), if_pos h1]; exact Blt_P hb h2 h3) (by rw [addP_len]; omega)
      rw [if_pos h1, Nat.add_zero] at this
      exact this
    · have hpp : pc x = -(nI x.2) := by unfold pc; rw [if_neg (by omega), if_neg (by omega)]
      rw [if_neg (by omega)] at hdl
      rw [decide_eq_false (show ¬ x.1 = 1 by omega), if_pos (show bI false = 0 from rfl), if_neg (fun hh => e2.mp hh h1), hpp, Int32.neg_neg, cal_k (OpR_kd hO)]
      obtain ⟨S1, t1, t2, t3, t4⟩ := addCut_R (z := z) hW hO (n := x.2) h2 (by omega) (by omega)
      rw [t1, Option.bind_some, bn2_s, ← Int32.sub_eq_add_neg, nI_sub2]
      have := next S1 (addC x.2 C) t2 t3 t4 (by unfold dec1; rw [if_neg (by omega), if_neg (by omega)]; exact Blt_C hb h2 (by omega)) (addC_len _ _)
      rw [if_neg (by omega)] at this
      exact this
/-- of told parts -/
theorem build_L {z : Nat} {X : Nat × Nat} {S : CS} {o a f c len : Nat} {P : List Pt} (hW : Wf S) (hR : Rm z X c S) (hg : grw z o) (hk : kd S o = 4) (hown : ∀ h k, cJ S h k = some a → h ≠ o) (ha : kd S a = 14 ∧ a < cZ S ∧ f + P.length ≤ cN S a ∧ cN S a < 1000000) (hs : ∀ k, k < P.length → cA S a (f + k) = (P.map pc).getD k 0) (hP : ∀ x ∈ P, okPt x) (hl : P.length ≤ 800) (hln : len ≤ 400) (hd : (decF P).length ≤ 80000) :
    ∃ S', f4_build X S o a (nI f) (nI (f + P.length)) (nI len) = some (bI (decide (oldL (decF P) ≤ len)), S') ∧ (oldL (decF P) ≤ len → OpL S' o (settleL (decF P ++ List.replicate (len - oldL (decF P)) 0))) ∧ Sg z (fun x => x = o) 0 S S' := by
  unfold f4_build
  rw [cal_k hk, nI_sub (by omega), Nat.add_sub_cancel_left, nI_1]
  obtain ⟨S1, e1, o1, ⟨m1, _⟩, s1⟩ := begin_R (m := P.length + 1) hW hR hg hk (by omega)
  rw [e1, Option.bind_some]
  have hno : ¬ Own (fun x => x = o) S a := fun ⟨h, k, r1, r2⟩ => hown h k r2 r1
  obtain ⟨f1, f2, f3, f4⟩ := s1.2.1
  have hA := (f2 a ha.2.1).2.2.1 ha.1 hno
  have hFU := FU_gt
  obtain ⟨S2, C2, r1, r2, r3, r4, r5, r6⟩ := build_loop (z := z) (o := o) (a := a) (len := len) (P := P) (f := f) P.length 0 FU 0 S1 [] [] (by omega) rfl (by omega) s1.1 o1 (fun h k hj => by
    intro e
    subst e
    exact hno (f3 a ha.2.1 ha.1 ⟨h, k, rfl, hj⟩)) ⟨by rw [(f2 a ha.2.1).1]; exact ha.1, by omega, by rw [(f2 a ha.2.1).2.1]; exact ha.2.2.1, by rw [(f2 a ha.2.1).2.1]; exact ha.2.2.2⟩ (by rw [hA]; exact hs) hP Blt_nil (by rw [List.length_nil]; omega) (by rw [List.drop_zero, List.length_nil]; omega)
  rw [List.drop_zero, Nat.zero_add, Nat.add_zero, List.nil_append] at *
  have e0 : nI len - nI 0 = nI len := by rw [nI_sub (Nat.zero_le _), Nat.sub_zero]
  rw [e0] at r1
  have hol : oldL (decF P) ≤ (decF P).length := by
    have key : ∀ l : List Int32, oldL l ≤ l.length := by
      intro l
      induction l with
      | nil => exact Nat.le_refl _
      | cons v l ih => rw [oldL, List.length_cons]; split <;> omega
    exact key _
  rw [r1, bn2_s, cal_k (OpR_kd r2)]
  have hti := nI_dif (a := len) (b := oldL (decF P)) (by omega) (by omega)
  have n0 : (0 : Int32).toInt = 0 := by decide
  have s2 := Sg_trans s1 r6
  have hbl : ∀ h : oldL (decF P) ≤ len, (decR C2).length = (decF P).length := fun _ => by rw [r3.2, settleL_len]
  by_cases hle : oldL (decF P) ≤ len
  · rw [nI_sub hle]
    obtain ⟨S3, t1, t2, t3, t4⟩ := addKeep_O (z := z) (n := len - oldL (decF P)) r6.1 r2 (by rw [hbl hle]; omega) (by rw [List.length_nil] at r4; omega)
    rw [t1, Option.bind_some, if_neg (show ¬ nI (len - oldL (decF P)) < 0 from nI_pos (by omega)), decide_eq_true hle]
    refine ⟨S3, rfl, fun _ => ⟨_, t2, ?_⟩, Sg_trans s2 t4⟩
    rw [decR_kO, r3.2, settle_keep]
  · rw [addKeep_0 (by rw [Int32.lt_iff_toInt_lt, hti, n0]; omega), Option.bind_some, if_pos (by rw [Int32.lt_iff_toInt_lt, hti, n0]; omega), decide_eq_false hle]
    exact ⟨S2, rfl, fun h => absurd h hle, s2⟩
