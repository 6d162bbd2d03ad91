/-! ===== PART II, the class: a text ===== -/
/-- a text that holds these letters (each with its writer) -/
def TxL (S : CS) (h : Nat) (t : List Int32) : Prop := ∃ a, (h < cZ S ∧ a < cZ S ∧ kd S h = 7 ∧ kd S a = 14 ∧ cJ S h 0 = some a ∧ cN S a = 240) ∧ cI S h 1 = nI t.length ∧ t.length ≤ 240 ∧ seg (cA S a) 0 t
theorem TxL_kd {S : CS} {h : Nat} {t : List Int32} (hT : TxL S h t) : kd S h = 7 := by obtain ⟨a, h1, _⟩ := hT; exact h1.2.2.1
theorem TxL_Fo {H : Nat → Prop} {S S' : CS} {h : Nat} {t : List Int32} (hW : Wf S) (hT : TxL S h t) (hf : Fo H S S') (hn : ¬ H h) : TxL S' h t := by
  obtain ⟨a, ⟨q1, q2, q3, q4, q5, q6⟩, q7, q8, q9⟩ := hT
  obtain ⟨f1, f2, f3, f4⟩ := hf
  obtain ⟨a1, a2, a3, a4⟩ := f2 h q1
  obtain ⟨b1, b2, b3, b4⟩ := f2 a q2
  obtain ⟨c1, c2, c3⟩ := a4 hn
  have hA := b3 q4 (fun ⟨h', k', r1, r2⟩ => hn (by
    have := (hW.2.2.1 h' h k' 0 a r2 q5 q4).1
    rw [← this]; exact r1))
  exact ⟨a, ⟨by omega, by omega, by rw [a1]; exact q3, by rw [b1]; exact q4, by rw [c2]; exact q5, by rw [b2]; exact q6⟩, by rw [c1]; exact q7, q8, by rw [hA]; exact q9⟩
theorem pt_sz {S : CS} {o : Nat} {R : List Pt} (hO : OpR S o R) : gi S 4 o 1 = some (nI R.length) ∧ R.length < 1000000 := by
  obtain ⟨_, a, hA⟩ := hO
  exact ⟨OpA_gi hA, by have := hA.2.2.1; have := hA.2.2.2.1; omega⟩
theorem pt_at {S : CS} {o i : Nat} {R L : List Pt} {x : Pt} (hO : OpR S o R) (hd : R.reverse.drop i = x :: L) : okPt x ∧ i < R.length ∧ R.reverse.drop (i + 1) = L ∧ ∃ a, gr S 4 o 0 = some a ∧ ldi S a (nI i) = some (pc x) := by
  obtain ⟨hc, a, hA⟩ := hO
  have hi : i < R.reverse.length := by
    by_cases h : i < R.reverse.length
    · exact h
    · rw [List.drop_eq_nil_of_le (by omega)] at hd; cases hd
  have hg := List.drop_eq_getElem_cons hi
  rw [hd] at hg
  injection hg with g1 g2
  have hi2 : i < R.length := by rw [List.length_reverse] at hi; exact hi
  obtain ⟨⟨q1, q2, q3, q4, q5⟩, q6, q7, q8, q9⟩ := id hA
  refine ⟨CanR_ok hc x (List.mem_reverse.mp (g1 ▸ List.getElem_mem hi)), hi2, g2.symm, a, OpA_gr hA, ?_⟩
  rw [ldi_k q4 (by omega) (by omega)]
  have := q9 i (by rw [List.length_map]; exact hi)
  rw [Nat.zero_add] at this
  rw [this, List.getD_eq_getElem?_getD, List.getElem?_map, List.getElem?_eq_getElem hi, ← g1]
  rfl
theorem pt_end {i : Nat} {R : List Pt} (hl : i ≤ R.length) (hd : R.reverse.drop i = []) : i = R.length := by
  have := congrArg List.length hd
  rw [List.length_drop, List.length_reverse, List.length_nil] at this
  omega
/-- what is put gets its writer -/
def rvI (w v : Int32) : Int32 := v ||| (w <<< (5 &&& 31))
def chgX (w : Int32) : List Int32 → List Int32 → List Int32
  | [], _ => []
  | v :: A, t => if v < 0 then chgX w A t.tail else if v = 0 then t.headD 0 :: chgX w A t.tail else rvI w v :: chgX w A t
theorem chgX_0 : ∀ (A t : List Int32), chgX 0 A t = chgL A t := by
  intro A
  induction A with
  | nil => intro t; rfl
  | cons v A ih =>
    intro t
    rw [chgX, chgL, ih, ih, show rvI 0 v = v from by unfold rvI; rw [show (0 : Int32) <<< (5 &&& 31) = 0 from by decide, Int32.or_zero]]
theorem chgX_cut (w : Int32) : ∀ (n : Nat) (A t : List Int32), chgX w (List.replicate n (-1) ++ A) t = chgX w A (t.drop n) := by
  intro n
  induction n with
  | zero => intro A t; simp
  | succ n ih =>
    intro A t
    rw [List.replicate_succ, List.cons_append, chgX, if_pos (by decide), ih, ← List.drop_one, List.drop_drop, Nat.add_comm]
theorem chgX_keep (w : Int32) : ∀ (n : Nat) (A t : List Int32), n ≤ t.length → chgX w (List.replicate n 0 ++ A) t = t.take n ++ chgX w A (t.drop n) := by
  intro n
  induction n with
  | zero => intro A t _; simp
  | succ n ih =>
    intro A t hl
    cases t with
    | nil => simp at hl
    | cons v t =>
      rw [List.replicate_succ, List.cons_append, chgX, if_neg (by decide), if_pos rfl, List.tail_cons, ih A t (by rw [List.length_cons] at hl; omega)]
      rfl
theorem cpy_g {S : CS} {a b sp dp n : Nat} (ha : kd S a = 14) (hb : kd S b = 14) (h1 : sp + n ≤ cN S a) (h2 : dp + n ≤ cN S b) (hn : cN S a < 1000000) (hm : cN S b < 1000000) : cpy S a (nI sp) b (nI dp) (nI n) = some (setA S b (va_cpy (cA S a) (cA S b) sp dp n)) := by
  unfold cpy
  rw [nI_clamp (by omega), nI_clamp (by omega), nI_clamp (by omega), if_pos ⟨⟨ha, hb⟩, ⟨nI_pos (by omega), nI_pos (by omega), nI_pos (by omega)⟩, by omega, by omega⟩]
theorem cpy_sg {f h : Nat → Int32} {t out : List Int32} {sp n : Nat} (hs : seg f 0 t) (ho : seg h 0 out) (hn : sp + n ≤ t.length) : seg (va_cpy f h sp out.length n) 0 (out ++ (t.drop sp).take n) := by
  rw [seg_app]
  refine ⟨fun k hk => ?_, fun k hk => ?_⟩
  · have := ho k hk
    rw [Nat.zero_add] at this ⊢
    unfold va_cpy
    rw [if_neg (by omega)]
    exact this
  · rw [List.length_take, List.length_drop] at hk
    unfold va_cpy
    rw [Nat.zero_add, if_pos (by omega), show sp + (out.length + k - out.length) = sp + k by omega]
    have := hs (sp + k) (by omega)
    rw [Nat.zero_add] at this
    rw [this, List.getD_eq_getElem?_getD, List.getD_eq_getElem?_getD, List.getElem?_take_of_lt (by omega), List.getElem?_drop]
theorem oldL_dec {x : Pt} {l : List Pt} (h : okPt x) : oldL (decF (x :: l)) = (if x.1 = 1 then 0 else x.2) + oldL (decF l) := by
  by_cases hx : x.1 = 1
  · rw [if_pos hx, decF]
    unfold dec1
    rw [if_neg (by omega), if_pos hx]
    have hx2 : 1 ≤ x.2 ∧ x.2 ≤ 26 := by unfold okPt at h; omega
    obtain ⟨p1, p2, p3, p4⟩ := okP3 (v := nI x.2) ⟨x.2, hx2.1, hx2.2, rfl⟩
    rw [List.singleton_append, (cntP p1 p2 p3 p4.2 (decF l)).1]
    omega
  · rw [if_neg hx, dec_drop (m := x.2) h hx (Nat.le_refl _), show (if x.1 = 0 then (0 : Int32) else -1) = kc x from rfl, oldL_rc (kc_le x).1]
    show x.2 + oldL (decF (if x.2 ≤ x.2 then l else _)) = _
    rw [if_pos (Nat.le_refl _)]
theorem newL_dec {x : Pt} {l : List Pt} (h : okPt x) : newL (decF (x :: l)) = (if x.1 = 2 then 0 else cntP2 x) + newL (decF l) := by
  rw [decF]
  unfold dec1 cntP2
  rcases h with ⟨h1, h2, h3⟩ | ⟨h1, h2, h3⟩ | ⟨h1, h2, h3⟩
  · rw [if_pos h1, if_neg (by omega), if_neg (by omega), newL_rc (by decide)]
  · rw [if_neg (by omega), if_pos h1, if_neg (by omega), if_pos h1, List.singleton_append, newL, if_neg]
    obtain ⟨p1, p2, p3, p4⟩ := okP3 (v := nI x.2) ⟨x.2, h2, h3, rfl⟩
    exact of_eq_false p3
  · rw [if_neg (by omega), if_neg (by omega), if_pos h1, newL_rcut]; omega
theorem change_loop {z : Nat} {g h o : Nat} {w : Int32} {R : List Pt} {t : List Int32} :
    ∀ (d i n from' : Nat) (out : List Int32) (S : CS), i + d = R.length → d < n → Wf S → kd S g = 9 → TxL S h t → OpR S o R → from' ≤ t.length → oldL (decF (R.reverse.drop i)) = t.length - from' → out.length + newL (decF (R.reverse.drop i)) ≤ 240 → (∀ sp, cJ S g 4 = some sp → seg (cA S sp) 0 out) →
    ∃ S' sp, LX9_change_9 g h o w n (nI from') (nI out.length) (nI i) S = some (nI (out ++ chgX w (decF (R.reverse.drop i)) (t.drop from')).length, S') ∧ cJ S' = cJ S ∧ cJ S g 4 = some sp ∧ seg (cA S' sp) 0 (out ++ chgX w (decF (R.reverse.drop i)) (t.drop from')) ∧ (out ++ chgX w (decF (R.reverse.drop i)) (t.drop from')).length ≤ 240 ∧ Sg z (fun x => x = g) 0 S S' := by
  intro d
  induction d with
  | zero =>
    intro i n from' out S hi hn hW hg hT hO hf ho hw hs
    obtain ⟨n, rfl⟩ : ∃ k, n = k + 1 := ⟨n - 1, by omega⟩
    obtain ⟨sp, z1, z2, z3⟩ := hW.2.2.2.2 g 4 (Or.inr ⟨hg, rfl⟩)
    obtain ⟨y1, y2⟩ := pt_sz hO
    have hd : R.reverse.drop i = [] := List.drop_eq_nil_of_le (by rw [List.length_reverse]; omega)
    rw [hd] at hw ⊢
    unfold LX9_change_9
    rw [y1, Option.bind_some, if_pos (nI_le (by omega) (by omega)), show decF [] = [] from rfl, show chgX w [] (t.drop from') = [] from rfl, List.append_nil]
    exact ⟨S, sp, rfl, rfl, z1, hs sp z1, by omega, Sg_refl hW⟩
  | succ d ih =>
    intro i n from' out S hi hn hW hg hT hO hf ho hw hs
    obtain ⟨n, rfl⟩ : ∃ k, n = k + 1 := ⟨n - 1, by omega⟩
    obtain ⟨sp, z1, z2, z3⟩ := hW.2.2.2.2 g 4 (Or.inr ⟨hg, rfl⟩)
    obtain ⟨y1, y2⟩ := pt_sz hO
    obtain ⟨x, L, hd⟩ : ∃ x L, R.reverse.drop i = x :: L := by
      cases hd : R.reverse.drop i with
      | nil => have := pt_end (by omega) hd; omega
      | cons x L => exact ⟨x, L, rfl⟩
    obtain ⟨hok, hil, hdr, a, g1, g2⟩ := pt_at hO hd
    obtain ⟨p1, p2, p3, p4⟩ := pc_kinds hok
    have hol := oldL_dec (l := L) hok
    have hnl := newL_dec (l := L) hok
    rw [hd] at ho hw ⊢
    obtain ⟨ta, ⟨t1, t2, t3, t4, t5, t6⟩, t7, t8, t9⟩ := id hT
    unfold LX9_change_9
    rw [y1, Option.bind_some, if_neg (nI_ge hil (by omega)), g1, Option.bind_some, g2, Option.bind_some]
    have e1 := pc_le31 hok
    have e2 := pc_ge0 hok
    rcases id hok with ⟨h1, h2, h3⟩ | ⟨h1, h2, h3⟩ | ⟨h1, h2, h3⟩
    · -- kept
      have hp : pc x = nI (31 + x.2) := by unfold pc; rw [if_pos h1]
      have hd1 : pc x - 31 = nI x.2 := by rw [hp, show (31 : Int32) = nI 31 from rfl, nI_sub (by omega), Nat.add_sub_cancel_left]
      rw [if_neg (by omega)] at hol
      have hc2 : cntP2 x = x.2 := by unfold cntP2; rw [if_neg (by omega)]
      rw [if_neg (by omega), hc2] at hnl
      rw [if_pos (e2.mpr (by omega)), if_neg (fun hh => e1.mp hh h1), gi_k t3, t7, Option.bind_some, gr_k hg z1, Option.bind_some, aln_k z2, z3, Option.bind_some, hd1, nI_sub (by omega), nI_sub hf]
      have em : (if (if nI (240 - out.length) < nI (t.length - from') then nI (240 - out.length) else nI (t.length - from')) < nI x.2 then (if nI (240 - out.length) < nI (t.length - from') then nI (240 - out.length) else nI (t.length - from')) else nI x.2) = nI x.2 := by
        rw [nI_minI (by omega) (by omega), nI_minI (by omega) (by omega), Nat.min_eq_left (by omega)]
      rw [em, if_neg (z_nle (by omega) (by omega)), gr_k t3 t5, Option.bind_some, Option.bind_some, cpy_g t4 z2 (by omega) (by omega) (by omega) (by omega), Option.bind_some, bn3_s, bn3_s, nI_add, nI_add, nI_1]
      have s1 : Sg z (fun x => x = g) 0 S (setA S sp (va_cpy (cA S ta) (cA S sp) from' out.length x.2)) := Sg_setA hW rfl z1
      have hl2 : (out ++ (t.drop from').take x.2).length = out.length + x.2 := by rw [List.length_append, List.length_take, List.length_drop, Nat.min_eq_left (by omega)]
      obtain ⟨S', sp', r1, r2, r3, r4, r5, r6⟩ := ih (i + 1) n (from' + x.2) (out ++ (t.drop from').take x.2) _ (by omega) (by omega) s1.1 hg (TxL_Fo hW hT s1.2.1 (fun e => by rw [e, hg] at t3; omega)) (OpR_Fo hW hO s1.2.1 (fun e => by have := OpR_kd hO; rw [e, hg] at this; omega)) (by omega) (by rw [hdr]; omega) (by rw [hdr, hl2]; omega) (fun sp2 hsp2 => by
        have : sp = sp2 := Option.some.inj (z1.symm.trans hsp2)
        subst this
        rw [cA_self]
        exact cpy_sg t9 (hs sp z1) (by omega))
      rw [hl2] at r1
      rw [hdr] at r1 r4 r5
      have ec : out ++ (t.drop from').take x.2 ++ chgX w (decF L) (t.drop (from' + x.2)) = out ++ chgX w (decF (x :: L)) (t.drop from') := by
        rw [List.append_assoc, decF]
        unfold dec1
        rw [if_pos h1, chgX_keep w x.2 (decF L) (t.drop from') (by rw [List.length_drop]; omega), List.drop_drop]
      rw [ec] at r1 r4 r5
      exact ⟨S', sp', r1, r2, r3, r4, r5, Sg_trans s1 r6⟩
    · -- put
      have hp := p2 h1
      rw [if_pos h1] at hol
      have hc2 : cntP2 x = 1 := by unfold cntP2; rw [if_pos h1]
      rw [if_neg (by omega), hc2] at hnl
      rw [if_pos (e2.mpr (by omega)), if_pos (e1.mpr (by omega)), gr_k hg z1, Option.bind_some, aln_k z2, z3, Option.bind_some, if_neg (nI_ge (by omega) (by omega)), Option.bind_some, sti_k z2 (by omega) (by omega), Option.bind_some, bn3_s, nI_1, nI_1]
      have s1 : Sg z (fun x => x = g) 0 S (setA S sp (upd (cA S sp) out.length (pc x ||| (w <<< (5 &&& 31))))) := Sg_setA hW rfl z1
      have hl2 : (out ++ [rvI w (pc x)]).length = out.length + 1 := by rw [List.length_append, List.length_singleton]
      obtain ⟨S', sp', r1, r2, r3, r4, r5, r6⟩ := ih (i + 1) n from' (out ++ [rvI w (pc x)]) _ (by omega) (by omega) s1.1 hg (TxL_Fo hW hT s1.2.1 (fun e => by rw [e, hg] at t3; omega)) (OpR_Fo hW hO s1.2.1 (fun e => by have := OpR_kd hO; rw [e, hg] at this; omega)) hf (by rw [hdr]; omega) (by rw [hdr, hl2]; omega) (fun sp2 hsp2 => by
        have : sp = sp2 := Option.some.inj (z1.symm.trans hsp2)
        subst this
        rw [cA_self]
        have := seg_snoc (v := rvI w (pc x)) (hs sp z1)
        rw [Nat.zero_add] at this
        exact this)
      rw [hl2] at r1
      rw [hdr] at r1 r4 r5
      have ec : out ++ [rvI w (pc x)] ++ chgX w (decF L) (t.drop from') = out ++ chgX w (decF (x :: L)) (t.drop from') := by
        rw [List.append_assoc, decF]
        unfold dec1
        obtain ⟨u1, u2, u3, u4⟩ := okP3 (v := nI x.2) ⟨x.2, h2, h3, rfl⟩
        rw [if_neg (by omega), if_pos h1, List.singleton_append, List.singleton_append, chgX, if_neg (of_eq_false u3), if_neg (fun hh => of_eq_false u2 (by rw [hh]; decide)), hp]
      rw [ec] at r1 r4 r5
      exact ⟨S', sp', r1, r2, r3, r4, r5, Sg_trans s1 r6⟩
    · -- cut
      have hp : pc x = -(nI x.2) := by unfold pc; rw [if_neg (by omega), if_neg (by omega)]
      rw [if_neg (by omega)] at hol
      rw [if_pos h1, Nat.zero_add] at hnl
      rw [if_neg (fun hh => e2.mp hh h1), bn3_s, nI_1, show nI from' - pc x = nI (from' + x.2) from by rw [hp, Int32.sub_neg, nI_add]]
      obtain ⟨S', sp', r1, r2, r3, r4, r5, r6⟩ := ih (i + 1) n (from' + x.2) out S (by omega) (by omega) hW hg hT hO (by omega) (by rw [hdr]; omega) (by rw [hdr]; omega) hs
      rw [hdr] at r1 r4 r5
      have ec : chgX w (decF L) (t.drop (from' + x.2)) = chgX w (decF (x :: L)) (t.drop from') := by
        rw [decF]
        unfold dec1
        rw [if_neg (by omega), if_neg (by omega), chgX_cut, List.drop_drop]
      rw [ec] at r1 r4 r5
      exact ⟨S', sp', r1, r2, r3, r4, r5, r6⟩
