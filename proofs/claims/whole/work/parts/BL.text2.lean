/-! ===== PART II, the class: a text is changed, copied, asked ===== -/
theorem change_T {z : Nat} {S : CS} {g h o : Nat} {w : Int32} {A t : List Int32} (hW : Wf S) (hg : kd S g = 9) (hT : TxL S h t) (hO : OpL S o A) (ho : oldL A = t.length) (hn : newL A ≤ 240) : ∃ S', f9_change S g h o w = some S' ∧ TxL S' h (chgX w A t) ∧ Sg z (fun x => x = h ∨ x = g) 0 S S' := by
  obtain ⟨R, hR, dA⟩ := hO
  obtain ⟨y1, y2⟩ := pt_sz hR
  have hlR := OpR_len hW hR
  have hFU := FU_gt
  have hdA : decF (R.reverse.drop 0) = A := by rw [List.drop_zero, decF_R, dA]
  obtain ⟨S2, sp, e1, e2, e3, e4, e5, e6⟩ := change_loop (z := z) (g := g) (w := w) (t := t) R.length 0 FU 0 [] S (by omega) (by omega) hW hg hT hR (Nat.zero_le _) (by rw [hdA]; omega) (by rw [hdA]; show 0 + newL A ≤ 240; omega) (fun sp _ k hk => absurd hk (Nat.not_lt_zero _))
  rw [hdA, List.drop_zero, List.nil_append] at e1 e4 e5
  have e1' : LX9_change_9 g h o w FU 0 0 0 S = some (nI (chgX w A t).length, S2) := e1
  unfold f9_change
  rw [e1', bn2_s]
  have hne : h ≠ g := fun e => by have := TxL_kd hT; rw [e, hg] at this; omega
  have hT2 := TxL_Fo hW hT e6.2.1 hne
  obtain ⟨ta, ⟨t1, t2, t3, t4, t5, t6⟩, t7, t8, t9⟩ := hT2
  have hgz : g < cZ S := kd_lt hW.1 hg (by omega)
  have hg2 : kd S2 g = 9 := by rw [(e6.2.1.2.1 g hgz).1]; exact hg
  have z1 : cJ S2 g 4 = some sp := by rw [e2]; exact e3
  obtain ⟨sp', z1', z2, z3⟩ := e6.1.2.2.2.2 g 4 (Or.inr ⟨hg2, rfl⟩)
  have hsp : sp' = sp := Option.some.inj (z1'.symm.trans z1)
  subst hsp
  rw [gr_k t3 t5, Option.bind_some, gr_k hg2 z1, Option.bind_some, pr_k t3, Option.bind_some, pi_k (S := setJ S2 h 0 (some sp')) t3, Option.bind_some, pr_k (S := setI (setJ S2 h 0 (some sp')) h 1 (nI (chgX w A t).length)) hg2, Option.bind_some]
  have s1 : Sg z (fun x => x = h ∨ x = g) 0 S2 (setJ (setJ S2 h 0 (some sp')) g 4 (some ta)) := Sg_swapJ e6.1 hne (Or.inl rfl) (Or.inr rfl) t5 z1 t4 z2 ⟨fun hh => hh.2.1 ⟨t3, rfl⟩, fun hh => hh.2.2.1 ⟨hg2, rfl⟩⟩ (Or.inr ⟨t3, rfl, hg2, rfl⟩)
  have s2 := Sg_trans (Sg_trans (Sg_mono hW e6 (H' := fun x => x = h ∨ x = g) (fun x hx => Or.inr hx) (Nat.le_refl 0)) s1) (Sg_setI (k := 1) (v := nI (chgX w A t).length) s1.1 (Or.inl rfl))
  refine ⟨_, rfl, ⟨sp', ⟨?_, ?_, ?_, ?_, ?_, ?_⟩, ?_, e5, ?_⟩, s2⟩
  · exact t1
  · exact (e6.1.2.1 g 4 sp' z1).2
  · exact t3
  · exact z2
  · show cJ (setJ (setJ S2 h 0 (some sp')) g 4 (some ta)) h 0 = some sp'
    rw [cJ_set, if_neg (fun hh => hne hh.1), cJ_self]
  · exact z3
  · exact cI_self _ _ _ _
  · exact e4
theorem TxL_bd {S : CS} {h : Nat} {t : List Int32} (hT : TxL S h t) : t.length ≤ 240 := by obtain ⟨a, _, _, h1, _⟩ := hT; exact h1
theorem TxL_sz {S : CS} {h : Nat} {t : List Int32} (hT : TxL S h t) : gi S 7 h 1 = some (nI t.length) := by obtain ⟨a, h1, h2, _⟩ := hT; rw [gi_k h1.2.2.1, h2]
theorem hasPl {S : CS} {h : Nat} {t : List Int32} (hT : TxL S h t) (p : Int32) : f7_hasPlace S h p = some (bI (decide (0 ≤ p.toInt ∧ p.toInt < t.length))) := by
  have hb := TxL_bd hT
  unfold f7_hasPlace
  rw [TxL_sz hT, Option.bind_some]
  have n0 : (0 : Int32).toInt = 0 := by decide
  by_cases h1 : p < 0
  · rw [if_pos h1, decide_eq_false (fun hh => by rw [Int32.lt_iff_toInt_lt] at h1; omega)]; rfl
  · rw [if_neg h1]
    rw [Int32.lt_iff_toInt_lt] at h1
    by_cases h2 : nI t.length ≤ p
    · rw [if_pos h2, decide_eq_false (fun hh => by rw [Int32.le_iff_toInt_le, nI_toInt (by omega)] at h2; omega)]; rfl
    · rw [if_neg h2, decide_eq_true (by rw [Int32.le_iff_toInt_le, nI_toInt (by omega)] at h2; omega)]; rfl
theorem nI_ofInt {p : Int32} (h : 0 ≤ p.toInt) : p = nI p.toInt.toNat := by
  apply Int32.toInt_inj.mp
  have := Int32.toInt_lt p
  rw [nI_toInt (by omega)]
  omega
theorem ldT {S : CS} {h k : Nat} {t : List Int32} (hT : TxL S h t) (hk : k < t.length) : ∃ a, gr S 7 h 0 = some a ∧ ldi S a (nI k) = some (t.getD k 0) := by
  obtain ⟨a, ⟨t1, t2, t3, t4, t5, t6⟩, t7, t8, t9⟩ := hT
  refine ⟨a, gr_k t3 t5, ?_⟩
  rw [ldi_k t4 (by omega) (by omega)]
  have := t9 k hk
  rw [Nat.zero_add] at this
  rw [this]
theorem letAt {S : CS} {h : Nat} {t : List Int32} (hT : TxL S h t) (p : Int32) : f7_letterAt S h p = some (if 0 ≤ p.toInt ∧ p.toInt < t.length then t.getD p.toInt.toNat 0 &&& 31 else 0) := by
  unfold f7_letterAt
  rw [cal_k (TxL_kd hT), hasPl hT, Option.bind_some]
  by_cases hc : 0 ≤ p.toInt ∧ p.toInt < t.length
  · rw [decide_eq_true hc, if_neg (by decide), if_pos hc]
    obtain ⟨a, e1, e2⟩ := ldT hT (k := p.toInt.toNat) (by omega)
    rw [← nI_ofInt hc.1] at e2
    rw [e1, Option.bind_some, e2]
    rfl
  · rw [decide_eq_false hc, if_pos (show bI false = 0 from rfl), if_neg hc]
    rfl
theorem wrtOf {S : CS} {h : Nat} {t : List Int32} (hT : TxL S h t) (p : Int32) : f7_writerOf S h p = some (if 0 ≤ p.toInt ∧ p.toInt < t.length then t.getD p.toInt.toNat 0 >>> (5 &&& 31) else 0) := by
  unfold f7_writerOf
  rw [cal_k (TxL_kd hT), hasPl hT, Option.bind_some]
  by_cases hc : 0 ≤ p.toInt ∧ p.toInt < t.length
  · rw [decide_eq_true hc, if_neg (by decide), if_pos hc]
    obtain ⟨a, e1, e2⟩ := ldT hT (k := p.toInt.toNat) (by omega)
    rw [← nI_ofInt hc.1] at e2
    rw [e1, Option.bind_some, e2]
    rfl
  · rw [decide_eq_false hc, if_pos (show bI false = 0 from rfl), if_neg hc]
    rfl
/-- the letters alone -/
def ltr (t : List Int32) : List Int32 := t.map (fun v => v &&& 31)
theorem ltr_len (t : List Int32) : (ltr t).length = t.length := List.length_map _
theorem ltr_get (t : List Int32) (k : Nat) : (ltr t).getD k 0 = t.getD k 0 &&& 31 := by
  rw [List.getD_eq_getElem?_getD, List.getD_eq_getElem?_getD, ltr, List.getElem?_map]
  cases t[k]? with
  | none => rfl
  | some v => rfl
theorem askTx {S : CS} {h : Nat} {t : List Int32} (hT : TxL S h t) (p : Int32) : f7_ask S h p = some (askT (ltr t) p) := by
  unfold f7_ask askT
  by_cases h1 : p = -1
  · rw [if_pos h1, if_pos h1, TxL_sz hT, ltr_len]; rfl
  · rw [if_neg h1, if_neg h1, cal_k (TxL_kd hT), hasPl hT, Option.bind_some, cal_k (TxL_kd hT), letAt hT, ltr_len]
    by_cases hc : 0 ≤ p.toInt ∧ p.toInt < t.length
    · rw [decide_eq_true hc, if_neg (by decide), if_pos hc, if_pos hc, ltr_get]; rfl
    · rw [decide_eq_false hc, if_pos (show bI false = 0 from rfl), if_neg hc]; rfl
/-- a text is copied -/
theorem copy_T {z : Nat} {S : CS} {h p : Nat} {t : List Int32} (hW : Wf S) (hk : kd S h = 7) (hT : TxL S p t) (hne : h ≠ p) : ∃ S', f7_copy S h p = some S' ∧ TxL S' h t ∧ Sg z (fun x => x = h) 0 S S' := by
  obtain ⟨ta, ⟨t1, t2, t3, t4, t5, t6⟩, t7, t8, t9⟩ := id hT
  obtain ⟨a, q1, q2, q3⟩ := hW.2.2.2.2 h 0 (Or.inl ⟨hk, rfl⟩)
  obtain ⟨u1, u2⟩ := hW.2.1 h 0 a q1
  unfold f7_copy
  rw [gr_k t3 t5, Option.bind_some, gr_k hk q1, Option.bind_some, gi_k t3, t7, Option.bind_some, cpy_k t4 q2 (by omega) (by omega) (by omega), Option.bind_some]
  have s1 : Sg z (fun x => x = h) 0 S (setA S a (va_cpy (cA S ta) (cA S a) 0 0 t.length)) := Sg_setA hW rfl q1
  generalize hV : setA S a (va_cpy (cA S ta) (cA S a) 0 0 t.length) = V at s1 ⊢
  have kV : ∀ x, kd V x = kd S x := fun x => by rw [← hV]; rfl
  rw [gi_k (by rw [kV]; exact t3), show cI V p 1 = nI t.length from by rw [← hV]; exact t7, Option.bind_some, pi_k (by rw [kV]; exact hk), Option.bind_some]
  refine ⟨_, rfl, ⟨a, ⟨?_, ?_, ?_, ?_, ?_, ?_⟩, cI_self _ _ _ _, t8, ?_⟩, Sg_trans s1 (Sg_setI s1.1 rfl)⟩
  · rw [← hV]; exact u1
  · rw [← hV]; exact u2
  · rw [← hV]; exact hk
  · rw [← hV]; exact q2
  · rw [← hV]; exact q1
  · rw [← hV]; exact q3
  · rw [← hV]
    show seg (cA (setA S a _) a) 0 t
    rw [cA_self]
    exact cpy_seg t9 (Nat.le_refl _)
theorem okP_31 {v : Int32} (h : okP v) : v &&& 31 = v := by
  obtain ⟨w, h1, h2, rfl⟩ := h
  have : ∀ w : Fin 32, (nI w.1) &&& 31 = nI w.1 := by decide
  exact this ⟨w, by omega⟩
theorem ltr_ok {t : List Int32} (h : ∀ v ∈ t, okP v) : ltr t = t := by
  unfold ltr
  conv => rhs; rw [← List.map_id t]
  exact List.map_congr_left (fun v hv => okP_31 (h v hv))
/-- letters of the text are put back -/
theorem inv_in {z : Nat} {c1 c2 c3 : Nat} {c5 : Int32} {e : Nat} {t : List Int32} (hok : ∀ v ∈ t, okP v) (he : e ≤ t.length) (hne : c2 ≠ c3) : ∀ (d at' n : Nat) (S : CS) (C : List Pt) (raw : List Int32), at' + d = e → d < n → Wf S → TxL S c2 t → OpR S c3 C → Blt C raw → C.length + d ≤ lenO S c3 →
    ∃ S' C', LX9_invert_98 c1 c2 c3 c5 (nI e) n (nI at') S = some (nI e, S') ∧ OpR S' c3 C' ∧ Blt C' (raw ++ (t.drop at').take d) ∧ C'.length ≤ C.length + d ∧ lenO S' c3 = lenO S c3 ∧ Sg z (fun x => x = c3) 0 S S' := by
  intro d
  induction d with
  | zero =>
    intro at' n S C raw ha hn hW hT hO hb hc
    obtain ⟨n, rfl⟩ : ∃ k, n = k + 1 := ⟨n - 1, by omega⟩
    have := TxL_bd hT
    unfold LX9_invert_98
    rw [if_pos (nI_le (by omega) (by omega)), show at' = e by omega]
    exact ⟨S, C, rfl, hO, by rw [List.take_zero, List.append_nil]; exact hb, by omega, rfl, Sg_refl hW⟩
  | succ d ih =>
    intro at' n S C raw ha hn hW hT hO hb hc
    obtain ⟨n, rfl⟩ : ∃ k, n = k + 1 := ⟨n - 1, by omega⟩
    have hbd := TxL_bd hT
    unfold LX9_invert_98
    have hv : okP (t.getD at' 0) := by
      rw [List.getD_eq_getElem?_getD, List.getElem?_eq_getElem (show at' < t.length by omega)]
      exact hok _ (List.getElem_mem _)
    rw [if_neg (nI_ge (by omega) (by omega)), cal_k (TxL_kd hT), letAt hT, nI_toInt (by omega), if_pos (by omega), Option.bind_some, Int.toNat_natCast, okP_31 hv]
    obtain ⟨w, w1, w2, w3⟩ := hv
    rw [w3, cal_k (OpR_kd hO)]
    obtain ⟨S1, e1, e2, e3, e4⟩ := addPut_R (z := z) hW hO w1 w2 (by omega)
    rw [e1, Option.bind_some, nI_1]
    obtain ⟨S2, C2, g1, g2, g3, g4, g5, g6⟩ := ih (at' + 1) n S1 (addP w C) (raw ++ [nI w]) (by omega) (by omega) e4.1 (TxL_Fo hW hT e4.2.1 hne) e2 (Blt_P hb w1 w2) (by rw [addP_len, e3]; omega)
    refine ⟨S2, C2, g1, g2, ?_, by rw [addP_len] at g4; omega, g5.trans e3, Sg_trans e4 g6⟩
    rw [List.append_assoc] at g3
    rw [show (t.drop at').take (d + 1) = [nI w] ++ (t.drop (at' + 1)).take d from by
      have hlt : at' < t.length := by omega
      rw [List.drop_eq_getElem_cons hlt, List.take_succ_cons, List.singleton_append]
      congr 1
      rw [← w3, List.getD_eq_getElem?_getD, List.getElem?_eq_getElem hlt]
      rfl]
    exact g3
