/-! ===== PART II, the reference: a tick, whole ===== -/
theorem FN_sF {As Fs : List Nat} {P : Nat → Prop} {M : MS} {k : Nat} {v : Int32} (h : k ∈ Fs) : FN As Fs P M (sF M k v) := ⟨fun _ _ _ => rfl, fun j hj => sF_ne _ _ (fun e => hj (e ▸ h)), rfl, fun _ _ => rfl⟩
theorem RW_sF {M : MS} {cnt ties k : Nat} {v : Int32} {W : Wd} (h : RW M cnt ties W) (h1 : k ≠ 32) (h2 : k ≠ 33) : RW (sF M k v) cnt ties W := by
  obtain ⟨w1, w2, w3, w4, w5, w6, w7, w8⟩ := h
  exact ⟨by rw [sF_ne _ _ (Ne.symm h1)]; exact w1, by rw [sF_ne _ _ (Ne.symm h2)]; exact w2, w3, w4, w5, w6, w7, w8⟩
theorem tkStep_len (ties cnt e : Nat) (W : Wd) : (wRow (tkStep ties cnt e W)).length = (wRow W).length + (if eOn (wE W e) = true ∧ eLft (wE W e) = some 0 then 1 else 0) := by
  unfold tkStep
  split
  · show (wRow W ++ [_]).length = _; rw [List.length_append]; rfl
  · rfl
theorem take_body {M : MS} {cnt ties tl e t : Nat} {W : Wd} (h : RW M cnt ties W) (hg : Good cnt ties tl W) (he : e < cnt) (h42 : M.1 42 = nI t) :
    ∃ M', ((f12_its M (nI e) (15 : Int32)).bind fun v1 =>
      (if v1 = 0 then (some M) else ((f12_its M (nI e) (19 : Int32)).bind fun v4 =>
          if v4 = 0 then ((f12_serverTakes M (nI e)).bind fun M5 =>
            some (sF M5 42 ((gF M5 42) + 1))) else (some M)))) = some M' ∧ RW M' cnt ties (tkStep ties cnt e W) ∧ M'.1 42 = nI (t + ((wRow (tkStep ties cnt e W)).length - (wRow W).length)) ∧ FN [20, 21, 22, 23, 24, 36, 37, 38, 39, 40] [25, 26, 27, 28, 42] (fun _ => True) M M' := by
  have hc4 := hg.1
  have ht2 := hg.2.1
  have hr := h.2.2.2.2.2.2.2 e he
  have k5 := hr.1.2.2.2.2.1
  have k9 := hr.1.2.2.2.2.2.2.2.2.1
  have hE3 := (hg.2.2.2.2.2.2.2.2 e he).2.2.1
  rw [show (15 : Int32) = nI 15 from rfl, its_ok (by omega), k5, Option.bind_some, tkStep_len]
  by_cases hon : eOn (wE W e) = true
  · rw [hon, if_neg (show ¬ bI true = (0 : Int32) from by decide), show (19 : Int32) = nI 19 from rfl, its_ok (by omega), k9, Option.bind_some]
    by_cases hL : eLft (wE W e) = some 0
    · rw [hL, if_pos (show oI (some 0) = (0 : Int32) from rfl)]
      obtain ⟨p, p1, p2, p3, p4, p5, p6, p7, p8, p9, p10⟩ := take_all hg he hL
      obtain ⟨M5, s1, s2, s3⟩ := serverTakes_ok h he hc4 (by omega) (fun i hi => Good_Bd hg hi) (by rw [hL]; rfl) p3 p4 p5 p6
      have eS : tkStep ties cnt e W = takeW ties cnt e W := by unfold tkStep; rw [if_pos ⟨hon, hL⟩]
      rw [s1, Option.bind_some, eS]
      refine ⟨_, rfl, RW_sF s2 (by decide) (by decide), ?_, FN_trans (FN_mono s3 (fun _ h => h) (by simp) (fun _ h => h)) (FN_sF (by decide))⟩
      rw [sF_get, show gF M5 42 = nI t from by rw [show gF M5 42 = M5.1 42 from rfl, s3.2.1 42 (by decide)]; exact h42, nI_1, if_pos ⟨rfl, rfl⟩]
      exact nI_lt_eq (by omega)
    · have eS : tkStep ties cnt e W = W := by unfold tkStep; rw [if_neg (fun h => hL h.2)]
      have hz : ¬ oI (eLft (wE W e)) = (0 : Int32) := by
        cases hx : eLft (wE W e) with
        | none => decide
        | some k =>
          have := hE3 k hx
          have hk : k ≠ 0 := fun h => hL (by rw [hx, h])
          exact nI_ne0 (by omega) (by omega)
      rw [if_neg hz, eS]
      exact ⟨M, rfl, h, by rw [if_neg (fun h => hL h.2)]; rw [h42]; congr 1; omega, FN_refl _ _ _ _⟩
  · have hon' : eOn (wE W e) = false := by cases hh : eOn (wE W e) <;> simp_all
    have eS : tkStep ties cnt e W = W := by unfold tkStep; rw [if_neg (fun h => hon h.1)]
    rw [hon', if_pos (show bI false = (0 : Int32) from rfl), eS]
    exact ⟨M, rfl, h, by rw [if_neg (fun h => by cases h.1)]; rw [h42]; congr 1; omega, FN_refl _ _ _ _⟩
theorem itk_len (ties cnt : Nat) : ∀ (n : Nat) (W : Wd), (wRow W).length ≤ (wRow (itN (tkStep ties cnt) n W)).length := by
  intro n
  induction n with
  | zero => intro W; exact Nat.le_refl _
  | succ n ih => intro W; rw [itN, tkStep_len]; have := ih W; omega
theorem take_loop {cnt ties tl : Nat} {W : Wd} (hg : Good cnt ties tl W) : ∀ (d n i t : Nat) (M : MS), i + d = cnt → RW M cnt ties (itN (tkStep ties cnt) i W) → M.1 42 = nI (t + ((wRow (itN (tkStep ties cnt) i W)).length - (wRow W).length)) → d < n →
    ∃ M', L12_tickGoes_110 n (nI i) M = some M' ∧ RW M' cnt ties (itN (tkStep ties cnt) cnt W) ∧ M'.1 42 = nI (t + ((wRow (itN (tkStep ties cnt) cnt W)).length - (wRow W).length)) ∧ FN [20, 21, 22, 23, 24, 36, 37, 38, 39, 40] [25, 26, 27, 28, 42] (fun _ => True) M M' := by
  have hc4 := hg.1
  intro d
  induction d with
  | zero =>
    intro n i t M hi h h42 hn
    obtain ⟨n, rfl⟩ : ∃ j, n = j + 1 := ⟨n - 1, by omega⟩
    unfold L12_tickGoes_110
    rw [show gF M 32 = nI cnt from h.1, if_pos (nI_le (by omega) (by omega))]
    have : cnt = i := by omega
    subst this
    exact ⟨M, rfl, h, h42, FN_refl _ _ _ _⟩
  | succ d ih =>
    intro n i t M hi h h42 hn
    obtain ⟨n, rfl⟩ : ∃ j, n = j + 1 := ⟨n - 1, by omega⟩
    have hgi := Good_itN (f := tkStep ties cnt) (fun e W he h => Good_tk h he) i W (by omega) hg
    obtain ⟨M1, a1, a2, a4, a3⟩ := take_body h hgi (show i < cnt by omega) h42
    have l1 := itk_len ties cnt i W
    have l2 := itk_len ties cnt (i + 1) W
    have l3 := tkStep_len ties cnt i (itN (tkStep ties cnt) i W)
    obtain ⟨M', b1, b2, b4, b3⟩ := ih n (i + 1) t M1 (by omega) a2 (by
      rw [a4]
      show _ = nI (t + ((wRow (tkStep ties cnt i (itN (tkStep ties cnt) i W))).length - (wRow W).length))
      congr 1
      omega) (by omega)
    refine ⟨M', ?_, b2, b4, FN_trans a3 b3⟩
    unfold L12_tickGoes_110
    rw [show gF M 32 = nI cnt from h.1, if_neg (nI_ge (by omega) (by omega)), ← Option.bind_assoc, a1, Option.bind_some, nI_1]
    exact b1
theorem buf_ok {cnt ties tl e : Nat} {W : Wd} (hg : Good cnt ties tl W) (he : e < cnt) {q : List Int32} (hq : eBuf (wE W e) = some q) : okO q ∧ q.length ≤ 700 := by
  have e6 := (hg.2.2.2.2.2.2.2.2 e he).2.2.2.2.2.1
  cases hp : ePnd (wE W e) with
  | none => rw [hp, hq] at e6; exact e6.elim
  | some p =>
    obtain ⟨a1, a2, a3, a4⟩ := pnd_cnt hg he hp
    rw [hp, hq] at e6
    rw [hq] at a3
    have hpo : putsO (some q) = putsL q := rfl
    obtain ⟨c1, c2, c3, c4, c5⟩ := e6
    have := cnt_len c1
    have := cnt_len c2
    have := lenA_le hg.2.2.2.2.2.1 (eRev (wE W e))
    have := hg.2.2.1
    have := hg.2.2.2.1
    exact ⟨c2, by omega⟩
theorem come_loop {cnt ties tl e : Nat} (he : e < cnt) : ∀ (d n : Nat) (W : Wd) (M : MS), (wRow W).length - eRev (wE W e) = d → RW M cnt ties W → Good cnt ties tl W → d < n →
    ∃ M', L12_tickGoes_172 (nI e) n M = some M' ∧ RW M' cnt ties (brL ties e d W) ∧ FN [20, 21, 22, 23, 24, 29, 41] [25, 26, 27, 28] (fun _ => True) M M' := by
  intro d
  induction d with
  | zero =>
    intro n W M hd h hg hn
    obtain ⟨n, rfl⟩ : ∃ j, n = j + 1 := ⟨n - 1, by omega⟩
    have hc4 := hg.1
    have hl := row_le hg
    have hr := h.2.2.2.2.2.2.2 e he
    have e1 := (hg.2.2.2.2.2.2.2.2 e he).1
    refine ⟨M, ?_, h, FN_refl _ _ _ _⟩
    unfold L12_tickGoes_172
    rw [show (15 : Int32) = nI 15 from rfl, its_ok (by omega), hr.1.2.2.2.2.1, Option.bind_some]
    cases eOn (wE W e) with
    | false => rw [if_neg (show ¬ bI false = (1 : Int32) from by decide)]
    | true =>
      rw [if_pos (show bI true = (1 : Int32) from rfl), show f12_its M (nI e) (0 : Int32) = some (nI (eRev (wE W e))) from by rw [show (0 : Int32) = nI 0 from rfl, its_ok (by omega), Nat.add_zero, hr.1.1], Option.bind_some, show ld M 30 (1 : Int32) = some (nI (wRow W).length) from by rw [show (1 : Int32) = nI 1 from rfl, ld_n (show 1 < 10476 by omega), h.2.2.2.1], Option.bind_some, if_pos (nI_le (by omega) (by omega))]
  | succ d ih =>
    intro n W M hd h hg hn
    obtain ⟨n, rfl⟩ : ∃ j, n = j + 1 := ⟨n - 1, by omega⟩
    have hc4 := hg.1
    have ht2 := hg.2.1
    have hl := row_le hg
    have hr := h.2.2.2.2.2.2.2 e he
    obtain ⟨e1, e2, e3, e4, -⟩ := hg.2.2.2.2.2.2.2.2 e he
    unfold L12_tickGoes_172
    rw [show (15 : Int32) = nI 15 from rfl, its_ok (by omega), hr.1.2.2.2.2.1, Option.bind_some, brL]
    by_cases hon : eOn (wE W e) = true
    · rw [hon, if_pos (show bI true = (1 : Int32) from rfl), show f12_its M (nI e) (0 : Int32) = some (nI (eRev (wE W e))) from by rw [show (0 : Int32) = nI 0 from rfl, its_ok (by omega), Nat.add_zero, hr.1.1], Option.bind_some, show ld M 30 (1 : Int32) = some (nI (wRow W).length) from by rw [show (1 : Int32) = nI 1 from rfl, ld_n (show 1 < 10476 by omega), h.2.2.2.1], Option.bind_some, if_neg (nI_ge (by omega) (by omega)), Option.bind_some, show (2518 : Int32) = nI 2518 from rfl, nI_add, its_ok (by omega), ← Nat.add_assoc, hr.2.2.2.2 (eRev (wE W e)) (by omega), Option.bind_some]
      have hlt : eRev (wE W e) < (wRow W).length := by omega
      by_cases hc0 : eCom (wE W e) (eRev (wE W e)) = 0
      · rw [hc0, if_pos (show nI 0 = (0 : Int32) from rfl), if_pos ⟨rfl, hlt, rfl⟩]
        have ho : (wRow W)[eRev (wE W e)]? = some (wRow W)[eRev (wE W e)] := List.getElem?_eq_getElem hlt
        generalize (wRow W)[eRev (wE W e)] = o at ho
        obtain ⟨M6, c1, c2, c3⟩ := comes_ok (ties := ties) (E := wE W e) (o := o) (n := (wRow W).length) (by omega) hl hr (Good_Bd hg he) (by omega) (RRow_op h.2.2.2.2.2.2.1 (sum_le hg) ho) (by have := (chR_get hg.2.2.2.2.2.1 ho).2.1; omega) h.2.1 (by omega) (fun q hq => buf_ok hg he hq) (fun hne => (com_all hg he ho hne).1)
        have hW : comesW ties e W = setE W e (comesE ties e o (wE W e)) := by unfold comesW; rw [ho]
        have hrw : RW M6 cnt ties (comesW ties e W) := by
          rw [hW]
          refine RW_set h hg he c3 (fun k k1 k2 => ?_) (by decide) (by decide) c2
          simp only [List.mem_cons, List.not_mem_nil, or_false]
          omega
        have hrv : eRev (wE (comesW ties e W) e) = eRev (wE W e) + 1 := by
          rw [hW, setE_self]
          unfold comesE
          split
          · unfold ownE; split <;> rfl
          · rfl
        have hlen : (wRow (comesW ties e W)).length = (wRow W).length := by rw [hW]; rfl
        obtain ⟨M', g1, g2, g3⟩ := ih n (comesW ties e W) M6 (by rw [hrv, hlen]; omega) hrw (Good_comes hg he) (by omega)
        refine ⟨M', by rw [c1, Option.bind_some]; exact g1, g2, FN_trans (FN_mono c3 (fun _ h => h) (fun _ h => h) (fun _ _ => trivial)) g3⟩
      · have := e4 (eRev (wE W e)) (by omega)
        rw [if_neg (nI_ne0 (by omega) (by omega)), if_neg (fun h => hc0 h.2.2)]
        exact ⟨M, rfl, h, FN_refl _ _ _ _⟩
    · have hon' : eOn (wE W e) = false := by cases hh : eOn (wE W e) <;> simp_all
      rw [hon', if_neg (show ¬ bI false = (1 : Int32) from by decide), if_neg (fun h => by cases h.1)]
      exact ⟨M, rfl, h, FN_refl _ _ _ _⟩
theorem comes_loop {cnt ties tl : Nat} {W : Wd} (hg : Good cnt ties tl W) : ∀ (d n i : Nat) (M : MS), i + d = cnt → RW M cnt ties (itN (brStep ties) i W) → d < n →
    ∃ M', L12_tickGoes_164 n (nI i) M = some M' ∧ RW M' cnt ties (itN (brStep ties) cnt W) ∧ FN [20, 21, 22, 23, 24, 29, 41] [25, 26, 27, 28] (fun _ => True) M M' := by
  have hc4 := hg.1
  intro d
  induction d with
  | zero =>
    intro n i M hi h hn
    obtain ⟨n, rfl⟩ : ∃ j, n = j + 1 := ⟨n - 1, by omega⟩
    unfold L12_tickGoes_164
    rw [show gF M 32 = nI cnt from h.1, if_pos (nI_le (by omega) (by omega))]
    have : cnt = i := by omega
    subst this
    exact ⟨M, rfl, h, FN_refl _ _ _ _⟩
  | succ d ih =>
    intro n i M hi h hn
    obtain ⟨n, rfl⟩ : ∃ j, n = j + 1 := ⟨n - 1, by omega⟩
    have hgi := Good_itN (f := brStep ties) (fun e W he h => Good_brL he _ _ h) i W (by omega) hg
    have hl := row_le hgi
    obtain ⟨M1, a1, a2, a3⟩ := come_loop (show i < cnt by omega) _ FU _ M rfl h hgi (by rw [FU_eq]; omega)
    obtain ⟨M', b1, b2, b3⟩ := ih n (i + 1) M1 (by omega) a2 (by omega)
    refine ⟨M', ?_, b2, FN_trans a3 b3⟩
    unfold L12_tickGoes_164
    rw [show gF M 32 = nI cnt from h.1, if_neg (nI_ge (by omega) (by omega)), a1, Option.bind_some, nI_1]
    exact b1
theorem RW_time {M : MS} {cnt ties tl t : Nat} {W : Wd} (h : RW M cnt ties W) (hg : Good cnt ties tl W) : RW (sR M 30 (upd (M.2.1 30) 0 (nI t))) cnt ties ((t, wEd W, wPu W), W.2) := by
  obtain ⟨w1, w2, w3, w4, w5, w6, w7, w8⟩ := h
  have hl := row_le hg
  refine ⟨w1, w2, by rw [sR_get, upd_self], by rw [sR_get, upd_ne _ _ (by decide)]; exact w4, by rw [sR_get, upd_ne _ _ (by decide)]; exact w5, by rw [sR_get, upd_ne _ _ (by decide)]; exact w6, RRow_FN w7 (FN_now (As := []) (Fs := []) (P := fun _ => True) (fun j hj => absurd trivial hj)) (fun _ _ _ => List.not_mem_nil), fun i hi => ?_⟩
  rw [sR_get]
  exact REd_eq (w8 i hi) (Good_Bd hg hi) hl (fun j j1 j2 => upd_ne _ _ (by omega))
theorem tickGoes_ok {M : MS} {cnt ties tl t : Nat} {W : Wd} (h : RW M cnt ties W) (hg : Good cnt ties tl W) (h42 : M.1 42 = nI t) :
    ∃ M', f12_tickGoes M = some M' ∧ RW M' cnt ties (tickW ties cnt W) ∧ M'.1 42 = nI (t + ((wRow (tickW ties cnt W)).length - (wRow W).length)) ∧ FN [20, 21, 22, 23, 24, 29, 36, 37, 38, 39, 40, 41] [25, 26, 27, 28, 42] (fun _ => True) M M' := by
  have hc4 := hg.1
  obtain ⟨M1, a1, a2, a3⟩ := pass_loop hg cnt FU 0 M (by omega) h (by rw [FU_eq]; omega)
  have g1 := Good_itN (f := pStep) (fun e W he h => Good_pass h he) cnt W (Nat.le_refl _) hg
  have hrow : ∀ n, wRow (itN pStep n W) = wRow W := by
    intro n
    induction n with
    | zero => rfl
    | succ n ih => rw [itN]; exact ih
  obtain ⟨M3, b1, b2, b4, b3⟩ := take_loop g1 cnt FU 0 t M1 (by omega) a2 (by rw [a3.2.1 42 (by simp), h42]; congr 1; show t = t + ((wRow (itN pStep cnt W)).length - (wRow (itN pStep cnt W)).length); omega) (by rw [FU_eq]; omega)
  have g2 := Good_itN (f := tkStep ties cnt) (fun e W he h => Good_tk h he) cnt _ (Nat.le_refl _) g1
  obtain ⟨M5, c1, c2, c3⟩ := comes_loop g2 cnt FU 0 M3 (by omega) b2 (by rw [FU_eq]; omega)
  have g3 := Good_itN (f := brStep ties) (fun e W he h => Good_brL he _ _ h) cnt _ (Nat.le_refl _) g2
  have e1 : (itN (brStep ties) cnt (itN (tkStep ties cnt) cnt (itN pStep cnt W))).1 = W.1 := by
    rw [itN_cnt (f := brStep ties) (fun e W => brL_1 ties e _ W), itN_cnt (f := tkStep ties cnt) (fun e W => tkStep_1 ties cnt e W), itN_cnt (f := pStep) (fun e W => rfl)]
  have brow : ∀ (n : Nat) (W : Wd), wRow (itN (brStep ties) n W) = wRow W := by
    have b0 : ∀ (e n : Nat) (W : Wd), wRow (brL ties e n W) = wRow W := by
      intro e n
      induction n with
      | zero => intro W; rfl
      | succ n ih =>
        intro W
        rw [brL]
        split
        · rw [ih]; unfold comesW; split <;> rfl
        · rfl
    intro n
    induction n with
    | zero => intro W; rfl
    | succ n ih => intro W; rw [itN]; show wRow (brL ties n _ _) = _; rw [b0, ih]
  have hT := RW_time (t := wTk W + 1) c2 g3
  have hW : ((wTk W + 1, wEd (itN (brStep ties) cnt (itN (tkStep ties cnt) cnt (itN pStep cnt W))), wPu (itN (brStep ties) cnt (itN (tkStep ties cnt) cnt (itN pStep cnt W)))), (itN (brStep ties) cnt (itN (tkStep ties cnt) cnt (itN pStep cnt W))).2) = tickW ties cnt W := by
    unfold tickW
    have e2 : wEd (itN (brStep ties) cnt (itN (tkStep ties cnt) cnt (itN pStep cnt W))) = wEd W := by show (itN (brStep ties) cnt (itN (tkStep ties cnt) cnt (itN pStep cnt W))).1.2.1 = W.1.2.1; rw [e1]
    have e3 : wPu (itN (brStep ties) cnt (itN (tkStep ties cnt) cnt (itN pStep cnt W))) = wPu W := by show (itN (brStep ties) cnt (itN (tkStep ties cnt) cnt (itN pStep cnt W))).1.2.2 = W.1.2.2; rw [e1]
    rw [e2, e3]
  rw [hW] at hT
  have w0 : M5.2.1 30 0 = nI (wTk W) := by
    have := c2.2.2.1
    rw [this]
    show nI (itN (brStep ties) cnt (itN (tkStep ties cnt) cnt (itN pStep cnt W))).1.1 = _
    rw [e1]
  refine ⟨_, ?_, hT, ?_, ?_⟩
  · unfold f12_tickGoes
    rw [show L12_tickGoes_2 FU (0 : Int32) M = some M1 from a1, Option.bind_some, show L12_tickGoes_110 FU (0 : Int32) M1 = some M3 from b1, Option.bind_some, show L12_tickGoes_164 FU (0 : Int32) M3 = some M5 from c1, Option.bind_some, show (0 : Int32) = nI 0 from rfl, ld_n (show 0 < 10476 by omega), w0, Option.bind_some, nI_1, sd_n (show 0 < 10476 by omega), Option.bind_some]
  · rw [sR_F, c3.2.1 42 (by decide), b4]
    congr 2
    show _ = (wRow (itN (brStep ties) cnt (itN (tkStep ties cnt) cnt (itN pStep cnt W)))).length - (wRow W).length
    rw [brow, hrow]
  · refine FN_trans (FN_mono a3 (by simp) (by simp) (fun _ h => h)) (FN_trans (FN_mono b3 (by simp) (by simp) (fun _ h => h)) (FN_trans (FN_mono c3 (by simp) (by simp) (fun _ h => h)) (FN_now (fun j hj => absurd trivial hj))))
