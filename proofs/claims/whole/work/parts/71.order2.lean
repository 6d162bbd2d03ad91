/-! ===== PART II, the reference: the orders with their ends ===== -/
def seqD (ties cnt m r : Nat) : Nat → Nat → Wd → Wd
  | 0, _, W => W
  | d + 1, k, W => seqD ties cnt m r d (k + 1) (takeW ties cnt (dig m r k) W)
theorem met_keep0 : ∀ met, met < 16 → ∀ e, e < 4 → ∀ x, x < 4 → ((met ||| (1 <<< e)).testBit x || (decide (x ≠ e) && !(met.testBit x))) = true := by decide
theorem met_keep (met : Nat) (hm : met < 16) (e : Nat) (he : e < 4) (x : Nat) (hx : x < 4) (h : (met ||| (1 <<< e)).testBit x = false) : x ≠ e ∧ met.testBit x = false := by
  have h1 := met_keep0 met hm e he x hx
  rw [h, Bool.false_or] at h1
  simp only [Bool.and_eq_true, decide_eq_true_eq, Bool.not_eq_true'] at h1
  exact h1
theorem seq_loop {cnt ties tl m r : Nat} {on : Nat → Bool} (hm : m ≤ 4) (hr : r < 256) : ∀ (d n k met : Nat) (W : Wd) (M : MS), k + d = m → met < 16 → ordB on m r d k met = true → (∀ e, e < 4 → on e = true → met.testBit e = false → e < cnt ∧ (eLft (wE W e)).isSome = true) → RW M cnt ties W → Good cnt ties tl W → d < n →
    ∃ M', L12_laysOrders_39 (nI m) (nI r) n (nI k) M = some M' ∧ RW M' cnt ties (seqD ties cnt m r d k W) ∧ Good cnt ties tl (seqD ties cnt m r d k W) ∧ wRow W <+: wRow (seqD ties cnt m r d k W) ∧ FN [20, 21, 22, 23, 24, 36, 37, 38, 39, 40] [25, 26, 27, 28] (fun _ => True) M M' := by
  intro d
  induction d with
  | zero =>
    intro n k met W M hk hmet ho hon h hg hn
    obtain ⟨n, rfl⟩ : ∃ j, n = j + 1 := ⟨n - 1, by omega⟩
    unfold L12_laysOrders_39
    rw [if_pos (nI_le (by omega) (by omega))]
    exact ⟨M, rfl, h, hg, List.prefix_refl _, FN_refl _ _ _ _⟩
  | succ d ih =>
    intro n k met W M hk hmet ho hon h hg hn
    obtain ⟨n, rfl⟩ : ∃ j, n = j + 1 := ⟨n - 1, by omega⟩
    have hd4 : dig m r k < 4 := Nat.mod_lt _ (by omega)
    rw [ordB] at ho
    simp only [Bool.and_eq_true, Bool.not_eq_true'] at ho
    obtain ⟨o1, o2, o3⟩ := ho
    obtain ⟨he, hl⟩ := hon _ hd4 o1 o2
    obtain ⟨x, hx⟩ := Option.isSome_iff_exists.mp hl
    obtain ⟨p, p1, p2, p3, p4, p5, p6, p7, p8, p9, p10⟩ := take_all hg he hx
    have hc4 := hg.1
    have ht2 := hg.2.1
    obtain ⟨M1, s1, s2, s3⟩ := serverTakes_ok h he hc4 (by omega) (fun i hi => Good_Bd hg hi) hl p3 p4 p5 p6
    obtain ⟨M', a1, a2, a3, a4, a5⟩ := ih n (k + 1) (met ||| (1 <<< dig m r k)) (takeW ties cnt (dig m r k) W) M1 (by omega) (met_or met hmet _ hd4).2 o3 (fun e he4 hone hme => by
      obtain ⟨q1, q2⟩ := met_keep met hmet _ hd4 e he4 hme
      obtain ⟨q3, q4⟩ := hon e he4 hone q2
      refine ⟨q3, ?_⟩
      have : wE (takeW ties cnt (dig m r k) W) e = tkE W (dig m r k) e := by show (if e < cnt then tkE W (dig m r k) e else wE W e) = _; rw [if_pos q3]
      rw [this]
      unfold tkE
      rw [if_neg q1]
      exact q4) s2 (Good_take hg he hx) (by omega)
    refine ⟨M', ?_, a2, a3, List.IsPrefix.trans (List.prefix_append _ _) a4, FN_trans s3 a5⟩
    unfold L12_laysOrders_39
    rw [if_neg (nI_ge (by omega) (by omega)), dig_ok hm (by omega) hr, s1, Option.bind_some, nI_1]
    exact a1
/-- the ends of those of the first r numbers that tell an order -/
def endsTo (ok : Nat → Bool) (en : Nat → List Int32) : Nat → List (List Int32)
  | 0 => []
  | r + 1 => endsTo ok en r ++ (if ok r then [en r] else [])
def cntTo (ok : Nat → Bool) : Nat → Nat
  | 0 => 0
  | r + 1 => cntTo ok r + (if ok r then 1 else 0)
theorem endsTo_len (ok : Nat → Bool) (en : Nat → List Int32) (r : Nat) : (endsTo ok en r).length = cntTo ok r := by
  induction r with
  | zero => rfl
  | succ r ih => rw [endsTo, cntTo, List.length_append, ih]; split <;> rfl
theorem cntTo_mono {ok ok' : Nat → Bool} (h : ∀ r, ok r = true → ok' r = true) (r : Nat) : cntTo ok r ≤ cntTo ok' r := by
  induction r with
  | zero => exact Nat.le_refl _
  | succ r ih =>
    rw [cntTo, cntTo]
    cases h1 : ok r with
    | false => simp; omega
    | true => rw [h r h1]; simp; exact ih
theorem cntTo_le {ok : Nat → Bool} {r s : Nat} (h : r ≤ s) : cntTo ok r ≤ cntTo ok s := by
  induction s with
  | zero => rw [show r = 0 by omega]; exact Nat.le_refl _
  | succ s ih =>
    by_cases hr : r = s + 1
    · rw [hr]; exact Nat.le_refl _
    · rw [cntTo]; have := ih (by omega); omega
theorem ordB_mono {on : Nat → Bool} {m r : Nat} : ∀ (d k met : Nat), ordB on m r d k met = true → ordB (fun _ => true) m r d k met = true := by
  intro d
  induction d with
  | zero => intro k met _; rfl
  | succ d ih =>
    intro k met h
    rw [ordB] at h ⊢
    simp only [Bool.and_eq_true, Bool.true_and] at h ⊢
    exact ⟨h.2.1, ih _ _ h.2.2⟩
theorem ord24 : ∀ m, m < 5 → cntTo (fun r => ordB (fun _ => true) m r m 0 0) (4 ^ m) ≤ 24 := by decide +kernel
theorem ord_le {on : Nat → Bool} {m r : Nat} (hm : m ≤ 4) (hr : r < 4 ^ m) (ho : ordB on m r m 0 0 = true) : cntTo (fun r => ordB on m r m 0 0) r < 24 := by
  have h1 := ord24 m (by omega)
  have h2 := cntTo_mono (ok := fun r => ordB on m r m 0 0) (ok' := fun r => ordB (fun _ => true) m r m 0 0) (fun r h => ordB_mono _ _ _ h) (4 ^ m)
  have h3 := cntTo_le (ok := fun r => ordB on m r m 0 0) (show r + 1 ≤ 4 ^ m by omega)
  rw [cntTo, if_pos ho] at h3
  omega
/-- the ends, as the reference keeps them -/
def EN (M : MS) (ts : List (List Int32)) : Prop := M.1 53 = nI ts.length ∧ ∀ o t, ts[o]? = some t → M.2.1 54 o = nI t.length ∧ seg (M.2.1 55) (250 * o) t ∧ t.length ≤ 240
theorem end_copy {M : MS} {t : List Int32} {o : Nat} {c1 c2 : Int32} (h49 : M.1 49 = nI t.length) (h53 : M.1 53 = nI o) (hs : seg (M.2.1 47) 0 t) (hl : t.length ≤ 240) (ho : o < 24) : L12_laysOrders_86 c1 c2 FU 0 M = some (sR M 55 (wr (M.2.1 55) (250 * o) t)) := by
  refine cpl0 (src := 47) (s := 0) (d := 250 * o) (by decide) (show 0 + t.length ≤ 300 by omega) (show 250 * o + t.length ≤ 6000 by omega) (by rw [FU_eq]; omega) hs (fun n i f hi => ?_) (fun n f => ?_)
  · conv => lhs; unfold L12_laysOrders_86
    rw [show gF (sR M 55 f) 49 = nI t.length from h49, show gF (sR M 55 f) 53 = nI o from h53, if_neg (nI_ge hi (by omega)), show (250 : Int32) = nI 250 from rfl, nI_mul, nI_add, Nat.zero_add, nI_1]
  · unfold L12_laysOrders_86
    rw [show gF (sR M 55 f) 49 = nI t.length from h49, if_pos (nI_le (Nat.le_refl _) (by omega))]
def enW (A : St) (m r : Nat) : List Int32 := srvT (aTold A) (wRow (seqD (aTies A) (aCnt A) m r m 0 (aW A)))
abbrev okW (A : St) (m r : Nat) : Bool := ordB (onW (aCnt A) (aW A)) m r m 0 0
theorem order_loop {A : St} {M0 : MS} {m : Nat} {g : Nat → Int32} (h0 : RS M0 A) (hg : GA A) (hm : m ≤ 4) (hg52 : ∀ j, j < 10476 → g j = M0.2.1 30 j) : ∀ (d n r : Nat) (M : MS), r + d = 4 ^ m → RW M (aCnt A) (aTies A) (aW A) → M.2.1 52 = g → EN M (endsTo (okW A m) (enW A m) r) → FN [20, 21, 22, 23, 24, 29, 36, 37, 38, 39, 40, 47, 48, 50, 52, 54, 55] [25, 26, 27, 28, 49, 53] (fun _ => True) M0 M → d < n →
    ∃ M', L12_laysOrders_16 (nI m) n (nI r) M = some M' ∧ RW M' (aCnt A) (aTies A) (aW A) ∧ EN M' (endsTo (okW A m) (enW A m) (4 ^ m)) ∧ FN [20, 21, 22, 23, 24, 29, 36, 37, 38, 39, 40, 47, 48, 50, 52, 54, 55] [25, 26, 27, 28, 49, 53] (fun _ => True) M0 M' := by
  have gd := GA_good hg
  have h4 : 4 ^ m ≤ 256 := by
    rcases (show m = 0 ∨ m = 1 ∨ m = 2 ∨ m = 3 ∨ m = 4 by omega) with rfl | rfl | rfl | rfl | rfl <;> decide
  have hsh : (1 : Int32) <<< (((2 : Int32) * nI m) &&& 31) = nI (4 ^ m) := by
    rcases (show m = 0 ∨ m = 1 ∨ m = 2 ∨ m = 3 ∨ m = 4 by omega) with rfl | rfl | rfl | rfl | rfl <;> decide
  intro d
  induction d with
  | zero =>
    intro n r M hr h h52 hE hf hn
    obtain ⟨n, rfl⟩ : ∃ j, n = j + 1 := ⟨n - 1, by omega⟩
    have : r = 4 ^ m := by omega
    subst this
    unfold L12_laysOrders_16
    rw [hsh, if_pos (nI_le (Nat.le_refl _) (by omega))]
    exact ⟨M, rfl, h, hE, hf⟩
  | succ d ih =>
    intro n r M hr h h52 hE hf hn
    obtain ⟨n, rfl⟩ : ∃ j, n = j + 1 := ⟨n - 1, by omega⟩
    have hst : ∃ M2, (if bI (okW A m r) = 0 then some M else ((L12_laysOrders_39 (nI m) (nI r) FU 0 M).bind fun M4 => (ld M4 30 1).bind fun v6 => bn2 (f12_serverText M4 v6) fun v7 M8 => (sd M8 54 (gF M4 53) v7).bind fun M9 => (L12_laysOrders_86 (nI m) (nI r) FU 0 M9).bind fun M10 => (f12_takesBack (sF M10 53 ((gF M10 53) + 1))).bind fun M12 => some M12)) = some M2 ∧ RW M2 (aCnt A) (aTies A) (aW A) ∧ M2.2.1 52 = g ∧ EN M2 (endsTo (okW A m) (enW A m) (r + 1)) ∧ FN [20, 21, 22, 23, 24, 29, 36, 37, 38, 39, 40, 47, 48, 50, 52, 54, 55] [25, 26, 27, 28, 49, 53] (fun _ => True) M0 M2 := by
      cases hok : okW A m r with
      | false =>
        refine ⟨M, by rw [if_pos (show bI false = (0 : Int32) from rfl)], h, h52, ?_, hf⟩
        rw [endsTo, hok, if_neg (by decide), List.append_nil]; exact hE
      | true =>
        rw [if_neg (show ¬ bI true = (0 : Int32) from by decide)]
        have ho24 := ord_le hm (show r < 4 ^ m by omega) hok
        have hlen := endsTo_len (okW A m) (enW A m) r
        obtain ⟨M4, s1, s2, s3, s4, s5⟩ := seq_loop (on := onW (aCnt A) (aW A)) hm (show r < 256 by omega) m FU 0 0 (aW A) M (by omega) (by omega) hok (fun e he hone _ => by
          unfold onW at hone
          simp only [Bool.and_eq_true, decide_eq_true_eq] at hone
          exact hone) h gd (by rw [FU_eq]; omega)
        have hT4 : RT M4 (aTold A) := by
          have hT := h0.2.2.2.2.2.2.1
          unfold RT
          rw [s5.2.1 34 (by decide), s5.1 35 (by decide) (by decide), hf.2.1 34 (by decide), hf.1 35 (by decide) (by decide)]
          exact hT
        obtain ⟨g1, g2, g3, g4, g5, g6, g7, g8, g9⟩ := id s3
        obtain ⟨M8, t1, t2, t3, t4, t5, t6⟩ := serverText_ok (n := (wRow (seqD (aTies A) (aCnt A) m r m 0 (aW A))).length) g1 hT4 s2.2.2.2.2.2.2.1 g6 (sum_le s3) (by omega) (by omega) (Nat.le_refl _)
        rw [List.take_length] at t1 t2 t3 t6
        have m53 : M4.1 53 = nI (cntTo (okW A m) r) := by rw [s5.2.1 53 (by decide), hE.1, hlen]
        have hEq : srvT (aTold A) (wRow (seqD (aTies A) (aCnt A) m r m 0 (aW A))) = enW A m r := rfl
        rw [hEq] at t1 t2 t3 t6
        generalize hM9 : sR M8 54 (upd (M8.2.1 54) (cntTo (okW A m) r) (nI (enW A m r).length)) = M9
        have f9 : Frm [54] [] M8 M9 := by subst hM9; exact Frm_sR (by decide)
        have hcp := end_copy (M := M9) (t := enW A m r) (o := cntTo (okW A m) r) (c1 := nI m) (c2 := nI r) (by rw [f9.2.1 49 (by simp)]; exact t2) (by rw [f9.2.1 53 (by simp), t5.2.1 53 (by decide)]; exact m53) (by rw [f9.1 47 (by decide)]; exact t3) t6 ho24
        generalize hM10 : sR M9 55 (wr (M9.2.1 55) (250 * cntTo (okW A m) r) (enW A m r)) = M10 at hcp
        have f10 : Frm [55] [] M9 M10 := by subst hM10; exact Frm_sR (by decide)
        have e53 : gF M10 53 + 1 = nI (cntTo (okW A m) r + 1) := by
          rw [show gF M10 53 = nI (cntTo (okW A m) r) from by rw [show gF M10 53 = M10.1 53 from rfl, f10.2.1 53 (by simp), f9.2.1 53 (by simp), t5.2.1 53 (by decide)]; exact m53, nI_1]
        obtain ⟨g', b1, b2⟩ := takesBack_ok (sF M10 53 (nI (cntTo (okW A m) r + 1)))
        have fr : FN [20, 21, 22, 23, 24, 29, 36, 37, 38, 39, 40, 47, 48, 50, 54, 55] [25, 26, 27, 28, 49, 53] (fun _ => True) M (sR (sF M10 53 (nI (cntTo (okW A m) r + 1))) 30 g') := by
          refine FN_trans (FN_mono s5 (by simp) (by simp) (fun _ h => h)) (FN_trans (FN_Frm t5 (by decide) (by simp) (by simp)) (FN_trans (FN_Frm f9 (by decide) (by simp) (by simp)) (FN_trans (FN_Frm f10 (by decide) (by simp) (by simp)) (FN_trans (FN_sF (by decide)) (FN_now (fun j hj => absurd trivial hj))))))
        have r52 : (sF M10 53 (nI (cntTo (okW A m) r + 1))).2.1 52 = g := by
          show M10.2.1 52 = g
          rw [f10.1 52 (by decide), f9.1 52 (by decide), t5.1 52 (by decide), s5.1 52 (by decide) (by decide), h52]
        refine ⟨sR (sF M10 53 (nI (cntTo (okW A m) r + 1))) 30 g', ?_, ?_, ?_, ?_, FN_trans hf (FN_mono fr (by simp) (fun _ h => h) (fun _ h => h))⟩
        · rw [show L12_laysOrders_39 (nI m) (nI r) FU (0 : Int32) M = _ from s1, Option.bind_some, show ld M4 30 (1 : Int32) = some (nI (wRow (seqD (aTies A) (aCnt A) m r m 0 (aW A))).length) from by rw [show (1 : Int32) = nI 1 from rfl, ld_n (show 1 < 10476 by omega), s2.2.2.2.1], Option.bind_some, t1, bn2_s, show gF M4 53 = _ from m53, sd_n (show cntTo (okW A m) r < mLn 54 from ho24), hM9, Option.bind_some, hcp, Option.bind_some, e53, b1, Option.bind_some]
        · have hrw0 := RW_RN.mp (RS_RW h0)
          rw [RW_RN, fr.2.1 32 (by decide), fr.2.1 33 (by decide)]
          have hrwM := RW_RN.mp h
          refine ⟨hrwM.1, hrwM.2.1, RN_eq hrw0.2.2.1 gd (fun j hj => ?_), ?_⟩
          · rw [sR_get, b2 j hj, r52, hg52 j hj]
          · have hp := pre_row s2.2.2.2.2.2.2.1 s4
            intro i o ho
            have e : ∀ k, 36 ≤ k → k ≤ 40 → (sR (sF M10 53 (nI (cntTo (okW A m) r + 1))) 30 g').2.1 k = M4.2.1 k := fun k k1 k2 => by
              rw [sR_ne _ _ (by omega)]
              show M10.2.1 k = _
              rw [f10.1 k (by simp; omega), f9.1 k (by simp; omega), t5.1 k (by simp; omega)]
            rw [e 36 (by omega) (by omega), e 37 (by omega) (by omega), e 38 (by omega) (by omega), e 39 (by omega) (by omega), e 40 (by omega) (by omega)]
            exact hp i o ho
        · rw [sR_ne _ _ (by decide)]; exact r52
        · rw [endsTo, hok, if_pos rfl]
          refine ⟨?_, fun o t ho => ?_⟩
          · rw [sR_F, sF_get, List.length_append, hlen]; rfl
          · have e54 : (sR (sF M10 53 (nI (cntTo (okW A m) r + 1))) 30 g').2.1 54 = upd (M.2.1 54) (cntTo (okW A m) r) (nI (enW A m r).length) := by
              rw [sR_ne _ _ (by decide)]
              show M10.2.1 54 = _
              rw [f10.1 54 (by decide), ← hM9, sR_get, t5.1 54 (by decide), s5.1 54 (by decide) (by decide)]
            have e55 : (sR (sF M10 53 (nI (cntTo (okW A m) r + 1))) 30 g').2.1 55 = wr (M.2.1 55) (250 * cntTo (okW A m) r) (enW A m r) := by
              rw [sR_ne _ _ (by decide)]
              show M10.2.1 55 = _
              rw [← hM10, sR_get, f9.1 55 (by decide), t5.1 55 (by decide), s5.1 55 (by decide) (by decide)]
            rw [e54, e55]
            rcases getElem?_snoc ho with ⟨hi, h1⟩ | ⟨hi, h1⟩
            · obtain ⟨q1, q2, q3⟩ := hE.2 o t h1
              rw [hlen] at hi
              exact ⟨by rw [upd_ne _ _ (by omega)]; exact q1, seg_wr_out q2 (Or.inl (by omega)), q3⟩
            · rw [hlen] at hi
              subst hi h1
              exact ⟨upd_self _ _ _, seg_wr, t6⟩
    obtain ⟨M2, c1, c2, c3, c4, c5⟩ := hst
    obtain ⟨M', d1, d2, d3, d4⟩ := ih n (r + 1) M2 (by omega) c2 c3 c4 c5 (by omega)
    refine ⟨M', ?_, d2, d3, d4⟩
    unfold L12_laysOrders_16
    rw [hsh, if_neg (nI_ge (by omega) (by omega)), isOrder_ok h gd hm (by omega), Option.bind_some, c1, Option.bind_some, nI_1]
    exact d1
