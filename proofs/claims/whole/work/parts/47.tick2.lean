/-! ===== PART II, the reference: a tick ===== -/
theorem RW_set {M M' : MS} {cnt ties tl e : Nat} {W : Wd} {E : Ed} {As Fs : List Nat} (h : RW M cnt ties W) (hg : Good cnt ties tl W) (he : e < cnt) (hf : FN As Fs (fun j => 4 + 2618 * e ≤ j ∧ j < 4 + 2618 * e + 2618) M M') (hA : ∀ k, 36 ≤ k → k ≤ 40 → k ∉ As) (h32 : 32 ∉ Fs) (h33 : 33 ∉ Fs) (hE : REd (M'.2.1 30) (4 + 2618 * e) (wRow W).length E) : RW M' cnt ties (setE W e E) := by
  obtain ⟨w1, w2, w3, w4, w5, w6, w7, w8⟩ := h
  have hl : (wRow W).length ≤ 100 := by have := hg.2.2.2.2.1; have := hg.2.2.2.2.2.2.2.1; omega
  refine ⟨by rw [hf.2.1 _ h32]; exact w1, by rw [hf.2.1 _ h33]; exact w2, by rw [hf.2.2.2 _ (by omega)]; exact w3, by rw [hf.2.2.2 _ (by omega)]; exact w4, by rw [hf.2.2.2 _ (by omega)]; exact w5, by rw [hf.2.2.2 _ (by omega)]; exact w6, RRow_FN w7 hf hA, fun i hi => ?_⟩
  by_cases hie : i = e
  · subst hie; rw [setE_self]; exact hE
  · rw [setE_ne _ _ hie]
    exact REd_eq (w8 i hi) (Good_Bd hg hi) hl (fun j j1 j2 => hf.2.2.2 j (by omega))
theorem row_le {cnt ties tl : Nat} {W : Wd} (hg : Good cnt ties tl W) : (wRow W).length ≤ 100 := by have := hg.2.2.2.2.1; have := hg.2.2.2.2.2.2.2.1; omega
theorem sum_le {cnt ties tl : Nat} {W : Wd} (hg : Good cnt ties tl W) : sumMk (wRow W) ≤ 3000 := by
  obtain ⟨g1, g2, g3, g4, g5, g6, g7, g8, g9⟩ := hg
  have := sumMk_R _ _ g6
  have := lenA_cnt _ _ g6
  omega
/-- one editor's ticks go down -/
theorem pass_body {M : MS} {cnt ties tl e : Nat} {W : Wd} (h : RW M cnt ties W) (hg : Good cnt ties tl W) (he : e < cnt) :
    ∃ M', ((f12_its M (nI e) (15 : Int32)).bind fun v1 =>
      (if v1 = 0 then (some M) else ((f12_its M (nI e) (19 : Int32)).bind fun v4 =>
          (if v4 ≤ 0 then (some M) else ((f12_of (nI e) (19 : Int32)).bind fun v7 =>
              (ld M 30 v7).bind fun v8 =>
              (sd M 30 v7 (v8 - 1)).bind fun M9 =>
              some M9)).bind fun M5 =>
          (f12_its M5 (nI e) (0 : Int32)).bind fun v10 =>
          (L12_tickGoes_55 (nI e) FU v10 M5).bind fun M11 =>
          some M11))) = some M' ∧ RW M' cnt ties (pStep e W) ∧ FN [] [] (fun _ => True) M M' := by
  have hc4 := hg.1
  have hl := row_le hg
  have hbd := Good_Bd hg he
  have hEd := hg.2.2.2.2.2.2.2.2 e he
  obtain ⟨e1, e2, e3, e4, -⟩ := hEd
  have hr := h.2.2.2.2.2.2.2 e he
  obtain ⟨⟨k1, k2, k3, k4, k5, k6, k7, k8, k9, k10⟩, h2, h3, h4, h5⟩ := id hr
  have mk4 := hbd.2.1
  have t4 := hbd.1
  rw [show (15 : Int32) = nI 15 from rfl, its_ok (by omega), k5, Option.bind_some]
  unfold pStep passE
  by_cases hon : eOn (wE W e) = true
  · rw [if_pos hon, hon, if_neg (show ¬ bI true = (0 : Int32) from by decide), show (19 : Int32) = nI 19 from rfl, its_ok (by omega), k9, Option.bind_some]
    have hst : (if oI (eLft (wE W e)) ≤ 0 then (some M) else ((f12_of (nI e) (nI 19)).bind fun v7 => (ld M 30 v7).bind fun v8 => (sd M 30 v7 (v8 - 1)).bind fun M9 => some M9)) = some (sR M 30 (upd (M.2.1 30) (4 + 2618 * e + 19) (oI ((eLft (wE W e)).map fun k => k - 1)))) := by
      have same : oI ((eLft (wE W e)).map fun k => k - 1) = oI (eLft (wE W e)) → some M = some (sR M 30 (upd (M.2.1 30) (4 + 2618 * e + 19) (oI ((eLft (wE W e)).map fun k => k - 1)))) := fun hs => by
        have : upd (M.2.1 30) (4 + 2618 * e + 19) (oI ((eLft (wE W e)).map fun k => k - 1)) = M.2.1 30 := by
          funext j
          by_cases hj : j = 4 + 2618 * e + 19
          · rw [hj, upd_self, hs, k9]
          · rw [upd_ne _ _ hj]
        rw [this, sR_self]
      cases hL : eLft (wE W e) with
      | none =>
        rw [hL] at same
        rw [if_pos (show oI none ≤ (0 : Int32) from by decide)]
        exact same rfl
      | some k =>
        rw [hL] at same
        have hk9 := e3 k hL
        by_cases hk : k = 0
        · subst hk
          rw [if_pos (show oI (some 0) ≤ (0 : Int32) from by decide)]
          exact same rfl
        · rw [if_neg (show ¬ oI (some k) ≤ (0 : Int32) from nI_nle (by omega) (by omega)), of_ok, Option.bind_some, ld_n (show 4 + 2618 * e + 19 < 10476 by omega), k9, hL, Option.bind_some, show oI (some k) - (1 : Int32) = nI (k - 1) from by
            show nI k - nI 1 = _
            rw [nI_sub (by omega)], sd_n (show 4 + 2618 * e + 19 < 10476 by omega), Option.bind_some]
          rfl
    rw [hst, Option.bind_some]
    generalize hf1 : upd (M.2.1 30) (4 + 2618 * e + 19) (oI ((eLft (wE W e)).map fun k => k - 1)) = f1
    have o1 : ∀ j, j ≠ 4 + 2618 * e + 19 → f1 j = M.2.1 30 j := fun j hj => by subst hf1; exact upd_ne _ _ hj
    obtain ⟨f', l1, l2, l3⟩ := com_loop (e := e) (N := (wRow W).length) (by omega) hl ((wRow W).length - eRev (wE W e)) FU (eRev (wE W e)) (eCom (wE W e)) (sR M 30 f1) (by omega) (by rw [sR_get, o1 _ (by omega)]; exact h.2.2.2.1) (fun k k1 k2 => by rw [sR_get, o1 _ (by omega)]; exact ⟨h5 k k2, e4 k k2⟩) (by rw [FU_eq]; omega)
    rw [sR_get] at l2
    rw [sR_sR] at l1
    have o' : ∀ j, j ≠ 4 + 2618 * e + 19 → (j < 4 + 2618 * e + 2518 + eRev (wE W e) ∨ 4 + 2618 * e + 2518 + (wRow W).length ≤ j) → f' j = M.2.1 30 j := fun j j1 j2 => by rw [l2 j j2, o1 j j1]
    refine ⟨sR M 30 f', ?_, ?_, FN_now (fun j hj => absurd trivial hj)⟩
    · rw [show (0 : Int32) = nI 0 from rfl, its_ok (by omega), sR_get, Nat.add_zero, o1 _ (by omega), k1, Option.bind_some, l1, Option.bind_some]
    · refine RW_set (As := []) (Fs := []) h hg he (FN_now (fun j hj => o' j (by omega) (by omega))) (fun _ _ _ => List.not_mem_nil) List.not_mem_nil List.not_mem_nil ?_
      rw [sR_get]
      have hsm : ((eLft (wE W e)).map fun k => k - 1).isSome = (eLft (wE W e)).isSome := by cases eLft (wE W e) <;> rfl
      refine ⟨⟨?_, ?_, ?_, mkAt_eq (eMks (wE W e)) _ k4 (fun j j1 j2 => o' j (by omega) (by omega)), ?_, ?_, ?_, ?_, ?_, fun hh => ?_⟩, REt_eq (E := wE W e) h2 (fun j hj => o' j (by omega) (by omega)), ⟨fun p hp => ?_, fun hh => ?_, fun p hp => ?_, StA_eq h3.2.2.2.1 (fun j j1 j2 => o' j (by omega) (by omega)), StA_eq h3.2.2.2.2 (fun j j1 j2 => o' j (by omega) (by omega))⟩, REs_eq (E := wE W e) h4 hbd (fun j hj => o' j (by omega) (by omega)), fun i hi => ?_⟩
      · rw [o' _ (by omega) (by omega)]; exact k1
      · rw [o' _ (by omega) (by omega)]; exact k2
      · rw [o' _ (by omega) (by omega)]; exact k3
      · rw [o' _ (by omega) (by omega)]; exact k5
      · rw [o' _ (by omega) (by omega)]; exact k6
      · rw [o' _ (by omega) (by omega)]; exact k7
      · rw [o' _ (by omega) (by omega)]; exact k8
      · rw [l2 _ (by omega)]; subst hf1; rw [upd_self]; rfl
      · have hh' : ((eLft (wE W e)).map fun k => k - 1).isSome = true := hh
        rw [o' _ (by omega) (by omega)]; exact k10 (by rw [← hsm]; exact hh')
      · have := hbd.2.2.2.2.1 p hp
        exact KeptAt_eq (h3.1 p hp) (fun j j1 j2 => o' j (by omega) (by omega))
      · have hh' : ((eLft (wE W e)).map fun k => k - 1).isSome = true := hh
        rw [hsm] at hh'
        have := hbd.2.2.2.2.2.1 hh'
        exact KeptAt_eq (p := (eSnt (wE W e)).1) (h3.2.1 hh') (fun j j1 j2 => o' j (by omega) (by omega))
      · have := hbd.2.2.2.2.2.2.1 p hp
        exact KeptAt_eq (h3.2.2.1 p hp) (fun j j1 j2 => o' j (by omega) (by omega))
      · show f' (4 + 2618 * e + 2518 + i) = nI (if eRev (wE W e) ≤ i ∧ i < (wRow W).length then eCom (wE W e) i - 1 else eCom (wE W e) i)
        by_cases hri : eRev (wE W e) ≤ i
        · rw [if_pos ⟨hri, hi⟩]; exact l3 i hri hi
        · rw [if_neg (fun h => hri h.1), o' _ (by omega) (by omega)]; exact h5 i hi
  · have hon' : eOn (wE W e) = false := by cases hh : eOn (wE W e) <;> simp_all
    rw [if_neg hon, hon', if_pos (show bI false = (0 : Int32) from rfl)]
    refine ⟨M, rfl, ?_, FN_refl _ _ _ _⟩
    exact RW_set (As := []) (Fs := []) h hg he (FN_refl _ _ _ _) (fun _ _ _ => List.not_mem_nil) List.not_mem_nil List.not_mem_nil hr
theorem pass_loop {cnt ties tl : Nat} {W : Wd} (hg : Good cnt ties tl W) : ∀ (d n i : Nat) (M : MS), i + d = cnt → RW M cnt ties (itN pStep i W) → d < n →
    ∃ M', L12_tickGoes_2 n (nI i) M = some M' ∧ RW M' cnt ties (itN pStep cnt W) ∧ FN [] [] (fun _ => True) M M' := by
  have hc4 := hg.1
  intro d
  induction d with
  | zero =>
    intro n i M hi h hn
    obtain ⟨n, rfl⟩ : ∃ j, n = j + 1 := ⟨n - 1, by omega⟩
    unfold L12_tickGoes_2
    rw [show gF M 32 = nI cnt from h.1, if_pos (nI_le (by omega) (by omega))]
    exact ⟨M, rfl, by rw [show cnt = i by omega] at h ⊢; exact h, FN_refl _ _ _ _⟩
  | succ d ih =>
    intro n i M hi h hn
    obtain ⟨n, rfl⟩ : ∃ j, n = j + 1 := ⟨n - 1, by omega⟩
    have hgi := Good_itN (f := pStep) (fun e W he h => Good_pass h he) i W (by omega) hg
    obtain ⟨M1, a1, a2, a3⟩ := pass_body h hgi (show i < cnt by omega)
    obtain ⟨M', b1, b2, b3⟩ := ih n (i + 1) M1 (by omega) a2 (by omega)
    refine ⟨M', ?_, b2, FN_trans a3 b3⟩
    unfold L12_tickGoes_2
    rw [show gF M 32 = nI cnt from h.1, if_neg (nI_ge (by omega) (by omega)), ← Option.bind_assoc, a1, Option.bind_some, nI_1]
    exact b1
