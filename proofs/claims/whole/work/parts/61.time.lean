/-! ===== PART II, the reference: acts are kept, ticks go ===== -/
def keepA (A : St) : St := sHi A ((aW A :: aHist A).take 20)
theorem keeps_ok {M : MS} {A : St} (h : RS M A) (hg : GA A) : ∃ M', f12_keeps M = some M' ∧ RS M' (keepA A) ∧ Frm [60] [61, 62] M M' := by
  have gd := GA_good hg
  have hlen := hg.2.2.2.2.2.2.2.1
  have hgh := hg.2.2.2.2.2.2.2.2.1
  obtain ⟨h1, h2, h3, h4, h5, h6, h7, h8, h9, h10, h11, h12, h13⟩ := id h
  obtain ⟨k1, nw, k2, k3, k4⟩ := h9
  have hm : (gF M 62 + (1 : Int32)) - (gF M 62 + (1 : Int32)) / (20 : Int32) * (20 : Int32) = nI ((nw + 1) % 20) := by
    rw [show gF M 62 = nI nw from k3, nI_1, mod20 (by omega)]
  have hL := kep_loop (M := sF M 62 (nI ((nw + 1) % 20))) (nw := (nw + 1) % 20) (sF_get _ _ _) (by omega)
  generalize hM1 : sR (sF M 62 (nI ((nw + 1) % 20))) 60 (wr ((sF M 62 (nI ((nw + 1) % 20))).2.1 60) (10476 * ((nw + 1) % 20)) (lst (fun k => (sF M 62 (nI ((nw + 1) % 20))).2.1 30 (0 + k)) 10476)) = M1 at hL
  have f1 : Frm [60] [61, 62] M M1 := by subst hM1; exact Frm_trans (Frm_sF (by decide)) (Frm_sR (by decide))
  have m60 : ∀ j, M1.2.1 60 j = if 10476 * ((nw + 1) % 20) ≤ j ∧ j < 10476 * ((nw + 1) % 20) + 10476 then M.2.1 30 (j - 10476 * ((nw + 1) % 20)) else M.2.1 60 j := fun j => by
    subst hM1
    rw [sR_get, lst_wr, Nat.zero_add]
    rfl
  have m62 : M1.1 62 = nI ((nw + 1) % 20) := by subst hM1; rw [sR_F, sF_get]
  have m61 : M1.1 61 = nI (aHist A).length := by subst hM1; rw [sR_F, sF_ne _ _ (by decide)]; exact k1
  have hst : ∃ M', (if (20 : Int32) ≤ gF M1 61 then some M1 else some (sF M1 61 (gF M1 61 + 1))) = some M' ∧ Frm [60] [61, 62] M M' ∧ M'.2.1 60 = M1.2.1 60 ∧ M'.1 62 = M1.1 62 ∧ M'.1 61 = nI ((aW A :: aHist A).take 20).length := by
    rw [show gF M1 61 = _ from m61, show (20 : Int32) = nI 20 from rfl]
    by_cases h20 : (aHist A).length = 20
    · rw [if_pos (nI_le (by omega) (by omega))]
      exact ⟨M1, rfl, f1, rfl, rfl, by rw [m61, List.length_take, List.length_cons, h20]; rfl⟩
    · rw [if_neg (nI_ge (by omega) (by omega)), nI_1]
      refine ⟨_, rfl, Frm_trans f1 (Frm_sF (by decide)), rfl, sF_ne _ _ (by decide), ?_⟩
      rw [sF_get, List.length_take, List.length_cons, Nat.min_eq_right (by omega)]
  obtain ⟨M', e1, e2, e3, e4, e5⟩ := hst
  refine ⟨M', ?_, ?_, e2⟩
  · unfold f12_keeps
    rw [hm, hL, Option.bind_some, e1, Option.bind_some]
  · refine ⟨by rw [e2.2.1 1 (by decide)]; exact h1, by rw [e2.1 0 (by decide)]; exact h2, by rw [e2.2.1 7 (by decide)]; exact h3, by rw [e2.2.1 8 (by decide)]; exact h4, fun k hk => by rw [e2.1 9 (by decide)]; exact h5 k hk, by rw [e2.2.1 31 (by decide)]; exact h6, ?_, ?_, ?_, by rw [e2.2.1 56 (by decide)]; exact h10, by rw [e2.1 57 (by decide)]; exact h11, by rw [e2.2.2]; exact h12, ?_⟩
    · unfold RT; rw [e2.2.1 34 (by decide), e2.1 35 (by decide)]; exact h7
    · have hrw := RW_RN.mp h8
      rw [RW_RN, e2.2.1 32 (by decide), e2.2.1 33 (by decide), e2.1 30 (by decide)]
      exact ⟨hrw.1, hrw.2.1, hrw.2.2.1, by intro i o ho; rw [e2.1 36 (by decide), e2.1 37 (by decide), e2.1 38 (by decide), e2.1 39 (by decide), e2.1 40 (by decide)]; exact hrw.2.2.2 i o ho⟩
    · refine ⟨e5, (nw + 1) % 20, by omega, by rw [e4]; exact m62, fun j W hj => ?_⟩
      have hj0 : ((aW A :: aHist A).take 20)[j]? = some W := hj
      have hj20 : j < 20 := by
        have := (List.getElem?_eq_some_iff.mp hj0).1
        rw [List.length_take] at this
        omega
      have hj' : (aW A :: aHist A)[j]? = some W := by rw [← hj0]; exact (List.getElem?_take_of_lt hj20).symm
      rw [e3]
      cases j with
      | zero =>
        simp at hj'
        subst hj'
        refine RN_eq (RW_RN.mp h8).2.2.1 gd (fun q hq => ?_)
        rw [m60, if_pos (by omega), show 10476 * (((nw + 1) % 20 + 20 - 0) % 20) + q - 10476 * ((nw + 1) % 20) = q by omega]
      | succ j =>
        have hj2 : (aHist A)[j]? = some W := by simpa using hj'
        have hWm : W ∈ aHist A := List.mem_of_getElem? hj2
        refine RN_eq (k4 j W hj2) (hgh W hWm).1 (fun q hq => ?_)
        rw [m60, if_neg (by omega), show (((nw + 1) % 20) + 20 - (j + 1)) % 20 = (nw + 20 - j) % 20 by omega]
    · unfold RKw
      rw [e2.1 10 (by decide), e2.1 11 (by decide), e2.1 12 (by decide), e2.1 13 (by decide), e2.1 14 (by decide), e2.1 15 (by decide), e2.1 16 (by decide), e2.1 17 (by decide), e2.1 18 (by decide), e2.1 19 (by decide)]
      exact h13
def aBack (A : St) : Int32 × St := match aHist A with
  | [] => (0, sRf A 5)
  | W :: H => (1, sHi (sWd A W) H)
theorem back_loop {M : MS} {nw : Nat} (h62 : M.1 62 = nI nw) (hn : nw < 20) : L12_back_15 FU 0 M = some (sR M 30 (wr (M.2.1 30) 0 (lst (fun k => M.2.1 60 (10476 * nw + k)) 10476))) := by
  refine cpl0 (src := 60) (s := 10476 * nw) (d := 0) (by decide) (by rw [lst_len, show mLn 60 = 209520 from rfl]; omega) (by rw [lst_len]; decide) (by rw [lst_len, FU_eq]; omega) (lst_seg _ _ _) (fun n i f hi => ?_) (fun n f => ?_)
  · rw [lst_len] at hi
    conv => lhs; unfold L12_back_15
    rw [show gF (sR M 30 f) 62 = nI nw from h62, show (10476 : Int32) = nI 10476 from rfl, if_neg (nI_ge hi (by omega)), nI_mul, nI_add, Nat.zero_add, nI_1]
  · rw [lst_len]
    unfold L12_back_15
    rw [show (10476 : Int32) = nI 10476 from rfl, if_pos (nI_le (Nat.le_refl _) (by omega))]
theorem back_ok {M : MS} {A : St} (h : RS M A) (hg : GA A) : ∃ M', f12_back M = some ((aBack A).1, M') ∧ RS M' (aBack A).2 := by
  have hgh := hg.2.2.2.2.2.2.2.2.1
  have hlen := hg.2.2.2.2.2.2.2.1
  obtain ⟨h1, h2, h3, h4, h5, h6, h7, h8, h9, h10, h11, h12, h13⟩ := id h
  obtain ⟨k1, nw, k2, k3, k4⟩ := h9
  unfold f12_back aBack
  rw [show gF M 61 = _ from k1]
  cases hH : aHist A with
  | nil =>
    rw [if_pos (show nI ([] : List Wd).length = (0 : Int32) from rfl)]
    obtain ⟨M', g1, g2⟩ := isRefused_ok h 5 (by omega)
    exact ⟨M', by rw [show f12_isRefused M (5 : Int32) = _ from g1, bn2_s, bz0, Option.bind_some], g2⟩
  | cons W H =>
    rw [hH, List.length_cons] at hlen
    rw [hH, List.length_cons] at k1
    rw [hH] at k4 hgh
    rw [if_neg (show ¬ nI (W :: H).length = (0 : Int32) from by rw [List.length_cons]; exact nI_ne0 (by omega) (by omega)), back_loop k3 k2, Option.bind_some]
    generalize hM1 : sR M 30 (wr (M.2.1 30) 0 (lst (fun k => M.2.1 60 (10476 * nw + k)) 10476)) = M1
    have m62 : M1.1 62 = nI nw := by subst hM1; exact k3
    have m61 : M1.1 61 = nI (H.length + 1) := by subst hM1; exact k1
    have hm : ((gF M1 62 + (20 : Int32)) - (1 : Int32)) - ((gF M1 62 + (20 : Int32)) - (1 : Int32)) / (20 : Int32) * (20 : Int32) = nI ((nw + 19) % 20) := by
      rw [show gF M1 62 = nI nw from m62, show nI nw + (20 : Int32) = nI (nw + 20) from nI_add nw 20, show nI (nw + 20) - (1 : Int32) = nI (nw + 19) from nI_pred (nw + 19), mod20 (by omega)]
    rw [hm]
    have e61 : gF (sF M1 62 (nI ((nw + 19) % 20))) 61 - (1 : Int32) = nI H.length := by
      rw [show gF (sF M1 62 (nI ((nw + 19) % 20))) 61 = nI (H.length + 1) from by rw [show gF (sF M1 62 (nI ((nw + 19) % 20))) 61 = (sF M1 62 (nI ((nw + 19) % 20))).1 61 from rfl, sF_ne _ _ (by decide)]; exact m61, nI_pred]
    rw [e61]
    have fr : Frm [30] [61, 62] M (sF (sF M1 62 (nI ((nw + 19) % 20))) 61 (nI H.length)) := by
      subst hM1
      exact Frm_trans (Frm_sR (by decide)) (Frm_trans (Frm_sF (by decide)) (Frm_sF (by decide)))
    refine ⟨_, rfl, ?_⟩
    generalize hM' : sF (sF M1 62 (nI ((nw + 19) % 20))) 61 (nI H.length) = M' at fr ⊢
    have hWg := hgh W (by simp)
    have m30 : ∀ j, j < 10476 → M'.2.1 30 j = M.2.1 60 (10476 * nw + j) := fun j hj => by
      have e30 : M'.2.1 30 = M1.2.1 30 := by rw [← hM']; rfl
      rw [e30, ← hM1, sR_get, lst_wr, if_pos (by omega), Nat.sub_zero]
    refine ⟨by rw [fr.2.1 1 (by decide)]; exact h1, by rw [fr.1 0 (by decide)]; exact h2, by rw [fr.2.1 7 (by decide)]; exact h3, by rw [fr.2.1 8 (by decide)]; exact h4, fun k hk => by rw [fr.1 9 (by decide)]; exact h5 k hk, by rw [fr.2.1 31 (by decide)]; exact h6, ?_, ?_, ?_, by rw [fr.2.1 56 (by decide)]; exact h10, by rw [fr.1 57 (by decide)]; exact h11, by rw [fr.2.2]; exact h12, ?_⟩
    · unfold RT; rw [fr.2.1 34 (by decide), fr.1 35 (by decide)]; exact h7
    · have hrw := RW_RN.mp h8
      rw [RW_RN, fr.2.1 32 (by decide), fr.2.1 33 (by decide)]
      refine ⟨hrw.1, hrw.2.1, ?_, ?_⟩
      · have hk := k4 0 W rfl
        refine RN_eq hk hWg.1 (fun j hj => ?_)
        rw [m30 j hj, show (nw + 20 - 0) % 20 = nw by omega]
      · have hp := pre_row hrw.2.2.2 hWg.2.2
        intro i o ho
        rw [fr.1 36 (by decide), fr.1 37 (by decide), fr.1 38 (by decide), fr.1 39 (by decide), fr.1 40 (by decide)]
        exact hp i o ho
    · refine ⟨by subst hM'; exact sF_get _ _ _, (nw + 19) % 20, by omega, ?_, fun j W' hj => ?_⟩
      · subst hM'; rw [sF_ne _ _ (by decide), sF_get]
      · have hj0 : H[j]? = some W' := hj
        have hk := k4 (j + 1) W' hj0
        have hj20 : j < 20 := by
          have := (List.getElem?_eq_some_iff.mp hj0).1
          have hl2 : (H : List Wd).length ≤ 19 := by omega
          have hj3 : j < H.length := this
          omega
        rw [fr.1 60 (by decide), show ((nw + 19) % 20 + 20 - j) % 20 = (nw + 20 - (j + 1)) % 20 by omega]
        exact hk
    · unfold RKw
      rw [fr.1 10 (by decide), fr.1 11 (by decide), fr.1 12 (by decide), fr.1 13 (by decide), fr.1 14 (by decide), fr.1 15 (by decide), fr.1 16 (by decide), fr.1 17 (by decide), fr.1 18 (by decide), fr.1 19 (by decide)]
      exact h13
def itT (ties cnt : Nat) : Nat → Wd → Wd
  | 0, W => W
  | n + 1, W => itT ties cnt n (tickW ties cnt W)
theorem Good_itT {cnt ties tl : Nat} : ∀ (n : Nat) (W : Wd), Good cnt ties tl W → Good cnt ties tl (itT ties cnt n W) := by
  intro n
  induction n with
  | zero => intro W h; exact h
  | succ n ih => intro W h; exact ih _ (Good_tick h)
theorem tick_pre (ties cnt : Nat) (W : Wd) : wRow W <+: wRow (tickW ties cnt W) := by
  have h1 : ∀ n, wRow (itN pStep n W) = wRow W := by
    intro n
    induction n with
    | zero => rfl
    | succ n ih => rw [itN]; exact ih
  have h2 : ∀ (n : Nat) (W : Wd), wRow W <+: wRow (itN (tkStep ties cnt) n W) := by
    intro n
    induction n with
    | zero => intro W; exact List.prefix_refl _
    | succ n ih =>
      intro W
      rw [itN]
      refine List.IsPrefix.trans (ih W) ?_
      unfold tkStep
      split
      · exact List.prefix_append _ _
      · exact List.prefix_refl _
  have b0 : ∀ (e n : Nat) (W : Wd), wRow (brL ties e n W) = wRow W := by
    intro e n
    induction n with
    | zero => intro W; rfl
    | succ n ih =>
      intro W
      rw [brL]
      split
      · rw [ih]; unfold comesW; split <;> rfl
      · rfl
  have h3 : ∀ (n : Nat) (W : Wd), wRow (itN (brStep ties) n W) = wRow W := by
    intro n
    induction n with
    | zero => intro W; rfl
    | succ n ih => intro W; rw [itN]; show wRow (brL ties n _ _) = _; rw [b0, ih]
  show wRow W <+: wRow (itN (brStep ties) cnt (itN (tkStep ties cnt) cnt (itN pStep cnt W)))
  rw [h3]
  have := h2 cnt (itN pStep cnt W)
  rw [h1] at this
  exact this
theorem itT_pre (ties cnt : Nat) : ∀ (n : Nat) (W : Wd), wRow W <+: wRow (itT ties cnt n W) := by
  intro n
  induction n with
  | zero => intro W; exact List.prefix_refl _
  | succ n ih => intro W; exact List.IsPrefix.trans (tick_pre ties cnt W) (ih _)
theorem go_loop {cnt ties tl N : Nat} (hN : N ≤ 99) : ∀ (d n i t : Nat) (W : Wd) (M : MS), i + d = N → RW M cnt ties W → Good cnt ties tl W → M.1 42 = nI t → d < n →
    ∃ M', L12_ticksGo_7 (nI N) n (nI i) M = some M' ∧ RW M' cnt ties (itT ties cnt d W) ∧ M'.1 42 = nI (t + ((wRow (itT ties cnt d W)).length - (wRow W).length)) ∧ FN [20, 21, 22, 23, 24, 29, 36, 37, 38, 39, 40, 41] [25, 26, 27, 28, 42] (fun _ => True) M M' := by
  intro d
  induction d with
  | zero =>
    intro n i t W M hi h hg h42 hn
    obtain ⟨n, rfl⟩ : ∃ j, n = j + 1 := ⟨n - 1, by omega⟩
    unfold L12_ticksGo_7
    rw [if_pos (nI_le (by omega) (by omega))]
    exact ⟨M, rfl, h, by rw [h42]; exact nI_lt_eq (by show t = t + ((wRow W).length - (wRow W).length); omega), FN_refl _ _ _ _⟩
  | succ d ih =>
    intro n i t W M hi h hg h42 hn
    obtain ⟨n, rfl⟩ : ∃ j, n = j + 1 := ⟨n - 1, by omega⟩
    obtain ⟨M1, a1, a2, a3, a4⟩ := tickGoes_ok h hg h42
    obtain ⟨M', b1, b2, b3, b4⟩ := ih n (i + 1) _ (tickW ties cnt W) M1 (by omega) a2 (Good_tick hg) a3 (by omega)
    refine ⟨M', ?_, b2, ?_, FN_trans a4 b4⟩
    · unfold L12_ticksGo_7
      rw [if_neg (nI_ge (by omega) (by omega)), a1, Option.bind_some, nI_1]
      exact b1
    · rw [b3]
      have l1 := (tick_pre ties cnt W).length_le
      have l2 := (itT_pre ties cnt d (tickW ties cnt W)).length_le
      exact nI_lt_eq (by
        show t + ((wRow (tickW ties cnt W)).length - (wRow W).length) + ((wRow (itT ties cnt d (tickW ties cnt W))).length - (wRow (tickW ties cnt W)).length) = t + ((wRow (itT ties cnt d (tickW ties cnt W))).length - (wRow W).length)
        omega)
theorem ticksGo_ok {M : MS} {cnt ties tl n : Nat} {W : Wd} (h : RW M cnt ties W) (hg : Good cnt ties tl W) (hn : n ≤ 99) :
    ∃ M', f12_ticksGo M (nI n) = some M' ∧ RW M' cnt ties (itT ties cnt n W) ∧ M'.1 42 = nI ((wRow (itT ties cnt n W)).length - (wRow W).length) ∧ FN [20, 21, 22, 23, 24, 29, 36, 37, 38, 39, 40, 41] [25, 26, 27, 28, 42] (fun _ => True) M M' := by
  obtain ⟨M', b1, b2, b3, b4⟩ := go_loop (N := n) hn n FU 0 0 W (sF M 42 (0 : Int32)) (by omega) (RW_sF h (by decide) (by decide)) hg (sF_get _ _ _) (by rw [FU_eq]; omega)
  rw [Nat.zero_add] at b3
  refine ⟨M', ?_, b2, b3, FN_trans (FN_sF (by decide)) b4⟩
  unfold f12_ticksGo
  rw [show L12_ticksGo_7 (nI n) FU (0 : Int32) (sF M 42 (0 : Int32)) = _ from b1, Option.bind_some]
