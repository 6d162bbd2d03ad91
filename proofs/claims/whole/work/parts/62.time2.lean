/-! ===== PART II, the reference: quiet, later, ticks ===== -/
def quietL (ties cnt : Nat) : Nat → Nat → Wd → Nat × Wd
  | 0, n, W => (n, W)
  | f + 1, n, W => if wayN cnt W = 0 ∨ 99 ≤ n ∨ 999 ≤ wTk W then (n, W) else quietL ties cnt f (n + 1) (tickW ties cnt W)
theorem quiet_loop {cnt ties tl : Nat} : ∀ (d f n t : Nat) (W : Wd) (M : MS), n + d = 99 → RW M cnt ties W → Good cnt ties tl W → wTk W ≤ 999 → M.1 42 = nI t → d < f →
    ∃ M', L12_quiet_15 f (nI n) M = some (nI (quietL ties cnt (d + 1) n W).1, M') ∧ RW M' cnt ties (quietL ties cnt (d + 1) n W).2 ∧ Good cnt ties tl (quietL ties cnt (d + 1) n W).2 ∧ wRow W <+: wRow (quietL ties cnt (d + 1) n W).2 ∧ (quietL ties cnt (d + 1) n W).1 ≤ 99 ∧ FN [20, 21, 22, 23, 24, 29, 36, 37, 38, 39, 40, 41] [25, 26, 27, 28, 42] (fun _ => True) M M' := by
  intro d
  induction d with
  | zero =>
    intro f n t W M hn h hg htk h42 hf
    obtain ⟨f, rfl⟩ : ∃ j, f = j + 1 := ⟨f - 1, by omega⟩
    have hw := way_le hg
    have e1 : quietL ties cnt (0 + 1) n W = (n, W) := by rw [quietL, if_pos (Or.inr (Or.inl (by omega)))]
    rw [e1]
    refine ⟨M, ?_, h, hg, List.prefix_refl _, by show n ≤ 99; omega, FN_refl _ _ _ _⟩
    unfold L12_quiet_15
    rw [wayMany_ok h hg, Option.bind_some]
    by_cases hz : wayN cnt W = 0
    · rw [hz, if_pos (show nI 0 ≤ (0 : Int32) from by decide)]
    · rw [if_neg (nI_nle (by omega) (by omega)), show (99 : Int32) = nI 99 from rfl, if_pos (nI_le (by omega) (by omega))]
  | succ d ih =>
    intro f n t W M hn h hg htk h42 hf
    obtain ⟨f, rfl⟩ : ∃ j, f = j + 1 := ⟨f - 1, by omega⟩
    have hw := way_le hg
    unfold L12_quiet_15
    rw [wayMany_ok h hg, Option.bind_some, show (99 : Int32) = nI 99 from rfl]
    by_cases hz : wayN cnt W = 0
    · have e1 : quietL ties cnt (d + 1 + 1) n W = (n, W) := by rw [quietL, if_pos (Or.inl hz)]
      rw [e1, hz, if_pos (show nI 0 ≤ (0 : Int32) from by decide)]
      exact ⟨M, rfl, h, hg, List.prefix_refl _, by show n ≤ 99; omega, FN_refl _ _ _ _⟩
    · rw [if_neg (nI_nle (by omega) (by omega)), if_neg (nI_ge (by omega) (by omega)), show ld M 30 (0 : Int32) = some (nI (wTk W)) from by rw [show (0 : Int32) = nI 0 from rfl, ld_n (show 0 < 10476 by omega), h.2.2.1], Option.bind_some, show (999 : Int32) = nI 999 from rfl]
      by_cases ht : 999 ≤ wTk W
      · have e1 : quietL ties cnt (d + 1 + 1) n W = (n, W) := by rw [quietL, if_pos (Or.inr (Or.inr ht))]
        rw [e1, if_pos (nI_le ht (by omega))]
        exact ⟨M, rfl, h, hg, List.prefix_refl _, by show n ≤ 99; omega, FN_refl _ _ _ _⟩
      · have e1 : quietL ties cnt (d + 1 + 1) n W = quietL ties cnt (d + 1) (n + 1) (tickW ties cnt W) := by
          conv => lhs; rw [quietL]
          rw [if_neg (by omega)]
        rw [e1, if_neg (nI_ge (by omega) (by omega))]
        obtain ⟨M3, a1, a2, a3, a4⟩ := tickGoes_ok h hg h42
        obtain ⟨M', b1, b2, b3, b4, b5, b6⟩ := ih f (n + 1) _ (tickW ties cnt W) M3 (by omega) a2 (Good_tick hg) (by show wTk W + 1 ≤ 999; omega) a3 (by omega)
        refine ⟨M', ?_, b2, b3, List.IsPrefix.trans (tick_pre ties cnt W) b4, b5, FN_trans a4 b6⟩
        rw [a1, Option.bind_some, nI_1]
        exact b1
def qQuiet (A : St) : Int32 := if 0 < aCnt A then (if wayN (aCnt A) (quietL (aTies A) (aCnt A) 100 0 (aW A)).2 = 0 then nI (quietL (aTies A) (aCnt A) 100 0 (aW A)).1 else -1) else -1
theorem h42_any (M : MS) : ∃ t : Nat, M.1 42 = nI t := ⟨(M.1 42).toBitVec.toNat, by
  apply Int32.toBitVec_inj.mp
  show _ = BitVec.ofNat 32 _
  simp⟩
theorem quiet_ok {M : MS} {A : St} (h : RS M A) (hg : GA A) : ∃ M', f12_quiet M = some (qQuiet A, M') ∧ RS M' A := by
  have gd := GA_good hg
  unfold f12_quiet qQuiet
  by_cases hc : 0 < aCnt A
  · rw [if_neg (fun hh => (told_iff h).mp hh hc), if_pos hc]
    obtain ⟨g, p1, p2⟩ := aside_ok M
    rw [p1, Option.bind_some]
    have hrw1 : RW (sR M 52 g) (aCnt A) (aTies A) (aW A) := by
      have hrw := RW_RN.mp (RS_RW h)
      rw [RW_RN, sR_ne _ _ (by decide)]
      exact ⟨hrw.1, hrw.2.1, hrw.2.2.1, by intro i o ho; rw [sR_ne _ _ (by decide), sR_ne _ _ (by decide), sR_ne _ _ (by decide), sR_ne _ _ (by decide), sR_ne _ _ (by decide)]; exact hrw.2.2.2 i o ho⟩
    obtain ⟨t, ht⟩ := h42_any (sR M 52 g)
    obtain ⟨M3, q1, q2, q3, q4, q5, q6⟩ := quiet_loop 99 FU 0 t (aW A) (sR M 52 g) (by omega) hrw1 gd hg.2.2.2.2.1 ht (by rw [FU_eq]; omega)
    obtain ⟨g', t1, t2⟩ := takesBack_ok M3
    have hRS := RS_aside (M' := sR M3 30 g') h hg rfl p2 q6 (by simp [scrA]) (by simp [scrF]) q2.2.2.2.2.2.2.1 q4 rfl t2
    refine ⟨sR M3 30 g', ?_, hRS⟩
    rw [show L12_quiet_15 FU (0 : Int32) (sR M 52 g) = _ from q1, bn2_s, wayMany_ok q2 q3, Option.bind_some]
    have hw := way_le q3
    by_cases hz : wayN (aCnt A) (quietL (aTies A) (aCnt A) 100 0 (aW A)).2 = 0
    · rw [if_pos hz, show (quietL (aTies A) (aCnt A) (99 + 1) 0 (aW A)) = quietL (aTies A) (aCnt A) 100 0 (aW A) from rfl, hz, if_pos (show nI 0 = (0 : Int32) from rfl), Option.bind_some, t1, Option.bind_some, if_neg (show ¬ (1 : Int32) = 0 from by decide), Option.bind_some]
    · rw [if_neg hz, if_neg (show ¬ nI (wayN (aCnt A) (quietL (aTies A) (aCnt A) (99 + 1) 0 (aW A)).2) = (0 : Int32) from nI_ne0 (by show 0 < wayN (aCnt A) (quietL (aTies A) (aCnt A) 100 0 (aW A)).2; omega) (by omega)), Option.bind_some, t1, Option.bind_some, if_pos rfl, Option.bind_some]
  · rw [if_pos ((told_iff h).mpr hc), if_neg hc]; exact ⟨M, rfl, h⟩
def qLater (A : St) (n k : Int32) : Int32 := if 0 < aCnt A ∧ (0 ≤ n.toInt ∧ n.toInt ≤ 99) ∧ (wTk (aW A) : Int) + n.toInt ≤ 999 ∧ -1 ≤ k.toInt then askT (srvT (aTold A) (wRow (itT (aTies A) (aCnt A) n.toInt.toNat (aW A)))) k else -1
theorem later_ok {M : MS} {A : St} (h : RS M A) (hg : GA A) (n k : Int32) : ∃ M', f12_later M n k = some (qLater A n k, M') ∧ RS M' A := by
  have gd := GA_good hg
  have htk := hg.2.2.2.2.1
  unfold f12_later qLater
  by_cases hc : 0 < aCnt A
  · rw [if_neg (fun hh => (told_iff h).mp hh hc), isIn_ok, i64, show (0 : Int64).toInt = 0 from by decide, show (99 : Int64).toInt = 99 from by decide, Option.bind_some]
    by_cases hn : 0 ≤ n.toInt ∧ n.toInt ≤ 99
    · have hnn := ofI hn.1
      rw [if_pos hn, if_neg (show ¬ (1 : Int32) = 0 from by decide), show ld M 30 (0 : Int32) = some (nI (wTk (aW A))) from by rw [show (0 : Int32) = nI 0 from rfl, ld_n (show 0 < 10476 by omega), (RS_RW h).2.2.1], Option.bind_some]
      have hb : n.toInt.toNat ≤ 99 := by omega
      have hv : n.toInt = (n.toInt.toNat : Int) := by omega
      generalize n.toInt.toNat = a at *
      rw [hnn, nI_add, show (999 : Int32) = nI 999 from rfl]
      rw [nI_toInt (by omega)]
      by_cases ht : wTk (aW A) + a ≤ 999
      · rw [if_neg (nI_nlt (by omega) (by omega))]
        by_cases hk : -1 ≤ k.toInt
        · rw [if_pos (le_neg1.mpr hk), if_pos (show 0 < aCnt A ∧ (0 ≤ (a : Int) ∧ (a : Int) ≤ 99) ∧ (wTk (aW A) : Int) + (a : Int) ≤ 999 ∧ -1 ≤ k.toInt from ⟨hc, by omega, by omega, hk⟩)]
          obtain ⟨g, p1, p2⟩ := aside_ok M
          rw [p1, Option.bind_some]
          have hrw1 : RW (sR M 52 g) (aCnt A) (aTies A) (aW A) := by
            have hrw := RW_RN.mp (RS_RW h)
            rw [RW_RN, sR_ne _ _ (by decide)]
            exact ⟨hrw.1, hrw.2.1, hrw.2.2.1, by intro i o ho; rw [sR_ne _ _ (by decide), sR_ne _ _ (by decide), sR_ne _ _ (by decide), sR_ne _ _ (by decide), sR_ne _ _ (by decide)]; exact hrw.2.2.2 i o ho⟩
          obtain ⟨M4, b1, b2, b3, b4⟩ := ticksGo_ok hrw1 gd hb
          have gd4 := Good_itT (cnt := aCnt A) (ties := aTies A) a (aW A) gd
          obtain ⟨g1, g2, g3, g4, g5, g6, g7, g8, g9⟩ := id gd4
          have hT4 : RT M4 (aTold A) := by
            have hT := h.2.2.2.2.2.2.1
            unfold RT
            rw [b4.2.1 34 (by decide), b4.1 35 (by decide) (by decide), sR_F, sR_ne _ _ (by decide)]
            exact hT
          obtain ⟨M7, s1, s2, s3, s4, s5, s6⟩ := serverText_ok (n := (wRow (itT (aTies A) (aCnt A) a (aW A))).length) g1 hT4 b2.2.2.2.2.2.2.1 g6 (sum_le gd4) (by omega) (by omega) (Nat.le_refl _)
          rw [List.take_length] at s1 s2 s3 s6
          obtain ⟨g', t1, t2⟩ := takesBack_ok M7
          have f7 : FN [20, 21, 22, 23, 24, 29, 36, 37, 38, 39, 40, 41, 47, 48, 50] [25, 26, 27, 28, 42, 49] (fun _ => True) (sR M 52 g) M7 := FN_trans (FN_mono b4 (by simp) (by simp) (fun _ h => h)) (FN_Frm s5 (by decide) (by simp) (by simp))
          have hR7 : RRow M7 (wRow (itT (aTies A) (aCnt A) a (aW A))) := by
            have hR := b2.2.2.2.2.2.2.1
            intro i o ho
            rw [s5.1 36 (by decide), s5.1 37 (by decide), s5.1 38 (by decide), s5.1 39 (by decide), s5.1 40 (by decide)]
            exact hR i o ho
          have hRS := RS_aside (M' := sR M7 30 g') h hg rfl p2 f7 (by simp [scrA]) (by simp [scrF]) hR7 (itT_pre _ _ a (aW A)) rfl t2
          refine ⟨sR M7 30 g', ?_, hRS⟩
          rw [b1, Option.bind_some, show ld M4 30 (1 : Int32) = some (nI (wRow (itT (aTies A) (aCnt A) a (aW A))).length) from by rw [show (1 : Int32) = nI 1 from rfl, ld_n (show 1 < 10476 by omega), b2.2.2.2.1], Option.bind_some, s1, bn2_s, t1, Option.bind_some]
          rw [ask47 (M := sR M7 30 g') s2 (by rw [sR_ne _ _ (by decide)]; exact s3) s6 hk, Option.bind_some]
        · rw [if_neg (fun hh => hk (le_neg1.mp hh)), if_neg (fun hh => hk hh.2.2.2)]; exact ⟨M, rfl, h⟩
      · rw [if_pos (nI_lt (by omega) (by omega)), if_neg (fun hh => by have := hh.2.2.1; omega)]; exact ⟨M, rfl, h⟩
    · rw [if_neg hn, if_pos rfl, if_neg (fun hh => hn hh.2.1)]; exact ⟨M, rfl, h⟩
  · rw [if_pos ((told_iff h).mpr hc), if_neg (fun hh => hc hh.1)]; exact ⟨M, rfl, h⟩
def aTicks (A : St) (n : Int32) : Int32 × St := if 0 < aCnt A ∧ (1 ≤ n.toInt ∧ n.toInt ≤ 99) ∧ (wTk (aW A) : Int) + n.toInt ≤ 999 then (nI ((wRow (itT (aTies A) (aCnt A) n.toInt.toNat (aW A))).length - (wRow (aW A)).length), sWd (keepA A) (itT (aTies A) (aCnt A) n.toInt.toNat (aW A))) else (-1, sRf A 4)
theorem ticks_ok {M : MS} {A : St} (h : RS M A) (hg : GA A) (n : Int32) : ∃ M', f12_ticks M n = some ((aTicks A n).1, M') ∧ RS M' (aTicks A n).2 := by
  have gd := GA_good hg
  have htk := hg.2.2.2.2.1
  have hrefuse : ∀ P : Prop, [Decidable P] → ¬ P → ∃ M', (bn2 (f12_refuses M (4 : Int32)) fun v1 M2 => some (v1, M2)) = some ((if P then (nI ((wRow (itT (aTies A) (aCnt A) n.toInt.toNat (aW A))).length - (wRow (aW A)).length), sWd (keepA A) (itT (aTies A) (aCnt A) n.toInt.toNat (aW A))) else ((-1 : Int32), sRf A 4)).1, M') ∧ RS M' (if P then (nI ((wRow (itT (aTies A) (aCnt A) n.toInt.toNat (aW A))).length - (wRow (aW A)).length), sWd (keepA A) (itT (aTies A) (aCnt A) n.toInt.toNat (aW A))) else ((-1 : Int32), sRf A 4)).2 := by
    intro P _ hP
    obtain ⟨M', g1, g2⟩ := refuses_ok h 4 (by omega)
    rw [if_neg hP]
    exact ⟨M', by rw [show f12_refuses M (4 : Int32) = _ from g1, bn2_s], g2⟩
  unfold f12_ticks aTicks
  by_cases hc : 0 < aCnt A
  · rw [if_neg (fun hh => (told_iff h).mp hh hc), isIn_ok, i64, show (1 : Int64).toInt = 1 from by decide, show (99 : Int64).toInt = 99 from by decide, Option.bind_some]
    by_cases hn : 1 ≤ n.toInt ∧ n.toInt ≤ 99
    · have hnn := ofI (show 0 ≤ n.toInt by omega)
      rw [if_pos hn, if_neg (show ¬ (1 : Int32) = 0 from by decide), show ld M 30 (0 : Int32) = some (nI (wTk (aW A))) from by rw [show (0 : Int32) = nI 0 from rfl, ld_n (show 0 < 10476 by omega), (RS_RW h).2.2.1], Option.bind_some]
      have hb : n.toInt.toNat ≤ 99 := by omega
      by_cases ht : (wTk (aW A) : Int) + n.toInt ≤ 999
      · have hle : nI (wTk (aW A)) + n ≤ (999 : Int32) := by
          conv => lhs; rw [hnn]
          rw [nI_add, show (999 : Int32) = nI 999 from rfl]
          exact nI_le (by omega) (by omega)
        rw [if_pos hle, if_pos (show 0 < aCnt A ∧ (1 ≤ n.toInt ∧ n.toInt ≤ 99) ∧ (wTk (aW A) : Int) + n.toInt ≤ 999 from ⟨hc, hn, ht⟩)]
        obtain ⟨M7, k1, k2, k3⟩ := keeps_ok h hg
        obtain ⟨M8, b1, b2, b3, b4⟩ := ticksGo_ok (n := n.toInt.toNat) (RS_RW k2) gd hb
        refine ⟨M8, ?_, ?_⟩
        · rw [← hnn] at b1
          rw [k1, Option.bind_some, b1, Option.bind_some, show gF M8 42 = _ from b3]
          rfl
        · refine RS_world (tl := 0) k2 (fun k hk hk2 hk3 => b4.1 k (fun hm => hk ?_) hk3) (fun k hk => b4.2.1 k (fun hm => hk ?_)) b4.2.2.1 b2
          · simp only [List.mem_cons, List.not_mem_nil, or_false] at hm
            unfold scrA
            omega
          · simp only [List.mem_cons, List.not_mem_nil, or_false] at hm
            unfold scrF
            omega
      · have hnle : ¬ nI (wTk (aW A)) + n ≤ (999 : Int32) := by
          conv => rw [hnn]
          rw [nI_add, show (999 : Int32) = nI 999 from rfl]
          exact nI_ge (by omega) (by omega)
        rw [if_neg hnle]
        exact hrefuse _ (fun hh => ht hh.2.2)
    · rw [if_neg hn, if_pos rfl]
      exact hrefuse _ (fun hh => hn hh.2.1)
  · rw [if_pos ((told_iff h).mpr hc)]
    exact hrefuse _ (fun hh => hc hh.1)
