/-! ===== PART II, the reference: seed, chance ===== -/
def sSd (A : St) (s : Nat) : St := (A.1, A.2.1, aW A, aHist A, aSeen A, s)
theorem sSd_W (A : St) (s : Nat) : aW (sSd A s) = aW A := rfl
theorem sSd_C (A : St) (s : Nat) : aCnt (sSd A s) = aCnt A := rfl
theorem sWd_C (A : St) (W : Wd) : aCnt (sWd A W) = aCnt A := rfl
theorem sSd_T (A : St) (s : Nat) : aTies (sSd A s) = aTies A := rfl
theorem RS_seed {M : MS} {A : St} {s : Nat} (h : RS M A) : RS (sL M (lN s)) (sSd A s) := by
  obtain ⟨h1, h2, h3, h4, h5, h6, h7, h8, h9, h10, h11, h12, h13⟩ := h
  exact ⟨h1, h2, h3, h4, h5, h6, h7, h8, h9, h10, h11, rfl, h13⟩
def aSeedA (A : St) (s : Int32) : Int32 × St := if 0 ≤ s.toInt then (1, sSd A s.toInt.toNat) else (0, sRf A 6)
theorem seed_ok {M : MS} {A : St} (h : RS M A) (s : Int32) : ∃ M', f12_seed M s = some ((aSeedA A s).1, M') ∧ RS M' (aSeedA A s).2 := by
  unfold f12_seed aSeedA
  by_cases hs : 0 ≤ s.toInt
  · have hn := ofI hs
    have h31 : s.toInt < 2 ^ 31 := Int32.toInt_lt s
    rw [if_pos (ge0.mpr hs), if_pos hs]
    refine ⟨sL M (lN s.toInt.toNat), ?_, RS_seed h⟩
    rw [show s.toInt64 = lN s.toInt.toNat from by
      conv => lhs; rw [hn]
      exact nI_l (by omega)]
  · rw [if_neg (fun hh => hs (ge0.mp hh))]
    exact refuF h (k := 6) (by omega) _ _ hs
def seedN (s : Nat) : Nat := (1103515245 * s + 12345) % 2147483648
theorem seedN_lt (s : Nat) : seedN s < 2 ^ 31 := Nat.mod_lt _ (by decide)
theorem draw_ok {M : MS} {A : St} {k : Nat} (h : RS M A) (hg : GA A) (hk : 0 < k) (hk2 : k < 1000) : f12_drawOf M (nI k) = some (nI (seedN (aSeed A) / 64 % k), sL M (lN (seedN (aSeed A)))) := by
  have hs := hg.2.2.2.2.2.2.2.2.2.2.2.2
  have h12 : M.2.2 = lN (aSeed A) := h.2.2.2.2.2.2.2.2.2.2.2.1
  have hs2 := seedN_lt (aSeed A)
  have e1 : ((1103515245 : Int64) * M.2.2 + (12345 : Int64)) - ((1103515245 : Int64) * M.2.2 + (12345 : Int64)) / (2147483648 : Int64) * (2147483648 : Int64) = lN (seedN (aSeed A)) := by
    rw [h12, show (1103515245 : Int64) = lN 1103515245 from rfl, show (12345 : Int64) = lN 12345 from rfl, show (2147483648 : Int64) = lN 2147483648 from rfl, lN_mul, lN_add, pk_lRem (by omega) (by omega) (by omega)]
    rfl
  unfold f12_drawOf
  rw [e1, nI_l (by omega), if_neg (show ¬ lN k = (0 : Int64) from fun hh => by
    have h2 : lN k = lN 0 := hh
    rw [lN_eq (by omega) (by omega)] at h2
    omega)]
  have e2 : (sL M (lN (seedN (aSeed A)))).2.2 = lN (seedN (aSeed A)) := rfl
  rw [e2, show (64 : Int64) = lN 64 from rfl, pk_lDiv (by omega) (by omega) (by omega), pk_lRem (by omega) (by omega) (by omega), lN_i]
theorem GA_seed {A : St} {s : Nat} (hg : GA A) (hs : s < 2 ^ 31) : GA (sSd A s) := by
  obtain ⟨h1, h2, h3, h4, h5, h6, h7, h8, h9, h10, h11, h12, h13⟩ := hg
  exact ⟨h1, h2, h3, h4, h5, h6, h7, h8, h9, h10, h11, h12, hs⟩
theorem GA_world {A : St} {W : Wd} (hg : GA A) (hc : 0 < aCnt A) (hG : Good (aCnt A) (aTies A) (aTold A).length W) (ht : wTk W ≤ 999) (hp : wRow (aW A) <+: wRow W) : GA (sWd A W) := by
  obtain ⟨h1, h2, h3, h4, h5, h6, h7, h8, h9, h10, h11, h12, h13⟩ := hg
  refine ⟨h1, h2, hG, h4, ht, h6, fun h => by have hh : aCnt A = 0 := h; omega, h8, fun W' hW' => ?_, h10, h11, h12, h13⟩
  obtain ⟨a1, a2, a3⟩ := h9 W' hW'
  exact ⟨a1, a2, List.IsPrefix.trans a3 hp⟩
/-- an edit without an act -/
def plE (A : St) (i : Nat) (op : List Int32) : Bool × St := if canE A op = true then (true, sWd A (edW A i (wE (aW A) i) op 0)) else (false, A)
theorem plain_ok {M : MS} {A : St} {i : Nat} {op : List Int32} (h : RS M A) (hg : GA A) (hi : i < aCnt A) (hr : Row M 20 25 op) (hA : okO op) (hl : op.length ≤ 700) (ho : oldL op = (eTxt (wE (aW A) i)).length) :
    ∃ M', ((f12_canEdit M).bind fun v30 => if v30 = 0 then some ((0 : Int32), M) else ((f12_edits M (nI i) (0 : Int32)).bind fun M31 => some ((1 : Int32), M31))) = some (bI (plE A i op).1, M') ∧ RS M' (plE A i op).2 ∧ GA (plE A i op).2 := by
  have gd := GA_good hg
  obtain ⟨g1, g2, g3, g4, g5, g6, g7, g8, g9⟩ := id gd
  obtain ⟨w1, w2, w3, w4, w5, w6, w7, w8⟩ := RS_RW h
  unfold plE
  rw [canEdit_ok hr hl w5 w6 (by omega) (by omega), Option.bind_some]
  by_cases hc : canE A op = true
  · have hc' : (!(idleB op) && decide (wEd (aW A) < 100) && decide (wPu (aW A) + putsL op ≤ 200)) = true := hc
    rw [if_pos hc', if_neg (show ¬ (1 : Int32) = 0 from by decide), if_pos hc]
    obtain ⟨e1, e2, e3, e4, e5, e6, e7, e8, e9, e10, -⟩ := g9 i hi
    have hG0 := Good_ed0 hg hi hA ho hc
    obtain ⟨M3, a1, a2, a3, a4⟩ := edits_all (A := A) (kind := 0) (E0 := wE (aW A) i) (f0 := M.2.1 30) h hg hi (by omega) hr hA ho hl (sDonUnd _) e9 e10 (Good_Bd gd hi) hG0 (fun _ _ _ => rfl) (w8 i hi)
    rw [sR_self] at a1
    refine ⟨M3, by rw [show f12_edits M (nI i) (0 : Int32) = some M3 from a1, Option.bind_some]; rfl, a2, ?_⟩
    exact GA_world hg (by omega) hG0 hg.2.2.2.2.1 (List.prefix_refl _)
  · have hc' : ¬ (!(idleB op) && decide (wEd (aW A) < 100) && decide (wPu (aW A) + putsL op ≤ 200)) = true := hc
    rw [if_neg hc', if_pos rfl, if_neg hc]
    exact ⟨M, rfl, h, hg⟩
/-- one change by the seed -/
def drawn (A : St) : Bool × St :=
  let A1 := sSd A (seedN (aSeed A))
  let way := seedN (aSeed A) / 64 % 4
  if way = 3 then (false, if wTk (aW A) < 999 then sWd A1 (tickW (aTies A) (aCnt A) (aW A)) else A1)
  else
    let A2 := sSd A1 (seedN (aSeed A1))
    let i := seedN (aSeed A1) / 64 % aCnt A
    let len := (eTxt (wE (aW A) i)).length
    if way = 2 then (if len = 0 then (false, A2) else plE (sSd A2 (seedN (aSeed A2))) i (layO len (seedN (aSeed A2) / 64 % len) 0 1))
    else
      let A3 := sSd A2 (seedN (aSeed A2))
      plE (sSd A3 (seedN (aSeed A3))) i (layO len (seedN (aSeed A2) / 64 % (len + 1)) (nI (seedN (aSeed A3) / 64 % 26 + 1)) 0)
theorem RS_tick {M : MS} {A : St} (h : RS M A) (hg : GA A) (hc : 0 < aCnt A) (ht : wTk (aW A) < 999) : ∃ M', f12_tickGoes M = some M' ∧ RS M' (sWd A (tickW (aTies A) (aCnt A) (aW A))) ∧ GA (sWd A (tickW (aTies A) (aCnt A) (aW A))) := by
  obtain ⟨t, h42⟩ := h42_any M
  obtain ⟨M', a1, a2, a3, a4⟩ := tickGoes_ok (RS_RW h) (GA_good hg) h42
  refine ⟨M', a1, ?_, GA_world hg hc (Good_tick (GA_good hg)) (by show wTk (aW A) + 1 ≤ 999; omega) (tick_pre _ _ _)⟩
  refine RS_world (tl := 0) h (fun k hk hk2 hk3 => a4.1 k (fun hm => hk ?_) hk3) (fun k hk => a4.2.1 k (fun hm => hk ?_)) a4.2.2.1 a2
  · simp only [List.mem_cons, List.not_mem_nil, or_false] at hm
    unfold scrA
    omega
  · simp only [List.mem_cons, List.not_mem_nil, or_false] at hm
    unfold scrF
    omega
theorem drawn_ok {M : MS} {A : St} (h : RS M A) (hg : GA A) (hc : 0 < aCnt A) : ∃ M', f12_isDrawn M = some (bI (drawn A).1, M') ∧ RS M' (drawn A).2 ∧ GA (drawn A).2 := by
  have hc4 := (GA_good hg).1
  have hs1 := seedN_lt (aSeed A)
  have r1 := RS_seed (s := seedN (aSeed A)) h
  have g1 := GA_seed hg hs1
  have e0 : f12_drawOf M (4 : Int32) = some (nI (seedN (aSeed A) / 64 % 4), sL M (lN (seedN (aSeed A)))) := draw_ok (k := 4) h hg (by omega) (by omega)
  have hway : seedN (aSeed A) / 64 % 4 < 4 := Nat.mod_lt _ (by omega)
  unfold f12_isDrawn drawn
  rw [e0, bn2_s]
  generalize hA1 : sSd A (seedN (aSeed A)) = A1 at *
  generalize hM1 : sL M (lN (seedN (aSeed A))) = M1 at *
  have hW1 : aW A1 = aW A := by rw [← hA1]; exact sSd_W _ _
  have hC1 : aCnt A1 = aCnt A := by rw [← hA1]; exact sSd_C _ _
  have hT1 : aTies A1 = aTies A := by rw [← hA1]; exact sSd_T _ _
  generalize seedN (aSeed A) / 64 % 4 = way at *
  dsimp only
  by_cases w3 : way = 3
  · subst w3
    rw [if_pos (show nI 3 = (3 : Int32) from rfl), if_pos rfl, show ld M1 30 (0 : Int32) = some (nI (wTk (aW A))) from by rw [show (0 : Int32) = nI 0 from rfl, ld_n (show 0 < 10476 by omega), (RS_RW r1).2.2.1, hW1], Option.bind_some, show (999 : Int32) = nI 999 from rfl]
    have htk := hg.2.2.2.2.1
    by_cases ht : wTk (aW A) < 999
    · obtain ⟨M', a1, a2, a3⟩ := RS_tick r1 g1 (by omega) (by rw [hW1]; exact ht)
      rw [hW1, hC1, hT1] at a2 a3
      rw [if_neg (nI_ge ht (by omega)), if_pos ht, a1]
      exact ⟨M', rfl, a2, a3⟩
    · rw [if_pos (nI_le (by omega) (by omega)), if_neg ht]
      exact ⟨M1, rfl, r1, g1⟩
  · rw [if_neg (show ¬ nI way = (3 : Int32) from by rw [show (3 : Int32) = nI 3 from rfl, nI_eq (by omega) (by omega)]; exact w3), if_neg w3]
    have hs2 := seedN_lt (aSeed A1)
    have r2 := RS_seed (s := seedN (aSeed A1)) r1
    have g2 := GA_seed g1 hs2
    have e1 := draw_ok (k := aCnt A) r1 g1 hc (by omega)
    rw [show gF M1 32 = nI (aCnt A) from by rw [show gF M1 32 = M1.1 32 from rfl, (RS_RW r1).1, hC1], e1, bn2_s]
    have hi : seedN (aSeed A1) / 64 % aCnt A < aCnt A := Nat.mod_lt _ hc
    generalize hA2 : sSd A1 (seedN (aSeed A1)) = A2 at *
    generalize hM2 : sL M1 (lN (seedN (aSeed A1))) = M2 at *
    have hW2 : aW A2 = aW A := by rw [← hA2]; exact (sSd_W _ _).trans hW1
    have hC2 : aCnt A2 = aCnt A := by rw [← hA2]; exact (sSd_C _ _).trans hC1
    generalize seedN (aSeed A1) / 64 % aCnt A = i at *
    have hits : f12_its M2 (nI i) (21 : Int32) = some (nI (eTxt (wE (aW A) i)).length) := by
      rw [show (21 : Int32) = nI 21 from rfl, its_ok (by omega), ((RS_RW r2).2.2.2.2.2.2.2 i (by omega)).2.1.1, hW2]
    have hlen := (Good_Bd (GA_good hg) hi).1
    have hs3 := seedN_lt (aSeed A2)
    have r3 := RS_seed (s := seedN (aSeed A2)) r2
    have g3 := GA_seed g2 hs3
    have hW3 : aW (sSd A2 (seedN (aSeed A2))) = aW A := (sSd_W _ _).trans hW2
    have hC3 : aCnt (sSd A2 (seedN (aSeed A2))) = aCnt A := (sSd_C _ _).trans hC2
    rw [hits, Option.bind_some]
    by_cases w2 : way = 2
    · subst w2
      rw [if_pos (show nI 2 = (2 : Int32) from rfl), if_pos rfl]
      by_cases hz : (eTxt (wE (aW A) i)).length = 0
      · rw [hz, if_pos (show nI 0 = (0 : Int32) from rfl), if_pos rfl]
        exact ⟨M2, rfl, r2, g2⟩
      · rw [if_neg (nI_ne0 (by omega) (by omega)), if_neg hz, Option.bind_some, if_pos (show nI 2 = (2 : Int32) from rfl), Option.bind_some, show nI (eTxt (wE (aW A) i)).length + (0 : Int32) = nI (eTxt (wE (aW A) i)).length from by rw [Int32.add_zero], draw_ok (k := (eTxt (wE (aW A) i)).length) r2 g2 (by omega) (by omega), bn2_s, if_pos (show nI 2 = (2 : Int32) from rfl)]
        have hpl : seedN (aSeed A2) / 64 % (eTxt (wE (aW A) i)).length < (eTxt (wE (aW A) i)).length := Nat.mod_lt _ (by omega)
        obtain ⟨M9, l1, l2, l3⟩ := laysA_ok (letter := 0) (kept := seedN (aSeed A2) / 64 % (eTxt (wE (aW A) i)).length) (cut := 1) r3 g3 (by rw [hC3]; exact hi) (by rw [hW3]; omega)
        obtain ⟨z1, z2, z3⟩ := lay_cnt (len := (eTxt (wE (aW A) i)).length) (kept := seedN (aSeed A2) / 64 % (eTxt (wE (aW A) i)).length) (cut := 1) (letter := 0) (by omega) (Or.inl (by decide))
        rw [hW3] at l2
        obtain ⟨M', d1, d2, d3⟩ := plain_ok (RS_frm r3 l3 (by simp [scrA]) (by simp [scrF])) g3 (by rw [hC3]; exact hi) l2 z1 (by omega) (by rw [hW3]; exact z2)
        refine ⟨M', ?_, d2, d3⟩
        rw [show f12_laysA (sL M2 (lN (seedN (aSeed A2)))) (nI i) (nI (seedN (aSeed A2) / 64 % (eTxt (wE (aW A) i)).length)) (0 : Int32) (1 : Int32) = some M9 from l1, Option.bind_some, Option.bind_some]
        exact d1
    · rw [if_neg (show ¬ nI way = (2 : Int32) from by rw [show (2 : Int32) = nI 2 from rfl, nI_eq (by omega) (by omega)]; exact w2), if_neg w2, if_neg (show ¬ nI way = (2 : Int32) from by rw [show (2 : Int32) = nI 2 from rfl, nI_eq (by omega) (by omega)]; exact w2), Option.bind_some, Option.bind_some, nI_1, draw_ok (k := (eTxt (wE (aW A) i)).length + 1) r2 g2 (by omega) (by omega), bn2_s, if_neg (show ¬ nI way = (2 : Int32) from by rw [show (2 : Int32) = nI 2 from rfl, nI_eq (by omega) (by omega)]; exact w2)]
      have hpl : seedN (aSeed A2) / 64 % ((eTxt (wE (aW A) i)).length + 1) < (eTxt (wE (aW A) i)).length + 1 := Nat.mod_lt _ (by omega)
      generalize hA3 : sSd A2 (seedN (aSeed A2)) = A3 at *
      generalize hM3 : sL M2 (lN (seedN (aSeed A2))) = M3 at *
      have hs4 := seedN_lt (aSeed A3)
      have r4 := RS_seed (s := seedN (aSeed A3)) r3
      have g4 := GA_seed g3 hs4
      have hW4 : aW (sSd A3 (seedN (aSeed A3))) = aW A := (sSd_W _ _).trans hW3
      have hC4 : aCnt (sSd A3 (seedN (aSeed A3))) = aCnt A := (sSd_C _ _).trans hC3
      have hlt : seedN (aSeed A3) / 64 % 26 < 26 := Nat.mod_lt _ (by omega)
      have e3 : f12_drawOf M3 (26 : Int32) = some (nI (seedN (aSeed A3) / 64 % 26), sL M3 (lN (seedN (aSeed A3)))) := draw_ok (k := 26) r3 g3 (by omega) (by omega)
      obtain ⟨M9, l1, l2, l3⟩ := laysA_ok (letter := nI (seedN (aSeed A3) / 64 % 26 + 1)) (kept := seedN (aSeed A2) / 64 % ((eTxt (wE (aW A) i)).length + 1)) (cut := 0) r4 g4 (by rw [hC4]; exact hi) (by rw [hW4]; omega)
      obtain ⟨z1, z2, z3⟩ := lay_cnt (len := (eTxt (wE (aW A) i)).length) (kept := seedN (aSeed A2) / 64 % ((eTxt (wE (aW A) i)).length + 1)) (cut := 0) (letter := nI (seedN (aSeed A3) / 64 % 26 + 1)) (by omega) (Or.inr ⟨seedN (aSeed A3) / 64 % 26 + 1, by omega, by omega, rfl⟩)
      rw [hW4] at l2
      obtain ⟨M', d1, d2, d3⟩ := plain_ok (RS_frm r4 l3 (by simp [scrA]) (by simp [scrF])) g4 (by rw [hC4]; exact hi) l2 z1 (by omega) (by rw [hW4]; exact z2)
      refine ⟨M', ?_, d2, d3⟩
      rw [e3, bn2_s, nI_1, show f12_laysA (sL M3 (lN (seedN (aSeed A3)))) (nI i) (nI (seedN (aSeed A2) / 64 % ((eTxt (wE (aW A) i)).length + 1))) (nI (seedN (aSeed A3) / 64 % 26 + 1)) (0 : Int32) = some M9 from l1, Option.bind_some, Option.bind_some]
      exact d1
def chL : Nat → St → Nat × St
  | 0, A => (0, A)
  | n + 1, A => ((if (drawn A).1 then 1 else 0) + (chL n (drawn A).2).1, (chL n (drawn A).2).2)
theorem plE_cnt (A : St) (i : Nat) (op : List Int32) : aCnt (plE A i op).2 = aCnt A := by unfold plE; split <;> rfl
theorem drawn_cnt (A : St) : aCnt (drawn A).2 = aCnt A := by
  unfold drawn
  dsimp only
  split
  · dsimp only
    split
    · exact (sWd_C _ _).trans (sSd_C _ _)
    · exact sSd_C _ _
  · split
    · split
      · exact (sSd_C _ _).trans (sSd_C _ _)
      · rw [plE_cnt]; exact (sSd_C _ _).trans ((sSd_C _ _).trans (sSd_C _ _))
    · rw [plE_cnt]; exact (sSd_C _ _).trans ((sSd_C _ _).trans ((sSd_C _ _).trans (sSd_C _ _)))
theorem chance_loop {N : Nat} (hN : N ≤ 40) : ∀ (d n i c : Nat) (A : St) (M : MS), i + d = N → RS M A → GA A → 0 < aCnt A → d < n →
    ∃ M', L12_chance_33 (nI N) n (nI c) (nI i) M = some (nI (c + (chL d A).1), M') ∧ RS M' (chL d A).2 ∧ GA (chL d A).2 := by
  intro d
  induction d with
  | zero =>
    intro n i c A M hi h hg hc hn
    obtain ⟨n, rfl⟩ : ∃ j, n = j + 1 := ⟨n - 1, by omega⟩
    unfold L12_chance_33
    rw [if_pos (nI_le (by omega) (by omega))]
    exact ⟨M, rfl, h, hg⟩
  | succ d ih =>
    intro n i c A M hi h hg hc hn
    obtain ⟨n, rfl⟩ : ∃ j, n = j + 1 := ⟨n - 1, by omega⟩
    obtain ⟨M2, a1, a2, a3⟩ := drawn_ok h hg hc
    have hst : (if bI (drawn A).1 = 0 then some (nI c) else some (nI c + 1)) = some (nI (c + (if (drawn A).1 then 1 else 0))) := by
      cases (drawn A).1 with
      | false => rfl
      | true => rw [if_neg (show ¬ bI true = (0 : Int32) from by decide), nI_1]; rfl
    obtain ⟨M', b1, b2, b3⟩ := ih n (i + 1) (c + (if (drawn A).1 then 1 else 0)) (drawn A).2 M2 (by omega) a2 a3 (by rw [drawn_cnt]; exact hc) (by omega)
    refine ⟨M', ?_, b2, b3⟩
    unfold L12_chance_33
    rw [if_neg (nI_ge (by omega) (by omega)), a1, bn2_s, hst, Option.bind_some, nI_1, b1, chL, Nat.add_assoc]
def aChance (A : St) (n : Int32) : Int32 × St := if 0 < aCnt A ∧ 1 ≤ n.toInt ∧ n.toInt ≤ 40 then (nI (chL n.toInt.toNat (keepA A)).1, (chL n.toInt.toNat (keepA A)).2) else (-1, sRf A 4)
theorem chance_ok {M : MS} {A : St} (h : RS M A) (hg : GA A) (n : Int32) : ∃ M', f12_chance M n = some ((aChance A n).1, M') ∧ RS M' (aChance A n).2 := by
  unfold f12_chance aChance
  by_cases hc : 0 < aCnt A
  · rw [if_neg (fun hh => (told_iff h).mp hh hc), isIn_ok, i64, show (1 : Int64).toInt = 1 from by decide, show (40 : Int64).toInt = 40 from by decide, Option.bind_some]
    by_cases hn : 1 ≤ n.toInt ∧ n.toInt ≤ 40
    · have hnn := ofI (show 0 ≤ n.toInt by omega)
      rw [if_pos hn, if_neg (show ¬ (1 : Int32) = 0 from by decide), if_pos (show 0 < aCnt A ∧ 1 ≤ n.toInt ∧ n.toInt ≤ 40 from ⟨hc, hn⟩)]
      obtain ⟨M4, k1, k2, k3⟩ := keeps_ok h hg
      obtain ⟨M', b1, b2, b3⟩ := chance_loop (N := n.toInt.toNat) (by omega) n.toInt.toNat FU 0 0 (keepA A) M4 (by omega) k2 (GA_keep0 hg hc) hc (by rw [FU_eq]; omega)
      rw [← hnn, Nat.zero_add] at b1
      exact ⟨M', by rw [k1, Option.bind_some, show L12_chance_33 n FU (0 : Int32) (0 : Int32) M4 = _ from b1, bn2_s], b2⟩
    · rw [if_neg hn, if_pos rfl]; exact refu h (k := 4) (by omega) _ _ (fun hx => hn hx.2)
  · rw [if_pos ((told_iff h).mpr hc)]; exact refu h (k := 4) (by omega) _ _ (fun hx => hc hx.1)
