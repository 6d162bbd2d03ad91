/-! ===== PART II, the reference: both ways over a session ===== -/
theorem laid_loop {T : List Int32} {cnt : Nat} {told : List Int32} (hc : 2 ≤ cnt) (hc4 : cnt ≤ 4) (hl : told.length ≤ 40) (hto : ∀ v ∈ told, okP v) : ∀ (d n k : Nat) (p q : Pz) (M : MS) (ties : Nat) (W : Wd), RQ M T q → free q (pAt p) → free p (pAt p) → pBd (pAll T cnt d k p).2 = 0 → k + d = 62 → k ≤ 60 → d < n → M.1 43 = nI cnt → RW M cnt ties W → FrW cnt told W → ties ≤ 2 →
    ∃ M' q', L12_goesOver_15 1 n M = some M' ∧ (RQ M' T q' ∧ q'.2.2 = (0, none)) ∧ RW M' cnt ((pAll T cnt d k p).1.foldl laidS (ties, W)).1 ((pAll T cnt d k p).1.foldl laidS (ties, W)).2 ∧ FrW cnt told ((pAll T cnt d k p).1.foldl laidS (ties, W)).2 ∧ ((pAll T cnt d k p).1.foldl laidS (ties, W)).1 ≤ 2 ∧ FN [] [2, 4, 5, 6, 33] (fun _ => True) M M' := by
  intro d
  induction d with
  | zero => intro n k p q M ties W h hq hp ho hk hk1 hn; omega
  | succ d ih =>
    intro n k p q M ties W h hq hp ho hk hk1 hn h43 hW hF ht
    obtain ⟨n, rfl⟩ : ∃ j, n = j + 1 := ⟨n - 1, by omega⟩
    have hg : Good cnt ties told.length W := FrW_good hF hc4 ht hl hto
    obtain ⟨M2, l1, l2, l3⟩ := RQ_look h
    rw [hq.1] at l1 l2
    have fT : ∀ {X Y : MS}, Frm [] [2, 4, 5, 6] X Y → FN [] [2, 4, 5, 6, 33] (fun _ => True) X Y := fun hx => FN_Frm hx List.not_mem_nil (by simp) (by simp)
    unfold L12_goesOver_15
    rw [l1, bn2_s]
    by_cases hne : byteAt T (lkP T (pAt p)) = -1
    · rw [if_pos hne]
      have e : (pAll T cnt (d + 1) k p).1 = [] := by rw [pAll, if_pos (free_bd hp), if_pos hne]
      rw [e]
      exact ⟨M2, _, rfl, ⟨l2, hq.2.1⟩, RW_read hW l3, hF, ht, fT l3⟩
    · rw [if_neg hne, if_neg (show ¬ (1 : Int32) = 0 from by decide)]
      obtain ⟨b, c, hB, hcc, hK, hbd, hc59, hns, hle, hA, hfr, hk60⟩ := over_step hp ho hne
      have hf2 := free_lk (T := T) hq
      have hw2 := RW_read hW l3
      obtain ⟨M5, q', a1, a2, a3, a4, a5, a6, a7⟩ := isLaid_ok (W := W) (ties := ties) (tl := told.length) l2 hf2 (by rw [l3.2.1 43 (by decide)]; exact h43) (by omega) hw2 hg (by rw [kind_lk]; exact hK) (by rw [kind_lk, rdr_lk, ← hB]; exact hbd)
      rw [kind_lk, rdr_lk, ← hB, lk_lk] at a5
      rw [kind_lk, rdr_lk, ← hB] at a6
      have hlb := lk_ge T (pAt b.2)
      have hqle : pAt q' ≤ c := by
        rcases a5 with hh | hh
        · omega
        · rw [hh]; omega
      have hqns : ns T (pAt q') c := by
        rcases a5 with hh | hh
        · rw [hh]; exact hns
        · rw [hh, hcc]; exact ns_lk _ _
      obtain ⟨M7, s1, s2, s3, s4⟩ := over_skip (c1 := 1) a2 hc59 a3 a4 hqle hqns
      rw [a1, Option.bind_some, Option.bind_some, s1, Option.bind_some]
      rw [hA] at ho
      have hF' : FrW cnt told (laidS (ties, W) b.1).2 ∧ (laidS (ties, W) b.1).1 ≤ 2 := by
        have hok : pBd (restK T cnt (kindAt T (pAt p)) (rdr T (kwL (11 + kindAt T (pAt p))) (pAt p))).2 = 0 := by rw [← hB]; exact hbd
        rw [hB]
        obtain ⟨-, z1, z2⟩ := kind_is hK
        rcases (show kindAt T (pAt p) = 1 ∨ kindAt T (pAt p) = 2 ∨ kindAt T (pAt p) = 3 ∨ kindAt T (pAt p) = 4 ∨ kindAt T (pAt p) = 5 ∨ kindAt T (pAt p) = 6 ∨ kindAt T (pAt p) = 7 ∨ kindAt T (pAt p) = 8 by omega) with hh | hh | hh | hh | hh | hh | hh | hh
        · rw [hh] at hok ⊢
          exact ⟨FrW_laid hF (num_in (show pBd (pNum T 0 9 (pNum T 0 (cnt - 1) (rdr T (kwL (11 + 1)) (pAt p))).2).2 = 0 from hok)).2, ht⟩
        · rw [hh] at hok ⊢
          exact ⟨hF, (num_in (show pBd (pNum T 0 2 (rdr T (kwL (11 + 2)) (pAt p))).2 = 0 from hok)).2⟩
        · rw [hh]; exact ⟨hF, ht⟩
        · rw [hh]; exact ⟨hF, ht⟩
        · rw [hh]; exact ⟨hF, ht⟩
        · rw [hh]; exact ⟨hF, ht⟩
        · rw [hh]; exact ⟨hF, ht⟩
        · rw [hh]; exact ⟨hF, ht⟩
      obtain ⟨M', q'', i1, i2, i3, i4, i5, i6⟩ := ih n (k + 1) (c + 1, b.2.2) (c + 1, q'.2) (sF M7 2 ((gF M7 2) + 1)) (laidS (ties, W) b.1).1 (laidS (ties, W) b.1).2 s2 s3 hfr ho (by omega) (by omega) (by omega) (by rw [s4.2.1 43 (by decide), a7.2.1 43 (by decide), l3.2.1 43 (by decide)]; exact h43) (RW_read a6 s4) hF'.1 hF'.2
      rw [hA, List.foldl_cons]
      exact ⟨M', q'', i1, i2, i3, i4, i5, FN_trans (fT l3) (FN_trans a7 (FN_trans (fT s4) i6))⟩
theorem tick_tk (ties cnt : Nat) (W : Wd) : wTk (tickW ties cnt W) = wTk W + 1 := rfl
theorem itT_tk (ties cnt : Nat) : ∀ (n : Nat) (W : Wd), wTk (itT ties cnt n W) = wTk W + n := by
  intro n
  induction n with
  | zero => intro W; rfl
  | succ n ih => intro W; rw [itT, ih, tick_tk]; omega
theorem done_tk {cnt ties : Nat} {W : Wd} {s : Sm} (h : wTk W ≤ 999) : wTk (doneS cnt ties W s) ≤ 999 := by
  unfold doneS
  split
  · split <;> exact h
  · split
    · split <;> exact h
    · split
      · split <;> exact h
      · split
        · exact h
        · split
          · exact h
          · split
            · split
              · rename_i hx; rw [itT_tk]; exact hx
              · exact h
            · exact h
theorem done_loop {T : List Int32} {cnt ties tl : Nat} (hc : 2 ≤ cnt) : ∀ (d n k : Nat) (p q : Pz) (M : MS) (W : Wd), RQ M T q → free q (pAt p) → free p (pAt p) → pBd (pAll T cnt d k p).2 = 0 → k + d = 62 → k ≤ 60 → d < n → M.1 43 = nI cnt → RW M cnt ties W → Good cnt ties tl W → wTk W ≤ 999 →
    ∃ M' q', L12_goesOver_15 0 n M = some M' ∧ RQ M' T q' ∧ RW M' cnt ties ((pAll T cnt d k p).1.foldl (doneS cnt ties) W) ∧ Good cnt ties tl ((pAll T cnt d k p).1.foldl (doneS cnt ties) W) ∧ wTk ((pAll T cnt d k p).1.foldl (doneS cnt ties) W) ≤ 999 ∧ FN AsD FsD (fun _ => True) M M' := by
  intro d
  induction d with
  | zero => intro n k p q M W h hq hp ho hk hk1 hn; omega
  | succ d ih =>
    intro n k p q M W h hq hp ho hk hk1 hn h43 hW hg htk
    obtain ⟨n, rfl⟩ : ∃ j, n = j + 1 := ⟨n - 1, by omega⟩
    obtain ⟨M2, l1, l2, l3⟩ := RQ_look h
    rw [hq.1] at l1 l2
    unfold L12_goesOver_15
    rw [l1, bn2_s]
    by_cases hne : byteAt T (lkP T (pAt p)) = -1
    · rw [if_pos hne]
      have e : (pAll T cnt (d + 1) k p).1 = [] := by rw [pAll, if_pos (free_bd hp), if_pos hne]
      rw [e]
      exact ⟨M2, _, rfl, l2, RW_read hW l3, hg, htk, fnD l3⟩
    · rw [if_neg hne, if_pos rfl]
      obtain ⟨b, c, hB, hcc, hK, hbd, hc59, hns, hle, hA, hfr, hk60⟩ := over_step hp ho hne
      have hf2 := free_lk (T := T) hq
      have hw2 := RW_read hW l3
      obtain ⟨M5, q', a1, a2, a3, a4, a5, a6, a7, a8⟩ := isDone_ok (W := W) (ties := ties) (tl := tl) l2 hf2 (by rw [l3.2.1 43 (by decide)]; exact h43) (by omega) hw2 hg htk (by rw [kind_lk]; exact hK) (by rw [kind_lk, rdr_lk, ← hB]; exact hbd)
      rw [kind_lk, rdr_lk, ← hB, lk_lk] at a5
      rw [kind_lk, rdr_lk, ← hB] at a6 a7
      have hlb := lk_ge T (pAt b.2)
      have hqle : pAt q' ≤ c := by
        rcases a5 with hh | hh
        · omega
        · rw [hh]; omega
      have hqns : ns T (pAt q') c := by
        rcases a5 with hh | hh
        · rw [hh]; exact hns
        · rw [hh, hcc]; exact ns_lk _ _
      obtain ⟨M7, s1, s2, s3, s4⟩ := over_skip (c1 := 0) a2 hc59 a3 a4 hqle hqns
      rw [a1, Option.bind_some, Option.bind_some, s1, Option.bind_some]
      rw [hA] at ho
      obtain ⟨M', q'', i1, i2, i3, i4, i5, i6⟩ := ih n (k + 1) (c + 1, b.2.2) (c + 1, q'.2) (sF M7 2 ((gF M7 2) + 1)) (doneS cnt ties W b.1) s2 s3 hfr ho (by omega) (by omega) (by omega) (by rw [s4.2.1 43 (by decide), a8.2.1 43 (by decide), l3.2.1 43 (by decide)]; exact h43) (RW_read a6 s4) a7 (done_tk htk)
      rw [hA, List.foldl_cons]
      exact ⟨M', q'', i1, i2, i3, i4, i5, FN_trans (fnD l3) (FN_trans a8 (FN_trans (fnD s4) i6))⟩
