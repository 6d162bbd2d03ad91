/-! ===== PART II, the class: what holds of the statements ===== -/
def GoodSm (cnt : Nat) (s : Sm) : Prop := (1 ≤ s.1 ∧ s.1 ≤ 8) ∧ (s.1 ≠ 2 → s.1 ≠ 8 → s.2.1.1 < cnt) ∧ (s.1 = 1 → s.2.1.2.1 ≤ 9) ∧ (s.1 = 2 → s.2.1.1 ≤ 2) ∧ (s.1 = 3 → (∀ x ∈ s.2.2, GoodSv x) ∧ s.2.2.length ≤ 40 ∧ okO (stpsL s.2.2) ∧ oldL (stpsL s.2.2) = stpsN s.2.2) ∧ (s.1 = 4 → s.2.1.2.1 ≤ 99) ∧ (s.1 = 5 → s.2.1.2.1 ≤ 99 ∧ s.2.1.2.2.1 ≤ 99 ∧ s.2.1.2.2.2 ≤ 3) ∧ (s.1 = 8 → 1 ≤ s.2.1.1 ∧ s.2.1.1 ≤ 99)
def cst (s : Sm) : Nat := if s.1 = 8 then 1920 else if s.1 = 3 then 240 else 0
def cstL : List Sm → Nat
  | [] => 0
  | s :: l => cst s + cstL l
theorem restK3' {T : List Int32} {cnt : Nat} {r : Pz} : ∃ d : Nat, d = 42 ∧ restK T cnt 3 r = ((3, ((pNum T 0 (cnt - 1) r).1, 0, 0, 0), (pOp T false d 0 (pNum T 0 (cnt - 1) r).2).1), (pOp T false d 0 (pNum T 0 (cnt - 1) r).2).2) := ⟨42, rfl, by unfold restK; rfl⟩
theorem gsm1 {cnt a b : Nat} (ha : a < cnt) (hb : b ≤ 9) : GoodSm cnt (1, (a, b, 0, 0), []) := by unfold GoodSm; simp [ha, hb]
theorem gsm2 {cnt a : Nat} (ha : a ≤ 2) : GoodSm cnt (2, (a, 0, 0, 0), []) := by unfold GoodSm; simp [ha]
theorem gsm3 {cnt a : Nat} {l : List Sv} (ha : a < cnt) (h1 : ∀ x ∈ l, GoodSv x) (h2 : l.length ≤ 40) (h3 : okO (stpsL l)) (h4 : oldL (stpsL l) = stpsN l) : GoodSm cnt (3, (a, 0, 0, 0), l) :=
  ⟨⟨by show 1 ≤ 3; omega, by show 3 ≤ 8; omega⟩, fun _ _ => ha, fun h => absurd h (show ¬ 3 = 1 by omega), fun h => absurd h (show ¬ 3 = 2 by omega), fun _ => ⟨h1, h2, h3, h4⟩, fun h => absurd h (show ¬ 3 = 4 by omega), fun h => absurd h (show ¬ 3 = 5 by omega), fun h => absurd h (show ¬ 3 = 8 by omega)⟩
theorem gsm4 {cnt a b : Nat} (ha : a < cnt) (hb : b ≤ 99) : GoodSm cnt (4, (a, b, 0, 0), []) := by unfold GoodSm; simp [ha, hb]
theorem gsm5 {cnt a b c d : Nat} (ha : a < cnt) (hb : b ≤ 99) (hc : c ≤ 99) (hd : d ≤ 3) : GoodSm cnt (5, (a, b, c, d), []) := by unfold GoodSm; simp [ha, hb, hc, hd]
theorem gsm6 {cnt a k : Nat} (ha : a < cnt) (hk : k = 6 ∨ k = 7) : GoodSm cnt (k, (a, 0, 0, 0), []) := by
  rcases hk with rfl | rfl <;> (unfold GoodSm; simp [ha])
theorem gsm8 {cnt a : Nat} (h1 : 1 ≤ a) (ha : a ≤ 99) : GoodSm cnt (8, (a, 0, 0, 0), []) := by unfold GoodSm; simp [ha, h1]
theorem rest_good {T : List Int32} {cnt k : Nat} {r : Pz} (hc : 1 ≤ cnt) (hk1 : 1 ≤ k) (hk8 : k ≤ 8) (hok : pBd (restK T cnt k r).2 = 0) : GoodSm cnt (restK T cnt k r).1 ∧ pAt r < pAt (restK T cnt k r).2 ∧ (restK T cnt k r).1.1 = k := by
  rcases (show k = 1 ∨ k = 2 ∨ k = 3 ∨ k = 4 ∨ k = 5 ∨ k = 6 ∨ k = 7 ∨ k = 8 by omega) with rfl | rfl | rfl | rfl | rfl | rfl | rfl | rfl
  · have hok' : pBd (pNum T 0 9 (pNum T 0 (cnt - 1) r).2).2 = 0 := hok
    have h1 := num_bd hok'
    have a1 := num_in h1
    have a2 := num_in hok'
    have b1 := num_pos h1
    have b2 := num_pos hok'
    have g1 := lk_ge T (pAt r)
    have g2 := lk_ge T (pAt (pNum T 0 (cnt - 1) r).2)
    refine ⟨gsm1 (by omega) a2.2, ?_, rfl⟩
    · show pAt r < pAt (pNum T 0 9 (pNum T 0 (cnt - 1) r).2).2; omega
  · have hok' : pBd (pNum T 0 2 r).2 = 0 := hok
    have a2 := num_in hok'
    have b2 := num_pos hok'
    have g1 := lk_ge T (pAt r)
    refine ⟨gsm2 a2.2, ?_, rfl⟩
    show pAt r < pAt (pNum T 0 2 r).2; omega
  · obtain ⟨d, hd, hr⟩ := restK3' (T := T) (cnt := cnt) (r := r)
    rw [hr] at hok ⊢
    have h1 := op_bd hok
    have a1 := num_in h1
    have b1 := num_pos h1
    have g1 := lk_ge T (pAt r)
    obtain ⟨o1, o2⟩ := ops_good d 0 (pNum T 0 (cnt - 1) r).2 (by omega) h1 hok
    obtain ⟨o3, o4⟩ := steps_ok d 0 (pNum T 0 (cnt - 1) r).2 h1 hok
    have o5 := (okR_op d 0 (pNum T 0 (cnt - 1) r).2 h1 hok).1
    refine ⟨gsm3 (by omega) o1 (by omega) o3 o4, ?_, rfl⟩
    · dsimp only; omega
  · have hok' : pBd (pNum T 0 99 (pNum T 0 (cnt - 1) r).2).2 = 0 := hok
    have h1 := num_bd hok'
    have a1 := num_in h1
    have a2 := num_in hok'
    have b1 := num_pos h1
    have b2 := num_pos hok'
    have g1 := lk_ge T (pAt r)
    have g2 := lk_ge T (pAt (pNum T 0 (cnt - 1) r).2)
    refine ⟨gsm4 (by omega) a2.2, ?_, rfl⟩
    · show pAt r < pAt (pNum T 0 99 (pNum T 0 (cnt - 1) r).2).2; omega
  · have hok' : pBd (pNum T 0 3 (pNum T 0 99 (pNum T 0 99 (pNum T 0 (cnt - 1) r).2).2).2).2 = 0 := hok
    have h3 := num_bd hok'
    have h2 := num_bd h3
    have h1 := num_bd h2
    have a1 := num_in h1
    have a2 := num_in h2
    have a3 := num_in h3
    have a4 := num_in hok'
    have b1 := num_pos h1
    have c2 := lk_num h2
    have c3 := lk_num h3
    have c4 := lk_num hok'
    have g1 := lk_ge T (pAt r)
    refine ⟨gsm5 (by omega) a2.2 a3.2 a4.2, ?_, rfl⟩
    · show pAt r < pAt (pNum T 0 3 (pNum T 0 99 (pNum T 0 99 (pNum T 0 (cnt - 1) r).2).2).2).2; omega
  · have hok' : pBd (pNum T 0 (cnt - 1) r).2 = 0 := hok
    have a1 := num_in hok'
    have b1 := num_pos hok'
    have g1 := lk_ge T (pAt r)
    refine ⟨gsm6 (by omega) (by omega), ?_, rfl⟩
    · show pAt r < pAt (pNum T 0 (cnt - 1) r).2; omega
  · have hok' : pBd (pNum T 0 (cnt - 1) r).2 = 0 := hok
    have a1 := num_in hok'
    have b1 := num_pos hok'
    have g1 := lk_ge T (pAt r)
    refine ⟨gsm6 (by omega) (by omega), ?_, rfl⟩
    · show pAt r < pAt (pNum T 0 (cnt - 1) r).2; omega
  · have hok' : pBd (pNum T 1 99 r).2 = 0 := hok
    have a1 := num_in hok'
    have b1 := num_pos hok'
    have g1 := lk_ge T (pAt r)
    refine ⟨gsm8 a1.1 a1.2, ?_, rfl⟩
    show pAt r < pAt (pNum T 1 99 r).2; omega
theorem kw_len : ∀ k, k = 3 ∨ k = 8 → (kwL (11 + k)).length = 4 := by
  intro k hk
  rcases hk with rfl | rfl <;> rfl
theorem all_good {T : List Int32} {cnt : Nat} (hc : 1 ≤ cnt) : ∀ (d k : Nat) (p : Pz), free p (pAt p) → pAt p ≤ T.length → pBd (pAll T cnt d k p).2 = 0 → (∀ s ∈ (pAll T cnt d k p).1, GoodSm cnt s) ∧ 320 * pAt p + cstL (pAll T cnt d k p).1 ≤ 320 * T.length := by
  intro d
  induction d with
  | zero => intro k p hp hle ho; exact ⟨fun s hs => absurd hs List.not_mem_nil, by show 320 * pAt p + 0 ≤ _; omega⟩
  | succ d ih =>
    intro k p hp hle ho
    by_cases hne : byteAt T (lkP T (pAt p)) = -1
    · have e1 : pAll T cnt (d + 1) k p = ([], (lkP T (pAt p), p.2)) := by rw [pAll, if_pos (free_bd hp), if_pos hne]
      rw [e1]
      exact ⟨fun s hs => absurd hs List.not_mem_nil, by show 320 * pAt p + 0 ≤ _; omega⟩
    · obtain ⟨b, c, hb, hcc, hk0, hbd, h59, hns, hlc, hE, hfr, hk60⟩ := over_step hp ho hne
      obtain ⟨_, q1, q2⟩ := kind_is (T := T) (a := pAt p) hk0
      rw [hb] at hbd
      obtain ⟨g1, g2, g3⟩ := rest_good hc q1 q2 hbd
      have hclt : c < T.length := Decidable.byContradiction fun hh => by
        rw [byte_end (by omega)] at h59; exact absurd h59 (by decide)
      rw [hE] at ho ⊢
      obtain ⟨i1, i2⟩ := ih (k + 1) (c + 1, b.2.2) hfr (by show c + 1 ≤ T.length; omega) ho
      refine ⟨fun s hs => ?_, ?_⟩
      · rcases List.mem_cons.mp hs with hs | hs
        · rw [hs, hb]; exact g1
        · exact i1 s hs
      · have hrd : pAt (rdr T (kwL (11 + kindAt T (pAt p))) (pAt p)) = lkP T (pAt p) + (kwL (11 + kindAt T (pAt p))).length := rfl
        have hge := lk_ge T (pAt p)
        have hcb : pAt b.2 ≤ c := by rw [hcc]; exact lk_ge _ _
        rw [hb] at hcb
        have i2' : 320 * (c + 1) + cstL (pAll T cnt d (k + 1) (c + 1, b.2.2)).1 ≤ 320 * T.length := i2
        show 320 * pAt p + (cst b.1 + cstL (pAll T cnt d (k + 1) (c + 1, b.2.2)).1) ≤ _
        have hcs : cst b.1 ≤ 320 * (c + 1 - pAt p) := by
          unfold cst
          rw [hb, g3]
          by_cases k8 : kindAt T (pAt p) = 8
          · rw [if_pos k8]
            have := kw_len _ (Or.inr k8)
            omega
          · rw [if_neg k8]
            by_cases k3 : kindAt T (pAt p) = 3
            · rw [if_pos k3]
              have := kw_len _ (Or.inl k3)
              omega
            · rw [if_neg k3]; omega
        omega
/-- what holds while the statements are done -/
theorem GA_new {A : St} {T : List Int32} {ties : Nat} {W : Wd} (hg : GA A) (hS1 : pBd (pS1 T) = 0) (hW : Good (cntT T) ties (toldT T).length W) (htk : wTk W ≤ 999) : GA (newA A T ties W) := by
  obtain ⟨c2, c4, cf, ctl, _, cto, _, _⟩ := head_good hS1
  have hs := hg.2.2.2.2.2.2.2.2.2.2.2.2
  refine ⟨Nat.zero_le _, fun v hv => absurd hv List.not_mem_nil, hW, cto, htk, Or.inr c2, fun hh => ?_, Nat.zero_le _, fun W hW => absurd hW List.not_mem_nil, fun j W W' hW => ?_, Nat.zero_le _, fun x hx => absurd hx List.not_mem_nil, hs⟩
  · have : cntT T = 0 := hh
    omega
  · have : ([] : List Wd)[j]? = some W := hW
    simp at this
theorem done_good {A : St} {T : List Int32} {ties : Nat} {W : Wd} {s : Sm} (hg : GA (newA A T ties W)) (hs : GoodSm (cntT T) s) (hc : 0 < cntT T) : Good (cntT T) ties (toldT T).length (doneS (cntT T) ties W s) := by
  have gd : Good (cntT T) ties (toldT T).length W := hg.2.2.1
  obtain ⟨s1, s2, s3, s4, s5, s6, s7, s8⟩ := hs
  unfold doneS
  by_cases k3 : s.1 = 3
  · rw [if_pos k3]
    split
    · rename_i hh
      obtain ⟨o1, o2, o3, o4⟩ := s5 k3
      obtain ⟨p1, p2⟩ := opTo_ok o3 o4 hh.1
      exact Good_ed0 (A := newA A T ties W) hg (show s.2.1.1 < cntT T from s2 (by omega) (by omega)) (settle_okV p1) (by show oldL (settleL _) = _; rw [settle_old]; exact p2) hh.2
    · exact gd
  rw [if_neg k3]
  have he := fun h2 h8 => gd.2.2.2.2.2.2.2.2 s.2.1.1 (s2 h2 h8)
  by_cases k4 : s.1 = 4
  · rw [if_pos k4]
    obtain ⟨e1, e2, e3, e4, e5, e6, e7, e8, e9, e10, e11, e12, e13, e14, e15, e16, e17, e18, e19⟩ := he (by omega) (by omega)
    split
    · rename_i hh
      exact Good_head gd (s2 (by omega) (by omega)) rfl e2 hh e18 e19
    · exact gd
  rw [if_neg k4]
  by_cases k5 : s.1 = 5
  · rw [if_pos k5]
    obtain ⟨e1, e2, e3, e4, e5, e6, e7, e8, e9, e10, e11, e12, e13, e14, e15, e16, e17, e18, e19⟩ := he (by omega) (by omega)
    split
    · rename_i hh
      refine Good_head gd (s2 (by omega) (by omega)) rfl e2 e17 ?_ (fun x hx => ?_)
      · show (eMks (wE W s.2.1.1) ++ [_]).length ≤ 4
        rw [List.length_append]
        have := hh.1
        show _ + 1 ≤ 4
        omega
      · have hx' : x ∈ eMks (wE W s.2.1.1) ++ [(s.2.1.2.1, s.2.1.2.2.1, s.2.1.2.2.2)] := hx
        rcases List.mem_append.mp hx' with hx' | hx'
        · exact e19 x hx'
        · have : x = (s.2.1.2.1, s.2.1.2.2.1, s.2.1.2.2.2) := by simpa using hx'
          rw [this]
          exact ⟨hh.2.1, hh.2.2, (s7 k5).2.2⟩
    · exact gd
  rw [if_neg k5]
  by_cases k6 : s.1 = 6
  · rw [if_pos k6]
    obtain ⟨e1, e2, e3, e4, e5, e6, e7, e8, e9, e10, e11, e12, e13, e14, e15, e16, e17, e18, e19⟩ := he (by omega) (by omega)
    exact Good_head gd (s2 (by omega) (by omega)) rfl e2 e17 e18 e19
  rw [if_neg k6]
  by_cases k7 : s.1 = 7
  · rw [if_pos k7]
    obtain ⟨e1, e2, e3, e4, e5, e6, e7, e8, e9, e10, e11, e12, e13, e14, e15, e16, e17, e18, e19⟩ := he (by omega) (by omega)
    exact Good_head gd (s2 (by omega) (by omega)) rfl e2 e17 e18 e19
  rw [if_neg k7]
  split
  · split
    · exact Good_itT _ _ gd
    · exact gd
  · exact gd
