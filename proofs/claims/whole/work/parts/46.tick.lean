/-! ===== PART II: a tick ===== -/
def passE (n : Nat) (E : Ed) : Ed := if eOn E then sCom (sLft E ((eLft E).map fun k => k - 1)) (fun k => if eRev E ≤ k ∧ k < n then eCom E k - 1 else eCom E k) else E
def itN (f : Nat → Wd → Wd) : Nat → Wd → Wd
  | 0, W => W
  | n + 1, W => f n (itN f n W)
def pStep (e : Nat) (W : Wd) : Wd := setE W e (passE (wRow W).length (wE W e))
def tkStep (ties cnt e : Nat) (W : Wd) : Wd := if eOn (wE W e) = true ∧ eLft (wE W e) = some 0 then takeW ties cnt e W else W
def brL (ties e : Nat) : Nat → Wd → Wd
  | 0, W => W
  | n + 1, W => if eOn (wE W e) = true ∧ eRev (wE W e) < (wRow W).length ∧ eCom (wE W e) (eRev (wE W e)) = 0 then brL ties e n (comesW ties e W) else W
def brStep (ties e : Nat) (W : Wd) : Wd := brL ties e ((wRow W).length - eRev (wE W e)) W
def tickW (ties cnt : Nat) (W : Wd) : Wd :=
  ((wTk W + 1, wEd W, wPu W), (itN (brStep ties) cnt (itN (tkStep ties cnt) cnt (itN pStep cnt W))).2)
theorem Good_pass {cnt ties tl e : Nat} {W : Wd} (hg : Good cnt ties tl W) (he : e < cnt) : Good cnt ties tl (pStep e W) := by
  have hg0 := hg
  obtain ⟨g1, g2, g3, g4, g5, g6, g7, g8, g9⟩ := hg
  obtain ⟨e1, e2, e3, e4, e5, e6, e7, e8, e9, e10, e11, e12, e13, e14, e15, e16, e17, e18, e19⟩ := g9 e he
  unfold pStep passE
  by_cases hon : eOn (wE W e) = true
  · rw [if_pos hon]
    have hsm : ((eLft (wE W e)).map fun k => k - 1).isSome = (eLft (wE W e)).isSome := by cases eLft (wE W e) <;> rfl
    refine Good_set hg0 he ?_ ?_ ?_
    · unfold unt; show (if ((eLft (wE W e)).map fun k => k - 1).isSome = true then putsO (ePnd (wE W e)) else 0) + putsO (eBuf (wE W e)) = _; rw [hsm]
    · unfold untN; show (if ((eLft (wE W e)).map fun k => k - 1).isSome = true then 1 else 0) + (if (eBuf (wE W e)).isSome = true then 1 else 0) = _; rw [hsm]
    · unfold EdOk
      rw [outs_set, setE_self]
      refine ⟨e1, e2, fun k hk => ?_, fun i hi => ?_, e5, e6, ?_, fun hh => ?_, e9, e10, e11, e12, e13, e14, e15, e16, e17, e18, e19⟩
      · have hk' : (eLft (wE W e)).map (fun k => k - 1) = some k := hk
        cases hl : eLft (wE W e) with
        | none => rw [hl] at hk'; cases hk'
        | some x =>
          rw [hl] at hk'
          have h9 : x - 1 = k := Option.some.inj hk'
          have := e3 x hl
          omega
      · show (if eRev (wE W e) ≤ i ∧ i < (wRow W).length then eCom (wE W e) i - 1 else eCom (wE W e) i) ≤ 9
        have := e4 i hi
        split <;> omega
      · show ownS ties e ((wRow W).drop (eRev (wE W e))) (ePnd (wE W e)) ((eLft (wE W e)).map fun k => k - 1)
        cases hp : ePnd (wE W e) with
        | none =>
          cases hl : eLft (wE W e) with
          | none => rw [hp, hl] at e7; exact e7
          | some k => rw [hp, hl] at e7; exact e7.elim
        | some p =>
          cases hl : eLft (wE W e) with
          | none => rw [hp, hl] at e7; exact e7
          | some k => rw [hp, hl] at e7; exact e7
      · have hh' : ((eLft (wE W e)).map fun k => k - 1).isSome = true := hh
        rw [hsm] at hh'
        exact e8 hh'
  · rw [if_neg hon]
    have : setE W e (wE W e) = W := by
      unfold setE
      have : (fun i => if i = e then wE W e else wE W i) = wE W := by
        funext i
        by_cases h : i = e
        · rw [if_pos h, h]
        · rw [if_neg h]
      rw [this]
    rw [this]; exact hg0
theorem Good_tk {cnt ties tl e : Nat} {W : Wd} (hg : Good cnt ties tl W) (he : e < cnt) : Good cnt ties tl (tkStep ties cnt e W) := by
  unfold tkStep
  split
  · rename_i h; exact Good_take hg he h.2
  · exact hg
theorem Good_brL {cnt ties tl e : Nat} (he : e < cnt) : ∀ (n : Nat) (W : Wd), Good cnt ties tl W → Good cnt ties tl (brL ties e n W) := by
  intro n
  induction n with
  | zero => intro W hg; exact hg
  | succ n ih =>
    intro W hg
    rw [brL]
    split
    · exact ih _ (Good_comes hg he)
    · exact hg
theorem Good_itN {cnt ties tl : Nat} {f : Nat → Wd → Wd} (hf : ∀ e W, e < cnt → Good cnt ties tl W → Good cnt ties tl (f e W)) : ∀ (n : Nat) (W : Wd), n ≤ cnt → Good cnt ties tl W → Good cnt ties tl (itN f n W) := by
  intro n
  induction n with
  | zero => intro W _ hg; exact hg
  | succ n ih => intro W hn hg; rw [itN]; exact hf n _ (by omega) (ih W (by omega) hg)
theorem Good_time {cnt ties tl t : Nat} {W : Wd} (hg : Good cnt ties tl W) : Good cnt ties tl ((t, wEd W, wPu W), W.2) := hg
theorem itN_cnt {f : Nat → Wd → Wd} (hf : ∀ e W, (f e W).1 = W.1) : ∀ (n : Nat) (W : Wd), (itN f n W).1 = W.1 := by
  intro n
  induction n with
  | zero => intro W; rfl
  | succ n ih => intro W; rw [itN, hf, ih]
theorem comesW_1 (ties e : Nat) (W : Wd) : (comesW ties e W).1 = W.1 := by unfold comesW; split <;> rfl
theorem brL_1 (ties e : Nat) : ∀ (n : Nat) (W : Wd), (brL ties e n W).1 = W.1 := by
  intro n
  induction n with
  | zero => intro W; rfl
  | succ n ih =>
    intro W
    rw [brL]
    split
    · rw [ih, comesW_1]
    · rfl
theorem tkStep_1 (ties cnt e : Nat) (W : Wd) : (tkStep ties cnt e W).1 = W.1 := by unfold tkStep; split <;> rfl
theorem Good_tick {cnt ties tl : Nat} {W : Wd} (hg : Good cnt ties tl W) : Good cnt ties tl (tickW ties cnt W) := by
  have h1 := Good_itN (f := pStep) (fun e W he h => Good_pass h he) cnt W (Nat.le_refl _) hg
  have h2 := Good_itN (f := tkStep ties cnt) (fun e W he h => Good_tk h he) cnt _ (Nat.le_refl _) h1
  have h3 := Good_itN (f := brStep ties) (fun e W he h => Good_brL he _ _ h) cnt _ (Nat.le_refl _) h2
  have e1 : (itN (brStep ties) cnt (itN (tkStep ties cnt) cnt (itN pStep cnt W))).1 = W.1 := by
    rw [itN_cnt (f := brStep ties) (fun e W => brL_1 ties e _ W), itN_cnt (f := tkStep ties cnt) (fun e W => tkStep_1 ties cnt e W), itN_cnt (f := pStep) (fun e W => rfl)]
  have h4 := Good_time (t := wTk W + 1) h3
  unfold tickW
  have e2 : wEd (itN (brStep ties) cnt (itN (tkStep ties cnt) cnt (itN pStep cnt W))) = wEd W := by show (itN (brStep ties) cnt (itN (tkStep ties cnt) cnt (itN pStep cnt W))).1.2.1 = W.1.2.1; rw [e1]
  have e3 : wPu (itN (brStep ties) cnt (itN (tkStep ties cnt) cnt (itN pStep cnt W))) = wPu W := by show (itN (brStep ties) cnt (itN (tkStep ties cnt) cnt (itN pStep cnt W))).1.2.2 = W.1.2.2; rw [e1]
  rw [e2, e3] at h4
  exact h4
/-- the reference: ticks that are left to what is on its way to an editor -/
theorem com_loop {e N : Nat} (hb : 4 + 2618 * e + 2618 ≤ 10476) (hN : N ≤ 100) :
    ∀ (d n i : Nat) (c : Nat → Nat) (M : MS), i + d = N → M.2.1 30 1 = nI N → (∀ k, i ≤ k → k < N → M.2.1 30 (4 + 2618 * e + 2518 + k) = nI (c k) ∧ c k ≤ 9) → d < n →
    ∃ f', L12_tickGoes_55 (nI e) n (nI i) M = some (sR M 30 f') ∧ (∀ j, j < 4 + 2618 * e + 2518 + i ∨ 4 + 2618 * e + 2518 + N ≤ j → f' j = M.2.1 30 j) ∧ (∀ k, i ≤ k → k < N → f' (4 + 2618 * e + 2518 + k) = nI (c k - 1)) := by
  intro d
  induction d with
  | zero =>
    intro n i c M hi h1 hc hn
    obtain ⟨n, rfl⟩ : ∃ j, n = j + 1 := ⟨n - 1, by omega⟩
    unfold L12_tickGoes_55
    rw [show (1 : Int32) = nI 1 from rfl, ld_n (show 1 < 10476 by omega), h1, Option.bind_some, if_pos (nI_le (by omega) (by omega))]
    exact ⟨M.2.1 30, by rw [sR_self], fun _ _ => rfl, fun k h1 h2 => by omega⟩
  | succ d ih =>
    intro n i c M hi h1 hc hn
    obtain ⟨n, rfl⟩ : ∃ j, n = j + 1 := ⟨n - 1, by omega⟩
    obtain ⟨c1, c2⟩ := hc i (by omega) (by omega)
    have hst : (if nI (c i) ≤ 0 then some M else (f12_of (nI e) (nI (2518 + i))).bind fun v5 => (ld M 30 v5).bind fun v6 => (sd M 30 v5 (v6 - 1)).bind fun M7 => some M7) = some (sR M 30 (upd (M.2.1 30) (4 + 2618 * e + 2518 + i) (nI (c i - 1)))) := by
      by_cases h0 : c i = 0
      · rw [h0, if_pos (by decide)]
        have : upd (M.2.1 30) (4 + 2618 * e + 2518 + i) (nI (0 - 1)) = M.2.1 30 := by
          funext j
          by_cases hj : j = 4 + 2618 * e + 2518 + i
          · rw [hj, upd_self, c1, h0]
          · rw [upd_ne _ _ hj]
        rw [this, sR_self]
      · rw [if_neg (nI_nle (by omega) (by omega)), of_ok, Option.bind_some, ← Nat.add_assoc, ld_n (show 4 + 2618 * e + 2518 + i < 10476 by omega), c1, Option.bind_some, show (1 : Int32) = nI 1 from rfl, nI_sub (by omega), sd_n (show 4 + 2618 * e + 2518 + i < 10476 by omega), Option.bind_some]
    obtain ⟨f', g1, g2, g3⟩ := ih n (i + 1) c (sR M 30 (upd (M.2.1 30) (4 + 2618 * e + 2518 + i) (nI (c i - 1)))) (by omega) (by rw [sR_get, upd_ne _ _ (by omega)]; exact h1) (fun k k1 k2 => by rw [sR_get, upd_ne _ _ (by omega)]; exact hc k (by omega) k2) (by omega)
    rw [sR_get] at g2
    refine ⟨f', ?_, ?_, ?_⟩
    · unfold L12_tickGoes_55
      rw [show ld M 30 (1 : Int32) = some (nI N) from by rw [show (1 : Int32) = nI 1 from rfl, ld_n (show 1 < 10476 by omega), h1], Option.bind_some, if_neg (nI_ge (by omega) (by omega)), show (2518 : Int32) = nI 2518 from rfl, nI_add, its_ok (by omega), ← Nat.add_assoc, c1, Option.bind_some, hst, Option.bind_some, nI_1, g1, sR_sR]
    · intro j hj
      rw [g2 j (by omega), upd_ne _ _ (by omega)]
    · intro k k1 k2
      by_cases hk : k = i
      · subst hk; rw [g2 _ (by omega), upd_self]
      · exact g3 k (by omega) k2
