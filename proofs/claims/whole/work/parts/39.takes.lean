/-! ===== PART II, the reference: the server takes what comes ===== -/
def sumMk : List (Nat × List Int32) → Nat
  | [] => 0
  | x :: l => (gatherL x.2 0).length + sumMk l
theorem sumMk_app (s t : List (Nat × List Int32)) : sumMk (s ++ t) = sumMk s + sumMk t := by
  induction s with
  | nil => simp [sumMk]
  | cons y s ih => rw [List.cons_append, sumMk, sumMk, ih]; omega
theorem sumMk_take {l : List (Nat × List Int32)} {i : Nat} {o : Nat × List Int32} (h : l[i]? = some o) : sumMk (l.take i) + (gatherL o.2 0).length ≤ sumMk l := by
  induction l generalizing i with
  | nil => simp at h
  | cons x l ih =>
    cases i with
    | zero =>
      simp at h
      subst h
      simp [sumMk]
    | succ i =>
      have := ih (i := i) (by simpa using h)
      simp only [List.take_succ_cons, sumMk]
      omega
/-- the server's row, as the reference keeps it -/
def RRow (M : MS) (row : List (Nat × List Int32)) : Prop := ∀ i o, row[i]? = some o → M.2.1 36 i = nI o.1 ∧ M.2.1 37 i = nI (oldL o.2) ∧ M.2.1 39 i = nI (gatherL o.2 0).length ∧ M.2.1 38 i = nI (sumMk (row.take i)) ∧ seg (M.2.1 40) (sumMk (row.take i)) (gatherL o.2 0)
theorem RRow_op {M : MS} {row : List (Nat × List Int32)} (h : RRow M row) (hs : sumMk row ≤ 3000) {i : Nat} {o : Nat × List Int32} (ho : row[i]? = some o) : OpAt M i o := by
  obtain ⟨h1, h2, h3, h4, h5⟩ := h i o ho
  have := sumMk_take ho
  exact ⟨h1, h2, h3, _, h4, by omega, h5⟩
theorem RRow_FN {As Fs : List Nat} {P : Nat → Prop} {M M' : MS} {row : List (Nat × List Int32)} (h : RRow M row) (hf : FN As Fs P M M') (h1 : ∀ k, 36 ≤ k → k ≤ 40 → k ∉ As) : RRow M' row := by
  intro i o ho
  rw [hf.1 36 (h1 _ (by omega) (by omega)) (by decide), hf.1 37 (h1 _ (by omega) (by omega)) (by decide), hf.1 38 (h1 _ (by omega) (by omega)) (by decide), hf.1 39 (h1 _ (by omega) (by omega)) (by decide), hf.1 40 (h1 _ (by omega) (by omega)) (by decide)]
  exact h i o ho
theorem RRow_pre {M : MS} {s t : List (Nat × List Int32)} (h : RRow M (s ++ t)) : RRow M s := by
  intro i o ho
  have hi : i < s.length := (List.getElem?_eq_some_iff.mp ho).1
  have := h i o (by rw [List.getElem?_append_left hi]; exact ho)
  rw [List.take_append_of_le_length (by omega)] at this
  exact this
/-- turned over a row of operations -/
def foldT (ties e : Nat) : List (Nat × List Int32) → List Int32 → List Int32
  | [], A => A
  | o :: l, A => foldT ties e l (turnC (aheadB ties e o.1) A o.2)
def fOk (ties e : Nat) : List (Nat × List Int32) → List Int32 → Prop
  | [], A => okO A ∧ A.length ≤ 700
  | o :: l, A => okO A ∧ okO o.2 ∧ o.1 < 1000 ∧ oldL A = oldL o.2 ∧ A.length + o.2.length ≤ 700 ∧ fOk ties e l (turnC (aheadB ties e o.1) A o.2)
theorem fOk_end {ties e : Nat} : ∀ (l : List (Nat × List Int32)) (A : List Int32), fOk ties e l A → okO (foldT ties e l A) ∧ (foldT ties e l A).length ≤ 700
  | [], _, h => h
  | _ :: l, _, h => fOk_end l _ h.2.2.2.2.2
theorem fOk_hd {ties e : Nat} {l : List (Nat × List Int32)} {A : List Int32} (h : fOk ties e l A) : okO A ∧ A.length ≤ 700 := by
  cases l with
  | nil => exact h
  | cons o l => exact ⟨h.1, by have := h.2.2.2.2.1; omega⟩
theorem sent_loop {e ties N : Nat} (he : e < 1000) (ht2 : ties < 1000) (hN : N ≤ 104) :
    ∀ (l : List (Nat × List Int32)) (n i : Nat) (A : List Int32) (M : MS), i + l.length = N → M.2.1 30 1 = nI N → M.1 33 = nI ties → (∀ k o, l[k]? = some o → OpAt M (i + k) o) → fOk ties e l A → Row M 20 25 A → l.length < n →
    ∃ M', L12_sentTurned_19 (nI e) n (nI i) M = some M' ∧ Row M' 20 25 (foldT ties e l A) ∧ Frm [20, 21, 22, 23, 24] [25, 26, 27, 28] M M' := by
  intro l
  induction l with
  | nil =>
    intro n i A M hi h1 ht hop hf hr hn
    obtain ⟨n, rfl⟩ : ∃ j, n = j + 1 := ⟨n - 1, by omega⟩
    rw [List.length_nil, Nat.add_zero] at hi
    unfold L12_sentTurned_19
    rw [show ld M 30 (1 : Int32) = some (nI N) from by rw [show (1 : Int32) = nI 1 from rfl, ld_n (show 1 < 10476 by omega), h1], Option.bind_some, if_pos (nI_le (by omega) (by omega))]
    exact ⟨M, rfl, hr, Frm_refl _ _ _⟩
  | cons o l ih =>
    intro n i A M hi h1 ht hop hf hr hn
    rw [List.length_cons] at hi hn
    obtain ⟨n, rfl⟩ : ∃ j, n = j + 1 := ⟨n - 1, by omega⟩
    obtain ⟨f1, f2, f3, f4, f5, f6⟩ := hf
    have ho0 := hop 0 o rfl
    rw [Nat.add_zero] at ho0
    obtain ⟨M2, a1, a2, a3⟩ := opToB_ok ho0 f2 (by omega) (by omega)
    obtain ⟨M5, c1, c2, c3, c4⟩ := turns_ok (ah := aheadB ties e o.1) (Row_frm hr a3 (by decide) (by decide)) a2 f4 f5
    have e1 : (turnC (aheadB ties e o.1) A o.2).length ≤ 700 := by unfold turnC; rw [settleL_len]; have := turnR_len (aheadB ties e o.1) A o.2; omega
    obtain ⟨M6, t1, t2, t3⟩ := takesCAsA_ok (show Row M5 22 27 (turnC (aheadB ties e o.1) A o.2) from c2) e1
    have fr : Frm [20, 21, 22, 23, 24] [25, 26, 27, 28] M M6 := Frm_trans (Frm_mono a3 (by simp) (by simp)) (Frm_trans (Frm_mono c4 (by simp) (by simp)) (Frm_mono t3 (by simp) (by simp)))
    have b1 := isAhead_ok (M := M2) (ties := ties) (one := e) (other := o.1) (by rw [a3.2.1 _ (by decide)]; exact ht) ht2 he f3
    obtain ⟨M', g1, g2, g3⟩ := ih n (i + 1) (turnC (aheadB ties e o.1) A o.2) M6 (by omega) (by rw [fr.1 30 (by decide)]; exact h1) (by rw [fr.2.1 33 (by decide)]; exact ht) (fun k o' hk => by
      have := hop (k + 1) o' (by simpa using hk)
      rw [show i + (k + 1) = i + 1 + k by omega] at this
      unfold OpAt at this ⊢
      rw [fr.1 36 (by decide), fr.1 37 (by decide), fr.1 38 (by decide), fr.1 39 (by decide), fr.1 40 (by decide)]
      exact this) f6 t2 (by omega)
    refine ⟨M', ?_, g2, Frm_trans fr g3⟩
    unfold L12_sentTurned_19
    rw [show ld M 30 (1 : Int32) = some (nI N) from by rw [show (1 : Int32) = nI 1 from rfl, ld_n (show 1 < 10476 by omega), h1], Option.bind_some, if_neg (nI_ge (by omega) (by omega)), a1, Option.bind_some, ld_n (show i < mLn 36 from show i < 108 by omega), a3.1 36 (by decide), ho0.1, Option.bind_some, b1, Option.bind_some, c1, Option.bind_some, t1, Option.bind_some, nI_1]
    exact g1
/-- the world that acts change: tick, edits, letters put; the server's row; the editors -/
abbrev Wd : Type := (Nat × Nat × Nat) × List (Nat × List Int32) × (Nat → Ed)
abbrev wTk (W : Wd) := W.1.1
abbrev wEd (W : Wd) := W.1.2.1
abbrev wPu (W : Wd) := W.1.2.2
abbrev wRow (W : Wd) := W.2.1
abbrev wE (W : Wd) := W.2.2
def RW (M : MS) (cnt ties : Nat) (W : Wd) : Prop := M.1 32 = nI cnt ∧ M.1 33 = nI ties ∧ M.2.1 30 0 = nI (wTk W) ∧ M.2.1 30 1 = nI (wRow W).length ∧ M.2.1 30 2 = nI (wEd W) ∧ M.2.1 30 3 = nI (wPu W) ∧ RRow M (wRow W) ∧ ∀ i, i < cnt → REd (M.2.1 30) (4 + 2618 * i) (wRow W).length (wE W i)
/-- what the server makes of what editor e sent -/
def tkOp (ties e : Nat) (W : Wd) : List Int32 := foldT ties e ((wRow W).drop (eSnt (wE W e)).2) (eSnt (wE W e)).1
def tkE (W : Wd) (e i : Nat) : Ed := sCom (if i = e then sLft (wE W i) none else wE W i) (fun k => if k = (wRow W).length then eDel (wE W i) else eCom (wE W i) k)
def takeW (ties cnt e : Nat) (W : Wd) : Wd := (W.1, wRow W ++ [(e, tkOp ties e W)], fun i => if i < cnt then tkE W e i else wE W i)
theorem lays_loop {cnt k : Nat} (hcnt : cnt ≤ 4) (hk : k < 100) :
    ∀ (d n i : Nat) (M : MS), i + d = cnt → M.1 32 = nI cnt → d < n →
    ∃ f', L12_serverTakes_118 (nI k) n (nI i) M = some (sR M 30 f') ∧ (∀ j, (∀ x, i ≤ x → x < cnt → j ≠ 4 + 2618 * x + 2518 + k) → f' j = M.2.1 30 j) ∧ (∀ x, i ≤ x → x < cnt → f' (4 + 2618 * x + 2518 + k) = M.2.1 30 (4 + 2618 * x + 16)) := by
  intro d
  induction d with
  | zero =>
    intro n i M hi h32 hn
    obtain ⟨n, rfl⟩ : ∃ j, n = j + 1 := ⟨n - 1, by omega⟩
    unfold L12_serverTakes_118
    rw [show gF M 32 = nI cnt from h32, if_pos (nI_le (by omega) (by omega))]
    exact ⟨M.2.1 30, by rw [sR_self], fun _ _ => rfl, fun x h1 h2 => by omega⟩
  | succ d ih =>
    intro n i M hi h32 hn
    obtain ⟨n, rfl⟩ : ∃ j, n = j + 1 := ⟨n - 1, by omega⟩
    obtain ⟨f', g1, g2, g3⟩ := ih n (i + 1) (sR M 30 (upd (M.2.1 30) (4 + 2618 * i + 2518 + k) (M.2.1 30 (4 + 2618 * i + 16)))) (by omega) h32 (by omega)
    rw [sR_get] at g2 g3
    refine ⟨f', ?_, ?_, ?_⟩
    · unfold L12_serverTakes_118
      rw [show gF M 32 = nI cnt from h32, if_neg (nI_ge (by omega) (by omega)), show (2518 : Int32) = nI 2518 from rfl, nI_add, of_ok, Option.bind_some, show (16 : Int32) = nI 16 from rfl, its_ok (by omega), Option.bind_some, ← Nat.add_assoc, sd_n (show 4 + 2618 * i + 2518 + k < 10476 by omega), Option.bind_some, nI_1, g1, sR_sR]
    · intro j hj
      rw [g2 j (fun x h1 h2 => hj x (by omega) h2), upd_ne _ _ (hj i (by omega) (by omega))]
    · intro x h1 h2
      by_cases hx : x = i
      · subst hx
        rw [g2 _ (fun y h3 h4 => by omega), upd_self]
      · rw [g3 x (by omega) h2, upd_ne _ _ (by omega)]
