/-! ===== PART II, the reference: the steps of an operation ===== -/
def kN (v : Int32) : Int32 := if v = 0 then 0 else if v = -1 then 2 else 1
theorem kindOf_ok (v : Int32) : f12_kindOf v = some (kN v) := by
  unfold f12_kindOf kN
  by_cases h : v = 0
  · rw [if_pos h, if_pos h]; rfl
  · rw [if_neg h, if_neg h]
    by_cases h2 : v = -1
    · rw [if_pos h2, if_pos h2]; rfl
    · rw [if_neg h2, if_neg h2]; rfl
def addG (v : Int32) : List (List Int32) → List (List Int32)
  | [] => [[v]]
  | g :: gs => if kN v = kN (g.headD 0) then (v :: g) :: gs else [v] :: g :: gs
def stepsL : List Int32 → List (List Int32)
  | [] => []
  | v :: l => addG v (stepsL l)
theorem steps_hd (v : Int32) (l : List Int32) : ∃ g gs, stepsL (v :: l) = (v :: g) :: gs := by
  rw [stepsL]
  cases stepsL l with
  | nil => exact ⟨[], [], rfl⟩
  | cons g gs =>
    rw [addG]
    split
    · exact ⟨g, gs, rfl⟩
    · exact ⟨[], g :: gs, rfl⟩
theorem steps_run : ∀ (g : List Int32) (v : Int32) (rest : List Int32), (∀ x ∈ g, kN x = kN v) → (rest = [] ∨ ∃ w r, rest = w :: r ∧ kN w ≠ kN v) → stepsL (v :: (g ++ rest)) = (v :: g) :: stepsL rest := by
  intro g
  induction g with
  | nil =>
    intro v rest _ hr
    rw [List.nil_append, stepsL]
    rcases hr with rfl | ⟨w, r, rfl, hw⟩
    · rfl
    · obtain ⟨g, gs, h⟩ := steps_hd w r
      rw [h, addG, if_neg (by rw [List.headD_cons]; exact fun h => hw h.symm)]
  | cons x g ih =>
    intro v rest hg hr
    have hx : kN x = kN v := hg x (by simp)
    rw [List.cons_append, stepsL, ih x rest (fun y hy => by rw [hx]; exact hg y (by simp [hy])) (by rw [hx]; exact hr), addG, if_pos (by rw [List.headD_cons]; exact hx.symm)]
theorem run_split (v : Int32) (l : List Int32) : ∃ g rest, l = g ++ rest ∧ (∀ x ∈ g, kN x = kN v) ∧ (rest = [] ∨ ∃ w r, rest = w :: r ∧ kN w ≠ kN v) := by
  induction l with
  | nil => exact ⟨[], [], rfl, fun x hx => absurd hx List.not_mem_nil, Or.inl rfl⟩
  | cons x l ih =>
    by_cases h : kN x = kN v
    · obtain ⟨g, rest, h1, h2, h3⟩ := ih
      refine ⟨x :: g, rest, by rw [h1]; rfl, fun y hy => ?_, h3⟩
      rcases List.mem_cons.mp hy with rfl | hy
      · exact h
      · exact h2 y hy
    · exact ⟨[], x :: l, rfl, fun y hy => absurd hy List.not_mem_nil, Or.inr ⟨x, l, rfl, h⟩⟩
/-- of one step: its kind, how many, its letters -/
def stepV (g : List Int32) (what : Int32) : Int32 := if what = 0 then kN (g.headD 0) else if what = 1 then nI g.length else if kN (g.headD 0) = 1 ∧ 2 ≤ what.toInt ∧ what.toInt - 2 < g.length then g.getD (what.toInt - 2).toNat 0 else -1
/-- found among these steps, the first of which is the n-th; else x -/
def findS (x : Int32) (k what : Int32) : Nat → List (List Int32) → Int32
  | _, [] => x
  | n, g :: gs => findS (if nI n = k then stepV g what else x) k what (n + 1) gs
theorem run_loop {M : MS} {N : Nat} {c1 c2 c3 c4 c5 : Int32} (hN : N ≤ 700) (h25 : M.1 25 = nI N) : ∀ (g rest : List Int32) (n i : Nat), seg (M.2.1 20) i (g ++ rest) → i + (g ++ rest).length = N → (∀ x ∈ g, kN x = c5) → (rest = [] ∨ ∃ w r, rest = w :: r ∧ kN w ≠ c5) → g.length < n →
    L12_stepOfA_35 c1 c2 c3 c4 c5 M n (nI i) = some (nI (i + g.length)) := by
  intro g
  induction g with
  | nil =>
    intro rest n i hs hi hg hr hn
    obtain ⟨n, rfl⟩ : ∃ k, n = k + 1 := ⟨n - 1, by omega⟩
    unfold L12_stepOfA_35
    rw [List.nil_append] at hs hi
    rcases hr with rfl | ⟨w, r, rfl, hw⟩
    · rw [List.length_nil, Nat.add_zero] at hi
      rw [show gF M 25 = nI N from h25, if_pos (nI_le (by omega) (by omega))]; rfl
    · rw [List.length_cons] at hi
      rw [show gF M 25 = nI N from h25, if_neg (nI_ge (by omega) (by omega)), ld_n (show i < 700 by omega), (seg_cons hs).1, Option.bind_some, kindOf_ok, Option.bind_some, if_neg hw]; rfl
  | cons x g ih =>
    intro rest n i hs hi hg hr hn
    rw [List.cons_append] at hs hi
    rw [List.length_cons] at hi hn
    obtain ⟨n, rfl⟩ : ∃ k, n = k + 1 := ⟨n - 1, by omega⟩
    unfold L12_stepOfA_35
    rw [show gF M 25 = nI N from h25, if_neg (nI_ge (by omega) (by omega)), ld_n (show i < 700 by omega), (seg_cons hs).1, Option.bind_some, kindOf_ok, Option.bind_some, if_pos (hg x (by simp)), nI_1, ih rest n (i + 1) (seg_cons hs).2 (by omega) (fun y hy => hg y (by simp [hy])) hr (by omega), List.length_cons, show i + 1 + g.length = i + (g.length + 1) by omega]
theorem steps_loop {N : Nat} {k what : Int32} (hN : N ≤ 700) (hw : 0 ≤ what.toInt) : ∀ (m : Nat) (A : List Int32) (n i s : Nat) (x : Int32) (M : MS), A.length = m → M.1 25 = nI N → M.1 51 = nI s → s ≤ i → seg (M.2.1 20) i A → i + A.length = N → (∀ v ∈ A, okV v) → A.length < n →
    L12_stepOfA_10 k what n x (nI i) M = some (findS x k what s (stepsL A), sF M 51 (nI (s + (stepsL A).length))) := by
  intro m
  induction m using Nat.strongRecOn with
  | _ m ih =>
  intro A n i s x M hm h25 h51 hs2 hs hi hv hn
  obtain ⟨n, rfl⟩ : ∃ j, n = j + 1 := ⟨n - 1, by omega⟩
  have hself : ∀ v, M.1 51 = v → sF M 51 v = M := fun v h => by
    subst h
    refine MS_ext (fun j => ?_) (fun _ => rfl) rfl
    by_cases hj : j = 51
    · subst hj; rw [sF_get]
    · rw [sF_ne _ _ hj]
  unfold L12_stepOfA_10
  cases A with
  | nil =>
    rw [List.length_nil, Nat.add_zero] at hi
    rw [show gF M 25 = nI N from h25, if_pos (nI_le (by omega) (by omega))]
    show some (x, M) = some (x, sF M 51 (nI (s + 0)))
    rw [Nat.add_zero, hself _ h51]
  | cons v l =>
    obtain ⟨g, rest, h1, h2, h3⟩ := run_split v l
    subst h1
    have hlen : (v :: (g ++ rest)).length = g.length + 1 + rest.length := by simp; omega
    rw [hlen] at hm hi hn
    have hst := steps_run g v rest h2 h3
    have hrun := run_loop (M := M) (N := N) (c1 := k) (c2 := what) (c3 := x) (c4 := nI i) (c5 := kN v) hN h25 (v :: g) rest FU i hs (by rw [List.cons_append, hlen]; omega) (fun y hy => by
      rcases List.mem_cons.mp hy with rfl | hy
      · rfl
      · exact h2 y hy) h3 (by rw [FU_eq, List.length_cons]; omega)
    rw [List.length_cons] at hrun
    have hsg := seg_app.mp (show seg (M.2.1 20) i ((v :: g) ++ rest) from hs)
    rw [List.length_cons] at hsg
    have e1 : (if gF M 51 = k then ((if what = 0 then some (kN v) else (if what = 1 then some (nI (i + (g.length + 1)) - nI i) else (if kN v = 1 then (if what < 2 then some (-1 : Int32) else (if nI (i + (g.length + 1)) - nI i ≤ what - 2 then some (-1 : Int32) else ((ld M 20 (nI i + what - 2)).bind fun v9 => some v9))) else some (-1 : Int32)))).bind fun v7 => some v7) else some x) = some (if nI s = k then stepV (v :: g) what else x) := by
      rw [show gF M 51 = nI s from h51]
      by_cases hk : nI s = k
      · rw [if_pos hk, if_pos hk]
        unfold stepV
        rw [List.headD_cons, List.length_cons]
        by_cases w0 : what = 0
        · rw [if_pos w0, if_pos w0]; rfl
        · rw [if_neg w0, if_neg w0]
          by_cases w1 : what = 1
          · rw [if_pos w1, if_pos w1, nI_sub (by omega), show i + (g.length + 1) - i = g.length + 1 by omega]; rfl
          · rw [if_neg w1, if_neg w1]
            by_cases hkv : kN v = 1
            · have e0 : (0 : Int32).toInt = 0 := by decide
              have e1 : (1 : Int32).toInt = 1 := by decide
              have n0 : what.toInt ≠ 0 := fun h => w0 (Int32.toInt_inj.mp (by rw [h, e0]))
              have n1 : what.toInt ≠ 1 := fun h => w1 (Int32.toInt_inj.mp (by rw [h, e1]))
              have hwn : what = nI what.toInt.toNat := ofI hw
              have hw31 : what.toInt < 2 ^ 31 := Int32.toInt_lt what
              generalize hW : what.toInt.toNat = w at *
              have hwi : what.toInt = w := by omega
              rw [if_pos hkv, hwn, show (2 : Int32) = nI 2 from rfl, if_neg (nI_nlt (by omega) (by omega)), nI_sub (by omega), nI_sub (by omega), nI_add]
              rw [nI_toInt (by omega)]
              by_cases hlt : w - 2 < g.length + 1
              · rw [if_neg (nI_ge (by omega) (by omega)), nI_sub (by omega), ld_n (show i + w - 2 < 700 by omega), if_pos ⟨hkv, by omega, by omega⟩]
                have := hsg.1 (w - 2) (by rw [List.length_cons]; omega)
                rw [show i + (w - 2) = i + w - 2 by omega] at this
                rw [this, show ((w : Int) - 2).toNat = w - 2 by omega]
                rfl
              · rw [if_pos (nI_le (by omega) (by omega)), if_neg (by omega)]; rfl
            · rw [if_neg hkv, if_neg (fun h => hkv h.1)]; rfl
      · rw [if_neg hk, if_neg hk]
    have hih := ih rest.length (by omega) rest n (i + (g.length + 1)) (s + 1) (if nI s = k then stepV (v :: g) what else x) (sF M 51 (nI (s + 1))) rfl (by rw [sF_ne _ _ (by decide)]; exact h25) (sF_get _ _ _) (by omega) hsg.2 (by omega) (fun y hy => hv y (by simp [hy])) (by omega)
    rw [show gF M 25 = nI N from h25, if_neg (nI_ge (by omega) (by omega)), ld_n (show i < 700 by omega), (seg_cons hs).1, Option.bind_some, kindOf_ok, Option.bind_some, hrun, Option.bind_some, e1, Option.bind_some, show gF M 51 = nI s from h51, nI_1, hih, hst]
    show some (_, sF (sF M 51 (nI (s + 1))) 51 (nI (s + 1 + (stepsL rest).length))) = some (findS x k what s ((v :: g) :: stepsL rest), sF M 51 (nI (s + ((v :: g) :: stepsL rest).length)))
    rw [findS, List.length_cons, show s + 1 + (stepsL rest).length = s + ((stepsL rest).length + 1) by omega]
    congr 2
    refine MS_ext (fun j => ?_) (fun _ => rfl) rfl
    by_cases hj : j = 51
    · subst hj; rw [sF_get, sF_get]
    · rw [sF_ne _ _ hj, sF_ne _ _ hj, sF_ne _ _ hj]
/-- of the k-th step -/
def askS (A : List Int32) (k what : Int32) : Int32 := findS (-1) k what 0 (stepsL A)
theorem stepOfA_ok {M : MS} {A : List Int32} {k what : Int32} (hr : Row M 20 25 A) (hA : okO A) (hl : A.length ≤ 700) (hw : 0 ≤ what.toInt) : f12_stepOfA M k what = some (askS A k what, sF M 51 (nI (stepsL A).length)) := by
  unfold f12_stepOfA
  have h := steps_loop (k := k) (what := what) hl hw A.length A FU 0 0 (-1) (sF M 51 (0 : Int32)) rfl (by rw [sF_ne _ _ (by decide)]; exact hr.1) (by rw [sF_get]; rfl) (by omega) hr.2 (by omega) hA (by rw [FU_eq]; omega)
  rw [show L12_stepOfA_10 k what FU (-1 : Int32) (0 : Int32) (sF M 51 (0 : Int32)) = _ from h, bn2_s, Nat.zero_add]
  congr 2
  refine MS_ext (fun j => ?_) (fun _ => rfl) rfl
  by_cases hj : j = 51
  · subst hj; rw [sF_get, sF_get]
  · rw [sF_ne _ _ hj, sF_ne _ _ hj, sF_ne _ _ hj]
