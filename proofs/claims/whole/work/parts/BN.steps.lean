/-! ===== PART II, the class: the steps of an operation ===== -/
def FC : List Pt → Prop
  | [] => True
  | x :: L => okPt x ∧ (∀ y, L.head? = some y → adj x y) ∧ FC L
theorem FC_app {L : List Pt} {x : Pt} (h : FC L) (hx : okPt x) (ha : ∀ y, L.getLast? = some y → adj y x) : FC (L ++ [x]) := by
  induction L with
  | nil => exact ⟨hx, fun y hy => (by cases hy), trivial⟩
  | cons z L ih =>
    obtain ⟨h1, h2, h3⟩ := h
    rw [List.cons_append]
    cases L with
    | nil => exact ⟨h1, fun y hy => by rw [← Option.some.inj hy]; exact ha z rfl, ⟨hx, fun y hy => (by cases hy), trivial⟩⟩
    | cons w L => exact ⟨h1, h2, ih h3 (fun y hy => ha y (by rw [List.getLast?_cons_cons]; exact hy))⟩
theorem FC_of {R : List Pt} (h : CanR R) : FC R.reverse := by
  induction R with
  | nil => trivial
  | cons x r ih =>
    obtain ⟨h1, h2, h3⟩ := h
    rw [List.reverse_cons]
    exact FC_app (ih h3) h1 (fun y hy => h2 y (by rw [List.getLast?_reverse] at hy; exact hy))
theorem FC_drop {L : List Pt} (h : FC L) : ∀ i, FC (L.drop i) := by
  induction L with
  | nil => intro i; rw [List.drop_nil]; trivial
  | cons x L ih =>
    intro i
    cases i with
    | zero => exact h
    | succ i => rw [List.drop_succ_cons]; exact ih h.2.2 i
/-- how many puts stand ahead -/
def prn : List Pt → Nat
  | [] => 0
  | x :: L => if x.1 = 1 then prn L + 1 else 0
def stp : List Pt → Nat
  | [] => 1
  | x :: L => if x.1 = 1 then prn L + 1 else 1
theorem prn_le (L : List Pt) : prn L ≤ L.length := by
  induction L with
  | nil => exact Nat.le_refl _
  | cons x L ih => rw [prn]; split <;> simp <;> omega
theorem kN_dec {x : Pt} (h : okPt x) : ∀ v ∈ dec1 x, kN v = (if x.1 = 0 then 0 else if x.1 = 1 then 1 else 2) := by
  intro v hv
  unfold dec1 at hv
  unfold kN
  rcases h with ⟨h1, h2, h3⟩ | ⟨h1, h2, h3⟩ | ⟨h1, h2, h3⟩
  · rw [if_pos h1] at hv ⊢
    rw [List.eq_of_mem_replicate hv]; rfl
  · rw [if_neg (by omega), if_pos h1] at hv
    rw [if_neg (show ¬ x.1 = 0 by omega), if_pos h1, List.mem_singleton.mp hv]
    obtain ⟨u1, u2, u3, u4, u5⟩ := okP3 (v := nI x.2) ⟨x.2, h2, h3, rfl⟩
    rw [if_neg (of_eq_false u4), if_neg (of_eq_false u5)]
  · rw [if_neg (by omega), if_neg (by omega)] at hv
    rw [if_neg (show ¬ x.1 = 0 by omega), if_neg (show ¬ x.1 = 1 by omega), List.eq_of_mem_replicate hv]; rfl
theorem kN_put {L : List Pt} (h : ∀ x ∈ L, okPt x) : ∀ v ∈ decF (L.take (prn L)), kN v = 1 := by
  induction L with
  | nil => intro v hv; exact absurd hv List.not_mem_nil
  | cons x L ih =>
    intro v hv
    rw [prn] at hv
    by_cases hx : x.1 = 1
    · rw [if_pos hx, List.take_succ_cons, decF] at hv
      rcases List.mem_append.mp hv with hv | hv
      · rw [kN_dec (h x List.mem_cons_self) v hv, if_neg (by omega), if_pos hx]
      · exact ih (fun y hy => h y (List.mem_cons_of_mem _ hy)) v hv
    · rw [if_neg hx, List.take_zero] at hv
      exact absurd hv List.not_mem_nil
theorem prn_next (L : List Pt) : L.drop (prn L) = [] ∨ ∃ y L', L.drop (prn L) = y :: L' ∧ y.1 ≠ 1 := by
  induction L with
  | nil => exact Or.inl rfl
  | cons x L ih =>
    rw [prn]
    by_cases hx : x.1 = 1
    · rw [if_pos hx, List.drop_succ_cons]; exact ih
    · rw [if_neg hx]; exact Or.inr ⟨x, L, rfl, hx⟩
theorem FC_ok {L : List Pt} (h : FC L) : ∀ x ∈ L, okPt x := by
  induction L with
  | nil => intro x hx; exact absurd hx List.not_mem_nil
  | cons y L ih =>
    intro x hx
    rcases List.mem_cons.mp hx with rfl | hx
    · exact h.1
    · exact ih h.2.2 x hx
theorem decF_app (L M : List Pt) : decF (L ++ M) = decF L ++ decF M := by
  induction L with
  | nil => rfl
  | cons x L ih => rw [List.cons_append, decF, decF, ih, List.append_assoc]
theorem steps_stp {x : Pt} {L : List Pt} (h : FC (x :: L)) : stepsL (decF (x :: L)) = decF ((x :: L).take (stp (x :: L))) :: stepsL (decF ((x :: L).drop (stp (x :: L)))) := by
  obtain ⟨hx, ha, hL⟩ := id h
  have hxs := kN_dec hx
  have hne := (dec1_ne hx).1
  obtain ⟨v, d, hd⟩ : ∃ v d, dec1 x = v :: d := by
    cases hd : dec1 x with
    | nil => exact absurd hd hne
    | cons v d => exact ⟨v, d, rfl⟩
  have hkv : kN v = (if x.1 = 0 then 0 else if x.1 = 1 then 1 else 2) := hxs v (by rw [hd]; exact List.mem_cons_self)
  have hdec : ∀ (M : List Pt), (∀ y, M.head? = some y → okPt y ∧ (if y.1 = 0 then (0 : Int32) else if y.1 = 1 then 1 else 2) ≠ kN v) → (decF M = [] ∨ ∃ w r, decF M = w :: r ∧ kN w ≠ kN v) := by
    intro M hM
    cases M with
    | nil => exact Or.inl rfl
    | cons y M =>
      obtain ⟨h1, h2⟩ := hM y rfl
      cases hdy : dec1 y with
      | nil => exact absurd hdy (dec1_ne h1).1
      | cons w r =>
        refine Or.inr ⟨w, r ++ decF M, by rw [decF, hdy]; rfl, ?_⟩
        rw [kN_dec h1 w (by rw [hdy]; exact List.mem_cons_self)]
        exact h2
  by_cases hp : x.1 = 1
  · have es : stp (x :: L) = prn L + 1 := by rw [stp, if_pos hp]
    rw [es, List.take_succ_cons, List.drop_succ_cons]
    rw [if_neg (by omega), if_pos hp] at hkv
    have e1 : decF (x :: L) = v :: ((d ++ decF (L.take (prn L))) ++ decF (L.drop (prn L))) := by
      rw [decF, hd, List.cons_append, List.append_assoc, ← decF_app, List.take_append_drop]
    have e2 : decF (x :: L.take (prn L)) = v :: (d ++ decF (L.take (prn L))) := by rw [decF, hd]; rfl
    rw [e1, e2]
    refine steps_run _ v _ (fun y hy => ?_) (hdec _ (fun y hy => ?_))
    · rw [hkv]
      rcases List.mem_append.mp hy with hy | hy
      · have := hxs y (by rw [hd]; exact List.mem_cons_of_mem _ hy)
        rw [if_neg (by omega), if_pos hp] at this
        exact this
      · exact kN_put (FC_ok hL) y hy
    · rcases prn_next L with hn | ⟨y', L', hn, hy'⟩
      · rw [hn] at hy; cases hy
      · rw [hn] at hy
        have : y' = y := Option.some.inj hy
        subst this
        refine ⟨FC_ok hL y' (List.mem_of_mem_drop (by rw [hn]; exact List.mem_cons_self)), ?_⟩
        rw [hkv]
        split
        · decide
        · decide
  · have es : stp (x :: L) = 1 := by rw [stp, if_neg hp]
    rw [es, List.take_succ_cons, List.take_zero, List.drop_succ_cons, List.drop_zero]
    have e1 : decF (x :: L) = v :: (d ++ decF L) := by rw [decF, hd]; rfl
    have e2 : decF [x] = v :: d := by rw [decF, hd]; show v :: d ++ [] = _; rw [List.append_nil]
    rw [e1, e2]
    refine steps_run _ v _ (fun y hy => ?_) (hdec _ (fun y hy => ⟨FC_ok hL y (List.mem_of_mem_head? hy), ?_⟩))
    · rw [hkv]; exact hxs y (by rw [hd]; exact List.mem_cons_of_mem _ hy)
    · have := ha y hy
      have oky := FC_ok hL y (List.mem_of_mem_head? hy)
      rw [hkv]
      unfold adj at this
      unfold okPt at hx oky
      by_cases hx0 : x.1 = 0
      · rw [if_pos hx0, if_neg (show ¬ y.1 = 0 by omega)]
        split <;> decide
      · rw [if_neg hx0, if_neg hp, if_pos (show y.1 = 0 by omega)]; decide
/-- b: the part ahead of place i is a put -/
def PrvP (R : List Pt) (i : Nat) (b : Bool) : Prop := (i = 0 ∧ b = false) ∨ ∃ j w, i = j + 1 ∧ R.reverse.drop j = w :: R.reverse.drop i ∧ b = decide (w.1 = 1)
theorem PrvP_0 (R : List Pt) : PrvP R 0 false := Or.inl ⟨rfl, rfl⟩
theorem PrvP_S {R L : List Pt} {i : Nat} {x : Pt} (hd : R.reverse.drop i = x :: L) : PrvP R (i + 1) (decide (x.1 = 1)) :=
  Or.inr ⟨i, x, rfl, by rw [← List.drop_drop, hd]; rfl, rfl⟩
theorem begs {S : CS} {o i : Nat} {R L : List Pt} {x : Pt} {b : Bool} (hO : OpR S o R) (hd : R.reverse.drop i = x :: L) (hp : PrvP R i b) : f4_beginsStep S o (nI i) = some (bI (!(b && decide (x.1 = 1)))) := by
  obtain ⟨hxo, hil, hdr, a, g1, g2⟩ := pt_at hO hd
  obtain ⟨y1, y2⟩ := pt_sz hO
  unfold f4_beginsStep
  rcases hp with ⟨h0, hb⟩ | ⟨j, w, hj, hw, hb⟩
  · subst h0; subst hb
    rw [if_pos (show nI 0 = 0 from rfl)]; rfl
  · subst hj
    obtain ⟨hwo, hjl, hdr2, a2, k1, k2⟩ := pt_at hO hw
    have haa : a = a2 := Option.some.inj (g1.symm.trans k1)
    subst haa
    rw [if_neg (fun e => by
      have := congrArg Int32.toInt e
      rw [nI_toInt (by omega), show (0 : Int32).toInt = 0 from by decide] at this
      omega), g1, Option.bind_some, g2, Option.bind_some, isPut_pc hxo, Option.bind_some]
    by_cases hx : x.1 = 1
    · have e1 : nI (j + 1) - 1 = nI j := by rw [show (1 : Int32) = nI 1 from rfl, nI_sub (by omega), Nat.add_sub_cancel]
      rw [decide_eq_true hx, if_neg (show ¬ bI true = 0 by decide), Option.bind_some, e1, k2, Option.bind_some, isPut_pc hwo, Option.bind_some, hb]
      by_cases hw1 : w.1 = 1
      · rw [decide_eq_true hw1, if_neg (show ¬ bI true = 0 by decide)]; rfl
      · rw [decide_eq_false hw1, if_pos (show bI false = 0 from rfl)]; rfl
    · rw [decide_eq_false hx, if_pos (show bI false = 0 from rfl), Bool.and_false]; rfl
theorem end_loop {S : CS} {o : Nat} {R : List Pt} (hO : OpR S o R) : ∀ (d k n : Nat) (b : Bool), k + d = R.length → d < n → PrvP R k b → LX4_endOfStep_4 o S n (nI k) = some (nI (k + (if b then prn (R.reverse.drop k) else 0))) := by
  obtain ⟨y1, y2⟩ := pt_sz hO
  intro d
  induction d with
  | zero =>
    intro k n b hk hn hp
    obtain ⟨n, rfl⟩ : ∃ m, n = m + 1 := ⟨n - 1, by omega⟩
    unfold LX4_endOfStep_4
    have hL : R.reverse.drop k = [] := List.drop_eq_nil_of_le (by rw [List.length_reverse]; omega)
    rw [y1, Option.bind_some, if_pos (nI_le (by omega) (by omega)), hL]
    cases b <;> rfl
  | succ d ih =>
    intro k n b hk hn hp
    obtain ⟨n, rfl⟩ : ∃ m, n = m + 1 := ⟨n - 1, by omega⟩
    unfold LX4_endOfStep_4
    obtain ⟨y, M, hM⟩ : ∃ y M, R.reverse.drop k = y :: M := by
      cases hM : R.reverse.drop k with
      | nil => have := pt_end (by omega) hM; omega
      | cons x L => exact ⟨x, L, rfl⟩
    obtain ⟨hyo, hjl, hdr2, a2, k1, k2⟩ := pt_at hO hM
    rw [y1, Option.bind_some, if_neg (nI_ge hjl (by omega)), cal_k (OpR_kd hO), begs hO hM hp, Option.bind_some, hM]
    cases b with
    | false => rw [Bool.false_and, if_neg (show ¬ bI (!false) = 0 by decide)]; rfl
    | true =>
      by_cases hy : y.1 = 1
      · have h1 := ih (k + 1) n true (by omega) (by omega) (by have := PrvP_S hM; rw [decide_eq_true hy] at this; exact this)
        rw [if_pos rfl, hdr2] at h1
        rw [decide_eq_true hy, Bool.true_and, if_pos (show bI (!true) = 0 from rfl), nI_1, h1, if_pos rfl, prn, if_pos hy]
        congr 2
        omega
      · rw [decide_eq_false hy, Bool.true_and, if_neg (show ¬ bI (!false) = 0 by decide), if_pos rfl, prn, if_neg hy]; rfl
theorem endOf {S : CS} {o i : Nat} {R L : List Pt} {x : Pt} (hW : Wf S) (hO : OpR S o R) (hd : R.reverse.drop i = x :: L) : f4_endOfStep S o (nI i) = some (nI (i + stp (x :: L))) := by
  obtain ⟨hxo, hil, hdr, a, g1, g2⟩ := pt_at hO hd
  obtain ⟨y1, y2⟩ := pt_sz hO
  have hl := OpR_len hW hO
  have hFU := FU_gt
  unfold f4_endOfStep
  rw [nI_1, end_loop hO (R.length - (i + 1)) (i + 1) FU _ (by omega) (by omega) (PrvP_S hd), hdr, Option.bind_some, stp]
  by_cases hp : x.1 = 1
  · rw [decide_eq_true hp, if_pos rfl, if_pos hp]
    congr 2
    omega
  · rw [decide_eq_false hp, if_neg (by decide), if_neg hp]
theorem stp_pos (L : List Pt) : 1 ≤ stp L := by
  cases L with
  | nil => exact Nat.le_refl _
  | cons x L => rw [stp]; split <;> omega
theorem stp_le (x : Pt) (L : List Pt) : stp (x :: L) ≤ (x :: L).length := by
  rw [stp, List.length_cons]
  have := prn_le L
  split <;> omega
theorem steps_ex {L : List Pt} (h : FC L) : (stepsL (decF L)).length ≤ L.length := by
  have key : ∀ (n : Nat) (L : List Pt), L.length ≤ n → FC L → (stepsL (decF L)).length ≤ L.length := by
    intro n
    induction n with
    | zero => intro L hl h; rw [List.length_eq_zero_iff.mp (show L.length = 0 by omega)]; exact Nat.le_refl _
    | succ n ih =>
      intro L hl h
      cases L with
      | nil => exact Nat.le_refl _
      | cons x L =>
        rw [steps_stp h, List.length_cons]
        have h1 := stp_pos (x :: L)
        have h2 := stp_le x L
        have hdl : ((x :: L).drop (stp (x :: L))).length = (x :: L).length - stp (x :: L) := List.length_drop
        have := ih ((x :: L).drop (stp (x :: L))) (by omega) (FC_drop h _)
        omega
  exact key L.length L (Nat.le_refl _) h
/-- from where the next STEP begins, after a part that is (or isn't) a put -/
def nxP (b : Bool) (L : List Pt) : List Pt := if b then L.drop (prn L) else L
theorem nxP_nil (b : Bool) : nxP b [] = [] := by cases b <;> rfl
theorem nxP_put {x : Pt} {L : List Pt} (h : x.1 = 1) : nxP true (x :: L) = nxP true L := by
  unfold nxP
  rw [if_pos rfl, if_pos rfl, prn, if_pos h, List.drop_succ_cons]
theorem nxP_beg {b : Bool} {x : Pt} {L : List Pt} (h : (b && decide (x.1 = 1)) = false) : nxP b (x :: L) = x :: L := by
  unfold nxP
  cases b with
  | false => rfl
  | true =>
    have hx : ¬ x.1 = 1 := by rw [Bool.true_and] at h; exact of_decide_eq_false h
    rw [if_pos rfl, prn, if_neg hx, List.drop_zero]
theorem nxP_stp (x : Pt) (L : List Pt) : (x :: L).drop (stp (x :: L)) = nxP (decide (x.1 = 1)) L := by
  unfold nxP
  rw [stp]
  by_cases h : x.1 = 1
  · rw [if_pos h, decide_eq_true h, if_pos rfl, List.drop_succ_cons]
  · rw [if_neg h, decide_eq_false h, if_neg (by decide)]; rfl
theorem and_tt {b : Bool} {x : Pt} (h : (b && decide (x.1 = 1)) = true) : b = true ∧ x.1 = 1 := by
  cases b with
  | false => cases h
  | true => rw [Bool.true_and] at h; exact ⟨rfl, of_decide_eq_true h⟩
theorem cnt_loop {S : CS} {o : Nat} {R : List Pt} (hO : OpR S o R) : ∀ (d i n c : Nat) (b : Bool), i + d = R.length → d < n → PrvP R i b → LX4_countSteps_4 o S n (nI c) (nI i) = some (nI (c + (stepsL (decF (nxP b (R.reverse.drop i)))).length)) := by
  obtain ⟨y1, y2⟩ := pt_sz hO
  have hfc := FC_of hO.1
  intro d
  induction d with
  | zero =>
    intro i n c b hi hn hp
    obtain ⟨n, rfl⟩ : ∃ k, n = k + 1 := ⟨n - 1, by omega⟩
    unfold LX4_countSteps_4
    have hd : R.reverse.drop i = [] := List.drop_eq_nil_of_le (by rw [List.length_reverse]; omega)
    rw [y1, Option.bind_some, if_pos (nI_le (by omega) (by omega)), hd, nxP_nil]
    rfl
  | succ d ih =>
    intro i n c b hi hn hp
    obtain ⟨n, rfl⟩ : ∃ k, n = k + 1 := ⟨n - 1, by omega⟩
    unfold LX4_countSteps_4
    cases hd : R.reverse.drop i with
    | nil =>
      have := pt_end (by omega) hd
      omega
    | cons x L =>
      obtain ⟨hxo, hil, hdr, _⟩ := pt_at hO hd
      have hf := FC_drop hfc i
      rw [hd] at hf
      have hps := PrvP_S hd
      rw [y1, Option.bind_some, if_neg (nI_ge hil (by omega)), cal_k (OpR_kd hO), begs hO hd hp, Option.bind_some]
      cases hb : (b && decide (x.1 = 1)) with
      | true =>
        obtain ⟨rfl, hx⟩ := and_tt hb
        have h1 := ih (i + 1) n c true (by omega) (by omega) (by rw [decide_eq_true hx] at hps; exact hps)
        rw [hdr] at h1
        rw [if_pos (show bI (!true) = 0 from rfl), Option.bind_some, nI_1, show nI c + 0 = nI c from Int32.add_zero _, h1, nxP_put hx]
      | false =>
        have h1 := ih (i + 1) n (c + 1) _ (by omega) (by omega) hps
        rw [hdr] at h1
        rw [if_neg (show ¬ bI (!false) = 0 by decide), Option.bind_some, nI_1, nI_1, h1, nxP_beg hb, steps_stp hf, nxP_stp, List.length_cons]
        congr 2
        omega
theorem countSteps_N {S : CS} {o : Nat} {A : List Int32} (hW : Wf S) (hO : OpL S o A) : f4_countSteps S o = some (nI (stepsL A).length) := by
  obtain ⟨R, hR, dA⟩ := hO
  have hlR := OpR_len hW hR
  have hFU := FU_gt
  have := cnt_loop hR R.length 0 FU 0 false (by omega) (by omega) (PrvP_0 R)
  rw [List.drop_zero, show nxP false R.reverse = R.reverse from rfl, decF_R, dA, Nat.zero_add] at this
  unfold f4_countSteps
  have this' : LX4_countSteps_4 o S FU 0 0 = some (nI (stepsL A).length) := this
  rw [this']; rfl
