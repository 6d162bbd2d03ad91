/-! ===== PART II, the class: the steps of an operation ===== -/
def FC : List Pt → Prop
  | [] => True
  | x :: L => okPt x ∧ (∀ y, L.head? = some y → adj x y) ∧ FC L
theorem FC_app {L : List Pt} {x : Pt} (h : FC L) (hx : okPt x) (ha : ∀ y, L.getLast? = some y → adj y x) : FC (L ++ [x]) := by
  induction L with
  | nil => exact ⟨hx, fun y hy => (by cases hy), trivial⟩
  | cons z L ih =>
    obtain ⟨h1, h2, h3⟩ := h
    rw [List.cons_append]
    cases L with
    | nil => exact ⟨h1, fun y hy => by rw [← Option.some.inj hy]; exact ha z rfl, ⟨hx, fun y hy => (by cases hy), trivial⟩⟩
    | cons w L => exact ⟨h1, h2, ih h3 (fun y hy => ha y (by rw [List.getLast?_cons_cons]; exact hy))⟩
theorem FC_of {R : List Pt} (h : CanR R) : FC R.reverse := by
  induction R with
  | nil => trivial
  | cons x r ih =>
    obtain ⟨h1, h2, h3⟩ := h
    rw [List.reverse_cons]
    exact FC_app (ih h3) h1 (fun y hy => h2 y (by rw [List.getLast?_reverse] at hy; exact hy))
theorem FC_drop {L : List Pt} (h : FC L) : ∀ i, FC (L.drop i) := by
  induction L with
  | nil => intro i; rw [List.drop_nil]; trivial
  | cons x L ih =>
    intro i
    cases i with
    | zero => exact h
    | succ i => rw [List.drop_succ_cons]; exact ih h.2.2 i
/-- how many puts stand ahead -/
def prn : List Pt → Nat
  | [] => 0
  | x :: L => if x.1 = 1 then prn L + 1 else 0
def stp : List Pt → Nat
  | [] => 1
  | x :: L => if x.1 = 1 then prn L + 1 else 1
theorem prn_le (L : List Pt) : prn L ≤ L.length := by
  induction L with
  | nil => exact Nat.le_refl _
  | cons x L ih => rw [prn]; split <;> simp <;> omega
theorem kN_dec {x : Pt} (h : okPt x) : ∀ v ∈ dec1 x, kN v = (if x.1 = 0 then 0 else if x.1 = 1 then 1 else 2) := by
  intro v hv
  unfold dec1 at hv
  unfold kN
  rcases h with ⟨h1, h2, h3⟩ | ⟨h1, h2, h3⟩ | ⟨h1, h2, h3⟩
  · rw [if_pos h1] at hv ⊢
    rw [List.eq_of_mem_replicate hv]; rfl
  · rw [if_neg (by omega), if_pos h1] at hv
    rw [if_neg (show ¬ x.1 = 0 by omega), if_pos h1, List.mem_singleton.mp hv]
    obtain ⟨u1, u2, u3, u4, u5⟩ := okP3 (v := nI x.2) ⟨x.2, h2, h3, rfl⟩
    rw [if_neg (of_eq_false u4), if_neg (of_eq_false u5)]
  · rw [if_neg (by omega), if_neg (by omega)] at hv
    rw [if_neg (show ¬ x.1 = 0 by omega), if_neg (show ¬ x.1 = 1 by omega), List.eq_of_mem_replicate hv]; rfl
theorem kN_put {L : List Pt} (h : ∀ x ∈ L, okPt x) : ∀ v ∈ decF (L.take (prn L)), kN v = 1 := by
  induction L with
  | nil => intro v hv; exact absurd hv List.not_mem_nil
  | cons x L ih =>
    intro v hv
    rw [prn] at hv
    by_cases hx : x.1 = 1
    · rw [if_pos hx, List.take_succ_cons, decF] at hv
      rcases List.mem_append.mp hv with hv | hv
      · rw [kN_dec (h x List.mem_cons_self) v hv, if_neg (by omega), if_pos hx]
      · exact ih (fun y hy => h y (List.mem_cons_of_mem _ hy)) v hv
    · rw [if_neg hx, List.take_zero] at hv
      exact absurd hv List.not_mem_nil
theorem prn_next (L : List Pt) : L.drop (prn L) = [] ∨ ∃ y L', L.drop (prn L) = y :: L' ∧ y.1 ≠ 1 := by
  induction L with
  | nil => exact Or.inl rfl
  | cons x L ih =>
    rw [prn]
    by_cases hx : x.1 = 1
    · rw [if_pos hx, List.drop_succ_cons]; exact ih
    · rw [if_neg hx]; exact Or.inr ⟨x, L, rfl, hx⟩
theorem FC_ok {L : List Pt} (h : FC L) : ∀ x ∈ L, okPt x := by
  induction L with
  | nil => intro x hx; exact absurd hx List.not_mem_nil
  | cons y L ih =>
    intro x hx
    rcases List.mem_cons.mp hx with rfl | hx
    · exact h.1
    · exact ih h.2.2 x hx
theorem decF_app (L M : List Pt) : decF (L ++ M) = decF L ++ decF M := by
  induction L with
  | nil => rfl
  | cons x L ih => rw [List.cons_append, decF, decF, ih, List.append_assoc]
theorem steps_stp {x : Pt} {L : List Pt} (h : FC (x :: L)) : stepsL (decF (x :: L)) = decF ((x :: L).take (stp (x :: L))) :: stepsL (decF ((x :: L).drop (stp (x :: L)))) := by
  obtain ⟨hx, ha, hL⟩ := id h
  have hxs := kN_dec hx
  have hne := (dec1_ne hx).1
  obtain ⟨v, d, hd⟩ : ∃ v d, dec1 x = v :: d := by
    cases hd : dec1 x with
    | nil => exact absurd hd hne
    | cons v d => exact ⟨v, d, rfl⟩
  have hkv : kN v = (if x.1 = 0 then 0 else if x.1 = 1 then 1 else 2) := hxs v (by rw [hd]; exact List.mem_cons_self)
  have hdec : ∀ (M : List Pt), (∀ y, M.head? = some y → okPt y ∧ (if y.1 = 0 then (0 : Int32) else if y.1 = 1 then 1 else 2) ≠ kN v) → (decF M = [] ∨ ∃ w r, decF M = w :: r ∧ kN w ≠ kN v) := by
    intro M hM
    cases M with
    | nil => exact Or.inl rfl
    | cons y M =>
      obtain ⟨h1, h2⟩ := hM y rfl
      cases hdy : dec1 y with
      | nil => exact absurd hdy (dec1_ne h1).1
      | cons w r =>
        refine Or.inr ⟨w, r ++ decF M, by rw [decF, hdy]; rfl, ?_⟩
        rw [kN_dec h1 w (by rw [hdy]; exact List.mem_cons_self)]
        exact h2
  by_cases hp : x.1 = 1
  · have es : stp (x :: L) = prn L + 1 := by rw [stp, if_pos hp]
    rw [es, List.take_succ_cons, List.drop_succ_cons]
    rw [if_neg (by omega), if_pos hp] at hkv
    have e1 : decF (x :: L) = v :: ((d ++ decF (L.take (prn L))) ++ decF (L.drop (prn L))) := by
      rw [decF, hd, List.cons_append, List.append_assoc, ← decF_app, List.take_append_drop]
    have e2 : decF (x :: L.take (prn L)) = v :: (d ++ decF (L.take (prn L))) := by rw [decF, hd]; rfl
    rw [e1, e2]
    refine steps_run _ v _ (fun y hy => ?_) (hdec _ (fun y hy => ?_))
    · rw [hkv]
      rcases List.mem_append.mp hy with hy | hy
      · have := hxs y (by rw [hd]; exact List.mem_cons_of_mem _ hy)
        rw [if_neg (by omega), if_pos hp] at this
        exact this
      · exact kN_put (FC_ok hL) y hy
    · rcases prn_next L with hn | ⟨y', L', hn, hy'⟩
      · rw [hn] at hy; cases hy
      · rw [hn] at hy
        have : y' = y := Option.some.inj hy
        subst this
        refine ⟨FC_ok hL y' (List.mem_of_mem_drop (by rw [hn]; exact List.mem_cons_self)), ?_⟩
        rw [hkv]
        split
        · decide
        · decide
  · have es : stp (x :: L) = 1 := by rw [stp, if_neg hp]
    rw [es, List.take_succ_cons, List.take_zero, List.drop_succ_cons, List.drop_zero]
    have e1 : decF (x :: L) = v :: (d ++ decF L) := by rw [decF, hd]; rfl
    have e2 : decF [x] = v :: d := by rw [decF, hd]; show v :: d ++ [] = _; rw [List.append_nil]
    rw [e1, e2]
    refine steps_run _ v _ (fun y hy => ?_) (hdec _ (fun y hy => ⟨FC_ok hL y (List.mem_of_mem_head? hy), ?_⟩))
    · rw [hkv]; exact hxs y (by rw [hd]; exact List.mem_cons_of_mem _ hy)
    · have := ha y hy
      have oky := FC_ok hL y (List.mem_of_mem_head? hy)
      rw [hkv]
      unfold adj at this
      unfold okPt at hx oky
      by_cases hx0 : x.1 = 0
      · rw [if_pos hx0, if_neg (show ¬ y.1 = 0 by omega)]
        split <;> decide
      · rw [if_neg hx0, if_neg hp, if_pos (show y.1 = 0 by omega)]; decide
theorem end_loop {S : CS} {o i : Nat} {R L : List Pt} {x : Pt} (hO : OpR S o R) (hd : R.reverse.drop i = x :: L) (hp : x.1 = 1) : ∀ (d j n : Nat), i + 1 + j + d = R.length → d < n → LX4_endOfStep_4 o (nI i) S n (nI (i + 1 + j)) = some (nI (i + 1 + j + prn (L.drop j))) := by
  obtain ⟨hxo, hil, hdr, a, g1, g2⟩ := pt_at hO hd
  obtain ⟨y1, y2⟩ := pt_sz hO
  intro d
  induction d with
  | zero =>
    intro j n hi hn
    obtain ⟨n, rfl⟩ : ∃ k, n = k + 1 := ⟨n - 1, by omega⟩
    unfold LX4_endOfStep_4
    have hL : L.drop j = [] := by
      rw [← hdr, List.drop_drop]
      exact List.drop_eq_nil_of_le (by rw [List.length_reverse]; omega)
    rw [y1, Option.bind_some, if_pos (nI_le (by omega) (by omega)), hL]
    rfl
  | succ d ih =>
    intro j n hi hn
    obtain ⟨n, rfl⟩ : ∃ k, n = k + 1 := ⟨n - 1, by omega⟩
    unfold LX4_endOfStep_4
    obtain ⟨y, M, hM⟩ : ∃ y M, R.reverse.drop (i + 1 + j) = y :: M := by
      cases hM : R.reverse.drop (i + 1 + j) with
      | nil => have := pt_end (by omega) hM; omega
      | cons x L => exact ⟨x, L, rfl⟩
    obtain ⟨hyo, hjl, hdr2, a2, k1, k2⟩ := pt_at hO hM
    have haa : a = a2 := Option.some.inj (g1.symm.trans k1)
    subst haa
    have hLj : L.drop j = y :: M := by rw [← hdr, List.drop_drop, hM]
    rw [y1, Option.bind_some, if_neg (nI_ge hjl (by omega)), g1, Option.bind_some, g2, Option.bind_some, isPut_pc hxo, decide_eq_true hp, Option.bind_some, if_neg (show ¬ bI true = 0 by decide), Option.bind_some, k2, Option.bind_some, isPut_pc hyo, Option.bind_some, hLj, prn]
    by_cases hy : y.1 = 1
    · rw [decide_eq_true hy, if_neg (show ¬ bI true = 0 by decide), if_pos hy, nI_1]
      have := ih (j + 1) n (by omega) (by omega)
      have e : L.drop (j + 1) = M := by rw [← List.drop_drop, hLj]; rfl
      rw [e] at this
      rw [show i + 1 + j + 1 = i + 1 + (j + 1) by omega, this]
      congr 2
      omega
    · rw [decide_eq_false hy, if_pos (show bI false = 0 from rfl), if_neg hy]; rfl
theorem endOf {S : CS} {o i : Nat} {R L : List Pt} {x : Pt} (hW : Wf S) (hO : OpR S o R) (hd : R.reverse.drop i = x :: L) : f4_endOfStep S o (nI i) = some (nI (i + stp (x :: L))) := by
  obtain ⟨hxo, hil, hdr, a, g1, g2⟩ := pt_at hO hd
  obtain ⟨y1, y2⟩ := pt_sz hO
  have hl := OpR_len hW hO
  have hFU := FU_gt
  unfold f4_endOfStep
  rw [nI_1]
  by_cases hp : x.1 = 1
  · have := end_loop hO hd hp (R.length - (i + 1)) 0 FU (by omega) (by omega)
    rw [Nat.add_zero, List.drop_zero] at this
    rw [this, stp, if_pos hp]
    show some _ = some _
    congr 2
    omega
  · obtain ⟨n, hn⟩ : ∃ k, FU = k + 1 := ⟨FU - 1, by omega⟩
    rw [hn]
    unfold LX4_endOfStep_4
    rw [stp, if_neg hp, y1, Option.bind_some]
    by_cases hs : R.length ≤ i + 1
    · rw [if_pos (nI_le hs (by omega))]; rfl
    · rw [if_neg (nI_ge (by omega) (by omega)), g1, Option.bind_some, g2, Option.bind_some, isPut_pc hxo, decide_eq_false hp, Option.bind_some, if_pos (show bI false = 0 from rfl)]; rfl
theorem stp_pos (L : List Pt) : 1 ≤ stp L := by
  cases L with
  | nil => exact Nat.le_refl _
  | cons x L => rw [stp]; split <;> omega
theorem stp_le (x : Pt) (L : List Pt) : stp (x :: L) ≤ (x :: L).length := by
  rw [stp, List.length_cons]
  have := prn_le L
  split <;> omega
theorem steps_ex {L : List Pt} (h : FC L) : (stepsL (decF L)).length ≤ L.length := by
  have key : ∀ (n : Nat) (L : List Pt), L.length ≤ n → FC L → (stepsL (decF L)).length ≤ L.length := by
    intro n
    induction n with
    | zero => intro L hl h; rw [List.length_eq_zero_iff.mp (show L.length = 0 by omega)]; exact Nat.le_refl _
    | succ n ih =>
      intro L hl h
      cases L with
      | nil => exact Nat.le_refl _
      | cons x L =>
        rw [steps_stp h, List.length_cons]
        have h1 := stp_pos (x :: L)
        have h2 := stp_le x L
        have hdl : ((x :: L).drop (stp (x :: L))).length = (x :: L).length - stp (x :: L) := List.length_drop
        have := ih ((x :: L).drop (stp (x :: L))) (by omega) (FC_drop h _)
        omega
  exact key L.length L (Nat.le_refl _) h
theorem cnt_loop {S : CS} {o : Nat} {R : List Pt} (hW : Wf S) (hO : OpR S o R) : ∀ (m i n c : Nat), R.length - i ≤ m → i ≤ R.length → m < n → LX4_countSteps_4 o S n (nI c) (nI i) = some (nI (c + (stepsL (decF (R.reverse.drop i))).length)) := by
  obtain ⟨y1, y2⟩ := pt_sz hO
  have hfc := FC_of hO.1
  intro m
  induction m with
  | zero =>
    intro i n c hi hl hn
    obtain ⟨n, rfl⟩ : ∃ k, n = k + 1 := ⟨n - 1, by omega⟩
    unfold LX4_countSteps_4
    have hd : R.reverse.drop i = [] := List.drop_eq_nil_of_le (by rw [List.length_reverse]; omega)
    rw [y1, Option.bind_some, if_pos (nI_le (by omega) (by omega)), hd]
    rfl
  | succ m ih =>
    intro i n c hi hl hn
    obtain ⟨n, rfl⟩ : ∃ k, n = k + 1 := ⟨n - 1, by omega⟩
    unfold LX4_countSteps_4
    rw [y1, Option.bind_some]
    cases hd : R.reverse.drop i with
    | nil =>
      have := pt_end hl hd
      rw [if_pos (nI_le (by omega) (by omega))]
      rfl
    | cons x L =>
      have hil := (pt_at hO hd).2.1
      have hf := FC_drop hfc i
      rw [hd] at hf
      have h1 := stp_pos (x :: L)
      have h2 := stp_le x L
      have hlen : (x :: L).length = R.length - i := by rw [← hd, List.length_drop, List.length_reverse]
      rw [if_neg (nI_ge hil (by omega)), cal_k (OpR_kd hO), endOf hW hO hd, Option.bind_some, nI_1, ih (i + stp (x :: L)) n (c + 1) (by omega) (by omega) (by omega), steps_stp hf, ← List.drop_drop, hd, List.length_cons]
      congr 2
      omega
theorem countSteps_N {S : CS} {o : Nat} {A : List Int32} (hW : Wf S) (hO : OpL S o A) : f4_countSteps S o = some (nI (stepsL A).length) := by
  obtain ⟨R, hR, dA⟩ := hO
  have hlR := OpR_len hW hR
  have hFU := FU_gt
  have := cnt_loop hW hR R.length 0 FU 0 (by omega) (by omega) (by omega)
  rw [List.drop_zero, decF_R, dA, Nat.zero_add] at this
  unfold f4_countSteps
  have this' : LX4_countSteps_4 o S FU 0 0 = some (nI (stepsL A).length) := this
  rw [this']; rfl
