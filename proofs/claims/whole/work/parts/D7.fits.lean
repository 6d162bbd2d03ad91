/-! ===== PART II, the class: orders, ends, fits ===== -/
section AP
variable {S S' : CS} {z fi ch c : Nat} {A A' : St} {K : Nat → Option Nat} {H : Nat → Prop} {X : Nat × Nat}
def EvR (z : Nat) (A : St) (K : Nat → Option Nat) (fi ch : Nat) (S : CS) (o : Option (Int32 × CS)) (r : Int32) : Prop := ∃ S', o = some (r, S') ∧ CR S' z A K fi ch ∧ Cst z 6720 S S'
theorem EvR_no (h : CR S z A K fi ch) (r : Int32) : EvR z A K fi ch S (some (r, S)) r := ⟨S, rfl, h, Cst_mono (Cst_rf z S) (by omega)⟩
theorem ends_C (h : CR S z A K fi ch) (hg : GA A) (hR : Rm z X (6720 + c) S) (p k : Int32) : EvR z A K fi ch S (f11_ends X S z p k) (qEnds A p k) := by
  obtain ⟨hW, hT, hTp, hTf, hsh, hwd, ha, hk, hh, hc⟩ := id h
  have hc4 := hg.2.2.1.1
  have hl24 := ends_len hg
  obtain ⟨t0, t1, t2, t3, t4, t5, t6, t7, t8, t9⟩ := TpS_g hT
  unfold f11_ends qEnds
  rw [t3, Option.bind_some, gi_k hwd.1.1, hwd.2.1.1, Option.bind_some]
  by_cases h0 : aCnt A = 0
  · rw [h0, if_pos (show nI 0 = (0 : Int32) from rfl), if_neg (fun hh => by omega)]
    exact EvR_no h _
  · rw [if_neg (nI_ne0 (by omega) (by omega))]
    obtain ⟨S3, e3, C3, E3, k3⟩ := reckonEnds_C (X := X) (c := c) h hg hR
    have q0 := C3.2.1.2.2.2.2.2.1
    have v6 := (TpS_g C3.2.1).2.2.2.2.2.2.1
    rw [e3, Option.bind_some]
    by_cases h1 : p < 0
    · rw [if_pos h1, Option.bind_some, if_neg (fun hh => by rw [Int32.lt_iff_toInt_lt, i0] at h1; omega)]
      exact ⟨S3, rfl, C3, k3⟩
    · rw [if_neg h1, v6, Option.bind_some, gi_k q0.1, E3.1, Option.bind_some]
      rw [Int32.lt_iff_toInt_lt, i0] at h1
      by_cases h2 : nI (endsA A).length ≤ p
      · rw [if_pos h2, Option.bind_some, if_neg (fun hh => by rw [i_ge (by omega)] at h2; omega)]
        exact ⟨S3, rfl, C3, k3⟩
      · rw [if_neg h2]
        rw [i_ge (by omega)] at h2
        have hpn := nI_ofInt (p := p) (by omega)
        have ht := List.getElem?_eq_getElem (show p.toInt.toNat < (endsA A).length by omega)
        obtain ⟨n24, x1, t', x2, x3⟩ := end_at C3 E3 hl24 ht
        rw [← hpn] at x1
        rw [Option.bind_some, gr_k q0.1 q0.2.1, Option.bind_some, x1, Option.bind_some, cal_k (TxL_kd x2), askTx x2, x3, Option.bind_some, Option.bind_some]
        refine ⟨S3, ?_, C3, k3⟩
        congr 2
        have hgd : (endsA A).getD p.toInt.toNat [] = (endsA A)[p.toInt.toNat] := by rw [List.getD_eq_getElem?_getD, ht]; rfl
        by_cases hk1 : -1 ≤ k.toInt
        · rw [if_pos ⟨by omega, hk1, by omega, by omega⟩, hgd]
        · rw [if_neg (fun hh => hk1 hh.2.1)]
          unfold askT
          rw [if_neg (fun e => hk1 (by rw [e]; decide)), if_neg (fun hh => hk1 (by omega))]
theorem unl_inner (h : CR S z A K fi ch) (hg : GA A) (hE : EndC S z A) {i : Nat} {t : List Int32} {c1 : Int32} (ht : (endsA A)[i]? = some t) : ∀ (d j n : Nat), j + d = i → d < n → ∃ r : Bool, LX0_countUnlike_17 (z + 599) c1 (nI i) S n 1 (nI j) = some (bI r) ∧ (r = true ↔ ∀ q, j ≤ q → q < i → (endsA A)[q]? ≠ some t) := by
  have hl24 := ends_len hg
  have q0 := h.2.1.2.2.2.2.2.1
  have hok := ends_okP hg
  obtain ⟨n24, x1, t', x2, x3⟩ := end_at h hE hl24 ht
  intro d
  induction d with
  | zero =>
    intro j n hj hn
    obtain ⟨n, rfl⟩ : ∃ k, n = k + 1 := ⟨n - 1, by omega⟩
    unfold LX0_countUnlike_17
    rw [if_pos (nI_le (by omega) (by omega))]
    exact ⟨true, rfl, fun _ q q1 q2 => by omega, fun _ => rfl⟩
  | succ d ih =>
    intro j n hj hn
    obtain ⟨n, rfl⟩ : ∃ k, n = k + 1 := ⟨n - 1, by omega⟩
    have hi := (List.getElem?_eq_some_iff.mp ht).1
    have hs := List.getElem?_eq_getElem (show j < (endsA A).length by omega)
    generalize (endsA A)[j] = s at hs
    obtain ⟨m24, y1, s', y2, y3⟩ := end_at h hE hl24 hs
    unfold LX0_countUnlike_17
    rw [if_neg (nI_ge (by omega) (by omega)), if_neg (by decide), gr_k q0.1 q0.2.1, Option.bind_some, x1, Option.bind_some, Option.bind_some, y1, Option.bind_some, cal_k (TxL_kd x2), isLike_C x2 x3 y2 y3 (hok t (List.mem_of_getElem? ht)) (hok s (List.mem_of_getElem? hs)), Option.bind_some]
    by_cases hst : t = s
    · rw [decide_eq_true hst, if_neg (show ¬ bI true = 0 by decide), Option.bind_some]
      refine ⟨false, ?_, fun hh => (by cases hh), fun hh => absurd (by rw [hs, hst]) (hh j (Nat.le_refl _) (by omega))⟩
      obtain ⟨n, rfl⟩ : ∃ k, n = k + 1 := ⟨n - 1, by omega⟩
      unfold LX0_countUnlike_17
      rw [if_pos (show (0 : Int32) = 0 from rfl)]
      split <;> rfl
    · rw [decide_eq_false hst, if_pos (show bI false = 0 from rfl), Option.bind_some, nI_1]
      obtain ⟨r, r1, r2⟩ := ih (j + 1) n (by omega) (by omega)
      refine ⟨r, r1, r2.trans ⟨fun hh q q1 q2 => ?_, fun hh q q1 q2 => hh q (by omega) q2⟩⟩
      by_cases hqj : q = j
      · subst hqj
        rw [hs]
        intro e
        exact hst (Option.some.inj e).symm
      · exact hh q (by omega) q2
theorem unl_le (ts : List (List Int32)) (n : Nat) : unl ts n ≤ n := by
  induction n with
  | zero => exact Nat.le_refl _
  | succ n ih => rw [unl]; split <;> omega
theorem unl_loopC (h : CR S z A K fi ch) (hg : GA A) (hE : EndC S z A) : ∀ (d i n : Nat), i + d = (endsA A).length → d < n → LX0_countUnlike_4 (z + 599) S n (nI (unl (endsA A) i)) (nI i) = some (nI (unl (endsA A) (endsA A).length)) := by
  have hl24 := ends_len hg
  have q0 := h.2.1.2.2.2.2.2.1
  intro d
  induction d with
  | zero =>
    intro i n hi hn
    obtain ⟨n, rfl⟩ : ∃ k, n = k + 1 := ⟨n - 1, by omega⟩
    unfold LX0_countUnlike_4
    rw [gi_k q0.1, hE.1, Option.bind_some, if_pos (nI_le (by omega) (by omega)), show (endsA A).length = i by omega]
  | succ d ih =>
    intro i n hi hn
    obtain ⟨n, rfl⟩ : ∃ k, n = k + 1 := ⟨n - 1, by omega⟩
    have ht := List.getElem?_eq_getElem (show i < (endsA A).length by omega)
    generalize (endsA A)[i] = t at ht
    obtain ⟨r, r1, r2⟩ := unl_inner (c1 := nI (unl (endsA A) i)) h hg hE ht i 0 FU (by omega) (by rw [FU_eq]; omega)
    have hgd : (endsA A).getD i [] = t := by rw [List.getD_eq_getElem?_getD, ht]; rfl
    have hu : unl (endsA A) (i + 1) = unl (endsA A) i + (if r then 1 else 0) := by
      rw [unl, hgd]
      congr 1
      cases r with
      | true =>
        rw [if_neg (fun hm => by
          obtain ⟨q, q1, q2⟩ := mem_take_iff.mp hm
          exact r2.mp rfl q (by omega) q1 q2)]; rfl
      | false =>
        rw [if_pos (Decidable.byContradiction fun hm => by
          have := r2.mpr (fun q q1 q2 e => hm (mem_take_iff.mpr ⟨q, q2, e⟩))
          cases this)]; rfl
    unfold LX0_countUnlike_4
    rw [gi_k q0.1, hE.1, Option.bind_some, if_neg (nI_ge (by omega) (by omega)), show LX0_countUnlike_17 (z + 599) (nI (unl (endsA A) i)) (nI i) S FU 1 0 = some (bI r) from r1, Option.bind_some]
    have hb : (if bI r = 0 then some (0 : Int32) else some 1) = some (nI (if r then 1 else 0)) := by cases r <;> rfl
    rw [hb, Option.bind_some, nI_add, ← hu, nI_1, ih (i + 1) n (by omega) (by omega)]
theorem orders_C (h : CR S z A K fi ch) (hg : GA A) (hR : Rm z X (6720 + c) S) (p : Int32) : EvR z A K fi ch S (f11_orders X S z p) (qOrders A p) := by
  obtain ⟨hW, hT, hTp, hTf, hsh, hwd, ha, hk, hh, hc⟩ := id h
  have hc4 := hg.2.2.1.1
  have hl24 := ends_len hg
  obtain ⟨t0, t1, t2, t3, t4, t5, t6, t7, t8, t9⟩ := TpS_g hT
  unfold f11_orders qOrders
  rw [t3, Option.bind_some, gi_k hwd.1.1, hwd.2.1.1, Option.bind_some]
  by_cases h0 : aCnt A = 0
  · rw [h0, if_pos (show nI 0 = (0 : Int32) from rfl), if_neg (fun hh => by omega)]
    exact EvR_no h _
  · rw [if_neg (nI_ne0 (by omega) (by omega))]
    by_cases h1 : p < 0
    · rw [if_pos h1, if_neg (fun hh => by rw [Int32.lt_iff_toInt_lt, i0] at h1; omega)]
      exact EvR_no h _
    · rw [if_neg h1]
      rw [Int32.lt_iff_toInt_lt, i0] at h1
      by_cases h2 : p ≤ 1
      · rw [if_pos h2]
        rw [Int32.le_iff_toInt_le, show (1 : Int32).toInt = 1 from by decide] at h2
        obtain ⟨S3, e3, C3, E3, k3⟩ := reckonEnds_C (X := X) (c := c) h hg hR
        have q0 := C3.2.1.2.2.2.2.2.1
        have v6 := (TpS_g C3.2.1).2.2.2.2.2.2.1
        rw [e3, Option.bind_some, if_pos (show 0 < aCnt A ∧ 0 ≤ p.toInt ∧ p.toInt ≤ 1 from ⟨by omega, by omega, h2⟩)]
        by_cases hp0 : p = 0
        · rw [if_pos hp0, if_pos hp0, v6, Option.bind_some, gi_k q0.1, E3.1, Option.bind_some, Option.bind_some]
          exact ⟨S3, rfl, C3, k3⟩
        · rw [if_neg hp0, if_neg hp0, v6, Option.bind_some, cal_k q0.1]
          unfold f0_countUnlike
          rw [show LX0_countUnlike_4 (z + 599) S3 FU 0 0 = _ from unl_loopC C3 hg E3 (endsA A).length 0 FU (by omega) (by rw [FU_eq]; omega), Option.bind_some, Option.bind_some, Option.bind_some]
          exact ⟨S3, rfl, C3, k3⟩
      · rw [if_neg h2, if_neg (fun hh => h2 (by rw [Int32.le_iff_toInt_le, show (1 : Int32).toInt = 1 from by decide]; exact hh.2.2))]
        exact EvR_no h _
theorem fit_loopC (h : CR S z A K fi ch) (hg : GA A) (hE : EndC S z A) {o : Nat} {t : List Int32} (ht : (endsA A)[o]? = some t) : ∀ (l : List (Int32 × Int32)) (i n : Nat), i + l.length = (aSeen A).length → (aSeen A).drop i = l → l.length < n → LX0_isFit_2 (z + 599) (nI o) S n (nI i) = some (if fitB t l then 1 else 0) := by
  have hl24 := ends_len hg
  have hs16 := hg.2.2.2.2.2.2.2.2.2.2.1
  have hsb := hg.2.2.2.2.2.2.2.2.2.2.2.1
  obtain ⟨e0, e1, e2, e3, e4, e5, e6⟩ := h.2.1.2.2.2.2.2.1
  obtain ⟨_, ⟨f1, f2⟩, ⟨f3, f4⟩, ⟨f5, f6⟩, ⟨f7, f8⟩, _⟩ := h.2.1.2.2.2.2.2.2.1
  obtain ⟨_, ⟨c1, c2, c3⟩, _⟩ := h.2.2.2.2.2.2.2.2.2
  obtain ⟨n24, x1, t', x2, x3⟩ := end_at h hE hl24 ht
  intro l
  induction l with
  | nil =>
    intro i n hi hd hn
    obtain ⟨n, rfl⟩ : ∃ k, n = k + 1 := ⟨n - 1, by omega⟩
    rw [List.length_nil] at hi
    unfold LX0_isFit_2
    rw [gi_k e0, c1, Option.bind_some, if_pos (nI_le (by omega) (by omega))]; rfl
  | cons x l ih =>
    intro i n hi hd hn
    obtain ⟨n, rfl⟩ : ∃ k, n = k + 1 := ⟨n - 1, by omega⟩
    rw [List.length_cons] at hi hn
    have hx : (aSeen A)[i]? = some x := by
      have := congrArg (fun l => l[0]?) hd
      simpa using this
    have hd2 : (aSeen A).drop (i + 1) = l := by
      have := congrArg List.tail hd
      simpa using this
    obtain ⟨⟨p, p1, p2⟩, _⟩ := hsb x (List.mem_of_getElem? hx)
    have l1 : cA S (z + 603) i = x.1 := by
      have := c2 i (by rw [List.length_map]; omega)
      rw [Nat.zero_add, List.getD_eq_getElem?_getD, List.getElem?_map, hx] at this
      exact this
    have l2 : cA S (z + 604) i = x.2 := by
      have := c3 i (by rw [List.length_map]; omega)
      rw [Nat.zero_add, List.getD_eq_getElem?_getD, List.getElem?_map, hx] at this
      exact this
    unfold LX0_isFit_2
    rw [gi_k e0, c1, Option.bind_some, if_neg (nI_ge (by omega) (by omega)), gr_k e0 e1, Option.bind_some, x1, Option.bind_some, gr_k e0 e4, Option.bind_some, ldi_k f5 (by omega) (by omega), Option.bind_some, l1, p2, cal_k (TxL_kd x2), letE x2 x3 (by omega), Option.bind_some, gr_k e0 e5, Option.bind_some, ldi_k f7 (by omega) (by omega), Option.bind_some, l2, fitB, p2, nI_toInt (by omega), show ((p : Int).toNat) = p by omega]
    by_cases he : endP t p = x.2
    · rw [if_pos he, nI_1, ih (i + 1) n (by omega) hd2 (by omega), decide_eq_true he, Bool.true_and]
    · rw [if_neg he, decide_eq_false he, Bool.false_and]; rfl
theorem isFit_C (h : CR S z A K fi ch) (hg : GA A) (hE : EndC S z A) {o : Nat} (ho : o < (endsA A).length) : cal S 0 (z + 599) (f0_isFit S (z + 599) (nI o)) = some (bI (fitA A o)) := by
  have hs16 := hg.2.2.2.2.2.2.2.2.2.2.1
  have e0 := h.2.1.2.2.2.2.2.1.1
  have ht := List.getElem?_eq_getElem ho
  generalize (endsA A)[o] = t at ht
  have hgd : (endsA A).getD o [] = t := by rw [List.getD_eq_getElem?_getD, ht]; rfl
  rw [cal_k e0]
  unfold f0_isFit
  rw [show LX0_isFit_2 (z + 599) (nI o) S FU 0 = _ from fit_loopC h hg hE ht (aSeen A) 0 FU (by omega) (by simp) (by rw [FU_eq]; omega), Option.bind_some]
  unfold fitA
  rw [hgd]
  cases fitB t (aSeen A) <;> rfl
theorem cntF_loopC (h : CR S z A K fi ch) (hg : GA A) (hE : EndC S z A) : ∀ (d i n : Nat), i + d = (endsA A).length → d < n → LX0_countFits_4 (z + 599) S n (nI (cntF (endsA A) (aSeen A) i)) (nI i) = some (nI (cntF (endsA A) (aSeen A) (endsA A).length)) := by
  have hl24 := ends_len hg
  have q0 := h.2.1.2.2.2.2.2.1
  intro d
  induction d with
  | zero =>
    intro i n hi hn
    obtain ⟨n, rfl⟩ : ∃ k, n = k + 1 := ⟨n - 1, by omega⟩
    unfold LX0_countFits_4
    rw [gi_k q0.1, hE.1, Option.bind_some, if_pos (nI_le (by omega) (by omega)), show (endsA A).length = i by omega]
  | succ d ih =>
    intro i n hi hn
    obtain ⟨n, rfl⟩ : ∃ k, n = k + 1 := ⟨n - 1, by omega⟩
    have hb : (if bI (fitA A i) = 0 then some (0 : Int32) else some 1) = some (nI (if fitA A i then 1 else 0)) := by cases fitA A i <;> rfl
    unfold LX0_countFits_4
    rw [gi_k q0.1, hE.1, Option.bind_some, if_neg (nI_ge (by omega) (by omega)), isFit_C h hg hE (by omega), Option.bind_some, hb, Option.bind_some, nI_add, nI_1]
    exact ih (i + 1) n (by omega) (by omega)
theorem countFits_C (h : CR S z A K fi ch) (hg : GA A) (hE : EndC S z A) : cal S 0 (z + 599) (f0_countFits S (z + 599)) = some (nI (cntF (endsA A) (aSeen A) (endsA A).length)) := by
  have hl24 := ends_len hg
  rw [cal_k h.2.1.2.2.2.2.2.1.1]
  unfold f0_countFits
  rw [show LX0_countFits_4 (z + 599) S FU 0 0 = _ from cntF_loopC h hg hE (endsA A).length 0 FU (by omega) (by rw [FU_eq]; omega), Option.bind_some]
theorem find_loopF (h : CR S z A K fi ch) (hg : GA A) (hE : EndC S z A) {k : Int32} : ∀ (d i n c : Nat), i + d = (endsA A).length → c ≤ i → d < n → ∃ y, LX0_findFit_4 (z + 599) k S n (nI c) (nI i) = some (match kthF (fitA A) k.toInt d i c with | none => (1, y) | some j => (0, nI j)) := by
  have hl24 := ends_len hg
  have q0 := h.2.1.2.2.2.2.2.1
  intro d
  induction d with
  | zero =>
    intro i n c hi hc hn
    obtain ⟨n, rfl⟩ : ∃ k, n = k + 1 := ⟨n - 1, by omega⟩
    unfold LX0_findFit_4
    rw [gi_k q0.1, hE.1, Option.bind_some, if_pos (nI_le (by omega) (by omega))]
    exact ⟨_, rfl⟩
  | succ d ih =>
    intro i n c hi hc hn
    obtain ⟨n, rfl⟩ : ∃ k, n = k + 1 := ⟨n - 1, by omega⟩
    unfold LX0_findFit_4
    rw [gi_k q0.1, hE.1, Option.bind_some, if_neg (nI_ge (by omega) (by omega)), isFit_C h hg hE (by omega), Option.bind_some, kthF, nI_1, nI_1]
    cases fitA A i with
    | false =>
      rw [if_pos (show bI false = 0 from rfl), if_neg (by decide)]
      exact ih (i + 1) n c (by omega) (by omega) (by omega)
    | true =>
      rw [if_neg (show ¬ bI true = 0 by decide), if_pos rfl]
      by_cases hck : (c : Int) = k.toInt
      · rw [if_pos (Int32.toInt_inj.mp (by rw [nI_toInt (by omega)]; exact hck)), if_pos hck]
        exact ⟨0, rfl⟩
      · rw [if_neg (fun e => hck (by rw [← e, nI_toInt (by omega)])), if_neg hck]
        exact ih (i + 1) n (c + 1) (by omega) (by omega) (by omega)
theorem fits_C (h : CR S z A K fi ch) (hg : GA A) (hR : Rm z X (6720 + c) S) (k : Int32) : EvR z A K fi ch S (f11_fits X S z k) (qFits A k) := by
  obtain ⟨hW, hT, hTp, hTf, hsh, hwd, ha, hk, hh, hc⟩ := id h
  have hc4 := hg.2.2.1.1
  have hl24 := ends_len hg
  obtain ⟨t0, t1, t2, t3, t4, t5, t6, t7, t8, t9⟩ := TpS_g hT
  have hm1 : (-1 : Int32).toInt = -1 := by decide
  unfold f11_fits qFits
  rw [t3, Option.bind_some, gi_k hwd.1.1, hwd.2.1.1, Option.bind_some]
  by_cases h0 : aCnt A = 0
  · rw [h0, if_pos (show nI 0 = (0 : Int32) from rfl), if_neg (fun hh => by omega)]
    exact EvR_no h _
  · rw [if_neg (nI_ne0 (by omega) (by omega))]
    by_cases h1 : -1 ≤ k
    · rw [if_pos h1]
      rw [Int32.le_iff_toInt_le, hm1] at h1
      obtain ⟨S3, e3, C3, E3, k3⟩ := reckonEnds_C (X := X) (c := c) h hg hR
      have q0 := C3.2.1.2.2.2.2.2.1
      have v6 := (TpS_g C3.2.1).2.2.2.2.2.2.1
      rw [e3, Option.bind_some, if_pos (show 0 < aCnt A ∧ -1 ≤ k.toInt from ⟨by omega, h1⟩)]
      by_cases hk1 : k = -1
      · rw [if_pos hk1, if_pos hk1, v6, Option.bind_some, countFits_C C3 hg E3, Option.bind_some, Option.bind_some]
        exact ⟨S3, rfl, C3, k3⟩
      · rw [if_neg hk1, if_neg hk1, v6, Option.bind_some, cal_k q0.1]
        obtain ⟨y, hy⟩ := find_loopF (k := k) C3 hg E3 (endsA A).length 0 FU 0 (by omega) (Nat.le_refl _) (by rw [FU_eq]; omega)
        unfold f0_findFit
        rw [show LX0_findFit_4 (z + 599) k S3 FU 0 0 = _ from hy]
        cases kthF (fitA A) k.toInt (endsA A).length 0 0 with
        | none => dsimp only; rw [bn2_s, if_neg (by decide), Option.bind_some, Option.bind_some]; exact ⟨S3, rfl, C3, k3⟩
        | some j => dsimp only; rw [bn2_s, if_pos rfl, Option.bind_some, Option.bind_some]; exact ⟨S3, rfl, C3, k3⟩
    · rw [if_neg h1, if_neg (fun hh => h1 (by rw [Int32.le_iff_toInt_le, hm1]; exact hh.2))]
      exact EvR_no h _
end AP
