/-! ===== PART II, the reference: edits as acts ===== -/
def gA1 (M : MS) (v : Int32) : MS := sF (sR M 20 (upd (M.2.1 20) (M.1 25).toNatClampNeg v)) 25 (M.1 25 + 1)
theorem gA_ok {M : MS} {c : List Int32} (h : Row M 20 25 c) (hl : c.length < 700) (v : Int32) : f12_givesA M v = some (gA1 M v) := by
  unfold f12_givesA gA1
  have h1 : gF M 25 = nI c.length := h.1
  rw [h1, show (700 : Int32) = nI 700 from rfl, if_neg (by rw [nI_eq (by omega) (by omega)]; omega), sd_n (show c.length < mLn 20 from hl), Option.bind_some]
  have h2 : M.1 25 = nI c.length := h.1
  rw [show gF (sR M 20 (upd (M.2.1 20) c.length v)) 25 = nI c.length from h.1, h2, nI_clamp (by omega)]
theorem gA_row {M : MS} {c : List Int32} (h : Row M 20 25 c) (hl : c.length < 700) (v : Int32) : Row (gA1 M v) 20 25 (c ++ [v]) := by
  have h1 : M.1 25 = nI c.length := h.1
  constructor
  · unfold gA1
    rw [sF_get, h1, nI_1, List.length_append, List.length_singleton]
  · show seg ((sR M 20 (upd (M.2.1 20) (M.1 25).toNatClampNeg v)).2.1 20) 0 _
    rw [sR_get, h1, nI_clamp (by omega)]
    have := seg_snoc (v := v) h.2
    rw [Nat.zero_add] at this
    exact this
theorem gA_frm (M : MS) (v : Int32) : Frm [20] [25] M (gA1 M v) := Frm_trans (Frm_sR (by decide)) (Frm_sF (by decide))
/-- loops that give one thing again and again -/
theorem give_loop {L : Nat → Int32 → MS → Option MS} {v : Int32} {N : Nat} {P : MS → Prop} (hP : ∀ M, P M → P (gA1 M v)) (h1 : ∀ n i M, P M → i < N → L (n + 1) (nI i) M = (f12_givesA M v).bind fun M1 => L n (nI (i + 1)) M1) (h0 : ∀ n M, P M → L (n + 1) (nI N) M = some M) :
    ∀ (d n i : Nat) (c : List Int32) (M : MS), P M → i + d = N → Row M 20 25 c → c.length + d ≤ 700 → d < n → ∃ M', L n (nI i) M = some M' ∧ Row M' 20 25 (c ++ List.replicate d v) ∧ Frm [20] [25] M M' ∧ P M' := by
  intro d
  induction d with
  | zero =>
    intro n i c M hp hi hr hl hn
    obtain ⟨n, rfl⟩ : ∃ j, n = j + 1 := ⟨n - 1, by omega⟩
    have : i = N := by omega
    subst this
    exact ⟨M, h0 n M hp, by rw [List.replicate_zero, List.append_nil]; exact hr, Frm_refl _ _ _, hp⟩
  | succ d ih =>
    intro n i c M hp hi hr hl hn
    obtain ⟨n, rfl⟩ : ∃ j, n = j + 1 := ⟨n - 1, by omega⟩
    obtain ⟨M', a1, a2, a3, a4⟩ := ih n (i + 1) (c ++ [v]) (gA1 M v) (hP M hp) (by omega) (gA_row hr (by omega) v) (by simp; omega) (by omega)
    refine ⟨M', ?_, ?_, Frm_trans (gA_frm M v) a3, a4⟩
    · rw [h1 n i M hp (by omega), gA_ok hr (by omega), Option.bind_some]; exact a1
    · rw [List.append_assoc] at a2
      rw [List.replicate_succ]
      exact a2
/-- so many kept, one put, so many cut, the rest kept -/
def layO (len kept : Nat) (letter : Int32) (cut : Nat) : List Int32 := List.replicate kept 0 ++ ((if letter ≤ 0 then [] else [letter]) ++ (List.replicate cut (-1) ++ List.replicate (len - (kept + cut)) 0))
theorem laysA_ok {M : MS} {A : St} {i kept cut : Nat} {letter : Int32} (h : RS M A) (hg : GA A) (hi : i < aCnt A) (hk : kept + cut ≤ (eTxt (wE (aW A) i)).length) :
    ∃ M', f12_laysA M (nI i) (nI kept) letter (nI cut) = some M' ∧ Row M' 20 25 (layO (eTxt (wE (aW A) i)).length kept letter cut) ∧ Frm [20] [25] M M' := by
  have gd := GA_good hg
  have hc4 := gd.1
  have hb := Good_Bd gd hi
  have hb1 := hb.1
  obtain ⟨-, ht, -, -, -⟩ := (RS_RW h).2.2.2.2.2.2.2 i hi
  have r0 : Row (sF M 25 (0 : Int32)) 20 25 [] := ⟨by rw [sF_get]; rfl, fun k hk => absurd hk (Nat.not_lt_zero _)⟩
  have f0 : Frm [20] [25] M (sF M 25 (0 : Int32)) := Frm_sF (by decide)
  obtain ⟨M1, a1, a2, a3, -⟩ := give_loop (L := L12_laysA_8 (nI i) (nI kept) letter (nI cut)) (v := 0) (N := kept) (P := fun _ => True) (fun _ _ => trivial) (fun n j M _ hj => by
    conv => lhs; unfold L12_laysA_8
    rw [if_neg (nI_ge hj (by omega)), nI_1]) (fun n M _ => by
    unfold L12_laysA_8
    rw [if_pos (nI_le (Nat.le_refl _) (by omega))]) kept FU 0 [] (sF M 25 (0 : Int32)) trivial (by omega) r0 (by simp; omega) (by rw [FU_eq]; omega)
  rw [List.nil_append] at a2
  have hst : ∃ M3, (if letter ≤ 0 then some M1 else (f12_givesA M1 letter).bind fun M5 => some M5) = some M3 ∧ Row M3 20 25 (List.replicate kept 0 ++ (if letter ≤ 0 then [] else [letter])) ∧ Frm [20] [25] M1 M3 := by
    by_cases hl : letter ≤ 0
    · rw [if_pos hl, if_pos hl, List.append_nil]; exact ⟨M1, rfl, a2, Frm_refl _ _ _⟩
    · rw [if_neg hl, if_neg hl, gA_ok a2 (by simp; omega), Option.bind_some]
      exact ⟨_, rfl, gA_row a2 (by simp; omega) letter, gA_frm _ _⟩
  obtain ⟨M3, b1, b2, b3⟩ := hst
  have hll : (if letter ≤ 0 then [] else [letter] : List Int32).length ≤ 1 := by split <;> simp
  obtain ⟨M6, c1, c2, c3, -⟩ := give_loop (L := L12_laysA_37 (nI i) (nI kept) (nI cut)) (v := -1) (N := cut) (P := fun _ => True) (fun _ _ => trivial) (fun n j M _ hj => by
    conv => lhs; unfold L12_laysA_37
    rw [if_neg (nI_ge hj (by omega)), nI_1]) (fun n M _ => by
    unfold L12_laysA_37
    rw [if_pos (nI_le (Nat.le_refl _) (by omega))]) cut FU 0 _ M3 trivial (by omega) b2 (by rw [List.length_append, List.length_replicate]; omega) (by rw [FU_eq]; omega)
  have h21 : M6.2.1 30 (4 + 2618 * i + 21) = nI (eTxt (wE (aW A) i)).length := by
    rw [c3.1 30 (by decide), b3.1 30 (by decide), a3.1 30 (by decide), f0.1 30 (by decide)]; exact ht.1
  obtain ⟨M8, d1, d2, d3, -⟩ := give_loop (L := L12_laysA_61 (nI i)) (v := 0) (N := (eTxt (wE (aW A) i)).length) (P := fun X => X.2.1 30 (4 + 2618 * i + 21) = nI (eTxt (wE (aW A) i)).length) (fun X hX => by rw [(gA_frm X 0).1 30 (by decide)]; exact hX) (fun n j X hX hj => by
    conv => lhs; unfold L12_laysA_61
    rw [show (21 : Int32) = nI 21 from rfl, its_ok (by omega), hX, Option.bind_some, if_neg (nI_ge hj (by omega)), nI_1]) (fun n X hX => by
    unfold L12_laysA_61
    rw [show (21 : Int32) = nI 21 from rfl, its_ok (by omega), hX, Option.bind_some, if_pos (nI_le (Nat.le_refl _) (by omega))]) ((eTxt (wE (aW A) i)).length - (kept + cut)) FU (kept + cut) _ M6 h21 (by omega) c2 (by rw [List.length_append, List.length_append, List.length_replicate, List.length_replicate]; omega) (by rw [FU_eq]; omega)
  refine ⟨M8, ?_, ?_, Frm_trans f0 (Frm_trans a3 (Frm_trans b3 (Frm_trans c3 d3)))⟩
  · unfold f12_laysA
    rw [show L12_laysA_8 (nI i) (nI kept) letter (nI cut) FU (0 : Int32) (sF M 25 (0 : Int32)) = _ from a1, Option.bind_some, b1, Option.bind_some, show L12_laysA_37 (nI i) (nI kept) (nI cut) FU (0 : Int32) M3 = _ from c1, Option.bind_some, nI_add, d1, Option.bind_some]
  · unfold layO
    rw [List.append_assoc, List.append_assoc] at d2
    exact d2
/-- an edit that can be -/
def canE (A : St) (op : List Int32) : Bool := !(idleB op) && decide (wEd (aW A) < 100) && decide (wPu (aW A) + putsL op ≤ 200)
/-- an edit is made: the world then -/
def edW (A : St) (i : Nat) (E0 : Ed) (op : List Int32) (kind : Nat) : Wd := editW (aW A) i (editE E0 op kind) op
theorem edit_Bd {E0 E : Ed} {op : List Int32} {kind : Nat} (hb : Bd E) (hE0 : E0 = sDon (sUnd E (eUnd E0)) (eDon E0)) (hf : Bd (editE E0 op kind)) : Bd (stkK E0 op kind) ∧ Bd (txtE (stkK E0 op kind) op true) := by
  have hU : eUnd (editE E0 op kind) = eUnd (stkK E0 op kind) := by unfold editE giveE; split <;> rfl
  have hD : eDon (editE E0 op kind) = eDon (stkK E0 op kind) := by unfold editE giveE; split <;> rfl
  have hT : eTxt (editE E0 op kind) = eTxt (txtE (stkK E0 op kind) op true) := by unfold editE giveE; split <;> rfl
  have hC : eCur (editE E0 op kind) = eCur (txtE (stkK E0 op kind) op true) := by unfold editE giveE; split <;> rfl
  have hK : eMks (editE E0 op kind) = eMks (txtE (stkK E0 op kind) op true) := by unfold editE giveE; split <;> rfl
  have s : ∀ {X : Type} (g : Ed → X), (∀ (F : Ed) U D, g (sDon (sUnd F U) D) = g F) → (∀ (F : Ed) D, g (sDon F D) = g F) → (∀ (F : Ed) U, g (sUnd F U) = g F) → g (stkK E0 op kind) = g E := fun g h1 h2 h3 => by
    unfold stkK
    split
    · rw [h2, hE0, h1]
    · split
      · rw [h1, hE0, h1]
      · rw [h3, hE0, h1]
  obtain ⟨b1, b2, b3, b4, b5, b6, b7, b8, b9⟩ := hb
  obtain ⟨f1, f2, f3, f4, f5, f6, f7, f8, f9⟩ := hf
  have eP := s ePnd (fun _ _ _ => rfl) (fun _ _ => rfl) (fun _ _ => rfl)
  have eB := s eBuf (fun _ _ _ => rfl) (fun _ _ => rfl) (fun _ _ => rfl)
  have eL := s eLft (fun _ _ _ => rfl) (fun _ _ => rfl) (fun _ _ => rfl)
  have eS := s eSnt (fun _ _ _ => rfl) (fun _ _ => rfl) (fun _ _ => rfl)
  refine ⟨⟨?_, ?_, ?_, ?_, ?_, ?_, ?_, ?_, ?_⟩, ⟨?_, ?_, ?_, ?_, ?_, ?_, ?_, ?_, ?_⟩⟩
  · rw [s eTxt (fun _ _ _ => rfl) (fun _ _ => rfl) (fun _ _ => rfl)]; exact b1
  · rw [s eMks (fun _ _ _ => rfl) (fun _ _ => rfl) (fun _ _ => rfl)]; exact b2
  · rw [s eMks (fun _ _ _ => rfl) (fun _ _ => rfl) (fun _ _ => rfl)]; exact b3
  · rw [s eCur (fun _ _ _ => rfl) (fun _ _ => rfl) (fun _ _ => rfl)]; exact b4
  · rw [eP]; exact b5
  · rw [eL, eS]; exact b6
  · rw [eB]; exact b7
  · rw [← hU]; exact f8
  · rw [← hD]; exact f9
  · rw [← hT]; exact f1
  · rw [← hK]; exact f2
  · rw [← hK]; exact f3
  · rw [← hC]; exact f4
  · show ∀ p, ePnd (stkK E0 op kind) = some p → _
    rw [eP]; exact b5
  · show (eLft (stkK E0 op kind)).isSome = true → (gatherL (eSnt (stkK E0 op kind)).1 0).length ≤ 440
    rw [eL, eS]; exact b6
  · show ∀ p, eBuf (stkK E0 op kind) = some p → _
    rw [eB]; exact b7
  · show capS (eUnd (stkK E0 op kind)) ≤ 464
    rw [← hU]; exact f8
  · show capS (eDon (stkK E0 op kind)) ≤ 464
    rw [← hD]; exact f9
/-- the reference makes an edit that can be -/
theorem edits_all {M : MS} {A : St} {i kind : Nat} {E0 : Ed} {op : List Int32} {f0 : Nat → Int32} (h : RS M A) (hg : GA A) (hi : i < aCnt A) (hk : kind ≤ 2) (hr : Row M 20 25 op) (hA : okO op) (ho : oldL op = (eTxt (wE (aW A) i)).length) (hl : op.length ≤ 700)
    (hE0 : E0 = sDon (sUnd (wE (aW A) i) (eUnd E0)) (eDon E0)) (hu : (eUnd E0).length ≤ 8) (hd : (eDon E0).length ≤ 8) (hb0 : Bd E0) (hG : Good (aCnt A) (aTies A) (aTold A).length (edW A i E0 op kind))
    (hf : ∀ j, j ≠ 4 + 2618 * i + 22 → j ≠ 4 + 2618 * i + 23 → f0 j = M.2.1 30 j) (hR : REd f0 (4 + 2618 * i) (wRow (aW A)).length E0) :
    ∃ M', f12_edits (sR M 30 f0) (nI i) (nI kind) = some M' ∧ RS M' (sWd A (edW A i E0 op kind)) ∧ f12_its M' (nI i) (21 : Int32) = some (nI (newL op)) ∧ f12_its M' (nI i) (1 : Int32) = some (nI (eCur (editE E0 op kind))) := by
  have gd := GA_good hg
  have hc4 := gd.1
  obtain ⟨w1, w2, w3, w4, w5, w6, w7, w8⟩ := RS_RW h
  have hWe : wE (edW A i E0 op kind) i = editE E0 op kind := by show (if i = i then _ else _) = _; rw [if_pos rfl]
  have hBf : Bd (editE E0 op kind) := by have := Good_Bd hG hi; rw [hWe] at this; exact this
  obtain ⟨bk1, bk2⟩ := edit_Bd (Good_Bd gd hi) hE0 hBf
  have hT0 : eTxt E0 = eTxt (wE (aW A) i) := by rw [hE0]; rfl
  have hB0 : eBuf E0 = eBuf (wE (aW A) i) := by rw [hE0]; rfl
  have hcl := cnt_len hA
  have htf : (eTxt (editE E0 op kind)).length = newL op := by
    have : eTxt (editE E0 op kind) = chgL op (eTxt (stkK E0 op kind)) := by unfold editE giveE; split <;> rfl
    rw [this]; exact chgL_len hA _
  have hbuf : ∀ q, eBuf E0 = some q → okO q ∧ newL q = oldL op ∧ q.length + op.length ≤ 700 := by
    intro q hq
    rw [hB0] at hq
    obtain ⟨q1, q2⟩ := buf_ok gd hi hq
    have e6 := (gd.2.2.2.2.2.2.2.2 i hi).2.2.2.2.2.1
    cases hp : ePnd (wE (aW A) i) with
    | none => rw [hp, hq] at e6; exact e6.elim
    | some p =>
      obtain ⟨a1, a2, a3, a4⟩ := pnd_cnt gd hi hp
      rw [hp, hq] at e6
      rw [hq] at a3
      have hpo : putsO (some q) = putsL q := rfl
      obtain ⟨c1, c2, c3, c4, c5⟩ := e6
      have l0 := lenA_le gd.2.2.2.2.2.1 (eRev (wE (aW A) i))
      have cp := cnt_len c1
      have cq := cnt_len c2
      have hpu := hG.2.2.2.1
      have hpu2 : wPu (aW A) + putsL op ≤ 200 := hpu
      have htl := gd.2.2.1
      exact ⟨q1, by omega, by omega⟩
  obtain ⟨M', e1, e2, e3, e4, e5⟩ := edits_ok (M := sR M 30 f0) (e := i) (n := (wRow (aW A)).length) (kind := kind) (ed := wEd (aW A)) (pu := wPu (aW A)) (E := E0) (by omega) (row_le gd) hk (by unfold Row; rw [sR_ne _ _ (by decide)]; exact hr) hA hl (by rw [sR_get]; exact hR) hb0 bk1 bk2 hBf (by rw [hT0]; exact ho) (by have := hBf.1; omega) (by rw [hT0]; exact (gd.2.2.2.2.2.2.2.2 i hi).2.2.2.2.1) hu hd (by rw [sR_get, hf 2 (by omega) (by omega)]; exact w5) (by rw [sR_get, hf 3 (by omega) (by omega)]; exact w6) hbuf
  refine ⟨M', e1, ?_, ?_, ?_⟩
  · refine RS_world (tl := 0) h (fun k hk hk2 hk3 => ?_) (fun k hk => ?_) ?_ ?_
    · rw [e5.1 k (fun hm => hk (by simp only [List.mem_cons, List.not_mem_nil, or_false] at hm; unfold scrA; omega)) hk3, sR_ne _ _ hk3]
    · rw [e5.2.1 k (fun hm => hk (by simp only [List.mem_cons, List.not_mem_nil, or_false] at hm; unfold scrF; omega)), sR_F]
    · rw [e5.2.2.1, sR_L]
    · have o : ∀ j, ¬ (j = 2 ∨ j = 3 ∨ (4 + 2618 * i ≤ j ∧ j < 4 + 2618 * i + 2618)) → M'.2.1 30 j = M.2.1 30 j := fun j hj => by rw [e5.2.2.2 j hj, sR_get, hf j (by omega) (by omega)]
      refine ⟨by rw [e5.2.1 32 (by decide), sR_F]; exact w1, by rw [e5.2.1 33 (by decide), sR_F]; exact w2, by rw [o 0 (by omega)]; exact w3, by rw [o 1 (by omega)]; exact w4, e3, e4, ?_, fun j hj => ?_⟩
      · intro q o' ho'
        rw [e5.1 36 (by decide) (by decide), e5.1 37 (by decide) (by decide), e5.1 38 (by decide) (by decide), e5.1 39 (by decide) (by decide), e5.1 40 (by decide) (by decide), sR_ne _ _ (by decide), sR_ne _ _ (by decide), sR_ne _ _ (by decide), sR_ne _ _ (by decide), sR_ne _ _ (by decide)]
        exact w7 q o' ho'
      · by_cases hji : j = i
        · subst hji
          rw [hWe]; exact e2
        · have : wE (edW A i E0 op kind) j = wE (aW A) j := by show (if j = i then _ else _) = _; rw [if_neg hji]
          rw [this]
          exact REd_eq (n := (wRow (aW A)).length) (w8 j hj) (Good_Bd gd hj) (row_le gd) (fun q q1 q2 => o q (by omega))
  · rw [show (21 : Int32) = nI 21 from rfl, its_ok (by omega), e2.2.1.1, htf]
  · rw [show (1 : Int32) = nI 1 from rfl, its_ok (by omega), e2.1.2.1]
