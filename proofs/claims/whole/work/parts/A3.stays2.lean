/-! ===== PART II, the reference: what holds stays, on; the beginning ===== -/
theorem GA_cut {A : St} (hg : GA A) (e at' n : Int32) : GA (aCut A e at' n).2 := by
  unfold aCut
  split
  · rename_i h
    obtain ⟨he, ha, hn⟩ := h
    obtain ⟨z1, z2, z3⟩ := lay_cnt (len := (eTxt (wE (aW A) e.toInt.toNat)).length) (kept := at'.toInt.toNat) (cut := n.toInt.toNat) (letter := 0) (by omega) (Or.inl (by decide))
    exact GA_ed hg (by omega) z1 z2
  · exact GA_sRf hg
theorem GA_type {A : St} (hg : GA A) (e l : Int32) : GA (aType A e l).2 := by
  unfold aType
  split
  · rename_i h
    obtain ⟨he, hl, hz⟩ := h
    have hi : e.toInt.toNat < aCnt A := by omega
    have hcur := ((GA_good hg).2.2.2.2.2.2.2.2 _ hi).2.2.2.2.2.2.2.2.2.2.2.2.2.2.2.2.1
    have hok : okO (tyO (wE (aW A) e.toInt.toNat) l) ∧ oldL (tyO (wE (aW A) e.toInt.toNat) l) = (eTxt (wE (aW A) e.toInt.toNat)).length := by
      unfold tyO
      by_cases h0 : l = 0
      · rw [if_pos h0]
        have hc : eCur (wE (aW A) e.toInt.toNat) ≠ 0 := fun hh => hz ⟨h0, hh⟩
        obtain ⟨z1, z2, z3⟩ := lay_cnt (len := (eTxt (wE (aW A) e.toInt.toNat)).length) (kept := eCur (wE (aW A) e.toInt.toNat) - 1) (cut := 1) (letter := 0) (by omega) (Or.inl (by decide))
        exact ⟨z1, z2⟩
      · rw [if_neg h0]
        have hl1 : 1 ≤ l.toInt := by
          by_cases hx : l.toInt = 0
          · exact absurd (Int32.toInt_inj.mp (by rw [hx]; decide)) h0
          · omega
        obtain ⟨z1, z2, z3⟩ := lay_cnt (len := (eTxt (wE (aW A) e.toInt.toNat)).length) (kept := eCur (wE (aW A) e.toInt.toNat)) (cut := 0) (letter := l) (by omega) (Or.inr (let_okP ⟨hl1, hl.2⟩).1)
        exact ⟨z1, z2⟩
    exact GA_ed hg hi hok.1 hok.2
  · exact GA_sRf hg
theorem GA_undo {M : MS} {A : St} (h : RS M A) (hg : GA A) (e : Int32) : GA (aUndo A e).2 := by
  have gd := GA_good hg
  unfold aUndo
  by_cases he : 0 ≤ e.toInt ∧ e.toInt < aCnt A
  · have hi : e.toInt.toNat < aCnt A := by omega
    have hc4 := gd.1
    have hb := Good_Bd gd hi
    obtain ⟨e1, e2, e3, e4, e5, e6, e7, e8, e9, e10, e11, e12, e13, e14, e15, e16, e17, e18, e19⟩ := gd.2.2.2.2.2.2.2.2 _ hi
    have hpu := gd.2.2.2.1
    have htl := gd.2.2.1
    have hr := (RS_RW h).2.2.2.2.2.2.2 _ hi
    have cu := stkE_cap (eUnd (wE (aW A) e.toInt.toNat)) (4 + 2618 * e.toInt.toNat + 1590)
    have bu := hb.2.2.2.2.2.2.2.1
    rw [if_pos he]
    obtain ⟨M4, l1, l2, l3⟩ := last_loop (M0 := M) (e := e.toInt.toNat) (st := 1590) (a := 4 + 2618 * e.toInt.toNat + 1590) (n := (eTxt (wE (aW A) e.toInt.toNat)).length) rfl hr.2.2.2.1.2.2.1 (by omega) e9 (eUnd (wE (aW A) e.toInt.toNat)).length FU M (Nat.le_refl _) (Frm_refl _ _ _) (by rw [List.take_length]; exact e11) (by rw [List.take_length]; omega) (by rw [FU_eq]; omega)
    cases hL : lastN (eUnd (wE (aW A) e.toInt.toNat)) (eUnd (wE (aW A) e.toInt.toNat)).length with
    | none => exact GA_sRf hg
    | some k =>
      obtain ⟨k1, x, k2, k3, k4, k5, k6, k7, k8⟩ := l3 k hL
      dsimp only
      rw [k2]
      dsimp only
      by_cases hc : canE A x.2 = true
      · rw [if_pos hc]
        obtain ⟨t1, t2, t3, t4⟩ := cap_take k e13
        obtain ⟨n1, n2⟩ := canE_iff hc
        exact GA_keep hg (by omega) (Good_edit (kind := 1) gd hi k4 k5 n1 n2 rfl (eDon (wE (aW A) e.toInt.toNat)) ((eUnd (wE (aW A) e.toInt.toNat)).take k) (Or.inl ⟨rfl, rfl, rfl⟩) e10 (by rw [List.length_take]; omega) e12 k7 e14 t1 (by omega) (by omega)) hg.2.2.2.2.1 (List.prefix_refl _)
      · rw [if_neg hc]; exact GA_sRf hg
  · rw [if_neg he]; exact GA_sRf hg
theorem GA_redo {M : MS} {A : St} (h : RS M A) (hg : GA A) (e : Int32) : GA (aRedo A e).2 := by
  have gd := GA_good hg
  unfold aRedo
  by_cases he : 0 ≤ e.toInt ∧ e.toInt < aCnt A
  · have hi : e.toInt.toNat < aCnt A := by omega
    have hc4 := gd.1
    have hb := Good_Bd gd hi
    obtain ⟨e1, e2, e3, e4, e5, e6, e7, e8, e9, e10, e11, e12, e13, e14, e15, e16, e17, e18, e19⟩ := gd.2.2.2.2.2.2.2.2 _ hi
    have hpu := gd.2.2.2.1
    have htl := gd.2.2.1
    have hr := (RS_RW h).2.2.2.2.2.2.2 _ hi
    have cu := stkE_cap (eDon (wE (aW A) e.toInt.toNat)) (4 + 2618 * e.toInt.toNat + 2054)
    have bu := hb.2.2.2.2.2.2.2.2
    rw [if_pos he]
    obtain ⟨M4, l1, l2, l3⟩ := last_loop (M0 := M) (e := e.toInt.toNat) (st := 2054) (a := 4 + 2618 * e.toInt.toNat + 2054) (n := (eTxt (wE (aW A) e.toInt.toNat)).length) rfl hr.2.2.2.1.2.2.2 (by omega) e10 (eDon (wE (aW A) e.toInt.toNat)).length FU M (Nat.le_refl _) (Frm_refl _ _ _) (by rw [List.take_length]; exact e12) (by rw [List.take_length]; omega) (by rw [FU_eq]; omega)
    cases hL : lastN (eDon (wE (aW A) e.toInt.toNat)) (eDon (wE (aW A) e.toInt.toNat)).length with
    | none => exact GA_sRf hg
    | some k =>
      obtain ⟨k1, x, k2, k3, k4, k5, k6, k7, k8⟩ := l3 k hL
      dsimp only
      rw [k2]
      dsimp only
      by_cases hc : canE A x.2 = true
      · rw [if_pos hc]
        obtain ⟨t1, t2, t3, t4⟩ := cap_take k e14
        obtain ⟨n1, n2⟩ := canE_iff hc
        exact GA_keep hg (by omega) (Good_edit (kind := 2) gd hi k4 k5 n1 n2 rfl (eUnd (wE (aW A) e.toInt.toNat)) ((eDon (wE (aW A) e.toInt.toNat)).take k) (Or.inr (Or.inr ⟨rfl, rfl, rfl⟩)) e9 (by rw [List.length_take]; omega) e11 k7 e13 t1 (by omega) (by omega)) hg.2.2.2.2.1 (List.prefix_refl _)
      · rw [if_neg hc]; exact GA_sRf hg
  · rw [if_neg he]; exact GA_sRf hg
theorem GA_chance {M : MS} {A : St} (h : RS M A) (hg : GA A) (n : Int32) : GA (aChance A n).2 := by
  unfold aChance
  split
  · rename_i hc
    obtain ⟨M2, k1, k2, k3⟩ := keeps_ok h hg
    have hGA := GA_keep0 hg hc.1
    obtain ⟨M', a1, a2, a3⟩ := chance_loop (N := n.toInt.toNat) (by omega) n.toInt.toNat FU 0 0 (keepA A) M2 (by omega) k2 hGA hc.1 (by rw [FU_eq]; omega)
    exact a3
  · exact GA_sRf hg
theorem pairs_ok : ∀ (n : Nat) (l : List Int32), l.length ≤ n → (∀ v ∈ l, ∃ w : Nat, w < 256 ∧ v = nI w) → seeB l = true → (∀ x ∈ pairsOf l, (∃ p : Nat, p < 240 ∧ x.1 = nI p) ∧ ∃ c : Nat, c ≤ 26 ∧ x.2 = nI c) ∧ (pairsOf l).length ≤ l.length / 2 := by
  intro n
  induction n with
  | zero =>
    intro l hl hb hs
    have : l = [] := List.length_eq_zero_iff.mp (by omega)
    subst this
    exact ⟨fun x hx => absurd hx List.not_mem_nil, Nat.zero_le _⟩
  | succ n ih =>
    intro l hl hb hs
    match l, hl, hb, hs with
    | [], _, _, _ => exact ⟨fun x hx => absurd hx List.not_mem_nil, Nat.zero_le _⟩
    | [a], _, _, _ => exact ⟨fun x hx => absurd hx List.not_mem_nil, Nat.zero_le _⟩
    | a :: b :: l, hl, hb, hs =>
      rw [seeB] at hs
      simp only [Bool.and_eq_true, decide_eq_true_eq] at hs
      rw [List.length_cons, List.length_cons] at hl
      obtain ⟨i1, i2⟩ := ih l (by omega) (fun v hv => hb v (List.mem_cons_of_mem _ (List.mem_cons_of_mem _ hv))) hs.2.2
      obtain ⟨wa, a1, a2⟩ := hb a List.mem_cons_self
      obtain ⟨wb, b1, b2⟩ := hb b (List.mem_cons_of_mem _ List.mem_cons_self)
      refine ⟨fun x hx => ?_, ?_⟩
      · rw [pairsOf] at hx
        rcases List.mem_cons.mp hx with rfl | hx
        · have ha := hs.1
          have hb' := hs.2.1
          rw [a2, nI_toInt (by omega)] at ha
          rw [b2, nI_toInt (by omega)] at hb'
          exact ⟨⟨wa, by omega, a2⟩, wb, by omega, b2⟩
        · exact i1 x hx
      · rw [pairsOf, List.length_cons, List.length_cons, List.length_cons]; omega
theorem GA_see {A : St} (hg : GA A) : GA (aSee A).2 := by
  unfold aSee
  split
  · rename_i h
    obtain ⟨hc, h0, h2, h16, hs⟩ := h
    obtain ⟨g1, g2, g3, g4, g5, g6, g7, g8, g9, g10, g11, g12, g13⟩ := hg
    obtain ⟨p1, p2⟩ := pairs_ok _ _ (Nat.le_refl _) g2 hs
    exact ⟨Nat.zero_le _, fun v hv => absurd hv List.not_mem_nil, g3, g4, g5, g6, fun hz => (by have hz' : aCnt A = 0 := hz; omega), g8, g9, g10, Nat.le_trans p2 h16, p1, g13⟩
  · exact GA_sRf (GA_sTp hg)
