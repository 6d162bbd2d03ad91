/-! ===== PART II, the class: edit ===== -/
def GoodSv (s : Sv) : Prop := (s.1 = 1 → (∀ c ∈ s.2.2, okP c) ∧ s.2.2.length ≤ 20) ∧ (s.1 ≠ 1 → 1 ≤ s.2.1 ∧ s.2.1 ≤ 99)
theorem stp_good {T : List Int32} {p : Pz} (h : pBd (pStp T p).2 = 0) : GoodSv (pStp T p).1 := by
  unfold pStp at h ⊢
  cases hs1 : (pSign T 43 p).1 with
  | true =>
    rw [hs1, if_pos rfl] at h
    rw [if_pos rfl]
    obtain ⟨-, -, -, w4, w5⟩ := word_good h
    have hat : pAt (endW (lkP T (pAt (pSign T 43 p).2) + ltN (T.drop (lkP T (pAt (pSign T 43 p).2))), (pSign T 43 p).2.2)) - lkP T (pAt (pSign T 43 p).2) = ltN (T.drop (lkP T (pAt (pSign T 43 p).2))) := Nat.add_sub_cancel_left _ _
    refine ⟨fun _ => ⟨fun v hv => ?_, ?_⟩, fun hh => absurd rfl hh⟩
    · dsimp only at hv
      rw [w5] at hv
      unfold ltrs at hv
      obtain ⟨c, hc, rfl⟩ := List.mem_map.mp hv
      rw [hat] at hc
      exact lt_okP (ltN_all _ c hc)
    · show (ltrs T _ _).length ≤ 20
      rw [w5]
      unfold ltrs
      rw [hat, List.length_map, List.length_take]
      omega
  | false =>
    rw [hs1, if_neg (by decide)] at h
    rw [if_neg (by decide)]
    have hn := num_in h
    refine ⟨fun hh => ?_, fun _ => hn⟩
    exfalso
    have hh' : (if (pSign T 45 (pSign T 43 p).2).1 then 2 else 0) = 1 := hh
    split at hh' <;> omega
theorem ops_good {T : List Int32} {wh : Bool} : ∀ (d k : Nat) (p : Pz), k ≤ 40 → pBd p = 0 → pBd (pOp T wh d k p).2 = 0 → (∀ s ∈ (pOp T wh d k p).1, GoodSv s) ∧ (pOp T wh d k p).1.length + k ≤ 40 := by
  intro d
  induction d with
  | zero => intro k p hk hb h; exact ⟨fun v hv => absurd hv List.not_mem_nil, by show 0 + k ≤ 40; omega⟩
  | succ d ih =>
    intro k p hk0 hb h
    obtain ⟨hk, hs⟩ := op_step_ok hb h
    have s1 := stp_good hs
    rw [op_succ hb hk] at h ⊢
    split
    · refine ⟨fun s hs => ?_, by show 1 + k ≤ 40; omega⟩
      have : s = (pStp T p).1 := by simpa using hs
      rw [this]; exact s1
    · rename_i hc
      rw [if_neg hc] at h
      obtain ⟨i1, i2⟩ := ih (k + 1) (lkP T (pAt (pStp T p).2), (pStp T p).2.2) (by omega) hs h
      refine ⟨fun s hs => ?_, by rw [List.length_cons]; omega⟩
      rcases List.mem_cons.mp hs with hs | hs
      · rw [hs]; exact s1
      · exact i1 s hs
def ptS (s : Sv) : List Pt := if s.1 = 1 then s.2.2.map (fun c => (1, c.toInt.toNat)) else if s.1 = 2 then [(2, s.2.1)] else [(0, s.2.1)]
def ptsS : List Sv → List Pt
  | [] => []
  | s :: l => ptS s ++ ptsS l
theorem ptS_ok {s : Sv} (h : GoodSv s) : (ptS s).map pc = partL s ∧ decF (ptS s) = stepL s ∧ (∀ x ∈ ptS s, okPt x) ∧ (ptS s).length ≤ 20 ∧ (stepL s).length ≤ 99 := by
  obtain ⟨h1, h2⟩ := h
  unfold ptS partL stepL
  by_cases c1 : s.1 = 1
  · obtain ⟨h3, h4⟩ := h1 c1
    rw [if_pos c1, if_pos c1, if_pos c1]
    have hw : ∀ c ∈ s.2.2, nI c.toInt.toNat = c ∧ 1 ≤ c.toInt.toNat ∧ c.toInt.toNat ≤ 26 := fun c hc => by
      obtain ⟨w, w1, w2, rfl⟩ := h3 c hc
      rw [nI_toInt (by omega)]
      exact ⟨by rw [show ((w : Int).toNat) = w by omega], by omega, by omega⟩
    refine ⟨?_, ?_, fun x hx => ?_, by rw [List.length_map]; exact h4, by omega⟩
    · rw [List.map_map]
      have : s.2.2.map (pc ∘ fun c => ((1, c.toInt.toNat) : Pt)) = s.2.2.map id := List.map_congr_left (fun c hc => by
        show pc (1, c.toInt.toNat) = c
        unfold pc
        rw [if_neg (show ¬ (1 : Nat) = 0 by decide), if_pos rfl]
        exact (hw c hc).1)
      rw [this, List.map_id]
    · have key : ∀ l : List Int32, (∀ c ∈ l, nI c.toInt.toNat = c) → decF (l.map (fun c => ((1, c.toInt.toNat) : Pt))) = l := by
        intro l
        induction l with
        | nil => intro _; rfl
        | cons c l ih =>
          intro hl
          rw [List.map_cons, decF, ih (fun c hc => hl c (List.mem_cons_of_mem _ hc))]
          unfold dec1
          rw [if_neg (show ¬ (1 : Nat) = 0 by decide), if_pos rfl]
          show nI c.toInt.toNat :: l = _
          rw [hl c List.mem_cons_self]
      exact key _ (fun c hc => (hw c hc).1)
    · obtain ⟨c, hc, rfl⟩ := List.mem_map.mp hx
      exact Or.inr (Or.inl ⟨rfl, (hw c hc).2.1, (hw c hc).2.2⟩)
  · obtain ⟨h3, h4⟩ := h2 c1
    rw [if_neg c1, if_neg c1, if_neg c1]
    by_cases c2 : s.1 = 2
    · rw [if_pos c2, if_pos c2, if_pos c2]
      refine ⟨rfl, ?_, fun x hx => ?_, by simp, by rw [List.length_replicate]; exact h4⟩
      · rw [decF, decF, List.append_nil]; rfl
      · have : x = (2, s.2.1) := by simpa using hx
        rw [this]
        exact Or.inr (Or.inr ⟨rfl, h3, by show s.2.1 ≤ 100000; omega⟩)
    · rw [if_neg c2, if_neg c2, if_neg c2]
      refine ⟨rfl, ?_, fun x hx => ?_, by simp, by rw [List.length_replicate]; exact h4⟩
      · rw [decF, decF, List.append_nil]; rfl
      · have : x = (0, s.2.1) := by simpa using hx
        rw [this]
        exact Or.inl ⟨rfl, h3, by show s.2.1 ≤ 100000; omega⟩
theorem ptsS_ok : ∀ ss : List Sv, (∀ s ∈ ss, GoodSv s) → (ptsS ss).map pc = partsS ss ∧ decF (ptsS ss) = stpsL ss ∧ (∀ x ∈ ptsS ss, okPt x) ∧ (ptsS ss).length ≤ 20 * ss.length ∧ (stpsL ss).length ≤ 99 * ss.length := by
  intro ss
  induction ss with
  | nil => intro _; exact ⟨rfl, rfl, fun x hx => absurd hx List.not_mem_nil, Nat.le_refl _, Nat.le_refl _⟩
  | cons s ss ih =>
    intro h
    obtain ⟨a1, a2, a3, a4, a5⟩ := ptS_ok (h s List.mem_cons_self)
    obtain ⟨b1, b2, b3, b4, b5⟩ := ih (fun s hs => h s (List.mem_cons_of_mem _ hs))
    rw [ptsS, partsS, stpsL, List.map_append, decF_app, a1, a2, b1, b2]
    refine ⟨rfl, rfl, fun x hx => ?_, by rw [List.length_append, List.length_cons]; omega, by rw [List.length_append, List.length_cons]; omega⟩
    rcases List.mem_append.mp hx with hx | hx
    · exact a3 x hx
    · exact b3 x hx
section TB
variable {S S' S'' : CS} {z fi ch c : Nat} {A A' : St} {K K' : Nat → Option Nat} {H : Nat → Prop} {X : Nat × Nat}
/-- the class builds an operation out of what was told -/
theorem told_op {ss : List Sv} {a len : Nat} {f : Nat → Int32} (hW : Wf S) (hT : TpS S z) (hR : Rm z X c S) (hg : ∀ s ∈ ss, GoodSv s) (h40 : ss.length ≤ 40) (ho : oldL (stpsL ss) = stpsN ss) (hf : cA S (z + 3) = f) (hs : seg f a (partsS ss)) (ha : a + (partsS ss).length ≤ 1600) (hlen : len ≤ 240) :
    ∃ S', cal S 4 (z + 654) (f4_build X S (z + 654) (z + 3) (nI a) (nI (a + (partsS ss).length)) (nI len)) = some (bI (decide (stpsN ss ≤ len)), S') ∧ (stpsN ss ≤ len → OpL S' (z + 654) (opTo ss len)) ∧ Sg z (fun x => x = z + 654) 0 S S' := by
  obtain ⟨p1, p2, p3, p4, p5⟩ := ptsS_ok ss hg
  obtain ⟨b0, b1, b2, b3, b4⟩ := hT.2.2.1
  obtain ⟨_, ⟨c2, c3⟩, _⟩ := hT.2.2.2.1
  have hk := hT.2.2.2.2.2.2.2.2.1
  have hl : (partsS ss).length = (ptsS ss).length := by rw [← p1, List.length_map]
  obtain ⟨S', e1, e2, e3⟩ := build_L (z := z) (X := X) (c := c) (o := z + 654) (a := z + 3) (f := a) (len := len) (P := ptsS ss) hW hR (grw_n (op_n z)) hk (fun h k hj e => by
    have := (hW.2.2.1 h (z + 1) k 7 (z + 3) hj b2 c2).1
    omega) ⟨c2, kd_lt hW.1 c2 (by omega), by omega, by omega⟩ (fun k hk => by
    rw [hf, p1]
    exact hs k (by omega)) p3 (by omega) (by omega) (by rw [p2]; omega)
  rw [← hl, p2, ho] at e1
  rw [p2, ho] at e2
  exact ⟨S', by rw [cal_k hk]; exact e1, e2, e3⟩
theorem note_C {p : Pz} (h : CR S z A K fi ch) (hg : GA A) (hk : cI S (z + 1) 2 = nI (pBd p)) (hp5 : pBd p ≤ 5) (hq : pBd p ≠ 0 → cI S (z + 1) 3 = oI (pBp p)) (h0 : pBd p = 0 → pBp p = none) (htape : aTape A = []) : ∃ S', cal S 11 z (f11_noteFault S z) = some S' ∧ CR S' z (sFa A p) K fi ch ∧ Sg z (fun x => x = z) 0 S S' := by
  obtain ⟨hW, hT, hTp, ⟨f1, f2, f3, f4⟩, _⟩ := id h
  obtain ⟨t0, _⟩ := TpS_g hT
  have b0 := hT.2.2.1.1
  have s1 : Sg z (fun x => x = z) 0 S (setI S z 11 (nI (pBd p))) := Sg_setI hW rfl
  have s2 : Sg z (fun x => x = z) 0 (setI S z 11 (nI (pBd p))) (setI (setI S z 11 (nI (pBd p))) z 12 (oI (pBp p))) := Sg_setI s1.1 rfl
  have s12 : Sg z (fun x => x = z) 0 S (setI (setI S z 11 (nI (pBd p))) z 12 (oI (pBp p))) := by have := Sg_trans s1 s2; exact this
  have i1 : ∀ k, k ≠ 11 → k ≠ 12 → cI (setI (setI S z 11 (nI (pBd p))) z 12 (oI (pBp p))) z k = cI S z k := fun k k1 k2 => by rw [cI_set, if_neg (by omega), cI_set, if_neg (by omega)]
  have j1 : ∀ k, cI (setI S z 11 (nI (pBd p))) (z + 1) k = cI S (z + 1) k := fun k => by rw [cI_set, if_neg (by omega)]
  have hT1 := TpS_Sg hW hT s1
  obtain ⟨u0, _⟩ := TpS_g hT1
  have c0 := hT1.2.2.1.1
  have hC : CR (setI (setI S z 11 (nI (pBd p))) z 12 (oI (pBp p))) z (sFa A p) K fi ch := CR_F h hg s12 (fun x hx => Or.inl hx) rfl rfl rfl rfl (by
    have := TpT_Sg hW hT hTp s12 (by omega)
    unfold TpT at this ⊢
    rw [htape] at this
    exact this) ⟨by rw [cI_set, if_neg (by omega), cI_self]; rfl, by rw [cI_self]; rfl, f3, by rw [i1 13 (by omega) (by omega)]; exact f4⟩
  refine ⟨_, ?_, hC, s12⟩
  rw [cal_k hT.1]
  unfold f11_noteFault
  rw [t0, Option.bind_some, gi_k b0, hk, Option.bind_some, pi_k hT.1, Option.bind_some, u0, Option.bind_some, gi_k c0, j1, hk, Option.bind_some]
  by_cases hb : pBd p = 0
  · rw [hb, if_pos (show nI 0 = (0 : Int32) from rfl), Option.bind_some]
    rw [h0 hb]
    exact (by rw [pi_I hT.1, Option.bind_some]; rfl)
  · rw [if_neg (nI_ne0 (by omega) (by omega)), Option.bind_some, gi_k c0, j1, hq hb, Option.bind_some, Option.bind_some, pi_I hT.1, Option.bind_some]
theorem open_P (h : CR S z A K fi ch) (hg : GA A) : ∃ S1 v, cal S 8 (z + 1) (f8_open S (z + 1)) = some S1 ∧ OK8 z S S1 (aTape A) 0 v ∧ v.1 = 0 ∧ v.2.1 = 0 := by
  obtain ⟨hW, hT, ⟨h1, h2⟩, _⟩ := id h
  obtain ⟨b0, b1, b2, b3, b4⟩ := hT.2.2.1
  have s1 : Sg z (H1 z) 0 S (setI S (z + 1) 11 0) := Sg_setI hW rfl
  have s2 : Sg z (H1 z) 0 (setI S (z + 1) 11 0) (setI (setI S (z + 1) 11 0) (z + 1) 2 0) := Sg_setI s1.1 rfl
  have s3 : Sg z (H1 z) 0 (setI (setI S (z + 1) 11 0) (z + 1) 2 0) (setI (setI (setI S (z + 1) 11 0) (z + 1) 2 0) (z + 1) 4 0) := Sg_setI s2.1 rfl
  have s4 : Sg z (H1 z) 0 (setI (setI (setI S (z + 1) 11 0) (z + 1) 2 0) (z + 1) 4 0) (setI (setI (setI (setI S (z + 1) 11 0) (z + 1) 2 0) (z + 1) 4 0) (z + 1) 8 0) := Sg_setI s3.1 rfl
  have s14 : Sg z (H1 z) 0 S (setI (setI (setI (setI S (z + 1) 11 0) (z + 1) 2 0) (z + 1) 4 0) (z + 1) 8 0) := by have := Sg_trans (Sg_trans (Sg_trans s1 s2) s3) s4; exact this
  have i : ∀ k x, (k = 11 ∨ k = 2 ∨ k = 4 ∨ k = 8 → x = 0) → (¬ (k = 11 ∨ k = 2 ∨ k = 4 ∨ k = 8) → x = cI S (z + 1) k) → cI (setI (setI (setI (setI S (z + 1) 11 0) (z + 1) 2 0) (z + 1) 4 0) (z + 1) 8 0) (z + 1) k = x := by
    intro k x hx1 hx2
    rw [cI_set, cI_set, cI_set, cI_set]
    by_cases k8 : k = 8
    · rw [if_pos ⟨rfl, k8⟩, hx1 (by omega)]
    · rw [if_neg (by omega)]
      by_cases k4 : k = 4
      · rw [if_pos ⟨rfl, k4⟩, hx1 (by omega)]
      · rw [if_neg (by omega)]
        by_cases k2 : k = 2
        · rw [if_pos ⟨rfl, k2⟩, hx1 (by omega)]
        · rw [if_neg (by omega)]
          by_cases k11 : k = 11
          · rw [if_pos ⟨rfl, k11⟩, hx1 (by omega)]
          · rw [if_neg (by omega), hx2 (by omega)]
  rw [cal_k b0]
  unfold f8_open
  rw [pi_k b0, Option.bind_some, pi_I b0, Option.bind_some, pi_k (S := setI (setI S (z + 1) 11 0) (z + 1) 2 0) b0, Option.bind_some, pi_k (S := setI (setI (setI S (z + 1) 11 0) (z + 1) 2 0) (z + 1) 4 0) b0, Option.bind_some]
  refine ⟨_, (0, 0, cI S (z + 1) 5, cI S (z + 1) 6, cA S (z + 3), cA S (z + 4), cA S (z + 5)), rfl, ⟨⟨⟨s14.1, TpS_Sg hW hT s14⟩, ⟨?_, h2⟩, ?_, ?_, ⟨?_, ?_, ?_, ?_⟩, ⟨rfl, rfl, rfl⟩, Nat.zero_le _, hg.1⟩, s14⟩, rfl, rfl⟩
  · rw [i 1 (nI (aTape A).length) (by omega) (fun _ => h1.symm)]
  · rw [i 11 (nI 0) (fun _ => rfl) (by omega)]
  · rw [i 2 0 (fun _ => rfl) (by omega)]
  · rw [i 4 (nI 0) (fun _ => rfl) (by omega)]
  · rw [i 8 (nI 0) (fun _ => rfl) (by omega)]
  · rw [i 5 _ (by omega) (fun _ => rfl)]
  · rw [i 6 _ (by omega) (fun _ => rfl)]
theorem NB_tape (hg : GA A) : NB (aTape A) := by
  intro j hj
  obtain ⟨w, w1, w2⟩ := hg.2.1 _ (List.getElem_mem hj)
  unfold byteAt
  rw [if_pos hj, List.getD_eq_getElem?_getD, List.getElem?_eq_getElem hj]
  show (aTape A)[j] ≠ -1
  rw [w2]
  intro e
  have h3 := is1.mp e
  rw [nI_toInt (by omega)] at h3
  omega
end TB
