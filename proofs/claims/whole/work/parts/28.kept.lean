/-! ===== PART II, the reference: operations that are kept in the great array ===== -/
theorem nI_2 (a : Nat) : nI a + 2 = nI (a + 2) := nI_add a 2
theorem nI_r3 (a : Nat) : 3 + nI a = nI (3 + a) := nI_add 3 a
theorem nI_r2 (a : Nat) : 2 + nI a = nI (2 + a) := nI_add 2 a
theorem nI_mul (a b : Nat) : nI a * nI b = nI (a * b) := (Int32.ofNat_mul a b).symm
theorem nI_sub {a b : Nat} (h : b ≤ a) : nI a - nI b = nI (a - b) := by
  obtain ⟨k, rfl⟩ : ∃ k, a = b + k := ⟨a - b, by omega⟩
  rw [Nat.add_sub_cancel_left, ← nI_add, Int32.add_comm, Int32.add_sub_cancel]
theorem of_ok (e w : Nat) : f12_of (nI e) (nI w) = some (nI (4 + 2618 * e + w)) := by
  unfold f12_of
  rw [show (2618 : Int32) = nI 2618 from rfl, show (4 : Int32) = nI 4 from rfl, nI_mul, nI_add, nI_add]
theorem its_ok {M : MS} {e w : Nat} (h : 4 + 2618 * e + w < 10476) : f12_its M (nI e) (nI w) = some (M.2.1 30 (4 + 2618 * e + w)) := by
  unfold f12_its
  rw [show (2618 : Int32) = nI 2618 from rfl, show (4 : Int32) = nI 4 from rfl, nI_mul, nI_add, nI_add, ld_n (show _ < 10476 from h), Option.bind_some]
def KeptAt (f : Nat → Int32) (a : Nat) (p : List Int32) : Prop := f a = nI (gatherL p 0).length ∧ f (a + 1) = nI (oldL p) ∧ seg f (a + 2) (gatherL p 0)
theorem KeptAt_sh {f f' : Nat → Int32} {a b : Nat} {p : List Int32} (h : KeptAt f a p) (hf : ∀ j, j < 2 + (gatherL p 0).length → f' (b + j) = f (a + j)) : KeptAt f' b p := by
  refine ⟨?_, ?_, ?_⟩
  · have := hf 0 (by omega); rw [Nat.add_zero, Nat.add_zero] at this; rw [this]; exact h.1
  · rw [hf 1 (by omega)]; exact h.2.1
  · intro k hk
    rw [Nat.add_assoc, hf (2 + k) (by omega), ← Nat.add_assoc]
    exact h.2.2 k hk
theorem KeptAt_eq {f f' : Nat → Int32} {a : Nat} {p : List Int32} (h : KeptAt f a p) (hf : ∀ j, a ≤ j → j < a + 2 + (gatherL p 0).length → f' j = f j) : KeptAt f' a p :=
  KeptAt_sh h (fun j hj => hf _ (by omega) (by omega))
theorem keeps_up {M : MS} {ka p : Nat} {C : List Int32} (f : Nat → Int32) (hp : p + 2 + (gatherL C 0).length ≤ 10476) : ∃ f', sR (sR (sR M 30 (wr f (p + 2) (gatherL C 0))) 30 (upd (wr f (p + 2) (gatherL C 0)) p (nI (gatherL C 0).length))) 30 (upd (upd (wr f (p + 2) (gatherL C 0)) p (nI (gatherL C 0).length)) (p + 1) (nI (oldL C))) = sR M 30 f' ∧ KeptAt f' p C ∧ (∀ j, j < p ∨ p + 2 + (gatherL C 0).length ≤ j → f' j = f j) := by
  refine ⟨upd (upd (wr f (p + 2) (gatherL C 0)) p (nI (gatherL C 0).length)) (p + 1) (nI (oldL C)), by rw [sR_sR, sR_sR], ⟨?_, ?_, ?_⟩, ?_⟩
  · unfold upd; rw [if_neg (by omega), if_pos rfl]
  · unfold upd; rw [if_pos rfl]
  · intro k hk
    unfold upd
    rw [if_neg (by omega), if_neg (by omega), wr_in hk]
  · intro j hj
    unfold upd
    rw [if_neg (by omega), if_neg (by omega), wr_out (by omega)]
theorem keepsC_ok {M : MS} {p : Nat} {C : List Int32} (hr : Row M 22 27 C) (hv : ∀ v ∈ C, okV v) (hl : C.length ≤ 700) (hp : p + 2 + (gatherL C 0).length ≤ 10476) :
    ∃ f', f12_keepsC M (nI p) = some (sR M 30 f') ∧ KeptAt f' p C ∧ (∀ j, j < p ∨ p + 2 + (gatherL C 0).length ≤ j → f' j = M.2.1 30 j) := by
  obtain ⟨f', e1, e2, e3⟩ := keeps_up (M := M) (ka := 22) (M.2.1 30) hp
  refine ⟨f', ?_, e2, e3⟩
  rw [← e1]
  unfold f12_keepsC
  have h1 := gathers_ok (M := M) (a1 := 22) (a3 := 30) (first := p + 2) (by decide) hv hr.2 (show C.length ≤ 700 from hl) (by omega) (show _ ≤ 10476 by omega)
  rw [show gF M 27 = nI C.length from hr.1, nI_2, h1, bn2_s, sd_n (show p < 10476 by omega), Option.bind_some, sR_get]
  have h2 : ∀ g, f12_oldOf (sR (sR M 30 (wr (M.2.1 30) (p + 2) (gatherL C 0))) 30 g) 22 (gF (sR (sR M 30 (wr (M.2.1 30) (p + 2) (gatherL C 0))) 30 g) 27) = some (nI (oldL C)) := by
    intro g
    rw [show gF (sR (sR M 30 (wr (M.2.1 30) (p + 2) (gatherL C 0))) 30 g) 27 = nI C.length from hr.1]
    exact oldOf_ok (by rw [sR_ne _ _ (by decide), sR_ne _ _ (by decide)]; exact hr.2) (show C.length ≤ 700 from hl) (by omega)
  rw [h2, Option.bind_some, nI_1, sd_n (show p + 1 < 10476 by omega), Option.bind_some, sR_get]
theorem keepsA_ok {M : MS} {p : Nat} {C : List Int32} (hr : Row M 20 25 C) (hv : ∀ v ∈ C, okV v) (hl : C.length ≤ 700) (hp : p + 2 + (gatherL C 0).length ≤ 10476) :
    ∃ f', f12_keepsA M (nI p) = some (sR M 30 f') ∧ KeptAt f' p C ∧ (∀ j, j < p ∨ p + 2 + (gatherL C 0).length ≤ j → f' j = M.2.1 30 j) := by
  obtain ⟨f', e1, e2, e3⟩ := keeps_up (M := M) (ka := 20) (M.2.1 30) hp
  refine ⟨f', ?_, e2, e3⟩
  rw [← e1]
  unfold f12_keepsA
  have h1 := gathers_ok (M := M) (a1 := 20) (a3 := 30) (first := p + 2) (by decide) hv hr.2 (show C.length ≤ 700 from hl) (by omega) (show _ ≤ 10476 by omega)
  rw [show gF M 25 = nI C.length from hr.1, nI_2, h1, bn2_s, sd_n (show p < 10476 by omega), Option.bind_some, sR_get]
  have h2 : ∀ g, f12_oldOf (sR (sR M 30 (wr (M.2.1 30) (p + 2) (gatherL C 0))) 30 g) 20 (gF (sR (sR M 30 (wr (M.2.1 30) (p + 2) (gatherL C 0))) 30 g) 25) = some (nI (oldL C)) := by
    intro g
    rw [show gF (sR (sR M 30 (wr (M.2.1 30) (p + 2) (gatherL C 0))) 30 g) 25 = nI C.length from hr.1]
    exact oldOf_ok (by rw [sR_ne _ _ (by decide), sR_ne _ _ (by decide)]; exact hr.2) (show C.length ≤ 700 from hl) (by omega)
  rw [h2, Option.bind_some, nI_1, sd_n (show p + 1 < 10476 by omega), Option.bind_some, sR_get]
theorem keptToA_ok {M : MS} {p : Nat} {A : List Int32} (h : KeptAt (M.2.1 30) p A) (hv : ∀ v ∈ A, okV v) (hl : A.length ≤ 700) (hp : p + 2 + (gatherL A 0).length ≤ 10476) :
    ∃ M', f12_keptToA M (nI p) = some M' ∧ Row M' 20 25 A ∧ Frm [20] [25] M M' := by
  have h1 := spreads_ok (M := M) (a1 := 30) (a5 := 20) (first := p + 2) (A := A) (by decide) hv h.2.2 (show _ ≤ 10476 by omega) (show A.length ≤ 700 from hl) (by omega) (gatherL_le A 0) (oldL_le A)
  refine ⟨sF (sR M 20 (wr (M.2.1 20) 0 A)) 25 (nI A.length), ?_, ⟨sF_get _ _ _, ?_⟩, Frm_trans (Frm_sR (by decide)) (Frm_sF (by decide))⟩
  · unfold f12_keptToA
    rw [ld_n (show p < 10476 by omega), Option.bind_some, nI_1, ld_n (show p + 1 < 10476 by omega), Option.bind_some, h.1, h.2.1, nI_2, h1, bn2_s]
  · show seg ((sR M 20 (wr (M.2.1 20) 0 A)).2.1 20) 0 A
    rw [sR_get]; exact seg_wr
/-- an operation of the server's row, the i-th -/
def OpAt (M : MS) (i : Nat) (o : Nat × List Int32) : Prop := M.2.1 36 i = nI o.1 ∧ M.2.1 37 i = nI (oldL o.2) ∧ M.2.1 39 i = nI (gatherL o.2 0).length ∧ ∃ s : Nat, M.2.1 38 i = nI s ∧ s + (gatherL o.2 0).length ≤ 3000 ∧ seg (M.2.1 40) s (gatherL o.2 0)
theorem opToA_ok {M : MS} {i : Nat} {o : Nat × List Int32} (h : OpAt M i o) (hv : ∀ v ∈ o.2, okV v) (hl : o.2.length ≤ 700) (hi : i < 108) :
    ∃ M', f12_opToA M (nI i) = some M' ∧ Row M' 20 25 o.2 ∧ Frm [20] [25] M M' := by
  obtain ⟨h0, h1, h2, s, h3, h4, h5⟩ := h
  have h6 := spreads_ok (M := M) (a1 := 40) (a5 := 20) (first := s) (A := o.2) (by decide) hv h5 h4 (show o.2.length ≤ 700 from hl) (by omega) (gatherL_le _ 0) (oldL_le _)
  refine ⟨sF (sR M 20 (wr (M.2.1 20) 0 o.2)) 25 (nI o.2.length), ?_, ⟨sF_get _ _ _, ?_⟩, Frm_trans (Frm_sR (by decide)) (Frm_sF (by decide))⟩
  · unfold f12_opToA
    rw [ld_n (show i < mLn 38 from hi), Option.bind_some, ld_n (show i < mLn 39 from hi), Option.bind_some, ld_n (show i < mLn 37 from hi), Option.bind_some, h1, h2, h3, h6, bn2_s]
  · show seg ((sR M 20 (wr (M.2.1 20) 0 o.2)).2.1 20) 0 o.2
    rw [sR_get]; exact seg_wr
theorem opToB_ok {M : MS} {i : Nat} {o : Nat × List Int32} (h : OpAt M i o) (hv : ∀ v ∈ o.2, okV v) (hl : o.2.length ≤ 700) (hi : i < 108) :
    ∃ M', f12_opToB M (nI i) = some M' ∧ Row M' 21 26 o.2 ∧ Frm [21] [26] M M' := by
  obtain ⟨h0, h1, h2, s, h3, h4, h5⟩ := h
  have h6 := spreads_ok (M := M) (a1 := 40) (a5 := 21) (first := s) (A := o.2) (by decide) hv h5 h4 (show o.2.length ≤ 700 from hl) (by omega) (gatherL_le _ 0) (oldL_le _)
  refine ⟨sF (sR M 21 (wr (M.2.1 21) 0 o.2)) 26 (nI o.2.length), ?_, ⟨sF_get _ _ _, ?_⟩, Frm_trans (Frm_sR (by decide)) (Frm_sF (by decide))⟩
  · unfold f12_opToB
    rw [ld_n (show i < mLn 38 from hi), Option.bind_some, ld_n (show i < mLn 39 from hi), Option.bind_some, ld_n (show i < mLn 37 from hi), Option.bind_some, h1, h2, h3, h6, bn2_s]
  · show seg ((sR M 21 (wr (M.2.1 21) 0 o.2)).2.1 21) 0 o.2
    rw [sR_get]; exact seg_wr
/-- one kept operation is copied to another place of the great array -/
theorem copiesOp_loop {M : MS} {to fr : Nat} {N : Nat} (hN : M.2.1 30 fr = nI N) (hd : to + 2 + N ≤ fr ∨ fr + 2 + N ≤ to) (h1 : to + 2 + N ≤ 10476) (h2 : fr + 2 + N ≤ 10476) :
    ∀ (d n i : Nat), i + d = 2 + N → d < n → L12_copiesOp_2 (nI to) (nI fr) n (nI i) (sR M 30 (fun j => if to ≤ j ∧ j < to + i then M.2.1 30 (fr + (j - to)) else M.2.1 30 j)) = some (sR M 30 (fun j => if to ≤ j ∧ j < to + (2 + N) then M.2.1 30 (fr + (j - to)) else M.2.1 30 j)) := by
  intro d
  induction d with
  | zero =>
    intro n i hi hn
    obtain ⟨n, rfl⟩ : ∃ k, n = k + 1 := ⟨n - 1, by omega⟩
    unfold L12_copiesOp_2
    rw [ld_n (show fr < 10476 by omega), sR_get, if_neg (by omega), hN, Option.bind_some, nI_r2, if_pos (nI_le (by omega) (by omega)), show i = 2 + N by omega]
  | succ d ih =>
    intro n i hi hn
    obtain ⟨n, rfl⟩ : ∃ k, n = k + 1 := ⟨n - 1, by omega⟩
    unfold L12_copiesOp_2
    rw [ld_n (show fr < 10476 by omega), sR_get, if_neg (by omega), hN, Option.bind_some, nI_r2, if_neg (nI_ge (by omega) (by omega)), nI_add, nI_add, ld_n (show fr + i < 10476 by omega), sR_get, if_neg (by omega), Option.bind_some, sd_n (show to + i < 10476 by omega), sR_get, sR_sR, Option.bind_some, nI_1]
    rw [← ih n (i + 1) (by omega) (by omega)]
    congr 2
    funext j
    unfold upd
    by_cases hj : j = to + i
    · subst hj
      rw [if_pos rfl, if_pos (by omega), Nat.add_sub_cancel_left]
    · rw [if_neg hj]
      by_cases h3 : to ≤ j ∧ j < to + i
      · show (if to ≤ j ∧ j < to + i then _ else _) = _
        rw [if_pos h3, if_pos (by omega)]
      · show (if to ≤ j ∧ j < to + i then _ else _) = _
        rw [if_neg h3, if_neg (by omega)]
theorem copiesOp_ok {M : MS} {to fr : Nat} {A : List Int32} (hk : KeptAt (M.2.1 30) fr A) (hd : to + 2 + (gatherL A 0).length ≤ fr ∨ fr + 2 + (gatherL A 0).length ≤ to) (h1 : to + 2 + (gatherL A 0).length ≤ 10476) (h2 : fr + 2 + (gatherL A 0).length ≤ 10476) :
    ∃ f', f12_copiesOp M (nI to) (nI fr) = some (sR M 30 f') ∧ KeptAt f' to A ∧ (∀ j, j < to ∨ to + 2 + (gatherL A 0).length ≤ j → f' j = M.2.1 30 j) := by
  have h := copiesOp_loop hk.1 hd h1 h2 (2 + (gatherL A 0).length) FU 0 (by omega) (by rw [FU_eq]; omega)
  have e0 : sR M 30 (fun j => if to ≤ j ∧ j < to + 0 then M.2.1 30 (fr + (j - to)) else M.2.1 30 j) = M := by
    have : (fun j => if to ≤ j ∧ j < to + 0 then M.2.1 30 (fr + (j - to)) else M.2.1 30 j) = M.2.1 30 := by
      funext j; rw [if_neg (by omega)]
    rw [this, sR_self]
  rw [e0] at h
  refine ⟨_, by unfold f12_copiesOp; rw [show L12_copiesOp_2 (nI to) (nI fr) FU (0 : Int32) M = _ from h, Option.bind_some], ?_, ?_⟩
  · refine KeptAt_sh hk (fun j hj => ?_)
    rw [if_pos (by omega), Nat.add_sub_cancel_left]
  · intro j hj
    rw [if_neg (by omega)]
