/-! ===== PART II: an editor, and how the reference keeps it ===== -/
/-- revision, cursor, marks, on, delay, pending, buffer, ticks left to the server, what was sent and its revision, text, undos, dones, ticks left to it -/
abbrev Ed : Type := Nat × Nat × List (Nat × Nat × Nat) × Bool × Nat × Option (List Int32) × Option (List Int32) × Option Nat × (List Int32 × Nat) × List Int32 × List (Nat × List Int32) × List (Nat × List Int32) × (Nat → Nat)
abbrev eRev (E : Ed) := E.1
abbrev eCur (E : Ed) := E.2.1
abbrev eMks (E : Ed) := E.2.2.1
abbrev eOn (E : Ed) := E.2.2.2.1
abbrev eDel (E : Ed) := E.2.2.2.2.1
abbrev ePnd (E : Ed) := E.2.2.2.2.2.1
abbrev eBuf (E : Ed) := E.2.2.2.2.2.2.1
abbrev eLft (E : Ed) := E.2.2.2.2.2.2.2.1
abbrev eSnt (E : Ed) := E.2.2.2.2.2.2.2.2.1
abbrev eTxt (E : Ed) := E.2.2.2.2.2.2.2.2.2.1
abbrev eUnd (E : Ed) := E.2.2.2.2.2.2.2.2.2.2.1
abbrev eDon (E : Ed) := E.2.2.2.2.2.2.2.2.2.2.2.1
abbrev eCom (E : Ed) := E.2.2.2.2.2.2.2.2.2.2.2.2
def sRev (E : Ed) (v : Nat) : Ed := (v, E.2)
def sCur (E : Ed) (v : Nat) : Ed := (E.1, v, E.2.2)
def sMks (E : Ed) (v : List (Nat × Nat × Nat)) : Ed := (E.1, E.2.1, v, E.2.2.2)
def sOn (E : Ed) (v : Bool) : Ed := (E.1, E.2.1, E.2.2.1, v, E.2.2.2.2)
def sDel (E : Ed) (v : Nat) : Ed := (E.1, E.2.1, E.2.2.1, E.2.2.2.1, v, E.2.2.2.2.2)
def sPnd (E : Ed) (v : Option (List Int32)) : Ed := (E.1, E.2.1, E.2.2.1, E.2.2.2.1, E.2.2.2.2.1, v, E.2.2.2.2.2.2)
def sBuf (E : Ed) (v : Option (List Int32)) : Ed := (E.1, E.2.1, E.2.2.1, E.2.2.2.1, E.2.2.2.2.1, E.2.2.2.2.2.1, v, E.2.2.2.2.2.2.2)
def sLft (E : Ed) (v : Option Nat) : Ed := (E.1, E.2.1, E.2.2.1, E.2.2.2.1, E.2.2.2.2.1, E.2.2.2.2.2.1, E.2.2.2.2.2.2.1, v, E.2.2.2.2.2.2.2.2)
def sSnt (E : Ed) (v : List Int32 × Nat) : Ed := (E.1, E.2.1, E.2.2.1, E.2.2.2.1, E.2.2.2.2.1, E.2.2.2.2.2.1, E.2.2.2.2.2.2.1, E.2.2.2.2.2.2.2.1, v, E.2.2.2.2.2.2.2.2.2)
def sTxt (E : Ed) (v : List Int32) : Ed := (E.1, E.2.1, E.2.2.1, E.2.2.2.1, E.2.2.2.2.1, E.2.2.2.2.2.1, E.2.2.2.2.2.2.1, E.2.2.2.2.2.2.2.1, E.2.2.2.2.2.2.2.2.1, v, E.2.2.2.2.2.2.2.2.2.2)
def sUnd (E : Ed) (v : List (Nat × List Int32)) : Ed := (E.1, E.2.1, E.2.2.1, E.2.2.2.1, E.2.2.2.2.1, E.2.2.2.2.2.1, E.2.2.2.2.2.2.1, E.2.2.2.2.2.2.2.1, E.2.2.2.2.2.2.2.2.1, E.2.2.2.2.2.2.2.2.2.1, v, E.2.2.2.2.2.2.2.2.2.2.2)
def sDon (E : Ed) (v : List (Nat × List Int32)) : Ed := (E.1, E.2.1, E.2.2.1, E.2.2.2.1, E.2.2.2.2.1, E.2.2.2.2.2.1, E.2.2.2.2.2.2.1, E.2.2.2.2.2.2.2.1, E.2.2.2.2.2.2.2.2.1, E.2.2.2.2.2.2.2.2.2.1, E.2.2.2.2.2.2.2.2.2.2.1, v, E.2.2.2.2.2.2.2.2.2.2.2.2)
def sCom (E : Ed) (v : Nat → Nat) : Ed := (E.1, E.2.1, E.2.2.1, E.2.2.2.1, E.2.2.2.2.1, E.2.2.2.2.2.1, E.2.2.2.2.2.2.1, E.2.2.2.2.2.2.2.1, E.2.2.2.2.2.2.2.2.1, E.2.2.2.2.2.2.2.2.2.1, E.2.2.2.2.2.2.2.2.2.2.1, E.2.2.2.2.2.2.2.2.2.2.2.1, v)
/-- a number that may be none -/
def oI : Option Nat → Int32
  | none => -1
  | some k => nI k
def bI (b : Bool) : Int32 := if b then 1 else 0
/-- the head of an editor's part of the great array: numbers, marks -/
def REh (f : Nat → Int32) (b : Nat) (E : Ed) : Prop :=
  f b = nI (eRev E) ∧ f (b + 1) = nI (eCur E) ∧ f (b + 2) = nI (eMks E).length ∧ mkAt f (b + 3) (eMks E) ∧ f (b + 15) = bI (eOn E) ∧ f (b + 16) = nI (eDel E) ∧ f (b + 17) = bI (ePnd E).isSome ∧ f (b + 18) = bI (eBuf E).isSome ∧ f (b + 19) = oI (eLft E) ∧ ((eLft E).isSome = true → f (b + 20) = nI (eSnt E).2)
/-- its text -/
def REt (f : Nat → Int32) (b : Nat) (E : Ed) : Prop := f (b + 21) = nI (eTxt E).length ∧ seg f (b + 24) (eTxt E)
/-- some operation that is right lies there -/
def StA (f : Nat → Int32) (a : Nat) : Prop := ∃ p : List Int32, okO p ∧ p.length ≤ 700 ∧ (gatherL p 0).length ≤ 440 ∧ KeptAt f a p
theorem StA_eq {f f' : Nat → Int32} {a : Nat} (h : StA f a) (hf : ∀ j, a ≤ j → j < a + 442 → f' j = f j) : StA f' a := by
  obtain ⟨p, h1, h2, h3, h4⟩ := h
  exact ⟨p, h1, h2, h3, KeptAt_eq h4 (fun j j1 j2 => hf j j1 (by omega))⟩
/-- its operations -/
def REo (f : Nat → Int32) (b : Nat) (E : Ed) : Prop := (∀ p, ePnd E = some p → KeptAt f (b + 264) p) ∧ ((eLft E).isSome = true → KeptAt f (b + 706) (eSnt E).1) ∧ (∀ p, eBuf E = some p → KeptAt f (b + 1148) p) ∧ StA f (b + 264) ∧ StA f (b + 1148)
/-- its stacks -/
def REs (f : Nat → Int32) (b : Nat) (E : Ed) : Prop := f (b + 22) = nI (eUnd E).length ∧ f (b + 23) = nI (eDon E).length ∧ stk f (b + 1590) (eUnd E) ∧ stk f (b + 2054) (eDon E)
/-- what is on its way to it -/
def REc (f : Nat → Int32) (b n : Nat) (E : Ed) : Prop := ∀ i, i < n → f (b + 2518 + i) = nI (eCom E i)
def REd (f : Nat → Int32) (b n : Nat) (E : Ed) : Prop := REh f b E ∧ REt f b E ∧ REo f b E ∧ REs f b E ∧ REc f b n E
def capS : List (Nat × List Int32) → Nat
  | [] => 0
  | x :: s => 3 + x.1 + capS s
theorem stkE_cap (s : List (Nat × List Int32)) (a : Nat) : stkE a s = a + capS s := by
  induction s generalizing a with
  | nil => rfl
  | cons x s ih => rw [stkE, capS, ih]; omega
/-- what an editor has lies within its part -/
def Bd (E : Ed) : Prop := (eTxt E).length ≤ 240 ∧ (eMks E).length ≤ 4 ∧ (∀ x ∈ eMks E, x.1 < 10000 ∧ x.2.1 < 10000 ∧ x.2.2 ≤ 3) ∧ eCur E < 10000 ∧ (∀ p, ePnd E = some p → (gatherL p 0).length ≤ 440) ∧ ((eLft E).isSome = true → (gatherL (eSnt E).1 0).length ≤ 440) ∧ (∀ p, eBuf E = some p → (gatherL p 0).length ≤ 440) ∧ capS (eUnd E) ≤ 464 ∧ capS (eDon E) ≤ 464
theorem REh_eq {f f' : Nat → Int32} {b : Nat} {E : Ed} (h : REh f b E) (hm : (eMks E).length ≤ 4) (hf : ∀ j, b ≤ j → j < b + 21 → f' j = f j) : REh f' b E := by
  obtain ⟨h1, h2, h3, h4, h5, h6, h7, h8, h9, h10⟩ := h
  exact ⟨by rw [hf _ (by omega) (by omega)]; exact h1, by rw [hf _ (by omega) (by omega)]; exact h2, by rw [hf _ (by omega) (by omega)]; exact h3, mkAt_eq _ _ h4 (fun j j1 j2 => hf j (by omega) (by omega)), by rw [hf _ (by omega) (by omega)]; exact h5, by rw [hf _ (by omega) (by omega)]; exact h6, by rw [hf _ (by omega) (by omega)]; exact h7, by rw [hf _ (by omega) (by omega)]; exact h8, by rw [hf _ (by omega) (by omega)]; exact h9, fun hh => by rw [hf _ (by omega) (by omega)]; exact h10 hh⟩
theorem REt_eq {f f' : Nat → Int32} {b : Nat} {E : Ed} (h : REt f b E) (hf : ∀ j, j = b + 21 ∨ (b + 24 ≤ j ∧ j < b + 24 + (eTxt E).length) → f' j = f j) : REt f' b E :=
  ⟨by rw [hf _ (Or.inl rfl)]; exact h.1, fun k hk => by rw [hf _ (Or.inr (by omega))]; exact h.2 k hk⟩
theorem REo_eq {f f' : Nat → Int32} {b : Nat} {E : Ed} (h : REo f b E) (hb : Bd E) (hf : ∀ j, b + 264 ≤ j → j < b + 1590 → f' j = f j) : REo f' b E := by
  obtain ⟨h1, h2, h3, h4, h5⟩ := h
  obtain ⟨-, -, -, -, b1, b2, b3, -, -⟩ := hb
  exact ⟨fun p hp => by have := b1 p hp; exact KeptAt_eq (h1 p hp) (fun j j1 j2 => hf j (by omega) (by omega)), fun hh => by have := b2 hh; exact KeptAt_eq (h2 hh) (fun j j1 j2 => hf j (by omega) (by omega)), fun p hp => by have := b3 p hp; exact KeptAt_eq (h3 p hp) (fun j j1 j2 => hf j (by omega) (by omega)), StA_eq h4 (fun j j1 j2 => hf j (by omega) (by omega)), StA_eq h5 (fun j j1 j2 => hf j (by omega) (by omega))⟩
theorem REs_eq {f f' : Nat → Int32} {b : Nat} {E : Ed} (h : REs f b E) (hb : Bd E) (hf : ∀ j, j = b + 22 ∨ j = b + 23 ∨ (b + 1590 ≤ j ∧ j < b + 2518) → f' j = f j) : REs f' b E := by
  obtain ⟨h1, h2, h3, h4⟩ := h
  obtain ⟨-, -, -, -, -, -, -, b1, b2⟩ := hb
  have e1 := stkE_cap (eUnd E) (b + 1590)
  have e2 := stkE_cap (eDon E) (b + 2054)
  exact ⟨by rw [hf _ (Or.inl rfl)]; exact h1, by rw [hf _ (Or.inr (Or.inl rfl))]; exact h2, stk_eq h3 (fun j j1 j2 => hf j (by omega)), stk_eq h4 (fun j j1 j2 => hf j (by omega))⟩
theorem REc_eq {f f' : Nat → Int32} {b n : Nat} {E : Ed} (h : REc f b n E) (hn : n ≤ 100) (hf : ∀ j, b + 2518 ≤ j → j < b + 2618 → f' j = f j) : REc f' b n E := fun i hi => by rw [hf _ (by omega) (by omega)]; exact h i hi
theorem REd_eq {f f' : Nat → Int32} {b n : Nat} {E : Ed} (h : REd f b n E) (hb : Bd E) (hn : n ≤ 100) (hf : ∀ j, b ≤ j → j < b + 2618 → f' j = f j) : REd f' b n E := by
  obtain ⟨h1, h2, h3, h4, h5⟩ := h
  have t1 := hb.1
  exact ⟨REh_eq h1 hb.2.1 (fun j j1 j2 => hf j (by omega) (by omega)), REt_eq h2 (fun j hj => hf j (by omega) (by omega)), REo_eq h3 hb (fun j j1 j2 => hf j (by omega) (by omega)), REs_eq h4 hb (fun j hj => hf j (by omega) (by omega)), REc_eq h5 hn (fun j j1 j2 => hf j (by omega) (by omega))⟩
/-- the text is changed, the places are carried -/
def txtE (E : Ed) (A : List Int32) (own : Bool) : Ed := sMks (sCur (sTxt E (chgL A (eTxt E))) (carN (eCur E) own A 0 (eCur E))) ((eMks E).map (carM A))
theorem textChanged_ok {M : MS} {e a2 n : Nat} {A : List Int32} {E : Ed} {own : Bool} (h29 : a2 ≠ 29) (ha2 : a2 ≠ 30) (hl2 : A.length ≤ mLn a2) (hA : okO A) (hl : A.length ≤ 700) (he : e < 4) (hn : n ≤ 100) (hseg : seg (M.2.1 a2) 0 A) (h : REd (M.2.1 30) (4 + 2618 * e) n E) (hb : Bd E) (ho : oldL A = (eTxt E).length) (hnw : newL A ≤ 240) :
    ∃ M', f12_textChanged M (nI e) a2 (nI A.length) (if own then 1 else 0) = some M' ∧ REd (M'.2.1 30) (4 + 2618 * e) n (txtE E A own) ∧ FN [29] [] (fun j => 4 + 2618 * e ≤ j ∧ j < 4 + 2618 * e + 264) M M' := by
  generalize hB : 4 + 2618 * e = b at *
  have hb4 : b + 2618 ≤ 10476 := by omega
  obtain ⟨h1, h2, h3, h4, h5⟩ := h
  have ofe : ∀ w : Nat, f12_of (nI e) (nI w) = some (nI (b + w)) := fun w => by rw [of_ok, hB]
  have t1 := hb.1
  obtain ⟨g, c1⟩ := changes_ok (a1 := 30) (a3 := a2) (p := b + 24) (by decide) h29 hseg hl2 h2.2 (show b + 24 + _ ≤ 10476 by omega) hA (by omega) hl (show b + 24 + _ ≤ 10476 by omega)
  generalize hM4 : sR (sR M 29 g) 30 (wr (M.2.1 30) (b + 24) (chgL A (eTxt E))) = M4 at c1
  have f4 : FN [29] [] (fun j => b ≤ j ∧ j < b + 264) M M4 := by
    subst hM4
    refine FN_trans (FN_Frm (As := [29]) (Fs := []) (Frm_sR (by decide)) (by decide) (fun _ h => h) (fun _ h => h)) (FN_now ?_)
    intro j hj
    have hcl := chgL_len hA (eTxt E)
    rw [wr_out (by omega), sR_ne _ _ (by decide)]
  have n4 : M4.2.1 30 = wr (M.2.1 30) (b + 24) (chgL A (eTxt E)) := by subst hM4; rw [sR_get]
  have hcl := chgL_len hA (eTxt E)
  have o4 : ∀ j, j < b + 24 ∨ b + 24 + newL A ≤ j → M4.2.1 30 j = M.2.1 30 j := fun j hj => by rw [n4, wr_out (by omega)]
  have sg4 : seg (M4.2.1 a2) 0 A := by rw [f4.1 a2 (by simp [h29]) ha2]; exact hseg
  obtain ⟨k1, k2, k3, k4, k5, k6, k7, k8, k9, k10⟩ := h1
  have cr : ∀ (f : Nat → Int32), f12_carried (sR M4 30 f) a2 (nI A.length) (nI (eCur E)) (if own then 1 else 0) = some (nI (carN (eCur E) own A 0 (eCur E))) := fun f => carried_ok own (by rw [sR_ne _ _ ha2]; exact sg4) hl2 (by omega) hA (by have := hb.2.2.2.1; omega)
  generalize hf5 : upd (upd (M4.2.1 30) (b + 21) (nI (newL A))) (b + 1) (nI (carN (eCur E) own A 0 (eCur E))) = f5
  have o5 : ∀ j, j ≠ b + 21 → j ≠ b + 1 → f5 j = M4.2.1 30 j := fun j j1 j2 => by subst hf5; unfold upd; rw [if_neg j2, if_neg j1]
  have mloop := marks_loop (e := e) (a2 := a2) (K := (eMks E).length) (A := A) ha2 hl2 hA hl hb.2.1 (by omega) (eMks E) [] FU (sR M4 30 f5) (by rw [sR_ne _ _ ha2]; exact sg4) (by simp) (by rw [sR_get, hB, o5 _ (by omega) (by omega), o4 _ (by omega)]; exact k3) (by
      rw [sR_get, List.length_nil, Nat.mul_zero, Nat.add_zero, hB]
      exact mkAt_eq _ _ k4 (fun j j1 j2 => by have := hb.2.1; rw [o5 j (by omega) (by omega), o4 j (by omega)])) hb.2.2.1 (by have := hb.2.1; rw [FU_eq]; omega)
  obtain ⟨f', m1, m2, m3⟩ := mloop
  rw [List.length_nil, Nat.mul_zero, Nat.add_zero, hB] at m2
  rw [List.length_nil, Nat.mul_zero, Nat.add_zero, hB, sR_get] at m3
  rw [sR_sR] at m1
  have hmk := hb.2.1
  have o' : ∀ j, j ≠ b + 21 → j ≠ b + 1 → (j < b + 3 ∨ b + 15 ≤ j) → (j < b + 24 ∨ b + 24 + newL A ≤ j) → f' j = M.2.1 30 j := fun j j1 j2 j3 j4 => by rw [m3 j (by omega), o5 j j1 j2, o4 j j4]
  refine ⟨sR M4 30 f', ?_, ?_, ?_⟩
  · unfold f12_textChanged
    rw [show (21 : Int32) = nI 21 from rfl, show (24 : Int32) = nI 24 from rfl, show f12_of (nI e) (1 : Int32) = some (nI (b + 1)) from ofe 1, ofe, ofe, Option.bind_some, Option.bind_some, c1, bn2_s, sd_n (show b + 21 < 10476 by omega), Option.bind_some, Option.bind_some, show f12_its (sR M4 30 (upd (M4.2.1 30) (b + 21) (nI (newL A)))) (nI e) (1 : Int32) = some ((sR M4 30 (upd (M4.2.1 30) (b + 21) (nI (newL A)))).2.1 30 (b + 1)) from by rw [show (1 : Int32) = nI 1 from rfl, its_ok (by omega), hB], sR_get]
    have e1 : upd (M4.2.1 30) (b + 21) (nI (newL A)) (b + 1) = nI (eCur E) := by unfold upd; rw [if_neg (by omega), o4 _ (by omega)]; exact k2
    rw [e1, Option.bind_some, cr, Option.bind_some, sd_n (show b + 1 < 10476 by omega), sR_get, sR_sR, hf5, Option.bind_some]
    unfold f12_marksCarried
    rw [show L12_marksCarried_3 (nI e) a2 (nI A.length) FU (0 : Int32) (sR M4 30 f5) = _ from m1, Option.bind_some, Option.bind_some]
  · rw [sR_get]
    refine ⟨⟨?_, ?_, ?_, m2, ?_, ?_, ?_, ?_, ?_, fun hh => ?_⟩, ⟨?_, ?_⟩, ?_, ?_, ?_⟩
    · rw [o' _ (by omega) (by omega) (by omega) (by omega)]; exact k1
    · rw [m3 _ (by omega)]; subst hf5; unfold upd; rw [if_pos rfl]; rfl
    · rw [o' _ (by omega) (by omega) (by omega) (by omega), k3]
      show _ = nI ((eMks E).map (carM A)).length
      rw [List.length_map]
    · rw [o' _ (by omega) (by omega) (by omega) (by omega)]; exact k5
    · rw [o' _ (by omega) (by omega) (by omega) (by omega)]; exact k6
    · rw [o' _ (by omega) (by omega) (by omega) (by omega)]; exact k7
    · rw [o' _ (by omega) (by omega) (by omega) (by omega)]; exact k8
    · rw [o' _ (by omega) (by omega) (by omega) (by omega)]; exact k9
    · rw [o' _ (by omega) (by omega) (by omega) (by omega)]; exact k10 hh
    · rw [m3 _ (by omega)]; subst hf5; unfold upd; rw [if_neg (by omega), if_pos rfl]
      show _ = nI (chgL A (eTxt E)).length
      rw [hcl]
    · intro k hk
      have hk' : k < (chgL A (eTxt E)).length := hk
      rw [m3 _ (by omega), o5 _ (by omega) (by omega), n4, wr_in hk']; rfl
    · exact REo_eq (E := E) h3 hb (fun j j1 j2 => o' j (by omega) (by omega) (by omega) (by omega))
    · exact REs_eq (E := E) h4 hb (fun j hj => o' j (by omega) (by omega) (by omega) (by omega))
    · exact REc_eq (E := E) h5 hn (fun j j1 j2 => o' j (by omega) (by omega) (by omega) (by omega))
  · refine FN_trans f4 (FN_now (fun j hj => ?_))
    rw [m3 j (by omega), o5 j (by omega) (by omega)]
