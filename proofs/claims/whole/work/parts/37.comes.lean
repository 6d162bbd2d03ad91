/-! ===== PART II, the reference: an operation comes to an editor ===== -/
def ownE (E : Ed) : Ed := match eBuf E with
  | none => sPnd E none
  | some q => sndE (sBuf (sPnd E none) none) q
def pB (o : Option (List Int32)) (ah : Bool) (B : List Int32) : Option (List Int32) × List Int32 := match o with
  | none => (none, B)
  | some p => (some (turnC ah p B), turnD ah p B)
def comE (ties e : Nat) (o : Nat × List Int32) (E : Ed) : Ed :=
  sDon (sUnd (txtE (sBuf (sPnd (sRev E (eRev E + 1)) (pB (ePnd E) (aheadB ties e o.1) o.2).1) (pB (eBuf E) (aheadB ties e o.1) (pB (ePnd E) (aheadB ties e o.1) o.2).2).1) (pB (eBuf E) (aheadB ties e o.1) (pB (ePnd E) (aheadB ties e o.1) o.2).2).2 false) (carS (aheadB ties e o.1) (eUnd E) (pB (eBuf E) (aheadB ties e o.1) (pB (ePnd E) (aheadB ties e o.1) o.2).2).2).1) (carS (aheadB ties e o.1) (eDon E) (pB (eBuf E) (aheadB ties e o.1) (pB (ePnd E) (aheadB ties e o.1) o.2).2).2).1
def comesE (ties e : Nat) (o : Nat × List Int32) (E : Ed) : Ed := if o.1 = e then ownE (sRev E (eRev E + 1)) else comE ties e o E
theorem upd_self (f : Nat → Int32) (i : Nat) (v : Int32) : upd f i v i = v := by unfold upd; rw [if_pos rfl]
theorem upd_ne (f : Nat → Int32) {i j : Nat} (v : Int32) (h : j ≠ i) : upd f i v j = f j := by unfold upd; rw [if_neg h]
/-- numbers of the head are set -/
theorem REd_head {f f' : Nat → Int32} {b n : Nat} {E E' : Ed} (h : REd f b n E) (hb : Bd E) (hn : n ≤ 100) (hh : REh f' b E') (ho : REo f' b E') (e1 : eTxt E' = eTxt E) (e2 : eUnd E' = eUnd E) (e3 : eDon E' = eDon E) (e4 : eCom E' = eCom E) (hf : ∀ j, b + 21 ≤ j → j < b + 264 ∨ b + 1590 ≤ j → f' j = f j) : REd f' b n E' := by
  obtain ⟨h1, h2, h3, h4, h5⟩ := h
  have t1 := hb.1
  have a2 : REt f' b E := REt_eq h2 (fun j hj => hf j (by omega) (by omega))
  have a4 : REs f' b E := REs_eq h4 hb (fun j hj => hf j (by omega) (by omega))
  have a5 : REc f' b n E := REc_eq h5 hn (fun j j1 j2 => hf j (by omega) (by omega))
  refine ⟨hh, ?_, ho, ?_, ?_⟩
  · unfold REt at *; rw [e1]; exact a2
  · unfold REs at *; rw [e2, e3]; exact a4
  · unfold REc at *; rw [e4]; exact a5
theorem REd_rev {f : Nat → Int32} {b n r : Nat} {E : Ed} (h : REd f b n E) (hb : Bd E) (hn : n ≤ 100) : REd (upd f b (nI r)) b n (sRev E r) := by
  obtain ⟨k1, k2, k3, k4, k5, k6, k7, k8, k9, k10⟩ := h.1
  have m4 := hb.2.1
  have o : ∀ j, j ≠ b → upd f b (nI r) j = f j := fun j hj => upd_ne _ _ hj
  refine REd_head h hb hn ⟨upd_self _ _ _, ?_, ?_, mkAt_eq (eMks E) _ k4 (fun j j1 j2 => o j (by omega)), ?_, ?_, ?_, ?_, ?_, fun hh => ?_⟩ (REo_eq (E := E) h.2.2.1 hb (fun j j1 j2 => o j (by omega))) rfl rfl rfl rfl (fun j j1 j2 => o j (by omega))
  · rw [o _ (by omega)]; exact k2
  · rw [o _ (by omega)]; exact k3
  · rw [o _ (by omega)]; exact k5
  · rw [o _ (by omega)]; exact k6
  · rw [o _ (by omega)]; exact k7
  · rw [o _ (by omega)]; exact k8
  · rw [o _ (by omega)]; exact k9
  · rw [o _ (by omega)]; exact k10 hh
theorem REd_noP {f : Nat → Int32} {b n : Nat} {E : Ed} (h : REd f b n E) (hb : Bd E) (hn : n ≤ 100) : REd (upd f (b + 17) 0) b n (sPnd E none) := by
  obtain ⟨k1, k2, k3, k4, k5, k6, k7, k8, k9, k10⟩ := h.1
  have m4 := hb.2.1
  have o : ∀ j, j ≠ b + 17 → upd f (b + 17) 0 j = f j := fun j hj => upd_ne _ _ hj
  have ho := REo_eq (E := E) h.2.2.1 hb (f' := upd f (b + 17) 0) (fun j j1 j2 => o j (by omega))
  refine REd_head h hb hn ⟨?_, ?_, ?_, mkAt_eq (eMks E) _ k4 (fun j j1 j2 => o j (by omega)), ?_, ?_, upd_self _ _ _, ?_, ?_, fun hh => ?_⟩ ⟨fun p hp => (Option.some_ne_none p hp.symm).elim, ho.2.1, ho.2.2⟩ rfl rfl rfl rfl (fun j j1 j2 => o j (by omega))
  · rw [o _ (by omega)]; exact k1
  · rw [o _ (by omega)]; exact k2
  · rw [o _ (by omega)]; exact k3
  · rw [o _ (by omega)]; exact k5
  · rw [o _ (by omega)]; exact k6
  · rw [o _ (by omega)]; exact k8
  · rw [o _ (by omega)]; exact k9
  · rw [o _ (by omega)]; exact k10 hh
theorem REd_noB {f : Nat → Int32} {b n : Nat} {E : Ed} (h : REd f b n E) (hb : Bd E) (hn : n ≤ 100) : REd (upd f (b + 18) 0) b n (sBuf E none) := by
  obtain ⟨k1, k2, k3, k4, k5, k6, k7, k8, k9, k10⟩ := h.1
  have m4 := hb.2.1
  have o : ∀ j, j ≠ b + 18 → upd f (b + 18) 0 j = f j := fun j hj => upd_ne _ _ hj
  have ho := REo_eq (E := E) h.2.2.1 hb (f' := upd f (b + 18) 0) (fun j j1 j2 => o j (by omega))
  refine REd_head h hb hn ⟨?_, ?_, ?_, mkAt_eq (eMks E) _ k4 (fun j j1 j2 => o j (by omega)), ?_, ?_, ?_, upd_self _ _ _, ?_, fun hh => ?_⟩ ⟨ho.1, ho.2.1, fun p hp => (Option.some_ne_none p hp.symm).elim, ho.2.2.2⟩ rfl rfl rfl rfl (fun j j1 j2 => o j (by omega))
  · rw [o _ (by omega)]; exact k1
  · rw [o _ (by omega)]; exact k2
  · rw [o _ (by omega)]; exact k3
  · rw [o _ (by omega)]; exact k5
  · rw [o _ (by omega)]; exact k6
  · rw [o _ (by omega)]; exact k7
  · rw [o _ (by omega)]; exact k9
  · rw [o _ (by omega)]; exact k10 hh
/-- bounds of what has only become less -/
theorem Bd_noP {E : Ed} (h : Bd E) : Bd (sPnd E none) := by
  obtain ⟨a, b, c, d, e, f, g, i, j⟩ := h
  exact ⟨a, b, c, d, fun p hp => (Option.some_ne_none p hp.symm).elim, f, g, i, j⟩
theorem Bd_noB {E : Ed} (h : Bd E) : Bd (sBuf E none) := by
  obtain ⟨a, b, c, d, e, f, g, i, j⟩ := h
  exact ⟨a, b, c, d, e, f, fun p hp => (Option.some_ne_none p hp.symm).elim, i, j⟩
theorem Bd_rev {E : Ed} {r : Nat} (h : Bd E) : Bd (sRev E r) := h
theorem ownComes_ok {M : MS} {e n : Nat} {E : Ed} (he : e < 4) (hn : n ≤ 100) (h : REd (M.2.1 30) (4 + 2618 * e) n E) (hb : Bd E) (hbq : ∀ q, eBuf E = some q → okO q ∧ q.length ≤ 700) :
    ∃ M', f12_ownComes M (nI e) = some M' ∧ REd (M'.2.1 30) (4 + 2618 * e) n (ownE E) ∧ FN [] [] (fun j => 4 + 2618 * e ≤ j ∧ j < 4 + 2618 * e + 2618) M M' := by
  have hB' : ∀ x, x = 4 + 2618 * e → 4 + 2618 * e = x := fun x h => h.symm
  generalize hB : 4 + 2618 * e = b at *
  have hb4 : b + 2618 ≤ 10476 := by omega
  have ofe : ∀ w : Nat, f12_of (nI e) (nI w) = some (nI (b + w)) := fun w => by rw [of_ok, hB]
  have r2 := REd_noP h hb hn
  have i18 : f12_its (sR M 30 (upd (M.2.1 30) (b + 17) 0)) (nI e) (18 : Int32) = some (bI (eBuf E).isSome) := by
    rw [show (18 : Int32) = nI 18 from rfl, its_ok (by omega), hB, sR_get, r2.1.2.2.2.2.2.2.2.1]; rfl
  unfold f12_ownComes
  rw [show (17 : Int32) = nI 17 from rfl, ofe, Option.bind_some, sd_n (show b + 17 < 10476 by omega), Option.bind_some, i18, Option.bind_some]
  cases hQ : eBuf E with
  | none =>
    have eo : ownE E = sPnd E none := by unfold ownE; rw [hQ]
    rw [if_pos (show bI (none : Option (List Int32)).isSome = (0 : Int32) from rfl), eo]
    exact ⟨_, rfl, by rw [sR_get]; exact r2, FN_now (fun j hj => upd_ne _ _ (by omega))⟩
  | some q =>
    have eo : ownE E = sndE (sBuf (sPnd E none) none) q := by unfold ownE; rw [hQ]
    have hmq := hb.2.2.2.2.2.2.1 q hQ
    rw [if_neg (show ¬ bI (some q).isSome = (0 : Int32) from by simp [bI]), eo, show (18 : Int32) = nI 18 from rfl, show (264 : Int32) = nI 264 from rfl, show (1148 : Int32) = nI 1148 from rfl]
    simp only [ofe, Option.bind_some]
    rw [sd_n (show b + 18 < 10476 by omega), sR_get, sR_sR, Option.bind_some]
    have r3 := REd_noB r2 (Bd_noP hb) hn
    generalize hf3 : upd (upd (M.2.1 30) (b + 17) 0) (b + 18) 0 = f3 at *
    have o3 : ∀ j, j ≠ b + 17 → j ≠ b + 18 → f3 j = M.2.1 30 j := fun j j1 j2 => by subst hf3; rw [upd_ne _ _ j2, upd_ne _ _ j1]
    have hKq : KeptAt f3 (b + 1148) q := KeptAt_eq (h.2.2.1.2.2.1 q hQ) (fun j j1 j2 => o3 j (by omega) (by omega))
    obtain ⟨f4, c1, c2, c3⟩ := copiesOp_ok (M := sR M 30 f3) (to := b + 264) (fr := b + 1148) (A := q) (by rw [sR_get]; exact hKq) (Or.inl (by omega)) (by omega) (by omega)
    rw [sR_get] at c3
    have hb3 := Bd_noB (Bd_noP hb)
    have r4 : REd f4 b n (sBuf (sPnd E none) none) := by
      have ho := r3.2.2.1
      refine REd_head r3 hb3 hn (REh_eq r3.1 hb3.2.1 (fun j j1 j2 => c3 j (by omega))) ⟨fun p hp => (Option.some_ne_none p hp.symm).elim, fun hh => ?_, fun p hp => (Option.some_ne_none p hp.symm).elim, ⟨q, (hbq q hQ).1, (hbq q hQ).2, hmq, c2⟩, StA_eq ho.2.2.2.2 (fun j j1 j2 => c3 j (by omega))⟩ rfl rfl rfl rfl (fun j j1 j2 => c3 j (by omega))
      have := hb3.2.2.2.2.2.1 hh
      exact KeptAt_eq (ho.2.1 hh) (fun j j1 j2 => c3 j (by omega))
    obtain ⟨f5, s1, s2, s3⟩ := sends_ok (M := sR M 30 f4) (e := e) (n := n) (E := sBuf (sPnd E none) none) (p := q) he hn (by rw [sR_get, hB]; exact r4) hb3 (by rw [sR_get, hB]; exact c2) hmq (hbq q hQ).1 (hbq q hQ).2
    rw [hB] at s2 s3
    rw [sR_get] at s3
    refine ⟨sR M 30 f5, ?_, by rw [sR_get]; exact s2, FN_now (fun j hj => ?_)⟩
    · rw [c1, Option.bind_some, sR_sR, s1, Option.bind_some, sR_sR]
    · rw [s3 j (by omega), c3 j (by omega), o3 j (by omega) (by omega)]
/-- what is pending (or in the buffer), if anything is, is turned over B -/
theorem stepP {M : MS} {e n by' ties r : Nat} {E : Ed} {B : List Int32} (he : e < 4) (hn : n ≤ 100) (h : REd (M.2.1 30) (4 + 2618 * e) n E) (hb : Bd E) (hB0 : Row M 21 26 B) (hBo : okO B) (hp : ∀ p, ePnd E = some p → okO p ∧ oldL p = oldL B ∧ p.length + B.length ≤ 700) (ht : M.1 33 = nI ties) (ht2 : ties < 1000) (hb' : by' < 1000) (h36 : M.2.1 36 r = nI by') (hr : r < 108) :
    ∃ M', ((f12_its M (nI e) (17 : Int32)).bind fun v7 => (if v7 = 1 then ((ld M 36 (nI r)).bind fun v10 => (f12_turnedOver M (nI e) v10 (264 : Int32)).bind fun M11 => some M11) else some M)) = some M' ∧ REd (M'.2.1 30) (4 + 2618 * e) n (sPnd E (pB (ePnd E) (aheadB ties e by') B).1) ∧ Row M' 21 26 (pB (ePnd E) (aheadB ties e by') B).2 ∧ FN [20, 21, 22, 23, 24] [25, 26, 27, 28] (fun j => 4 + 2618 * e ≤ j ∧ j < 4 + 2618 * e + 2618) M M' := by
  have i17 : f12_its M (nI e) (17 : Int32) = some (bI (ePnd E).isSome) := by
    rw [show (17 : Int32) = nI 17 from rfl, its_ok (by omega), h.1.2.2.2.2.2.2.1]
  rw [i17, Option.bind_some]
  cases hP : ePnd E with
  | none =>
    rw [if_neg (show ¬ bI (none : Option (List Int32)).isSome = (1 : Int32) from by simp [bI])]
    have : sPnd E none = E := by rw [← hP]; rfl
    unfold pB
    dsimp only
    rw [this]
    exact ⟨M, rfl, h, hB0, FN_refl _ _ _ _⟩
  | some p =>
    obtain ⟨p1, p2, p3⟩ := hp p hP
    have hmp := hb.2.2.2.2.1 p hP
    rw [if_pos (show bI (some p).isSome = (1 : Int32) from rfl), ld_n (show r < mLn 36 from hr), h36, Option.bind_some]
    obtain ⟨M', t1, t2, t3, t4⟩ := turnedOver_ok (e := e) (w := 264) (by' := by') (ties := ties) (by omega) (h.2.2.1.1 p hP) hB0 p1 hBo p2 p3 ht ht2 (by omega) hb'
    obtain ⟨w1, w2, w3, w4, w5, w6, w7, w8, w9⟩ := turn_ok (ah := aheadB ties e by') p1 hBo p2
    have m1 := mk_len p1 0
    have m2 := mk_len w1 0
    have e7 : (turnC (aheadB ties e by') p B).length ≤ 700 := by unfold turnC; rw [settleL_len]; have := turnR_len (aheadB ties e by') p B; omega
    refine ⟨M', by rw [show (264 : Int32) = nI 264 from rfl, t1, Option.bind_some], ?_, t3, FN_mono t4 (fun _ h => h) (fun _ h => h) (fun j hj => by omega)⟩
    obtain ⟨k1, k2, k3, k4, k5, k6, k7, k8, k9, k10⟩ := h.1
    have ho := h.2.2.1
    have o : ∀ j, j < 4 + 2618 * e + 264 ∨ 4 + 2618 * e + 706 ≤ j → M'.2.1 30 j = M.2.1 30 j := fun j hj => t4.2.2.2 j (by omega)
    have hh := REh_eq h.1 hb.2.1 (f' := M'.2.1 30) (fun j j1 j2 => o j (by omega))
    obtain ⟨l1, l2, l3, l4, l5, l6, l7, l8, l9, l10⟩ := hh
    refine REd_head h hb hn ⟨l1, l2, l3, l4, l5, l6, ?_, l8, l9, l10⟩ ⟨fun q hq => ?_, fun hh => ?_, fun q hq => ?_, ⟨_, w1, e7, by omega, t2⟩, StA_eq ho.2.2.2.2 (fun j j1 j2 => o j (by omega))⟩ rfl rfl rfl rfl (fun j j1 j2 => o j (by omega))
    · rw [l7, hP]; rfl
    · have : turnC (aheadB ties e by') p B = q := Option.some.inj hq
      subst this
      exact t2
    · have := hb.2.2.2.2.2.1 hh
      exact KeptAt_eq (p := (eSnt E).1) (ho.2.1 hh) (fun j j1 j2 => o j (by omega))
    · have := hb.2.2.2.2.2.2.1 q hq
      exact KeptAt_eq (ho.2.2.1 q hq) (fun j j1 j2 => o j (by omega))
theorem stepB {M : MS} {e n by' ties r : Nat} {E : Ed} {B : List Int32} (he : e < 4) (hn : n ≤ 100) (h : REd (M.2.1 30) (4 + 2618 * e) n E) (hb : Bd E) (hB0 : Row M 21 26 B) (hBo : okO B) (hp : ∀ p, eBuf E = some p → okO p ∧ oldL p = oldL B ∧ p.length + B.length ≤ 700) (ht : M.1 33 = nI ties) (ht2 : ties < 1000) (hb' : by' < 1000) (h36 : M.2.1 36 r = nI by') (hr : r < 108) :
    ∃ M', ((f12_its M (nI e) (18 : Int32)).bind fun v7 => (if v7 = 1 then ((ld M 36 (nI r)).bind fun v10 => (f12_turnedOver M (nI e) v10 (1148 : Int32)).bind fun M11 => some M11) else some M)) = some M' ∧ REd (M'.2.1 30) (4 + 2618 * e) n (sBuf E (pB (eBuf E) (aheadB ties e by') B).1) ∧ Row M' 21 26 (pB (eBuf E) (aheadB ties e by') B).2 ∧ FN [20, 21, 22, 23, 24] [25, 26, 27, 28] (fun j => 4 + 2618 * e ≤ j ∧ j < 4 + 2618 * e + 2618) M M' := by
  have i17 : f12_its M (nI e) (18 : Int32) = some (bI (eBuf E).isSome) := by
    rw [show (18 : Int32) = nI 18 from rfl, its_ok (by omega), h.1.2.2.2.2.2.2.2.1]
  rw [i17, Option.bind_some]
  cases hP : eBuf E with
  | none =>
    rw [if_neg (show ¬ bI (none : Option (List Int32)).isSome = (1 : Int32) from by simp [bI])]
    have : sBuf E none = E := by rw [← hP]; rfl
    unfold pB
    dsimp only
    rw [this]
    exact ⟨M, rfl, h, hB0, FN_refl _ _ _ _⟩
  | some p =>
    obtain ⟨p1, p2, p3⟩ := hp p hP
    have hmp := hb.2.2.2.2.2.2.1 p hP
    rw [if_pos (show bI (some p).isSome = (1 : Int32) from rfl), ld_n (show r < mLn 36 from hr), h36, Option.bind_some]
    obtain ⟨M', t1, t2, t3, t4⟩ := turnedOver_ok (e := e) (w := 1148) (by' := by') (ties := ties) (by omega) (h.2.2.1.2.2.1 p hP) hB0 p1 hBo p2 p3 ht ht2 (by omega) hb'
    obtain ⟨w1, w2, w3, w4, w5, w6, w7, w8, w9⟩ := turn_ok (ah := aheadB ties e by') p1 hBo p2
    have m1 := mk_len p1 0
    have m2 := mk_len w1 0
    have e7 : (turnC (aheadB ties e by') p B).length ≤ 700 := by unfold turnC; rw [settleL_len]; have := turnR_len (aheadB ties e by') p B; omega
    refine ⟨M', by rw [show (1148 : Int32) = nI 1148 from rfl, t1, Option.bind_some], ?_, t3, FN_mono t4 (fun _ h => h) (fun _ h => h) (fun j hj => by omega)⟩
    have ho := h.2.2.1
    have o : ∀ j, j < 4 + 2618 * e + 1148 ∨ 4 + 2618 * e + 1590 ≤ j → M'.2.1 30 j = M.2.1 30 j := fun j hj => t4.2.2.2 j (by omega)
    have hh := REh_eq h.1 hb.2.1 (f' := M'.2.1 30) (fun j j1 j2 => o j (by omega))
    obtain ⟨l1, l2, l3, l4, l5, l6, l7, l8, l9, l10⟩ := hh
    refine REd_head h hb hn ⟨l1, l2, l3, l4, l5, l6, l7, ?_, l9, l10⟩ ⟨fun q hq => ?_, fun hh => ?_, fun q hq => ?_, StA_eq ho.2.2.2.1 (fun j j1 j2 => o j (by omega)), ⟨_, w1, e7, by omega, t2⟩⟩ rfl rfl rfl rfl (fun j j1 j2 => o j (by omega))
    · rw [l8, hP]; rfl
    · have := hb.2.2.2.2.1 q hq
      exact KeptAt_eq (ho.1 q hq) (fun j j1 j2 => o j (by omega))
    · have := hb.2.2.2.2.2.1 hh
      exact KeptAt_eq (p := (eSnt E).1) (ho.2.1 hh) (fun j j1 j2 => o j (by omega))
    · have : turnC (aheadB ties e by') p B = q := Option.some.inj hq
      subst this
      exact t2
