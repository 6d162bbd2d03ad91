/-! ===== PART II, the reference: marks, clears, seed ===== -/
def canM (E : Ed) (f t : Int32) : Prop := (eMks E).length < 4 ∧ 0 ≤ f.toInt ∧ f.toInt ≤ t.toInt ∧ t.toInt ≤ (eTxt E).length
theorem canMark_ok {M : MS} {A : St} {e f t : Int32} (h : RS M A) (hg : GA A) (he : 0 ≤ e.toInt ∧ e.toInt < aCnt A) [Decidable (canM (wE (aW A) e.toInt.toNat) f t)] : f12_canMark M e f t = some (if canM (wE (aW A) e.toInt.toNat) f t then 1 else 0) := by
  have gd := GA_good hg
  have hi : e.toInt.toNat < aCnt A := by omega
  obtain ⟨hh, ht, -⟩ := (RS_RW h).2.2.2.2.2.2.2 _ hi
  have hb := (Good_Bd gd hi).1
  have hm4 := (Good_Bd gd hi).2.1
  unfold f12_canMark
  rw [show f12_its M e (2 : Int32) = some (nI (eMks (wE (aW A) e.toInt.toNat)).length) from by rw [show (2 : Int32) = nI 2 from rfl, its_e h hg he 2 (by omega), hh.2.2.1], Option.bind_some, show f12_its M e (21 : Int32) = some (nI (eTxt (wE (aW A) e.toInt.toNat)).length) from by rw [show (21 : Int32) = nI 21 from rfl, its_e h hg he 21 (by omega), ht.1]]
  have hno : ¬ canM (wE (aW A) e.toInt.toNat) f t → (some (0 : Int32)).bind (fun v2 => (bz v2).bind fun v5 => some v5) = some (if canM (wE (aW A) e.toInt.toNat) f t then 1 else 0) := fun hx => by rw [if_neg hx]; rfl
  by_cases c1 : (eMks (wE (aW A) e.toInt.toNat)).length < 4
  · rw [if_neg (show ¬ (4 : Int32) ≤ nI (eMks (wE (aW A) e.toInt.toNat)).length from nI_ge (b := 4) c1 (by omega))]
    by_cases c2 : 0 ≤ f.toInt
    · rw [if_neg (fun hx => by have := lt0.mp hx; omega)]
      by_cases c3 : f.toInt ≤ t.toInt
      · rw [if_neg (show ¬ t < f from fun hx => by have := Int32.lt_iff_toInt_lt.mp hx; omega), Option.bind_some]
        by_cases c4 : t.toInt ≤ (eTxt (wE (aW A) e.toInt.toNat)).length
        · rw [if_neg (show ¬ nI (eTxt (wE (aW A) e.toInt.toNat)).length < t from fun hx => by have := Int32.lt_iff_toInt_lt.mp hx; rw [nI_toInt (by omega)] at this; omega), if_pos (show canM (wE (aW A) e.toInt.toNat) f t from ⟨c1, c2, c3, c4⟩)]; rfl
        · rw [if_pos (show nI (eTxt (wE (aW A) e.toInt.toNat)).length < t from Int32.lt_iff_toInt_lt.mpr (by rw [nI_toInt (by omega)]; omega))]
          exact hno (fun hx => c4 hx.2.2.2)
      · rw [if_pos (show t < f from Int32.lt_iff_toInt_lt.mpr (by omega))]
        exact hno (fun hx => c3 hx.2.2.1)
    · rw [if_pos (lt0.mpr (by omega))]
      exact hno (fun hx => c2 hx.2.1)
  · rw [if_pos (show (4 : Int32) ≤ nI (eMks (wE (aW A) e.toInt.toNat)).length from nI_le (a := 4) (by omega) (by omega))]
    exact hno (fun hx => c1 hx.1)
/-- a mark more -/
def addM (E : Ed) (f t g : Nat) : Ed := sMks E (eMks E ++ [(f, t, g)])
theorem marked_ok {M : MS} {A : St} {i f t g : Nat} (h : RS M A) (hg : GA A) (hi : i < aCnt A) (hm : (eMks (wE (aW A) i)).length < 4) :
    ∃ M', f12_marked M (nI i) (nI f) (nI t) (nI g) = some M' ∧ RS M' (sWd A (setE (aW A) i (addM (wE (aW A) i) f t g))) := by
  have gd := GA_good hg
  have hc4 := gd.1
  obtain ⟨hh, -⟩ := (RS_RW h).2.2.2.2.2.2.2 i hi
  obtain ⟨h1, h2, h3, h4, h5, h6, h7, h8, h9, h10⟩ := hh
  generalize hl : (eMks (wE (aW A) i)).length = l at *
  generalize hb : 4 + 2618 * i = b at *
  have ofe : ∀ w : Nat, f12_of (nI i) (nI w) = some (nI (b + w)) := fun w => by rw [of_ok, hb]
  generalize hF : upd (upd (upd (upd (M.2.1 30) (b + (3 + 3 * l)) (nI f)) (b + (3 + 3 * l) + 1) (nI t)) (b + (3 + 3 * l) + 2) (nI g)) (b + 2) (nI (l + 1)) = F
  have o : ∀ j, j ≠ b + 2 → (j < b + 3 + 3 * l ∨ b + 6 + 3 * l ≤ j) → F j = M.2.1 30 j := fun j j1 j2 => by
    subst hF
    rw [upd_ne _ _ j1, upd_ne _ _ (by omega), upd_ne _ _ (by omega), upd_ne _ _ (by omega)]
  refine ⟨sR M 30 F, ?_, ?_⟩
  · unfold f12_marked
    rw [show f12_its M (nI i) (2 : Int32) = some (nI l) from by rw [show (2 : Int32) = nI 2 from rfl, its_ok (by omega), hb, h3], Option.bind_some, show (3 : Int32) = nI 3 from rfl, nI_mul, nI_add, ofe, Option.bind_some, sd_n (show b + (3 + 3 * l) < 10476 by omega), Option.bind_some, nI_1, sd_n (show b + (3 + 3 * l) + 1 < 10476 by omega), sR_get, sR_sR, Option.bind_some, show (2 : Int32) = nI 2 from rfl, nI_add, sd_n (show b + (3 + 3 * l) + 2 < 10476 by omega), sR_get, sR_sR, Option.bind_some, ofe, Option.bind_some, ld_n (show b + 2 < 10476 by omega), sR_get, upd_ne _ _ (by omega), upd_ne _ _ (by omega), upd_ne _ _ (by omega), h3, Option.bind_some, nI_1, sd_n (show b + 2 < 10476 by omega), sR_get, sR_sR, hF, Option.bind_some]
  · have hh' : REh F b (addM (wE (aW A) i) f t g) := by
      refine ⟨by rw [o _ (by omega) (by omega)]; exact h1, by rw [o _ (by omega) (by omega)]; exact h2, ?_, ?_, by rw [o _ (by omega) (by omega)]; exact h5, by rw [o _ (by omega) (by omega)]; exact h6, by rw [o _ (by omega) (by omega)]; exact h7, by rw [o _ (by omega) (by omega)]; exact h8, by rw [o _ (by omega) (by omega)]; exact h9, fun hx => by rw [o _ (by omega) (by omega)]; exact h10 hx⟩
      · subst hF
        rw [upd_self]
        show _ = nI (eMks (wE (aW A) i) ++ [(f, t, g)]).length
        rw [List.length_append, hl]; rfl
      · show mkAt F (b + 3) (eMks (wE (aW A) i) ++ [(f, t, g)])
        rw [mkAt_app]
        refine ⟨mkAt_eq _ _ h4 (fun j j1 j2 => o j (by omega) (by omega)), ?_, ?_, ?_, trivial⟩
        · rw [hl]; subst hF
          rw [upd_ne _ _ (by omega), upd_ne _ _ (by omega), upd_ne _ _ (by omega), show b + 3 + 3 * l = b + (3 + 3 * l) by omega, upd_self]
        · rw [hl]; subst hF
          rw [upd_ne _ _ (by omega), upd_ne _ _ (by omega), show b + 3 + 3 * l + 1 = b + (3 + 3 * l) + 1 by omega, upd_self]
        · rw [hl]; subst hF
          rw [upd_ne _ _ (by omega), show b + 3 + 3 * l + 2 = b + (3 + 3 * l) + 2 by omega, upd_self]
    exact set_head h hg hi (fun j hj => by rw [hb] at hj; exact o j (by omega) (by omega)) (by rw [hb]; exact hh') rfl rfl rfl rfl rfl rfl rfl rfl
def aMarks (A : St) (e f t g : Int32) : Int32 × St := if (0 ≤ e.toInt ∧ e.toInt < aCnt A) ∧ (0 ≤ g.toInt ∧ g.toInt ≤ 3) ∧ (eMks (wE (aW A) e.toInt.toNat)).length < 4 ∧ 0 ≤ f.toInt ∧ f.toInt ≤ t.toInt ∧ t.toInt ≤ (eTxt (wE (aW A) e.toInt.toNat)).length then (nI (eMks (wE (aW A) e.toInt.toNat)).length, sWd (keepA A) (setE (aW A) e.toInt.toNat (addM (wE (aW A) e.toInt.toNat) f.toInt.toNat t.toInt.toNat g.toInt.toNat))) else (-1, sRf A 3)
theorem marks_ok {M : MS} {A : St} (h : RS M A) (hg : GA A) (e f t g : Int32) : ∃ M', f12_marks M e f t g = some ((aMarks A e f t g).1, M') ∧ RS M' (aMarks A e f t g).2 := by
  have gd := GA_good hg
  have hc4 := gd.1
  unfold f12_marks aMarks
  rw [isEditor_ok h hg, Option.bind_some]
  by_cases he : 0 ≤ e.toInt ∧ e.toInt < aCnt A
  · rw [if_pos he, if_neg (show ¬ (1 : Int32) = 0 from by decide), isIn_ok, i64, show (0 : Int64).toInt = 0 from by decide, show (3 : Int64).toInt = 3 from by decide, Option.bind_some]
    have hen := ofI he.1
    have hi : e.toInt.toNat < aCnt A := by omega
    have hm4 := (Good_Bd gd hi).2.1
    by_cases hgr : 0 ≤ g.toInt ∧ g.toInt ≤ 3
    · have hdec : Decidable (canM (wE (aW A) e.toInt.toNat) f t) := by unfold canM; exact inferInstance
      rw [if_pos hgr, if_neg (show ¬ (1 : Int32) = 0 from by decide), canMark_ok h hg he, Option.bind_some]
      by_cases hcm : canM (wE (aW A) e.toInt.toNat) f t
      · have hfn := ofI hcm.2.1
        have htn := ofI (show 0 ≤ t.toInt by have := hcm.2.1; have := hcm.2.2.1; omega)
        have hgn := ofI hgr.1
        rw [if_pos hcm, if_neg (show ¬ (1 : Int32) = 0 from by decide), if_pos (show (0 ≤ e.toInt ∧ e.toInt < aCnt A) ∧ (0 ≤ g.toInt ∧ g.toInt ≤ 3) ∧ (eMks (wE (aW A) e.toInt.toNat)).length < 4 ∧ 0 ≤ f.toInt ∧ f.toInt ≤ t.toInt ∧ t.toInt ≤ (eTxt (wE (aW A) e.toInt.toNat)).length from ⟨he, hgr, hcm⟩)]
        obtain ⟨M2, k1, k2, k3⟩ := keeps_ok h hg
        have hGA := GA_keep0 hg (by omega)
        obtain ⟨M9, m1, m2⟩ := marked_ok (A := keepA A) (f := f.toInt.toNat) (t := t.toInt.toNat) (g := g.toInt.toNat) k2 hGA hi hcm.1
        rw [← hen, ← hfn, ← htn, ← hgn] at m1
        refine ⟨M9, ?_, m2⟩
        have hr9 := ((RS_RW m2).2.2.2.2.2.2.2 _ hi).1.2.2.1
        have h9 : f12_its M9 e (2 : Int32) = some (nI ((eMks (wE (aW A) e.toInt.toNat)).length + 1)) := by
          conv => lhs; rw [hen]
          rw [show (2 : Int32) = nI 2 from rfl, its_ok (by omega), hr9]
          show some (nI (eMks (wE (setE (aW A) e.toInt.toNat (addM (wE (aW A) e.toInt.toNat) f.toInt.toNat t.toInt.toNat g.toInt.toNat)) e.toInt.toNat)).length) = _
          rw [setE_self]
          show some (nI (eMks (wE (aW A) e.toInt.toNat) ++ [_]).length) = _
          rw [List.length_append]; rfl
        rw [k1, Option.bind_some, m1, Option.bind_some, h9, Option.bind_some, nI_pred]
      · rw [if_neg hcm, if_pos rfl]; exact refu h (k := 3) (by omega) _ _ (fun hx => hcm hx.2.2)
    · rw [if_neg hgr, if_pos rfl]; exact refu h (k := 3) (by omega) _ _ (fun hx => hgr hx.2.1)
  · rw [if_neg he, if_pos rfl]; exact refu h (k := 3) (by omega) _ _ (fun hx => he hx.1)
theorem mkAt_iff {f : Nat → Int32} : ∀ (ms : List (Nat × Nat × Nat)) (a : Nat), (∀ j x, ms[j]? = some x → f (a + 3 * j) = nI x.1 ∧ f (a + 3 * j + 1) = nI x.2.1 ∧ f (a + 3 * j + 2) = nI x.2.2) → mkAt f a ms := by
  intro ms
  induction ms with
  | nil => intro a _; trivial
  | cons y ms ih =>
    intro a h
    obtain ⟨h1, h2, h3⟩ := h 0 y rfl
    refine ⟨h1, h2, h3, ih (a + 3) (fun j x hj => ?_)⟩
    have := h (j + 1) x (by simpa using hj)
    rw [show a + 3 * (j + 1) = a + 3 + 3 * j by omega] at this
    exact this
theorem clear_loop {M : MS} {i : Nat} (hi : i < 4) : ∀ (d n p : Nat), p + d = 4 + 2618 * i + 12 → 4 + 2618 * i ≤ p → d < n →
    ∃ F, L12_clears_46 (nI i) n (nI p) M = some (sR M 30 F) ∧ (∀ j, j < p ∨ 4 + 2618 * i + 12 ≤ j → F j = M.2.1 30 j) ∧ (∀ j, p ≤ j → j < 4 + 2618 * i + 12 → F j = M.2.1 30 (j + 3)) := by
  intro d
  induction d generalizing M with
  | zero =>
    intro n p hp h0 hn
    obtain ⟨n, rfl⟩ : ∃ j, n = j + 1 := ⟨n - 1, by omega⟩
    unfold L12_clears_46
    rw [show (12 : Int32) = nI 12 from rfl, of_ok, Option.bind_some, if_pos (nI_le (by omega) (by omega))]
    exact ⟨M.2.1 30, by rw [sR_self], fun _ _ => rfl, fun j j1 j2 => by omega⟩
  | succ d ih =>
    intro n p hp h0 hn
    obtain ⟨n, rfl⟩ : ∃ j, n = j + 1 := ⟨n - 1, by omega⟩
    obtain ⟨F, g1, g2, g3⟩ := ih (M := sR M 30 (upd (M.2.1 30) p (M.2.1 30 (p + 3)))) n (p + 1) (by omega) (by omega) (by omega)
    rw [sR_get] at g2 g3
    refine ⟨F, ?_, ?_, ?_⟩
    · unfold L12_clears_46
      rw [show (12 : Int32) = nI 12 from rfl, of_ok, Option.bind_some, if_neg (nI_ge (by omega) (by omega)), show (3 : Int32) = nI 3 from rfl, nI_add, ld_n (show p + 3 < 10476 by omega), Option.bind_some, sd_n (show p < 10476 by omega), Option.bind_some, nI_1, g1, sR_sR]
    · intro j hj
      rw [g2 j (by omega), upd_ne _ _ (by omega)]
    · intro j j1 j2
      by_cases hjp : j = p
      · subst hjp; rw [g2 j (by omega), upd_self]
      · rw [g3 j (by omega) j2, upd_ne _ _ (by omega)]
def aClears (A : St) (e k : Int32) : Int32 × St := if (0 ≤ e.toInt ∧ e.toInt < aCnt A) ∧ 0 ≤ k.toInt ∧ k.toInt < (eMks (wE (aW A) e.toInt.toNat)).length then (1, sWd (keepA A) (setE (aW A) e.toInt.toNat (sMks (wE (aW A) e.toInt.toNat) ((eMks (wE (aW A) e.toInt.toNat)).eraseIdx k.toInt.toNat)))) else (0, sRf A 3)
theorem clears_ok {M : MS} {A : St} (h : RS M A) (hg : GA A) (e k : Int32) : ∃ M', f12_clears M e k = some ((aClears A e k).1, M') ∧ RS M' (aClears A e k).2 := by
  have gd := GA_good hg
  have hc4 := gd.1
  unfold f12_clears aClears
  rw [isEditor_ok h hg, Option.bind_some]
  by_cases he : 0 ≤ e.toInt ∧ e.toInt < aCnt A
  · rw [if_pos he, if_neg (show ¬ (1 : Int32) = 0 from by decide)]
    have hen := ofI he.1
    have hi : e.toInt.toNat < aCnt A := by omega
    have hm4 := (Good_Bd gd hi).2.1
    obtain ⟨hh, ht, -⟩ := (RS_RW h).2.2.2.2.2.2.2 _ hi
    rw [show f12_its M e (2 : Int32) = some (nI (eMks (wE (aW A) e.toInt.toNat)).length) from by rw [show (2 : Int32) = nI 2 from rfl, its_e h hg he 2 (by omega), hh.2.2.1], Option.bind_some, isIn_ok, i64, i64, subI (by omega), show (0 : Int64).toInt = 0 from by decide, Option.bind_some]
    by_cases hk : 0 ≤ k.toInt ∧ k.toInt ≤ ((eMks (wE (aW A) e.toInt.toNat)).length : Int) - 1
    · rw [if_pos hk, if_neg (show ¬ (1 : Int32) = 0 from by decide), if_pos (show (0 ≤ e.toInt ∧ e.toInt < aCnt A) ∧ 0 ≤ k.toInt ∧ k.toInt < ((eMks (wE (aW A) e.toInt.toNat)).length : Int) from ⟨he, hk.1, by omega⟩)]
      have hkn := ofI hk.1
      have hkl : k.toInt.toNat < (eMks (wE (aW A) e.toInt.toNat)).length := by omega
      generalize hq : k.toInt.toNat = q at *
      obtain ⟨M2, k1, k2, k3⟩ := keeps_ok h hg
      have hGA := GA_keep0 hg (by omega)
      have n2 : M2.2.1 30 = M.2.1 30 := k3.1 30 (by decide)
      generalize hii : e.toInt.toNat = i at *
      obtain ⟨F, c1, c2, c3⟩ := clear_loop (M := M2) (i := i) (by omega) (9 - 3 * q) FU (4 + 2618 * i + (3 + 3 * q)) (by omega) (by omega) (by rw [FU_eq]; omega)
      rw [n2] at c2 c3
      obtain ⟨h1, h2, h3, h4, h5, h6, h7, h8, h9, h10⟩ := hh
      have ofe : ∀ w : Nat, f12_of e (nI w) = some (nI (4 + 2618 * i + w)) := fun w => by
        conv => lhs; rw [hen]
        exact of_ok _ w
      rw [← hen] at c1
      refine ⟨sR M2 30 (upd F (4 + 2618 * i + 2) (nI ((eMks (wE (aW A) i)).length - 1))), ?_, ?_⟩
      · rw [k1, Option.bind_some, hkn, show (3 : Int32) = nI 3 from rfl, nI_mul, nI_add, ofe, Option.bind_some, c1, Option.bind_some, show (2 : Int32) = nI 2 from rfl, ofe, Option.bind_some, ld_n (show 4 + 2618 * i + 2 < 10476 by omega), sR_get, c2 _ (by omega), h3, Option.bind_some, show (1 : Int32) = nI 1 from rfl, nI_sub (by omega), sd_n (show 4 + 2618 * i + 2 < 10476 by omega), sR_get, sR_sR, Option.bind_some]
      · have o : ∀ j, j ≠ 4 + 2618 * i + 2 → (j < 4 + 2618 * i + 3 ∨ 4 + 2618 * i + 12 ≤ j) → upd F (4 + 2618 * i + 2) (nI ((eMks (wE (aW A) i)).length - 1)) j = M.2.1 30 j := fun j j1 j2 => by rw [upd_ne _ _ j1, c2 j (by omega)]
        refine set_head (A := keepA A) k2 hGA hi (fun j hj => by rw [n2]; exact o j (by omega) (by omega)) ?_ rfl rfl rfl rfl rfl rfl rfl rfl
        refine ⟨by rw [o _ (by omega) (by omega)]; exact h1, by rw [o _ (by omega) (by omega)]; exact h2, ?_, ?_, by rw [o _ (by omega) (by omega)]; exact h5, by rw [o _ (by omega) (by omega)]; exact h6, by rw [o _ (by omega) (by omega)]; exact h7, by rw [o _ (by omega) (by omega)]; exact h8, by rw [o _ (by omega) (by omega)]; exact h9, fun hx => by rw [o _ (by omega) (by omega)]; exact h10 hx⟩
        · rw [upd_self]
          show _ = nI ((eMks (wE (aW A) i)).eraseIdx q).length
          rw [List.length_eraseIdx_of_lt hkl]
        · show mkAt _ _ ((eMks (wE (aW A) i)).eraseIdx q)
          refine mkAt_iff _ _ (fun j x hj => ?_)
          have hjl : j < (eMks (wE (aW A) i)).length - 1 := by
            have := (List.getElem?_eq_some_iff.mp hj).1
            rw [List.length_eraseIdx_of_lt hkl] at this
            exact this
          rw [List.getElem?_eraseIdx] at hj
          rw [upd_ne _ _ (by omega), upd_ne _ _ (by omega), upd_ne _ _ (by omega)]
          by_cases hjq : j < q
          · rw [if_pos hjq] at hj
            have := mkAt_get _ _ j x h4 hj
            rw [c2 _ (by omega), c2 _ (by omega), c2 _ (by omega)]
            exact this
          · rw [if_neg hjq] at hj
            have := mkAt_get _ _ (j + 1) x h4 hj
            rw [c3 _ (by omega) (by omega), c3 _ (by omega) (by omega), c3 _ (by omega) (by omega)]
            rw [show 4 + 2618 * i + 3 + 3 * (j + 1) = 4 + 2618 * i + 3 + 3 * j + 3 by omega] at this
            rw [show 4 + 2618 * i + 3 + 3 * j + 1 + 3 = 4 + 2618 * i + 3 + 3 * j + 3 + 1 by omega, show 4 + 2618 * i + 3 + 3 * j + 2 + 3 = 4 + 2618 * i + 3 + 3 * j + 3 + 2 by omega]
            exact this
    · rw [if_neg hk, if_pos rfl]; exact refuF h (k := 3) (by omega) _ _ (fun hx => hk ⟨hx.2.1, by omega⟩)
  · rw [if_neg he, if_pos rfl]; exact refuF h (k := 3) (by omega) _ _ (fun hx => he hx.1)
