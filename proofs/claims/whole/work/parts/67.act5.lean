/-! ===== PART II, the reference: cursor, line, delay, marks, seed ===== -/
theorem refuF {M : MS} {A : St} (h : RS M A) {k : Nat} (hk : k < 7) (P : Prop) [Decidable P] (x : Int32 × St) (hP : ¬ P) : ∃ M', (bn2 (f12_isRefused M (nI k)) fun v1 M2 => (bz v1).bind fun v3 => some (v3, M2)) = some ((if P then x else ((0 : Int32), sRf A k)).1, M') ∧ RS M' (if P then x else ((0 : Int32), sRf A k)).2 := by
  obtain ⟨M', g1, g2⟩ := isRefused_ok h k hk
  rw [if_neg hP]
  exact ⟨M', by rw [g1, bn2_s, bz0, Option.bind_some], g2⟩
/-- places of an editor's head are written, in a world that is kept before -/
theorem set_head {M : MS} {A : St} {i : Nat} {E : Ed} {f : Nat → Int32} (h : RS M A) (hg : GA A) (hi : i < aCnt A) (hf : ∀ j, j < 4 + 2618 * i ∨ 4 + 2618 * i + 21 ≤ j → f j = M.2.1 30 j) (hh : REh f (4 + 2618 * i) E) (e1 : eTxt E = eTxt (wE (aW A) i)) (e2 : eUnd E = eUnd (wE (aW A) i)) (e3 : eDon E = eDon (wE (aW A) i)) (e4 : eCom E = eCom (wE (aW A) i)) (e5 : ePnd E = ePnd (wE (aW A) i)) (e6 : eBuf E = eBuf (wE (aW A) i)) (e7 : eLft E = eLft (wE (aW A) i)) (e8 : eSnt E = eSnt (wE (aW A) i)) : RS (sR M 30 f) (sWd A (setE (aW A) i E)) := by
  have gd := GA_good hg
  have hb := Good_Bd gd hi
  have hr := (RS_RW h).2.2.2.2.2.2.2 i hi
  have ho : REo f (4 + 2618 * i) E := by
    have := REo_eq (f' := f) hr.2.2.1 hb (fun j j1 j2 => hf j (by omega))
    unfold REo at this ⊢
    rw [e5, e6, e7, e8]
    exact this
  refine RS_world (tl := 0) h (fun k hk hk2 hk3 => sR_ne _ _ hk3) (fun k hk => rfl) rfl ?_
  refine RW_set (As := []) (Fs := []) (RS_RW h) gd hi (FN_now (fun j hj => hf j (by omega))) (fun _ _ _ => List.not_mem_nil) List.not_mem_nil List.not_mem_nil ?_
  rw [sR_get]
  exact REd_head hr hb (row_le gd) hh ho e1 e2 e3 e4 (fun j j1 j2 => hf j (by omega))
def aCursor (A : St) (e at' : Int32) : Int32 × St := if (0 ≤ e.toInt ∧ e.toInt < aCnt A) ∧ (0 ≤ at'.toInt ∧ at'.toInt ≤ (eTxt (wE (aW A) e.toInt.toNat)).length) ∧ at'.toInt ≠ eCur (wE (aW A) e.toInt.toNat) then (1, sWd (keepA A) (setE (aW A) e.toInt.toNat (sCur (wE (aW A) e.toInt.toNat) at'.toInt.toNat))) else (0, sRf A 3)
theorem cursor_ok {M : MS} {A : St} (h : RS M A) (hg : GA A) (e at' : Int32) : ∃ M', f12_cursor M e at' = some ((aCursor A e at').1, M') ∧ RS M' (aCursor A e at').2 := by
  have gd := GA_good hg
  have hc4 := gd.1
  unfold f12_cursor aCursor
  rw [isEditor_ok h hg, Option.bind_some]
  by_cases he : 0 ≤ e.toInt ∧ e.toInt < aCnt A
  · rw [if_pos he, if_neg (show ¬ (1 : Int32) = 0 from by decide)]
    have hen := ofI he.1
    have hi : e.toInt.toNat < aCnt A := by omega
    have hb := (Good_Bd gd hi).1
    have hcb := (Good_Bd gd hi).2.2.2.1
    obtain ⟨hh, ht, -⟩ := (RS_RW h).2.2.2.2.2.2.2 _ hi
    rw [show f12_its M e (21 : Int32) = some (nI (eTxt (wE (aW A) e.toInt.toNat)).length) from by rw [show (21 : Int32) = nI 21 from rfl, its_e h hg he 21 (by omega), ht.1], Option.bind_some, isIn_ok, i64, i64, nI_toInt (by omega), show (0 : Int64).toInt = 0 from by decide, Option.bind_some]
    by_cases ha : 0 ≤ at'.toInt ∧ at'.toInt ≤ ((eTxt (wE (aW A) e.toInt.toNat)).length : Int)
    · have han := ofI ha.1
      rw [if_pos ha, if_neg (show ¬ (1 : Int32) = 0 from by decide), show f12_its M e (1 : Int32) = some (nI (eCur (wE (aW A) e.toInt.toNat))) from by rw [show (1 : Int32) = nI 1 from rfl, its_e h hg he 1 (by omega), hh.2.1], Option.bind_some]
      have heq : (at' = nI (eCur (wE (aW A) e.toInt.toNat))) ↔ at'.toInt = eCur (wE (aW A) e.toInt.toNat) := by
        constructor
        · intro hx; rw [hx, nI_toInt (by omega)]
        · intro hx; exact Int32.toInt_inj.mp (by rw [hx, nI_toInt (by omega)])
      by_cases hq : at'.toInt = eCur (wE (aW A) e.toInt.toNat)
      · rw [if_pos (heq.mpr hq)]; exact refuF h (k := 3) (by omega) _ _ (fun hx => hx.2.2 hq)
      · rw [if_neg (fun hx => hq (heq.mp hx)), if_pos (show (0 ≤ e.toInt ∧ e.toInt < aCnt A) ∧ (0 ≤ at'.toInt ∧ at'.toInt ≤ ((eTxt (wE (aW A) e.toInt.toNat)).length : Int)) ∧ at'.toInt ≠ eCur (wE (aW A) e.toInt.toNat) from ⟨he, ha, hq⟩)]
        obtain ⟨M2, k1, k2, k3⟩ := keeps_ok h hg
        have hGA := GA_keep0 hg (by omega)
        have n2 : M2.2.1 30 = M.2.1 30 := k3.1 30 (by decide)
        refine ⟨sR M2 30 (upd (M2.2.1 30) (4 + 2618 * e.toInt.toNat + 1) at'), ?_, ?_⟩
        · rw [k1, Option.bind_some, show f12_of e (1 : Int32) = some (nI (4 + 2618 * e.toInt.toNat + 1)) from by
            conv => lhs; rw [hen]
            exact of_ok _ 1, Option.bind_some, sd_n (show 4 + 2618 * e.toInt.toNat + 1 < 10476 by omega), Option.bind_some]
        · refine set_head (A := keepA A) k2 hGA hi (fun j hj => upd_ne _ _ (by omega)) ?_ rfl rfl rfl rfl rfl rfl rfl rfl
          obtain ⟨h1, h2, h3, h4, h5, h6, h7, h8, h9, h10⟩ := hh
          have m4 := (Good_Bd gd hi).2.1
          have o : ∀ j, j ≠ 4 + 2618 * e.toInt.toNat + 1 → upd (M2.2.1 30) (4 + 2618 * e.toInt.toNat + 1) at' j = M.2.1 30 j := fun j hj => by rw [upd_ne _ _ hj, n2]
          refine ⟨by rw [o _ (by omega)]; exact h1, by rw [upd_self]; exact han, by rw [o _ (by omega)]; exact h3, mkAt_eq (eMks (wE (aW A) e.toInt.toNat)) _ h4 (fun j j1 j2 => o j (by omega)), by rw [o _ (by omega)]; exact h5, by rw [o _ (by omega)]; exact h6, by rw [o _ (by omega)]; exact h7, by rw [o _ (by omega)]; exact h8, by rw [o _ (by omega)]; exact h9, fun hx => by rw [o _ (by omega)]; exact h10 hx⟩
    · rw [if_neg ha, if_pos rfl]; exact refuF h (k := 3) (by omega) _ _ (fun hx => ha hx.2.1)
  · rw [if_neg he, if_pos rfl]; exact refuF h (k := 3) (by omega) _ _ (fun hx => he hx.1)
def aLine (A : St) (e on : Int32) : Int32 × St := if (0 ≤ e.toInt ∧ e.toInt < aCnt A) ∧ eOn (wE (aW A) e.toInt.toNat) ≠ decide (on ≠ 0) then (1, sWd (keepA A) (setE (aW A) e.toInt.toNat (sOn (wE (aW A) e.toInt.toNat) (decide (on ≠ 0))))) else (0, sRf A 3)
theorem line_ok {M : MS} {A : St} (h : RS M A) (hg : GA A) (e on : Int32) : ∃ M', f12_line M e on = some ((aLine A e on).1, M') ∧ RS M' (aLine A e on).2 := by
  have gd := GA_good hg
  have hc4 := gd.1
  have hv : (if on = 0 then some (0 : Int32) else some (1 : Int32)) = some (bI (decide (on ≠ 0))) := by
    by_cases h0 : on = 0
    · rw [if_pos h0]; simp [h0, bI]
    · rw [if_neg h0]; simp [h0, bI]
  unfold f12_line aLine
  rw [hv, Option.bind_some, isEditor_ok h hg, Option.bind_some]
  generalize decide (on ≠ 0) = v
  by_cases he : 0 ≤ e.toInt ∧ e.toInt < aCnt A
  · rw [if_pos he, if_neg (show ¬ (1 : Int32) = 0 from by decide)]
    have hen := ofI he.1
    have hi : e.toInt.toNat < aCnt A := by omega
    obtain ⟨hh, ht, -⟩ := (RS_RW h).2.2.2.2.2.2.2 _ hi
    rw [show f12_its M e (15 : Int32) = some (bI (eOn (wE (aW A) e.toInt.toNat))) from by rw [show (15 : Int32) = nI 15 from rfl, its_e h hg he 15 (by omega), hh.2.2.2.2.1], Option.bind_some]
    have heq : (bI (eOn (wE (aW A) e.toInt.toNat)) = bI v) ↔ eOn (wE (aW A) e.toInt.toNat) = v := by
      cases eOn (wE (aW A) e.toInt.toNat) <;> cases v <;> simp [bI]
    by_cases hq : eOn (wE (aW A) e.toInt.toNat) = v
    · rw [if_pos (heq.mpr hq)]; exact refuF h (k := 3) (by omega) _ _ (fun hx => hx.2 hq)
    · rw [if_neg (fun hx => hq (heq.mp hx)), if_pos (show (0 ≤ e.toInt ∧ e.toInt < aCnt A) ∧ eOn (wE (aW A) e.toInt.toNat) ≠ v from ⟨he, hq⟩)]
      obtain ⟨M2, k1, k2, k3⟩ := keeps_ok h hg
      have hGA := GA_keep0 hg (by omega)
      have n2 : M2.2.1 30 = M.2.1 30 := k3.1 30 (by decide)
      refine ⟨sR M2 30 (upd (M2.2.1 30) (4 + 2618 * e.toInt.toNat + 15) (bI v)), ?_, ?_⟩
      · rw [k1, Option.bind_some, show f12_of e (15 : Int32) = some (nI (4 + 2618 * e.toInt.toNat + 15)) from by
          conv => lhs; rw [hen]
          exact of_ok _ 15, Option.bind_some, sd_n (show 4 + 2618 * e.toInt.toNat + 15 < 10476 by omega), Option.bind_some]
      · refine set_head (A := keepA A) k2 hGA hi (fun j hj => upd_ne _ _ (by omega)) ?_ rfl rfl rfl rfl rfl rfl rfl rfl
        obtain ⟨h1, h2, h3, h4, h5, h6, h7, h8, h9, h10⟩ := hh
        have m4 := (Good_Bd gd hi).2.1
        have o : ∀ j, j ≠ 4 + 2618 * e.toInt.toNat + 15 → upd (M2.2.1 30) (4 + 2618 * e.toInt.toNat + 15) (bI v) j = M.2.1 30 j := fun j hj => by rw [upd_ne _ _ hj, n2]
        refine ⟨by rw [o _ (by omega)]; exact h1, by rw [o _ (by omega)]; exact h2, by rw [o _ (by omega)]; exact h3, mkAt_eq (eMks (wE (aW A) e.toInt.toNat)) _ h4 (fun j j1 j2 => o j (by omega)), by rw [upd_self]; rfl, by rw [o _ (by omega)]; exact h6, by rw [o _ (by omega)]; exact h7, by rw [o _ (by omega)]; exact h8, by rw [o _ (by omega)]; exact h9, fun hx => by rw [o _ (by omega)]; exact h10 hx⟩
  · rw [if_neg he, if_pos rfl]; exact refuF h (k := 3) (by omega) _ _ (fun hx => he hx.1)
def aDelay (A : St) (e t : Int32) : Int32 × St := if (0 ≤ e.toInt ∧ e.toInt < aCnt A) ∧ (0 ≤ t.toInt ∧ t.toInt ≤ 9) ∧ (eDel (wE (aW A) e.toInt.toNat) : Int) ≠ t.toInt then (1, sWd (keepA A) (setE (aW A) e.toInt.toNat (sDel (wE (aW A) e.toInt.toNat) t.toInt.toNat))) else (0, sRf A 3)
theorem delay_ok {M : MS} {A : St} (h : RS M A) (hg : GA A) (e t : Int32) : ∃ M', f12_delay M e t = some ((aDelay A e t).1, M') ∧ RS M' (aDelay A e t).2 := by
  have gd := GA_good hg
  have hc4 := gd.1
  unfold f12_delay aDelay
  rw [isEditor_ok h hg, Option.bind_some]
  by_cases he : 0 ≤ e.toInt ∧ e.toInt < aCnt A
  · rw [if_pos he, if_neg (show ¬ (1 : Int32) = 0 from by decide), isIn_ok, i64, show (0 : Int64).toInt = 0 from by decide, show (9 : Int64).toInt = 9 from by decide, Option.bind_some]
    have hen := ofI he.1
    have hi : e.toInt.toNat < aCnt A := by omega
    obtain ⟨hh, ht, -⟩ := (RS_RW h).2.2.2.2.2.2.2 _ hi
    have hdl := (gd.2.2.2.2.2.2.2.2 _ hi).2.1
    by_cases ha : 0 ≤ t.toInt ∧ t.toInt ≤ 9
    · have han := ofI ha.1
      rw [if_pos ha, if_neg (show ¬ (1 : Int32) = 0 from by decide), show f12_its M e (16 : Int32) = some (nI (eDel (wE (aW A) e.toInt.toNat))) from by rw [show (16 : Int32) = nI 16 from rfl, its_e h hg he 16 (by omega), hh.2.2.2.2.2.1], Option.bind_some]
      have heq : (nI (eDel (wE (aW A) e.toInt.toNat)) = t) ↔ (eDel (wE (aW A) e.toInt.toNat) : Int) = t.toInt := by
        constructor
        · intro hx; rw [← hx, nI_toInt (by omega)]
        · intro hx; exact Int32.toInt_inj.mp (by rw [← hx, nI_toInt (by omega)])
      by_cases hq : (eDel (wE (aW A) e.toInt.toNat) : Int) = t.toInt
      · rw [if_pos (heq.mpr hq)]; exact refuF h (k := 3) (by omega) _ _ (fun hx => hx.2.2 hq)
      · rw [if_neg (fun hx => hq (heq.mp hx)), if_pos (show (0 ≤ e.toInt ∧ e.toInt < aCnt A) ∧ (0 ≤ t.toInt ∧ t.toInt ≤ 9) ∧ (eDel (wE (aW A) e.toInt.toNat) : Int) ≠ t.toInt from ⟨he, ha, hq⟩)]
        obtain ⟨M2, k1, k2, k3⟩ := keeps_ok h hg
        have hGA := GA_keep0 hg (by omega)
        have n2 : M2.2.1 30 = M.2.1 30 := k3.1 30 (by decide)
        refine ⟨sR M2 30 (upd (M2.2.1 30) (4 + 2618 * e.toInt.toNat + 16) t), ?_, ?_⟩
        · rw [k1, Option.bind_some, show f12_of e (16 : Int32) = some (nI (4 + 2618 * e.toInt.toNat + 16)) from by
            conv => lhs; rw [hen]
            exact of_ok _ 16, Option.bind_some, sd_n (show 4 + 2618 * e.toInt.toNat + 16 < 10476 by omega), Option.bind_some]
        · refine set_head (A := keepA A) k2 hGA hi (fun j hj => upd_ne _ _ (by omega)) ?_ rfl rfl rfl rfl rfl rfl rfl rfl
          obtain ⟨h1, h2, h3, h4, h5, h6, h7, h8, h9, h10⟩ := hh
          have m4 := (Good_Bd gd hi).2.1
          have o : ∀ j, j ≠ 4 + 2618 * e.toInt.toNat + 16 → upd (M2.2.1 30) (4 + 2618 * e.toInt.toNat + 16) t j = M.2.1 30 j := fun j hj => by rw [upd_ne _ _ hj, n2]
          refine ⟨by rw [o _ (by omega)]; exact h1, by rw [o _ (by omega)]; exact h2, by rw [o _ (by omega)]; exact h3, mkAt_eq (eMks (wE (aW A) e.toInt.toNat)) _ h4 (fun j j1 j2 => o j (by omega)), by rw [o _ (by omega)]; exact h5, by rw [upd_self]; exact han, by rw [o _ (by omega)]; exact h7, by rw [o _ (by omega)]; exact h8, by rw [o _ (by omega)]; exact h9, fun hx => by rw [o _ (by omega)]; exact h10 hx⟩
    · rw [if_neg ha, if_pos rfl]; exact refuF h (k := 3) (by omega) _ _ (fun hx => ha hx.2.1)
  · rw [if_neg he, if_pos rfl]; exact refuF h (k := 3) (by omega) _ _ (fun hx => he hx.1)
