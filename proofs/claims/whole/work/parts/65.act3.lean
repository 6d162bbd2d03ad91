/-! ===== PART II, the reference: cut, type, undo, redo ===== -/
theorem refu {M : MS} {A : St} (h : RS M A) {k : Nat} (hk : k < 7) (P : Prop) [Decidable P] (x : Int32 × St) (hP : ¬ P) : ∃ M', (bn2 (f12_refuses M (nI k)) fun v1 M2 => some (v1, M2)) = some ((if P then x else ((-1 : Int32), sRf A k)).1, M') ∧ RS M' (if P then x else ((-1 : Int32), sRf A k)).2 := by
  obtain ⟨M', g1, g2⟩ := refuses_ok h k hk
  rw [if_neg hP]
  exact ⟨M', by rw [g1, bn2_s], g2⟩
def aCut (A : St) (e at' n : Int32) : Int32 × St := if (0 ≤ e.toInt ∧ e.toInt < aCnt A) ∧ (0 ≤ at'.toInt ∧ at'.toInt ≤ (eTxt (wE (aW A) e.toInt.toNat)).length) ∧ 1 ≤ n.toInt ∧ n.toInt ≤ (eTxt (wE (aW A) e.toInt.toNat)).length - at'.toInt then aEd A e.toInt.toNat (layO (eTxt (wE (aW A) e.toInt.toNat)).length at'.toInt.toNat 0 n.toInt.toNat) else (-1, sRf A 2)
theorem its_e {M : MS} {A : St} {e : Int32} (h : RS M A) (hg : GA A) (he : 0 ≤ e.toInt ∧ e.toInt < aCnt A) (w : Nat) (hw : w < 2618) : f12_its M e (nI w) = some (M.2.1 30 (4 + 2618 * e.toInt.toNat + w)) := by
  have hen := ofI he.1
  have hc4 := (GA_good hg).1
  conv => lhs; rw [hen]
  rw [its_ok (by omega)]
theorem cut_ok {M : MS} {A : St} (h : RS M A) (hg : GA A) (e at' n : Int32) : ∃ M', f12_cut M e at' n = some ((aCut A e at' n).1, M') ∧ RS M' (aCut A e at' n).2 := by
  have gd := GA_good hg
  have hc4 := gd.1
  unfold f12_cut aCut
  rw [isEditor_ok h hg, Option.bind_some]
  by_cases he : 0 ≤ e.toInt ∧ e.toInt < aCnt A
  · rw [if_pos he, if_neg (show ¬ (1 : Int32) = 0 from by decide)]
    have hen := ofI he.1
    have hi : e.toInt.toNat < aCnt A := by omega
    have hb := (Good_Bd gd hi).1
    have ht := ((RS_RW h).2.2.2.2.2.2.2 _ hi).2.1
    have hits : f12_its M e (21 : Int32) = some (nI (eTxt (wE (aW A) e.toInt.toNat)).length) := by rw [show (21 : Int32) = nI 21 from rfl, its_e h hg he 21 (by omega), ht.1]
    rw [hits, Option.bind_some, isIn_ok, i64, i64, nI_toInt (by omega), show (0 : Int64).toInt = 0 from by decide, Option.bind_some]
    by_cases ha : 0 ≤ at'.toInt ∧ at'.toInt ≤ ((eTxt (wE (aW A) e.toInt.toNat)).length : Int)
    · have han := ofI ha.1
      have hsub : nI (eTxt (wE (aW A) e.toInt.toNat)).length - at' = nI ((eTxt (wE (aW A) e.toInt.toNat)).length - at'.toInt.toNat) := by
        conv => lhs; rw [han]
        rw [nI_sub (by omega)]
      rw [if_pos ha, if_neg (show ¬ (1 : Int32) = 0 from by decide), Option.bind_some, isIn_ok, i64, i64, hsub, nI_toInt (by omega), show (1 : Int64).toInt = 1 from by decide, Option.bind_some]
      by_cases hn : 1 ≤ n.toInt ∧ n.toInt ≤ (((eTxt (wE (aW A) e.toInt.toNat)).length - at'.toInt.toNat : Nat) : Int)
      · rw [if_pos hn, if_neg (show ¬ (1 : Int32) = 0 from by decide), if_pos (show (0 ≤ e.toInt ∧ e.toInt < aCnt A) ∧ (0 ≤ at'.toInt ∧ at'.toInt ≤ ((eTxt (wE (aW A) e.toInt.toNat)).length : Int)) ∧ 1 ≤ n.toInt ∧ n.toInt ≤ ((eTxt (wE (aW A) e.toInt.toNat)).length : Int) - at'.toInt from ⟨he, ha, hn.1, by omega⟩)]
        have hnn := ofI (show 0 ≤ n.toInt by omega)
        obtain ⟨M9, l1, l2, l3⟩ := laysA_ok (letter := 0) (kept := at'.toInt.toNat) (cut := n.toInt.toNat) h hg hi (by omega)
        rw [← hen, ← han, ← hnn] at l1
        obtain ⟨z1, z2, z3⟩ := lay_cnt (len := (eTxt (wE (aW A) e.toInt.toNat)).length) (kept := at'.toInt.toNat) (cut := n.toInt.toNat) (letter := 0) (by omega) (Or.inl (by decide))
        obtain ⟨M', d1, d2, d3⟩ := editDone_ok (RS_frm h l3 (by simp [scrA]) (by simp [scrF])) hg hi l2 z1 (by omega) z2
        rw [← hen] at d1
        exact ⟨M', by rw [l1, Option.bind_some, d1, bn2_s], d2⟩
      · rw [if_neg hn, if_pos rfl]; exact refu h (k := 2) (by omega) _ _ (fun hh => hn ⟨hh.2.2.1, by omega⟩)
    · rw [if_neg ha, if_pos rfl]; exact refu h (k := 2) (by omega) _ _ (fun hh => ha hh.2.1)
  · rw [if_neg he, if_pos rfl]; exact refu h (k := 2) (by omega) _ _ (fun hh => he hh.1)
def tyO (E : Ed) (l : Int32) : List Int32 := if l = 0 then layO (eTxt E).length (eCur E - 1) 0 1 else layO (eTxt E).length (eCur E) l 0
def aType (A : St) (e l : Int32) : Int32 × St := if (0 ≤ e.toInt ∧ e.toInt < aCnt A) ∧ (0 ≤ l.toInt ∧ l.toInt ≤ 26) ∧ ¬ (l = 0 ∧ eCur (wE (aW A) e.toInt.toNat) = 0) then (if canE A (tyO (wE (aW A) e.toInt.toNat) l) = true then nI (eCur (editE (wE (aW A) e.toInt.toNat) (tyO (wE (aW A) e.toInt.toNat) l) 0)) else -1, (aEd A e.toInt.toNat (tyO (wE (aW A) e.toInt.toNat) l)).2) else (-1, sRf A 2)
theorem type_end {M M9 : MS} {A : St} {e : Int32} {op : List Int32} (h : RS M A) (hg : GA A) (he : 0 ≤ e.toInt ∧ e.toInt < aCnt A) (hl : Row M9 20 25 op) (hf : Frm [20] [25] M M9) (hA : okO op) (hle : op.length ≤ 241) (ho : oldL op = (eTxt (wE (aW A) e.toInt.toNat)).length) :
    ∃ M', (bn2 (f12_editDone M9 e (0 : Int32)) fun v25 M26 => (if v25 = (-1 : Int32) then some (-1 : Int32) else ((f12_its M26 e (1 : Int32)).bind fun v29 => some v29)).bind fun v27 => some (v27, M26)) = some ((if canE A op = true then nI (eCur (editE (wE (aW A) e.toInt.toNat) op 0)) else -1), M') ∧ RS M' (aEd A e.toInt.toNat op).2 := by
  have hen := ofI he.1
  have hi : e.toInt.toNat < aCnt A := by omega
  obtain ⟨M', d1, d2, d3⟩ := editDone_ok (RS_frm h hf (by simp [scrA]) (by simp [scrF])) hg hi hl hA (by omega) ho
  rw [← hen] at d1 d3
  refine ⟨M', ?_, d2⟩
  rw [d1, bn2_s]
  have cl := cnt_len hA
  by_cases hc : canE A op = true
  · have e1 : (aEd A e.toInt.toNat op).1 = nI (newL op) := by unfold aEd; rw [if_pos hc]
    rw [e1, if_neg (show ¬ nI (newL op) = (-1 : Int32) from fun hh => by
      have h3 := is1.mp hh
      rw [nI_toInt (by omega)] at h3
      omega), d3 hc, Option.bind_some, Option.bind_some, if_pos hc]
  · have e1 : (aEd A e.toInt.toNat op).1 = -1 := by unfold aEd; rw [if_neg hc]
    rw [e1, if_pos rfl, Option.bind_some, if_neg hc]
theorem type_ok {M : MS} {A : St} (h : RS M A) (hg : GA A) (e l : Int32) : ∃ M', f12_type M e l = some ((aType A e l).1, M') ∧ RS M' (aType A e l).2 := by
  have gd := GA_good hg
  have hc4 := gd.1
  unfold f12_type aType
  rw [isEditor_ok h hg, Option.bind_some]
  by_cases he : 0 ≤ e.toInt ∧ e.toInt < aCnt A
  · rw [if_pos he, if_neg (show ¬ (1 : Int32) = 0 from by decide), isIn_ok, i64, show (0 : Int64).toInt = 0 from by decide, show (26 : Int64).toInt = 26 from by decide, Option.bind_some]
    have hen := ofI he.1
    have hi : e.toInt.toNat < aCnt A := by omega
    have hb := (Good_Bd gd hi).1
    have hcu := (gd.2.2.2.2.2.2.2.2 _ hi).2.2.2.2.2.2.2.2.2.2.2.2.2.2.2.2.1
    have hits : f12_its M e (1 : Int32) = some (nI (eCur (wE (aW A) e.toInt.toNat))) := by rw [show (1 : Int32) = nI 1 from rfl, its_e h hg he 1 (by omega), ((RS_RW h).2.2.2.2.2.2.2 _ hi).1.2.1]
    by_cases hl : 0 ≤ l.toInt ∧ l.toInt ≤ 26
    · rw [if_pos hl, if_neg (show ¬ (1 : Int32) = 0 from by decide)]
      by_cases l0 : l = 0
      · subst l0
        rw [if_pos rfl, hits, Option.bind_some]
        by_cases hz : eCur (wE (aW A) e.toInt.toNat) = 0
        · rw [hz, if_pos (show nI 0 = (0 : Int32) from rfl)]; exact refu h (k := 2) (by omega) _ _ (fun hh => hh.2.2 ⟨rfl, rfl⟩)
        · rw [if_neg (nI_ne0 (by omega) (by omega)), if_pos (show (0 : Int32) ≤ 0 from by decide), Option.bind_some, if_pos (show (0 ≤ e.toInt ∧ e.toInt < aCnt A) ∧ (0 ≤ (0 : Int32).toInt ∧ (0 : Int32).toInt ≤ 26) ∧ ¬ ((0 : Int32) = 0 ∧ eCur (wE (aW A) e.toInt.toNat) = 0) from ⟨he, hl, fun hh => hz hh.2⟩)]
          obtain ⟨M9, a1, a2, a3⟩ := laysA_ok (letter := 0) (kept := eCur (wE (aW A) e.toInt.toNat) - 1) (cut := 1) h hg hi (by omega)
          rw [← hen] at a1
          obtain ⟨z1, z2, z3⟩ := lay_cnt (len := (eTxt (wE (aW A) e.toInt.toNat)).length) (kept := eCur (wE (aW A) e.toInt.toNat) - 1) (cut := 1) (letter := 0) (by omega) (Or.inl (by decide))
          have hop : tyO (wE (aW A) e.toInt.toNat) 0 = layO (eTxt (wE (aW A) e.toInt.toNat)).length (eCur (wE (aW A) e.toInt.toNat) - 1) 0 1 := by unfold tyO; rw [if_pos rfl]
          rw [hop]
          obtain ⟨M', d1, d2⟩ := type_end h hg he a2 a3 z1 (by omega) z2
          refine ⟨M', ?_, d2⟩
          rw [show nI (eCur (wE (aW A) e.toInt.toNat)) - (1 : Int32) = nI (eCur (wE (aW A) e.toInt.toNat) - 1) from by rw [show (1 : Int32) = nI 1 from rfl, nI_sub (by omega)], show f12_laysA M e (nI (eCur (wE (aW A) e.toInt.toNat) - 1)) (0 : Int32) (1 : Int32) = some M9 from a1, Option.bind_some, Option.bind_some]
          exact d1
      · have hlp : 1 ≤ l.toInt ∧ l.toInt ≤ 26 := ⟨by
          have : l.toInt ≠ 0 := fun hh => l0 (Int32.toInt_inj.mp (by rw [hh]; decide))
          omega, hl.2⟩
        obtain ⟨o1, o2⟩ := let_okP hlp
        rw [if_neg l0, if_neg o2, hits, Option.bind_some, if_pos (show (0 ≤ e.toInt ∧ e.toInt < aCnt A) ∧ (0 ≤ l.toInt ∧ l.toInt ≤ 26) ∧ ¬ (l = 0 ∧ eCur (wE (aW A) e.toInt.toNat) = 0) from ⟨he, hl, fun hh => l0 hh.1⟩)]
        obtain ⟨M9, a1, a2, a3⟩ := laysA_ok (letter := l) (kept := eCur (wE (aW A) e.toInt.toNat)) (cut := 0) h hg hi (by omega)
        rw [← hen] at a1
        obtain ⟨z1, z2, z3⟩ := lay_cnt (len := (eTxt (wE (aW A) e.toInt.toNat)).length) (kept := eCur (wE (aW A) e.toInt.toNat)) (cut := 0) (letter := l) (by omega) (Or.inr o1)
        have hop : tyO (wE (aW A) e.toInt.toNat) l = layO (eTxt (wE (aW A) e.toInt.toNat)).length (eCur (wE (aW A) e.toInt.toNat)) l 0 := by unfold tyO; rw [if_neg l0]
        rw [hop]
        obtain ⟨M', d1, d2⟩ := type_end h hg he a2 a3 z1 (by omega) z2
        refine ⟨M', ?_, d2⟩
        rw [show f12_laysA M e (nI (eCur (wE (aW A) e.toInt.toNat))) l (0 : Int32) = some M9 from a1, Option.bind_some, Option.bind_some]
        exact d1
    · rw [if_neg hl, if_pos rfl]; exact refu h (k := 2) (by omega) _ _ (fun hh => hl hh.2.1)
  · rw [if_neg he, if_pos rfl]; exact refu h (k := 2) (by omega) _ _ (fun hh => he hh.1)
/-- the latest of a stack that changes something -/
def lastN (s : List (Nat × List Int32)) : Nat → Option Nat
  | 0 => none
  | k + 1 => match s[k]? with
    | none => none
    | some x => if idleB x.2 then lastN s k else some k
theorem idle_cnt {A : List Int32} (h : idleB A = true) : newL A = oldL A := by
  induction A with
  | nil => rfl
  | cons v A ih =>
    unfold idleB at h
    simp only [Bool.and_eq_true, decide_eq_true_eq] at h
    obtain ⟨rfl, h2⟩ := h
    have c := cnt0 A
    have := ih h2
    omega
theorem take_snoc {α : Type} {s : List α} {k : Nat} {x : α} (h : s[k]? = some x) : s.take (k + 1) = s.take k ++ [x] := (drop_get h).2
theorem last_loop {M0 : MS} {e st a n : Nat} {s : List (Nat × List Int32)} (ha : a = 4 + 2618 * e + st) (hst : stk (M0.2.1 30) a s) (hE : stkE a s ≤ 10476) (h8 : s.length ≤ 8) : ∀ (k f : Nat) (M : MS), k ≤ s.length → Frm [20] [25] M0 M → chn (s.take k) n → n + putsS (s.take k) ≤ 240 → k < f →
    ∃ M', L12_latestOf_10 (nI e) (nI st) f (nI k - 1) M = some (match lastN s k with | none => (1, -1, M') | some j => (0, nI j, M')) ∧ Frm [20] [25] M0 M' ∧ (∀ j, lastN s k = some j → j < k ∧ ∃ x, s[j]? = some x ∧ Row M' 20 25 x.2 ∧ okO x.2 ∧ oldL x.2 = n ∧ x.2.length ≤ 240 ∧ chn (s.take j) (newL x.2) ∧ idleB x.2 = false) := by
  intro k
  induction k with
  | zero =>
    intro f M hk hf hch hs hfu
    obtain ⟨f, rfl⟩ : ∃ j, f = j + 1 := ⟨f - 1, by omega⟩
    refine ⟨M, ?_, hf, fun j hj => by cases hj⟩
    unfold L12_latestOf_10
    rw [if_pos (by decide)]; rfl
  | succ k ih =>
    intro f M hk hf hch hs hfu
    obtain ⟨f, rfl⟩ : ∃ j, f = j + 1 := ⟨f - 1, by omega⟩
    have hx := List.getElem?_eq_getElem (show k < s.length by omega)
    generalize s[k] = x at hx
    have htk := take_snoc hx
    rw [htk] at hch hs
    obtain ⟨c1, c2, c3⟩ := chn_snoc hch
    rw [putsS_app] at hs
    simp only [putsS] at hs
    have cl := cnt_len c1
    have hml := mk_len c1 0
    obtain ⟨hd, -⟩ := drop_get hx
    have hsp : s.take k ++ s.drop k = s := List.take_append_drop k s
    have hst' := hst
    rw [← hsp, stk_app, hd] at hst'
    have hE' := hE
    rw [← hsp, stkE_app, hd, stkE] at hE'
    have hge := stkE_ge (s.drop (k + 1)) (stkE a (s.take k) + 3 + x.1)
    obtain ⟨x1, x2, x3, -⟩ := hst'.2
    have n30 : M.2.1 30 = M0.2.1 30 := hf.1 30 (by decide)
    have eE : f12_entryAt M (nI a) (nI k) = some (nI (stkE a (s.take k))) := by
      have := entryAt_ok (M := M) (a := a) (s.take k) (s.drop k) (by rw [hsp, n30]; exact hst) (by rw [hsp]; exact hE) (by rw [List.length_take]; omega)
      rw [List.length_take, Nat.min_eq_left (by omega)] at this
      exact this
    obtain ⟨M3, a1, a2, a3⟩ := keptToA_ok (M := M) (p := stkE a (s.take k) + 1) (A := x.2) (by rw [n30]; exact x3) c1 (by omega) (by omega)
    have hid := isIdle_ok a2.2 (show x.2.length ≤ 700 by omega) (by omega)
    have hfr : Frm [20] [25] M0 M3 := Frm_trans hf a3
    have hunf : L12_latestOf_10 (nI e) (nI st) (f + 1) (nI (k + 1) - 1) M = if (if idleB x.2 then (1 : Int32) else 0) = 0 then some (0, nI k, M3) else L12_latestOf_10 (nI e) (nI st) f (nI k + -1) M3 := by
      conv => lhs; unfold L12_latestOf_10
      rw [nI_pred, if_neg (nI_pos (by omega)), of_ok, Option.bind_some, ← ha, eE, Option.bind_some, nI_1, a1, Option.bind_some, show gF M3 25 = nI x.2.length from a2.1, hid, Option.bind_some]
    have hlast : lastN s (k + 1) = if idleB x.2 then lastN s k else some k := by rw [lastN, hx]
    rw [hunf, hlast]
    cases hI : idleB x.2 with
    | true =>
      rw [if_neg (by decide)]
      have hnn := idle_cnt hI
      obtain ⟨M', g1, g2, g3⟩ := ih f M3 (by omega) hfr (by rw [show n = newL x.2 by omega]; exact c3) (by omega) (by omega)
      refine ⟨M', ?_, g2, fun j hj => ?_⟩
      · rw [show nI k + (-1 : Int32) = nI k - 1 by rw [Int32.sub_eq_add_neg], g1]; rfl
      · obtain ⟨q1, q2⟩ := g3 j hj
        exact ⟨by omega, q2⟩
    | false =>
      rw [if_pos (by decide)]
      refine ⟨M3, rfl, hfr, fun j hj => ?_⟩
      have : k = j := Option.some.inj hj
      subst this
      exact ⟨by omega, x, hx, a2, c1, c2, by omega, c3, hI⟩
