/-! ===== PART II, the reference: stacks, texts and places are carried ===== -/
theorem carriesStack_ok {M : MS} {e by' ties st co : Nat} {s : List (Nat × List Int32)} {B : List Int32} (ht2 : ties < 1000) (he : e < 1000) (hb : by' < 1000) (hst : stk (M.2.1 30) (4 + 2618 * e + st) s) (hE : stkE (4 + 2618 * e + st) s ≤ 10476) (hk : s.length < 1000) (hch : chn s (oldL B)) (hB : okO B) (hsum : oldL B + putsS s + putsL B ≤ 240) (hr : Row M 21 26 B) (ht : M.1 33 = nI ties) (hc : 4 + 2618 * e + co < 10476) (hm : M.2.1 30 (4 + 2618 * e + co) = nI s.length) :
    ∃ M', f12_carriesStack M (nI e) (nI by') (nI st) (nI co) = some M' ∧ stk (M'.2.1 30) (4 + 2618 * e + st) (carS (aheadB ties e by') s B).1 ∧ Row M' 21 26 B ∧ FN [20, 21, 22, 23, 24, 41] [25, 26, 27, 28] (fun j => 4 + 2618 * e + st ≤ j ∧ j < stkE (4 + 2618 * e + st) s) M M' := by
  have hlB := cnt_len hB
  have e26 : ∀ f, gF (sR M 41 f) 26 = nI B.length := fun f => hr.1
  have h1 : L12_carriesStack_10 (nI e) (nI by') (nI co) (nI (4 + 2618 * e + st)) FU 0 M = some (sR M 41 (wr (M.2.1 41) 0 B)) := by
    refine cpl0 (src := 21) (s := 0) (d := 0) (by decide) (show 0 + B.length ≤ 700 by omega) (show 0 + B.length ≤ 700 by omega) (by rw [FU_eq]; omega) hr.2 (fun n i f hi => ?_) (fun n f => ?_)
    · conv => lhs; unfold L12_carriesStack_10
      rw [e26, if_neg (nI_ge hi (by omega)), Nat.zero_add, nI_1]
    · unfold L12_carriesStack_10
      rw [e26, if_pos (nI_le (Nat.le_refl _) (by omega))]
  generalize hM1 : sR M 41 (wr (M.2.1 41) 0 B) = M1 at h1
  have f1 : Frm [41] [] M M1 := by subst hM1; exact Frm_sR (by decide)
  have r1 : Row M1 21 26 B := Row_frm hr f1 (by decide) (by decide)
  have s1 : seg (M1.2.1 41) 0 B := by subst hM1; rw [sR_get]; exact seg_wr
  have n1 : M1.2.1 30 = M.2.1 30 := f1.1 30 (by decide)
  obtain ⟨M5, g1, g2, g3⟩ := carries_loop (a := 4 + 2618 * e + st) (c6 := nI B.length) ht2 he hb s.length s [] FU (oldL B) B M1 rfl (by rw [List.append_nil, n1]; exact hst) (by rw [List.append_nil]; exact hE) hk hch hB rfl hsum r1 (by rw [f1.2.1 _ (by decide)]; exact ht) (by rw [FU_eq]; omega)
  rw [List.append_nil] at g2
  have s5 : seg (M5.2.1 41) 0 B := by rw [g3.1 41 (by decide) (by decide)]; exact s1
  have h5 : L12_carriesStack_110 (nI B.length) FU 0 M5 = some (sR M5 21 (wr (M5.2.1 21) 0 B)) := by
    refine cpl0 (src := 41) (s := 0) (d := 0) (by decide) (show 0 + B.length ≤ 700 by omega) (show 0 + B.length ≤ 700 by omega) (by rw [FU_eq]; omega) s5 (fun n i f hi => ?_) (fun n f => ?_)
    · conv => lhs; unfold L12_carriesStack_110
      rw [if_neg (nI_ge hi (by omega)), Nat.zero_add, nI_1]
    · unfold L12_carriesStack_110
      rw [if_pos (nI_le (Nat.le_refl _) (by omega))]
  refine ⟨sF (sR M5 21 (wr (M5.2.1 21) 0 B)) 26 (nI B.length), ?_, ?_, ⟨sF_get _ _ _, ?_⟩, ?_⟩
  · unfold f12_carriesStack
    rw [of_ok, Option.bind_some, h1, Option.bind_some, its_ok hc, n1, hm, Option.bind_some, show gF M1 26 = nI B.length from r1.1, g1, Option.bind_some, h5, Option.bind_some]
  · exact g2
  · show seg ((sR M5 21 (wr (M5.2.1 21) 0 B)).2.1 21) 0 B
    rw [sR_get]; exact seg_wr
  · refine FN_trans (FN_Frm f1 (by decide) (by simp) (by simp)) (FN_trans (FN_mono g3 (by simp) (by simp) (fun _ h => h)) (FN_Frm (As := [21]) (Fs := [26]) (Frm_trans (Frm_sR (by decide)) (Frm_sF (by decide))) (by decide) (by simp) (by simp)))
theorem carN_le (place : Nat) (more : Bool) (A : List Int32) (p q : Nat) : carN place more A p q ≤ q + A.length := by
  induction A generalizing p q with
  | nil => exact Nat.le_refl _
  | cons v A ih =>
    rw [carN, List.length_cons]
    split
    · have h1 : (if p < place ∨ p = place ∧ more = true then q + 1 else q) ≤ q + 1 := by split <;> omega
      exact Nat.le_trans (ih p _) (by omega)
    · have h1 : (if v = -1 ∧ p < place then q - 1 else q) ≤ q := by split <;> omega
      exact Nat.le_trans (ih (p + 1) _) (by omega)
/-- marks: from, to, how they grow -/
def mkAt (f : Nat → Int32) : Nat → List (Nat × Nat × Nat) → Prop
  | _, [] => True
  | a, x :: ms => f a = nI x.1 ∧ f (a + 1) = nI x.2.1 ∧ f (a + 2) = nI x.2.2 ∧ mkAt f (a + 3) ms
theorem mkAt_eq {f f' : Nat → Int32} : ∀ (ms : List (Nat × Nat × Nat)) (a : Nat), mkAt f a ms → (∀ j, a ≤ j → j < a + 3 * ms.length → f' j = f j) → mkAt f' a ms := by
  intro ms
  induction ms with
  | nil => intro a h hf; trivial
  | cons x ms ih =>
    intro a h hf
    rw [List.length_cons] at hf
    obtain ⟨h1, h2, h3, h4⟩ := h
    exact ⟨by rw [hf a (by omega) (by omega)]; exact h1, by rw [hf (a + 1) (by omega) (by omega)]; exact h2, by rw [hf (a + 2) (by omega) (by omega)]; exact h3, ih (a + 3) h4 (fun j j1 j2 => hf j (by omega) (by omega))⟩
theorem mkAt_app {f : Nat → Int32} : ∀ (ms ns : List (Nat × Nat × Nat)) (a : Nat), mkAt f a (ms ++ ns) ↔ mkAt f a ms ∧ mkAt f (a + 3 * ms.length) ns := by
  intro ms
  induction ms with
  | nil => intro ns a; simp [mkAt]
  | cons x ms ih =>
    intro ns a
    rw [List.cons_append, mkAt, mkAt, ih, List.length_cons, show a + 3 + 3 * ms.length = a + 3 * (ms.length + 1) by omega]
    simp only [and_assoc]
def carM (A : List Int32) (x : Nat × Nat × Nat) : Nat × Nat × Nat := (carN x.1 (decide (x.2.2 % 2 = 0)) A 0 x.1, max (carN x.1 (decide (x.2.2 % 2 = 0)) A 0 x.1) (carN x.2.1 (decide (1 < x.2.2)) A 0 x.2.1), x.2.2)
theorem gr_even {g : Nat} (h : g ≤ 3) : (if (nI g - nI g / (2 : Int32) * (2 : Int32)) = 0 then some (1 : Int32) else some (0 : Int32)) = some (if decide (g % 2 = 0) then 1 else 0) := by
  rcases (show g = 0 ∨ g = 1 ∨ g = 2 ∨ g = 3 by omega) with rfl | rfl | rfl | rfl <;> decide
theorem gr_more {g : Nat} (h : g ≤ 3) : (if nI g ≤ (1 : Int32) then some (0 : Int32) else some (1 : Int32)) = some (if decide (1 < g) then 1 else 0) := by
  rcases (show g = 0 ∨ g = 1 ∨ g = 2 ∨ g = 3 by omega) with rfl | rfl | rfl | rfl <;> decide
theorem marks_loop {e a2 K : Nat} {A : List Int32} (ha2 : a2 ≠ 30) (hl2 : A.length ≤ mLn a2) (hA : okO A) (hl : A.length ≤ 700) (hK : K ≤ 4) (hb : 4 + 2618 * e + 2618 ≤ 10476) :
    ∀ (ms ns : List (Nat × Nat × Nat)) (n : Nat) (M : MS), seg (M.2.1 a2) 0 A → ns.length + ms.length = K → M.2.1 30 (4 + 2618 * e + 2) = nI K → mkAt (M.2.1 30) (4 + 2618 * e + 3 + 3 * ns.length) ms → (∀ x ∈ ms, x.1 < 10000 ∧ x.2.1 < 10000 ∧ x.2.2 ≤ 3) → ms.length < n →
    ∃ f', L12_marksCarried_3 (nI e) a2 (nI A.length) n (nI ns.length) M = some (sR M 30 f') ∧ mkAt f' (4 + 2618 * e + 3 + 3 * ns.length) (ms.map (carM A)) ∧ (∀ j, j < 4 + 2618 * e + 3 + 3 * ns.length ∨ 4 + 2618 * e + 3 + 3 * K ≤ j → f' j = M.2.1 30 j) := by
  intro ms
  induction ms with
  | nil =>
    intro ns n M hseg hlen hmany hmk hbd hn
    obtain ⟨n, rfl⟩ : ∃ j, n = j + 1 := ⟨n - 1, by omega⟩
    rw [List.length_nil] at hlen
    unfold L12_marksCarried_3
    rw [show (2 : Int32) = nI 2 from rfl, its_ok (by omega), hmany, Option.bind_some, if_pos (nI_le (by omega) (by omega))]
    exact ⟨M.2.1 30, by rw [sR_self], trivial, fun _ _ => rfl⟩
  | cons x ms ih =>
    intro ns n M hseg hlen hmany hmk hbd hn
    obtain ⟨n, rfl⟩ : ∃ j, n = j + 1 := ⟨n - 1, by omega⟩
    rw [List.length_cons] at hlen hn
    obtain ⟨m1, m2, m3, m4⟩ := hmk
    obtain ⟨b1, b2, b3⟩ := hbd x (by simp)
    generalize hp : 4 + 2618 * e + 3 + 3 * ns.length = p at *
    have q1 := carN_le x.1 (decide (x.2.2 % 2 = 0)) A 0 x.1
    have q2 := carN_le x.2.1 (decide (1 < x.2.2)) A 0 x.2.1
    have cr : ∀ (f : Nat → Int32) (pl : Nat) (mo : Bool), pl < 10000 → f12_carried (sR M 30 f) a2 (nI A.length) (nI pl) (if mo then 1 else 0) = some (nI (carN pl mo A 0 pl)) := fun f pl mo h => carried_ok mo (by rw [sR_ne _ _ ha2]; exact hseg) hl2 (by omega) hA (by omega)
    have cr0 := cr (M.2.1 30) x.1 (decide (x.2.2 % 2 = 0)) b1
    rw [sR_self] at cr0
    generalize hX : carN x.1 (decide (x.2.2 % 2 = 0)) A 0 x.1 = X at *
    generalize hY : carN x.2.1 (decide (1 < x.2.2)) A 0 x.2.1 = Y at *
    have cr1 := fun f => cr f x.2.1 (decide (1 < x.2.2)) b2
    rw [hY] at cr1
    have hst : ∃ f1, (if nI X ≤ nI Y then some (sR M 30 (upd (upd (M.2.1 30) p (nI X)) (p + 1) (nI Y))) else (ld (sR M 30 (upd (upd (M.2.1 30) p (nI X)) (p + 1) (nI Y))) 30 (nI p)).bind fun v18 => (sd (sR M 30 (upd (upd (M.2.1 30) p (nI X)) (p + 1) (nI Y))) 30 (nI (p + 1)) v18).bind fun M19 => some M19) = some (sR M 30 f1) ∧ f1 p = nI X ∧ f1 (p + 1) = nI (max X Y) ∧ (∀ j, j ≠ p → j ≠ p + 1 → f1 j = M.2.1 30 j) := by
      by_cases hXY : X ≤ Y
      · rw [if_pos (nI_le hXY (by omega))]
        refine ⟨_, rfl, ?_, ?_, fun j j1 j2 => ?_⟩
        · unfold upd; rw [if_neg (by omega), if_pos rfl]
        · unfold upd; rw [if_pos rfl, Nat.max_eq_right hXY]
        · unfold upd; rw [if_neg j2, if_neg j1]
      · rw [if_neg (nI_ge (by omega) (by omega)), ld_n (show p < 10476 by omega), sR_get]
        have e9 : upd (upd (M.2.1 30) p (nI X)) (p + 1) (nI Y) p = nI X := by unfold upd; rw [if_neg (by omega), if_pos rfl]
        rw [e9, Option.bind_some, sd_n (show p + 1 < 10476 by omega), sR_get, sR_sR, Option.bind_some]
        refine ⟨_, rfl, ?_, ?_, fun j j1 j2 => ?_⟩
        · unfold upd; rw [if_neg (by omega), if_neg (by omega), if_pos rfl]
        · unfold upd; rw [if_pos rfl, Nat.max_eq_left (by omega)]
        · unfold upd; rw [if_neg j2, if_neg j2, if_neg j1]
    obtain ⟨f1, s1, s2, s3, s4⟩ := hst
    obtain ⟨f', g1, g2, g3⟩ := ih (ns ++ [x]) n (sR M 30 f1) (by rw [sR_ne _ _ ha2]; exact hseg) (by simp; omega) (by rw [sR_get, s4 _ (by omega) (by omega)]; exact hmany) (by
      rw [sR_get, List.length_append, List.length_singleton, show 4 + 2618 * e + 3 + 3 * (ns.length + 1) = p + 3 by omega]
      exact mkAt_eq ms (p + 3) m4 (fun j j1 j2 => s4 j (by omega) (by omega))) (fun y hy => hbd y (by simp [hy])) (by omega)
    rw [List.length_append, List.length_singleton, show 4 + 2618 * e + 3 + 3 * (ns.length + 1) = p + 3 by omega, sR_get] at g3
    rw [List.length_append, List.length_singleton, show 4 + 2618 * e + 3 + 3 * (ns.length + 1) = p + 3 by omega] at g2
    rw [List.length_append, List.length_singleton, sR_sR] at g1
    refine ⟨f', ?_, ⟨?_, ?_, ?_, g2⟩, ?_⟩
    · unfold L12_marksCarried_3
      rw [show (2 : Int32) = nI 2 from rfl, its_ok (by omega), hmany, Option.bind_some, if_neg (nI_ge (by omega) (by omega)), show (3 : Int32) = nI 3 from rfl, nI_mul, nI_add, of_ok, Option.bind_some, show 4 + 2618 * e + (3 + 3 * ns.length) = p by omega, nI_add, ld_n (show p + 2 < 10476 by omega), m3, Option.bind_some, ld_n (show p < 10476 by omega), m1, Option.bind_some]
      rw [show nI 2 = (2 : Int32) from rfl, gr_even b3, Option.bind_some, cr0, Option.bind_some, sd_n (show p < 10476 by omega), Option.bind_some, nI_1, ld_n (show p + 1 < 10476 by omega), sR_get]
      have e8 : upd (M.2.1 30) p (nI X) (p + 1) = nI x.2.1 := by unfold upd; rw [if_neg (by omega)]; exact m2
      rw [e8, Option.bind_some, gr_more b3, Option.bind_some, cr1, Option.bind_some, sd_n (show p + 1 < 10476 by omega), sR_get, sR_sR, Option.bind_some, ld_n (show p + 1 < 10476 by omega), sR_get]
      have e7 : upd (upd (M.2.1 30) p (nI X)) (p + 1) (nI Y) (p + 1) = nI Y := by unfold upd; rw [if_pos rfl]
      have e6 : upd (upd (M.2.1 30) p (nI X)) (p + 1) (nI Y) p = nI X := by unfold upd; rw [if_neg (by omega), if_pos rfl]
      rw [e7, Option.bind_some, ld_n (show p < 10476 by omega), sR_get, e6, Option.bind_some]
      rw [ld_n (show p < 10476 by omega), sR_get, e6] at s1
      rw [s1, Option.bind_some, nI_1]
      exact g1
    · rw [g3 p (by omega), s2]; unfold carM; rw [hX]
    · rw [g3 (p + 1) (by omega), s3]; unfold carM; rw [hX, hY]
    · rw [g3 (p + 2) (by omega), s4 _ (by omega) (by omega)]; unfold carM; exact m3
    · intro j hj
      rw [g3 j (by omega), s4 j (by omega) (by omega)]
