/-! ===== PART II, the reference: put, cut, type ===== -/
theorem GA_keep {A : St} {W : Wd} (hg : GA A) (hc : 0 < aCnt A) (hG : Good (aCnt A) (aTies A) (aTold A).length W) (ht : wTk W ≤ 999) (hp : wRow (aW A) <+: wRow W) : GA (sWd (keepA A) W) := by
  obtain ⟨h1, h2, h3, h4, h5, h6, h7, h8, h9, h10, h11, h12, h13⟩ := hg
  refine ⟨h1, h2, hG, h4, ht, h6, fun h => by have hh : aCnt A = 0 := h; omega, ?_, ?_, ?_, h11, h12, h13⟩
  · show ((aW A :: aHist A).take 20).length ≤ 20
    rw [List.length_take]; omega
  · intro W' hW'
    have hm : W' ∈ aW A :: aHist A := List.mem_of_mem_take hW'
    rcases List.mem_cons.mp hm with rfl | hm
    · exact ⟨h3, h5, hp⟩
    · obtain ⟨a1, a2, a3⟩ := h9 W' hm
      exact ⟨a1, a2, List.IsPrefix.trans a3 hp⟩
  · intro j X Y hX hY
    have hX0 : ((aW A :: aHist A).take 20)[j]? = some X := hX
    have hY0 : ((aW A :: aHist A).take 20)[j + 1]? = some Y := hY
    have hj : j + 1 < 20 := by
      have := (List.getElem?_eq_some_iff.mp hY0).1
      rw [List.length_take] at this
      omega
    rw [List.getElem?_take_of_lt (by omega)] at hX0 hY0
    have hY1 : (aHist A)[j]? = some Y := by simpa using hY0
    cases j with
    | zero =>
      have : aW A = X := by simpa using hX0
      subst this
      exact (h9 Y (List.mem_of_getElem? hY1)).2.2
    | succ j =>
      have hX1 : (aHist A)[j]? = some X := by simpa using hX0
      exact h10 j X Y hX1 hY1
theorem GA_keep0 {A : St} (hg : GA A) (hc : 0 < aCnt A) : GA (keepA A) := GA_keep hg hc (GA_good hg) hg.2.2.2.2.1 (List.prefix_refl _)
theorem sDonUnd (E : Ed) : E = sDon (sUnd E (eUnd E)) (eDon E) := rfl
theorem canE_iff {A : St} {op : List Int32} (h : canE A op = true) : wEd (aW A) < 100 ∧ wPu (aW A) + putsL op ≤ 200 := by
  unfold canE at h
  simp only [Bool.and_eq_true, decide_eq_true_eq] at h
  exact ⟨h.1.2, h.2⟩
theorem Good_ed0 {A : St} {i : Nat} {op : List Int32} (hg : GA A) (hi : i < aCnt A) (hA : okO op) (ho : oldL op = (eTxt (wE (aW A) i)).length) (hc : canE A op = true) : Good (aCnt A) (aTies A) (aTold A).length (edW A i (wE (aW A) i) op 0) := by
  have gd := GA_good hg
  obtain ⟨c1, c2⟩ := canE_iff hc
  obtain ⟨e1, e2, e3, e4, e5, e6, e7, e8, e9, e10, e11, e12, e13, e14, e15, e16, e17, e18, e19⟩ := gd.2.2.2.2.2.2.2.2 i hi
  exact Good_edit (kind := 0) gd hi hA ho c1 c2 (sDonUnd _) (eUnd (wE (aW A) i)) [] (Or.inr (Or.inl ⟨rfl, rfl, rfl⟩)) e9 (by simp) e11 trivial e13 trivial (by simp [putsS]) (by simp [ccS])
def aEd (A : St) (i : Nat) (op : List Int32) : Int32 × St := if canE A op = true then (nI (newL op), sWd (keepA A) (edW A i (wE (aW A) i) op 0)) else (-1, sRf A 2)
theorem editDone_ok {M : MS} {A : St} {i : Nat} {op : List Int32} (h : RS M A) (hg : GA A) (hi : i < aCnt A) (hr : Row M 20 25 op) (hA : okO op) (hl : op.length ≤ 700) (ho : oldL op = (eTxt (wE (aW A) i)).length) :
    ∃ M', f12_editDone M (nI i) (0 : Int32) = some ((aEd A i op).1, M') ∧ RS M' (aEd A i op).2 ∧ (canE A op = true → f12_its M' (nI i) (1 : Int32) = some (nI (eCur (editE (wE (aW A) i) op 0)))) := by
  have gd := GA_good hg
  obtain ⟨g1, g2, g3, g4, g5, g6, g7, g8, g9⟩ := id gd
  obtain ⟨w1, w2, w3, w4, w5, w6, w7, w8⟩ := RS_RW h
  have hce := canEdit_ok hr hl w5 w6 (by omega) (by omega)
  unfold f12_editDone aEd
  rw [hce, Option.bind_some]
  by_cases hc : canE A op = true
  · have hc' : (!(idleB op) && decide (wEd (aW A) < 100) && decide (wPu (aW A) + putsL op ≤ 200)) = true := hc
    rw [if_pos hc', if_neg (show ¬ (1 : Int32) = 0 from by decide), if_pos hc]
    obtain ⟨M2, k1, k2, k3⟩ := keeps_ok h hg
    have hGA := GA_keep0 hg (by omega)
    have r2 : Row M2 20 25 op := Row_frm hr k3 (by decide) (by decide)
    obtain ⟨e1, e2, e3, e4, e5, e6, e7, e8, e9, e10, -⟩ := g9 i hi
    have hG0 := Good_ed0 hg hi hA ho hc
    obtain ⟨M3, a1, a2, a3, a4⟩ := edits_all (A := keepA A) (kind := 0) (E0 := wE (aW A) i) (f0 := M2.2.1 30) k2 hGA hi (by omega) r2 hA ho hl (sDonUnd _) e9 e10 (Good_Bd gd hi) hG0 (fun _ _ _ => rfl) ((RS_RW k2).2.2.2.2.2.2.2 i hi)
    rw [sR_self] at a1
    refine ⟨M3, ?_, a2, fun _ => a4⟩
    rw [k1, Option.bind_some, show f12_edits M2 (nI i) (0 : Int32) = some M3 from a1, Option.bind_some, a3, Option.bind_some]
  · have hc' : ¬ (!(idleB op) && decide (wEd (aW A) < 100) && decide (wPu (aW A) + putsL op ≤ 200)) = true := hc
    rw [if_neg hc', if_pos rfl, if_neg hc]
    obtain ⟨M', r1, r2⟩ := refuses_ok h 2 (by omega)
    exact ⟨M', by rw [show f12_refuses M (2 : Int32) = _ from r1, bn2_s], r2, fun hh => absurd hh hc⟩
theorem lay_cnt {len kept cut : Nat} {letter : Int32} (h : kept + cut ≤ len) (hl : letter ≤ 0 ∨ okP letter) : okO (layO len kept letter cut) ∧ oldL (layO len kept letter cut) = len ∧ (layO len kept letter cut).length ≤ len + 1 := by
  have r0 : ∀ n, okO (List.replicate n (0 : Int32)) ∧ oldL (List.replicate n (0 : Int32)) = n := fun n => ⟨fun v hv => by rw [List.eq_of_mem_replicate hv]; exact ok_0, oldL_rep n⟩
  have rc : ∀ n, okO (List.replicate n (-1 : Int32)) ∧ oldL (List.replicate n (-1 : Int32)) = n := fun n => by
    refine ⟨fun v hv => by rw [List.eq_of_mem_replicate hv]; exact ok_C, ?_⟩
    induction n with
    | zero => rfl
    | succ n ih => rw [List.replicate_succ]; have := (cntC (List.replicate n (-1))).1; omega
  have hm : okO (if letter ≤ 0 then [] else [letter]) ∧ oldL (if letter ≤ 0 then [] else [letter]) = 0 ∧ (if letter ≤ 0 then [] else [letter] : List Int32).length ≤ 1 := by
    by_cases hz : letter ≤ 0
    · rw [if_pos hz]; exact ⟨fun v hv => absurd hv List.not_mem_nil, rfl, by simp⟩
    · rw [if_neg hz]
      have hp : okP letter := hl.resolve_left hz
      obtain ⟨p1, p2, p3, p4, p5⟩ := okP3 hp
      exact ⟨fun v hv => by rw [List.mem_singleton.mp hv]; exact okP_V hp, (cntP p1 p2 p3 p5 []).1, by simp⟩
  have app : ∀ {a b : List Int32}, okO a → okO b → okO (a ++ b) := fun h1 h2 v hv => by
    rcases List.mem_append.mp hv with hv | hv
    · exact h1 v hv
    · exact h2 v hv
  unfold layO
  refine ⟨app (r0 kept).1 (app hm.1 (app (rc cut).1 (r0 _).1)), ?_, ?_⟩
  · rw [oldL_app, oldL_app, oldL_app, (r0 kept).2, hm.2.1, (rc cut).2, (r0 _).2]; omega
  · rw [List.length_append, List.length_append, List.length_append, List.length_replicate, List.length_replicate, List.length_replicate]
    have := hm.2.2
    omega
def aPut (A : St) (e at' l : Int32) : Int32 × St := if (0 ≤ e.toInt ∧ e.toInt < aCnt A) ∧ (1 ≤ l.toInt ∧ l.toInt ≤ 26) ∧ 0 ≤ at'.toInt ∧ at'.toInt ≤ (eTxt (wE (aW A) e.toInt.toNat)).length then aEd A e.toInt.toNat (layO (eTxt (wE (aW A) e.toInt.toNat)).length at'.toInt.toNat l 0) else (-1, sRf A 2)
theorem let_okP {l : Int32} (h : 1 ≤ l.toInt ∧ l.toInt ≤ 26) : okP l ∧ ¬ l ≤ 0 := by
  have hn := ofI (show 0 ≤ l.toInt by omega)
  refine ⟨⟨l.toInt.toNat, by omega, by omega, hn⟩, fun hh => ?_⟩
  rw [Int32.le_iff_toInt_le, show (0 : Int32).toInt = 0 from by decide] at hh
  omega
theorem put_ok {M : MS} {A : St} (h : RS M A) (hg : GA A) (e at' l : Int32) : ∃ M', f12_put M e at' l = some ((aPut A e at' l).1, M') ∧ RS M' (aPut A e at' l).2 := by
  have gd := GA_good hg
  have hc4 := gd.1
  have hrefuse : ∀ (P : Prop) [Decidable P] (x : Int32 × St), ¬ P → ∃ M', (bn2 (f12_refuses M (2 : Int32)) fun v1 M2 => some (v1, M2)) = some ((if P then x else ((-1 : Int32), sRf A 2)).1, M') ∧ RS M' (if P then x else ((-1 : Int32), sRf A 2)).2 := by
    intro P _ x hP
    obtain ⟨M', g1, g2⟩ := refuses_ok h 2 (by omega)
    rw [if_neg hP]
    exact ⟨M', by rw [show f12_refuses M (2 : Int32) = _ from g1, bn2_s], g2⟩
  unfold f12_put aPut
  rw [isEditor_ok h hg, Option.bind_some]
  by_cases he : 0 ≤ e.toInt ∧ e.toInt < aCnt A
  · rw [if_pos he, if_neg (show ¬ (1 : Int32) = 0 from by decide), isIn_ok, i64, show (1 : Int64).toInt = 1 from by decide, show (26 : Int64).toInt = 26 from by decide, Option.bind_some]
    have hen := ofI he.1
    have hi : e.toInt.toNat < aCnt A := by omega
    have hb := (Good_Bd gd hi).1
    by_cases hl : 1 ≤ l.toInt ∧ l.toInt ≤ 26
    · have ht := ((RS_RW h).2.2.2.2.2.2.2 _ hi).2.1
      have hits : f12_its M e (21 : Int32) = some (nI (eTxt (wE (aW A) e.toInt.toNat)).length) := by
        conv => lhs; rw [hen]
        rw [show (21 : Int32) = nI 21 from rfl, its_ok (by omega), ht.1]
      rw [if_pos hl, if_neg (show ¬ (1 : Int32) = 0 from by decide), hits, Option.bind_some, isIn_ok, i64, i64, nI_toInt (by omega), show (0 : Int64).toInt = 0 from by decide, Option.bind_some]
      by_cases ha : 0 ≤ at'.toInt ∧ at'.toInt ≤ ((eTxt (wE (aW A) e.toInt.toNat)).length : Int)
      · rw [if_pos ha, if_neg (show ¬ (1 : Int32) = 0 from by decide), if_pos (show (0 ≤ e.toInt ∧ e.toInt < aCnt A) ∧ (1 ≤ l.toInt ∧ l.toInt ≤ 26) ∧ 0 ≤ at'.toInt ∧ at'.toInt ≤ ((eTxt (wE (aW A) e.toInt.toNat)).length : Int) from ⟨he, hl, ha⟩)]
        have han := ofI ha.1
        obtain ⟨M9, l1, l2, l3⟩ := laysA_ok (letter := l) (kept := at'.toInt.toNat) (cut := 0) h hg hi (by omega)
        rw [← hen, ← han] at l1
        obtain ⟨z1, z2, z3⟩ := lay_cnt (len := (eTxt (wE (aW A) e.toInt.toNat)).length) (kept := at'.toInt.toNat) (cut := 0) (letter := l) (by omega) (Or.inr (let_okP hl).1)
        obtain ⟨M', d1, d2, d3⟩ := editDone_ok (RS_frm h l3 (by simp [scrA]) (by simp [scrF])) hg hi l2 z1 (by omega) z2
        rw [← hen] at d1
        exact ⟨M', by rw [show f12_laysA M e at' l (0 : Int32) = some M9 from l1, Option.bind_some, d1, bn2_s], d2⟩
      · rw [if_neg ha, if_pos rfl]; exact hrefuse _ _ (fun hh => ha hh.2.2)
    · rw [if_neg hl, if_pos rfl]; exact hrefuse _ _ (fun hh => hl hh.2.1)
  · rw [if_neg he, if_pos rfl]; exact hrefuse _ _ (fun hh => he hh.1)
