/-! ===== PART II, the reference: row, together ===== -/
theorem isOpOfRow_ok {M : MS} {A : St} (h : RS M A) (hg : GA A) (n : Int32) : f12_isOpOfRow M n = some (if 1 ≤ n.toInt ∧ n.toInt ≤ (wRow (aW A)).length then 1 else 0) := by
  have hl := row_le (GA_good hg)
  unfold f12_isOpOfRow
  by_cases hc : 0 < aCnt A
  · rw [if_neg (fun hh => (told_iff h).mp hh hc), ops_ld h, Option.bind_some, isIn_ok, i64, i64, nI_toInt (by omega), show (1 : Int64).toInt = 1 from by decide, Option.bind_some]
    by_cases hn : 1 ≤ n.toInt ∧ n.toInt ≤ ((wRow (aW A)).length : Int)
    · rw [if_pos hn, if_neg (show ¬ (1 : Int32) = 0 from by decide), Option.bind_some, bz1]; rfl
    · rw [if_neg hn, if_pos rfl, Option.bind_some, bz0]; rfl
  · have hz := (hg.2.2.2.2.2.2.1 (by omega)).1
    rw [if_pos ((told_iff h).mpr hc), Option.bind_some, bz0, hz, if_neg (by simp; omega)]; rfl
theorem opA_ok {M : MS} {A : St} (h : RS M A) (hg : GA A) {i : Nat} {o : Nat × List Int32} (ho : (wRow (aW A))[i]? = some o) :
    ∃ M', f12_opToA M (nI i) = some M' ∧ Row M' 20 25 o.2 ∧ okO o.2 ∧ o.2.length ≤ 240 ∧ Frm [20] [25] M M' := by
  have gd := GA_good hg
  obtain ⟨o1, o2, o3, o4, o5⟩ := chR_get gd.2.2.2.2.2.1 ho
  have hl := row_le gd
  have hi := (List.getElem?_eq_some_iff.mp ho).1
  have cl := cnt_len o1
  have l0 := lenA_le gd.2.2.2.2.2.1 i
  obtain ⟨g1, g2, g3, g4, g5, g6, g7, g8, g9⟩ := gd
  obtain ⟨M', a1, a2, a3⟩ := opToA_ok (RRow_op (RS_RW h).2.2.2.2.2.2.1 (sum_le (GA_good hg)) ho) o1 (by omega) (by omega)
  exact ⟨M', a1, a2, o1, by omega, a3⟩
theorem pred1 {n : Int32} (h : 1 ≤ n.toInt) : n - 1 = nI (n.toInt.toNat - 1) := by
  have hn := ofI (show 0 ≤ n.toInt by omega)
  conv => lhs; rw [hn]
  rw [show (1 : Int32) = nI 1 from rfl, nI_sub (by omega)]
def qRow (A : St) (n k what : Int32) : Int32 :=
  if (1 ≤ n.toInt ∧ n.toInt ≤ (wRow (aW A)).length) ∧ -1 ≤ k.toInt ∧ 0 ≤ what.toInt then
    (match (wRow (aW A))[n.toInt.toNat - 1]? with
    | none => -1
    | some o => if k = -1 then (if what = 0 then nI o.1 else if what = 1 then nI (stepsL o.2).length else -1) else askS o.2 k what)
  else -1
theorem row_ok {M : MS} {A : St} (h : RS M A) (hg : GA A) (n k what : Int32) : ∃ M', f12_row M n k what = some (qRow A n k what, M') ∧ RS M' A := by
  have hl := row_le (GA_good hg)
  unfold f12_row qRow
  rw [isOpOfRow_ok h hg, Option.bind_some]
  by_cases hn : 1 ≤ n.toInt ∧ n.toInt ≤ ((wRow (aW A)).length : Int)
  · rw [if_pos hn, if_neg (show ¬ (1 : Int32) = 0 from by decide)]
    by_cases hk : -1 ≤ k.toInt
    · rw [if_neg (fun hh => by have := lt_neg1.mp hh; omega)]
      by_cases hw : 0 ≤ what.toInt
      · rw [if_pos (ge0.mpr hw), if_pos ⟨hn, hk, hw⟩, pred1 hn.1]
        have hi : n.toInt.toNat - 1 < (wRow (aW A)).length := by omega
        generalize n.toInt.toNat - 1 = i at hi
        have ho := List.getElem?_eq_getElem hi
        generalize (wRow (aW A))[i] = o at ho
        obtain ⟨M2, a1, a2, a3, a4, a5⟩ := opA_ok h hg ho
        have h36 := ((RS_RW h).2.2.2.2.2.2.1 i o ho).1
        rw [ho, a1, Option.bind_some, stepOfA_ok a2 a3 (by omega) hw, bn2_s]
        have fr : Frm [20] [25, 51] M (sF M2 51 (nI (stepsL o.2).length)) := Frm_trans (Frm_mono a5 (by simp) (by simp)) (Frm_sF (by decide))
        have hrs := RS_frm h fr (by simp [scrA]) (by simp [scrF])
        refine ⟨sF M2 51 (nI (stepsL o.2).length), ?_, hrs⟩
        dsimp only
        by_cases k1 : k = -1
        · rw [if_pos k1, if_pos k1]
          by_cases w0 : what = 0
          · rw [if_pos w0, if_pos w0, ld_n (show i < 108 by omega), fr.1 36 (by decide), h36, Option.bind_some, Option.bind_some]
          · rw [if_neg w0, if_neg w0]
            by_cases w1 : what = 1
            · rw [if_pos w1, if_pos w1, Option.bind_some, show gF (sF M2 51 (nI (stepsL o.2).length)) 51 = nI (stepsL o.2).length from sF_get _ _ _]
            · rw [if_neg w1, if_neg w1, Option.bind_some]
        · rw [if_neg k1, if_neg k1]
      · rw [if_neg (fun hh => hw (ge0.mp hh)), if_neg (fun hh => hw hh.2.2)]; exact ⟨M, rfl, h⟩
    · rw [if_pos (lt_neg1.mpr (by omega)), if_neg (fun hh => hk hh.2.1)]; exact ⟨M, rfl, h⟩
  · rw [if_neg hn, if_pos rfl, if_neg (fun hh => hn hh.1)]; exact ⟨M, rfl, h⟩
def foldJ : List (Nat × List Int32) → List Int32 → List Int32
  | [], A => A
  | o :: l, A => foldJ l (joinC A o.2)
theorem join_loop {c3 c4 : Int32} {cnt N : Nat} (hc : cnt ≤ 4) (hN : N ≤ 104) : ∀ (l : List (Nat × List Int32)) (n i : Nat) (A : List Int32) (M : MS), i + l.length = N → (∀ k o, l[k]? = some o → OpAt M (i + k) o) → okO A → chR cnt (newL A) l → oldL A + putsL A + putsR l ≤ 240 → Row M 20 25 A → l.length < n →
    ∃ M', L12_together_43 (nI N) c3 c4 n (nI i) M = some M' ∧ Row M' 20 25 (foldJ l A) ∧ okO (foldJ l A) ∧ (foldJ l A).length ≤ 700 ∧ Frm [20, 21, 22, 24] [25, 26, 27] M M' := by
  intro l
  induction l with
  | nil =>
    intro n i A M hi hop hA hch hs hr hn
    obtain ⟨n, rfl⟩ : ∃ j, n = j + 1 := ⟨n - 1, by omega⟩
    rw [List.length_nil, Nat.add_zero] at hi
    have cl := cnt_len hA
    unfold L12_together_43
    rw [if_pos (nI_le (by omega) (by omega))]
    exact ⟨M, rfl, hr, hA, by show A.length ≤ 700; omega, Frm_refl _ _ _⟩
  | cons o l ih =>
    intro n i A M hi hop hA hch hs hr hn
    rw [List.length_cons] at hi hn
    obtain ⟨n, rfl⟩ : ∃ j, n = j + 1 := ⟨n - 1, by omega⟩
    obtain ⟨c1, c2, c3', c4'⟩ := hch
    rw [putsR] at hs
    have cA := cnt_len hA
    have cO := cnt_len c1
    have ho0 := hop 0 o rfl
    rw [Nat.add_zero] at ho0
    obtain ⟨M1, a1, a2, a3⟩ := opToB_ok ho0 c1 (by omega) (by omega)
    obtain ⟨M2, b1, b2, b3⟩ := joins_ok (Row_frm hr a3 (by decide) (by decide)) a2 hA c1 c3'.symm (by omega)
    obtain ⟨j1, j2, j3, j4, j5⟩ := join_ok hA c1 c3'.symm
    have jl : (joinC A o.2).length ≤ 700 := by unfold joinC; rw [settleL_len]; have := joinR_len A o.2; omega
    obtain ⟨M3, t1, t2, t3⟩ := takesCAsA_ok (show Row M2 22 27 (joinC A o.2) from b2) jl
    have fr : Frm [20, 21, 22, 24] [25, 26, 27] M M3 := Frm_trans (Frm_mono a3 (by simp) (by simp)) (Frm_trans (Frm_mono b3 (by simp) (by simp)) (Frm_mono t3 (by simp) (by simp)))
    obtain ⟨M', e1, e2, e3, e4, e5⟩ := ih n (i + 1) (joinC A o.2) M3 (by omega) (fun k o' hk => by
      have := hop (k + 1) o' (by simpa using hk)
      rw [show i + (k + 1) = i + 1 + k by omega] at this
      unfold OpAt at this ⊢
      rw [fr.1 36 (by decide), fr.1 37 (by decide), fr.1 38 (by decide), fr.1 39 (by decide), fr.1 40 (by decide)]
      exact this) j1 (by rw [j3]; exact c4') (by omega) t2 (by omega)
    refine ⟨M', ?_, e2, e3, e4, Frm_trans fr e5⟩
    unfold L12_together_43
    rw [if_neg (nI_ge (by omega) (by omega)), a1, Option.bind_some, b1, Option.bind_some, t1, Option.bind_some, nI_1]
    exact e1
def togL (A : St) (f t : Nat) : List Int32 := match (wRow (aW A))[f - 1]? with
  | none => []
  | some o => foldJ (((wRow (aW A)).take t).drop f) o.2
def qTog (A : St) (f t k what : Int32) : Int32 :=
  if (1 ≤ f.toInt ∧ f.toInt ≤ (wRow (aW A)).length) ∧ (1 ≤ t.toInt ∧ t.toInt ≤ (wRow (aW A)).length) ∧ f.toInt ≤ t.toInt ∧ -1 ≤ k.toInt ∧ 0 ≤ what.toInt then
    (if k = -1 then (if what = 1 then nI (stepsL (togL A f.toInt.toNat t.toInt.toNat)).length else -1) else askS (togL A f.toInt.toNat t.toInt.toNat) k what)
  else -1
theorem tog_ok {M : MS} {A : St} (h : RS M A) (hg : GA A) (f t k what : Int32) : ∃ M', f12_together M f t k what = some (qTog A f t k what, M') ∧ RS M' A := by
  have gd := GA_good hg
  have hl := row_le gd
  unfold f12_together qTog
  rw [isOpOfRow_ok h hg, isOpOfRow_ok h hg, Option.bind_some]
  by_cases hf : 1 ≤ f.toInt ∧ f.toInt ≤ ((wRow (aW A)).length : Int)
  · rw [if_pos hf, if_neg (show ¬ (1 : Int32) = 0 from by decide), Option.bind_some]
    by_cases ht : 1 ≤ t.toInt ∧ t.toInt ≤ ((wRow (aW A)).length : Int)
    · rw [if_pos ht, if_neg (show ¬ (1 : Int32) = 0 from by decide)]
      by_cases hft : f.toInt ≤ t.toInt
      · rw [if_neg (show ¬ t < f from fun hh => by have := Int32.lt_iff_toInt_lt.mp hh; omega)]
        by_cases hk : -1 ≤ k.toInt
        · rw [if_neg (fun hh => by have := lt_neg1.mp hh; omega)]
          by_cases hw : 0 ≤ what.toInt
          · rw [if_pos (ge0.mpr hw), if_pos (show (1 ≤ f.toInt ∧ f.toInt ≤ ((wRow (aW A)).length : Int)) ∧ (1 ≤ t.toInt ∧ t.toInt ≤ ((wRow (aW A)).length : Int)) ∧ f.toInt ≤ t.toInt ∧ -1 ≤ k.toInt ∧ 0 ≤ what.toInt from ⟨hf, ht, hft, hk, hw⟩), pred1 hf.1]
            have hfn := ofI (show 0 ≤ f.toInt by omega)
            have htn := ofI (show 0 ≤ t.toInt by omega)
            have b1 : 1 ≤ f.toInt.toNat := by omega
            have b2 : f.toInt.toNat ≤ t.toInt.toNat := by omega
            have b3 : t.toInt.toNat ≤ (wRow (aW A)).length := by omega
            generalize f.toInt.toNat = a at *
            generalize t.toInt.toNat = b at *
            have hi : a - 1 < (wRow (aW A)).length := by omega
            have ho := List.getElem?_eq_getElem hi
            generalize (wRow (aW A))[a - 1] = o at ho
            obtain ⟨M2, a1, a2, a3, a4, a5⟩ := opA_ok h hg ho
            have hT : togL A a b = foldJ (((wRow (aW A)).take b).drop a) o.2 := by unfold togL; rw [ho]
            have hch := gd.2.2.2.2.2.1
            obtain ⟨o1, o2, o3, o4, o5⟩ := chR_get hch ho
            rw [show a - 1 + 1 = a by omega] at o4
            have l0 := lenA_le hch (a - 1)
            have hch2 : chR (aCnt A) (newL o.2) (((wRow (aW A)).take b).drop a) := by
              have hs : (wRow (aW A)).take b ++ (wRow (aW A)).drop b = wRow (aW A) := List.take_append_drop b _
              have h1 := hch
              rw [← hs, chR_app] at h1
              have h2 := chR_drop h1.1 a
              rw [List.take_take, Nat.min_eq_left b2, ← o4] at h2
              exact h2
            have hpr : putsR ((wRow (aW A)).take (a - 1)) + putsL o.2 + putsR (((wRow (aW A)).take b).drop a) ≤ putsR (wRow (aW A)) := by
              have h1 := putsR_drop (wRow (aW A)) b
              have h2 := putsR_drop ((wRow (aW A)).take b) a
              rw [List.take_take, Nat.min_eq_left b2] at h2
              have h3 := (drop_get ho).2
              rw [show a - 1 + 1 = a by omega] at h3
              have h4 : putsR ((wRow (aW A)).take a) = putsR ((wRow (aW A)).take (a - 1)) + putsL o.2 := by rw [h3, putsR_app]; simp [putsR]
              omega
            obtain ⟨g1, g2, g3, g4, g5, g6, g7, g8, g9⟩ := id gd
            obtain ⟨M4, j1, j2, j3, j4, j5⟩ := join_loop (c3 := k) (c4 := what) (cnt := aCnt A) (N := b) g1 (by omega) (((wRow (aW A)).take b).drop a) FU a o.2 M2 (by rw [List.length_drop, List.length_take]; omega) (fun q o' hq => by
              rw [List.getElem?_drop] at hq
              have hqb : a + q < b := by
                have := (List.getElem?_eq_some_iff.mp hq).1
                rw [List.length_take] at this
                omega
              rw [List.getElem?_take_of_lt hqb] at hq
              have := RRow_op (RS_RW h).2.2.2.2.2.2.1 (sum_le gd) hq
              unfold OpAt at this ⊢
              rw [a5.1 36 (by decide), a5.1 37 (by decide), a5.1 38 (by decide), a5.1 39 (by decide), a5.1 40 (by decide)]
              exact this) a3 hch2 (by omega) a2 (by rw [List.length_drop, List.length_take, FU_eq]; omega)
            rw [a1, Option.bind_some, hfn, htn, j1, Option.bind_some, stepOfA_ok j2 j3 j4 hw, bn2_s]
            have fr : Frm [20, 21, 22, 24] [25, 26, 27, 51] M (sF M4 51 (nI (stepsL (foldJ (((wRow (aW A)).take b).drop a) o.2)).length)) := Frm_trans (Frm_mono a5 (by simp) (by simp)) (Frm_trans (Frm_mono j5 (by simp) (by simp)) (Frm_sF (by decide)))
            refine ⟨_, ?_, RS_frm h fr (by simp [scrA]) (by simp [scrF])⟩
            rw [hT]
            by_cases k1 : k = -1
            · rw [if_pos k1, if_pos k1]
              by_cases w1 : what = 1
              · rw [if_pos w1, if_pos w1, Option.bind_some, show gF (sF M4 51 (nI (stepsL (foldJ (((wRow (aW A)).take b).drop a) o.2)).length)) 51 = _ from sF_get _ _ _]
              · rw [if_neg w1, if_neg w1, Option.bind_some]
            · rw [if_neg k1, if_neg k1, Option.bind_some]
          · rw [if_neg (fun hh => hw (ge0.mp hh)), if_neg (fun hh => hw hh.2.2.2.2)]; exact ⟨M, rfl, h⟩
        · rw [if_pos (lt_neg1.mpr (by omega)), if_neg (fun hh => hk hh.2.2.2.1)]; exact ⟨M, rfl, h⟩
      · rw [if_pos (show t < f from Int32.lt_iff_toInt_lt.mpr (by omega)), if_neg (fun hh => hft hh.2.2.1)]; exact ⟨M, rfl, h⟩
    · rw [if_neg ht, if_pos rfl, if_neg (fun hh => ht hh.2.1)]; exact ⟨M, rfl, h⟩
  · rw [if_neg hf, if_pos rfl, if_neg (fun hh => hf hh.1)]; exact ⟨M, rfl, h⟩
