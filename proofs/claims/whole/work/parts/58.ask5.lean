/-! ===== PART II, the reference: without, by ===== -/
theorem wout_loop {e ties N : Nat} {c1 c2 : Int32} {j : Nat} (hc1 : c1 - 1 = nI j) (hj : j < 108) (he : e < 1000) (ht2 : ties < 1000) (hN : N ≤ 104) :
    ∀ (l : List (Nat × List Int32)) (n i : Nat) (A : List Int32) (M : MS), i + l.length = N → M.2.1 30 1 = nI N → M.1 33 = nI ties → M.2.1 36 j = nI e → (∀ k o, l[k]? = some o → OpAt M (i + k) o) → fOk ties e l A → Row M 20 25 A → l.length < n →
    ∃ M', L12_without_45 c1 c2 n (nI i) M = some M' ∧ Row M' 20 25 (foldT ties e l A) ∧ Frm [20, 21, 22, 23, 24] [25, 26, 27, 28] M M' := by
  intro l
  induction l with
  | nil =>
    intro n i A M hi h1 ht h36 hop hf hr hn
    obtain ⟨n, rfl⟩ : ∃ j, n = j + 1 := ⟨n - 1, by omega⟩
    rw [List.length_nil, Nat.add_zero] at hi
    unfold L12_without_45
    rw [show ld M 30 (1 : Int32) = some (nI N) from by rw [show (1 : Int32) = nI 1 from rfl, ld_n (show 1 < 10476 by omega), h1], Option.bind_some, if_pos (nI_le (by omega) (by omega))]
    exact ⟨M, rfl, hr, Frm_refl _ _ _⟩
  | cons o l ih =>
    intro n i A M hi h1 ht h36 hop hf hr hn
    rw [List.length_cons] at hi hn
    obtain ⟨n, rfl⟩ : ∃ j, n = j + 1 := ⟨n - 1, by omega⟩
    obtain ⟨f1, f2, f3, f4, f5, f6⟩ := hf
    have ho0 := hop 0 o rfl
    rw [Nat.add_zero] at ho0
    obtain ⟨M2, a1, a2, a3⟩ := opToB_ok ho0 f2 (by omega) (by omega)
    obtain ⟨M5, c1', c2', c3, c4⟩ := turns_ok (ah := aheadB ties e o.1) (Row_frm hr a3 (by decide) (by decide)) a2 f4 f5
    have e1 : (turnC (aheadB ties e o.1) A o.2).length ≤ 700 := by unfold turnC; rw [settleL_len]; have := turnR_len (aheadB ties e o.1) A o.2; omega
    obtain ⟨M6, t1, t2, t3⟩ := takesCAsA_ok (show Row M5 22 27 (turnC (aheadB ties e o.1) A o.2) from c2') e1
    have fr : Frm [20, 21, 22, 23, 24] [25, 26, 27, 28] M M6 := Frm_trans (Frm_mono a3 (by simp) (by simp)) (Frm_trans (Frm_mono c4 (by simp) (by simp)) (Frm_mono t3 (by simp) (by simp)))
    have b1 := isAhead_ok (M := M2) (ties := ties) (one := e) (other := o.1) (by rw [a3.2.1 _ (by decide)]; exact ht) ht2 he f3
    obtain ⟨M', g1, g2, g3⟩ := ih n (i + 1) (turnC (aheadB ties e o.1) A o.2) M6 (by omega) (by rw [fr.1 30 (by decide)]; exact h1) (by rw [fr.2.1 33 (by decide)]; exact ht) (by rw [fr.1 36 (by decide)]; exact h36) (fun k o' hk => by
      have := hop (k + 1) o' (by simpa using hk)
      rw [show i + (k + 1) = i + 1 + k by omega] at this
      unfold OpAt at this ⊢
      rw [fr.1 36 (by decide), fr.1 37 (by decide), fr.1 38 (by decide), fr.1 39 (by decide), fr.1 40 (by decide)]
      exact this) f6 t2 (by omega)
    refine ⟨M', ?_, g2, Frm_trans fr g3⟩
    unfold L12_without_45
    rw [show ld M 30 (1 : Int32) = some (nI N) from by rw [show (1 : Int32) = nI 1 from rfl, ld_n (show 1 < 10476 by omega), h1], Option.bind_some, if_neg (nI_ge (by omega) (by omega)), a1, Option.bind_some, hc1, ld_n (show j < mLn 36 from hj), a3.1 36 (by decide), h36, Option.bind_some, ld_n (show i < mLn 36 from show i < 108 by omega), a3.1 36 (by decide), ho0.1, Option.bind_some, b1, Option.bind_some, c1', Option.bind_some, t1, Option.bind_some, nI_1]
    exact g1
/-- what takes the n-th operation back at the end of the row -/
def woI (A : St) (n : Nat) : List Int32 := match (wRow (aW A))[n - 1]? with
  | none => []
  | some o => foldT (aTies A) o.1 ((wRow (aW A)).drop n) (invC o.2 (srvT (aTold A) ((wRow (aW A)).take (n - 1))))
def qWout (A : St) (n k : Int32) : Int32 := if (1 ≤ n.toInt ∧ n.toInt ≤ (wRow (aW A)).length) ∧ -1 ≤ k.toInt then askT (chgL (woI A n.toInt.toNat) (srvT (aTold A) (wRow (aW A)))) k else -1
theorem srv_okP {cnt : Nat} : ∀ (l : List (Nat × List Int32)) (t : List Int32), (∀ v ∈ t, okP v) → chR cnt t.length l → ∀ v ∈ srvT t l, okP v := by
  intro l
  induction l with
  | nil => intro t ht _; exact ht
  | cons o l ih =>
    intro t ht h
    obtain ⟨h1, h2, h3, h4⟩ := h
    have := chgL_len h1 t
    exact ih _ (chg_okP o.2 t h1 ht (by omega)) (by rw [this]; exact h4)
/-- what is wanted of the inverse of the n-th one -/
theorem wo_all {A : St} (hg : GA A) {n : Nat} (h1 : 1 ≤ n) {o : Nat × List Int32} (ho : (wRow (aW A))[n - 1]? = some o) :
    okO o.2 ∧ o.1 < aCnt A ∧ (srvT (aTold A) ((wRow (aW A)).take (n - 1))).length = oldL o.2 ∧ (∀ v ∈ srvT (aTold A) ((wRow (aW A)).take (n - 1)), okP v) ∧ okO (invC o.2 (srvT (aTold A) ((wRow (aW A)).take (n - 1)))) ∧ (invC o.2 (srvT (aTold A) ((wRow (aW A)).take (n - 1)))).length ≤ 480 ∧ fOk (aTies A) o.1 ((wRow (aW A)).drop n) (invC o.2 (srvT (aTold A) ((wRow (aW A)).take (n - 1)))) ∧ okO (woI A n) ∧ oldL (woI A n) = (srvT (aTold A) (wRow (aW A))).length ∧ newL (woI A n) ≤ 240 ∧ (woI A n).length ≤ 480 := by
  have gd := GA_good hg
  obtain ⟨g1, g2, g3, g4, g5, g6, g7, g8, g9⟩ := id gd
  obtain ⟨o1, o2, o3, o4, o5⟩ := chR_get g6 ho
  rw [show n - 1 + 1 = n by omega] at o4
  have hs : (wRow (aW A)).take (n - 1) ++ (wRow (aW A)).drop (n - 1) = wRow (aW A) := List.take_append_drop _ _
  have hch1 : chR (aCnt A) (aTold A).length ((wRow (aW A)).take (n - 1)) := by
    have := g6
    rw [← hs, chR_app] at this
    exact this.1
  have hT := srvT_len _ _ hch1
  have hP := srv_okP _ _ hg.2.2.2.1 hch1
  obtain ⟨i1, i2, i3, i4, i5⟩ := inv_ok o1 hP (by omega)
  have cI := cnt_len i1
  have cO := cnt_len o1
  have l0 := lenA_le g6 (n - 1)
  have hd := putsR_drop (wRow (aW A)) n
  have h3 := (drop_get ho).2
  rw [show n - 1 + 1 = n by omega] at h3
  have h4 : putsR ((wRow (aW A)).take n) = putsR ((wRow (aW A)).take (n - 1)) + putsL o.2 := by rw [h3, putsR_app]; simp [putsR]
  have hcd := chR_drop g6 n
  obtain ⟨x1, x2, x3, x4, x5⟩ := fold_ok (ties := aTies A) (e := o.1) g1 _ _ _ i1 (by rw [i2]; exact o4) hcd (by omega)
  have hW : woI A n = foldT (aTies A) o.1 ((wRow (aW A)).drop n) (invC o.2 (srvT (aTold A) ((wRow (aW A)).take (n - 1)))) := by unfold woI; rw [ho]
  have hfull := srvT_len _ _ g6
  rw [← lenA_app, List.take_append_drop] at x3
  have cW := cnt_len x2
  have hc := lenA_cnt _ _ g6
  have hcr : cutsN o.2 ≤ cutsR (wRow (aW A)) := by
    have h9 := drop_get ho
    rw [← hs, h9.1]
    have : ∀ (s t : List (Nat × List Int32)), cutsR (s ++ t) = cutsR s + cutsR t := by
      intro s t
      induction s with
      | nil => simp [cutsR]
      | cons y s ih => rw [List.cons_append, cutsR, cutsR, ih]; omega
    rw [this, cutsR]; omega
  refine ⟨o1, o2, by omega, hP, i1, by omega, x1, by rw [hW]; exact x2, by rw [hW, x3]; exact hfull.symm, by rw [hW]; omega, by rw [hW]; omega⟩
theorem wout_ok {M : MS} {A : St} (h : RS M A) (hg : GA A) (n k : Int32) : ∃ M', f12_without M n k = some (qWout A n k, M') ∧ RS M' A := by
  have gd := GA_good hg
  have hl := row_le gd
  have hc4 := gd.1
  have ht2 := gd.2.1
  unfold f12_without qWout
  rw [isOpOfRow_ok h hg, Option.bind_some]
  by_cases hn : 1 ≤ n.toInt ∧ n.toInt ≤ ((wRow (aW A)).length : Int)
  · rw [if_pos hn, if_neg (show ¬ (1 : Int32) = 0 from by decide)]
    by_cases hk : -1 ≤ k.toInt
    · rw [if_pos (le_neg1.mpr hk), if_pos (show (1 ≤ n.toInt ∧ n.toInt ≤ ((wRow (aW A)).length : Int)) ∧ -1 ≤ k.toInt from ⟨hn, hk⟩), pred1 hn.1]
      have hnn := ofI (show 0 ≤ n.toInt by omega)
      have hp1 := pred1 hn.1
      have b1 : 1 ≤ n.toInt.toNat := by omega
      have b2 : n.toInt.toNat ≤ (wRow (aW A)).length := by omega
      generalize n.toInt.toNat = a at *
      have hi : a - 1 < (wRow (aW A)).length := by omega
      have ho := List.getElem?_eq_getElem hi
      generalize (wRow (aW A))[a - 1] = o at ho
      obtain ⟨z1, z2, z3, z4, z5, z6, z7, z8, z9, z10, z11⟩ := wo_all hg b1 ho
      obtain ⟨M3, s1, s2, s3, s4, s5, s6, s7⟩ := srv_ok h hg (n := a - 1) (by omega)
      obtain ⟨M4, a1, a2, a3, a4, a5⟩ := opA_ok s7 hg ho
      obtain ⟨M5, i1, i2, i3⟩ := inverts_ok (a1 := 47) (p := 0) (t := srvT (aTold A) ((wRow (aW A)).take (a - 1))) (by decide) a2 (by rw [a5.1 47 (by decide)]; exact s3) (show 0 + _ ≤ 300 by omega) z1 (by omega) (by omega)
      obtain ⟨M6, t1, t2, t3⟩ := takesCAsA_ok (show Row M5 22 27 (invC o.2 (srvT (aTold A) ((wRow (aW A)).take (a - 1)))) from i2) (by omega)
      have fr6 : Frm [20, 21, 22, 24, 29, 47, 48, 50] [25, 26, 27, 49] M M6 := Frm_trans (Frm_mono s5 (by simp) (by simp)) (Frm_trans (Frm_mono a5 (by simp) (by simp)) (Frm_trans (Frm_mono i3 (by simp) (by simp)) (Frm_mono t3 (by simp) (by simp))))
      have rs6 := RS_frm h fr6 (by simp [scrA]) (by simp [scrF])
      obtain ⟨M7, w1, w2, w3⟩ := wout_loop (e := o.1) (ties := aTies A) (N := (wRow (aW A)).length) (c1 := n) (c2 := k) (j := a - 1) hp1 (by omega) (by omega) (by omega) (by omega) ((wRow (aW A)).drop a) FU a _ M6 (by rw [List.length_drop]; omega) (RS_RW rs6).2.2.2.1 (RS_RW rs6).2.1 ((RS_RW rs6).2.2.2.2.2.2.1 _ o ho).1 (fun q o' hq => by
        rw [List.getElem?_drop] at hq
        exact RRow_op (RS_RW rs6).2.2.2.2.2.2.1 (sum_le gd) hq) z7 t2 (by rw [List.length_drop, FU_eq]; omega)
      have hW : woI A a = foldT (aTies A) o.1 ((wRow (aW A)).drop a) (invC o.2 (srvT (aTold A) ((wRow (aW A)).take (a - 1)))) := by unfold woI; rw [ho]
      rw [← hW] at w2
      have rs7 := RS_frm rs6 w3 (by simp [scrA]) (by simp [scrF])
      obtain ⟨M11, q1, q2, q3, q4, q5, q6, q7⟩ := srv_ok rs7 hg (n := (wRow (aW A)).length) (Nat.le_refl _)
      rw [List.take_length] at q1 q2 q3 q6
      have r11 : Row M11 20 25 (woI A a) := Row_frm w2 q5 (by decide) (by decide)
      obtain ⟨g, c1⟩ := changes_ok (M := M11) (a1 := 47) (a3 := 20) (p := 0) (t := srvT (aTold A) (wRow (aW A))) (by decide) (by decide) r11.2 (show (woI A a).length ≤ 700 by omega) q3 (show 0 + _ ≤ 300 by omega) z8 (by omega) (by omega) (show 0 + _ ≤ 300 by omega)
      have cl := chgL_len z8 (srvT (aTold A) (wRow (aW A)))
      refine ⟨sR (sR M11 29 g) 47 (wr (M11.2.1 47) 0 (chgL (woI A a) (srvT (aTold A) (wRow (aW A))))), ?_, RS_frm q7 (As := [29, 47]) (Fs := []) (Frm_trans (Frm_sR (by decide)) (Frm_sR (by decide))) (by simp [scrA]) (by simp)⟩
      rw [s1, bn2_s, a1, Option.bind_some, show f12_inverts M4 47 (0 : Int32) = some M5 from i1, Option.bind_some, t1, Option.bind_some]
      rw [show L12_without_45 n k FU n M6 = some M7 from by rw [show L12_without_45 n k FU n M6 = L12_without_45 n k FU (nI a) M6 from by rw [← hnn]]; exact w1, Option.bind_some, ops_ld rs7, Option.bind_some, q1, bn2_s, show gF M11 25 = nI (woI A a).length from r11.1, show f12_changes M11 47 (0 : Int32) 20 (nI (woI A a).length) = _ from c1, bn2_s]
      have hs47 : seg ((sR (sR M11 29 g) 47 (wr (M11.2.1 47) 0 (chgL (woI A a) (srvT (aTold A) (wRow (aW A)))))).2.1 47) 0 (chgL (woI A a) (srvT (aTold A) (wRow (aW A)))) := by rw [sR_get]; exact seg_wr
      unfold askT
      rw [cl]
      by_cases k1 : k = -1
      · rw [if_pos k1, if_pos k1, Option.bind_some]
      · have k2 : 0 ≤ k.toInt := by
          have h5 : ¬ k.toInt = -1 := fun hh => k1 (is1.mpr hh)
          omega
        have h3 : k.toInt < 2 ^ 31 := Int32.toInt_lt k
        have hkn := ofI k2
        rw [if_neg k1, if_neg k1]
        by_cases k4 : k.toInt < (newL (woI A a) : Int)
        · rw [if_neg (show ¬ nI (newL (woI A a)) ≤ k from by rw [hkn]; exact nI_ge (by omega) (by omega)), if_pos (show 0 ≤ k.toInt ∧ k.toInt < (newL (woI A a) : Int) from ⟨k2, k4⟩)]
          have := hs47 k.toInt.toNat (by omega)
          rw [Nat.zero_add] at this
          rw [show ld (sR (sR M11 29 g) 47 (wr (M11.2.1 47) 0 (chgL (woI A a) (srvT (aTold A) (wRow (aW A)))))) 47 k = some ((chgL (woI A a) (srvT (aTold A) (wRow (aW A)))).getD k.toInt.toNat 0) from by
            conv => lhs; rw [hkn]
            rw [ld_n (show k.toInt.toNat < 300 by omega), this], Option.bind_some, Option.bind_some]
        · rw [if_pos (show nI (newL (woI A a)) ≤ k from by rw [hkn]; exact nI_le (by omega) (by omega)), if_neg (show ¬ (0 ≤ k.toInt ∧ k.toInt < (newL (woI A a) : Int)) by omega), Option.bind_some]
    · rw [if_neg (fun hh => hk (le_neg1.mp hh)), if_neg (fun hh => hk hh.2)]; exact ⟨M, rfl, h⟩
  · rw [if_neg hn, if_pos rfl, if_neg (fun hh => hn hh.1)]; exact ⟨M, rfl, h⟩
