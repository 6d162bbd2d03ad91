/-! ===== PART II, the reference: what is asked, on ===== -/
theorem told_iff {M : MS} {A : St} (h : RS M A) : (gF M 31 = 0) ↔ ¬ 0 < aCnt A := by
  rw [show gF M 31 = _ from h.2.2.2.2.2.1]
  by_cases hc : 0 < aCnt A <;> simp [hc, bI]
theorem RS_RW {M : MS} {A : St} (h : RS M A) : RW M (aCnt A) (aTies A) (aW A) := h.2.2.2.2.2.2.2.1
theorem GA_good {A : St} (h : GA A) : Good (aCnt A) (aTies A) (aTold A).length (aW A) := h.2.2.1
theorem ops_ld {M : MS} {A : St} (h : RS M A) : ld M 30 (1 : Int32) = some (nI (wRow (aW A)).length) := by
  rw [show (1 : Int32) = nI 1 from rfl, ld_n (show 1 < 10476 by omega), (RS_RW h).2.2.2.1]
/-- the server's text behind n operations -/
theorem srv_ok {M : MS} {A : St} (h : RS M A) (hg : GA A) {n : Nat} (hn : n ≤ (wRow (aW A)).length) :
    ∃ M', f12_serverText M (nI n) = some (nI (srvT (aTold A) ((wRow (aW A)).take n)).length, M') ∧ M'.1 49 = nI (srvT (aTold A) ((wRow (aW A)).take n)).length ∧ seg (M'.2.1 47) 0 (srvT (aTold A) ((wRow (aW A)).take n)) ∧ seg (M'.2.1 48) 0 (srvB 0 (List.replicate (aTold A).length 0) ((wRow (aW A)).take n)) ∧ Frm [21, 29, 47, 48, 50] [26, 49] M M' ∧ (srvT (aTold A) ((wRow (aW A)).take n)).length ≤ 240 ∧ RS M' A := by
  have gd := GA_good hg
  obtain ⟨g1, g2, g3, g4, g5, g6, g7, g8, g9⟩ := id gd
  obtain ⟨M', a1, a2, a3, a4, a5, a6⟩ := serverText_ok (cnt := aCnt A) g1 h.2.2.2.2.2.2.1 (RS_RW h).2.2.2.2.2.2.1 g6 (sum_le gd) (by omega) (by omega) hn
  exact ⟨M', a1, a2, a3, a4, a5, a6, RS_frm h a5 (by simp [scrA]) (by simp [scrF])⟩
def qWas (A : St) (n k : Int32) : Int32 := if 0 < aCnt A ∧ 0 ≤ n.toInt ∧ n.toInt ≤ (wRow (aW A)).length then askT (srvT (aTold A) ((wRow (aW A)).take n.toInt.toNat)) k else -1
theorem neg1 {k : Int32} (h : k < -1) : ¬ k = -1 ∧ k.toInt < -1 := by
  have e : (-1 : Int32).toInt = -1 := by decide
  rw [Int32.lt_iff_toInt_lt, e] at h
  exact ⟨fun hh => by rw [hh, e] at h; omega, h⟩
theorem ge1 {k : Int32} (h : -1 ≤ k) : -1 ≤ k.toInt := by
  have e : (-1 : Int32).toInt = -1 := by decide
  rw [Int32.le_iff_toInt_le, e] at h
  exact h
theorem is1 {k : Int32} : k = -1 ↔ k.toInt = -1 := by
  have e : (-1 : Int32).toInt = -1 := by decide
  constructor
  · intro h; rw [h, e]
  · intro h; exact Int32.toInt_inj.mp (by rw [h, e])
/-- a text is asked, as it lies in array 47 -/
theorem ask47 {M : MS} {t : List Int32} {k : Int32} (h49 : M.1 49 = nI t.length) (hs : seg (M.2.1 47) 0 t) (hl : t.length ≤ 240) (hk : -1 ≤ k.toInt) :
    (if k = (-1 : Int32) then some (gF M 49) else (if gF M 49 ≤ k then some (-1 : Int32) else ((ld M 47 k).bind fun v7 => some v7))) = some (askT t k) := by
  rw [show gF M 49 = _ from h49]
  unfold askT
  by_cases h1 : k = -1
  · rw [if_pos h1, if_pos h1]
  · have h2 : 0 ≤ k.toInt := by
      have h5 : ¬ k.toInt = -1 := fun hh => h1 (is1.mpr hh)
      omega
    have h3 : k.toInt < 2 ^ 31 := Int32.toInt_lt k
    rw [if_neg h1, if_neg h1]
    have hkn := ofI h2
    by_cases h4 : k.toInt < t.length
    · rw [if_neg (show ¬ nI t.length ≤ k from by rw [hkn]; exact nI_ge (by omega) (by omega)), if_pos ⟨h2, h4⟩]
      conv => lhs; rw [hkn]
      have := hs k.toInt.toNat (by omega)
      rw [Nat.zero_add] at this
      rw [ld_n (show k.toInt.toNat < 300 by omega), this, Option.bind_some]
    · rw [if_pos (show nI t.length ≤ k from by rw [hkn]; exact nI_le (by omega) (by omega)), if_neg (by omega)]
theorem was_ok {M : MS} {A : St} (h : RS M A) (hg : GA A) (n k : Int32) : ∃ M', f12_was M n k = some (qWas A n k, M') ∧ RS M' A := by
  have hl := row_le (GA_good hg)
  unfold f12_was qWas
  by_cases hc : 0 < aCnt A
  · rw [if_neg (fun hh => (told_iff h).mp hh hc), ops_ld h, Option.bind_some, isIn_ok, i64, i64, nI_toInt (by omega), show (0 : Int64).toInt = 0 from by decide, Option.bind_some]
    by_cases hn : 0 ≤ n.toInt ∧ n.toInt ≤ ((wRow (aW A)).length : Int)
    · rw [if_pos hn, if_neg (by decide), if_pos (show 0 < aCnt A ∧ 0 ≤ n.toInt ∧ n.toInt ≤ ((wRow (aW A)).length : Int) from ⟨hc, hn⟩)]
      by_cases hk : (-1 : Int32) ≤ k
      · rw [if_pos hk]
        have hnn := ofI hn.1
        obtain ⟨M', a1, a2, a3, a4, a5, a6, a7⟩ := srv_ok h hg (n := n.toInt.toNat) (by omega)
        refine ⟨M', ?_, a7⟩
        conv => lhs; rw [hnn]
        rw [a1, bn2_s, ask47 a2 a3 a6 (ge1 hk), Option.bind_some]
      · rw [if_neg hk]
        have hk2 : k.toInt < -1 := by
          have e : (-1 : Int32).toInt = -1 := by decide
          rw [Int32.le_iff_toInt_le, e] at hk
          omega
        refine ⟨M, ?_, h⟩
        unfold askT
        rw [if_neg (fun hh => by have := is1.mp hh; omega), if_neg (by omega)]
    · rw [if_neg hn, if_pos rfl, if_neg (fun hh => hn hh.2)]
      exact ⟨M, rfl, h⟩
  · rw [if_pos ((told_iff h).mpr hc), if_neg (fun hh => hc hh.1)]
    exact ⟨M, rfl, h⟩
def qHas (A : St) (w : Int32) : Int32 :=
  if w = 0 then nI (aCnt A) else if w = 1 then nI (wRow (aW A)).length else if w = 2 then nI (srvT (aTold A) (wRow (aW A))).length else if w = 3 then nI (wTk (aW A)) else if w = 4 then nI (wEd (aW A)) else if w = 5 then nI (wPu (aW A)) else if w = 6 then nI (wayN (aCnt A) (aW A)) else if w = 7 then nI (aSeen A).length else if w = 8 then nI (aHist A).length else if w = 9 then (if wayN (aCnt A) (aW A) = 0 then 1 else 0) else if w = 10 then nI (aTies A) else -1
theorem way_le {cnt ties tl : Nat} {W : Wd} (hg : Good cnt ties tl W) : wayN cnt W < 1000 := by
  have hl := row_le hg
  have hc := hg.1
  have h1 : wayN cnt W ≤ sumN (fun _ => 101) cnt := sumN_le (fun i hi => by
    show (wRow W).length - eRev (wE W i) + (if (eLft (wE W i)).isSome then 1 else 0) ≤ 101
    split <;> omega)
  have h2 : ∀ n, sumN (fun _ => 101) n = 101 * n := by
    intro n
    induction n with
    | zero => rfl
    | succ n ih => rw [sumN, ih]; omega
  rw [h2] at h1
  omega
theorem has_ok {M : MS} {A : St} (h : RS M A) (hg : GA A) (w : Int32) : ∃ M', f12_has M w = some (qHas A w, M') ∧ RS M' A := by
  have gd := GA_good hg
  obtain ⟨w1, w2, w3, w4, w5, w6, w7, w8⟩ := RS_RW h
  have hz := hg.2.2.2.2.2.2.1
  unfold f12_has qHas
  by_cases c0 : w = 0
  · rw [if_pos c0, if_pos c0]
    refine ⟨M, ?_, h⟩
    by_cases hc : 0 < aCnt A
    · rw [if_neg (fun hh => (told_iff h).mp hh hc), show gF M 32 = _ from w1, Option.bind_some]
    · rw [if_pos ((told_iff h).mpr hc), Option.bind_some, show aCnt A = 0 by omega]; rfl
  rw [if_neg c0, if_neg c0]
  by_cases c1 : w = 1
  · rw [if_pos c1, if_pos c1, ops_ld h, Option.bind_some]; exact ⟨M, rfl, h⟩
  rw [if_neg c1, if_neg c1]
  by_cases c2 : w = 2
  · rw [if_pos c2, if_pos c2]
    by_cases hc : 0 < aCnt A
    · obtain ⟨M', a1, a2, a3, a4, a5, a6, a7⟩ := srv_ok h hg (n := (wRow (aW A)).length) (Nat.le_refl _)
      rw [List.take_length] at a1
      rw [if_neg (fun hh => (told_iff h).mp hh hc), ops_ld h, Option.bind_some, a1, bn2_s, bn2_s]
      exact ⟨M', rfl, a7⟩
    · have hz' := hz (by omega)
      rw [if_pos ((told_iff h).mpr hc), bn2_s, hz'.1, hz'.2.1]
      exact ⟨M, rfl, h⟩
  rw [if_neg c2, if_neg c2]
  by_cases c3 : w = 3
  · rw [if_pos c3, if_pos c3, show (0 : Int32) = nI 0 from rfl, ld_n (show 0 < 10476 by omega), w3, Option.bind_some]; exact ⟨M, rfl, h⟩
  rw [if_neg c3, if_neg c3]
  by_cases c4 : w = 4
  · rw [if_pos c4, if_pos c4, show ld M 30 (2 : Int32) = some (nI (wEd (aW A))) from by rw [show (2 : Int32) = nI 2 from rfl, ld_n (show 2 < 10476 by omega), w5], Option.bind_some]; exact ⟨M, rfl, h⟩
  rw [if_neg c4, if_neg c4]
  by_cases c5 : w = 5
  · rw [if_pos c5, if_pos c5, show ld M 30 (3 : Int32) = some (nI (wPu (aW A))) from by rw [show (3 : Int32) = nI 3 from rfl, ld_n (show 3 < 10476 by omega), w6], Option.bind_some]; exact ⟨M, rfl, h⟩
  rw [if_neg c5, if_neg c5]
  have hway := wayMany_ok (RS_RW h) gd
  have hwl := way_le gd
  by_cases c6 : w = 6
  · rw [if_pos c6, if_pos c6]
    refine ⟨M, ?_, h⟩
    by_cases hc : 0 < aCnt A
    · rw [if_neg (fun hh => (told_iff h).mp hh hc), hway, Option.bind_some, Option.bind_some]
    · rw [if_pos ((told_iff h).mpr hc), Option.bind_some, show aCnt A = 0 by omega]; rfl
  rw [if_neg c6, if_neg c6]
  by_cases c7 : w = 7
  · rw [if_pos c7, if_pos c7, show gF M 56 = _ from h.2.2.2.2.2.2.2.2.2.1]; exact ⟨M, rfl, h⟩
  rw [if_neg c7, if_neg c7]
  by_cases c8 : w = 8
  · rw [if_pos c8, if_pos c8, show gF M 61 = _ from h.2.2.2.2.2.2.2.2.1.1]; exact ⟨M, rfl, h⟩
  rw [if_neg c8, if_neg c8]
  by_cases c9 : w = 9
  · rw [if_pos c9, if_pos c9]
    refine ⟨M, ?_, h⟩
    by_cases hc : 0 < aCnt A
    · rw [if_neg (fun hh => (told_iff h).mp hh hc), hway, Option.bind_some]
      by_cases hw0 : wayN (aCnt A) (aW A) = 0
      · rw [hw0, if_pos (show nI 0 = (0 : Int32) from rfl), if_pos rfl]; rfl
      · rw [if_neg (nI_ne0 (by omega) (by omega)), if_neg hw0]; rfl
    · rw [if_pos ((told_iff h).mpr hc), Option.bind_some, show aCnt A = 0 by omega]; rfl
  rw [if_neg c9, if_neg c9]
  by_cases c10 : w = 10
  · rw [if_pos c10, if_pos c10, show gF M 33 = _ from w2]; exact ⟨M, rfl, h⟩
  rw [if_neg c10, if_neg c10]
  exact ⟨M, rfl, h⟩
def qEditor (A : St) (e w : Int32) : Int32 :=
  if 0 ≤ e.toInt ∧ e.toInt < aCnt A then
    (let E := wE (aW A) e.toInt.toNat
    if w = 0 then nI (eTxt E).length else if w = 1 then nI (eRev E) else if w = 2 then nI (eCur E) else if w = 3 then bI (ePnd E).isSome else if w = 4 then bI (eBuf E).isSome else if w = 5 then nI (eMks E).length else if w = 6 then nI (eUnd E).length else if w = 7 then nI (eDon E).length else if w = 8 then bI (eOn E) else if w = 9 then nI (eDel E) else if w = 10 then nI ((wRow (aW A)).length - eRev E) else if w = 11 then oI (eLft E) else -1)
  else -1
theorem editor_ok {M : MS} {A : St} (h : RS M A) (hg : GA A) (e w : Int32) : f12_editor M e w = some (qEditor A e w) := by
  have gd := GA_good hg
  unfold f12_editor qEditor
  rw [isEditor_ok h hg, Option.bind_some]
  by_cases he : 0 ≤ e.toInt ∧ e.toInt < aCnt A
  · rw [if_pos he, if_neg (by decide), if_pos he]
    have hen := ofI he.1
    have hc4 := gd.1
    have hi : e.toInt.toNat < aCnt A := by omega
    generalize e.toInt.toNat = i at hen hi
    subst hen
    obtain ⟨⟨k1, k2, k3, k4, k5, k6, k7, k8, k9, k10⟩, ht, ho, ⟨s1, s2, s3, s4⟩, hcm⟩ := (RS_RW h).2.2.2.2.2.2.2 i hi
    have e1 := (gd.2.2.2.2.2.2.2.2 i hi).1
    have its : ∀ (c : Int32) (w' : Nat) (v : Int32), c = nI w' → w' < 2618 → M.2.1 30 (4 + 2618 * i + w') = v → f12_its M (nI i) c = some v := fun c w' v h1 h2 h3 => by rw [h1, its_ok (by omega), h3]
    dsimp only
    by_cases c0 : w = 0
    · rw [if_pos c0, if_pos c0, its 21 21 _ rfl (by omega) ht.1, Option.bind_some]
    rw [if_neg c0, if_neg c0]
    by_cases c1 : w = 1
    · rw [if_pos c1, if_pos c1, its 0 0 _ rfl (by omega) k1, Option.bind_some]
    rw [if_neg c1, if_neg c1]
    by_cases c2 : w = 2
    · rw [if_pos c2, if_pos c2, its 1 1 _ rfl (by omega) k2, Option.bind_some]
    rw [if_neg c2, if_neg c2]
    by_cases c3 : w = 3
    · rw [if_pos c3, if_pos c3, its 17 17 _ rfl (by omega) k7, Option.bind_some]
    rw [if_neg c3, if_neg c3]
    by_cases c4 : w = 4
    · rw [if_pos c4, if_pos c4, its 18 18 _ rfl (by omega) k8, Option.bind_some]
    rw [if_neg c4, if_neg c4]
    by_cases c5 : w = 5
    · rw [if_pos c5, if_pos c5, its 2 2 _ rfl (by omega) k3, Option.bind_some]
    rw [if_neg c5, if_neg c5]
    by_cases c6 : w = 6
    · rw [if_pos c6, if_pos c6, its 22 22 _ rfl (by omega) s1, Option.bind_some]
    rw [if_neg c6, if_neg c6]
    by_cases c7 : w = 7
    · rw [if_pos c7, if_pos c7, its 23 23 _ rfl (by omega) s2, Option.bind_some]
    rw [if_neg c7, if_neg c7]
    by_cases c8 : w = 8
    · rw [if_pos c8, if_pos c8, its 15 15 _ rfl (by omega) k5, Option.bind_some]
    rw [if_neg c8, if_neg c8]
    by_cases c9 : w = 9
    · rw [if_pos c9, if_pos c9, its 16 16 _ rfl (by omega) k6, Option.bind_some]
    rw [if_neg c9, if_neg c9]
    by_cases c10 : w = 10
    · rw [if_pos c10, if_pos c10, ops_ld h, Option.bind_some, its 0 0 _ rfl (by omega) k1, Option.bind_some, nI_sub e1]
    rw [if_neg c10, if_neg c10]
    by_cases c11 : w = 11
    · rw [if_pos c11, if_pos c11, its 19 19 _ rfl (by omega) k9, Option.bind_some]
    rw [if_neg c11, if_neg c11]
  · rw [if_neg he, if_pos rfl, if_neg he]
