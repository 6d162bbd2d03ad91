/-! ===== PART II, the reference: letter, mark, step, row ===== -/
theorem lt0 {k : Int32} : k < 0 ↔ k.toInt < 0 := by
  have e : (0 : Int32).toInt = 0 := by decide
  rw [Int32.lt_iff_toInt_lt, e]
theorem ge0 {k : Int32} : 0 ≤ k ↔ 0 ≤ k.toInt := by
  have e : (0 : Int32).toInt = 0 := by decide
  rw [Int32.le_iff_toInt_le, e]
theorem le_neg1 {k : Int32} : -1 ≤ k ↔ -1 ≤ k.toInt := by
  have e : (-1 : Int32).toInt = -1 := by decide
  rw [Int32.le_iff_toInt_le, e]
theorem lt_neg1 {k : Int32} : k < -1 ↔ k.toInt < -1 := by
  have e : (-1 : Int32).toInt = -1 := by decide
  rw [Int32.lt_iff_toInt_lt, e]
/-- a number less one, as an int -/
theorem subI {n : Nat} (h : n < 100000) : (nI n - (1 : Int32)).toInt = (n : Int) - 1 := by
  cases n with
  | zero => decide
  | succ n => rw [nI_pred, nI_toInt (by omega)]; omega
def qLetter (A : St) (e k : Int32) : Int32 := if 0 < aCnt A ∧ 0 ≤ k.toInt then (if e = -1 then askT (srvT (aTold A) (wRow (aW A))) k else if 0 ≤ e.toInt ∧ e.toInt < aCnt A then askT (eTxt (wE (aW A) e.toInt.toNat)) k else -1) else -1
theorem letter_ok {M : MS} {A : St} (h : RS M A) (hg : GA A) (e k : Int32) : ∃ M', f12_letter M e k = some (qLetter A e k, M') ∧ RS M' A := by
  have gd := GA_good hg
  have hl := row_le gd
  have hc4 := gd.1
  unfold f12_letter qLetter
  by_cases hc : 0 < aCnt A
  · rw [if_neg (fun hh => (told_iff h).mp hh hc)]
    by_cases he1 : e = -1
    · rw [if_pos he1]
      by_cases hk : 0 ≤ k.toInt
      · obtain ⟨M', a1, a2⟩ := was_ok h hg (nI (wRow (aW A)).length) k
        rw [if_pos (ge0.mpr hk), ops_ld h, Option.bind_some, a1, bn2_s, bn2_s, if_pos ⟨hc, hk⟩, if_pos he1]
        refine ⟨M', ?_, a2⟩
        unfold qWas
        rw [nI_toInt (by omega), if_pos ⟨hc, by omega, by omega⟩, show ((wRow (aW A)).length : Int).toNat = (wRow (aW A)).length by omega, List.take_length]
      · rw [if_neg (fun hh => hk (ge0.mp hh)), bn2_s, if_neg (fun hh => hk hh.2)]
        exact ⟨M, rfl, h⟩
    · rw [if_neg he1, isEditor_ok h hg, Option.bind_some]
      by_cases he : 0 ≤ e.toInt ∧ e.toInt < aCnt A
      · rw [if_pos he, if_neg (show ¬ (1 : Int32) = 0 from by decide)]
        have hen := ofI he.1
        have hi : e.toInt.toNat < aCnt A := by omega
        have hev : (0 : Int) ≤ e.toInt ∧ e.toInt < aCnt A := he
        generalize hi0 : e.toInt.toNat = i at hen hi
        subst hen
        have hb := Good_Bd gd hi
        have hbl := hb.1
        obtain ⟨hh, ht, ho, hs, hcm⟩ := (RS_RW h).2.2.2.2.2.2.2 i hi
        rw [show f12_its M (nI i) (21 : Int32) = some (nI (eTxt (wE (aW A) i)).length) from by rw [show (21 : Int32) = nI 21 from rfl, its_ok (by omega), ht.1], Option.bind_some, isIn_ok, i64, i64, subI (by omega), show (0 : Int64).toInt = 0 from by decide, Option.bind_some]
        refine ⟨M, ?_, h⟩
        by_cases hk : 0 ≤ k.toInt ∧ k.toInt ≤ ((eTxt (wE (aW A) i)).length : Int) - 1
        · have hkn := ofI hk.1
          rw [if_pos hk, if_neg (show ¬ (1 : Int32) = 0 from by decide), if_pos (show 0 < aCnt A ∧ 0 ≤ k.toInt from ⟨hc, hk.1⟩), if_neg he1, if_pos hev]
          unfold askT
          rw [if_neg (show ¬ k = -1 from fun hh => by have := is1.mp hh; omega), if_pos (show 0 ≤ k.toInt ∧ k.toInt < ((eTxt (wE (aW A) i)).length : Int) from ⟨hk.1, by omega⟩)]
          conv => lhs; rw [hkn]
          have h2 := ht.2 k.toInt.toNat (by omega)
          rw [show (24 : Int32) = nI 24 from rfl, nI_add, of_ok, Option.bind_some, ← Nat.add_assoc, ld_n (show 4 + 2618 * i + 24 + k.toInt.toNat < 10476 by omega), h2, Option.bind_some, Option.bind_some]
        · rw [if_neg hk, if_pos rfl, Option.bind_some]
          by_cases hk0 : 0 ≤ k.toInt
          · rw [if_pos (show 0 < aCnt A ∧ 0 ≤ k.toInt from ⟨hc, hk0⟩), if_neg he1, if_pos hev]
            unfold askT
            rw [if_neg (show ¬ k = -1 from fun hh => by have := is1.mp hh; omega), if_neg (show ¬ (0 ≤ k.toInt ∧ k.toInt < ((eTxt (wE (aW A) i)).length : Int)) by omega)]
          · rw [if_neg (fun hh => hk0 hh.2)]
      · rw [if_neg he, if_pos rfl, Option.bind_some]
        refine ⟨M, ?_, h⟩
        by_cases hk : 0 ≤ k.toInt
        · rw [if_pos ⟨hc, hk⟩, if_neg he1, if_neg he]
        · rw [if_neg (fun hh => hk hh.2)]
  · rw [if_pos ((told_iff h).mpr hc), if_neg (fun hh => hc hh.1)]
    exact ⟨M, rfl, h⟩
theorem mkAt_get {f : Nat → Int32} : ∀ (ms : List (Nat × Nat × Nat)) (a k : Nat) (x : Nat × Nat × Nat), mkAt f a ms → ms[k]? = some x → f (a + 3 * k) = nI x.1 ∧ f (a + 3 * k + 1) = nI x.2.1 ∧ f (a + 3 * k + 2) = nI x.2.2 := by
  intro ms
  induction ms with
  | nil => intro a k x _ h; simp at h
  | cons y ms ih =>
    intro a k x h hk
    obtain ⟨h1, h2, h3, h4⟩ := h
    cases k with
    | zero =>
      simp at hk
      subst hk
      exact ⟨h1, h2, h3⟩
    | succ k =>
      have := ih (a + 3) k x h4 (by simpa using hk)
      rw [show a + 3 + 3 * k = a + 3 * (k + 1) by omega] at this
      exact this
def qMark (A : St) (e k w : Int32) : Int32 :=
  if (0 ≤ e.toInt ∧ e.toInt < aCnt A) ∧ 0 ≤ k.toInt ∧ 0 ≤ w.toInt ∧ w.toInt ≤ 2 then
    (match (eMks (wE (aW A) e.toInt.toNat))[k.toInt.toNat]? with
    | none => -1
    | some x => if w = 0 then nI x.1 else if w = 1 then nI x.2.1 else nI x.2.2)
  else -1
theorem mark_ok {M : MS} {A : St} (h : RS M A) (hg : GA A) (e k w : Int32) : f12_mark M e k w = some (qMark A e k w) := by
  have gd := GA_good hg
  have hc4 := gd.1
  unfold f12_mark qMark
  rw [isEditor_ok h hg, Option.bind_some]
  by_cases he : 0 ≤ e.toInt ∧ e.toInt < aCnt A
  · rw [if_pos he, if_neg (show ¬ (1 : Int32) = 0 from by decide)]
    have hen := ofI he.1
    have hi : e.toInt.toNat < aCnt A := by omega
    have hev : (0 : Int) ≤ e.toInt ∧ e.toInt < aCnt A := he
    generalize hi0 : e.toInt.toNat = i at hen hi
    subst hen
    have hm4 := (Good_Bd gd hi).2.1
    obtain ⟨hh, ht, ho, hs, hcm⟩ := (RS_RW h).2.2.2.2.2.2.2 i hi
    rw [show f12_its M (nI i) (2 : Int32) = some (nI (eMks (wE (aW A) i)).length) from by rw [show (2 : Int32) = nI 2 from rfl, its_ok (by omega), hh.2.2.1], Option.bind_some, isIn_ok, i64, i64, subI (by omega), show (0 : Int64).toInt = 0 from by decide, Option.bind_some]
    by_cases hk : 0 ≤ k.toInt ∧ k.toInt ≤ ((eMks (wE (aW A) i)).length : Int) - 1
    · rw [if_pos hk, if_neg (show ¬ (1 : Int32) = 0 from by decide), isIn_ok, i64, show (0 : Int64).toInt = 0 from by decide, show (2 : Int64).toInt = 2 from by decide, Option.bind_some]
      by_cases hw : 0 ≤ w.toInt ∧ w.toInt ≤ 2
      · rw [if_pos hw, if_neg (show ¬ (1 : Int32) = 0 from by decide), if_pos (show ((0 : Int) ≤ (nI i).toInt ∧ (nI i).toInt < aCnt A) ∧ 0 ≤ k.toInt ∧ 0 ≤ w.toInt ∧ w.toInt ≤ 2 from ⟨hev, hk.1, hw.1, hw.2⟩)]
        have hkn := ofI hk.1
        have hwn := ofI hw.1
        have hkl : k.toInt.toNat < (eMks (wE (aW A) i)).length := by omega
        generalize k.toInt.toNat = q at hkn hkl
        subst hkn
        rw [List.getElem?_eq_getElem hkl]
        obtain ⟨m1, m2, m3⟩ := mkAt_get _ _ q _ hh.2.2.2.1 (List.getElem?_eq_getElem hkl)
        have hwl : w.toInt.toNat ≤ 2 := by omega
        generalize w.toInt.toNat = u at hwn hwl
        subst hwn
        rw [show (3 : Int32) = nI 3 from rfl, nI_mul, nI_add, nI_add, of_ok, Option.bind_some, show 4 + 2618 * i + (3 + 3 * q + u) = 4 + 2618 * i + 3 + 3 * q + u by omega, ld_n (show 4 + 2618 * i + 3 + 3 * q + u < 10476 by omega), Option.bind_some]
        rcases (show u = 0 ∨ u = 1 ∨ u = 2 by omega) with rfl | rfl | rfl
        · rw [Nat.add_zero, m1]; rfl
        · rw [m2]; rfl
        · rw [m3]; rfl
      · rw [if_neg hw, if_pos rfl, if_neg (fun hh => hw hh.2.2)]
    · rw [if_neg hk, if_pos rfl]
      by_cases hq : ((0 : Int) ≤ (nI i).toInt ∧ (nI i).toInt < aCnt A) ∧ 0 ≤ k.toInt ∧ 0 ≤ w.toInt ∧ w.toInt ≤ 2
      · rw [if_pos hq, List.getElem?_eq_none (by omega)]
      · rw [if_neg hq]
  · rw [if_neg he, if_pos rfl, if_neg (fun hh => he hh.1)]
/-- an operation that an editor has -/
def opOf (E : Ed) (w : Int32) : Option (List Int32) := if w = 0 then ePnd E else if w = 1 then eBuf E else if w = 2 then (eUnd E).getLast?.map (fun x => x.2) else if w = 3 then (eDon E).getLast?.map (fun x => x.2) else none
theorem latest_ok {M : MS} {a : Nat} {s : List (Nat × List Int32)} {n : Nat} (h : stk (M.2.1 30) a s) (hE : stkE a s ≤ 10476) (hl : s.length ≤ 8) (hch : chn s n) (hsum : n + putsS s ≤ 240) :
    ∃ M', f12_isLatest M (nI a) (nI s.length) = some (bI (s.getLast?.map (fun x => x.2)).isSome, M') ∧ (∀ p, s.getLast?.map (fun x => x.2) = some p → Row M' 20 25 p ∧ okO p ∧ p.length ≤ 700) ∧ Frm [20] [25] M M' := by
  unfold f12_isLatest
  cases hs : s.getLast? with
  | none =>
    have : s = [] := List.getLast?_eq_none_iff.mp hs
    subst this
    exact ⟨M, by rw [if_pos (show nI ([] : List (Nat × List Int32)).length = (0 : Int32) from rfl)]; rfl, fun p hp => (Option.some_ne_none p hp.symm).elim, Frm_refl _ _ _⟩
  | some x =>
    have hne : s ≠ [] := fun hh => by rw [hh] at hs; cases hs
    have hsp : s = s.dropLast ++ [x] := by
      have h1 := List.dropLast_concat_getLast hne
      have h2 : s.getLast hne = x := by
        rw [List.getLast?_eq_some_getLast hne] at hs
        exact Option.some.inj hs
      rw [h2] at h1
      exact h1.symm
    generalize s.dropLast = t at hsp
    subst hsp
    obtain ⟨c1, c2, c3⟩ := chn_snoc hch
    rw [putsS_app] at hsum
    simp only [putsS] at hsum
    have cl := cnt_len c1
    have hml := mk_len c1 0
    rw [List.length_append, List.length_singleton] at hl ⊢
    have st := (stk_app _ _ _).mp h
    have hE' := hE
    rw [stkE_app] at hE'
    simp only [stkE] at hE'
    obtain ⟨x1, x2, x3, -⟩ := st.2
    have eE := entryAt_ok t [x] h hE (by omega)
    obtain ⟨M', a1, a2, a3⟩ := keptToA_ok x3 c1 (by omega) (by omega)
    refine ⟨M', ?_, fun p hp => ?_, a3⟩
    · rw [if_neg (nI_ne0 (by omega) (by omega)), nI_pred, eE, Option.bind_some, nI_1, a1, Option.bind_some]; rfl
    · have : x.2 = p := Option.some.inj hp
      subst this
      exact ⟨a2, c1, by omega⟩
theorem pnd_len {cnt ties tl e : Nat} {W : Wd} (hg : Good cnt ties tl W) (he : e < cnt) {p : List Int32} (hp : ePnd (wE W e) = some p) : okO p ∧ p.length ≤ 700 := by
  obtain ⟨a1, a2, a3, a4⟩ := pnd_cnt hg he hp
  have := cnt_len a1
  have := lenA_le hg.2.2.2.2.2.1 (eRev (wE W e))
  have := hg.2.2.1
  have := hg.2.2.2.1
  exact ⟨a1, by omega⟩
theorem isThere_ok {M : MS} {A : St} {i : Nat} {w : Int32} (h : RS M A) (hg : GA A) (hi : i < aCnt A) :
    ∃ M', f12_isThere M (nI i) w = some (bI (opOf (wE (aW A) i) w).isSome, M') ∧ (∀ p, opOf (wE (aW A) i) w = some p → Row M' 20 25 p ∧ okO p ∧ p.length ≤ 700) ∧ Frm [20] [25] M M' := by
  have gd := GA_good hg
  have hc4 := gd.1
  obtain ⟨hh, ht, ho, hs, hcm⟩ := (RS_RW h).2.2.2.2.2.2.2 i hi
  obtain ⟨k1, k2, k3, k4, k5, k6, k7, k8, k9, k10⟩ := hh
  obtain ⟨o1, o2, o3, ⟨z1, y1, y2, y3, y4⟩, ⟨z2, x1, x2, x3, x4⟩⟩ := ho
  have hb := Good_Bd gd hi
  obtain ⟨e1, e2, e3, e4, e5, e6, e7, e8, e9, e10, e11, e12, e13, e14, e15, e16, e17, e18, e19⟩ := gd.2.2.2.2.2.2.2.2 i hi
  have hpu := gd.2.2.2.1
  have htl := gd.2.2.1
  unfold f12_isThere opOf
  by_cases c0 : w = 0
  · rw [if_pos c0, if_pos c0, show (264 : Int32) = nI 264 from rfl, of_ok, Option.bind_some]
    cases hp : ePnd (wE (aW A) i) with
    | none =>
      obtain ⟨M2, a1, a2, a3⟩ := keptToA_ok y4 y1 y2 (by omega)
      refine ⟨M2, ?_, fun p hp => (Option.some_ne_none p hp.symm).elim, a3⟩
      rw [a1, Option.bind_some, show (17 : Int32) = nI 17 from rfl, its_ok (by omega), a3.1 30 (by decide), k7, hp, Option.bind_some]
      rfl
    | some p =>
      obtain ⟨p1, p2⟩ := pnd_len gd hi hp
      have hm := hb.2.2.2.2.1 p hp
      obtain ⟨M2, a1, a2, a3⟩ := keptToA_ok (o1 p hp) p1 p2 (by omega)
      refine ⟨M2, ?_, fun q hq => ?_, a3⟩
      · rw [a1, Option.bind_some, show (17 : Int32) = nI 17 from rfl, its_ok (by omega), a3.1 30 (by decide), k7, hp, Option.bind_some]
        rfl
      · have : p = q := Option.some.inj hq
        subst this
        exact ⟨a2, p1, p2⟩
  rw [if_neg c0, if_neg c0]
  by_cases c1 : w = 1
  · rw [if_pos c1, if_pos c1, show (1148 : Int32) = nI 1148 from rfl, of_ok, Option.bind_some]
    cases hp : eBuf (wE (aW A) i) with
    | none =>
      obtain ⟨M2, a1, a2, a3⟩ := keptToA_ok x4 x1 x2 (by omega)
      refine ⟨M2, ?_, fun p hp => (Option.some_ne_none p hp.symm).elim, a3⟩
      rw [a1, Option.bind_some, show (18 : Int32) = nI 18 from rfl, its_ok (by omega), a3.1 30 (by decide), k8, hp, Option.bind_some]
      rfl
    | some p =>
      obtain ⟨p1, p2⟩ := buf_ok gd hi hp
      have hm := hb.2.2.2.2.2.2.1 p hp
      obtain ⟨M2, a1, a2, a3⟩ := keptToA_ok (o3 p hp) p1 p2 (by omega)
      refine ⟨M2, ?_, fun q hq => ?_, a3⟩
      · rw [a1, Option.bind_some, show (18 : Int32) = nI 18 from rfl, its_ok (by omega), a3.1 30 (by decide), k8, hp, Option.bind_some]
        rfl
      · have : p = q := Option.some.inj hq
        subst this
        exact ⟨a2, p1, p2⟩
  rw [if_neg c1, if_neg c1]
  have bzb : ∀ b : Bool, bz (bI b) = some (bI b) := fun b => by cases b <;> rfl
  have cu := stkE_cap (eUnd (wE (aW A) i)) (4 + 2618 * i + 1590)
  have cdn := stkE_cap (eDon (wE (aW A) i)) (4 + 2618 * i + 2054)
  have bu := hb.2.2.2.2.2.2.2.1
  have bd := hb.2.2.2.2.2.2.2.2
  by_cases c2 : w = 2
  · obtain ⟨M', a1, a2, a3⟩ := latest_ok (n := (eTxt (wE (aW A) i)).length) hs.2.2.1 (by omega) e9 e11 (by omega)
    rw [if_pos c2, if_pos c2, show (1590 : Int32) = nI 1590 from rfl, of_ok, Option.bind_some, show (22 : Int32) = nI 22 from rfl, its_ok (by omega), hs.1, Option.bind_some, a1, bn2_s, bzb, Option.bind_some]
    exact ⟨M', rfl, a2, a3⟩
  rw [if_neg c2, if_neg c2]
  by_cases c3 : w = 3
  · obtain ⟨M', a1, a2, a3⟩ := latest_ok (n := (eTxt (wE (aW A) i)).length) hs.2.2.2 (by omega) e10 e12 (by omega)
    rw [if_pos c3, if_pos c3, show (2054 : Int32) = nI 2054 from rfl, of_ok, Option.bind_some, show (23 : Int32) = nI 23 from rfl, its_ok (by omega), hs.2.1, Option.bind_some, a1, bn2_s, bzb, Option.bind_some]
    exact ⟨M', rfl, a2, a3⟩
  rw [if_neg c3, if_neg c3]
  exact ⟨M, rfl, fun p hp => (Option.some_ne_none p hp.symm).elim, Frm_refl _ _ _⟩
def qStep (A : St) (e w k what : Int32) : Int32 := if (0 ≤ e.toInt ∧ e.toInt < aCnt A) ∧ 0 ≤ k.toInt ∧ 0 ≤ what.toInt then (match opOf (wE (aW A) e.toInt.toNat) w with | none => -1 | some p => askS p k what) else -1
theorem step_ok {M : MS} {A : St} (h : RS M A) (hg : GA A) (e w k what : Int32) : ∃ M', f12_step M e w k what = some (qStep A e w k what, M') ∧ RS M' A := by
  unfold f12_step qStep
  rw [isEditor_ok h hg, Option.bind_some]
  by_cases he : 0 ≤ e.toInt ∧ e.toInt < aCnt A
  · rw [if_pos he, if_neg (show ¬ (1 : Int32) = 0 from by decide)]
    by_cases hk : 0 ≤ k.toInt
    · rw [if_neg (fun hh => by have := lt0.mp hh; omega)]
      by_cases hw : 0 ≤ what.toInt
      · rw [if_neg (fun hh => by have := lt0.mp hh; omega), if_pos ⟨he, hk, hw⟩]
        have hen := ofI he.1
        have hi : e.toInt.toNat < aCnt A := by omega
        generalize e.toInt.toNat = i at hen hi
        subst hen
        obtain ⟨M', a1, a2, a3⟩ := isThere_ok (w := w) h hg hi
        have hrs := RS_frm h a3 (by simp [scrA]) (by simp [scrF])
        rw [a1, bn2_s]
        cases hp : opOf (wE (aW A) i) w with
        | none => exact ⟨M', by rw [if_pos (show bI (none : Option (List Int32)).isSome = (0 : Int32) from rfl)], hrs⟩
        | some p =>
          obtain ⟨p1, p2, p3⟩ := a2 p hp
          rw [if_neg (show ¬ bI (some p).isSome = (0 : Int32) from by simp [bI]), stepOfA_ok p1 p2 p3 hw, bn2_s]
          exact ⟨_, rfl, RS_frm hrs (Frm_sF (As := []) (Fs := [51]) (by decide)) (by simp) (by simp [scrF])⟩
      · rw [if_pos (lt0.mpr (by omega)), if_neg (fun hh => hw hh.2.2)]; exact ⟨M, rfl, h⟩
    · rw [if_pos (lt0.mpr (by omega)), if_neg (fun hh => hk hh.2.1)]; exact ⟨M, rfl, h⟩
  · rw [if_neg he, if_pos rfl, if_neg (fun hh => he hh.1)]; exact ⟨M, rfl, h⟩
