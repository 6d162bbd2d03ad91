/-! ===== PART II, the reference: fits ===== -/
theorem flat_get {f : Nat → Int32} : ∀ (l : List (Int32 × Int32)) (a k : Nat) (x : Int32 × Int32), seg f a (flatP l) → l[k]? = some x → f (a + 2 * k) = x.1 ∧ f (a + 2 * k + 1) = x.2 := by
  intro l
  induction l with
  | nil => intro a k x _ h; simp at h
  | cons y l ih =>
    intro a k x h hk
    obtain ⟨h1, h2⟩ := seg_cons (show seg f a (y.1 :: y.2 :: flatP l) from h)
    obtain ⟨h3, h4⟩ := seg_cons h2
    cases k with
    | zero =>
      simp at hk
      subst hk
      exact ⟨h1, h3⟩
    | succ k =>
      have := ih (a + 1 + 1) k x h4 (by simpa using hk)
      rw [show a + 1 + 1 + 2 * k = a + 2 * (k + 1) by omega] at this
      exact this
/-- whether an end fits to what is seen -/
def fitB (t : List Int32) : List (Int32 × Int32) → Bool
  | [] => true
  | x :: l => decide (endP t x.1.toInt.toNat = x.2) && fitB t l
theorem nar0 : vp_nar .boolean (0 : Int32) = 0 := by decide
theorem nar1 : vp_nar .boolean (1 : Int32) = 1 := by decide
theorem fit_loop {M0 : MS} {ts : List (List Int32)} {seen : List (Int32 × Int32)} {o : Nat} {t : List Int32} (ho : ts[o]? = some t) (hl : ts.length ≤ 24) (hs16 : seen.length ≤ 16) (hb : ∀ x ∈ seen, ∃ p : Nat, p < 240 ∧ x.1 = nI p) : ∀ (l : List (Int32 × Int32)) (n i : Nat) (M : MS), EN M ts → M.1 56 = nI seen.length → seg (M.2.1 57) 0 (flatP seen) → i + l.length = seen.length → seen.drop i = l → l.length < n →
    L12_laysFits_28 (nI o) n (nI i) M = some (sR M 58 (upd (M.2.1 58) o (if fitB t l then M.2.1 58 o else 0))) := by
  have hi := (List.getElem?_eq_some_iff.mp ho).1
  intro l
  induction l with
  | nil =>
    intro n i M hE h56 hs hil hd hn
    obtain ⟨n, rfl⟩ : ∃ j, n = j + 1 := ⟨n - 1, by omega⟩
    rw [List.length_nil, Nat.add_zero] at hil
    unfold L12_laysFits_28
    rw [show gF M 56 = _ from h56, if_pos (nI_le (by omega) (by omega)), fitB, if_pos rfl]
    have : upd (M.2.1 58) o (M.2.1 58 o) = M.2.1 58 := by
      funext j
      by_cases hj : j = o
      · rw [hj, upd_self]
      · rw [upd_ne _ _ hj]
    rw [this, sR_self]
  | cons x l ih =>
    intro n i M hE h56 hs hil hd hn
    rw [List.length_cons] at hil hn
    obtain ⟨n, rfl⟩ : ∃ j, n = j + 1 := ⟨n - 1, by omega⟩
    have hx : seen[i]? = some x := by
      have : (seen.drop i)[0]? = some x := by rw [hd]; rfl
      rw [List.getElem?_drop] at this
      exact this
    have hd' : seen.drop (i + 1) = l := by
      have := (drop_get hx).1
      rw [hd] at this
      exact (List.cons.inj this).2.symm
    obtain ⟨f1, f2⟩ := flat_get seen 0 i x hs hx
    rw [Nat.zero_add] at f1 f2
    obtain ⟨p, p1, p2⟩ := hb x (List.mem_of_getElem? hx)
    have hpx : x.1.toInt.toNat = p := by rw [p2, nI_toInt (by omega)]; omega
    unfold L12_laysFits_28
    rw [show gF M 56 = _ from h56, if_neg (nI_ge (by omega) (by omega)), show (2 : Int32) = nI 2 from rfl, nI_mul, ld_n (show 2 * i < 32 by omega), f1, Option.bind_some, p2, endAt_ok hE ho hl (by omega), Option.bind_some, nI_1, ld_n (show 2 * i + 1 < 32 by omega), f2, Option.bind_some, fitB, hpx]
    by_cases hq : endP t p = x.2
    · rw [if_pos hq, Option.bind_some, nI_1, ih n (i + 1) M hE h56 hs (by omega) hd' (by omega)]
      simp [hq]
    · rw [if_neg hq, nar0, sd_n (show o < 24 by omega), Option.bind_some, Option.bind_some, nI_1]
      have hE2 : EN (sR M 58 (upd (M.2.1 58) o 0)) ts := by
        refine ⟨hE.1, fun o' t' h' => ?_⟩
        rw [sR_ne _ _ (by decide), sR_ne _ _ (by decide)]
        exact hE.2 o' t' h'
      rw [ih n (i + 1) (sR M 58 (upd (M.2.1 58) o 0)) hE2 h56 (by rw [sR_ne _ _ (by decide)]; exact hs) (by omega) hd' (by omega), sR_get, sR_sR, upd_self]
      simp only [hq, decide_false, Bool.false_and, Bool.false_eq_true, if_false, ite_self]
      congr 2
      funext j
      by_cases hj : j = o
      · rw [hj, upd_self, upd_self]
      · rw [upd_ne _ _ hj, upd_ne _ _ hj]
def cntF (ts : List (List Int32)) (seen : List (Int32 × Int32)) : Nat → Nat
  | 0 => 0
  | n + 1 => cntF ts seen n + (if fitB (ts.getD n []) seen then 1 else 0)
theorem fits_loop {ts : List (List Int32)} {seen : List (Int32 × Int32)} (hl : ts.length ≤ 24) (hs16 : seen.length ≤ 16) (hb : ∀ x ∈ seen, ∃ p : Nat, p < 240 ∧ x.1 = nI p) : ∀ (d n i : Nat) (M : MS), i + d = ts.length → EN M ts → M.1 56 = nI seen.length → seg (M.2.1 57) 0 (flatP seen) → M.1 59 = nI (cntF ts seen i) → (∀ j, j < i → M.2.1 58 j = bI (fitB (ts.getD j []) seen)) → d < n →
    ∃ M', L12_laysFits_11 n (nI i) M = some M' ∧ EN M' ts ∧ M'.1 59 = nI (cntF ts seen ts.length) ∧ (∀ j, j < ts.length → M'.2.1 58 j = bI (fitB (ts.getD j []) seen)) ∧ Frm [58] [59] M M' := by
  intro d
  induction d with
  | zero =>
    intro n i M hi hE h56 hs h59 h58 hn
    obtain ⟨n, rfl⟩ : ∃ j, n = j + 1 := ⟨n - 1, by omega⟩
    have : i = ts.length := by omega
    subst this
    unfold L12_laysFits_11
    rw [show gF M 53 = _ from hE.1, if_pos (nI_le (Nat.le_refl _) (by omega))]
    exact ⟨M, rfl, hE, h59, h58, Frm_refl _ _ _⟩
  | succ d ih =>
    intro n i M hi hE h56 hs h59 h58 hn
    obtain ⟨n, rfl⟩ : ∃ j, n = j + 1 := ⟨n - 1, by omega⟩
    have ho := List.getElem?_eq_getElem (show i < ts.length by omega)
    have hgd : ts.getD i [] = ts[i]'(by omega) := by rw [List.getD_eq_getElem?_getD, ho]; rfl
    rw [← hgd] at ho
    generalize ts.getD i [] = t at ho hgd
    have hE1 : EN (sR M 58 (upd (M.2.1 58) i 1)) ts := by
      refine ⟨hE.1, fun o' t' h' => ?_⟩
      rw [sR_ne _ _ (by decide), sR_ne _ _ (by decide)]
      exact hE.2 o' t' h'
    have hfl := fit_loop (M0 := M) ho hl hs16 hb seen FU 0 (sR M 58 (upd (M.2.1 58) i 1)) hE1 h56 (by rw [sR_ne _ _ (by decide)]; exact hs) (by omega) rfl (by rw [FU_eq]; omega)
    rw [sR_get, sR_sR, upd_self] at hfl
    have hupd : upd (upd (M.2.1 58) i 1) i (if fitB t seen then 1 else 0) = upd (M.2.1 58) i (bI (fitB t seen)) := by
      funext j
      by_cases hj : j = i
      · rw [hj, upd_self, upd_self]; rfl
      · rw [upd_ne _ _ hj, upd_ne _ _ hj, upd_ne _ _ hj]
    rw [hupd] at hfl
    generalize hM2 : sR M 58 (upd (M.2.1 58) i (bI (fitB t seen))) = M2 at hfl
    have f2 : Frm [58] [59] M M2 := by subst hM2; exact Frm_sR (by decide)
    have m58 : M2.2.1 58 = upd (M.2.1 58) i (bI (fitB t seen)) := by subst hM2; rw [sR_get]
    have hst : ∃ M5, (if bI (fitB t seen) = 0 then some M2 else some (sF M2 59 (gF M2 59 + 1))) = some M5 ∧ M5.1 59 = nI (cntF ts seen (i + 1)) ∧ M5.2.1 58 = M2.2.1 58 ∧ Frm [58] [59] M M5 := by
      have hc : cntF ts seen (i + 1) = cntF ts seen i + (if fitB t seen then 1 else 0) := by
        rw [cntF, show ts.getD i [] = t from by rw [List.getD_eq_getElem?_getD, ho]; rfl]
      rw [hc]
      have g59 : M2.1 59 = nI (cntF ts seen i) := by subst hM2; exact h59
      cases fitB t seen with
      | false => exact ⟨M2, by rw [if_pos (show bI false = (0 : Int32) from rfl)], g59, rfl, f2⟩
      | true =>
        refine ⟨sF M2 59 (gF M2 59 + 1), by rw [if_neg (show ¬ bI true = (0 : Int32) from by decide)], ?_, rfl, Frm_trans f2 (Frm_sF (by decide))⟩
        rw [sF_get, show gF M2 59 = _ from g59, nI_1]; rfl
    obtain ⟨M5, e1, e2, e3, e4⟩ := hst
    have hE5 : EN M5 ts := by
      refine ⟨by rw [e4.2.1 53 (by decide)]; exact hE.1, fun o' t' h' => ?_⟩
      rw [e4.1 54 (by decide), e4.1 55 (by decide)]
      exact hE.2 o' t' h'
    obtain ⟨M', b1, b2, b3, b4, b5⟩ := ih n (i + 1) M5 (by omega) hE5 (by rw [e4.2.1 56 (by decide)]; exact h56) (by rw [e4.1 57 (by decide)]; exact hs) e2 (fun j hj => by
      rw [e3, m58]
      by_cases hji : j = i
      · rw [hji, upd_self, show ts.getD i [] = t from by rw [List.getD_eq_getElem?_getD, ho]; rfl]
      · rw [upd_ne _ _ hji]; exact h58 j (by omega)) (by omega)
    refine ⟨M', ?_, b2, b3, b4, Frm_trans e4 b5⟩
    unfold L12_laysFits_11
    rw [show gF M 53 = _ from hE.1, if_neg (nI_ge (by omega) (by omega)), nar1, sd_n (show i < 24 by omega), Option.bind_some, show L12_laysFits_28 (nI i) FU (0 : Int32) (sR M 58 (upd (M.2.1 58) i 1)) = some M2 from hfl, Option.bind_some, ld_n (show i < 24 by omega), m58, upd_self, Option.bind_some, e1, Option.bind_some, nI_1]
    exact b1
theorem laysFits_ok {M : MS} {A : St} (h : RS M A) (hg : GA A) : ∃ M', f12_laysFits M = some M' ∧ RS M' A ∧ EN M' (endsA A) ∧ M'.1 59 = nI (cntF (endsA A) (aSeen A) (endsA A).length) ∧ (∀ j, j < (endsA A).length → M'.2.1 58 j = bI (fitB ((endsA A).getD j []) (aSeen A))) := by
  have hl := ends_len hg
  obtain ⟨M1, a1, a2, a3⟩ := laysOrders_ok h hg
  have hE1 : EN (sF M1 59 (0 : Int32)) (endsA A) := ⟨by rw [sF_ne _ _ (by decide)]; exact a3.1, a3.2⟩
  obtain ⟨M2, b1, b2, b3, b4, b5⟩ := fits_loop (ts := endsA A) (seen := aSeen A) hl hg.2.2.2.2.2.2.2.2.2.2.1 (fun x hx => (hg.2.2.2.2.2.2.2.2.2.2.2.1 x hx).1) (endsA A).length FU 0 (sF M1 59 (0 : Int32)) (by omega) hE1 (by rw [sF_ne _ _ (by decide)]; exact a2.2.2.2.2.2.2.2.2.2.1) a2.2.2.2.2.2.2.2.2.2.2.1 (sF_get _ _ _) (fun j hj => by omega) (by rw [FU_eq]; omega)
  refine ⟨M2, ?_, RS_frm a2 (Frm_trans (Frm_sF (As := [58]) (Fs := [59]) (by decide)) b5) (by simp [scrA]) (by simp [scrF]), b2, b3, b4⟩
  unfold f12_laysFits
  rw [a1, Option.bind_some, show L12_laysFits_11 FU (0 : Int32) (sF M1 59 (0 : Int32)) = some M2 from b1, Option.bind_some]
