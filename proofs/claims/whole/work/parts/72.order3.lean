/-! ===== PART II, the reference: orders, ends ===== -/
def ordM (A : St) : Nat := sndN (onW (aCnt A) (aW A)) (aCnt A)
def endsA (A : St) : List (List Int32) := endsTo (okW A (ordM A)) (enW A (ordM A)) (4 ^ ordM A)
theorem laysOrders_ok {M : MS} {A : St} (h : RS M A) (hg : GA A) : ∃ M', f12_laysOrders M = some M' ∧ RS M' A ∧ EN M' (endsA A) := by
  have gd := GA_good hg
  have hc4 := gd.1
  have hm : ordM A ≤ 4 := by have := sndN_le (onW (aCnt A) (aW A)) (aCnt A); unfold ordM; omega
  have h4 : 4 ^ ordM A ≤ 256 := by
    rcases (show ordM A = 0 ∨ ordM A = 1 ∨ ordM A = 2 ∨ ordM A = 3 ∨ ordM A = 4 by omega) with h | h | h | h | h <;> rw [h] <;> decide
  obtain ⟨g, p1, p2⟩ := aside_ok (sF M 53 (0 : Int32))
  have hrw2 : RW (sR (sF M 53 (0 : Int32)) 52 g) (aCnt A) (aTies A) (aW A) := by
    have hrw := RW_RN.mp (RW_sF (k := 53) (v := 0) (RS_RW h) (by decide) (by decide))
    rw [RW_RN, sR_ne _ _ (by decide)]
    exact ⟨hrw.1, hrw.2.1, hrw.2.2.1, by intro i o ho; rw [sR_ne _ _ (by decide), sR_ne _ _ (by decide), sR_ne _ _ (by decide), sR_ne _ _ (by decide), sR_ne _ _ (by decide)]; exact hrw.2.2.2 i o ho⟩
  have f2 : FN [20, 21, 22, 23, 24, 29, 36, 37, 38, 39, 40, 47, 48, 50, 52, 54, 55] [25, 26, 27, 28, 49, 53] (fun _ => True) M (sR (sF M 53 (0 : Int32)) 52 g) := FN_Frm (As := [52]) (Fs := [53]) (Frm_trans (Frm_sF (by decide)) (Frm_sR (by decide))) (by decide) (by simp) (by simp)
  obtain ⟨M', d1, d2, d3, d4⟩ := order_loop (A := A) (M0 := M) (m := ordM A) (g := g) h hg hm p2 (4 ^ ordM A) FU 0 (sR (sF M 53 (0 : Int32)) 52 g) (by omega) hrw2 (sR_get _ _ _) ⟨by rw [sR_F, sF_get]; rfl, fun o t ho => by rw [endsTo] at ho; simp at ho⟩ f2 (by rw [FU_eq]; omega)
  refine ⟨M', ?_, ?_, d3⟩
  · unfold f12_laysOrders
    rw [senders_ok (RS_RW h) gd, Option.bind_some, p1, Option.bind_some, show L12_laysOrders_16 (nI (sndN (onW (aCnt A) (aW A)) (aCnt A))) FU (0 : Int32) (sR (sF M 53 (0 : Int32)) 52 g) = some M' from d1, Option.bind_some]
  · refine RS_world (A := A) (W := aW A) (tl := 0) h (fun k hk hk2 hk3 => d4.1 k (fun hm => hk ?_) hk3) (fun k hk => d4.2.1 k (fun hm => hk ?_)) d4.2.2.1 d2
    · simp only [List.mem_cons, List.not_mem_nil, or_false] at hm
      unfold scrA
      omega
    · simp only [List.mem_cons, List.not_mem_nil, or_false] at hm
      unfold scrF
      omega
/-- what stands at a place of an end; 0 behind it -/
def endP (t : List Int32) (p : Nat) : Int32 := if p < t.length then t.getD p 0 else 0
theorem endAt_ok {M : MS} {ts : List (List Int32)} {o p : Nat} {t : List Int32} (hE : EN M ts) (ho : ts[o]? = some t) (hl : ts.length ≤ 24) (hp : p < 100000) : f12_endAt M (nI o) (nI p) = some (endP t p) := by
  obtain ⟨q1, q2, q3⟩ := hE.2 o t ho
  have hi := (List.getElem?_eq_some_iff.mp ho).1
  unfold f12_endAt endP
  rw [ld_n (show o < 24 by omega), q1, Option.bind_some]
  by_cases hpt : p < t.length
  · rw [if_neg (nI_ge hpt (by omega)), if_pos hpt, show (250 : Int32) = nI 250 from rfl, nI_mul, nI_add, ld_n (show 250 * o + p < 6000 by omega), q2 p hpt, Option.bind_some, Option.bind_some]
  · rw [if_pos (nI_le (by omega) (by omega)), if_neg hpt, Option.bind_some]
theorem ends_len {A : St} (hg : GA A) : (endsA A).length ≤ 24 := by
  have hc4 := (GA_good hg).1
  have hm : ordM A ≤ 4 := by have := sndN_le (onW (aCnt A) (aW A)) (aCnt A); unfold ordM; omega
  unfold endsA
  rw [endsTo_len]
  have h1 := ord24 (ordM A) (by omega)
  have h2 := cntTo_mono (ok := okW A (ordM A)) (ok' := fun r => ordB (fun _ => true) (ordM A) r (ordM A) 0 0) (fun r h => ordB_mono _ _ _ h) (4 ^ ordM A)
  omega
theorem isIn_len {n : Int32} {l : Nat} (hl : l ≤ 24) : f12_isIn n.toInt64 (0 : Int64) (nI l - (1 : Int32)).toInt64 = some (if 0 ≤ n.toInt ∧ n.toInt < (l : Int) then 1 else 0) := by
  rw [isIn_ok, i64, i64, subI (by omega), show (0 : Int64).toInt = 0 from by decide]
  by_cases h : 0 ≤ n.toInt ∧ n.toInt < (l : Int)
  · rw [if_pos h, if_pos (by omega)]
  · rw [if_neg h, if_neg (by omega)]
def qEnds (A : St) (n k : Int32) : Int32 := if 0 < aCnt A ∧ -1 ≤ k.toInt ∧ 0 ≤ n.toInt ∧ n.toInt < (endsA A).length then askT ((endsA A).getD n.toInt.toNat []) k else -1
theorem ends_ok {M : MS} {A : St} (h : RS M A) (hg : GA A) (n k : Int32) : ∃ M', f12_ends M n k = some (qEnds A n k, M') ∧ RS M' A := by
  have hl := ends_len hg
  unfold f12_ends qEnds
  by_cases hc : 0 < aCnt A
  · rw [if_neg (fun hh => (told_iff h).mp hh hc)]
    by_cases hk : -1 ≤ k.toInt
    · rw [if_pos (le_neg1.mpr hk)]
      obtain ⟨M', a1, a2, a3⟩ := laysOrders_ok h hg
      rw [a1, Option.bind_some, show gF M' 53 = _ from a3.1, isIn_len hl, Option.bind_some]
      refine ⟨M', ?_, a2⟩
      by_cases hn : 0 ≤ n.toInt ∧ n.toInt < ((endsA A).length : Int)
      · rw [if_pos hn, if_neg (show ¬ (1 : Int32) = 0 from by decide), if_pos (show 0 < aCnt A ∧ -1 ≤ k.toInt ∧ 0 ≤ n.toInt ∧ n.toInt < ((endsA A).length : Int) from ⟨hc, hk, hn⟩)]
        have hnn := ofI hn.1
        have hi : n.toInt.toNat < (endsA A).length := by omega
        have ho := List.getElem?_eq_getElem hi
        have hgd : (endsA A).getD n.toInt.toNat [] = (endsA A)[n.toInt.toNat] := by rw [List.getD_eq_getElem?_getD, ho]; rfl
        rw [hgd]
        generalize (endsA A)[n.toInt.toNat] = t at ho
        generalize n.toInt.toNat = o at *
        subst hnn
        obtain ⟨q1, q2, q3⟩ := a3.2 o t ho
        have hld : ld M' 54 (nI o) = some (nI t.length) := by rw [ld_n (show o < 24 by omega), q1]
        unfold askT
        by_cases k1 : k = -1
        · rw [if_pos k1, if_pos k1, hld, Option.bind_some, Option.bind_some]
        · have k2 : 0 ≤ k.toInt := by
            have h5 : ¬ k.toInt = -1 := fun hh => k1 (is1.mpr hh)
            omega
          have h31 : k.toInt < 2 ^ 31 := Int32.toInt_lt k
          have hkn := ofI k2
          rw [if_neg k1, if_neg k1, hld, Option.bind_some]
          by_cases k4 : k.toInt < (t.length : Int)
          · rw [if_neg (show ¬ nI t.length ≤ k from by rw [hkn]; exact nI_ge (by omega) (by omega)), if_pos (show 0 ≤ k.toInt ∧ k.toInt < (t.length : Int) from ⟨k2, k4⟩)]
            have hv := q2 k.toInt.toNat (by omega)
            rw [show (250 : Int32) * nI o + k = nI (250 * o + k.toInt.toNat) from by
              conv => lhs; rw [hkn]
              rw [show (250 : Int32) = nI 250 from rfl, nI_mul, nI_add], ld_n (show 250 * o + k.toInt.toNat < 6000 by omega), hv, Option.bind_some, Option.bind_some]
          · rw [if_pos (show nI t.length ≤ k from by rw [hkn]; exact nI_le (by omega) (by omega)), if_neg (show ¬ (0 ≤ k.toInt ∧ k.toInt < (t.length : Int)) by omega), Option.bind_some]
      · rw [if_neg hn, if_pos rfl, if_neg (fun hh => hn hh.2.2)]
    · rw [if_neg (fun hh => hk (le_neg1.mp hh)), if_neg (fun hh => hk hh.2.1)]; exact ⟨M, rfl, h⟩
  · rw [if_pos ((told_iff h).mpr hc), if_neg (fun hh => hc hh.1)]; exact ⟨M, rfl, h⟩
theorem en_okP {A : St} (hg : GA A) {m r : Nat} (hch : chR (aCnt A) (aTold A).length (wRow (seqD (aTies A) (aCnt A) m r m 0 (aW A)))) : ∀ v ∈ enW A m r, okP v := srv_okP _ _ hg.2.2.2.1 hch
theorem like_iff {a b : List Int32} (ha : ∀ v ∈ a, okP v) (hb : ∀ v ∈ b, okP v) (hla : a.length ≤ 240) (hlb : b.length ≤ 240) : (∀ p, p < 240 → endP a p = endP b p) ↔ a = b := by
  constructor
  · intro h
    have nz : ∀ {t : List Int32} {p : Nat}, (∀ v ∈ t, okP v) → p < t.length → endP t p ≠ 0 := fun ht hp hz => by
      unfold endP at hz
      rw [if_pos hp, List.getD_eq_getElem?_getD, List.getElem?_eq_getElem hp] at hz
      have := (okP3 (ht _ (List.getElem_mem hp))).2.2.2.1
      exact (this ▸ hz : False)
    have z : ∀ {t : List Int32} {p : Nat}, t.length ≤ p → endP t p = 0 := fun hp => by unfold endP; rw [if_neg (by omega)]
    have hlen : a.length = b.length := by
      rcases Nat.lt_trichotomy a.length b.length with hl | hl | hl
      · exact absurd (by rw [← h a.length (by omega)]; exact z (Nat.le_refl _)) (nz hb hl)
      · exact hl
      · exact absurd (by rw [h b.length (by omega)]; exact z (Nat.le_refl _)) (nz ha hl)
    apply List.ext_getElem hlen
    intro p h1 h2
    have := h p (by omega)
    unfold endP at this
    rw [if_pos h1, if_pos h2, List.getD_eq_getElem?_getD, List.getD_eq_getElem?_getD, List.getElem?_eq_getElem h1, List.getElem?_eq_getElem h2] at this
    exact this
  · intro h p _; rw [h]
