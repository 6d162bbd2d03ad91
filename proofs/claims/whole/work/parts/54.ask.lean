/-! ===== PART II, the reference: refusals, the tape, what is asked ===== -/
def sRf (A : St) (k : Nat) : St := ((aTape A, aFk A, aFp A, fun j => if j = k then aRf A j + 1 else aRf A j), A.2)
def sTp (A : St) (t : List Int32) : St := ((t, aFk A, aFp A, aRf A), A.2)
theorem RS_rf {M : MS} {A : St} {k : Nat} (h : RS M A) (hk : k < 7) : RS (sR M 9 (upd (M.2.1 9) k (M.2.1 9 k + 1))) (sRf A k) := by
  obtain ⟨h1, h2, h3, h4, h5, h6, h7, h8, h9, h10, h11, h12, h13⟩ := h
  have a : ∀ j, j ≠ 9 → (sR M 9 (upd (M.2.1 9) k (M.2.1 9 k + 1))).2.1 j = M.2.1 j := fun j hj => sR_ne _ _ hj
  refine ⟨h1, by rw [a 0 (by decide)]; exact h2, h3, h4, fun j hj => ?_, h6, ?_, ?_, ?_, h10, by rw [a 57 (by decide)]; exact h11, h12, ?_⟩
  · rw [sR_get]
    show _ = if j = k then aRf A j + 1 else aRf A j
    by_cases hjk : j = k
    · rw [hjk, upd_self, if_pos rfl, h5 k hk]
    · rw [upd_ne _ _ hjk, if_neg hjk]; exact h5 j hj
  · unfold RT; rw [a 35 (by decide)]; exact h7
  · rw [RW_RN] at h8 ⊢
    rw [a 30 (by decide)]
    exact ⟨h8.1, h8.2.1, h8.2.2.1, by intro i o ho; rw [a 36 (by decide), a 37 (by decide), a 38 (by decide), a 39 (by decide), a 40 (by decide)]; exact h8.2.2.2 i o ho⟩
  · unfold RH; rw [a 60 (by decide)]; exact h9
  · unfold RKw
    rw [a 10 (by decide), a 11 (by decide), a 12 (by decide), a 13 (by decide), a 14 (by decide), a 15 (by decide), a 16 (by decide), a 17 (by decide), a 18 (by decide), a 19 (by decide)]
    exact h13
theorem refuses_ok {M : MS} {A : St} (h : RS M A) (k : Nat) (hk : k < 7) : ∃ M', f12_refuses M (nI k) = some (-1, M') ∧ RS M' (sRf A k) := by
  refine ⟨_, ?_, RS_rf h hk⟩
  unfold f12_refuses
  rw [ld_n (show k < mLn 9 from hk), Option.bind_some, sd_n (show k < mLn 9 from hk), Option.bind_some]
theorem isRefused_ok {M : MS} {A : St} (h : RS M A) (k : Nat) (hk : k < 7) : ∃ M', f12_isRefused M (nI k) = some (0, M') ∧ RS M' (sRf A k) := by
  refine ⟨_, ?_, RS_rf h hk⟩
  unfold f12_isRefused
  rw [ld_n (show k < mLn 9 from hk), Option.bind_some, sd_n (show k < mLn 9 from hk), Option.bind_some]
theorem RS_tape {M M' : MS} {A : St} {t : List Int32} (h : RS M A) (hf : Frm [0] [1] M M') (ht : Row M' 0 1 t) : RS M' (sTp A t) := by
  obtain ⟨h1, h2, h3, h4, h5, h6, h7, h8, h9, h10, h11, h12, h13⟩ := h
  refine ⟨ht.1, ht.2, by rw [hf.2.1 7 (by decide)]; exact h3, by rw [hf.2.1 8 (by decide)]; exact h4, fun k hk => by rw [hf.1 9 (by decide)]; exact h5 k hk, by rw [hf.2.1 31 (by decide)]; exact h6, ?_, ?_, ?_, by rw [hf.2.1 56 (by decide)]; exact h10, by rw [hf.1 57 (by decide)]; exact h11, by rw [hf.2.2]; exact h12, ?_⟩
  · unfold RT; rw [hf.1 35 (by decide), hf.2.1 34 (by decide)]; exact h7
  · rw [RW_RN] at h8 ⊢
    rw [hf.1 30 (by decide), hf.2.1 32 (by decide), hf.2.1 33 (by decide)]
    exact ⟨h8.1, h8.2.1, h8.2.2.1, by intro i o ho; rw [hf.1 36 (by decide), hf.1 37 (by decide), hf.1 38 (by decide), hf.1 39 (by decide), hf.1 40 (by decide)]; exact h8.2.2.2 i o ho⟩
  · unfold RH; rw [hf.1 60 (by decide), hf.2.1 61 (by decide), hf.2.1 62 (by decide)]; exact h9
  · unfold RKw
    rw [hf.1 10 (by decide), hf.1 11 (by decide), hf.1 12 (by decide), hf.1 13 (by decide), hf.1 14 (by decide), hf.1 15 (by decide), hf.1 16 (by decide), hf.1 17 (by decide), hf.1 18 (by decide), hf.1 19 (by decide)]
    exact h13
def byteN (x s : Int32) : Int32 := (x >>> s) &&& 255
def feedB (a b c d e : Int32) : List Int32 := [byteN a 24, byteN a 16, byteN a 8, byteN a 0, byteN b 24, byteN b 16, byteN b 8, byteN b 0, byteN c 24, byteN c 16, byteN c 8, byteN c 0, byteN d 24, byteN d 16, byteN d 8, byteN d 0, byteN e 24, byteN e 16, byteN e 8, byteN e 0]
theorem feed_byte (a b c d e : Int32) : ∀ i, i < 20 → (∀ K : Int32 → Option MS, ((if (4 : Int32) ≤ nI i then (if (8 : Int32) ≤ nI i then (if (12 : Int32) ≤ nI i then (if (16 : Int32) ≤ nI i then some e else some d) else some c) else some b) else some a).bind fun v1 => K ((v1 >>> (((8 : Int32) * ((3 : Int32) - (nI i - nI i / (4 : Int32) * (4 : Int32)))) &&& 31)) &&& (255 : Int32))) = K ((feedB a b c d e).getD i 0)) := by
  intro i hi K
  rcases (show i = 0 ∨ i = 1 ∨ i = 2 ∨ i = 3 ∨ i = 4 ∨ i = 5 ∨ i = 6 ∨ i = 7 ∨ i = 8 ∨ i = 9 ∨ i = 10 ∨ i = 11 ∨ i = 12 ∨ i = 13 ∨ i = 14 ∨ i = 15 ∨ i = 16 ∨ i = 17 ∨ i = 18 ∨ i = 19 by omega) with rfl | rfl | rfl | rfl | rfl | rfl | rfl | rfl | rfl | rfl | rfl | rfl | rfl | rfl | rfl | rfl | rfl | rfl | rfl | rfl <;> rfl
theorem feed_loop (a b c d e : Int32) : ∀ (k n i : Nat) (t : List Int32) (M : MS), i + k = 20 → Row M 0 1 t → t.length + k ≤ 1600 → k < n →
    ∃ M', L12_feed_22 a b c d e n (nI i) M = some M' ∧ Row M' 0 1 (t ++ (feedB a b c d e).drop i) ∧ Frm [0] [1] M M' := by
  intro k
  induction k with
  | zero =>
    intro n i t M hi hr hl hn
    obtain ⟨n, rfl⟩ : ∃ j, n = j + 1 := ⟨n - 1, by omega⟩
    unfold L12_feed_22
    rw [show (20 : Int32) = nI 20 from rfl, if_pos (nI_le (by omega) (by omega)), show i = 20 by omega]
    exact ⟨M, rfl, by rw [show (feedB a b c d e).drop 20 = [] from rfl, List.append_nil]; exact hr, Frm_refl _ _ _⟩
  | succ k ih =>
    intro n i t M hi hr hl hn
    obtain ⟨n, rfl⟩ : ∃ j, n = j + 1 := ⟨n - 1, by omega⟩
    have hlen : (feedB a b c d e).length = 20 := rfl
    have hdr : (feedB a b c d e).drop i = (feedB a b c d e).getD i 0 :: (feedB a b c d e).drop (i + 1) := by
      rw [List.drop_eq_getElem_cons (by omega), List.getD_eq_getElem?_getD, List.getElem?_eq_getElem (by omega)]; rfl
    generalize hv : (feedB a b c d e).getD i 0 = v at hdr
    have h1 : M.1 1 = nI t.length := hr.1
    have hfr : Frm [0] [1] M (sF (sR M 0 (upd (M.2.1 0) t.length v)) 1 (nI (t.length + 1))) := Frm_trans (Frm_sR (by decide)) (Frm_sF (by decide))
    have hrow : Row (sF (sR M 0 (upd (M.2.1 0) t.length v)) 1 (nI (t.length + 1))) 0 1 (t ++ [v]) := by
      refine ⟨by rw [sF_get, List.length_append, List.length_singleton], ?_⟩
      show seg ((sR M 0 (upd (M.2.1 0) t.length v)).2.1 0) 0 _
      rw [sR_get]
      have := seg_snoc (v := v) hr.2
      rw [Nat.zero_add] at this
      exact this
    obtain ⟨M', g1, g2, g3⟩ := ih n (i + 1) (t ++ [v]) (sF (sR M 0 (upd (M.2.1 0) t.length v)) 1 (nI (t.length + 1))) (by omega) hrow (by simp; omega) (by omega)
    refine ⟨M', ?_, by rw [hdr]; rw [List.append_assoc] at g2; exact g2, Frm_trans hfr g3⟩
    have hK := feed_byte a b c d e i (by omega) (fun x => (sd M 0 (gF M 1) x).bind fun M3 => L12_feed_22 a b c d e n (nI i + 1) (sF M3 1 (gF M3 1 + 1)))
    unfold L12_feed_22
    rw [if_neg (show ¬ (20 : Int32) ≤ nI i from nI_ge (b := 20) (by omega) (by omega)), hK, hv, show gF M 1 = nI t.length from h1, sd_n (show t.length < 1600 by omega), Option.bind_some, show gF (sR M 0 (upd (M.2.1 0) t.length v)) 1 = nI t.length from h1, nI_1, nI_1]
    exact g1
def aFeed (A : St) (a b c d e : Int32) : Int32 × St := if (aTape A).length + 20 ≤ 1600 then (nI ((aTape A).length + 20), sTp A (aTape A ++ feedB a b c d e)) else (-1, sRf A 0)
theorem feed_ok {M : MS} {A : St} (h : RS M A) (hg : GA A) (a b c d e : Int32) : ∃ M', f12_feed M a b c d e = some ((aFeed A a b c d e).1, M') ∧ RS M' (aFeed A a b c d e).2 := by
  have h1 : gF M 1 = nI (aTape A).length := h.1
  have hl := hg.1
  unfold f12_feed aFeed
  rw [h1, show nI (aTape A).length + (20 : Int32) = nI ((aTape A).length + 20) from nI_add _ 20, show (1600 : Int32) = nI 1600 from rfl]
  by_cases hc : (aTape A).length + 20 ≤ 1600
  · rw [if_pos (nI_le hc (by omega)), if_pos hc]
    obtain ⟨M', g1, g2, g3⟩ := feed_loop a b c d e 20 FU 0 (aTape A) M (by omega) ⟨h.1, h.2.1⟩ (by omega) (by rw [FU_eq]; omega)
    rw [List.drop_zero] at g2
    refine ⟨M', ?_, RS_tape h g3 g2⟩
    rw [show L12_feed_22 a b c d e FU (0 : Int32) M = some M' from g1, Option.bind_some, show gF M' 1 = _ from g2.1, List.length_append]
    rfl
  · rw [if_neg (nI_ge (by omega) (by omega)), if_neg hc]
    obtain ⟨M', g1, g2⟩ := refuses_ok h 0 (by omega)
    exact ⟨M', by rw [show f12_refuses M (0 : Int32) = _ from g1, bn2_s], g2⟩
def aEnd (A : St) (n : Int32) : Int32 × St := if n.toInt < 0 ∨ ((aTape A).length : Int) < n.toInt then (0, sRf A 0) else (1, sTp A ((aTape A).take n.toInt.toNat))
theorem end_ok {M : MS} {A : St} (h : RS M A) (hg : GA A) (n : Int32) : ∃ M', f12_end M n = some ((aEnd A n).1, M') ∧ RS M' (aEnd A n).2 := by
  have h1 : gF M 1 = nI (aTape A).length := h.1
  have hl := hg.1
  unfold f12_end aEnd
  have e0 : (0 : Int32).toInt = 0 := by decide
  by_cases hn : n < 0
  · have hn' := Int32.lt_iff_toInt_lt.mp hn
    rw [e0] at hn'
    rw [if_pos hn, if_pos (Or.inl hn')]
    obtain ⟨M', g1, g2⟩ := isRefused_ok h 0 (by omega)
    exact ⟨M', by rw [show f12_isRefused M (0 : Int32) = _ from g1, bn2_s, bz0, Option.bind_some], g2⟩
  · have hn' : ¬ n.toInt < (0 : Int32).toInt := fun hh => hn (Int32.lt_iff_toInt_lt.mpr hh)
    rw [e0] at hn'
    rw [if_neg hn, h1]
    have hle : n ≤ nI (aTape A).length ↔ n.toInt ≤ (aTape A).length := by rw [Int32.le_iff_toInt_le, nI_toInt (by omega)]
    by_cases hc : n.toInt ≤ (aTape A).length
    · rw [if_pos (hle.mpr hc), if_neg (by omega)]
      refine ⟨_, rfl, RS_tape h (Frm_sF (by decide)) ⟨?_, ?_⟩⟩
      · rw [sF_get, List.length_take, Nat.min_eq_left (by omega)]; exact ofI (by omega)
      · intro k hk
        rw [List.length_take] at hk
        show M.2.1 0 (0 + k) = _
        rw [h.2.1 k (by omega), List.getD_eq_getElem?_getD, List.getD_eq_getElem?_getD, List.getElem?_take_of_lt (by omega)]
    · rw [if_neg (fun hh => hc (hle.mp hh)), if_pos (Or.inr (by omega))]
      obtain ⟨M', g1, g2⟩ := isRefused_ok h 0 (by omega)
      exact ⟨M', by rw [show f12_isRefused M (0 : Int32) = _ from g1, bn2_s, bz0, Option.bind_some], g2⟩
def qStatus (A : St) (w : Int32) : Int32 := if 0 ≤ w.toInt ∧ w.toInt ≤ 6 then aRf A w.toInt.toNat else -1
theorem status_ok {M : MS} {A : St} (h : RS M A) (w : Int32) : f12_status M w = some (qStatus A w) := by
  unfold f12_status qStatus
  rw [isIn_ok, i64, show (0 : Int64).toInt = 0 from by decide, show (6 : Int64).toInt = 6 from by decide, Option.bind_some]
  by_cases hw : 0 ≤ w.toInt ∧ w.toInt ≤ 6
  · have hwn := ofI hw.1
    rw [if_pos hw, if_neg (by decide), if_pos hw]
    conv => lhs; rw [hwn]
    rw [ld_n (show w.toInt.toNat < 7 by omega), h.2.2.2.2.1 _ (by omega), Option.bind_some, Option.bind_some]
  · rw [if_neg hw, if_pos rfl, if_neg hw, Option.bind_some]
def qFault (A : St) (w : Int32) : Int32 := if w = 0 then aFk A else if w = 1 then aFp A else -1
theorem fault_ok {M : MS} {A : St} (h : RS M A) (w : Int32) : f12_fault M w = some (qFault A w) := by
  unfold f12_fault qFault
  rw [show gF M 7 = _ from h.2.2.1, show gF M 8 = _ from h.2.2.2.1]
  split
  · rfl
  · split <;> rfl
