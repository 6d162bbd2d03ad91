/-! ===== PART II, the reference: the server's text behind so many operations ===== -/
def srvT : List Int32 → List (Nat × List Int32) → List Int32
  | t, [] => t
  | t, o :: l => srvT (chgL o.2 t) l
def srvB : Nat → List Int32 → List (Nat × List Int32) → List Int32
  | _, b, [] => b
  | k, b, o :: l => srvB (k + 1) (chgC (nI (k + 1)) o.2 b) l
theorem srvT_len {cnt : Nat} : ∀ (l : List (Nat × List Int32)) (t : List Int32), chR cnt t.length l → (srvT t l).length = lenA t.length l := by
  intro l
  induction l with
  | nil => intro t _; rfl
  | cons o l ih =>
    intro t h
    obtain ⟨h1, h2, h3, h4⟩ := h
    have := chgL_len h1 t
    rw [srvT, lenA, ih _ (by rw [this]; exact h4), this]
theorem srvB_len {cnt : Nat} : ∀ (l : List (Nat × List Int32)) (k : Nat) (b : List Int32), chR cnt b.length l → (srvB k b l).length = lenA b.length l := by
  intro l
  induction l with
  | nil => intro k b _; rfl
  | cons o l ih =>
    intro k b h
    obtain ⟨h1, h2, h3, h4⟩ := h
    have := chgC_len (c := nI (k + 1)) h1 b
    rw [srvB, lenA, ih _ _ (by rw [this]; exact h4), this]
theorem srvT_app (t : List Int32) (s l : List (Nat × List Int32)) : srvT t (s ++ l) = srvT (srvT t s) l := by
  induction s generalizing t with
  | nil => rfl
  | cons o s ih => rw [List.cons_append, srvT, srvT, ih]
theorem srvB_app (k : Nat) (b : List Int32) (s l : List (Nat × List Int32)) : srvB k b (s ++ l) = srvB (k + s.length) (srvB k b s) l := by
  induction s generalizing b k with
  | nil => rfl
  | cons o s ih => rw [List.cons_append, srvB, srvB, ih, List.length_cons, show k + 1 + s.length = k + (s.length + 1) by omega]
/-- the text that was told -/
def RT (M : MS) (told : List Int32) : Prop := M.1 34 = nI told.length ∧ seg (M.2.1 35) 0 told ∧ told.length ≤ 40
theorem told_loop {c1 : Int32} {T : Nat} (hT : T ≤ 40) : ∀ (l l1 : List Int32) (n : Nat) (M : MS), l1.length + l.length = T → M.1 34 = nI T → seg (M.2.1 35) l1.length l → seg (M.2.1 47) 0 l1 → seg (M.2.1 48) 0 (List.replicate l1.length 0) → l.length < n →
    ∃ M', L12_serverText_10 c1 n (nI l1.length) M = some M' ∧ seg (M'.2.1 47) 0 (l1 ++ l) ∧ seg (M'.2.1 48) 0 (List.replicate T 0) ∧ Frm [47, 48] [] M M' := by
  intro l
  induction l with
  | nil =>
    intro l1 n M h1 h34 s1 s3 s4 hn
    obtain ⟨n, rfl⟩ : ∃ k, n = k + 1 := ⟨n - 1, by omega⟩
    rw [List.length_nil, Nat.add_zero] at h1
    unfold L12_serverText_10
    rw [show gF M 34 = nI T from h34, if_pos (nI_le (by omega) (by omega)), List.append_nil]
    exact ⟨M, rfl, s3, by rw [← h1]; exact s4, Frm_refl _ _ _⟩
  | cons v l ih =>
    intro l1 n M h1 h34 s1 s3 s4 hn
    rw [List.length_cons] at h1 hn
    obtain ⟨n, rfl⟩ : ∃ k, n = k + 1 := ⟨n - 1, by omega⟩
    obtain ⟨a1, a2⟩ := seg_cons s1
    have hf : Frm [47, 48] [] M (sR (sR M 47 (upd (M.2.1 47) l1.length v)) 48 (upd (M.2.1 48) l1.length 0)) := Frm_trans (Frm_sR (by decide)) (Frm_sR (by decide))
    have t1 : seg (upd (M.2.1 47) l1.length v) 0 (l1 ++ [v]) := by
      have := seg_snoc (v := v) s3
      rw [Nat.zero_add] at this
      exact this
    have t2 : seg (upd (M.2.1 48) l1.length 0) 0 (List.replicate (l1 ++ [v]).length 0) := by
      have := seg_snoc (v := 0) s4
      rw [Nat.zero_add, List.length_replicate] at this
      rw [List.length_append, List.length_singleton, List.replicate_succ']
      exact this
    obtain ⟨M', e1, e2, e3, e4⟩ := ih (l1 ++ [v]) n (sR (sR M 47 (upd (M.2.1 47) l1.length v)) 48 (upd (M.2.1 48) l1.length 0)) (by simp; omega) h34 (by rw [hf.1 35 (by decide), List.length_append, List.length_singleton]; exact a2) (by rw [sR_ne _ _ (by decide), sR_get]; exact t1) (by rw [sR_get]; exact t2) (by omega)
    rw [List.length_append, List.length_singleton] at e1
    rw [List.append_assoc] at e2
    refine ⟨M', ?_, e2, e3, Frm_trans hf e4⟩
    unfold L12_serverText_10
    rw [show gF M 34 = nI T from h34, if_neg (nI_ge (by omega) (by omega)), ld_n (show l1.length < 40 by omega), a1, Option.bind_some, sd_n (show l1.length < 300 by omega), Option.bind_some, sd_n (show l1.length < 300 by omega), sR_ne _ _ (by decide), Option.bind_some, nI_1]
    exact e1
theorem srv_loop {cnt N : Nat} (hN : N ≤ 104) (hc : cnt ≤ 4) : ∀ (l : List (Nat × List Int32)) (n i : Nat) (t u : List Int32) (M : MS), i + l.length = N → (∀ k o, l[k]? = some o → OpAt M (i + k) o) → chR cnt t.length l → t.length + putsR l ≤ 240 → u.length = t.length → M.1 49 = nI t.length → seg (M.2.1 47) 0 t → seg (M.2.1 48) 0 u → l.length < n →
    ∃ M', L12_serverText_45 (nI N) n (nI i) M = some M' ∧ M'.1 49 = nI (srvT t l).length ∧ seg (M'.2.1 47) 0 (srvT t l) ∧ seg (M'.2.1 48) 0 (srvB i u l) ∧ Frm [21, 29, 47, 48, 50] [26, 49] M M' := by
  intro l
  induction l with
  | nil =>
    intro n i t u M hi hop hch hs hut h49 s1 s2 hn
    obtain ⟨n, rfl⟩ : ∃ k, n = k + 1 := ⟨n - 1, by omega⟩
    rw [List.length_nil, Nat.add_zero] at hi
    unfold L12_serverText_45
    rw [if_pos (nI_le (by omega) (by omega))]
    exact ⟨M, rfl, h49, s1, s2, Frm_refl _ _ _⟩
  | cons o l ih =>
    intro n i t u M hi hop hch hs hut h49 s1 s2 hn
    rw [List.length_cons] at hi hn
    obtain ⟨n, rfl⟩ : ∃ k, n = k + 1 := ⟨n - 1, by omega⟩
    obtain ⟨c1, c2, c3, c4⟩ := hch
    rw [putsR] at hs
    have co := cnt_len c1
    have ho0 := hop 0 o rfl
    rw [Nat.add_zero] at ho0
    obtain ⟨M1, a1, a2, a3⟩ := opToB_ok ho0 c1 (by omega) (by omega)
    obtain ⟨M3, b1, b2, b3, b4⟩ := changesBoth_ok (c1 := nI (i + 1)) a2 c1 (by omega) (by rw [a3.1 47 (by decide)]; exact s1) (by rw [a3.1 48 (by decide)]; exact s2) hut (by omega) c3 (by omega)
    have fr : Frm [21, 29, 47, 48, 50] [26, 49] M (sF M3 49 (nI (newL o.2))) := Frm_trans (Frm_mono a3 (by simp) (by simp)) (Frm_trans (Frm_mono b4 (by simp) (by simp)) (Frm_sF (by decide)))
    have hl1 := chgL_len c1 t
    have hl2 := chgC_len (c := nI (i + 1)) c1 u
    obtain ⟨M', e1, e2, e3, e4, e5⟩ := ih n (i + 1) (chgL o.2 t) (chgC (nI (i + 1)) o.2 u) (sF M3 49 (nI (newL o.2))) (by omega) (fun k o' hk => by
      have := hop (k + 1) o' (by simpa using hk)
      rw [show i + (k + 1) = i + 1 + k by omega] at this
      unfold OpAt at this ⊢
      rw [fr.1 36 (by decide), fr.1 37 (by decide), fr.1 38 (by decide), fr.1 39 (by decide), fr.1 40 (by decide)]
      exact this) (by rw [hl1]; exact c4) (by omega) (by omega) (by rw [sF_get, hl1]) b2 b3 (by omega)
    refine ⟨M', ?_, e2, e3, e4, Frm_trans fr e5⟩
    unfold L12_serverText_45
    rw [if_neg (nI_ge (by omega) (by omega)), a1, Option.bind_some, nI_1, b1, bn2_s]
    exact e1
theorem serverText_ok {M : MS} {cnt n : Nat} {told : List Int32} {row : List (Nat × List Int32)} (hc : cnt ≤ 4) (hT : RT M told) (hR : RRow M row) (hch : chR cnt told.length row) (hsum : sumMk row ≤ 3000) (hp : told.length + putsR row ≤ 240) (hl : row.length ≤ 104) (hn : n ≤ row.length) :
    ∃ M', f12_serverText M (nI n) = some (nI (srvT told (row.take n)).length, M') ∧ M'.1 49 = nI (srvT told (row.take n)).length ∧ seg (M'.2.1 47) 0 (srvT told (row.take n)) ∧ seg (M'.2.1 48) 0 (srvB 0 (List.replicate told.length 0) (row.take n)) ∧ Frm [21, 29, 47, 48, 50] [26, 49] M M' ∧ (srvT told (row.take n)).length ≤ 240 := by
  obtain ⟨t1, t2, t3⟩ := hT
  have f0 : Frm [21, 29, 47, 48, 50] [26, 49] M (sF M 49 (gF M 34)) := Frm_sF (by decide)
  obtain ⟨M1, a1, a2, a3, a4⟩ := told_loop (c1 := nI n) (T := told.length) t3 told [] FU (sF M 49 (gF M 34)) (by simp) (by rw [f0.2.1 34 (by decide)]; exact t1) t2 (fun k hk => absurd hk (Nat.not_lt_zero _)) (fun k hk => absurd hk (Nat.not_lt_zero _)) (by rw [FU_eq]; omega)
  rw [List.nil_append] at a2
  have f1 : Frm [21, 29, 47, 48, 50] [26, 49] M M1 := Frm_trans f0 (Frm_mono a4 (by simp) (by simp))
  have hs : row.take n ++ row.drop n = row := List.take_append_drop n row
  have hch1 : chR cnt told.length (row.take n) := by
    rw [← hs, chR_app] at hch
    exact hch.1
  have hpr := putsR_drop row n
  obtain ⟨M3, b1, b2, b3, b4, b5⟩ := srv_loop (N := n) (by omega) hc (row.take n) FU 0 told (List.replicate told.length 0) M1 (by rw [List.length_take]; omega) (fun k o ho => by
    have hk : k < n := by
      have := (List.getElem?_eq_some_iff.mp ho).1
      rw [List.length_take] at this
      omega
    rw [List.getElem?_take_of_lt hk] at ho
    have := RRow_op hR hsum ho
    rw [Nat.zero_add]
    unfold OpAt at this ⊢
    rw [f1.1 36 (by decide), f1.1 37 (by decide), f1.1 38 (by decide), f1.1 39 (by decide), f1.1 40 (by decide)]
    exact this) hch1 (by omega) (by simp) (by rw [a4.2.1 49 (by simp), sF_get]; exact t1) a2 a3 (by rw [List.length_take, FU_eq]; omega)
  refine ⟨M3, ?_, b2, b3, b4, Frm_trans f1 b5, ?_⟩
  · unfold f12_serverText
    rw [show L12_serverText_10 (nI n) FU (0 : Int32) (sF M 49 (gF M 34)) = some M1 from a1, Option.bind_some, show L12_serverText_45 (nI n) FU (0 : Int32) M1 = some M3 from b1, Option.bind_some, show gF M3 49 = _ from b2]
  · have h1 := srvT_len _ _ hch1
    have h2 := lenA_cnt _ _ hch1
    omega
/-- the letter at a place of a text, as it is asked -/
def askT (t : List Int32) (k : Int32) : Int32 := if k = -1 then nI t.length else if 0 ≤ k.toInt ∧ k.toInt < t.length then t.getD k.toInt.toNat 0 else -1
theorem clampN {k : Int32} (h : 0 ≤ k.toInt) : k.toNatClampNeg = k.toInt.toNat := rfl
theorem ofI {k : Int32} (h : 0 ≤ k.toInt) : k = nI k.toInt.toNat := by
  have h1 : k.toInt < 2 ^ 31 := Int32.toInt_lt k
  apply Int32.toInt_inj.mp
  rw [nI_toInt (by omega)]
  omega
