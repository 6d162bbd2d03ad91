/-! ===== PART II, the reference: what it does with its rows, as lists ===== -/
theorem k1 : ((-1 : Int32) = 0) = False := eq_false (by decide)
theorem k2 : ((0 : Int32) = -1) = False := eq_false (by decide)
theorem k3 : ((0 : Int32) < 0) = False := eq_false (by decide)
theorem k4 : ((0 : Int32) ≤ 0) = True := eq_true (by decide)
theorem k5 : ((-1 : Int32) ≤ 0) = True := eq_true (by decide)
theorem k6 : ((-1 : Int32) < 0) = True := eq_true (by decide)
theorem k7 : ((0 : Int32) < -1) = False := eq_false (by decide)
theorem k8 : ((1 : Int32) = 0) = False := eq_false (by decide)
theorem k9 : ((0 : Int32) = 1) = False := eq_false (by decide)
theorem ok3 {v : Int32} (h : okV v) : v = 0 ∨ v = -1 ∨ ((0 < v) = True ∧ (v ≤ 0) = False ∧ (v < 0) = False ∧ (v = 0) = False ∧ (v = -1) = False) := by
  rcases h with rfl | rfl | ⟨w, h1, h2, rfl⟩
  · exact Or.inl rfl
  · exact Or.inr (Or.inl rfl)
  · refine Or.inr (Or.inr ⟨eq_true ?_, eq_false ?_, eq_false ?_, eq_false ?_, eq_false ?_⟩)
    · exact nI_lt (a := 0) (by omega) (by omega)
    · exact nI_nle (by omega) (by omega)
    · exact nI_pos (by omega)
    · exact nI_ne0 (by omega) (by omega)
    · intro h
      have h3 : (nI w).toInt = (-1 : Int32).toInt := by rw [h]
      rw [nI_toInt (by omega)] at h3
      have : (-1 : Int32).toInt = -1 := by decide
      omega
/-- all is as it was, but these arrays and these numbers -/
def Frm (As Fs : List Nat) (M M' : MS) : Prop := (∀ k, k ∉ As → M'.2.1 k = M.2.1 k) ∧ (∀ k, k ∉ Fs → M'.1 k = M.1 k) ∧ M'.2.2 = M.2.2
theorem Frm_refl (As Fs : List Nat) (M : MS) : Frm As Fs M M := ⟨fun _ _ => rfl, fun _ _ => rfl, rfl⟩
theorem Frm_trans {As Fs : List Nat} {M M' M'' : MS} (h1 : Frm As Fs M M') (h2 : Frm As Fs M' M'') : Frm As Fs M M'' :=
  ⟨fun k h => by rw [h2.1 k h, h1.1 k h], fun k h => by rw [h2.2.1 k h, h1.2.1 k h], by rw [h2.2.2, h1.2.2]⟩
theorem Frm_mono {As Fs As' Fs' : List Nat} {M M' : MS} (h : Frm As Fs M M') (h1 : ∀ k, k ∈ As → k ∈ As') (h2 : ∀ k, k ∈ Fs → k ∈ Fs') : Frm As' Fs' M M' :=
  ⟨fun k hk => h.1 k (fun hh => hk (h1 k hh)), fun k hk => h.2.1 k (fun hh => hk (h2 k hh)), h.2.2⟩
theorem Frm_sR {As Fs : List Nat} {M : MS} {k : Nat} {f : Nat → Int32} (h : k ∈ As) : Frm As Fs M (sR M k f) :=
  ⟨fun j hj => sR_ne _ _ (fun e => hj (e ▸ h)), fun _ _ => rfl, rfl⟩
theorem sF_get (M : MS) (k : Nat) (v : Int32) : (sF M k v).1 k = v := by unfold sF upd; simp
theorem sF_ne (M : MS) {j k : Nat} (v : Int32) (h : j ≠ k) : (sF M k v).1 j = M.1 j := by unfold sF upd; simp [h]
theorem Frm_sF {As Fs : List Nat} {M : MS} {k : Nat} {v : Int32} (h : k ∈ Fs) : Frm As Fs M (sF M k v) :=
  ⟨fun _ _ => rfl, fun j hj => sF_ne _ _ (fun e => hj (e ▸ h)), rfl⟩
/-- a row: its letters and how long it is -/
def Row (M : MS) (ka kf : Nat) (A : List Int32) : Prop := M.1 kf = nI A.length ∧ seg (M.2.1 ka) 0 A
theorem Row_frm {As Fs : List Nat} {M M' : MS} {ka kf : Nat} {A : List Int32} (h : Row M ka kf A) (hf : Frm As Fs M M') (h1 : ka ∉ As) (h2 : kf ∉ Fs) : Row M' ka kf A := by
  unfold Row
  rw [hf.1 _ h1, hf.2.1 _ h2]
  exact h
theorem seg_snoc {f : Nat → Int32} {a : Nat} {c : List Int32} {v : Int32} (h : seg f a c) : seg (upd f (a + c.length) v) a (c ++ [v]) := by
  intro k hk
  rw [List.length_append, List.length_singleton] at hk
  unfold upd
  by_cases h1 : k = c.length
  · subst h1; rw [if_pos rfl]; simp
  · rw [if_neg (by omega), h k (by omega), List.getD_eq_getElem?_getD, List.getD_eq_getElem?_getD, List.getElem?_append_left (by omega)]
/-- C is given one more -/
def gC (M : MS) (v : Int32) : MS := sF (sR M 22 (upd (M.2.1 22) (M.1 27).toNatClampNeg v)) 27 (M.1 27 + 1)
theorem gC_ok {M : MS} {c : List Int32} (h : Row M 22 27 c) (hl : c.length < 700) (v : Int32) : f12_givesC M v = some (gC M v) := by
  unfold f12_givesC gC
  have h1 : gF M 27 = nI c.length := h.1
  rw [h1, sd_n (show c.length < mLn 22 from hl), Option.bind_some]
  have h2 : M.1 27 = nI c.length := h.1
  rw [show gF (sR M 22 (upd (M.2.1 22) c.length v)) 27 = nI c.length from h.1, h2, nI_clamp (by omega)]
theorem gC_row {M : MS} {c : List Int32} (h : Row M 22 27 c) (hl : c.length < 700) (v : Int32) : Row (gC M v) 22 27 (c ++ [v]) := by
  have h1 : M.1 27 = nI c.length := h.1
  constructor
  · unfold gC
    rw [sF_get, h1, nI_1, List.length_append, List.length_singleton]
  · show seg ((sR M 22 (upd (M.2.1 22) (M.1 27).toNatClampNeg v)).2.1 22) 0 _
    rw [sR_get, h1, nI_clamp (by omega)]
    have := seg_snoc (v := v) h.2
    rw [Nat.zero_add] at this
    exact this
theorem gC_frm (M : MS) (v : Int32) : Frm [22] [27] M (gC M v) := Frm_trans (Frm_sR (by decide)) (Frm_sF (by decide))
/-- loops that copy a list from one array to another -/
theorem cpl {L : Nat → Int32 → MS → Option MS} {src dst s d N : Nat} {M : MS} (hne : src ≠ dst) (hs : s + N ≤ mLn src) (hd : d + N ≤ mLn dst)
    (h1 : ∀ n i f, i < N → L (n + 1) (nI i) (sR M dst f) = (ld (sR M dst f) src (nI (s + i))).bind fun v => (sd (sR M dst f) dst (nI (d + i)) v).bind fun M2 => L n (nI (i + 1)) M2)
    (h0 : ∀ n f, L (n + 1) (nI N) (sR M dst f) = some (sR M dst f)) :
    ∀ (l2 l1 : List Int32) (n : Nat) (f : Nat → Int32), l1.length + l2.length = N → seg (M.2.1 src) (s + l1.length) l2 → l2.length < n → L n (nI l1.length) (sR M dst (wr f d l1)) = some (sR M dst (wr f d (l1 ++ l2))) := by
  intro l2
  induction l2 with
  | nil =>
    intro l1 n f hN hseg hn
    obtain ⟨n, rfl⟩ : ∃ k, n = k + 1 := ⟨n - 1, by omega⟩
    rw [List.length_nil, Nat.add_zero] at hN
    rw [hN, h0, List.append_nil]
  | cons v l2 ih =>
    intro l1 n f hN hseg hn
    rw [List.length_cons] at hN hn
    obtain ⟨n, rfl⟩ : ∃ k, n = k + 1 := ⟨n - 1, by omega⟩
    obtain ⟨e1, e2⟩ := seg_cons hseg
    rw [h1 n _ _ (by omega), ld_n (by omega), sR_ne _ _ hne, e1, Option.bind_some, sd_n (by omega), Option.bind_some, sR_sR, sR_get, wr_snoc]
    have h3 := ih (l1 ++ [v]) n f (by simp; omega) (by rw [List.length_append, List.length_singleton, ← Nat.add_assoc]; exact e2) (by omega)
    rw [List.length_append, List.length_singleton] at h3
    rw [h3, List.append_assoc]
    rfl
theorem cpl0 {L : Nat → Int32 → MS → Option MS} {src dst s d : Nat} {M : MS} {l : List Int32} (hne : src ≠ dst) (hs : s + l.length ≤ mLn src) (hd : d + l.length ≤ mLn dst) (hn : l.length < FU) (hseg : seg (M.2.1 src) s l)
    (h1 : ∀ n i f, i < l.length → L (n + 1) (nI i) (sR M dst f) = (ld (sR M dst f) src (nI (s + i))).bind fun v => (sd (sR M dst f) dst (nI (d + i)) v).bind fun M2 => L n (nI (i + 1)) M2)
    (h0 : ∀ n f, L (n + 1) (nI l.length) (sR M dst f) = some (sR M dst f)) : L FU (0 : Int32) M = some (sR M dst (wr (M.2.1 dst) d l)) := by
  have h := cpl hne hs hd h1 h0 l [] FU (M.2.1 dst) (by simp) (by simpa using hseg) hn
  rw [wr_nil, sR_self] at h
  exact h
theorem takesCAsA_ok {M : MS} {C : List Int32} (h : Row M 22 27 C) (hl : C.length ≤ 700) : ∃ M', f12_takesCAsA M = some M' ∧ Row M' 20 25 C ∧ Frm [20] [25] M M' := by
  have e27 : ∀ f, gF (sR (sF M 25 (gF M 27)) 20 f) 27 = nI C.length := fun f => h.1
  have h2 : L12_takesCAsA_10 FU 0 (sF M 25 (gF M 27)) = some (sR (sF M 25 (gF M 27)) 20 (wr (M.2.1 20) 0 C)) := by
    refine cpl0 (src := 22) (s := 0) (d := 0) (by decide) (show 0 + C.length ≤ 700 by omega) (show 0 + C.length ≤ 700 by omega) (by rw [FU_eq]; omega) h.2 (fun n i f hi => ?_) (fun n f => ?_)
    · conv => lhs; unfold L12_takesCAsA_10
      rw [e27, if_neg (nI_ge hi (by omega)), Nat.zero_add, nI_1]
    · unfold L12_takesCAsA_10
      rw [e27, if_pos (nI_le (Nat.le_refl _) (by omega))]
  refine ⟨_, by unfold f12_takesCAsA; rw [h2, Option.bind_some], ⟨?_, ?_⟩, Frm_trans (Frm_sF (by decide)) (Frm_sR (by decide))⟩
  · rw [sR_F, sF_get]; exact h.1
  · rw [sR_get]; exact seg_wr
theorem takesDAsB_ok {M : MS} {C : List Int32} (h : Row M 23 28 C) (hl : C.length ≤ 700) : ∃ M', f12_takesDAsB M = some M' ∧ Row M' 21 26 C ∧ Frm [21] [26] M M' := by
  have e27 : ∀ f, gF (sR (sF M 26 (gF M 28)) 21 f) 28 = nI C.length := fun f => h.1
  have h2 : L12_takesDAsB_10 FU 0 (sF M 26 (gF M 28)) = some (sR (sF M 26 (gF M 28)) 21 (wr (M.2.1 21) 0 C)) := by
    refine cpl0 (src := 23) (s := 0) (d := 0) (by decide) (show 0 + C.length ≤ 700 by omega) (show 0 + C.length ≤ 700 by omega) (by rw [FU_eq]; omega) h.2 (fun n i f hi => ?_) (fun n f => ?_)
    · conv => lhs; unfold L12_takesDAsB_10
      rw [e27, if_neg (nI_ge hi (by omega)), Nat.zero_add, nI_1]
    · unfold L12_takesDAsB_10
      rw [e27, if_pos (nI_le (Nat.le_refl _) (by omega))]
  refine ⟨_, by unfold f12_takesDAsB; rw [h2, Option.bind_some], ⟨?_, ?_⟩, Frm_trans (Frm_sF (by decide)) (Frm_sR (by decide))⟩
  · rw [sR_F, sF_get]; exact h.1
  · rw [sR_get]; exact seg_wr
def idleB : List Int32 → Bool
  | [] => true
  | v :: l => decide (v = 0) && idleB l
theorem isIdle_loop {M : MS} {a1 : Nat} : ∀ (B : List Int32) (n k : Nat), seg (M.2.1 a1) k B → k + B.length ≤ mLn a1 → B.length < n → L12_isIdle_2 a1 (nI (k + B.length)) M n (nI k) = some (if idleB B then 1 else 0) := by
  have hs := mLn_s a1
  intro B
  induction B with
  | nil =>
    intro n k h hl hn
    obtain ⟨n, rfl⟩ : ∃ j, n = j + 1 := ⟨n - 1, by omega⟩
    unfold L12_isIdle_2
    rw [if_pos (nI_le (by simp) (by simp at hl ⊢; omega))]
    rfl
  | cons v B ih =>
    intro n k h hl hn
    rw [List.length_cons] at hl hn
    obtain ⟨n, rfl⟩ : ∃ j, n = j + 1 := ⟨n - 1, by omega⟩
    obtain ⟨e1, e2⟩ := seg_cons h
    unfold L12_isIdle_2
    rw [List.length_cons, if_neg (nI_ge (by omega) (by omega)), ld_n (by omega), e1, Option.bind_some]
    by_cases hv : v = 0
    · have h3 := ih n (k + 1) e2 (by omega) (by omega)
      rw [show k + 1 + B.length = k + (B.length + 1) by omega] at h3
      rw [if_pos hv, nI_1, h3]
      simp [idleB, hv]
    · rw [if_neg hv]
      simp [idleB, hv]
theorem isIdle_ok {M : MS} {a1 : Nat} {A : List Int32} (hseg : seg (M.2.1 a1) 0 A) (hl : A.length ≤ mLn a1) (h9 : A.length < 9000) : f12_isIdle M a1 (nI A.length) = some (if idleB A then 1 else 0) := by
  have h := isIdle_loop A FU 0 hseg (by omega) (by rw [FU_eq]; omega)
  rw [Nat.zero_add] at h
  have h' : L12_isIdle_2 a1 (nI A.length) M FU (0 : Int32) = some (if idleB A then 1 else 0) := h
  unfold f12_isIdle
  rw [h', Option.bind_some]
  cases idleB A <;> rfl
theorem turnR_len (ah : Bool) (A B : List Int32) : (turnR ah A B).1.length ≤ A.length + B.length ∧ (turnR ah A B).2.length ≤ A.length + B.length := by
  fun_induction turnR ah A B <;> (try split) <;> (try split) <;> simp only [List.length_cons, List.length_nil, List.length_append] at * <;> omega
theorem turns_ok {M : MS} {A B : List Int32} {ah : Bool} (hA : Row M 20 25 A) (hB : Row M 21 26 B) (ho : oldL A = oldL B) (hl : A.length + B.length ≤ 700) :
    ∃ M', f12_turns M (if ah then 1 else 0) = some M' ∧ Row M' 22 27 (settleL (turnR ah A B).1) ∧ Row M' 23 28 (settleL (turnR ah A B).2) ∧ Frm [22, 23, 24] [27, 28] M M' := by
  obtain ⟨lC, lD⟩ := turnR_len ah A B
  generalize hC : (turnR ah A B).1 = C at *
  generalize hD : (turnR ah A B).2 = D at *
  have e0 : sF (sF M 27 (0 : Int32)) 28 (0 : Int32) = cd M (M.2.1 22) (M.2.1 23) [] [] := by
    unfold cd
    rw [wr_nil, wr_nil]
    have h1 := congrArg (fun x : MS => x.2.1) (sR_self M 22)
    have h2 : va_up M.2.1 22 (M.2.1 22) = M.2.1 := h1
    have h3 := congrArg (fun x : MS => x.2.1) (sR_self M 23)
    have h4 : va_up M.2.1 23 (M.2.1 23) = M.2.1 := h3
    rw [h2, h4]
    rfl
  have h1 := turns_loop (M := M) (fC := M.2.1 22) (fD := M.2.1 23) (ah := ah) rfl (c1 := if ah then 1 else 0) hA.1 hB.1 (by omega) (by omega) (A.length + B.length) FU 0 0 A B [] [] rfl hA.2 hB.2 (by omega) (by omega) ho (by simp; omega) (by simp; omega) (by rw [FU_eq]; omega)
  rw [List.nil_append, List.nil_append, hC, hD] at h1
  have h1' : L12_turns_14 (if ah then 1 else 0) FU (0 : Int32) (0 : Int32) (cd M (M.2.1 22) (M.2.1 23) [] []) = some (cd M (M.2.1 22) (M.2.1 23) C D) := h1
  generalize hM1 : cd M (M.2.1 22) (M.2.1 23) C D = M1 at h1'
  have r1 : Row M1 22 27 C := by subst hM1; exact ⟨rfl, seg_wr⟩
  have r2 : Row M1 23 28 D := by subst hM1; exact ⟨rfl, seg_wr⟩
  have fr : Frm [22, 23, 24] [27, 28] M M1 := by
    subst hM1
    refine ⟨fun k hk => cd_A _ _ _ _ _ (fun e => hk (by simp [e])) (fun e => hk (by simp [e])), fun k hk => cd_F _ _ _ _ _ (fun e => hk (by simp [e])) (fun e => hk (by simp [e])), rfl⟩
  obtain ⟨g, h2⟩ := settles_ok (a1 := 22) (by decide) r1.2 (show C.length ≤ 700 by omega) (by omega)
  generalize hM3 : sR (sR M1 24 g) 22 (wr (M1.2.1 22) 0 (settleL C)) = M3 at h2
  have r3 : Row M3 22 27 (settleL C) := by
    subst hM3
    exact ⟨by rw [settleL_len]; exact r1.1, by rw [sR_get]; exact seg_wr⟩
  have f3 : Frm [22, 23, 24] [27, 28] M1 M3 := by subst hM3; exact Frm_trans (Frm_sR (by decide)) (Frm_sR (by decide))
  have r4 : Row M3 23 28 D := by
    subst hM3
    exact ⟨r2.1, by rw [sR_ne _ _ (by decide), sR_ne _ _ (by decide)]; exact r2.2⟩
  obtain ⟨g2, h3⟩ := settles_ok (a1 := 23) (by decide) r4.2 (show D.length ≤ 700 by omega) (by omega)
  refine ⟨sR (sR M3 24 g2) 23 (wr (M3.2.1 23) 0 (settleL D)), ?_, ?_, ?_, ?_⟩
  · unfold f12_turns
    rw [e0, h1', Option.bind_some, show gF M1 27 = nI C.length from r1.1, h2, Option.bind_some, show gF M3 28 = nI D.length from r4.1, h3, Option.bind_some]
  · exact ⟨r3.1, by rw [sR_ne _ _ (by decide), sR_ne _ _ (by decide)]; exact r3.2⟩
  · exact ⟨by rw [settleL_len]; exact r4.1, by rw [sR_get]; exact seg_wr⟩
  · exact Frm_trans fr (Frm_trans f3 (Frm_trans (Frm_sR (by decide)) (Frm_sR (by decide))))
