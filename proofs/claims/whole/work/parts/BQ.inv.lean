/-! ===== PART II, the class: rows of inverses ===== -/
theorem ldr_k {S : CS} {ck a i b : Nat} (h : kd S a = ck) (hi : i < cN S a) (hn : cN S a < 2 ^ 31) (hb : cB S a i = some b) : ldr S ck a (nI i) = some b := by
  unfold ldr
  rw [if_pos ⟨h, nI_in hi hn⟩, nI_clamp (by omega)]; exact hb
theorem str_k {S : CS} {ck cv a i b : Nat} (h : kd S a = ck) (hv : kd S b = cv) (hi : i < cN S a) (hn : cN S a < 2 ^ 31) : str S ck cv a (nI i) b = some (setB S a (va_up (cB S a) i (some b))) := by
  unfold str
  rw [if_pos ⟨⟨h, hv⟩, nI_in hi hn⟩, nI_clamp (by omega)]
theorem cB_self (S : CS) (a : Nat) (f : Nat → Option Nat) : cB (setB S a f) a = f := va_up_self _ _ _
/-- the places of a row of inverses -/
def InvS (S : CS) (v : Nat) (hs : List Nat) : Prop := (kd S v = 3 ∧ cJ S v 0 = some (v + 1) ∧ kd S (v + 1) = 17 ∧ cN S (v + 1) = 8) ∧ hs.length = 8 ∧ hs.Nodup ∧ (∀ h ∈ hs, v + 2 ≤ h ∧ h ≤ v + 16 ∧ kd S h = 4) ∧ ∀ i, i < 8 → cB S (v + 1) i = hs[i]?
def InvO (S : CS) (hs : List Nat) (s : List (Nat × List Int32)) : Prop := ∀ (i : Nat) (x : Nat × List Int32), s[i]? = some x → ∃ h : Nat, hs[i]? = some h ∧ OpL S h x.2
def InvL (S : CS) (v : Nat) (s : List (Nat × List Int32)) : Prop := ∃ hs, InvS S v hs ∧ cI S v 1 = nI s.length ∧ s.length ≤ 8 ∧ InvO S hs s
theorem InvS_Sg {z c : Nat} {H : Nat → Prop} {S S' : CS} {v : Nat} {hs : List Nat} (hW : Wf S) (hI : InvS S v hs) (hs' : Sg z H c S S') (hn : ¬ H (v + 1)) : InvS S' v hs := by
  obtain ⟨⟨a1, a2, a3, a4⟩, b1, b2, b3, b4⟩ := hI
  obtain ⟨f1, f2, f3, f4⟩ := hs'.2.1
  have vz := kd_lt hW.1 a1 (by omega)
  have vz1 := kd_lt hW.1 a3 (by omega)
  refine ⟨⟨by rw [(f2 v vz).1]; exact a1, ?_, by rw [(f2 _ vz1).1]; exact a3, by rw [(f2 _ vz1).2.1]; exact a4⟩, b1, b2, fun h hh => ?_, fun i hi => ?_⟩
  · rw [hs'.2.2.2.2.1 v 0 vz (by rw [a1]; unfold Sta; omega)]; exact a2
  · obtain ⟨c1, c2, c3⟩ := b3 h hh
    exact ⟨c1, c2, by rw [(f2 h (kd_lt hW.1 c3 (by omega))).1]; exact c3⟩
  · rw [((f2 _ vz1).2.2.2 hn).2.2]; exact b4 i hi
theorem InvO_Fo {H : Nat → Prop} {S S' : CS} {hs : List Nat} {s : List (Nat × List Int32)} (hW : Wf S) (hI : InvO S hs s) (hf : Fo H S S') (hn : ∀ i h, i < s.length → hs[i]? = some h → ¬ H h) : InvO S' hs s := by
  intro i x hx
  obtain ⟨h, h1, h2⟩ := hI i x hx
  exact ⟨h, h1, OpL_Fo hW h2 hf (hn i h (List.getElem?_eq_some_iff.mp hx).1 h1)⟩
theorem InvL_Sg {z c : Nat} {H : Nat → Prop} {S S' : CS} {v : Nat} {s : List (Nat × List Int32)} (hW : Wf S) (hI : InvL S v s) (hs' : Sg z H c S S') (hn : ∀ x, v ≤ x → x < v + 18 → ¬ H x) : InvL S' v s := by
  obtain ⟨hs, h1, h2, h3, h4⟩ := hI
  have vz := kd_lt hW.1 h1.1.1 (by omega)
  refine ⟨hs, InvS_Sg hW h1 hs' (hn _ (by omega) (by omega)), ?_, h3, InvO_Fo hW h4 hs'.2.1 (fun i h _ hh => ?_)⟩
  · rw [((hs'.2.1.2.1 v vz).2.2.2 (hn v (by omega) (by omega))).1]; exact h2
  · have := h1.2.2.2.1 h (List.mem_of_getElem? hh)
    exact hn h (by omega) (by omega)
theorem InvS_ld {S : CS} {v i : Nat} {hs : List Nat} (hI : InvS S v hs) (hi : i < 8) : ∃ h, hs[i]? = some h ∧ ldr S 17 (v + 1) (nI i) = some h ∧ (v + 2 ≤ h ∧ h ≤ v + 16 ∧ kd S h = 4) := by
  obtain ⟨⟨a1, a2, a3, a4⟩, b1, b2, b3, b4⟩ := hI
  have hl : i < hs.length := by omega
  refine ⟨hs[i], List.getElem?_eq_getElem hl, ldr_k a3 (by omega) (by omega) ?_, b3 _ (List.getElem_mem hl)⟩
  rw [b4 i hi, List.getElem?_eq_getElem hl]
theorem nd_ne {hs : List Nat} (h : hs.Nodup) {i j a b : Nat} (hi : hs[i]? = some a) (hj : hs[j]? = some b) (hne : i ≠ j) : a ≠ b := by
  intro e
  subst e
  obtain ⟨h1, h2⟩ := List.getElem?_eq_some_iff.mp hi
  obtain ⟨h3, h4⟩ := List.getElem?_eq_some_iff.mp hj
  have hp := List.pairwise_iff_getElem.mp h
  rcases Nat.lt_or_gt_of_ne hne with hlt | hlt
  · exact hp i j h1 h3 hlt (h2.trans h4.symm)
  · exact hp j i h3 h1 hlt (h4.trans h2.symm)
/-- the row turns by one -/
theorem rot_loop {z : Nat} {v c1 : Nat} {hs : List Nat} (hl : hs.length = 8) : ∀ (d i n : Nat) (S : CS), i + d = 8 → 1 ≤ i → d < n → Wf S → (kd S v = 3 ∧ cJ S v 0 = some (v + 1) ∧ kd S (v + 1) = 17 ∧ cN S (v + 1) = 8) → cI S v 1 = nI 8 → (∀ h ∈ hs, kd S h = 4) → (∀ j, j < 8 → cB S (v + 1) j = if j + 1 < i then hs[j + 1]? else hs[j]?) →
    ∃ S', LX3_addOne_38 v c1 n (nI i) S = some S' ∧ cI S' = cI S ∧ (∀ j, j < 8 → cB S' (v + 1) j = if j + 1 < 8 then hs[j + 1]? else hs[j]?) ∧ Sg z (fun x => x = v + 1) 0 S S' := by
  intro d
  induction d with
  | zero =>
    intro i n S hi h1 hn hW hv hs1 hk hB
    obtain ⟨n, rfl⟩ : ∃ k, n = k + 1 := ⟨n - 1, by omega⟩
    unfold LX3_addOne_38
    rw [gi_k hv.1, hs1, Option.bind_some, if_pos (nI_le (by omega) (by omega))]
    rw [show i = 8 by omega] at hB
    exact ⟨S, rfl, rfl, hB, Sg_refl hW⟩
  | succ d ih =>
    intro i n S hi h1 hn hW hv hs1 hk hB
    obtain ⟨n, rfl⟩ : ∃ k, n = k + 1 := ⟨n - 1, by omega⟩
    unfold LX3_addOne_38
    have hil : i < hs.length := by omega
    have hbi : cB S (v + 1) i = some hs[i] := by rw [hB i (by omega), if_neg (by omega), List.getElem?_eq_getElem hil]
    rw [gi_k hv.1, hs1, Option.bind_some, if_neg (nI_ge (by omega) (by omega)), gr_k hv.1 hv.2.1, Option.bind_some, Option.bind_some, ldr_k hv.2.2.1 (by omega) (by omega) hbi, Option.bind_some, show (1 : Int32) = nI 1 from rfl, nI_sub h1, str_k hv.2.2.1 (hk _ (List.getElem_mem hil)) (by omega) (by omega), Option.bind_some, nI_add]
    have s1 : Sg z (fun x => x = v + 1) 0 S (setB S (v + 1) (va_up (cB S (v + 1)) (i - 1) (some hs[i]))) := Sg_setB hW rfl (Or.inl hv.2.2.1)
    obtain ⟨S', e1, e2, e3, e4⟩ := ih (i + 1) n _ (by omega) (by omega) (by omega) s1.1 hv hs1 hk (fun j hj => by
      rw [cB_self]
      by_cases hji : j = i - 1
      · subst hji
        rw [va_up_self, if_pos (by omega), show i - 1 + 1 = i by omega, List.getElem?_eq_getElem hil]
      · rw [va_up_ne _ _ hji, hB j hj]
        by_cases hj2 : j + 1 < i
        · rw [if_pos hj2, if_pos (by omega)]
        · rw [if_neg hj2, if_neg (by omega)])
    exact ⟨S', e1, e2, e3, Sg_trans s1 e4⟩
/-- room for one more -/
theorem addOne_I {z : Nat} {S : CS} {v : Nat} {s : List (Nat × List Int32)} (hW : Wf S) (hI : InvL S v s) : ∃ S' h hs, f3_addOne S v = some (h, S') ∧ InvS S' v hs ∧ cI S' v 1 = nI ((if s.length = 8 then s.tail else s).length + 1) ∧ hs[(if s.length = 8 then s.tail else s).length]? = some h ∧ InvO S' hs (if s.length = 8 then s.tail else s) ∧ (if s.length = 8 then s.tail else s).length < 8 ∧ Sg z (fun x => x = v ∨ x = v + 1) 0 S S' := by
  obtain ⟨hs, h1, h2, h3, h4⟩ := hI
  obtain ⟨⟨a1, a2, a3, a4⟩, b1, b2, b3, b4⟩ := id h1
  unfold f3_addOne
  rw [gi_k a1, h2, Option.bind_some, gr_k a1 a2, Option.bind_some, aln_k a3, a4, Option.bind_some]
  by_cases h8 : s.length = 8
  · rw [if_pos h8, if_pos (nI_le (by omega) (by omega)), Option.bind_some]
    obtain ⟨h0, d1, d2, d3⟩ := InvS_ld h1 (i := 0) (by omega)
    have hFU := FU_gt
    obtain ⟨S1, e1, e2, e3, e4⟩ := rot_loop (z := z) (v := v) (c1 := h0) b1 7 1 FU S (by omega) (Nat.le_refl 1) (by omega) hW ⟨a1, a2, a3, a4⟩ (by rw [h2, h8]) (fun h hh => (b3 h hh).2.2) (fun j hj => by rw [b4 j hj, if_neg (by omega)])
    rw [show (0 : Int32) = nI 0 from rfl, d2, Option.bind_some, show (1 : Int32) = nI 1 from rfl, e1, Option.bind_some]
    have vz := kd_lt hW.1 a1 (by omega)
    have vz1 := kd_lt hW.1 a3 (by omega)
    have f2 := e4.2.1.2.1
    have k1 : kd S1 v = 3 := by rw [(f2 v vz).1]; exact a1
    have k2 : cJ S1 v 0 = some (v + 1) := by rw [e4.2.2.2.2.1 v 0 vz (by rw [a1]; unfold Sta; omega)]; exact a2
    have k3 : kd S1 (v + 1) = 17 := by rw [(f2 _ vz1).1]; exact a3
    have k4 : cN S1 (v + 1) = 8 := by rw [(f2 _ vz1).2.1]; exact a4
    have k5 : kd S1 h0 = 4 := by rw [(f2 h0 (kd_lt hW.1 d3.2.2 (by omega))).1]; exact d3.2.2
    rw [gr_k k1 k2, Option.bind_some, gi_k k1, e2, h2, h8, Option.bind_some, nI_sub (by omega), str_k k3 k5 (by omega) (by omega), Option.bind_some]
    have s2 : Sg z (fun x => x = v + 1) 0 S1 (setB S1 (v + 1) (va_up (cB S1 (v + 1)) (8 - 1) (some h0))) := Sg_setB e4.1 rfl (Or.inl k3)
    have hs1 : hs = h0 :: hs.tail := by
      cases hs with
      | nil => cases d1
      | cons q hs => rw [List.tail_cons]; congr 1; exact Option.some.inj d1
    have htl : hs.tail.length = 7 := by rw [List.length_tail]; omega
    have sS := Sg_trans e4 s2
    have hnd : (hs.tail ++ [h0]).Nodup := by
      rw [hs1] at b2
      have := List.nodup_cons.mp b2
      rw [List.nodup_append]
      refine ⟨this.2, by simp, fun a ha b hb => ?_⟩
      rw [List.mem_singleton.mp hb]
      intro e; subst e; exact this.1 ha
    refine ⟨_, h0, hs.tail ++ [h0], rfl, ⟨⟨k1, k2, k3, k4⟩, by rw [List.length_append, htl]; rfl, hnd, fun h hh => ?_, fun i hi => ?_⟩, ?_, ?_, ?_, ?_, ?_⟩
    · have hm : h ∈ hs := by
        rcases List.mem_append.mp hh with hh | hh
        · exact List.mem_of_mem_tail hh
        · rw [List.mem_singleton.mp hh, hs1]; exact List.mem_cons_self
      obtain ⟨c1, c2, c3⟩ := b3 h hm
      refine ⟨c1, c2, ?_⟩
      show kd S1 h = 4
      rw [(f2 h (kd_lt hW.1 c3 (by omega))).1]; exact c3
    · rw [cB_self]
      by_cases hi7 : i = 7
      · subst hi7
        rw [show (8 - 1 : Nat) = 7 from rfl, va_up_self, List.getElem?_append_right (by omega), htl]; rfl
      · rw [va_up_ne _ _ (by omega), e3 i hi, if_pos (by omega), List.getElem?_append_left (by omega), List.getElem?_tail]
    · show cI S1 v 1 = _
      rw [e2, h2, List.length_tail, h8]
    · rw [List.length_tail, h8, List.getElem?_append_right (by omega), htl]; rfl
    · intro i x hx
      rw [List.getElem?_tail] at hx
      obtain ⟨h, q1, q2⟩ := h4 (i + 1) x hx
      have hil := (List.getElem?_eq_some_iff.mp hx).1
      refine ⟨h, ?_, OpL_Fo hW q2 sS.2.1 (fun e => by have := OpL_kd q2; rw [e, a3] at this; omega)⟩
      rw [List.getElem?_append_left (by omega), List.getElem?_tail]; exact q1
    · rw [List.length_tail]; omega
    · exact Sg_mono hW sS (fun x hx => Or.inr hx) (Nat.le_refl 0)
  · rw [if_neg h8, if_neg (nI_ge (by omega) (by omega)), Option.bind_some, Option.bind_some, nI_1, pi_k a1, Option.bind_some]
    have s1 : Sg z (fun x => x = v ∨ x = v + 1) 0 S (setI S v 1 (nI (s.length + 1))) := Sg_setI hW (Or.inl rfl)
    obtain ⟨h0, d1, d2, d3⟩ := InvS_ld h1 (i := s.length) (by omega)
    have d2' : ldr (setI S v 1 (nI (s.length + 1))) 17 (v + 1) (nI s.length) = some h0 := d2
    rw [d2', Option.bind_some]
    refine ⟨_, h0, hs, rfl, h1, cI_self _ _ _ _, d1, ?_, by omega, s1⟩
    exact InvO_Fo hW h4 s1.2.1 (fun i h _ hh e => by
      have := b3 h (List.mem_of_getElem? hh)
      omega)
/-- the one that was made room for is there now -/
theorem InvL_push {S : CS} {v h : Nat} {hs : List Nat} {s : List (Nat × List Int32)} {x : Nat × List Int32} (hI : InvS S v hs) (hc : cI S v 1 = nI (s.length + 1)) (hl : s.length < 8) (hh : hs[s.length]? = some h) (ho : InvO S hs s) (hx : OpL S h x.2) : InvL S v (s ++ [x]) := by
  refine ⟨hs, hI, by rw [List.length_append, List.length_singleton]; exact hc, by rw [List.length_append, List.length_singleton]; omega, fun i y hy => ?_⟩
  by_cases hi : i < s.length
  · rw [List.getElem?_append_left hi] at hy
    exact ho i y hy
  · have hil := (List.getElem?_eq_some_iff.mp hy).1
    rw [List.length_append, List.length_singleton] at hil
    have : i = s.length := by omega
    subst this
    rw [List.getElem?_append_right (Nat.le_refl _), Nat.sub_self] at hy
    have : x = y := Option.some.inj hy
    subst this
    exact ⟨h, hh, hx⟩
theorem lat_loop {S : CS} {v : Nat} {hs : List Nat} {s : List (Nat × List Int32)} (hW : Wf S) (hI : InvS S v hs) (ho : InvO S hs s) (hl : s.length ≤ 8) : ∀ (k n : Nat), k ≤ s.length → k < n → LX3_findLatestThatChanges_7 v S n (nI k - 1) = some (match lastN s k with | some j => nI j | none => -1) := by
  intro k
  induction k with
  | zero =>
    intro n hk hn
    obtain ⟨n, rfl⟩ : ∃ k, n = k + 1 := ⟨n - 1, by omega⟩
    unfold LX3_findLatestThatChanges_7
    rw [if_pos (by decide)]
    rfl
  | succ k ih =>
    intro n hk hn
    obtain ⟨n, rfl⟩ : ∃ k, n = k + 1 := ⟨n - 1, by omega⟩
    unfold LX3_findLatestThatChanges_7
    obtain ⟨h, d1, d2, d3⟩ := InvS_ld hI (i := k) (by omega)
    have hx : s[k]? = some s[k] := List.getElem?_eq_getElem (by omega)
    obtain ⟨h', q1, q2⟩ := ho k _ hx
    have : h' = h := Option.some.inj (q1.symm.trans d1)
    subst this
    rw [nI_pred, if_neg (nI_pos (by omega)), gr_k hI.1.1 hI.1.2.1, Option.bind_some, d2, Option.bind_some, cal_k d3.2.2, changes_N hW q2, Option.bind_some, lastN, hx]
    dsimp only
    cases hb : idleB s[k].2 with
    | true =>
      rw [if_pos (show bI (!true) = 0 from rfl), if_pos rfl, show nI k + (-1 : Int32) = nI k - 1 by rw [Int32.sub_eq_add_neg]]
      exact ih n (by omega) (by omega)
    | false => rw [if_neg (show ¬ bI (!false) = 0 by decide), if_neg (by decide)]
theorem latest_I {S : CS} {v : Nat} {s : List (Nat × List Int32)} (hW : Wf S) (hI : InvL S v s) : f3_findLatestThatChanges S v = some (match lastN s s.length with | some j => nI j | none => -1) := by
  obtain ⟨hs, h1, h2, h3, h4⟩ := hI
  have hFU := FU_gt
  unfold f3_findLatestThatChanges
  rw [gi_k h1.1.1, h2, Option.bind_some, lat_loop hW h1 h4 h3 s.length FU (Nat.le_refl _) (by omega), Option.bind_some]
  have key : ∀ k, k ≤ s.length → ∀ j, lastN s k = some j → j < 8 := by
    intro k
    induction k with
    | zero => intro _ j hj; cases hj
    | succ k ih =>
      intro hk j hj
      rw [lastN, List.getElem?_eq_getElem (show k < s.length by omega)] at hj
      dsimp only at hj
      split at hj
      · exact ih (by omega) j hj
      · have := Option.some.inj hj; omega
  cases hc : lastN s s.length with
  | none => rfl
  | some j =>
    have := key s.length (Nat.le_refl _) j hc
    dsimp only
    rw [if_neg (nI_pos (by omega))]; rfl
theorem askLatest_I {S : CS} {v : Nat} {s : List (Nat × List Int32)} (hW : Wf S) (hI : InvL S v s) (k what : Int32) : f3_askLatest S v k what = some (match s.getLast? with | some x => askS x.2 k what | none => -1) := by
  obtain ⟨hs, h1, h2, h3, h4⟩ := hI
  unfold f3_askLatest
  rw [gi_k h1.1.1, h2, Option.bind_some]
  by_cases h0 : s.length = 0
  · rw [h0, if_pos (by decide), List.length_eq_zero_iff.mp h0]; rfl
  · rw [if_neg (z_nle (by omega) (by omega)), gr_k h1.1.1 h1.1.2.1, Option.bind_some, Option.bind_some, show (1 : Int32) = nI 1 from rfl, nI_sub (by omega)]
    obtain ⟨h, d1, d2, d3⟩ := InvS_ld h1 (i := s.length - 1) (by omega)
    have hx : s[s.length - 1]? = some s[s.length - 1] := List.getElem?_eq_getElem (by omega)
    obtain ⟨h', q1, q2⟩ := h4 _ _ hx
    have : h' = h := Option.some.inj (q1.symm.trans d1)
    subst this
    rw [d2, Option.bind_some, cal_k d3.2.2, ask_N hW q2, List.getLast?_eq_getElem?, hx]
    rfl
