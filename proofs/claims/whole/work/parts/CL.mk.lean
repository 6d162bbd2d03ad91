/-! ===== PART II, the class: objects are made ===== -/
def Wb (S : CS) : Prop := (∀ x ∈ cL S, x < cZ S) ∧ (∀ x k a, cJ S x k = some a → x < cZ S ∧ a < cZ S) ∧ (∀ x y j k a, cJ S x j = some a → cJ S y k = some a → kd S a = 14 → x = y ∧ j = k)
def okC (S : CS) (x : Nat) : Prop := (kd S x = 4 → ∃ a, cJ S x 0 = some a ∧ kd S a = 14 ∧ 8 ≤ cN S a ∧ cN S a ≤ 1600 ∧ (cN S a = 8 ∨ 16 ≤ cN S a)) ∧ (∀ k, (kd S x = 7 ∧ k = 0) ∨ (kd S x = 9 ∧ k = 4) → ∃ a, cJ S x k = some a ∧ kd S a = 14 ∧ cN S a = 240)
theorem Wf_of {S : CS} (h : Wb S) (hk : ∀ x, okC S x) : Wf S := ⟨h.1, h.2.1, h.2.2, fun x hx => (hk x).1 hx, fun x k hx => (hk x).2 k hx⟩
theorem Wb_of {S : CS} (h : Wf S) : Wb S := ⟨h.1, h.2.1, h.2.2.1⟩
def okN (k : Nat) : Prop := k ≠ 4 ∧ k ≠ 7 ∧ k ≠ 9
/-- new cells: n of them, u slots, D what may still be wanted for them; of the old ones only H changes -/
def Mk (z ex : Nat) (H : Nat → Prop) (n u D : Nat) (S S' : CS) : Prop :=
  Wb S' ∧ (cZ S' = cZ S + n ∧ cU S' = cU S + u) ∧ (∀ x, x < cZ S → kd S' x = kd S x ∧ cN S' x = cN S x ∧ cA S' x = cA S x ∧ (¬ H x → cI S' x = cI S x ∧ cJ S' x = cJ S x ∧ cB S' x = cB S x)) ∧ (∀ h k a, cJ S' h k = some a → a < cZ S → kd S a = 14 → h < cZ S ∧ cJ S h k = some a) ∧ (∀ x, cZ S ≤ x → x ≠ ex → okC S' x) ∧ sumN (dfc z S') (cZ S') ≤ sumN (dfc z S) (cZ S) + D
theorem kd_no {S : CS} {x : Nat} (h : ∀ y ∈ cL S, y < cZ S) (hx : cZ S ≤ x) : kd S x = 99 := by
  unfold kd
  rw [if_neg (fun hm => by have := h x hm; omega)]
theorem okC_no {S : CS} {x : Nat} (h : kd S x ≠ 4 ∧ kd S x ≠ 7 ∧ kd S x ≠ 9) : okC S x := ⟨fun hh => absurd hh h.1, fun k hh => by rcases hh with hh | hh <;> omega⟩
theorem Mk_trans {z ex n u D n' u' D' : Nat} {H H' : Nat → Prop} {S S' S'' : CS} (h1 : Mk z ex H n u D S S') (h2 : Mk z ex H' n' u' D' S' S'') (hm : ∀ x, x < cZ S → H' x → H x) (hk : ∀ x, H' x → x < cZ S' → okN (kd S' x) ∨ x = ex) : Mk z ex H (n + n') (u + u') (D + D') S S'' := by
  obtain ⟨a1, ⟨a2, a3⟩, a4, a5, a6, a7⟩ := h1
  obtain ⟨b1, ⟨b2, b3⟩, b4, b5, b6, b7⟩ := h2
  refine ⟨b1, ⟨by omega, by omega⟩, fun x hx => ?_, fun h k a hj ha hk14 => ?_, fun x hx hne => ?_, by omega⟩
  · obtain ⟨c1, c2, c3, c4⟩ := a4 x hx
    obtain ⟨d1, d2, d3, d4⟩ := b4 x (by omega)
    refine ⟨d1.trans c1, d2.trans c2, d3.trans c3, fun hn => ?_⟩
    obtain ⟨e1, e2, e3⟩ := c4 hn
    obtain ⟨g1, g2, g3⟩ := d4 (fun hh => hn (hm x hx hh))
    exact ⟨g1.trans e1, g2.trans e2, g3.trans e3⟩
  · obtain ⟨c1, c2⟩ := b5 h k a hj (by omega) (by rw [(a4 a ha).1]; exact hk14)
    exact a5 h k a c2 ha hk14
  · by_cases hx2 : cZ S' ≤ x
    · exact b6 x hx2 hne
    · have ho := a6 x hx hne
      obtain ⟨d1, d2, d3, d4⟩ := b4 x (by omega)
      have nh : ¬ okN (kd S' x) → cJ S'' x = cJ S' x := fun hh => (d4 (fun hh2 => (hk x hh2 (by omega)).elim hh hne)).2.1
      have ar : ∀ k a, cJ S' x k = some a → kd S'' a = kd S' a ∧ cN S'' a = cN S' a := fun k a ha => by
        have := b4 a (a1.2.1 x k a ha).2
        exact ⟨this.1, this.2.1⟩
      refine ⟨fun hh => ?_, fun k hh => ?_⟩
      · rw [d1] at hh
        obtain ⟨a, q1, q2, q3⟩ := ho.1 hh
        obtain ⟨r1, r2⟩ := ar 0 a q1
        exact ⟨a, by rw [nh (fun hn => hn.1 hh)]; exact q1, by rw [r1]; exact q2, by rw [r2]; exact q3⟩
      · rw [d1] at hh
        obtain ⟨a, q1, q2, q3⟩ := ho.2 k hh
        obtain ⟨r1, r2⟩ := ar k a q1
        exact ⟨a, by rw [nh (fun hn => hh.elim (fun h => hn.2.1 h.1) (fun h => hn.2.2 h.1))]; exact q1, by rw [r1]; exact q2, by rw [r2]; exact q3⟩
/-- only numbers, object references, rows of references of what is made change -/
theorem Mk_same {z ex : Nat} {H : Nat → Prop} {S S' : CS} (hW : Wb S) (hL : cL S' = cL S) (hK : cK S' = cK S) (hN : cN S' = cN S) (hZ : cZ S' = cZ S) (hU : cU S' = cU S) (hA : cA S' = cA S) (hI : ∀ x, ¬ H x → cI S' x = cI S x) (hB : ∀ x, ¬ H x → cB S' x = cB S x) (hJ : ∀ x, ¬ H x → cJ S' x = cJ S x) (hJ2 : ∀ x k a, cJ S' x k = some a → cJ S x k = some a ∨ (x < cZ S ∧ a < cZ S ∧ kd S a ≠ 14)) (hH : ∀ x, H x → kd S x ≠ 4) : Mk z ex H 0 0 0 S S' := by
  have hk : ∀ x, kd S' x = kd S x := fun x => by unfold kd; rw [hL, hK]
  refine ⟨⟨by rw [hL, hZ]; exact hW.1, fun x k a ha => ?_, fun x y j k a h1 h2 h3 => ?_⟩, ⟨by omega, by omega⟩, fun x hx => ⟨hk x, by rw [hN], by rw [hA], fun hn => ⟨hI x hn, hJ x hn, hB x hn⟩⟩, fun h k a hj ha hk14 => ?_, fun x hx _ => okC_no ?_, ?_⟩
  · rcases hJ2 x k a ha with h | h
    · rw [hZ]; exact hW.2.1 x k a h
    · rw [hZ]; exact ⟨h.1, h.2.1⟩
  · rw [hk] at h3
    rcases hJ2 x j a h1 with h | h
    · rcases hJ2 y k a h2 with h' | h'
      · exact hW.2.2 x y j k a h h' h3
      · exact absurd h3 h'.2.2
    · exact absurd h3 h.2.2
  · rcases hJ2 h k a hj with h' | h'
    · exact ⟨(hW.2.1 h k a h').1, h'⟩
    · exact absurd hk14 h'.2.2
  · rw [hk, kd_no hW.1 hx]; omega
  · rw [hZ, Nat.add_zero, sumN_congr (fun x _ => show dfc z S' x = dfc z S x by
      unfold dfc
      rw [hk]
      by_cases h4 : kd S x = 4
      · rw [if_pos h4, if_pos h4]
        have : lenO S' x = lenO S x := by unfold lenO; rw [hJ x (fun hh => hH x hh h4), hN]
        rw [this]
      · rw [if_neg h4, if_neg h4])]
    exact Nat.le_refl _
theorem mk_pi {z ex : Nat} {S : CS} {h k : Nat} {v : Int32} (hW : Wb S) (h4 : kd S h ≠ 4) : Mk z ex (fun x => x = h) 0 0 0 S (setI S h k v) :=
  Mk_same hW rfl rfl rfl rfl rfl rfl (fun x hx => va_up_ne _ _ hx) (fun _ _ => rfl) (fun _ _ => rfl) (fun _ _ _ hh => Or.inl hh) (fun x hx => by rw [hx]; exact h4)
theorem mk_pr {z ex : Nat} {S : CS} {h k b : Nat} (hW : Wb S) (h4 : kd S h ≠ 4) (hz : h < cZ S) (hb : b < cZ S) (hk : kd S b ≠ 14) : Mk z ex (fun x => x = h) 0 0 0 S (setJ S h k (some b)) :=
  Mk_same hW rfl rfl rfl rfl rfl rfl (fun _ _ => rfl) (fun _ _ => rfl) (fun x hx => va_up_ne _ _ hx) (fun x j a hh => by
    rw [cJ_set] at hh
    by_cases q : x = h ∧ j = k
    · rw [if_pos q] at hh
      have := Option.some.inj hh
      subst this
      exact Or.inr ⟨by omega, hb, hk⟩
    · rw [if_neg q] at hh; exact Or.inl hh) (fun x hx => by rw [hx]; exact h4)
theorem mk_str {z ex : Nat} {S : CS} {a : Nat} {f : Nat → Option Nat} (hW : Wb S) (h4 : kd S a ≠ 4) : Mk z ex (fun x => x = a) 0 0 0 S (setB S a f) :=
  Mk_same hW rfl rfl rfl rfl rfl rfl (fun _ _ => rfl) (fun x hx => va_up_ne _ _ hx) (fun _ _ => rfl) (fun _ _ _ hh => Or.inl hh) (fun x hx => by rw [hx]; exact h4)
theorem kd_bornO {S : CS} {ci n x : Nat} (hx : x < cZ S) : kd (bornO S ci n) x = kd S x := by
  have h1 : x ∈ cL (bornO S ci n) ↔ x ∈ cL S := by
    show x ∈ cL S ++ [cZ S] ↔ _
    rw [List.mem_append, List.mem_singleton]
    constructor
    · rintro (h | h)
      · exact h
      · omega
    · exact Or.inl
  have h2 : cK (bornO S ci n) x = cK S x := va_up_ne _ _ (show x ≠ cZ S by omega)
  unfold kd
  by_cases hm : x ∈ cL S
  · rw [if_pos (h1.mpr hm), if_pos hm, h2]
  · rw [if_neg (fun hh => hm (h1.mp hh)), if_neg hm]
theorem kd_newO (S : CS) (ci n : Nat) : kd (bornO S ci n) (cZ S) = ci := by
  unfold kd
  rw [if_pos (show cZ S ∈ cL (bornO S ci n) from List.mem_append_right _ List.mem_cons_self)]
  exact va_up_self _ _ _
theorem nwo_k {X : Nat × Nat} {S : CS} {ci n : Nat} (hz : cZ S < X.1) (hu : cU S + n ≤ X.2) : nwo X S ci n = some (bornO S ci n) := by
  unfold nwo; rw [if_pos ⟨hz, hu⟩]
theorem nwr_k {X : Nat × Nat} {S : CS} {ck n : Nat} (hz : cZ S < X.1) (hu : cU S + n ≤ X.2) (hn : n < 1000000) : nwa X S ck (nI n) = some (bornA S ck n) := by
  unfold nwa
  have h1 : (nI n).toNatClampNeg = n := nI_clamp (by omega)
  rw [h1, if_pos ⟨⟨hz, hu⟩, by rw [Int32.lt_iff_toInt_lt, nI_toInt (by omega), show (0 : Int32).toInt = 0 from by decide]; omega⟩]
/-- an object without rows of its own is born -/
theorem mk_obj {z ex : Nat} {S : CS} {ci n : Nat} (hW : Wb S) (hc : ci ≠ 4 ∧ ci ≠ 7 ∧ (ci ≠ 9 ∨ ex = cZ S)) : Mk z ex (fun _ => False) 1 n 0 S (bornO S ci n) := by
  have hL : cL (bornO S ci n) = cL S ++ [cZ S] := rfl
  have nJ : ∀ k, cJ S (cZ S) k = none := fun k => by
    cases h : cJ S (cZ S) k with
    | none => rfl
    | some a => have := (hW.2.1 _ _ _ h).1; omega
  have eJ : cJ (bornO S ci n) = cJ S := by
    funext x
    by_cases hx : x = cZ S
    · rw [hx]
      show va_up S.2.2.2.1 (cZ S) (fun _ => none) (cZ S) = _
      rw [va_up_self]
      funext k
      exact (nJ k).symm
    · exact va_up_ne _ _ hx
  refine ⟨⟨fun x hx => ?_, fun x k a ha => ?_, fun x y j k a h1 h2 h3 => ?_⟩, ⟨rfl, rfl⟩, fun x hx => ⟨kd_bornO hx, rfl, rfl, fun _ => ⟨va_up_ne _ _ (show x ≠ cZ S by omega), by rw [eJ], rfl⟩⟩, fun h k a hj ha hk14 => ?_, fun x hx hne => ?_, ?_⟩
  · rw [hL] at hx
    show x < cZ S + 1
    rcases List.mem_append.mp hx with hx | hx
    · have := hW.1 x hx; omega
    · have := List.mem_singleton.mp hx; omega
  · rw [eJ] at ha
    have := hW.2.1 x k a ha
    exact ⟨by show x < cZ S + 1; omega, by show a < cZ S + 1; omega⟩
  · rw [eJ] at h1 h2
    have := (hW.2.1 x j a h1).2
    rw [kd_bornO this] at h3
    exact hW.2.2 x y j k a h1 h2 h3
  · rw [eJ] at hj
    exact ⟨(hW.2.1 h k a hj).1, hj⟩
  · apply okC_no
    by_cases hx2 : x = cZ S
    · rw [hx2, kd_newO]; exact ⟨hc.1, hc.2.1, hc.2.2.elim (fun h => h) (fun h => absurd (by rw [hx2, h]) hne)⟩
    · have : kd (bornO S ci n) x = 99 := kd_no (S := bornO S ci n) (fun y hy => by
        rw [hL] at hy
        show y < cZ S + 1
        rcases List.mem_append.mp hy with hy | hy
        · have := hW.1 y hy; omega
        · have := List.mem_singleton.mp hy; omega) (by show cZ S + 1 ≤ x; omega)
      rw [this]; omega
  · show sumN (dfc z (bornO S ci n)) (cZ S + 1) ≤ _
    rw [sumN, show dfc z (bornO S ci n) (cZ S) = 0 from by unfold dfc; rw [kd_newO, if_neg hc.1], sumN_congr (fun x hx => show dfc z (bornO S ci n) x = dfc z S x by
      unfold dfc lenO
      rw [kd_bornO hx, eJ]
      rfl)]
    omega
theorem obj_f (S : CS) (ci n : Nat) : (∀ k, cI (bornO S ci n) (cZ S) k = 0) ∧ (∀ k, cJ (bornO S ci n) (cZ S) k = none) := by
  refine ⟨fun k => ?_, fun k => ?_⟩
  · show va_up S.2.2.1 (cZ S) (fun _ => 0) (cZ S) k = 0
    rw [va_up_self]
  · show va_up S.2.2.2.1 (cZ S) (fun _ => none) (cZ S) k = none
    rw [va_up_self]
/-- a row is born, and is a field's -/
theorem mk_arr {z ex : Nat} {S : CS} {h k ck n : Nat} (hW : Wb S) (hz : h < cZ S) (h4 : kd S h ≠ 4) (hck : ck = 14 ∨ (16 ≤ ck ∧ ck ≤ 19)) : Mk z ex (fun x => x = h) 1 n 0 S (setJ (bornA S ck n) h k (some (cZ S))) := by
  generalize hT : setJ (bornA S ck n) h k (some (cZ S)) = T
  have eL : cL T = cL S ++ [cZ S] := by rw [← hT]; rfl
  have eZ : cZ T = cZ S + 1 := by rw [← hT]; rfl
  have eJ : ∀ x j, cJ T x j = if x = h ∧ j = k then some (cZ S) else cJ S x j := fun x j => by rw [← hT]; exact cJ_set (S := bornA S ck n)
  have ek : ∀ x, x < cZ S → kd T x = kd S x := fun x hx => by rw [← hT]; exact kd_bornA (n := n) hx
  have ekn : kd T (cZ S) = ck := by rw [← hT]; exact kd_newA S ck n
  have eN : ∀ x, x < cZ S → cN T x = cN S x := fun x hx => by rw [← hT]; exact va_up_ne _ _ (show x ≠ cZ S by omega)
  have hlt : ∀ x ∈ cL T, x < cZ T := fun x hx => by
    rw [eL] at hx
    rcases List.mem_append.mp hx with hx | hx
    · have := hW.1 x hx; omega
    · have := List.mem_singleton.mp hx; omega
  refine ⟨⟨hlt, fun x j b hb => ?_, fun x y j j' b h1 h2 h3 => ?_⟩, ⟨eZ, by rw [← hT]; rfl⟩, fun x hx => ⟨ek x hx, eN x hx, by rw [← hT]; exact va_up_ne _ _ (show x ≠ cZ S by omega), fun hn => ⟨by rw [← hT]; rfl, ?_, by rw [← hT]; exact va_up_ne _ _ (show x ≠ cZ S by omega)⟩⟩, fun y j b hj hb hk14 => ?_, fun x hx hne => ?_, ?_⟩
  · rw [eJ] at hb
    by_cases q : x = h ∧ j = k
    · rw [if_pos q] at hb
      have := Option.some.inj hb
      omega
    · rw [if_neg q] at hb
      have := hW.2.1 x j b hb
      omega
  · rw [eJ] at h1 h2
    by_cases q : x = h ∧ j = k
    · rw [if_pos q] at h1
      have hb := Option.some.inj h1
      by_cases q2 : y = h ∧ j' = k
      · exact ⟨q.1.trans q2.1.symm, q.2.trans q2.2.symm⟩
      · rw [if_neg q2] at h2
        have := (hW.2.1 y j' b h2).2
        omega
    · rw [if_neg q] at h1
      have hb := (hW.2.1 x j b h1).2
      by_cases q2 : y = h ∧ j' = k
      · rw [if_pos q2] at h2
        have := Option.some.inj h2
        omega
      · rw [if_neg q2] at h2
        rw [ek b hb] at h3
        exact hW.2.2 x y j j' b h1 h2 h3
  · funext j
    rw [eJ, if_neg (fun q => hn q.1)]
  · rw [eJ] at hj
    by_cases q : y = h ∧ j = k
    · rw [if_pos q] at hj
      have := Option.some.inj hj
      omega
    · rw [if_neg q] at hj
      exact ⟨(hW.2.1 y j b hj).1, hj⟩
  · apply okC_no
    by_cases hx2 : x = cZ S
    · rw [hx2, ekn]; omega
    · rw [kd_no hlt (by omega)]; omega
  · rw [eZ, sumN, show dfc z T (cZ S) = 0 from by unfold dfc; rw [ekn, if_neg (by omega)], sumN_congr (fun x hx => show dfc z T x = dfc z S x by
      unfold dfc
      rw [ek x hx]
      by_cases q4 : kd S x = 4
      · rw [if_pos q4, if_pos q4]
        have : lenO T x = lenO S x := by
          unfold lenO
          rw [eJ, if_neg (fun q => h4 (by rw [← q.1]; exact q4))]
          cases hc : cJ S x 0 with
          | none => rfl
          | some b => exact eN b (hW.2.1 x 0 b hc).2
        rw [this]
      · rw [if_neg q4, if_neg q4])]
    omega
theorem arr_f {S : CS} {h k ck n : Nat} (hz : h < cZ S) : kd (setJ (bornA S ck n) h k (some (cZ S))) (cZ S) = ck ∧ cN (setJ (bornA S ck n) h k (some (cZ S))) (cZ S) = n ∧ (∀ i, cA (setJ (bornA S ck n) h k (some (cZ S))) (cZ S) i = 0) ∧ (∀ i, cB (setJ (bornA S ck n) h k (some (cZ S))) (cZ S) i = none) ∧ (∀ j, cJ (setJ (bornA S ck n) h k (some (cZ S))) h j = if j = k then some (cZ S) else cJ S h j) ∧ cI (setJ (bornA S ck n) h k (some (cZ S))) = cI S := by
  refine ⟨kd_newA S ck n, va_up_self _ _ _, fun i => ?_, fun i => ?_, fun j => ?_, rfl⟩
  · show va_up S.2.2.2.2.2.1 (cZ S) (fun _ => 0) (cZ S) i = 0
    rw [va_up_self]
  · show va_up S.2.2.2.2.2.2.1 (cZ S) (fun _ => none) (cZ S) i = none
    rw [va_up_self]
  · rw [cJ_set]
    by_cases hj : j = k
    · rw [if_pos ⟨rfl, hj⟩, if_pos hj]
    · rw [if_neg (fun q => hj q.2), if_neg hj]; rfl
