/-! ===== PART II, the class: a world is made with its editors ===== -/
theorem dQ_mono (z w : Nat) : ∀ {i j : Nat}, i ≤ j → dQ z w i ≤ dQ z w j := by
  intro i j h
  induction j with
  | zero => rw [show i = 0 by omega]; exact Nat.le_refl _
  | succ j ih =>
    by_cases hi : i ≤ j
    · have := ih hi
      rw [show dQ z w (j + 1) = dQ z w j + dE z (w + 5 + 45 * j) from rfl]
      omega
    · rw [show i = j + 1 by omega]; exact Nat.le_refl _
theorem wd_loop {z ex : Nat} {X : Nat × Nat} {w r g : Nat} : ∀ (d i n : Nat) (S : CS), i + d = 4 → d < n → Wb S → cZ S = w + 5 + 45 * i → cZ S + 45 * d ≤ X.1 → cU S + 569 * d ≤ X.2 → WdZ S w r g i → ∃ S', LX10_init_77 X w n (nI i) S = some S' ∧ WdZ S' w r g 4 ∧ Mk z ex (fun x => x = w + 3) (45 * d) (569 * d) (dQ z w 4 - dQ z w i) S S' := by
  intro d
  induction d with
  | zero =>
    intro i n S hi hn hW hz hX hU hw
    obtain ⟨n, rfl⟩ : ∃ k, n = k + 1 := ⟨n - 1, by omega⟩
    obtain ⟨w0, w1, w2, w3, w4, w5, w6, w7⟩ := id hw
    unfold LX10_init_77
    rw [gr_k w1 w2.2.2.2.1, Option.bind_some, aln_k w4.1, w4.2, Option.bind_some, if_pos (nI_le (by omega) (by omega))]
    rw [show i = 4 by omega] at hw
    refine ⟨S, rfl, hw, ?_⟩
    have := Mk_rf (z := z) (ex := ex) (H := fun x => x = w + 3) hW
    have e1 : dQ z w 4 - dQ z w i = 0 := by rw [show i = 4 by omega]; omega
    rw [e1]
    exact this
  | succ d ih =>
    intro i n S hi hn hW hz hX hU hw
    obtain ⟨n, rfl⟩ : ∃ k, n = k + 1 := ⟨n - 1, by omega⟩
    obtain ⟨w0, w1, w2, w3, w4, w5, w6, w7⟩ := id hw
    rw [Nat.mul_succ] at hU hX
    have hU2 : cU S + 569 ≤ X.2 := Nat.le_trans (Nat.add_le_add_left (Nat.le_add_left 569 (569 * d)) _) hU
    have p1 := nwo_k (X := X) (S := S) (ci := 1) (n := 15) (by omega) (by omega)
    have m1 : Mk z ex (fun _ => False) 1 15 0 S (bornO S 1 15) := mk_obj hW ⟨by omega, by omega, Or.inl (by omega)⟩
    have kn := kd_newO S 1 15
    generalize hT1 : bornO S 1 15 = T1 at m1 kn p1
    generalize hE : w + 5 + 45 * i = e at *
    rw [hz] at kn
    have z1 : cZ T1 = e + 1 := by have := m1.2.1.1; omega
    have u1 := m1.2.1.2
    obtain ⟨T2, e2, E2, m2⟩ := ed_mk (z := z) (ex := ex) (X := X) m1.1 z1 kn (by omega) (by rw [u1, Nat.add_assoc]; exact hU2)
    have z2 : cZ T2 = e + 45 := by have := m2.2.1.1; omega
    have m12 : Mk z ex (fun x => x = w + 3) (1 + 44) (15 + 554) (0 + dE z e) S T2 := Mk_trans (Mk_mono m1 (fun x _ h => h.elim)) m2 (fun x hx (h : x = e) => by omega) (fun x hx _ => Or.inl (by rw [hx, kn]; unfold okN; omega))
    have wz : WdZ T2 w r g i := WdZ_Mk (WdZ_Mk hw m1 (fun x _ _ h => h)) m2 (fun x x1 x2 (h : x = e) => by omega)
    obtain ⟨y0, y1, y2, y3, y4, y5, y6, y7⟩ := id wz
    have m3 : Mk z ex (fun x => x = w + 3) 0 0 0 T2 (setB T2 (w + 3) (va_up (cB T2 (w + 3)) i (some e))) := mk_str m2.1 (by rw [y4.1]; omega)
    have m13 := Mk_trans m12 m3 (fun x _ h => h) (fun x hx _ => Or.inl (by rw [hx, y4.1]; unfold okN; omega))
    unfold LX10_init_77
    rw [gr_k w1 w2.2.2.2.1, Option.bind_some, aln_k w4.1, w4.2, Option.bind_some, if_neg (nI_ge (by omega) (by omega)), Option.bind_some, p1, Option.bind_some, hz, e2, Option.bind_some, str_k y4.1 E2.2.1.1 (show i < cN T2 (w + 3) by omega) (by omega), Option.bind_some, nI_1]
    have wz3 : WdZ (setB T2 (w + 3) (va_up (cB T2 (w + 3)) i (some e))) w r g (i + 1) := by
      refine ⟨y0, y1, y2, TxN_Mk y3 m3 (by omega), y4, y5, y6, fun j hj => ?_⟩
      rw [cB_self]
      by_cases hji : j = i
      · rw [hji, va_up_self, hE]
        exact ⟨rfl, EdZ_Mk E2 m3 (fun x x1 x2 => by omega)⟩
      · rw [va_up_ne _ _ hji]
        obtain ⟨q1, q2⟩ := y7 j (by omega)
        exact ⟨q1, EdZ_Mk q2 m3 (fun x x1 x2 => by omega)⟩
    have y41 := y4.1
    clear y0 y1 y2 y3 y5 y6 y7 w0 w1 w2 w3 w4 w5 w6 w7
    generalize hY : setB T2 (w + 3) (va_up (cB T2 (w + 3)) i (some e)) = Y at m3 m13 wz3 ⊢
    have zY : cZ Y = e + 45 := by have := m3.2.1.1; omega
    have uY : cU Y = cU S + 569 := by have := m13.2.1.2; omega
    obtain ⟨S', r1, r2, r3⟩ := ih (i + 1) n Y (by omega) (by omega) m13.1 (by omega) (by omega) (by omega) wz3
    refine ⟨S', r1, r2, ?_⟩
    have hQ : dQ z w (i + 1) = dQ z w i + dE z e := by rw [← hE]; rfl
    have hQ2 := dQ_mono z w (show i + 1 ≤ 4 by omega)
    have := Mk_trans m13 r3 (fun x _ h => h) (fun x hx _ => Or.inl (by rw [hx, ← hY]; show okN (kd T2 (w + 3)); rw [y41]; unfold okN; omega))
    have e1 : 1 + 44 + 0 + 45 * d = 45 * (d + 1) := by omega
    have e2' : 15 + 554 + 0 + 569 * d = 569 * (d + 1) := by omega
    have e3 : 0 + dE z e + 0 + (dQ z w 4 - dQ z w (i + 1)) = dQ z w 4 - dQ z w i := by omega
    rw [e1, e2', e3] at this
    exact this
theorem wd_mk {z ex : Nat} {X : Nat × Nat} {S : CS} {w r g : Nat} (hW : Wb S) (hz : cZ S = w + 1) (hk : kd S w = 10) (hr : r < w ∧ kd S r ≠ 14) (hg : g < w ∧ kd S g ≠ 14) (hX : w + 185 ≤ X.1) (hU : cU S + 2526 ≤ X.2) : ∃ S', f10_init X S w r g = some S' ∧ WdZ S' w r g 4 ∧ Mk z ex (fun x => x = w) 184 2526 (dQ z w 4) S S' := by
  have hFU := FU_gt
  unfold f10_init
  obtain ⟨T, eA, z1, k1, j1, X1, h3, h4, m1⟩ := wd_mkA (z := z) (ex := ex) (X := X) (r := r) (g := g) hW hz hk ⟨by omega, hr.2⟩ ⟨by omega, hg.2⟩ hX (by omega)
  obtain ⟨T2, eB, z2, W2, m2⟩ := wd_mkB (r := r) (g := g) m1 z1 k1 ⟨by omega, by rw [(m1.2.2.1 r (by omega)).1]; exact hr.2⟩ ⟨by omega, by rw [(m1.2.2.1 g (by omega)).1]; exact hg.2⟩ j1 X1 h3 h4
  rw [eA, eB]
  obtain ⟨S', r1, r2, r3⟩ := wd_loop (z := z) (ex := ex) (X := X) (w := w) (r := r) (g := g) 4 0 FU T2 (by omega) (by omega) m2.1 (by omega) (by omega) (by have := m2.2.1.2; omega) W2
  rw [show LX10_init_77 X w FU 0 T2 = some S' from r1, Option.bind_some]
  have kw3 := W2.2.2.2.2.1.1
  have m3 := Mk_trans m2 r3 (H := fun x => x = w) (fun x hx h => by omega) (fun x hx _ => Or.inl (by rw [hx, kw3]; unfold okN; omega))
  refine ⟨S', rfl, r2, ?_⟩
  have e3 : 0 + (dQ z w 4 - dQ z w 0) = dQ z w 4 := by rw [show dQ z w 0 = 0 from rfl]; omega
  rw [e3] at m3
  exact m3
theorem dQ_k {z w : Nat} (h : z + 661 ≤ w) : dQ z w 4 ≤ 114624 := by
  have hd : ∀ x, z + 661 ≤ x → dW z x = 1592 := fun x hx => by unfold dW; rw [wt_k hx]; rfl
  have hI : ∀ v n, z + 661 ≤ v → dI z v n = 1592 * n := fun v n hv => by
    induction n with
    | zero => rfl
    | succ n ih => rw [dI, ih, hd _ (by omega)]; omega
  have hE : ∀ e, z + 661 ≤ e → dE z e = 28656 := fun e he => by unfold dE; rw [hd _ (by omega), hd _ (by omega), hI _ _ (by omega), hI _ _ (by omega)]
  rw [dQ, dQ, dQ, dQ, dQ, hE _ (by omega), hE _ (by omega), hE _ (by omega), hE _ (by omega)]
  omega
/-- what is made is a step of all -/
theorem Mk_Sg {z ex n u D c : Nat} {H : Nat → Prop} {S S' : CS} (hW : Wf S) (hm : Mk z ex H n u D S S') (hx : okC S' ex) (hJ : ∀ x, x < cZ S → cJ S' x = cJ S x) (hB : ∀ x, x < cZ S → kd S x ≠ 19 → cB S' x = cB S x) (hc : u + D ≤ c) (hnu : 12 * n ≤ u) : Sg z (fun x => cZ S ≤ x ∨ H x) c S S' := by
  obtain ⟨a1, ⟨a2, a3⟩, a4, a5, a6, a7⟩ := hm
  have old : ∀ x, x < cZ S → okC S' x := fun x hx => by
    obtain ⟨c1, c2, c3, c4⟩ := a4 x hx
    have ar : ∀ k a, cJ S x k = some a → kd S' a = kd S a ∧ cN S' a = cN S a := fun k a ha => by
      have := a4 a (hW.2.1 x k a ha).2
      exact ⟨this.1, this.2.1⟩
    refine ⟨fun hh => ?_, fun k hh => ?_⟩
    · rw [c1] at hh
      obtain ⟨a, q1, q2, q3⟩ := hW.2.2.2.1 x hh
      obtain ⟨r1, r2⟩ := ar 0 a q1
      exact ⟨a, by rw [hJ x hx]; exact q1, by rw [r1]; exact q2, by rw [r2]; exact q3⟩
    · rw [c1] at hh
      obtain ⟨a, q1, q2, q3⟩ := hW.2.2.2.2 x k hh
      obtain ⟨r1, r2⟩ := ar k a q1
      exact ⟨a, by rw [hJ x hx]; exact q1, by rw [r1]; exact q2, by rw [r2]; exact q3⟩
  have all : ∀ x, okC S' x := fun x => by
    by_cases h1 : x < cZ S
    · exact old x h1
    · by_cases h2 : x = ex
      · rw [h2]; exact hx
      · exact a6 x (by omega) h2
  refine ⟨Wf_of a1 all, ⟨by omega, fun x hx => ?_, fun a ha hk ho => ?_, fun h k a h1 h2 hn => absurd (Or.inl h1) hn⟩, ?_, by omega, fun x k hx _ => by rw [hJ x hx], fun x hx _ h19 => hB x hx h19⟩
  · obtain ⟨c1, c2, c3, c4⟩ := a4 x hx
    exact ⟨c1, c2, fun _ _ => c3, fun hn => c4 (fun hh => hn (Or.inr hh))⟩
  · obtain ⟨h, k, q1, q2⟩ := ho
    obtain ⟨r1, r2⟩ := a5 h k a q2 ha hk
    exact ⟨h, k, q1, r2⟩
  · unfold Tt
    omega
