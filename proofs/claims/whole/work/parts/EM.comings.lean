/-! ===== PART II, the class: history and comings are made ===== -/
section MG
variable {z ex n u D h k b ci m ck : Nat} {S T : CS} {X : Nat × Nat} {H : Nat → Prop} {v : Int32}
def HiZ (S : CS) (h : Nat) : Prop := h + 1 < cZ S ∧ kd S h = 2 ∧ cJ S h 0 = some (h + 1) ∧ kd S (h + 1) = 19 ∧ cN S (h + 1) = 20 ∧ (cI S h 1 = 0 ∧ cI S h 2 = 0 ∧ cI S h 3 = 0) ∧ ∀ i, cB S (h + 1) i = none
theorem HiZ_Mk (h0 : HiZ S h) (hm : Mk z ex H n u D S T) (hn : ¬ H h) (hn1 : ¬ H (h + 1)) : HiZ T h := by
  obtain ⟨h1, h2, h3, h4, h5, h6, h7⟩ := h0
  exact ⟨Mk_lt hm h1, by rw [Mk_kd hm (by omega)]; exact h2, by rw [Mk_cJ hm (by omega) hn]; exact h3, by rw [Mk_kd hm (by omega)]; exact h4, by rw [Mk_cN hm (by omega)]; exact h5, by rw [Mk_cI hm (by omega) hn]; exact h6, by rw [Mk_cB hm (by omega) hn1]; exact h7⟩
theorem history_mk (hW : Wb S) (hz : cZ S = h + 1) (hk : kd S h = 2) (hX : h + 2 ≤ X.1) (hU : cU S + 20 ≤ X.2) : ∃ S', f2_init X S h = some S' ∧ HiZ S' h ∧ Mk z ex (fun x => x = h) 1 20 0 S S' := by
  have o0 := Ob_rf (z := z) (ex := ex) (h := h) hW hk (by omega) (Or.inl (by unfold okN; omega))
  obtain ⟨A, r, o1, m1, a1, a2, a3, _, j1, _⟩ := Ob_arr (X := X) (k := 0) (ck := 19) (m := 20) o0 (Or.inr ⟨by omega, by omega⟩) (by omega) (by omega) (by omega)
  have z1 := m1.2.1.1
  rw [hz] at a1 a2 a3 j1 z1
  obtain ⟨q1, _, o2⟩ := Ob_pi (k := 1) (v := 0) o1
  obtain ⟨q2, _, o2⟩ := Ob_pi (k := 2) (v := 0) o2
  obtain ⟨q3, _, o2⟩ := Ob_pi (k := 3) (v := 0) o2
  refine ⟨_, ?_, ⟨by show h + 1 < cZ A; omega, o2.2.1, ?_, a1, a2, ⟨?_, ?_, ?_⟩, a3⟩, o2.1⟩
  · unfold f2_init
    rw [show (20 : Int32) = nI 20 from rfl, r, q1, Option.bind_some, q2, Option.bind_some, q3, Option.bind_some]
  · show cJ A h 0 = _
    rw [j1, if_pos rfl]
  · rw [cI_set, if_neg (by omega), cI_set, if_neg (by omega), cI_self]
  · rw [cI_set, if_neg (by omega), cI_self]
  · rw [cI_self]
theorem ctx_loop : ∀ (d i nn : Nat) (S : CS), i + d = 24 → d < nn → Wb S → kd S h = 0 → cJ S h 0 = some (h + 1) → SeqN S (h + 1) 18 24 7 (h + 7) i → cZ S = h + 7 + 2 * i → cZ S + 2 * d ≤ X.1 → cU S + 242 * d ≤ X.2 → ∃ S', LX0_init_73 X h nn (nI i) S = some S' ∧ SeqN S' (h + 1) 18 24 7 (h + 7) 24 ∧ Mk z ex (fun x => x = h + 1) (2 * d) (242 * d) 0 S S' := by
  intro d
  induction d with
  | zero =>
    intro i nn S hi hn hW k0 j1 hs hz hX hU
    obtain ⟨nn, rfl⟩ : ∃ k, nn = k + 1 := ⟨nn - 1, by omega⟩
    obtain ⟨w1, w2, w3⟩ := id hs
    unfold LX0_init_73
    rw [gr_k k0 j1, Option.bind_some, aln_k w1, w2, Option.bind_some, if_pos (nI_le (by omega) (by omega))]
    rw [show i = 24 by omega] at hs
    refine ⟨S, rfl, hs, ?_⟩
    exact Mk_rf (z := z) (ex := ex) (H := fun x => x = h + 1) hW
  | succ d ih =>
    intro i nn S hi hn hW k0 j1 hs hz hX hU
    obtain ⟨nn, rfl⟩ : ∃ k, nn = k + 1 := ⟨nn - 1, by omega⟩
    obtain ⟨w1, w2, w3⟩ := id hs
    rw [Nat.mul_succ] at hU hX
    have hU2 : cU S + 242 ≤ X.2 := Nat.le_trans (Nat.add_le_add_left (Nat.le_add_left 242 (242 * d)) _) hU
    obtain ⟨T, r1, a1, m1⟩ := txt_mk (z := z) (ex := ex) (X := X) hW (by omega) hU2
    have z1 := m1.2.1.1
    have u1 := m1.2.1.2
    have b1 : kd T (h + 1) = 18 ∧ cN T (h + 1) = 24 := ⟨by rw [Mk_kd m1 (by omega)]; exact w1, by rw [Mk_cN m1 (by omega)]; exact w2⟩
    have b2 : cB T (h + 1) = cB S (h + 1) := Mk_cB m1 (by omega) (fun h => h)
    have m2 : Mk z ex (fun x => x = h + 1) 0 0 0 T (setB T (h + 1) (va_up (cB T (h + 1)) i (some (cZ S)))) := mk_str m1.1 (by rw [b1.1]; omega)
    have m12 := Mk_trans (Mk_mono (H' := fun x => x = h + 1) m1 (fun x _ h => h.elim)) m2 (fun x _ h => h) (fun x hx _ => Or.inl (by rw [hx, b1.1]; unfold okN; omega))
    have hs2 : SeqN (setB T (h + 1) (va_up (cB T (h + 1)) i (some (cZ S)))) (h + 1) 18 24 7 (h + 7) (i + 1) := by
      refine ⟨b1.1, b1.2, fun j hj => ?_⟩
      rw [cB_self]
      by_cases hji : j = i
      · rw [hji, va_up_self]
        exact ⟨by rw [hz], by rw [← hz]; exact a1.2.1⟩
      · rw [va_up_ne _ _ hji, b2]
        obtain ⟨q1, q2⟩ := w3 j (by omega)
        exact ⟨q1, by show kd T _ = _; rw [Mk_kd m1 (by omega)]; exact q2⟩
    unfold LX0_init_73
    rw [gr_k k0 j1, Option.bind_some, aln_k w1, w2, Option.bind_some, if_neg (nI_ge (by omega) (by omega)), Option.bind_some, r1, str_k b1.1 a1.2.1 (show i < cN T (h + 1) by omega) (by omega), Option.bind_some, nI_1]
    have k2 : kd (setB T (h + 1) (va_up (cB T (h + 1)) i (some (cZ S)))) h = 0 := by show kd T h = 0; rw [Mk_kd m1 (by omega)]; exact k0
    have j2 : cJ (setB T (h + 1) (va_up (cB T (h + 1)) i (some (cZ S)))) h 0 = some (h + 1) := by show cJ T h 0 = _; rw [Mk_cJ m1 (by omega) (fun h => h)]; exact j1
    have z2 : cZ (setB T (h + 1) (va_up (cB T (h + 1)) i (some (cZ S)))) = cZ S + 2 := z1
    have u2 : cU (setB T (h + 1) (va_up (cB T (h + 1)) i (some (cZ S)))) = cU S + 242 := u1
    have k17 : kd (setB T (h + 1) (va_up (cB T (h + 1)) i (some (cZ S)))) (h + 1) = 18 := b1.1
    generalize setB T (h + 1) (va_up (cB T (h + 1)) i (some (cZ S))) = Y at *
    obtain ⟨S', y1, y2, y3⟩ := ih (i + 1) nn Y (by omega) (by omega) m12.1 k2 j2 hs2 (by omega) (by omega) (by omega)
    refine ⟨S', y1, y2, ?_⟩
    have := Mk_trans m12 y3 (fun x _ h => h) (fun x hx _ => Or.inl (by rw [hx, k17]; unfold okN; omega))
    have e1 : 2 + 0 + 2 * d = 2 * (d + 1) := by omega
    have e2 : 242 + 0 + 242 * d = 242 * (d + 1) := by omega
    rw [e1, e2] at this
    exact this
/-- those that come, as they are made -/
def CoZ (S : CS) (h : Nat) : Prop := h + 54 < cZ S ∧ kd S h = 0 ∧ (cJ S h 0 = some (h + 1) ∧ cJ S h 1 = some (h + 2) ∧ cJ S h 2 = some (h + 3) ∧ cJ S h 3 = some (h + 4) ∧ cJ S h 4 = some (h + 5) ∧ cJ S h 5 = some (h + 6)) ∧ ((kd S (h + 2) = 14 ∧ cN S (h + 2) = 4) ∧ (kd S (h + 3) = 14 ∧ cN S (h + 3) = 4) ∧ (kd S (h + 4) = 14 ∧ cN S (h + 4) = 16) ∧ (kd S (h + 5) = 14 ∧ cN S (h + 5) = 16) ∧ (kd S (h + 6) = 14 ∧ cN S (h + 6) = 27)) ∧ SeqN S (h + 1) 18 24 7 (h + 7) 24 ∧ cI S h 8 = 0 ∧ cI S h 9 = -1
theorem CoZ_Mk (h0 : CoZ S h) (hm : Mk z ex H n u D S T) (hn : ¬ H h) (hn1 : ¬ H (h + 1)) : CoZ T h := by
  obtain ⟨h1, h2, h3, ⟨⟨a1, a2⟩, ⟨a3, a4⟩, ⟨a5, a6⟩, ⟨a7, a8⟩, ⟨a9, a10⟩⟩, ⟨s1, s2, s3⟩, h6, h7⟩ := h0
  have k : ∀ x, x < h + 55 → kd T x = kd S x := fun x hx => Mk_kd hm (by omega)
  have nn : ∀ x, x < h + 55 → cN T x = cN S x := fun x hx => Mk_cN hm (by omega)
  refine ⟨Mk_lt hm h1, by rw [k _ (by omega)]; exact h2, by rw [Mk_cJ hm (by omega) hn]; exact h3, ⟨⟨?_, ?_⟩, ⟨?_, ?_⟩, ⟨?_, ?_⟩, ⟨?_, ?_⟩, ?_, ?_⟩, ⟨by rw [k _ (by omega)]; exact s1, by rw [nn _ (by omega)]; exact s2, fun i hi => by rw [Mk_cB hm (by omega) hn1, k _ (by omega)]; exact s3 i hi⟩, by rw [Mk_cI hm (by omega) hn]; exact h6, by rw [Mk_cI hm (by omega) hn]; exact h7⟩
  · rw [k _ (by omega)]; exact a1
  · rw [nn _ (by omega)]; exact a2
  · rw [k _ (by omega)]; exact a3
  · rw [nn _ (by omega)]; exact a4
  · rw [k _ (by omega)]; exact a5
  · rw [nn _ (by omega)]; exact a6
  · rw [k _ (by omega)]; exact a7
  · rw [nn _ (by omega)]; exact a8
  · rw [k _ (by omega)]; exact a9
  · rw [nn _ (by omega)]; exact a10
theorem comings_mk (hW : Wb S) (hz : cZ S = h + 1) (hk : kd S h = 0) (hX : h + 55 ≤ X.1) (hU : cU S + 5899 ≤ X.2) : ∃ S', f0_init X S h = some S' ∧ CoZ S' h ∧ Mk z ex (fun x => x = h) 54 5899 0 S S' := by
  have hFU := FU_gt
  have o0 := Ob_rf (z := z) (ex := ex) (h := h) hW hk (by omega) (Or.inl (by unfold okN; omega))
  obtain ⟨A1, r1, o1, m1, a1, b1, _, _, j1, _⟩ := Ob_arr (X := X) (k := 0) (ck := 18) (m := 24) o0 (Or.inr ⟨by omega, by omega⟩) (by omega) (by omega) (by omega)
  have z1 := m1.2.1.1
  have u1 := m1.2.1.2
  rw [hz] at a1 b1 j1 z1
  obtain ⟨A2, r2, o2, m2, a2, b2, _, _, j2, _⟩ := Ob_arr (X := X) (k := 1) (ck := 14) (m := 4) o1 (Or.inl rfl) (by omega) (by omega) (by omega)
  have z2 := m2.2.1.1
  have u2 := m2.2.1.2
  rw [z1] at a2 b2 j2 z2
  obtain ⟨A3, r3, o3, m3, a3, b3, _, _, j3, _⟩ := Ob_arr (X := X) (k := 2) (ck := 14) (m := 4) o2 (Or.inl rfl) (by omega) (by omega) (by omega)
  have z3 := m3.2.1.1
  have u3 := m3.2.1.2
  rw [z2] at a3 b3 j3 z3
  obtain ⟨A4, r4, o4, m4, a4, b4, _, _, j4, _⟩ := Ob_arr (X := X) (k := 3) (ck := 14) (m := 16) o3 (Or.inl rfl) (by omega) (by omega) (by omega)
  have z4 := m4.2.1.1
  have u4 := m4.2.1.2
  rw [z3] at a4 b4 j4 z4
  obtain ⟨A5, r5, o5, m5, a5, b5, _, _, j5, _⟩ := Ob_arr (X := X) (k := 4) (ck := 14) (m := 16) o4 (Or.inl rfl) (by omega) (by omega) (by omega)
  have z5 := m5.2.1.1
  have u5 := m5.2.1.2
  rw [z4] at a5 b5 j5 z5
  obtain ⟨A6, r6, o6, m6, a6, b6, _, _, j6, _⟩ := Ob_arr (X := X) (k := 5) (ck := 14) (m := 27) o5 (Or.inl rfl) (by omega) (by omega) (by omega)
  have z6 := m6.2.1.1
  have u6 := m6.2.1.2
  rw [z5] at a6 b6 j6 z6
  have kk : ∀ x, x < h + 2 → kd A6 x = kd A1 x ∧ cN A6 x = cN A1 x := fun x hx => ⟨by rw [Mk_kd m6 (by omega), Mk_kd m5 (by omega), Mk_kd m4 (by omega), Mk_kd m3 (by omega), Mk_kd m2 (by omega)], by rw [Mk_cN m6 (by omega), Mk_cN m5 (by omega), Mk_cN m4 (by omega), Mk_cN m3 (by omega), Mk_cN m2 (by omega)]⟩
  have c1 : kd A6 (h + 1) = 18 ∧ cN A6 (h + 1) = 24 := ⟨by rw [(kk _ (by omega)).1]; exact a1, by rw [(kk _ (by omega)).2]; exact b1⟩
  have c2 : kd A6 (h + 2) = 14 ∧ cN A6 (h + 2) = 4 := ⟨by rw [Mk_kd m6 (by omega), Mk_kd m5 (by omega), Mk_kd m4 (by omega), Mk_kd m3 (by omega)]; exact a2, by rw [Mk_cN m6 (by omega), Mk_cN m5 (by omega), Mk_cN m4 (by omega), Mk_cN m3 (by omega)]; exact b2⟩
  have c3 : kd A6 (h + 3) = 14 ∧ cN A6 (h + 3) = 4 := ⟨by rw [Mk_kd m6 (by omega), Mk_kd m5 (by omega), Mk_kd m4 (by omega)]; exact a3, by rw [Mk_cN m6 (by omega), Mk_cN m5 (by omega), Mk_cN m4 (by omega)]; exact b3⟩
  have c4 : kd A6 (h + 4) = 14 ∧ cN A6 (h + 4) = 16 := ⟨by rw [Mk_kd m6 (by omega), Mk_kd m5 (by omega)]; exact a4, by rw [Mk_cN m6 (by omega), Mk_cN m5 (by omega)]; exact b4⟩
  have c5 : kd A6 (h + 5) = 14 ∧ cN A6 (h + 5) = 16 := ⟨by rw [Mk_kd m6 (by omega)]; exact a5, by rw [Mk_cN m6 (by omega)]; exact b5⟩
  have jj : cJ A6 h 0 = some (h + 1) ∧ cJ A6 h 1 = some (h + 2) ∧ cJ A6 h 2 = some (h + 3) ∧ cJ A6 h 3 = some (h + 4) ∧ cJ A6 h 4 = some (h + 5) ∧ cJ A6 h 5 = some (h + 6) := by
    refine ⟨?_, ?_, ?_, ?_, ?_, ?_⟩
    · rw [j6, if_neg (by omega), j5, if_neg (by omega), j4, if_neg (by omega), j3, if_neg (by omega), j2, if_neg (by omega), j1, if_pos rfl]
    · rw [j6, if_neg (by omega), j5, if_neg (by omega), j4, if_neg (by omega), j3, if_neg (by omega), j2, if_pos rfl]
    · rw [j6, if_neg (by omega), j5, if_neg (by omega), j4, if_neg (by omega), j3, if_pos rfl]
    · rw [j6, if_neg (by omega), j5, if_neg (by omega), j4, if_pos rfl]
    · rw [j6, if_neg (by omega), j5, if_pos rfl]
    · rw [j6, if_pos rfl]
  obtain ⟨q1, _, p1⟩ := Ob_pi (k := 6) (v := 0) o6
  obtain ⟨q2, _, p1⟩ := Ob_pi (k := 7) (v := 0) p1
  obtain ⟨q3, _, p1⟩ := Ob_pi (k := 8) (v := 0) p1
  obtain ⟨q4, _, p1⟩ := Ob_pi (k := 9) (v := -1) p1
  have i8 : cI (setI (setI (setI (setI A6 h 6 0) h 7 0) h 8 0) h 9 (-1)) h 8 = 0 := by rw [cI_set, if_neg (by omega), cI_self]
  have i9 : cI (setI (setI (setI (setI A6 h 6 0) h 7 0) h 8 0) h 9 (-1)) h 9 = -1 := cI_self _ _ _ _
  have z6' : cZ (setI (setI (setI (setI A6 h 6 0) h 7 0) h 8 0) h 9 (-1)) = h + 7 := z6
  have u6' : cU (setI (setI (setI (setI A6 h 6 0) h 7 0) h 8 0) h 9 (-1)) = cU A5 + 27 := u6
  have d1 : ∀ x, kd (setI (setI (setI (setI A6 h 6 0) h 7 0) h 8 0) h 9 (-1)) x = kd A6 x ∧ cN (setI (setI (setI (setI A6 h 6 0) h 7 0) h 8 0) h 9 (-1)) x = cN A6 x ∧ cJ (setI (setI (setI (setI A6 h 6 0) h 7 0) h 8 0) h 9 (-1)) x = cJ A6 x := fun x => ⟨rfl, rfl, rfl⟩
  generalize setI (setI (setI (setI A6 h 6 0) h 7 0) h 8 0) h 9 (-1) = A7 at *
  obtain ⟨S', y1, y2, y3⟩ := ctx_loop (z := z) (ex := ex) (h := h) (X := X) 24 0 FU A7 (by omega) (by omega) p1.1.1 p1.2.1 (by rw [(d1 h).2.2]; exact jj.1) ⟨by rw [(d1 _).1]; exact c1.1, by rw [(d1 _).2.1]; exact c1.2, fun i hi => absurd hi (Nat.not_lt_zero _)⟩ (by omega) (by omega) (by omega)
  have z7 := y3.2.1.1
  have e1 : ∀ x, x < h + 7 → kd S' x = kd A6 x ∧ cN S' x = cN A6 x := fun x hx => ⟨by rw [Mk_kd y3 (by omega), (d1 x).1], by rw [Mk_cN y3 (by omega), (d1 x).2.1]⟩
  have mm := Mk_trans p1.1 y3 (H := fun x => x = h) (fun x hx (hh : x = h + 1) => by omega) (fun x hx _ => Or.inl (by rw [hx, (d1 _).1, c1.1]; unfold okN; omega))
  have e0 : ∀ x, x < h + 7 → ∀ a b : Nat, kd A6 x = a ∧ cN A6 x = b → kd S' x = a ∧ cN S' x = b := fun x hx a b hh => by rw [(e1 x hx).1, (e1 x hx).2]; exact hh
  refine ⟨S', ?_, ⟨by omega, by rw [(e1 _ (by omega)).1, ← (d1 h).1]; exact p1.2.1, by rw [Mk_cJ y3 (by omega) (show ¬ h = h + 1 by omega), (d1 h).2.2]; exact jj, ⟨e0 _ (by omega) _ _ c2, e0 _ (by omega) _ _ c3, e0 _ (by omega) _ _ c4, e0 _ (by omega) _ _ c5, e0 _ (by omega) _ _ ⟨a6, b6⟩⟩, y2, by rw [Mk_cI y3 (by omega) (show ¬ h = h + 1 by omega)]; exact i8, by rw [Mk_cI y3 (by omega) (show ¬ h = h + 1 by omega)]; exact i9⟩, ?_⟩
  · unfold f0_init
    rw [show (24 : Int32) = nI 24 from rfl, show (4 : Int32) = nI 4 from rfl, show (16 : Int32) = nI 16 from rfl, show (27 : Int32) = nI 27 from rfl, r1, r2, r3, r4, r5, r6, q1, Option.bind_some, q2, Option.bind_some, q3, Option.bind_some, q4, Option.bind_some, show LX0_init_73 X h FU 0 A7 = some S' from y1, Option.bind_some]
  · exact mm
end MG
