/-! ===== PART II, the class: the row, history, comings are made ===== -/
section MF
variable {z ex n u D h k b ci m ck : Nat} {S T : CS} {X : Nat × Nat} {H : Nat → Prop} {v : Int32}
/-- a row of so many objects of a kind, one behind another -/
def SeqN (S : CS) (a kk c ko f m : Nat) : Prop := kd S a = kk ∧ cN S a = c ∧ ∀ i, i < m → cB S a i = some (f + 2 * i) ∧ kd S (f + 2 * i) = ko
def dR (z f : Nat) : Nat → Nat
  | 0 => 0
  | n + 1 => dR z f n + dW z (f + 2 * n)
theorem dR_mono (z f : Nat) : ∀ {i j : Nat}, i ≤ j → dR z f i ≤ dR z f j := by
  intro i j h
  induction j with
  | zero => rw [show i = 0 by omega]; exact Nat.le_refl _
  | succ j ih =>
    by_cases hi : i ≤ j
    · have := ih hi
      rw [show dR z f (j + 1) = dR z f j + dW z (f + 2 * j) from rfl]
      omega
    · rw [show i = j + 1 by omega]; exact Nat.le_refl _
theorem row_loop : ∀ (d i nn : Nat) (S : CS), i + d = 100 → d < nn → Wb S → kd S h = 6 → cJ S h 1 = some (h + 3) → SeqN S (h + 3) 17 100 4 (h + 5) i → cZ S = h + 5 + 2 * i → cZ S + 2 * d ≤ X.1 → cU S + 10 * d ≤ X.2 → ∃ S', LX6_init_34 X h nn (nI i) S = some S' ∧ SeqN S' (h + 3) 17 100 4 (h + 5) 100 ∧ Mk z ex (fun x => x = h + 3) (2 * d) (10 * d) (dR z (h + 5) 100 - dR z (h + 5) i) S S' := by
  intro d
  induction d with
  | zero =>
    intro i nn S hi hn hW k0 j1 hs hz hX hU
    obtain ⟨nn, rfl⟩ : ∃ k, nn = k + 1 := ⟨nn - 1, by omega⟩
    obtain ⟨w1, w2, w3⟩ := id hs
    unfold LX6_init_34
    rw [gr_k k0 j1, Option.bind_some, aln_k w1, w2, Option.bind_some, if_pos (nI_le (by omega) (by omega))]
    rw [show i = 100 by omega] at hs ⊢
    refine ⟨S, rfl, hs, ?_⟩
    have := Mk_rf (z := z) (ex := ex) (H := fun x => x = h + 3) hW
    rw [Nat.sub_self]
    exact this
  | succ d ih =>
    intro i nn S hi hn hW k0 j1 hs hz hX hU
    obtain ⟨nn, rfl⟩ : ∃ k, nn = k + 1 := ⟨nn - 1, by omega⟩
    obtain ⟨w1, w2, w3⟩ := id hs
    rw [Nat.mul_succ] at hU hX
    obtain ⟨T, r1, a1, m1⟩ := op_mk (z := z) (ex := ex) (X := X) hW (by omega) (by omega)
    have z1 := m1.2.1.1
    have u1 := m1.2.1.2
    have b1 : kd T (h + 3) = 17 ∧ cN T (h + 3) = 100 := ⟨by rw [Mk_kd m1 (by omega)]; exact w1, by rw [Mk_cN m1 (by omega)]; exact w2⟩
    have b2 : cB T (h + 3) = cB S (h + 3) := Mk_cB m1 (by omega) (fun h => h)
    have m2 : Mk z ex (fun x => x = h + 3) 0 0 0 T (setB T (h + 3) (va_up (cB T (h + 3)) i (some (cZ S)))) := mk_str m1.1 (by rw [b1.1]; omega)
    have m12 := Mk_trans (Mk_mono (H' := fun x => x = h + 3) m1 (fun x _ h => h.elim)) m2 (fun x _ h => h) (fun x hx _ => Or.inl (by rw [hx, b1.1]; unfold okN; omega))
    have hs2 : SeqN (setB T (h + 3) (va_up (cB T (h + 3)) i (some (cZ S)))) (h + 3) 17 100 4 (h + 5) (i + 1) := by
      refine ⟨b1.1, b1.2, fun j hj => ?_⟩
      rw [cB_self]
      by_cases hji : j = i
      · rw [hji, va_up_self]
        exact ⟨by rw [hz], by rw [← hz]; exact a1.2.1⟩
      · rw [va_up_ne _ _ hji, b2]
        obtain ⟨q1, q2⟩ := w3 j (by omega)
        exact ⟨q1, by show kd T _ = _; rw [Mk_kd m1 (by omega)]; exact q2⟩
    unfold LX6_init_34
    rw [gr_k k0 j1, Option.bind_some, aln_k w1, w2, Option.bind_some, if_neg (nI_ge (by omega) (by omega)), Option.bind_some, r1, str_k b1.1 a1.2.1 (show i < cN T (h + 3) by omega) (by omega), Option.bind_some, nI_1]
    have k2 : kd (setB T (h + 3) (va_up (cB T (h + 3)) i (some (cZ S)))) h = 6 := by show kd T h = 6; rw [Mk_kd m1 (by omega)]; exact k0
    have j2 : cJ (setB T (h + 3) (va_up (cB T (h + 3)) i (some (cZ S)))) h 1 = some (h + 3) := by show cJ T h 1 = _; rw [Mk_cJ m1 (by omega) (fun h => h)]; exact j1
    have z2 : cZ (setB T (h + 3) (va_up (cB T (h + 3)) i (some (cZ S)))) = cZ S + 2 := z1
    have u2 : cU (setB T (h + 3) (va_up (cB T (h + 3)) i (some (cZ S)))) = cU S + 10 := u1
    have k17 : kd (setB T (h + 3) (va_up (cB T (h + 3)) i (some (cZ S)))) (h + 3) = 17 := b1.1
    generalize setB T (h + 3) (va_up (cB T (h + 3)) i (some (cZ S))) = Y at *
    obtain ⟨S', y1, y2, y3⟩ := ih (i + 1) nn Y (by omega) (by omega) m12.1 k2 j2 hs2 (by omega) (by omega) (by omega)
    refine ⟨S', y1, y2, ?_⟩
    have := Mk_trans m12 y3 (fun x _ h => h) (fun x hx _ => Or.inl (by rw [hx, k17]; unfold okN; omega))
    have hQ : dR z (h + 5) (i + 1) = dR z (h + 5) i + dW z (cZ S) := by rw [hz]; rfl
    have hQ2 := dR_mono z (h + 5) (show i + 1 ≤ 100 by omega)
    have e1 : 2 + 0 + 2 * d = 2 * (d + 1) := by omega
    have e2 : 10 + 0 + 10 * d = 10 * (d + 1) := by omega
    have e3 : dW z (cZ S) + 0 + (dR z (h + 5) 100 - dR z (h + 5) (i + 1)) = dR z (h + 5) 100 - dR z (h + 5) i := by omega
    rw [e1, e2, e3] at this
    exact this
/-- the row as it is made -/
def RoZ (S : CS) (h : Nat) : Prop := h + 204 < cZ S ∧ RwS S h ∧ TxN S (h + 1)
theorem RoZ_Mk (h0 : RoZ S h) (hm : Mk z ex H n u D S T) (hn : ∀ x, h ≤ x → x < h + 5 → ¬ H x) : RoZ T h := by
  obtain ⟨h1, ⟨a1, a2, a3, ⟨a4, a5⟩, ⟨a6, a7⟩, a8⟩, h3⟩ := h0
  have k : ∀ x, x < h + 205 → kd T x = kd S x := fun x hx => Mk_kd hm (by omega)
  have j := Mk_cJ hm (x := h) (by omega) (hn h (by omega) (by omega))
  refine ⟨Mk_lt hm h1, ⟨by rw [k _ (by omega)]; exact a1, by rw [j]; exact a2, by rw [k _ (by omega)]; exact a3, ⟨by rw [k _ (by omega)]; exact a4, by rw [Mk_cN hm (by omega)]; exact a5⟩, ⟨by rw [k _ (by omega)]; exact a6, by rw [Mk_cN hm (by omega)]; exact a7⟩, fun i hi => ?_⟩, TxN_Mk h3 hm (hn _ (by omega) (by omega))⟩
  rw [Mk_cB hm (show h + 3 < cZ S by omega) (hn _ (by omega) (by omega)), k _ (by omega)]
  exact a8 i hi
theorem row_mk (hW : Wb S) (hz : cZ S = h + 1) (hk : kd S h = 6) (hX : h + 205 ≤ X.1) (hU : cU S + 1442 ≤ X.2) : ∃ S', f6_init X S h = some S' ∧ RoZ S' h ∧ Mk z ex (fun x => x = h) 204 1442 (dR z (h + 5) 100) S S' := by
  have hFU := FU_gt
  have o0 := Ob_rf (z := z) (ex := ex) (h := h) hW hk (by omega) (Or.inl (by unfold okN; omega))
  obtain ⟨T1, r1, k1, m1⟩ := txt_mk (z := z) (ex := ex) (X := X) hW (by omega) (by omega)
  have z1 := m1.2.1.1
  have u1 := m1.2.1.2
  rw [hz] at k1 z1
  have o1 := Ob_sub o0 m1
  obtain ⟨q1, n1, o1⟩ := Ob_pr (k := 0) (b := h + 1) o1 (by omega) (by rw [k1.2.1]; omega)
  have j1 : cJ (setJ T1 h 0 (some (h + 1))) h 0 = some (h + 1) := by rw [cJ_set, if_pos ⟨rfl, rfl⟩]
  have z1' : cZ (setJ T1 h 0 (some (h + 1))) = h + 3 := z1
  have u1' : cU (setJ T1 h 0 (some (h + 1))) = cU S + 242 := u1
  have X1 := TxN_Mk k1 n1 (show ¬ h + 1 = h by omega)
  generalize setJ T1 h 0 (some (h + 1)) = A1 at *
  obtain ⟨A2, r2, o2, m2, a1, a2, a3, _, j2, _⟩ := Ob_arr (X := X) (k := 1) (ck := 17) (m := 100) o1 (Or.inr ⟨by omega, by omega⟩) (by omega) (by omega) (by omega)
  have z2 := m2.2.1.1
  have u2 := m2.2.1.2
  rw [z1'] at a1 a2 a3 j2 z2
  have X2 := TxN_Mk X1 m2 (show ¬ h + 1 = h by omega)
  obtain ⟨A3, r3, o3, m3, b1, b2, _, _, j3, _⟩ := Ob_arr (X := X) (k := 2) (ck := 14) (m := 100) o2 (Or.inl rfl) (by omega) (by omega) (by omega)
  have z3 := m3.2.1.1
  have u3 := m3.2.1.2
  rw [z2] at b1 b2 j3 z3
  have X3 := TxN_Mk X2 m3 (show ¬ h + 1 = h by omega)
  have c1 : kd A3 (h + 3) = 17 := by rw [Mk_kd m3 (by omega)]; exact a1
  have c2 : cN A3 (h + 3) = 100 := by rw [Mk_cN m3 (by omega)]; exact a2
  have c3 : cJ A3 h 1 = some (h + 3) := by rw [j3, if_neg (by omega), j2, if_pos rfl]
  obtain ⟨S', y1, y2, y3⟩ := row_loop (z := z) (ex := ex) (h := h) (X := X) 100 0 FU A3 (by omega) (by omega) o3.1.1 o3.2.1 c3 ⟨c1, c2, fun i hi => absurd hi (Nat.not_lt_zero _)⟩ (by omega) (by omega) (by omega)
  have z4 := y3.2.1.1
  have k4 : ∀ x, x < h + 5 → kd S' x = kd A3 x := fun x hx => Mk_kd y3 (by omega)
  have j4 := Mk_cJ y3 (x := h) (by omega) (show ¬ h = h + 3 by omega)
  have mm := Mk_trans o3.1 y3 (H := fun x => x = h) (fun x hx (hh : x = h + 3) => by omega) (fun x hx _ => Or.inl (by rw [hx, c1]; unfold okN; omega))
  refine ⟨S', ?_, ⟨by omega, ⟨by rw [k4 _ (by omega)]; exact o3.2.1, ⟨?_, ?_, ?_⟩, ?_, ⟨y2.1, y2.2.1⟩, ⟨?_, ?_⟩, fun i hi => y2.2.2 i hi⟩, TxN_Mk X3 y3 (show ¬ h + 1 = h + 3 by omega)⟩, ?_⟩
  · unfold f6_init
    rw [r1, hz, q1, Option.bind_some, show (100 : Int32) = nI 100 from rfl, r2, r3, show LX6_init_34 X h FU 0 A3 = some S' from y1, Option.bind_some]
  · rw [j4, j3, if_neg (by omega), j2, if_neg (by omega)]; exact j1
  · rw [j4, c3]
  · rw [j4, j3, if_pos rfl]
  · rw [k4 _ (by omega), Mk_kd m3 (by omega), Mk_kd m2 (by omega)]; exact X1.2.1
  · rw [k4 _ (by omega)]; exact b1
  · rw [Mk_cN y3 (by omega)]; exact b2
  · have e : 0 + 0 + (dR z (h + 5) 100 - dR z (h + 5) 0) = dR z (h + 5) 100 := by rw [show dR z (h + 5) 0 = 0 from rfl]; omega
    have e2 : 0 + 2 + 1 + 1 + 2 * 100 = 204 := rfl
    have e3 : 0 + 242 + 100 + 100 + 10 * 100 = 1442 := rfl
    rw [e, e2, e3] at mm
    exact mm
end MF
