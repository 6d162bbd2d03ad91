/-! ===== PART II, the class: a world is made ===== -/
def TxN (S : CS) (h : Nat) : Prop := h + 1 < cZ S ∧ kd S h = 7 ∧ kd S (h + 1) = 14 ∧ cJ S h 0 = some (h + 1) ∧ cN S (h + 1) = 240 ∧ cI S h 1 = 0
theorem TxN_L {S : CS} {h : Nat} (hO : TxN S h) : TxL S h [] := by
  obtain ⟨h1, h2, h3, h4, h5, h6⟩ := hO
  exact ⟨h + 1, ⟨by omega, h1, h2, h3, h4, h5⟩, h6, by simp, fun k hk => absurd hk (Nat.not_lt_zero _)⟩
theorem TxN_Mk {z ex n u D : Nat} {H : Nat → Prop} {S S' : CS} {h : Nat} (hO : TxN S h) (hm : Mk z ex H n u D S S') (hn : ¬ H h) : TxN S' h := by
  obtain ⟨h1, h2, h3, h4, h5, h6⟩ := hO
  obtain ⟨_, ⟨m1, _⟩, m2, _⟩ := hm
  obtain ⟨a1, a2, a3, a4⟩ := m2 h (by omega)
  obtain ⟨b1, b2, b3, b4⟩ := m2 (h + 1) h1
  obtain ⟨c1, c2, c3⟩ := a4 hn
  exact ⟨by omega, by rw [a1]; exact h2, by rw [b1]; exact h3, by rw [c2]; exact h4, by rw [b2]; exact h5, by rw [c1]; exact h6⟩
/-- a world as it is made, its first so many editors -/
def WdZ (S : CS) (w r g m : Nat) : Prop := w + 4 < cZ S ∧ kd S w = 10 ∧ (cJ S w 0 = some r ∧ cJ S w 1 = some g ∧ cJ S w 2 = some (w + 1) ∧ cJ S w 3 = some (w + 3) ∧ cJ S w 4 = some (w + 4)) ∧ TxN S (w + 1) ∧ (kd S (w + 3) = 16 ∧ cN S (w + 3) = 4) ∧ (kd S (w + 4) = 14 ∧ cN S (w + 4) = 4) ∧ (cI S w 5 = 1 ∧ cI S w 6 = 0 ∧ cI S w 7 = 0 ∧ cI S w 8 = 0 ∧ cI S w 9 = 0 ∧ cI S w 10 = 0 ∧ cI S w 11 = 0) ∧ ∀ i, i < m → cB S (w + 3) i = some (w + 5 + 45 * i) ∧ EdZ S (w + 5 + 45 * i)
theorem WdZ_S {S : CS} {w r g : Nat} (h : WdZ S w r g 4) : WdS S w r g ∧ ∀ i, i < 4 → EdJ S (w + 5 + 45 * i) true := by
  obtain ⟨h0, h1, h2, h3, h4, h5, h6, h7⟩ := h
  exact ⟨⟨h1, h2, h3.2.1, h4, h5, fun i hi => ⟨(h7 i hi).1, (h7 i hi).2.2.1⟩⟩, fun i hi => EdZ_J (h7 i hi).2⟩
theorem WdZ_Mk {z ex n u D : Nat} {H : Nat → Prop} {S S' : CS} {w r g m : Nat} (h : WdZ S w r g m) (hm : Mk z ex H n u D S S') (hn : ∀ x, w ≤ x → x < w + 5 + 45 * m → ¬ H x) : WdZ S' w r g m := by
  obtain ⟨h0, h1, h2, h3, h4', h5, h6, h7⟩ := h
  obtain ⟨_, ⟨z1, _⟩, c, _⟩ := id hm
  have aw := c w (by omega)
  have nw := aw.2.2.2 (hn w (by omega) (by omega))
  have a3 := c (w + 3) (by omega)
  have a4 := c (w + 4) (by omega)
  refine ⟨by omega, by rw [aw.1]; exact h1, by rw [nw.2.1]; exact h2, TxN_Mk h3 hm (hn _ (by omega) (by omega)), by rw [a3.1, a3.2.1]; exact h4', by rw [a4.1, a4.2.1]; exact h5, by rw [nw.1]; exact h6, fun i hi => ⟨by rw [(a3.2.2.2 (hn _ (by omega) (by omega))).2.2]; exact (h7 i hi).1, EdZ_Mk (h7 i hi).2 hm (fun x x1 x2 => hn x (by omega) (by omega))⟩⟩
def dQ (z w : Nat) : Nat → Nat
  | 0 => 0
  | n + 1 => dQ z w n + dE z (w + 5 + 45 * n)
theorem wd_mkA {z ex : Nat} {X : Nat × Nat} {S : CS} {w r g : Nat} (hW : Wb S) (hz : cZ S = w + 1) (hk : kd S w = 10) (hr : r < cZ S ∧ kd S r ≠ 14) (hg : g < cZ S ∧ kd S g ≠ 14) (hX : w + 185 ≤ X.1) (hU : cU S + 250 ≤ X.2) : ∃ T, (∀ k : CS → Option CS, ((nwo X S 7 2).bind fun S1 => (f7_init X S1 (cZ S)).bind fun S2 => (pr S2 10 w 2 (cZ S)).bind fun S3 => (nwa X S3 16 4).bind fun S4 => (pr S4 10 w 3 (cZ S3)).bind fun S5 => (nwa X S5 14 4).bind fun S6 => (pr S6 10 w 4 (cZ S5)).bind fun S7 => k S7) = k T) ∧ cZ T = w + 5 ∧ kd T w = 10 ∧ (cJ T w 2 = some (w + 1) ∧ cJ T w 3 = some (w + 3) ∧ cJ T w 4 = some (w + 4)) ∧ TxN T (w + 1) ∧ (kd T (w + 3) = 16 ∧ cN T (w + 3) = 4) ∧ (kd T (w + 4) = 14 ∧ cN T (w + 4) = 4) ∧ Mk z ex (fun x => x = w) 4 250 0 S T := by
  have o1 : okN 10 := by unfold okN; omega
  have Hh : cZ S ≤ w ∨ w = w := Or.inr rfl
  obtain ⟨p1, p2⟩ := new_txt (X := X) (S := S) (by omega) (by omega)
  obtain ⟨m1, a1, a2, a3, a4, a5⟩ := mk_two (z := z) (ex := ex) (S := S) (ci := 7) (m := 240) hW (Or.inr ⟨rfl, rfl⟩)
  rw [if_neg (by omega)] at m1
  rw [hz] at a1 a2 a3 a4 a5
  generalize hT1 : twoC S 7 240 = T1 at m1 p2 a1 a2 a3 a4 a5
  have m1' := Mk_mono (H' := fun x => x = w) m1 (fun x _ h => h.elim)
  have z1 := m1.2.1.1
  have k1 : kd T1 w = 10 := by rw [(m1.2.2.1 w (by omega)).1]; exact hk
  obtain ⟨q2, m2⟩ := st_pr (k := 2) (b := w + 1) m1' Hh k1 o1 (by omega) (by omega) (by rw [a1]; omega)
  have m12 : Mk z ex (fun x => x = w) 0 0 0 T1 (setJ T1 w 2 (some (w + 1))) := mk_pr m1.1 (by omega) (by omega) (by omega) (by omega)
  have X2 : TxN (setJ T1 w 2 (some (w + 1))) (w + 1) := TxN_Mk ⟨by omega, a1, a2, a3, a4, a5⟩ m12 (by omega)
  generalize hT2 : setJ T1 w 2 (some (w + 1)) = T2 at m2 q2 X2
  have z2 : cZ T2 = w + 3 := by have := m2.2.1.1; omega
  have u2 := m2.2.1.2
  have k2 : kd T2 w = 10 := by rw [← hT2]; exact k1
  have j2 : cJ T2 w 2 = some (w + 1) := by rw [← hT2, cJ_set, if_pos ⟨rfl, rfl⟩]
  obtain ⟨p3, q3, m3⟩ := st_arr (X := X) (k := 3) (ck := 16) (m := 4) m2 Hh k2 o1 (by omega) (Or.inr ⟨by omega, by omega⟩) (by omega) (by omega) (by omega)
  have mm3 : Mk z ex (fun x => x = w) 1 4 0 T2 (setJ (bornA T2 16 4) w 3 (some (cZ T2))) := mk_arr m2.1 (by omega) (by omega) (Or.inr ⟨by omega, by omega⟩)
  obtain ⟨f1, f2, f3, f4, f5, f6⟩ := arr_f (S := T2) (h := w) (k := 3) (ck := 16) (n := 4) (by omega)
  have X3 := TxN_Mk X2 mm3 (show ¬ w + 1 = w by omega)
  generalize hT3 : setJ (bornA T2 16 4) w 3 (some (cZ T2)) = T3 at m3 mm3 q3 X3 f1 f2 f3 f4 f5 f6
  rw [z2] at f1 f2 f5
  have z3 : cZ T3 = w + 4 := by have := mm3.2.1.1; omega
  have u3 := m3.2.1.2
  have k3 : kd T3 w = 10 := by rw [(mm3.2.2.1 w (by omega)).1]; exact k2
  obtain ⟨p4, q4, m4⟩ := st_arr (X := X) (k := 4) (ck := 14) (m := 4) m3 Hh k3 o1 (by omega) (Or.inl rfl) (by omega) (by omega) (by omega)
  have mm4 : Mk z ex (fun x => x = w) 1 4 0 T3 (setJ (bornA T3 14 4) w 4 (some (cZ T3))) := mk_arr m3.1 (by omega) (by omega) (Or.inl rfl)
  obtain ⟨g1, g2, g3, g4, g5, g6⟩ := arr_f (S := T3) (h := w) (k := 4) (ck := 14) (n := 4) (by omega)
  have X4 := TxN_Mk X3 mm4 (show ¬ w + 1 = w by omega)
  generalize hT4 : setJ (bornA T3 14 4) w 4 (some (cZ T3)) = T4 at m4 mm4 q4 X4 g1 g2 g3 g4 g5 g6
  rw [z3] at g1 g2 g5
  have z4 : cZ T4 = w + 5 := by have := mm4.2.1.1; omega
  have k4 : kd T4 w = 10 := by rw [(mm4.2.2.1 w (by omega)).1]; exact k3
  have b3 := mm4.2.2.1 (w + 3) (by omega)
  refine ⟨T4, fun k => ?_, z4, k4, ⟨?_, ?_, ?_⟩, X4, ⟨by rw [b3.1]; exact f1, by rw [b3.2.1]; exact f2⟩, ⟨g1, g2⟩, m4⟩
  · rw [p1, Option.bind_some, p2, Option.bind_some, hz, q2, Option.bind_some, show (4 : Int32) = nI 4 from rfl, p3, Option.bind_some, q3, Option.bind_some, p4, Option.bind_some, q4, Option.bind_some]
  · rw [g5, if_neg (by omega), f5, if_neg (by omega)]; exact j2
  · rw [g5, if_neg (by omega), f5, if_pos rfl]
  · rw [g5, if_pos rfl]
theorem wd_mkB {z ex : Nat} {S T : CS} {w r g n u D : Nat} (hm : Mk z ex (fun x => x = w) n u D S T) (hz : cZ T = w + 5) (hk : kd T w = 10) (hr : r < cZ T ∧ kd T r ≠ 14) (hg : g < cZ T ∧ kd T g ≠ 14) (hj : cJ T w 2 = some (w + 1) ∧ cJ T w 3 = some (w + 3) ∧ cJ T w 4 = some (w + 4)) (hX : TxN T (w + 1)) (h3 : kd T (w + 3) = 16 ∧ cN T (w + 3) = 4) (h4 : kd T (w + 4) = 14 ∧ cN T (w + 4) = 4) : ∃ T', (∀ k : CS → Option CS, ((pi T 10 w 5 1).bind fun S8 => (pi S8 10 w 6 0).bind fun S9 => (pi S9 10 w 7 0).bind fun S10 => (pi S10 10 w 8 0).bind fun S11 => (pi S11 10 w 9 0).bind fun S12 => (pi S12 10 w 10 0).bind fun S13 => (pi S13 10 w 11 0).bind fun S14 => (pr S14 10 w 0 r).bind fun S15 => (pr S15 10 w 1 g).bind fun S16 => k S16) = k T') ∧ cZ T' = w + 5 ∧ WdZ T' w r g 0 ∧ Mk z ex (fun x => x = w) n u D S T' := by
  have o1 : okN 10 := by unfold okN; omega
  have Hh : cZ S ≤ w ∨ w = w := Or.inr rfl
  obtain ⟨q1, m1⟩ := st_pi (k := 5) (v := 1) hm Hh hk o1
  have k1 : kd (setI T w 5 1) w = 10 := hk
  obtain ⟨q2, m2⟩ := st_pi (k := 6) (v := 0) m1 Hh k1 o1
  have k2 : kd (setI (setI T w 5 1) w 6 0) w = 10 := hk
  obtain ⟨q3, m3⟩ := st_pi (k := 7) (v := 0) m2 Hh k2 o1
  have k3 : kd (setI (setI (setI T w 5 1) w 6 0) w 7 0) w = 10 := hk
  obtain ⟨q4, m4⟩ := st_pi (k := 8) (v := 0) m3 Hh k3 o1
  have k4 : kd (setI (setI (setI (setI T w 5 1) w 6 0) w 7 0) w 8 0) w = 10 := hk
  obtain ⟨q5, m5⟩ := st_pi (k := 9) (v := 0) m4 Hh k4 o1
  have k5 : kd (setI (setI (setI (setI (setI T w 5 1) w 6 0) w 7 0) w 8 0) w 9 0) w = 10 := hk
  obtain ⟨q6, m6⟩ := st_pi (k := 10) (v := 0) m5 Hh k5 o1
  have k6 : kd (setI (setI (setI (setI (setI (setI T w 5 1) w 6 0) w 7 0) w 8 0) w 9 0) w 10 0) w = 10 := hk
  obtain ⟨q7, m7⟩ := st_pi (k := 11) (v := 0) m6 Hh k6 o1
  have nums : ∀ j, cI (setI (setI (setI (setI (setI (setI (setI T w 5 1) w 6 0) w 7 0) w 8 0) w 9 0) w 10 0) w 11 0) w j = if j = 5 then 1 else if 6 ≤ j ∧ j ≤ 11 then 0 else cI T w j := fun j => by
    rw [cI_set, cI_set, cI_set, cI_set, cI_set, cI_set, cI_set]
    by_cases h5 : j = 5
    · subst h5
      simp
    · by_cases h6 : 6 ≤ j ∧ j ≤ 11
      · rw [if_neg h5, if_pos h6]
        rcases (show j = 6 ∨ j = 7 ∨ j = 8 ∨ j = 9 ∨ j = 10 ∨ j = 11 by omega) with rfl | rfl | rfl | rfl | rfl | rfl <;> simp
      · rw [if_neg h5, if_neg h6, if_neg (by omega), if_neg (by omega), if_neg (by omega), if_neg (by omega), if_neg (by omega), if_neg (by omega), if_neg (by omega)]
  have n7 : ∀ x, x ≠ w → cI (setI (setI (setI (setI (setI (setI (setI T w 5 1) w 6 0) w 7 0) w 8 0) w 9 0) w 10 0) w 11 0) x = cI T x := fun x hx => by
    funext j
    rw [cI_set, if_neg (by omega), cI_set, if_neg (by omega), cI_set, if_neg (by omega), cI_set, if_neg (by omega), cI_set, if_neg (by omega), cI_set, if_neg (by omega), cI_set, if_neg (by omega)]
  have same : ∀ U : CS, U = setI (setI (setI (setI (setI (setI (setI T w 5 1) w 6 0) w 7 0) w 8 0) w 9 0) w 10 0) w 11 0 → cL U = cL T ∧ cK U = cK T ∧ cJ U = cJ T ∧ cN U = cN T ∧ cA U = cA T ∧ cB U = cB T ∧ cZ U = cZ T ∧ cU U = cU T := fun U hU => by rw [hU]; exact ⟨rfl, rfl, rfl, rfl, rfl, rfl, rfl, rfl⟩
  generalize hU : setI (setI (setI (setI (setI (setI (setI T w 5 1) w 6 0) w 7 0) w 8 0) w 9 0) w 10 0) w 11 0 = U at m7 q7 nums n7 same
  obtain ⟨s1, s2, s3, s4, s5, s6, s7, s8⟩ := same U rfl
  have kU : ∀ x, kd U x = kd T x := fun x => by unfold kd; rw [s1, s2]
  obtain ⟨q8, m8⟩ := st_pr (k := 0) (b := r) m7 Hh (by rw [kU]; exact hk) o1 (by omega) (by omega) (by rw [kU]; exact hr.2)
  obtain ⟨q9, m9⟩ := st_pr (T := setJ U w 0 (some r)) (k := 1) (b := g) m8 Hh (show kd U w = 10 by rw [kU]; exact hk) o1 (show w < cZ U by omega) (show g < cZ U by omega) (show kd U g ≠ 14 by rw [kU]; exact hg.2)
  have hJ : ∀ x j, cJ (setJ (setJ U w 0 (some r)) w 1 (some g)) x j = if x = w ∧ j = 1 then some g else if x = w ∧ j = 0 then some r else cJ T x j := fun x j => by rw [cJ_set, cJ_set, s3]
  have mT : Mk z ex (fun x => x = w) 0 0 0 T (setJ (setJ U w 0 (some r)) w 1 (some g)) := Mk_same hm.1 s1 s2 s4 s7 s8 s5 n7 (fun x _ => by show cB U x = _; rw [s6]) (fun x hx => by
    funext j
    rw [hJ, if_neg (fun q => hx q.1), if_neg (fun q => hx q.1)]) (fun x j a hh => by
    rw [hJ] at hh
    by_cases c1 : x = w ∧ j = 1
    · rw [if_pos c1] at hh
      have := Option.some.inj hh
      subst this
      exact Or.inr ⟨by omega, hg.1, hg.2⟩
    · rw [if_neg c1] at hh
      by_cases c2 : x = w ∧ j = 0
      · rw [if_pos c2] at hh
        have := Option.some.inj hh
        subst this
        exact Or.inr ⟨by omega, hr.1, hr.2⟩
      · rw [if_neg c2] at hh; exact Or.inl hh) (fun x hx => by rw [hx, hk]; omega)
  refine ⟨setJ (setJ U w 0 (some r)) w 1 (some g), fun k => ?_, by show cZ U = _; omega, ⟨by show w + 4 < cZ U; omega, by show kd U w = 10; rw [kU]; exact hk, ⟨?_, ?_, ?_, ?_, ?_⟩, TxN_Mk hX mT (by omega), ?_, ?_, ?_, fun i hi => absurd hi (Nat.not_lt_zero _)⟩, m9⟩
  · rw [q1, Option.bind_some, q2, Option.bind_some, q3, Option.bind_some, q4, Option.bind_some, q5, Option.bind_some, q6, Option.bind_some, q7, Option.bind_some, q8, Option.bind_some, q9, Option.bind_some]
  · rw [hJ, if_neg (by omega), if_pos ⟨rfl, rfl⟩]
  · rw [hJ, if_pos ⟨rfl, rfl⟩]
  · rw [hJ, if_neg (by omega), if_neg (by omega)]; exact hj.1
  · rw [hJ, if_neg (by omega), if_neg (by omega)]; exact hj.2.1
  · rw [hJ, if_neg (by omega), if_neg (by omega)]; exact hj.2.2
  · show kd U (w + 3) = 16 ∧ cN U (w + 3) = 4
    rw [kU, s4]; exact h3
  · show kd U (w + 4) = 14 ∧ cN U (w + 4) = 4
    rw [kU, s4]; exact h4
  · show cI U w 5 = 1 ∧ cI U w 6 = 0 ∧ cI U w 7 = 0 ∧ cI U w 8 = 0 ∧ cI U w 9 = 0 ∧ cI U w 10 = 0 ∧ cI U w 11 = 0
    rw [nums, nums, nums, nums, nums, nums, nums]
    simp
