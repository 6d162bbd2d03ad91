/-! ===== PART II, the class: the objects of the beginning are made ===== -/
section MD
variable {z ex n u D h k b ci m ck : Nat} {S T : CS} {X : Nat × Nat} {H : Nat → Prop} {v : Int32}
theorem op_mk (hW : Wb S) (hz : cZ S + 2 ≤ X.1) (hu : cU S + 10 ≤ X.2) : ∃ T, (∀ k : CS → Option CS, ((nwo X S 4 2).bind fun S1 => (f4_init X S1 (cZ S)).bind k) = k T) ∧ OpN T (cZ S) ∧ Mk z ex (fun _ => False) 2 10 (dW z (cZ S)) S T := by
  obtain ⟨p1, p2⟩ := new_op hz hu
  obtain ⟨m1, a1, a2, a3, a4, a5⟩ := mk_two (z := z) (ex := ex) (S := S) (ci := 4) (m := 8) hW (Or.inl ⟨rfl, rfl⟩)
  rw [if_pos rfl] at m1
  exact ⟨twoC S 4 8, fun k => by rw [p1, Option.bind_some, p2, Option.bind_some], ⟨by have := m1.2.1.1; omega, a1, a2, a3, a4, a5⟩, m1⟩
theorem txt_mk (hW : Wb S) (hz : cZ S + 2 ≤ X.1) (hu : cU S + 242 ≤ X.2) : ∃ T, (∀ k : CS → Option CS, ((nwo X S 7 2).bind fun S1 => (f7_init X S1 (cZ S)).bind k) = k T) ∧ TxN T (cZ S) ∧ Mk z ex (fun _ => False) 2 242 0 S T := by
  obtain ⟨p1, p2⟩ := new_txt hz hu
  obtain ⟨m1, a1, a2, a3, a4, a5⟩ := mk_two (z := z) (ex := ex) (S := S) (ci := 7) (m := 240) hW (Or.inr ⟨rfl, rfl⟩)
  rw [if_neg (by omega)] at m1
  exact ⟨twoC S 7 240, fun k => by rw [p1, Option.bind_some, p2, Option.bind_some], ⟨by have := m1.2.1.1; omega, a1, a2, a3, a4, a5⟩, m1⟩
/-- an object h of kind ci is under way -/
def Ob (z ex h ci n u D : Nat) (S T : CS) : Prop := Mk z ex (fun x => x = h) n u D S T ∧ kd T h = ci ∧ h < cZ S ∧ (okN ci ∨ (ci = 9 ∧ h = ex))
theorem Ob_lt (h1 : Ob z ex h ci n u D S T) : h < cZ T := by have := h1.1.2.1.1; have := h1.2.2.1; omega
theorem Ob_ok (h1 : Ob z ex h ci n u D S T) : okN (kd T h) ∨ h = ex := by
  obtain ⟨a, b, c, d⟩ := h1
  rw [b]
  exact d.imp id (fun x => x.2)
theorem Ob_n4 (h1 : Ob z ex h ci n u D S T) : kd T h ≠ 4 := by
  obtain ⟨a, b, c, d⟩ := h1
  rw [b]
  rcases d with d | d
  · exact d.1
  · omega
theorem Ob_rf (hW : Wb S) (hk : kd S h = ci) (hz : h < cZ S) (ho : okN ci ∨ (ci = 9 ∧ h = ex)) : Ob z ex h ci 0 0 0 S S := ⟨Mk_rf hW, hk, hz, ho⟩
theorem Ob_st {n' u' D' : Nat} {T' : CS} (h1 : Ob z ex h ci n u D S T) (h2 : Mk z ex (fun x => x = h) n' u' D' T T') : Ob z ex h ci (n + n') (u + u') (D + D') S T' :=
  ⟨Mk_trans h1.1 h2 (fun x _ h => h) (fun x hx _ => by rw [hx]; exact Ob_ok h1), by rw [(h2.2.2.1 h (Ob_lt h1)).1]; exact h1.2.1, h1.2.2.1, h1.2.2.2⟩
theorem Ob_sub {n' u' D' : Nat} {T' : CS} (h1 : Ob z ex h ci n u D S T) (h2 : Mk z ex (fun _ => False) n' u' D' T T') : Ob z ex h ci (n + n') (u + u') (D + D') S T' := Ob_st h1 (Mk_mono h2 (fun _ _ h => h.elim))
theorem Ob_pi (h1 : Ob z ex h ci n u D S T) : pi T ci h k v = some (setI T h k v) ∧ Mk z ex (fun x => x = h) 0 0 0 T (setI T h k v) ∧ Ob z ex h ci n u D S (setI T h k v) := by
  have m := mk_pi (z := z) (ex := ex) (k := k) (v := v) h1.1.1 (Ob_n4 h1)
  exact ⟨pi_k h1.2.1, m, by have := Ob_st h1 m; exact this⟩
theorem Ob_pr (h1 : Ob z ex h ci n u D S T) (hb : b < cZ T) (h14 : kd T b ≠ 14) : pr T ci h k b = some (setJ T h k (some b)) ∧ Mk z ex (fun x => x = h) 0 0 0 T (setJ T h k (some b)) ∧ Ob z ex h ci n u D S (setJ T h k (some b)) := by
  have m := mk_pr (z := z) (ex := ex) (k := k) (b := b) h1.1.1 (Ob_n4 h1) (Ob_lt h1) hb h14
  exact ⟨pr_k h1.2.1, m, by have := Ob_st h1 m; exact this⟩
theorem Ob_arr (h1 : Ob z ex h ci n u D S T) (hck : ck = 14 ∨ (16 ≤ ck ∧ ck ≤ 19)) (hX : cZ T < X.1) (hU : cU T + m ≤ X.2) (hm6 : m < 1000000) : ∃ T', (∀ kk : CS → Option CS, ((nwa X T ck (nI m)).bind fun S1 => (pr S1 ci h k (cZ T)).bind kk) = kk T') ∧ Ob z ex h ci (n + 1) (u + m) D S T' ∧ Mk z ex (fun x => x = h) 1 m 0 T T' ∧ kd T' (cZ T) = ck ∧ cN T' (cZ T) = m ∧ (∀ i, cB T' (cZ T) i = none) ∧ (∀ i, cA T' (cZ T) i = 0) ∧ (∀ j, cJ T' h j = if j = k then some (cZ T) else cJ T h j) ∧ cI T' h = cI T h := by
  have hlt := Ob_lt h1
  have mm := mk_arr (z := z) (ex := ex) (k := k) (n := m) h1.1.1 hlt (Ob_n4 h1) hck
  obtain ⟨f1, f2, f3, f4, f5, f6⟩ := arr_f (S := T) (h := h) (k := k) (ck := ck) (n := m) hlt
  refine ⟨_, fun kk => ?_, by have := Ob_st h1 mm; exact this, mm, f1, f2, f4, f3, f5, by rw [f6]⟩
  rw [nwr_k hX hU hm6, Option.bind_some, pr_k (by rw [kd_bornA hlt]; exact h1.2.1), Option.bind_some]
/-- what was told, as it is made -/
def ToZ (S : CS) (h : Nat) : Prop := h + 4 < cZ S ∧ kd S h = 8 ∧ (cJ S h 0 = some (h + 1) ∧ cJ S h 7 = some (h + 2) ∧ cJ S h 9 = some (h + 3) ∧ cJ S h 10 = some (h + 4)) ∧ ((kd S (h + 1) = 14 ∧ cN S (h + 1) = 1600) ∧ (kd S (h + 2) = 14 ∧ cN S (h + 2) = 1600) ∧ (kd S (h + 3) = 14 ∧ cN S (h + 3) = 60) ∧ (kd S (h + 4) = 14 ∧ cN S (h + 4) = 240)) ∧ cI S h 1 = 0
theorem ToZ_Mk (h0 : ToZ S h) (hm : Mk z ex H n u D S T) (hn : ¬ H h) : ToZ T h := by
  obtain ⟨h1, h2, h3, ⟨⟨a1, a2⟩, ⟨a3, a4⟩, ⟨a5, a6⟩, ⟨a7, a8⟩⟩, h5⟩ := h0
  obtain ⟨_, ⟨z1, _⟩, c, _⟩ := id hm
  have c0 := c h (by omega)
  have c1 := c (h + 1) (by omega)
  have c2 := c (h + 2) (by omega)
  have c3 := c (h + 3) (by omega)
  have c4 := c (h + 4) (by omega)
  have nw := c0.2.2.2 hn
  exact ⟨by omega, by rw [c0.1]; exact h2, by rw [nw.2.1]; exact h3, ⟨⟨by rw [c1.1]; exact a1, by rw [c1.2.1]; exact a2⟩, ⟨by rw [c2.1]; exact a3, by rw [c2.2.1]; exact a4⟩, ⟨by rw [c3.1]; exact a5, by rw [c3.2.1]; exact a6⟩, by rw [c4.1]; exact a7, by rw [c4.2.1]; exact a8⟩, by rw [nw.1]; exact h5⟩
theorem told_mk (hW : Wb S) (hz : cZ S = h + 1) (hk : kd S h = 8) (hi : cI S h 1 = 0) (hX : h + 5 ≤ X.1) (hU : cU S + 3500 ≤ X.2) : ∃ S', f8_init X S h = some S' ∧ ToZ S' h ∧ Mk z ex (fun x => x = h) 4 3500 0 S S' := by
  have o0 := Ob_rf (z := z) (ex := ex) (h := h) hW hk (by omega) (Or.inl (by unfold okN; omega))
  obtain ⟨T1, r1, o1, m1, a1, a2, a3, a4, a5, a6⟩ := Ob_arr (X := X) (k := 0) (ck := 14) (m := 1600) o0 (Or.inl rfl) (by omega) (by omega) (by omega)
  rw [hz] at a1 a2 a5
  have z1 : cZ T1 = h + 2 := by have := m1.2.1.1; omega
  have u1 := m1.2.1.2
  obtain ⟨q1, _, o2⟩ := Ob_pi (k := 1) (v := 0) o1
  obtain ⟨q2, _, o2⟩ := Ob_pi (k := 2) (v := 0) o2
  obtain ⟨q3, _, o2⟩ := Ob_pi (k := 3) (v := 0) o2
  obtain ⟨q4, _, o2⟩ := Ob_pi (k := 4) (v := 0) o2
  obtain ⟨q5, _, o2⟩ := Ob_pi (k := 5) (v := 0) o2
  obtain ⟨q6, _, o2⟩ := Ob_pi (k := 6) (v := 0) o2
  have i2 : cI (setI (setI (setI (setI (setI (setI T1 h 1 0) h 2 0) h 3 0) h 4 0) h 5 0) h 6 0) h 1 = 0 := by
    rw [cI_set, if_neg (by omega), cI_set, if_neg (by omega), cI_set, if_neg (by omega), cI_set, if_neg (by omega), cI_set, if_neg (by omega), cI_self]
  have j2 : ∀ j, cJ (setI (setI (setI (setI (setI (setI T1 h 1 0) h 2 0) h 3 0) h 4 0) h 5 0) h 6 0) h j = if j = 0 then some (h + 1) else cJ S h j := a5
  have b2 : kd (setI (setI (setI (setI (setI (setI T1 h 1 0) h 2 0) h 3 0) h 4 0) h 5 0) h 6 0) (h + 1) = 14 ∧ cN (setI (setI (setI (setI (setI (setI T1 h 1 0) h 2 0) h 3 0) h 4 0) h 5 0) h 6 0) (h + 1) = 1600 := ⟨a1, a2⟩
  have z2 : cZ (setI (setI (setI (setI (setI (setI T1 h 1 0) h 2 0) h 3 0) h 4 0) h 5 0) h 6 0) = h + 2 := z1
  have u2 : cU (setI (setI (setI (setI (setI (setI T1 h 1 0) h 2 0) h 3 0) h 4 0) h 5 0) h 6 0) = cU S + 1600 := u1
  generalize setI (setI (setI (setI (setI (setI T1 h 1 0) h 2 0) h 3 0) h 4 0) h 5 0) h 6 0 = T2 at *
  obtain ⟨T3, r3, o3, m3, c1, c2, _, _, c5, c6⟩ := Ob_arr (X := X) (k := 7) (ck := 14) (m := 1600) o2 (Or.inl rfl) (by omega) (by omega) (by omega)
  rw [z2] at c1 c2 c5
  have z3 : cZ T3 = h + 3 := by have := m3.2.1.1; omega
  have u3 := m3.2.1.2
  obtain ⟨q7, _, o4⟩ := Ob_pi (k := 8) (v := 0) o3
  have i4 : cI (setI T3 h 8 0) h 1 = 0 := by rw [cI_set, if_neg (by omega), c6]; exact i2
  have j4 : ∀ j, cJ (setI T3 h 8 0) h j = if j = 7 then some (h + 2) else cJ T2 h j := c5
  have m34 := mk_pi (z := z) (ex := ex) (h := h) (k := 8) (v := 0) o3.1.1 (Ob_n4 o3)
  have b4 : (kd (setI T3 h 8 0) (h + 1) = 14 ∧ cN (setI T3 h 8 0) (h + 1) = 1600) ∧ kd (setI T3 h 8 0) (h + 2) = 14 ∧ cN (setI T3 h 8 0) (h + 2) = 1600 := ⟨⟨by show kd T3 _ = _; rw [(m3.2.2.1 (h + 1) (by omega)).1]; exact b2.1, by show cN T3 _ = _; rw [(m3.2.2.1 (h + 1) (by omega)).2.1]; exact b2.2⟩, c1, c2⟩
  have z4 : cZ (setI T3 h 8 0) = h + 3 := z3
  have u4 : cU (setI T3 h 8 0) = cU T2 + 1600 := u3
  generalize setI T3 h 8 0 = T4 at *
  obtain ⟨T5, r5, o5, m5, d1, d2, _, _, d5, d6⟩ := Ob_arr (X := X) (k := 9) (ck := 14) (m := 60) o4 (Or.inl rfl) (by omega) (by omega) (by omega)
  rw [z4] at d1 d2 d5
  have z5 : cZ T5 = h + 4 := by have := m5.2.1.1; omega
  have u5 := m5.2.1.2
  obtain ⟨T6, r6, o6, m6, e1, e2, _, _, e5, e6⟩ := Ob_arr (X := X) (k := 10) (ck := 14) (m := 240) o5 (Or.inl rfl) (by omega) (by omega) (by omega)
  rw [z5] at e1 e2 e5
  have z6 : cZ T6 = h + 5 := by have := m6.2.1.1; omega
  obtain ⟨q8, m8, o7⟩ := Ob_pi (k := 11) (v := 0) o6
  refine ⟨setI T6 h 11 0, ?_, ?_, o7.1⟩
  · unfold f8_init
    rw [show (1600 : Int32) = nI 1600 from rfl, show (60 : Int32) = nI 60 from rfl, show (240 : Int32) = nI 240 from rfl, r1, q1, Option.bind_some, q2, Option.bind_some, q3, Option.bind_some, q4, Option.bind_some, q5, Option.bind_some, q6, Option.bind_some, r3, q7, Option.bind_some, r5, r6, q8, Option.bind_some]
  · have w : ∀ x, x < h + 3 → kd T6 x = kd T4 x ∧ cN T6 x = cN T4 x := fun x hx => ⟨by rw [(m6.2.2.1 x (by omega)).1, (m5.2.2.1 x (by omega)).1], by rw [(m6.2.2.1 x (by omega)).2.1, (m5.2.2.1 x (by omega)).2.1]⟩
    refine ⟨by show h + 4 < cZ T6; omega, o7.2.1, ⟨?_, ?_, ?_, ?_⟩, ⟨⟨?_, ?_⟩, ⟨?_, ?_⟩, ⟨?_, ?_⟩, e1, e2⟩, ?_⟩
    · show cJ T6 h 0 = _
      rw [e5, if_neg (by omega), d5, if_neg (by omega), j4, if_neg (by omega), j2, if_pos rfl]
    · show cJ T6 h 7 = _
      rw [e5, if_neg (by omega), d5, if_neg (by omega), j4, if_pos rfl]
    · show cJ T6 h 9 = _
      rw [e5, if_neg (by omega), d5, if_pos rfl]
    · show cJ T6 h 10 = _
      rw [e5, if_pos rfl]
    · show kd T6 _ = _; rw [(w (h + 1) (by omega)).1]; exact b4.1.1
    · show cN T6 _ = _; rw [(w (h + 1) (by omega)).2]; exact b4.1.2
    · show kd T6 _ = _; rw [(w (h + 2) (by omega)).1]; exact b4.2.1
    · show cN T6 _ = _; rw [(w (h + 2) (by omega)).2]; exact b4.2.2
    · show kd T6 _ = _; rw [(m6.2.2.1 (h + 3) (by omega)).1]; exact d1
    · show cN T6 _ = _; rw [(m6.2.2.1 (h + 3) (by omega)).2.1]; exact d2
    · rw [cI_set, if_neg (by omega), e6, d6]; exact i4
end MD
