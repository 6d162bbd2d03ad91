/-! ===== PART II, the class: an editor is made ===== -/
section MS
variable {z ex n u D n' u' D' h k b ci : Nat} {S T T' : CS} {X : Nat × Nat} {H H' : Nat → Prop} {v : Int32}
theorem Mk_mono (hm : Mk z ex H n u D S T) (hh : ∀ x, x < cZ S → H x → H' x) : Mk z ex H' n u D S T := by
  obtain ⟨a1, a2, a3, a4, a5, a6⟩ := hm
  exact ⟨a1, a2, fun x hx => ⟨(a3 x hx).1, (a3 x hx).2.1, (a3 x hx).2.2.1, fun hn => (a3 x hx).2.2.2 (fun hH => hn (hh x hx hH))⟩, a4, a5, a6⟩
theorem Mk_rf (hW : Wb S) : Mk z ex H 0 0 0 S S :=
  ⟨hW, ⟨rfl, rfl⟩, fun x hx => ⟨rfl, rfl, rfl, fun _ => ⟨rfl, rfl, rfl⟩⟩, fun h k a hj ha hk => ⟨(hW.2.1 _ _ _ hj).1, hj⟩, fun x hx _ => okC_no (by rw [kd_no hW.1 hx]; omega), by omega⟩
theorem st_sub (hm : Mk z ex H n u D S T) (h2 : Mk z ex H' n' u' D' T T') (hH : ∀ x, H' x → (cZ S ≤ x ∨ H x) ∧ okN (kd T x)) : Mk z ex H (n + n') (u + u') (D + D') S T' :=
  Mk_trans hm h2 (fun x hx h' => ((hH x h').1).elim (fun h => by omega) (fun h => h)) (fun x hx _ => Or.inl (hH x hx).2)
theorem st_pr (hm : Mk z ex H n u D S T) (hH : cZ S ≤ h ∨ H h) (hk : kd T h = ci) (hci : okN ci) (hz : h < cZ T) (hb : b < cZ T) (h14 : kd T b ≠ 14) : pr T ci h k b = some (setJ T h k (some b)) ∧ Mk z ex H n u D S (setJ T h k (some b)) := by
  refine ⟨pr_k hk, ?_⟩
  have := st_sub hm (mk_pr (k := k) hm.1 (by rw [hk]; exact hci.1) hz hb h14) (fun x hx => by rw [hx]; exact ⟨hH, by rw [hk]; exact hci⟩)
  exact this
theorem st_pi (hm : Mk z ex H n u D S T) (hH : cZ S ≤ h ∨ H h) (hk : kd T h = ci) (hci : okN ci) : pi T ci h k v = some (setI T h k v) ∧ Mk z ex H n u D S (setI T h k v) := by
  refine ⟨pi_k hk, ?_⟩
  have := st_sub hm (mk_pi (k := k) (v := v) hm.1 (by rw [hk]; exact hci.1)) (fun x hx => by rw [hx]; exact ⟨hH, by rw [hk]; exact hci⟩)
  exact this
theorem st_arr {ck m : Nat} (hm : Mk z ex H n u D S T) (hH : cZ S ≤ h ∨ H h) (hk : kd T h = ci) (hci : okN ci) (hz : h < cZ T) (hck : ck = 14 ∨ (16 ≤ ck ∧ ck ≤ 19)) (hX : cZ T < X.1) (hU : cU T + m ≤ X.2) (hm6 : m < 1000000) : nwa X T ck (nI m) = some (bornA T ck m) ∧ pr (bornA T ck m) ci h k (cZ T) = some (setJ (bornA T ck m) h k (some (cZ T))) ∧ Mk z ex H (n + 1) (u + m) D S (setJ (bornA T ck m) h k (some (cZ T))) := by
  refine ⟨nwr_k hX hU hm6, pr_k (by rw [kd_bornA hz]; exact hk), ?_⟩
  have := st_sub hm (mk_arr (k := k) (n := m) hm.1 hz (by rw [hk]; exact hci.1) hck) (fun x hx => by rw [hx]; exact ⟨hH, by rw [hk]; exact hci⟩)
  exact this
end MS
/-- an editor as it is made -/
def EdZ (S : CS) (e : Nat) : Prop := e + 44 < cZ S ∧ EdS S e ∧ OpN S (e + 3) ∧ OpN S (e + 5) ∧ InvN S (e + 7) ∧ InvN S (e + 25)
theorem EdZ_Mk {z ex n u D : Nat} {H : Nat → Prop} {S S' : CS} {e : Nat} (h : EdZ S e) (hm : Mk z ex H n u D S S') (hn : ∀ x, e ≤ x → x < e + 45 → ¬ H x) : EdZ S' e := by
  obtain ⟨h0, ⟨a1, ⟨j0, j1, j2, j3, j4, j5, j6⟩, ⟨k1, k3, k5, k7, k25⟩, ⟨m1, m2⟩, ⟨t1, t2⟩⟩, h2, h3, h4, h5⟩ := h
  obtain ⟨_, ⟨z1, _⟩, c, _⟩ := id hm
  have k : ∀ x, x < e + 45 → kd S' x = kd S x := fun x hx => (c x (by omega)).1
  have nn : ∀ x, x < e + 45 → cN S' x = cN S x := fun x hx => (c x (by omega)).2.1
  have jj : cJ S' e = cJ S e := ((c e (by omega)).2.2.2 (hn e (by omega) (by omega))).2.1
  refine ⟨by omega, ⟨by rw [k _ (by omega)]; exact a1, by rw [jj]; exact ⟨j0, j1, j2, j3, j4, j5, j6⟩, ?_, ?_, ?_⟩, OpN_Mk h2 hm (hn _ (by omega) (by omega)), OpN_Mk h3 hm (hn _ (by omega) (by omega)), InvN_Mk h4 hm (fun x x1 x2 => hn x (by omega) (by omega)), InvN_Mk h5 hm (fun x x1 x2 => hn x (by omega) (by omega))⟩
  · rw [k _ (by omega), k _ (by omega), k _ (by omega), k _ (by omega), k _ (by omega)]; exact ⟨k1, k3, k5, k7, k25⟩
  · rw [k _ (by omega), nn _ (by omega)]; exact ⟨m1, m2⟩
  · rw [k _ (by omega), nn _ (by omega)]; exact ⟨t1, t2⟩
theorem EdZ_J {S : CS} {e : Nat} {wh : Bool} (h : EdZ S e) : EdJ S e wh := by
  obtain ⟨_, _, h2, h3, h4, h5⟩ := h
  obtain ⟨hs, i1, _⟩ := InvN_L h4
  obtain ⟨ks, i2, _⟩ := InvN_L h5
  exact ⟨OpN_S h2, OpN_S h3, fun _ => ⟨⟨hs, i1⟩, ⟨ks, i2⟩⟩⟩
def dE (z e : Nat) : Nat := dW z (e + 3) + dW z (e + 5) + dI z (e + 7) 8 + dI z (e + 25) 8
def EdA (T : CS) (e : Nat) : Prop := cZ T = e + 7 ∧ kd T e = 1 ∧ kd T (e + 1) = 7 ∧ OpN T (e + 3) ∧ OpN T (e + 5) ∧ cJ T e 0 = some (e + 1) ∧ cJ T e 1 = some (e + 3) ∧ cJ T e 2 = some (e + 5)
theorem ed_mkA {z ex : Nat} {X : Nat × Nat} {S : CS} {e : Nat} (hW : Wb S) (hz : cZ S = e + 1) (hk : kd S e = 1) (hX : e + 45 ≤ X.1) (hU : cU S + 554 ≤ X.2) : ∃ T, (∀ k : CS → Option CS, ((nwo X S 7 2).bind fun S1 => (f7_init X S1 (cZ S)).bind fun S2 => (pr S2 1 e 0 (cZ S)).bind fun S3 => (nwo X S3 4 2).bind fun S4 => (f4_init X S4 (cZ S3)).bind fun S5 => (pr S5 1 e 1 (cZ S3)).bind fun S6 => (nwo X S6 4 2).bind fun S7 => (f4_init X S7 (cZ S6)).bind fun S8 => (pr S8 1 e 2 (cZ S6)).bind fun S9 => k S9) = k T) ∧ EdA T e ∧ Mk z ex (fun x => x = e) 6 262 (dW z (e + 3) + dW z (e + 5)) S T := by
  have o1 : okN 1 := by unfold okN; omega
  have Hh : cZ S ≤ e ∨ e = e := Or.inr rfl
  -- the text
  obtain ⟨p1, p2⟩ := new_txt (X := X) (S := S) (by omega) (by omega)
  obtain ⟨m1, a1, a2, a3, a4, a5⟩ := mk_two (z := z) (ex := ex) (S := S) (ci := 7) (m := 240) hW (Or.inr ⟨rfl, rfl⟩)
  rw [if_neg (by omega)] at m1
  rw [hz] at a1 a2 a3 a4 a5
  generalize hT1 : twoC S 7 240 = T1 at m1 p2 a1 a2 a3 a4 a5
  have m1' := Mk_mono (H' := fun x => x = e) m1 (fun x _ h => h.elim)
  have z1 := m1.2.1.1
  have k1 : kd T1 e = 1 := by rw [(m1.2.2.1 e (by omega)).1]; exact hk
  obtain ⟨q2, m2⟩ := st_pr (k := 0) (b := e + 1) m1' Hh k1 o1 (by omega) (by omega) (by rw [a1]; omega)
  generalize hT2 : setJ T1 e 0 (some (e + 1)) = T2 at m2 q2
  have z2 : cZ T2 = e + 3 := by have := m2.2.1.1; omega
  have u2 := m2.2.1.2
  have k2 : kd T2 e = 1 := by rw [← hT2]; exact k1
  have b2 : kd T2 (e + 1) = 7 := by rw [← hT2]; exact a1
  have j2 : cJ T2 e 0 = some (e + 1) := by rw [← hT2, cJ_set, if_pos ⟨rfl, rfl⟩]
  -- what is pending
  obtain ⟨p3, p4⟩ := new_op (X := X) (S := T2) (by omega) (by omega)
  obtain ⟨m3, c1, c2, c3, c4, c5⟩ := mk_two (z := z) (ex := ex) (S := T2) (ci := 4) (m := 8) m2.1 (Or.inl ⟨rfl, rfl⟩)
  rw [if_pos rfl] at m3
  rw [z2] at c1 c2 c3 c4 c5 m3
  generalize hT3 : twoC T2 4 8 = T3 at m3 p4 c1 c2 c3 c4 c5
  have m3' := st_sub m2 m3 (fun x hx => hx.elim)
  have z3 : cZ T3 = e + 5 := by have := m3.2.1.1; omega
  have w3 := m3.2.2.1 e (by omega)
  have k3 : kd T3 e = 1 := by rw [w3.1]; exact k2
  have j3 : cJ T3 e = cJ T2 e := (w3.2.2.2 (fun h => h)).2.1
  have N3 : OpN T3 (e + 3) := ⟨by omega, c1, c2, c3, c4, c5⟩
  obtain ⟨q4, m4⟩ := st_pr (k := 1) (b := e + 3) m3' Hh k3 o1 (by omega) (by omega) (by rw [c1]; omega)
  have m34 : Mk z ex (fun x => x = e) 0 0 0 T3 (setJ T3 e 1 (some (e + 3))) := mk_pr m3.1 (by omega) (by omega) (by omega) (by omega)
  have N4 := OpN_Mk N3 m34 (by omega)
  generalize hT4 : setJ T3 e 1 (some (e + 3)) = T4 at m4 N4 q4
  have z4 : cZ T4 = e + 5 := by have := m4.2.1.1; omega
  have u4 := m4.2.1.2
  have k4 : kd T4 e = 1 := by rw [← hT4]; exact k3
  have j4 : cJ T4 e 0 = some (e + 1) ∧ cJ T4 e 1 = some (e + 3) := by
    rw [← hT4, cJ_set, cJ_set, if_neg (by omega), if_pos ⟨rfl, rfl⟩, j3]; exact ⟨j2, rfl⟩
  -- the buffer
  obtain ⟨p5, p6⟩ := new_op (X := X) (S := T4) (by omega) (by omega)
  obtain ⟨m5, d1, d2, d3, d4, d5⟩ := mk_two (z := z) (ex := ex) (S := T4) (ci := 4) (m := 8) m4.1 (Or.inl ⟨rfl, rfl⟩)
  rw [if_pos rfl] at m5
  rw [z4] at d1 d2 d3 d4 d5 m5
  generalize hT5 : twoC T4 4 8 = T5 at m5 p6 d1 d2 d3 d4 d5
  have m5' := st_sub m4 m5 (fun x hx => hx.elim)
  have z5 : cZ T5 = e + 7 := by have := m5.2.1.1; omega
  have w5 := m5.2.2.1 e (by omega)
  have k5 : kd T5 e = 1 := by rw [w5.1]; exact k4
  have j5 : cJ T5 e = cJ T4 e := (w5.2.2.2 (fun h => h)).2.1
  have N5 : OpN T5 (e + 5) := ⟨by omega, d1, d2, d3, d4, d5⟩
  have N5a := OpN_Mk N4 m5 (fun h => h)
  obtain ⟨q6, m6⟩ := st_pr (k := 2) (b := e + 5) m5' Hh k5 o1 (by omega) (by omega) (by rw [d1]; omega)
  have m56 : Mk z ex (fun x => x = e) 0 0 0 T5 (setJ T5 e 2 (some (e + 5))) := mk_pr m5.1 (by omega) (by omega) (by omega) (by omega)
  have N6 := OpN_Mk N5 m56 (by omega)
  have N6a := OpN_Mk N5a m56 (by omega)
  generalize hT6 : setJ T5 e 2 (some (e + 5)) = T6 at m6 N6 N6a q6
  have z6 : cZ T6 = e + 7 := by have := m6.2.1.1; omega
  have u6 := m6.2.1.2
  have k6 : kd T6 e = 1 := by rw [← hT6]; exact k5
  have j6 : cJ T6 e 0 = some (e + 1) ∧ cJ T6 e 1 = some (e + 3) ∧ cJ T6 e 2 = some (e + 5) := by
    rw [← hT6, cJ_set, cJ_set, cJ_set, if_neg (by omega), if_neg (by omega), if_pos ⟨rfl, rfl⟩, j5]; exact ⟨j4.1, j4.2, rfl⟩
  have b6 : kd T6 (e + 1) = 7 := by rw [← hT6]; show kd T5 (e + 1) = 7; rw [(m5.2.2.1 (e + 1) (by omega)).1, ← hT4]; show kd T3 (e + 1) = 7; rw [(m3.2.2.1 (e + 1) (by omega)).1]; exact b2
  refine ⟨T6, fun k => ?_, ⟨z6, k6, b6, N6a, N6, j6.1, j6.2.1, j6.2.2⟩, ?_⟩
  · rw [p1, Option.bind_some, p2, Option.bind_some, hz, q2, Option.bind_some, p3, Option.bind_some, p4, Option.bind_some, z2, q4, Option.bind_some, p5, Option.bind_some, p6, Option.bind_some, z4, q6, Option.bind_some]
  · have e1 : 0 + dW z (e + 3) + dW z (e + 5) = dW z (e + 3) + dW z (e + 5) := by omega
    rw [← e1]
    exact m6
def EdB (T : CS) (e : Nat) : Prop := cZ T = e + 43 ∧ kd T e = 1 ∧ kd T (e + 1) = 7 ∧ (OpN T (e + 3) ∧ OpN T (e + 5) ∧ InvN T (e + 7) ∧ InvN T (e + 25)) ∧ cJ T e 0 = some (e + 1) ∧ cJ T e 1 = some (e + 3) ∧ cJ T e 2 = some (e + 5) ∧ cJ T e 3 = some (e + 7) ∧ cJ T e 4 = some (e + 25)
theorem ed_mkB {z ex : Nat} {X : Nat × Nat} {T6 : CS} {e : Nat} (hW6 : Wb T6) (hA : EdA T6 e) (hX : e + 45 ≤ X.1) (hU : cU T6 + 292 ≤ X.2) : ∃ T, (∀ k : CS → Option CS, ((nwo X T6 3 2).bind fun S10 => (f3_init X S10 (cZ T6)).bind fun S11 => (pr S11 1 e 3 (cZ T6)).bind fun S12 => (nwo X S12 3 2).bind fun S13 => (f3_init X S13 (cZ S12)).bind fun S14 => (pr S14 1 e 4 (cZ S12)).bind fun S15 => k S15) = k T) ∧ EdB T e ∧ Mk z ex (fun x => x = e) 36 180 (dI z (e + 7) 8 + dI z (e + 25) 8) T6 T := by
  have o1 : okN 1 := by unfold okN; omega
  have Hh : cZ T6 ≤ e ∨ e = e := Or.inr rfl
  obtain ⟨z6, k6, b6, N6a, N6, j6a, j6b, j6c⟩ := hA
  have m6 : Mk z ex (fun x => x = e) 0 0 0 T6 T6 := Mk_rf hW6
  -- the undos
  have p7 := nwo_k (X := X) (S := T6) (ci := 3) (n := 2) (by omega) (by omega)
  have m7 : Mk z ex (fun _ => False) 1 2 0 T6 (bornO T6 3 2) := mk_obj m6.1 ⟨by omega, by omega, Or.inl (by omega)⟩
  have kn7 := kd_newO T6 3 2
  rw [z6] at kn7
  generalize hT7 : bornO T6 3 2 = T7 at m7 kn7 p7
  have m7' := st_sub m6 m7 (fun x hx => hx.elim)
  have z7 : cZ T7 = e + 7 + 1 := by have := m7.2.1.1; omega
  have u7 := m7'.2.1.2
  obtain ⟨T8, e8, I8, m8⟩ := inv_mk (z := z) (ex := ex) (X := X) m7.1 z7 kn7 (by omega) (by omega)
  have m8' := st_sub m7' m8 (fun x hx => by rw [hx]; exact ⟨Or.inl (by omega), by rw [kn7]; unfold okN; omega⟩)
  have z8 : cZ T8 = e + 25 := by have := m8.2.1.1; omega
  have w7 := m7.2.2.1 e (by omega)
  have w8 := m8.2.2.1 e (by omega)
  have k8 : kd T8 e = 1 := by rw [w8.1, w7.1]; exact k6
  have j8 : cJ T8 e = cJ T6 e := by rw [(w8.2.2.2 (by omega)).2.1, (w7.2.2.2 (fun h => h)).2.1]
  have N8 := OpN_Mk (OpN_Mk N6 m7 (fun h => h)) m8 (by omega)
  have N8a := OpN_Mk (OpN_Mk N6a m7 (fun h => h)) m8 (by omega)
  have b8 : kd T8 (e + 1) = 7 := by rw [(m8.2.2.1 (e + 1) (by omega)).1, (m7.2.2.1 (e + 1) (by omega)).1]; exact b6
  obtain ⟨q9, m9⟩ := st_pr (k := 3) (b := e + 7) m8' Hh k8 o1 (by omega) (by omega) (by rw [I8.2.1.1]; omega)
  have m89 : Mk z ex (fun x => x = e) 0 0 0 T8 (setJ T8 e 3 (some (e + 7))) := mk_pr m8.1 (by omega) (by omega) (by omega) (by rw [I8.2.1.1]; omega)
  have N9 := OpN_Mk N8 m89 (by omega)
  have N9a := OpN_Mk N8a m89 (by omega)
  have I9 := InvN_Mk I8 m89 (fun x x1 x2 => by omega)
  generalize hT9 : setJ T8 e 3 (some (e + 7)) = T9 at m9 N9 N9a I9 q9
  have z9 : cZ T9 = e + 25 := by have := m9.2.1.1; omega
  have u9 := m9.2.1.2
  have k9 : kd T9 e = 1 := by rw [← hT9]; exact k8
  have b9 : kd T9 (e + 1) = 7 := by rw [← hT9]; exact b8
  have j9 : cJ T9 e 0 = some (e + 1) ∧ cJ T9 e 1 = some (e + 3) ∧ cJ T9 e 2 = some (e + 5) ∧ cJ T9 e 3 = some (e + 7) := by
    rw [← hT9, cJ_set, cJ_set, cJ_set, cJ_set, if_neg (by omega), if_neg (by omega), if_neg (by omega), if_pos ⟨rfl, rfl⟩, j8]; exact ⟨j6a, j6b, j6c, rfl⟩
  -- the dones
  have p10 := nwo_k (X := X) (S := T9) (ci := 3) (n := 2) (by omega) (by omega)
  have m10 : Mk z ex (fun _ => False) 1 2 0 T9 (bornO T9 3 2) := mk_obj m9.1 ⟨by omega, by omega, Or.inl (by omega)⟩
  have kn10 := kd_newO T9 3 2
  rw [z9] at kn10
  generalize hT10 : bornO T9 3 2 = T10 at m10 kn10 p10
  have m10' := st_sub m9 m10 (fun x hx => hx.elim)
  have z10 : cZ T10 = e + 25 + 1 := by have := m10.2.1.1; omega
  have u10 := m10'.2.1.2
  obtain ⟨T11, e11, I11, m11⟩ := inv_mk (z := z) (ex := ex) (X := X) m10.1 z10 kn10 (by omega) (by omega)
  have m11' := st_sub m10' m11 (fun x hx => by rw [hx]; exact ⟨Or.inl (by omega), by rw [kn10]; unfold okN; omega⟩)
  have z11 : cZ T11 = e + 43 := by have := m11.2.1.1; omega
  have w10 := m10.2.2.1 e (by omega)
  have w11 := m11.2.2.1 e (by omega)
  have k11 : kd T11 e = 1 := by rw [w11.1, w10.1]; exact k9
  have j11 : cJ T11 e = cJ T9 e := by rw [(w11.2.2.2 (by omega)).2.1, (w10.2.2.2 (fun h => h)).2.1]
  have N11 := OpN_Mk (OpN_Mk N9 m10 (fun h => h)) m11 (by omega)
  have N11a := OpN_Mk (OpN_Mk N9a m10 (fun h => h)) m11 (by omega)
  have I11a := InvN_Mk (InvN_Mk I9 m10 (fun x _ _ h => h)) m11 (fun x x1 x2 => by omega)
  have b11 : kd T11 (e + 1) = 7 := by rw [(m11.2.2.1 (e + 1) (by omega)).1, (m10.2.2.1 (e + 1) (by omega)).1]; exact b9
  obtain ⟨q12, m12⟩ := st_pr (k := 4) (b := e + 25) m11' Hh k11 o1 (by omega) (by omega) (by rw [I11.2.1.1]; omega)
  have m1112 : Mk z ex (fun x => x = e) 0 0 0 T11 (setJ T11 e 4 (some (e + 25))) := mk_pr m11.1 (by omega) (by omega) (by omega) (by rw [I11.2.1.1]; omega)
  have N12 := OpN_Mk N11 m1112 (by omega)
  have N12a := OpN_Mk N11a m1112 (by omega)
  have I12 := InvN_Mk I11 m1112 (fun x x1 x2 => by omega)
  have I12a := InvN_Mk I11a m1112 (fun x x1 x2 => by omega)
  generalize hT12 : setJ T11 e 4 (some (e + 25)) = T12 at m12 m1112 q12 N12 N12a I12 I12a
  have z12 : cZ T12 = e + 43 := by have := m12.2.1.1; omega
  have u12 := m12.2.1.2
  have k12 : kd T12 e = 1 := by rw [← hT12]; exact k11
  have j12 : cJ T12 e 0 = some (e + 1) ∧ cJ T12 e 1 = some (e + 3) ∧ cJ T12 e 2 = some (e + 5) ∧ cJ T12 e 3 = some (e + 7) ∧ cJ T12 e 4 = some (e + 25) := by
    rw [← hT12, cJ_set, cJ_set, cJ_set, cJ_set, cJ_set, if_neg (by omega), if_neg (by omega), if_neg (by omega), if_neg (by omega), if_pos ⟨rfl, rfl⟩, j11]; exact ⟨j9.1, j9.2.1, j9.2.2.1, j9.2.2.2, rfl⟩
  have b12 : kd T12 (e + 1) = 7 := by rw [← hT12]; exact b11
  refine ⟨T12, fun k => ?_, ⟨z12, k12, b12, ⟨N12a, N12, I12a, I12⟩, j12⟩, ?_⟩
  · rw [p7, Option.bind_some, z6, e8, Option.bind_some, q9, Option.bind_some, p10, Option.bind_some, z9, e11, Option.bind_some, q12, Option.bind_some]
  · have e1 : 0 + 0 + dI z (e + 7) 8 + 0 + dI z (e + 25) 8 = dI z (e + 7) 8 + dI z (e + 25) 8 := by omega
    rw [← e1]
    exact m12
theorem ed_mk {z ex : Nat} {X : Nat × Nat} {S : CS} {e : Nat} (hW : Wb S) (hz : cZ S = e + 1) (hk : kd S e = 1) (hX : e + 45 ≤ X.1) (hU : cU S + 554 ≤ X.2) : ∃ S', f1_init X S e = some S' ∧ EdZ S' e ∧ Mk z ex (fun x => x = e) 44 554 (dE z e) S S' := by
  have o1 : okN 1 := by unfold okN; omega
  have Hh : cZ S ≤ e ∨ e = e := Or.inr rfl
  unfold f1_init
  obtain ⟨T6, eA, hA, mA⟩ := ed_mkA (z := z) (ex := ex) (X := X) hW hz hk hX hU
  obtain ⟨T12, eB, ⟨z12, k12, b12, ⟨N12a, N12, I12a, I12⟩, j12⟩, mB⟩ := ed_mkB (z := z) (ex := ex) (X := X) mA.1 hA hX (by have := mA.2.1.2; omega)
  rw [eA, eB]
  have m12 := st_sub mA mB (fun x hx => ⟨Or.inr hx, by rw [hx, hA.2.1]; exact o1⟩)
  clear eA eB hA mA mB
  have u12 := m12.2.1.2
  -- marks, ticks
  obtain ⟨p13, q13, m13⟩ := st_arr (X := X) (k := 5) (ck := 14) (m := 12) m12 Hh k12 o1 (by omega) (Or.inl rfl) (by omega) (by omega) (by omega)
  rw [show (12 : Int32) = nI 12 from rfl, p13, Option.bind_some, q13, Option.bind_some]
  have mm13 : Mk z ex (fun x => x = e) 1 12 0 T12 (setJ (bornA T12 14 12) e 5 (some (cZ T12))) := mk_arr m12.1 (by omega) (by omega) (Or.inl rfl)
  obtain ⟨f1, f2, f3, f4, f5, f6⟩ := arr_f (S := T12) (h := e) (k := 5) (ck := 14) (n := 12) (by omega)
  generalize hT13 : setJ (bornA T12 14 12) e 5 (some (cZ T12)) = T13 at m13 mm13 f1 f2 f3 f4 f5 f6 ⊢
  rw [z12] at f1 f2 f5
  have z13 : cZ T13 = e + 44 := by have := mm13.2.1.1; omega
  have u13 := m13.2.1.2
  have k13 : kd T13 e = 1 := by rw [(mm13.2.2.1 e (by omega)).1]; exact k12
  obtain ⟨p14, q14, m14⟩ := st_arr (X := X) (k := 6) (ck := 14) (m := 100) m13 Hh k13 o1 (by omega) (Or.inl rfl) (by omega) (by omega) (by omega)
  rw [show (100 : Int32) = nI 100 from rfl, p14, Option.bind_some, q14, Option.bind_some]
  have mm14 : Mk z ex (fun x => x = e) 1 100 0 T13 (setJ (bornA T13 14 100) e 6 (some (cZ T13))) := mk_arr m13.1 (by omega) (by omega) (Or.inl rfl)
  obtain ⟨g1, g2, g3, g4, g5, g6⟩ := arr_f (S := T13) (h := e) (k := 6) (ck := 14) (n := 100) (by omega)
  generalize hT14 : setJ (bornA T13 14 100) e 6 (some (cZ T13)) = T14 at m14 mm14 g1 g2 g3 g4 g5 g6 ⊢
  rw [z13] at g1 g2 g5
  have z14 : cZ T14 = e + 45 := by have := mm14.2.1.1; omega
  have k14 : kd T14 e = 1 := by rw [(mm14.2.2.1 e (by omega)).1]; exact k13
  have mm := Mk_trans mm13 mm14 (fun x _ h => h) (fun x hx _ => Or.inl (by rw [hx, k13]; exact o1))
  -- numbers
  obtain ⟨q15, m15⟩ := st_pi (k := 7) (v := 0) m14 Hh k14 o1
  rw [q15, Option.bind_some]
  have k15 : kd (setI T14 e 7 0) e = 1 := k14
  obtain ⟨q16, m16⟩ := st_pi (k := 8) (v := 0) m15 Hh k15 o1
  rw [q16, Option.bind_some]
  have k16 : kd (setI (setI T14 e 7 0) e 8 0) e = 1 := k14
  obtain ⟨q17, m17⟩ := st_pi (k := 9) (v := 0) m16 Hh k16 o1
  rw [q17, Option.bind_some]
  generalize hT17 : setI (setI (setI T14 e 7 0) e 8 0) e 9 0 = T17 at m17 ⊢
  have k17 : kd T17 e = 1 := by rw [← hT17]; exact k14
  obtain ⟨q18, m18⟩ := st_pi (k := 10) (v := 1) m17 Hh k17 o1
  rw [q18, Option.bind_some]
  have k18 : kd (setI T17 e 10 1) e = 1 := k17
  obtain ⟨q19, m19⟩ := st_pi (k := 11) (v := -1) m18 Hh k18 o1
  rw [q19, Option.bind_some]
  have k19 : kd (setI (setI T17 e 10 1) e 11 (-1)) e = 1 := k17
  obtain ⟨q20, m20⟩ := st_pi (k := 12) (v := 0) m19 Hh k19 o1
  rw [q20, Option.bind_some]
  generalize hT20 : setI (setI (setI T17 e 10 1) e 11 (-1)) e 12 0 = T20 at m20 ⊢
  have k20 : kd T20 e = 1 := by rw [← hT20]; exact k17
  obtain ⟨q21, m21⟩ := st_pi (k := 13) (v := 0) m20 Hh k20 o1
  rw [q21, Option.bind_some]
  have k21 : kd (setI T20 e 13 0) e = 1 := k20
  obtain ⟨q22, m22⟩ := st_pi (k := 14) (v := 1) m21 Hh k21 o1
  rw [q22, Option.bind_some]
  have hlast : cJ (setI (setI T20 e 13 0) e 14 1) = cJ T14 ∧ (∀ x, kd (setI (setI T20 e 13 0) e 14 1) x = kd T14 x) ∧ cN (setI (setI T20 e 13 0) e 14 1) = cN T14 ∧ (∀ x, x ≠ e → cI (setI (setI T20 e 13 0) e 14 1) x = cI T14 x) ∧ cA (setI (setI T20 e 13 0) e 14 1) = cA T14 ∧ cB (setI (setI T20 e 13 0) e 14 1) = cB T14 ∧ cZ (setI (setI T20 e 13 0) e 14 1) = cZ T14 := by
    refine ⟨by rw [← hT20, ← hT17]; rfl, fun x => by rw [← hT20, ← hT17]; rfl, by rw [← hT20, ← hT17]; rfl, fun x hx => ?_, by rw [← hT20, ← hT17]; rfl, by rw [← hT20, ← hT17]; rfl, by rw [← hT20, ← hT17]; rfl⟩
    funext j
    rw [cI_set, if_neg (by omega), cI_set, if_neg (by omega), ← hT20, cI_set, if_neg (by omega), cI_set, if_neg (by omega), cI_set, if_neg (by omega), ← hT17, cI_set, if_neg (by omega), cI_set, if_neg (by omega), cI_set, if_neg (by omega)]
  generalize hT22 : setI (setI T20 e 13 0) e 14 1 = T22 at m22 hlast ⊢
  obtain ⟨y1, y2, y3, y4, y5, y6, y7⟩ := hlast
  have mE : Mk z ex (fun x => x = e) 0 0 0 T14 T22 := by
    have := Mk_same (z := z) (ex := ex) (H := fun x => x = e) (S := T14) (S' := T22) m14.1 (by rw [← hT22, ← hT20, ← hT17]; rfl) (by rw [← hT22, ← hT20, ← hT17]; rfl) y3 y7 (by rw [← hT22, ← hT20, ← hT17]; rfl) y5 y4 (fun x _ => by rw [y6]) (fun x _ => by rw [y1]) (fun x k a hh => Or.inl (by rw [y1] at hh; exact hh)) (fun x hx => by rw [hx, k14]; omega)
    exact this
  have m11E := Mk_trans mm mE (fun x _ h => h) (fun x hx _ => Or.inl (by rw [hx, k14]; exact o1))
  have kk : ∀ x, x < e + 43 → kd T22 x = kd T12 x := fun x hx => (m11E.2.2.1 x (by omega)).1
  have c14 : ∀ j, cJ T22 e j = if j = 6 then some (e + 44) else if j = 5 then some (e + 43) else cJ T12 e j := fun j => by rw [y1, g5, f5]
  have a13 := mm14.2.2.1 (e + 43) (by omega)
  refine ⟨T22, rfl, ⟨by omega, ⟨by rw [kk _ (by omega)]; exact k12, ⟨?_, ?_, ?_, ?_, ?_, ?_, ?_⟩, ⟨?_, ?_, ?_, ?_, ?_⟩, ⟨?_, ?_⟩, ⟨?_, ?_⟩⟩, OpN_Mk N12a m11E (by omega), OpN_Mk N12 m11E (by omega), InvN_Mk I12a m11E (fun x x1 x2 => by omega), InvN_Mk I12 m11E (fun x x1 x2 => by omega)⟩, ?_⟩
  · rw [c14, if_neg (by omega), if_neg (by omega)]; exact j12.1
  · rw [c14, if_neg (by omega), if_neg (by omega)]; exact j12.2.1
  · rw [c14, if_neg (by omega), if_neg (by omega)]; exact j12.2.2.1
  · rw [c14, if_neg (by omega), if_neg (by omega)]; exact j12.2.2.2.1
  · rw [c14, if_neg (by omega), if_neg (by omega)]; exact j12.2.2.2.2
  · rw [c14, if_neg (by omega), if_pos rfl]
  · rw [c14, if_pos rfl]
  · rw [kk _ (by omega)]; exact b12
  · rw [kk _ (by omega)]; exact N12a.2.1
  · rw [kk _ (by omega)]; exact N12.2.1
  · rw [kk _ (by omega)]; exact I12a.2.1.1
  · rw [kk _ (by omega)]; exact I12.2.1.1
  · rw [y2, a13.1]; exact f1
  · rw [y3, a13.2.1]; exact f2
  · rw [y2]; exact g1
  · rw [y3]; exact g2
  · have e1 : dW z (e + 3) + dW z (e + 5) + (dI z (e + 7) 8 + dI z (e + 25) 8) = dE z e := by unfold dE; omega
    rw [← e1]
    exact m22
