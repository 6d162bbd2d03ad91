/-! ===== PART II, the class: the world is kept ===== -/
def made (K : Nat → Option Nat) : Nat := sumN (fun j => if (K j).isSome then 1 else 0) 20
theorem made_le (K : Nat → Option Nat) : made K ≤ 20 := by
  have : ∀ n, sumN (fun j => if (K j).isSome then 1 else 0) n ≤ n := by
    intro n
    induction n with
    | zero => exact Nat.le_refl _
    | succ n ih => rw [sumN]; have : (if (K n).isSome then 1 else 0) ≤ 1 := by split <;> omega
                   omega
  exact this 20
theorem made_up {K : Nat → Option Nat} {q k : Nat} (hq : q < 20) (h : K q = none) : made (va_up K q (some k)) = made K + 1 := by
  have := sumN_dec (f := fun j => if ((va_up K q (some k)) j).isSome then 1 else 0) (g := fun j => if (K j).isSome then 1 else 0) (d := 1) (e := q) (cnt := 20) hq (fun j hj => by rw [va_up_ne _ _ hj]) (by rw [va_up_self, h]; rfl)
  exact this.symm
theorem nI_mod20 {a : Nat} (h : a < 1000) : nI a - nI a / 20 * 20 = nI (a % 20) := by
  have : ∀ a : Fin 1000, nI a.1 - nI a.1 / 20 * 20 = nI (a.1 % 20) := by decide +kernel
  exact this ⟨a, h⟩
/-- all but the count of what is kept -/
def CH (S : CS) (z : Nat) (A : St) (Hs : List Wd) (K : Nat → Option Nat) (p : Nat → Nat) : Prop :=
  Wf S ∧ TpS S z ∧ TpT S z A ∧ TpF S z A ∧ ShC S (z + 6) (z + 22) (aTold A) (wRow (aW A)) ∧ WdC S (z + 227) (z + 22) (z + 6) (aCnt A) (aTies A) (aTold A) (aW A) true ∧ AhC S z ∧ KpC S z K ∧ (∀ j W, Hs[j]? = some W → p j < 20 ∧ ∃ k, K (p j) = some k ∧ WdC S k (z + 22) (z + 6) (aCnt A) (aTies A) (aTold A) W true)
theorem z_top {S : CS} {z : Nat} (hW : Wf S) (hT : TpS S z) : z + 660 < cZ S := kd_lt hW.1 hT.2.2.2.2.2.2.2.2.2.2.2.1 (by omega)
section KP
variable {S S' : CS} {z fi ch c k0 : Nat} {A A' : St} {K K' : Nat → Option Nat} {H : Nat → Prop} {X : Nat × Nat} {Hs : List Wd} {p : Nat → Nat}
theorem CH_step (h : CH S z A Hs K p) (hs : Sg z H c S S') (hH : ∀ x, H x → x = z + 597 ∨ x = z + 598 ∨ cZ S ≤ x ∨ (k0 ≤ x ∧ x < k0 + 185)) (hk0 : z + 661 ≤ k0) (hdis : ∀ j k W, Hs[j]? = some W → K (p j) = some k → k + 185 ≤ k0 ∨ k0 + 185 ≤ k) (hK' : KpC S' z K') (hKK : ∀ j W, Hs[j]? = some W → K' (p j) = K (p j)) : CH S' z A Hs K' p := by
  obtain ⟨hW, hT, hTp, hTf, hsh, hwd, ha, hk, hh⟩ := h
  have zt := z_top hW hT
  refine ⟨hs.1, TpS_Sg hW hT hs, TpT_Sg hW hT hTp hs (fun hx => by have := hH _ hx; omega), TpF_Sg hW hT hTf hs (fun hx => by have := hH _ hx; omega), ShC_Sg hW hsh hs (fun hx => by have := hH _ hx; omega) (fun x x1 x2 hx => by have := hH _ hx; omega), WdC_Sg hW hwd hs (fun x x1 x2 hx => by have := hH _ hx; omega), AhC_Sg hW ha hs (fun x x1 x2 hx => by have := hH _ hx; omega), hK', fun j W hj => ?_⟩
  obtain ⟨h1, k, h2, h3⟩ := hh j W hj
  refine ⟨h1, k, by rw [hKK j W hj]; exact h2, WdC_Sg hW h3 hs (fun x x1 x2 hx => ?_)⟩
  have := hH _ hx
  have := hdis j k W hj h2
  obtain ⟨a1, a2, _⟩ := (hk (p j) h1).2 k h2
  omega
/-- a place for a world to be kept at -/
theorem slot_C {q : Nat} (h : CH S z A Hs K p) (hq : q < 20) (hp : ∀ j W, Hs[j]? = some W → p j ≠ q) (hR : Rm z X (117162 * (20 - made K) + c) S) :
    ∃ S1 k0 K', (if K q = none then ((gr S 2 (z + 597) 0).bind fun a16 => (nwo X S 10 12).bind fun S17 => (gr S17 10 (z + 227) 0).bind fun a18 => (gr S17 10 (z + 227) 1).bind fun a19 => (f10_init X S17 (cZ S) a18 a19).bind fun S20 => (str S20 19 10 a16 (nI q) (cZ S)).bind fun S21 => some S21) else some S) = some S1 ∧ K' q = some k0 ∧ CH S1 z A Hs K' p ∧ (∀ j k W, Hs[j]? = some W → K' (p j) = some k → k + 185 ≤ k0 ∨ k0 + 185 ≤ k) ∧ Rm z X (117162 * (20 - made K') + c) S1 ∧ (∀ j, j ≠ q → K' j = K j) ∧ cI S1 (z + 597) = cI S (z + 597) ∧ (∀ x, z + 599 ≤ x → x < z + 661 → cI S1 x = cI S x ∧ cA S1 x = cA S x) ∧ (∀ x l, z + 654 ≤ x → x < z + 660 → OpL S x l → OpL S1 x l) := by
  obtain ⟨hW, hT, hTp, hTf, hsh, hwd, ha, hk, hh⟩ := id h
  have zt := z_top hW hT
  obtain ⟨d0, d1, d2, d3⟩ := hT.2.2.2.2.1
  cases hKq : K q with
  | some k =>
    rw [if_neg (by simp)]
    refine ⟨S, k, K, rfl, hKq, h, fun j k' W hj hk' => ?_, hR, fun _ _ => rfl, rfl, fun _ _ _ => ⟨rfl, rfl⟩, fun _ _ _ _ h => h⟩
    have hpj := (hh j W hj).1
    exact ((hk (p j) hpj).2 k' hk').2.2.2.2 q k hq (fun e => hp j W hj e.symm) hKq
  | none =>
    rw [if_pos rfl]
    have hm20 := made_le K
    have hm19 : made K < 20 := by
      have := made_up (k := 0) hq hKq
      have := made_le (va_up K q (some 0))
      omega
    have hR1 := hR.1
    have hR2 := hR.2
    have hcu : cU S + 2538 ≤ X.2 := by unfold Tt at hR1; omega
    have hcz : cZ S + 185 ≤ X.1 := by
      have h12 := hR.2
      unfold Tt at hR1
      omega
    have p1 := nwo_k (X := X) (S := S) (ci := 10) (n := 12) (by omega) (by omega)
    have m1 : Mk z (cZ S) (fun _ => False) 1 12 0 S (bornO S 10 12) := mk_obj (Wb_of hW) ⟨by omega, by omega, Or.inl (by omega)⟩
    have kn := kd_newO S 10 12
    generalize hT1 : bornO S 10 12 = T1 at m1 kn p1
    have aw := m1.2.2.1 (z + 227) (by omega)
    have kw : kd T1 (z + 227) = 10 := by rw [aw.1]; exact hwd.1.1
    have jw : cJ T1 (z + 227) = cJ S (z + 227) := (aw.2.2.2 (fun h => h)).2.1
    have g0 : gr T1 10 (z + 227) 0 = some (z + 22) := gr_k kw (by rw [jw]; exact hwd.1.2.1.1)
    have g1 : gr T1 10 (z + 227) 1 = some (z + 6) := gr_k kw (by rw [jw]; exact hwd.1.2.1.2.1)
    have k22 : kd T1 (z + 22) = 6 := by rw [(m1.2.2.1 (z + 22) (by omega)).1]; exact hsh.2.2.1.1
    have k6 : kd T1 (z + 6) = 9 := by rw [(m1.2.2.1 (z + 6) (by omega)).1]; exact hsh.1.1
    obtain ⟨T2, e2, W2, m2⟩ := wd_mk (z := z) (ex := cZ S) (X := X) (r := z + 22) (g := z + 6) m1.1 m1.2.1.1 kn ⟨by omega, by omega⟩ ⟨by omega, by omega⟩ (by omega) (by have := m1.2.1.2; omega)
    have m12 : Mk z (cZ S) (fun x => x = z + 598) (1 + 184) (12 + 2526) (0 + dQ z (cZ S) 4) S T2 := Mk_trans (Mk_mono m1 (fun x _ h => h.elim)) m2 (fun x hx (h : x = cZ S) => by omega) (fun x hx _ => Or.inl (by rw [hx, kn]; unfold okN; omega))
    have k598 : kd T2 (z + 598) = 19 := by rw [(m12.2.2.1 (z + 598) (by omega)).1]; exact d2
    have n598 : cN T2 (z + 598) = 20 := by rw [(m12.2.2.1 (z + 598) (by omega)).2.1]; exact d3
    have b598 : cB T2 (z + 598) = cB S (z + 598) := by
      have e1 := (m2.2.2.1 (z + 598) (by have := m1.2.1.1; omega)).2.2.2 (by omega)
      have e2 := (m1.2.2.1 (z + 598) (by omega)).2.2.2 (fun h => h)
      rw [e1.2.2, e2.2.2]
    have m3 : Mk z (cZ S) (fun x => x = z + 598) 0 0 0 T2 (setB T2 (z + 598) (va_up (cB T2 (z + 598)) q (some (cZ S)))) := mk_str m2.1 (by rw [k598]; omega)
    have m13 := Mk_trans m12 m3 (fun x _ h => h) (fun x hx _ => Or.inl (by rw [hx, k598]; unfold okN; omega))
    have W3 : WdZ (setB T2 (z + 598) (va_up (cB T2 (z + 598)) q (some (cZ S)))) (cZ S) (z + 22) (z + 6) 4 := WdZ_Mk W2 m3 (fun x x1 x2 (h : x = z + 598) => by omega)
    have hJ : ∀ x, x < cZ S → cJ (setB T2 (z + 598) (va_up (cB T2 (z + 598)) q (some (cZ S)))) x = cJ S x := fun x hx => by
      show cJ T2 x = _
      rw [((m2.2.2.1 x (by have := m1.2.1.1; omega)).2.2.2 (by omega)).2.1, ((m1.2.2.1 x hx).2.2.2 (fun h => h)).2.1]
    have hB : ∀ x, x < cZ S → kd S x ≠ 19 → cB (setB T2 (z + 598) (va_up (cB T2 (z + 598)) q (some (cZ S)))) x = cB S x := fun x hx h19 => by
      have hne : x ≠ z + 598 := fun e => h19 (by rw [e]; exact d2)
      exact ((m13.2.2.1 x hx).2.2.2 hne).2.2
    have hdq := dQ_k (z := z) (w := cZ S) (by omega)
    have hst : str T2 19 10 (z + 598) (nI q) (cZ S) = some (setB T2 (z + 598) (va_up (cB T2 (z + 598)) q (some (cZ S)))) := str_k k598 W2.2.1 (by omega) (by omega)
    have hcB : cB (setB T2 (z + 598) (va_up (cB T2 (z + 598)) q (some (cZ S)))) (z + 598) = va_up (cB S (z + 598)) q (some (cZ S)) := by rw [cB_self, b598]
    generalize hY : setB T2 (z + 598) (va_up (cB T2 (z + 598)) q (some (cZ S))) = Y at m3 m13 W3 hJ hB hst hcB
    have hk10 : kd Y (cZ S) = 10 := W3.2.1
    have sg := Mk_Sg (c := 117162) hW m13 (okC_no (by rw [hk10]; omega)) hJ hB (by omega) (by omega)
    have hst2 := WdZ_S W3
    have zY : cZ Y = cZ S + 185 := by have := m13.2.1.1; omega
    have hH : ∀ x, (cZ S ≤ x ∨ x = z + 598) → x = z + 597 ∨ x = z + 598 ∨ cZ S ≤ x ∨ (cZ S ≤ x ∧ x < cZ S + 185) := fun x hx => by omega
    have hKY : KpC Y z (va_up K q (some (cZ S))) := by
      intro j hj
      by_cases hjq : j = q
      · subst hjq
        rw [hcB, va_up_self, va_up_self]
        refine ⟨rfl, fun k hk' => ?_⟩
        have := Option.some.inj hk'
        subst this
        refine ⟨by omega, by omega, hst2.1, hst2.2, fun j' k' hj' hne hk'' => ?_⟩
        rw [va_up_ne _ _ hne] at hk''
        have := ((hk j' hj').2 k' hk'').2.1
        omega
      · rw [hcB, va_up_ne _ _ hjq, va_up_ne _ _ hjq]
        obtain ⟨b1, b2⟩ := hk j hj
        refine ⟨b1, fun k hk' => ?_⟩
        obtain ⟨c1, c2, c3, c4, c5⟩ := b2 k hk'
        refine ⟨c1, by omega, WdS_Sg hW c3 sg, fun i hi => EdJ_Sg hW (c4 i hi) sg (fun x hx h => by omega), fun j' k' hj' hne hk'' => ?_⟩
        by_cases hj'q : j' = q
        · rw [hj'q, va_up_self] at hk''
          have := Option.some.inj hk''
          omega
        · rw [va_up_ne _ _ hj'q] at hk''
          exact c5 j' k' hj' hne hk''
    have hdis : ∀ j k W, Hs[j]? = some W → K (p j) = some k → k + 185 ≤ cZ S ∨ cZ S + 185 ≤ k := fun j k W hj hk' => Or.inl (((hk (p j) (hh j W hj).1).2 k hk').2.1)
    refine ⟨Y, cZ S, va_up K q (some (cZ S)), ?_, va_up_self _ _ _, CH_step (k0 := cZ S) h sg (fun x hx => hH x hx) (by omega) hdis hKY (fun j W hj => va_up_ne _ _ (hp j W hj)), fun j k W hj hk' => ?_, ?_, fun j hj => va_up_ne _ _ hj, fld_Fo hW d0 (by omega) sg.2.1 (by omega), fun x x1 x2 => ?_, fun x l x1 x2 hx => OpL_Fo hW hx sg.2.1 (by omega)⟩
    · rw [gr_k d0 d1, Option.bind_some, p1, Option.bind_some, g0, Option.bind_some, g1, Option.bind_some, e2, Option.bind_some, hst, Option.bind_some]
    · rw [va_up_ne _ _ (hp j W hj)] at hk'
      exact hdis j k W hj hk'
    · rw [made_up hq hKq]
      refine Rm_step (c := 117162) (d := 117162 * (20 - (made K + 1)) + c) (Rm_mono hR ?_) sg
      omega
    · obtain ⟨c1, c2, c3, c4⟩ := m13.2.2.1 x (by omega)
      exact ⟨(c4 (show ¬ x = z + 598 by omega)).1, c3⟩
end KP
