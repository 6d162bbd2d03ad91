/-! ===== PART II, the class: an order is gone through ===== -/
theorem takes_pre (ties cnt : Nat) : ∀ (l : List Nat) (W : Wd), wRow W <+: wRow (takes ties cnt l W) := by
  intro l
  induction l with
  | nil => intro W; exact List.prefix_refl _
  | cons e l ih => intro W; exact List.IsPrefix.trans (show wRow W <+: wRow (takeW ties cnt e W) from List.prefix_append _ _) (ih (takeW ties cnt e W))
section AM
variable {S S' : CS} {z fi ch c : Nat} {A A' : St} {K : Nat → Option Nat} {H : Nat → Prop} {X : Nat × Nat}
abbrev Hu (z : Nat) : Nat → Prop := fun x => (z + 6 ≤ x ∧ x < z + 227) ∨ (z + 412 ≤ x ∧ x < z + 597) ∨ x = z + 599
theorem Hk_in {n x : Nat} (hn : n < 100) (h : Hk (z + 412) (z + 6) (z + 22) n x) : (z + 6 ≤ x ∧ x < z + 227) ∨ (z + 412 ≤ x ∧ x < z + 597) := by
  rcases h with h1 | h1 | h1 | h1
  · rcases h1 with h1 | h1 | ⟨y, y1, y2⟩ <;> omega
  · omega
  · omega
  · omega
theorem ord_loopC {cnt ties L0 m : Nat} {s : Nat → Nat} {told : List Int32} (hcnt : cnt ≤ 4) (hm : m ≤ 4) (hLm : L0 + m ≤ 100) (htd : ∀ v ∈ told, okP v) : ∀ (d : Nat) (fr : List Nat) (rest n : Nat) (W : Wd) (S : CS), fr.length = d → d ≤ m → d < n → (wRow W).length + d = L0 + m → fr.Nodup → (∀ e ∈ fr, e < cnt ∧ (eLft (wE W e)).isSome = true ∧ szO S (z + 412 + 5 + 45 * e + 3) = s e) → (∀ e, e < 4 → s e ≤ 240) → seg (cA S (z + 602)) 0 (fr.map nI) → rest < fac d → Wf S → TpS S z → Rm z X (240 * FI s z L0 m S + c) S → ShC S (z + 6) (z + 22) told (wRow W) → WdC S (z + 412) (z + 22) (z + 6) cnt ties told W false → Good cnt ties told.length W →
    ∃ S' c', LX0_takeInOrder_31 X (z + 599) (z + 412) n (nI rest) (nI (fac d)) (nI d) S = some S' ∧ ShC S' (z + 6) (z + 22) told (wRow (takes ties cnt (clsO d fr rest) W)) ∧ WdC S' (z + 412) (z + 22) (z + 6) cnt ties told (takes ties cnt (clsO d fr rest) W) false ∧ Good cnt ties told.length (takes ties cnt (clsO d fr rest) W) ∧ c' + 240 * FI s z L0 m S' ≤ 240 * FI s z L0 m S ∧ cI S' (z + 599) = cI S (z + 599) ∧ (∀ a, a = z + 601 ∨ a = z + 603 ∨ a = z + 604 → cA S' a = cA S a) ∧ (∀ e, e < 4 → lenO S' (z + 412 + 5 + 45 * e + 3) = lenO S (z + 412 + 5 + 45 * e + 3) ∧ lenO S' (z + 412 + 5 + 45 * e + 5) = lenO S (z + 412 + 5 + 45 * e + 5)) ∧ Sg z (Hu z) c' S S' := by
  intro d
  induction d with
  | zero =>
    intro fr rest n W S hfl hdm hn hrl hnd hfr hs4 hsg hrest hW hT hR hsh hC hg
    obtain ⟨n, rfl⟩ : ∃ k, n = k + 1 := ⟨n - 1, by omega⟩
    unfold LX0_takeInOrder_31
    rw [if_pos (show nI 0 ≤ (0 : Int32) by decide)]
    exact ⟨S, 0, rfl, hsh, hC, hg, by omega, rfl, fun _ _ => rfl, fun _ _ => ⟨rfl, rfl⟩, Sg_refl hW⟩
  | succ d ih =>
    intro fr rest n W S hfl hdm hn hrl hnd hfr hs4 hsg hrest hW hT hR hsh hC hg
    obtain ⟨n, rfl⟩ : ∃ k, n = k + 1 := ⟨n - 1, by omega⟩
    have hch := fac_lt hrest
    have hfp := fac_pos d
    have hf24 := fac_le d (by omega)
    have hf24' := fac_le (d + 1) (by omega)
    have hmod : rest % fac d < fac d := Nat.mod_lt _ hfp
    have hdm1 : rest / fac d * fac d + rest % fac d = rest := by rw [Nat.mul_comm]; exact Nat.div_add_mod _ _
    rw [clsO]
    generalize hq : rest / fac d = q at *
    have hx := List.getElem?_eq_getElem (show q < fr.length by omega)
    generalize hee : fr[q] = e at hx
    have hem : e ∈ fr := List.mem_of_getElem? hx
    have hgd : fr.getD q 0 = e := by rw [List.getD_eq_getElem?_getD, hx]; rfl
    obtain ⟨he, hso, hsz⟩ := hfr e hem
    obtain ⟨k, hk⟩ := Option.isSome_iff_exists.mp hso
    obtain ⟨p, p1, _, _, p4, _⟩ := take_all hg he hk
    obtain ⟨e0, e1, e2, e3, e4, e5, e6⟩ := hT.2.2.2.2.2.1
    obtain ⟨_, ⟨f1, f2⟩, ⟨f3, f4⟩, ⟨f5, f6⟩, ⟨f7, f8⟩, _⟩ := hT.2.2.2.2.2.2.1
    have hnx : z + 22 + 5 + 2 * (wRow W).length = z + 27 + 2 * (L0 + (m - (d + 1))) := by omega
    have hcs : tkC S (z + 22 + 5 + 2 * (wRow W).length) (z + 412 + 5 + 45 * e + 3) ≤ 240 * (if lenO S (z + 27 + 2 * (L0 + (m - (d + 1)))) < s e then 1 else 0) := by
      unfold tkC
      rw [hsz, hnx]
      have := hs4 e (by omega)
      split <;> omega
    have hfi : (if lenO S (z + 27 + 2 * (L0 + (m - (d + 1)))) < s e then 1 else 0) ≤ FI s z L0 m S := by
      have h1 : 4 - cT s (lenO S (z + 27 + 2 * (L0 + (m - (d + 1))))) ≤ sumN (fun j => 4 - cT s (lenO S (z + 27 + 2 * (L0 + j)))) m := sumN_ge (f := fun j => 4 - cT s (lenO S (z + 27 + 2 * (L0 + j)))) (show m - (d + 1) < m by omega)
      unfold FI
      split
      · rename_i hlt
        have := cT_lt s (i := e) (by omega) (Nat.le_of_lt hlt) hlt (Nat.le_refl (s e))
        have := cT_le s (s e)
        omega
      · omega
    obtain ⟨S9, t1, t2, t3, ⟨a, a1, a2, a3⟩, s9⟩ := take_E (z := z) (X := X) (c := c) (ClsG_t z) (ClsR_t z) (by omega) (by omega) hW (Rm_mono hR (by omega)) hsh hC hg htd he hk
    have nH : ∀ x, (x = z + 599 ∨ (∃ e, e < 4 ∧ (x = z + 412 + 5 + 45 * e + 3 ∨ x = z + 412 + 5 + 45 * e + 5)) ∨ ∃ j, j < 100 ∧ j ≠ (wRow W).length ∧ x = z + 27 + 2 * j) → ¬ Hk (z + 412) (z + 6) (z + 22) (wRow W).length x := fun x hx hh => by
      rcases hh with h1 | h1 | h1 | h1
      · rcases hx with h | ⟨y, y0, h⟩ | ⟨y, y0, yn, h⟩ <;> rcases h1 with h1 | h1 | ⟨y', y1, y2⟩ <;> omega
      · rcases hx with h | ⟨y, y0, h⟩ | ⟨y, y0, yn, h⟩ <;> omega
      · rcases hx with h | ⟨y, y0, h⟩ | ⟨y, y0, yn, h⟩ <;> omega
      · rcases hx with h | ⟨y, y0, h⟩ | ⟨y, y0, yn, h⟩ <;> omega
    have n599 := nH _ (Or.inl rfl)
    have i9 : cI S9 (z + 599) = cI S (z + 599) := fld_Fo hW e0 (by omega) s9.2.1 n599
    have b1 : cA S9 (z + 601) = cA S (z + 601) := arr_Fo hW e2 f1 s9.2.1 n599
    have b2 : cA S9 (z + 602) = cA S (z + 602) := arr_Fo hW e3 f3 s9.2.1 n599
    have b3 : cA S9 (z + 603) = cA S (z + 603) := arr_Fo hW e4 f5 s9.2.1 n599
    have b4 : cA S9 (z + 604) = cA S (z + 604) := arr_Fo hW e5 f7 s9.2.1 n599
    have hT9 := TpS_Sg hW hT s9
    obtain ⟨q0, q1, q2, q3, q4, q5, q6⟩ := hT9.2.2.2.2.2.1
    obtain ⟨_, ⟨g1, g2⟩, ⟨g3, g4⟩, _⟩ := hT9.2.2.2.2.2.2.1
    have hse : s e = szO S (z + 412 + 5 + 45 * e + 3) := hsz.symm
    have hFI := FI_take (z := z) (S := S) (S' := S9) (s := s) (L0 := L0) (m := m) (j0 := m - (d + 1)) (a := a) (p := e) (by omega) (by omega) (by rw [← hnx]; exact a1) (by rw [hse]; exact a2) (by rw [← hnx]; exact a3) (fun j hj hne => lenO_Fo hW (hsh.2.2.1.2.2.2.2.2 (L0 + j) (by omega)).2 s9.2.1 (nH _ (Or.inr (Or.inr ⟨L0 + j, by omega, by omega, by omega⟩))))
    have s10 : Sg z (Hu z) 0 S9 (setA S9 (z + 602) (va_cpy (cA S9 (z + 602)) (cA S9 (z + 602)) (q + 1) q (d - q))) := Sg_setA s9.1 (Or.inr (Or.inr rfl)) q3
    have hcpy : cpy S9 (z + 602) (nI q + 1) (z + 602) (nI q) (nI (d + 1) - nI q - 1) = some (setA S9 (z + 602) (va_cpy (cA S9 (z + 602)) (cA S9 (z + 602)) (q + 1) q (d - q))) := by
      rw [nI_1, nI_sub (by omega), show nI (d + 1 - q) - 1 = nI (d + 1 - q - 1) from nI_sub (b := 1) (by omega), show d + 1 - q - 1 = d - q by omega]
      exact cpy_g g3 g3 (by omega) (by omega) (by omega) (by omega)
    have s9' : Sg z (Hu z) (240 * (if lenO S (z + 27 + 2 * (L0 + (m - (d + 1)))) < s e then 1 else 0)) S S9 := Sg_mono hW s9 (fun x hx => by have := Hk_in p4 hx; unfold Hu; omega) hcs
    have sA := Sg_trans s9' s10
    have hT10 := TpS_Sg hW hT sA
    have nHt : ∀ x, ¬ x = z + 599 → ¬ (fun x => x = z + 599) x := fun x hx => hx
    have s10' : Sg z (fun x => x = z + 599) 0 S9 (setA S9 (z + 602) (va_cpy (cA S9 (z + 602)) (cA S9 (z + 602)) (q + 1) q (d - q))) := Sg_setA s9.1 rfl q3
    have sh10 := ShC_Sg s9.1 t3 s10' (by omega) (fun x x1 x2 => by omega)
    have wd10 := WdC_Sg s9.1 t2 s10' (fun x x1 x2 => by omega)
    have a602 : cA (setA S9 (z + 602) (va_cpy (cA S9 (z + 602)) (cA S9 (z + 602)) (q + 1) q (d - q))) (z + 602) = va_cpy (cA S (z + 602)) (cA S (z + 602)) (q + 1) q (d - q) := by rw [cA_self, b2]
    have aO : ∀ x, x ≠ z + 602 → cA (setA S9 (z + 602) (va_cpy (cA S9 (z + 602)) (cA S9 (z + 602)) (q + 1) q (d - q))) x = cA S9 x := fun x hx => va_up_ne _ _ hx
    have iO : cI (setA S9 (z + 602) (va_cpy (cA S9 (z + 602)) (cA S9 (z + 602)) (q + 1) q (d - q))) = cI S9 := rfl
    have lO : ∀ x, kd S9 x = 4 → x ≠ z + 599 → lenO (setA S9 (z + 602) (va_cpy (cA S9 (z + 602)) (cA S9 (z + 602)) (q + 1) q (d - q))) x = lenO S9 x := fun x hx hn => lenO_Fo s9.1 hx s10'.2.1 hn
    generalize setA S9 (z + 602) (va_cpy (cA S9 (z + 602)) (cA S9 (z + 602)) (q + 1) q (d - q)) = S10 at *
    have kOp : ∀ e, e < 4 → kd S (z + 412 + 5 + 45 * e + 3) = 4 ∧ kd S (z + 412 + 5 + 45 * e + 5) = 4 := fun e he => WdS_ops hC.1 he
    have kOp9 : ∀ e, e < 4 → kd S9 (z + 412 + 5 + 45 * e + 3) = 4 ∧ kd S9 (z + 412 + 5 + 45 * e + 5) = 4 := fun e he => WdS_ops t2.1 he
    have kR9 : ∀ j, j < 100 → kd S9 (z + 22 + 5 + 2 * j) = 4 := fun j hj => (t3.2.2.1.2.2.2.2.2 j hj).2
    have hFI10 : FI s z L0 m S10 = FI s z L0 m S9 := FI_same (lO _ t3.1.2.2.2.2.2.2.2.2.2.1 (by omega)) (fun j hj => lO _ (by have := kR9 (L0 + j) (by omega); rw [show z + 27 + 2 * (L0 + j) = z + 22 + 5 + 2 * (L0 + j) by omega]; exact this) (by omega))
    have hsO : ∀ e, e < 4 → szO S10 (z + 412 + 5 + 45 * e + 3) = szO S (z + 412 + 5 + 45 * e + 3) := fun e he => by
      unfold szO
      rw [iO, fld_Fo hW (kOp e he).1 (by omega) s9.2.1 (nH _ (Or.inr (Or.inl ⟨e, he, Or.inl rfl⟩)))]
    have hR10 : Rm z X (240 * FI s z L0 m S10 + c) S10 := Rm_step (c := 240 * (if lenO S (z + 27 + 2 * (L0 + (m - (d + 1)))) < s e then 1 else 0) + 0) (d := 240 * FI s z L0 m S10 + c) (Rm_mono hR (by rw [hFI10]; omega)) sA
    have hl1 : (wRow (takeW ties cnt e W)).length = (wRow W).length + 1 := by
      show (wRow W ++ [_]).length = _
      rw [List.length_append]; rfl
    obtain ⟨S', c', r1, r2, r3, r4, r5, r6, r7, r8, r9⟩ := ih (fr.eraseIdx q) (rest % fac d) n (takeW ties cnt e W) S10 (by rw [List.length_eraseIdx_of_lt (by omega)]; omega) (by omega) (by omega) (by rw [hl1]; omega) (hnd.eraseIdx q) (fun e' he' => by
      obtain ⟨j, j1, j2⟩ := List.mem_eraseIdx_iff_getElem?.mp he'
      have hne : e' ≠ e := nd_ne hnd j2 hx j1
      obtain ⟨w1, w2, w3⟩ := hfr e' (List.mem_of_getElem? j2)
      refine ⟨w1, ?_, by rw [hsO e' (by omega)]; exact w3⟩
      have : wE (takeW ties cnt e W) e' = tkE W e e' := by show (if e' < cnt then tkE W e e' else wE W e') = _; rw [if_pos w1]
      rw [this]
      unfold tkE
      rw [if_neg hne]
      exact w2) hs4 (by rw [a602]; exact seg_erase hsg hfl (by omega)) hmod sA.1 hT10 hR10 sh10 wd10 (Good_take hg he hk)
    refine ⟨S', (240 * (if lenO S (z + 27 + 2 * (L0 + (m - (d + 1)))) < s e then 1 else 0) + 0) + c', ?_, ?_, ?_, ?_, by rw [hFI10] at r5; omega, r6.trans (iO ▸ i9), fun x hx => ?_, fun e he => ?_, Sg_trans sA r9⟩
    · unfold LX0_takeInOrder_31
      rw [if_neg (z_nle (by omega) (by omega)), if_neg (nI_ne0 (by omega) (by omega)), pk_div (by omega) (by omega) (by omega), fac_div, if_neg (z_nle hfp (by omega)), if_neg (nI_ne0 hfp (by omega)), pk_div (by omega) hfp (by omega), hq, Option.bind_some, if_neg (nI_ge (by omega) (by omega)), gr_k e0 e3, Option.bind_some, ldi_k f3 (by omega) (by omega), Option.bind_some]
      have hld : cA S (z + 602) q = nI e := by
        have := hsg q (by rw [List.length_map]; omega)
        rw [Nat.zero_add, List.getD_eq_getElem?_getD, List.getElem?_map, hx] at this
        exact this
      rw [hld, cal_k hC.1.1, t1, Option.bind_some, gr_k q0 q3, Option.bind_some, Option.bind_some, hcpy, Option.bind_some, Option.bind_some, nI_mul, nI_sub (by omega), show rest - q * fac d = rest % fac d by omega, show nI (d + 1) + (-1 : Int32) = nI d from nI_dec (q := d + 1) (by omega)]
      exact r1
    · rw [hgd, takes]; exact r2
    · rw [hgd, takes]; exact r3
    · rw [hgd, takes]; exact r4
    · rw [r7 x hx, aO x (by omega)]
      rcases hx with rfl | rfl | rfl
      · exact b1
      · exact b3
      · exact b4
    · rw [(r8 e he).1, (r8 e he).2, lO _ (kOp9 e he).1 (by omega), lO _ (kOp9 e he).2 (by omega)]
      exact ⟨lenO_Fo hW (kOp e he).1 s9.2.1 (nH _ (Or.inr (Or.inl ⟨e, he, Or.inl rfl⟩))), lenO_Fo hW (kOp e he).2 s9.2.1 (nH _ (Or.inr (Or.inl ⟨e, he, Or.inr rfl⟩)))⟩
end AM
