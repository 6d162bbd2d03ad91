/-! ===== PART II, the class: the ends are reckoned ===== -/
theorem wait_row {cnt ties tl : Nat} {W : Wd} (hg : Good cnt ties tl W) : (wRow W).length + (waitL (onW cnt W) cnt).length ≤ 100 := by
  obtain ⟨g1, g2, g3, g4, g5, g6, g7, g8, g9⟩ := hg
  have key : ∀ n, n ≤ cnt → (waitL (onW cnt W) n).length ≤ sumN (fun i => untN (wE W i)) n := by
    intro n
    induction n with
    | zero => intro _; exact Nat.le_refl _
    | succ n ih =>
      intro hn
      have h1 := ih (by omega)
      rw [waitL, List.length_append, sumN]
      have h2 : (if onW cnt W n = true then [n] else []).length ≤ untN (wE W n) := by
        unfold onW untN
        rw [decide_eq_true (show n < cnt by omega), Bool.true_and]
        split
        · show 1 ≤ 1 + _; omega
        · show 0 ≤ _; omega
      omega
  have := key cnt (Nat.le_refl _)
  omega
section AN
variable {S S' : CS} {z fi ch c : Nat} {A A' : St} {K : Nat → Option Nat} {H : Nat → Prop} {X : Nat × Nat}
theorem CR_cm (h : CR S z A K fi ch) (hs : Sg z H c S S') (hH : ∀ x, H x → (z + 6 ≤ x ∧ x < z + 227) ∨ (z + 412 ≤ x ∧ x < z + 597) ∨ (z + 599 ≤ x ∧ x < z + 654)) (hst : cI S' (z + 599) 9 ≠ nI ch) (h8 : cI S' (z + 599) 8 = cI S (z + 599) 8) (h9 : cI S' (z + 599) 9 = cI S (z + 599) 9) (h3 : cA S' (z + 603) = cA S (z + 603)) (h4 : cA S' (z + 604) = cA S (z + 604)) (hsh : ShC S' (z + 6) (z + 22) (aTold A) (wRow (aW A))) (ha : AhC S' z) : CR S' z A K fi ch := by
  obtain ⟨hW, hT, hTp, hTf, _, hwd, _, hk, hh, ⟨c1, c2, c3, c4⟩⟩ := h
  have nk : ∀ j k, j < 20 → K j = some k → ∀ x, k ≤ x → x < k + 185 → ¬ H x := fun j k hj hkj x x1 x2 hx => by have := K_lo hk hj hkj; have := hH x hx; omega
  have hi2 := fld_Fo hW hT.2.2.2.2.1.1 (by omega) hs.2.1 (fun hx => by have := hH _ hx; omega)
  exact ⟨hs.1, TpS_Sg hW hT hs, TpT_Sg hW hT hTp hs (fun hx => by have := hH _ hx; omega), TpF_Sg hW hT hTf hs (fun hx => by have := hH _ hx; omega), hsh, WdC_Sg hW hwd hs (fun x x1 x2 hx => by have := hH _ hx; omega), ha, KpC_Sg hW hT hk hs (fun hx => by have := hH _ hx; omega) nk, HsC_Sg hW hT hh hs (fun hx => by have := hH _ hx; omega) nk, by rw [hi2]; exact c1, by rw [h8, h3, h4]; exact c2, fun hh => absurd hh hst, by rw [h9]; exact c4⟩
/-- the end of the n-th order -/
def enA (A : St) (n : Nat) : List Int32 := srvT (aTold A) (wRow (takes (aTies A) (aCnt A) (clsO (wtA A).length (wtA A) n) (aW A)))
/-- what the comings know of those that wait -/
def CmW (S : CS) (z : Nat) (A : St) : Prop := cI S (z + 599) 6 = nI (wtA A).length ∧ cI S (z + 599) 7 = nI (fac (wtA A).length) ∧ seg (cA S (z + 601)) 0 ((wtA A).map nI)
def szA (S : CS) (z : Nat) (e : Nat) : Nat := if e < 4 ∧ szO S (z + 227 + 5 + 45 * e + 3) ≤ 240 then szO S (z + 227 + 5 + 45 * e + 3) else 0
theorem seg_cpy {f h : Nat → Int32} {l : List Int32} {n : Nat} (hs : seg f 0 l) (hn : l.length = n) : seg (va_cpy f h 0 0 n) 0 l := cpy_seg hs (by omega)
theorem inOrder_C {n : Nat} {s : Nat → Nat} (hg : GA A) (hn : n < fac (wtA A).length) (hW : Wf S) (hT : TpS S z) (hCw : CmW S z A) (hsh : ShC S (z + 6) (z + 22) (aTold A) (wRow (aW A))) (hC : WdC S (z + 412) (z + 22) (z + 6) (aCnt A) (aTies A) (aTold A) (aW A) false) (hs4 : ∀ e, e < 4 → s e ≤ 240) (hsz : ∀ e ∈ wtA A, szO S (z + 412 + 5 + 45 * e + 3) = s e) (hR : Rm z X (240 * FI s z (wRow (aW A)).length (wtA A).length S + c) S) :
    ∃ S' c' W', cal S 0 (z + 599) (f0_takeInOrder X S (z + 599) (nI n) (z + 412)) = some S' ∧ ShC S' (z + 6) (z + 22) (aTold A) (wRow W') ∧ WdC S' (z + 412) (z + 22) (z + 6) (aCnt A) (aTies A) (aTold A) W' false ∧ W' = takes (aTies A) (aCnt A) (clsO (wtA A).length (wtA A) n) (aW A) ∧ Good (aCnt A) (aTies A) (aTold A).length W' ∧ c' + 240 * FI s z (wRow (aW A)).length (wtA A).length S' ≤ 240 * FI s z (wRow (aW A)).length (wtA A).length S ∧ cI S' (z + 599) = cI S (z + 599) ∧ (∀ a, a = z + 601 ∨ a = z + 603 ∨ a = z + 604 → cA S' a = cA S a) ∧ (∀ e, e < 4 → lenO S' (z + 412 + 5 + 45 * e + 3) = lenO S (z + 412 + 5 + 45 * e + 3) ∧ lenO S' (z + 412 + 5 + 45 * e + 5) = lenO S (z + 412 + 5 + 45 * e + 5)) ∧ Sg z (Hu z) c' S S' := by
  have gd := hg.2.2.1
  have hc4 := gd.1
  obtain ⟨w6, w7, w1⟩ := hCw
  obtain ⟨e0, e1, e2, e3, e4, e5, e6⟩ := hT.2.2.2.2.2.1
  obtain ⟨_, ⟨f1, f2⟩, ⟨f3, f4⟩, ⟨f5, f6⟩, ⟨f7, f8⟩, _⟩ := hT.2.2.2.2.2.2.1
  have hml : (wtA A).length ≤ 4 := by unfold wtA; rw [waitL_len]; have := sndN_le (onW (aCnt A) (aW A)) (aCnt A); omega
  have hwr := wait_row gd
  have s1 : Sg z (fun x => x = z + 599) 0 S (setA S (z + 602) (va_cpy (cA S (z + 601)) (cA S (z + 602)) 0 0 (wtA A).length)) := Sg_setA hW rfl e3
  have a602 : cA (setA S (z + 602) (va_cpy (cA S (z + 601)) (cA S (z + 602)) 0 0 (wtA A).length)) (z + 602) = va_cpy (cA S (z + 601)) (cA S (z + 602)) 0 0 (wtA A).length := cA_self _ _ _
  have aO : ∀ x, x ≠ z + 602 → cA (setA S (z + 602) (va_cpy (cA S (z + 601)) (cA S (z + 602)) 0 0 (wtA A).length)) x = cA S x := fun x hx => va_up_ne _ _ hx
  have iO : cI (setA S (z + 602) (va_cpy (cA S (z + 601)) (cA S (z + 602)) 0 0 (wtA A).length)) = cI S := rfl
  have e9 : cpy S (z + 601) 0 (z + 602) 0 (nI (wtA A).length) = some (setA S (z + 602) (va_cpy (cA S (z + 601)) (cA S (z + 602)) 0 0 (wtA A).length)) := cpy_k f1 f3 (by omega) (by omega) (by omega)
  rw [cal_k e0]
  unfold f0_takeInOrder
  rw [gr_k e0 e2, Option.bind_some, gr_k e0 e3, Option.bind_some, gi_k e0, w6, Option.bind_some, e9, Option.bind_some]
  generalize setA S (z + 602) (va_cpy (cA S (z + 601)) (cA S (z + 602)) 0 0 (wtA A).length) = S1 at *
  have hT1 := TpS_Sg hW hT s1
  have q0 := hT1.2.2.2.2.2.1.1
  have lO : ∀ x, kd S x = 4 → x ≠ z + 599 → lenO S1 x = lenO S x := fun x hx hn => lenO_Fo hW hx s1.2.1 hn
  have hFI : FI s z (wRow (aW A)).length (wtA A).length S1 = FI s z (wRow (aW A)).length (wtA A).length S := FI_same (lO _ hsh.1.2.2.2.2.2.2.2.2.2.1 (by omega)) (fun j hj => lO _ (by
    have := (hsh.2.2.1.2.2.2.2.2 ((wRow (aW A)).length + j) (by unfold wtA at hj; omega)).2
    rw [show z + 27 + 2 * ((wRow (aW A)).length + j) = z + 22 + 5 + 2 * ((wRow (aW A)).length + j) by omega]; exact this) (by omega))
  obtain ⟨S', c', r1, r2, r3, r4, r5, r6, r7, r8, r9⟩ := ord_loopC (z := z) (X := X) (c := c) (cnt := aCnt A) (ties := aTies A) (L0 := (wRow (aW A)).length) (m := (wtA A).length) (s := s) (told := aTold A) hc4 hml (by unfold wtA; exact hwr) hg.2.2.2.1 (wtA A).length (wtA A) n FU (aW A) S1 rfl (Nat.le_refl _) (by rw [FU_eq]; omega) rfl (waitL_nodup _ _) (fun e he => by
    obtain ⟨m1, m2⟩ := waitL_mem he
    unfold onW at m2
    rw [decide_eq_true m1, Bool.true_and] at m2
    refine ⟨m1, m2, ?_⟩
    rw [← hsz e he]
    unfold szO
    rw [iO]) hs4 (by rw [a602]; exact seg_cpy w1 (List.length_map _)) hn s1.1 hT1 (by rw [hFI]; exact Rm_step (c := 0) (by rw [Nat.zero_add]; exact hR) s1) (ShC_Sg hW hsh s1 (by omega) (fun x x1 x2 => by omega)) (WdC_Sg hW hC s1 (fun x x1 x2 => by omega)) gd
  rw [gi_k q0, iO, w7, Option.bind_some, gi_k q0, iO, w6, Option.bind_some, r1, Option.bind_some]
  refine ⟨S', c', _, rfl, r2, r3, rfl, r4, by rw [hFI] at r5; exact r5, r6.trans (congrFun iO _), fun x hx => by rw [r7 x hx, aO x (by omega)], fun e he => ?_, ?_⟩
  · rw [(r8 e he).1, (r8 e he).2]
    exact ⟨lO _ (WdS_ops hC.1 he).1 (by omega), lO _ (WdS_ops hC.1 he).2 (by omega)⟩
  · have := Sg_trans (Sg_mono hW s1 (H' := Hu z) (fun x hx => Or.inr (Or.inr hx)) (Nat.le_refl _)) r9
    rw [Nat.zero_add] at this
    exact this
theorem reck_loop (hg : GA A) {s : Nat → Nat} (hs4 : ∀ e, e < 4 → s e ≤ 240) : ∀ (d i n q : Nat) (S : CS), i + d = fac (wtA A).length → d < n → CR S z A K fi ch → cI S (z + 599) 9 ≠ nI ch → CmW S z A → (∀ j, j < i → ∃ t', TxL S (z + 606 + 2 * j) t' ∧ ltr t' = enA A j) → sumF (fun i => cpE S (z + 227 + 5 + 45 * i) (z + 412 + 5 + 45 * i) (wE (aW A) i) false) 0 (aCnt A) ≤ q → (∀ e ∈ wtA A, szO S (z + 227 + 5 + 45 * e + 3) = s e) → Rm z X (q + 240 * FI s z (wRow (aW A)).length (wtA A).length S + c) S →
    ∃ S' c', LX0_reckon_80 X (z + 599) (z + 227) (z + 412) n (nI i) S = some S' ∧ CR S' z A K fi ch ∧ cI S' (z + 599) 9 ≠ nI ch ∧ CmW S' z A ∧ (∀ j, j < fac (wtA A).length → ∃ t', TxL S' (z + 606 + 2 * j) t' ∧ ltr t' = enA A j) ∧ c' ≤ q + 240 * FI s z (wRow (aW A)).length (wtA A).length S ∧ Cst z c' S S' := by
  have gd := hg.2.2.1
  have hc4 := gd.1
  have hml : (wtA A).length ≤ 4 := by unfold wtA; rw [waitL_len]; have := sndN_le (onW (aCnt A) (aW A)) (aCnt A); omega
  have hf24 := fac_le _ hml
  have hwr : (wRow (aW A)).length + (wtA A).length ≤ 100 := wait_row gd
  intro d
  induction d with
  | zero =>
    intro i n q S hi hn h hst hCw hen hq hsz hR
    obtain ⟨n, rfl⟩ : ∃ k, n = k + 1 := ⟨n - 1, by omega⟩
    have e0 := h.2.1.2.2.2.2.2.1.1
    unfold LX0_reckon_80
    rw [gi_k e0, hCw.2.1, Option.bind_some, if_pos (nI_le (by omega) (by omega))]
    exact ⟨S, 0, rfl, h, hst, hCw, fun j hj => hen j (by omega), by omega, Cst_rf z S⟩
  | succ d ih =>
    intro i n q S hi hn h hst hCw hen hq hsz hR
    obtain ⟨n, rfl⟩ : ∃ k, n = k + 1 := ⟨n - 1, by omega⟩
    have hT := h.2.1
    have hW := h.1
    obtain ⟨e0, e1, e2, e3, e4, e5, e6⟩ := hT.2.2.2.2.2.1
    obtain ⟨⟨f0, f0'⟩, ⟨f1, f2⟩, ⟨f3, f4⟩, ⟨f5, f6⟩, ⟨f7, f8⟩, _⟩ := hT.2.2.2.2.2.2.1
    have hwd := h.2.2.2.2.2.1
    obtain ⟨S4, e9, C4, w4, ln, lm, s4⟩ := copyA (X := X) (c := 240 * FI s z (wRow (aW A)).length (wtA A).length S + c) h hg (Rm_mono hR (by omega)) (fun i _ => rfl)
    have hv : ∀ x, Hv (z + 412) x → z + 412 ≤ x ∧ x < z + 597 := fun x hx => Hv_in hx
    have n599 : ¬ Hv (z + 412) (z + 599) := fun hx => by have := hv _ hx; omega
    have i4 : cI S4 (z + 599) = cI S (z + 599) := fld_Fo hW e0 (by omega) s4.2.1 n599
    have b601 : cA S4 (z + 601) = cA S (z + 601) := arr_Fo hW e2 f1 s4.2.1 n599
    have hCw4 : CmW S4 z A := by unfold CmW; rw [i4, b601]; exact hCw
    have lO4 : ∀ x, kd S x = 4 → x < z + 412 → lenO S4 x = lenO S x := fun x hx hn => lenO_Fo hW hx s4.2.1 (fun hh => by have := hv _ hh; omega)
    have hFI4 : FI s z (wRow (aW A)).length (wtA A).length S4 = FI s z (wRow (aW A)).length (wtA A).length S := FI_same (lO4 _ h.2.2.2.2.1.1.2.2.2.2.2.2.2.2.2.1 (by omega)) (fun j hj => lO4 _ (by
      have := (h.2.2.2.2.1.2.2.1.2.2.2.2.2 ((wRow (aW A)).length + j) (by omega)).2
      rw [show z + 27 + 2 * ((wRow (aW A)).length + j) = z + 22 + 5 + 2 * ((wRow (aW A)).length + j) by omega]; exact this) (by omega))
    have hR4 : Rm z X (240 * FI s z (wRow (aW A)).length (wtA A).length S4 + c) S4 := by
      rw [hFI4]
      exact Rm_step (d := 240 * FI s z (wRow (aW A)).length (wtA A).length S + c) (Rm_mono hR (by omega)) s4
    have hsz4 : ∀ e ∈ wtA A, szO S4 (z + 412 + 5 + 45 * e + 3) = s e := fun e he => by
      obtain ⟨m1, m2⟩ := waitL_mem he
      unfold onW at m2
      rw [decide_eq_true m1, Bool.true_and] at m2
      obtain ⟨k, hk⟩ := Option.isSome_iff_exists.mp m2
      obtain ⟨p, p1, _⟩ := take_all gd m1 hk
      have o1 := ((hwd.2.2.2.2.2 e (by omega)).2 m1).1.2.2.2.1
      have o2 := ((w4.2.2.2.2.2 e (by omega)).2 m1).1.2.2.2.1
      rw [p1] at o1 o2
      rw [← hsz e he]
      exact szO_eq (OpS_get o2).1 (OpS_get o1).1
    obtain ⟨S5, c5, W', e10, sh5, w5, hW', g5, k5, i5, a5, l5, s5⟩ := inOrder_C (z := z) (X := X) (c := c) (n := i) hg (by omega) C4.1 C4.2.1 hCw4 C4.2.2.2.2.1 w4 hs4 hsz4 hR4
    have hu : ∀ x, Hu z x → (z + 6 ≤ x ∧ x < z + 227) ∨ (z + 412 ≤ x ∧ x < z + 597) ∨ (z + 599 ≤ x ∧ x < z + 654) := fun x hx => by rcases hx with h | h | h <;> omega
    have C5 : CR S5 z A K fi ch := CR_cm C4 s5 hu (by rw [i5, i4]; exact hst) (by rw [i5]) (by rw [i5]) (a5 _ (by omega)) (a5 _ (by omega)) (ShC_pre sh5 (by rw [hW']; exact takes_pre _ _ _ _)) (WdC_ah w5)
    obtain ⟨q0, q1, q2, q3, q4, q5, q6⟩ := C5.2.1.2.2.2.2.2.1
    obtain ⟨⟨r0, r0'⟩, _⟩ := C5.2.1.2.2.2.2.2.2.1
    have hen6 := (C5.2.1.2.2.2.2.2.2.2.1 i (by omega))
    obtain ⟨S9, e11, t9, s9⟩ := copy_T (z := z) (h := z + 606 + 2 * i) (p := z + 412 + 1) C5.1 hen6.2 w5.2.2.2.1 (by omega)
    have n9 : ∀ x, x ≠ z + 606 + 2 * i → ¬ (fun x => x = z + 606 + 2 * i) x := fun x hx => hx
    have i9 : cI S9 (z + 599) = cI S5 (z + 599) := fld_Fo C5.1 q0 (by omega) s9.2.1 (by omega)
    have a9 : ∀ a, a = z + 601 ∨ a = z + 603 ∨ a = z + 604 → cA S9 a = cA S5 a := fun a ha => by
      obtain ⟨_, ⟨g1, g2⟩, ⟨g3, g4⟩, ⟨g5, g6⟩, ⟨g7, g8⟩, _⟩ := C5.2.1.2.2.2.2.2.2.1
      rcases ha with rfl | rfl | rfl
      · exact arr_Fo C5.1 q2 g1 s9.2.1 (by omega)
      · exact arr_Fo C5.1 q4 g5 s9.2.1 (by omega)
      · exact arr_Fo C5.1 q5 g7 s9.2.1 (by omega)
    have C9 : CR S9 z A K fi ch := CR_cm C5 s9 (fun x hx => by omega) (by rw [i9, i5, i4]; exact hst) (by rw [i9]) (by rw [i9]) (a9 _ (by omega)) (a9 _ (by omega)) (ShC_Sg C5.1 C5.2.2.2.2.1 s9 (by omega) (fun x x1 x2 => by omega)) (AhC_Sg C5.1 C5.2.2.2.2.2.2.1 s9 (fun x x1 x2 => by omega))
    have hCw9 : CmW S9 z A := by unfold CmW; rw [i9, i5, a9 _ (Or.inl rfl), a5 _ (Or.inl rfl)]; exact hCw4
    have lO9 : ∀ x, kd S5 x = 4 → x < z + 599 → lenO S9 x = lenO S5 x := fun x hx hn => lenO_Fo C5.1 hx s9.2.1 (by omega)
    have hFI9 : FI s z (wRow (aW A)).length (wtA A).length S9 = FI s z (wRow (aW A)).length (wtA A).length S5 := FI_same (lO9 _ C5.2.2.2.2.1.1.2.2.2.2.2.2.2.2.2.1 (by omega)) (fun j hj => lO9 _ (by
      have := (C5.2.2.2.2.1.2.2.1.2.2.2.2.2 ((wRow (aW A)).length + j) (by omega)).2
      rw [show z + 27 + 2 * ((wRow (aW A)).length + j) = z + 22 + 5 + 2 * ((wRow (aW A)).length + j) by omega]; exact this) (by omega))
    have hsum0 : sumF (fun i => cpE S9 (z + 227 + 5 + 45 * i) (z + 412 + 5 + 45 * i) (wE (aW A) i) false) 0 (aCnt A) ≤ 0 := by
      have := sumF_le (f := fun i => cpE S9 (z + 227 + 5 + 45 * i) (z + 412 + 5 + 45 * i) (wE (aW A) i) false) (B := 0) (aCnt A) 0 (fun j hj => by
        obtain ⟨l1, l2⟩ := ln j (by omega)
        obtain ⟨m1, m2⟩ := l5 j (by omega)
        have kA := WdS_ops w5.1 (show j < 4 by omega)
        have kM := WdS_ops hwd.1 (show j < 4 by omega)
        have kM4 := WdS_ops C4.2.2.2.2.2.1.1 (show j < 4 by omega)
        have kM5 := WdS_ops C5.2.2.2.2.2.1.1 (show j < 4 by omega)
        have z1 : ∀ x, kd S x = 4 → kd S4 x = 4 → kd S5 x = 4 → z + 227 ≤ x → x < z + 412 → szO S9 x = szO S x := fun x k1 k2 k3 x1 x2 => by
          rw [szO_Fo C5.1 k3 s9.2.1 (by omega), szO_Fo C4.1 k2 s5.2.1 (fun hh => by have := hu _ hh; rcases hh with h | h | h <;> omega), szO_Fo hW k1 s4.2.1 (fun hh => by have := hv _ hh; omega)]
        have lA3 := lO9 _ kA.1 (by omega)
        have lA5 := lO9 _ kA.2 (by omega)
        show cpE S9 (z + 227 + 5 + 45 * j) (z + 412 + 5 + 45 * j) (wE (aW A) j) false ≤ 0
        unfold cpE cpyC
        rw [lA3, lA5, m1, m2, z1 _ kM.1 kM4.1 kM5.1 (by omega) (by omega), z1 _ kM.2 kM4.2 kM5.2 (by omega) (by omega), if_neg (by omega), if_neg (by omega), if_neg (by decide)]
        omega)
      omega
    have hsz9 : ∀ e ∈ wtA A, szO S9 (z + 227 + 5 + 45 * e + 3) = s e := fun e he => by
      obtain ⟨m1, m2⟩ := waitL_mem he
      have kM := WdS_ops hwd.1 (show e < 4 by omega)
      have kM4 := WdS_ops C4.2.2.2.2.2.1.1 (show e < 4 by omega)
      have kM5 := WdS_ops C5.2.2.2.2.2.1.1 (show e < 4 by omega)
      rw [szO_Fo C5.1 kM5.1 s9.2.1 (by omega), szO_Fo C4.1 kM4.1 s5.2.1 (fun hh => by rcases hh with h | h | h <;> omega), szO_Fo hW kM.1 s4.2.1 (fun hh => by have := hv _ hh; omega)]
      exact hsz e he
    have s49 : Cst z (sumF (fun i => cpE S (z + 227 + 5 + 45 * i) (z + 412 + 5 + 45 * i) (wE (aW A) i) false) 0 (aCnt A) + c5) S S9 := by
      have := Cst_tr (Cst_tr (Cst_of s4) (Cst_of s5)) (Cst_of s9)
      exact this
    have hR9 : Rm z X (0 + 240 * FI s z (wRow (aW A)).length (wtA A).length S9 + c) S9 := Rm_cst (d := 0 + 240 * FI s z (wRow (aW A)).length (wtA A).length S9 + c) (Rm_mono hR (by rw [hFI9]; rw [hFI4] at k5; omega)) s49
    obtain ⟨S', c', x1, x2, x3, x4, x5, x6, x7⟩ := ih (i + 1) n 0 S9 (by omega) (by omega) C9 (by rw [i9, i5, i4]; exact hst) hCw9 (fun j hj => by
      by_cases hji : j = i
      · subst hji
        refine ⟨_, t9, ?_⟩
        unfold enA
        rw [← hW']
        exact (srvX_get g5.2.2.2.2.2.1 hg.2.2.2.1 (row_le g5)).1
      · obtain ⟨t', u1, u2⟩ := hen j (by omega)
        exact ⟨t', TxL_Fo C5.1 (TxL_Fo C4.1 (TxL_Fo hW u1 s4.2.1 (fun hh => by have := hv _ hh; omega)) s5.2.1 (fun hh => by rcases hh with h | h | h <;> omega)) s9.2.1 (by omega), u2⟩) hsum0 hsz9 hR9
    refine ⟨S', _, ?_, x2, x3, x4, x5, ?_, Cst_tr s49 x7⟩
    · unfold LX0_reckon_80
      rw [gi_k e0, hCw.2.1, Option.bind_some, if_neg (nI_ge (by omega) (by omega)), gr_k e0 e1, Option.bind_some, aln_k f0, f0', Option.bind_some, if_neg (nI_ge (by omega) (by omega)), e9, Option.bind_some, e10, Option.bind_some, gr_k q0 q1, Option.bind_some, ldr_k r0 (by omega) (by omega) hen6.1, Option.bind_some, gr_k w5.1.1 w5.1.2.1.2.2.1, Option.bind_some, cal_k hen6.2, e11, Option.bind_some, nI_1]
      exact x1
    · rw [hFI9] at x6
      rw [hFI4] at k5
      omega
end AN
