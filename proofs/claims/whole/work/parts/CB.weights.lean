/-! ===== PART II, the class: the weights of all operations ===== -/
theorem wt_n {z x : Nat} (h1 : ¬ isZr z x) (h2 : ¬ isBr z x) (h3 : x < z + 661) : wt z x = fun L => 2 * L := by
  funext L; unfold wt; rw [if_neg h1, if_neg h2, if_pos h3]
theorem wt_b {z x : Nat} (h1 : ¬ isZr z x) (h2 : isBr z x) : wt z x = fun L => 2 * L + tri (min L 241) := by
  funext L; unfold wt; rw [if_neg h1, if_pos h2]
theorem wt_k {z x : Nat} (h : z + 661 ≤ x) : wt z x = fun L => L := by
  funext L; unfold wt isZr isBr; rw [if_neg (by omega), if_neg (by omega), if_neg (by omega)]
theorem grw_n {z x : Nat} (h : wt z x = fun L => 2 * L) : grw z x := fun L L' hl => by rw [h]; dsimp only; omega
theorem grw_b {z x : Nat} (h : wt z x = fun L => 2 * L + tri (min L 241)) : grw z x := fun L L' hl => by
  rw [h]
  have := tri_mono (show min L 241 ≤ min L' 241 by omega)
  dsimp only; omega
theorem cpc_n {z x : Nat} (h : wt z x = fun L => 2 * L) (m : Nat) : cpc z x m m := fun L L' h1 h2 => by rw [h]; dsimp only; omega
theorem cpc_k {z x : Nat} (h : wt z x = fun L => L) (m : Nat) : cpc z x m m := fun L L' h1 h2 => by rw [h]; dsimp only; omega
theorem cpc_z {z x : Nat} (h : isZr z x) (hx : ∀ L L' : Nat, L' + 0 ≤ 0 + L') (m : Nat) : wt z x = fun _ => 0 := by
  funext L; unfold wt; rw [if_pos h]
theorem cpc_b {z x : Nat} (h : wt z x = fun L => 2 * L + tri (min L 241)) (s : Nat) (hs : s ≤ 241) : cpc z x s 0 := fun L L' h1 h2 => by
  rw [h]
  have h3 := tri_mono (show L + 1 ≤ min L' 241 by omega)
  rw [tri] at h3
  have h4 : min L 241 = L := by omega
  dsimp only
  rw [h4]
  omega
theorem g7_n (z : Nat) : wt z (z + 6 + 7) = fun L => 2 * L := wt_n (by unfold isZr; omega) (by unfold isBr; omega) (by omega)
theorem ClsG_t (z : Nat) : ClsG z (z + 6) := by
  have h7 := g7_n z
  have h9 : wt z (z + 6 + 9) = fun L => 2 * L + tri (min L 241) := wt_b (by unfold isZr; omega) (by unfold isBr; omega)
  have h12 : wt z (z + 6 + 12) = fun L => 2 * L + tri (min L 241) := wt_b (by unfold isZr; omega) (by unfold isBr; omega)
  have h14 : wt z (z + 6 + 14) = fun L => 2 * L + tri (min L 241) := wt_b (by unfold isZr; omega) (by unfold isBr; omega)
  exact ⟨grw_n h7, grw_b h9, by rw [h12, h9], by rw [h14, h9], fun s hs => cpc_b h12 s hs, fun s hs => cpc_b h14 s hs⟩
theorem row_n (z : Nat) {i : Nat} (hi : i < 100) : wt z (z + 22 + 5 + 2 * i) = fun L => 2 * L := wt_n (by unfold isZr; omega) (by unfold isBr; omega) (by omega)
theorem ClsR_t (z : Nat) : ClsR z (z + 6) (z + 22) := fun i hi => ⟨by rw [row_n z hi, g7_n], fun m => cpc_n (row_n z hi) m⟩
theorem wld_n (z : Nat) {x : Nat} (h1 : z + 232 ≤ x) (h2 : x < z + 412) : wt z x = fun L => 2 * L := wt_n (by unfold isZr; omega) (by unfold isBr; omega) (by omega)
theorem ahd_n (z : Nat) {i j : Nat} (hi : i < 4) (hj : j < 7) : wt z (z + 412 + 5 + 45 * i + j) = fun L => 2 * L := wt_n (by unfold isZr; omega) (by unfold isBr; omega) (by omega)
theorem ClsW_w (z : Nat) : ClsW z (z + 6) (z + 22) (z + 227) true := by
  refine ⟨ClsG_t z, ClsR_t z, by omega, by omega, fun i hi => ?_⟩
  have w : ∀ j, j < 45 → wt z (z + 227 + 5 + 45 * i + j) = fun L => 2 * L := fun j hj => wld_n z (by omega) (by omega)
  have w' : ∀ h, z + 227 + 5 + 45 * i ≤ h → h < z + 227 + 5 + 45 * i + 45 → wt z h = fun L => 2 * L := fun h h1 h2 => wld_n z (by omega) (by omega)
  have hg := ClsG_t z
  refine ⟨⟨hg, by rw [w 3 (by omega), g7_n], by rw [w 5 (by omega), g7_n]⟩, fun m => cpc_n (w 3 (by omega)) m, fun m => cpc_n (w 5 (by omega)) m, fun _ => ⟨?_, ?_, fun h h1 h2 => grw_n (w' h (by omega) (by omega))⟩⟩
  · exact ⟨hg.1, hg.2.1, hg.2.2.2.1, hg.2.2.2.2.2, fun h h1 h2 => by rw [w' h (by omega) (by omega), g7_n], by omega⟩
  · exact ⟨hg.1, hg.2.1, hg.2.2.2.1, hg.2.2.2.2.2, fun h h1 h2 => by rw [w' h (by omega) (by omega), g7_n], by omega⟩
theorem ClsW_a (z : Nat) : ClsW z (z + 6) (z + 22) (z + 412) false := by
  refine ⟨ClsG_t z, ClsR_t z, by omega, by omega, fun i hi => ?_⟩
  exact ⟨⟨ClsG_t z, by rw [ahd_n z hi (by omega), g7_n], by rw [ahd_n z hi (by omega), g7_n]⟩, fun m => cpc_n (ahd_n z hi (by omega)) m, fun m => cpc_n (ahd_n z hi (by omega)) m, fun h => by cases h⟩
theorem ClsC_w (z : Nat) : ClsC z (z + 227) true := fun i hi => ⟨fun m => cpc_n (wld_n z (by omega) (by omega)) m, fun m => cpc_n (wld_n z (by omega) (by omega)) m, fun _ h m h1 h2 => cpc_n (wld_n z (by omega) (by omega)) m⟩
theorem ClsC_a (z : Nat) : ClsC z (z + 412) false := fun i hi => ⟨fun m => cpc_n (ahd_n z hi (by omega)) m, fun m => cpc_n (ahd_n z hi (by omega)) m, fun h => by cases h⟩
theorem ClsC_k (z : Nat) {k : Nat} (hk : z + 661 ≤ k) : ClsC z k true := fun i hi => ⟨fun m => cpc_k (wt_k (by omega)) m, fun m => cpc_k (wt_k (by omega)) m, fun _ h m h1 h2 => cpc_k (wt_k (by omega)) m⟩
theorem ClsP_w (z : Nat) {i : Nat} (hi : i < 4) : ClsP z (z + 6) (z + 227 + 5 + 45 * i) := by
  obtain ⟨h1, h2, h3, h4⟩ := (ClsW_w z).2.2.2.2 i hi
  exact ⟨h1, h2, h3, (h4 rfl).2.2⟩
theorem op_n (z : Nat) : wt z (z + 654) = fun L => 2 * L := wt_n (by unfold isZr; omega) (by unfold isBr; omega) (by omega)
theorem oth_b (z : Nat) : wt z (z + 656) = fun L => 2 * L + tri (min L 241) := wt_b (by unfold isZr; omega) (by unfold isBr; omega)
/-- what a stack may cost -/
theorem szS_cap : ∀ (s : List (Nat × List Int32)), capOk s → szS s ≤ 2 * (putsS s + ccS s) + s.length := by
  intro s
  induction s with
  | nil => intro _; exact Nat.le_refl _
  | cons x s ih =>
    intro h
    have h1 := ih h.2
    have h2 := h.1
    rw [szS, putsS, ccS, List.length_cons]
    omega
/-- what the copy of a world may cost -/
theorem cpE_le {cnt ties tl i : Nat} {W : Wd} (hg : Good cnt ties tl W) (hi : i < cnt) (S : CS) (e d : Nat) : cpE S e d (wE W i) true ≤ 1376 ∧ cpE S e d (wE W i) false ≤ 480 := by
  obtain ⟨g1, g2, g3, g4, g5, g6, g7, g8, g9⟩ := hg
  obtain ⟨e1, e2, e3, e4, e5, e6, e7, e8, e9, e10, e11, e12, e13, e14, e15, e16, e17, e18, e19⟩ := g9 i hi
  have h1 := szS_cap _ e13
  have h2 := szS_cap _ e14
  have h3 := cpyC_le S (d + 3) (e + 3)
  have h4 := cpyC_le S (d + 5) (e + 5)
  unfold cpE
  rw [if_pos rfl, if_neg (by decide)]
  omega
theorem phi_le (cnt : Nat) (W : Wd) (h : cnt ≤ 4) : phi cnt W ≤ 1920 := by
  have h1 : ∀ o, wgt o ≤ 240 := fun o => by cases o <;> simp only [wgt] <;> omega
  have h2 : ∀ i, phE (wE W i) ≤ 480 := fun i => by
    have a := h1 (ePnd (wE W i))
    have b := h1 (eBuf (wE W i))
    unfold phE
    split <;> omega
  have h3 : ∀ n, sumN (fun i => phE (wE W i)) n ≤ 480 * n := by
    intro n
    induction n with
    | zero => exact Nat.le_refl _
    | succ n ih => rw [sumN]; have := h2 n; omega
  have := h3 cnt
  unfold phi
  omega
