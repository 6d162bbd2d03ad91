/-! ===== PART II, the class: acts upon the world ===== -/
theorem ed_bounds {cnt ties tl i : Nat} {W : Wd} {P : List Int32} (hg : Good cnt ties tl W) (hi : i < cnt) (hok : okO P) (ho : oldL P = (eTxt (wE W i)).length) (hp : wPu W + putsL P ≤ 200) : edB (wE W i) P := by
  have hbd := Good_Bd hg hi
  have hg0 := hg
  obtain ⟨g1, g2, g3, g4, g5, g6, g7, g8, g9⟩ := hg
  obtain ⟨e1, e2, e3, e4, e5, e6, e7, e8, e9, e10, e11, e12, e13, e14, e15, e16, e17, e18, e19⟩ := g9 i hi
  have cP := cnt_len hok
  have l0 := lenA_le g6 (eRev (wE W i))
  refine ⟨hok, ho, by omega, by omega, hbd.2.1, hbd.2.2.1, hbd.2.2.2.1, fun b hb => ?_, fun hn => ?_, e5⟩
  · cases hp' : ePnd (wE W i) with
    | none => rw [hp', hb] at e6; exact e6.elim
    | some p =>
      obtain ⟨a1, a2, a3, a4⟩ := pnd_cnt hg0 hi hp'
      rw [hp', hb] at e6
      obtain ⟨c1, c2, c3, c4, c5⟩ := e6
      rw [hb] at a3
      have a5 : putsR ((wRow W).take (eRev (wE W i))) + putsL p + putsL b ≤ wPu W := a3
      have cp := cnt_len c1
      have cb := cnt_len c2
      obtain ⟨u1, u2, u3, u4, u5⟩ := join_ok c2 hok (by omega)
      have cj := cnt_len u1
      exact ⟨c2, by omega, by omega⟩
  · cases hb : eBuf (wE W i) with
    | none => rfl
    | some b => rw [hn, hb] at e6; exact e6.elim
section AC
variable {S S' : CS} {z fi ch c : Nat} {A A' : St} {K K' : Nat → Option Nat} {H : Nat → Prop} {X : Nat × Nat}
/-- the world is another one, and its ends are not known -/
theorem CR_world {W' : Wd} (h : CR S z A K fi ch) (hst : cI S (z + 599) 9 ≠ nI ch) (hs : Sg z H c S S') (hH : ∀ x, H x → (z + 6 ≤ x ∧ x < z + 412) ∨ (z + 654 ≤ x ∧ x < z + 660)) (hsh : ShC S' (z + 6) (z + 22) (aTold A) (wRow W')) (hwd : WdC S' (z + 227) (z + 22) (z + 6) (aCnt A) (aTies A) (aTold A) W' true) : CR S' z (sWd A W') K fi ch ∧ cI S' (z + 599) 9 ≠ nI ch := by
  obtain ⟨hW, hT, hTp, hTf, _, _, ha, hk, hh, ⟨c1, c2, c3, c4⟩⟩ := h
  have nk : ∀ j k, j < 20 → K j = some k → ∀ x, k ≤ x → x < k + 185 → ¬ H x := fun j k hj hkj x x1 x2 hx => by have := K_lo hk hj hkj; have := hH x hx; omega
  have e0 := hT.2.2.2.2.2.1
  have f0 := hT.2.2.2.2.2.2.1
  have hi := fld_Fo hW e0.1 (by omega) hs.2.1 (fun hx => by have := hH _ hx; omega)
  have hi2 := fld_Fo hW hT.2.2.2.2.1.1 (by omega) hs.2.1 (fun hx => by have := hH _ hx; omega)
  have a3 := arr_Fo hW e0.2.2.2.2.1 f0.2.2.2.1.1 hs.2.1 (fun hx => by have := hH _ hx; omega)
  have a4 := arr_Fo hW e0.2.2.2.2.2.1 f0.2.2.2.2.1.1 hs.2.1 (fun hx => by have := hH _ hx; omega)
  refine ⟨⟨hs.1, TpS_Sg hW hT hs, TpT_Sg hW hT hTp hs (fun hx => by have := hH _ hx; omega), TpF_Sg hW hT hTf hs (fun hx => by have := hH _ hx; omega), hsh, hwd, AhC_Sg hW ha hs (fun x x1 x2 hx => by have := hH _ hx; omega), KpC_Sg hW hT hk hs (fun hx => by have := hH _ hx; omega) nk, HsC_Sg hW hT hh hs (fun hx => by have := hH _ hx; omega) nk, ?_⟩, by rw [hi]; exact hst⟩
  exact ⟨by rw [hi2]; exact c1, by rw [hi, a3, a4]; exact c2, fun hh => absurd (by rw [hi] at hh; exact hh) hst, by rw [hi]; exact c4⟩
/-- an editor of the world is another one -/
theorem CR_edit {i : Nat} {E : Ed} (h : CR S z A K fi ch) (hg : GA A) (hst : cI S (z + 599) 9 ≠ nI ch) (hi : i < aCnt A) (hs : Sg z H c S S') (hH : ∀ x, H x → z + 227 + 5 + 45 * i ≤ x ∧ x < z + 227 + 5 + 45 * i + 45) (hE : EdW S' (z + 227 + 5 + 45 * i) (wRow (aW A)).length E true) : CR S' z (sWd A (setE (aW A) i E)) K fi ch ∧ cI S' (z + 599) 9 ≠ nI ch := by
  obtain ⟨hW, hT, hTp, hTf, hsh, hwd, ha, hk, hh, hc⟩ := id h
  have hc4 := hg.2.2.1.1
  exact CR_world h hst hs (fun x hx => by have := hH x hx; omega) (ShC_Sg hW hsh hs (fun hx => by have := hH _ hx; omega) (fun x x1 x2 hx => by have := hH _ hx; omega)) (WdC_set hW hwd hc4 hi hs (fun x x1 x2 hx => hH x hx) hE)
theorem WdC_edit {w r g cnt ties i : Nat} {told P : List Int32} {W : Wd} {E : Ed} (hW : Wf S) (hC : WdC S w r g cnt ties told W true) (hcnt : cnt ≤ 4) (hi : i < cnt) (hgw : g + 16 ≤ w) (hs : Sg z (Hp w g (w + 5 + 45 * i)) c S S') (hE : EdW S' (w + 5 + 45 * i) (wRow W).length E true) (hn : cI S' w 9 = nI (wEd W + 1) ∧ cI S' w 10 = nI (wPu W + putsL P) ∧ ∀ k, k ≠ 9 → k ≠ 10 → cI S' w k = cI S w k) (ha4 : cA S' (w + 4) = cA S (w + 4)) : WdC S' w r g cnt ties told (editW W i E P) true := by
  obtain ⟨h1, ⟨n6, n7, n8, n9, n10, n11⟩, h3, h4, h5, h6⟩ := hC
  have nw1 : ¬ Hp w g (w + 5 + 45 * i) (w + 1) := fun h => by rcases h with h | h | h <;> omega
  refine ⟨WdS_Sg hW h1 hs, ⟨by rw [hn.2.2 6 (by omega) (by omega)]; exact n6, by rw [hn.2.2 7 (by omega) (by omega)]; exact n7, by rw [hn.2.2 8 (by omega) (by omega)]; exact n8, hn.1, hn.2.1, by rw [hn.2.2 11 (by omega) (by omega)]; exact n11⟩, by rw [hn.2.2 5 (by omega) (by omega)]; exact h3, TxL_Fo hW h4 hs.2.1 nw1, fun j hj => by rw [ha4]; exact h5 j hj, fun j hj => ?_⟩
  by_cases hji : j = i
  · subst hji
    refine ⟨EdW_J hE, fun _ => ?_⟩
    show EdW _ _ _ (if j = j then E else wE W j) true
    rw [if_pos rfl]; exact hE
  · obtain ⟨h7, h8⟩ := h6 j hj
    have nx : ∀ x, w + 5 + 45 * j ≤ x → x < w + 5 + 45 * j + 45 → ¬ Hp w g (w + 5 + 45 * i) x := fun x x1 x2 h => by rcases h with h | h | h <;> omega
    refine ⟨EdJ_Sg hW h7 hs (fun x hx => nx x (by omega) (by omega)), fun hjc => ?_⟩
    show EdW _ _ _ (if j = i then E else wE W j) true
    rw [if_neg hji]
    exact EdW_Sg hW (h8 hjc) hs nx
end AC
