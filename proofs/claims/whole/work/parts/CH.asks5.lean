/-! ===== PART II, the class: together, without ===== -/
theorem TpS_g {S : CS} {z : Nat} (h : TpS S z) : gr S 11 z 0 = some (z + 1) ∧ gr S 11 z 1 = some (z + 6) ∧ gr S 11 z 2 = some (z + 22) ∧ gr S 11 z 3 = some (z + 227) ∧ gr S 11 z 4 = some (z + 412) ∧ gr S 11 z 5 = some (z + 597) ∧ gr S 11 z 6 = some (z + 599) ∧ gr S 11 z 7 = some (z + 654) ∧ gr S 11 z 8 = some (z + 656) ∧ gr S 11 z 9 = some (z + 658) := by
  obtain ⟨a1, ⟨j0, j1, j2, j3, j4, j5, j6, j7, j8, j9, j10⟩, _⟩ := h
  exact ⟨gr_k a1 j0, gr_k a1 j1, gr_k a1 j2, gr_k a1 j3, gr_k a1 j4, gr_k a1 j5, gr_k a1 j6, gr_k a1 j7, gr_k a1 j8, gr_k a1 j9⟩
abbrev Ho (z : Nat) : Nat → Prop := fun x => x = z + 654 ∨ Hw (z + 6) x
section AP
variable {S S' : CS} {z fi ch c : Nat} {A A' : St} {K : Nat → Option Nat} {H : Nat → Prop} {X : Nat × Nat}
theorem tog_loopC {N cnt : Nat} {c3 c4 : Int32} {told : List Int32} {row : List (Nat × List Int32)} : ∀ (l : List (Nat × List Int32)) (m i : Nat) (S : CS) (P : List Int32), i + l.length = N → (∀ k o, l[k]? = some o → row[i + k]? = some o) → l.length < m → Wf S → Rm z X c S → TpS S z → ShC S (z + 6) (z + 22) told row → OpL S (z + 654) P → okO P → chR cnt (newL P) l → oldL P + putsL P + putsR l ≤ 240 → N ≤ 100 →
    ∃ S', LX11_together_44 X z (nI N) c3 c4 m (nI i) S = some S' ∧ OpL S' (z + 654) (foldJ l P) ∧ (∃ l, OpL S' (z + 6 + 9) l) ∧ Sg z (Ho z) 0 S S' := by
  intro l
  induction l with
  | nil =>
    intro m i S P hi hr hm hW hR hT hsh hO hok hch hsum hN
    obtain ⟨m, rfl⟩ : ∃ j, m = j + 1 := ⟨m - 1, by omega⟩
    rw [List.length_nil] at hi
    unfold LX11_together_44
    rw [if_pos (nI_le (by omega) (by omega))]
    exact ⟨S, rfl, hO, hsh.2.1, Sg_refl hW⟩
  | cons o l ih =>
    intro m i S P hi hr hm hW hR hT hsh hO hok hch hsum hN
    obtain ⟨m, rfl⟩ : ∃ j, m = j + 1 := ⟨m - 1, by omega⟩
    rw [List.length_cons] at hi hm
    obtain ⟨hw, hob, hRw, hst, hRM⟩ := id hsh
    have hl := hRM.1
    obtain ⟨c1, c2, c3', c4'⟩ := hch
    rw [putsR] at hsum
    have hge : row[i]? = some o := hr 0 o rfl
    have hil := (List.getElem?_eq_some_iff.mp hge).1
    have cA := cnt_len hok
    have cB := cnt_len c1
    obtain ⟨t0, t1, t2, t3, t4, t5, t6, t7, t8, t9⟩ := TpS_g hT
    unfold LX11_together_44
    rw [if_neg (nI_ge (by omega) (by omega)), t1, Option.bind_some, t7, Option.bind_some, t2, Option.bind_some, gr_k hRw.1 hRw.2.1.2.1, Option.bind_some, ldr_k hRw.2.2.2.1.1 (by have := hRw.2.2.2.1.2; omega) (by have := hRw.2.2.2.1.2; omega) (hRw.2.2.2.2.2 i (by omega)).1, Option.bind_some, cal_k hw.1, nI_1]
    obtain ⟨S1, e1, o1, s1, b1⟩ := compose_L (z := z) (X := X) hW hR hw (ClsG_t z).1 (by rw [op_n, g7_n]) hO (hRM.2 _ _ hge).1 hob (by omega) ⟨by omega, by omega, by omega, by omega⟩ c3'.symm (by omega) (by omega)
    rw [e1, Option.bind_some]
    obtain ⟨u1, u2, u3, u4, u5⟩ := join_ok hok c1 c3'.symm
    have nH : ∀ x, z + 22 ≤ x → x ≠ z + 654 → ¬ Ho z x := fun x h1 h2 h => by rcases h with h | h | h | h | h <;> omega
    have hsh1 : ShC S1 (z + 6) (z + 22) told row := ⟨Wv_Sg hW hw s1, b1, RwS_Sg hW hRw s1 (nH _ (by omega) (by omega)), TxL_Fo hW hst s1.2.1 (nH _ (by omega) (by omega)), RwM_Sg hW hRw hRM s1 (nH _ (by omega) (by omega)) (fun j hj => nH _ (by omega) (by omega))⟩
    obtain ⟨S', r1, r2, r3, r4⟩ := ih m (i + 1) S1 (joinC P o.2) (by omega) (fun k o' hk => by
      have := hr (k + 1) o' hk
      rw [show i + (k + 1) = i + 1 + k by omega] at this
      exact this) (by omega) s1.1 (Rm_step (c := 0) (d := c) (by rw [Nat.zero_add]; exact hR) s1) (TpS_Sg hW hT s1) hsh1 o1 u1 (by rw [u3]; exact c4') (by omega) hN
    exact ⟨S', r1, r2, r3, Sg_trans s1 r4⟩
theorem tog_C (h : CR S z A K fi ch) (hg : GA A) (hR : Rm z X (240 + c) S) (f t k what : Int32) : ∃ S', f11_together X S z f t k what = some (qTog A f t k what, S') ∧ CR S' z A K fi ch ∧ Cst z 240 S S' := by
  have htk1 := taken_C h hg f
  have htk2 := taken_C h hg t
  have hrw := fun hp => row_at h hg (p := f) hp
  obtain ⟨hW, hT, hTp, hTf, hsh, hwd, ha, hk, hh, hc⟩ := id h
  obtain ⟨hw, ⟨lb, hob⟩, hRw, hst, hRM⟩ := id hsh
  have hl := hRM.1
  have hFU := FU_gt
  have no : Cst z 240 S S := Cst_mono (Cst_rf z S) (by omega)
  unfold f11_together qTog
  rw [htk1, Option.bind_some]
  by_cases hf : 1 ≤ f.toInt ∧ f.toInt ≤ (wRow (aW A)).length
  · rw [decide_eq_true hf, if_neg (show ¬ bI true = 0 by decide), htk2, Option.bind_some]
    by_cases ht : 1 ≤ t.toInt ∧ t.toInt ≤ (wRow (aW A)).length
    · rw [decide_eq_true ht, if_neg (show ¬ bI true = 0 by decide)]
      by_cases hft : f ≤ t
      · rw [if_pos hft]
        rw [Int32.le_iff_toInt_le] at hft
        obtain ⟨o, o1, o2, o3, o4, o5, o6⟩ := hrw hf
        obtain ⟨q1, q2, q3, q4⟩ := row_len hg.2.2.1 o3
        obtain ⟨t0, t1, t2, t3, t4, t5, t6, t7, t8, t9⟩ := TpS_g hT
        rw [t7, Option.bind_some, t2, Option.bind_some, gr_k hRw.1 hRw.2.1.2.1, Option.bind_some, o4, Option.bind_some, cal_k hT.2.2.2.2.2.2.2.2.1]
        obtain ⟨S7, e7, p7, s7, _, _⟩ := copy_O (z := z) (X := X) hW hR hT.2.2.2.2.2.2.2.2.1 o5 (by omega) (fun m => cpc_n (op_n z) m)
        have s7' : Sg z (fun x => x = z + 654) 240 S S7 := Sg_mono hW s7 (fun _ h => h) (by have := szO_L o5; split <;> omega)
        have hR7 : Rm z X c S7 := Rm_step hR s7'
        have hsh7 := ShC_Sg hW hsh s7 (by omega) (fun x x1 x2 => by omega)
        generalize hf' : f.toInt.toNat = F at *
        generalize ht' : t.toInt.toNat = T at *
        have htn := nI_ofInt (p := t) (by omega)
        rw [ht'] at htn
        have hgd := hg.2.2.1
        obtain ⟨g1, g2, g3, g4, g5, g6, g7, g8, g9⟩ := id hgd
        have hpd := putsR_drop (wRow (aW A)) F
        have hchd := chR_drop g6 F
        have hcg := chR_get g6 o3
        rw [show F - 1 + 1 = F by omega] at hcg
        have hsub : chR (aCnt A) (newL o.2) (((wRow (aW A)).take T).drop F) := by
          rw [hcg.2.2.2.1]
          have e0 : (wRow (aW A)).drop F = ((wRow (aW A)).take T).drop F ++ (wRow (aW A)).drop T := by
            rw [← List.drop_append_of_le_length (by rw [List.length_take]; omega), List.take_append_drop]
          rw [e0, chR_app] at hchd
          exact hchd.1
        have hps : putsR (((wRow (aW A)).take T).drop F) ≤ putsR ((wRow (aW A)).drop F) := by
          have e0 : (wRow (aW A)).drop F = ((wRow (aW A)).take T).drop F ++ (wRow (aW A)).drop T := by
            rw [← List.drop_append_of_le_length (by rw [List.length_take]; omega), List.take_append_drop]
          rw [e0, putsR_app]; omega
        have htk := drop_get o3
        have hpt : putsR ((wRow (aW A)).take F) = putsR ((wRow (aW A)).take (F - 1)) + putsL o.2 := by
          rw [show F = F - 1 + 1 by omega, htk.2, putsR_app, putsR, putsR]
          simp
        have l0 := lenA_le g6 (F - 1)
        obtain ⟨S8, e8, p8, b8, s8⟩ := tog_loopC (z := z) (X := X) (c := c) (N := T) (c3 := k) (c4 := what) (cnt := aCnt A) (told := aTold A) (row := wRow (aW A)) (((wRow (aW A)).take T).drop F) FU F S7 o.2 (by rw [List.length_drop, List.length_take]; omega) (fun j o' hj => by
          rw [List.getElem?_drop, List.getElem?_take] at hj
          split at hj
          · exact hj
          · cases hj) (by rw [List.length_drop, List.length_take]; omega) s7.1 hR7 (TpS_Sg hW hT s7) hsh7 p7 q1 hsub (by omega) (by omega)
        have hto : togL A F T = foldJ (((wRow (aW A)).take T).drop F) o.2 := by unfold togL; rw [o3]
        rw [← hto] at p8
        have e8' : LX11_together_44 X z t k what FU f S7 = some S8 := by rw [htn, o1]; exact e8
        rw [e7, Option.bind_some, e8', Option.bind_some]
        have s78 : Sg z (Ho z) 240 S S8 := Sg_trans (Sg_mono hW s7' (fun x hx => Or.inl hx) (Nat.le_refl _)) s8
        have hC8 : CR S8 z A K fi ch := CR_tmp1 h hg s78 (fun x hx => by rcases hx with h | h | h | h | h <;> omega) b8
        have t78 := (TpS_g hC8.2.1).2.2.2.2.2.2.2.1
        by_cases hk1 : k = -1
        · rw [if_pos hk1, if_pos hk1]
          by_cases hw1 : what = 1
          · rw [if_pos hw1, t78, Option.bind_some, cal_k (OpL_kd p8), countSteps_N s8.1 p8, Option.bind_some, Option.bind_some, if_pos hw1, if_pos ⟨hf, ht, hft, by rw [hk1]; decide, by rw [hw1]; decide⟩]
            exact ⟨S8, rfl, hC8, Cst_of s78⟩
          · rw [if_neg hw1, Option.bind_some, if_neg hw1]
            refine ⟨S8, ?_, hC8, Cst_of s78⟩
            split <;> rfl
        · rw [if_neg hk1, if_neg hk1, t78, Option.bind_some, cal_k (OpL_kd p8), ask_N s8.1 p8, Option.bind_some]
          refine ⟨S8, ?_, hC8, Cst_of s78⟩
          rw [← ask_if (c := (1 ≤ f.toInt ∧ f.toInt ≤ ↑(wRow (aW A)).length) ∧ (1 ≤ t.toInt ∧ t.toInt ≤ ↑(wRow (aW A)).length) ∧ f.toInt ≤ t.toInt ∧ -1 ≤ k.toInt ∧ 0 ≤ what.toInt) s8.1 p8 k what (fun hh => by omega)]
      · rw [if_neg hft, if_neg (fun hh => hft (by rw [Int32.le_iff_toInt_le]; exact hh.2.2.1))]
        exact ⟨S, rfl, h, no⟩
    · rw [decide_eq_false ht, if_pos (show bI false = 0 from rfl), if_neg (fun hh => ht hh.2.1)]
      exact ⟨S, rfl, h, no⟩
  · rw [decide_eq_false hf, if_pos (show bI false = 0 from rfl), if_neg (fun hh => hf hh.1)]
    exact ⟨S, rfl, h, no⟩
theorem chg_ltr : ∀ (P t : List Int32), okO P → ltr (chgL P t) = chgL P (ltr t) := by
  intro P
  induction P with
  | nil => intro t _; rfl
  | cons v P ih =>
    intro t hP
    have h1 := ih t.tail (fun x hx => hP x (List.mem_cons_of_mem _ hx))
    have h2 := ih t (fun x hx => hP x (List.mem_cons_of_mem _ hx))
    have ht : (ltr t).tail = ltr t.tail := by cases t <;> rfl
    rw [chgL, chgL]
    by_cases v0 : v < 0
    · rw [if_pos v0, if_pos v0, ht]; exact h1
    · rw [if_neg v0, if_neg v0]
      by_cases v1 : v = 0
      · rw [if_pos v1, if_pos v1, ht]
        show (t.headD 0 &&& 31) :: ltr (chgL P t.tail) = _
        rw [h1]
        congr 1
        cases t <;> rfl
      · rw [if_neg v1, if_neg v1]
        show (v &&& 31) :: ltr (chgL P t) = _
        rw [h2, okP_31 (by
          rcases hP v List.mem_cons_self with h | h | h
          · exact absurd h v1
          · rw [h] at v0; exact absurd (by decide) v0
          · exact h)]
theorem wo_loopC {cnt ties e : Nat} {c2 : Int32} {told : List Int32} {row : List (Nat × List Int32)} (hg1 : cnt ≤ 4) (hties : ties ≤ 2) (he : e < 4) : ∀ (d i n : Nat) (S : CS) (P : List Int32) (N : Nat), i + d = row.length → d < n → Wf S → Rm z X c S → TpS S z → ShC S (z + 6) (z + 22) told row → WdS S (z + 227) (z + 22) (z + 6) → cI S (z + 227) 7 = nI ties → cI S (z + 227) 11 = nI row.length → OpL S (z + 654) P → okO P → oldL P = N → chR cnt N (row.drop i) → N + putsL P ≤ 400 → (∀ j o, i ≤ j → row[j]? = some o → newL o.2 + putsL P ≤ 400 ∧ o.2.length ≤ 240) →
    ∃ S', LX11_without_61 X z c2 (z + 654) (nI e) n (nI i) S = some S' ∧ OpL S' (z + 654) (foldT ties e (row.drop i) P) ∧ (∃ l, OpL S' (z + 6 + 9) l) ∧ Sg z (fun x => x = z + 654 ∨ x = z + 656 ∨ Hw (z + 6) x) 0 S S' := by
  intro d
  induction d with
  | zero =>
    intro i n S P N hi hn hW hR hT hsh hwd ht h11 hO hok ho hch hsum hb
    obtain ⟨n, rfl⟩ : ∃ j, n = j + 1 := ⟨n - 1, by omega⟩
    have hl := hsh.2.2.2.2.1
    unfold LX11_without_61
    rw [(TpS_g hT).2.2.2.1, Option.bind_some, gi_k hwd.1, h11, Option.bind_some, if_pos (nI_le (by omega) (by omega)), List.drop_eq_nil_of_le (by omega)]
    exact ⟨S, rfl, hO, hsh.2.1, Sg_refl hW⟩
  | succ d ih =>
    intro i n S P N hi hn hW hR hT hsh hwd ht h11 hO hok ho hch hsum hb
    obtain ⟨n, rfl⟩ : ∃ j, n = j + 1 := ⟨n - 1, by omega⟩
    obtain ⟨hw, ⟨lb, hob⟩, hRw, hst, hRM⟩ := id hsh
    have hl := hRM.1
    have hil : i < row.length := by omega
    have hge := List.getElem?_eq_getElem hil
    generalize row[i] = o at hge
    have hdr : row.drop i = o :: row.drop (i + 1) := (drop_get hge).1
    rw [hdr] at hch
    obtain ⟨c1, c2', c3, c4⟩ := hch
    obtain ⟨hro, hrow⟩ := hRM.2 _ _ hge
    obtain ⟨b1, b2⟩ := hb i o (Nat.le_refl _) hge
    obtain ⟨t0, t1, t2, t3, t4, t5, t6, t7, t8, t9⟩ := TpS_g hT
    have k8 := hT.2.2.2.2.2.2.2.2.2.1
    unfold LX11_without_61
    rw [t3, Option.bind_some, gi_k hwd.1, h11, Option.bind_some, if_neg (nI_ge hil (by omega)), t8, Option.bind_some, t2, Option.bind_some, gr_k hRw.1 hRw.2.1.2.1, Option.bind_some, ldr_k hRw.2.2.2.1.1 (by have := hRw.2.2.2.1.2; omega) (by have := hRw.2.2.2.1.2; omega) (hRw.2.2.2.2.2 i (by omega)).1, Option.bind_some, cal_k k8]
    obtain ⟨RB, hRB, dRB⟩ := hro
    have lRB := len_dec hRB.1
    rw [dRB] at lRB
    obtain ⟨S7, e7, o7, c7⟩ := copy_R (z := z) hW hR k8 hRB (by omega) (cpc_b (oth_b z) RB.length (by omega))
    have s7 : Sg z (fun x => x = z + 656) 0 S S7 := c7.elim (fun h => h.2) (fun h => h.2.2)
    have hT7 := TpS_Sg hW hT s7
    have hsh7 := ShC_Sg hW hsh s7 (by omega) (fun x x1 x2 => by omega)
    obtain ⟨hw7, _, hRw7, _, hRM7⟩ := id hsh7
    have hwd7 := WdS_Sg hW hwd s7
    have iw7 : cI S7 (z + 227) = cI S (z + 227) := fld_Fo hW hwd.1 (by omega) s7.2.1 (by omega)
    obtain ⟨u0, u1, u2, u3, u4, u5, u6, u7, u8, u9⟩ := TpS_g hT7
    have hO7 := OpL_Fo hW hO s7.2.1 (show ¬ z + 654 = z + 656 by omega)
    rw [e7, Option.bind_some, u1, Option.bind_some, u8, Option.bind_some, u3, Option.bind_some, u2, Option.bind_some, gr_k hRw7.1 hRw7.2.1.2.2, Option.bind_some, ldi_k hRw7.2.2.2.2.1.1 (by have := hRw7.2.2.2.2.1.2; omega) (by have := hRw7.2.2.2.2.1.2; omega), (hRM7.2 _ _ hge).2, Option.bind_some, cal_k hwd7.1, isAhead_W hwd7 (by rw [iw7]; exact ht) hties (by omega) (by omega), Option.bind_some, cal_k hw7.1]
    have hR7 := Rm_step (c := 0) (d := c) (by rw [Nat.zero_add]; exact hR) s7
    have cA := cnt_len hok
    have clo := cnt_len c1
    have hg9 : wt z (z + 6 + 9) = fun L => 2 * L + tri (min L 241) := wt_b (by unfold isZr; omega) (by unfold isBr; omega)
    obtain ⟨S15, e15, p15, q15, s15, _, ob15⟩ := turn_L (z := z) (X := X) (ah := aheadB ties e o.1) s7.1 hR7 hw7 (ClsG_t z).1 (ClsG_t z).2.1 (by rw [op_n, g7_n]) (by rw [oth_b, hg9]) hO7 ⟨RB, o7, dRB⟩ (by omega) ⟨by omega, by omega, by omega, by omega⟩ (by omega) (by omega) (by omega)
    have nH : ∀ x, z + 22 ≤ x → x ≠ z + 654 → x ≠ z + 656 → ¬ (x = z + 654 ∨ x = z + 656 ∨ Hw (z + 6) x) := fun x h1 h2 h3 h => by
      rcases h with h | h | h | h | h | h <;> omega
    obtain ⟨v1, v2, v3, v4, v5, v6, v7, v8, v9⟩ := turn_ok (ah := aheadB ties e o.1) hok c1 (by omega)
    rw [e15, Option.bind_some, nI_1]
    have iw15 : cI S15 (z + 227) = cI S (z + 227) := by rw [fld_Fo s7.1 hwd7.1 (by omega) s15.2.1 (nH _ (by omega) (by omega) (by omega)), iw7]
    have hsh15 : ShC S15 (z + 6) (z + 22) told row := ⟨Wv_Sg s7.1 hw7 s15, ob15, RwS_Sg s7.1 hRw7 s15 (nH _ (by omega) (by omega) (by omega)), TxL_Fo s7.1 hsh7.2.2.2.1 s15.2.1 (nH _ (by omega) (by omega) (by omega)), RwM_Sg s7.1 hRw7 hRM7 s15 (nH _ (by omega) (by omega) (by omega)) (fun j hj => nH _ (by omega) (by omega) (by omega))⟩
    obtain ⟨S', f1, f2, f3, f5⟩ := ih (i + 1) n S15 (turnC (aheadB ties e o.1) P o.2) (newL o.2) (by omega) (by omega) s15.1 (Rm_step (c := 0) (d := c) (by rw [Nat.zero_add]; exact hR7) s15) (TpS_Sg s7.1 hT7 s15) hsh15 (WdS_Sg s7.1 hwd7 s15) (by rw [iw15]; exact ht) (by rw [iw15]; exact h11) p15 v1 v3 c4 (by omega) (fun j o' hj ho' => by rw [v6]; exact hb j o' (by omega) ho')
    rw [f1, hdr, foldT]
    exact ⟨S', rfl, f2, f3, Sg_trans (Sg_trans (Sg_mono hW s7 (fun x hx => Or.inr (Or.inl hx)) (Nat.le_refl 0)) s15) f5⟩
end AP
