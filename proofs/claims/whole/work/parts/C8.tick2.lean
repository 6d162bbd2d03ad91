/-! ===== PART II, the class: a tick ===== -/
theorem szO_w {S : CS} {h : Nat} {p : List Int32} (hO : OpL S h p) (hl : p.length ≤ 240) : szO S h ≤ wgt (some p) := by
  have h1 := szO_L hO
  obtain ⟨R, hR, rfl⟩ := hO
  have h2 := size_marks hR.1
  rw [szO_R hR] at h1 ⊢
  simp only [wgt]
  omega
theorem Hq_k {w g r n : Nat} (h : n < 100) : ∀ x, Hk w g r n x → Hq w g r x := fun x hx => by
  rcases hx with h1 | h1 | h1 | h1
  · rcases h1 with h1 | h1 | ⟨y, y1, y2⟩
    · exact Or.inl (by omega)
    · exact Or.inl (by omega)
    · exact Or.inl (by omega)
  · exact Or.inr (Or.inl h1)
  · exact Or.inr (Or.inr (Or.inl h1))
  · exact Or.inr (Or.inr (Or.inr (by omega)))
section TL
variable {z : Nat} {X : Nat × Nat} {w r g cnt ties : Nat} {told : List Int32} {wh : Bool}
theorem take_st {S : CS} {W : Wd} {i c k : Nat} (hk : ClsW z g r w wh) (hW : Wf S) (hR : Rm z X (phi cnt W + c) S) (hsh : ShC S g r told (wRow W)) (hC : WdC S w r g cnt ties told W wh) (hg : Good cnt ties told.length W) (htd : ∀ v ∈ told, okP v) (hi : i < cnt) (hlf : eLft (wE W i) = some k) : StW z S w r g cnt ties told W (takeW ties cnt i W) wh (f10_takeFrom X S w (nI i)) := by
  obtain ⟨k1, k2, k3, k4, k5⟩ := hk
  have hc4 := hg.1
  obtain ⟨p, y1, y2, _, y4, _⟩ := take_all hg hi hlf
  have hEi := ((hC.2.2.2.2.2 i (by omega)).2 hi).1
  have hp := hEi.2.2.2.1
  rw [y1] at hp
  obtain ⟨hp1, hp2⟩ := OpS_get hp
  have hz := szO_w hp1 hp2
  have hph := phi_take (ties := ties) hi y1 hlf
  have ht : tkC S (r + 5 + 2 * (wRow W).length) (w + 5 + 45 * i + 3) ≤ wgt (some p) := by unfold tkC; split <;> omega
  obtain ⟨S', e1, e2, e3, _, e5⟩ := take_E (z := z) (X := X) (c := 0) k1 k2 k3 k4 hW (Rm_mono hR (by omega)) hsh hC hg htd hi hlf
  exact ⟨S', _, e1, e3, e2, Good_take hg hi hlf, by omega, Sg_mono hW e5 (Hq_k y4) (Nat.le_refl _)⟩
theorem take_step {S : CS} {W : Wd} {i c : Nat} (hk : ClsW z g r w wh) (hW : Wf S) (hR : Rm z X (phi cnt W + c) S) (hsh : ShC S g r told (wRow W)) (hC : WdC S w r g cnt ties told W wh) (hg : Good cnt ties told.length W) (htd : ∀ v ∈ told, okP v) (hi : i < cnt) : StW z S w r g cnt ties told W (tkStep ties cnt i W) wh ((gi S 1 (w + 5 + 45 * i) 14).bind fun v4 => (if v4 = 0 then (some S) else ((gr S 10 w 3).bind fun a7 => (ldr S 16 a7 (nI i)).bind fun a8 => (gi S 1 a8 11).bind fun v9 => if v9 = 0 then ((cal S 10 w (f10_takeFrom X S w (nI i))).bind fun S10 => some S10) else some S)).bind fun S5 => some S5) := by
  obtain ⟨hS, hN, h5, hT, hF, hE⟩ := id hC
  have hc4 := hg.1
  have hEi := (hE i (by omega)).2 hi
  obtain ⟨o1, o2, o3, o4, -⟩ := hg.2.2.2.2.2.2.2.2 i hi
  rw [gi_k hEi.1.1.1, hEi.1.2.1.2.2.2.2.2, Option.bind_some]
  unfold tkStep
  cases hon : eOn (wE W i) with
  | false =>
    rw [if_pos (show bI false = 0 from rfl), Option.bind_some, if_neg (fun h => by cases h.1)]
    exact StW_end hW hsh hC hg
  | true =>
    rw [if_neg (show ¬ bI true = 0 by decide), gr_k hS.1 hS.2.1.2.2.2.1, Option.bind_some, ed_at hS (show i < 4 by omega), Option.bind_some, gi_k hEi.1.1.1, hEi.1.2.1.2.2.1, Option.bind_some]
    cases hlf : eLft (wE W i) with
    | none =>
      rw [if_neg (show ¬ oI none = 0 by decide), Option.bind_some, if_neg (fun h => by cases h.2)]
      exact StW_end hW hsh hC hg
    | some k =>
      have := o3 k hlf
      by_cases hk0 : k = 0
      · subst hk0
        rw [if_pos (show oI (some 0) = 0 from rfl), if_pos ⟨rfl, rfl⟩, cal_k hS.1]
        have := take_st (X := X) (c := c) hk hW hR hsh hC hg htd hi hlf
        simp only [Option.bind_assoc, Option.bind_some, Option.bind_fun_some]
        exact this
      · rw [if_neg (show ¬ oI (some k) = 0 from nI_ne0 (by omega) (by omega)), Option.bind_some, if_neg (fun h => hk0 (Option.some.inj h.2))]
        exact StW_end hW hsh hC hg
theorem take_C (hk : ClsW z g r w wh) (htd : ∀ v ∈ told, okP v) {W : Wd} {c : Nat} : ∀ (d j n : Nat) (S : CS), j + d = cnt → d < n → Wf S → Rm z X (phi cnt (itN (tkStep ties cnt) j W) + c) S → ShC S g r told (wRow (itN (tkStep ties cnt) j W)) → WdC S w r g cnt ties told (itN (tkStep ties cnt) j W) wh → Good cnt ties told.length (itN (tkStep ties cnt) j W) →
    StW z S w r g cnt ties told (itN (tkStep ties cnt) j W) (itN (tkStep ties cnt) cnt W) wh (LX10_runTick_43 X w n (nI j) S) := by
  intro d
  induction d with
  | zero =>
    intro j n S hj hn hW hR hsh hC hg
    obtain ⟨n, rfl⟩ : ∃ k, n = k + 1 := ⟨n - 1, by omega⟩
    have hc4 := hg.1
    unfold LX10_runTick_43
    rw [gi_k hC.1.1, hC.2.1.1, Option.bind_some, if_pos (nI_le (by omega) (by omega)), show j = cnt by omega]
    rw [show j = cnt by omega] at hsh hC hg
    exact StW_end hW hsh hC hg
  | succ d ih =>
    intro j n S hj hn hW hR hsh hC hg
    obtain ⟨n, rfl⟩ : ∃ k, n = k + 1 := ⟨n - 1, by omega⟩
    have hc4 := hg.1
    unfold LX10_runTick_43
    rw [gi_k hC.1.1, hC.2.1.1, Option.bind_some, if_neg (nI_ge (by omega) (by omega)), gr_k hC.1.1 hC.1.2.1.2.2.2.1, Option.bind_some, ed_at hC.1 (show j < 4 by omega), Option.bind_some, nI_1]
    have h1 := take_step (X := X) (c := c) (i := j) hk hW hR hsh hC hg htd (by omega)
    have := StW_bind (X := X) (c := c) (f := fun S5 => LX10_runTick_43 X w n (nI (j + 1)) S5) hR h1 (fun S' hW' hR' a1 a2 a3 => ih (j + 1) n S' (by omega) (by omega) hW' hR' a1 a2 a3)
    simp only [Option.bind_assoc, Option.bind_some, gr_k hC.1.1 hC.1.2.1.2.2.2.1] at this ⊢
    exact this
theorem brL_W (e : Nat) : ∀ (d : Nat) (W : Wd), wRow (brL ties e d W) = wRow W := by
  intro d
  induction d with
  | zero => intro W; rfl
  | succ d ih =>
    intro W
    rw [brL]
    split
    · rw [ih]; unfold comesW; split <;> rfl
    · rfl
/-- what comes to an editor within a tick -/
theorem bring_in (hk : ClsW z g r w wh) {i c : Nat} (hi : i < cnt) : ∀ (d n : Nat) (W : Wd) (S : CS), (wRow W).length - eRev (wE W i) = d → d < n → Wf S → Rm z X (phi cnt W + c) S → ShC S g r told (wRow W) → WdC S w r g cnt ties told W wh → Good cnt ties told.length W →
    StW z S w r g cnt ties told W (brL ties i d W) wh (LX10_runTick_108 X w (nI i) (w + 5 + 45 * i) n (nI (eRev (wE W i))) S) := by
  intro d
  induction d with
  | zero =>
    intro n W S hd hn hW hR hsh hC hg
    obtain ⟨n, rfl⟩ : ∃ j, n = j + 1 := ⟨n - 1, by omega⟩
    have hl := row_le hg
    have e1 := (hg.2.2.2.2.2.2.2.2 i hi).1
    unfold LX10_runTick_108
    rw [gi_k hC.1.1, hC.2.1.2.2.2.2.2, Option.bind_some, if_pos (nI_le (by omega) (by omega))]
    exact StW_end hW hsh hC hg
  | succ d ih =>
    intro n W S hd hn hW hR hsh hC hg
    obtain ⟨n, rfl⟩ : ∃ j, n = j + 1 := ⟨n - 1, by omega⟩
    have hc4 := hg.1
    have hl := row_le hg
    obtain ⟨hS, hN, h5, hT, hF, hE⟩ := id hC
    obtain ⟨hw, hob, hRw, hst, hRM⟩ := id hsh
    have hi4 : i < 4 := by omega
    have hEi := (hE i hi4).2 hi
    obtain ⟨e1, e2, e3, e4, -⟩ := hg.2.2.2.2.2.2.2.2 i hi
    have hlt : eRev (wE W i) < (wRow W).length := by omega
    unfold LX10_runTick_108
    rw [gi_k hS.1, hN.2.2.2.2.2, Option.bind_some, if_neg (nI_ge hlt (by omega)), gi_k hEi.1.1.1, hEi.1.2.1.2.2.2.2.2, Option.bind_some, brL]
    cases hon : eOn (wE W i) with
    | false =>
      rw [if_pos (show bI false = 0 from rfl), if_neg (fun h => by cases h.1)]
      exact StW_end hW hsh hC hg
    | true =>
      rw [if_neg (show ¬ bI true = 0 by decide), gr_k hEi.1.1.1 hEi.1.1.2.1.2.2.2.2.2.2, Option.bind_some, ldi_k hEi.1.1.2.2.2.2.1 (by have := hEi.1.1.2.2.2.2.2; omega) (by have := hEi.1.1.2.2.2.2.2; omega), hEi.1.2.2.1 _ hlt, Option.bind_some]
      by_cases hc0 : eCom (wE W i) (eRev (wE W i)) = 0
      · rw [hc0, if_pos (show nI 0 = (0 : Int32) from rfl), if_pos ⟨rfl, hlt, rfl⟩, cal_k hS.1, nI_1]
        have ho : (wRow W)[eRev (wE W i)]? = some (wRow W)[eRev (wE W i)] := List.getElem?_eq_getElem hlt
        generalize (wRow W)[eRev (wE W i)] = o at ho
        obtain ⟨q1, q2, q3, q4⟩ := row_len hg ho
        obtain ⟨k1, k2, k3, k4, k5⟩ := id hk
        obtain ⟨m1, m2, m3, m4⟩ := k5 i hi4
        obtain ⟨S1, f1, f2, f3, f4, f5⟩ := bring_E (z := z) (X := X) (c := phi cnt W + c) (whole := wh) m1 (fun h => ⟨(m4 h).1, (m4 h).2.1⟩) k3 k4 hW hR hw hS hRw hRM hN.2.1 hg.2.1 h5 hi4 hEi.1 hEi.2 ho (by omega) q3 (fun hne => (com_B hg hi ho hne).1) (fun hne _ => (com_B hg hi ho hne).2) hob
        have hcw : comesW ties i W = setE W i (comesE ties i o (wE W i)) := by unfold comesW; rw [ho]
        have hrv : eRev (wE (comesW ties i W) i) = eRev (wE W i) + 1 := by
          rw [hcw, setE_self]
          unfold comesE
          split
          · unfold ownE; split <;> rfl
          · rfl
        have hlen : wRow (comesW ties i W) = wRow W := by rw [hcw]; rfl
        have h1 : StW z S w r g cnt ties told W (comesW ties i W) wh (some S1) := by
          refine ⟨S1, 0, rfl, ?_, ?_, Good_comes hg hi, ?_, Sg_mono hW f5 (Hq_r (by omega) (by omega)) (Nat.le_refl 0)⟩
          · rw [hlen]
            obtain ⟨lb, f4⟩ := f4
            exact ⟨Wv_Sg hW hw f5, ⟨lb, f4⟩, RwS_Sg hW hRw f5 (fun h => by rcases h with h | h <;> omega), TxL_Fo hW hst f5.2.1 (fun h => by rcases h with h | h <;> omega), RwM_Sg hW hRw hRM f5 (fun h => by rcases h with h | h <;> omega) (fun j hj h => by rcases h with h | h <;> omega)⟩
          · rw [hcw]
            exact WdC_set hW hC hc4 hi f5 (fun x x1 x2 h => by rcases h with h | h <;> omega) ⟨f2, f3⟩
          · rw [Nat.zero_add, hcw]
            exact phi_set (phE_comes hg hi ho)
        have := StW_bind (X := X) (c := c) (f := fun S5 => LX10_runTick_108 X w (nI i) (w + 5 + 45 * i) n (nI (eRev (wE W i) + 1)) S5) (W2 := brL ties i d (comesW ties i W)) hR h1 (fun S' hW' hR' a1 a2 a3 => by
          have := ih n (comesW ties i W) S' (by rw [hrv, hlen]; omega) (by omega) hW' hR' a1 a2 a3
          rw [hrv] at this
          exact this)
        rw [f1]
        exact this
      · have := e4 (eRev (wE W i)) (by omega)
        rw [if_neg (nI_ne0 (by omega) (by omega)), if_neg (fun h => hc0 h.2.2)]
        exact StW_end hW hsh hC hg
theorem bring_C (hk : ClsW z g r w wh) {W : Wd} {c : Nat} : ∀ (d j n : Nat) (S : CS), j + d = cnt → d < n → Wf S → Rm z X (phi cnt (itN (brStep ties) j W) + c) S → ShC S g r told (wRow (itN (brStep ties) j W)) → WdC S w r g cnt ties told (itN (brStep ties) j W) wh → Good cnt ties told.length (itN (brStep ties) j W) →
    StW z S w r g cnt ties told (itN (brStep ties) j W) (itN (brStep ties) cnt W) wh (LX10_runTick_88 X w n (nI j) S) := by
  intro d
  induction d with
  | zero =>
    intro j n S hj hn hW hR hsh hC hg
    obtain ⟨n, rfl⟩ : ∃ k, n = k + 1 := ⟨n - 1, by omega⟩
    have hc4 := hg.1
    unfold LX10_runTick_88
    rw [gi_k hC.1.1, hC.2.1.1, Option.bind_some, if_pos (nI_le (by omega) (by omega)), show j = cnt by omega]
    rw [show j = cnt by omega] at hsh hC hg
    exact StW_end hW hsh hC hg
  | succ d ih =>
    intro j n S hj hn hW hR hsh hC hg
    obtain ⟨n, rfl⟩ : ∃ k, n = k + 1 := ⟨n - 1, by omega⟩
    have hc4 := hg.1
    have hl := row_le hg
    have hFU := FU_gt
    have hEi := ((hC.2.2.2.2.2 j (by omega)).2 (by omega)).1
    unfold LX10_runTick_88
    rw [gi_k hC.1.1, hC.2.1.1, Option.bind_some, if_neg (nI_ge (by omega) (by omega)), gr_k hC.1.1 hC.1.2.1.2.2.2.1, Option.bind_some, ed_at hC.1 (show j < 4 by omega), Option.bind_some, gi_k hEi.1.1, hEi.2.1.1, Option.bind_some, nI_1]
    have h1 := bring_in (X := X) (c := c) (i := j) hk (by omega) _ FU _ S rfl (by omega) hW hR hsh hC hg
    exact StW_bind (X := X) (c := c) (f := fun S5 => LX10_runTick_88 X w n (nI (j + 1)) S5) hR h1 (fun S' hW' hR' a1 a2 a3 => ih (j + 1) n S' (by omega) (by omega) hW' hR' a1 a2 a3)
theorem tick_C (hk : ClsW z g r w wh) (htd : ∀ v ∈ told, okP v) {W : Wd} {c : Nat} {S : CS} (hW : Wf S) (hR : Rm z X (phi cnt W + c) S) (hsh : ShC S g r told (wRow W)) (hC : WdC S w r g cnt ties told W wh) (hg : Good cnt ties told.length W) : StW z S w r g cnt ties told W (tickW ties cnt W) wh (f10_runTick X S w) := by
  have hc4 := hg.1
  have hFU := FU_gt
  unfold f10_runTick
  have h1 := pass_C (X := X) (told := told) (ties := ties) (c := c) hk cnt 0 FU S (by omega) (by omega) hW hR hsh hC hg
  refine StW_bind (X := X) (c := c) hR h1 (fun S1 hW1 hR1 a1 a2 a3 => ?_)
  have h2 := take_C (X := X) (c := c) hk htd cnt 0 FU S1 (by omega) (by omega) hW1 hR1 a1 a2 a3
  refine StW_bind (X := X) (c := c) hR1 h2 (fun S3 hW3 hR3 b1 b2 b3 => ?_)
  have h3 := bring_C (X := X) (c := c) hk cnt 0 FU S3 (by omega) (by omega) hW3 hR3 b1 b2 b3
  refine StW_bind (X := X) (c := c) hR3 h3 (fun S5 hW5 hR5 c1 c2 c3 => ?_)
  have hw1 : (itN (brStep ties) cnt (itN (tkStep ties cnt) cnt (itN pStep cnt W))).1 = W.1 := by
    rw [itN_cnt (fun e W => by unfold brStep; exact brL_1 ties e _ W), itN_cnt (tkStep_1 ties cnt), itN_cnt (f := pStep) (fun e W => rfl)]
  have hgt := Good_tick hg
  generalize hY : itN (brStep ties) cnt (itN (tkStep ties cnt) cnt (itN pStep cnt W)) = Y at hw1 c1 c2 c3 hR5
  have hY2 : tickW ties cnt W = ((wTk Y + 1, wEd Y, wPu Y), Y.2) := by unfold tickW; rw [hY]; show _ = ((Y.1.1 + 1, Y.1.2.1, Y.1.2.2), Y.2); rw [hw1]
  obtain ⟨hS, ⟨n6, n7, n8, n9, n10, n11⟩, h5, hT, hF, hE⟩ := c2
  have hwr := hk.2.2.2.1
  rw [gi_k hS.1, n8, Option.bind_some, nI_1, pi_k hS.1, Option.bind_some]
  have s8 : Sg z (fun x => x = w) 0 S5 (setI S5 w 8 (nI (wTk Y + 1))) := Sg_setI hW5 rfl
  have k : ∀ j, j ≠ 8 → cI (setI S5 w 8 (nI (wTk Y + 1))) w j = cI S5 w j := fun j hj => by rw [cI_set, if_neg (by omega)]
  have hrg := hk.2.2.1
  rw [hY2] at hgt ⊢
  refine ⟨_, 0, rfl, ShC_Sg hW5 c1 s8 (by omega) (fun x x1 x2 => by omega), ⟨WdS_Sg hW5 hS s8, ⟨by rw [k 6 (by omega)]; exact n6, by rw [k 7 (by omega)]; exact n7, by rw [cI_self], by rw [k 9 (by omega)]; exact n9, by rw [k 10 (by omega)]; exact n10, by rw [k 11 (by omega)]; exact n11⟩, by rw [k 5 (by omega)]; exact h5, TxL_Fo hW5 hT s8.2.1 (show ¬ w + 1 = w by omega), hF, fun j hj => ?_⟩, hgt, by rw [Nat.zero_add]; exact Nat.le_refl _, Sg_mono hW5 s8 (fun x hx => Or.inl (by omega)) (Nat.le_refl 0)⟩
  obtain ⟨q1, q2⟩ := hE j hj
  exact ⟨EdJ_Sg hW5 q1 s8 (fun x hx => by omega), fun hjc => EdW_Sg hW5 (q2 hjc) s8 (fun x x1 x2 => by omega)⟩
end TL
