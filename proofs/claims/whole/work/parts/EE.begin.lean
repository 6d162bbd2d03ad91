/-! ===== PART II, the class: the world begins as told ===== -/
section TE
variable {S S' S'' : CS} {z fi ch c i k q : Nat} {A A' : St} {K K' : Nat → Option Nat} {H : Nat → Prop} {X : Nat × Nat} {T : List Int32} {v : Tm}
abbrev Hb (w : Nat) : Nat → Prop := fun x => x = w ∨ (w + 5 ≤ x ∧ x < w + 185)
theorem begin_lp {w r g : Nat} {told : List Int32} (hrw : r + 205 ≤ w) : ∀ (d i n : Nat) (S : CS), i + d = 4 → d < n → Wf S → WdS S w r g → RwS S r → TxL S (r + 1) told → (∀ j, j < 4 → EdJ S (w + 5 + 45 * j) true) → (∀ j, j < i → EdW S (w + 5 + 45 * j) 0 (E0t told) true ∧ cA S (w + 4) j = 0) → ∃ S', LX10_begin_29 w n (nI i) S = some S' ∧ (∀ j, j < 4 → EdW S' (w + 5 + 45 * j) 0 (E0t told) true ∧ cA S' (w + 4) j = 0) ∧ cI S' w = cI S w ∧ Sg z (Hb w) 0 S S' := by
  intro d
  induction d with
  | zero =>
    intro i n S hi hn hW hS hr hT hJ hE
    obtain ⟨n, rfl⟩ : ∃ k, n = k + 1 := ⟨n - 1, by omega⟩
    unfold LX10_begin_29
    rw [gr_k hS.1 hS.2.1.2.2.2.1, Option.bind_some, aln_k hS.2.2.2.1.1, hS.2.2.2.1.2, Option.bind_some, if_pos (nI_le (by omega) (by omega))]
    exact ⟨S, rfl, fun j hj => hE j (by omega), rfl, Sg_refl hW⟩
  | succ d ih =>
    intro i n S hi hn hW hS hr hT hJ hE
    obtain ⟨n, rfl⟩ : ∃ k, n = k + 1 := ⟨n - 1, by omega⟩
    have hEi := (hS.2.2.2.2.2 i (by omega)).2
    obtain ⟨S7, e7, w7, s7⟩ := begin_E (z := z) (st := r + 1) hW hEi (hJ i (by omega)) hT (by omega)
    have hS7 := WdS_Sg hW hS s7
    have nw : ¬ (w + 5 + 45 * i ≤ w ∧ w < w + 5 + 45 * i + 45) := by omega
    have iw : cI S7 w = cI S w := fld_Fo hW hS.1 (by omega) s7.2.1 nw
    have a4 : cA S7 (w + 4) = cA S (w + 4) := arr_Fo hW hS.2.1.2.2.2.2 hS.2.2.2.2.1.1 s7.2.1 nw
    have s9 : Sg z (fun x => x = w) 0 S7 (setA S7 (w + 4) (upd (cA S7 (w + 4)) i 0)) := Sg_setA s7.1 rfl hS7.2.1.2.2.2.2
    have k4 := hS7.2.2.2.2.1
    have aS : cA (setA S7 (w + 4) (upd (cA S7 (w + 4)) i 0)) (w + 4) = upd (cA S7 (w + 4)) i 0 := cA_self _ _ _
    have iS : cI (setA S7 (w + 4) (upd (cA S7 (w + 4)) i 0)) = cI S7 := rfl
    unfold LX10_begin_29
    rw [gr_k hS.1 hS.2.1.2.2.2.1, Option.bind_some, aln_k hS.2.2.2.1.1, hS.2.2.2.1.2, Option.bind_some, if_neg (nI_ge (by omega) (by omega)), Option.bind_some, ed_at hS (show i < 4 by omega), Option.bind_some, gr_k hS.1 hS.2.1.1, Option.bind_some, gr_k hr.1 hr.2.1.1, Option.bind_some, e7, Option.bind_some, gr_k hS7.1 hS7.2.1.2.2.2.2, Option.bind_some, sti_k k4.1 (by omega) (by omega), Option.bind_some, nI_1]
    generalize setA S7 (w + 4) (upd (cA S7 (w + 4)) i 0) = S9 at *
    have hsum : Sg z (Hb w) 0 S S9 := by
      have := Sg_trans (Sg_mono hW s7 (H' := Hb w) (fun x hx => by unfold Hb; omega) (Nat.le_refl _)) (Sg_mono s7.1 s9 (H' := Hb w) (fun x hx => Or.inl hx) (Nat.le_refl _))
      exact this
    obtain ⟨S', r1, r2, r3, r4⟩ := ih (i + 1) n S9 (by omega) (by omega) s9.1 (WdS_Sg s7.1 hS7 s9) (RwS_Sg hW hr hsum (fun hx => by unfold Hb at hx; omega)) (TxL_Fo hW hT hsum.2.1 (fun hx => by unfold Hb at hx; omega)) (fun j hj => by
      by_cases hji : j = i
      · subst hji; exact EdJ_Sg s7.1 (EdW_J w7) s9 (fun x hx => by omega)
      · exact EdJ_Sg s7.1 (EdJ_Sg hW (hJ j hj) s7 (fun x hx => by omega)) s9 (fun x hx => by omega)) (fun j hj => by
      by_cases hji : j = i
      · subst hji; exact ⟨EdW_Sg s7.1 w7 s9 (fun x x1 x2 => by omega), by rw [aS, upd_self]⟩
      · obtain ⟨p1, p2⟩ := hE j (by omega)
        exact ⟨EdW_Sg s7.1 (EdW_Sg hW p1 s7 (fun x x1 x2 => by omega)) s9 (fun x x1 x2 => by omega), by rw [aS, upd_ne _ _ hji, a4]; exact p2⟩)
    exact ⟨S', r1, r2, by rw [r3, iS, iw], by have := Sg_trans hsum r4; exact this⟩
theorem world_begin {w r g cnt : Nat} {told : List Int32} (hrw : r + 205 ≤ w) (hcnt : cnt ≤ 4) (hto : ∀ v ∈ told, okP v) (hW : Wf S) (hS : WdS S w r g) (hwh : cI S w 5 = bI true) (hr : RwS S r) (hT : TxL S (r + 1) told) (hJ : ∀ j, j < 4 → EdJ S (w + 5 + 45 * j) true) : ∃ S', cal S 10 w (f10_begin S w (nI cnt)) = some S' ∧ WdC S' w r g cnt 0 told (W0t told) true ∧ Sg z (fun x => w ≤ x ∧ x < w + 185) 0 S S' := by
  have s3 : Sg z (fun x => x = w) 0 S (setI S w 6 (nI cnt)) := Sg_setI hW rfl
  have i3 : cI (setI S w 6 (nI cnt)) w 6 = nI cnt := cI_self _ _ _ _
  have j3 : cI (setI S w 6 (nI cnt)) w 5 = bI true := by rw [cI_set, if_neg (by omega)]; exact hwh
  rw [cal_k hS.1]
  unfold f10_begin
  rw [gr_k hS.1 hS.2.1.2.2.2.1, Option.bind_some, aln_k hS.2.2.2.1.1, hS.2.2.2.1.2, Option.bind_some, if_neg (show ¬ nI 4 < nI cnt from fun hh => by rw [nI_ltI (by omega) (by omega)] at hh; omega), pi_k hS.1, Option.bind_some]
  have hS3 := WdS_Sg hW hS s3
  have hr3 := RwS_Sg hW hr s3 (by omega)
  have hT3 := TxL_Fo hW hT s3.2.1 (by omega)
  have hJ3 : ∀ j, j < 4 → EdJ (setI S w 6 (nI cnt)) (w + 5 + 45 * j) true := fun j hj => EdJ_Sg hW (hJ j hj) s3 (fun x hx => by omega)
  generalize setI S w 6 (nI cnt) = S3 at *
  obtain ⟨S7, e7, t7, s7⟩ := copy_T (z := z) s3.1 hS3.2.2.1 hT3 (show w + 1 ≠ r + 1 by omega)
  have hS7 := WdS_Sg s3.1 hS3 s7
  have i7 : cI S7 w = cI S3 w := fld_Fo s3.1 hS3.1 (by omega) s7.2.1 (by omega)
  obtain ⟨S8, r1, r2, r3, r4⟩ := begin_lp (z := z) (told := told) hrw 4 0 FU S7 (by omega) (by rw [FU_eq]; omega) s7.1 hS7 (RwS_Sg s3.1 hr3 s7 (by omega)) (TxL_Fo s3.1 hT3 s7.2.1 (by omega)) (fun j hj => EdJ_Sg s3.1 (hJ3 j hj) s7 (fun x hx => by omega)) (fun j hj => absurd hj (Nat.not_lt_zero _))
  have hS8 := WdS_Sg s7.1 hS7 r4
  rw [gr_k hS3.1 hS3.2.1.2.2.1, Option.bind_some, gr_k hS3.1 hS3.2.1.1, Option.bind_some, gr_k hr3.1 hr3.2.1.1, Option.bind_some, cal_k hS3.2.2.1, e7, Option.bind_some, show LX10_begin_29 w FU 0 S7 = some S8 from r1, Option.bind_some]
  have chain : ∀ (k : Nat) (x : Int32) (SX : CS), kd SX w = 10 → Sg z (fun x => x = w) 0 S8 SX → pi SX 10 w k x = some (setI SX w k x) ∧ kd (setI SX w k x) w = 10 ∧ Sg z (fun x => x = w) 0 S8 (setI SX w k x) := fun k x SX hk hs => ⟨pi_k hk, hk, by
    have s1 : Sg z (fun x => x = w) 0 SX (setI SX w k x) := Sg_setI hs.1 rfl
    have := Sg_trans hs s1
    exact this⟩
  obtain ⟨q1, q2, q3⟩ := chain 7 0 S8 hS8.1 (Sg_refl r4.1)
  obtain ⟨u1, u2, u3⟩ := chain 8 0 _ q2 q3
  obtain ⟨w1, w2, w3⟩ := chain 9 0 _ u2 u3
  obtain ⟨x1, x2, x3⟩ := chain 10 0 _ w2 w3
  obtain ⟨y1, y2, y3⟩ := chain 11 0 _ x2 x3
  rw [q1, Option.bind_some, u1, Option.bind_some, w1, Option.bind_some, x1, Option.bind_some, y1, Option.bind_some]
  have i8 : cI S8 w 6 = nI cnt ∧ cI S8 w 5 = bI true := by rw [r3, i7]; exact ⟨i3, j3⟩
  have t8 : TxL S8 (w + 1) told := TxL_Fo s7.1 t7 r4.2.1 (fun hx => by unfold Hb at hx; omega)
  have aF : cA (setI (setI (setI (setI (setI S8 w 7 0) w 8 0) w 9 0) w 10 0) w 11 0) = cA S8 := rfl
  have hsrv : srvX told [] = told := by
    show zipW told (List.replicate told.length 0) = told
    exact zipW_0 told
  refine ⟨_, rfl, ⟨WdS_Sg r4.1 hS8 y3, ⟨?_, ?_, ?_, ?_, ?_, ?_⟩, ?_, ?_, fun j hj => ?_, fun j hj => ?_⟩, ?_⟩
  · rw [cI_set, if_neg (by omega), cI_set, if_neg (by omega), cI_set, if_neg (by omega), cI_set, if_neg (by omega), cI_set, if_neg (by omega)]; exact i8.1
  · rw [cI_set, if_neg (by omega), cI_set, if_neg (by omega), cI_set, if_neg (by omega), cI_set, if_neg (by omega), cI_self]; rfl
  · rw [cI_set, if_neg (by omega), cI_set, if_neg (by omega), cI_set, if_neg (by omega), cI_self]; rfl
  · rw [cI_set, if_neg (by omega), cI_set, if_neg (by omega), cI_self]; rfl
  · rw [cI_set, if_neg (by omega), cI_self]; rfl
  · rw [cI_self]; rfl
  · rw [cI_set, if_neg (by omega), cI_set, if_neg (by omega), cI_set, if_neg (by omega), cI_set, if_neg (by omega), cI_set, if_neg (by omega)]; exact i8.2
  · show TxL _ (w + 1) (srvX told [])
    rw [hsrv]
    exact TxL_Fo r4.1 t8 y3.2.1 (by omega)
  · rw [aF, (r2 j (by omega)).2]; rfl
  · have hE := EdW_Sg r4.1 (r2 j hj).1 y3 (fun x x1 x2 => by omega)
    exact ⟨EdW_J hE, fun _ => hE⟩
  · have a1 := Sg_mono hW s3 (H' := fun x => w ≤ x ∧ x < w + 185) (fun x hx => by omega) (Nat.le_refl _)
    have a2 := Sg_mono s3.1 s7 (H' := fun x => w ≤ x ∧ x < w + 185) (fun x hx => by omega) (Nat.le_refl _)
    have a3 := Sg_mono s7.1 r4 (H' := fun x => w ≤ x ∧ x < w + 185) (fun x hx => by unfold Hb at hx; omega) (Nat.le_refl _)
    have a4 := Sg_mono r4.1 y3 (H' := fun x => w ≤ x ∧ x < w + 185) (fun x hx => by omega) (Nat.le_refl _)
    have := Sg_trans (Sg_trans (Sg_trans a1 a2) a3) a4
    exact this
/-- the state as a session begins it -/
def newA (A : St) (T : List Int32) (ties : Nat) (W : Wd) : St := (([], 0, -1, aRf A), (cntT T, ties, toldT T), W, [], [], aSeed A)
theorem beginTold_C {T : List Int32} {R : List Sm} (h : CR S z A K fi ch) (hg : GA A) (hA : A.1 = ([], 0, -1, aRf A)) (hch : ch < 1000) (ht : TSt S z T R) (hS1 : pBd (pS1 T) = 0) : ∃ S', cal S 11 z (f11_beginAsTold S z) = some S' ∧ CR S' z (newA A T 0 (W0t (toldT T))) K fi (ch + 1) ∧ cI S' (z + 599) 9 ≠ nI (ch + 1) ∧ TSt S' z T R ∧ Cst z 0 S S' := by
  obtain ⟨hW, hT, hTp, hTf, hsh, hwd, ha, hk, hh, hc⟩ := id h
  obtain ⟨c2, c4, cf, ctl, _, cto, _, _⟩ := head_good hS1
  obtain ⟨t0, t1, t2, t3, t4, t5, t6, t7, t8, t9⟩ := TpS_g hT
  obtain ⟨k1, k2, k3, k4, k5, k6⟩ := id ht
  obtain ⟨b0, b1, b2, b3, b4⟩ := hT.2.2.1
  obtain ⟨_, ⟨d2, d3⟩, _⟩ := hT.2.2.2.1
  obtain ⟨w1, w2, w3, w4, w5⟩ := hsh
  obtain ⟨S7, e7, tx7, s7⟩ := letters_C (z := z) (h := z + 22 + 1) (a := z + 3) (n := (toldT T).length) hW w3.2.2.1 ⟨d2, d3⟩ k4 rfl ctl (fun k hj => by
    have := (hW.2.2.1 (z + 22 + 1) (z + 1) k 7 (z + 3) hj b2 d2).1
    omega)
  have hT7 := TpS_Sg hW hT s7
  obtain ⟨u0, u1, u2, u3, u4, u5, u6, u7, u8, u9⟩ := TpS_g hT7
  have k7 : TSt S7 z T R := TSt_Sg hW hT ht s7 (by omega)
  have wd7 := WdC_Sg hW hwd s7 (fun x x1 x2 => by omega)
  obtain ⟨S11, e11, wd11, s11⟩ := world_begin (z := z) (w := z + 227) (r := z + 22) (g := z + 6) (cnt := cntT T) (told := toldT T) (by omega) c4 cto s7.1 wd7.1 wd7.2.2.1 (RwS_Sg hW w3 s7 (by omega)) tx7 (fun j hj => (wd7.2.2.2.2.2 j hj).1)
  have s71 : Sg z (fun x => x = z + 23 ∨ (z + 227 ≤ x ∧ x < z + 412)) 0 S S11 := by
    have := Sg_trans (Sg_mono hW s7 (H' := fun x => x = z + 23 ∨ (z + 227 ≤ x ∧ x < z + 412)) (fun x hx => by omega) (Nat.le_refl _)) (Sg_mono s7.1 s11 (H' := fun x => x = z + 23 ∨ (z + 227 ≤ x ∧ x < z + 412)) (fun x hx => by omega) (Nat.le_refl _))
    exact this
  have hT11 := TpS_Sg hW hT s71
  obtain ⟨v0, v1, v2, v3, v4, v5, v6, v7, v8, v9⟩ := TpS_g hT11
  have f3 : cI S11 (z + 597) = cI S (z + 597) := fld_Fo hW hT.2.2.2.2.1.1 (by omega) s71.2.1 (by omega)
  have g0 := hT11.2.2.2.2.1.1
  have e0 := hT11.2.2.2.2.2.1.1
  have sA : Sg z (fun x => x = z + 597 ∨ x = z + 599) 0 S11 (setI S11 (z + 597) 2 0) := Sg_setI s71.1 (Or.inl rfl)
  have sB : Sg z (fun x => x = z + 597 ∨ x = z + 599) 0 (setI S11 (z + 597) 2 0) (setI (setI S11 (z + 597) 2 0) (z + 597) 3 (nI (ch + 1))) := Sg_setI sA.1 (Or.inl rfl)
  have sC : Sg z (fun x => x = z + 597 ∨ x = z + 599) 0 (setI (setI S11 (z + 597) 2 0) (z + 597) 3 (nI (ch + 1))) (setI (setI (setI S11 (z + 597) 2 0) (z + 597) 3 (nI (ch + 1))) (z + 599) 8 0) := Sg_setI sB.1 (Or.inr rfl)
  have sAC : Sg z (fun x => x = z + 597 ∨ x = z + 599) 0 S11 (setI (setI (setI S11 (z + 597) 2 0) (z + 597) 3 (nI (ch + 1))) (z + 599) 8 0) := by have := Sg_trans (Sg_trans sA sB) sC; exact this
  have r1 : cI (setI (setI (setI S11 (z + 597) 2 0) (z + 597) 3 (nI (ch + 1))) (z + 599) 8 0) (z + 597) 1 = cI S (z + 597) 1 := by rw [cI_set, if_neg (by omega), cI_set, if_neg (by omega), cI_set, if_neg (by omega), f3]
  have r2 : cI (setI (setI (setI S11 (z + 597) 2 0) (z + 597) 3 (nI (ch + 1))) (z + 599) 8 0) (z + 597) 2 = 0 := by rw [cI_set, if_neg (by omega), cI_set, if_neg (by omega), cI_self]
  have r3 : cI (setI (setI (setI S11 (z + 597) 2 0) (z + 597) 3 (nI (ch + 1))) (z + 599) 8 0) (z + 597) 3 = nI (ch + 1) := by rw [cI_set, if_neg (by omega), cI_self]
  have r8 : cI (setI (setI (setI S11 (z + 597) 2 0) (z + 597) 3 (nI (ch + 1))) (z + 599) 8 0) (z + 599) 8 = 0 := cI_self _ _ _ _
  have f9 : cI S11 (z + 599) = cI S (z + 599) := fld_Fo hW hT.2.2.2.2.2.1.1 (by omega) s71.2.1 (by omega)
  have r9 : cI (setI (setI (setI S11 (z + 597) 2 0) (z + 597) 3 (nI (ch + 1))) (z + 599) 8 0) (z + 599) 9 = cI S (z + 599) 9 := by rw [cI_set, if_neg (by omega), cI_set, if_neg (by omega), cI_set, if_neg (by omega), f9]
  have hrun : cal S 11 z (f11_beginAsTold S z) = some (setI (setI (setI S11 (z + 597) 2 0) (z + 597) 3 (nI (ch + 1))) (z + 599) 8 0) := by
    rw [cal_k hT.1]
    unfold f11_beginAsTold
    rw [t2, Option.bind_some, gr_k w3.1 w3.2.1.1, Option.bind_some, t0, Option.bind_some, gr_k b0 b2, Option.bind_some, Option.bind_some, gi_k b0, k3, Option.bind_some, e7, Option.bind_some, u3, Option.bind_some, u0, Option.bind_some, gi_k hT7.2.2.1.1, k7.2.1, Option.bind_some, e11, Option.bind_some, v5, Option.bind_some, cal_k g0]
    unfold f2_begin
    rw [pi_k g0, Option.bind_some, gi_k (S := setI S11 (z + 597) 2 0) g0, show cI (setI S11 (z + 597) 2 0) (z + 597) 3 = nI ch from by rw [cI_set, if_neg (by omega), f3]; exact hc.1, Option.bind_some, nI_1, pi_I g0, Option.bind_some, Option.bind_some]
    have hTB := TpS_Sg s71.1 hT11 (Sg_trans sA sB)
    rw [(TpS_g hTB).2.2.2.2.2.2.1, Option.bind_some, pi_k hTB.2.2.2.2.2.1.1, Option.bind_some]
  generalize setI (setI (setI S11 (z + 597) 2 0) (z + 597) 3 (nI (ch + 1))) (z + 599) 8 0 = S15 at *
  have sF : Sg z (fun x => x = z + 23 ∨ (z + 227 ≤ x ∧ x < z + 412) ∨ x = z + 597 ∨ x = z + 599) 0 S S15 := by
    have := Sg_trans (Sg_mono hW s71 (H' := fun x => x = z + 23 ∨ (z + 227 ≤ x ∧ x < z + 412) ∨ x = z + 597 ∨ x = z + 599) (fun x hx => by omega) (Nat.le_refl _)) (Sg_mono s71.1 sAC (H' := fun x => x = z + 23 ∨ (z + 227 ≤ x ∧ x < z + 412) ∨ x = z + 597 ∨ x = z + 599) (fun x hx => by omega) (Nat.le_refl _))
    exact this
  have nk : ∀ j k, j < 20 → K j = some k → ∀ x, k ≤ x → x < k + 185 → ¬ (x = z + 23 ∨ (z + 227 ≤ x ∧ x < z + 412) ∨ x = z + 597 ∨ x = z + 599) := fun j k hj hkj x x1 x2 => by have := K_lo hk hj hkj; omega
  have hst : cI S15 (z + 599) 9 ≠ nI (ch + 1) := by rw [r9]; exact ch_new hch hc.2.2.2
  refine ⟨S15, hrun, ⟨sF.1, TpS_Sg hW hT sF, ?_, ?_, ⟨Wv_Sg hW w1 sF, ?_, RwS_Sg hW w3 sF (by omega), ?_, ⟨Nat.zero_le _, fun j o ho => by
      have ho' : ([] : List (Nat × List Int32))[j]? = some o := ho
      simp at ho'⟩⟩, WdC_Sg s71.1 wd11 sAC (fun x x1 x2 => by omega), AhC_Sg hW ha sF (fun x x1 x2 => by omega), KpC_Sg hW hT hk sF (by omega) nk, ⟨hh.1, by rw [r1]; exact hh.2.1, by rw [r2]; rfl, fun j W1 hj => by
      have hj' : ([] : List Wd)[j]? = some W1 := hj
      simp at hj'⟩, ⟨r3, ⟨by rw [r8]; rfl, fun j hj => absurd hj (Nat.not_lt_zero _), fun j hj => absurd hj (Nat.not_lt_zero _)⟩, fun hh => absurd hh hst, ?_⟩⟩, hst, TSt_Sg hW hT ht sF (by omega), Cst_of sF⟩
  · have := TpT_Sg hW hT hTp sF (by omega)
    unfold TpT at this ⊢
    have hta : aTape A = [] := by show A.1.1 = []; rw [hA]
    rw [hta] at this
    exact this
  · have := TpF_Sg hW hT hTf sF (by omega)
    unfold TpF at this ⊢
    have h1 : aFk A = 0 := by show A.1.2.1 = 0; rw [hA]
    have h2 : aFp A = -1 := by show A.1.2.2.1 = -1; rw [hA]
    rw [h1, h2] at this
    exact this
  · obtain ⟨l, hl⟩ := w2
    exact ⟨l, OpL_Fo hW hl sF.2.1 (by omega)⟩
  · exact TxL_Fo s7.1 tx7 ((Sg_trans (Sg_mono s7.1 s11 (H' := fun x => (z + 227 ≤ x ∧ x < z + 412) ∨ x = z + 597 ∨ x = z + 599) (fun x hx => by omega) (Nat.le_refl _)) (Sg_mono s71.1 sAC (H' := fun x => (z + 227 ≤ x ∧ x < z + 412) ∨ x = z + 597 ∨ x = z + 599) (fun x hx => by omega) (Nat.le_refl _))).2.1) (by omega)
  · rw [r9]
    rcases hc.2.2.2 with hc4 | ⟨c', q1, q2⟩
    · exact Or.inl hc4
    · exact Or.inr ⟨c', by omega, q2⟩
end TE
