/-! ===== PART II, the class: bounds out of what holds ===== -/
theorem row_len {cnt ties tl i : Nat} {W : Wd} {o : Nat × List Int32} (hg : Good cnt ties tl W) (ho : (wRow W)[i]? = some o) : okO o.2 ∧ o.1 < cnt ∧ o.2.length ≤ 240 ∧ newL o.2 ≤ 240 := by
  obtain ⟨g1, g2, g3, g4, g5, g6, g7, g8, g9⟩ := hg
  obtain ⟨o1, o2, o3, o4, o5⟩ := chR_get g6 ho
  have l0 := lenA_le g6 i
  have l1 := lenA_le g6 (i + 1)
  have cl := cnt_len o1
  exact ⟨o1, o2, by omega, by omega⟩
/-- what comes is within its bounds -/
theorem com_B {cnt ties tl e : Nat} {W : Wd} {o : Nat × List Int32} (hg : Good cnt ties tl W) (he : e < cnt) (ho : (wRow W)[eRev (wE W e)]? = some o) (hne : o.1 ≠ e) : comB (aheadB ties e o.1) o.2 (wE W e) ∧ comX (pB (eBuf (wE W e)) (aheadB ties e o.1) (pB (ePnd (wE W e)) (aheadB ties e o.1) o.2).2).2 (wE W e) := by
  obtain ⟨⟨k1, k2, k3, k4, k5, k6, k7, k8, k9, ka, kb, kc, kd', ke, kf, kg⟩, _⟩ := com_all hg he ho hne
  have hbd := Good_Bd hg he
  have hg0 := hg
  obtain ⟨g1, g2, g3, g4, g5, g6, g7, g8, g9⟩ := hg
  obtain ⟨o1, o2, o3, o4, o5⟩ := chR_get g6 ho
  obtain ⟨e1, e2, e3, e4, e5, e6, e7, e8, e9, e10, e11, e12, e13, e14, e15, e16, e17, e18, e19⟩ := g9 e he
  have l0 := lenA_le g6 (eRev (wE W e))
  have l1 := lenA_le g6 (eRev (wE W e) + 1)
  have clo := cnt_len o1
  generalize hah : aheadB ties e o.1 = ah at *
  have c2 := cnt_len k6
  refine ⟨⟨o1, fun p hp => ?_, k4, ?_, fun q hq => ?_, k6, by omega⟩, k8, k9, ka, kb, kc, kd', hbd.2.1, hbd.2.2.1, hbd.2.2.2.1⟩
  · obtain ⟨a1, a2, a3, a4⟩ := pnd_cnt hg0 he hp
    have a5 := a4 o ho hne
    exact ⟨a1, by omega, by omega⟩
  · cases hp : ePnd (wE W e) with
    | none => show o.2.length ≤ 240; omega
    | some p =>
      obtain ⟨a1, a2, a3, a4⟩ := pnd_cnt hg0 he hp
      have a5 := a4 o ho hne
      have cp := cnt_len a1
      show (turnD ah p o.2).length ≤ 240
      rw [(turn_len a1 o1 (by omega)).2]
      omega
  · obtain ⟨q1, q2, q3⟩ := k5 q hq
    refine ⟨q1, q2, ?_⟩
    cases hp : ePnd (wE W e) with
    | none => rw [hp, hq] at e6; exact e6.elim
    | some p =>
      obtain ⟨a1, a2, a3, a4⟩ := pnd_cnt hg0 he hp
      have a5 := a4 o ho hne
      have cp := cnt_len a1
      rw [hq] at a5
      have a6 : putsR ((wRow W).take (eRev (wE W e))) + putsL o.2 + putsL p + putsL q ≤ wPu W := a5
      obtain ⟨t1, t2, t3, t4, t5, t6, t7, t8, t9⟩ := turn_ok (ah := ah) a1 o1 (by omega)
      have ct := cnt_len t2
      show newL (turnD ah p o.2) + putsL q ≤ 240
      omega
/-- two lengths go on, perhaps changed for each other -/
def lpR (a b a' b' : Nat) : Prop := (a ≤ a' ∧ b ≤ b') ∨ (a ≤ b' ∧ b ≤ a')
theorem lpR_rf (a b : Nat) : lpR a b a b := Or.inl ⟨Nat.le_refl _, Nat.le_refl _⟩
theorem lpR_tr {a b c d e f : Nat} (h1 : lpR a b c d) (h2 : lpR c d e f) : lpR a b e f := by unfold lpR at *; omega
/-- what an editor sent is turned over the row -/
theorem tk_loop {z : Nat} {X : Nat × Nat} {w r g cnt ties e nx c2 c : Nat} {row : List (Nat × List Int32)} (hcl : ClsG z g) (hrg : r = g + 16) (hnx : nx = r + 5 + 2 * row.length) (hwr : r + 205 ≤ w) (hwx : wt z nx = wt z (g + 7)) (hcnt : cnt ≤ 4) (hties : ties ≤ 2) (he : e < 4) (hl100 : row.length < 100) :
    ∀ (d i n : Nat) (S : CS) (A : List Int32) (N : Nat), i + d = row.length → d < n → Wf S → Rm z X c S → Wv S g → WdS S w r g → RwS S r → RwM S r row → cI S w 7 = nI ties → cI S w 11 = nI row.length → OpL S nx A → okO A → oldL A = N → chR cnt N (row.drop i) → N + putsL A + putsR (row.drop i) ≤ 240 → (∃ l, OpL S (g + 9) l) →
    ∃ S', LX10_takeFrom_58 X w (nI e) c2 nx n (nI i) S = some S' ∧ OpL S' nx (foldT ties e (row.drop i) A) ∧ (∃ l, OpL S' (g + 9) l) ∧ lpR (lenO S nx) (lenO S (g + 7)) (lenO S' nx) (lenO S' (g + 7)) ∧ Sg z (fun x => x = nx ∨ x = g + 12 ∨ Hw g x) 0 S S' := by
  intro d
  induction d with
  | zero =>
    intro i n S A N hi hn hW hR hw hS hRw hRM ht h11 hO hok ho hch hsum hob
    obtain ⟨n, rfl⟩ : ∃ j, n = j + 1 := ⟨n - 1, by omega⟩
    unfold LX10_takeFrom_58
    rw [gi_k hS.1, h11, Option.bind_some, if_pos (nI_le (by omega) (by omega)), List.drop_eq_nil_of_le (by omega)]
    exact ⟨S, rfl, hO, hob, lpR_rf _ _, Sg_refl hW⟩
  | succ d ih =>
    intro i n S A N hi hn hW hR hw hS hRw hRM ht h11 hO hok ho hch hsum hob
    obtain ⟨n, rfl⟩ : ∃ j, n = j + 1 := ⟨n - 1, by omega⟩
    have hil : i < row.length := by omega
    have hge := List.getElem?_eq_getElem hil
    generalize row[i] = o at hge
    have hdr : row.drop i = o :: row.drop (i + 1) := (drop_get hge).1
    rw [hdr] at hch hsum
    rw [putsR] at hsum
    obtain ⟨c1, c2', c3, c4⟩ := hch
    obtain ⟨hro, hrow⟩ := hRM.2 _ _ hge
    have clo := cnt_len c1
    have k12 : kd S (g + 12) = 4 := hw.2.2.2.2.2.2.2.2.2.2.2.1
    obtain ⟨lb, hob⟩ := hob
    unfold LX10_takeFrom_58
    rw [gi_k hS.1, h11, Option.bind_some, if_neg (nI_ge hil (by omega)), gr_k hS.1 hS.2.1.2.1, Option.bind_some, gr_k hw.1 hw.2.2.2.2.2.1, Option.bind_some, gr_k hS.1 hS.2.1.1, Option.bind_some, gr_k hRw.1 hRw.2.1.2.1, Option.bind_some, ldr_k hRw.2.2.2.1.1 (by have := hRw.2.2.2.1.2; omega) (by have := hRw.2.2.2.1.2; omega) (hRw.2.2.2.2.2 i (by omega)).1, Option.bind_some, cal_k k12]
    obtain ⟨RB, hRB, dRB⟩ := hro
    have lRB := len_dec hRB.1
    rw [dRB] at lRB
    obtain ⟨S7, e7, o7, c7⟩ := copy_R (z := z) hW hR k12 hRB (by omega) (hcl.2.2.2.2.1 RB.length (by omega))
    have s7 : Sg z (fun x => x = g + 12) 0 S S7 := c7.elim (fun h => h.2) (fun h => h.2.2)
    have hw7 := Wv_Sg hW hw s7
    have hS7 := WdS_Sg hW hS s7
    have hRw7 := RwS_Sg hW hRw s7 (by omega)
    have hRM7 := RwM_Sg hW hRw hRM s7 (by omega) (fun j hj => by omega)
    have iw7 : cI S7 w = cI S w := fld_Fo hW hS.1 (by omega) s7.2.1 (show ¬ w = g + 12 by omega)
    have hO7 := OpL_Fo hW hO s7.2.1 (show ¬ nx = g + 12 by omega)
    have ln7 := lenO_Fo hW (OpL_kd hO) s7.2.1 (show ¬ nx = g + 12 by omega)
    have lg7 := lenO_Fo hW hw.2.2.2.2.2.2.2.2.2.1 s7.2.1 (show ¬ g + 7 = g + 12 by omega)
    have ob7 := OpL_Fo hW hob s7.2.1 (show ¬ g + 9 = g + 12 by omega)
    rw [e7, Option.bind_some, gr_k hS7.1 hS7.2.1.2.1, Option.bind_some, Option.bind_some, gr_k hw7.1 hw7.2.2.2.2.2.1, Option.bind_some, gr_k hS7.1 hS7.2.1.1, Option.bind_some, gr_k hRw7.1 hRw7.2.1.2.2, Option.bind_some, ldi_k hRw7.2.2.2.2.1.1 (by have := hRw7.2.2.2.2.1.2; omega) (by have := hRw7.2.2.2.2.1.2; omega), (hRM7.2 _ _ hge).2, Option.bind_some, cal_k hS7.1, isAhead_W hS7 (by rw [iw7]; exact ht) hties (by omega) (by omega), Option.bind_some, cal_k hw7.1]
    have hR7 := Rm_step (c := 0) (d := c) (by rw [Nat.zero_add]; exact hR) s7
    have cA := cnt_len hok
    obtain ⟨S15, e15, p15, q15, s15, l15, ob15⟩ := turn_L (z := z) (X := X) (ah := aheadB ties e o.1) s7.1 hR7 hw7 hcl.1 hcl.2.1 hwx hcl.2.2.1 hO7 ⟨RB, o7, dRB⟩ (by omega) ⟨by omega, by omega, by omega, by omega⟩ (by omega) (by omega) (by omega)
    have nH : ∀ x, r ≤ x → x ≠ nx → ¬ (x = nx ∨ x = g + 12 ∨ Hw g x) := fun x h1 h2 h => by
      rcases h with h | h | h | h | h | h <;> omega
    obtain ⟨t1, t2, t3, t4, t5, t6, t7, t8, t9⟩ := turn_ok (ah := aheadB ties e o.1) hok c1 (by omega)
    have clo2 := cnt_len t1
    rw [e15, Option.bind_some, nI_1]
    have iw15 : cI S15 w = cI S w := by rw [fld_Fo s7.1 hS7.1 (by omega) s15.2.1 (nH w (by omega) (by omega)), iw7]
    obtain ⟨S', f1, f2, f3, f4, f5⟩ := ih (i + 1) n S15 (turnC (aheadB ties e o.1) A o.2) (newL o.2) (by omega) (by omega) s15.1 (Rm_step (c := 0) (d := c) (by rw [Nat.zero_add]; exact hR7) s15) (Wv_Sg s7.1 hw7 s15) (WdS_Sg s7.1 hS7 s15) (RwS_Sg s7.1 hRw7 s15 (nH _ (by omega) (by omega))) (RwM_Sg s7.1 hRw7 hRM7 s15 (nH _ (by omega) (by omega)) (fun j hj => nH _ (by omega) (by omega))) (by rw [iw15]; exact ht) (by rw [iw15]; exact h11) p15 t1 t3 c4 (by omega) ob15
    rw [f1, hdr, foldT]
    refine ⟨S', rfl, f2, f3, lpR_tr ?_ f4, Sg_trans (Sg_trans (Sg_mono hW s7 (fun x hx => Or.inr (Or.inl hx)) (Nat.le_refl 0)) s15) f5⟩
    rw [ln7, lg7] at l15
    exact Or.inr ⟨by omega, by omega⟩
