/-! ===== PART II, the class: a tick: what it costs, what passes ===== -/
abbrev Hq (w g r : Nat) : Nat → Prop := fun x => (w ≤ x ∧ x < w + 185) ∨ (g ≤ x ∧ x < g + 16) ∨ x = r ∨ (r + 5 ≤ x ∧ x < r + 205)
/-- how dear it is to take an operation -/
def wgt : Option (List Int32) → Nat
  | none => 0
  | some p => min 240 (2 * (putsL p + cutsN p) + 1)
def phE (E : Ed) : Nat := (if (eLft E).isSome then wgt (ePnd E) else 0) + wgt (eBuf E)
def phi (cnt : Nat) (W : Wd) : Nat := sumN (fun i => phE (wE W i)) cnt
theorem phi_set {cnt e : Nat} {W : Wd} {E : Ed} (h : phE E ≤ phE (wE W e)) : phi cnt (setE W e E) ≤ phi cnt W := by
  refine sumN_le (fun i _ => ?_)
  by_cases hi : i = e
  · rw [hi, setE_self]; exact h
  · rw [setE_ne _ _ hi]; exact Nat.le_refl _
theorem phi_take {cnt ties e k : Nat} {W : Wd} {p : List Int32} (he : e < cnt) (hp : ePnd (wE W e) = some p) (hl : eLft (wE W e) = some k) : wgt (some p) + phi cnt (takeW ties cnt e W) ≤ phi cnt W := by
  have hx : ∀ i, i < cnt → wE (takeW ties cnt e W) i = tkE W e i := fun i hi => by
    show (if i < cnt then tkE W e i else wE W i) = _
    rw [if_pos hi]
  have h1 : phi cnt (takeW ties cnt e W) = sumN (fun i => phE (tkE W e i)) cnt := sumN_congr (fun i hi => by rw [hx i hi])
  have h2 := sumN_dec (f := fun i => phE (wE W i)) (g := fun i => phE (tkE W e i)) (d := wgt (some p)) (e := e) (cnt := cnt) he (fun j hj => by
    unfold tkE
    rw [if_neg hj]
    rfl) (by
    unfold tkE
    rw [if_pos rfl]
    show phE (sLft (wE W e) none) + wgt (some p) = phE (wE W e)
    unfold phE
    rw [hl, hp]
    show (if (none : Option Nat).isSome then _ else 0) + wgt (eBuf (wE W e)) + _ = _
    rw [if_neg (by decide), if_pos (by rfl)]
    omega)
  unfold phi
  rw [show sumN (fun i => phE (wE (takeW ties cnt e W) i)) cnt = _ from h1]
  omega
theorem wgt_turn {ah : Bool} {A B : List Int32} (hA : okO A) (hB : okO B) (ho : oldL A = oldL B) : wgt (some (turnC ah A B)) ≤ wgt (some A) := by
  obtain ⟨t1, t2, t3, t4, t5, t6, t7, t8, t9⟩ := turn_ok (ah := ah) hA hB ho
  simp only [wgt]
  omega
theorem phE_comes {cnt ties tl e : Nat} {W : Wd} {o : Nat × List Int32} (hg : Good cnt ties tl W) (he : e < cnt) (ho : (wRow W)[eRev (wE W e)]? = some o) : phE (comesE ties e o (wE W e)) ≤ phE (wE W e) := by
  unfold comesE
  by_cases hne : o.1 = e
  · rw [if_pos hne]
    have key : ∀ F : Ed, phE (ownE F) ≤ phE F := fun F => by
      unfold ownE
      cases hb : eBuf F with
      | none =>
        show (if (eLft F).isSome then wgt none else 0) + wgt (eBuf F) ≤ phE F
        unfold phE
        rw [hb]
        simp only [wgt]
        split <;> omega
      | some q =>
        show (if (some (eDel F)).isSome then wgt (some q) else 0) + wgt none ≤ phE F
        unfold phE
        rw [hb, if_pos (by rfl)]
        show wgt (some q) + 0 ≤ _
        omega
    exact key _
  · rw [if_neg hne]
    obtain ⟨⟨b1, b2, b3, b4, b5, b6, b7⟩, _⟩ := com_B hg he ho hne
    show (if (eLft (wE W e)).isSome then wgt (pB (ePnd (wE W e)) (aheadB ties e o.1) o.2).1 else 0) + wgt (pB (eBuf (wE W e)) (aheadB ties e o.1) (pB (ePnd (wE W e)) (aheadB ties e o.1) o.2).2).1 ≤ _
    have w1 : wgt (pB (ePnd (wE W e)) (aheadB ties e o.1) o.2).1 ≤ wgt (ePnd (wE W e)) := by
      cases hp : ePnd (wE W e) with
      | none => exact Nat.le_refl _
      | some p => obtain ⟨q1, q2, q3⟩ := b2 p hp; exact wgt_turn q1 b1 q2
    have w2 : ∀ B : List Int32, okO B → (∀ q, eBuf (wE W e) = some q → okO q ∧ oldL q = oldL B) → wgt (pB (eBuf (wE W e)) (aheadB ties e o.1) B).1 ≤ wgt (eBuf (wE W e)) := fun B hB hq => by
      cases hp : eBuf (wE W e) with
      | none => exact Nat.le_refl _
      | some p => obtain ⟨q1, q2⟩ := hq p hp; exact wgt_turn q1 hB q2
    have w3 := w2 _ b3 (fun q hq => ⟨(b5 q hq).1, (b5 q hq).2.1⟩)
    unfold phE
    split <;> omega
/-- weights of a world's operations -/
def ClsW (z g r w : Nat) (wh : Bool) : Prop := ClsG z g ∧ ClsR z g r ∧ r = g + 16 ∧ r + 205 ≤ w ∧ ∀ i, i < 4 → ClsE z g (w + 5 + 45 * i) ∧ (∀ m, cpc z (w + 5 + 45 * i + 3) m m) ∧ (∀ m, cpc z (w + 5 + 45 * i + 5) m m) ∧ (wh = true → Cls z g (w + 5 + 45 * i + 7) ∧ Cls z g (w + 5 + 45 * i + 25) ∧ ∀ h, w + 5 + 45 * i + 9 ≤ h → h ≤ w + 5 + 45 * i + 41 → grw z h)
/-- one editor is another -/
theorem WdC_set {z c : Nat} {H : Nat → Prop} {S S' : CS} {w r g cnt ties i : Nat} {told : List Int32} {W : Wd} {E : Ed} {wh : Bool} (hW : Wf S) (hC : WdC S w r g cnt ties told W wh) (hcnt : cnt ≤ 4) (hi : i < cnt) (hs : Sg z H c S S') (hH : ∀ x, w ≤ x → x < w + 185 → H x → w + 5 + 45 * i ≤ x ∧ x < w + 5 + 45 * i + 45) (hE : EdW S' (w + 5 + 45 * i) (wRow W).length E wh) : WdC S' w r g cnt ties told (setE W i E) wh := by
  obtain ⟨h1, h2, h3, h4, h5, h6⟩ := hC
  have nw : ¬ H w := fun h => by have := hH w (by omega) (by omega) h; omega
  have nw1 : ¬ H (w + 1) := fun h => by have := hH (w + 1) (by omega) (by omega) h; omega
  have hi2 := fld_Fo hW h1.1 (by omega) hs.2.1 nw
  have ha := arr_Fo hW h1.2.1.2.2.2.2 h1.2.2.2.2.1.1 hs.2.1 nw
  refine ⟨WdS_Sg hW h1 hs, by unfold WdN; rw [hi2]; exact h2, by rw [hi2]; exact h3, TxL_Fo hW h4 hs.2.1 nw1, fun j hj => by rw [ha]; exact h5 j hj, fun j hj => ?_⟩
  by_cases hji : j = i
  · subst hji
    refine ⟨EdW_J hE, fun _ => ?_⟩
    rw [setE_self]; exact hE
  · obtain ⟨h7, h8⟩ := h6 j hj
    have nx : ∀ x, w + 5 + 45 * j ≤ x → x < w + 5 + 45 * j + 45 → ¬ H x := fun x x1 x2 h => by have := hH x (by omega) (by omega) h; omega
    refine ⟨EdJ_Sg hW h7 hs (fun x hx => nx x (by omega) (by omega)), fun hjc => ?_⟩
    rw [setE_ne _ _ hji]
    exact EdW_Sg hW (h8 hjc) hs nx
/-- a step of a world -/
def StW (z : Nat) (S : CS) (w r g cnt ties : Nat) (told : List Int32) (W W' : Wd) (wh : Bool) (o : Option CS) : Prop :=
  ∃ S' c', o = some S' ∧ ShC S' g r told (wRow W') ∧ WdC S' w r g cnt ties told W' wh ∧ Good cnt ties told.length W' ∧ c' + phi cnt W' ≤ phi cnt W ∧ Sg z (Hq w g r) c' S S'
theorem StW_end {z : Nat} {S : CS} {w r g cnt ties : Nat} {told : List Int32} {W : Wd} {wh : Bool} (hW : Wf S) (hsh : ShC S g r told (wRow W)) (hC : WdC S w r g cnt ties told W wh) (hg : Good cnt ties told.length W) : StW z S w r g cnt ties told W W wh (some S) :=
  ⟨S, 0, rfl, hsh, hC, hg, by omega, Sg_refl hW⟩
theorem StW_bind {z : Nat} {X : Nat × Nat} {S : CS} {w r g cnt ties c : Nat} {told : List Int32} {W W1 W2 : Wd} {wh : Bool} {o : Option CS} {f : CS → Option CS} (hR : Rm z X (phi cnt W + c) S) (h1 : StW z S w r g cnt ties told W W1 wh o) (h2 : ∀ S', Wf S' → Rm z X (phi cnt W1 + c) S' → ShC S' g r told (wRow W1) → WdC S' w r g cnt ties told W1 wh → Good cnt ties told.length W1 → StW z S' w r g cnt ties told W1 W2 wh (f S')) : StW z S w r g cnt ties told W W2 wh (o.bind f) := by
  obtain ⟨S1, c1, e1, a1, a2, a3, a4, a5⟩ := h1
  obtain ⟨S2, c2, e2, b1, b2, b3, b4, b5⟩ := h2 S1 a5.1 (Rm_step (c := c1) (d := phi cnt W1 + c) (Rm_mono hR (by omega)) a5) a1 a2 a3
  exact ⟨S2, c1 + c2, by rw [e1]; exact e2, b1, b2, b3, by omega, Sg_trans a5 b5⟩
theorem Hq_r {w g r e : Nat} (h1 : w + 5 ≤ e) (h2 : e + 45 ≤ w + 185) : ∀ x, Hr g e x → Hq w g r x := fun x hx => by
  rcases hx with h | h
  · exact Or.inl (by omega)
  · exact Or.inr (Or.inl h)
section TK
variable {z : Nat} {X : Nat × Nat} {w r g cnt ties : Nat} {told : List Int32} {wh : Bool}
theorem pass_step {S : CS} {W : Wd} {i : Nat} (hk : ClsW z g r w wh) (hW : Wf S) (hsh : ShC S g r told (wRow W)) (hC : WdC S w r g cnt ties told W wh) (hg : Good cnt ties told.length W) (hi : i < cnt) : StW z S w r g cnt ties told W (pStep i W) wh ((gi S 1 (w + 5 + 45 * i) 14).bind fun v4 => (if v4 = 0 then (some S) else ((gr S 10 w 3).bind fun a7 => (ldr S 16 a7 (nI i)).bind fun a8 => (gi S 10 w 11).bind fun v9 => (cal S 1 a8 (f1_passTick S a8 v9)).bind fun S10 => some S10)).bind fun S5 => some S5) := by
  obtain ⟨hS, hN, h5, hT, hF, hE⟩ := id hC
  have hc4 := hg.1
  have hl := row_le hg
  have hEi := (hE i (by omega)).2 hi
  have hrg := hk.2.2.1
  have hwr := hk.2.2.2.1
  obtain ⟨o1, o2, o3, o4, -⟩ := hg.2.2.2.2.2.2.2.2 i hi
  rw [gi_k hEi.1.1.1, hEi.1.2.1.2.2.2.2.2, Option.bind_some]
  cases hon : eOn (wE W i) with
  | false =>
    rw [if_pos (show bI false = 0 from rfl), Option.bind_some]
    have hp : pStep i W = setE W i (wE W i) := by unfold pStep passE; rw [hon]; rfl
    have hC' : WdC S w r g cnt ties told (setE W i (wE W i)) wh := WdC_set (z := z) (H := fun _ => False) (c := 0) hW hC hc4 hi (Sg_refl hW) (fun x _ _ h => h.elim) hEi
    have hg' := Good_pass hg hi
    rw [hp] at hg' ⊢
    exact ⟨S, 0, rfl, hsh, hC', hg', by have := phi_set (cnt := cnt) (W := W) (e := i) (Nat.le_refl (phE (wE W i))); omega, Sg_refl hW⟩
  | true =>
    rw [if_neg (show ¬ bI true = 0 by decide), gr_k hS.1 hS.2.1.2.2.2.1, Option.bind_some, ed_at hS (show i < 4 by omega), Option.bind_some, gi_k hS.1, hN.2.2.2.2.2, Option.bind_some, cal_k hEi.1.1.1]
    obtain ⟨S', e1, l1, k1, a1, s1⟩ := passTick_E (z := z) hW hEi.1 hl o1 o4 o3 hon
    rw [e1, Option.bind_some, Option.bind_some]
    have hEW : EdW S' (w + 5 + 45 * i) (wRow W).length (passE (wRow W).length (wE W i)) wh := by
      refine ⟨l1, fun hw => ?_⟩
      obtain ⟨t1, m1, m2, m3⟩ := hEi.2 hw
      have hpe : passE (wRow W).length (wE W i) = sCom (sLft (wE W i) ((eLft (wE W i)).map fun k => k - 1)) (fun k => if eRev (wE W i) ≤ k ∧ k < (wRow W).length then eCom (wE W i) k - 1 else eCom (wE W i) k) := by unfold passE; rw [hon]; rfl
      rw [hpe]
      exact ⟨EdT_Sg hW t1 s1 (fun x hx => by omega), by rw [k1 7 (by omega)]; exact m1, by rw [k1 9 (by omega)]; exact m2, by rw [a1]; exact m3⟩
    refine ⟨S', 0, rfl, ShC_Sg hW hsh s1 (by omega) (fun x x1 x2 => by omega), WdC_set hW hC hc4 hi s1 (fun x x1 x2 h => by omega) hEW, Good_pass hg hi, ?_, Sg_mono hW s1 (fun x hx => Or.inl (by omega)) (Nat.le_refl 0)⟩
    rw [Nat.zero_add]
    refine phi_set ?_
    unfold passE phE
    rw [if_pos hon]
    show (if ((eLft (wE W i)).map fun k => k - 1).isSome then wgt (ePnd (wE W i)) else 0) + wgt (eBuf (wE W i)) ≤ _
    rw [Option.isSome_map]
    exact Nat.le_refl _
theorem pass_C (hk : ClsW z g r w wh) {W : Wd} {c : Nat} : ∀ (d j n : Nat) (S : CS), j + d = cnt → d < n → Wf S → Rm z X (phi cnt (itN pStep j W) + c) S → ShC S g r told (wRow (itN pStep j W)) → WdC S w r g cnt ties told (itN pStep j W) wh → Good cnt ties told.length (itN pStep j W) →
    StW z S w r g cnt ties told (itN pStep j W) (itN pStep cnt W) wh (LX10_runTick_2 w n (nI j) S) := by
  intro d
  induction d with
  | zero =>
    intro j n S hj hn hW hR hsh hC hg
    obtain ⟨n, rfl⟩ : ∃ k, n = k + 1 := ⟨n - 1, by omega⟩
    have hc4 := hg.1
    unfold LX10_runTick_2
    rw [gi_k hC.1.1, hC.2.1.1, Option.bind_some, if_pos (nI_le (by omega) (by omega)), show j = cnt by omega]
    rw [show j = cnt by omega] at hsh hC hg
    exact StW_end hW hsh hC hg
  | succ d ih =>
    intro j n S hj hn hW hR hsh hC hg
    obtain ⟨n, rfl⟩ : ∃ k, n = k + 1 := ⟨n - 1, by omega⟩
    have hc4 := hg.1
    unfold LX10_runTick_2
    rw [gi_k hC.1.1, hC.2.1.1, Option.bind_some, if_neg (nI_ge (by omega) (by omega)), gr_k hC.1.1 hC.1.2.1.2.2.2.1, Option.bind_some, ed_at hC.1 (show j < 4 by omega), Option.bind_some, nI_1]
    have h1 := pass_step (z := z) (i := j) hk hW hsh hC hg (by omega)
    have := StW_bind (X := X) (c := c) (f := fun S5 => LX10_runTick_2 w n (nI (j + 1)) S5) hR h1 (fun S' hW' hR' a1 a2 a3 => ih (j + 1) n S' (by omega) (by omega) hW' hR' a1 a2 a3)
    simp only [Option.bind_assoc, Option.bind_some, gr_k hC.1.1 hC.1.2.1.2.2.2.1] at this ⊢
    exact this
end TK
