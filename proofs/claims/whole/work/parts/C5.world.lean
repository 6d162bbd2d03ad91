/-! ===== PART II, the class: a world and all that it has ===== -/
def EdJ (S : CS) (e : Nat) (whole : Bool) : Prop := OpS S (e + 3) none ∧ OpS S (e + 5) none ∧ (whole = true → (∃ hs, InvS S (e + 7) hs) ∧ ∃ hs, InvS S (e + 25) hs)
def EdW (S : CS) (e n : Nat) (E : Ed) (whole : Bool) : Prop := EdLn S e n E ∧ (whole = true → EdT S e E ∧ EdM S e E)
theorem EdJ_Sg {z c : Nat} {H : Nat → Prop} {S S' : CS} {e : Nat} {wh : Bool} (hW : Wf S) (h : EdJ S e wh) (hs : Sg z H c S S') (hn : ∀ x, x = e + 3 ∨ x = e + 5 ∨ (e + 7 ≤ x ∧ x < e + 43) → ¬ H x) : EdJ S' e wh := by
  obtain ⟨h1, h2, h3⟩ := h
  refine ⟨OpS_Fo hW h1 hs.2.1 (hn _ (by omega)), OpS_Fo hW h2 hs.2.1 (hn _ (by omega)), fun hw => ?_⟩
  obtain ⟨⟨a, ha⟩, ⟨b, hb⟩⟩ := h3 hw
  exact ⟨⟨a, InvS_Sg hW ha hs (hn _ (by omega))⟩, ⟨b, InvS_Sg hW hb hs (hn _ (by omega))⟩⟩
theorem EdW_Sg {z c : Nat} {H : Nat → Prop} {S S' : CS} {e n : Nat} {E : Ed} {wh : Bool} (hW : Wf S) (h : EdW S e n E wh) (hs : Sg z H c S S') (hn : ∀ x, e ≤ x → x < e + 45 → ¬ H x) : EdW S' e n E wh := by
  obtain ⟨h1, h2⟩ := h
  refine ⟨EdLn_Sg hW h1 hs (hn _ (by omega) (by omega)) (hn _ (by omega) (by omega)) (hn _ (by omega) (by omega)), fun hw => ?_⟩
  obtain ⟨h3, h4⟩ := h2 hw
  exact ⟨EdT_Sg hW h3 hs (fun x hx => hn x (by omega) (by omega)), EdM_Sg hW h1.1 h4 hs (hn _ (by omega) (by omega))⟩
theorem EdW_J {S : CS} {e n : Nat} {E : Ed} {wh : Bool} (h : EdW S e n E wh) : EdJ S e wh := by
  obtain ⟨⟨a1, a2, a3, a4, a5⟩, h2⟩ := h
  refine ⟨OpS_none a4, OpS_none a5, fun hw => ?_⟩
  obtain ⟨⟨_, ⟨hs, i1, _⟩, ⟨ks, j1, _⟩⟩, _⟩ := h2 hw
  exact ⟨⟨hs, i1⟩, ⟨ks, j1⟩⟩
/-- how many letters of others an editor has cut at the server -/
def forN (tl : Nat) (row : List (Nat × List Int32)) (e : Nat) : Nat → Nat
  | 0 => 0
  | n + 1 => forN tl row e n + (match row[n]? with | none => 0 | some o => if o.1 = e then cutF (row.take n) e o.2 (bysR tl (row.take n)) else 0)
def forC (tl : Nat) (row : List (Nat × List Int32)) (e : Nat) : Nat := forN tl row e row.length
theorem forN_app (tl : Nat) (row : List (Nat × List Int32)) (x : Nat × List Int32) (e : Nat) : ∀ n, n ≤ row.length → forN tl (row ++ [x]) e n = forN tl row e n := by
  intro n
  induction n with
  | zero => intro _; rfl
  | succ n ih =>
    intro hn
    rw [forN, forN, ih (by omega), List.getElem?_append_left (by omega), List.take_append_of_le_length (by omega)]
theorem forC_snoc (tl : Nat) (row : List (Nat × List Int32)) (x : Nat × List Int32) (e : Nat) : forC tl (row ++ [x]) e = forC tl row e + (if x.1 = e then cutF row e x.2 (bysR tl row) else 0) := by
  unfold forC
  rw [List.length_append, List.length_singleton, forN, forN_app _ _ _ _ _ (Nat.le_refl _), List.getElem?_append_right (Nat.le_refl _), Nat.sub_self, List.take_append_of_le_length (Nat.le_refl _), List.take_length]
  rfl
def WdC (S : CS) (w r g cnt ties : Nat) (told : List Int32) (W : Wd) (wh : Bool) : Prop :=
  WdS S w r g ∧ WdN S w cnt ties W ∧ cI S w 5 = bI wh ∧ TxL S (w + 1) (srvX told (wRow W)) ∧ (∀ i, i < cnt → cA S (w + 4) i = nI (forC told.length (wRow W) i)) ∧ ∀ i, i < 4 → EdJ S (w + 5 + 45 * i) wh ∧ (i < cnt → EdW S (w + 5 + 45 * i) (wRow W).length (wE W i) wh)
theorem WdC_Sg {z c : Nat} {H : Nat → Prop} {S S' : CS} {w r g cnt ties : Nat} {told : List Int32} {W : Wd} {wh : Bool} (hW : Wf S) (h : WdC S w r g cnt ties told W wh) (hs : Sg z H c S S') (hn : ∀ x, w ≤ x → x < w + 185 → ¬ H x) : WdC S' w r g cnt ties told W wh := by
  obtain ⟨h1, h2, h3, h4, h5, h6⟩ := h
  have hi := fld_Fo hW h1.1 (by omega) hs.2.1 (hn w (by omega) (by omega))
  have ha := arr_Fo hW h1.2.1.2.2.2.2 h1.2.2.2.2.1.1 hs.2.1 (hn w (by omega) (by omega))
  refine ⟨WdS_Sg hW h1 hs, by unfold WdN; rw [hi]; exact h2, by rw [hi]; exact h3, TxL_Fo hW h4 hs.2.1 (hn _ (by omega) (by omega)), fun i hi2 => by rw [ha]; exact h5 i hi2, fun i hi4 => ?_⟩
  obtain ⟨h7, h8⟩ := h6 i hi4
  exact ⟨EdJ_Sg hW h7 hs (fun x hx => hn x (by omega) (by omega)), fun hic => EdW_Sg hW (h8 hic) hs (fun x x1 x2 => hn x (by omega) (by omega))⟩
/-- what worlds share: the weaver, the row -/
def ShC (S : CS) (g r : Nat) (told : List Int32) (row : List (Nat × List Int32)) : Prop := Wv S g ∧ (∃ l, OpL S (g + 9) l) ∧ RwS S r ∧ TxL S (r + 1) told ∧ RwM S r row
theorem ShC_Sg {z c : Nat} {H : Nat → Prop} {S S' : CS} {g r : Nat} {told : List Int32} {row : List (Nat × List Int32)} (hW : Wf S) (h : ShC S g r told row) (hs : Sg z H c S S') (hg : ¬ H (g + 9)) (hn : ∀ x, r ≤ x → x < r + 205 → ¬ H x) : ShC S' g r told row := by
  obtain ⟨h1, ⟨l, h2⟩, h3, h4, h5⟩ := h
  have := h5.1
  exact ⟨Wv_Sg hW h1 hs, ⟨l, OpL_Fo hW h2 hs.2.1 hg⟩, RwS_Sg hW h3 hs (hn _ (by omega) (by omega)), TxL_Fo hW h4 hs.2.1 (hn _ (by omega) (by omega)), RwM_Sg hW h3 h5 hs (hn _ (by omega) (by omega)) (fun i hi => hn _ (by omega) (by omega))⟩
theorem RwM_pre {S : CS} {r : Nat} {s t : List (Nat × List Int32)} (h : RwM S r t) (hp : s <+: t) : RwM S r s := by
  obtain ⟨u, rfl⟩ := hp
  refine ⟨by have := h.1; rw [List.length_append] at this; omega, fun i o hi => h.2 i o ?_⟩
  rw [List.getElem?_append_left (List.getElem?_eq_some_iff.mp hi).1]; exact hi
theorem ShC_pre {S : CS} {g r : Nat} {told : List Int32} {s t : List (Nat × List Int32)} (h : ShC S g r told t) (hp : s <+: t) : ShC S g r told s := ⟨h.1, h.2.1, h.2.2.1, h.2.2.2.1, RwM_pre h.2.2.2.2 hp⟩
/-- the next operation of the row is on its way to an editor -/
theorem EdW_com {z c : Nat} {H : Nat → Prop} {S S' : CS} {e n : Nat} {E : Ed} {wh : Bool} (hW : Wf S) (h : EdW S e n E wh) (hs : Sg z H c S S') (hn : ∀ x, e < x → x < e + 43 → ¬ H x) (hi : cI S' e = cI S e) (h43 : cA S' (e + 43) = cA S (e + 43)) (h44 : cA S' (e + 44) = upd (cA S (e + 44)) n (nI (eDel E))) : EdW S' e (n + 1) (sCom E (fun k => if k = n then eDel E else eCom E k)) wh := by
  obtain ⟨⟨a1, a2, a3, a4, a5⟩, h2⟩ := h
  refine ⟨⟨EdS_Sg hW a1 hs, by unfold EdN; rw [hi]; exact a2, fun i hi2 => ?_, OpS_Fo hW a4 hs.2.1 (hn _ (by omega) (by omega)), OpS_Fo hW a5 hs.2.1 (hn _ (by omega) (by omega))⟩, fun hw => ?_⟩
  · rw [h44]
    show _ = nI (if i = n then eDel E else eCom E i)
    by_cases hin : i = n
    · rw [hin, upd_self, if_pos rfl]
    · rw [upd_ne _ _ hin, if_neg hin]; exact a3 i (by omega)
  · obtain ⟨h3, h4⟩ := h2 hw
    refine ⟨EdT_Sg hW h3 hs (fun x hx => hn x (by omega) (by omega)), ?_⟩
    unfold EdM
    rw [hi, h43]
    exact h4
theorem EdW_lft {z : Nat} {S : CS} {e n : Nat} {E : Ed} {wh : Bool} (hW : Wf S) (h : EdW S e n E wh) : EdW (setI S e 11 (-1)) e n (sLft E none) wh ∧ Sg z (fun x => x = e) 0 S (setI S e 11 (-1)) := by
  have hs : Sg z (fun x => x = e) 0 S (setI S e 11 (-1)) := Sg_setI hW rfl
  obtain ⟨⟨a1, ⟨n8, n10, n11, n12, n13, n14⟩, a3, a4, a5⟩, h2⟩ := h
  have k : ∀ j, j ≠ 11 → cI (setI S e 11 (-1)) e j = cI S e j := fun j hj => by rw [cI_set, if_neg (by omega)]
  refine ⟨⟨⟨EdS_Sg hW a1 hs, ⟨by rw [k 8 (by omega)]; exact n8, by rw [k 10 (by omega)]; exact n10, by rw [cI_self]; rfl, by rw [k 12 (by omega)]; exact n12, by rw [k 13 (by omega)]; exact n13, by rw [k 14 (by omega)]; exact n14⟩, a3, OpS_Fo hW a4 hs.2.1 (show ¬ e + 3 = e by omega), OpS_Fo hW a5 hs.2.1 (show ¬ e + 5 = e by omega)⟩, fun hw => ?_⟩, hs⟩
  obtain ⟨h3, m1, m2, m3⟩ := h2 hw
  exact ⟨EdT_Sg hW h3 hs (fun x hx => by omega), by rw [k 7 (by omega)]; exact m1, by rw [k 9 (by omega)]; exact m2, m3⟩
theorem com_loopC {z : Nat} {w r g cnt L c2 c3 : Nat} (hcnt : cnt ≤ 4) (hL : L < 100) : ∀ (d j n : Nat) (S : CS), j + d = cnt → d < n → Wf S → WdS S w r g → cI S w 6 = nI cnt → cI S w 11 = nI L →
    ∃ S', LX10_takeFrom_154 w c2 c3 n (nI j) S = some S' ∧ cI S' = cI S ∧ (∀ a, (∀ x, j ≤ x → x < cnt → a ≠ w + 5 + 45 * x + 44) → cA S' a = cA S a) ∧ (∀ x, j ≤ x → x < cnt → cA S' (w + 5 + 45 * x + 44) = upd (cA S (w + 5 + 45 * x + 44)) L (cI S (w + 5 + 45 * x) 10)) ∧ Sg z (fun x => ∃ y, y < 4 ∧ x = w + 5 + 45 * y) 0 S S' := by
  intro d
  induction d with
  | zero =>
    intro j n S hj hn hW hS h6 h11
    obtain ⟨n, rfl⟩ : ∃ k, n = k + 1 := ⟨n - 1, by omega⟩
    unfold LX10_takeFrom_154
    rw [gi_k hS.1, h6, Option.bind_some, if_pos (nI_le (by omega) (by omega))]
    exact ⟨S, rfl, rfl, fun a _ => rfl, fun x h1 h2 => by omega, Sg_refl hW⟩
  | succ d ih =>
    intro j n S hj hn hW hS h6 h11
    obtain ⟨n, rfl⟩ : ∃ k, n = k + 1 := ⟨n - 1, by omega⟩
    have hE := (hS.2.2.2.2.2 j (by omega)).2
    unfold LX10_takeFrom_154
    rw [gi_k hS.1, h6, Option.bind_some, if_neg (nI_ge (by omega) (by omega)), gr_k hS.1 hS.2.1.2.2.2.1, Option.bind_some, ed_at hS (show j < 4 by omega), Option.bind_some, gr_k hE.1 hE.2.1.2.2.2.2.2.2, Option.bind_some, gi_k hS.1, h11, Option.bind_some, Option.bind_some, ed_at hS (show j < 4 by omega), Option.bind_some, gi_k hE.1, Option.bind_some, sti_k hE.2.2.2.2.1 (by have := hE.2.2.2.2.2; omega) (by have := hE.2.2.2.2.2; omega), Option.bind_some, nI_1]
    have s1 : Sg z (fun x => ∃ y, y < 4 ∧ x = w + 5 + 45 * y) 0 S (setA S (w + 5 + 45 * j + 44) (upd (cA S (w + 5 + 45 * j + 44)) L (cI S (w + 5 + 45 * j) 10))) := Sg_setA hW ⟨j, by omega, rfl⟩ hE.2.1.2.2.2.2.2.2
    generalize hS1 : setA S (w + 5 + 45 * j + 44) (upd (cA S (w + 5 + 45 * j + 44)) L (cI S (w + 5 + 45 * j) 10)) = S1 at s1 ⊢
    have i1 : cI S1 = cI S := by rw [← hS1]; rfl
    have a1 : ∀ a, a ≠ w + 5 + 45 * j + 44 → cA S1 a = cA S a := fun a ha => by rw [← hS1]; exact va_up_ne _ _ ha
    have a2 : cA S1 (w + 5 + 45 * j + 44) = upd (cA S (w + 5 + 45 * j + 44)) L (cI S (w + 5 + 45 * j) 10) := by rw [← hS1]; exact cA_self _ _ _
    obtain ⟨S', r1, r2, r3, r4, r5⟩ := ih (j + 1) n S1 (by omega) (by omega) s1.1 (WdS_Sg hW hS s1) (by rw [i1]; exact h6) (by rw [i1]; exact h11)
    refine ⟨S', r1, r2.trans i1, fun a ha => ?_, fun x h1 h2 => ?_, Sg_trans s1 r5⟩
    · rw [r3 a (fun x x1 x2 => ha x (by omega) x2), a1 a (ha j (Nat.le_refl _) (by omega))]
    · by_cases hx : x = j
      · subst hx
        rw [r3 _ (fun y y1 y2 => by omega), a2]
      · rw [r4 x (by omega) h2, a1 _ (by omega), i1]
