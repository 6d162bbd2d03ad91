/-! ===== PART II, the class: what stays, what is owned by one alone, what the room is ===== -/
/-- the length of an operation's row -/
def lenO (S : CS) (x : Nat) : Nat := match cJ S x 0 with
  | some a => cN S a
  | none => 0
/-- cells below the heap's end; nothing behind it; a row of numbers is of one field alone; the rows of operations are so long -/
def Wf (S : CS) : Prop := (∀ x ∈ cL S, x < cZ S) ∧ (∀ x k a, cJ S x k = some a → x < cZ S ∧ a < cZ S) ∧ (∀ x y j k a, cJ S x j = some a → cJ S y k = some a → kd S a = 14 → x = y ∧ j = k) ∧ (∀ x, kd S x = 4 → ∃ a, cJ S x 0 = some a ∧ kd S a = 14 ∧ 8 ≤ cN S a ∧ cN S a ≤ 1600 ∧ (cN S a = 8 ∨ 16 ≤ cN S a)) ∧ (∀ x k, (kd S x = 7 ∧ k = 0) ∨ (kd S x = 9 ∧ k = 4) → ∃ a, cJ S x k = some a ∧ kd S a = 14 ∧ cN S a = 240)
theorem kd_lt {S : CS} {x k : Nat} (hW : ∀ x ∈ cL S, x < cZ S) (h : kd S x = k) (hk : k < 99) : x < cZ S := hW x (kd_in h hk).1
theorem cJ_lt {S : CS} {x k a : Nat} (hW : Wf S) (h : cJ S x k = some a) : x < cZ S := (hW.2.1 x k a h).1
def Own (H : Nat → Prop) (S : CS) (a : Nat) : Prop := ∃ h k, H h ∧ cJ S h k = some a
/-- what was there stays, but for the objects of H and the rows that they own -/
def Fo (H : Nat → Prop) (S S' : CS) : Prop :=
  cZ S ≤ cZ S' ∧ (∀ x, x < cZ S → kd S' x = kd S x ∧ cN S' x = cN S x ∧ (kd S x = 14 → ¬ Own H S x → cA S' x = cA S x) ∧ (¬ H x → cI S' x = cI S x ∧ cJ S' x = cJ S x ∧ cB S' x = cB S x)) ∧
  (∀ a, a < cZ S → kd S a = 14 → Own H S' a → Own H S a) ∧ (∀ h k a, cZ S ≤ h → h < cZ S' → ¬ H h → cJ S' h k = some a → a < cZ S → kd S a ≠ 14)
theorem Fo_trans {H : Nat → Prop} {S S' S'' : CS} (h1 : Fo H S S') (h2 : Fo H S' S'') : Fo H S S'' := by
  obtain ⟨a1, a2, a3, a4⟩ := h1
  obtain ⟨b1, b2, b3, b4⟩ := h2
  refine ⟨by omega, fun x hx => ?_, fun a ha hk ho => ?_, fun h k a hh hh2 hn hj ha hk => ?_⟩
  · obtain ⟨c1, c2, e4, c3⟩ := a2 x hx
    obtain ⟨d1, d2, g4, d3⟩ := b2 x (by omega)
    refine ⟨d1.trans c1, d2.trans c2, fun hk ho => ?_, fun hn => ?_⟩
    · exact (g4 (c1.trans hk) (fun hh => ho (a3 x hx hk hh))).trans (e4 hk ho)
    · obtain ⟨e1, e2, e3⟩ := c3 hn
      obtain ⟨g1, g2, g3⟩ := d3 hn
      exact ⟨g1.trans e1, g2.trans e2, g3.trans e3⟩
  · have hk' := ((a2 a ha).1).trans hk
    exact a3 a ha hk (b3 a (by omega) hk' ho)
  · have hk' := ((a2 a ha).1).trans hk
    by_cases hb : cZ S' ≤ h
    · exact b4 h k a hb hh2 hn hj (by omega) hk'
    · have := ((b2 h (by omega)).2.2.2 hn).2.1
      rw [this] at hj
      exact a4 h k a hh (by omega) hn hj ha hk
theorem Fo_mono {H H' : Nat → Prop} {S S' : CS} (hW : Wf S) (hW' : Wf S') (h1 : Fo H S S') (hm : ∀ x, x < cZ S' → H x → H' x) : Fo H' S S' := by
  obtain ⟨a1, a2, a3, a4⟩ := h1
  have ho : ∀ a, Own H S a → Own H' S a := fun a ⟨h, k, q1, q2⟩ => ⟨h, k, hm h (by have := cJ_lt hW q2; omega) q1, q2⟩
  refine ⟨a1, fun x hx => ?_, fun a ha hk hoo => ?_, fun h k a hh hh2 hn hj ha hk => ?_⟩
  · obtain ⟨c1, c2, e4, c3⟩ := a2 x hx
    refine ⟨c1, c2, fun hk hoo => e4 hk (fun hh => hoo (ho x hh)), fun hn => ?_⟩
    exact c3 (fun hh => hn (hm x (by omega) hh))
  · obtain ⟨h, k, q1, q2⟩ := hoo
    by_cases hH : H h
    · exact ho a (a3 a ha hk ⟨h, k, hH, q2⟩)
    · by_cases hz : h < cZ S
      · rw [((a2 h hz).2.2.2 hH).2.1] at q2
        exact ⟨h, k, q1, q2⟩
      · exact absurd hk (a4 h k a (by omega) (cJ_lt hW' q2) hH q2 ha)
  · exact a4 h k a hh hh2 (fun hH => hn (hm h hh2 hH)) hj ha hk
/-- how dear a row of a length is, by the operation that has it: those that go beside what comes (B), those that are only copied (kept), the others; those that never change -/
def tri : Nat → Nat
  | 0 => 0
  | n + 1 => tri n + (n + 1)
abbrev isZr (z x : Nat) : Prop := x = z + 8 ∨ x = z + 11 ∨ (z + 417 ≤ x ∧ x < z + 597 ∧ 7 ≤ (x - (z + 417)) % 45)
abbrev isBr (z x : Nat) : Prop := x = z + 15 ∨ x = z + 18 ∨ x = z + 20 ∨ x = z + 656

def wt (z x L : Nat) : Nat := if isZr z x then 0 else if isBr z x then 2 * L + tri (min L 241) else if x < z + 661 then 2 * L else L
def dfc (z : Nat) (S : CS) (x : Nat) : Nat := if kd S x = 4 then wt z x 1600 - wt z x (lenO S x) else 0
/-- what is used and what may still be wanted for longer rows -/
def Tt (z : Nat) (S : CS) : Nat := cU S + sumN (dfc z S) (cZ S)
theorem tri_mono : ∀ {a b : Nat}, a ≤ b → tri a ≤ tri b := by
  intro a b h
  induction b with
  | zero => rw [show a = 0 by omega]; exact Nat.le_refl _
  | succ b ih =>
    by_cases hb : a ≤ b
    · have := ih hb; rw [tri]; omega
    · rw [show a = b + 1 by omega]; exact Nat.le_refl _
theorem wt_mono (z x : Nat) {a b : Nat} (h : a ≤ b) : wt z x a ≤ wt z x b := by
  unfold wt
  have := tri_mono (show min a 241 ≤ min b 241 by omega)
  split
  · omega
  · split
    · omega
    · split <;> omega
/-- fields of objects that never change -/
def Sta (ci k : Nat) : Prop := ¬ (ci = 4 ∧ k = 0) ∧ ¬ (ci = 7 ∧ k = 0) ∧ ¬ (ci = 9 ∧ k = 4) ∧ ¬ (ci = 5 ∧ k = 0)
/-- a step of at most this cost that changes objects of H alone -/
def Sg (z : Nat) (H : Nat → Prop) (c : Nat) (S S' : CS) : Prop :=
  Wf S' ∧ Fo H S S' ∧ Tt z S' ≤ Tt z S + c ∧ 12 * cZ S' + cU S ≤ 12 * cZ S + cU S' ∧ (∀ x k, x < cZ S → Sta (kd S x) k → cJ S' x k = cJ S x k) ∧ (∀ x, x < cZ S → kd S x ≠ 17 → kd S x ≠ 19 → cB S' x = cB S x)
theorem Sg_trans {z : Nat} {H : Nat → Prop} {c d : Nat} {S S' S'' : CS} (h1 : Sg z H c S S') (h2 : Sg z H d S' S'') : Sg z H (c + d) S S'' := by
  obtain ⟨a1, a2, a3, a4, a5, a6⟩ := h1
  obtain ⟨b1, b2, b3, b4, b5, b6⟩ := h2
  have hz := a2.1
  refine ⟨b1, Fo_trans a2 b2, by omega, by omega, fun x k hx hs => ?_, fun x hx h1 h2 => ?_⟩
  · have hk := (a2.2.1 x hx).1
    rw [b5 x k (by omega) (by rw [hk]; exact hs), a5 x k hx hs]
  · have hk := (a2.2.1 x hx).1
    rw [b6 x (by omega) (by rw [hk]; exact h1) (by rw [hk]; exact h2), a6 x hx h1 h2]
theorem Sg_mono {z : Nat} {H H' : Nat → Prop} {c d : Nat} {S S' : CS} (hW : Wf S) (h1 : Sg z H c S S') (hm : ∀ x, H x → H' x) (hc : c ≤ d) : Sg z H' d S S' := by
  obtain ⟨a1, a2, a3, a4, a5, a6⟩ := h1
  exact ⟨a1, Fo_mono hW a1 a2 (fun x _ h => hm x h), by omega, a4, a5, a6⟩
theorem Sg_refl {z : Nat} {H : Nat → Prop} {c : Nat} {S : CS} (hW : Wf S) : Sg z H c S S :=
  ⟨hW, ⟨Nat.le_refl _, fun x _ => ⟨rfl, rfl, fun _ _ => rfl, fun _ => ⟨rfl, rfl, rfl⟩⟩, fun _ _ _ h => h, fun h k a h1 h2 => by omega⟩, by omega, by omega, fun _ _ _ _ => rfl, fun _ _ _ _ => rfl⟩
/-- a step that changes numbers alone -/
theorem Sg_same {z : Nat} {H : Nat → Prop} {S S' : CS} (hW : Wf S) (hL : cL S' = cL S) (hK : cK S' = cK S) (hN : cN S' = cN S) (hZ : cZ S' = cZ S) (hU : cU S' = cU S) (hJ : cJ S' = cJ S) (hI : ∀ x, ¬ H x → cI S' x = cI S x) (hB : ∀ x, ¬ (H x ∧ (kd S x = 17 ∨ kd S x = 19)) → cB S' x = cB S x) (hA : ∀ x, kd S x = 14 → ¬ Own H S x → cA S' x = cA S x) : Sg z H 0 S S' := by
  have hk : ∀ x, kd S' x = kd S x := fun x => by unfold kd; rw [hL, hK]
  have hl : ∀ x, lenO S' x = lenO S x := fun x => by unfold lenO; rw [hJ, hN]
  refine ⟨⟨by rw [hL, hZ]; exact hW.1, by rw [hJ, hZ]; exact hW.2.1, fun x y j k a h1 h2 h3 => ?_, fun x hx => ?_, fun x k hx => ?_⟩, ⟨by rw [hZ]; exact Nat.le_refl _, fun x hx => ⟨hk x, by rw [hN], hA x, fun hn => ⟨hI x hn, by rw [hJ], hB x (fun hh => hn hh.1)⟩⟩, fun a _ _ ho => ?_, fun h k a h1 h2 => by rw [hZ] at h2; omega⟩, ?_, by rw [hZ, hU]; omega, fun x k _ _ => by rw [hJ], fun x _ h1 h2 => hB x (fun hh => by omega)⟩
  · rw [hJ] at h1 h2
    rw [hk] at h3
    exact hW.2.2.1 x y j k a h1 h2 h3
  · rw [hk] at hx
    obtain ⟨a, q1, q2, q3⟩ := hW.2.2.2.1 x hx
    exact ⟨a, by rw [hJ]; exact q1, by rw [hk]; exact q2, by rw [hN]; exact q3⟩
  · rw [hk] at hx
    obtain ⟨a, q1, q2, q3⟩ := hW.2.2.2.2 x k hx
    exact ⟨a, by rw [hJ]; exact q1, by rw [hk]; exact q2, by rw [hN]; exact q3⟩
  · unfold Own at ho ⊢
    rw [hJ] at ho
    exact ho
  · unfold Tt
    rw [hU, hZ, sumN_congr (fun x _ => show dfc z S' x = dfc z S x by unfold dfc; rw [hk, hl])]
    omega
theorem Sg_setI {z : Nat} {H : Nat → Prop} {S : CS} {a k : Nat} {v : Int32} (hW : Wf S) (h : H a) : Sg z H 0 S (setI S a k v) :=
  Sg_same hW rfl rfl rfl rfl rfl rfl (fun x hx => va_up_ne _ _ (fun e => hx (e ▸ h))) (fun _ _ => rfl) (fun _ _ _ => rfl)
theorem Sg_setA {z : Nat} {H : Nat → Prop} {S : CS} {h k a : Nat} {f : Nat → Int32} (hW : Wf S) (hH : H h) (hj : cJ S h k = some a) : Sg z H 0 S (setA S a f) :=
  Sg_same hW rfl rfl rfl rfl rfl rfl (fun _ _ => rfl) (fun _ _ => rfl) (fun x _ h2 => va_up_ne _ _ (fun e => h2 ⟨h, k, hH, e ▸ hj⟩))
theorem Sg_setB {z : Nat} {H : Nat → Prop} {S : CS} {a : Nat} {f : Nat → Option Nat} (hW : Wf S) (h : H a) (hk : kd S a = 17 ∨ kd S a = 19) : Sg z H 0 S (setB S a f) :=
  Sg_same hW rfl rfl rfl rfl rfl rfl (fun _ _ => rfl) (fun x hx => va_up_ne _ _ (fun e => hx (by rw [e]; exact ⟨h, hk⟩))) (fun _ _ _ => rfl)
