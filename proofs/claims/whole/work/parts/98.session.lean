/-! ===== PART II, the reference: a session stands ===== -/
def E0t (told : List Int32) : Ed := (0, 0, [], true, 1, none, none, none, ([], 0), told, [], [], fun _ => 0)
def W0t (told : List Int32) : Wd := ((0, 0, 0), [], fun _ => E0t told)
/-- an editor's part of the great array at a session's beginning -/
def Ini (f : Nat → Int32) (b : Nat) (told : List Int32) : Prop := f (b + 15) = 1 ∧ f (b + 16) = 1 ∧ f (b + 19) = -1 ∧ f (b + 21) = nI told.length ∧ seg f (b + 24) told ∧ ∀ j, b ≤ j → j < b + 2618 → j ≠ b + 15 → j ≠ b + 16 → j ≠ b + 19 → j ≠ b + 21 → (j < b + 24 ∨ b + 64 ≤ j) → f j = 0
theorem Ini_REd {f : Nat → Int32} {b : Nat} {told : List Int32} (h : Ini f b told) : REd f b 0 (E0t told) := by
  obtain ⟨h1, h2, h3, h4, h5, h6⟩ := h
  have z : ∀ k, k ≠ 15 → k ≠ 16 → k ≠ 19 → k ≠ 21 → (k < 24 ∨ 64 ≤ k) → k < 2618 → f (b + k) = 0 := fun k k1 k2 k3 k4 k5 k6 => h6 (b + k) (by omega) (by omega) (by omega) (by omega) (by omega) (by omega) (by omega)
  have st : ∀ k, 64 ≤ k → k + 2 ≤ 2618 → StA f (b + k) := fun k k1 k2 => ⟨[], fun v hv => absurd hv List.not_mem_nil, Nat.zero_le _, Nat.zero_le _, z k (by omega) (by omega) (by omega) (by omega) (by omega) (by omega), by rw [Nat.add_assoc]; exact z (k + 1) (by omega) (by omega) (by omega) (by omega) (by omega) (by omega), fun j hj => absurd hj (Nat.not_lt_zero _)⟩
  refine ⟨⟨z 0 (by omega) (by omega) (by omega) (by omega) (by omega) (by omega), z 1 (by omega) (by omega) (by omega) (by omega) (by omega) (by omega), z 2 (by omega) (by omega) (by omega) (by omega) (by omega) (by omega), trivial, h1, h2, z 17 (by omega) (by omega) (by omega) (by omega) (by omega) (by omega), z 18 (by omega) (by omega) (by omega) (by omega) (by omega) (by omega), h3, fun hh => absurd hh (by simp [E0t])⟩, ⟨h4, h5⟩, ⟨fun p hp => absurd hp (by simp [E0t]), fun hh => absurd hh (by simp [E0t]), fun p hp => absurd hp (by simp [E0t]), st 264 (by omega) (by omega), st 1148 (by omega) (by omega)⟩, ⟨z 22 (by omega) (by omega) (by omega) (by omega) (by omega) (by omega), z 23 (by omega) (by omega) (by omega) (by omega) (by omega) (by omega), trivial, trivial⟩, fun i hi => absurd hi (Nat.not_lt_zero _)⟩
def IniTo (f : Nat → Int32) (told : List Int32) (i : Nat) : Prop := (∀ j, j < 4 → f j = 0) ∧ (∀ e, e < i → Ini f (4 + 2618 * e) told) ∧ ∀ j, 4 + 2618 * i ≤ j → j < 10476 → f j = 0
theorem ini_step {f : Nat → Int32} {told : List Int32} {i : Nat} (h : IniTo f told i) (hi : i < 4) (hl : told.length ≤ 40) : IniTo (wr (upd (upd (upd (upd f (4 + 2618 * i + 15) 1) (4 + 2618 * i + 16) 1) (4 + 2618 * i + 19) (-1)) (4 + 2618 * i + 21) (nI told.length)) (4 + 2618 * i + 24) told) told (i + 1) := by
  obtain ⟨h1, h2, h3⟩ := h
  generalize hF : wr (upd (upd (upd (upd f (4 + 2618 * i + 15) 1) (4 + 2618 * i + 16) 1) (4 + 2618 * i + 19) (-1)) (4 + 2618 * i + 21) (nI told.length)) (4 + 2618 * i + 24) told = F
  have o : ∀ j, j ≠ 4 + 2618 * i + 15 → j ≠ 4 + 2618 * i + 16 → j ≠ 4 + 2618 * i + 19 → j ≠ 4 + 2618 * i + 21 → (j < 4 + 2618 * i + 24 ∨ 4 + 2618 * i + 64 ≤ j) → F j = f j := fun j j1 j2 j3 j4 j5 => by
    rw [← hF, wr_out (by omega), upd_ne _ _ j4, upd_ne _ _ j3, upd_ne _ _ j2, upd_ne _ _ j1]
  refine ⟨fun j hj => by rw [o j (by omega) (by omega) (by omega) (by omega) (by omega)]; exact h1 j hj, fun e he => ?_, fun j j1 j2 => by rw [o j (by omega) (by omega) (by omega) (by omega) (by omega)]; exact h3 j (by omega) j2⟩
  by_cases hee : e = i
  · subst hee
    refine ⟨?_, ?_, ?_, ?_, fun k hk => by rw [← hF]; exact wr_in hk, fun j j1 j2 j3 j4 j5 j6 j7 => by rw [o j j3 j4 j5 j6 j7]; exact h3 j j1 (by omega)⟩
    · rw [← hF, wr_out (by omega), upd_ne _ _ (by omega), upd_ne _ _ (by omega), upd_ne _ _ (by omega), upd_self]
    · rw [← hF, wr_out (by omega), upd_ne _ _ (by omega), upd_ne _ _ (by omega), upd_self]
    · rw [← hF, wr_out (by omega), upd_ne _ _ (by omega), upd_self]
    · rw [← hF, wr_out (by omega), upd_self]
  · obtain ⟨g1, g2, g3, g4, g5, g6⟩ := h2 e (by omega)
    exact ⟨by rw [o _ (by omega) (by omega) (by omega) (by omega) (by omega)]; exact g1, by rw [o _ (by omega) (by omega) (by omega) (by omega) (by omega)]; exact g2, by rw [o _ (by omega) (by omega) (by omega) (by omega) (by omega)]; exact g3, by rw [o _ (by omega) (by omega) (by omega) (by omega) (by omega)]; exact g4, fun k hk => by rw [o _ (by omega) (by omega) (by omega) (by omega) (by omega)]; exact g5 k hk, fun j j1 j2 j3 j4 j5 j6 j7 => by rw [o _ (by omega) (by omega) (by omega) (by omega) (by omega)]; exact g6 j j1 j2 j3 j4 j5 j6 j7⟩
theorem ini_loop {told : List Int32} {cnt : Nat} (hl : told.length ≤ 40) (hc : cnt ≤ 4) : ∀ (d n i : Nat) (M : MS), i + d = cnt → M.1 32 = nI cnt → M.1 34 = nI told.length → seg (M.2.1 35) 0 told → IniTo (M.2.1 30) told i → d < n → ∃ F, L12_stands_93 n (nI i) M = some (sR M 30 F) ∧ IniTo F told cnt := by
  intro d
  induction d with
  | zero =>
    intro n i M hi h32 h34 h35 h30 hn
    obtain ⟨n, rfl⟩ : ∃ j, n = j + 1 := ⟨n - 1, by omega⟩
    unfold L12_stands_93
    rw [show gF M 32 = _ from h32, if_pos (nI_le (by omega) (by omega))]
    exact ⟨M.2.1 30, by rw [sR_self], by rw [show cnt = i by omega]; exact h30⟩
  | succ d ih =>
    intro n i M hi h32 h34 h35 h30 hn
    obtain ⟨n, rfl⟩ : ∃ j, n = j + 1 := ⟨n - 1, by omega⟩
    unfold L12_stands_93
    generalize hG : upd (upd (upd (upd (M.2.1 30) (4 + 2618 * i + 15) 1) (4 + 2618 * i + 16) 1) (4 + 2618 * i + 19) (-1)) (4 + 2618 * i + 21) (nI told.length) = G
    have hin : L12_stands_154 (nI i) FU (0 : Int32) (sR M 30 G) = some (sR M 30 (wr G (4 + 2618 * i + 24) told)) := by
      have := fill_loop (L := L12_stands_154 (nI i)) (k := 30) (a := 4 + 2618 * i + 24) (l := told) (P := fun X => X.1 34 = nI told.length ∧ X.2.1 35 = M.2.1 35) (fun X g hX => ⟨hX.1, by rw [sR_ne _ _ (by decide)]; exact hX.2⟩) (fun n j X hX hj => by
        conv => lhs; unfold L12_stands_154
        have h0 := h35 j hj
        rw [Nat.zero_add] at h0
        rw [show gF X 34 = _ from hX.1, if_neg (nI_ge hj (by omega)), show (24 : Int32) + nI j = nI (24 + j) from nI_add 24 j, of_ok, Option.bind_some, ld_n (show j < 40 by omega), hX.2, h0, Option.bind_some, nI_1, show 4 + 2618 * i + (24 + j) = 4 + 2618 * i + 24 + j by omega]) (fun n X hX => by
        unfold L12_stands_154
        rw [show gF X 34 = _ from hX.1, if_pos (nI_le (Nat.le_refl _) (by omega))]) (by show _ ≤ 10476; omega) told.length FU 0 (sR M 30 G) G (by omega) ⟨h34, rfl⟩ (by rw [FU_eq]; omega)
      rw [List.take_zero, wr_nil, sR_sR, sR_sR] at this
      exact this
    have e1 : f12_of (nI i) (15 : Int32) = some (nI (4 + 2618 * i + 15)) := of_ok i 15
    have e2 : f12_of (nI i) (16 : Int32) = some (nI (4 + 2618 * i + 16)) := of_ok i 16
    have e3 : f12_of (nI i) (19 : Int32) = some (nI (4 + 2618 * i + 19)) := of_ok i 19
    have e4 : f12_of (nI i) (21 : Int32) = some (nI (4 + 2618 * i + 21)) := of_ok i 21
    rw [show gF M 32 = _ from h32, if_neg (nI_ge (by omega) (by omega)), e1, Option.bind_some, sd_n (show 4 + 2618 * i + 15 < 10476 by omega), Option.bind_some, e2, Option.bind_some, sd_n (show 4 + 2618 * i + 16 < 10476 by omega), sR_get, sR_sR, Option.bind_some, e3, Option.bind_some, sd_n (show 4 + 2618 * i + 19 < 10476 by omega), sR_get, sR_sR, Option.bind_some, e4, Option.bind_some, sd_n (show 4 + 2618 * i + 21 < 10476 by omega), sR_get, sR_sR, show gF (sR M 30 _) 34 = nI told.length from h34, hG, Option.bind_some, hin, Option.bind_some, nI_1]
    obtain ⟨F, a1, a2⟩ := ih n (i + 1) (sR M 30 (wr G (4 + 2618 * i + 24) told)) (by omega) h32 h34 (by rw [sR_ne _ _ (by decide)]; exact h35) (by rw [sR_get, ← hG]; exact ini_step h30 (by omega) hl) (by omega)
    rw [sR_sR] at a1
    exact ⟨F, a1, a2⟩
