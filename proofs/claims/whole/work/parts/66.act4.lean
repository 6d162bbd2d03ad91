/-! ===== PART II, the reference: undo, redo, and what is set ===== -/
theorem cap_take {s : List (Nat × List Int32)} (k : Nat) (h : capOk s) : capOk (s.take k) ∧ capS (s.take k) ≤ capS s ∧ putsS (s.take k) ≤ putsS s ∧ ccS (s.take k) ≤ ccS s := by
  induction s generalizing k with
  | nil => simp [capOk, capS, putsS, ccS]
  | cons x s ih =>
    cases k with
    | zero => simp [capOk, capS, putsS, ccS]
    | succ k =>
      obtain ⟨i1, i2, i3, i4⟩ := ih k h.2
      rw [List.take_succ_cons]
      refine ⟨⟨h.1, i1⟩, ?_, ?_, ?_⟩
      · rw [capS, capS]; omega
      · rw [putsS, putsS]; omega
      · rw [ccS, ccS]; omega
theorem stk_take {f : Nat → Int32} {s : List (Nat × List Int32)} {a : Nat} (k : Nat) (h : stk f a s) : stk f a (s.take k) := by
  have hsp : s.take k ++ s.drop k = s := List.take_append_drop k s
  rw [← hsp, stk_app] at h
  exact h.1
def aUndo (A : St) (e : Int32) : Int32 × St :=
  if 0 ≤ e.toInt ∧ e.toInt < aCnt A then
    (match lastN (eUnd (wE (aW A) e.toInt.toNat)) (eUnd (wE (aW A) e.toInt.toNat)).length with
    | none => (-1, sRf A 2)
    | some k => match (eUnd (wE (aW A) e.toInt.toNat))[k]? with
      | none => (-1, sRf A 2)
      | some x => if canE A x.2 = true then (nI (newL x.2), sWd (keepA A) (edW A e.toInt.toNat (sUnd (wE (aW A) e.toInt.toNat) ((eUnd (wE (aW A) e.toInt.toNat)).take k)) x.2 1)) else (-1, sRf A 2))
  else (-1, sRf A 2)
def aRedo (A : St) (e : Int32) : Int32 × St :=
  if 0 ≤ e.toInt ∧ e.toInt < aCnt A then
    (match lastN (eDon (wE (aW A) e.toInt.toNat)) (eDon (wE (aW A) e.toInt.toNat)).length with
    | none => (-1, sRf A 2)
    | some k => match (eDon (wE (aW A) e.toInt.toNat))[k]? with
      | none => (-1, sRf A 2)
      | some x => if canE A x.2 = true then (nI (newL x.2), sWd (keepA A) (edW A e.toInt.toNat (sDon (wE (aW A) e.toInt.toNat) ((eDon (wE (aW A) e.toInt.toNat)).take k)) x.2 2)) else (-1, sRf A 2))
  else (-1, sRf A 2)
/-- the common part: the stack s lies at st, its count at co; E0 is the editor with what is left of it -/
theorem goes_ok {M : MS} {A : St} {e : Int32} {st co kind : Nat} {s : List (Nat × List Int32)} (h : RS M A) (hg : GA A) (he : 0 ≤ e.toInt ∧ e.toInt < aCnt A) (hk : kind ≤ 2) (hco : co = 22 ∨ co = 23) (hst : stk (M.2.1 30) (4 + 2618 * e.toInt.toNat + st) s) (hE : stkE (4 + 2618 * e.toInt.toNat + st) s ≤ 10476) (h8 : s.length ≤ 8) (hch : chn s (eTxt (wE (aW A) e.toInt.toNat)).length) (hsum : (eTxt (wE (aW A) e.toInt.toNat)).length + putsS s ≤ 240) (hcnt : M.2.1 30 (4 + 2618 * e.toInt.toNat + co) = nI s.length)
    (E0 : Nat → Ed) (hE0 : ∀ k, E0 k = sDon (sUnd (wE (aW A) e.toInt.toNat) (eUnd (E0 k))) (eDon (E0 k))) (hu : ∀ k, (eUnd (E0 k)).length ≤ 8) (hd : ∀ k, (eDon (E0 k)).length ≤ 8) (hb0 : ∀ k, Bd (E0 k))
    (hG : ∀ k x, s[k]? = some x → okO x.2 → oldL x.2 = (eTxt (wE (aW A) e.toInt.toNat)).length → chn (s.take k) (newL x.2) → canE A x.2 = true → Good (aCnt A) (aTies A) (aTold A).length (edW A e.toInt.toNat (E0 k) x.2 kind))
    (hR : ∀ (f : Nat → Int32) k, k < s.length → REd f (4 + 2618 * e.toInt.toNat) (wRow (aW A)).length (wE (aW A) e.toInt.toNat) → REd (upd f (4 + 2618 * e.toInt.toNat + co) (nI k)) (4 + 2618 * e.toInt.toNat) (wRow (aW A)).length (E0 k)) :
    ∃ M', f12_goesBack M e (nI st) (nI co) (nI kind) = some ((match lastN s s.length with | none => ((-1 : Int32), sRf A 2) | some k => match s[k]? with | none => (-1, sRf A 2) | some x => if canE A x.2 = true then (nI (newL x.2), sWd (keepA A) (edW A e.toInt.toNat (E0 k) x.2 kind)) else (-1, sRf A 2)).1, M') ∧ RS M' (match lastN s s.length with | none => ((-1 : Int32), sRf A 2) | some k => match s[k]? with | none => (-1, sRf A 2) | some x => if canE A x.2 = true then (nI (newL x.2), sWd (keepA A) (edW A e.toInt.toNat (E0 k) x.2 kind)) else (-1, sRf A 2)).2 := by
  have gd := GA_good hg
  obtain ⟨g1, g2, g3, g4, g5, g6, g7, g8, g9⟩ := id gd
  have hen := ofI he.1
  have hi : e.toInt.toNat < aCnt A := by omega
  obtain ⟨M4, l1, l2, l3⟩ := last_loop (M0 := M) (e := e.toInt.toNat) (st := st) (a := 4 + 2618 * e.toInt.toNat + st) (n := (eTxt (wE (aW A) e.toInt.toNat)).length) rfl hst hE h8 s.length FU M (Nat.le_refl _) (Frm_refl _ _ _) (by rw [List.take_length]; exact hch) (by rw [List.take_length]; exact hsum) (by rw [FU_eq]; omega)
  rw [← hen] at l1
  have rs4 := RS_frm h l2 (by simp [scrA]) (by simp [scrF])
  have hlat : f12_latestOf M e (nI st) (nI co) = (bn3 (L12_latestOf_10 e (nI st) FU (nI s.length - 1) M) fun t2 x3 M4 => if t2 = 0 then some (x3, M4) else some (-1, M4)) := by
    unfold f12_latestOf
    rw [its_e h hg he co (by omega), hcnt, Option.bind_some]
  unfold f12_goesBack
  rw [isEditor_ok h hg, Option.bind_some, if_pos he, if_neg (show ¬ (1 : Int32) = 0 from by decide), hlat, l1]
  cases hL : lastN s s.length with
  | none =>
    dsimp only
    rw [bn3_s, if_neg (show ¬ (1 : Nat) = 0 from by decide), bn2_s, bn2_s, if_pos rfl]
    obtain ⟨M', r1, r2⟩ := refuses_ok rs4 2 (by omega)
    exact ⟨M', by rw [show f12_refuses M4 (2 : Int32) = _ from r1, bn2_s], r2⟩
  | some k =>
    obtain ⟨k1, x, k2, k3, k4, k5, k6, k7, k8⟩ := l3 k hL
    dsimp only
    rw [bn3_s, if_pos rfl, bn2_s, bn2_s, if_neg (show ¬ nI k = (-1 : Int32) from fun hh => by
      have h3 := is1.mp hh
      rw [nI_toInt (by omega)] at h3
      omega), k2]
    obtain ⟨w1, w2, w3, w4, w5, w6, w7, w8⟩ := RS_RW rs4
    rw [canEdit_ok k3 (by omega) w5 w6 (by omega) (by omega), Option.bind_some]
    dsimp only
    by_cases hc : canE A x.2 = true
    · have hc' : (!(idleB x.2) && decide (wEd (aW A) < 100) && decide (wPu (aW A) + putsL x.2 ≤ 200)) = true := hc
      rw [if_pos hc', if_neg (show ¬ (1 : Int32) = 0 from by decide), if_pos hc]
      obtain ⟨M10, q1, q2, q3⟩ := keeps_ok rs4 hg
      have hGA := GA_keep0 hg (by omega)
      have hG0 := hG k x k2 k4 k5 k7 hc
      have hRE := hR (M10.2.1 30) k k1 ((RS_RW q2).2.2.2.2.2.2.2 _ hi)
      obtain ⟨M13, a1, a2, a3, a4⟩ := edits_all (A := keepA A) (kind := kind) (E0 := E0 k) (f0 := upd (M10.2.1 30) (4 + 2618 * e.toInt.toNat + co) (nI k)) q2 hGA hi hk (Row_frm k3 q3 (by decide) (by decide)) k4 k5 (by omega) (hE0 k) (hu k) (hd k) (hb0 k) hG0 (fun j j1 j2 => upd_ne _ _ (by omega)) hRE
      rw [← hen] at a1 a3
      refine ⟨M13, ?_, a2⟩
      rw [q1, Option.bind_some, show f12_of e (nI co) = some (nI (4 + 2618 * e.toInt.toNat + co)) from by
        conv => lhs; rw [hen]
        rw [of_ok], Option.bind_some, sd_n (show 4 + 2618 * e.toInt.toNat + co < 10476 by omega), Option.bind_some, a1, Option.bind_some, a3, Option.bind_some]
    · have hc' : ¬ (!(idleB x.2) && decide (wEd (aW A) < 100) && decide (wPu (aW A) + putsL x.2 ≤ 200)) = true := hc
      rw [if_neg hc', if_pos rfl, if_neg hc]
      obtain ⟨M', r1, r2⟩ := refuses_ok rs4 2 (by omega)
      exact ⟨M', by rw [show f12_refuses M4 (2 : Int32) = _ from r1, bn2_s], r2⟩
theorem goes_no {M : MS} {A : St} {e : Int32} {p2 p3 p4 : Int32} (h : RS M A) (hg : GA A) (he : ¬ (0 ≤ e.toInt ∧ e.toInt < aCnt A)) : ∃ M', f12_goesBack M e p2 p3 p4 = some (-1, M') ∧ RS M' (sRf A 2) := by
  obtain ⟨M', r1, r2⟩ := refuses_ok h 2 (by omega)
  refine ⟨M', ?_, r2⟩
  unfold f12_goesBack
  rw [isEditor_ok h hg, Option.bind_some, if_neg he, if_pos rfl, bn2_s, if_pos rfl, show f12_refuses M (2 : Int32) = _ from r1, bn2_s]
theorem undo_ok {M : MS} {A : St} (h : RS M A) (hg : GA A) (e : Int32) : ∃ M', f12_undo M e = some ((aUndo A e).1, M') ∧ RS M' (aUndo A e).2 := by
  have gd := GA_good hg
  unfold f12_undo aUndo
  by_cases he : 0 ≤ e.toInt ∧ e.toInt < aCnt A
  · have hi : e.toInt.toNat < aCnt A := by omega
    have hc4 := gd.1
    have hb := Good_Bd gd hi
    obtain ⟨e1, e2, e3, e4, e5, e6, e7, e8, e9, e10, e11, e12, e13, e14, e15, e16, e17, e18, e19⟩ := gd.2.2.2.2.2.2.2.2 _ hi
    have hpu := gd.2.2.2.1
    have htl := gd.2.2.1
    have hr := (RS_RW h).2.2.2.2.2.2.2 _ hi
    have cu := stkE_cap (eUnd (wE (aW A) e.toInt.toNat)) (4 + 2618 * e.toInt.toNat + 1590)
    have bu := hb.2.2.2.2.2.2.2.1
    obtain ⟨M', a1, a2⟩ := goes_ok (kind := 1) (st := 1590) (co := 22) (s := eUnd (wE (aW A) e.toInt.toNat)) h hg he (by omega) (Or.inl rfl) hr.2.2.2.1.2.2.1 (by omega) e9 e11 (by omega) hr.2.2.2.1.1 (fun k => sUnd (wE (aW A) e.toInt.toNat) ((eUnd (wE (aW A) e.toInt.toNat)).take k)) (fun k => rfl) (fun k => by show ((eUnd (wE (aW A) e.toInt.toNat)).take k).length ≤ 8; rw [List.length_take]; omega) (fun k => e10) (fun k => by
        obtain ⟨b1, b2, b3, b4, b5, b6, b7, b8, b9⟩ := hb
        exact ⟨b1, b2, b3, b4, b5, b6, b7, Nat.le_trans (cap_take k e13).2.1 b8, b9⟩) (fun k x hx c1 c2 c3 hc => by
        obtain ⟨t1, t2, t3, t4⟩ := cap_take k e13
        obtain ⟨n1, n2⟩ := canE_iff hc
        exact Good_edit (kind := 1) gd hi c1 c2 n1 n2 rfl (eDon (wE (aW A) e.toInt.toNat)) ((eUnd (wE (aW A) e.toInt.toNat)).take k) (Or.inl ⟨rfl, rfl, rfl⟩) e10 (by rw [List.length_take]; omega) e12 c3 e14 t1 (by omega) (by omega)) (fun f k hk hf => by
        refine REd_stk hf hb (row_le gd) rfl (fun j j0 j1 j2 j3 => upd_ne _ _ j2) ⟨?_, ?_, ?_, ?_⟩
        · rw [upd_self]
          show nI k = nI ((eUnd (wE (aW A) e.toInt.toNat)).take k).length
          rw [List.length_take, Nat.min_eq_left (by omega)]
        · rw [upd_ne _ _ (by omega)]; exact hf.2.2.2.1.2.1
        · exact stk_take k (stk_eq hf.2.2.2.1.2.2.1 (fun j j1 j2 => upd_ne _ _ (by omega)))
        · exact stk_eq hf.2.2.2.1.2.2.2 (fun j j1 j2 => upd_ne _ _ (by omega)))
    rw [if_pos he]
    exact ⟨M', by rw [show f12_goesBack M e (1590 : Int32) (22 : Int32) (1 : Int32) = _ from a1, bn2_s], a2⟩
  · rw [if_neg he]
    obtain ⟨M', r1, r2⟩ := goes_no (p2 := 1590) (p3 := 22) (p4 := 1) h hg he
    exact ⟨M', by rw [r1, bn2_s], r2⟩
theorem redo_ok {M : MS} {A : St} (h : RS M A) (hg : GA A) (e : Int32) : ∃ M', f12_redo M e = some ((aRedo A e).1, M') ∧ RS M' (aRedo A e).2 := by
  have gd := GA_good hg
  unfold f12_redo aRedo
  by_cases he : 0 ≤ e.toInt ∧ e.toInt < aCnt A
  · have hi : e.toInt.toNat < aCnt A := by omega
    have hc4 := gd.1
    have hb := Good_Bd gd hi
    obtain ⟨e1, e2, e3, e4, e5, e6, e7, e8, e9, e10, e11, e12, e13, e14, e15, e16, e17, e18, e19⟩ := gd.2.2.2.2.2.2.2.2 _ hi
    have hpu := gd.2.2.2.1
    have htl := gd.2.2.1
    have hr := (RS_RW h).2.2.2.2.2.2.2 _ hi
    have cu := stkE_cap (eDon (wE (aW A) e.toInt.toNat)) (4 + 2618 * e.toInt.toNat + 2054)
    have bu := hb.2.2.2.2.2.2.2.2
    obtain ⟨M', a1, a2⟩ := goes_ok (kind := 2) (st := 2054) (co := 23) (s := eDon (wE (aW A) e.toInt.toNat)) h hg he (by omega) (Or.inr rfl) hr.2.2.2.1.2.2.2 (by omega) e10 e12 (by omega) hr.2.2.2.1.2.1 (fun k => sDon (wE (aW A) e.toInt.toNat) ((eDon (wE (aW A) e.toInt.toNat)).take k)) (fun k => rfl) (fun k => e9) (fun k => by show ((eDon (wE (aW A) e.toInt.toNat)).take k).length ≤ 8; rw [List.length_take]; omega) (fun k => by
        obtain ⟨b1, b2, b3, b4, b5, b6, b7, b8, b9⟩ := hb
        exact ⟨b1, b2, b3, b4, b5, b6, b7, b8, Nat.le_trans (cap_take k e14).2.1 b9⟩) (fun k x hx c1 c2 c3 hc => by
        obtain ⟨t1, t2, t3, t4⟩ := cap_take k e14
        obtain ⟨n1, n2⟩ := canE_iff hc
        exact Good_edit (kind := 2) gd hi c1 c2 n1 n2 rfl (eUnd (wE (aW A) e.toInt.toNat)) ((eDon (wE (aW A) e.toInt.toNat)).take k) (Or.inr (Or.inr ⟨rfl, rfl, rfl⟩)) e9 (by rw [List.length_take]; omega) e11 c3 e13 t1 (by omega) (by omega)) (fun f k hk hf => by
        have hcu := stkE_cap (eUnd (wE (aW A) e.toInt.toNat)) (4 + 2618 * e.toInt.toNat + 1590)
        refine REd_stk hf hb (row_le gd) rfl (fun j j0 j1 j2 j3 => upd_ne _ _ j3) ⟨?_, ?_, ?_, ?_⟩
        · rw [upd_ne _ _ (by omega)]; exact hf.2.2.2.1.1
        · rw [upd_self]
          show nI k = nI ((eDon (wE (aW A) e.toInt.toNat)).take k).length
          rw [List.length_take, Nat.min_eq_left (by omega)]
        · exact stk_eq hf.2.2.2.1.2.2.1 (fun j j1 j2 => upd_ne _ _ (by omega))
        · exact stk_take k (stk_eq hf.2.2.2.1.2.2.2 (fun j j1 j2 => upd_ne _ _ (by omega))))
    rw [if_pos he]
    exact ⟨M', by rw [show f12_goesBack M e (2054 : Int32) (23 : Int32) (2 : Int32) = _ from a1, bn2_s], a2⟩
  · rw [if_neg he]
    obtain ⟨M', r1, r2⟩ := goes_no (p2 := 2054) (p3 := 23) (p4 := 2) h hg he
    exact ⟨M', by rw [r1, bn2_s], r2⟩
