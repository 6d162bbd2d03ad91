/-! ===== PART II, the class: what a statement tells, by its kind ===== -/
section T7
variable {S S' S'' : CS} {z i k q : Nat} {T : List Int32} {v : Tm}
/-- what comes of a part of a statement -/
def RsR (z : Nat) (S : CS) (T : List Int32) (v : Tm) (s : Sm) (pf : Pz) (o : Option (Int32 × CS)) : Prop :=
  ∃ S' r, o = some (r, S') ∧ ((r = 1 ∧ ∃ v', OKp z S S' T pf v' ∧ KeepV v v' ∧ StmA v'.2.2.2.2.1 v'.2.2.2.2.2.2 v.2.1 v'.1 s ∧ v'.1 ≤ pAt pf) ∨ (r = 0 ∧ BDp z S S' pf) ∨ (r = 1 ∧ PnD z S S' T false pf))
theorem lk_num {lo hi : Nat} {p : Pz} (h : pBd (pNum T lo hi p).2 = 0) : pAt p ≤ pAt (pNum T lo hi p).2 := by
  have := (num_pos h).2.1
  have := lk_ge T (pAt p)
  omega
theorem ed2_R {kd lo hi cnt : Nat} {p : Pz} (h : PR S z T (pAt p) v) (hb : pBd p = 0) (hc : CE T p) (hk : 4 * v.2.1 + 3 < 240) (hu : v.1 ≤ pAt p) (hcn : v.2.2.1 = nI cnt) (h1 : 1 ≤ cnt) (h4 : cnt ≤ 100) (hlo : lo ≤ 100) (hhi : hi ≤ 100) (hkd : kd ≠ 3 ∧ kd ≠ 5) :
    RsR z S T v (kd, ((pNum T 0 (cnt - 1) p).1, (pNum T lo hi (pNum T 0 (cnt - 1) p).2).1, 0, 0), []) (pNum T lo hi (pNum T 0 (cnt - 1) p).2).2 (bn2 (cal S 8 (z + 1) (f8_readEditor S (z + 1))) fun v4 S5 => bn2 (if v4 = 0 then some ((0 : Int32), S5) else (bn2 (cal S5 8 (z + 1) (f8_readNumber S5 (z + 1) (nI 1) (nI lo) (nI hi))) fun v9 S10 => if v9 = 0 then some (0, S10) else some (1, S10))) fun v6 S7 => (bz v6).bind fun v11 => some (v11, S7)) := by
  obtain ⟨S5, r, r1, r2⟩ := readE_R h hb hc (by omega) hcn h1 h4
  rw [r1, bn2_s]
  rcases r2 with ⟨rfl, ⟨e1, e2⟩, e3, e4⟩ | ⟨rfl, e⟩
  · obtain ⟨S10, r', x1, x2⟩ := readN_R (k := 1) (lo := lo) (hi := hi) e2.1 e1 e3 (by show 4 * v.2.1 + 1 < 240; omega) hlo hhi
    rw [if_neg (by decide), x1, bn2_s]
    rcases x2 with ⟨rfl, ⟨y1, y2⟩, y3, y4⟩ | ⟨rfl, y⟩
    · rw [if_neg (by decide), bn2_s]
      refine ⟨S10, 1, rfl, Or.inl ⟨rfl, _, ⟨y1, OK8_tr e2 y2⟩, KeepV_tr (KeepV_sN _ _ _) (KeepV_sN _ _ _), ⟨?_, fun _ => ?_, fun hh => absurd hh hkd.2, fun hh => absurd hh hkd.1⟩, ?_⟩⟩
      · show upd (upd v.2.2.2.2.2.2 (4 * v.2.1 + 0) _) (4 * v.2.1 + 1) _ (4 * v.2.1) = _
        rw [upd_ne _ _ (by omega), Nat.add_zero, upd_self]
      · show upd (upd v.2.2.2.2.2.2 (4 * v.2.1 + 0) _) (4 * v.2.1 + 1) _ (4 * v.2.1 + 1) = _
        rw [upd_self]
      · have := lk_num y1
        have := lk_num e1
        show v.1 ≤ _
        omega
    · rw [if_pos rfl, bn2_s]
      exact ⟨S10, 0, rfl, Or.inr (Or.inl ⟨rfl, BDp_tr e2 y⟩)⟩
  · rw [if_pos rfl, bn2_s, num_bad e.1]
    exact ⟨S5, 0, rfl, Or.inr (Or.inl ⟨rfl, e⟩)⟩
theorem ed1_R {kd cnt : Nat} {p : Pz} (h : PR S z T (pAt p) v) (hb : pBd p = 0) (hc : CE T p) (hk : 4 * v.2.1 + 3 < 240) (hu : v.1 ≤ pAt p) (hcn : v.2.2.1 = nI cnt) (h1 : 1 ≤ cnt) (h4 : cnt ≤ 100) (hkd : kd ≠ 3 ∧ kd ≠ 5 ∧ kd ≠ 1 ∧ kd ≠ 4) :
    RsR z S T v (kd, ((pNum T 0 (cnt - 1) p).1, 0, 0, 0), []) (pNum T 0 (cnt - 1) p).2 (bn2 (cal S 8 (z + 1) (f8_readEditor S (z + 1))) fun v4 S5 => (bz v4).bind fun v11 => some (v11, S5)) := by
  obtain ⟨S5, r, r1, r2⟩ := readE_R h hb hc (by omega) hcn h1 h4
  rw [r1, bn2_s]
  rcases r2 with ⟨rfl, ⟨e1, e2⟩, e3, e4⟩ | ⟨rfl, e⟩
  · refine ⟨S5, 1, rfl, Or.inl ⟨rfl, _, ⟨e1, e2⟩, KeepV_sN _ _ _, ⟨?_, fun hh => by exfalso; rcases hh with hh | hh | hh <;> simp_all, fun hh => absurd hh hkd.2.1, fun hh => absurd hh hkd.1⟩, ?_⟩⟩
    · show upd v.2.2.2.2.2.2 (4 * v.2.1 + 0) _ (4 * v.2.1) = _
      rw [Nat.add_zero, upd_self]
    · have := lk_num e1
      show v.1 ≤ _
      omega
  · exact ⟨S5, 0, rfl, Or.inr (Or.inl ⟨rfl, e⟩)⟩
theorem nm1_R {kd lo hi : Nat} {p : Pz} (h : PR S z T (pAt p) v) (hb : pBd p = 0) (hc : CE T p) (hk : 4 * v.2.1 + 3 < 240) (hu : v.1 ≤ pAt p) (hlo : lo ≤ 100) (hhi : hi ≤ 100) (hkd : kd ≠ 3 ∧ kd ≠ 5 ∧ kd ≠ 1 ∧ kd ≠ 4) :
    RsR z S T v (kd, ((pNum T lo hi p).1, 0, 0, 0), []) (pNum T lo hi p).2 (bn2 (cal S 8 (z + 1) (f8_readNumber S (z + 1) (nI 0) (nI lo) (nI hi))) fun v4 S5 => (bz v4).bind fun v11 => some (v11, S5)) := by
  obtain ⟨S5, r, r1, r2⟩ := readN_R (k := 0) (lo := lo) (hi := hi) h hb hc (by omega) hlo hhi
  rw [r1, bn2_s]
  rcases r2 with ⟨rfl, ⟨e1, e2⟩, e3, e4⟩ | ⟨rfl, e⟩
  · refine ⟨S5, 1, rfl, Or.inl ⟨rfl, _, ⟨e1, e2⟩, KeepV_sN _ _ _, ⟨?_, fun hh => by exfalso; rcases hh with hh | hh | hh <;> simp_all, fun hh => absurd hh hkd.2.1, fun hh => absurd hh hkd.1⟩, ?_⟩⟩
    · show upd v.2.2.2.2.2.2 (4 * v.2.1 + 0) _ (4 * v.2.1) = _
      rw [Nat.add_zero, upd_self]
    · have := lk_num e1
      show v.1 ≤ _
      omega
  · exact ⟨S5, 0, rfl, Or.inr (Or.inl ⟨rfl, e⟩)⟩
theorem eds_R {cnt d : Nat} {p : Pz} (hd : d = 40) (h : PR S z T (pAt p) v) (hb : pBd p = 0) (hc : CE T p) (hk : 4 * v.2.1 + 3 < 240) (hu : v.1 ≤ pAt p) (hcn : v.2.2.1 = nI cnt) (h1 : 1 ≤ cnt) (h4 : cnt ≤ 100) :
    RsR z S T v (3, ((pNum T 0 (cnt - 1) p).1, 0, 0, 0), (pOp T false (d + 2) 0 (pNum T 0 (cnt - 1) p).2).1) (pOp T false (d + 2) 0 (pNum T 0 (cnt - 1) p).2).2 (bn2 (cal S 8 (z + 1) (f8_readEditor S (z + 1))) fun v15 S16 => bn2 (if v15 = 0 then some ((0 : Int32), S16) else (bn2 (cal S16 8 (z + 1) (f8_readSteps S16 (z + 1) 59)) fun v20 S21 => if v20 = 0 then some (0, S21) else some (1, S21))) fun v17 S18 => (bz v17).bind fun v22 => some (v22, S18)) := by
  obtain ⟨S5, r, r1, r2⟩ := readE_R h hb hc (by omega) hcn h1 h4
  rw [r1, bn2_s]
  rcases r2 with ⟨rfl, ⟨e1, e2⟩, e3, e4⟩ | ⟨rfl, e⟩
  · have hat := lk_num e1
    obtain ⟨S10, r', x1, x2⟩ := readSteps_R (wh := false) (sg := 59) hd (by rfl) e2.1 e1 e3 (by show v.1 ≤ _; omega) (by show 4 * v.2.1 + 2 < 240; omega)
    rw [if_neg (by decide), x1, bn2_s]
    rcases x2 with ⟨rfl, ⟨y1, y2⟩, y3, y4, y5⟩ | ⟨rfl, y⟩ | ⟨rfl, y⟩
    · rw [if_neg (by decide), bn2_s]
      refine ⟨S10, 1, rfl, Or.inl ⟨rfl, _, ⟨y1, OK8_tr e2 y2⟩, KeepV_tr (KeepV_sN _ _ _) (KeepV_tr (KeepV_tr (KeepV_sN _ _ _) (KeepV_add _ _)) (KeepV_sN _ _ _)), ⟨?_, fun hh => by exfalso; rcases hh with hh | hh | hh <;> simp at hh, fun hh => by simp at hh, fun _ => ⟨v.1, ?_, ?_, ?_, ?_⟩⟩, y5⟩⟩
      · show upd (upd (upd v.2.2.2.2.2.2 (4 * v.2.1 + 0) _) (4 * v.2.1 + 1) _) (4 * v.2.1 + 2) _ (4 * v.2.1) = _
        rw [upd_ne _ _ (by omega), upd_ne _ _ (by omega), Nat.add_zero, upd_self]
      · show upd (upd (upd v.2.2.2.2.2.2 (4 * v.2.1 + 0) _) (4 * v.2.1 + 1) _) (4 * v.2.1 + 2) _ (4 * v.2.1 + 1) = _
        rw [upd_ne _ _ (by omega), upd_self]; rfl
      · show upd (upd (upd v.2.2.2.2.2.2 (4 * v.2.1 + 0) _) (4 * v.2.1 + 1) _) (4 * v.2.1 + 2) _ (4 * v.2.1 + 2) = _
        rw [upd_self]; rfl
      · exact Nat.le_refl _
      · intro j hj
        show wr v.2.2.2.2.1 v.1 _ (v.1 + j) = _
        rw [wr_in hj]
    · rw [if_pos rfl, bn2_s]
      exact ⟨S10, 0, rfl, Or.inr (Or.inl ⟨rfl, BDp_tr e2 y⟩)⟩
    · rw [if_neg (by decide), bn2_s]
      exact ⟨S10, 1, rfl, Or.inr (Or.inr ⟨rfl, PnD_tr e2 y⟩)⟩
  · rw [if_pos rfl, bn2_s, op_bad e.1]
    exact ⟨S5, 0, rfl, Or.inr (Or.inl ⟨rfl, e⟩)⟩
theorem mrk_R {cnt : Nat} {p : Pz} (h : PR S z T (pAt p) v) (hb : pBd p = 0) (hc : CE T p) (hk : 4 * v.2.1 + 3 < 240) (hu : v.1 ≤ pAt p) (hcn : v.2.2.1 = nI cnt) (h1 : 1 ≤ cnt) (h4 : cnt ≤ 100) :
    RsR z S T v (5, ((pNum T 0 (cnt - 1) p).1, (pNum T 0 99 (pNum T 0 (cnt - 1) p).2).1, (pNum T 0 99 (pNum T 0 99 (pNum T 0 (cnt - 1) p).2).2).1, (pNum T 0 3 (pNum T 0 99 (pNum T 0 99 (pNum T 0 (cnt - 1) p).2).2).2).1), []) (pNum T 0 3 (pNum T 0 99 (pNum T 0 99 (pNum T 0 (cnt - 1) p).2).2).2).2
      (bn2 (cal S 8 (z + 1) (f8_readEditor S (z + 1))) fun v31 S32 => bn2 (if v31 = 0 then some ((0 : Int32), S32) else (bn2 (cal S32 8 (z + 1) (f8_readNumber S32 (z + 1) 1 0 99)) fun v36 S37 => if v36 = 0 then some (0, S37) else (bn2 (cal S37 8 (z + 1) (f8_readNumber S37 (z + 1) 2 0 99)) fun v38 S39 => if v38 = 0 then some (0, S39) else (bn2 (cal S39 8 (z + 1) (f8_readNumber S39 (z + 1) 3 0 3)) fun v40 S41 => if v40 = 0 then some (0, S41) else some (1, S41))))) fun v33 S34 => (bz v33).bind fun v42 => some (v42, S34)) := by
  obtain ⟨S5, r, r1, r2⟩ := readE_R h hb hc (by omega) hcn h1 h4
  rw [r1, bn2_s]
  rcases r2 with ⟨rfl, ⟨e1, e2⟩, e3, e4⟩ | ⟨rfl, e⟩
  · obtain ⟨S10, r', x1, x2⟩ := readN_R (k := 1) (lo := 0) (hi := 99) e2.1 e1 e3 (by show 4 * v.2.1 + 1 < 240; omega) (by omega) (by omega)
    rw [if_neg (by decide), show cal S5 8 (z + 1) (f8_readNumber S5 (z + 1) 1 0 99) = some (r', S10) from x1, bn2_s]
    rcases x2 with ⟨rfl, ⟨y1, y2⟩, y3, y4⟩ | ⟨rfl, y⟩
    · obtain ⟨S11, r'', w1, w2⟩ := readN_R (k := 2) (lo := 0) (hi := 99) y2.1 y1 y3 (by show 4 * v.2.1 + 2 < 240; omega) (by omega) (by omega)
      rw [if_neg (by decide), show cal S10 8 (z + 1) (f8_readNumber S10 (z + 1) 2 0 99) = some (r'', S11) from w1, bn2_s]
      rcases w2 with ⟨rfl, ⟨u1, u2⟩, u3, u4⟩ | ⟨rfl, u⟩
      · obtain ⟨S12, r''', q1, q2⟩ := readN_R (k := 3) (lo := 0) (hi := 3) u2.1 u1 u3 (by show 4 * v.2.1 + 3 < 240; omega) (by omega) (by omega)
        rw [if_neg (by decide), show cal S11 8 (z + 1) (f8_readNumber S11 (z + 1) 3 0 3) = some (r''', S12) from q1, bn2_s]
        rcases q2 with ⟨rfl, ⟨t1, t2⟩, t3, t4⟩ | ⟨rfl, t⟩
        · rw [if_neg (by decide), bn2_s]
          refine ⟨S12, 1, rfl, Or.inl ⟨rfl, _, ⟨t1, OK8_tr e2 (OK8_tr y2 (OK8_tr u2 t2))⟩, KeepV_tr (KeepV_tr (KeepV_tr (KeepV_sN _ _ _) (KeepV_sN _ _ _)) (KeepV_sN _ _ _)) (KeepV_sN _ _ _), ⟨?_, fun _ => ?_, fun _ => ⟨?_, ?_⟩, fun hh => by simp at hh⟩, ?_⟩⟩
          · show upd (upd (upd (upd v.2.2.2.2.2.2 (4 * v.2.1 + 0) _) (4 * v.2.1 + 1) _) (4 * v.2.1 + 2) _) (4 * v.2.1 + 3) _ (4 * v.2.1) = _
            rw [upd_ne _ _ (by omega), upd_ne _ _ (by omega), upd_ne _ _ (by omega), Nat.add_zero, upd_self]
          · show upd (upd (upd (upd v.2.2.2.2.2.2 (4 * v.2.1 + 0) _) (4 * v.2.1 + 1) _) (4 * v.2.1 + 2) _) (4 * v.2.1 + 3) _ (4 * v.2.1 + 1) = _
            rw [upd_ne _ _ (by omega), upd_ne _ _ (by omega), upd_self]
          · show upd (upd (upd (upd v.2.2.2.2.2.2 (4 * v.2.1 + 0) _) (4 * v.2.1 + 1) _) (4 * v.2.1 + 2) _) (4 * v.2.1 + 3) _ (4 * v.2.1 + 2) = _
            rw [upd_ne _ _ (by omega), upd_self]
          · show upd (upd (upd (upd v.2.2.2.2.2.2 (4 * v.2.1 + 0) _) (4 * v.2.1 + 1) _) (4 * v.2.1 + 2) _) (4 * v.2.1 + 3) _ (4 * v.2.1 + 3) = _
            rw [upd_self]
          · have := lk_num e1
            have := lk_num y1
            have := lk_num u1
            have := lk_num t1
            show v.1 ≤ _
            omega
        · rw [if_pos rfl, bn2_s]
          exact ⟨S12, 0, rfl, Or.inr (Or.inl ⟨rfl, BDp_tr (OK8_tr e2 (OK8_tr y2 u2)) t⟩)⟩
      · rw [if_pos rfl, bn2_s, num_bad u.1]
        exact ⟨S11, 0, rfl, Or.inr (Or.inl ⟨rfl, BDp_tr (OK8_tr e2 y2) u⟩)⟩
    · rw [if_pos rfl, bn2_s, num_bad y.1, num_bad y.1]
      exact ⟨S10, 0, rfl, Or.inr (Or.inl ⟨rfl, BDp_tr e2 y⟩)⟩
  · rw [if_pos rfl, bn2_s, num_bad e.1, num_bad e.1, num_bad e.1]
    exact ⟨S5, 0, rfl, Or.inr (Or.inl ⟨rfl, e⟩)⟩
theorem restK3 {T : List Int32} {cnt : Nat} {r : Pz} : ∃ d : Nat, d = 40 ∧ restK T cnt 3 r = ((3, ((pNum T 0 (cnt - 1) r).1, 0, 0, 0), (pOp T false (d + 2) 0 (pNum T 0 (cnt - 1) r).2).1), (pOp T false (d + 2) 0 (pNum T 0 (cnt - 1) r).2).2) := ⟨40, rfl, by unfold restK; rfl⟩
theorem rest_R {m cnt : Nat} {p : Pz} (hm1 : 1 ≤ m) (hm8 : m ≤ 8) (h : PR S z T (pAt p) v) (hb : pBd p = 0) (hc : CE T p) (hk : 4 * v.2.1 + 3 < 240) (hu : v.1 ≤ pAt p) (hcn : v.2.2.1 = nI cnt) (h1 : 1 ≤ cnt) (h4 : cnt ≤ 100) : RsR z S T v (restK T cnt m p).1 (restK T cnt m p).2 (cal S 8 (z + 1) (f8_readRest S (z + 1) (nI m))) ∧ (restK T cnt m p).1.1 = m := by
  rw [cal_k (PR_k h)]
  rcases (show m = 1 ∨ m = 2 ∨ m = 3 ∨ m = 4 ∨ m = 5 ∨ m = 6 ∨ m = 7 ∨ m = 8 by omega) with rfl | rfl | rfl | rfl | rfl | rfl | rfl | rfl
  · unfold f8_readRest
    rw [if_neg (by decide), if_pos (by decide)]
    exact ⟨ed2_R (kd := 1) (lo := 0) (hi := 9) h hb hc hk hu hcn h1 h4 (by omega) (by omega) (by omega), rfl⟩
  · unfold f8_readRest
    rw [if_neg (by decide), if_neg (by decide), if_pos (by decide)]
    exact ⟨nm1_R (kd := 2) (lo := 0) (hi := 2) h hb hc hk hu (by omega) (by omega) (by omega), rfl⟩
  · obtain ⟨d, hd, hr⟩ := restK3 (T := T) (cnt := cnt) (r := p)
    rw [hr]
    unfold f8_readRest
    rw [if_neg (by decide), if_neg (by decide), if_neg (by decide), if_pos (by decide)]
    exact ⟨eds_R hd h hb hc hk hu hcn h1 h4, rfl⟩
  · unfold f8_readRest
    rw [if_neg (by decide), if_neg (by decide), if_neg (by decide), if_neg (by decide), if_pos (by decide)]
    exact ⟨ed2_R (kd := 4) (lo := 0) (hi := 99) h hb hc hk hu hcn h1 h4 (by omega) (by omega) (by omega), rfl⟩
  · unfold f8_readRest
    rw [if_neg (by decide), if_neg (by decide), if_neg (by decide), if_neg (by decide), if_neg (by decide), if_pos (by decide)]
    exact ⟨mrk_R h hb hc hk hu hcn h1 h4, rfl⟩
  · unfold f8_readRest
    rw [if_neg (by decide), if_neg (by decide), if_neg (by decide), if_neg (by decide), if_neg (by decide), if_neg (by decide), if_pos (by decide)]
    exact ⟨ed1_R (kd := 6) h hb hc hk hu hcn h1 h4 (by omega), rfl⟩
  · unfold f8_readRest
    rw [if_neg (by decide), if_neg (by decide), if_neg (by decide), if_neg (by decide), if_neg (by decide), if_neg (by decide), if_neg (by decide), if_pos (by decide)]
    exact ⟨ed1_R (kd := 7) h hb hc hk hu hcn h1 h4 (by omega), rfl⟩
  · unfold f8_readRest
    rw [if_neg (by decide), if_neg (by decide), if_neg (by decide), if_neg (by decide), if_neg (by decide), if_neg (by decide), if_neg (by decide), if_neg (by decide), if_pos (by decide)]
    exact ⟨nm1_R (kd := 8) (lo := 1) (hi := 99) h hb hc hk hu (by omega) (by omega) (by omega), rfl⟩
end T7
