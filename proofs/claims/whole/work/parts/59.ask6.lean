/-! ===== PART II, the reference: by, share ===== -/
/-- who put what bears this number -/
def ownOf (row : List (Nat × List Int32)) (v : Int32) : Option Nat := if v = 0 then none else (row[v.toInt.toNat - 1]?).map (fun o => o.1)
theorem chgC_num {c : Int32} {P : Int32 → Prop} (hc : P c) (h0 : P 0) : ∀ (A t : List Int32), (∀ v ∈ t, P v) → ∀ v ∈ chgC c A t, P v := by
  intro A
  induction A with
  | nil => intro t _ v hv; rw [chgC] at hv; simp at hv
  | cons a A ih =>
    intro t ht
    have h1 : ∀ v ∈ t.tail, P v := fun v hv => ht v (List.mem_of_mem_tail hv)
    have h2 : P (t.headD 0) := by
      cases t with
      | nil => exact h0
      | cons x t => exact ht x (by simp)
    rw [chgC]
    split
    · exact ih t.tail h1
    · split
      · intro v hv
        rcases List.mem_cons.mp hv with rfl | hv
        · exact h2
        · exact ih t.tail h1 v hv
      · intro v hv
        rcases List.mem_cons.mp hv with rfl | hv
        · exact hc
        · exact ih t ht v hv
theorem srvB_num : ∀ (l : List (Nat × List Int32)) (k N : Nat) (b : List Int32), k + l.length ≤ N → (∀ v ∈ b, ∃ j : Nat, j ≤ N ∧ v = nI j) → ∀ v ∈ srvB k b l, ∃ j : Nat, j ≤ N ∧ v = nI j := by
  intro l
  induction l with
  | nil => intro k N b _ hb; exact hb
  | cons o l ih =>
    intro k N b hk hb
    rw [List.length_cons] at hk
    exact ih (k + 1) N _ (by omega) (chgC_num (P := fun v => ∃ j : Nat, j ≤ N ∧ v = nI j) ⟨k + 1, by omega, rfl⟩ ⟨0, by omega, rfl⟩ o.2 b hb)
/-- by whom each letter of the server's text was put -/
def bysL (A : St) (n : Nat) : List Int32 := srvB 0 (List.replicate (aTold A).length 0) ((wRow (aW A)).take n)
theorem bys_num {A : St} {n : Nat} (hn : n ≤ (wRow (aW A)).length) : ∀ v ∈ bysL A n, ∃ j : Nat, j ≤ n ∧ v = nI j := by
  refine srvB_num _ 0 n _ (by rw [List.length_take]; omega) (fun v hv => ⟨0, by omega, ?_⟩)
  exact (List.eq_of_mem_replicate hv)
theorem bys_len {A : St} (hg : GA A) (n : Nat) : (bysL A n).length = (srvT (aTold A) ((wRow (aW A)).take n)).length := by
  have g6 := (GA_good hg).2.2.2.2.2.1
  have hs : (wRow (aW A)).take n ++ (wRow (aW A)).drop n = wRow (aW A) := List.take_append_drop _ _
  have hch1 : chR (aCnt A) (aTold A).length ((wRow (aW A)).take n) := by
    rw [← hs, chR_app] at g6
    exact g6.1
  unfold bysL
  rw [srvB_len _ _ _ (by rw [List.length_replicate]; exact hch1), srvT_len _ _ hch1, List.length_replicate]
theorem own_ld {M : MS} {A : St} (h : RS M A) (hg : GA A) {j : Nat} (h1 : 1 ≤ j) (hj : j ≤ (wRow (aW A)).length) : ∃ o, ownOf (wRow (aW A)) (nI j) = some o ∧ o < 4 ∧ M.2.1 36 (j - 1) = nI o := by
  have hl := row_le (GA_good hg)
  have hi : j - 1 < (wRow (aW A)).length := by omega
  have ho := List.getElem?_eq_getElem hi
  generalize (wRow (aW A))[j - 1] = o at ho
  refine ⟨o.1, ?_, ?_, ((RS_RW h).2.2.2.2.2.2.1 _ o ho).1⟩
  · unfold ownOf
    rw [if_neg (nI_ne0 (by omega) (by omega)), nI_toInt (by omega), show (j : Int).toNat - 1 = j - 1 by omega, ho]; rfl
  · have := (chR_get (GA_good hg).2.2.2.2.2.1 ho).2.1
    have := (GA_good hg).1
    omega
def qBy (A : St) (k w : Int32) : Int32 :=
  if 0 < aCnt A ∧ (0 ≤ w.toInt ∧ w.toInt ≤ 1) ∧ 0 ≤ k.toInt ∧ k.toInt < (srvT (aTold A) (wRow (aW A))).length then
    (if w = 0 then (bysL A (wRow (aW A)).length).getD k.toInt.toNat 0 else match ownOf (wRow (aW A)) ((bysL A (wRow (aW A)).length).getD k.toInt.toNat 0) with | none => -1 | some o => nI o)
  else -1
theorem by_ok {M : MS} {A : St} (h : RS M A) (hg : GA A) (k w : Int32) : ∃ M', f12_by M k w = some (qBy A k w, M') ∧ RS M' A := by
  have hl := row_le (GA_good hg)
  unfold f12_by qBy
  by_cases hc : 0 < aCnt A
  · rw [if_neg (fun hh => (told_iff h).mp hh hc), isIn_ok, i64, show (0 : Int64).toInt = 0 from by decide, show (1 : Int64).toInt = 1 from by decide, Option.bind_some]
    by_cases hw : 0 ≤ w.toInt ∧ w.toInt ≤ 1
    · rw [if_pos hw, if_neg (show ¬ (1 : Int32) = 0 from by decide), ops_ld h, Option.bind_some]
      obtain ⟨M4, s1, s2, s3, s4, s5, s6, s7⟩ := srv_ok h hg (n := (wRow (aW A)).length) (Nat.le_refl _)
      have hbl := bys_len hg (wRow (aW A)).length
      have s4' : seg (M4.2.1 48) 0 (bysL A (wRow (aW A)).length) := s4
      rw [List.take_length] at s1 s2 s3 s6 hbl
      rw [s1, bn2_s, isIn_ok, i64, i64, subI (by omega), show (0 : Int64).toInt = 0 from by decide, Option.bind_some]
      refine ⟨M4, ?_, s7⟩
      by_cases hk : 0 ≤ k.toInt ∧ k.toInt ≤ ((srvT (aTold A) (wRow (aW A))).length : Int) - 1
      · rw [if_pos hk, if_neg (show ¬ (1 : Int32) = 0 from by decide), if_pos (show 0 < aCnt A ∧ (0 ≤ w.toInt ∧ w.toInt ≤ 1) ∧ 0 ≤ k.toInt ∧ k.toInt < ((srvT (aTold A) (wRow (aW A))).length : Int) from ⟨hc, hw, hk.1, by omega⟩)]
        have hkn := ofI hk.1
        have hkl : k.toInt.toNat < (bysL A (wRow (aW A)).length).length := by omega
        have hld : ld M4 48 k = some ((bysL A (wRow (aW A)).length).getD k.toInt.toNat 0) := by
          conv => lhs; rw [hkn]
          have := s4' _ hkl
          rw [Nat.zero_add] at this
          rw [ld_n (show k.toInt.toNat < 300 by omega), this]
        obtain ⟨j, j1, j2⟩ := bys_num (A := A) (n := (wRow (aW A)).length) (Nat.le_refl _) ((bysL A (wRow (aW A)).length).getD k.toInt.toNat 0) (by
          rw [List.getD_eq_getElem?_getD, List.getElem?_eq_getElem hkl]; exact List.getElem_mem hkl)
        by_cases w0 : w = 0
        · rw [if_pos w0, if_pos w0, hld, Option.bind_some, Option.bind_some]
        · rw [if_neg w0, if_neg w0, hld, Option.bind_some, j2]
          by_cases j0 : j = 0
          · subst j0
            rw [if_pos (show nI 0 = (0 : Int32) from rfl)]; rfl
          · obtain ⟨o, o1, o2, o3⟩ := own_ld s7 hg (show 1 ≤ j by omega) j1
            rw [if_neg (nI_ne0 (by omega) (by omega)), Option.bind_some, show (1 : Int32) = nI 1 from rfl, nI_sub (by omega), ld_n (show j - 1 < 108 by omega), o3, Option.bind_some, Option.bind_some, o1]
      · rw [if_neg hk, if_pos rfl, if_neg (fun hh => hk ⟨hh.2.2.1, by omega⟩)]
    · rw [if_neg hw, if_pos rfl, if_neg (fun hh => hw hh.2.1)]; exact ⟨M, rfl, h⟩
  · rw [if_pos ((told_iff h).mpr hc), if_neg (fun hh => hc hh.1)]; exact ⟨M, rfl, h⟩
/-- how many of them are of the editor -/
def cntB (row : List (Nat × List Int32)) (e : Nat) : List Int32 → Nat
  | [] => 0
  | v :: b => (if ownOf row v = some e then 1 else 0) + cntB row e b
theorem share_loop {M : MS} {A : St} {e N : Nat} (h : RS M A) (hg : GA A) (he : e < 4) (hN : N ≤ 240) (h49 : M.1 49 = nI N) : ∀ (b : List Int32) (n i c : Nat), seg (M.2.1 48) i b → i + b.length = N → (∀ v ∈ b, ∃ j : Nat, j ≤ (wRow (aW A)).length ∧ v = nI j) → b.length < n →
    L12_share_47 (nI e) M n (nI c) (nI i) = some (nI (c + cntB (wRow (aW A)) e b)) := by
  have hl := row_le (GA_good hg)
  intro b
  induction b with
  | nil =>
    intro n i c hs hi hb hn
    obtain ⟨n, rfl⟩ : ∃ j, n = j + 1 := ⟨n - 1, by omega⟩
    rw [List.length_nil, Nat.add_zero] at hi
    unfold L12_share_47
    rw [show gF M 49 = _ from h49, if_pos (nI_le (by omega) (by omega))]; rfl
  | cons v b ih =>
    intro n i c hs hi hb hn
    rw [List.length_cons] at hi hn
    obtain ⟨n, rfl⟩ : ∃ j, n = j + 1 := ⟨n - 1, by omega⟩
    obtain ⟨s1, s2⟩ := seg_cons hs
    obtain ⟨j, j1, j2⟩ := hb v (by simp)
    have hld : ld M 48 (nI i) = some (nI j) := by rw [ld_n (show i < 300 by omega), s1, j2]
    unfold L12_share_47
    rw [show gF M 49 = _ from h49, if_neg (nI_ge (by omega) (by omega)), hld, Option.bind_some, cntB, j2]
    have hr := fun c' => ih n (i + 1) c' s2 (by omega) (fun x hx => hb x (by simp [hx])) (by omega)
    by_cases j0 : j = 0
    · subst j0
      rw [if_pos (show nI 0 ≤ (0 : Int32) from by decide), Option.bind_some, nI_1, hr, if_neg (show ¬ ownOf (wRow (aW A)) (nI 0) = some e from by unfold ownOf; rw [if_pos (show nI 0 = (0 : Int32) from rfl)]; exact fun h => by cases h), Nat.zero_add]
    · obtain ⟨o, o1, o2, o3⟩ := own_ld h hg (show 1 ≤ j by omega) j1
      rw [if_neg (nI_nle (by omega) (by omega)), Option.bind_some, show nI j - (1 : Int32) = nI (j - 1) from by rw [show (1 : Int32) = nI 1 from rfl, nI_sub (by omega)], ld_n (show j - 1 < 108 by omega), o3, Option.bind_some, o1]
      by_cases hoe : o = e
      · subst hoe
        rw [if_pos rfl, if_pos rfl, Option.bind_some, nI_1, nI_1, hr, Nat.add_assoc]
      · rw [if_neg (by rw [nI_eq (by omega) (by omega)]; exact hoe), if_neg (fun hh => hoe (Option.some.inj hh)), Option.bind_some, nI_1, hr, Nat.zero_add]
/-- how many letters that are not of the editor an operation cuts -/
def cutF (row : List (Nat × List Int32)) (e : Nat) : List Int32 → List Int32 → Nat
  | [], _ => 0
  | v :: A, b => (if v = -1 ∧ ¬ ownOf row (b.headD 0) = some e then 1 else 0) + cutF row e A (if v ≤ 0 then b.tail else b)
theorem cut_loop {M : MS} {A : St} {e N : Nat} {c3 : Int32} (h : RS M A) (hg : GA A) (he : e < 4) (hN : N ≤ 700) (h26 : M.1 26 = nI N) : ∀ (B : List Int32) (n i p c : Nat) (b : List Int32), seg (M.2.1 21) i B → seg (M.2.1 48) p b → i + B.length = N → p + b.length ≤ 300 → okO B → oldL B ≤ b.length → (∀ v ∈ b, ∃ j : Nat, j ≤ (wRow (aW A)).length ∧ v = nI j) → B.length < n →
    L12_othersCut_44 (nI e) c3 M n (nI c) (nI p) (nI i) = some (nI (c + cutF (wRow (aW A)) e B b)) := by
  have hl := row_le (GA_good hg)
  intro B
  induction B with
  | nil =>
    intro n i p c b hs hsb hi hp hB ho hb hn
    obtain ⟨n, rfl⟩ : ∃ j, n = j + 1 := ⟨n - 1, by omega⟩
    rw [List.length_nil, Nat.add_zero] at hi
    unfold L12_othersCut_44
    rw [show gF M 26 = _ from h26, if_pos (nI_le (by omega) (by omega))]; rfl
  | cons v B ih =>
    intro n i p c b hs hsb hi hp hB ho hb hn
    rw [List.length_cons] at hi hn
    obtain ⟨n, rfl⟩ : ∃ j, n = j + 1 := ⟨n - 1, by omega⟩
    obtain ⟨s1, s2⟩ := seg_cons hs
    have l1 : ld M 21 (nI i) = some v := by rw [ld_n (show i < 700 by omega), s1]
    have hB' : okO B := fun x hx => hB x (by simp [hx])
    unfold L12_othersCut_44
    rw [show gF M 26 = _ from h26, if_neg (nI_ge (by omega) (by omega)), cutF]
    rw [oldL] at ho
    rcases ok3 (hB v (by simp)) with rfl | rfl | ⟨p1, p2, p3, p4, p5⟩
    · simp only [k4, if_true] at ho
      obtain ⟨t1, t2, t3⟩ := seg_hd hsb (by omega)
      simp only [l1, k2, k3, k4, if_true, if_false, Option.bind_some, nI_1, false_and, Nat.zero_add]
      exact ih n (i + 1) (p + 1) c b.tail s2 t2 (by omega) (by omega) hB' (by omega) (fun x hx => hb x (List.mem_of_mem_tail hx)) (by omega)
    · simp only [k5, if_true] at ho
      obtain ⟨t1, t2, t3⟩ := seg_hd hsb (by omega)
      obtain ⟨j, j1, j2⟩ := hb (b.headD 0) (by
        cases b with
        | nil => simp at ho
        | cons x b => simp)
      have l2 : ld M 48 (nI p) = some (nI j) := by rw [ld_n (show p < 300 by omega), t1, j2]
      have hr := fun c' => ih n (i + 1) (p + 1) c' b.tail s2 t2 (by omega) (by omega) hB' (by omega) (fun x hx => hb x (List.mem_of_mem_tail hx)) (by omega)
      simp only [l1, l2, k5, k7, if_true, if_false, Option.bind_some, nI_1, true_and]
      rw [j2]
      by_cases j0 : j = 0
      · subst j0
        rw [if_pos (show nI 0 = (0 : Int32) from rfl), Option.bind_some, hr, if_pos (show ¬ ownOf (wRow (aW A)) (nI 0) = some e from by unfold ownOf; rw [if_pos (show nI 0 = (0 : Int32) from rfl)]; exact fun h => by cases h), Nat.add_assoc]
      · obtain ⟨o, o1, o2, o3⟩ := own_ld h hg (show 1 ≤ j by omega) j1
        rw [if_neg (nI_ne0 (by omega) (by omega)), show nI j - (1 : Int32) = nI (j - 1) from by rw [show (1 : Int32) = nI 1 from rfl, nI_sub (by omega)], ld_n (show j - 1 < 108 by omega), o3, Option.bind_some, o1]
        by_cases hoe : o = e
        · subst hoe
          rw [if_pos rfl, if_neg (fun h => h rfl), Option.bind_some, hr, Nat.zero_add]
        · rw [if_neg (by rw [nI_eq (by omega) (by omega)]; exact hoe), if_pos (fun hh => hoe (Option.some.inj hh)), Option.bind_some, hr, Nat.add_assoc]
    · simp only [p2, if_false] at ho
      simp only [l1, p1, p2, p5, if_true, if_false, Option.bind_some, nI_1, false_and, Nat.zero_add]
      exact ih n (i + 1) p c b s2 hsb (by omega) hp hB' (by omega) hb (by omega)
/-- all that an editor cut of others, up to the n-th operation -/
def othC (A : St) (e : Nat) : Nat → Nat
  | 0 => 0
  | n + 1 => othC A e n + (match (wRow (aW A))[n]? with | none => 0 | some o => if o.1 = e then cutF (wRow (aW A)) e o.2 (bysL A n) else 0)
theorem oth_loop {A : St} {e : Nat} (hg : GA A) (he : e < 4) : ∀ (d n i : Nat) (M : MS), RS M A → i + d = (wRow (aW A)).length → d < n →
    ∃ M', L12_othersCut_4 (nI e) n (nI (othC A e i)) (nI i) M = some (nI (othC A e (wRow (aW A)).length), M') ∧ RS M' A := by
  have gd := GA_good hg
  have hl := row_le gd
  have hc4 := gd.1
  intro d
  induction d with
  | zero =>
    intro n i M h hi hn
    obtain ⟨n, rfl⟩ : ∃ j, n = j + 1 := ⟨n - 1, by omega⟩
    unfold L12_othersCut_4
    rw [ops_ld h, Option.bind_some, if_pos (nI_le (by omega) (by omega)), show i = (wRow (aW A)).length by omega]
    exact ⟨M, rfl, h⟩
  | succ d ih =>
    intro n i M h hi hn
    obtain ⟨n, rfl⟩ : ∃ j, n = j + 1 := ⟨n - 1, by omega⟩
    have hlt : i < (wRow (aW A)).length := by omega
    have ho := List.getElem?_eq_getElem hlt
    generalize (wRow (aW A))[i] = o at ho
    have h36 := ((RS_RW h).2.2.2.2.2.2.1 i o ho).1
    obtain ⟨o1, o2, o3, o4, o5⟩ := chR_get gd.2.2.2.2.2.1 ho
    have hO : othC A e (i + 1) = othC A e i + (if o.1 = e then cutF (wRow (aW A)) e o.2 (bysL A i) else 0) := by rw [othC, ho]
    unfold L12_othersCut_4
    rw [ops_ld h, Option.bind_some, if_neg (nI_ge (by omega) (by omega)), ld_n (show i < 108 by omega), h36, Option.bind_some]
    by_cases hoe : o.1 = e
    · rw [if_pos hoe] at hO
      obtain ⟨M7, s1, s2, s3, s4, s5, s6, s7⟩ := srv_ok h hg (n := i) (by omega)
      have co := cnt_len o1
      have l0 := lenA_le gd.2.2.2.2.2.1 i
      have hpu := gd.2.2.2.1
      have htl := gd.2.2.1
      have hpr := gd.2.2.2.2.2.2.1
      obtain ⟨M8, a1, a2, a3⟩ := opToB_ok (RRow_op (RS_RW s7).2.2.2.2.2.2.1 (sum_le gd) ho) o1 (by omega) (by omega)
      have rs8 := RS_frm s7 a3 (by simp [scrA]) (by simp [scrF])
      have hbl := bys_len hg i
      have hT : (srvT (aTold A) ((wRow (aW A)).take i)).length = oldL o.2 := by
        have hs : (wRow (aW A)).take i ++ (wRow (aW A)).drop i = wRow (aW A) := List.take_append_drop _ _
        have hch1 : chR (aCnt A) (aTold A).length ((wRow (aW A)).take i) := by
          have := gd.2.2.2.2.2.1
          rw [← hs, chR_app] at this
          exact this.1
        rw [srvT_len _ _ hch1, o3]
      have hcut := cut_loop (c3 := nI i) rs8 hg he (show o.2.length ≤ 700 by omega) a2.1 o.2 FU 0 0 (othC A e i) (bysL A i) a2.2 (by rw [a3.1 48 (by decide)]; exact s4) (by omega) (by omega) o1 (by omega) (fun v hv => by
        obtain ⟨j, j1, j2⟩ := bys_num (A := A) (n := i) (by omega) v hv
        exact ⟨j, by omega, j2⟩) (by rw [FU_eq]; omega)
      obtain ⟨M', g1, g2⟩ := ih n (i + 1) M8 rs8 (by omega) (by omega)
      refine ⟨M', ?_, g2⟩
      rw [if_pos (by rw [hoe]), s1, bn2_s, a1, Option.bind_some, show L12_othersCut_44 (nI e) (nI i) M8 FU (nI (othC A e i)) (0 : Int32) (0 : Int32) = _ from hcut, Option.bind_some, bn2_s, nI_1, ← hO]
      exact g1
    · have hO2 : othC A e (i + 1) = othC A e i := by rw [hO, if_neg hoe]; omega
      obtain ⟨M', g1, g2⟩ := ih n (i + 1) M h (by omega) (by omega)
      refine ⟨M', ?_, g2⟩
      rw [if_neg (by rw [nI_eq (by omega) (by omega)]; exact hoe), bn2_s, nI_1, ← hO2]
      exact g1
def qShare (A : St) (e w : Int32) : Int32 := if (0 ≤ e.toInt ∧ e.toInt < aCnt A) ∧ 0 ≤ w.toInt ∧ w.toInt ≤ 1 then (if w = 1 then nI (othC A e.toInt.toNat (wRow (aW A)).length) else nI (cntB (wRow (aW A)) e.toInt.toNat (bysL A (wRow (aW A)).length))) else -1
theorem share_ok {M : MS} {A : St} (h : RS M A) (hg : GA A) (e w : Int32) : ∃ M', f12_share M e w = some (qShare A e w, M') ∧ RS M' A := by
  have gd := GA_good hg
  have hl := row_le gd
  have hc4 := gd.1
  unfold f12_share qShare
  rw [isEditor_ok h hg, Option.bind_some]
  by_cases he : 0 ≤ e.toInt ∧ e.toInt < aCnt A
  · rw [if_pos he, if_neg (show ¬ (1 : Int32) = 0 from by decide), isIn_ok, i64, show (0 : Int64).toInt = 0 from by decide, show (1 : Int64).toInt = 1 from by decide, Option.bind_some]
    by_cases hw : 0 ≤ w.toInt ∧ w.toInt ≤ 1
    · rw [if_pos hw, if_neg (show ¬ (1 : Int32) = 0 from by decide), if_pos (show (0 ≤ e.toInt ∧ e.toInt < aCnt A) ∧ 0 ≤ w.toInt ∧ w.toInt ≤ 1 from ⟨he, hw⟩)]
      have hen := ofI he.1
      have hi : e.toInt.toNat < 4 := by omega
      generalize e.toInt.toNat = i at hen hi
      subst hen
      by_cases w1 : w = 1
      · rw [if_pos w1, if_pos w1]
        obtain ⟨M', g1, g2⟩ := oth_loop hg hi (wRow (aW A)).length FU 0 M h (by omega) (by rw [FU_eq]; omega)
        refine ⟨M', ?_, g2⟩
        unfold f12_othersCut
        rw [show L12_othersCut_4 (nI i) FU (0 : Int32) (0 : Int32) M = _ from g1, bn2_s, bn2_s]
      · rw [if_neg w1, if_neg w1, ops_ld h, Option.bind_some]
        obtain ⟨M4, s1, s2, s3, s4, s5, s6, s7⟩ := srv_ok h hg (n := (wRow (aW A)).length) (Nat.le_refl _)
        have hbl := bys_len hg (wRow (aW A)).length
        have hsh := share_loop (e := i) s7 hg hi s6 s2 (bysL A (wRow (aW A)).length) FU 0 0 s4 (by omega) (bys_num (Nat.le_refl _)) (by rw [FU_eq]; omega)
        rw [Nat.zero_add] at hsh
        refine ⟨M4, ?_, s7⟩
        rw [s1, bn2_s, show L12_share_47 (nI i) M4 FU (0 : Int32) (0 : Int32) = _ from hsh, Option.bind_some]
    · rw [if_neg hw, if_pos rfl, if_neg (fun hh => hw hh.2)]; exact ⟨M, rfl, h⟩
  · rw [if_neg he, if_pos rfl, if_neg (fun hh => he hh.1)]; exact ⟨M, rfl, h⟩
