/-! ===== PART II, the class: the server's text with its writers ===== -/
def zipW : List Int32 → List Int32 → List Int32
  | v :: a, w :: b => rvI w v :: zipW a b
  | _, _ => []
theorem zipW_len : ∀ (a b : List Int32), a.length = b.length → (zipW a b).length = a.length := by
  intro a
  induction a with
  | nil => intro b _; cases b <;> rfl
  | cons v a ih =>
    intro b h
    cases b with
    | nil => cases h
    | cons w b => rw [zipW, List.length_cons, List.length_cons, ih b (by simpa using h)]
theorem zipW_tail (a b : List Int32) : zipW a.tail b.tail = (zipW a b).tail := by
  cases a with
  | nil => cases b <;> rfl
  | cons v a =>
    cases b with
    | nil => cases a <;> rfl
    | cons w b => rfl
theorem zipW_head {a b : List Int32} (h : a.length = b.length) : (zipW a b).headD 0 = rvI (b.headD 0) (a.headD 0) := by
  cases a with
  | nil =>
    cases b with
    | nil => decide
    | cons w b => cases h
  | cons v a =>
    cases b with
    | nil => cases h
    | cons w b => rfl
theorem chgX_zip (c : Int32) : ∀ (A a b : List Int32), a.length = b.length → chgX c A (zipW a b) = zipW (chgL A a) (chgC c A b) := by
  intro A
  induction A with
  | nil => intro a b _; rfl
  | cons v A ih =>
    intro a b h
    have ht : a.tail.length = b.tail.length := by rw [List.length_tail, List.length_tail, h]
    rw [chgX, chgL, chgC]
    by_cases h1 : v < 0
    · rw [if_pos h1, if_pos h1, if_pos h1, ← zipW_tail, ih _ _ ht]
    · rw [if_neg h1, if_neg h1, if_neg h1]
      by_cases h2 : v = 0
      · rw [if_pos h2, if_pos h2, if_pos h2, ← zipW_tail, ih _ _ ht, zipW_head h]; rfl
      · rw [if_neg h2, if_neg h2, if_neg h2, ih _ _ h]; rfl
def bysR (n : Nat) (row : List (Nat × List Int32)) : List Int32 := srvB 0 (List.replicate n 0) row
/-- the server's text as the class keeps it -/
def srvX (told : List Int32) (row : List (Nat × List Int32)) : List Int32 := zipW (srvT told row) (bysR told.length row)
theorem zipW_0 : ∀ t : List Int32, zipW t (List.replicate t.length 0) = t := by
  intro t
  induction t with
  | nil => rfl
  | cons v t ih =>
    rw [List.length_cons, List.replicate_succ, zipW, ih]
    unfold rvI
    rw [show (0 : Int32) <<< (5 &&& 31) = 0 from by decide, Int32.or_zero]
theorem srvX_nil (told : List Int32) : srvX told [] = told := zipW_0 told
theorem bys_ln {cnt : Nat} {told : List Int32} {row : List (Nat × List Int32)} (h : chR cnt told.length row) : (bysR told.length row).length = (srvT told row).length := by
  unfold bysR
  rw [srvB_len (cnt := cnt) row 0 (List.replicate told.length 0) (by rw [List.length_replicate]; exact h), srvT_len row told h, List.length_replicate]
theorem srvX_len {cnt : Nat} {told : List Int32} {row : List (Nat × List Int32)} (h : chR cnt told.length row) : (srvX told row).length = lenA told.length row := by
  unfold srvX
  rw [zipW_len _ _ (bys_ln h).symm, srvT_len row told h]
theorem srvX_snoc {cnt : Nat} {told : List Int32} {row : List (Nat × List Int32)} (o : Nat × List Int32) (h : chR cnt told.length row) : srvX told (row ++ [o]) = chgX (nI (row.length + 1)) o.2 (srvX told row) := by
  unfold srvX
  rw [chgX_zip _ _ _ _ (bys_ln h).symm]
  unfold bysR
  rw [srvT_app, srvB_app, Nat.zero_add]
  rfl
theorem rv_all : ∀ (v : Fin 27) (k : Fin 101), (rvI (nI k.1) (nI v.1)) &&& 31 = nI v.1 ∧ (rvI (nI k.1) (nI v.1)) >>> (5 &&& 31) = nI k.1 := by decide +kernel
theorem zipW_get : ∀ (a b : List Int32), a.length = b.length → (∀ v ∈ a, okP v) → (∀ w ∈ b, ∃ j : Nat, j ≤ 100 ∧ w = nI j) → ltr (zipW a b) = a ∧ (zipW a b).map (fun v : Int32 => v >>> ((5 : Int32) &&& 31)) = b := by
  intro a
  induction a with
  | nil => intro b h _ _; cases b with
    | nil => exact ⟨rfl, rfl⟩
    | cons w b => cases h
  | cons v a ih =>
    intro b h ha hb
    cases b with
    | nil => cases h
    | cons w b =>
      obtain ⟨i1, i2⟩ := ih b (by simpa using h) (fun x hx => ha x (List.mem_cons_of_mem _ hx)) (fun x hx => hb x (List.mem_cons_of_mem _ hx))
      obtain ⟨n, n1, n2, rfl⟩ := ha v List.mem_cons_self
      obtain ⟨j, j1, rfl⟩ := hb w List.mem_cons_self
      have hr := rv_all ⟨n, by omega⟩ ⟨j, by omega⟩
      constructor
      · show (rvI (nI j) (nI n) &&& 31) :: ltr (zipW a b) = _
        rw [i1, hr.1]
      · show (rvI (nI j) (nI n) >>> (5 &&& 31)) :: (zipW a b).map (fun v : Int32 => v >>> ((5 : Int32) &&& 31)) = _
        rw [i2, hr.2]
/-- what stands in the server's text -/
theorem srvX_get {cnt : Nat} {told : List Int32} {row : List (Nat × List Int32)} (h : chR cnt told.length row) (hok : ∀ v ∈ told, okP v) (hl : row.length ≤ 100) : ltr (srvX told row) = srvT told row ∧ (srvX told row).map (fun v : Int32 => v >>> ((5 : Int32) &&& 31)) = bysR told.length row := by
  unfold srvX
  refine zipW_get _ _ (bys_ln h).symm (srv_okP row told hok h) (fun w hw => ?_)
  obtain ⟨j, j1, j2⟩ := srvB_num row 0 100 (List.replicate told.length 0) (by omega) (fun v hv => ⟨0, by omega, (List.mem_replicate.mp hv).2⟩) w hw
  exact ⟨j, j1, j2⟩
theorem srvX_wr {cnt : Nat} {told : List Int32} {row : List (Nat × List Int32)} (h : chR cnt told.length row) (hok : ∀ v ∈ told, okP v) (hl : row.length ≤ 100) (k : Nat) : (srvX told row).getD k 0 >>> (5 &&& 31) = (bysR told.length row).getD k 0 := by
  rw [← (srvX_get h hok hl).2, List.getD_eq_getElem?_getD, List.getD_eq_getElem?_getD, List.getElem?_map]
  cases (srvX told row)[k]? with
  | none => decide
  | some v => rfl
theorem bysR_num (n : Nat) (row : List (Nat × List Int32)) : ∀ v ∈ bysR n row, ∃ j : Nat, j ≤ row.length ∧ v = nI j := srvB_num row 0 row.length (List.replicate n 0) (by omega) (fun v hv => ⟨0, by omega, (List.mem_replicate.mp hv).2⟩)
/-- the owner of an operation of the row, as the class tells it -/
def ownI (row : List (Nat × List Int32)) (v : Int32) : Int32 := match ownOf row v with
  | none => -1
  | some o => nI o
theorem owner_W {S : CS} {w r g : Nat} {row : List (Nat × List Int32)} (hS : WdS S w r g) (hRw : RwS S r) (hRM : RwM S r row) (h11 : cI S w 11 = nI row.length) {j : Nat} (hj : j ≤ row.length) : f10_ownerOf S w (nI j) = some (ownI row (nI j)) := by
  have hl := hRM.1
  unfold f10_ownerOf ownI ownOf
  by_cases h0 : j = 0
  · subst h0
    rw [if_pos (show nI 0 < (1 : Int32) by decide), if_pos (show nI 0 = (0 : Int32) from rfl)]
    rfl
  · have hge := List.getElem?_eq_getElem (show j - 1 < row.length by omega)
    rw [if_neg (show ¬ nI j < (1 : Int32) from nI_nlt (b := 1) (by omega) (by omega)), gi_k hS.1, h11, Option.bind_some, if_neg (nI_nlt (by omega) (by omega)), gr_k hS.1 hS.2.1.1, Option.bind_some, gr_k hRw.1 hRw.2.1.2.2, Option.bind_some, show nI j - 1 = nI (j - 1) from nI_sub (b := 1) (by omega), ldi_k hRw.2.2.2.2.1.1 (by have := hRw.2.2.2.2.1.2; omega) (by have := hRw.2.2.2.2.1.2; omega), (hRM.2 _ _ hge).2, Option.bind_some, Option.bind_some, if_neg (nI_ne0 (by omega) (by omega)), nI_toInt (by omega), show ((j : Int)).toNat = j from rfl, hge]
    rfl
theorem own_eq {row : List (Nat × List Int32)} {v : Int32} {e : Nat} (he : e < 1000) (hr : ∀ o ∈ row, o.1 < 1000) : (if ownI row v = nI e then some (0 : Int32) else some (1 : Int32)) = some (nI (if ¬ ownOf row v = some e then 1 else 0)) := by
  unfold ownI
  cases h : ownOf row v with
  | none =>
    dsimp only
    rw [if_neg (fun hh => by
      have := congrArg Int32.toInt hh
      rw [nI_toInt (by omega), show (-1 : Int32).toInt = -1 from by decide] at this
      omega), if_pos (fun hh => by cases hh)]
    rfl
  | some o =>
    dsimp only
    have ho : o < 1000 := by
      unfold ownOf at h
      split at h
      · cases h
      · obtain ⟨x, hx, rfl⟩ := Option.map_eq_some_iff.mp h
        exact hr x (List.mem_of_getElem? hx)
    by_cases hoe : o = e
    · subst hoe
      rw [if_pos rfl, if_neg (fun hh => hh rfl)]; rfl
    · rw [if_neg (fun hh => hoe (by
        have := congrArg Int32.toInt hh
        rw [nI_toInt (by omega), nI_toInt (by omega)] at this
        omega)), if_pos (fun hh => hoe (Option.some.inj hh))]; rfl
/-- letters of others -/
def cutN (row : List (Nat × List Int32)) (e : Nat) : List Int32 → Nat
  | [] => 0
  | v :: b => (if ¬ ownOf row v = some e then 1 else 0) + cutN row e b
theorem cutF_cut (row : List (Nat × List Int32)) (e : Nat) (A : List Int32) : ∀ (n : Nat) (b : List Int32), n ≤ b.length → cutF row e (List.replicate n (-1) ++ A) b = cutN row e (b.take n) + cutF row e A (b.drop n) := by
  intro n
  induction n with
  | zero => intro b _; simp [cutN]
  | succ n ih =>
    intro b hb
    cases b with
    | nil => simp at hb
    | cons v b =>
      rw [List.replicate_succ, List.cons_append, cutF, List.take_succ_cons, cutN, List.drop_succ_cons, if_pos (show (-1 : Int32) ≤ 0 by decide), List.tail_cons, ih b (by simpa using hb), List.headD_cons]
      by_cases h : ownOf row v = some e
      · rw [if_neg (fun hh => hh.2 h), if_neg (fun hh => hh h)]; omega
      · rw [if_pos ⟨rfl, h⟩, if_pos h]; omega
theorem cutF_keep (row : List (Nat × List Int32)) (e : Nat) (A : List Int32) : ∀ (n : Nat) (b : List Int32), cutF row e (List.replicate n 0 ++ A) b = cutF row e A (b.drop n) := by
  intro n
  induction n with
  | zero => intro b; simp
  | succ n ih =>
    intro b
    rw [List.replicate_succ, List.cons_append, cutF, if_neg (fun hh => absurd hh.1 (by decide)), if_pos (show (0 : Int32) ≤ 0 by decide), ih, Nat.zero_add, List.drop_tail]
theorem cutN_le (row : List (Nat × List Int32)) (e : Nat) : ∀ b : List Int32, cutN row e b ≤ b.length := by
  intro b
  induction b with
  | nil => exact Nat.le_refl _
  | cons v b ih => rw [cutN, List.length_cons]; split <;> omega
/-- the letters of others that are cut -/
theorem cutC_in {S : CS} {w r g e c1 : Nat} {c5 : Int32} {row : List (Nat × List Int32)} {told : List Int32} {cnt : Nat} (hS : WdS S w r g) (hRw : RwS S r) (hRM : RwM S r row) (h11 : cI S w 11 = nI row.length) (hT : TxL S (w + 1) (srvX told row)) (hch : chR cnt told.length row) (hok : ∀ v ∈ told, okP v) (he : e < 1000) (hr : ∀ o ∈ row, o.1 < 1000) :
    ∀ (d n k a : Nat), a + d ≤ (srvX told row).length → d < n → LX10_countForeignCuts_60 w c1 (nI e) c5 (nI (a + d)) S n (nI k) (nI a) = some (nI (k + cutN row e (((bysR told.length row).drop a).take d)), nI (a + d)) := by
  have hl := hRM.1
  have hb := TxL_bd hT
  have hbl := bys_ln hch
  have hsl : (srvX told row).length = (srvT told row).length := by rw [srvX_len hch, srvT_len row told hch]
  intro d
  induction d with
  | zero =>
    intro n k a ha hn
    obtain ⟨n, rfl⟩ : ∃ j, n = j + 1 := ⟨n - 1, by omega⟩
    unfold LX10_countForeignCuts_60
    rw [if_pos (nI_le (by omega) (by omega)), List.take_zero]
    rfl
  | succ d ih =>
    intro n k a ha hn
    obtain ⟨n, rfl⟩ : ∃ j, n = j + 1 := ⟨n - 1, by omega⟩
    have hal : a < (bysR told.length row).length := by omega
    have hge := List.getElem?_eq_getElem hal
    generalize hv : (bysR told.length row)[a] = v at hge
    obtain ⟨j, j1, j2⟩ := bysR_num told.length row v (List.mem_of_getElem? hge)
    subst j2
    unfold LX10_countForeignCuts_60
    rw [if_neg (nI_ge (by omega) (by omega)), gr_k hS.1 hS.2.1.2.2.1, Option.bind_some, cal_k (TxL_kd hT), wrtOf hT, nI_toInt (by omega), if_pos ⟨by omega, by omega⟩, show ((a : Int)).toNat = a from rfl, srvX_wr hch hok hl, List.getD_eq_getElem?_getD, hge, Option.getD_some, Option.bind_some, cal_k hS.1, owner_W hS hRw hRM h11 j1, Option.bind_some, own_eq he hr, Option.bind_some, nI_add, nI_1]
    have := ih n (k + (if ¬ ownOf row (nI j) = some e then 1 else 0)) (a + 1) (by omega) (by omega)
    rw [show a + 1 + d = a + (d + 1) by omega] at this
    rw [this]
    congr 2
    rw [(drop_get hge).1, List.take_succ_cons, cutN]
    congr 1
    omega
theorem cutC_loop {S : CS} {w r g e o : Nat} {row : List (Nat × List Int32)} {told : List Int32} {cnt : Nat} {R : List Pt} (hS : WdS S w r g) (hRw : RwS S r) (hRM : RwM S r row) (h11 : cI S w 11 = nI row.length) (hT : TxL S (w + 1) (srvX told row)) (hch : chR cnt told.length row) (hok : ∀ v ∈ told, okP v) (he : e < 1000) (hr : ∀ o ∈ row, o.1 < 1000) (hO : OpR S o R) :
    ∀ (d i n k a : Nat), i + d = R.length → d < n → a + oldL (decF (R.reverse.drop i)) = (srvX told row).length → LX10_countForeignCuts_8 w o (nI e) S n (nI k) (nI a) (nI i) = some (nI (k + cutF row e (decF (R.reverse.drop i)) ((bysR told.length row).drop a))) := by
  have hb := TxL_bd hT
  have hbl := bys_ln hch
  have hsl : (srvX told row).length = (srvT told row).length := by rw [srvX_len hch, srvT_len row told hch]
  have hFU := FU_gt
  intro d
  induction d with
  | zero =>
    intro i n k a hi hn ho
    obtain ⟨n, rfl⟩ : ∃ j, n = j + 1 := ⟨n - 1, by omega⟩
    obtain ⟨y1, y2⟩ := pt_sz hO
    have hd : R.reverse.drop i = [] := List.drop_eq_nil_of_le (by rw [List.length_reverse]; omega)
    rw [hd]
    unfold LX10_countForeignCuts_8
    rw [y1, Option.bind_some, if_pos (nI_le (by omega) (by omega))]
    rfl
  | succ d ih =>
    intro i n k a hi hn ho
    obtain ⟨n, rfl⟩ : ∃ j, n = j + 1 := ⟨n - 1, by omega⟩
    obtain ⟨y1, y2⟩ := pt_sz hO
    obtain ⟨x, L, hd⟩ : ∃ x L, R.reverse.drop i = x :: L := by
      cases hd : R.reverse.drop i with
      | nil => have := pt_end (by omega) hd; omega
      | cons x L => exact ⟨x, L, rfl⟩
    obtain ⟨hxo, hil, hdr, a', g1, g2⟩ := pt_at hO hd
    have hol := oldL_dec (l := L) hxo
    rw [hd] at ho ⊢
    have e1 := pc_le31 hxo
    have e2 := pc_ge0 hxo
    unfold LX10_countForeignCuts_8
    rw [y1, Option.bind_some, if_neg (nI_ge hil (by omega)), g1, Option.bind_some, g2, Option.bind_some, decF]
    unfold dec1
    rcases id hxo with ⟨k1, k2, k3⟩ | ⟨k1, k2, k3⟩ | ⟨k1, k2, k3⟩
    · have hpp : pc x = nI (31 + x.2) := by unfold pc; rw [if_pos k1]
      have hd1 : pc x - 31 = nI x.2 := by rw [hpp, show (31 : Int32) = nI 31 from rfl, nI_sub (by omega), Nat.add_sub_cancel_left]
      rw [if_neg (by omega)] at hol
      have := cutC_in (c1 := o) (c5 := nI i) hS hRw hRM h11 hT hch hok he hr 0 FU k (a + x.2) (by omega) (by omega)
      rw [List.take_zero] at this
      have t2 : LX10_countForeignCuts_60 w o (nI e) (nI i) (nI (a + x.2)) S FU (nI k) (nI (a + x.2)) = some (nI k, nI (a + x.2)) := this
      rw [if_neg (fun hh => e1.mp hh k1), hd1, nI_add, Option.bind_some, if_pos (e2.mpr (by omega)), Option.bind_some, t2, bn2_s, nI_1, if_pos k1, cutF_keep, List.drop_drop]
      have := ih (i + 1) n k (a + x.2) (by omega) (by omega) (by rw [hdr]; omega)
      rw [hdr] at this
      exact this
    · rw [if_pos k1] at hol
      have := cutC_in (c1 := o) (c5 := nI i) hS hRw hRM h11 hT hch hok he hr 0 FU k a (by omega) (by omega)
      rw [List.take_zero] at this
      have t2 : LX10_countForeignCuts_60 w o (nI e) (nI i) (nI a) S FU (nI k) (nI a) = some (nI k, nI a) := this
      obtain ⟨u1, u2, u3, u4, u5⟩ := okP3 (v := nI x.2) ⟨x.2, k2, k3, rfl⟩
      rw [if_pos (e1.mpr (by omega)), Option.bind_some, if_pos (e2.mpr (by omega)), Option.bind_some, t2, bn2_s, nI_1, if_neg (by omega), if_pos k1, List.singleton_append, cutF, if_neg (fun hh => by
        have := congrArg Int32.toInt hh.1
        rw [nI_toInt (by omega), show (-1 : Int32).toInt = -1 from by decide] at this
        omega), Nat.zero_add, if_neg (show ¬ nI x.2 ≤ (0 : Int32) from nI_ge (a := 0) (by omega) (by omega))]
      have := ih (i + 1) n k a (by omega) (by omega) (by rw [hdr]; omega)
      rw [hdr] at this
      exact this
    · have hpp : pc x = -(nI x.2) := by unfold pc; rw [if_neg (by omega), if_neg (by omega)]
      rw [if_neg (by omega)] at hol
      have t2 := cutC_in (c1 := o) (c5 := nI i) hS hRw hRM h11 hT hch hok he hr x.2 FU k a (by omega) (by omega)
      rw [if_pos (e1.mpr (by omega)), Option.bind_some, if_neg (fun hh => e2.mp hh k1), hpp, Int32.sub_neg, nI_add, Option.bind_some, t2, bn2_s, nI_1, if_neg (by omega), if_neg (by omega), cutF_cut row e _ _ _ (by rw [List.length_drop]; omega), List.drop_drop]
      have := ih (i + 1) n (k + cutN row e (((bysR told.length row).drop a).take x.2)) (a + x.2) (by omega) (by omega) (by rw [hdr]; omega)
      rw [hdr] at this
      rw [this, Nat.add_assoc]
theorem cuts_W {S : CS} {w r g e o : Nat} {row : List (Nat × List Int32)} {told A : List Int32} {cnt : Nat} (hS : WdS S w r g) (hRw : RwS S r) (hRM : RwM S r row) (h11 : cI S w 11 = nI row.length) (hT : TxL S (w + 1) (srvX told row)) (hch : chR cnt told.length row) (hok : ∀ v ∈ told, okP v) (he : e < 1000) (hr : ∀ o ∈ row, o.1 < 1000) (hO : OpL S o A) (ho : oldL A = (srvX told row).length) (hl : A.length ≤ 1000) : f10_countForeignCuts S w o (nI e) = some (nI (cutF row e A (bysR told.length row))) := by
  obtain ⟨R, hR, rfl⟩ := hO
  have h1 := len_dec hR.1
  have hFU := FU_gt
  have := cutC_loop hS hRw hRM h11 hT hch hok he hr hR R.length 0 FU 0 0 (by omega) (by omega) (by rw [List.drop_zero, decF_R, Nat.zero_add]; exact ho)
  rw [List.drop_zero, decF_R, Nat.zero_add, List.drop_zero] at this
  have t2 : LX10_countForeignCuts_8 w o (nI e) S FU 0 0 0 = some (nI (cutF row e (decR R) (bysR told.length row))) := this
  unfold f10_countForeignCuts
  rw [t2, Option.bind_some]
