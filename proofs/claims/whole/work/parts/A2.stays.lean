/-! ===== PART II, the reference: what holds of all that there is stays ===== -/
theorem byteN_ok (x s : Int32) : ∃ w : Nat, w < 256 ∧ byteN x s = nI w := by
  unfold byteN
  generalize x >>> s = y
  have hy : y = nI y.toBitVec.toNat := by
    apply Int32.toBitVec_inj.mp
    unfold nI
    rw [Int32.toBitVec_ofNat', BitVec.ofNat_toNat, BitVec.setWidth_eq]
  refine ⟨y.toBitVec.toNat % 2 ^ 8, Nat.mod_lt _ (by decide), ?_⟩
  conv => lhs; rw [hy]
  exact fa_mask y.toBitVec.toNat 8
theorem GA_feed {A : St} (hg : GA A) (a b c d e : Int32) : GA (aFeed A a b c d e).2 := by
  unfold aFeed
  split
  · rename_i hl
    obtain ⟨h1, h2, h3, h4, h5, h6, h7, h8, h9, h10, h11, h12, h13⟩ := hg
    refine ⟨?_, fun v hv => ?_, h3, h4, h5, h6, h7, h8, h9, h10, h11, h12, h13⟩
    · show (aTape A ++ feedB a b c d e).length ≤ 1600
      rw [List.length_append]; exact hl
    · rcases List.mem_append.mp (show v ∈ aTape A ++ feedB a b c d e from hv) with hv | hv
      · exact h2 v hv
      · unfold feedB at hv
        simp only [List.mem_cons, List.not_mem_nil, or_false] at hv
        rcases hv with rfl | rfl | rfl | rfl | rfl | rfl | rfl | rfl | rfl | rfl | rfl | rfl | rfl | rfl | rfl | rfl | rfl | rfl | rfl | rfl <;> exact byteN_ok _ _
  · exact GA_sRf hg
theorem GA_end {A : St} (hg : GA A) (n : Int32) : GA (aEnd A n).2 := by
  unfold aEnd
  split
  · exact GA_sRf hg
  · obtain ⟨h1, h2, h3, h4, h5, h6, h7, h8, h9, h10, h11, h12, h13⟩ := hg
    refine ⟨?_, fun v hv => h2 v (List.mem_of_mem_take hv), h3, h4, h5, h6, h7, h8, h9, h10, h11, h12, h13⟩
    show ((aTape A).take n.toInt.toNat).length ≤ 1600
    rw [List.length_take]; omega
theorem GA_ed {A : St} {i : Nat} {op : List Int32} (hg : GA A) (hi : i < aCnt A) (hA : okO op) (ho : oldL op = (eTxt (wE (aW A) i)).length) : GA (aEd A i op).2 := by
  unfold aEd
  split
  · rename_i hc
    exact GA_keep hg (by omega) (Good_ed0 hg hi hA ho hc) hg.2.2.2.2.1 (List.prefix_refl _)
  · exact GA_sRf hg
theorem GA_put {A : St} (hg : GA A) (e at' l : Int32) : GA (aPut A e at' l).2 := by
  unfold aPut
  split
  · rename_i h
    obtain ⟨he, hl, ha⟩ := h
    obtain ⟨z1, z2, z3⟩ := lay_cnt (len := (eTxt (wE (aW A) e.toInt.toNat)).length) (kept := at'.toInt.toNat) (cut := 0) (letter := l) (by omega) (Or.inr (let_okP hl).1)
    exact GA_ed hg (by omega) z1 z2
  · exact GA_sRf hg
theorem GA_edit {A : St} (hg : GA A) (e : Int32) : GA (aEdit A e).2 := by
  unfold aEdit
  split
  · rename_i he
    split
    · rename_i h
      obtain ⟨h1, h2⟩ := h
      obtain ⟨d, -, hd⟩ := edit_eq (aTape A)
      have hs : okO (stpsL (pEdit (aTape A)).1) ∧ oldL (stpsL (pEdit (aTape A)).1) = stpsN (pEdit (aTape A)).1 := by
        rw [hd] at h1 ⊢
        exact steps_ok d 0 rd0 rfl h1
      obtain ⟨k1, k2⟩ := opTo_ok hs.1 hs.2 h2
      exact GA_ed (A := sFa A (pEdit (aTape A)).2) (GA_sFa hg) (show e.toInt.toNat < aCnt A by omega) (settle_okV k1) (by show oldL (settleL _) = _; rw [settle_old]; exact k2)
    · exact GA_sRf (GA_sFa hg)
  · exact GA_sRf (GA_sTp hg)
theorem GA_head {A : St} {i : Nat} {E : Ed} (hg : GA A) (hi : i < aCnt A) (h1 : E = sDel (sOn (sMks (sCur (wE (aW A) i) (eCur E)) (eMks E)) (eOn E)) (eDel E)) (hd : eDel E ≤ 9) (hc : eCur E ≤ (eTxt (wE (aW A) i)).length) (hm : (eMks E).length ≤ 4) (hM : ∀ x ∈ eMks E, x.1 ≤ x.2.1 ∧ x.2.1 ≤ (eTxt (wE (aW A) i)).length ∧ x.2.2 ≤ 3) : GA (sWd (keepA A) (setE (aW A) i E)) :=
  GA_keep hg (by omega) (Good_head (GA_good hg) hi h1 hd hc hm hM) hg.2.2.2.2.1 (List.prefix_refl _)
theorem GA_cursor {A : St} (hg : GA A) (e at' : Int32) : GA (aCursor A e at').2 := by
  unfold aCursor
  split
  · rename_i h
    obtain ⟨he, ha, -⟩ := h
    have hi : e.toInt.toNat < aCnt A := by omega
    obtain ⟨-, e2, -, -, -, -, -, -, -, -, -, -, -, -, -, -, e17, e18, e19⟩ := (GA_good hg).2.2.2.2.2.2.2.2 _ hi
    exact GA_head hg hi rfl e2 (show at'.toInt.toNat ≤ _ by omega) e18 e19
  · exact GA_sRf hg
theorem GA_line {A : St} (hg : GA A) (e on : Int32) : GA (aLine A e on).2 := by
  unfold aLine
  split
  · rename_i h
    obtain ⟨he, -⟩ := h
    have hi : e.toInt.toNat < aCnt A := by omega
    obtain ⟨-, e2, -, -, -, -, -, -, -, -, -, -, -, -, -, -, e17, e18, e19⟩ := (GA_good hg).2.2.2.2.2.2.2.2 _ hi
    exact GA_head hg hi rfl e2 e17 e18 e19
  · exact GA_sRf hg
theorem GA_delay {A : St} (hg : GA A) (e t : Int32) : GA (aDelay A e t).2 := by
  unfold aDelay
  split
  · rename_i h
    obtain ⟨he, ht, -⟩ := h
    have hi : e.toInt.toNat < aCnt A := by omega
    obtain ⟨-, e2, -, -, -, -, -, -, -, -, -, -, -, -, -, -, e17, e18, e19⟩ := (GA_good hg).2.2.2.2.2.2.2.2 _ hi
    exact GA_head hg hi rfl (show t.toInt.toNat ≤ 9 by omega) e17 e18 e19
  · exact GA_sRf hg
theorem GA_marks {A : St} (hg : GA A) (e f t g : Int32) : GA (aMarks A e f t g).2 := by
  unfold aMarks
  split
  · rename_i h
    obtain ⟨he, hg3, hm, hf, hft, htl⟩ := h
    have hi : e.toInt.toNat < aCnt A := by omega
    obtain ⟨-, e2, -, -, -, -, -, -, -, -, -, -, -, -, -, -, e17, e18, e19⟩ := (GA_good hg).2.2.2.2.2.2.2.2 _ hi
    refine GA_head hg hi rfl e2 e17 ?_ (fun x hx => ?_)
    · show (eMks (wE (aW A) e.toInt.toNat) ++ [(f.toInt.toNat, t.toInt.toNat, g.toInt.toNat)]).length ≤ 4
      rw [List.length_append, List.length_singleton]; omega
    · rcases List.mem_append.mp (show x ∈ eMks (wE (aW A) e.toInt.toNat) ++ [(f.toInt.toNat, t.toInt.toNat, g.toInt.toNat)] from hx) with hx | hx
      · exact e19 x hx
      · rw [List.mem_singleton.mp hx]
        exact ⟨by dsimp only; omega, by dsimp only; omega, by dsimp only; omega⟩
  · exact GA_sRf hg
theorem GA_clears {A : St} (hg : GA A) (e k : Int32) : GA (aClears A e k).2 := by
  unfold aClears
  split
  · rename_i h
    obtain ⟨he, hk⟩ := h
    have hi : e.toInt.toNat < aCnt A := by omega
    obtain ⟨-, e2, -, -, -, -, -, -, -, -, -, -, -, -, -, -, e17, e18, e19⟩ := (GA_good hg).2.2.2.2.2.2.2.2 _ hi
    refine GA_head hg hi rfl e2 e17 ?_ (fun x hx => e19 x (List.mem_of_mem_eraseIdx hx))
    show ((eMks (wE (aW A) e.toInt.toNat)).eraseIdx k.toInt.toNat).length ≤ 4
    have := List.length_eraseIdx_le (eMks (wE (aW A) e.toInt.toNat)) k.toInt.toNat
    omega
  · exact GA_sRf hg
theorem GA_ticks {A : St} (hg : GA A) (n : Int32) : GA (aTicks A n).2 := by
  unfold aTicks
  split
  · rename_i h
    obtain ⟨hc, hn, ht⟩ := h
    exact GA_keep hg hc (Good_itT _ _ (GA_good hg)) (by rw [itT_tk]; omega) (itT_pre _ _ _ _)
  · exact GA_sRf hg
theorem GA_seedA {A : St} (hg : GA A) (s : Int32) : GA (aSeedA A s).2 := by
  unfold aSeedA
  split
  · have := Int32.toInt_lt s
    exact GA_seed hg (by omega)
  · exact GA_sRf hg
theorem GA_back {A : St} (hg : GA A) : GA (aBack A).2 := by
  unfold aBack
  cases hH : aHist A with
  | nil => exact GA_sRf hg
  | cons W H =>
    obtain ⟨h1, h2, h3, h4, h5, h6, h7, h8, h9, h10, h11, h12, h13⟩ := hg
    rw [hH] at h8 h9 h10
    obtain ⟨a1, a2, a3⟩ := h9 W List.mem_cons_self
    refine ⟨h1, h2, a1, h4, a2, h6, fun hz => ?_, ?_, fun W' hW' => ?_, fun j X Y hX hY => h10 (j + 1) X Y hX hY, h11, h12, h13⟩
    · have := (h7 hz).2.2.2.2.2.1
      rw [hH] at this; cases this
    · show H.length ≤ 20
      rw [List.length_cons] at h8; omega
    · have hW2 : W' ∈ H := hW'
      obtain ⟨b1, b2, b3⟩ := h9 W' (List.mem_cons_of_mem _ hW2)
      refine ⟨b1, b2, ?_⟩
      obtain ⟨j, hj⟩ := List.getElem?_of_mem hW2
      have key : ∀ (j : Nat) (W' : Wd), H[j]? = some W' → wRow W' <+: wRow W := by
        intro j
        induction j with
        | zero => intro W' hj; exact h10 0 W W' rfl hj
        | succ j ih =>
          intro W' hj
          have hlt : j < H.length := by have := (List.getElem?_eq_some_iff.mp hj).1; omega
          obtain ⟨Z, hZ⟩ : ∃ Z, H[j]? = some Z := ⟨H[j], List.getElem?_eq_getElem hlt⟩
          exact List.IsPrefix.trans (h10 (j + 1) Z W' hZ hj) (ih Z hZ)
      exact key j W' hj
