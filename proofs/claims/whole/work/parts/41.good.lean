/-! ===== PART II: what holds of every world: lengths and counts ===== -/
/-- the server's row, of a text of n letters -/
def chR (cnt : Nat) : Nat → List (Nat × List Int32) → Prop
  | _, [] => True
  | n, o :: l => okO o.2 ∧ o.1 < cnt ∧ oldL o.2 = n ∧ chR cnt (newL o.2) l
def lenA : Nat → List (Nat × List Int32) → Nat
  | n, [] => n
  | _, o :: l => lenA (newL o.2) l
def putsR : List (Nat × List Int32) → Nat
  | [] => 0
  | o :: l => putsL o.2 + putsR l
def cutsR : List (Nat × List Int32) → Nat
  | [] => 0
  | o :: l => cutsN o.2 + cutsR l
theorem chR_app {cnt : Nat} (s t : List (Nat × List Int32)) (n : Nat) : chR cnt n (s ++ t) ↔ chR cnt n s ∧ chR cnt (lenA n s) t := by
  induction s generalizing n with
  | nil => simp [chR, lenA]
  | cons o s ih => simp only [List.cons_append, chR, lenA, ih, and_assoc]
theorem lenA_app (s t : List (Nat × List Int32)) (n : Nat) : lenA n (s ++ t) = lenA (lenA n s) t := by
  induction s generalizing n with
  | nil => rfl
  | cons o s ih => rw [List.cons_append, lenA, lenA, ih]
theorem putsR_app (s t : List (Nat × List Int32)) : putsR (s ++ t) = putsR s + putsR t := by
  induction s with
  | nil => simp [putsR]
  | cons o s ih => rw [List.cons_append, putsR, putsR, ih]; omega
theorem lenA_cnt {cnt : Nat} : ∀ (l : List (Nat × List Int32)) (n : Nat), chR cnt n l → lenA n l + cutsR l = n + putsR l := by
  intro l
  induction l with
  | nil => intro n _; rfl
  | cons o l ih =>
    intro n h
    obtain ⟨h1, h2, h3, h4⟩ := h
    have := ih _ h4
    have c := cnt_len h1
    rw [lenA, cutsR, putsR]
    omega
theorem sumMk_R {cnt : Nat} : ∀ (l : List (Nat × List Int32)) (n : Nat), chR cnt n l → sumMk l = putsR l + cutsR l := by
  intro l
  induction l with
  | nil => intro n _; rfl
  | cons o l ih =>
    intro n h
    obtain ⟨h1, h2, h3, h4⟩ := h
    have := ih _ h4
    have c := mk_len h1 0
    rw [sumMk, cutsR, putsR]
    omega
theorem chR_get {cnt : Nat} {l : List (Nat × List Int32)} {n i : Nat} {o : Nat × List Int32} (h : chR cnt n l) (hi : l[i]? = some o) : okO o.2 ∧ o.1 < cnt ∧ oldL o.2 = lenA n (l.take i) ∧ newL o.2 = lenA n (l.take (i + 1)) ∧ putsR (l.take i) + putsL o.2 ≤ putsR l := by
  induction l generalizing n i with
  | nil => simp at hi
  | cons x l ih =>
    obtain ⟨h1, h2, h3, h4⟩ := h
    cases i with
    | zero =>
      simp at hi
      subst hi
      exact ⟨h1, h2, h3, rfl, by simp [putsR]⟩
    | succ i =>
      obtain ⟨a1, a2, a3, a4, a5⟩ := ih h4 (by simpa using hi)
      refine ⟨a1, a2, a3, a4, ?_⟩
      simp only [List.take_succ_cons, putsR]
      omega
/-- what is turned over a row -/
theorem fold_ok {cnt ties e : Nat} (hc : cnt ≤ 4) : ∀ (l : List (Nat × List Int32)) (A : List Int32) (n : Nat), okO A → oldL A = n → chR cnt n l → n + putsL A + putsR l ≤ 240 →
    fOk ties e l A ∧ okO (foldT ties e l A) ∧ oldL (foldT ties e l A) = lenA n l ∧ putsL (foldT ties e l A) = putsL A ∧ cutsN (foldT ties e l A) ≤ cutsN A := by
  intro l
  induction l with
  | nil =>
    intro A n hA ho _ hs
    have := cnt_len hA
    exact ⟨⟨hA, by omega⟩, hA, ho, rfl, Nat.le_refl _⟩
  | cons o l ih =>
    intro A n hA ho hch hs
    obtain ⟨h1, h2, h3, h4⟩ := hch
    rw [putsR] at hs
    obtain ⟨t1, t2, t3, t4, t5, t6, t7, t8, t9⟩ := turn_ok (ah := aheadB ties e o.1) hA h1 (by omega)
    have cA := cnt_len hA
    have cB := cnt_len h1
    obtain ⟨i1, i2, i3, i4, i5⟩ := ih (turnC (aheadB ties e o.1) A o.2) (newL o.2) t1 t3 h4 (by omega)
    refine ⟨⟨hA, h1, by omega, by omega, by omega, i1⟩, i2, ?_, by rw [foldT, i4]; exact t6, by rw [foldT]; omega⟩
    rw [foldT, lenA]; exact i3
theorem foldT_app (ties e : Nat) (s t : List (Nat × List Int32)) (A : List Int32) : foldT ties e (s ++ t) A = foldT ties e t (foldT ties e s A) := by
  induction s generalizing A with
  | nil => rfl
  | cons o s ih => rw [List.cons_append, foldT, foldT, ih]
/-- the chain from the server's text through what is pending and the buffer to the editor's text -/
def chE (L : Nat) (p q : Option (List Int32)) (t : Nat) : Prop := match p, q with
  | none, none => t = L
  | none, some _ => False
  | some p, none => okO p ∧ oldL p = L ∧ newL p = t
  | some p, some q => okO p ∧ okO q ∧ oldL p = L ∧ newL p = oldL q ∧ newL q = t
/-- where an editor's own operation is -/
def ownS (ties e : Nat) (rest : List (Nat × List Int32)) (p : Option (List Int32)) (left : Option Nat) : Prop := match p, left with
  | none, none => ∀ o ∈ rest, o.1 ≠ e
  | none, some _ => False
  | some _, some _ => ∀ o ∈ rest, o.1 ≠ e
  | some p, none => ∃ l1 l2, rest = l1 ++ (e, foldT ties e l1 p) :: l2 ∧ (∀ o ∈ l1, o.1 ≠ e) ∧ (∀ o ∈ l2, o.1 ≠ e)
def putsO : Option (List Int32) → Nat
  | none => 0
  | some p => putsL p
/-- letters that an editor has put and the server does not have yet -/
def unt (E : Ed) : Nat := (if (eLft E).isSome then putsO (ePnd E) else 0) + putsO (eBuf E)
/-- how many operations of it the server does not have yet -/
def untN (E : Ed) : Nat := (if (eLft E).isSome then 1 else 0) + (if (eBuf E).isSome then 1 else 0)
def sumN (f : Nat → Nat) : Nat → Nat
  | 0 => 0
  | n + 1 => sumN f n + f n
/-- letters of others that the editor does not have yet, of the row -/
def foreR (e : Nat) : List (Nat × List Int32) → Nat
  | [] => 0
  | o :: l => (if o.1 = e then 0 else putsL o.2) + foreR e l
/-- letters of others that the editor does not have yet -/
def outs (cnt e : Nat) (W : Wd) : Nat := foreR e ((wRow W).drop (eRev (wE W e))) + sumN (fun i => if i = e then 0 else unt (wE W i)) cnt
/-- what is to be cut by a stack, as it was when it came -/
def ccS : List (Nat × List Int32) → Nat
  | [] => 0
  | x :: s => (x.1 - putsL x.2) + ccS s
def capOk : List (Nat × List Int32) → Prop
  | [] => True
  | x :: s => putsL x.2 + cutsN x.2 ≤ x.1 ∧ capOk s
theorem capS_eq {s : List (Nat × List Int32)} (h : capOk s) : capS s = 3 * s.length + putsS s + ccS s := by
  induction s with
  | nil => rfl
  | cons x s ih =>
    obtain ⟨h1, h2⟩ := h
    have := ih h2
    rw [capS, putsS, ccS, List.length_cons]
    omega
def EdOk (cnt ties tl : Nat) (W : Wd) (e : Nat) : Prop :=
  eRev (wE W e) ≤ (wRow W).length ∧ eDel (wE W e) ≤ 9 ∧ (∀ k, eLft (wE W e) = some k → k ≤ 9) ∧ (∀ i, i < (wRow W).length → eCom (wE W e) i ≤ 9) ∧ (∀ v ∈ eTxt (wE W e), okP v) ∧
  chE (lenA tl ((wRow W).take (eRev (wE W e)))) (ePnd (wE W e)) (eBuf (wE W e)) (eTxt (wE W e)).length ∧
  ownS ties e ((wRow W).drop (eRev (wE W e))) (ePnd (wE W e)) (eLft (wE W e)) ∧
  ((eLft (wE W e)).isSome = true → (eSnt (wE W e)).2 ≤ eRev (wE W e) ∧ okO (eSnt (wE W e)).1 ∧ oldL (eSnt (wE W e)).1 = lenA tl ((wRow W).take (eSnt (wE W e)).2) ∧ ePnd (wE W e) = some (foldT ties e (((wRow W).drop (eSnt (wE W e)).2).take (eRev (wE W e) - (eSnt (wE W e)).2)) (eSnt (wE W e)).1)) ∧
  (eUnd (wE W e)).length ≤ 8 ∧ (eDon (wE W e)).length ≤ 8 ∧ chn (eUnd (wE W e)) (eTxt (wE W e)).length ∧ chn (eDon (wE W e)) (eTxt (wE W e)).length ∧ capOk (eUnd (wE W e)) ∧ capOk (eDon (wE W e)) ∧
  (eTxt (wE W e)).length + putsS (eUnd (wE W e)) + putsS (eDon (wE W e)) + outs cnt e W ≤ tl + wPu W ∧ ccS (eUnd (wE W e)) + ccS (eDon (wE W e)) ≤ wPu W ∧
  eCur (wE W e) ≤ (eTxt (wE W e)).length ∧ (eMks (wE W e)).length ≤ 4 ∧ (∀ x ∈ eMks (wE W e), x.1 ≤ x.2.1 ∧ x.2.1 ≤ (eTxt (wE W e)).length ∧ x.2.2 ≤ 3)
def Good (cnt ties tl : Nat) (W : Wd) : Prop :=
  cnt ≤ 4 ∧ ties ≤ 2 ∧ tl ≤ 40 ∧ wPu W ≤ 200 ∧ wEd W ≤ 100 ∧ chR cnt tl (wRow W) ∧ putsR (wRow W) + sumN (fun i => unt (wE W i)) cnt ≤ wPu W ∧ (wRow W).length + sumN (fun i => untN (wE W i)) cnt ≤ wEd W ∧ ∀ e, e < cnt → EdOk cnt ties tl W e
