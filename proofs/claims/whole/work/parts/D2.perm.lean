/-! ===== PART II, the class: in which order they come ===== -/
def fac : Nat → Nat
  | 0 => 1
  | n + 1 => fac n * (n + 1)
def waitL (on : Nat → Bool) : Nat → List Nat
  | 0 => []
  | n + 1 => waitL on n ++ (if on n then [n] else [])
def digL (m r : Nat) : Nat → Nat → List Nat
  | 0, _ => []
  | d + 1, k => dig m r k :: digL m r d (k + 1)
def takes (ties cnt : Nat) : List Nat → Wd → Wd
  | [], W => W
  | e :: l, W => takes ties cnt l (takeW ties cnt e W)
/-- the rest-th order of those that are free -/
def clsO : Nat → List Nat → Nat → List Nat
  | 0, _, _ => []
  | d + 1, fr, rest => fr.getD (rest / fac d) 0 :: clsO d (fr.eraseIdx (rest / fac d)) (rest % fac d)
def ordsTo (ok : Nat → Bool) (m : Nat) : Nat → List (List Nat)
  | 0 => []
  | r + 1 => ordsTo ok m r ++ (if ok r then [digL m r m 0] else [])
theorem seqD_takes (ties cnt m r : Nat) : ∀ (d k : Nat) (W : Wd), seqD ties cnt m r d k W = takes ties cnt (digL m r d k) W := by
  intro d
  induction d with
  | zero => intro k W; rfl
  | succ d ih => intro k W; rw [seqD, digL, takes, ih]
theorem endsTo_map {ok : Nat → Bool} {m : Nat} {F : List Nat → List Int32} : ∀ R : Nat, endsTo ok (fun r => F (digL m r m 0)) R = (ordsTo ok m R).map F := by
  intro R
  induction R with
  | zero => rfl
  | succ R ih =>
    rw [endsTo, ordsTo, List.map_append, ih]
    split <;> rfl
theorem perm16 : ∀ s : Fin 16, ordsTo (fun r => ordB (fun e => s.1.testBit e) (waitL (fun e => s.1.testBit e) 4).length r (waitL (fun e => s.1.testBit e) 4).length 0 0) (waitL (fun e => s.1.testBit e) 4).length (4 ^ (waitL (fun e => s.1.testBit e) 4).length) = (List.range (fac (waitL (fun e => s.1.testBit e) 4).length)).map (fun n => clsO (waitL (fun e => s.1.testBit e) 4).length (waitL (fun e => s.1.testBit e) 4) n) := by decide +kernel
theorem mask16 : ∀ b0 b1 b2 b3 : Bool, ∃ s : Fin 16, s.1.testBit 0 = b0 ∧ s.1.testBit 1 = b1 ∧ s.1.testBit 2 = b2 ∧ s.1.testBit 3 = b3 := by decide
theorem mask_of (on : Nat → Bool) : ∃ s : Fin 16, ∀ e, e < 4 → on e = s.1.testBit e := by
  obtain ⟨s, h0, h1, h2, h3⟩ := mask16 (on 0) (on 1) (on 2) (on 3)
  refine ⟨s, fun e he => ?_⟩
  rcases (show e = 0 ∨ e = 1 ∨ e = 2 ∨ e = 3 by omega) with rfl | rfl | rfl | rfl
  · exact h0.symm
  · exact h1.symm
  · exact h2.symm
  · exact h3.symm
theorem ordB_cg {on on' : Nat → Bool} {m r : Nat} (h : ∀ e, e < 4 → on e = on' e) : ∀ (d k met : Nat), ordB on m r d k met = ordB on' m r d k met := by
  intro d
  induction d with
  | zero => intro k met; rfl
  | succ d ih => intro k met; rw [ordB, ordB, ih, h (dig m r k) (Nat.mod_lt _ (by omega))]
theorem waitL_cg {on on' : Nat → Bool} : ∀ n, (∀ e, e < n → on e = on' e) → waitL on n = waitL on' n := by
  intro n
  induction n with
  | zero => intro _; rfl
  | succ n ih => intro h; rw [waitL, waitL, ih (fun e he => h e (by omega)), h n (by omega)]
theorem waitL_ge {on : Nat → Bool} {cnt : Nat} (h : ∀ e, cnt ≤ e → on e = false) : ∀ d, waitL on (cnt + d) = waitL on cnt := by
  intro d
  induction d with
  | zero => rfl
  | succ d ih => rw [← Nat.add_assoc, waitL, ih, h _ (by omega)]; simp
theorem waitL_len (on : Nat → Bool) (n : Nat) : (waitL on n).length = sndN on n := by
  induction n with
  | zero => rfl
  | succ n ih => rw [waitL, sndN, List.length_append, ih]; split <;> rfl
theorem waitL_mem {on : Nat → Bool} {n e : Nat} (h : e ∈ waitL on n) : e < n ∧ on e = true := by
  induction n with
  | zero => simp [waitL] at h
  | succ n ih =>
    rw [waitL, List.mem_append] at h
    rcases h with h | h
    · obtain ⟨a, b⟩ := ih h; exact ⟨by omega, b⟩
    · split at h
      · rename_i hn
        have : e = n := by simpa using h
        subst this
        exact ⟨by omega, hn⟩
      · simp at h
theorem waitL_nodup (on : Nat → Bool) (n : Nat) : (waitL on n).Nodup := by
  induction n with
  | zero => exact List.nodup_nil
  | succ n ih =>
    rw [waitL]
    split
    · refine List.nodup_append.mpr ⟨ih, by simp, fun a ha b hb => ?_⟩
      have := waitL_mem ha
      have : b = n := by simpa using hb
      omega
    · simpa using ih
theorem ordsTo_cg {ok ok' : Nat → Bool} {m : Nat} (h : ∀ r, ok r = ok' r) (R : Nat) : ordsTo ok m R = ordsTo ok' m R := by
  induction R with
  | zero => rfl
  | succ R ih => rw [ordsTo, ordsTo, ih, h]
/-- those that wait -/
def wtA (A : St) : List Nat := waitL (onW (aCnt A) (aW A)) (aCnt A)
theorem ends_cls {A : St} (hc : aCnt A ≤ 4) : endsA A = (List.range (fac (wtA A).length)).map (fun n => srvT (aTold A) (wRow (takes (aTies A) (aCnt A) (clsO (wtA A).length (wtA A) n) (aW A)))) := by
  obtain ⟨s, hs⟩ := mask_of (onW (aCnt A) (aW A))
  have hoff : ∀ e, aCnt A ≤ e → onW (aCnt A) (aW A) e = false := fun e he => by unfold onW; rw [decide_eq_false (by omega)]; rfl
  have hw : wtA A = waitL (fun e => s.1.testBit e) 4 := by
    unfold wtA
    have := waitL_ge hoff (4 - aCnt A)
    rw [show aCnt A + (4 - aCnt A) = 4 by omega] at this
    rw [← this]
    exact waitL_cg 4 (fun e he => hs e he)
  have hm : ordM A = (wtA A).length := (waitL_len _ _).symm
  unfold endsA
  rw [hm]
  have e1 : enW A (wtA A).length = fun r => (fun l => srvT (aTold A) (wRow (takes (aTies A) (aCnt A) l (aW A)))) (digL (wtA A).length r (wtA A).length 0) := by
    funext r
    unfold enW
    rw [seqD_takes]
  have e3 := endsTo_map (ok := okW A (wtA A).length) (m := (wtA A).length) (F := fun l => srvT (aTold A) (wRow (takes (aTies A) (aCnt A) l (aW A)))) (4 ^ (wtA A).length)
  rw [e1, e3]
  have e2 : ordsTo (okW A (wtA A).length) (wtA A).length (4 ^ (wtA A).length) = (List.range (fac (wtA A).length)).map (fun n => clsO (wtA A).length (wtA A) n) := by
    rw [hw, ← perm16 s]
    exact ordsTo_cg (fun r => ordB_cg hs _ _ _) _
  rw [e2, List.map_map]
  rfl
theorem fac_pos (n : Nat) : 0 < fac n := by
  induction n with
  | zero => decide
  | succ n ih => rw [fac]; exact Nat.mul_pos ih (by omega)
theorem fac_le : ∀ n, n ≤ 4 → fac n ≤ 24 := by decide
/-- how many parts letters are, the last letter first -/
def prtR : List Int32 → Nat
  | [] => 0
  | v :: l => (if 0 < v ∨ l.head? ≠ some v then 1 else 0) + prtR l
theorem prt_rep {c : Int32} (hc : ¬ 0 < c) {l : List Int32} (h : l.head? ≠ some c) : ∀ n, prtR (List.replicate (n + 1) c ++ l) = 1 + prtR l ∧ (List.replicate (n + 1) c ++ l).head? = some c := by
  intro n
  induction n with
  | zero => exact ⟨by show (if 0 < c ∨ l.head? ≠ some c then 1 else 0) + prtR l = _; rw [if_pos (Or.inr h)], rfl⟩
  | succ n ih =>
    obtain ⟨h1, h2⟩ := ih
    rw [List.replicate_succ, List.cons_append]
    refine ⟨?_, rfl⟩
    rw [prtR, if_neg (fun hh => hh.elim hc (fun h3 => h3 h2)), h1, Nat.zero_add]
def lstP (x : Pt) : Int32 := if x.1 = 0 then 0 else if x.1 = 1 then nI x.2 else -1
theorem nI_gt0 {w : Nat} (h1 : 1 ≤ w) (h2 : w ≤ 26) : (0 : Int32) < nI w := z_lt (by omega) (by omega)
theorem prt_R : ∀ R : List Pt, CanR R → prtR (decR R).reverse = R.length ∧ (decR R).reverse.head? = R.head?.map lstP := by
  intro R
  induction R with
  | nil => intro _; exact ⟨rfl, rfl⟩
  | cons x r ih =>
    intro ⟨h1, h2, h3⟩
    obtain ⟨i1, i2⟩ := ih h3
    rw [decR, List.reverse_append]
    have key : ∀ c : Int32, ¬ 0 < c → lstP x = c → 1 ≤ x.2 → dec1 x = List.replicate x.2 c → (∀ y, r.head? = some y → lstP y ≠ c) → prtR ((dec1 x).reverse ++ (decR r).reverse) = (x :: r).length ∧ ((dec1 x).reverse ++ (decR r).reverse).head? = (x :: r).head?.map lstP := by
      intro c hc hl hx hd hy
      obtain ⟨n, hn⟩ : ∃ n, x.2 = n + 1 := ⟨x.2 - 1, by omega⟩
      rw [hd, List.reverse_replicate, hn]
      obtain ⟨q1, q2⟩ := prt_rep hc (l := (decR r).reverse) (by
        rw [i2]
        cases hr : r.head? with
        | none => simp
        | some y => have := hy y hr; simpa using this) n
      rw [q1, q2, i1]
      refine ⟨by rw [List.length_cons]; omega, ?_⟩
      rw [List.head?_cons, Option.map_some, hl]
    rcases h1 with ⟨a, b, _⟩ | ⟨a, b, b2⟩ | ⟨a, b, _⟩
    · refine key 0 (by decide) (by unfold lstP; rw [if_pos a]) b (by unfold dec1; rw [if_pos a]) (fun y hy => ?_)
      have hj := h2 y hy
      have hoy : okPt y := by
        cases r with
        | nil => cases hy
        | cons y' r' => have : y' = y := Option.some.inj hy; subst this; exact h3.1
      unfold lstP
      rcases hoy with ⟨c1, _⟩ | ⟨c1, c2, c3⟩ | ⟨c1, _⟩
      · exact absurd ⟨c1, a⟩ hj.1
      · rw [if_neg (by omega), if_pos c1]
        intro e
        have := nI_gt0 c2 c3
        rw [e] at this
        exact absurd this (by decide)
      · rw [if_neg (by omega), if_neg (by omega)]; decide
    · have hd : dec1 x = [nI x.2] := by unfold dec1; rw [if_neg (by omega), if_pos a]
      rw [hd]
      refine ⟨?_, ?_⟩
      · show (if 0 < nI x.2 ∨ (decR r).reverse.head? ≠ some (nI x.2) then 1 else 0) + prtR (decR r).reverse = _
        rw [if_pos (Or.inl (nI_gt0 b b2)), i1, List.length_cons]; omega
      · show some (nI x.2) = some (lstP x)
        unfold lstP; rw [if_neg (by omega), if_pos a]
    · refine key (-1) (by decide) (by unfold lstP; rw [if_neg (by omega), if_neg (by omega)]) b (by unfold dec1; rw [if_neg (by omega), if_neg (by omega)]) (fun y hy => ?_)
      have hj := h2 y hy
      have hoy : okPt y := by
        cases r with
        | nil => cases hy
        | cons y' r' => have : y' = y := Option.some.inj hy; subst this; exact h3.1
      unfold lstP
      rcases hoy with ⟨c1, _⟩ | ⟨c1, c2, c3⟩ | ⟨c1, _⟩
      · rw [if_pos c1]; decide
      · rw [if_neg (by omega), if_pos c1]
        intro e
        have := nI_gt0 c2 c3
        rw [e] at this
        exact absurd this (by decide)
      · exact absurd ⟨c1, a⟩ hj.2.1
theorem szO_eq {S S' : CS} {h h' : Nat} {l : List Int32} (h1 : OpL S h l) (h2 : OpL S' h' l) : szO S h = szO S' h' := by
  obtain ⟨R, r1, r2⟩ := h1
  obtain ⟨R', q1, q2⟩ := h2
  rw [szO_R r1, szO_R q1, ← (prt_R R r1.1).1, ← (prt_R R' q1.1).1, r2, q2]
