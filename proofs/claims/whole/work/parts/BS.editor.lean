/-! ===== PART II, the class: an editor ===== -/
def EdS (S : CS) (e : Nat) : Prop := kd S e = 1 ∧ (cJ S e 0 = some (e + 1) ∧ cJ S e 1 = some (e + 3) ∧ cJ S e 2 = some (e + 5) ∧ cJ S e 3 = some (e + 7) ∧ cJ S e 4 = some (e + 25) ∧ cJ S e 5 = some (e + 43) ∧ cJ S e 6 = some (e + 44)) ∧ (kd S (e + 1) = 7 ∧ kd S (e + 3) = 4 ∧ kd S (e + 5) = 4 ∧ kd S (e + 7) = 3 ∧ kd S (e + 25) = 3) ∧ (kd S (e + 43) = 14 ∧ cN S (e + 43) = 12) ∧ (kd S (e + 44) = 14 ∧ cN S (e + 44) = 100)
theorem EdS_Sg {z c : Nat} {H : Nat → Prop} {S S' : CS} {e : Nat} (hW : Wf S) (h : EdS S e) (hs : Sg z H c S S') : EdS S' e := by
  obtain ⟨a1, ⟨j0, j1, j2, j3, j4, j5, j6⟩, ⟨k1, k3, k5, k7, k25⟩, ⟨m1, m2⟩, ⟨t1, t2⟩⟩ := h
  obtain ⟨s1, s2, s3, s4, s5, s6⟩ := hs
  have ez := kd_lt hW.1 a1 (by omega)
  have k : ∀ x c, kd S x = c → c < 99 → kd S' x = c := fun x c hx hc => by rw [(s2.2.1 x (kd_lt hW.1 hx hc)).1]; exact hx
  have j : ∀ i a, cJ S e i = some a → cJ S' e i = some a := fun i a ha => by rw [s5 e i ez (by rw [a1]; unfold Sta; omega)]; exact ha
  have n : ∀ x c m, kd S x = c → c < 99 → cN S x = m → cN S' x = m := fun x c m hx hc hm => by rw [(s2.2.1 x (kd_lt hW.1 hx hc)).2.1]; exact hm
  exact ⟨k _ _ a1 (by omega), ⟨j _ _ j0, j _ _ j1, j _ _ j2, j _ _ j3, j _ _ j4, j _ _ j5, j _ _ j6⟩, ⟨k _ _ k1 (by omega), k _ _ k3 (by omega), k _ _ k5 (by omega), k _ _ k7 (by omega), k _ _ k25 (by omega)⟩, ⟨k _ _ m1 (by omega), n _ _ _ m1 (by omega) m2⟩, ⟨k _ _ t1 (by omega), n _ _ _ t1 (by omega) t2⟩⟩
/-- a row of numbers stays where its owner does -/
theorem arr_Fo {H : Nat → Prop} {S S' : CS} {h k a : Nat} (hW : Wf S) (hj : cJ S h k = some a) (ha : kd S a = 14) (hf : Fo H S S') (hn : ¬ H h) : cA S' a = cA S a :=
  (hf.2.1 a (hW.2.1 h k a hj).2).2.2.1 ha (fun ⟨h', k', r1, r2⟩ => hn (by rw [← (hW.2.2.1 h' h k' k a r2 hj ha).1]; exact r1))
theorem fld_Fo {H : Nat → Prop} {S S' : CS} {h c : Nat} (hW : Wf S) (hk : kd S h = c) (hc : c < 99) (hf : Fo H S S') (hn : ¬ H h) : cI S' h = cI S h := ((hf.2.1 h (kd_lt hW.1 hk hc)).2.2.2 hn).1
/-- an operation that may be old -/
def OpS (S : CS) (h : Nat) (o : Option (List Int32)) : Prop := ∃ l, OpL S h l ∧ l.length ≤ 240 ∧ ∀ p, o = some p → l = p
theorem OpS_Fo {H : Nat → Prop} {S S' : CS} {h : Nat} {o : Option (List Int32)} (hW : Wf S) (hO : OpS S h o) (hf : Fo H S S') (hn : ¬ H h) : OpS S' h o := by
  obtain ⟨l, h1, h2, h3⟩ := hO
  exact ⟨l, OpL_Fo hW h1 hf hn, h2, h3⟩
theorem OpS_get {S : CS} {h : Nat} {p : List Int32} (hO : OpS S h (some p)) : OpL S h p ∧ p.length ≤ 240 := by
  obtain ⟨l, h1, h2, h3⟩ := hO
  have := h3 p rfl
  subst this
  exact ⟨h1, h2⟩
theorem OpS_some {S : CS} {h : Nat} {p : List Int32} (hO : OpL S h p) (hl : p.length ≤ 240) : OpS S h (some p) := ⟨p, hO, hl, fun q hq => Option.some.inj hq⟩
theorem OpS_none {S : CS} {h : Nat} {o : Option (List Int32)} (hO : OpS S h o) : OpS S h none := by
  obtain ⟨l, h1, h2, h3⟩ := hO
  exact ⟨l, h1, h2, fun p hp => by cases hp⟩
/-- its numbers of the line -/
def EdN (S : CS) (e : Nat) (E : Ed) : Prop := cI S e 8 = nI (eRev E) ∧ cI S e 10 = nI (eDel E) ∧ cI S e 11 = oI (eLft E) ∧ cI S e 12 = bI (ePnd E).isSome ∧ cI S e 13 = bI (eBuf E).isSome ∧ cI S e 14 = bI (eOn E)
def EdC (S : CS) (e n : Nat) (E : Ed) : Prop := ∀ i, i < n → cA S (e + 44) i = nI (eCom E i)
/-- all of the line -/
def EdLn (S : CS) (e n : Nat) (E : Ed) : Prop := EdS S e ∧ EdN S e E ∧ EdC S e n E ∧ OpS S (e + 3) (ePnd E) ∧ OpS S (e + 5) (eBuf E)
/-- its text, and what is carried along with it -/
def EdT (S : CS) (e : Nat) (E : Ed) : Prop := TxL S (e + 1) (eTxt E) ∧ InvL S (e + 7) (eUnd E) ∧ InvL S (e + 25) (eDon E)
def EdM (S : CS) (e : Nat) (E : Ed) : Prop := cI S e 7 = nI (eMks E).length ∧ cI S e 9 = nI (eCur E) ∧ mkAt (cA S (e + 43)) 0 (eMks E)
theorem EdLn_Sg {z c : Nat} {H : Nat → Prop} {S S' : CS} {e n : Nat} {E : Ed} (hW : Wf S) (h : EdLn S e n E) (hs : Sg z H c S S') (h0 : ¬ H e) (h3 : ¬ H (e + 3)) (h5 : ¬ H (e + 5)) : EdLn S' e n E := by
  obtain ⟨a1, a2, a3, a4, a5⟩ := h
  have hi := fld_Fo hW a1.1 (by omega) hs.2.1 h0
  have ha := arr_Fo hW a1.2.1.2.2.2.2.2.2 a1.2.2.2.2.1 hs.2.1 h0
  exact ⟨EdS_Sg hW a1 hs, by unfold EdN; rw [hi]; exact a2, fun i hi2 => by rw [ha]; exact a3 i hi2, OpS_Fo hW a4 hs.2.1 h3, OpS_Fo hW a5 hs.2.1 h5⟩
theorem EdT_Sg {z c : Nat} {H : Nat → Prop} {S S' : CS} {e : Nat} {E : Ed} (hW : Wf S) (h : EdT S e E) (hs : Sg z H c S S') (hn : ∀ x, x = e + 1 ∨ (e + 7 ≤ x ∧ x < e + 43) → ¬ H x) : EdT S' e E :=
  ⟨TxL_Fo hW h.1 hs.2.1 (hn _ (Or.inl rfl)), InvL_Sg hW h.2.1 hs (fun x h1 h2 => hn x (by omega)), InvL_Sg hW h.2.2 hs (fun x h1 h2 => hn x (by omega))⟩
theorem EdM_Sg {z c : Nat} {H : Nat → Prop} {S S' : CS} {e : Nat} {E : Ed} (hW : Wf S) (hE : EdS S e) (h : EdM S e E) (hs : Sg z H c S S') (hn : ¬ H e) : EdM S' e E := by
  have hi := fld_Fo hW hE.1 (by omega) hs.2.1 hn
  have ha := arr_Fo hW hE.2.1.2.2.2.2.2.1 hE.2.2.2.1.1 hs.2.1 hn
  unfold EdM
  rw [hi, ha]
  exact h
theorem mkAt_ap {f : Nat → Int32} : ∀ (l m : List (Nat × Nat × Nat)) (a : Nat), mkAt f a (l ++ m) ↔ mkAt f a l ∧ mkAt f (a + 3 * l.length) m := by
  intro l
  induction l with
  | nil => intro m a; simp [mkAt]
  | cons x l ih =>
    intro m a
    rw [List.cons_append, mkAt, mkAt, ih, List.length_cons, show a + 3 + 3 * l.length = a + 3 * (l.length + 1) by omega]
    constructor
    · rintro ⟨h1, h2, h3, h4, h5⟩; exact ⟨⟨h1, h2, h3, h4⟩, h5⟩
    · rintro ⟨⟨h1, h2, h3, h4⟩, h5⟩; exact ⟨h1, h2, h3, h4, h5⟩
theorem mkAt_cg {f f' : Nat → Int32} : ∀ (l : List (Nat × Nat × Nat)) (a : Nat), (∀ j, a ≤ j → j < a + 3 * l.length → f' j = f j) → mkAt f a l → mkAt f' a l := by
  intro l
  induction l with
  | nil => intro a _ _; trivial
  | cons x l ih =>
    intro a h ⟨h1, h2, h3, h4⟩
    rw [List.length_cons] at h
    exact ⟨by rw [h _ (by omega) (by omega)]; exact h1, by rw [h _ (by omega) (by omega)]; exact h2, by rw [h _ (by omega) (by omega)]; exact h3, ih (a + 3) (fun j j1 j2 => h j (by omega) (by omega)) h4⟩
theorem grw_par : ∀ g : Nat, g ≤ 3 → ((if (nI g - nI g / 2 * 2) = 0 then some (1 : Int32) else some (0 : Int32)) = some (bI (decide (g % 2 = 0)))) ∧ ((if nI g < 2 then some (0 : Int32) else some (1 : Int32)) = some (bI (decide (1 < g)))) := by
  intro g hg
  have : ∀ g : Fin 4, ((if (nI g.1 - nI g.1 / 2 * 2) = 0 then some (1 : Int32) else some (0 : Int32)) = some (bI (decide (g.1 % 2 = 0)))) ∧ ((if nI g.1 < 2 then some (0 : Int32) else some (1 : Int32)) = some (bI (decide (1 < g.1)))) := by decide
  exact this ⟨g, by omega⟩
theorem nI_maxI {a b : Nat} (ha : a < 2 ^ 31) (hb : b < 2 ^ 31) : (if nI a < nI b then nI b else nI a) = nI (max a b) := by
  by_cases h : a < b
  · rw [if_pos (nI_lt h hb), Nat.max_eq_right (by omega)]
  · rw [if_neg (nI_nlt (by omega) ha), Nat.max_eq_left (by omega)]
theorem cpl_loop {z : Nat} {e o : Nat} {A : List Int32} (hl : A.length ≤ 1000) : ∀ (rest done : List (Nat × Nat × Nat)) (n : Nat) (S : CS), rest.length < n → (done ++ rest).length ≤ 4 → Wf S → EdS S e → OpL S o A → cI S e 7 = nI (done ++ rest).length → mkAt (cA S (e + 43)) 0 (done ++ rest) → (∀ x ∈ rest, x.1 < 10000 ∧ x.2.1 < 10000 ∧ x.2.2 ≤ 3) →
    ∃ S', LX1_carryPlaces_15 e o n (nI (3 * done.length)) S = some S' ∧ mkAt (cA S' (e + 43)) 0 (done ++ rest.map (carM A)) ∧ cI S' = cI S ∧ cA S' (e + 44) = cA S (e + 44) ∧ Sg z (fun x => x = e) 0 S S' := by
  intro rest
  induction rest with
  | nil =>
    intro done n S hn h4 hW hE hO h7 hm hb
    obtain ⟨n, rfl⟩ : ∃ j, n = j + 1 := ⟨n - 1, by omega⟩
    rw [List.append_nil] at h7 hm h4
    unfold LX1_carryPlaces_15
    rw [gi_k hE.1, h7, Option.bind_some, show (3 : Int32) = nI 3 from rfl, nI_mul, nI_2, if_pos (nI_le (by omega) (by omega))]
    exact ⟨S, rfl, by rw [List.map_nil, List.append_nil]; exact hm, rfl, rfl, Sg_refl hW⟩
  | cons x rest ih =>
    intro done n S hn h4 hW hE hO h7 hm hb
    obtain ⟨n, rfl⟩ : ∃ j, n = j + 1 := ⟨n - 1, by omega⟩
    rw [List.length_append, List.length_cons] at h4
    obtain ⟨m1, m2⟩ := (mkAt_ap done (x :: rest) 0).mp hm
    obtain ⟨x1, x2, x3, x4⟩ := m2
    rw [Nat.zero_add] at x1 x2 x3 x4
    obtain ⟨b1, b2, b3⟩ := hb x List.mem_cons_self
    obtain ⟨p1, p2⟩ := grw_par x.2.2 b3
    have hj5 := hE.2.1.2.2.2.2.2.1
    have hk43 := hE.2.2.2.1.1
    have hn43 := hE.2.2.2.1.2
    have hko := OpL_kd hO
    have hoe : o ≠ e := fun h => by rw [h, hE.1] at hko; omega
    unfold LX1_carryPlaces_15
    rw [gi_k hE.1, h7, Option.bind_some, show (3 : Int32) = nI 3 from rfl, nI_mul, nI_2, List.length_append, List.length_cons, if_neg (nI_ge (by omega) (by omega)), gr_k hE.1 hj5, Option.bind_some, aln_k hk43, hn43, Option.bind_some, if_neg (nI_ge (by omega) (by omega)), Option.bind_some, ldi_k hk43 (by omega) (by omega), x3, Option.bind_some, Option.bind_some, Option.bind_some, ldi_k hk43 (by omega) (by omega), x1, Option.bind_some, p1, Option.bind_some, cal_k hko, carry_N hW hO (by omega) hl, Option.bind_some, sti_k hk43 (by omega) (by omega), Option.bind_some]
    generalize hv1 : carN x.1 (decide (x.2.2 % 2 = 0)) A 0 x.1 = v1
    have hv1b : v1 < 20000 := by have := carN_le x.1 (decide (x.2.2 % 2 = 0)) A 0 x.1; omega
    have s1 : Sg z (fun x => x = e) 0 S (setA S (e + 43) (upd (cA S (e + 43)) (3 * done.length) (nI v1))) := Sg_setA hW rfl hj5
    generalize hS1 : setA S (e + 43) (upd (cA S (e + 43)) (3 * done.length) (nI v1)) = S1 at s1 ⊢
    have hE1 := EdS_Sg hW hE s1
    have hO1 := OpL_Fo hW hO s1.2.1 hoe
    have a1 : cA S1 (e + 43) = upd (cA S (e + 43)) (3 * done.length) (nI v1) := by rw [← hS1]; exact cA_self _ _ _
    have a1' : cA S1 (e + 44) = cA S (e + 44) := by rw [← hS1]; exact va_up_ne _ _ (by omega)
    have i1 : cI S1 = cI S := by rw [← hS1]; rfl
    have hj51 := hE1.2.1.2.2.2.2.2.1
    have hk431 := hE1.2.2.2.1.1
    have hn431 := hE1.2.2.2.1.2
    rw [gr_k hE1.1 hj51, Option.bind_some, Option.bind_some, ldi_k hk431 (by omega) (by omega), a1, upd_self, Option.bind_some, Option.bind_some, nI_1, ldi_k hk431 (by omega) (by omega), a1, upd_ne _ _ (by omega), x2, Option.bind_some, p2, Option.bind_some, cal_k (OpL_kd hO1), carry_N s1.1 hO1 (by omega) hl, Option.bind_some]
    generalize hv2 : carN x.2.1 (decide (1 < x.2.2)) A 0 x.2.1 = v2
    have hv2b : v2 < 20000 := by have := carN_le x.2.1 (decide (1 < x.2.2)) A 0 x.2.1; omega
    rw [nI_maxI (by omega) (by omega), sti_k hk431 (by omega) (by omega), Option.bind_some, a1]
    have s2 : Sg z (fun x => x = e) 0 S1 (setA S1 (e + 43) (upd (upd (cA S (e + 43)) (3 * done.length) (nI v1)) (3 * done.length + 1) (nI (max v1 v2)))) := Sg_setA s1.1 rfl hj51
    generalize hS2 : setA S1 (e + 43) (upd (upd (cA S (e + 43)) (3 * done.length) (nI v1)) (3 * done.length + 1) (nI (max v1 v2))) = S2 at s2 ⊢
    have a2 : cA S2 (e + 43) = upd (upd (cA S (e + 43)) (3 * done.length) (nI v1)) (3 * done.length + 1) (nI (max v1 v2)) := by rw [← hS2]; exact cA_self _ _ _
    have a2' : cA S2 (e + 44) = cA S (e + 44) := by rw [← hS2, ← a1']; exact va_up_ne _ _ (by omega)
    have i2 : cI S2 = cI S := by rw [← hS2]; exact i1
    have hcar : carM A x = (v1, max v1 v2, x.2.2) := by unfold carM; rw [hv1, hv2]
    have hm2 : mkAt (cA S2 (e + 43)) 0 ((done ++ [carM A x]) ++ rest) := by
      rw [List.append_assoc, mkAt_ap, List.singleton_append, hcar, a2, Nat.zero_add]
      refine ⟨mkAt_cg done 0 (fun j j1 j2 => ?_) m1, ?_, ?_, ?_, mkAt_cg rest _ (fun j j1 j2 => ?_) x4⟩
      · rw [upd_ne _ _ (by omega), upd_ne _ _ (by omega)]
      · rw [upd_ne _ _ (by omega), upd_self]
      · rw [upd_self]
      · rw [upd_ne _ _ (by omega), upd_ne _ _ (by omega)]; exact x3
      · rw [upd_ne _ _ (by omega), upd_ne _ _ (by omega)]
    have hl2 : (done ++ [carM A x]).length = done.length + 1 := by rw [List.length_append, List.length_singleton]
    obtain ⟨S', r1, r2, r3, r4, r5⟩ := ih (done ++ [carM A x]) n S2 (by rw [List.length_cons] at hn; omega) (by rw [List.length_append, hl2]; omega) s2.1 (EdS_Sg s1.1 hE1 s2) (OpL_Fo s1.1 hO1 s2.2.1 hoe) (by rw [i2, h7, List.length_append, List.length_append, hl2, List.length_cons]; congr 1; omega) hm2 (fun y hy => hb y (List.mem_cons_of_mem _ hy))
    rw [hl2] at r1
    rw [nI_add, show 3 * done.length + 3 = 3 * (done.length + 1) by omega, r1]
    refine ⟨S', rfl, ?_, r3.trans i2, r4.trans a2', Sg_trans (Sg_trans s1 s2) r5⟩
    rw [List.append_assoc] at r2
    rw [List.map_cons]
    exact r2
/-- the places are carried -/
theorem carryPlaces_E {z : Nat} {S : CS} {e o : Nat} {A : List Int32} {own : Bool} {E : Ed} (hW : Wf S) (hE : EdS S e) (hO : OpL S o A) (hl : A.length ≤ 1000) (hM : EdM S e E) (h4 : (eMks E).length ≤ 4) (hb : ∀ x ∈ eMks E, x.1 < 10000 ∧ x.2.1 < 10000 ∧ x.2.2 ≤ 3) (hc : eCur E < 10000) :
    ∃ S', f1_carryPlaces S e o (bI own) = some S' ∧ (cI S' e 7 = nI (eMks E).length ∧ cI S' e 9 = nI (carN (eCur E) own A 0 (eCur E)) ∧ mkAt (cA S' (e + 43)) 0 ((eMks E).map (carM A))) ∧ (∀ k, k ≠ 9 → cI S' e k = cI S e k) ∧ cA S' (e + 44) = cA S (e + 44) ∧ Sg z (fun x => x = e) 0 S S' := by
  obtain ⟨m1, m2, m3⟩ := hM
  have hko := OpL_kd hO
  have hoe : o ≠ e := fun h => by rw [h, hE.1] at hko; omega
  unfold f1_carryPlaces
  rw [gi_k hE.1, m2, Option.bind_some, cal_k hko, carry_N hW hO (by omega) hl, Option.bind_some, pi_k hE.1, Option.bind_some]
  generalize hv : nI (carN (eCur E) own A 0 (eCur E)) = v
  have s1 : Sg z (fun x => x = e) 0 S (setI S e 9 v) := Sg_setI hW rfl
  have hFU := FU_gt
  obtain ⟨S', r1, r2, r3, r4, r5⟩ := cpl_loop (z := z) hl (eMks E) [] FU (setI S e 9 v) (by omega) h4 s1.1 (EdS_Sg hW hE s1) (OpL_Fo hW hO s1.2.1 hoe) (by rw [cI_set, if_neg (by omega)]; exact m1) m3 hb
  have r1' : LX1_carryPlaces_15 e o FU 0 (setI S e 9 v) = some S' := r1
  rw [r1', Option.bind_some]
  refine ⟨S', rfl, ⟨?_, ?_, r2⟩, fun k hk => ?_, r4, Sg_trans s1 r5⟩
  · rw [r3, cI_set, if_neg (by omega)]; exact m1
  · rw [r3, cI_self]
  · rw [r3, cI_set, if_neg (by omega)]
