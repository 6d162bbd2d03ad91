/-! ===== PART II, the reference: orders that are unlike ===== -/
theorem seq_good {cnt ties tl m r : Nat} {on : Nat → Bool} : ∀ (d k met : Nat) (W : Wd), met < 16 → ordB on m r d k met = true → (∀ e, e < 4 → on e = true → met.testBit e = false → e < cnt ∧ (eLft (wE W e)).isSome = true) → Good cnt ties tl W → Good cnt ties tl (seqD ties cnt m r d k W) := by
  intro d
  induction d with
  | zero => intro k met W _ _ _ hg; exact hg
  | succ d ih =>
    intro k met W hmet ho hon hg
    have hd4 : dig m r k < 4 := Nat.mod_lt _ (by omega)
    rw [ordB] at ho
    simp only [Bool.and_eq_true, Bool.not_eq_true'] at ho
    obtain ⟨o1, o2, o3⟩ := ho
    obtain ⟨he, hl⟩ := hon _ hd4 o1 o2
    obtain ⟨x, hx⟩ := Option.isSome_iff_exists.mp hl
    refine ih (k + 1) (met ||| (1 <<< dig m r k)) (takeW ties cnt (dig m r k) W) (met_or met hmet _ hd4).2 o3 (fun e he4 hone hme => ?_) (Good_take hg he hx)
    obtain ⟨q1, q2⟩ := met_keep met hmet _ hd4 e he4 hme
    obtain ⟨q3, q4⟩ := hon e he4 hone q2
    refine ⟨q3, ?_⟩
    have : wE (takeW ties cnt (dig m r k) W) e = tkE W (dig m r k) e := by show (if e < cnt then tkE W (dig m r k) e else wE W e) = _; rw [if_pos q3]
    rw [this]
    unfold tkE
    rw [if_neg q1]
    exact q4
theorem ends_okP {A : St} (hg : GA A) : ∀ t ∈ endsA A, ∀ v ∈ t, okP v := by
  have key : ∀ (m R : Nat), ∀ t ∈ endsTo (okW A m) (enW A m) R, ∀ v ∈ t, okP v := by
    intro m R
    induction R with
    | zero => intro t ht; rw [endsTo] at ht; simp at ht
    | succ R ih =>
      intro t ht
      rw [endsTo] at ht
      rcases List.mem_append.mp ht with ht | ht
      · exact ih t ht
      · cases hok : okW A m R with
        | false => rw [hok] at ht; simp at ht
        | true =>
          rw [hok, if_pos rfl] at ht
          rw [List.mem_singleton.mp ht]
          have hG := seq_good (tl := (aTold A).length) m 0 0 (aW A) (by omega) hok (fun e _ hone _ => by
            unfold onW at hone
            simp only [Bool.and_eq_true, decide_eq_true_eq] at hone
            exact hone) (GA_good hg)
          exact en_okP hg hG.2.2.2.2.2.1
  exact key _ _
theorem alike_loop {M : MS} {ts : List (List Int32)} {a b : Nat} {ta tb : List Int32} (hE : EN M ts) (ha : ts[a]? = some ta) (hb : ts[b]? = some tb) (hl : ts.length ≤ 24) : ∀ (d n p : Nat), p + d = 240 → d < n → ∃ v : Nat, L12_areAlike_2 (nI a) (nI b) M n (nI p) = some v ∧ (v = 0 ∨ v = 1) ∧ (v = 1 ↔ ∀ q, p ≤ q → q < 240 → endP ta q = endP tb q) := by
  intro d
  induction d with
  | zero =>
    intro n p hp hn
    obtain ⟨n, rfl⟩ : ∃ j, n = j + 1 := ⟨n - 1, by omega⟩
    refine ⟨1, ?_, Or.inr rfl, ⟨fun _ q h1 h2 => by omega, fun _ => rfl⟩⟩
    unfold L12_areAlike_2
    rw [show (240 : Int32) = nI 240 from rfl, if_pos (nI_le (by omega) (by omega))]
  | succ d ih =>
    intro n p hp hn
    obtain ⟨n, rfl⟩ : ∃ j, n = j + 1 := ⟨n - 1, by omega⟩
    unfold L12_areAlike_2
    rw [show (240 : Int32) = nI 240 from rfl, if_neg (nI_ge (by omega) (by omega)), endAt_ok hE ha hl (by omega), Option.bind_some, endAt_ok hE hb hl (by omega), Option.bind_some]
    by_cases hq : endP ta p = endP tb p
    · obtain ⟨v, h1, h2, h3⟩ := ih n (p + 1) (by omega) (by omega)
      refine ⟨v, by rw [if_pos hq, nI_1]; exact h1, h2, ?_⟩
      rw [h3]
      constructor
      · intro hh q q1 q2
        by_cases hqp : q = p
        · rw [hqp]; exact hq
        · exact hh q (by omega) q2
      · intro hh q q1 q2; exact hh q (by omega) q2
    · refine ⟨0, by rw [if_neg hq], Or.inl rfl, ⟨fun h => (by omega : False).elim, fun hh => absurd (hh p (Nat.le_refl _) (by omega)) hq⟩⟩
theorem alike_ok {M : MS} {ts : List (List Int32)} {a b : Nat} {ta tb : List Int32} (hE : EN M ts) (hP : ∀ t ∈ ts, ∀ v ∈ t, okP v) (ha : ts[a]? = some ta) (hb : ts[b]? = some tb) (hl : ts.length ≤ 24) : f12_areAlike M (nI a) (nI b) = some (if ta = tb then 1 else 0) := by
  obtain ⟨v, h1, h2, h3⟩ := alike_loop hE ha hb hl 240 FU 0 (by omega) (by rw [FU_eq]; omega)
  have hiff := like_iff (hP ta (List.mem_of_getElem? ha)) (hP tb (List.mem_of_getElem? hb)) (hE.2 a ta ha).2.2 (hE.2 b tb hb).2.2
  have h4 : v = 1 ↔ ta = tb := by
    rw [h3, ← hiff]
    exact ⟨fun h p hp => h p (by omega) hp, fun h q _ hq => h q hq⟩
  unfold f12_areAlike
  rw [show L12_areAlike_2 (nI a) (nI b) M FU (0 : Int32) = _ from h1, Option.bind_some]
  by_cases hab : ta = tb
  · rw [h4.mpr hab, if_neg (by decide), if_pos hab]
  · have : v = 0 := h2.resolve_right (fun h => hab (h4.mp h))
    rw [this, if_pos rfl, if_neg hab]
theorem first_loop {M : MS} {ts : List (List Int32)} {o : Nat} {t : List Int32} (hE : EN M ts) (hP : ∀ t ∈ ts, ∀ v ∈ t, okP v) (ho : ts[o]? = some t) (hl : ts.length ≤ 24) : ∀ (d n k : Nat), k + d = o → d < n → ∃ v : Nat, L12_isFirstOfLike_2 (nI o) M n (nI k) = some v ∧ (v = 0 ∨ v = 1) ∧ (v = 1 ↔ ∀ q, k ≤ q → q < o → ts[q]? ≠ some t) := by
  have hi := (List.getElem?_eq_some_iff.mp ho).1
  intro d
  induction d with
  | zero =>
    intro n k hk hn
    obtain ⟨n, rfl⟩ : ∃ j, n = j + 1 := ⟨n - 1, by omega⟩
    refine ⟨1, ?_, Or.inr rfl, ⟨fun _ q h1 h2 => by omega, fun _ => rfl⟩⟩
    unfold L12_isFirstOfLike_2
    rw [if_pos (nI_le (by omega) (by omega))]
  | succ d ih =>
    intro n k hk hn
    obtain ⟨n, rfl⟩ : ∃ j, n = j + 1 := ⟨n - 1, by omega⟩
    have hkk := List.getElem?_eq_getElem (show k < ts.length by omega)
    generalize ts[k] = x at hkk
    unfold L12_isFirstOfLike_2
    rw [if_neg (nI_ge (by omega) (by omega)), alike_ok hE hP hkk ho hl, Option.bind_some]
    by_cases hx : x = t
    · refine ⟨0, by rw [if_pos hx, if_neg (by decide)], Or.inl rfl, ⟨fun h => (by omega : False).elim, fun hh => absurd (by rw [hkk, hx]) (hh k (Nat.le_refl _) (by omega))⟩⟩
    · obtain ⟨v, h1, h2, h3⟩ := ih n (k + 1) (by omega) (by omega)
      refine ⟨v, by rw [if_neg hx, if_pos rfl, nI_1]; exact h1, h2, ?_⟩
      rw [h3]
      constructor
      · intro hh q q1 q2
        by_cases hqk : q = k
        · rw [hqk, hkk]; exact fun h => hx (Option.some.inj h)
        · exact hh q (by omega) q2
      · intro hh q q1 q2; exact hh q (by omega) q2
/-- how many of the first n are like none before them -/
def unl (ts : List (List Int32)) : Nat → Nat
  | 0 => 0
  | n + 1 => unl ts n + (if ts.getD n [] ∈ ts.take n then 0 else 1)
theorem mem_take_iff {ts : List (List Int32)} {o : Nat} {t : List Int32} : t ∈ ts.take o ↔ ∃ q, q < o ∧ ts[q]? = some t := by
  constructor
  · intro h
    obtain ⟨q, hq⟩ := List.getElem?_of_mem h
    have hl := (List.getElem?_eq_some_iff.mp hq).1
    rw [List.length_take] at hl
    rw [List.getElem?_take_of_lt (by omega)] at hq
    exact ⟨q, by omega, hq⟩
  · rintro ⟨q, h1, h2⟩
    have : (ts.take o)[q]? = some t := by rw [List.getElem?_take_of_lt h1]; exact h2
    exact List.mem_of_getElem? this
theorem unl_loop {M : MS} {ts : List (List Int32)} (hE : EN M ts) (hP : ∀ t ∈ ts, ∀ v ∈ t, okP v) (hl : ts.length ≤ 24) : ∀ (d n i : Nat), i + d = ts.length → d < n → L12_orders_36 M n (nI (unl ts i)) (nI i) = some (nI (unl ts ts.length)) := by
  intro d
  induction d with
  | zero =>
    intro n i hi hn
    obtain ⟨n, rfl⟩ : ∃ j, n = j + 1 := ⟨n - 1, by omega⟩
    unfold L12_orders_36
    rw [show gF M 53 = _ from hE.1, if_pos (nI_le (by omega) (by omega)), show i = ts.length by omega]
  | succ d ih =>
    intro n i hi hn
    obtain ⟨n, rfl⟩ : ∃ j, n = j + 1 := ⟨n - 1, by omega⟩
    have ho := List.getElem?_eq_getElem (show i < ts.length by omega)
    have hgd : ts.getD i [] = ts[i]'(by omega) := by rw [List.getD_eq_getElem?_getD, ho]; rfl
    obtain ⟨v, h1, h2, h3⟩ := first_loop hE hP ho hl i FU 0 (by omega) (by rw [FU_eq]; omega)
    have h4 : v = 1 ↔ ¬ ts.getD i [] ∈ ts.take i := by
      rw [h3, hgd, mem_take_iff]
      constructor
      · rintro hh ⟨q, q1, q2⟩; exact hh q (by omega) q1 q2
      · intro hh q _ q1 q2; exact hh ⟨q, q1, q2⟩
    unfold L12_orders_36
    unfold f12_isFirstOfLike
    rw [show gF M 53 = _ from hE.1, if_neg (nI_ge (by omega) (by omega)), show L12_isFirstOfLike_2 (nI i) M FU (0 : Int32) = _ from h1, Option.bind_some]
    have hr := ih n (i + 1) (by omega) (by omega)
    rw [unl] at hr
    by_cases hm : ts.getD i [] ∈ ts.take i
    · have : v = 0 := h2.resolve_right (fun h => (h4.mp h) hm)
      rw [if_pos hm, Nat.add_zero] at hr
      rw [this, if_pos rfl, Option.bind_some, if_pos rfl, Option.bind_some, nI_1]
      exact hr
    · rw [if_neg hm] at hr
      rw [h4.mpr hm, if_neg (by decide), Option.bind_some, if_neg (show ¬ (1 : Int32) = 0 from by decide), Option.bind_some, nI_1, nI_1]
      exact hr
def qOrders (A : St) (w : Int32) : Int32 := if 0 < aCnt A ∧ 0 ≤ w.toInt ∧ w.toInt ≤ 1 then (if w = 0 then nI (endsA A).length else nI (unl (endsA A) (endsA A).length)) else -1
theorem orders_ok {M : MS} {A : St} (h : RS M A) (hg : GA A) (w : Int32) : ∃ M', f12_orders M w = some (qOrders A w, M') ∧ RS M' A := by
  unfold f12_orders qOrders
  by_cases hc : 0 < aCnt A
  · rw [if_neg (fun hh => (told_iff h).mp hh hc), isIn_ok, i64, show (0 : Int64).toInt = 0 from by decide, show (1 : Int64).toInt = 1 from by decide, Option.bind_some]
    by_cases hw : 0 ≤ w.toInt ∧ w.toInt ≤ 1
    · rw [if_pos hw, if_neg (show ¬ (1 : Int32) = 0 from by decide), if_pos (show 0 < aCnt A ∧ 0 ≤ w.toInt ∧ w.toInt ≤ 1 from ⟨hc, hw⟩)]
      obtain ⟨M', a1, a2, a3⟩ := laysOrders_ok h hg
      rw [a1, Option.bind_some]
      refine ⟨M', ?_, a2⟩
      by_cases w0 : w = 0
      · rw [if_pos w0, if_pos w0, show gF M' 53 = _ from a3.1]
      · have hu := unl_loop a3 (ends_okP hg) (ends_len hg) (endsA A).length FU 0 (by omega) (by have := ends_len hg; rw [FU_eq]; omega)
        rw [if_neg w0, if_neg w0, show L12_orders_36 M' FU (0 : Int32) (0 : Int32) = _ from hu, Option.bind_some]
    · rw [if_neg hw, if_pos rfl, if_neg (fun hh => hw hh.2)]; exact ⟨M, rfl, h⟩
  · rw [if_pos ((told_iff h).mpr hc), if_neg (fun hh => hc hh.1)]; exact ⟨M, rfl, h⟩
