/-! ===== PART II, the class: a step of an operation is asked ===== -/
theorem findS_none {x k what : Int32} : ∀ (gs : List (List Int32)) (n : Nat), (∀ j, j < gs.length → nI (n + j) ≠ k) → findS x k what n gs = x := by
  intro gs
  induction gs with
  | nil => intro n _; rfl
  | cons g gs ih =>
    intro n h
    rw [findS, if_neg (by have := h 0 (by simp); rwa [Nat.add_zero] at this)]
    refine ih (n + 1) (fun j hj => ?_)
    have := h (j + 1) (by rw [List.length_cons]; omega)
    rw [show n + 1 + j = n + (j + 1) by omega]
    exact this
theorem findS_some {what : Int32} : ∀ (gs : List (List Int32)) (n j : Nat) (x : Int32), n + gs.length < 1000000 → j < gs.length → findS x (nI (n + j)) what n gs = stepV (gs.getD j []) what := by
  intro gs
  induction gs with
  | nil => intro n j x _ h; exact absurd h (Nat.not_lt_zero _)
  | cons g gs ih =>
    intro n j x hn hj
    rw [List.length_cons] at hn hj
    cases j with
    | zero =>
      rw [Nat.add_zero, findS, if_pos rfl, findS_none gs (n + 1) (fun j hj e => by
        have := congrArg Int32.toInt e
        rw [nI_toInt (by omega), nI_toInt (by omega)] at this
        omega)]
      rfl
    | succ j =>
      rw [findS, if_neg (fun e => by
        have := congrArg Int32.toInt e
        rw [nI_toInt (by omega), nI_toInt (by omega)] at this
        omega), show n + (j + 1) = n + 1 + j by omega, ih (n + 1) j x (by omega) (by omega)]
      rfl
theorem find_loop {S : CS} {o : Nat} {k : Int32} {R : List Pt} (hO : OpR S o R) : ∀ (d i n j : Nat) (b : Bool), i + d = R.length → d < n → PrvP R i b → stepsL (decF (nxP b (R.reverse.drop i))) = (stepsL (decF R.reverse)).drop j →
    ∃ t f, LX4_findStep_4 o k S n (nI j) (nI i) = some (t, nI f) ∧ ((t = 1 ∧ ∀ m, j ≤ m → m < (stepsL (decF R.reverse)).length → nI m ≠ k) ∨ (t = 0 ∧ f < R.length ∧ ∃ K, nI K = k ∧ K < (stepsL (decF R.reverse)).length ∧ stepsL (decF (R.reverse.drop f)) = (stepsL (decF R.reverse)).drop K)) := by
  obtain ⟨y1, y2⟩ := pt_sz hO
  have hfc := FC_of hO.1
  intro d
  induction d with
  | zero =>
    intro i n j b hi hn hp hs
    obtain ⟨n, rfl⟩ : ∃ k, n = k + 1 := ⟨n - 1, by omega⟩
    have hd : R.reverse.drop i = [] := List.drop_eq_nil_of_le (by rw [List.length_reverse]; omega)
    rw [hd, nxP_nil] at hs
    have hjj : (stepsL (decF R.reverse)).length ≤ j := by
      have := congrArg List.length hs
      rw [List.length_drop] at this
      have e0 : (stepsL (decF ([] : List Pt))).length = 0 := rfl
      omega
    unfold LX4_findStep_4
    rw [y1, Option.bind_some, if_pos (nI_le (by omega) (by omega))]
    exact ⟨1, i, rfl, Or.inl ⟨rfl, fun m h1 h2 => by omega⟩⟩
  | succ d ih =>
    intro i n j b hi hn hp hs
    obtain ⟨n, rfl⟩ : ∃ k, n = k + 1 := ⟨n - 1, by omega⟩
    unfold LX4_findStep_4
    cases hd : R.reverse.drop i with
    | nil =>
      have := pt_end (by omega) hd
      omega
    | cons x L =>
      obtain ⟨hxo, hil, hdr, _⟩ := pt_at hO hd
      have hf := FC_drop hfc i
      rw [hd] at hf
      have hps := PrvP_S hd
      rw [y1, Option.bind_some, if_neg (nI_ge hil (by omega)), cal_k (OpR_kd hO), begs hO hd hp, Option.bind_some]
      rw [hd] at hs
      cases hb : (b && decide (x.1 = 1)) with
      | true =>
        obtain ⟨rfl, hx⟩ := and_tt hb
        rw [if_pos (show bI (!true) = 0 from rfl), nI_1]
        refine ih (i + 1) n j true (by omega) (by omega) (by rw [decide_eq_true hx] at hps; exact hps) ?_
        rw [hdr, ← nxP_put hx]
        exact hs
      | false =>
        rw [nxP_beg hb] at hs
        have hs0 := hs
        rw [steps_stp hf, nxP_stp] at hs
        have hjlt : j < (stepsL (decF R.reverse)).length := by
          have := congrArg List.length hs
          rw [List.length_drop, List.length_cons] at this
          omega
        rw [if_neg (show ¬ bI (!false) = 0 by decide)]
        by_cases hk : nI j = k
        · rw [if_pos hk]
          exact ⟨0, i, rfl, Or.inr ⟨rfl, hil, j, hk, hjlt, by rw [hd]; exact hs0⟩⟩
        · rw [if_neg hk, nI_1, nI_1]
          obtain ⟨t, f, h1, h2⟩ := ih (i + 1) n (j + 1) _ (by omega) (by omega) hps (by
            rw [hdr, ← List.drop_drop, ← hs]
            rfl)
          refine ⟨t, f, h1, ?_⟩
          rcases h2 with ⟨h3, h4⟩ | h3
          · refine Or.inl ⟨h3, fun m h5 h6 => ?_⟩
            by_cases hm : m = j
            · rw [hm]; exact hk
            · exact h4 m (by omega) h6
          · exact Or.inr h3
theorem ask_N {S : CS} {o : Nat} {A : List Int32} (hW : Wf S) (hO : OpL S o A) (k what : Int32) : f4_ask S o k what = some (askS A k what) := by
  obtain ⟨R, hR, dA⟩ := hO
  have hlR := OpR_len hW hR
  have hFU := FU_gt
  obtain ⟨y1, y2⟩ := pt_sz hR
  have hfc := FC_of hR.1
  have hse := steps_ex hfc
  rw [List.length_reverse, decF_R, dA] at hse
  have n0 : (0 : Int32).toInt = 0 := by decide
  unfold f4_ask
  obtain ⟨t, f, e1, e2⟩ := find_loop (k := k) hR R.length 0 FU 0 false (by omega) (by omega) (PrvP_0 R) (by rw [List.drop_zero, List.drop_zero]; rfl)
  have e1' : LX4_findStep_4 o k S FU 0 0 = some (t, nI f) := e1
  rw [decF_R, dA] at e2
  rw [cal_k (OpR_kd hR)]
  unfold f4_findStep
  rw [e1', bn2_s]
  rcases e2 with ⟨et, e3⟩ | ⟨et, e4, K, hkn, e5, e6⟩
  · rw [et, if_neg (by decide), Option.bind_some, if_pos rfl]
    unfold askS
    rw [findS_none _ 0 (fun j hj => by
      rw [Nat.zero_add]
      exact e3 j (Nat.zero_le _) hj)]
  · have hkn := hkn.symm
    rw [et, if_pos rfl, Option.bind_some, if_neg (fun e => by
      have := congrArg Int32.toInt e
      rw [nI_toInt (by omega), show (-1 : Int32).toInt = -1 from by decide] at this
      omega)]
    obtain ⟨x, L, hd⟩ : ∃ x L, R.reverse.drop f = x :: L := by
      cases hd : R.reverse.drop f with
      | nil => have := pt_end (by omega) hd; omega
      | cons x L => exact ⟨x, L, rfl⟩
    obtain ⟨hxo, hil, hdr, a, g1, g2⟩ := pt_at hR hd
    have hf := FC_drop hfc f
    rw [hd] at hf
    have hst := steps_stp hf
    have hgk : (stepsL A).getD K [] = decF ((x :: L).take (stp (x :: L))) := by
      rw [hd] at e6
      rw [hst] at e6
      rw [List.getD_eq_getElem?_getD, List.getElem?_eq_getElem e5]
      rw [List.drop_eq_getElem_cons e5] at e6
      injection e6 with e7 e8
      exact e7.symm
    have hask : askS A k what = stepV (decF ((x :: L).take (stp (x :: L)))) what := by
      unfold askS
      rw [hkn]
      have := findS_some (what := what) (stepsL A) 0 K (-1) (by omega) e5
      rw [Nat.zero_add] at this
      rw [this, hgk]
    rw [hask]
    have hlen : (x :: L).length = R.length - f := by rw [← hd, List.length_drop, List.length_reverse]
    have hsl := stp_le x L
    have e1p := pc_le31 hxo
    have e2p := pc_ge0 hxo
    by_cases hw : what.toInt < 0
    · rw [if_neg (show ¬ 0 ≤ what from fun hh => by rw [Int32.le_iff_toInt_le] at hh; omega)]
      unfold stepV
      rw [if_neg (fun e => by rw [e] at hw; exact absurd hw (by decide)), if_neg (fun e => by rw [e] at hw; exact absurd hw (by decide)), if_neg (fun hh => by omega)]
    · rw [if_pos (by rw [Int32.le_iff_toInt_le]; omega), g1, Option.bind_some, g2, Option.bind_some, isPut_pc hxo, Option.bind_some]
      by_cases hp : x.1 = 1
      · -- letters are put
        have es : stp (x :: L) = prn L + 1 := by rw [stp, if_pos hp]
        have hx2 : 1 ≤ x.2 ∧ x.2 ≤ 26 := by unfold okPt at hxo; omega
        have hall : ∀ y ∈ (x :: L).take (stp (x :: L)), y.1 = 1 := by
          rw [es, List.take_succ_cons]
          have key : ∀ M : List Pt, ∀ y ∈ M.take (prn M), y.1 = 1 := by
            intro M
            induction M with
            | nil => intro y hy; exact absurd hy List.not_mem_nil
            | cons z M ih =>
              intro y hy
              rw [prn] at hy
              by_cases hz : z.1 = 1
              · rw [if_pos hz, List.take_succ_cons] at hy
                rcases List.mem_cons.mp hy with rfl | hy
                · exact hz
                · exact ih y hy
              · rw [if_neg hz, List.take_zero] at hy; exact absurd hy List.not_mem_nil
          intro y hy
          rcases List.mem_cons.mp hy with rfl | hy
          · exact hp
          · exact key L y hy
        have hmap : ∀ M : List Pt, (∀ y ∈ M, y.1 = 1) → decF M = M.map (fun y => nI y.2) := by
          intro M
          induction M with
          | nil => intro _; rfl
          | cons z M ih =>
            intro h
            rw [decF, ih (fun y hy => h y (List.mem_cons_of_mem _ hy))]
            unfold dec1
            rw [if_neg (by have := h z List.mem_cons_self; omega), if_pos (h z List.mem_cons_self)]
            rfl
        have hG := hmap _ hall
        have hGl : (decF ((x :: L).take (stp (x :: L)))).length = stp (x :: L) := by rw [hG, List.length_map, List.length_take]; omega
        have hGh : (decF ((x :: L).take (stp (x :: L)))).headD 0 = nI x.2 := by rw [hG, es, List.take_succ_cons]; rfl
        have hkN : kN (nI x.2) = 1 := by
          obtain ⟨u1, u2, u3, u4, u5⟩ := okP3 (v := nI x.2) ⟨x.2, hx2.1, hx2.2, rfl⟩
          unfold kN; rw [if_neg (of_eq_false u4), if_neg (of_eq_false u5)]
        rw [decide_eq_true hp, if_neg (show ¬ bI true = 0 by decide), cal_k (OpR_kd hR), endOf hW hR hd, Option.bind_some, cal_k (OpR_kd hR)]
        unfold f4_askPut stepV
        rw [hGh, hkN, hGl]
        by_cases w0 : what = 0
        · rw [if_pos w0, if_pos w0]; rfl
        · rw [if_neg w0, if_neg w0, nI_sub (by omega), Nat.add_sub_cancel_left]
          by_cases w1 : what = 1
          · rw [if_pos w1, if_pos w1]; rfl
          · rw [if_neg w1, if_neg w1]
            have hwn := nI_ofInt (p := what) (by omega)
            generalize hV : what.toInt.toNat = V at hwn
            have hV2 : 2 ≤ V := by
              by_cases hv : 2 ≤ V
              · exact hv
              · exfalso
                rcases (show V = 0 ∨ V = 1 by omega) with h | h
                · rw [h] at hwn; exact w0 hwn
                · rw [h] at hwn; exact w1 hwn
            have hV31 : V < 2 ^ 31 := by have := Int32.toInt_lt what; omega
            have hwi : what.toInt = V := by omega
            rw [hwi, hwn, show (2 : Int32) = nI 2 from rfl, nI_sub hV2]
            by_cases hlt : V - 2 < stp (x :: L)
            · rw [if_neg (nI_ge hlt (by omega)), if_pos ⟨rfl, by omega, by omega⟩, g1, Option.bind_some, nI_add, nI_sub (by omega)]
              obtain ⟨y, M, hM⟩ : ∃ y M, R.reverse.drop (f + V - 2) = y :: M := by
                cases hM : R.reverse.drop (f + V - 2) with
                | nil => have := pt_end (by omega) hM; omega
                | cons x L => exact ⟨x, L, rfl⟩
              obtain ⟨hyo, hjl, hdr2, a2, k1, k2⟩ := pt_at hR hM
              have haa : a = a2 := Option.some.inj (g1.symm.trans k1)
              subst haa
              rw [k2, Option.bind_some, Option.bind_some]
              have hxl : (x :: L)[V - 2]? = some y := by
                have : (R.reverse.drop f)[V - 2]? = (R.reverse.drop (f + V - 2))[0]? := by
                  rw [List.getElem?_drop, List.getElem?_drop]
                  congr 1
                  omega
                rw [hd, hM] at this
                exact this
              have hym : y.1 = 1 := hall y (List.mem_of_getElem? (i := V - 2) (by rw [List.getElem?_take_of_lt hlt]; exact hxl))
              rw [(pc_kinds hyo).2.1 hym, hG, show ((V : Int) - 2).toNat = V - 2 by omega, List.getD_eq_getElem?_getD, List.getElem?_map, List.getElem?_take_of_lt hlt, hxl]
              rfl
            · rw [if_pos (nI_le (by omega) (by omega)), if_neg (fun hh => by omega)]; rfl
      · have es : stp (x :: L) = 1 := by rw [stp, if_neg hp]
        have hG : decF ((x :: L).take (stp (x :: L))) = dec1 x := by rw [es, List.take_succ_cons, List.take_zero, decF, show decF [] = [] from rfl, List.append_nil]
        have hne := (dec1_ne hxo).1
        have hkh : kN ((dec1 x).headD 0) = (if x.1 = 0 then 0 else if x.1 = 1 then 1 else 2) := by
          cases hdx : dec1 x with
          | nil => exact absurd hdx hne
          | cons v d => exact kN_dec hxo v (by rw [hdx]; exact List.mem_cons_self)
        have hdl : (dec1 x).length = x.2 := by
          have := dec_len (x := x) (l := []) hxo
          rw [if_neg hp] at this
          have e1 : (decF [x]).length = (dec1 x).length + (decF ([] : List Pt)).length := by show (dec1 x ++ decF []).length = _; rw [List.length_append]
          have e0 : (decF ([] : List Pt)).length = 0 := rfl
          omega
        rw [decide_eq_false hp, if_pos (show bI false = 0 from rfl), hG]
        unfold stepV
        rw [hkh, hdl]
        by_cases w0 : what = 0
        · rw [if_pos w0, if_pos w0]
          by_cases hx0 : x.1 = 0
          · rw [if_pos hx0, if_pos (e2p.mpr (by omega))]; rfl
          · have hx2 : x.1 = 2 := by unfold okPt at hxo; omega
            rw [if_neg hx0, if_neg hp, if_neg (fun hh => e2p.mp hh hx2)]; rfl
        · rw [if_neg w0, if_neg w0]
          by_cases w1 : what = 1
          · rw [if_pos w1, if_pos (by rw [w1]; decide)]
            by_cases hx0 : x.1 = 0
            · rw [if_pos (e2p.mpr (by omega))]
              have hpp : pc x = nI (31 + x.2) := by unfold pc; rw [if_pos hx0]
              rw [hpp, show (31 : Int32) = nI 31 from rfl, nI_sub (by omega), Nat.add_sub_cancel_left]; rfl
            · have hx2 : x.1 = 2 := by unfold okPt at hxo; omega
              have hpp : pc x = -(nI x.2) := by unfold pc; rw [if_neg hx0, if_neg hp]
              rw [if_neg (fun hh => e2p.mp hh hx2), hpp, Int32.neg_neg]; rfl
          · rw [if_neg w1, if_neg (show ¬ what ≤ 1 from fun hh => by
              rw [Int32.le_iff_toInt_le, show (1 : Int32).toInt = 1 from by decide] at hh
              rcases (show what.toInt = 0 ∨ what.toInt = 1 by omega) with h | h
              · exact w0 (Int32.toInt_inj.mp (by rw [h]; decide))
              · exact w1 (Int32.toInt_inj.mp (by rw [h]; decide))), if_neg (fun hh => by
              have h1 := hh.1
              by_cases hx0 : x.1 = 0
              · rw [if_pos hx0] at h1; exact absurd h1 (by decide)
              · rw [if_neg hx0, if_neg hp] at h1; exact absurd h1 (by decide))]
            rfl
