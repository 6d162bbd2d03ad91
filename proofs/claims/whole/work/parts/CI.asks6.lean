/-! ===== PART II, the class: without ===== -/
section AQ
variable {S S' : CS} {z fi ch c : Nat} {A A' : St} {K : Nat → Option Nat} {H : Nat → Prop} {X : Nat × Nat}
theorem wo_bound (hg : GA A) {n : Nat} (h1 : 1 ≤ n) {o : Nat × List Int32} (ho : (wRow (aW A))[n - 1]? = some o) : okO (invC o.2 (srvT (aTold A) ((wRow (aW A)).take (n - 1)))) ∧ oldL (invC o.2 (srvT (aTold A) ((wRow (aW A)).take (n - 1)))) = lenA (aTold A).length ((wRow (aW A)).take n) ∧ lenA (aTold A).length ((wRow (aW A)).take n) + putsL (invC o.2 (srvT (aTold A) ((wRow (aW A)).take (n - 1)))) + putsR ((wRow (aW A)).drop n) ≤ 240 := by
  obtain ⟨w1, w2, w3, w4, w5, w6, w7, w8, w9, w10, w11⟩ := wo_all hg h1 ho
  obtain ⟨g1, g2, g3, g4, g5, g6, g7, g8, g9⟩ := hg.2.2.1
  obtain ⟨o1, o2, o3, o4, o5⟩ := chR_get g6 ho
  rw [show n - 1 + 1 = n by omega] at o4
  obtain ⟨i1, i2, i3, i4, i5⟩ := inv_ok o1 w4 (by omega)
  have cO := cnt_len o1
  have l0 := lenA_le g6 (n - 1)
  have hd := putsR_drop (wRow (aW A)) n
  have h3 := (drop_get ho).2
  rw [show n - 1 + 1 = n by omega] at h3
  have h4 : putsR ((wRow (aW A)).take n) = putsR ((wRow (aW A)).take (n - 1)) + putsL o.2 := by rw [h3, putsR_app]; simp [putsR]
  exact ⟨i1, by rw [i2, o4], by omega⟩
theorem wout_C (h : CR S z A K fi ch) (hg : GA A) (hR : Rm z X c S) (p k : Int32) : ∃ S', f11_without X S z p k = some (qWout A p k, S') ∧ CR S' z A K fi ch ∧ Cst z 0 S S' := by
  have htk := taken_C h hg p
  obtain ⟨hW, hT, hTp, hTf, hsh, hwd, ha, hk, hh, hc⟩ := id h
  have hl := hsh.2.2.2.2.1
  have hFU := FU_gt
  unfold f11_without qWout
  rw [htk, Option.bind_some]
  by_cases hp : 1 ≤ p.toInt ∧ p.toInt ≤ (wRow (aW A)).length
  · rw [decide_eq_true hp, if_neg (show ¬ bI true = 0 by decide)]
    have hn := nI_ofInt (p := p) (by omega)
    have hp1 := pred1 hp.1
    generalize hN : p.toInt.toNat = n at *
    obtain ⟨S2, e2, t2, C2, x2⟩ := replay_C h hg (n := n - 1) (by omega)
    obtain ⟨o, o1, o2, o3, o4, o5, o6⟩ := row_at C2 hg hp
    rw [hN] at o3 o4 o5
    obtain ⟨hW2, hT2, _, _, hsh2, hwd2, _⟩ := id C2
    obtain ⟨hw2, ⟨lb, hob2⟩, hRw2, hst2, hRM2⟩ := id hsh2
    obtain ⟨w1, w2, w3, w4, w5, w6, w7, w8, w9, w10, w11⟩ := wo_all hg (by omega) o3
    obtain ⟨b1, b2, b3⟩ := wo_bound hg (by omega) o3
    obtain ⟨q1, q2, q3, q4⟩ := row_len hg.2.2.1 o3
    obtain ⟨t0, t1, t2', t3, t4, t5, t6, t7, t8, t9⟩ := TpS_g hT2
    rw [hp1, e2, Option.bind_some, t7, Option.bind_some, t1, Option.bind_some, t2', Option.bind_some, gr_k hRw2.1 hRw2.2.1.2.1, Option.bind_some, ← hp1, o4, Option.bind_some, t9, Option.bind_some, cal_k hw2.1]
    have hR2 : Rm z X c S2 := Rm_cst (c := 0) (by rw [Nat.zero_add]; exact hR) x2
    obtain ⟨S9, e9, p9, s9⟩ := invert_L (z := z) (X := X) (g := z + 6) hW2 hR2 (grw_n (op_n z)) o5 t2 hT2.2.2.2.2.2.2.2.2.1 (by omega) w4 w3.symm (by omega)
    have hT9 := TpS_Sg hW2 hT2 s9
    have hsh9 := ShC_Sg hW2 hsh2 s9 (by omega) (fun x x1 x2 => by omega)
    have hwd9 := WdS_Sg hW2 hwd2.1 s9
    have iw9 : cI S9 (z + 227) = cI S2 (z + 227) := fld_Fo hW2 hwd2.1.1 (by omega) s9.2.1 (by omega)
    have own9 : ldi S9 (z + 22 + 4) (p - 1) = some (nI o.1) := by
      rw [hp1, ldi_k hsh9.2.2.1.2.2.2.2.1.1 (by have := hsh9.2.2.1.2.2.2.2.1.2; omega) (by have := hsh9.2.2.1.2.2.2.2.1.2; omega), (hsh9.2.2.2.2.2 _ _ o3).2]
    obtain ⟨u0, u1, u2, u3, u4, u5, u6, u7, u8, u9⟩ := TpS_g hT9
    rw [e9, Option.bind_some, u2, Option.bind_some, gr_k hsh9.2.2.1.1 hsh9.2.2.1.2.1.2.2, Option.bind_some, own9, Option.bind_some]
    obtain ⟨g1, g2, g3, g4, g5, g6, g7, g8, g9⟩ := hg.2.2.1
    have hR9 : Rm z X c S9 := Rm_step (c := 0) (d := c) (by rw [Nat.zero_add]; exact hR2) s9
    have hcd := chR_drop g6 n
    obtain ⟨S13, e13, p13, ob13, s13⟩ := wo_loopC (z := z) (X := X) (c := c) (cnt := aCnt A) (ties := aTies A) (e := o.1) (c2 := k) (told := aTold A) (row := wRow (aW A)) g1 g2 (by omega) ((wRow (aW A)).length - n) n FU S9 _ _ (by omega) (by omega) s9.1 hR9 hT9 hsh9 hwd9 (by rw [iw9]; exact hwd2.2.1.2.1) (by rw [iw9]; exact hwd2.2.1.2.2.2.2.2) p9 b1 b2 hcd (by omega) (fun j o' hj ho' => by
      obtain ⟨r1, r2, r3, r4⟩ := row_len hg.2.2.1 ho'
      refine ⟨?_, r3⟩
      have ho2 : ((wRow (aW A)).drop n)[j - n]? = some o' := by rw [List.getElem?_drop, show n + (j - n) = j by omega]; exact ho'
      obtain ⟨x1, x2, x3, x4, x5⟩ := chR_get hcd ho2
      have := lenA_le hcd (j - n + 1)
      omega)
    have hW13 : woI A n = foldT (aTies A) o.1 ((wRow (aW A)).drop n) (invC o.2 (srvT (aTold A) ((wRow (aW A)).take (n - 1)))) := by unfold woI; rw [o3]
    rw [← hW13] at p13
    have e13' : LX11_without_61 X z k (z + 654) (nI o.1) FU p S9 = some S13 := by rw [hn]; exact e13
    rw [e13', Option.bind_some]
    have s2d : Sg z (fun x => x = z + 654 ∨ x = z + 656 ∨ Hw (z + 6) x) 0 S2 S13 := Sg_trans (Sg_mono hW2 s9 (fun x hx => Or.inl hx) (Nat.le_refl 0)) s13
    have C13 : CR S13 z A K fi ch := CR_tmp1 C2 hg s2d (fun x hx => by rcases hx with h | h | h | h | h | h <;> omega) ob13
    obtain ⟨hWd, hTd, _, _, hshd, hwdd, _⟩ := id C13
    obtain ⟨v0, v1, v2, v3, v4, v5, v6, v7, v8, v9⟩ := TpS_g hTd
    have k9 := hTd.2.2.2.2.2.2.2.2.2.2.1
    rw [v9, Option.bind_some, v3, Option.bind_some, gr_k hwdd.1.1 hwdd.1.2.1.2.2.1, Option.bind_some, cal_k k9]
    obtain ⟨S18, e18, t18, s18⟩ := copy_T (z := z) hWd k9 hwdd.2.2.2.1 (by omega)
    have hT18 := TpS_Sg hWd hTd s18
    have hw18 := Wv_Sg hWd hshd.1 s18
    obtain ⟨y0, y1, y2, y3, y4, y5, y6, y7, y8, y9⟩ := TpS_g hT18
    have p18 := OpL_Fo hWd p13 s18.2.1 (show ¬ z + 654 = z + 658 by omega)
    have hsl : (srvX (aTold A) (wRow (aW A))).length = (srvT (aTold A) (wRow (aW A))).length := by rw [srvX_len g6, srvT_len _ _ g6]
    rw [e18, Option.bind_some, y1, Option.bind_some, y9, Option.bind_some, cal_k hw18.1]
    obtain ⟨S21, e21, t21, s21⟩ := change_T (z := z) (w := 0) s18.1 hw18.1 t18 p18 (by rw [hsl]; exact w9) w10
    rw [chgX_0] at t21
    have sA : Sg z (fun x => x = z + 658 ∨ x = z + 6) 0 S13 S21 := Sg_trans (Sg_mono hWd s18 (fun x hx => Or.inl hx) (Nat.le_refl 0)) s21
    obtain ⟨l13, ob13⟩ := ob13
    have C21 : CR S21 z A K fi ch := CR_tmp1 C13 hg sA (fun x hx => by omega) ⟨l13, OpL_Fo hWd ob13 sA.2.1 (by omega)⟩
    rw [e21, Option.bind_some, (TpS_g C21.2.1).2.2.2.2.2.2.2.2.2, Option.bind_some, cal_k (TxL_kd t21), askTx t21, Option.bind_some, chg_ltr _ _ w8, srv_ltr hg]
    refine ⟨S21, ?_, C21, ?_⟩
    · by_cases hk1 : -1 ≤ k.toInt
      · rw [if_pos ⟨hp, hk1⟩]
      · rw [if_neg (fun hh => hk1 hh.2)]
        unfold askT
        rw [if_neg (fun e => hk1 (by rw [e]; decide)), if_neg (fun hh => hk1 (by omega))]
    · exact Cst_tr (Cst_tr x2 (Cst_of s2d)) (Cst_of sA)
  · rw [decide_eq_false hp, if_pos (show bI false = 0 from rfl), if_neg (fun hh => hp hh.1)]
    exact ⟨S, rfl, h, Cst_rf z S⟩
end AQ
