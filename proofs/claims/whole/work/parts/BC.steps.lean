/-! ===== PART II, the class: a row is made, two rows are changed for each other, a reader's operation ===== -/
theorem lenO_of {S : CS} {h a : Nat} (hj : cJ S h 0 = some a) : lenO S h = cN S a := by unfold lenO; rw [hj]
theorem sum_one {f g : Nat → Nat} {n h : Nat} (hh : h < n) (he : ∀ x, x < n → x ≠ h → f x = g x) : sumN f n + g h = sumN g n + f h := by
  rw [← sumN_split (f := f) hh, ← sumN_split (f := g) hh]
  have : sumN (fun i => if i = h then 0 else f i) n = sumN (fun i => if i = h then 0 else g i) n := sumN_congr (fun i hi => by
    by_cases hih : i = h
    · rw [if_pos hih, if_pos hih]
    · rw [if_neg hih, if_neg hih]; exact he i hi hih)
  omega
theorem sum_two {f g : Nat → Nat} {n h p : Nat} (hh : h < n) (hp : p < n) (hne : h ≠ p) (he : ∀ x, x < n → x ≠ h → x ≠ p → f x = g x) (h1 : f h = g p) (h2 : f p = g h) : sumN f n = sumN g n := by
  have e1 := sum_one (f := f) (g := fun x => if x = h then g h else f x) hh (fun x _ hx => (by rw [if_neg hx]))
  have e2 := sum_one (f := fun x => if x = h then g h else f x) (g := g) hp (fun x hx hxp => by
    by_cases hxh : x = h
    · rw [if_pos hxh, hxh]
    · rw [if_neg hxh]; exact he x hx hxh hxp)
  rw [if_pos rfl] at e1
  rw [if_neg (Ne.symm hne)] at e2
  omega
theorem cJ_set {S : CS} {h k : Nat} {v : Option Nat} {x j : Nat} : cJ (setJ S h k v) x j = if x = h ∧ j = k then v else cJ S x j := by
  show va_up S.2.2.2.1 h (va_up (S.2.2.2.1 h) k v) x j = _
  by_cases hx : x = h
  · subst hx
    rw [va_up_self]
    by_cases hj : j = k
    · subst hj; rw [va_up_self, if_pos ⟨rfl, rfl⟩]
    · rw [va_up_ne _ _ hj, if_neg (fun hh => hj hh.2)]
  · rw [va_up_ne _ _ hx, if_neg (fun hh => hx hh.1)]
theorem Sg_born {z : Nat} {H : Nat → Prop} {S : CS} {h n c : Nat} (hW : Wf S) (hk : kd S h = 4) (hH : H h) (h16 : 16 ≤ n) (h1600 : n ≤ 1600) (hw : n + wt z h (lenO S h) ≤ wt z h n + c) : Sg z H c S (setJ (bornA S 14 n) h 0 (some (cZ S))) := by
  have hh : h < cZ S := kd_lt hW.1 hk (by omega)
  obtain ⟨a, q1, q2, q3, q4, q5⟩ := hW.2.2.2.1 h hk
  generalize hT : setJ (bornA S 14 n) h 0 (some (cZ S)) = T
  have eL : cL T = cL S ++ [cZ S] := by rw [← hT]; rfl
  have eZ : cZ T = cZ S + 1 := by rw [← hT]; rfl
  have eU : cU T = cU S + n := by rw [← hT]; rfl
  have eI : cI T = cI S := by rw [← hT]; rfl
  have eJ : ∀ x j, cJ T x j = if x = h ∧ j = 0 then some (cZ S) else cJ S x j := fun x j => by rw [← hT]; exact cJ_set (S := bornA S 14 n)
  have ek : ∀ x, x < cZ S → kd T x = kd S x := fun x hx => by rw [← hT]; exact kd_bornA (n := n) hx
  have ekn : kd T (cZ S) = 14 := by rw [← hT]; exact kd_newA S 14 n
  have eN : ∀ x, x < cZ S → cN T x = cN S x := fun x hx => by rw [← hT]; exact va_up_ne _ _ (show x ≠ cZ S by omega)
  have eNn : cN T (cZ S) = n := by rw [← hT]; exact va_up_self _ _ _
  have eA : ∀ x, x < cZ S → cA T x = cA S x := fun x hx => by rw [← hT]; exact va_up_ne _ _ (show x ≠ cZ S by omega)
  have eB : ∀ x, x < cZ S → cB T x = cB S x := fun x hx => by rw [← hT]; exact va_up_ne _ _ (show x ≠ cZ S by omega)
  have el : ∀ x, x < cZ S → x ≠ h → lenO T x = lenO S x := fun x hx hne => by
    unfold lenO
    rw [eJ, if_neg (fun hc => hne hc.1)]
    cases hc : cJ S x 0 with
    | none => rfl
    | some b => exact eN b (hW.2.1 x 0 b hc).2
  have elh : lenO T h = n := by unfold lenO; rw [eJ, if_pos ⟨rfl, rfl⟩]; exact eNn
  refine ⟨⟨fun x hx => ?_, fun x k b hb => ?_, fun x y j k b h1 h2 h3 => ?_, fun x hx => ?_, fun x k hx => ?_⟩, ⟨by omega, fun x hx => ⟨ek x hx, eN x hx, fun _ _ => eA x hx, fun hn => ⟨by rw [eI], ?_, eB x hx⟩⟩, fun b hb hkb ho => ?_, fun y k b h1 h2 hn hj hb hkb => ?_⟩, ?_, by omega, fun x k hx hs => ?_, fun x hx _ _ => eB x hx⟩
  · rw [eL] at hx
    rcases List.mem_append.mp hx with hx | hx
    · have := hW.1 x hx; omega
    · have := List.mem_singleton.mp hx; omega
  · rw [eJ] at hb
    by_cases hc : x = h ∧ k = 0
    · rw [if_pos hc] at hb
      have := Option.some.inj hb
      omega
    · rw [if_neg hc] at hb
      have := hW.2.1 x k b hb
      omega
  · rw [eJ] at h1 h2
    by_cases hc : x = h ∧ j = 0
    · rw [if_pos hc] at h1
      have hb := Option.some.inj h1
      by_cases hd : y = h ∧ k = 0
      · exact ⟨hc.1.trans hd.1.symm, hc.2.trans hd.2.symm⟩
      · rw [if_neg hd] at h2
        have := (hW.2.1 y k b h2).2
        omega
    · rw [if_neg hc] at h1
      have hb := (hW.2.1 x j b h1).2
      by_cases hd : y = h ∧ k = 0
      · rw [if_pos hd] at h2
        have := Option.some.inj h2
        omega
      · rw [if_neg hd] at h2
        rw [ek b hb] at h3
        exact hW.2.2.1 x y j k b h1 h2 h3
  · by_cases hxz : x < cZ S
    · rw [ek x hxz] at hx
      by_cases hxh : x = h
      · subst hxh
        exact ⟨cZ S, by rw [eJ, if_pos ⟨rfl, rfl⟩], ekn, by rw [eNn]; omega, by rw [eNn]; omega, by rw [eNn]; omega⟩
      · obtain ⟨b, r1, r2, r3⟩ := hW.2.2.2.1 x hx
        have hb := (hW.2.1 x 0 b r1).2
        exact ⟨b, by rw [eJ, if_neg (fun hc => hxh hc.1)]; exact r1, by rw [ek b hb]; exact r2, by rw [eN b hb]; exact r3⟩
    · by_cases hxe : x = cZ S
      · rw [hxe, ekn] at hx; omega
      · exfalso
        have hm := (kd_in hx (by omega)).1
        rw [eL] at hm
        rcases List.mem_append.mp hm with hm | hm
        · exact hxz (hW.1 x hm)
        · exact hxe (List.mem_singleton.mp hm)
  · have hxz : x < cZ S := by
      have h99 : kd T x ≠ 14 ∧ kd T x < 99 := by omega
      have hm := (kd_in (S := T) (a := x) rfl h99.2).1
      rw [eL] at hm
      rcases List.mem_append.mp hm with hm | hm
      · exact hW.1 x hm
      · have := List.mem_singleton.mp hm
        rw [this] at h99
        exact absurd ekn h99.1
    rw [ek x hxz] at hx
    obtain ⟨b, r1, r2, r3⟩ := hW.2.2.2.2 x k hx
    have hb := (hW.2.1 x k b r1).2
    exact ⟨b, by rw [eJ, if_neg (fun hc => by rw [hc.1, hk] at hx; omega)]; exact r1, by rw [ek b hb]; exact r2, by rw [eN b hb]; exact r3⟩
  · funext j
    rw [eJ, if_neg (fun hc => hn (by rw [hc.1]; exact hH))]
  · obtain ⟨y, k, r1, r2⟩ := ho
    rw [eJ] at r2
    by_cases hc : y = h ∧ k = 0
    · rw [if_pos hc] at r2
      have := Option.some.inj r2
      omega
    · rw [if_neg hc] at r2
      exact ⟨y, k, r1, r2⟩
  · have hy : y = cZ S := by omega
    rw [eJ, if_neg (fun hc => by omega)] at hj
    have := (hW.2.1 y k b hj).1
    omega
  · unfold Tt
    have e1 : sumN (dfc z T) (cZ T) = sumN (dfc z T) (cZ S) := by
      rw [eZ, sumN, show dfc z T (cZ S) = 0 from by unfold dfc; rw [ekn, if_neg (by omega)]]
      rfl
    have e2 := sum_one (f := dfc z T) (g := dfc z S) hh (fun x hx hne => by unfold dfc; rw [ek x hx, el x hx hne])
    have e3 : dfc z T h = wt z h 1600 - wt z h n := by unfold dfc; rw [ek h hh, if_pos hk, elh]
    have e4 : dfc z S h = wt z h 1600 - wt z h (lenO S h) := by unfold dfc; rw [if_pos hk]
    have e5 := wt_mono z h h1600
    have e6 := wt_mono z h (show lenO S h ≤ 1600 by rw [lenO_of q1]; omega)
    rw [e1, eU]
    omega
  · rw [eJ, if_neg (fun hc => by
      obtain ⟨s1, _⟩ := hs
      exact s1 ⟨by rw [hc.1]; exact hk, hc.2⟩)]
/-- two rows of numbers change their places -/
theorem Sg_swapJ {z : Nat} {H : Nat → Prop} {S : CS} {h p j k a b : Nat} (hW : Wf S) (hne : h ≠ p) (hH : H h) (hP : H p) (h1 : cJ S h j = some a) (h2 : cJ S p k = some b) (ha : kd S a = 14) (hb : kd S b = 14) (hs : ¬ Sta (kd S h) j ∧ ¬ Sta (kd S p) k) (hc : (kd S h = 4 ∧ kd S p = 4 ∧ j = 0 ∧ k = 0 ∧ wt z h = wt z p) ∨ (kd S h = 7 ∧ j = 0 ∧ kd S p = 9 ∧ k = 4)) : Sg z H 0 S (setJ (setJ S h j (some b)) p k (some a)) := by
  obtain ⟨hz, haz⟩ := hW.2.1 h j a h1
  obtain ⟨pz, hbz⟩ := hW.2.1 p k b h2
  generalize hT : setJ (setJ S h j (some b)) p k (some a) = T
  have eL : cL T = cL S := by rw [← hT]; rfl
  have eZ : cZ T = cZ S := by rw [← hT]; rfl
  have eU : cU T = cU S := by rw [← hT]; rfl
  have ek : ∀ x, kd T x = kd S x := fun x => by rw [← hT]; rfl
  have eN : cN T = cN S := by rw [← hT]; rfl
  have eJ : ∀ x i, cJ T x i = if x = p ∧ i = k then some a else if x = h ∧ i = j then some b else cJ S x i := fun x i => by rw [← hT, cJ_set, cJ_set]
  have hab : a ≠ b := fun e => by
    rw [e] at h1
    exact hne (hW.2.2.1 h p j k b h1 h2 hb).1
  refine ⟨⟨by rw [eL, eZ]; exact hW.1, fun x i c hcj => ?_, fun x y i i' c g1 g2 g3 => ?_, fun x hx => ?_, fun x i hx => ?_⟩, ⟨by omega, fun x hx => ⟨ek x, by rw [eN], fun _ _ => by rw [← hT]; rfl, fun hn => ⟨by rw [← hT]; rfl, ?_, by rw [← hT]; rfl⟩⟩, fun c hcz hck ho => ?_, fun y i c g1 g2 => by omega⟩, ?_, by omega, fun x i hx hss => ?_, fun x _ _ _ => by rw [← hT]; rfl⟩
  · rw [eJ] at hcj
    by_cases q1 : x = p ∧ i = k
    · rw [if_pos q1] at hcj
      have := Option.some.inj hcj
      omega
    · rw [if_neg q1] at hcj
      by_cases q2 : x = h ∧ i = j
      · rw [if_pos q2] at hcj
        have := Option.some.inj hcj
        omega
      · rw [if_neg q2] at hcj
        have := hW.2.1 x i c hcj
        omega
  · rw [ek] at g3
    rw [eJ] at g1 g2
    -- each place of T is a place of S
    have key : ∀ x i, (if x = p ∧ i = k then some a else if x = h ∧ i = j then some b else cJ S x i) = some c → (x = p ∧ i = k ∧ c = a) ∨ (x = h ∧ i = j ∧ c = b) ∨ (¬ (x = p ∧ i = k) ∧ ¬ (x = h ∧ i = j) ∧ cJ S x i = some c) := by
      intro x i hh
      by_cases q1 : x = p ∧ i = k
      · rw [if_pos q1] at hh; exact Or.inl ⟨q1.1, q1.2, (Option.some.inj hh).symm⟩
      · rw [if_neg q1] at hh
        by_cases q2 : x = h ∧ i = j
        · rw [if_pos q2] at hh; exact Or.inr (Or.inl ⟨q2.1, q2.2, (Option.some.inj hh).symm⟩)
        · rw [if_neg q2] at hh; exact Or.inr (Or.inr ⟨q1, q2, hh⟩)
    have oa : ∀ x i, cJ S x i = some a → x = h ∧ i = j := fun x i hh => hW.2.2.1 x h i j a hh h1 ha
    have ob : ∀ x i, cJ S x i = some b → x = p ∧ i = k := fun x i hh => hW.2.2.1 x p i k b hh h2 hb
    rcases key x i g1 with ⟨u1, u2, u3⟩ | ⟨u1, u2, u3⟩ | ⟨u1, u2, u3⟩
    · rcases key y i' g2 with ⟨v1, v2, v3⟩ | ⟨v1, v2, v3⟩ | ⟨v1, v2, v3⟩
      · exact ⟨u1.trans v1.symm, u2.trans v2.symm⟩
      · exact absurd (u3.symm.trans v3) hab
      · exact absurd (oa y i' (u3 ▸ v3)) v2
    · rcases key y i' g2 with ⟨v1, v2, v3⟩ | ⟨v1, v2, v3⟩ | ⟨v1, v2, v3⟩
      · exact absurd (v3.symm.trans u3) hab
      · exact ⟨u1.trans v1.symm, u2.trans v2.symm⟩
      · exact absurd (ob y i' (u3 ▸ v3)) v1
    · rcases key y i' g2 with ⟨v1, v2, v3⟩ | ⟨v1, v2, v3⟩ | ⟨v1, v2, v3⟩
      · exact absurd (oa x i (v3 ▸ u3)) u2
      · exact absurd (ob x i (v3 ▸ u3)) u1
      · exact hW.2.2.1 x y i i' c u3 v3 g3
  · rw [ek] at hx
    obtain ⟨c, r1, r2, r3⟩ := hW.2.2.2.1 x hx
    rcases hc with ⟨c1, c2, c3, c4, c5⟩ | ⟨c1, c3, c2, c4⟩
    · subst c3; subst c4
      by_cases q1 : x = p
      · obtain ⟨c', s1, s2, s3⟩ := hW.2.2.2.1 h c1
        have : c' = a := Option.some.inj (s1.symm.trans h1)
        subst this
        exact ⟨c', by rw [eJ, if_pos ⟨q1, rfl⟩], by rw [ek]; exact s2, by rw [eN]; exact s3⟩
      · by_cases q2 : x = h
        · obtain ⟨c', s1, s2, s3⟩ := hW.2.2.2.1 p c2
          have : c' = b := Option.some.inj (s1.symm.trans h2)
          subst this
          exact ⟨c', by rw [eJ, if_neg (fun hh => q1 hh.1), if_pos ⟨q2, rfl⟩], by rw [ek]; exact s2, by rw [eN]; exact s3⟩
        · exact ⟨c, by rw [eJ, if_neg (fun hh => q1 hh.1), if_neg (fun hh => q2 hh.1)]; exact r1, by rw [ek]; exact r2, by rw [eN]; exact r3⟩
    · exact ⟨c, by rw [eJ, if_neg (fun hh => by rw [hh.1, c2] at hx; omega), if_neg (fun hh => by rw [hh.1, c1] at hx; omega)]; exact r1, by rw [ek]; exact r2, by rw [eN]; exact r3⟩
  · rw [ek] at hx
    obtain ⟨c, r1, r2, r3⟩ := hW.2.2.2.2 x i hx
    rcases hc with ⟨c1, c2, c3, c4, c5⟩ | ⟨c1, c3, c2, c4⟩
    · exact ⟨c, by rw [eJ, if_neg (fun hh => by rw [hh.1, c2] at hx; omega), if_neg (fun hh => by rw [hh.1, c1] at hx; omega)]; exact r1, by rw [ek]; exact r2, by rw [eN]; exact r3⟩
    · subst c3; subst c4
      by_cases q1 : x = p ∧ i = 4
      · obtain ⟨c', s1, s2, s3⟩ := hW.2.2.2.2 h 0 (Or.inl ⟨c1, rfl⟩)
        have : c' = a := Option.some.inj (s1.symm.trans h1)
        subst this
        exact ⟨c', by rw [eJ, if_pos q1], by rw [ek]; exact s2, by rw [eN]; exact s3⟩
      · by_cases q2 : x = h ∧ i = 0
        · obtain ⟨c', s1, s2, s3⟩ := hW.2.2.2.2 p 4 (Or.inr ⟨c2, rfl⟩)
          have : c' = b := Option.some.inj (s1.symm.trans h2)
          subst this
          exact ⟨c', by rw [eJ, if_neg q1, if_pos q2], by rw [ek]; exact s2, by rw [eN]; exact s3⟩
        · exact ⟨c, by rw [eJ, if_neg q1, if_neg q2]; exact r1, by rw [ek]; exact r2, by rw [eN]; exact r3⟩
  · funext i
    rw [eJ, if_neg (fun hh => hn (by rw [hh.1]; exact hP)), if_neg (fun hh => hn (by rw [hh.1]; exact hH))]
  · obtain ⟨y, i, r1, r2⟩ := ho
    rw [eJ] at r2
    by_cases q1 : y = p ∧ i = k
    · rw [if_pos q1] at r2
      exact ⟨h, j, hH, by rw [h1]; exact r2⟩
    · rw [if_neg q1] at r2
      by_cases q2 : y = h ∧ i = j
      · rw [if_pos q2] at r2
        exact ⟨p, k, hP, by rw [h2]; exact r2⟩
      · rw [if_neg q2] at r2
        exact ⟨y, i, r1, r2⟩
  · unfold Tt
    rw [eU, eZ]
    have : sumN (dfc z T) (cZ S) = sumN (dfc z S) (cZ S) := by
      have lo : ∀ x, x ≠ h → x ≠ p → lenO T x = lenO S x := fun x q1 q2 => by
        unfold lenO
        rw [eJ, if_neg (fun hh => q2 hh.1), if_neg (fun hh => q1 hh.1), eN]
      rcases hc with ⟨c1, c2, c3, c4, c5⟩ | ⟨c1, c3, c2, c4⟩
      · subst c3; subst c4
        have l1 : lenO T h = lenO S p := by
          unfold lenO
          rw [eJ, if_neg (fun hh => hne hh.1), if_pos ⟨rfl, rfl⟩, h2, eN]
        have l2 : lenO T p = lenO S h := by
          unfold lenO
          rw [eJ, if_pos ⟨rfl, rfl⟩, h1, eN]
        refine sum_two hz pz hne (fun x hx q1 q2 => by unfold dfc; rw [ek, lo x q1 q2]) ?_ ?_
        · unfold dfc; rw [ek, c1, c2, l1, c5]
        · unfold dfc; rw [ek, c1, c2, l2, c5]
      · refine sumN_congr (fun x hx => ?_)
        unfold dfc
        rw [ek]
        by_cases q : kd S x = 4
        · rw [if_pos q, if_pos q, lo x (fun e => by rw [e, c1] at q; omega) (fun e => by rw [e, c2] at q; omega)]
        · rw [if_neg q, if_neg q]
    omega
  · rw [eJ, if_neg (fun hh => hs.2 (by rw [← hh.1, ← hh.2]; exact hss)), if_neg (fun hh => hs.1 (by rw [← hh.1, ← hh.2]; exact hss))]
/-- a reader gets another operation -/
theorem Sg_setJ5 {z : Nat} {H : Nat → Prop} {S : CS} {h b : Nat} (hW : Wf S) (hH : H h) (hk : kd S h = 5) (hb : kd S b = 4) : Sg z H 0 S (setJ S h 0 (some b)) := by
  have hz : h < cZ S := kd_lt hW.1 hk (by omega)
  have bz : b < cZ S := kd_lt hW.1 hb (by omega)
  generalize hT : setJ S h 0 (some b) = T
  have eL : cL T = cL S := by rw [← hT]; rfl
  have eZ : cZ T = cZ S := by rw [← hT]; rfl
  have eU : cU T = cU S := by rw [← hT]; rfl
  have ek : ∀ x, kd T x = kd S x := fun x => by rw [← hT]; rfl
  have eN : cN T = cN S := by rw [← hT]; rfl
  have eJ : ∀ x i, cJ T x i = if x = h ∧ i = 0 then some b else cJ S x i := fun x i => by rw [← hT, cJ_set]
  have ne : ∀ x i c, cJ T x i = some c → kd S c = 14 → cJ S x i = some c := fun x i c h1 h2 => by
    rw [eJ] at h1
    by_cases q : x = h ∧ i = 0
    · rw [if_pos q] at h1
      rw [← Option.some.inj h1, hb] at h2
      omega
    · rw [if_neg q] at h1; exact h1
  refine ⟨⟨by rw [eL, eZ]; exact hW.1, fun x i c hcj => ?_, fun x y i i' c g1 g2 g3 => ?_, fun x hx => ?_, fun x i hx => ?_⟩, ⟨by omega, fun x hx => ⟨ek x, by rw [eN], fun _ _ => by rw [← hT]; rfl, fun hn => ⟨by rw [← hT]; rfl, ?_, by rw [← hT]; rfl⟩⟩, fun c hcz hck ho => ?_, fun y i c g1 g2 => by omega⟩, ?_, by omega, fun x i hx hss => ?_, fun x _ _ _ => by rw [← hT]; rfl⟩
  · rw [eJ] at hcj
    by_cases q1 : x = h ∧ i = 0
    · rw [if_pos q1] at hcj
      have := Option.some.inj hcj
      omega
    · rw [if_neg q1] at hcj
      have := hW.2.1 x i c hcj
      omega
  · rw [ek] at g3
    exact hW.2.2.1 x y i i' c (ne x i c g1 g3) (ne y i' c g2 g3) g3
  · rw [ek] at hx
    obtain ⟨c, r1, r2, r3⟩ := hW.2.2.2.1 x hx
    exact ⟨c, by rw [eJ, if_neg (fun hh => by rw [hh.1, hk] at hx; omega)]; exact r1, by rw [ek]; exact r2, by rw [eN]; exact r3⟩
  · rw [ek] at hx
    obtain ⟨c, r1, r2, r3⟩ := hW.2.2.2.2 x i hx
    exact ⟨c, by rw [eJ, if_neg (fun hh => by rw [hh.1, hk] at hx; omega)]; exact r1, by rw [ek]; exact r2, by rw [eN]; exact r3⟩
  · funext i
    rw [eJ, if_neg (fun hh => hn (by rw [hh.1]; exact hH))]
  · obtain ⟨y, i, r1, r2⟩ := ho
    exact ⟨y, i, r1, ne y i c r2 hck⟩
  · unfold Tt
    rw [eU, eZ, sumN_congr (g := dfc z S) (fun x hx => by
      unfold dfc
      rw [ek]
      by_cases q : kd S x = 4
      · rw [if_pos q, if_pos q]
        have : lenO T x = lenO S x := by
          unfold lenO
          rw [eJ, if_neg (fun hh => by rw [hh.1, hk] at q; omega), eN]
        rw [this]
      · rw [if_neg q, if_neg q])]
    omega
  · rw [eJ, if_neg (fun hh => by
      obtain ⟨_, _, _, s4⟩ := hss
      exact s4 ⟨by rw [hh.1]; exact hk, hh.2⟩)]
