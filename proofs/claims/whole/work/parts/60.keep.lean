/-! ===== PART II, the reference: worlds are kept and come back ===== -/
def lst (f : Nat → Int32) (n : Nat) : List Int32 := (List.range n).map f
theorem lst_len (f : Nat → Int32) (n : Nat) : (lst f n).length = n := by unfold lst; simp
theorem lst_get {f : Nat → Int32} {n k : Nat} (h : k < n) : (lst f n).getD k 0 = f k := by
  unfold lst
  rw [List.getD_eq_getElem?_getD, List.getElem?_map, List.getElem?_range h]; rfl
theorem lst_seg (f : Nat → Int32) (a n : Nat) : seg f a (lst (fun k => f (a + k)) n) := fun k hk => by
  rw [lst_len] at hk
  rw [lst_get hk]
theorem lst_wr {g f : Nat → Int32} {d n j : Nat} : wr g d (lst f n) j = if d ≤ j ∧ j < d + n then f (j - d) else g j := by
  unfold wr
  rw [lst_len]
  by_cases h : d ≤ j ∧ j < d + n
  · rw [if_pos h, if_pos h, lst_get (by omega)]
  · rw [if_neg h, if_neg h]
theorem RN_eq {f f' : Nat → Int32} {cnt ties tl : Nat} {W : Wd} (h : RN f cnt W) (hg : Good cnt ties tl W) (hf : ∀ j, j < 10476 → f' j = f j) : RN f' cnt W := by
  obtain ⟨h1, h2, h3, h4, h5⟩ := h
  have hc := hg.1
  exact ⟨by rw [hf 0 (by omega)]; exact h1, by rw [hf 1 (by omega)]; exact h2, by rw [hf 2 (by omega)]; exact h3, by rw [hf 3 (by omega)]; exact h4, fun i hi => REd_eq (h5 i hi) (Good_Bd hg hi) (row_le hg) (fun j j1 j2 => hf j (by omega))⟩
theorem aside_ok (M : MS) : ∃ g, f12_putsAside M = some (sR M 52 g) ∧ ∀ j, j < 10476 → g j = M.2.1 30 j := by
  have h := cpl0 (L := L12_putsAside_2) (src := 30) (dst := 52) (s := 0) (d := 0) (M := M) (l := lst (fun k => M.2.1 30 (0 + k)) 10476) (by decide) (by rw [lst_len]; decide) (by rw [lst_len]; decide) (by rw [lst_len, FU_eq]; omega) (lst_seg _ _ _) (fun n i f hi => by
    rw [lst_len] at hi
    conv => lhs; unfold L12_putsAside_2
    rw [show (10476 : Int32) = nI 10476 from rfl, if_neg (nI_ge hi (by omega)), Nat.zero_add, nI_1]) (fun n f => by
    rw [lst_len]
    unfold L12_putsAside_2
    rw [show (10476 : Int32) = nI 10476 from rfl, if_pos (nI_le (Nat.le_refl _) (by omega))])
  refine ⟨_, by unfold f12_putsAside; rw [h, Option.bind_some], fun j hj => ?_⟩
  rw [lst_wr, if_pos (by omega)]
  rw [Nat.zero_add, Nat.sub_zero]
theorem takesBack_ok (M : MS) : ∃ g, f12_takesBack M = some (sR M 30 g) ∧ ∀ j, j < 10476 → g j = M.2.1 52 j := by
  have h := cpl0 (L := L12_takesBack_2) (src := 52) (dst := 30) (s := 0) (d := 0) (M := M) (l := lst (fun k => M.2.1 52 (0 + k)) 10476) (by decide) (by rw [lst_len]; decide) (by rw [lst_len]; decide) (by rw [lst_len, FU_eq]; omega) (lst_seg _ _ _) (fun n i f hi => by
    rw [lst_len] at hi
    conv => lhs; unfold L12_takesBack_2
    rw [show (10476 : Int32) = nI 10476 from rfl, if_neg (nI_ge hi (by omega)), Nat.zero_add, nI_1]) (fun n f => by
    rw [lst_len]
    unfold L12_takesBack_2
    rw [show (10476 : Int32) = nI 10476 from rfl, if_pos (nI_le (Nat.le_refl _) (by omega))])
  refine ⟨_, by unfold f12_takesBack; rw [h, Option.bind_some], fun j hj => ?_⟩
  rw [lst_wr, if_pos (by omega)]
  rw [Nat.zero_add, Nat.sub_zero]
/-- all is as it was, but that the world is another -/
def sWd (A : St) (W : Wd) : St := (A.1, A.2.1, W, A.2.2.2)
def sHi (A : St) (H : List Wd) : St := (A.1, A.2.1, aW A, H, A.2.2.2.2)
theorem RS_world {M M' : MS} {A : St} {W : Wd} {tl : Nat} (h : RS M A) (ha : ∀ k, ¬ scrA k → ¬ (36 ≤ k ∧ k ≤ 40) → k ≠ 30 → M'.2.1 k = M.2.1 k) (hf : ∀ k, ¬ scrF k → M'.1 k = M.1 k) (hl : M'.2.2 = M.2.2) (hW : RW M' (aCnt A) (aTies A) W) : RS M' (sWd A W) := by
  obtain ⟨h1, h2, h3, h4, h5, h6, h7, h8, h9, h10, h11, h12, h13⟩ := h
  have a : ∀ k, (k = 0 ∨ k = 9 ∨ (10 ≤ k ∧ k ≤ 19) ∨ k = 35 ∨ k = 57 ∨ k = 60) → M'.2.1 k = M.2.1 k := fun k hk => ha k (fun hs => by unfold scrA at hs; omega) (by omega) (by omega)
  have f : ∀ k, (k = 1 ∨ k = 7 ∨ k = 8 ∨ k = 31 ∨ k = 34 ∨ k = 56 ∨ k = 61 ∨ k = 62) → M'.1 k = M.1 k := fun k hk => hf k (fun hs => by unfold scrF at hs; omega)
  refine ⟨by rw [f 1 (by omega)]; exact h1, by rw [a 0 (by omega)]; exact h2, by rw [f 7 (by omega)]; exact h3, by rw [f 8 (by omega)]; exact h4, fun k hk => by rw [a 9 (by omega)]; exact h5 k hk, by rw [f 31 (by omega)]; exact h6, ?_, hW, ?_, by rw [f 56 (by omega)]; exact h10, by rw [a 57 (by omega)]; exact h11, by rw [hl]; exact h12, ?_⟩
  · unfold RT; rw [f 34 (by omega), a 35 (by omega)]; exact h7
  · unfold RH; rw [f 61 (by omega), f 62 (by omega), a 60 (by omega)]; exact h9
  · unfold RKw
    rw [a 10 (by omega), a 11 (by omega), a 12 (by omega), a 13 (by omega), a 14 (by omega), a 15 (by omega), a 16 (by omega), a 17 (by omega), a 18 (by omega), a 19 (by omega)]
    exact h13
theorem pre_row {M : MS} {s t : List (Nat × List Int32)} (h : RRow M t) (hp : s <+: t) : RRow M s := by
  obtain ⟨r, hr⟩ := hp
  rw [← hr] at h
  exact RRow_pre h
/-- a world is put aside, something goes on, and it comes back -/
theorem RS_aside {M M1 M3 M' : MS} {A : St} {g g' : Nat → Int32} {As Fs : List Nat} {W' : Wd} (h : RS M A) (hg : GA A) (h1 : M1 = sR M 52 g) (hgs : ∀ j, j < 10476 → g j = M.2.1 30 j) (hf : FN As Fs (fun _ => True) M1 M3) (hA : ∀ k ∈ As, k ≠ 52 ∧ (scrA k ∨ (36 ≤ k ∧ k ≤ 40))) (hF : ∀ k ∈ Fs, scrF k) (hR : RRow M3 (wRow W')) (hp : wRow (aW A) <+: wRow W') (h' : M' = sR M3 30 g') (hgs' : ∀ j, j < 10476 → g' j = M3.2.1 52 j) : RS M' A := by
  have e : sWd A (aW A) = A := rfl
  rw [← e]
  have gd := GA_good hg
  have m52 : M3.2.1 52 = g := by
    rw [hf.1 52 (fun hm => (hA 52 hm).1 rfl) (by decide), h1, sR_get]
  have hf1 : ∀ k, ¬ scrF k → M'.1 k = M.1 k := fun k hk => by
    rw [h', sR_F, hf.2.1 k (fun hm => hk (hF k hm)), h1, sR_F]
  refine RS_world (tl := 0) h (fun k hk hk2 hk3 => ?_) hf1 ?_ ?_
  · have hk4 : k ≠ 52 := fun hh => hk (by subst hh; unfold scrA; omega)
    rw [h', sR_ne _ _ hk3, hf.1 k (fun hm => by rcases (hA k hm).2 with hs | hs; exact hk hs; exact hk2 hs) hk3, h1, sR_ne _ _ hk4]
  · rw [h', sR_L, hf.2.2.1, h1, sR_L]
  · have hrw := RW_RN.mp (RS_RW h)
    rw [RW_RN, hf1 32 (by unfold scrF; omega), hf1 33 (by unfold scrF; omega)]
    refine ⟨hrw.1, hrw.2.1, RN_eq hrw.2.2.1 gd (fun j hj => ?_), ?_⟩
    · rw [h', sR_get, hgs' j hj, m52, hgs j hj]
    · have h3 := pre_row hR hp
      intro i o ho
      rw [h', sR_ne _ _ (by decide), sR_ne _ _ (by decide), sR_ne _ _ (by decide), sR_ne _ _ (by decide), sR_ne _ _ (by decide)]
      exact h3 i o ho
theorem kep_loop {M : MS} {nw : Nat} (h62 : M.1 62 = nI nw) (hn : nw < 20) : L12_keeps_15 FU 0 M = some (sR M 60 (wr (M.2.1 60) (10476 * nw) (lst (fun k => M.2.1 30 (0 + k)) 10476))) := by
  refine cpl0 (src := 30) (s := 0) (d := 10476 * nw) (by decide) (by rw [lst_len]; decide) (by rw [lst_len, show mLn 60 = 209520 from rfl]; omega) (by rw [lst_len, FU_eq]; omega) (lst_seg _ _ _) (fun n i f hi => ?_) (fun n f => ?_)
  · rw [lst_len] at hi
    conv => lhs; unfold L12_keeps_15
    rw [show gF (sR M 60 f) 62 = nI nw from h62, show (10476 : Int32) = nI 10476 from rfl, if_neg (nI_ge hi (by omega)), nI_mul, nI_add, Nat.zero_add, nI_1]
  · rw [lst_len]
    unfold L12_keeps_15
    rw [show (10476 : Int32) = nI 10476 from rfl, if_pos (nI_le (Nat.le_refl _) (by omega))]
theorem mod20 {n : Nat} (h : n < 1000) : nI n - nI n / (20 : Int32) * (20 : Int32) = nI (n % 20) := by
  rw [show (20 : Int32) = nI 20 from rfl]
  have hd : nI n / nI 20 = nI (n / 20) := by
    apply Int32.toInt_inj.mp
    rw [Int32.toInt_div, nI_toInt (by omega), nI_toInt (by omega), nI_toInt (by omega)]
    have h1 : (n : Int).tdiv ((20 : Nat) : Int) = ((n / 20 : Nat) : Int) := by rw [Int.ofNat_tdiv]
    rw [h1, Int.bmod_def]
    have : ((n / 20 : Nat) : Int) % (2 ^ 32 : Nat) = ((n / 20 : Nat) : Int) := by
      apply Int.emod_eq_of_lt <;> omega
    rw [this]
    rw [if_pos (by omega)]
  rw [hd, nI_mul, nI_sub (by omega), show n - n / 20 * 20 = n % 20 by omega]
