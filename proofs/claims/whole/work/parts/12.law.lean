noncomputable def lc_0 (X : Nat × Nat) (xs : Nat → Int32) (Ln x : Nat) (i : Int32) (S : CS) (M : MS) : Option (CS × MS) :=
  (sx xs Ln (i + (1 : Int32))).bind fun v1 =>
  (sx xs Ln (i + (2 : Int32))).bind fun v2 =>
  (sx xs Ln (i + (3 : Int32))).bind fun v3 =>
  (sx xs Ln (i + (4 : Int32))).bind fun v4 =>
  (sx xs Ln (i + (5 : Int32))).bind fun v5 =>
  bn2 (cal S 11 x (f11_feed S x v1 v2 v3 v4 v5)) fun r6 S7 =>
  (sx xs Ln (i + (1 : Int32))).bind fun v8 =>
  (sx xs Ln (i + (2 : Int32))).bind fun v9 =>
  (sx xs Ln (i + (3 : Int32))).bind fun v10 =>
  (sx xs Ln (i + (4 : Int32))).bind fun v11 =>
  (sx xs Ln (i + (5 : Int32))).bind fun v12 =>
  bn2 (f12_feed M v8 v9 v10 v11 v12) fun r13 M14 =>
  if r6 = r13 then some (S7, M14) else none
set_option maxHeartbeats 4000000 in
set_option maxRecDepth 100000 in
theorem lc_0_ok {E : CxT} {l : Launch} {D : va_G} {y : CyT} {h : Nat} {q : Nat → Nat} {b Ln x : Nat} {xs : Nat → Int32} {X : Nat × Nat} (hc : Cx E "FarEditorsLaw" cL_law 4) (hz : Cy E l D y 13 478 X.1 X.2) (hX : X.2 ≤ 100000000) (hXs : va_X b Ln xs (xS E) (xS E).heap) (hbl : b < (xS E).heap.size) (hbA : ¬ xF E b) {i : Int32} {S S' : CS} {M M' : MS} (hf : lc_0 X xs Ln x i S M = some (S', M')) (hk : V E (cZ S') (cU S') (cw y S' ++ mw h q y M') 1390 [(0, .ref b), (1, .ref x), (2, .ref h), (3, .int i)] []) : V E (cZ S) (cU S) (cw y S ++ mw h q y M) 200 [(0, .ref b), (1, .ref x), (2, .ref h), (3, .int i)] [] := by
  have hT := hz.2.2.1
  unfold lc_0 at hf
  refine V_aload_n hc dL_law_200 rfl 1 rfl ?_
  refine V_aload_n hc dL_law_201 rfl 0 rfl ?_
  refine V_iload_n hc dL_law_202 rfl 3 rfl ?_
  refine V_iconst hc (v := (1 : Int32)) dL_law_203 rfl ?_
  refine V_iadd hc dL_law_204 ?_
  obtain ⟨v1, hv1, hf⟩ := mb hf
  refine V_sld hc hXs hbl hbA hv1 dL_law_205 ?_
  refine V_aload_n hc dL_law_206 rfl 0 rfl ?_
  refine V_iload_n hc dL_law_207 rfl 3 rfl ?_
  refine V_iconst hc (v := (2 : Int32)) dL_law_208 rfl ?_
  refine V_iadd hc dL_law_209 ?_
  obtain ⟨v2, hv2, hf⟩ := mb hf
  refine V_sld hc hXs hbl hbA hv2 dL_law_210 ?_
  refine V_aload_n hc dL_law_211 rfl 0 rfl ?_
  refine V_iload_n hc dL_law_212 rfl 3 rfl ?_
  refine V_iconst hc (v := (3 : Int32)) dL_law_213 rfl ?_
  refine V_iadd hc dL_law_214 ?_
  obtain ⟨v3, hv3, hf⟩ := mb hf
  refine V_sld hc hXs hbl hbA hv3 dL_law_215 ?_
  refine V_aload_n hc dL_law_216 rfl 0 rfl ?_
  refine V_iload_n hc dL_law_217 rfl 3 rfl ?_
  refine V_iconst hc (v := (4 : Int32)) dL_law_218 rfl ?_
  refine V_iadd hc dL_law_219 ?_
  obtain ⟨v4, hv4, hf⟩ := mb hf
  refine V_sld hc hXs hbl hbA hv4 dL_law_220 ?_
  refine V_aload_n hc dL_law_221 rfl 0 rfl ?_
  refine V_iload_n hc dL_law_222 rfl 3 rfl ?_
  refine V_iconst hc (v := (5 : Int32)) dL_law_223 rfl ?_
  refine V_iadd hc dL_law_224 ?_
  obtain ⟨v5, hv5, hf⟩ := mb hf
  refine V_sld hc hXs hbl hbA hv5 dL_law_225 ?_
  obtain ⟨r6, S7, hr6, hf⟩ := mb2 hf
  obtain ⟨hkr6, hr6⟩ := og hr6
  refine L_callC hc hz (As := [.int v1, .int v2, .int v3, .int v4, .int v5]) hkr6 (c11_feed l D y _ _ hr6) w2_236 w2_237 w2_238 w1_1 w2_239 hdX_X11_feed ⟨(Nat.le_of_ble_eq_true rfl), (Nat.le_of_ble_eq_true rfl)⟩ rfl rfl (Nat.le_of_ble_eq_true rfl) dL_law_226 ?_
  refine V_aload_n hc dL_law_229 rfl 2 rfl ?_
  refine V_aload_n hc dL_law_230 rfl 0 rfl ?_
  refine V_iload_n hc dL_law_231 rfl 3 rfl ?_
  refine V_iconst hc (v := (1 : Int32)) dL_law_232 rfl ?_
  refine V_iadd hc dL_law_233 ?_
  obtain ⟨v8, hv8, hf⟩ := mb hf
  refine V_sld hc hXs hbl hbA hv8 dL_law_234 ?_
  refine V_aload_n hc dL_law_235 rfl 0 rfl ?_
  refine V_iload_n hc dL_law_236 rfl 3 rfl ?_
  refine V_iconst hc (v := (2 : Int32)) dL_law_237 rfl ?_
  refine V_iadd hc dL_law_238 ?_
  obtain ⟨v9, hv9, hf⟩ := mb hf
  refine V_sld hc hXs hbl hbA hv9 dL_law_239 ?_
  refine V_aload_n hc dL_law_240 rfl 0 rfl ?_
  refine V_iload_n hc dL_law_241 rfl 3 rfl ?_
  refine V_iconst hc (v := (3 : Int32)) dL_law_242 rfl ?_
  refine V_iadd hc dL_law_243 ?_
  obtain ⟨v10, hv10, hf⟩ := mb hf
  refine V_sld hc hXs hbl hbA hv10 dL_law_244 ?_
  refine V_aload_n hc dL_law_245 rfl 0 rfl ?_
  refine V_iload_n hc dL_law_246 rfl 3 rfl ?_
  refine V_iconst hc (v := (4 : Int32)) dL_law_247 rfl ?_
  refine V_iadd hc dL_law_248 ?_
  obtain ⟨v11, hv11, hf⟩ := mb hf
  refine V_sld hc hXs hbl hbA hv11 dL_law_249 ?_
  refine V_aload_n hc dL_law_250 rfl 0 rfl ?_
  refine V_iload_n hc dL_law_251 rfl 3 rfl ?_
  refine V_iconst hc (v := (5 : Int32)) dL_law_252 rfl ?_
  refine V_iadd hc dL_law_253 ?_
  obtain ⟨v12, hv12, hf⟩ := mb hf
  refine V_sld hc hXs hbl hbA hv12 dL_law_254 ?_
  obtain ⟨r13, M14, hr13, hf⟩ := mb2 hf
  refine L_callM hc hz (As := [.int v8, .int v9, .int v10, .int v11, .int v12]) (c12_feed l D h q y _ _ _ _ hr13) w7_13 w7_14 w7_15 w1_13 w7_16 hd12_feed ⟨(Nat.le_of_ble_eq_true rfl), (Nat.le_of_ble_eq_true rfl)⟩ rfl rfl (Nat.le_of_ble_eq_true rfl) dL_law_255 ?_
  have he : r6 = r13 := by
    by_cases hh : r6 = r13
    · exact hh
    · rw [if_neg hh] at hf; cases hf
  rw [if_pos he] at hf
  obtain ⟨rfl, rfl⟩ := si2 hf
  refine V_icmp_eq hc dL_law_258 rfl (fun _ => ?_) (fun hh => absurd he hh)
  exact hk
noncomputable def lc_1 (X : Nat × Nat) (xs : Nat → Int32) (Ln x : Nat) (i : Int32) (S : CS) (M : MS) : Option (CS × MS) :=
  (sx xs Ln (i + (1 : Int32))).bind fun v1 =>
  bn2 (cal S 11 x (f11_end S x v1)) fun r2 S3 =>
  (sx xs Ln (i + (1 : Int32))).bind fun v4 =>
  bn2 (f12_end M v4) fun r5 M6 =>
  if r2 = r5 then some (S3, M6) else none
set_option maxHeartbeats 4000000 in
set_option maxRecDepth 100000 in
theorem lc_1_ok {E : CxT} {l : Launch} {D : va_G} {y : CyT} {h : Nat} {q : Nat → Nat} {b Ln x : Nat} {xs : Nat → Int32} {X : Nat × Nat} (hc : Cx E "FarEditorsLaw" cL_law 4) (hz : Cy E l D y 13 478 X.1 X.2) (hX : X.2 ≤ 100000000) (hXs : va_X b Ln xs (xS E) (xS E).heap) (hbl : b < (xS E).heap.size) (hbA : ¬ xF E b) {i : Int32} {S S' : CS} {M M' : MS} (hf : lc_1 X xs Ln x i S M = some (S', M')) (hk : V E (cZ S') (cU S') (cw y S' ++ mw h q y M') 1390 [(0, .ref b), (1, .ref x), (2, .ref h), (3, .int i)] []) : V E (cZ S) (cU S) (cw y S ++ mw h q y M) 263 [(0, .ref b), (1, .ref x), (2, .ref h), (3, .int i)] [] := by
  have hT := hz.2.2.1
  unfold lc_1 at hf
  refine V_aload_n hc dL_law_263 rfl 1 rfl ?_
  refine V_aload_n hc dL_law_264 rfl 0 rfl ?_
  refine V_iload_n hc dL_law_265 rfl 3 rfl ?_
  refine V_iconst hc (v := (1 : Int32)) dL_law_266 rfl ?_
  refine V_iadd hc dL_law_267 ?_
  obtain ⟨v1, hv1, hf⟩ := mb hf
  refine V_sld hc hXs hbl hbA hv1 dL_law_268 ?_
  obtain ⟨r2, S3, hr2, hf⟩ := mb2 hf
  obtain ⟨hkr2, hr2⟩ := og hr2
  refine L_callC hc hz (As := [.int v1]) hkr2 (c11_end l D y _ _ hr2) w3_12 w3_13 w3_14 w1_1 w3_15 hdX_X11_end ⟨(Nat.le_of_ble_eq_true rfl), (Nat.le_of_ble_eq_true rfl)⟩ rfl rfl (Nat.le_of_ble_eq_true rfl) dL_law_269 ?_
  refine V_aload_n hc dL_law_272 rfl 2 rfl ?_
  refine V_aload_n hc dL_law_273 rfl 0 rfl ?_
  refine V_iload_n hc dL_law_274 rfl 3 rfl ?_
  refine V_iconst hc (v := (1 : Int32)) dL_law_275 rfl ?_
  refine V_iadd hc dL_law_276 ?_
  obtain ⟨v4, hv4, hf⟩ := mb hf
  refine V_sld hc hXs hbl hbA hv4 dL_law_277 ?_
  obtain ⟨r5, M6, hr5, hf⟩ := mb2 hf
  refine L_callM hc hz (As := [.int v4]) (c12_end l D h q y _ _ _ _ hr5) w7_21 w7_22 w7_23 w1_13 w7_24 hd12_end ⟨(Nat.le_of_ble_eq_true rfl), (Nat.le_of_ble_eq_true rfl)⟩ rfl rfl (Nat.le_of_ble_eq_true rfl) dL_law_278 ?_
  have he : r2 = r5 := by
    by_cases hh : r2 = r5
    · exact hh
    · rw [if_neg hh] at hf; cases hf
  rw [if_pos he] at hf
  obtain ⟨rfl, rfl⟩ := si2 hf
  refine V_icmp_eq hc dL_law_281 rfl (fun _ => ?_) (fun hh => absurd he hh)
  exact hk
noncomputable def lc_2 (X : Nat × Nat) (xs : Nat → Int32) (Ln x : Nat) (i : Int32) (S : CS) (M : MS) : Option (CS × MS) :=
  bn2 (cal S 11 x (f11_session X S x)) fun r1 S2 =>
  bn2 (f12_session M) fun r3 M4 =>
  if r1 = r3 then some (S2, M4) else none
set_option maxHeartbeats 4000000 in
set_option maxRecDepth 100000 in
theorem lc_2_ok {E : CxT} {l : Launch} {D : va_G} {y : CyT} {h : Nat} {q : Nat → Nat} {b Ln x : Nat} {xs : Nat → Int32} {X : Nat × Nat} (hc : Cx E "FarEditorsLaw" cL_law 4) (hz : Cy E l D y 13 478 X.1 X.2) (hX : X.2 ≤ 100000000) (hXs : va_X b Ln xs (xS E) (xS E).heap) (hbl : b < (xS E).heap.size) (hbA : ¬ xF E b) {i : Int32} {S S' : CS} {M M' : MS} (hf : lc_2 X xs Ln x i S M = some (S', M')) (hk : V E (cZ S') (cU S') (cw y S' ++ mw h q y M') 1390 [(0, .ref b), (1, .ref x), (2, .ref h), (3, .int i)] []) : V E (cZ S) (cU S) (cw y S ++ mw h q y M) 286 [(0, .ref b), (1, .ref x), (2, .ref h), (3, .int i)] [] := by
  have hT := hz.2.2.1
  unfold lc_2 at hf
  refine V_aload_n hc dL_law_286 rfl 1 rfl ?_
  obtain ⟨r1, S2, hr1, hf⟩ := mb2 hf
  obtain ⟨hkr1, hr1⟩ := og hr1
  refine L_callC hc hz (As := []) hkr1 (c11_session l D y X hX hr1) w3_20 w3_21 w3_22 w1_1 w3_23 hdX_X11_session ⟨(Nat.le_of_ble_eq_true rfl), (Nat.le_of_ble_eq_true rfl)⟩ rfl rfl (Nat.le_of_ble_eq_true rfl) dL_law_287 ?_
  refine V_aload_n hc dL_law_290 rfl 2 rfl ?_
  obtain ⟨r3, M4, hr3, hf⟩ := mb2 hf
  refine L_callM hc hz (As := []) (c12_session l D h q y _ _ _ _ hr3) w7_41 w7_42 w7_43 w1_13 w7_44 hd12_session ⟨(Nat.le_of_ble_eq_true rfl), (Nat.le_of_ble_eq_true rfl)⟩ rfl rfl (Nat.le_of_ble_eq_true rfl) dL_law_291 ?_
  have he : r1 = r3 := by
    by_cases hh : r1 = r3
    · exact hh
    · rw [if_neg hh] at hf; cases hf
  rw [if_pos he] at hf
  obtain ⟨rfl, rfl⟩ := si2 hf
  refine V_icmp_eq hc dL_law_294 rfl (fun _ => ?_) (fun hh => absurd he hh)
  exact hk
noncomputable def lc_3 (X : Nat × Nat) (xs : Nat → Int32) (Ln x : Nat) (i : Int32) (S : CS) (M : MS) : Option (CS × MS) :=
  (sx xs Ln (i + (1 : Int32))).bind fun v1 =>
  (cal S 11 x (f11_fault S x v1)).bind fun r2 =>
  (sx xs Ln (i + (1 : Int32))).bind fun v3 =>
  (f12_fault M v3).bind fun r4 =>
  if r2 = r4 then some (S, M) else none
set_option maxHeartbeats 4000000 in
set_option maxRecDepth 100000 in
theorem lc_3_ok {E : CxT} {l : Launch} {D : va_G} {y : CyT} {h : Nat} {q : Nat → Nat} {b Ln x : Nat} {xs : Nat → Int32} {X : Nat × Nat} (hc : Cx E "FarEditorsLaw" cL_law 4) (hz : Cy E l D y 13 478 X.1 X.2) (hX : X.2 ≤ 100000000) (hXs : va_X b Ln xs (xS E) (xS E).heap) (hbl : b < (xS E).heap.size) (hbA : ¬ xF E b) {i : Int32} {S S' : CS} {M M' : MS} (hf : lc_3 X xs Ln x i S M = some (S', M')) (hk : V E (cZ S') (cU S') (cw y S' ++ mw h q y M') 1390 [(0, .ref b), (1, .ref x), (2, .ref h), (3, .int i)] []) : V E (cZ S) (cU S) (cw y S ++ mw h q y M) 299 [(0, .ref b), (1, .ref x), (2, .ref h), (3, .int i)] [] := by
  have hT := hz.2.2.1
  unfold lc_3 at hf
  refine V_aload_n hc dL_law_299 rfl 1 rfl ?_
  refine V_aload_n hc dL_law_300 rfl 0 rfl ?_
  refine V_iload_n hc dL_law_301 rfl 3 rfl ?_
  refine V_iconst hc (v := (1 : Int32)) dL_law_302 rfl ?_
  refine V_iadd hc dL_law_303 ?_
  obtain ⟨v1, hv1, hf⟩ := mb hf
  refine V_sld hc hXs hbl hbA hv1 dL_law_304 ?_
  obtain ⟨r2, hr2, hf⟩ := mb hf
  obtain ⟨hkr2, hr2⟩ := og hr2
  refine L_callC hc hz (As := [.int v1]) hkr2 (c11_fault l D y _ _ hr2) w4_186 w4_187 w4_188 w1_1 w4_189 hdX_X11_fault ⟨(Nat.le_of_ble_eq_true rfl), (Nat.le_of_ble_eq_true rfl)⟩ rfl rfl (Nat.le_of_ble_eq_true rfl) dL_law_305 ?_
  refine V_aload_n hc dL_law_308 rfl 2 rfl ?_
  refine V_aload_n hc dL_law_309 rfl 0 rfl ?_
  refine V_iload_n hc dL_law_310 rfl 3 rfl ?_
  refine V_iconst hc (v := (1 : Int32)) dL_law_311 rfl ?_
  refine V_iadd hc dL_law_312 ?_
  obtain ⟨v3, hv3, hf⟩ := mb hf
  refine V_sld hc hXs hbl hbA hv3 dL_law_313 ?_
  obtain ⟨r4, hr4, hf⟩ := mb hf
  refine L_callM hc hz (As := [.int v3]) (c12_fault l D h q y _ _ _ _ hr4) w7_37 w7_38 w7_39 w1_13 w7_40 hd12_fault ⟨(Nat.le_of_ble_eq_true rfl), (Nat.le_of_ble_eq_true rfl)⟩ rfl rfl (Nat.le_of_ble_eq_true rfl) dL_law_314 ?_
  have he : r2 = r4 := by
    by_cases hh : r2 = r4
    · exact hh
    · rw [if_neg hh] at hf; cases hf
  rw [if_pos he] at hf
  obtain ⟨rfl, rfl⟩ := si2 hf
  refine V_icmp_eq hc dL_law_317 rfl (fun _ => ?_) (fun hh => absurd he hh)
  exact hk
noncomputable def lc_4 (X : Nat × Nat) (xs : Nat → Int32) (Ln x : Nat) (i : Int32) (S : CS) (M : MS) : Option (CS × MS) :=
  (sx xs Ln (i + (1 : Int32))).bind fun v1 =>
  (cal S 11 x (f11_has S x v1)).bind fun r2 =>
  (sx xs Ln (i + (1 : Int32))).bind fun v3 =>
  bn2 (f12_has M v3) fun r4 M5 =>
  if r2 = r4 then some (S, M5) else none
set_option maxHeartbeats 4000000 in
set_option maxRecDepth 100000 in
theorem lc_4_ok {E : CxT} {l : Launch} {D : va_G} {y : CyT} {h : Nat} {q : Nat → Nat} {b Ln x : Nat} {xs : Nat → Int32} {X : Nat × Nat} (hc : Cx E "FarEditorsLaw" cL_law 4) (hz : Cy E l D y 13 478 X.1 X.2) (hX : X.2 ≤ 100000000) (hXs : va_X b Ln xs (xS E) (xS E).heap) (hbl : b < (xS E).heap.size) (hbA : ¬ xF E b) {i : Int32} {S S' : CS} {M M' : MS} (hf : lc_4 X xs Ln x i S M = some (S', M')) (hk : V E (cZ S') (cU S') (cw y S' ++ mw h q y M') 1390 [(0, .ref b), (1, .ref x), (2, .ref h), (3, .int i)] []) : V E (cZ S) (cU S) (cw y S ++ mw h q y M) 322 [(0, .ref b), (1, .ref x), (2, .ref h), (3, .int i)] [] := by
  have hT := hz.2.2.1
  unfold lc_4 at hf
  refine V_aload_n hc dL_law_322 rfl 1 rfl ?_
  refine V_aload_n hc dL_law_323 rfl 0 rfl ?_
  refine V_iload_n hc dL_law_324 rfl 3 rfl ?_
  refine V_iconst hc (v := (1 : Int32)) dL_law_325 rfl ?_
  refine V_iadd hc dL_law_326 ?_
  obtain ⟨v1, hv1, hf⟩ := mb hf
  refine V_sld hc hXs hbl hbA hv1 dL_law_327 ?_
  obtain ⟨r2, hr2, hf⟩ := mb hf
  obtain ⟨hkr2, hr2⟩ := og hr2
  refine L_callC hc hz (As := [.int v1]) hkr2 (c11_has l D y _ _ hr2) w4_190 w4_191 w4_192 w1_1 w4_193 hdX_X11_has ⟨(Nat.le_of_ble_eq_true rfl), (Nat.le_of_ble_eq_true rfl)⟩ rfl rfl (Nat.le_of_ble_eq_true rfl) dL_law_328 ?_
  refine V_aload_n hc dL_law_331 rfl 2 rfl ?_
  refine V_aload_n hc dL_law_332 rfl 0 rfl ?_
  refine V_iload_n hc dL_law_333 rfl 3 rfl ?_
  refine V_iconst hc (v := (1 : Int32)) dL_law_334 rfl ?_
  refine V_iadd hc dL_law_335 ?_
  obtain ⟨v3, hv3, hf⟩ := mb hf
  refine V_sld hc hXs hbl hbA hv3 dL_law_336 ?_
  obtain ⟨r4, M5, hr4, hf⟩ := mb2 hf
  refine L_callM hc hz (As := [.int v3]) (c12_has l D h q y _ _ _ _ hr4) w8_60 w8_61 w8_62 w1_13 w8_63 hd12_has ⟨(Nat.le_of_ble_eq_true rfl), (Nat.le_of_ble_eq_true rfl)⟩ rfl rfl (Nat.le_of_ble_eq_true rfl) dL_law_337 ?_
  have he : r2 = r4 := by
    by_cases hh : r2 = r4
    · exact hh
    · rw [if_neg hh] at hf; cases hf
  rw [if_pos he] at hf
  obtain ⟨rfl, rfl⟩ := si2 hf
  refine V_icmp_eq hc dL_law_340 rfl (fun _ => ?_) (fun hh => absurd he hh)
  exact hk
noncomputable def lc_5 (X : Nat × Nat) (xs : Nat → Int32) (Ln x : Nat) (i : Int32) (S : CS) (M : MS) : Option (CS × MS) :=
  (sx xs Ln (i + (1 : Int32))).bind fun v1 =>
  (sx xs Ln (i + (2 : Int32))).bind fun v2 =>
  (cal S 11 x (f11_editor S x v1 v2)).bind fun r3 =>
  (sx xs Ln (i + (1 : Int32))).bind fun v4 =>
  (sx xs Ln (i + (2 : Int32))).bind fun v5 =>
  (f12_editor M v4 v5).bind fun r6 =>
  if r3 = r6 then some (S, M) else none
set_option maxHeartbeats 4000000 in
set_option maxRecDepth 100000 in
theorem lc_5_ok {E : CxT} {l : Launch} {D : va_G} {y : CyT} {h : Nat} {q : Nat → Nat} {b Ln x : Nat} {xs : Nat → Int32} {X : Nat × Nat} (hc : Cx E "FarEditorsLaw" cL_law 4) (hz : Cy E l D y 13 478 X.1 X.2) (hX : X.2 ≤ 100000000) (hXs : va_X b Ln xs (xS E) (xS E).heap) (hbl : b < (xS E).heap.size) (hbA : ¬ xF E b) {i : Int32} {S S' : CS} {M M' : MS} (hf : lc_5 X xs Ln x i S M = some (S', M')) (hk : V E (cZ S') (cU S') (cw y S' ++ mw h q y M') 1390 [(0, .ref b), (1, .ref x), (2, .ref h), (3, .int i)] []) : V E (cZ S) (cU S) (cw y S ++ mw h q y M) 345 [(0, .ref b), (1, .ref x), (2, .ref h), (3, .int i)] [] := by
  have hT := hz.2.2.1
  unfold lc_5 at hf
  refine V_aload_n hc dL_law_345 rfl 1 rfl ?_
  refine V_aload_n hc dL_law_346 rfl 0 rfl ?_
  refine V_iload_n hc dL_law_347 rfl 3 rfl ?_
  refine V_iconst hc (v := (1 : Int32)) dL_law_348 rfl ?_
  refine V_iadd hc dL_law_349 ?_
  obtain ⟨v1, hv1, hf⟩ := mb hf
  refine V_sld hc hXs hbl hbA hv1 dL_law_350 ?_
  refine V_aload_n hc dL_law_351 rfl 0 rfl ?_
  refine V_iload_n hc dL_law_352 rfl 3 rfl ?_
  refine V_iconst hc (v := (2 : Int32)) dL_law_353 rfl ?_
  refine V_iadd hc dL_law_354 ?_
  obtain ⟨v2, hv2, hf⟩ := mb hf
  refine V_sld hc hXs hbl hbA hv2 dL_law_355 ?_
  obtain ⟨r3, hr3, hf⟩ := mb hf
  obtain ⟨hkr3, hr3⟩ := og hr3
  refine L_callC hc hz (As := [.int v1, .int v2]) hkr3 (c11_editor l D y _ _ hr3) w4_198 w4_199 w4_200 w1_1 w4_201 hdX_X11_editor ⟨(Nat.le_of_ble_eq_true rfl), (Nat.le_of_ble_eq_true rfl)⟩ rfl rfl (Nat.le_of_ble_eq_true rfl) dL_law_356 ?_
  refine V_aload_n hc dL_law_359 rfl 2 rfl ?_
  refine V_aload_n hc dL_law_360 rfl 0 rfl ?_
  refine V_iload_n hc dL_law_361 rfl 3 rfl ?_
  refine V_iconst hc (v := (1 : Int32)) dL_law_362 rfl ?_
  refine V_iadd hc dL_law_363 ?_
  obtain ⟨v4, hv4, hf⟩ := mb hf
  refine V_sld hc hXs hbl hbA hv4 dL_law_364 ?_
  refine V_aload_n hc dL_law_365 rfl 0 rfl ?_
  refine V_iload_n hc dL_law_366 rfl 3 rfl ?_
  refine V_iconst hc (v := (2 : Int32)) dL_law_367 rfl ?_
  refine V_iadd hc dL_law_368 ?_
  obtain ⟨v5, hv5, hf⟩ := mb hf
  refine V_sld hc hXs hbl hbA hv5 dL_law_369 ?_
  obtain ⟨r6, hr6, hf⟩ := mb hf
  refine L_callM hc hz (As := [.int v4, .int v5]) (c12_editor l D h q y _ _ _ _ hr6) w8_76 w8_77 w8_78 w1_13 w8_79 hd12_editor ⟨(Nat.le_of_ble_eq_true rfl), (Nat.le_of_ble_eq_true rfl)⟩ rfl rfl (Nat.le_of_ble_eq_true rfl) dL_law_370 ?_
  have he : r3 = r6 := by
    by_cases hh : r3 = r6
    · exact hh
    · rw [if_neg hh] at hf; cases hf
  rw [if_pos he] at hf
  obtain ⟨rfl, rfl⟩ := si2 hf
  refine V_icmp_eq hc dL_law_373 rfl (fun _ => ?_) (fun hh => absurd he hh)
  exact hk
noncomputable def lc_6 (X : Nat × Nat) (xs : Nat → Int32) (Ln x : Nat) (i : Int32) (S : CS) (M : MS) : Option (CS × MS) :=
  (sx xs Ln (i + (1 : Int32))).bind fun v1 =>
  (sx xs Ln (i + (2 : Int32))).bind fun v2 =>
  (cal S 11 x (f11_letter S x v1 v2)).bind fun r3 =>
  (sx xs Ln (i + (1 : Int32))).bind fun v4 =>
  (sx xs Ln (i + (2 : Int32))).bind fun v5 =>
  bn2 (f12_letter M v4 v5) fun r6 M7 =>
  if r3 = r6 then some (S, M7) else none
set_option maxHeartbeats 4000000 in
set_option maxRecDepth 100000 in
theorem lc_6_ok {E : CxT} {l : Launch} {D : va_G} {y : CyT} {h : Nat} {q : Nat → Nat} {b Ln x : Nat} {xs : Nat → Int32} {X : Nat × Nat} (hc : Cx E "FarEditorsLaw" cL_law 4) (hz : Cy E l D y 13 478 X.1 X.2) (hX : X.2 ≤ 100000000) (hXs : va_X b Ln xs (xS E) (xS E).heap) (hbl : b < (xS E).heap.size) (hbA : ¬ xF E b) {i : Int32} {S S' : CS} {M M' : MS} (hf : lc_6 X xs Ln x i S M = some (S', M')) (hk : V E (cZ S') (cU S') (cw y S' ++ mw h q y M') 1390 [(0, .ref b), (1, .ref x), (2, .ref h), (3, .int i)] []) : V E (cZ S) (cU S) (cw y S ++ mw h q y M) 378 [(0, .ref b), (1, .ref x), (2, .ref h), (3, .int i)] [] := by
  have hT := hz.2.2.1
  unfold lc_6 at hf
  refine V_aload_n hc dL_law_378 rfl 1 rfl ?_
  refine V_aload_n hc dL_law_379 rfl 0 rfl ?_
  refine V_iload_n hc dL_law_380 rfl 3 rfl ?_
  refine V_iconst hc (v := (1 : Int32)) dL_law_381 rfl ?_
  refine V_iadd hc dL_law_382 ?_
  obtain ⟨v1, hv1, hf⟩ := mb hf
  refine V_sld hc hXs hbl hbA hv1 dL_law_383 ?_
  refine V_aload_n hc dL_law_384 rfl 0 rfl ?_
  refine V_iload_n hc dL_law_385 rfl 3 rfl ?_
  refine V_iconst hc (v := (2 : Int32)) dL_law_386 rfl ?_
  refine V_iadd hc dL_law_387 ?_
  obtain ⟨v2, hv2, hf⟩ := mb hf
  refine V_sld hc hXs hbl hbA hv2 dL_law_388 ?_
  obtain ⟨r3, hr3, hf⟩ := mb hf
  obtain ⟨hkr3, hr3⟩ := og hr3
  refine L_callC hc hz (As := [.int v1, .int v2]) hkr3 (c11_letter l D y _ _ hr3) w4_202 w4_203 w4_204 w1_1 w4_205 hdX_X11_letter ⟨(Nat.le_of_ble_eq_true rfl), (Nat.le_of_ble_eq_true rfl)⟩ rfl rfl (Nat.le_of_ble_eq_true rfl) dL_law_389 ?_
  refine V_aload_n hc dL_law_392 rfl 2 rfl ?_
  refine V_aload_n hc dL_law_393 rfl 0 rfl ?_
  refine V_iload_n hc dL_law_394 rfl 3 rfl ?_
  refine V_iconst hc (v := (1 : Int32)) dL_law_395 rfl ?_
  refine V_iadd hc dL_law_396 ?_
  obtain ⟨v4, hv4, hf⟩ := mb hf
  refine V_sld hc hXs hbl hbA hv4 dL_law_397 ?_
  refine V_aload_n hc dL_law_398 rfl 0 rfl ?_
  refine V_iload_n hc dL_law_399 rfl 3 rfl ?_
  refine V_iconst hc (v := (2 : Int32)) dL_law_400 rfl ?_
  refine V_iadd hc dL_law_401 ?_
  obtain ⟨v5, hv5, hf⟩ := mb hf
  refine V_sld hc hXs hbl hbA hv5 dL_law_402 ?_
  obtain ⟨r6, M7, hr6, hf⟩ := mb2 hf
  refine L_callM hc hz (As := [.int v4, .int v5]) (c12_letter l D h q y _ _ _ _ hr6) w8_84 w8_85 w8_86 w1_13 w8_87 hd12_letter ⟨(Nat.le_of_ble_eq_true rfl), (Nat.le_of_ble_eq_true rfl)⟩ rfl rfl (Nat.le_of_ble_eq_true rfl) dL_law_403 ?_
  have he : r3 = r6 := by
    by_cases hh : r3 = r6
    · exact hh
    · rw [if_neg hh] at hf; cases hf
  rw [if_pos he] at hf
  obtain ⟨rfl, rfl⟩ := si2 hf
  refine V_icmp_eq hc dL_law_406 rfl (fun _ => ?_) (fun hh => absurd he hh)
  exact hk
noncomputable def lc_7 (X : Nat × Nat) (xs : Nat → Int32) (Ln x : Nat) (i : Int32) (S : CS) (M : MS) : Option (CS × MS) :=
  (sx xs Ln (i + (1 : Int32))).bind fun v1 =>
  (sx xs Ln (i + (2 : Int32))).bind fun v2 =>
  (sx xs Ln (i + (3 : Int32))).bind fun v3 =>
  (sx xs Ln (i + (4 : Int32))).bind fun v4 =>
  (cal S 11 x (f11_step S x v1 v2 v3 v4)).bind fun r5 =>
  (sx xs Ln (i + (1 : Int32))).bind fun v6 =>
  (sx xs Ln (i + (2 : Int32))).bind fun v7 =>
  (sx xs Ln (i + (3 : Int32))).bind fun v8 =>
  (sx xs Ln (i + (4 : Int32))).bind fun v9 =>
  bn2 (f12_step M v6 v7 v8 v9) fun r10 M11 =>
  if r5 = r10 then some (S, M11) else none
set_option maxHeartbeats 4000000 in
set_option maxRecDepth 100000 in
theorem lc_7_ok {E : CxT} {l : Launch} {D : va_G} {y : CyT} {h : Nat} {q : Nat → Nat} {b Ln x : Nat} {xs : Nat → Int32} {X : Nat × Nat} (hc : Cx E "FarEditorsLaw" cL_law 4) (hz : Cy E l D y 13 478 X.1 X.2) (hX : X.2 ≤ 100000000) (hXs : va_X b Ln xs (xS E) (xS E).heap) (hbl : b < (xS E).heap.size) (hbA : ¬ xF E b) {i : Int32} {S S' : CS} {M M' : MS} (hf : lc_7 X xs Ln x i S M = some (S', M')) (hk : V E (cZ S') (cU S') (cw y S' ++ mw h q y M') 1390 [(0, .ref b), (1, .ref x), (2, .ref h), (3, .int i)] []) : V E (cZ S) (cU S) (cw y S ++ mw h q y M) 411 [(0, .ref b), (1, .ref x), (2, .ref h), (3, .int i)] [] := by
  have hT := hz.2.2.1
  unfold lc_7 at hf
  refine V_aload_n hc dL_law_411 rfl 1 rfl ?_
  refine V_aload_n hc dL_law_412 rfl 0 rfl ?_
  refine V_iload_n hc dL_law_413 rfl 3 rfl ?_
  refine V_iconst hc (v := (1 : Int32)) dL_law_414 rfl ?_
  refine V_iadd hc dL_law_415 ?_
  obtain ⟨v1, hv1, hf⟩ := mb hf
  refine V_sld hc hXs hbl hbA hv1 dL_law_416 ?_
  refine V_aload_n hc dL_law_417 rfl 0 rfl ?_
  refine V_iload_n hc dL_law_418 rfl 3 rfl ?_
  refine V_iconst hc (v := (2 : Int32)) dL_law_419 rfl ?_
  refine V_iadd hc dL_law_420 ?_
  obtain ⟨v2, hv2, hf⟩ := mb hf
  refine V_sld hc hXs hbl hbA hv2 dL_law_421 ?_
  refine V_aload_n hc dL_law_422 rfl 0 rfl ?_
  refine V_iload_n hc dL_law_423 rfl 3 rfl ?_
  refine V_iconst hc (v := (3 : Int32)) dL_law_424 rfl ?_
  refine V_iadd hc dL_law_425 ?_
  obtain ⟨v3, hv3, hf⟩ := mb hf
  refine V_sld hc hXs hbl hbA hv3 dL_law_426 ?_
  refine V_aload_n hc dL_law_427 rfl 0 rfl ?_
  refine V_iload_n hc dL_law_428 rfl 3 rfl ?_
  refine V_iconst hc (v := (4 : Int32)) dL_law_429 rfl ?_
  refine V_iadd hc dL_law_430 ?_
  obtain ⟨v4, hv4, hf⟩ := mb hf
  refine V_sld hc hXs hbl hbA hv4 dL_law_431 ?_
  obtain ⟨r5, hr5, hf⟩ := mb hf
  obtain ⟨hkr5, hr5⟩ := og hr5
  refine L_callC hc hz (As := [.int v1, .int v2, .int v3, .int v4]) hkr5 (c11_step l D y _ _ hr5) w4_211 w4_212 w4_213 w1_1 w4_214 hdX_X11_step ⟨(Nat.le_of_ble_eq_true rfl), (Nat.le_of_ble_eq_true rfl)⟩ rfl rfl (Nat.le_of_ble_eq_true rfl) dL_law_432 ?_
  refine V_aload_n hc dL_law_435 rfl 2 rfl ?_
  refine V_aload_n hc dL_law_436 rfl 0 rfl ?_
  refine V_iload_n hc dL_law_437 rfl 3 rfl ?_
  refine V_iconst hc (v := (1 : Int32)) dL_law_438 rfl ?_
  refine V_iadd hc dL_law_439 ?_
  obtain ⟨v6, hv6, hf⟩ := mb hf
  refine V_sld hc hXs hbl hbA hv6 dL_law_440 ?_
  refine V_aload_n hc dL_law_441 rfl 0 rfl ?_
  refine V_iload_n hc dL_law_442 rfl 3 rfl ?_
  refine V_iconst hc (v := (2 : Int32)) dL_law_443 rfl ?_
  refine V_iadd hc dL_law_444 ?_
  obtain ⟨v7, hv7, hf⟩ := mb hf
  refine V_sld hc hXs hbl hbA hv7 dL_law_445 ?_
  refine V_aload_n hc dL_law_446 rfl 0 rfl ?_
  refine V_iload_n hc dL_law_447 rfl 3 rfl ?_
  refine V_iconst hc (v := (3 : Int32)) dL_law_448 rfl ?_
  refine V_iadd hc dL_law_449 ?_
  obtain ⟨v8, hv8, hf⟩ := mb hf
  refine V_sld hc hXs hbl hbA hv8 dL_law_450 ?_
  refine V_aload_n hc dL_law_451 rfl 0 rfl ?_
  refine V_iload_n hc dL_law_452 rfl 3 rfl ?_
  refine V_iconst hc (v := (4 : Int32)) dL_law_453 rfl ?_
  refine V_iadd hc dL_law_454 ?_
  obtain ⟨v9, hv9, hf⟩ := mb hf
  refine V_sld hc hXs hbl hbA hv9 dL_law_455 ?_
  obtain ⟨r10, M11, hr10, hf⟩ := mb2 hf
  refine L_callM hc hz (As := [.int v6, .int v7, .int v8, .int v9]) (c12_step l D h q y _ _ _ _ hr10) w8_92 w8_93 w8_94 w1_13 w8_95 hd12_step ⟨(Nat.le_of_ble_eq_true rfl), (Nat.le_of_ble_eq_true rfl)⟩ rfl rfl (Nat.le_of_ble_eq_true rfl) dL_law_456 ?_
  have he : r5 = r10 := by
    by_cases hh : r5 = r10
    · exact hh
    · rw [if_neg hh] at hf; cases hf
  rw [if_pos he] at hf
  obtain ⟨rfl, rfl⟩ := si2 hf
  refine V_icmp_eq hc dL_law_459 rfl (fun _ => ?_) (fun hh => absurd he hh)
  exact hk
noncomputable def lc_8 (X : Nat × Nat) (xs : Nat → Int32) (Ln x : Nat) (i : Int32) (S : CS) (M : MS) : Option (CS × MS) :=
  (sx xs Ln (i + (1 : Int32))).bind fun v1 =>
  (sx xs Ln (i + (2 : Int32))).bind fun v2 =>
  (sx xs Ln (i + (3 : Int32))).bind fun v3 =>
  (cal S 11 x (f11_row S x v1 v2 v3)).bind fun r4 =>
  (sx xs Ln (i + (1 : Int32))).bind fun v5 =>
  (sx xs Ln (i + (2 : Int32))).bind fun v6 =>
  (sx xs Ln (i + (3 : Int32))).bind fun v7 =>
  bn2 (f12_row M v5 v6 v7) fun r8 M9 =>
  if r4 = r8 then some (S, M9) else none
set_option maxHeartbeats 4000000 in
set_option maxRecDepth 100000 in
theorem lc_8_ok {E : CxT} {l : Launch} {D : va_G} {y : CyT} {h : Nat} {q : Nat → Nat} {b Ln x : Nat} {xs : Nat → Int32} {X : Nat × Nat} (hc : Cx E "FarEditorsLaw" cL_law 4) (hz : Cy E l D y 13 478 X.1 X.2) (hX : X.2 ≤ 100000000) (hXs : va_X b Ln xs (xS E) (xS E).heap) (hbl : b < (xS E).heap.size) (hbA : ¬ xF E b) {i : Int32} {S S' : CS} {M M' : MS} (hf : lc_8 X xs Ln x i S M = some (S', M')) (hk : V E (cZ S') (cU S') (cw y S' ++ mw h q y M') 1390 [(0, .ref b), (1, .ref x), (2, .ref h), (3, .int i)] []) : V E (cZ S) (cU S) (cw y S ++ mw h q y M) 464 [(0, .ref b), (1, .ref x), (2, .ref h), (3, .int i)] [] := by
  have hT := hz.2.2.1
  unfold lc_8 at hf
  refine V_aload_n hc dL_law_464 rfl 1 rfl ?_
  refine V_aload_n hc dL_law_465 rfl 0 rfl ?_
  refine V_iload_n hc dL_law_466 rfl 3 rfl ?_
  refine V_iconst hc (v := (1 : Int32)) dL_law_467 rfl ?_
  refine V_iadd hc dL_law_468 ?_
  obtain ⟨v1, hv1, hf⟩ := mb hf
  refine V_sld hc hXs hbl hbA hv1 dL_law_469 ?_
  refine V_aload_n hc dL_law_470 rfl 0 rfl ?_
  refine V_iload_n hc dL_law_471 rfl 3 rfl ?_
  refine V_iconst hc (v := (2 : Int32)) dL_law_472 rfl ?_
  refine V_iadd hc dL_law_473 ?_
  obtain ⟨v2, hv2, hf⟩ := mb hf
  refine V_sld hc hXs hbl hbA hv2 dL_law_474 ?_
  refine V_aload_n hc dL_law_475 rfl 0 rfl ?_
  refine V_iload_n hc dL_law_476 rfl 3 rfl ?_
  refine V_iconst hc (v := (3 : Int32)) dL_law_477 rfl ?_
  refine V_iadd hc dL_law_478 ?_
  obtain ⟨v3, hv3, hf⟩ := mb hf
  refine V_sld hc hXs hbl hbA hv3 dL_law_479 ?_
  obtain ⟨r4, hr4, hf⟩ := mb hf
  obtain ⟨hkr4, hr4⟩ := og hr4
  refine L_callC hc hz (As := [.int v1, .int v2, .int v3]) hkr4 (c11_row l D y _ _ hr4) w5_0 w5_1 w5_2 w1_1 w5_3 hdX_X11_row ⟨(Nat.le_of_ble_eq_true rfl), (Nat.le_of_ble_eq_true rfl)⟩ rfl rfl (Nat.le_of_ble_eq_true rfl) dL_law_480 ?_
  refine V_aload_n hc dL_law_483 rfl 2 rfl ?_
  refine V_aload_n hc dL_law_484 rfl 0 rfl ?_
  refine V_iload_n hc dL_law_485 rfl 3 rfl ?_
  refine V_iconst hc (v := (1 : Int32)) dL_law_486 rfl ?_
  refine V_iadd hc dL_law_487 ?_
  obtain ⟨v5, hv5, hf⟩ := mb hf
  refine V_sld hc hXs hbl hbA hv5 dL_law_488 ?_
  refine V_aload_n hc dL_law_489 rfl 0 rfl ?_
  refine V_iload_n hc dL_law_490 rfl 3 rfl ?_
  refine V_iconst hc (v := (2 : Int32)) dL_law_491 rfl ?_
  refine V_iadd hc dL_law_492 ?_
  obtain ⟨v6, hv6, hf⟩ := mb hf
  refine V_sld hc hXs hbl hbA hv6 dL_law_493 ?_
  refine V_aload_n hc dL_law_494 rfl 0 rfl ?_
  refine V_iload_n hc dL_law_495 rfl 3 rfl ?_
  refine V_iconst hc (v := (3 : Int32)) dL_law_496 rfl ?_
  refine V_iadd hc dL_law_497 ?_
  obtain ⟨v7, hv7, hf⟩ := mb hf
  refine V_sld hc hXs hbl hbA hv7 dL_law_498 ?_
  obtain ⟨r8, M9, hr8, hf⟩ := mb2 hf
  refine L_callM hc hz (As := [.int v5, .int v6, .int v7]) (c12_row l D h q y _ _ _ _ hr8) w8_111 w8_112 w8_113 w1_13 w8_114 hd12_row ⟨(Nat.le_of_ble_eq_true rfl), (Nat.le_of_ble_eq_true rfl)⟩ rfl rfl (Nat.le_of_ble_eq_true rfl) dL_law_499 ?_
  have he : r4 = r8 := by
    by_cases hh : r4 = r8
    · exact hh
    · rw [if_neg hh] at hf; cases hf
  rw [if_pos he] at hf
  obtain ⟨rfl, rfl⟩ := si2 hf
  refine V_icmp_eq hc dL_law_502 rfl (fun _ => ?_) (fun hh => absurd he hh)
  exact hk
noncomputable def lc_9 (X : Nat × Nat) (xs : Nat → Int32) (Ln x : Nat) (i : Int32) (S : CS) (M : MS) : Option (CS × MS) :=
  (sx xs Ln (i + (1 : Int32))).bind fun v1 =>
  (sx xs Ln (i + (2 : Int32))).bind fun v2 =>
  (sx xs Ln (i + (3 : Int32))).bind fun v3 =>
  (cal S 11 x (f11_mark S x v1 v2 v3)).bind fun r4 =>
  (sx xs Ln (i + (1 : Int32))).bind fun v5 =>
  (sx xs Ln (i + (2 : Int32))).bind fun v6 =>
  (sx xs Ln (i + (3 : Int32))).bind fun v7 =>
  (f12_mark M v5 v6 v7).bind fun r8 =>
  if r4 = r8 then some (S, M) else none
set_option maxHeartbeats 4000000 in
set_option maxRecDepth 100000 in
theorem lc_9_ok {E : CxT} {l : Launch} {D : va_G} {y : CyT} {h : Nat} {q : Nat → Nat} {b Ln x : Nat} {xs : Nat → Int32} {X : Nat × Nat} (hc : Cx E "FarEditorsLaw" cL_law 4) (hz : Cy E l D y 13 478 X.1 X.2) (hX : X.2 ≤ 100000000) (hXs : va_X b Ln xs (xS E) (xS E).heap) (hbl : b < (xS E).heap.size) (hbA : ¬ xF E b) {i : Int32} {S S' : CS} {M M' : MS} (hf : lc_9 X xs Ln x i S M = some (S', M')) (hk : V E (cZ S') (cU S') (cw y S' ++ mw h q y M') 1390 [(0, .ref b), (1, .ref x), (2, .ref h), (3, .int i)] []) : V E (cZ S) (cU S) (cw y S ++ mw h q y M) 507 [(0, .ref b), (1, .ref x), (2, .ref h), (3, .int i)] [] := by
  have hT := hz.2.2.1
  unfold lc_9 at hf
  refine V_aload_n hc dL_law_507 rfl 1 rfl ?_
  refine V_aload_n hc dL_law_508 rfl 0 rfl ?_
  refine V_iload_n hc dL_law_509 rfl 3 rfl ?_
  refine V_iconst hc (v := (1 : Int32)) dL_law_510 rfl ?_
  refine V_iadd hc dL_law_511 ?_
  obtain ⟨v1, hv1, hf⟩ := mb hf
  refine V_sld hc hXs hbl hbA hv1 dL_law_512 ?_
  refine V_aload_n hc dL_law_513 rfl 0 rfl ?_
  refine V_iload_n hc dL_law_514 rfl 3 rfl ?_
  refine V_iconst hc (v := (2 : Int32)) dL_law_515 rfl ?_
  refine V_iadd hc dL_law_516 ?_
  obtain ⟨v2, hv2, hf⟩ := mb hf
  refine V_sld hc hXs hbl hbA hv2 dL_law_517 ?_
  refine V_aload_n hc dL_law_518 rfl 0 rfl ?_
  refine V_iload_n hc dL_law_519 rfl 3 rfl ?_
  refine V_iconst hc (v := (3 : Int32)) dL_law_520 rfl ?_
  refine V_iadd hc dL_law_521 ?_
  obtain ⟨v3, hv3, hf⟩ := mb hf
  refine V_sld hc hXs hbl hbA hv3 dL_law_522 ?_
  obtain ⟨r4, hr4, hf⟩ := mb hf
  obtain ⟨hkr4, hr4⟩ := og hr4
  refine L_callC hc hz (As := [.int v1, .int v2, .int v3]) hkr4 (c11_mark l D y _ _ hr4) w5_12 w5_13 w5_14 w1_1 w5_15 hdX_X11_mark ⟨(Nat.le_of_ble_eq_true rfl), (Nat.le_of_ble_eq_true rfl)⟩ rfl rfl (Nat.le_of_ble_eq_true rfl) dL_law_523 ?_
  refine V_aload_n hc dL_law_526 rfl 2 rfl ?_
  refine V_aload_n hc dL_law_527 rfl 0 rfl ?_
  refine V_iload_n hc dL_law_528 rfl 3 rfl ?_
  refine V_iconst hc (v := (1 : Int32)) dL_law_529 rfl ?_
  refine V_iadd hc dL_law_530 ?_
  obtain ⟨v5, hv5, hf⟩ := mb hf
  refine V_sld hc hXs hbl hbA hv5 dL_law_531 ?_
  refine V_aload_n hc dL_law_532 rfl 0 rfl ?_
  refine V_iload_n hc dL_law_533 rfl 3 rfl ?_
  refine V_iconst hc (v := (2 : Int32)) dL_law_534 rfl ?_
  refine V_iadd hc dL_law_535 ?_
  obtain ⟨v6, hv6, hf⟩ := mb hf
  refine V_sld hc hXs hbl hbA hv6 dL_law_536 ?_
  refine V_aload_n hc dL_law_537 rfl 0 rfl ?_
  refine V_iload_n hc dL_law_538 rfl 3 rfl ?_
  refine V_iconst hc (v := (3 : Int32)) dL_law_539 rfl ?_
  refine V_iadd hc dL_law_540 ?_
  obtain ⟨v7, hv7, hf⟩ := mb hf
  refine V_sld hc hXs hbl hbA hv7 dL_law_541 ?_
  obtain ⟨r8, hr8, hf⟩ := mb hf
  refine L_callM hc hz (As := [.int v5, .int v6, .int v7]) (c12_mark l D h q y _ _ _ _ hr8) w8_123 w8_124 w8_125 w1_13 w8_126 hd12_mark ⟨(Nat.le_of_ble_eq_true rfl), (Nat.le_of_ble_eq_true rfl)⟩ rfl rfl (Nat.le_of_ble_eq_true rfl) dL_law_542 ?_
  have he : r4 = r8 := by
    by_cases hh : r4 = r8
    · exact hh
    · rw [if_neg hh] at hf; cases hf
  rw [if_pos he] at hf
  obtain ⟨rfl, rfl⟩ := si2 hf
  refine V_icmp_eq hc dL_law_545 rfl (fun _ => ?_) (fun hh => absurd he hh)
  exact hk
noncomputable def lc_10 (X : Nat × Nat) (xs : Nat → Int32) (Ln x : Nat) (i : Int32) (S : CS) (M : MS) : Option (CS × MS) :=
  (sx xs Ln (i + (1 : Int32))).bind fun v1 =>
  (sx xs Ln (i + (2 : Int32))).bind fun v2 =>
  bn2 (cal S 11 x (f11_was S x v1 v2)) fun r3 S4 =>
  (sx xs Ln (i + (1 : Int32))).bind fun v5 =>
  (sx xs Ln (i + (2 : Int32))).bind fun v6 =>
  bn2 (f12_was M v5 v6) fun r7 M8 =>
  if r3 = r7 then some (S4, M8) else none
set_option maxHeartbeats 4000000 in
set_option maxRecDepth 100000 in
theorem lc_10_ok {E : CxT} {l : Launch} {D : va_G} {y : CyT} {h : Nat} {q : Nat → Nat} {b Ln x : Nat} {xs : Nat → Int32} {X : Nat × Nat} (hc : Cx E "FarEditorsLaw" cL_law 4) (hz : Cy E l D y 13 478 X.1 X.2) (hX : X.2 ≤ 100000000) (hXs : va_X b Ln xs (xS E) (xS E).heap) (hbl : b < (xS E).heap.size) (hbA : ¬ xF E b) {i : Int32} {S S' : CS} {M M' : MS} (hf : lc_10 X xs Ln x i S M = some (S', M')) (hk : V E (cZ S') (cU S') (cw y S' ++ mw h q y M') 1390 [(0, .ref b), (1, .ref x), (2, .ref h), (3, .int i)] []) : V E (cZ S) (cU S) (cw y S ++ mw h q y M) 550 [(0, .ref b), (1, .ref x), (2, .ref h), (3, .int i)] [] := by
  have hT := hz.2.2.1
  unfold lc_10 at hf
  refine V_aload_n hc dL_law_550 rfl 1 rfl ?_
  refine V_aload_n hc dL_law_551 rfl 0 rfl ?_
  refine V_iload_n hc dL_law_552 rfl 3 rfl ?_
  refine V_iconst hc (v := (1 : Int32)) dL_law_553 rfl ?_
  refine V_iadd hc dL_law_554 ?_
  obtain ⟨v1, hv1, hf⟩ := mb hf
  refine V_sld hc hXs hbl hbA hv1 dL_law_555 ?_
  refine V_aload_n hc dL_law_556 rfl 0 rfl ?_
  refine V_iload_n hc dL_law_557 rfl 3 rfl ?_
  refine V_iconst hc (v := (2 : Int32)) dL_law_558 rfl ?_
  refine V_iadd hc dL_law_559 ?_
  obtain ⟨v2, hv2, hf⟩ := mb hf
  refine V_sld hc hXs hbl hbA hv2 dL_law_560 ?_
  obtain ⟨r3, S4, hr3, hf⟩ := mb2 hf
  obtain ⟨hkr3, hr3⟩ := og hr3
  refine L_callC hc hz (As := [.int v1, .int v2]) hkr3 (c11_was l D y _ _ hr3) w5_20 w5_21 w5_22 w1_1 w5_23 hdX_X11_was ⟨(Nat.le_of_ble_eq_true rfl), (Nat.le_of_ble_eq_true rfl)⟩ rfl rfl (Nat.le_of_ble_eq_true rfl) dL_law_561 ?_
  refine V_aload_n hc dL_law_564 rfl 2 rfl ?_
  refine V_aload_n hc dL_law_565 rfl 0 rfl ?_
  refine V_iload_n hc dL_law_566 rfl 3 rfl ?_
  refine V_iconst hc (v := (1 : Int32)) dL_law_567 rfl ?_
  refine V_iadd hc dL_law_568 ?_
  obtain ⟨v5, hv5, hf⟩ := mb hf
  refine V_sld hc hXs hbl hbA hv5 dL_law_569 ?_
  refine V_aload_n hc dL_law_570 rfl 0 rfl ?_
  refine V_iload_n hc dL_law_571 rfl 3 rfl ?_
  refine V_iconst hc (v := (2 : Int32)) dL_law_572 rfl ?_
  refine V_iadd hc dL_law_573 ?_
  obtain ⟨v6, hv6, hf⟩ := mb hf
  refine V_sld hc hXs hbl hbA hv6 dL_law_574 ?_
  obtain ⟨r7, M8, hr7, hf⟩ := mb2 hf
  refine L_callM hc hz (As := [.int v5, .int v6]) (c12_was l D h q y _ _ _ _ hr7) w8_128 w8_89 w8_90 w1_13 w8_91 hd12_was ⟨(Nat.le_of_ble_eq_true rfl), (Nat.le_of_ble_eq_true rfl)⟩ rfl rfl (Nat.le_of_ble_eq_true rfl) dL_law_575 ?_
  have he : r3 = r7 := by
    by_cases hh : r3 = r7
    · exact hh
    · rw [if_neg hh] at hf; cases hf
  rw [if_pos he] at hf
  obtain ⟨rfl, rfl⟩ := si2 hf
  refine V_icmp_eq hc dL_law_578 rfl (fun _ => ?_) (fun hh => absurd he hh)
  exact hk
noncomputable def lc_11 (X : Nat × Nat) (xs : Nat → Int32) (Ln x : Nat) (i : Int32) (S : CS) (M : MS) : Option (CS × MS) :=
  (sx xs Ln (i + (1 : Int32))).bind fun v1 =>
  (sx xs Ln (i + (2 : Int32))).bind fun v2 =>
  (cal S 11 x (f11_by S x v1 v2)).bind fun r3 =>
  (sx xs Ln (i + (1 : Int32))).bind fun v4 =>
  (sx xs Ln (i + (2 : Int32))).bind fun v5 =>
  bn2 (f12_by M v4 v5) fun r6 M7 =>
  if r3 = r6 then some (S, M7) else none
set_option maxHeartbeats 4000000 in
set_option maxRecDepth 100000 in
theorem lc_11_ok {E : CxT} {l : Launch} {D : va_G} {y : CyT} {h : Nat} {q : Nat → Nat} {b Ln x : Nat} {xs : Nat → Int32} {X : Nat × Nat} (hc : Cx E "FarEditorsLaw" cL_law 4) (hz : Cy E l D y 13 478 X.1 X.2) (hX : X.2 ≤ 100000000) (hXs : va_X b Ln xs (xS E) (xS E).heap) (hbl : b < (xS E).heap.size) (hbA : ¬ xF E b) {i : Int32} {S S' : CS} {M M' : MS} (hf : lc_11 X xs Ln x i S M = some (S', M')) (hk : V E (cZ S') (cU S') (cw y S' ++ mw h q y M') 1390 [(0, .ref b), (1, .ref x), (2, .ref h), (3, .int i)] []) : V E (cZ S) (cU S) (cw y S ++ mw h q y M) 583 [(0, .ref b), (1, .ref x), (2, .ref h), (3, .int i)] [] := by
  have hT := hz.2.2.1
  unfold lc_11 at hf
  refine V_aload_n hc dL_law_583 rfl 1 rfl ?_
  refine V_aload_n hc dL_law_584 rfl 0 rfl ?_
  refine V_iload_n hc dL_law_585 rfl 3 rfl ?_
  refine V_iconst hc (v := (1 : Int32)) dL_law_586 rfl ?_
  refine V_iadd hc dL_law_587 ?_
  obtain ⟨v1, hv1, hf⟩ := mb hf
  refine V_sld hc hXs hbl hbA hv1 dL_law_588 ?_
  refine V_aload_n hc dL_law_589 rfl 0 rfl ?_
  refine V_iload_n hc dL_law_590 rfl 3 rfl ?_
  refine V_iconst hc (v := (2 : Int32)) dL_law_591 rfl ?_
  refine V_iadd hc dL_law_592 ?_
  obtain ⟨v2, hv2, hf⟩ := mb hf
  refine V_sld hc hXs hbl hbA hv2 dL_law_593 ?_
  obtain ⟨r3, hr3, hf⟩ := mb hf
  obtain ⟨hkr3, hr3⟩ := og hr3
  refine L_callC hc hz (As := [.int v1, .int v2]) hkr3 (c11_by l D y _ _ hr3) w5_30 w5_31 w5_32 w1_1 w5_33 hdX_X11_by ⟨(Nat.le_of_ble_eq_true rfl), (Nat.le_of_ble_eq_true rfl)⟩ rfl rfl (Nat.le_of_ble_eq_true rfl) dL_law_594 ?_
  refine V_aload_n hc dL_law_597 rfl 2 rfl ?_
  refine V_aload_n hc dL_law_598 rfl 0 rfl ?_
  refine V_iload_n hc dL_law_599 rfl 3 rfl ?_
  refine V_iconst hc (v := (1 : Int32)) dL_law_600 rfl ?_
  refine V_iadd hc dL_law_601 ?_
  obtain ⟨v4, hv4, hf⟩ := mb hf
  refine V_sld hc hXs hbl hbA hv4 dL_law_602 ?_
  refine V_aload_n hc dL_law_603 rfl 0 rfl ?_
  refine V_iload_n hc dL_law_604 rfl 3 rfl ?_
  refine V_iconst hc (v := (2 : Int32)) dL_law_605 rfl ?_
  refine V_iadd hc dL_law_606 ?_
  obtain ⟨v5, hv5, hf⟩ := mb hf
  refine V_sld hc hXs hbl hbA hv5 dL_law_607 ?_
  obtain ⟨r6, M7, hr6, hf⟩ := mb2 hf
  refine L_callM hc hz (As := [.int v4, .int v5]) (c12_by l D h q y _ _ _ _ hr6) w8_129 w8_130 w8_131 w1_13 w8_132 hd12_by ⟨(Nat.le_of_ble_eq_true rfl), (Nat.le_of_ble_eq_true rfl)⟩ rfl rfl (Nat.le_of_ble_eq_true rfl) dL_law_608 ?_
  have he : r3 = r6 := by
    by_cases hh : r3 = r6
    · exact hh
    · rw [if_neg hh] at hf; cases hf
  rw [if_pos he] at hf
  obtain ⟨rfl, rfl⟩ := si2 hf
  refine V_icmp_eq hc dL_law_611 rfl (fun _ => ?_) (fun hh => absurd he hh)
  exact hk
noncomputable def lc_12 (X : Nat × Nat) (xs : Nat → Int32) (Ln x : Nat) (i : Int32) (S : CS) (M : MS) : Option (CS × MS) :=
  (sx xs Ln (i + (1 : Int32))).bind fun v1 =>
  (sx xs Ln (i + (2 : Int32))).bind fun v2 =>
  (cal S 11 x (f11_share S x v1 v2)).bind fun r3 =>
  (sx xs Ln (i + (1 : Int32))).bind fun v4 =>
  (sx xs Ln (i + (2 : Int32))).bind fun v5 =>
  bn2 (f12_share M v4 v5) fun r6 M7 =>
  if r3 = r6 then some (S, M7) else none
set_option maxHeartbeats 4000000 in
set_option maxRecDepth 100000 in
theorem lc_12_ok {E : CxT} {l : Launch} {D : va_G} {y : CyT} {h : Nat} {q : Nat → Nat} {b Ln x : Nat} {xs : Nat → Int32} {X : Nat × Nat} (hc : Cx E "FarEditorsLaw" cL_law 4) (hz : Cy E l D y 13 478 X.1 X.2) (hX : X.2 ≤ 100000000) (hXs : va_X b Ln xs (xS E) (xS E).heap) (hbl : b < (xS E).heap.size) (hbA : ¬ xF E b) {i : Int32} {S S' : CS} {M M' : MS} (hf : lc_12 X xs Ln x i S M = some (S', M')) (hk : V E (cZ S') (cU S') (cw y S' ++ mw h q y M') 1390 [(0, .ref b), (1, .ref x), (2, .ref h), (3, .int i)] []) : V E (cZ S) (cU S) (cw y S ++ mw h q y M) 616 [(0, .ref b), (1, .ref x), (2, .ref h), (3, .int i)] [] := by
  have hT := hz.2.2.1
  unfold lc_12 at hf
  refine V_aload_n hc dL_law_616 rfl 1 rfl ?_
  refine V_aload_n hc dL_law_617 rfl 0 rfl ?_
  refine V_iload_n hc dL_law_618 rfl 3 rfl ?_
  refine V_iconst hc (v := (1 : Int32)) dL_law_619 rfl ?_
  refine V_iadd hc dL_law_620 ?_
  obtain ⟨v1, hv1, hf⟩ := mb hf
  refine V_sld hc hXs hbl hbA hv1 dL_law_621 ?_
  refine V_aload_n hc dL_law_622 rfl 0 rfl ?_
  refine V_iload_n hc dL_law_623 rfl 3 rfl ?_
  refine V_iconst hc (v := (2 : Int32)) dL_law_624 rfl ?_
  refine V_iadd hc dL_law_625 ?_
  obtain ⟨v2, hv2, hf⟩ := mb hf
  refine V_sld hc hXs hbl hbA hv2 dL_law_626 ?_
  obtain ⟨r3, hr3, hf⟩ := mb hf
  obtain ⟨hkr3, hr3⟩ := og hr3
  refine L_callC hc hz (As := [.int v1, .int v2]) hkr3 (c11_share l D y _ _ hr3) w5_37 w5_38 w5_39 w1_1 w5_40 hdX_X11_share ⟨(Nat.le_of_ble_eq_true rfl), (Nat.le_of_ble_eq_true rfl)⟩ rfl rfl (Nat.le_of_ble_eq_true rfl) dL_law_627 ?_
  refine V_aload_n hc dL_law_630 rfl 2 rfl ?_
  refine V_aload_n hc dL_law_631 rfl 0 rfl ?_
  refine V_iload_n hc dL_law_632 rfl 3 rfl ?_
  refine V_iconst hc (v := (1 : Int32)) dL_law_633 rfl ?_
  refine V_iadd hc dL_law_634 ?_
  obtain ⟨v4, hv4, hf⟩ := mb hf
  refine V_sld hc hXs hbl hbA hv4 dL_law_635 ?_
  refine V_aload_n hc dL_law_636 rfl 0 rfl ?_
  refine V_iload_n hc dL_law_637 rfl 3 rfl ?_
  refine V_iconst hc (v := (2 : Int32)) dL_law_638 rfl ?_
  refine V_iadd hc dL_law_639 ?_
  obtain ⟨v5, hv5, hf⟩ := mb hf
  refine V_sld hc hXs hbl hbA hv5 dL_law_640 ?_
  obtain ⟨r6, M7, hr6, hf⟩ := mb2 hf
  refine L_callM hc hz (As := [.int v4, .int v5]) (c12_share l D h q y _ _ _ _ hr6) w8_133 w8_134 w8_135 w1_13 w8_136 hd12_share ⟨(Nat.le_of_ble_eq_true rfl), (Nat.le_of_ble_eq_true rfl)⟩ rfl rfl (Nat.le_of_ble_eq_true rfl) dL_law_641 ?_
  have he : r3 = r6 := by
    by_cases hh : r3 = r6
    · exact hh
    · rw [if_neg hh] at hf; cases hf
  rw [if_pos he] at hf
  obtain ⟨rfl, rfl⟩ := si2 hf
  refine V_icmp_eq hc dL_law_644 rfl (fun _ => ?_) (fun hh => absurd he hh)
  exact hk
noncomputable def lc_13 (X : Nat × Nat) (xs : Nat → Int32) (Ln x : Nat) (i : Int32) (S : CS) (M : MS) : Option (CS × MS) :=
  (sx xs Ln (i + (1 : Int32))).bind fun v1 =>
  (sx xs Ln (i + (2 : Int32))).bind fun v2 =>
  (sx xs Ln (i + (3 : Int32))).bind fun v3 =>
  (sx xs Ln (i + (4 : Int32))).bind fun v4 =>
  bn2 (cal S 11 x (f11_together X S x v1 v2 v3 v4)) fun r5 S6 =>
  (sx xs Ln (i + (1 : Int32))).bind fun v7 =>
  (sx xs Ln (i + (2 : Int32))).bind fun v8 =>
  (sx xs Ln (i + (3 : Int32))).bind fun v9 =>
  (sx xs Ln (i + (4 : Int32))).bind fun v10 =>
  bn2 (f12_together M v7 v8 v9 v10) fun r11 M12 =>
  if r5 = r11 then some (S6, M12) else none
set_option maxHeartbeats 4000000 in
set_option maxRecDepth 100000 in
theorem lc_13_ok {E : CxT} {l : Launch} {D : va_G} {y : CyT} {h : Nat} {q : Nat → Nat} {b Ln x : Nat} {xs : Nat → Int32} {X : Nat × Nat} (hc : Cx E "FarEditorsLaw" cL_law 4) (hz : Cy E l D y 13 478 X.1 X.2) (hX : X.2 ≤ 100000000) (hXs : va_X b Ln xs (xS E) (xS E).heap) (hbl : b < (xS E).heap.size) (hbA : ¬ xF E b) {i : Int32} {S S' : CS} {M M' : MS} (hf : lc_13 X xs Ln x i S M = some (S', M')) (hk : V E (cZ S') (cU S') (cw y S' ++ mw h q y M') 1390 [(0, .ref b), (1, .ref x), (2, .ref h), (3, .int i)] []) : V E (cZ S) (cU S) (cw y S ++ mw h q y M) 649 [(0, .ref b), (1, .ref x), (2, .ref h), (3, .int i)] [] := by
  have hT := hz.2.2.1
  unfold lc_13 at hf
  refine V_aload_n hc dL_law_649 rfl 1 rfl ?_
  refine V_aload_n hc dL_law_650 rfl 0 rfl ?_
  refine V_iload_n hc dL_law_651 rfl 3 rfl ?_
  refine V_iconst hc (v := (1 : Int32)) dL_law_652 rfl ?_
  refine V_iadd hc dL_law_653 ?_
  obtain ⟨v1, hv1, hf⟩ := mb hf
  refine V_sld hc hXs hbl hbA hv1 dL_law_654 ?_
  refine V_aload_n hc dL_law_655 rfl 0 rfl ?_
  refine V_iload_n hc dL_law_656 rfl 3 rfl ?_
  refine V_iconst hc (v := (2 : Int32)) dL_law_657 rfl ?_
  refine V_iadd hc dL_law_658 ?_
  obtain ⟨v2, hv2, hf⟩ := mb hf
  refine V_sld hc hXs hbl hbA hv2 dL_law_659 ?_
  refine V_aload_n hc dL_law_660 rfl 0 rfl ?_
  refine V_iload_n hc dL_law_661 rfl 3 rfl ?_
  refine V_iconst hc (v := (3 : Int32)) dL_law_662 rfl ?_
  refine V_iadd hc dL_law_663 ?_
  obtain ⟨v3, hv3, hf⟩ := mb hf
  refine V_sld hc hXs hbl hbA hv3 dL_law_664 ?_
  refine V_aload_n hc dL_law_665 rfl 0 rfl ?_
  refine V_iload_n hc dL_law_666 rfl 3 rfl ?_
  refine V_iconst hc (v := (4 : Int32)) dL_law_667 rfl ?_
  refine V_iadd hc dL_law_668 ?_
  obtain ⟨v4, hv4, hf⟩ := mb hf
  refine V_sld hc hXs hbl hbA hv4 dL_law_669 ?_
  obtain ⟨r5, S6, hr5, hf⟩ := mb2 hf
  obtain ⟨hkr5, hr5⟩ := og hr5
  refine L_callC hc hz (As := [.int v1, .int v2, .int v3, .int v4]) hkr5 (c11_together l D y X hX hr5) w5_45 w5_46 w5_47 w1_1 w5_48 hdX_X11_together ⟨(Nat.le_of_ble_eq_true rfl), (Nat.le_of_ble_eq_true rfl)⟩ rfl rfl (Nat.le_of_ble_eq_true rfl) dL_law_670 ?_
  refine V_aload_n hc dL_law_673 rfl 2 rfl ?_
  refine V_aload_n hc dL_law_674 rfl 0 rfl ?_
  refine V_iload_n hc dL_law_675 rfl 3 rfl ?_
  refine V_iconst hc (v := (1 : Int32)) dL_law_676 rfl ?_
  refine V_iadd hc dL_law_677 ?_
  obtain ⟨v7, hv7, hf⟩ := mb hf
  refine V_sld hc hXs hbl hbA hv7 dL_law_678 ?_
  refine V_aload_n hc dL_law_679 rfl 0 rfl ?_
  refine V_iload_n hc dL_law_680 rfl 3 rfl ?_
  refine V_iconst hc (v := (2 : Int32)) dL_law_681 rfl ?_
  refine V_iadd hc dL_law_682 ?_
  obtain ⟨v8, hv8, hf⟩ := mb hf
  refine V_sld hc hXs hbl hbA hv8 dL_law_683 ?_
  refine V_aload_n hc dL_law_684 rfl 0 rfl ?_
  refine V_iload_n hc dL_law_685 rfl 3 rfl ?_
  refine V_iconst hc (v := (3 : Int32)) dL_law_686 rfl ?_
  refine V_iadd hc dL_law_687 ?_
  obtain ⟨v9, hv9, hf⟩ := mb hf
  refine V_sld hc hXs hbl hbA hv9 dL_law_688 ?_
  refine V_aload_n hc dL_law_689 rfl 0 rfl ?_
  refine V_iload_n hc dL_law_690 rfl 3 rfl ?_
  refine V_iconst hc (v := (4 : Int32)) dL_law_691 rfl ?_
  refine V_iadd hc dL_law_692 ?_
  obtain ⟨v10, hv10, hf⟩ := mb hf
  refine V_sld hc hXs hbl hbA hv10 dL_law_693 ?_
  obtain ⟨r11, M12, hr11, hf⟩ := mb2 hf
  refine L_callM hc hz (As := [.int v7, .int v8, .int v9, .int v10]) (c12_together l D h q y _ _ _ _ hr11) w8_141 w8_142 w8_143 w1_13 w8_144 hd12_together ⟨(Nat.le_of_ble_eq_true rfl), (Nat.le_of_ble_eq_true rfl)⟩ rfl rfl (Nat.le_of_ble_eq_true rfl) dL_law_694 ?_
  have he : r5 = r11 := by
    by_cases hh : r5 = r11
    · exact hh
    · rw [if_neg hh] at hf; cases hf
  rw [if_pos he] at hf
  obtain ⟨rfl, rfl⟩ := si2 hf
  refine V_icmp_eq hc dL_law_697 rfl (fun _ => ?_) (fun hh => absurd he hh)
  exact hk
noncomputable def lc_14 (X : Nat × Nat) (xs : Nat → Int32) (Ln x : Nat) (i : Int32) (S : CS) (M : MS) : Option (CS × MS) :=
  (sx xs Ln (i + (1 : Int32))).bind fun v1 =>
  (sx xs Ln (i + (2 : Int32))).bind fun v2 =>
  bn2 (cal S 11 x (f11_without X S x v1 v2)) fun r3 S4 =>
  (sx xs Ln (i + (1 : Int32))).bind fun v5 =>
  (sx xs Ln (i + (2 : Int32))).bind fun v6 =>
  bn2 (f12_without M v5 v6) fun r7 M8 =>
  if r3 = r7 then some (S4, M8) else none
set_option maxHeartbeats 4000000 in
set_option maxRecDepth 100000 in
theorem lc_14_ok {E : CxT} {l : Launch} {D : va_G} {y : CyT} {h : Nat} {q : Nat → Nat} {b Ln x : Nat} {xs : Nat → Int32} {X : Nat × Nat} (hc : Cx E "FarEditorsLaw" cL_law 4) (hz : Cy E l D y 13 478 X.1 X.2) (hX : X.2 ≤ 100000000) (hXs : va_X b Ln xs (xS E) (xS E).heap) (hbl : b < (xS E).heap.size) (hbA : ¬ xF E b) {i : Int32} {S S' : CS} {M M' : MS} (hf : lc_14 X xs Ln x i S M = some (S', M')) (hk : V E (cZ S') (cU S') (cw y S' ++ mw h q y M') 1390 [(0, .ref b), (1, .ref x), (2, .ref h), (3, .int i)] []) : V E (cZ S) (cU S) (cw y S ++ mw h q y M) 702 [(0, .ref b), (1, .ref x), (2, .ref h), (3, .int i)] [] := by
  have hT := hz.2.2.1
  unfold lc_14 at hf
  refine V_aload_n hc dL_law_702 rfl 1 rfl ?_
  refine V_aload_n hc dL_law_703 rfl 0 rfl ?_
  refine V_iload_n hc dL_law_704 rfl 3 rfl ?_
  refine V_iconst hc (v := (1 : Int32)) dL_law_705 rfl ?_
  refine V_iadd hc dL_law_706 ?_
  obtain ⟨v1, hv1, hf⟩ := mb hf
  refine V_sld hc hXs hbl hbA hv1 dL_law_707 ?_
  refine V_aload_n hc dL_law_708 rfl 0 rfl ?_
  refine V_iload_n hc dL_law_709 rfl 3 rfl ?_
  refine V_iconst hc (v := (2 : Int32)) dL_law_710 rfl ?_
  refine V_iadd hc dL_law_711 ?_
  obtain ⟨v2, hv2, hf⟩ := mb hf
  refine V_sld hc hXs hbl hbA hv2 dL_law_712 ?_
  obtain ⟨r3, S4, hr3, hf⟩ := mb2 hf
  obtain ⟨hkr3, hr3⟩ := og hr3
  refine L_callC hc hz (As := [.int v1, .int v2]) hkr3 (c11_without l D y X hX hr3) w5_51 w5_52 w5_53 w1_1 w5_54 hdX_X11_without ⟨(Nat.le_of_ble_eq_true rfl), (Nat.le_of_ble_eq_true rfl)⟩ rfl rfl (Nat.le_of_ble_eq_true rfl) dL_law_713 ?_
  refine V_aload_n hc dL_law_716 rfl 2 rfl ?_
  refine V_aload_n hc dL_law_717 rfl 0 rfl ?_
  refine V_iload_n hc dL_law_718 rfl 3 rfl ?_
  refine V_iconst hc (v := (1 : Int32)) dL_law_719 rfl ?_
  refine V_iadd hc dL_law_720 ?_
  obtain ⟨v5, hv5, hf⟩ := mb hf
  refine V_sld hc hXs hbl hbA hv5 dL_law_721 ?_
  refine V_aload_n hc dL_law_722 rfl 0 rfl ?_
  refine V_iload_n hc dL_law_723 rfl 3 rfl ?_
  refine V_iconst hc (v := (2 : Int32)) dL_law_724 rfl ?_
  refine V_iadd hc dL_law_725 ?_
  obtain ⟨v6, hv6, hf⟩ := mb hf
  refine V_sld hc hXs hbl hbA hv6 dL_law_726 ?_
  obtain ⟨r7, M8, hr7, hf⟩ := mb2 hf
  refine L_callM hc hz (As := [.int v5, .int v6]) (c12_without l D h q y _ _ _ _ hr7) w8_145 w8_146 w8_147 w1_13 w8_148 hd12_without ⟨(Nat.le_of_ble_eq_true rfl), (Nat.le_of_ble_eq_true rfl)⟩ rfl rfl (Nat.le_of_ble_eq_true rfl) dL_law_727 ?_
  have he : r3 = r7 := by
    by_cases hh : r3 = r7
    · exact hh
    · rw [if_neg hh] at hf; cases hf
  rw [if_pos he] at hf
  obtain ⟨rfl, rfl⟩ := si2 hf
  refine V_icmp_eq hc dL_law_730 rfl (fun _ => ?_) (fun hh => absurd he hh)
  exact hk
noncomputable def lc_15 (X : Nat × Nat) (xs : Nat → Int32) (Ln x : Nat) (i : Int32) (S : CS) (M : MS) : Option (CS × MS) :=
  bn2 (cal S 11 x (f11_quiet X S x)) fun r1 S2 =>
  bn2 (f12_quiet M) fun r3 M4 =>
  if r1 = r3 then some (S2, M4) else none
set_option maxHeartbeats 4000000 in
set_option maxRecDepth 100000 in
theorem lc_15_ok {E : CxT} {l : Launch} {D : va_G} {y : CyT} {h : Nat} {q : Nat → Nat} {b Ln x : Nat} {xs : Nat → Int32} {X : Nat × Nat} (hc : Cx E "FarEditorsLaw" cL_law 4) (hz : Cy E l D y 13 478 X.1 X.2) (hX : X.2 ≤ 100000000) (hXs : va_X b Ln xs (xS E) (xS E).heap) (hbl : b < (xS E).heap.size) (hbA : ¬ xF E b) {i : Int32} {S S' : CS} {M M' : MS} (hf : lc_15 X xs Ln x i S M = some (S', M')) (hk : V E (cZ S') (cU S') (cw y S' ++ mw h q y M') 1390 [(0, .ref b), (1, .ref x), (2, .ref h), (3, .int i)] []) : V E (cZ S) (cU S) (cw y S ++ mw h q y M) 735 [(0, .ref b), (1, .ref x), (2, .ref h), (3, .int i)] [] := by
  have hT := hz.2.2.1
  unfold lc_15 at hf
  refine V_aload_n hc dL_law_735 rfl 1 rfl ?_
  obtain ⟨r1, S2, hr1, hf⟩ := mb2 hf
  obtain ⟨hkr1, hr1⟩ := og hr1
  refine L_callC hc hz (As := []) hkr1 (c11_quiet l D y X hX hr1) w5_58 w5_59 w5_60 w1_1 w5_61 hdX_X11_quiet ⟨(Nat.le_of_ble_eq_true rfl), (Nat.le_of_ble_eq_true rfl)⟩ rfl rfl (Nat.le_of_ble_eq_true rfl) dL_law_736 ?_
  refine V_aload_n hc dL_law_739 rfl 2 rfl ?_
  obtain ⟨r3, M4, hr3, hf⟩ := mb2 hf
  refine L_callM hc hz (As := []) (c12_quiet l D h q y _ _ _ _ hr3) w8_149 w8_150 w8_151 w1_13 w8_152 hd12_quiet ⟨(Nat.le_of_ble_eq_true rfl), (Nat.le_of_ble_eq_true rfl)⟩ rfl rfl (Nat.le_of_ble_eq_true rfl) dL_law_740 ?_
  have he : r1 = r3 := by
    by_cases hh : r1 = r3
    · exact hh
    · rw [if_neg hh] at hf; cases hf
  rw [if_pos he] at hf
  obtain ⟨rfl, rfl⟩ := si2 hf
  refine V_icmp_eq hc dL_law_743 rfl (fun _ => ?_) (fun hh => absurd he hh)
  exact hk
noncomputable def lc_16 (X : Nat × Nat) (xs : Nat → Int32) (Ln x : Nat) (i : Int32) (S : CS) (M : MS) : Option (CS × MS) :=
  (sx xs Ln (i + (1 : Int32))).bind fun v1 =>
  (sx xs Ln (i + (2 : Int32))).bind fun v2 =>
  bn2 (cal S 11 x (f11_later X S x v1 v2)) fun r3 S4 =>
  (sx xs Ln (i + (1 : Int32))).bind fun v5 =>
  (sx xs Ln (i + (2 : Int32))).bind fun v6 =>
  bn2 (f12_later M v5 v6) fun r7 M8 =>
  if r3 = r7 then some (S4, M8) else none
set_option maxHeartbeats 4000000 in
set_option maxRecDepth 100000 in
theorem lc_16_ok {E : CxT} {l : Launch} {D : va_G} {y : CyT} {h : Nat} {q : Nat → Nat} {b Ln x : Nat} {xs : Nat → Int32} {X : Nat × Nat} (hc : Cx E "FarEditorsLaw" cL_law 4) (hz : Cy E l D y 13 478 X.1 X.2) (hX : X.2 ≤ 100000000) (hXs : va_X b Ln xs (xS E) (xS E).heap) (hbl : b < (xS E).heap.size) (hbA : ¬ xF E b) {i : Int32} {S S' : CS} {M M' : MS} (hf : lc_16 X xs Ln x i S M = some (S', M')) (hk : V E (cZ S') (cU S') (cw y S' ++ mw h q y M') 1390 [(0, .ref b), (1, .ref x), (2, .ref h), (3, .int i)] []) : V E (cZ S) (cU S) (cw y S ++ mw h q y M) 748 [(0, .ref b), (1, .ref x), (2, .ref h), (3, .int i)] [] := by
  have hT := hz.2.2.1
  unfold lc_16 at hf
  refine V_aload_n hc dL_law_748 rfl 1 rfl ?_
  refine V_aload_n hc dL_law_749 rfl 0 rfl ?_
  refine V_iload_n hc dL_law_750 rfl 3 rfl ?_
  refine V_iconst hc (v := (1 : Int32)) dL_law_751 rfl ?_
  refine V_iadd hc dL_law_752 ?_
  obtain ⟨v1, hv1, hf⟩ := mb hf
  refine V_sld hc hXs hbl hbA hv1 dL_law_753 ?_
  refine V_aload_n hc dL_law_754 rfl 0 rfl ?_
  refine V_iload_n hc dL_law_755 rfl 3 rfl ?_
  refine V_iconst hc (v := (2 : Int32)) dL_law_756 rfl ?_
  refine V_iadd hc dL_law_757 ?_
  obtain ⟨v2, hv2, hf⟩ := mb hf
  refine V_sld hc hXs hbl hbA hv2 dL_law_758 ?_
  obtain ⟨r3, S4, hr3, hf⟩ := mb2 hf
  obtain ⟨hkr3, hr3⟩ := og hr3
  refine L_callC hc hz (As := [.int v1, .int v2]) hkr3 (c11_later l D y X hX hr3) w5_81 w5_82 w5_83 w1_1 w5_84 hdX_X11_later ⟨(Nat.le_of_ble_eq_true rfl), (Nat.le_of_ble_eq_true rfl)⟩ rfl rfl (Nat.le_of_ble_eq_true rfl) dL_law_759 ?_
  refine V_aload_n hc dL_law_762 rfl 2 rfl ?_
  refine V_aload_n hc dL_law_763 rfl 0 rfl ?_
  refine V_iload_n hc dL_law_764 rfl 3 rfl ?_
  refine V_iconst hc (v := (1 : Int32)) dL_law_765 rfl ?_
  refine V_iadd hc dL_law_766 ?_
  obtain ⟨v5, hv5, hf⟩ := mb hf
  refine V_sld hc hXs hbl hbA hv5 dL_law_767 ?_
  refine V_aload_n hc dL_law_768 rfl 0 rfl ?_
  refine V_iload_n hc dL_law_769 rfl 3 rfl ?_
  refine V_iconst hc (v := (2 : Int32)) dL_law_770 rfl ?_
  refine V_iadd hc dL_law_771 ?_
  obtain ⟨v6, hv6, hf⟩ := mb hf
  refine V_sld hc hXs hbl hbA hv6 dL_law_772 ?_
  obtain ⟨r7, M8, hr7, hf⟩ := mb2 hf
  refine L_callM hc hz (As := [.int v5, .int v6]) (c12_later l D h q y _ _ _ _ hr7) w8_161 w8_162 w8_163 w1_13 w8_164 hd12_later ⟨(Nat.le_of_ble_eq_true rfl), (Nat.le_of_ble_eq_true rfl)⟩ rfl rfl (Nat.le_of_ble_eq_true rfl) dL_law_773 ?_
  have he : r3 = r7 := by
    by_cases hh : r3 = r7
    · exact hh
    · rw [if_neg hh] at hf; cases hf
  rw [if_pos he] at hf
  obtain ⟨rfl, rfl⟩ := si2 hf
  refine V_icmp_eq hc dL_law_776 rfl (fun _ => ?_) (fun hh => absurd he hh)
  exact hk
noncomputable def lc_17 (X : Nat × Nat) (xs : Nat → Int32) (Ln x : Nat) (i : Int32) (S : CS) (M : MS) : Option (CS × MS) :=
  (sx xs Ln (i + (1 : Int32))).bind fun v1 =>
  bn2 (cal S 11 x (f11_orders X S x v1)) fun r2 S3 =>
  (sx xs Ln (i + (1 : Int32))).bind fun v4 =>
  bn2 (f12_orders M v4) fun r5 M6 =>
  if r2 = r5 then some (S3, M6) else none
set_option maxHeartbeats 4000000 in
set_option maxRecDepth 100000 in
theorem lc_17_ok {E : CxT} {l : Launch} {D : va_G} {y : CyT} {h : Nat} {q : Nat → Nat} {b Ln x : Nat} {xs : Nat → Int32} {X : Nat × Nat} (hc : Cx E "FarEditorsLaw" cL_law 4) (hz : Cy E l D y 13 478 X.1 X.2) (hX : X.2 ≤ 100000000) (hXs : va_X b Ln xs (xS E) (xS E).heap) (hbl : b < (xS E).heap.size) (hbA : ¬ xF E b) {i : Int32} {S S' : CS} {M M' : MS} (hf : lc_17 X xs Ln x i S M = some (S', M')) (hk : V E (cZ S') (cU S') (cw y S' ++ mw h q y M') 1390 [(0, .ref b), (1, .ref x), (2, .ref h), (3, .int i)] []) : V E (cZ S) (cU S) (cw y S ++ mw h q y M) 781 [(0, .ref b), (1, .ref x), (2, .ref h), (3, .int i)] [] := by
  have hT := hz.2.2.1
  unfold lc_17 at hf
  refine V_aload_n hc dL_law_781 rfl 1 rfl ?_
  refine V_aload_n hc dL_law_782 rfl 0 rfl ?_
  refine V_iload_n hc dL_law_783 rfl 3 rfl ?_
  refine V_iconst hc (v := (1 : Int32)) dL_law_784 rfl ?_
  refine V_iadd hc dL_law_785 ?_
  obtain ⟨v1, hv1, hf⟩ := mb hf
  refine V_sld hc hXs hbl hbA hv1 dL_law_786 ?_
  obtain ⟨r2, S3, hr2, hf⟩ := mb2 hf
  obtain ⟨hkr2, hr2⟩ := og hr2
  refine L_callC hc hz (As := [.int v1]) hkr2 (c11_orders l D y X hX hr2) w5_85 w5_86 w5_87 w1_1 w5_88 hdX_X11_orders ⟨(Nat.le_of_ble_eq_true rfl), (Nat.le_of_ble_eq_true rfl)⟩ rfl rfl (Nat.le_of_ble_eq_true rfl) dL_law_787 ?_
  refine V_aload_n hc dL_law_790 rfl 2 rfl ?_
  refine V_aload_n hc dL_law_791 rfl 0 rfl ?_
  refine V_iload_n hc dL_law_792 rfl 3 rfl ?_
  refine V_iconst hc (v := (1 : Int32)) dL_law_793 rfl ?_
  refine V_iadd hc dL_law_794 ?_
  obtain ⟨v4, hv4, hf⟩ := mb hf
  refine V_sld hc hXs hbl hbA hv4 dL_law_795 ?_
  obtain ⟨r5, M6, hr5, hf⟩ := mb2 hf
  refine L_callM hc hz (As := [.int v4]) (c12_orders l D h q y _ _ _ _ hr5) w8_166 w8_167 w8_168 w1_13 w8_169 hd12_orders ⟨(Nat.le_of_ble_eq_true rfl), (Nat.le_of_ble_eq_true rfl)⟩ rfl rfl (Nat.le_of_ble_eq_true rfl) dL_law_796 ?_
  have he : r2 = r5 := by
    by_cases hh : r2 = r5
    · exact hh
    · rw [if_neg hh] at hf; cases hf
  rw [if_pos he] at hf
  obtain ⟨rfl, rfl⟩ := si2 hf
  refine V_icmp_eq hc dL_law_799 rfl (fun _ => ?_) (fun hh => absurd he hh)
  exact hk
noncomputable def lc_18 (X : Nat × Nat) (xs : Nat → Int32) (Ln x : Nat) (i : Int32) (S : CS) (M : MS) : Option (CS × MS) :=
  (sx xs Ln (i + (1 : Int32))).bind fun v1 =>
  (sx xs Ln (i + (2 : Int32))).bind fun v2 =>
  bn2 (cal S 11 x (f11_ends X S x v1 v2)) fun r3 S4 =>
  (sx xs Ln (i + (1 : Int32))).bind fun v5 =>
  (sx xs Ln (i + (2 : Int32))).bind fun v6 =>
  bn2 (f12_ends M v5 v6) fun r7 M8 =>
  if r3 = r7 then some (S4, M8) else none
set_option maxHeartbeats 4000000 in
set_option maxRecDepth 100000 in
theorem lc_18_ok {E : CxT} {l : Launch} {D : va_G} {y : CyT} {h : Nat} {q : Nat → Nat} {b Ln x : Nat} {xs : Nat → Int32} {X : Nat × Nat} (hc : Cx E "FarEditorsLaw" cL_law 4) (hz : Cy E l D y 13 478 X.1 X.2) (hX : X.2 ≤ 100000000) (hXs : va_X b Ln xs (xS E) (xS E).heap) (hbl : b < (xS E).heap.size) (hbA : ¬ xF E b) {i : Int32} {S S' : CS} {M M' : MS} (hf : lc_18 X xs Ln x i S M = some (S', M')) (hk : V E (cZ S') (cU S') (cw y S' ++ mw h q y M') 1390 [(0, .ref b), (1, .ref x), (2, .ref h), (3, .int i)] []) : V E (cZ S) (cU S) (cw y S ++ mw h q y M) 804 [(0, .ref b), (1, .ref x), (2, .ref h), (3, .int i)] [] := by
  have hT := hz.2.2.1
  unfold lc_18 at hf
  refine V_aload_n hc dL_law_804 rfl 1 rfl ?_
  refine V_aload_n hc dL_law_805 rfl 0 rfl ?_
  refine V_iload_n hc dL_law_806 rfl 3 rfl ?_
  refine V_iconst hc (v := (1 : Int32)) dL_law_807 rfl ?_
  refine V_iadd hc dL_law_808 ?_
  obtain ⟨v1, hv1, hf⟩ := mb hf
  refine V_sld hc hXs hbl hbA hv1 dL_law_809 ?_
  refine V_aload_n hc dL_law_810 rfl 0 rfl ?_
  refine V_iload_n hc dL_law_811 rfl 3 rfl ?_
  refine V_iconst hc (v := (2 : Int32)) dL_law_812 rfl ?_
  refine V_iadd hc dL_law_813 ?_
  obtain ⟨v2, hv2, hf⟩ := mb hf
  refine V_sld hc hXs hbl hbA hv2 dL_law_814 ?_
  obtain ⟨r3, S4, hr3, hf⟩ := mb2 hf
  obtain ⟨hkr3, hr3⟩ := og hr3
  refine L_callC hc hz (As := [.int v1, .int v2]) hkr3 (c11_ends l D y X hX hr3) w5_113 w5_114 w5_115 w1_1 w5_116 hdX_X11_ends ⟨(Nat.le_of_ble_eq_true rfl), (Nat.le_of_ble_eq_true rfl)⟩ rfl rfl (Nat.le_of_ble_eq_true rfl) dL_law_815 ?_
  refine V_aload_n hc dL_law_818 rfl 2 rfl ?_
  refine V_aload_n hc dL_law_819 rfl 0 rfl ?_
  refine V_iload_n hc dL_law_820 rfl 3 rfl ?_
  refine V_iconst hc (v := (1 : Int32)) dL_law_821 rfl ?_
  refine V_iadd hc dL_law_822 ?_
  obtain ⟨v5, hv5, hf⟩ := mb hf
  refine V_sld hc hXs hbl hbA hv5 dL_law_823 ?_
  refine V_aload_n hc dL_law_824 rfl 0 rfl ?_
  refine V_iload_n hc dL_law_825 rfl 3 rfl ?_
  refine V_iconst hc (v := (2 : Int32)) dL_law_826 rfl ?_
  refine V_iadd hc dL_law_827 ?_
  obtain ⟨v6, hv6, hf⟩ := mb hf
  refine V_sld hc hXs hbl hbA hv6 dL_law_828 ?_
  obtain ⟨r7, M8, hr7, hf⟩ := mb2 hf
  refine L_callM hc hz (As := [.int v5, .int v6]) (c12_ends l D h q y _ _ _ _ hr7) w8_198 w8_199 w8_200 w1_13 w8_201 hd12_ends ⟨(Nat.le_of_ble_eq_true rfl), (Nat.le_of_ble_eq_true rfl)⟩ rfl rfl (Nat.le_of_ble_eq_true rfl) dL_law_829 ?_
  have he : r3 = r7 := by
    by_cases hh : r3 = r7
    · exact hh
    · rw [if_neg hh] at hf; cases hf
  rw [if_pos he] at hf
  obtain ⟨rfl, rfl⟩ := si2 hf
  refine V_icmp_eq hc dL_law_832 rfl (fun _ => ?_) (fun hh => absurd he hh)
  exact hk
noncomputable def lc_19 (X : Nat × Nat) (xs : Nat → Int32) (Ln x : Nat) (i : Int32) (S : CS) (M : MS) : Option (CS × MS) :=
  bn2 (cal S 11 x (f11_see S x)) fun r1 S2 =>
  bn2 (f12_see M) fun r3 M4 =>
  if r1 = r3 then some (S2, M4) else none
set_option maxHeartbeats 4000000 in
set_option maxRecDepth 100000 in
theorem lc_19_ok {E : CxT} {l : Launch} {D : va_G} {y : CyT} {h : Nat} {q : Nat → Nat} {b Ln x : Nat} {xs : Nat → Int32} {X : Nat × Nat} (hc : Cx E "FarEditorsLaw" cL_law 4) (hz : Cy E l D y 13 478 X.1 X.2) (hX : X.2 ≤ 100000000) (hXs : va_X b Ln xs (xS E) (xS E).heap) (hbl : b < (xS E).heap.size) (hbA : ¬ xF E b) {i : Int32} {S S' : CS} {M M' : MS} (hf : lc_19 X xs Ln x i S M = some (S', M')) (hk : V E (cZ S') (cU S') (cw y S' ++ mw h q y M') 1390 [(0, .ref b), (1, .ref x), (2, .ref h), (3, .int i)] []) : V E (cZ S) (cU S) (cw y S ++ mw h q y M) 837 [(0, .ref b), (1, .ref x), (2, .ref h), (3, .int i)] [] := by
  have hT := hz.2.2.1
  unfold lc_19 at hf
  refine V_aload_n hc dL_law_837 rfl 1 rfl ?_
  obtain ⟨r1, S2, hr1, hf⟩ := mb2 hf
  obtain ⟨hkr1, hr1⟩ := og hr1
  refine L_callC hc hz (As := []) hkr1 (c11_see l D y _ _ hr1) w5_117 w5_118 w5_119 w1_1 w5_120 hdX_X11_see ⟨(Nat.le_of_ble_eq_true rfl), (Nat.le_of_ble_eq_true rfl)⟩ rfl rfl (Nat.le_of_ble_eq_true rfl) dL_law_838 ?_
  refine V_aload_n hc dL_law_841 rfl 2 rfl ?_
  obtain ⟨r3, M4, hr3, hf⟩ := mb2 hf
  refine L_callM hc hz (As := []) (c12_see l D h q y _ _ _ _ hr3) w8_202 w8_203 w8_204 w1_13 w8_205 hd12_see ⟨(Nat.le_of_ble_eq_true rfl), (Nat.le_of_ble_eq_true rfl)⟩ rfl rfl (Nat.le_of_ble_eq_true rfl) dL_law_842 ?_
  have he : r1 = r3 := by
    by_cases hh : r1 = r3
    · exact hh
    · rw [if_neg hh] at hf; cases hf
  rw [if_pos he] at hf
  obtain ⟨rfl, rfl⟩ := si2 hf
  refine V_icmp_eq hc dL_law_845 rfl (fun _ => ?_) (fun hh => absurd he hh)
  exact hk
noncomputable def lc_20 (X : Nat × Nat) (xs : Nat → Int32) (Ln x : Nat) (i : Int32) (S : CS) (M : MS) : Option (CS × MS) :=
  (sx xs Ln (i + (1 : Int32))).bind fun v1 =>
  bn2 (cal S 11 x (f11_fits X S x v1)) fun r2 S3 =>
  (sx xs Ln (i + (1 : Int32))).bind fun v4 =>
  bn2 (f12_fits M v4) fun r5 M6 =>
  if r2 = r5 then some (S3, M6) else none
set_option maxHeartbeats 4000000 in
set_option maxRecDepth 100000 in
theorem lc_20_ok {E : CxT} {l : Launch} {D : va_G} {y : CyT} {h : Nat} {q : Nat → Nat} {b Ln x : Nat} {xs : Nat → Int32} {X : Nat × Nat} (hc : Cx E "FarEditorsLaw" cL_law 4) (hz : Cy E l D y 13 478 X.1 X.2) (hX : X.2 ≤ 100000000) (hXs : va_X b Ln xs (xS E) (xS E).heap) (hbl : b < (xS E).heap.size) (hbA : ¬ xF E b) {i : Int32} {S S' : CS} {M M' : MS} (hf : lc_20 X xs Ln x i S M = some (S', M')) (hk : V E (cZ S') (cU S') (cw y S' ++ mw h q y M') 1390 [(0, .ref b), (1, .ref x), (2, .ref h), (3, .int i)] []) : V E (cZ S) (cU S) (cw y S ++ mw h q y M) 850 [(0, .ref b), (1, .ref x), (2, .ref h), (3, .int i)] [] := by
  have hT := hz.2.2.1
  unfold lc_20 at hf
  refine V_aload_n hc dL_law_850 rfl 1 rfl ?_
  refine V_aload_n hc dL_law_851 rfl 0 rfl ?_
  refine V_iload_n hc dL_law_852 rfl 3 rfl ?_
  refine V_iconst hc (v := (1 : Int32)) dL_law_853 rfl ?_
  refine V_iadd hc dL_law_854 ?_
  obtain ⟨v1, hv1, hf⟩ := mb hf
  refine V_sld hc hXs hbl hbA hv1 dL_law_855 ?_
  obtain ⟨r2, S3, hr2, hf⟩ := mb2 hf
  obtain ⟨hkr2, hr2⟩ := og hr2
  refine L_callC hc hz (As := [.int v1]) hkr2 (c11_fits l D y X hX hr2) w5_130 w5_131 w5_132 w1_1 w5_133 hdX_X11_fits ⟨(Nat.le_of_ble_eq_true rfl), (Nat.le_of_ble_eq_true rfl)⟩ rfl rfl (Nat.le_of_ble_eq_true rfl) dL_law_856 ?_
  refine V_aload_n hc dL_law_859 rfl 2 rfl ?_
  refine V_aload_n hc dL_law_860 rfl 0 rfl ?_
  refine V_iload_n hc dL_law_861 rfl 3 rfl ?_
  refine V_iconst hc (v := (1 : Int32)) dL_law_862 rfl ?_
  refine V_iadd hc dL_law_863 ?_
  obtain ⟨v4, hv4, hf⟩ := mb hf
  refine V_sld hc hXs hbl hbA hv4 dL_law_864 ?_
  obtain ⟨r5, M6, hr5, hf⟩ := mb2 hf
  refine L_callM hc hz (As := [.int v4]) (c12_fits l D h q y _ _ _ _ hr5) w8_206 w8_207 w8_208 w1_13 w8_209 hd12_fits ⟨(Nat.le_of_ble_eq_true rfl), (Nat.le_of_ble_eq_true rfl)⟩ rfl rfl (Nat.le_of_ble_eq_true rfl) dL_law_865 ?_
  have he : r2 = r5 := by
    by_cases hh : r2 = r5
    · exact hh
    · rw [if_neg hh] at hf; cases hf
  rw [if_pos he] at hf
  obtain ⟨rfl, rfl⟩ := si2 hf
  refine V_icmp_eq hc dL_law_868 rfl (fun _ => ?_) (fun hh => absurd he hh)
  exact hk
noncomputable def lc_21 (X : Nat × Nat) (xs : Nat → Int32) (Ln x : Nat) (i : Int32) (S : CS) (M : MS) : Option (CS × MS) :=
  (sx xs Ln (i + (1 : Int32))).bind fun v1 =>
  bn2 (cal S 11 x (f11_tells X S x v1)) fun r2 S3 =>
  (sx xs Ln (i + (1 : Int32))).bind fun v4 =>
  bn2 (f12_tells M v4) fun r5 M6 =>
  if r2 = r5 then some (S3, M6) else none
set_option maxHeartbeats 4000000 in
set_option maxRecDepth 100000 in
theorem lc_21_ok {E : CxT} {l : Launch} {D : va_G} {y : CyT} {h : Nat} {q : Nat → Nat} {b Ln x : Nat} {xs : Nat → Int32} {X : Nat × Nat} (hc : Cx E "FarEditorsLaw" cL_law 4) (hz : Cy E l D y 13 478 X.1 X.2) (hX : X.2 ≤ 100000000) (hXs : va_X b Ln xs (xS E) (xS E).heap) (hbl : b < (xS E).heap.size) (hbA : ¬ xF E b) {i : Int32} {S S' : CS} {M M' : MS} (hf : lc_21 X xs Ln x i S M = some (S', M')) (hk : V E (cZ S') (cU S') (cw y S' ++ mw h q y M') 1390 [(0, .ref b), (1, .ref x), (2, .ref h), (3, .int i)] []) : V E (cZ S) (cU S) (cw y S ++ mw h q y M) 873 [(0, .ref b), (1, .ref x), (2, .ref h), (3, .int i)] [] := by
  have hT := hz.2.2.1
  unfold lc_21 at hf
  refine V_aload_n hc dL_law_873 rfl 1 rfl ?_
  refine V_aload_n hc dL_law_874 rfl 0 rfl ?_
  refine V_iload_n hc dL_law_875 rfl 3 rfl ?_
  refine V_iconst hc (v := (1 : Int32)) dL_law_876 rfl ?_
  refine V_iadd hc dL_law_877 ?_
  obtain ⟨v1, hv1, hf⟩ := mb hf
  refine V_sld hc hXs hbl hbA hv1 dL_law_878 ?_
  obtain ⟨r2, S3, hr2, hf⟩ := mb2 hf
  obtain ⟨hkr2, hr2⟩ := og hr2
  refine L_callC hc hz (As := [.int v1]) hkr2 (c11_tells l D y X hX hr2) w5_147 w5_148 w5_149 w1_1 w5_150 hdX_X11_tells ⟨(Nat.le_of_ble_eq_true rfl), (Nat.le_of_ble_eq_true rfl)⟩ rfl rfl (Nat.le_of_ble_eq_true rfl) dL_law_879 ?_
  refine V_aload_n hc dL_law_882 rfl 2 rfl ?_
  refine V_aload_n hc dL_law_883 rfl 0 rfl ?_
  refine V_iload_n hc dL_law_884 rfl 3 rfl ?_
  refine V_iconst hc (v := (1 : Int32)) dL_law_885 rfl ?_
  refine V_iadd hc dL_law_886 ?_
  obtain ⟨v4, hv4, hf⟩ := mb hf
  refine V_sld hc hXs hbl hbA hv4 dL_law_887 ?_
  obtain ⟨r5, M6, hr5, hf⟩ := mb2 hf
  refine L_callM hc hz (As := [.int v4]) (c12_tells l D h q y _ _ _ _ hr5) w8_214 w8_215 w8_216 w1_13 w8_217 hd12_tells ⟨(Nat.le_of_ble_eq_true rfl), (Nat.le_of_ble_eq_true rfl)⟩ rfl rfl (Nat.le_of_ble_eq_true rfl) dL_law_888 ?_
  have he : r2 = r5 := by
    by_cases hh : r2 = r5
    · exact hh
    · rw [if_neg hh] at hf; cases hf
  rw [if_pos he] at hf
  obtain ⟨rfl, rfl⟩ := si2 hf
  refine V_icmp_eq hc dL_law_891 rfl (fun _ => ?_) (fun hh => absurd he hh)
  exact hk
noncomputable def lc_22 (X : Nat × Nat) (xs : Nat → Int32) (Ln x : Nat) (i : Int32) (S : CS) (M : MS) : Option (CS × MS) :=
  (sx xs Ln (i + (1 : Int32))).bind fun v1 =>
  bn2 (cal S 11 x (f11_edit X S x v1)) fun r2 S3 =>
  (sx xs Ln (i + (1 : Int32))).bind fun v4 =>
  bn2 (f12_edit M v4) fun r5 M6 =>
  if r2 = r5 then some (S3, M6) else none
set_option maxHeartbeats 4000000 in
set_option maxRecDepth 100000 in
theorem lc_22_ok {E : CxT} {l : Launch} {D : va_G} {y : CyT} {h : Nat} {q : Nat → Nat} {b Ln x : Nat} {xs : Nat → Int32} {X : Nat × Nat} (hc : Cx E "FarEditorsLaw" cL_law 4) (hz : Cy E l D y 13 478 X.1 X.2) (hX : X.2 ≤ 100000000) (hXs : va_X b Ln xs (xS E) (xS E).heap) (hbl : b < (xS E).heap.size) (hbA : ¬ xF E b) {i : Int32} {S S' : CS} {M M' : MS} (hf : lc_22 X xs Ln x i S M = some (S', M')) (hk : V E (cZ S') (cU S') (cw y S' ++ mw h q y M') 1390 [(0, .ref b), (1, .ref x), (2, .ref h), (3, .int i)] []) : V E (cZ S) (cU S) (cw y S ++ mw h q y M) 896 [(0, .ref b), (1, .ref x), (2, .ref h), (3, .int i)] [] := by
  have hT := hz.2.2.1
  unfold lc_22 at hf
  refine V_aload_n hc dL_law_896 rfl 1 rfl ?_
  refine V_aload_n hc dL_law_897 rfl 0 rfl ?_
  refine V_iload_n hc dL_law_898 rfl 3 rfl ?_
  refine V_iconst hc (v := (1 : Int32)) dL_law_899 rfl ?_
  refine V_iadd hc dL_law_900 ?_
  obtain ⟨v1, hv1, hf⟩ := mb hf
  refine V_sld hc hXs hbl hbA hv1 dL_law_901 ?_
  obtain ⟨r2, S3, hr2, hf⟩ := mb2 hf
  obtain ⟨hkr2, hr2⟩ := og hr2
  refine L_callC hc hz (As := [.int v1]) hkr2 (c11_edit l D y X hX hr2) w5_164 w5_165 w5_166 w1_1 w5_167 hdX_X11_edit ⟨(Nat.le_of_ble_eq_true rfl), (Nat.le_of_ble_eq_true rfl)⟩ rfl rfl (Nat.le_of_ble_eq_true rfl) dL_law_902 ?_
  refine V_aload_n hc dL_law_905 rfl 2 rfl ?_
  refine V_aload_n hc dL_law_906 rfl 0 rfl ?_
  refine V_iload_n hc dL_law_907 rfl 3 rfl ?_
  refine V_iconst hc (v := (1 : Int32)) dL_law_908 rfl ?_
  refine V_iadd hc dL_law_909 ?_
  obtain ⟨v4, hv4, hf⟩ := mb hf
  refine V_sld hc hXs hbl hbA hv4 dL_law_910 ?_
  obtain ⟨r5, M6, hr5, hf⟩ := mb2 hf
  refine L_callM hc hz (As := [.int v4]) (c12_edit l D h q y _ _ _ _ hr5) w8_226 w8_227 w8_228 w1_13 w8_229 hd12_edit ⟨(Nat.le_of_ble_eq_true rfl), (Nat.le_of_ble_eq_true rfl)⟩ rfl rfl (Nat.le_of_ble_eq_true rfl) dL_law_911 ?_
  have he : r2 = r5 := by
    by_cases hh : r2 = r5
    · exact hh
    · rw [if_neg hh] at hf; cases hf
  rw [if_pos he] at hf
  obtain ⟨rfl, rfl⟩ := si2 hf
  refine V_icmp_eq hc dL_law_914 rfl (fun _ => ?_) (fun hh => absurd he hh)
  exact hk
noncomputable def lc_23 (X : Nat × Nat) (xs : Nat → Int32) (Ln x : Nat) (i : Int32) (S : CS) (M : MS) : Option (CS × MS) :=
  (sx xs Ln (i + (1 : Int32))).bind fun v1 =>
  (sx xs Ln (i + (2 : Int32))).bind fun v2 =>
  (sx xs Ln (i + (3 : Int32))).bind fun v3 =>
  bn2 (cal S 11 x (f11_put X S x v1 v2 v3)) fun r4 S5 =>
  (sx xs Ln (i + (1 : Int32))).bind fun v6 =>
  (sx xs Ln (i + (2 : Int32))).bind fun v7 =>
  (sx xs Ln (i + (3 : Int32))).bind fun v8 =>
  bn2 (f12_put M v6 v7 v8) fun r9 M10 =>
  if r4 = r9 then some (S5, M10) else none
set_option maxHeartbeats 4000000 in
set_option maxRecDepth 100000 in
theorem lc_23_ok {E : CxT} {l : Launch} {D : va_G} {y : CyT} {h : Nat} {q : Nat → Nat} {b Ln x : Nat} {xs : Nat → Int32} {X : Nat × Nat} (hc : Cx E "FarEditorsLaw" cL_law 4) (hz : Cy E l D y 13 478 X.1 X.2) (hX : X.2 ≤ 100000000) (hXs : va_X b Ln xs (xS E) (xS E).heap) (hbl : b < (xS E).heap.size) (hbA : ¬ xF E b) {i : Int32} {S S' : CS} {M M' : MS} (hf : lc_23 X xs Ln x i S M = some (S', M')) (hk : V E (cZ S') (cU S') (cw y S' ++ mw h q y M') 1390 [(0, .ref b), (1, .ref x), (2, .ref h), (3, .int i)] []) : V E (cZ S) (cU S) (cw y S ++ mw h q y M) 919 [(0, .ref b), (1, .ref x), (2, .ref h), (3, .int i)] [] := by
  have hT := hz.2.2.1
  unfold lc_23 at hf
  refine V_aload_n hc dL_law_919 rfl 1 rfl ?_
  refine V_aload_n hc dL_law_920 rfl 0 rfl ?_
  refine V_iload_n hc dL_law_921 rfl 3 rfl ?_
  refine V_iconst hc (v := (1 : Int32)) dL_law_922 rfl ?_
  refine V_iadd hc dL_law_923 ?_
  obtain ⟨v1, hv1, hf⟩ := mb hf
  refine V_sld hc hXs hbl hbA hv1 dL_law_924 ?_
  refine V_aload_n hc dL_law_925 rfl 0 rfl ?_
  refine V_iload_n hc dL_law_926 rfl 3 rfl ?_
  refine V_iconst hc (v := (2 : Int32)) dL_law_927 rfl ?_
  refine V_iadd hc dL_law_928 ?_
  obtain ⟨v2, hv2, hf⟩ := mb hf
  refine V_sld hc hXs hbl hbA hv2 dL_law_929 ?_
  refine V_aload_n hc dL_law_930 rfl 0 rfl ?_
  refine V_iload_n hc dL_law_931 rfl 3 rfl ?_
  refine V_iconst hc (v := (3 : Int32)) dL_law_932 rfl ?_
  refine V_iadd hc dL_law_933 ?_
  obtain ⟨v3, hv3, hf⟩ := mb hf
  refine V_sld hc hXs hbl hbA hv3 dL_law_934 ?_
  obtain ⟨r4, S5, hr4, hf⟩ := mb2 hf
  obtain ⟨hkr4, hr4⟩ := og hr4
  refine L_callC hc hz (As := [.int v1, .int v2, .int v3]) hkr4 (c11_put l D y X hX hr4) w5_182 w5_183 w5_184 w1_1 w5_185 hdX_X11_put ⟨(Nat.le_of_ble_eq_true rfl), (Nat.le_of_ble_eq_true rfl)⟩ rfl rfl (Nat.le_of_ble_eq_true rfl) dL_law_935 ?_
  refine V_aload_n hc dL_law_938 rfl 2 rfl ?_
  refine V_aload_n hc dL_law_939 rfl 0 rfl ?_
  refine V_iload_n hc dL_law_940 rfl 3 rfl ?_
  refine V_iconst hc (v := (1 : Int32)) dL_law_941 rfl ?_
  refine V_iadd hc dL_law_942 ?_
  obtain ⟨v6, hv6, hf⟩ := mb hf
  refine V_sld hc hXs hbl hbA hv6 dL_law_943 ?_
  refine V_aload_n hc dL_law_944 rfl 0 rfl ?_
  refine V_iload_n hc dL_law_945 rfl 3 rfl ?_
  refine V_iconst hc (v := (2 : Int32)) dL_law_946 rfl ?_
  refine V_iadd hc dL_law_947 ?_
  obtain ⟨v7, hv7, hf⟩ := mb hf
  refine V_sld hc hXs hbl hbA hv7 dL_law_948 ?_
  refine V_aload_n hc dL_law_949 rfl 0 rfl ?_
  refine V_iload_n hc dL_law_950 rfl 3 rfl ?_
  refine V_iconst hc (v := (3 : Int32)) dL_law_951 rfl ?_
  refine V_iadd hc dL_law_952 ?_
  obtain ⟨v8, hv8, hf⟩ := mb hf
  refine V_sld hc hXs hbl hbA hv8 dL_law_953 ?_
  obtain ⟨r9, M10, hr9, hf⟩ := mb2 hf
  refine L_callM hc hz (As := [.int v6, .int v7, .int v8]) (c12_put l D h q y _ _ _ _ hr9) w8_238 w8_239 w9_0 w1_13 w9_1 hd12_put ⟨(Nat.le_of_ble_eq_true rfl), (Nat.le_of_ble_eq_true rfl)⟩ rfl rfl (Nat.le_of_ble_eq_true rfl) dL_law_954 ?_
  have he : r4 = r9 := by
    by_cases hh : r4 = r9
    · exact hh
    · rw [if_neg hh] at hf; cases hf
  rw [if_pos he] at hf
  obtain ⟨rfl, rfl⟩ := si2 hf
  refine V_icmp_eq hc dL_law_957 rfl (fun _ => ?_) (fun hh => absurd he hh)
  exact hk
noncomputable def lc_24 (X : Nat × Nat) (xs : Nat → Int32) (Ln x : Nat) (i : Int32) (S : CS) (M : MS) : Option (CS × MS) :=
  (sx xs Ln (i + (1 : Int32))).bind fun v1 =>
  (sx xs Ln (i + (2 : Int32))).bind fun v2 =>
  (sx xs Ln (i + (3 : Int32))).bind fun v3 =>
  bn2 (cal S 11 x (f11_cut X S x v1 v2 v3)) fun r4 S5 =>
  (sx xs Ln (i + (1 : Int32))).bind fun v6 =>
  (sx xs Ln (i + (2 : Int32))).bind fun v7 =>
  (sx xs Ln (i + (3 : Int32))).bind fun v8 =>
  bn2 (f12_cut M v6 v7 v8) fun r9 M10 =>
  if r4 = r9 then some (S5, M10) else none
set_option maxHeartbeats 4000000 in
set_option maxRecDepth 100000 in
theorem lc_24_ok {E : CxT} {l : Launch} {D : va_G} {y : CyT} {h : Nat} {q : Nat → Nat} {b Ln x : Nat} {xs : Nat → Int32} {X : Nat × Nat} (hc : Cx E "FarEditorsLaw" cL_law 4) (hz : Cy E l D y 13 478 X.1 X.2) (hX : X.2 ≤ 100000000) (hXs : va_X b Ln xs (xS E) (xS E).heap) (hbl : b < (xS E).heap.size) (hbA : ¬ xF E b) {i : Int32} {S S' : CS} {M M' : MS} (hf : lc_24 X xs Ln x i S M = some (S', M')) (hk : V E (cZ S') (cU S') (cw y S' ++ mw h q y M') 1390 [(0, .ref b), (1, .ref x), (2, .ref h), (3, .int i)] []) : V E (cZ S) (cU S) (cw y S ++ mw h q y M) 962 [(0, .ref b), (1, .ref x), (2, .ref h), (3, .int i)] [] := by
  have hT := hz.2.2.1
  unfold lc_24 at hf
  refine V_aload_n hc dL_law_962 rfl 1 rfl ?_
  refine V_aload_n hc dL_law_963 rfl 0 rfl ?_
  refine V_iload_n hc dL_law_964 rfl 3 rfl ?_
  refine V_iconst hc (v := (1 : Int32)) dL_law_965 rfl ?_
  refine V_iadd hc dL_law_966 ?_
  obtain ⟨v1, hv1, hf⟩ := mb hf
  refine V_sld hc hXs hbl hbA hv1 dL_law_967 ?_
  refine V_aload_n hc dL_law_968 rfl 0 rfl ?_
  refine V_iload_n hc dL_law_969 rfl 3 rfl ?_
  refine V_iconst hc (v := (2 : Int32)) dL_law_970 rfl ?_
  refine V_iadd hc dL_law_971 ?_
  obtain ⟨v2, hv2, hf⟩ := mb hf
  refine V_sld hc hXs hbl hbA hv2 dL_law_972 ?_
  refine V_aload_n hc dL_law_973 rfl 0 rfl ?_
  refine V_iload_n hc dL_law_974 rfl 3 rfl ?_
  refine V_iconst hc (v := (3 : Int32)) dL_law_975 rfl ?_
  refine V_iadd hc dL_law_976 ?_
  obtain ⟨v3, hv3, hf⟩ := mb hf
  refine V_sld hc hXs hbl hbA hv3 dL_law_977 ?_
  obtain ⟨r4, S5, hr4, hf⟩ := mb2 hf
  obtain ⟨hkr4, hr4⟩ := og hr4
  refine L_callC hc hz (As := [.int v1, .int v2, .int v3]) hkr4 (c11_cut l D y X hX hr4) w5_194 w5_195 w5_196 w1_1 w5_197 hdX_X11_cut ⟨(Nat.le_of_ble_eq_true rfl), (Nat.le_of_ble_eq_true rfl)⟩ rfl rfl (Nat.le_of_ble_eq_true rfl) dL_law_978 ?_
  refine V_aload_n hc dL_law_981 rfl 2 rfl ?_
  refine V_aload_n hc dL_law_982 rfl 0 rfl ?_
  refine V_iload_n hc dL_law_983 rfl 3 rfl ?_
  refine V_iconst hc (v := (1 : Int32)) dL_law_984 rfl ?_
  refine V_iadd hc dL_law_985 ?_
  obtain ⟨v6, hv6, hf⟩ := mb hf
  refine V_sld hc hXs hbl hbA hv6 dL_law_986 ?_
  refine V_aload_n hc dL_law_987 rfl 0 rfl ?_
  refine V_iload_n hc dL_law_988 rfl 3 rfl ?_
  refine V_iconst hc (v := (2 : Int32)) dL_law_989 rfl ?_
  refine V_iadd hc dL_law_990 ?_
  obtain ⟨v7, hv7, hf⟩ := mb hf
  refine V_sld hc hXs hbl hbA hv7 dL_law_991 ?_
  refine V_aload_n hc dL_law_992 rfl 0 rfl ?_
  refine V_iload_n hc dL_law_993 rfl 3 rfl ?_
  refine V_iconst hc (v := (3 : Int32)) dL_law_994 rfl ?_
  refine V_iadd hc dL_law_995 ?_
  obtain ⟨v8, hv8, hf⟩ := mb hf
  refine V_sld hc hXs hbl hbA hv8 dL_law_996 ?_
  obtain ⟨r9, M10, hr9, hf⟩ := mb2 hf
  refine L_callM hc hz (As := [.int v6, .int v7, .int v8]) (c12_cut l D h q y _ _ _ _ hr9) w9_7 w9_8 w9_9 w1_13 w9_10 hd12_cut ⟨(Nat.le_of_ble_eq_true rfl), (Nat.le_of_ble_eq_true rfl)⟩ rfl rfl (Nat.le_of_ble_eq_true rfl) dL_law_997 ?_
  have he : r4 = r9 := by
    by_cases hh : r4 = r9
    · exact hh
    · rw [if_neg hh] at hf; cases hf
  rw [if_pos he] at hf
  obtain ⟨rfl, rfl⟩ := si2 hf
  refine V_icmp_eq hc dL_law_1000 rfl (fun _ => ?_) (fun hh => absurd he hh)
  exact hk
noncomputable def lc_25 (X : Nat × Nat) (xs : Nat → Int32) (Ln x : Nat) (i : Int32) (S : CS) (M : MS) : Option (CS × MS) :=
  (sx xs Ln (i + (1 : Int32))).bind fun v1 =>
  (sx xs Ln (i + (2 : Int32))).bind fun v2 =>
  bn2 (cal S 11 x (f11_type X S x v1 v2)) fun r3 S4 =>
  (sx xs Ln (i + (1 : Int32))).bind fun v5 =>
  (sx xs Ln (i + (2 : Int32))).bind fun v6 =>
  bn2 (f12_type M v5 v6) fun r7 M8 =>
  if r3 = r7 then some (S4, M8) else none
set_option maxHeartbeats 4000000 in
set_option maxRecDepth 100000 in
theorem lc_25_ok {E : CxT} {l : Launch} {D : va_G} {y : CyT} {h : Nat} {q : Nat → Nat} {b Ln x : Nat} {xs : Nat → Int32} {X : Nat × Nat} (hc : Cx E "FarEditorsLaw" cL_law 4) (hz : Cy E l D y 13 478 X.1 X.2) (hX : X.2 ≤ 100000000) (hXs : va_X b Ln xs (xS E) (xS E).heap) (hbl : b < (xS E).heap.size) (hbA : ¬ xF E b) {i : Int32} {S S' : CS} {M M' : MS} (hf : lc_25 X xs Ln x i S M = some (S', M')) (hk : V E (cZ S') (cU S') (cw y S' ++ mw h q y M') 1390 [(0, .ref b), (1, .ref x), (2, .ref h), (3, .int i)] []) : V E (cZ S) (cU S) (cw y S ++ mw h q y M) 1005 [(0, .ref b), (1, .ref x), (2, .ref h), (3, .int i)] [] := by
  have hT := hz.2.2.1
  unfold lc_25 at hf
  refine V_aload_n hc dL_law_1005 rfl 1 rfl ?_
  refine V_aload_n hc dL_law_1006 rfl 0 rfl ?_
  refine V_iload_n hc dL_law_1007 rfl 3 rfl ?_
  refine V_iconst hc (v := (1 : Int32)) dL_law_1008 rfl ?_
  refine V_iadd hc dL_law_1009 ?_
  obtain ⟨v1, hv1, hf⟩ := mb hf
  refine V_sld hc hXs hbl hbA hv1 dL_law_1010 ?_
  refine V_aload_n hc dL_law_1011 rfl 0 rfl ?_
  refine V_iload_n hc dL_law_1012 rfl 3 rfl ?_
  refine V_iconst hc (v := (2 : Int32)) dL_law_1013 rfl ?_
  refine V_iadd hc dL_law_1014 ?_
  obtain ⟨v2, hv2, hf⟩ := mb hf
  refine V_sld hc hXs hbl hbA hv2 dL_law_1015 ?_
  obtain ⟨r3, S4, hr3, hf⟩ := mb2 hf
  obtain ⟨hkr3, hr3⟩ := og hr3
  refine L_callC hc hz (As := [.int v1, .int v2]) hkr3 (c11_type l D y X hX hr3) w5_206 w5_207 w5_208 w1_1 w5_209 hdX_X11_type ⟨(Nat.le_of_ble_eq_true rfl), (Nat.le_of_ble_eq_true rfl)⟩ rfl rfl (Nat.le_of_ble_eq_true rfl) dL_law_1016 ?_
  refine V_aload_n hc dL_law_1019 rfl 2 rfl ?_
  refine V_aload_n hc dL_law_1020 rfl 0 rfl ?_
  refine V_iload_n hc dL_law_1021 rfl 3 rfl ?_
  refine V_iconst hc (v := (1 : Int32)) dL_law_1022 rfl ?_
  refine V_iadd hc dL_law_1023 ?_
  obtain ⟨v5, hv5, hf⟩ := mb hf
  refine V_sld hc hXs hbl hbA hv5 dL_law_1024 ?_
  refine V_aload_n hc dL_law_1025 rfl 0 rfl ?_
  refine V_iload_n hc dL_law_1026 rfl 3 rfl ?_
  refine V_iconst hc (v := (2 : Int32)) dL_law_1027 rfl ?_
  refine V_iadd hc dL_law_1028 ?_
  obtain ⟨v6, hv6, hf⟩ := mb hf
  refine V_sld hc hXs hbl hbA hv6 dL_law_1029 ?_
  obtain ⟨r7, M8, hr7, hf⟩ := mb2 hf
  refine L_callM hc hz (As := [.int v5, .int v6]) (c12_type l D h q y _ _ _ _ hr7) w9_11 w9_12 w9_13 w1_13 w9_14 hd12_type ⟨(Nat.le_of_ble_eq_true rfl), (Nat.le_of_ble_eq_true rfl)⟩ rfl rfl (Nat.le_of_ble_eq_true rfl) dL_law_1030 ?_
  have he : r3 = r7 := by
    by_cases hh : r3 = r7
    · exact hh
    · rw [if_neg hh] at hf; cases hf
  rw [if_pos he] at hf
  obtain ⟨rfl, rfl⟩ := si2 hf
  refine V_icmp_eq hc dL_law_1033 rfl (fun _ => ?_) (fun hh => absurd he hh)
  exact hk
noncomputable def lc_26 (X : Nat × Nat) (xs : Nat → Int32) (Ln x : Nat) (i : Int32) (S : CS) (M : MS) : Option (CS × MS) :=
  (sx xs Ln (i + (1 : Int32))).bind fun v1 =>
  (sx xs Ln (i + (2 : Int32))).bind fun v2 =>
  bn2 (cal S 11 x (f11_cursor X S x v1 v2)) fun r3 S4 =>
  (sx xs Ln (i + (1 : Int32))).bind fun v5 =>
  (sx xs Ln (i + (2 : Int32))).bind fun v6 =>
  bn2 (f12_cursor M v5 v6) fun r7 M8 =>
  if r3 = r7 then some (S4, M8) else none
set_option maxHeartbeats 4000000 in
set_option maxRecDepth 100000 in
theorem lc_26_ok {E : CxT} {l : Launch} {D : va_G} {y : CyT} {h : Nat} {q : Nat → Nat} {b Ln x : Nat} {xs : Nat → Int32} {X : Nat × Nat} (hc : Cx E "FarEditorsLaw" cL_law 4) (hz : Cy E l D y 13 478 X.1 X.2) (hX : X.2 ≤ 100000000) (hXs : va_X b Ln xs (xS E) (xS E).heap) (hbl : b < (xS E).heap.size) (hbA : ¬ xF E b) {i : Int32} {S S' : CS} {M M' : MS} (hf : lc_26 X xs Ln x i S M = some (S', M')) (hk : V E (cZ S') (cU S') (cw y S' ++ mw h q y M') 1390 [(0, .ref b), (1, .ref x), (2, .ref h), (3, .int i)] []) : V E (cZ S) (cU S) (cw y S ++ mw h q y M) 1038 [(0, .ref b), (1, .ref x), (2, .ref h), (3, .int i)] [] := by
  have hT := hz.2.2.1
  unfold lc_26 at hf
  refine V_aload_n hc dL_law_1038 rfl 1 rfl ?_
  refine V_aload_n hc dL_law_1039 rfl 0 rfl ?_
  refine V_iload_n hc dL_law_1040 rfl 3 rfl ?_
  refine V_iconst hc (v := (1 : Int32)) dL_law_1041 rfl ?_
  refine V_iadd hc dL_law_1042 ?_
  obtain ⟨v1, hv1, hf⟩ := mb hf
  refine V_sld hc hXs hbl hbA hv1 dL_law_1043 ?_
  refine V_aload_n hc dL_law_1044 rfl 0 rfl ?_
  refine V_iload_n hc dL_law_1045 rfl 3 rfl ?_
  refine V_iconst hc (v := (2 : Int32)) dL_law_1046 rfl ?_
  refine V_iadd hc dL_law_1047 ?_
  obtain ⟨v2, hv2, hf⟩ := mb hf
  refine V_sld hc hXs hbl hbA hv2 dL_law_1048 ?_
  obtain ⟨r3, S4, hr3, hf⟩ := mb2 hf
  obtain ⟨hkr3, hr3⟩ := og hr3
  refine L_callC hc hz (As := [.int v1, .int v2]) hkr3 (c11_cursor l D y X hX hr3) w5_210 w5_211 w5_212 w1_1 w5_213 hdX_X11_cursor ⟨(Nat.le_of_ble_eq_true rfl), (Nat.le_of_ble_eq_true rfl)⟩ rfl rfl (Nat.le_of_ble_eq_true rfl) dL_law_1049 ?_
  refine V_aload_n hc dL_law_1052 rfl 2 rfl ?_
  refine V_aload_n hc dL_law_1053 rfl 0 rfl ?_
  refine V_iload_n hc dL_law_1054 rfl 3 rfl ?_
  refine V_iconst hc (v := (1 : Int32)) dL_law_1055 rfl ?_
  refine V_iadd hc dL_law_1056 ?_
  obtain ⟨v5, hv5, hf⟩ := mb hf
  refine V_sld hc hXs hbl hbA hv5 dL_law_1057 ?_
  refine V_aload_n hc dL_law_1058 rfl 0 rfl ?_
  refine V_iload_n hc dL_law_1059 rfl 3 rfl ?_
  refine V_iconst hc (v := (2 : Int32)) dL_law_1060 rfl ?_
  refine V_iadd hc dL_law_1061 ?_
  obtain ⟨v6, hv6, hf⟩ := mb hf
  refine V_sld hc hXs hbl hbA hv6 dL_law_1062 ?_
  obtain ⟨r7, M8, hr7, hf⟩ := mb2 hf
  refine L_callM hc hz (As := [.int v5, .int v6]) (c12_cursor l D h q y _ _ _ _ hr7) w9_15 w9_16 w9_17 w1_13 w9_18 hd12_cursor ⟨(Nat.le_of_ble_eq_true rfl), (Nat.le_of_ble_eq_true rfl)⟩ rfl rfl (Nat.le_of_ble_eq_true rfl) dL_law_1063 ?_
  have he : r3 = r7 := by
    by_cases hh : r3 = r7
    · exact hh
    · rw [if_neg hh] at hf; cases hf
  rw [if_pos he] at hf
  obtain ⟨rfl, rfl⟩ := si2 hf
  refine V_icmp_eq hc dL_law_1066 rfl (fun _ => ?_) (fun hh => absurd he hh)
  exact hk
noncomputable def lc_27 (X : Nat × Nat) (xs : Nat → Int32) (Ln x : Nat) (i : Int32) (S : CS) (M : MS) : Option (CS × MS) :=
  (sx xs Ln (i + (1 : Int32))).bind fun v1 =>
  (sx xs Ln (i + (2 : Int32))).bind fun v2 =>
  (sx xs Ln (i + (3 : Int32))).bind fun v3 =>
  (sx xs Ln (i + (4 : Int32))).bind fun v4 =>
  bn2 (cal S 11 x (f11_marks X S x v1 v2 v3 v4)) fun r5 S6 =>
  (sx xs Ln (i + (1 : Int32))).bind fun v7 =>
  (sx xs Ln (i + (2 : Int32))).bind fun v8 =>
  (sx xs Ln (i + (3 : Int32))).bind fun v9 =>
  (sx xs Ln (i + (4 : Int32))).bind fun v10 =>
  bn2 (f12_marks M v7 v8 v9 v10) fun r11 M12 =>
  if r5 = r11 then some (S6, M12) else none
set_option maxHeartbeats 4000000 in
set_option maxRecDepth 100000 in
theorem lc_27_ok {E : CxT} {l : Launch} {D : va_G} {y : CyT} {h : Nat} {q : Nat → Nat} {b Ln x : Nat} {xs : Nat → Int32} {X : Nat × Nat} (hc : Cx E "FarEditorsLaw" cL_law 4) (hz : Cy E l D y 13 478 X.1 X.2) (hX : X.2 ≤ 100000000) (hXs : va_X b Ln xs (xS E) (xS E).heap) (hbl : b < (xS E).heap.size) (hbA : ¬ xF E b) {i : Int32} {S S' : CS} {M M' : MS} (hf : lc_27 X xs Ln x i S M = some (S', M')) (hk : V E (cZ S') (cU S') (cw y S' ++ mw h q y M') 1390 [(0, .ref b), (1, .ref x), (2, .ref h), (3, .int i)] []) : V E (cZ S) (cU S) (cw y S ++ mw h q y M) 1071 [(0, .ref b), (1, .ref x), (2, .ref h), (3, .int i)] [] := by
  have hT := hz.2.2.1
  unfold lc_27 at hf
  refine V_aload_n hc dL_law_1071 rfl 1 rfl ?_
  refine V_aload_n hc dL_law_1072 rfl 0 rfl ?_
  refine V_iload_n hc dL_law_1073 rfl 3 rfl ?_
  refine V_iconst hc (v := (1 : Int32)) dL_law_1074 rfl ?_
  refine V_iadd hc dL_law_1075 ?_
  obtain ⟨v1, hv1, hf⟩ := mb hf
  refine V_sld hc hXs hbl hbA hv1 dL_law_1076 ?_
  refine V_aload_n hc dL_law_1077 rfl 0 rfl ?_
  refine V_iload_n hc dL_law_1078 rfl 3 rfl ?_
  refine V_iconst hc (v := (2 : Int32)) dL_law_1079 rfl ?_
  refine V_iadd hc dL_law_1080 ?_
  obtain ⟨v2, hv2, hf⟩ := mb hf
  refine V_sld hc hXs hbl hbA hv2 dL_law_1081 ?_
  refine V_aload_n hc dL_law_1082 rfl 0 rfl ?_
  refine V_iload_n hc dL_law_1083 rfl 3 rfl ?_
  refine V_iconst hc (v := (3 : Int32)) dL_law_1084 rfl ?_
  refine V_iadd hc dL_law_1085 ?_
  obtain ⟨v3, hv3, hf⟩ := mb hf
  refine V_sld hc hXs hbl hbA hv3 dL_law_1086 ?_
  refine V_aload_n hc dL_law_1087 rfl 0 rfl ?_
  refine V_iload_n hc dL_law_1088 rfl 3 rfl ?_
  refine V_iconst hc (v := (4 : Int32)) dL_law_1089 rfl ?_
  refine V_iadd hc dL_law_1090 ?_
  obtain ⟨v4, hv4, hf⟩ := mb hf
  refine V_sld hc hXs hbl hbA hv4 dL_law_1091 ?_
  obtain ⟨r5, S6, hr5, hf⟩ := mb2 hf
  obtain ⟨hkr5, hr5⟩ := og hr5
  refine L_callC hc hz (As := [.int v1, .int v2, .int v3, .int v4]) hkr5 (c11_marks l D y X hX hr5) w5_214 w5_215 w5_216 w1_1 w5_217 hdX_X11_marks ⟨(Nat.le_of_ble_eq_true rfl), (Nat.le_of_ble_eq_true rfl)⟩ rfl rfl (Nat.le_of_ble_eq_true rfl) dL_law_1092 ?_
  refine V_aload_n hc dL_law_1095 rfl 2 rfl ?_
  refine V_aload_n hc dL_law_1096 rfl 0 rfl ?_
  refine V_iload_n hc dL_law_1097 rfl 3 rfl ?_
  refine V_iconst hc (v := (1 : Int32)) dL_law_1098 rfl ?_
  refine V_iadd hc dL_law_1099 ?_
  obtain ⟨v7, hv7, hf⟩ := mb hf
  refine V_sld hc hXs hbl hbA hv7 dL_law_1100 ?_
  refine V_aload_n hc dL_law_1101 rfl 0 rfl ?_
  refine V_iload_n hc dL_law_1102 rfl 3 rfl ?_
  refine V_iconst hc (v := (2 : Int32)) dL_law_1103 rfl ?_
  refine V_iadd hc dL_law_1104 ?_
  obtain ⟨v8, hv8, hf⟩ := mb hf
  refine V_sld hc hXs hbl hbA hv8 dL_law_1105 ?_
  refine V_aload_n hc dL_law_1106 rfl 0 rfl ?_
  refine V_iload_n hc dL_law_1107 rfl 3 rfl ?_
  refine V_iconst hc (v := (3 : Int32)) dL_law_1108 rfl ?_
  refine V_iadd hc dL_law_1109 ?_
  obtain ⟨v9, hv9, hf⟩ := mb hf
  refine V_sld hc hXs hbl hbA hv9 dL_law_1110 ?_
  refine V_aload_n hc dL_law_1111 rfl 0 rfl ?_
  refine V_iload_n hc dL_law_1112 rfl 3 rfl ?_
  refine V_iconst hc (v := (4 : Int32)) dL_law_1113 rfl ?_
  refine V_iadd hc dL_law_1114 ?_
  obtain ⟨v10, hv10, hf⟩ := mb hf
  refine V_sld hc hXs hbl hbA hv10 dL_law_1115 ?_
  obtain ⟨r11, M12, hr11, hf⟩ := mb2 hf
  refine L_callM hc hz (As := [.int v7, .int v8, .int v9, .int v10]) (c12_marks l D h q y _ _ _ _ hr11) w9_19 w9_20 w9_21 w1_13 w9_22 hd12_marks ⟨(Nat.le_of_ble_eq_true rfl), (Nat.le_of_ble_eq_true rfl)⟩ rfl rfl (Nat.le_of_ble_eq_true rfl) dL_law_1116 ?_
  have he : r5 = r11 := by
    by_cases hh : r5 = r11
    · exact hh
    · rw [if_neg hh] at hf; cases hf
  rw [if_pos he] at hf
  obtain ⟨rfl, rfl⟩ := si2 hf
  refine V_icmp_eq hc dL_law_1119 rfl (fun _ => ?_) (fun hh => absurd he hh)
  exact hk
noncomputable def lc_28 (X : Nat × Nat) (xs : Nat → Int32) (Ln x : Nat) (i : Int32) (S : CS) (M : MS) : Option (CS × MS) :=
  (sx xs Ln (i + (1 : Int32))).bind fun v1 =>
  (sx xs Ln (i + (2 : Int32))).bind fun v2 =>
  bn2 (cal S 11 x (f11_clears X S x v1 v2)) fun r3 S4 =>
  (sx xs Ln (i + (1 : Int32))).bind fun v5 =>
  (sx xs Ln (i + (2 : Int32))).bind fun v6 =>
  bn2 (f12_clears M v5 v6) fun r7 M8 =>
  if r3 = r7 then some (S4, M8) else none
set_option maxHeartbeats 4000000 in
set_option maxRecDepth 100000 in
theorem lc_28_ok {E : CxT} {l : Launch} {D : va_G} {y : CyT} {h : Nat} {q : Nat → Nat} {b Ln x : Nat} {xs : Nat → Int32} {X : Nat × Nat} (hc : Cx E "FarEditorsLaw" cL_law 4) (hz : Cy E l D y 13 478 X.1 X.2) (hX : X.2 ≤ 100000000) (hXs : va_X b Ln xs (xS E) (xS E).heap) (hbl : b < (xS E).heap.size) (hbA : ¬ xF E b) {i : Int32} {S S' : CS} {M M' : MS} (hf : lc_28 X xs Ln x i S M = some (S', M')) (hk : V E (cZ S') (cU S') (cw y S' ++ mw h q y M') 1390 [(0, .ref b), (1, .ref x), (2, .ref h), (3, .int i)] []) : V E (cZ S) (cU S) (cw y S ++ mw h q y M) 1124 [(0, .ref b), (1, .ref x), (2, .ref h), (3, .int i)] [] := by
  have hT := hz.2.2.1
  unfold lc_28 at hf
  refine V_aload_n hc dL_law_1124 rfl 1 rfl ?_
  refine V_aload_n hc dL_law_1125 rfl 0 rfl ?_
  refine V_iload_n hc dL_law_1126 rfl 3 rfl ?_
  refine V_iconst hc (v := (1 : Int32)) dL_law_1127 rfl ?_
  refine V_iadd hc dL_law_1128 ?_
  obtain ⟨v1, hv1, hf⟩ := mb hf
  refine V_sld hc hXs hbl hbA hv1 dL_law_1129 ?_
  refine V_aload_n hc dL_law_1130 rfl 0 rfl ?_
  refine V_iload_n hc dL_law_1131 rfl 3 rfl ?_
  refine V_iconst hc (v := (2 : Int32)) dL_law_1132 rfl ?_
  refine V_iadd hc dL_law_1133 ?_
  obtain ⟨v2, hv2, hf⟩ := mb hf
  refine V_sld hc hXs hbl hbA hv2 dL_law_1134 ?_
  obtain ⟨r3, S4, hr3, hf⟩ := mb2 hf
  obtain ⟨hkr3, hr3⟩ := og hr3
  refine L_callC hc hz (As := [.int v1, .int v2]) hkr3 (c11_clears l D y X hX hr3) w5_218 w5_219 w5_220 w1_1 w5_221 hdX_X11_clears ⟨(Nat.le_of_ble_eq_true rfl), (Nat.le_of_ble_eq_true rfl)⟩ rfl rfl (Nat.le_of_ble_eq_true rfl) dL_law_1135 ?_
  refine V_aload_n hc dL_law_1138 rfl 2 rfl ?_
  refine V_aload_n hc dL_law_1139 rfl 0 rfl ?_
  refine V_iload_n hc dL_law_1140 rfl 3 rfl ?_
  refine V_iconst hc (v := (1 : Int32)) dL_law_1141 rfl ?_
  refine V_iadd hc dL_law_1142 ?_
  obtain ⟨v5, hv5, hf⟩ := mb hf
  refine V_sld hc hXs hbl hbA hv5 dL_law_1143 ?_
  refine V_aload_n hc dL_law_1144 rfl 0 rfl ?_
  refine V_iload_n hc dL_law_1145 rfl 3 rfl ?_
  refine V_iconst hc (v := (2 : Int32)) dL_law_1146 rfl ?_
  refine V_iadd hc dL_law_1147 ?_
  obtain ⟨v6, hv6, hf⟩ := mb hf
  refine V_sld hc hXs hbl hbA hv6 dL_law_1148 ?_
  obtain ⟨r7, M8, hr7, hf⟩ := mb2 hf
  refine L_callM hc hz (As := [.int v5, .int v6]) (c12_clears l D h q y _ _ _ _ hr7) w9_24 w9_25 w9_26 w1_13 w9_27 hd12_clears ⟨(Nat.le_of_ble_eq_true rfl), (Nat.le_of_ble_eq_true rfl)⟩ rfl rfl (Nat.le_of_ble_eq_true rfl) dL_law_1149 ?_
  have he : r3 = r7 := by
    by_cases hh : r3 = r7
    · exact hh
    · rw [if_neg hh] at hf; cases hf
  rw [if_pos he] at hf
  obtain ⟨rfl, rfl⟩ := si2 hf
  refine V_icmp_eq hc dL_law_1152 rfl (fun _ => ?_) (fun hh => absurd he hh)
  exact hk
noncomputable def lc_29 (X : Nat × Nat) (xs : Nat → Int32) (Ln x : Nat) (i : Int32) (S : CS) (M : MS) : Option (CS × MS) :=
  (sx xs Ln (i + (1 : Int32))).bind fun v1 =>
  bn2 (cal S 11 x (f11_undo X S x v1)) fun r2 S3 =>
  (sx xs Ln (i + (1 : Int32))).bind fun v4 =>
  bn2 (f12_undo M v4) fun r5 M6 =>
  if r2 = r5 then some (S3, M6) else none
set_option maxHeartbeats 4000000 in
set_option maxRecDepth 100000 in
theorem lc_29_ok {E : CxT} {l : Launch} {D : va_G} {y : CyT} {h : Nat} {q : Nat → Nat} {b Ln x : Nat} {xs : Nat → Int32} {X : Nat × Nat} (hc : Cx E "FarEditorsLaw" cL_law 4) (hz : Cy E l D y 13 478 X.1 X.2) (hX : X.2 ≤ 100000000) (hXs : va_X b Ln xs (xS E) (xS E).heap) (hbl : b < (xS E).heap.size) (hbA : ¬ xF E b) {i : Int32} {S S' : CS} {M M' : MS} (hf : lc_29 X xs Ln x i S M = some (S', M')) (hk : V E (cZ S') (cU S') (cw y S' ++ mw h q y M') 1390 [(0, .ref b), (1, .ref x), (2, .ref h), (3, .int i)] []) : V E (cZ S) (cU S) (cw y S ++ mw h q y M) 1157 [(0, .ref b), (1, .ref x), (2, .ref h), (3, .int i)] [] := by
  have hT := hz.2.2.1
  unfold lc_29 at hf
  refine V_aload_n hc dL_law_1157 rfl 1 rfl ?_
  refine V_aload_n hc dL_law_1158 rfl 0 rfl ?_
  refine V_iload_n hc dL_law_1159 rfl 3 rfl ?_
  refine V_iconst hc (v := (1 : Int32)) dL_law_1160 rfl ?_
  refine V_iadd hc dL_law_1161 ?_
  obtain ⟨v1, hv1, hf⟩ := mb hf
  refine V_sld hc hXs hbl hbA hv1 dL_law_1162 ?_
  obtain ⟨r2, S3, hr2, hf⟩ := mb2 hf
  obtain ⟨hkr2, hr2⟩ := og hr2
  refine L_callC hc hz (As := [.int v1]) hkr2 (c11_undo l D y X hX hr2) w5_226 w5_227 w5_228 w1_1 w5_229 hdX_X11_undo ⟨(Nat.le_of_ble_eq_true rfl), (Nat.le_of_ble_eq_true rfl)⟩ rfl rfl (Nat.le_of_ble_eq_true rfl) dL_law_1163 ?_
  refine V_aload_n hc dL_law_1166 rfl 2 rfl ?_
  refine V_aload_n hc dL_law_1167 rfl 0 rfl ?_
  refine V_iload_n hc dL_law_1168 rfl 3 rfl ?_
  refine V_iconst hc (v := (1 : Int32)) dL_law_1169 rfl ?_
  refine V_iadd hc dL_law_1170 ?_
  obtain ⟨v4, hv4, hf⟩ := mb hf
  refine V_sld hc hXs hbl hbA hv4 dL_law_1171 ?_
  obtain ⟨r5, M6, hr5, hf⟩ := mb2 hf
  refine L_callM hc hz (As := [.int v4]) (c12_undo l D h q y _ _ _ _ hr5) w9_28 w9_29 w9_30 w1_13 w9_31 hd12_undo ⟨(Nat.le_of_ble_eq_true rfl), (Nat.le_of_ble_eq_true rfl)⟩ rfl rfl (Nat.le_of_ble_eq_true rfl) dL_law_1172 ?_
  have he : r2 = r5 := by
    by_cases hh : r2 = r5
    · exact hh
    · rw [if_neg hh] at hf; cases hf
  rw [if_pos he] at hf
  obtain ⟨rfl, rfl⟩ := si2 hf
  refine V_icmp_eq hc dL_law_1175 rfl (fun _ => ?_) (fun hh => absurd he hh)
  exact hk
noncomputable def lc_30 (X : Nat × Nat) (xs : Nat → Int32) (Ln x : Nat) (i : Int32) (S : CS) (M : MS) : Option (CS × MS) :=
  (sx xs Ln (i + (1 : Int32))).bind fun v1 =>
  bn2 (cal S 11 x (f11_redo X S x v1)) fun r2 S3 =>
  (sx xs Ln (i + (1 : Int32))).bind fun v4 =>
  bn2 (f12_redo M v4) fun r5 M6 =>
  if r2 = r5 then some (S3, M6) else none
set_option maxHeartbeats 4000000 in
set_option maxRecDepth 100000 in
theorem lc_30_ok {E : CxT} {l : Launch} {D : va_G} {y : CyT} {h : Nat} {q : Nat → Nat} {b Ln x : Nat} {xs : Nat → Int32} {X : Nat × Nat} (hc : Cx E "FarEditorsLaw" cL_law 4) (hz : Cy E l D y 13 478 X.1 X.2) (hX : X.2 ≤ 100000000) (hXs : va_X b Ln xs (xS E) (xS E).heap) (hbl : b < (xS E).heap.size) (hbA : ¬ xF E b) {i : Int32} {S S' : CS} {M M' : MS} (hf : lc_30 X xs Ln x i S M = some (S', M')) (hk : V E (cZ S') (cU S') (cw y S' ++ mw h q y M') 1390 [(0, .ref b), (1, .ref x), (2, .ref h), (3, .int i)] []) : V E (cZ S) (cU S) (cw y S ++ mw h q y M) 1180 [(0, .ref b), (1, .ref x), (2, .ref h), (3, .int i)] [] := by
  have hT := hz.2.2.1
  unfold lc_30 at hf
  refine V_aload_n hc dL_law_1180 rfl 1 rfl ?_
  refine V_aload_n hc dL_law_1181 rfl 0 rfl ?_
  refine V_iload_n hc dL_law_1182 rfl 3 rfl ?_
  refine V_iconst hc (v := (1 : Int32)) dL_law_1183 rfl ?_
  refine V_iadd hc dL_law_1184 ?_
  obtain ⟨v1, hv1, hf⟩ := mb hf
  refine V_sld hc hXs hbl hbA hv1 dL_law_1185 ?_
  obtain ⟨r2, S3, hr2, hf⟩ := mb2 hf
  obtain ⟨hkr2, hr2⟩ := og hr2
  refine L_callC hc hz (As := [.int v1]) hkr2 (c11_redo l D y X hX hr2) w6_3 w6_4 w6_5 w1_1 w6_6 hdX_X11_redo ⟨(Nat.le_of_ble_eq_true rfl), (Nat.le_of_ble_eq_true rfl)⟩ rfl rfl (Nat.le_of_ble_eq_true rfl) dL_law_1186 ?_
  refine V_aload_n hc dL_law_1189 rfl 2 rfl ?_
  refine V_aload_n hc dL_law_1190 rfl 0 rfl ?_
  refine V_iload_n hc dL_law_1191 rfl 3 rfl ?_
  refine V_iconst hc (v := (1 : Int32)) dL_law_1192 rfl ?_
  refine V_iadd hc dL_law_1193 ?_
  obtain ⟨v4, hv4, hf⟩ := mb hf
  refine V_sld hc hXs hbl hbA hv4 dL_law_1194 ?_
  obtain ⟨r5, M6, hr5, hf⟩ := mb2 hf
  refine L_callM hc hz (As := [.int v4]) (c12_redo l D h q y _ _ _ _ hr5) w9_40 w9_41 w9_42 w1_13 w9_43 hd12_redo ⟨(Nat.le_of_ble_eq_true rfl), (Nat.le_of_ble_eq_true rfl)⟩ rfl rfl (Nat.le_of_ble_eq_true rfl) dL_law_1195 ?_
  have he : r2 = r5 := by
    by_cases hh : r2 = r5
    · exact hh
    · rw [if_neg hh] at hf; cases hf
  rw [if_pos he] at hf
  obtain ⟨rfl, rfl⟩ := si2 hf
  refine V_icmp_eq hc dL_law_1198 rfl (fun _ => ?_) (fun hh => absurd he hh)
  exact hk
noncomputable def lc_31 (X : Nat × Nat) (xs : Nat → Int32) (Ln x : Nat) (i : Int32) (S : CS) (M : MS) : Option (CS × MS) :=
  (sx xs Ln (i + (1 : Int32))).bind fun v1 =>
  (sx xs Ln (i + (2 : Int32))).bind fun v2 =>
  (if v2 = 0 then some (0 : Int32) else some (1 : Int32)).bind fun w3 =>
  bn2 (cal S 11 x (f11_line X S x v1 w3)) fun r4 S5 =>
  (sx xs Ln (i + (1 : Int32))).bind fun v6 =>
  (sx xs Ln (i + (2 : Int32))).bind fun v7 =>
  (if v7 = 0 then some (0 : Int32) else some (1 : Int32)).bind fun w8 =>
  bn2 (f12_line M v6 w8) fun r9 M10 =>
  if r4 = r9 then some (S5, M10) else none
set_option maxHeartbeats 4000000 in
set_option maxRecDepth 100000 in
theorem lc_31_ok {E : CxT} {l : Launch} {D : va_G} {y : CyT} {h : Nat} {q : Nat → Nat} {b Ln x : Nat} {xs : Nat → Int32} {X : Nat × Nat} (hc : Cx E "FarEditorsLaw" cL_law 4) (hz : Cy E l D y 13 478 X.1 X.2) (hX : X.2 ≤ 100000000) (hXs : va_X b Ln xs (xS E) (xS E).heap) (hbl : b < (xS E).heap.size) (hbA : ¬ xF E b) {i : Int32} {S S' : CS} {M M' : MS} (hf : lc_31 X xs Ln x i S M = some (S', M')) (hk : V E (cZ S') (cU S') (cw y S' ++ mw h q y M') 1390 [(0, .ref b), (1, .ref x), (2, .ref h), (3, .int i)] []) : V E (cZ S) (cU S) (cw y S ++ mw h q y M) 1203 [(0, .ref b), (1, .ref x), (2, .ref h), (3, .int i)] [] := by
  have hT := hz.2.2.1
  unfold lc_31 at hf
  refine V_aload_n hc dL_law_1203 rfl 1 rfl ?_
  refine V_aload_n hc dL_law_1204 rfl 0 rfl ?_
  refine V_iload_n hc dL_law_1205 rfl 3 rfl ?_
  refine V_iconst hc (v := (1 : Int32)) dL_law_1206 rfl ?_
  refine V_iadd hc dL_law_1207 ?_
  obtain ⟨v1, hv1, hf⟩ := mb hf
  refine V_sld hc hXs hbl hbA hv1 dL_law_1208 ?_
  refine V_aload_n hc dL_law_1209 rfl 0 rfl ?_
  refine V_iload_n hc dL_law_1210 rfl 3 rfl ?_
  refine V_iconst hc (v := (2 : Int32)) dL_law_1211 rfl ?_
  refine V_iadd hc dL_law_1212 ?_
  obtain ⟨v2, hv2, hf⟩ := mb hf
  refine V_sld hc hXs hbl hbA hv2 dL_law_1213 ?_
  obtain ⟨w3, hrw3, hf⟩ := mb hf
  have hJ1214 : V E (cZ S) (cU S) (cw y S ++ mw h q y M) 1222 [(0, .ref b), (1, .ref x), (2, .ref h), (3, .int i)] [.int w3, .int v1, .ref x] := by
    obtain ⟨r4, S5, hr4, hf⟩ := mb2 hf
    obtain ⟨hkr4, hr4⟩ := og hr4
    refine L_callC hc hz (As := [.int v1, .int w3]) hkr4 (c11_line l D y X hX hr4) w6_7 w6_8 w6_9 w1_1 w6_10 hdX_X11_line ⟨(Nat.le_of_ble_eq_true rfl), (Nat.le_of_ble_eq_true rfl)⟩ rfl rfl (Nat.le_of_ble_eq_true rfl) dL_law_1222 ?_
    refine V_aload_n hc dL_law_1225 rfl 2 rfl ?_
    refine V_aload_n hc dL_law_1226 rfl 0 rfl ?_
    refine V_iload_n hc dL_law_1227 rfl 3 rfl ?_
    refine V_iconst hc (v := (1 : Int32)) dL_law_1228 rfl ?_
    refine V_iadd hc dL_law_1229 ?_
    obtain ⟨v6, hv6, hf⟩ := mb hf
    refine V_sld hc hXs hbl hbA hv6 dL_law_1230 ?_
    refine V_aload_n hc dL_law_1231 rfl 0 rfl ?_
    refine V_iload_n hc dL_law_1232 rfl 3 rfl ?_
    refine V_iconst hc (v := (2 : Int32)) dL_law_1233 rfl ?_
    refine V_iadd hc dL_law_1234 ?_
    obtain ⟨v7, hv7, hf⟩ := mb hf
    refine V_sld hc hXs hbl hbA hv7 dL_law_1235 ?_
    obtain ⟨w8, hrw8, hf⟩ := mb hf
    have hJ1236 : V E (cZ S5) (cU S5) (cw y S5 ++ mw h q y M) 1244 [(0, .ref b), (1, .ref x), (2, .ref h), (3, .int i)] [.int w8, .int v6, .ref h, .int r4] := by
      obtain ⟨r9, M10, hr9, hf⟩ := mb2 hf
      refine L_callM hc hz (As := [.int v6, .int w8]) (c12_line l D h q y _ _ _ _ hr9) w9_44 w9_45 w9_46 w1_13 w9_47 hd12_line ⟨(Nat.le_of_ble_eq_true rfl), (Nat.le_of_ble_eq_true rfl)⟩ rfl rfl (Nat.le_of_ble_eq_true rfl) dL_law_1244 ?_
      have he : r4 = r9 := by
        by_cases hh : r4 = r9
        · exact hh
        · rw [if_neg hh] at hf; cases hf
      rw [if_pos he] at hf
      obtain ⟨rfl, rfl⟩ := si2 hf
      refine V_icmp_eq hc dL_law_1247 rfl (fun _ => ?_) (fun hh => absurd he hh)
      exact hk
    refine V_if_eq hc dL_law_1236 rfl (fun hq => ?_) (fun hq => ?_)
    · rw [if_pos hq] at hrw8
      obtain rfl := Option.some.inj hrw8
      refine V_iconst hc (v := (0 : Int32)) dL_law_1243 rfl ?_
      exact hJ1236
    · rw [if_neg hq] at hrw8
      obtain rfl := Option.some.inj hrw8
      refine V_iconst hc (v := (1 : Int32)) dL_law_1239 rfl ?_
      refine V_goto hc dL_law_1240 rfl ?_
      exact hJ1236
  refine V_if_eq hc dL_law_1214 rfl (fun hq => ?_) (fun hq => ?_)
  · rw [if_pos hq] at hrw3
    obtain rfl := Option.some.inj hrw3
    refine V_iconst hc (v := (0 : Int32)) dL_law_1221 rfl ?_
    exact hJ1214
  · rw [if_neg hq] at hrw3
    obtain rfl := Option.some.inj hrw3
    refine V_iconst hc (v := (1 : Int32)) dL_law_1217 rfl ?_
    refine V_goto hc dL_law_1218 rfl ?_
    exact hJ1214
noncomputable def lc_32 (X : Nat × Nat) (xs : Nat → Int32) (Ln x : Nat) (i : Int32) (S : CS) (M : MS) : Option (CS × MS) :=
  (sx xs Ln (i + (1 : Int32))).bind fun v1 =>
  (sx xs Ln (i + (2 : Int32))).bind fun v2 =>
  bn2 (cal S 11 x (f11_delay X S x v1 v2)) fun r3 S4 =>
  (sx xs Ln (i + (1 : Int32))).bind fun v5 =>
  (sx xs Ln (i + (2 : Int32))).bind fun v6 =>
  bn2 (f12_delay M v5 v6) fun r7 M8 =>
  if r3 = r7 then some (S4, M8) else none
set_option maxHeartbeats 4000000 in
set_option maxRecDepth 100000 in
theorem lc_32_ok {E : CxT} {l : Launch} {D : va_G} {y : CyT} {h : Nat} {q : Nat → Nat} {b Ln x : Nat} {xs : Nat → Int32} {X : Nat × Nat} (hc : Cx E "FarEditorsLaw" cL_law 4) (hz : Cy E l D y 13 478 X.1 X.2) (hX : X.2 ≤ 100000000) (hXs : va_X b Ln xs (xS E) (xS E).heap) (hbl : b < (xS E).heap.size) (hbA : ¬ xF E b) {i : Int32} {S S' : CS} {M M' : MS} (hf : lc_32 X xs Ln x i S M = some (S', M')) (hk : V E (cZ S') (cU S') (cw y S' ++ mw h q y M') 1390 [(0, .ref b), (1, .ref x), (2, .ref h), (3, .int i)] []) : V E (cZ S) (cU S) (cw y S ++ mw h q y M) 1252 [(0, .ref b), (1, .ref x), (2, .ref h), (3, .int i)] [] := by
  have hT := hz.2.2.1
  unfold lc_32 at hf
  refine V_aload_n hc dL_law_1252 rfl 1 rfl ?_
  refine V_aload_n hc dL_law_1253 rfl 0 rfl ?_
  refine V_iload_n hc dL_law_1254 rfl 3 rfl ?_
  refine V_iconst hc (v := (1 : Int32)) dL_law_1255 rfl ?_
  refine V_iadd hc dL_law_1256 ?_
  obtain ⟨v1, hv1, hf⟩ := mb hf
  refine V_sld hc hXs hbl hbA hv1 dL_law_1257 ?_
  refine V_aload_n hc dL_law_1258 rfl 0 rfl ?_
  refine V_iload_n hc dL_law_1259 rfl 3 rfl ?_
  refine V_iconst hc (v := (2 : Int32)) dL_law_1260 rfl ?_
  refine V_iadd hc dL_law_1261 ?_
  obtain ⟨v2, hv2, hf⟩ := mb hf
  refine V_sld hc hXs hbl hbA hv2 dL_law_1262 ?_
  obtain ⟨r3, S4, hr3, hf⟩ := mb2 hf
  obtain ⟨hkr3, hr3⟩ := og hr3
  refine L_callC hc hz (As := [.int v1, .int v2]) hkr3 (c11_delay l D y X hX hr3) w6_11 w6_12 w6_13 w1_1 w6_14 hdX_X11_delay ⟨(Nat.le_of_ble_eq_true rfl), (Nat.le_of_ble_eq_true rfl)⟩ rfl rfl (Nat.le_of_ble_eq_true rfl) dL_law_1263 ?_
  refine V_aload_n hc dL_law_1266 rfl 2 rfl ?_
  refine V_aload_n hc dL_law_1267 rfl 0 rfl ?_
  refine V_iload_n hc dL_law_1268 rfl 3 rfl ?_
  refine V_iconst hc (v := (1 : Int32)) dL_law_1269 rfl ?_
  refine V_iadd hc dL_law_1270 ?_
  obtain ⟨v5, hv5, hf⟩ := mb hf
  refine V_sld hc hXs hbl hbA hv5 dL_law_1271 ?_
  refine V_aload_n hc dL_law_1272 rfl 0 rfl ?_
  refine V_iload_n hc dL_law_1273 rfl 3 rfl ?_
  refine V_iconst hc (v := (2 : Int32)) dL_law_1274 rfl ?_
  refine V_iadd hc dL_law_1275 ?_
  obtain ⟨v6, hv6, hf⟩ := mb hf
  refine V_sld hc hXs hbl hbA hv6 dL_law_1276 ?_
  obtain ⟨r7, M8, hr7, hf⟩ := mb2 hf
  refine L_callM hc hz (As := [.int v5, .int v6]) (c12_delay l D h q y _ _ _ _ hr7) w9_48 w9_49 w9_50 w1_13 w9_51 hd12_delay ⟨(Nat.le_of_ble_eq_true rfl), (Nat.le_of_ble_eq_true rfl)⟩ rfl rfl (Nat.le_of_ble_eq_true rfl) dL_law_1277 ?_
  have he : r3 = r7 := by
    by_cases hh : r3 = r7
    · exact hh
    · rw [if_neg hh] at hf; cases hf
  rw [if_pos he] at hf
  obtain ⟨rfl, rfl⟩ := si2 hf
  refine V_icmp_eq hc dL_law_1280 rfl (fun _ => ?_) (fun hh => absurd he hh)
  exact hk
noncomputable def lc_33 (X : Nat × Nat) (xs : Nat → Int32) (Ln x : Nat) (i : Int32) (S : CS) (M : MS) : Option (CS × MS) :=
  (sx xs Ln (i + (1 : Int32))).bind fun v1 =>
  bn2 (cal S 11 x (f11_ticks X S x v1)) fun r2 S3 =>
  (sx xs Ln (i + (1 : Int32))).bind fun v4 =>
  bn2 (f12_ticks M v4) fun r5 M6 =>
  if r2 = r5 then some (S3, M6) else none
set_option maxHeartbeats 4000000 in
set_option maxRecDepth 100000 in
theorem lc_33_ok {E : CxT} {l : Launch} {D : va_G} {y : CyT} {h : Nat} {q : Nat → Nat} {b Ln x : Nat} {xs : Nat → Int32} {X : Nat × Nat} (hc : Cx E "FarEditorsLaw" cL_law 4) (hz : Cy E l D y 13 478 X.1 X.2) (hX : X.2 ≤ 100000000) (hXs : va_X b Ln xs (xS E) (xS E).heap) (hbl : b < (xS E).heap.size) (hbA : ¬ xF E b) {i : Int32} {S S' : CS} {M M' : MS} (hf : lc_33 X xs Ln x i S M = some (S', M')) (hk : V E (cZ S') (cU S') (cw y S' ++ mw h q y M') 1390 [(0, .ref b), (1, .ref x), (2, .ref h), (3, .int i)] []) : V E (cZ S) (cU S) (cw y S ++ mw h q y M) 1285 [(0, .ref b), (1, .ref x), (2, .ref h), (3, .int i)] [] := by
  have hT := hz.2.2.1
  unfold lc_33 at hf
  refine V_aload_n hc dL_law_1285 rfl 1 rfl ?_
  refine V_aload_n hc dL_law_1286 rfl 0 rfl ?_
  refine V_iload_n hc dL_law_1287 rfl 3 rfl ?_
  refine V_iconst hc (v := (1 : Int32)) dL_law_1288 rfl ?_
  refine V_iadd hc dL_law_1289 ?_
  obtain ⟨v1, hv1, hf⟩ := mb hf
  refine V_sld hc hXs hbl hbA hv1 dL_law_1290 ?_
  obtain ⟨r2, S3, hr2, hf⟩ := mb2 hf
  obtain ⟨hkr2, hr2⟩ := og hr2
  refine L_callC hc hz (As := [.int v1]) hkr2 (c11_ticks l D y X hX hr2) w6_15 w6_16 w6_17 w1_1 w6_18 hdX_X11_ticks ⟨(Nat.le_of_ble_eq_true rfl), (Nat.le_of_ble_eq_true rfl)⟩ rfl rfl (Nat.le_of_ble_eq_true rfl) dL_law_1291 ?_
  refine V_aload_n hc dL_law_1294 rfl 2 rfl ?_
  refine V_aload_n hc dL_law_1295 rfl 0 rfl ?_
  refine V_iload_n hc dL_law_1296 rfl 3 rfl ?_
  refine V_iconst hc (v := (1 : Int32)) dL_law_1297 rfl ?_
  refine V_iadd hc dL_law_1298 ?_
  obtain ⟨v4, hv4, hf⟩ := mb hf
  refine V_sld hc hXs hbl hbA hv4 dL_law_1299 ?_
  obtain ⟨r5, M6, hr5, hf⟩ := mb2 hf
  refine L_callM hc hz (As := [.int v4]) (c12_ticks l D h q y _ _ _ _ hr5) w9_53 w9_54 w9_55 w1_13 w9_56 hd12_ticks ⟨(Nat.le_of_ble_eq_true rfl), (Nat.le_of_ble_eq_true rfl)⟩ rfl rfl (Nat.le_of_ble_eq_true rfl) dL_law_1300 ?_
  have he : r2 = r5 := by
    by_cases hh : r2 = r5
    · exact hh
    · rw [if_neg hh] at hf; cases hf
  rw [if_pos he] at hf
  obtain ⟨rfl, rfl⟩ := si2 hf
  refine V_icmp_eq hc dL_law_1303 rfl (fun _ => ?_) (fun hh => absurd he hh)
  exact hk
noncomputable def lc_34 (X : Nat × Nat) (xs : Nat → Int32) (Ln x : Nat) (i : Int32) (S : CS) (M : MS) : Option (CS × MS) :=
  (sx xs Ln (i + (1 : Int32))).bind fun v1 =>
  bn2 (cal S 11 x (f11_chance X S x v1)) fun r2 S3 =>
  (sx xs Ln (i + (1 : Int32))).bind fun v4 =>
  bn2 (f12_chance M v4) fun r5 M6 =>
  if r2 = r5 then some (S3, M6) else none
set_option maxHeartbeats 4000000 in
set_option maxRecDepth 100000 in
theorem lc_34_ok {E : CxT} {l : Launch} {D : va_G} {y : CyT} {h : Nat} {q : Nat → Nat} {b Ln x : Nat} {xs : Nat → Int32} {X : Nat × Nat} (hc : Cx E "FarEditorsLaw" cL_law 4) (hz : Cy E l D y 13 478 X.1 X.2) (hX : X.2 ≤ 100000000) (hXs : va_X b Ln xs (xS E) (xS E).heap) (hbl : b < (xS E).heap.size) (hbA : ¬ xF E b) {i : Int32} {S S' : CS} {M M' : MS} (hf : lc_34 X xs Ln x i S M = some (S', M')) (hk : V E (cZ S') (cU S') (cw y S' ++ mw h q y M') 1390 [(0, .ref b), (1, .ref x), (2, .ref h), (3, .int i)] []) : V E (cZ S) (cU S) (cw y S ++ mw h q y M) 1308 [(0, .ref b), (1, .ref x), (2, .ref h), (3, .int i)] [] := by
  have hT := hz.2.2.1
  unfold lc_34 at hf
  refine V_aload_n hc dL_law_1308 rfl 1 rfl ?_
  refine V_aload_n hc dL_law_1309 rfl 0 rfl ?_
  refine V_iload_n hc dL_law_1310 rfl 3 rfl ?_
  refine V_iconst hc (v := (1 : Int32)) dL_law_1311 rfl ?_
  refine V_iadd hc dL_law_1312 ?_
  obtain ⟨v1, hv1, hf⟩ := mb hf
  refine V_sld hc hXs hbl hbA hv1 dL_law_1313 ?_
  obtain ⟨r2, S3, hr2, hf⟩ := mb2 hf
  obtain ⟨hkr2, hr2⟩ := og hr2
  refine L_callC hc hz (As := [.int v1]) hkr2 (c11_chance l D y X hX hr2) w6_19 w6_20 w6_21 w1_1 w6_22 hdX_X11_chance ⟨(Nat.le_of_ble_eq_true rfl), (Nat.le_of_ble_eq_true rfl)⟩ rfl rfl (Nat.le_of_ble_eq_true rfl) dL_law_1314 ?_
  refine V_aload_n hc dL_law_1317 rfl 2 rfl ?_
  refine V_aload_n hc dL_law_1318 rfl 0 rfl ?_
  refine V_iload_n hc dL_law_1319 rfl 3 rfl ?_
  refine V_iconst hc (v := (1 : Int32)) dL_law_1320 rfl ?_
  refine V_iadd hc dL_law_1321 ?_
  obtain ⟨v4, hv4, hf⟩ := mb hf
  refine V_sld hc hXs hbl hbA hv4 dL_law_1322 ?_
  obtain ⟨r5, M6, hr5, hf⟩ := mb2 hf
  refine L_callM hc hz (As := [.int v4]) (c12_chance l D h q y _ _ _ _ hr5) w9_61 w9_62 w9_63 w1_13 w9_64 hd12_chance ⟨(Nat.le_of_ble_eq_true rfl), (Nat.le_of_ble_eq_true rfl)⟩ rfl rfl (Nat.le_of_ble_eq_true rfl) dL_law_1323 ?_
  have he : r2 = r5 := by
    by_cases hh : r2 = r5
    · exact hh
    · rw [if_neg hh] at hf; cases hf
  rw [if_pos he] at hf
  obtain ⟨rfl, rfl⟩ := si2 hf
  refine V_icmp_eq hc dL_law_1326 rfl (fun _ => ?_) (fun hh => absurd he hh)
  exact hk
noncomputable def lc_35 (X : Nat × Nat) (xs : Nat → Int32) (Ln x : Nat) (i : Int32) (S : CS) (M : MS) : Option (CS × MS) :=
  bn2 (cal S 11 x (f11_back X S x)) fun r1 S2 =>
  bn2 (f12_back M) fun r3 M4 =>
  if r1 = r3 then some (S2, M4) else none
set_option maxHeartbeats 4000000 in
set_option maxRecDepth 100000 in
theorem lc_35_ok {E : CxT} {l : Launch} {D : va_G} {y : CyT} {h : Nat} {q : Nat → Nat} {b Ln x : Nat} {xs : Nat → Int32} {X : Nat × Nat} (hc : Cx E "FarEditorsLaw" cL_law 4) (hz : Cy E l D y 13 478 X.1 X.2) (hX : X.2 ≤ 100000000) (hXs : va_X b Ln xs (xS E) (xS E).heap) (hbl : b < (xS E).heap.size) (hbA : ¬ xF E b) {i : Int32} {S S' : CS} {M M' : MS} (hf : lc_35 X xs Ln x i S M = some (S', M')) (hk : V E (cZ S') (cU S') (cw y S' ++ mw h q y M') 1390 [(0, .ref b), (1, .ref x), (2, .ref h), (3, .int i)] []) : V E (cZ S) (cU S) (cw y S ++ mw h q y M) 1331 [(0, .ref b), (1, .ref x), (2, .ref h), (3, .int i)] [] := by
  have hT := hz.2.2.1
  unfold lc_35 at hf
  refine V_aload_n hc dL_law_1331 rfl 1 rfl ?_
  obtain ⟨r1, S2, hr1, hf⟩ := mb2 hf
  obtain ⟨hkr1, hr1⟩ := og hr1
  refine L_callC hc hz (As := []) hkr1 (c11_back l D y X hX hr1) w6_35 w6_36 w6_37 w1_1 w6_38 hdX_X11_back ⟨(Nat.le_of_ble_eq_true rfl), (Nat.le_of_ble_eq_true rfl)⟩ rfl rfl (Nat.le_of_ble_eq_true rfl) dL_law_1332 ?_
  refine V_aload_n hc dL_law_1335 rfl 2 rfl ?_
  obtain ⟨r3, M4, hr3, hf⟩ := mb2 hf
  refine L_callM hc hz (As := []) (c12_back l D h q y _ _ _ _ hr3) w8_222 w8_223 w8_224 w1_13 w8_225 hd12_back ⟨(Nat.le_of_ble_eq_true rfl), (Nat.le_of_ble_eq_true rfl)⟩ rfl rfl (Nat.le_of_ble_eq_true rfl) dL_law_1336 ?_
  have he : r1 = r3 := by
    by_cases hh : r1 = r3
    · exact hh
    · rw [if_neg hh] at hf; cases hf
  rw [if_pos he] at hf
  obtain ⟨rfl, rfl⟩ := si2 hf
  refine V_icmp_eq hc dL_law_1339 rfl (fun _ => ?_) (fun hh => absurd he hh)
  exact hk
noncomputable def lc_36 (X : Nat × Nat) (xs : Nat → Int32) (Ln x : Nat) (i : Int32) (S : CS) (M : MS) : Option (CS × MS) :=
  (sx xs Ln (i + (1 : Int32))).bind fun v1 =>
  bn2 (cal S 11 x (f11_seed S x v1)) fun r2 S3 =>
  (sx xs Ln (i + (1 : Int32))).bind fun v4 =>
  bn2 (f12_seed M v4) fun r5 M6 =>
  if r2 = r5 then some (S3, M6) else none
set_option maxHeartbeats 4000000 in
set_option maxRecDepth 100000 in
theorem lc_36_ok {E : CxT} {l : Launch} {D : va_G} {y : CyT} {h : Nat} {q : Nat → Nat} {b Ln x : Nat} {xs : Nat → Int32} {X : Nat × Nat} (hc : Cx E "FarEditorsLaw" cL_law 4) (hz : Cy E l D y 13 478 X.1 X.2) (hX : X.2 ≤ 100000000) (hXs : va_X b Ln xs (xS E) (xS E).heap) (hbl : b < (xS E).heap.size) (hbA : ¬ xF E b) {i : Int32} {S S' : CS} {M M' : MS} (hf : lc_36 X xs Ln x i S M = some (S', M')) (hk : V E (cZ S') (cU S') (cw y S' ++ mw h q y M') 1390 [(0, .ref b), (1, .ref x), (2, .ref h), (3, .int i)] []) : V E (cZ S) (cU S) (cw y S ++ mw h q y M) 1344 [(0, .ref b), (1, .ref x), (2, .ref h), (3, .int i)] [] := by
  have hT := hz.2.2.1
  unfold lc_36 at hf
  refine V_aload_n hc dL_law_1344 rfl 1 rfl ?_
  refine V_aload_n hc dL_law_1345 rfl 0 rfl ?_
  refine V_iload_n hc dL_law_1346 rfl 3 rfl ?_
  refine V_iconst hc (v := (1 : Int32)) dL_law_1347 rfl ?_
  refine V_iadd hc dL_law_1348 ?_
  obtain ⟨v1, hv1, hf⟩ := mb hf
  refine V_sld hc hXs hbl hbA hv1 dL_law_1349 ?_
  obtain ⟨r2, S3, hr2, hf⟩ := mb2 hf
  obtain ⟨hkr2, hr2⟩ := og hr2
  refine L_callC hc hz (As := [.int v1]) hkr2 (c11_seed l D y _ _ hr2) w6_43 w6_44 w6_45 w1_1 w6_46 hdX_X11_seed ⟨(Nat.le_of_ble_eq_true rfl), (Nat.le_of_ble_eq_true rfl)⟩ rfl rfl (Nat.le_of_ble_eq_true rfl) dL_law_1350 ?_
  refine V_aload_n hc dL_law_1353 rfl 2 rfl ?_
  refine V_aload_n hc dL_law_1354 rfl 0 rfl ?_
  refine V_iload_n hc dL_law_1355 rfl 3 rfl ?_
  refine V_iconst hc (v := (1 : Int32)) dL_law_1356 rfl ?_
  refine V_iadd hc dL_law_1357 ?_
  obtain ⟨v4, hv4, hf⟩ := mb hf
  refine V_sld hc hXs hbl hbA hv4 dL_law_1358 ?_
  obtain ⟨r5, M6, hr5, hf⟩ := mb2 hf
  refine L_callM hc hz (As := [.int v4]) (c12_seed l D h q y _ _ _ _ hr5) w9_57 w9_58 w9_59 w1_13 w9_60 hd12_seed ⟨(Nat.le_of_ble_eq_true rfl), (Nat.le_of_ble_eq_true rfl)⟩ rfl rfl (Nat.le_of_ble_eq_true rfl) dL_law_1359 ?_
  have he : r2 = r5 := by
    by_cases hh : r2 = r5
    · exact hh
    · rw [if_neg hh] at hf; cases hf
  rw [if_pos he] at hf
  obtain ⟨rfl, rfl⟩ := si2 hf
  refine V_icmp_eq hc dL_law_1362 rfl (fun _ => ?_) (fun hh => absurd he hh)
  exact hk
noncomputable def lc_37 (X : Nat × Nat) (xs : Nat → Int32) (Ln x : Nat) (i : Int32) (S : CS) (M : MS) : Option (CS × MS) :=
  (sx xs Ln (i + (1 : Int32))).bind fun v1 =>
  (cal S 11 x (f11_status S x v1)).bind fun r2 =>
  (sx xs Ln (i + (1 : Int32))).bind fun v3 =>
  (f12_status M v3).bind fun r4 =>
  if r2 = r4 then some (S, M) else none
set_option maxHeartbeats 4000000 in
set_option maxRecDepth 100000 in
theorem lc_37_ok {E : CxT} {l : Launch} {D : va_G} {y : CyT} {h : Nat} {q : Nat → Nat} {b Ln x : Nat} {xs : Nat → Int32} {X : Nat × Nat} (hc : Cx E "FarEditorsLaw" cL_law 4) (hz : Cy E l D y 13 478 X.1 X.2) (hX : X.2 ≤ 100000000) (hXs : va_X b Ln xs (xS E) (xS E).heap) (hbl : b < (xS E).heap.size) (hbA : ¬ xF E b) {i : Int32} {S S' : CS} {M M' : MS} (hf : lc_37 X xs Ln x i S M = some (S', M')) (hk : V E (cZ S') (cU S') (cw y S' ++ mw h q y M') 1390 [(0, .ref b), (1, .ref x), (2, .ref h), (3, .int i)] []) : V E (cZ S) (cU S) (cw y S ++ mw h q y M) 1367 [(0, .ref b), (1, .ref x), (2, .ref h), (3, .int i)] [] := by
  have hT := hz.2.2.1
  unfold lc_37 at hf
  refine V_aload_n hc dL_law_1367 rfl 1 rfl ?_
  refine V_aload_n hc dL_law_1368 rfl 0 rfl ?_
  refine V_iload_n hc dL_law_1369 rfl 3 rfl ?_
  refine V_iconst hc (v := (1 : Int32)) dL_law_1370 rfl ?_
  refine V_iadd hc dL_law_1371 ?_
  obtain ⟨v1, hv1, hf⟩ := mb hf
  refine V_sld hc hXs hbl hbA hv1 dL_law_1372 ?_
  obtain ⟨r2, hr2, hf⟩ := mb hf
  obtain ⟨hkr2, hr2⟩ := og hr2
  refine L_callC hc hz (As := [.int v1]) hkr2 (c11_status l D y _ _ hr2) w6_47 w6_48 w6_49 w1_1 w6_50 hdX_X11_status ⟨(Nat.le_of_ble_eq_true rfl), (Nat.le_of_ble_eq_true rfl)⟩ rfl rfl (Nat.le_of_ble_eq_true rfl) dL_law_1373 ?_
  refine V_aload_n hc dL_law_1376 rfl 2 rfl ?_
  refine V_aload_n hc dL_law_1377 rfl 0 rfl ?_
  refine V_iload_n hc dL_law_1378 rfl 3 rfl ?_
  refine V_iconst hc (v := (1 : Int32)) dL_law_1379 rfl ?_
  refine V_iadd hc dL_law_1380 ?_
  obtain ⟨v3, hv3, hf⟩ := mb hf
  refine V_sld hc hXs hbl hbA hv3 dL_law_1381 ?_
  obtain ⟨r4, hr4, hf⟩ := mb hf
  refine L_callM hc hz (As := [.int v3]) (c12_status l D h q y _ _ _ _ hr4) w7_29 w7_30 w7_31 w1_13 w7_32 hd12_status ⟨(Nat.le_of_ble_eq_true rfl), (Nat.le_of_ble_eq_true rfl)⟩ rfl rfl (Nat.le_of_ble_eq_true rfl) dL_law_1382 ?_
  have he : r2 = r4 := by
    by_cases hh : r2 = r4
    · exact hh
    · rw [if_neg hh] at hf; cases hf
  rw [if_pos he] at hf
  obtain ⟨rfl, rfl⟩ := si2 hf
  refine V_icmp_eq hc dL_law_1385 rfl (fun _ => ?_) (fun hh => absurd he hh)
  exact hk
/-- one call of each -/
noncomputable def lcs (X : Nat × Nat) (xs : Nat → Int32) (Ln x : Nat) (i w : Int32) (S : CS) (M : MS) : Option (CS × MS) := if w = (0 : Int32) then lc_0 X xs Ln x i S M else (if w = (1 : Int32) then lc_1 X xs Ln x i S M else (if w = (2 : Int32) then lc_2 X xs Ln x i S M else (if w = (3 : Int32) then lc_3 X xs Ln x i S M else (if w = (4 : Int32) then lc_4 X xs Ln x i S M else (if w = (5 : Int32) then lc_5 X xs Ln x i S M else (if w = (6 : Int32) then lc_6 X xs Ln x i S M else (if w = (7 : Int32) then lc_7 X xs Ln x i S M else (if w = (8 : Int32) then lc_8 X xs Ln x i S M else (if w = (9 : Int32) then lc_9 X xs Ln x i S M else (if w = (10 : Int32) then lc_10 X xs Ln x i S M else (if w = (11 : Int32) then lc_11 X xs Ln x i S M else (if w = (12 : Int32) then lc_12 X xs Ln x i S M else (if w = (13 : Int32) then lc_13 X xs Ln x i S M else (if w = (14 : Int32) then lc_14 X xs Ln x i S M else (if w = (15 : Int32) then lc_15 X xs Ln x i S M else (if w = (16 : Int32) then lc_16 X xs Ln x i S M else (if w = (17 : Int32) then lc_17 X xs Ln x i S M else (if w = (18 : Int32) then lc_18 X xs Ln x i S M else (if w = (19 : Int32) then lc_19 X xs Ln x i S M else (if w = (20 : Int32) then lc_20 X xs Ln x i S M else (if w = (21 : Int32) then lc_21 X xs Ln x i S M else (if w = (22 : Int32) then lc_22 X xs Ln x i S M else (if w = (23 : Int32) then lc_23 X xs Ln x i S M else (if w = (24 : Int32) then lc_24 X xs Ln x i S M else (if w = (25 : Int32) then lc_25 X xs Ln x i S M else (if w = (26 : Int32) then lc_26 X xs Ln x i S M else (if w = (27 : Int32) then lc_27 X xs Ln x i S M else (if w = (28 : Int32) then lc_28 X xs Ln x i S M else (if w = (29 : Int32) then lc_29 X xs Ln x i S M else (if w = (30 : Int32) then lc_30 X xs Ln x i S M else (if w = (31 : Int32) then lc_31 X xs Ln x i S M else (if w = (32 : Int32) then lc_32 X xs Ln x i S M else (if w = (33 : Int32) then lc_33 X xs Ln x i S M else (if w = (34 : Int32) then lc_34 X xs Ln x i S M else (if w = (35 : Int32) then lc_35 X xs Ln x i S M else (if w = (36 : Int32) then lc_36 X xs Ln x i S M else (if w = (37 : Int32) then lc_37 X xs Ln x i S M else (some (S, M)))))))))))))))))))))))))))))))))))))))
set_option maxHeartbeats 4000000 in
set_option maxRecDepth 100000 in
theorem lcs_ok {E : CxT} {l : Launch} {D : va_G} {y : CyT} {h : Nat} {q : Nat → Nat} {b Ln x : Nat} {xs : Nat → Int32} {X : Nat × Nat} (hc : Cx E "FarEditorsLaw" cL_law 4) (hz : Cy E l D y 13 478 X.1 X.2) (hX : X.2 ≤ 100000000) (hXs : va_X b Ln xs (xS E) (xS E).heap) (hbl : b < (xS E).heap.size) (hbA : ¬ xF E b) {i w : Int32} {S S' : CS} {M M' : MS} (hf : lcs X xs Ln x i w S M = some (S', M')) (hk : V E (cZ S') (cU S') (cw y S' ++ mw h q y M') 1390 [(0, .ref b), (1, .ref x), (2, .ref h), (3, .int i)] []) : V E (cZ S) (cU S) (cw y S ++ mw h q y M) 33 [(0, .ref b), (1, .ref x), (2, .ref h), (3, .int i)] [.int w] := by
  unfold lcs at hf
  by_cases hs0 : w = (0 : Int32)
  · rw [if_pos hs0] at hf
    refine V_tableIn hc dL_law_33 (by rw [hs0]; decide) (by rw [hs0]; decide) (off := 167) (by rw [hs0]; rfl) rfl ?_
    exact lc_0_ok hc hz hX hXs hbl hbA hf hk
  rw [if_neg hs0] at hf
  by_cases hs1 : w = (1 : Int32)
  · rw [if_pos hs1] at hf
    refine V_tableIn hc dL_law_33 (by rw [hs1]; decide) (by rw [hs1]; decide) (off := 230) (by rw [hs1]; rfl) rfl ?_
    exact lc_1_ok hc hz hX hXs hbl hbA hf hk
  rw [if_neg hs1] at hf
  by_cases hs2 : w = (2 : Int32)
  · rw [if_pos hs2] at hf
    refine V_tableIn hc dL_law_33 (by rw [hs2]; decide) (by rw [hs2]; decide) (off := 253) (by rw [hs2]; rfl) rfl ?_
    exact lc_2_ok hc hz hX hXs hbl hbA hf hk
  rw [if_neg hs2] at hf
  by_cases hs3 : w = (3 : Int32)
  · rw [if_pos hs3] at hf
    refine V_tableIn hc dL_law_33 (by rw [hs3]; decide) (by rw [hs3]; decide) (off := 266) (by rw [hs3]; rfl) rfl ?_
    exact lc_3_ok hc hz hX hXs hbl hbA hf hk
  rw [if_neg hs3] at hf
  by_cases hs4 : w = (4 : Int32)
  · rw [if_pos hs4] at hf
    refine V_tableIn hc dL_law_33 (by rw [hs4]; decide) (by rw [hs4]; decide) (off := 289) (by rw [hs4]; rfl) rfl ?_
    exact lc_4_ok hc hz hX hXs hbl hbA hf hk
  rw [if_neg hs4] at hf
  by_cases hs5 : w = (5 : Int32)
  · rw [if_pos hs5] at hf
    refine V_tableIn hc dL_law_33 (by rw [hs5]; decide) (by rw [hs5]; decide) (off := 312) (by rw [hs5]; rfl) rfl ?_
    exact lc_5_ok hc hz hX hXs hbl hbA hf hk
  rw [if_neg hs5] at hf
  by_cases hs6 : w = (6 : Int32)
  · rw [if_pos hs6] at hf
    refine V_tableIn hc dL_law_33 (by rw [hs6]; decide) (by rw [hs6]; decide) (off := 345) (by rw [hs6]; rfl) rfl ?_
    exact lc_6_ok hc hz hX hXs hbl hbA hf hk
  rw [if_neg hs6] at hf
  by_cases hs7 : w = (7 : Int32)
  · rw [if_pos hs7] at hf
    refine V_tableIn hc dL_law_33 (by rw [hs7]; decide) (by rw [hs7]; decide) (off := 378) (by rw [hs7]; rfl) rfl ?_
    exact lc_7_ok hc hz hX hXs hbl hbA hf hk
  rw [if_neg hs7] at hf
  by_cases hs8 : w = (8 : Int32)
  · rw [if_pos hs8] at hf
    refine V_tableIn hc dL_law_33 (by rw [hs8]; decide) (by rw [hs8]; decide) (off := 431) (by rw [hs8]; rfl) rfl ?_
    exact lc_8_ok hc hz hX hXs hbl hbA hf hk
  rw [if_neg hs8] at hf
  by_cases hs9 : w = (9 : Int32)
  · rw [if_pos hs9] at hf
    refine V_tableIn hc dL_law_33 (by rw [hs9]; decide) (by rw [hs9]; decide) (off := 474) (by rw [hs9]; rfl) rfl ?_
    exact lc_9_ok hc hz hX hXs hbl hbA hf hk
  rw [if_neg hs9] at hf
  by_cases hs10 : w = (10 : Int32)
  · rw [if_pos hs10] at hf
    refine V_tableIn hc dL_law_33 (by rw [hs10]; decide) (by rw [hs10]; decide) (off := 517) (by rw [hs10]; rfl) rfl ?_
    exact lc_10_ok hc hz hX hXs hbl hbA hf hk
  rw [if_neg hs10] at hf
  by_cases hs11 : w = (11 : Int32)
  · rw [if_pos hs11] at hf
    refine V_tableIn hc dL_law_33 (by rw [hs11]; decide) (by rw [hs11]; decide) (off := 550) (by rw [hs11]; rfl) rfl ?_
    exact lc_11_ok hc hz hX hXs hbl hbA hf hk
  rw [if_neg hs11] at hf
  by_cases hs12 : w = (12 : Int32)
  · rw [if_pos hs12] at hf
    refine V_tableIn hc dL_law_33 (by rw [hs12]; decide) (by rw [hs12]; decide) (off := 583) (by rw [hs12]; rfl) rfl ?_
    exact lc_12_ok hc hz hX hXs hbl hbA hf hk
  rw [if_neg hs12] at hf
  by_cases hs13 : w = (13 : Int32)
  · rw [if_pos hs13] at hf
    refine V_tableIn hc dL_law_33 (by rw [hs13]; decide) (by rw [hs13]; decide) (off := 616) (by rw [hs13]; rfl) rfl ?_
    exact lc_13_ok hc hz hX hXs hbl hbA hf hk
  rw [if_neg hs13] at hf
  by_cases hs14 : w = (14 : Int32)
  · rw [if_pos hs14] at hf
    refine V_tableIn hc dL_law_33 (by rw [hs14]; decide) (by rw [hs14]; decide) (off := 669) (by rw [hs14]; rfl) rfl ?_
    exact lc_14_ok hc hz hX hXs hbl hbA hf hk
  rw [if_neg hs14] at hf
  by_cases hs15 : w = (15 : Int32)
  · rw [if_pos hs15] at hf
    refine V_tableIn hc dL_law_33 (by rw [hs15]; decide) (by rw [hs15]; decide) (off := 702) (by rw [hs15]; rfl) rfl ?_
    exact lc_15_ok hc hz hX hXs hbl hbA hf hk
  rw [if_neg hs15] at hf
  by_cases hs16 : w = (16 : Int32)
  · rw [if_pos hs16] at hf
    refine V_tableIn hc dL_law_33 (by rw [hs16]; decide) (by rw [hs16]; decide) (off := 715) (by rw [hs16]; rfl) rfl ?_
    exact lc_16_ok hc hz hX hXs hbl hbA hf hk
  rw [if_neg hs16] at hf
  by_cases hs17 : w = (17 : Int32)
  · rw [if_pos hs17] at hf
    refine V_tableIn hc dL_law_33 (by rw [hs17]; decide) (by rw [hs17]; decide) (off := 748) (by rw [hs17]; rfl) rfl ?_
    exact lc_17_ok hc hz hX hXs hbl hbA hf hk
  rw [if_neg hs17] at hf
  by_cases hs18 : w = (18 : Int32)
  · rw [if_pos hs18] at hf
    refine V_tableIn hc dL_law_33 (by rw [hs18]; decide) (by rw [hs18]; decide) (off := 771) (by rw [hs18]; rfl) rfl ?_
    exact lc_18_ok hc hz hX hXs hbl hbA hf hk
  rw [if_neg hs18] at hf
  by_cases hs19 : w = (19 : Int32)
  · rw [if_pos hs19] at hf
    refine V_tableIn hc dL_law_33 (by rw [hs19]; decide) (by rw [hs19]; decide) (off := 804) (by rw [hs19]; rfl) rfl ?_
    exact lc_19_ok hc hz hX hXs hbl hbA hf hk
  rw [if_neg hs19] at hf
  by_cases hs20 : w = (20 : Int32)
  · rw [if_pos hs20] at hf
    refine V_tableIn hc dL_law_33 (by rw [hs20]; decide) (by rw [hs20]; decide) (off := 817) (by rw [hs20]; rfl) rfl ?_
    exact lc_20_ok hc hz hX hXs hbl hbA hf hk
  rw [if_neg hs20] at hf
  by_cases hs21 : w = (21 : Int32)
  · rw [if_pos hs21] at hf
    refine V_tableIn hc dL_law_33 (by rw [hs21]; decide) (by rw [hs21]; decide) (off := 840) (by rw [hs21]; rfl) rfl ?_
    exact lc_21_ok hc hz hX hXs hbl hbA hf hk
  rw [if_neg hs21] at hf
  by_cases hs22 : w = (22 : Int32)
  · rw [if_pos hs22] at hf
    refine V_tableIn hc dL_law_33 (by rw [hs22]; decide) (by rw [hs22]; decide) (off := 863) (by rw [hs22]; rfl) rfl ?_
    exact lc_22_ok hc hz hX hXs hbl hbA hf hk
  rw [if_neg hs22] at hf
  by_cases hs23 : w = (23 : Int32)
  · rw [if_pos hs23] at hf
    refine V_tableIn hc dL_law_33 (by rw [hs23]; decide) (by rw [hs23]; decide) (off := 886) (by rw [hs23]; rfl) rfl ?_
    exact lc_23_ok hc hz hX hXs hbl hbA hf hk
  rw [if_neg hs23] at hf
  by_cases hs24 : w = (24 : Int32)
  · rw [if_pos hs24] at hf
    refine V_tableIn hc dL_law_33 (by rw [hs24]; decide) (by rw [hs24]; decide) (off := 929) (by rw [hs24]; rfl) rfl ?_
    exact lc_24_ok hc hz hX hXs hbl hbA hf hk
  rw [if_neg hs24] at hf
  by_cases hs25 : w = (25 : Int32)
  · rw [if_pos hs25] at hf
    refine V_tableIn hc dL_law_33 (by rw [hs25]; decide) (by rw [hs25]; decide) (off := 972) (by rw [hs25]; rfl) rfl ?_
    exact lc_25_ok hc hz hX hXs hbl hbA hf hk
  rw [if_neg hs25] at hf
  by_cases hs26 : w = (26 : Int32)
  · rw [if_pos hs26] at hf
    refine V_tableIn hc dL_law_33 (by rw [hs26]; decide) (by rw [hs26]; decide) (off := 1005) (by rw [hs26]; rfl) rfl ?_
    exact lc_26_ok hc hz hX hXs hbl hbA hf hk
  rw [if_neg hs26] at hf
  by_cases hs27 : w = (27 : Int32)
  · rw [if_pos hs27] at hf
    refine V_tableIn hc dL_law_33 (by rw [hs27]; decide) (by rw [hs27]; decide) (off := 1038) (by rw [hs27]; rfl) rfl ?_
    exact lc_27_ok hc hz hX hXs hbl hbA hf hk
  rw [if_neg hs27] at hf
  by_cases hs28 : w = (28 : Int32)
  · rw [if_pos hs28] at hf
    refine V_tableIn hc dL_law_33 (by rw [hs28]; decide) (by rw [hs28]; decide) (off := 1091) (by rw [hs28]; rfl) rfl ?_
    exact lc_28_ok hc hz hX hXs hbl hbA hf hk
  rw [if_neg hs28] at hf
  by_cases hs29 : w = (29 : Int32)
  · rw [if_pos hs29] at hf
    refine V_tableIn hc dL_law_33 (by rw [hs29]; decide) (by rw [hs29]; decide) (off := 1124) (by rw [hs29]; rfl) rfl ?_
    exact lc_29_ok hc hz hX hXs hbl hbA hf hk
  rw [if_neg hs29] at hf
  by_cases hs30 : w = (30 : Int32)
  · rw [if_pos hs30] at hf
    refine V_tableIn hc dL_law_33 (by rw [hs30]; decide) (by rw [hs30]; decide) (off := 1147) (by rw [hs30]; rfl) rfl ?_
    exact lc_30_ok hc hz hX hXs hbl hbA hf hk
  rw [if_neg hs30] at hf
  by_cases hs31 : w = (31 : Int32)
  · rw [if_pos hs31] at hf
    refine V_tableIn hc dL_law_33 (by rw [hs31]; decide) (by rw [hs31]; decide) (off := 1170) (by rw [hs31]; rfl) rfl ?_
    exact lc_31_ok hc hz hX hXs hbl hbA hf hk
  rw [if_neg hs31] at hf
  by_cases hs32 : w = (32 : Int32)
  · rw [if_pos hs32] at hf
    refine V_tableIn hc dL_law_33 (by rw [hs32]; decide) (by rw [hs32]; decide) (off := 1219) (by rw [hs32]; rfl) rfl ?_
    exact lc_32_ok hc hz hX hXs hbl hbA hf hk
  rw [if_neg hs32] at hf
  by_cases hs33 : w = (33 : Int32)
  · rw [if_pos hs33] at hf
    refine V_tableIn hc dL_law_33 (by rw [hs33]; decide) (by rw [hs33]; decide) (off := 1252) (by rw [hs33]; rfl) rfl ?_
    exact lc_33_ok hc hz hX hXs hbl hbA hf hk
  rw [if_neg hs33] at hf
  by_cases hs34 : w = (34 : Int32)
  · rw [if_pos hs34] at hf
    refine V_tableIn hc dL_law_33 (by rw [hs34]; decide) (by rw [hs34]; decide) (off := 1275) (by rw [hs34]; rfl) rfl ?_
    exact lc_34_ok hc hz hX hXs hbl hbA hf hk
  rw [if_neg hs34] at hf
  by_cases hs35 : w = (35 : Int32)
  · rw [if_pos hs35] at hf
    refine V_tableIn hc dL_law_33 (by rw [hs35]; decide) (by rw [hs35]; decide) (off := 1298) (by rw [hs35]; rfl) rfl ?_
    exact lc_35_ok hc hz hX hXs hbl hbA hf hk
  rw [if_neg hs35] at hf
  by_cases hs36 : w = (36 : Int32)
  · rw [if_pos hs36] at hf
    refine V_tableIn hc dL_law_33 (by rw [hs36]; decide) (by rw [hs36]; decide) (off := 1311) (by rw [hs36]; rfl) rfl ?_
    exact lc_36_ok hc hz hX hXs hbl hbA hf hk
  rw [if_neg hs36] at hf
  by_cases hs37 : w = (37 : Int32)
  · rw [if_pos hs37] at hf
    refine V_tableIn hc dL_law_33 (by rw [hs37]; decide) (by rw [hs37]; decide) (off := 1334) (by rw [hs37]; rfl) rfl ?_
    exact lc_37_ok hc hz hX hXs hbl hbA hf hk
  rw [if_neg hs37] at hf
  have hto : w.toInt < 0 ∨ 37 < w.toInt := by
    have ht0 : ¬ w.toInt = 0 := fun hh => hs0 (Int32.toInt_inj.mp (hh.trans rfl))
    have ht1 : ¬ w.toInt = 1 := fun hh => hs1 (Int32.toInt_inj.mp (hh.trans rfl))
    have ht2 : ¬ w.toInt = 2 := fun hh => hs2 (Int32.toInt_inj.mp (hh.trans rfl))
    have ht3 : ¬ w.toInt = 3 := fun hh => hs3 (Int32.toInt_inj.mp (hh.trans rfl))
    have ht4 : ¬ w.toInt = 4 := fun hh => hs4 (Int32.toInt_inj.mp (hh.trans rfl))
    have ht5 : ¬ w.toInt = 5 := fun hh => hs5 (Int32.toInt_inj.mp (hh.trans rfl))
    have ht6 : ¬ w.toInt = 6 := fun hh => hs6 (Int32.toInt_inj.mp (hh.trans rfl))
    have ht7 : ¬ w.toInt = 7 := fun hh => hs7 (Int32.toInt_inj.mp (hh.trans rfl))
    have ht8 : ¬ w.toInt = 8 := fun hh => hs8 (Int32.toInt_inj.mp (hh.trans rfl))
    have ht9 : ¬ w.toInt = 9 := fun hh => hs9 (Int32.toInt_inj.mp (hh.trans rfl))
    have ht10 : ¬ w.toInt = 10 := fun hh => hs10 (Int32.toInt_inj.mp (hh.trans rfl))
    have ht11 : ¬ w.toInt = 11 := fun hh => hs11 (Int32.toInt_inj.mp (hh.trans rfl))
    have ht12 : ¬ w.toInt = 12 := fun hh => hs12 (Int32.toInt_inj.mp (hh.trans rfl))
    have ht13 : ¬ w.toInt = 13 := fun hh => hs13 (Int32.toInt_inj.mp (hh.trans rfl))
    have ht14 : ¬ w.toInt = 14 := fun hh => hs14 (Int32.toInt_inj.mp (hh.trans rfl))
    have ht15 : ¬ w.toInt = 15 := fun hh => hs15 (Int32.toInt_inj.mp (hh.trans rfl))
    have ht16 : ¬ w.toInt = 16 := fun hh => hs16 (Int32.toInt_inj.mp (hh.trans rfl))
    have ht17 : ¬ w.toInt = 17 := fun hh => hs17 (Int32.toInt_inj.mp (hh.trans rfl))
    have ht18 : ¬ w.toInt = 18 := fun hh => hs18 (Int32.toInt_inj.mp (hh.trans rfl))
    have ht19 : ¬ w.toInt = 19 := fun hh => hs19 (Int32.toInt_inj.mp (hh.trans rfl))
    have ht20 : ¬ w.toInt = 20 := fun hh => hs20 (Int32.toInt_inj.mp (hh.trans rfl))
    have ht21 : ¬ w.toInt = 21 := fun hh => hs21 (Int32.toInt_inj.mp (hh.trans rfl))
    have ht22 : ¬ w.toInt = 22 := fun hh => hs22 (Int32.toInt_inj.mp (hh.trans rfl))
    have ht23 : ¬ w.toInt = 23 := fun hh => hs23 (Int32.toInt_inj.mp (hh.trans rfl))
    have ht24 : ¬ w.toInt = 24 := fun hh => hs24 (Int32.toInt_inj.mp (hh.trans rfl))
    have ht25 : ¬ w.toInt = 25 := fun hh => hs25 (Int32.toInt_inj.mp (hh.trans rfl))
    have ht26 : ¬ w.toInt = 26 := fun hh => hs26 (Int32.toInt_inj.mp (hh.trans rfl))
    have ht27 : ¬ w.toInt = 27 := fun hh => hs27 (Int32.toInt_inj.mp (hh.trans rfl))
    have ht28 : ¬ w.toInt = 28 := fun hh => hs28 (Int32.toInt_inj.mp (hh.trans rfl))
    have ht29 : ¬ w.toInt = 29 := fun hh => hs29 (Int32.toInt_inj.mp (hh.trans rfl))
    have ht30 : ¬ w.toInt = 30 := fun hh => hs30 (Int32.toInt_inj.mp (hh.trans rfl))
    have ht31 : ¬ w.toInt = 31 := fun hh => hs31 (Int32.toInt_inj.mp (hh.trans rfl))
    have ht32 : ¬ w.toInt = 32 := fun hh => hs32 (Int32.toInt_inj.mp (hh.trans rfl))
    have ht33 : ¬ w.toInt = 33 := fun hh => hs33 (Int32.toInt_inj.mp (hh.trans rfl))
    have ht34 : ¬ w.toInt = 34 := fun hh => hs34 (Int32.toInt_inj.mp (hh.trans rfl))
    have ht35 : ¬ w.toInt = 35 := fun hh => hs35 (Int32.toInt_inj.mp (hh.trans rfl))
    have ht36 : ¬ w.toInt = 36 := fun hh => hs36 (Int32.toInt_inj.mp (hh.trans rfl))
    have ht37 : ¬ w.toInt = 37 := fun hh => hs37 (Int32.toInt_inj.mp (hh.trans rfl))
    omega
  refine V_tableOut hc dL_law_33 hto rfl ?_
  obtain ⟨rfl, rfl⟩ := si2 hf
  exact hk
/-- the law: none where two answers differ -/
noncomputable def lawL (X : Nat × Nat) (xs : Nat → Int32) (Ln x : Nat) : Nat → Int32 → CS → MS → Option Unit
  | 0, _, _, _ => none
  | n + 1, i, S, M =>
    if Int32.ofNat Ln - (6 : Int32) < i then some () else
    (sx xs Ln i).bind fun v =>
    bn2 (lcs X xs Ln x i (v &&& (63 : Int32)) S M) fun S1 M1 =>
    lawL X xs Ln x n (i + (6 : Int32)) S1 M1
set_option maxHeartbeats 4000000 in
set_option maxRecDepth 100000 in
theorem lawL_ok {E : CxT} {l : Launch} {D : va_G} {y : CyT} {h : Nat} {q : Nat → Nat} {b Ln x : Nat} {xs : Nat → Int32} {X : Nat × Nat} (hc : Cx E "FarEditorsLaw" cL_law 4) (hz : Cy E l D y 13 478 X.1 X.2) (hX : X.2 ≤ 100000000) (hXs : va_X b Ln xs (xS E) (xS E).heap) (hbl : b < (xS E).heap.size) (hbA : ¬ xF E b) (hend : ∀ (i : Int32) (S : CS) (M : MS), V E (cZ S) (cU S) (cw y S ++ mw h q y M) 1396 [(0, .ref b), (1, .ref x), (2, .ref h), (3, .int i)] []) : ∀ (n : Nat) (i : Int32) (S : CS) (M : MS), lawL X xs Ln x n i S M = some () → V E (cZ S) (cU S) (cw y S ++ mw h q y M) 18 [(0, .ref b), (1, .ref x), (2, .ref h), (3, .int i)] [] := by
  intro n
  induction n with
  | zero => intro i S M hf; cases hf
  | succ n ih =>
    intro i S M hf
    unfold lawL at hf
    refine V_iload_n hc dL_law_18 rfl 3 rfl ?_
    refine V_aload_n hc dL_law_19 rfl 0 rfl ?_
    refine V_slen hc hXs hbl hbA dL_law_20 ?_
    refine V_bipush hc (v := (6 : Int32)) dL_law_21 rfl ?_
    refine V_isub hc dL_law_23 ?_
    refine V_icmp_gt hc dL_law_24 rfl (fun hq => ?_) (fun hq => ?_)
    · exact hend i S M
    · rw [if_neg hq] at hf
      obtain ⟨v, hv, hf⟩ := mb hf
      obtain ⟨S1, M1, h1, hf⟩ := mb2 hf
      refine V_aload_n hc dL_law_27 rfl 0 rfl ?_
      refine V_iload_n hc dL_law_28 rfl 3 rfl ?_
      refine V_sld hc hXs hbl hbA hv dL_law_29 ?_
      refine V_bipush hc (v := (63 : Int32)) dL_law_30 rfl ?_
      refine V_iand hc dL_law_32 ?_
      refine lcs_ok hc hz hX hXs hbl hbA h1 ?_
      refine V_iinc hc (j := 3) (v := (i + (6 : Int32))) dL_law_1390 rfl rfl (by decide) rfl ?_
      refine V_goto hc dL_law_1393 rfl ?_
      exact V_sub [1, 2, 3, 0] rfl (ih _ S1 M1 hf)
