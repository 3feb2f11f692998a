abbrev M_L : zM := (RL, code, 7, ret, room_1, none, "law")
set_option maxRecDepth 20000 in
set_option maxHeartbeats 4000000 in
theorem v_law_0 {g : zG} (G : zOK g) {S : zSh} {im : zIm} {b x m o i k n L : Nat} {xs : Nat → Int32} {Z : zEnd} {C : zSh → zIm → Prop} (hX : va_X b L xs g.2.1 g.2.1.heap) (hb : b < zbs g) (hL : L ≤ 2048) (hL2 : L < 2147483648) (hi : i + 4 ≤ L) (hk : k + 100 ≤ 601024) (hn : n + 10000 ≤ 7293034) {s1 : Int} (c1 : zc s1) (e1 : (xs ((i : Int) + 1).toNat).toInt = s1) {s2 : Int} (c2 : zc s2) (e2 : (xs ((i : Int) + 2).toNat).toInt = s2) {s3 : Int} (c3 : zc s3) (e3 : (xs ((i : Int) + 3).toNat).toInt = s3)
    (hC : ∀ k2 n2 S2 im2, k2 ≤ k + 60 → n2 ≤ n + 7000 → C S2 im2 → zPz g M_L k2 n2 2747 [(0, .ref b), (1, .ref x), (2, .ref m), (3, .ref o), (4, .int (zi (i : Int)))] [] S2 im2 Z)
    (h : (zkd S x = 7 ∧ zCW g yL_addItem M_L_addItem [(0, 12, 15, 13), (0, 12, 19, 15)] [.ref x, .int (zi s1), .int (zi s2), .int (zi s3), .ref o] S im (zQW (fun r2 S3 im4 => (zkd S3 m = 8 ∧ zCI g yX8_addItem M_X8_addItem [.ref m, .int (zi s1), .int (zi s2), .int (zi s3)] S3 im4 (fun r8 im7 => zCI g yX8_thrown M_X8_thrown [.ref m] S3 im7 (fun r11 im10 => ((r11 = r2 → ((¬ r2 = 0 → C S3 im10) ∧ (r2 = 0 → (zkd S3 o = 12 ∧ (zln S3 o = 1 ∧ (((zcmp (im10 o 0) r8) = 0 → C S3 im10) ∧ (¬ (zcmp (im10 o 0) r8) = 0 → False))))))) ∧ (¬ r11 = r2 → False))))))) zX0)) :
    zPz g M_L k n 232 [(0, .ref b), (1, .ref x), (2, .ref m), (3, .ref o), (4, .int (zi (i : Int)))] [] S im Z := by
  refine p_aload_n dL_law_232 rfl (q := 1) rfl ?_
  refine p_aload_n dL_law_233 rfl (q := 0) rfl ?_
  refine p_iload dL_law_234 (q := 4) rfl ?_
  refine p_iconst dL_law_236 ?_
  refine p_iadd dL_law_237 ?_
  refine p_sld hX hb hL2 (nf_r (zc_of (by omega) (by omega))) (by omega) (by omega) dL_law_238 ?_
  rw [e1]
  refine p_aload_n dL_law_239 rfl (q := 0) rfl ?_
  refine p_iload dL_law_240 (q := 4) rfl ?_
  refine p_iconst dL_law_242 ?_
  refine p_iadd dL_law_243 ?_
  refine p_sld hX hb hL2 (nf_r (zc_of (by omega) (by omega))) (by omega) (by omega) dL_law_244 ?_
  rw [e2]
  refine p_aload_n dL_law_245 rfl (q := 0) rfl ?_
  refine p_iload dL_law_246 (q := 4) rfl ?_
  refine p_iconst dL_law_248 ?_
  refine p_iadd dL_law_249 ?_
  refine p_sld hX hb hL2 (nf_r (zc_of (by omega) (by omega))) (by omega) (by omega) dL_law_250 ?_
  rw [e3]
  refine p_aload_n dL_law_251 rfl (q := 3) rfl ?_
  have k1 := h.1
  have h := h.2
  refine p_SW G k_RL_135 rfl rfl (Nat.le_of_ble_eq_true rfl) ⟨by decide, by decide⟩ ⟨by show k + 4 ≤ 601024; omega, by show n + 24 ≤ 7293034; omega⟩ dL_law_252 h (fun r2 S3 im4 c5 h => ?_)
  refine p_istore (lv' := [(5, .int (zi r2)), (0, .ref b), (1, .ref x), (2, .ref m), (3, .ref o), (4, .int (zi (i : Int)))]) dL_law_255 (by decide) rfl ?_
  refine p_aload_n dL_law_257 rfl (q := 3) rfl ?_
  refine p_aload_n dL_law_258 rfl (q := 1) rfl ?_
  refine p_iload dL_law_259 (q := 5) rfl ?_
  refine p_iconst dL_law_261 ?_
  refine p_iadd dL_law_262 ?_
  refine p_sld hX hb hL2 (nf_r (zc_of (by omega) (by omega))) (by omega) (by omega) dL_law_263 ?_
  rw [e1]
  refine p_aload_n dL_law_264 rfl (q := 1) rfl ?_
  refine p_iload dL_law_265 (q := 5) rfl ?_
  refine p_iconst dL_law_267 ?_
  refine p_iadd dL_law_268 ?_
  refine p_sld hX hb hL2 (nf_r (zc_of (by omega) (by omega))) (by omega) (by omega) dL_law_269 ?_
  rw [e2]
  refine p_aload_n dL_law_270 rfl (q := 1) rfl ?_
  refine p_iload dL_law_271 (q := 5) rfl ?_
  refine p_iconst dL_law_273 ?_
  refine p_iadd dL_law_274 ?_
  refine p_sld hX hb hL2 (nf_r (zc_of (by omega) (by omega))) (by omega) (by omega) dL_law_275 ?_
  rw [e3]
  have k6 := h.1
  have h := h.2
  refine p_VI G k_RL_140 (by decide) k6 rfl rfl (Nat.le_of_ble_eq_true rfl) ⟨by decide, by decide⟩ ⟨by show k + 4 + 0 ≤ 601024; omega, by show n + 24 + 0 ≤ 7293034; omega⟩ dL_law_276 h (fun r8 im7 c9 h => ?_)
  refine p_istore (lv' := [(6, .int (zi r8)), (5, .int (zi r2)), (0, .ref b), (1, .ref x), (2, .ref m), (3, .ref o), (4, .int (zi (i : Int)))]) dL_law_279 (by decide) rfl ?_
  refine p_aload_n dL_law_281 rfl (q := 4) rfl ?_
  refine p_VI G k_RL_141 (by decide) k6 rfl rfl (Nat.le_of_ble_eq_true rfl) ⟨by decide, by decide⟩ ⟨by show k + 4 + 0 + 0 ≤ 601024; omega, by show n + 24 + 0 + 0 ≤ 7293034; omega⟩ dL_law_282 h (fun r11 im10 c12 h => ?_)
  refine p_iload dL_law_285 (q := 1) rfl ?_
  refine p_icmp_eq (tgt := 292) dL_law_287 (by decide) (nf_r c12) (nf_r c5) (fun b13 => ?_) (fun b13 => ?_)
  · have h := h.1 b13
    refine p_iload dL_law_292 (q := 1) rfl ?_
    refine p_if_ne (tgt := 309) dL_law_294 (by decide) (nf_r c5) (fun b13 => ?_) (fun b13 => ?_)
    · have h := h.1 b13
      refine p_goto (tgt := 2747) dL_law_309 (by decide) ?_
      refine p_sub (lv' := [(0, .ref b), (1, .ref x), (2, .ref m), (3, .ref o), (4, .int (zi (i : Int)))]) [2, 3, 4, 5, 6] rfl ?_
      exact hC _ _ _ _ (by show k + 4 + 0 + 0 ≤ k + 60; omega) (by show n + 24 + 0 + 0 ≤ n + 7000; omega) h
    · have h := h.2 b13
      refine p_aload_n dL_law_297 rfl (q := 5) rfl ?_
      refine p_iconst dL_law_298 ?_
      have k13 := h.1
      have h := h.2
      have l14 := h.1
      have h := h.2
      refine p_lald G k13 (nf_k (by decide)) (by decide) (by rw [l14]; decide) dL_law_299 (fun c15 => ?_)
      refine p_iload dL_law_300 (q := 0) rfl ?_
      refine p_i2l dL_law_302 (nf_r c9) ?_
      refine p_lcmp dL_law_303 (nfl_r c15) (nfl_r (zcl_zc ((nf_r c9)).2)) ?_
      refine p_if_eq (tgt := 309) dL_law_304 (by decide) (nf_r (zc_zcmp _ _)) (fun b16 => ?_) (fun b16 => ?_)
      · have h := h.1 b16
        refine p_goto (tgt := 2747) dL_law_309 (by decide) ?_
        refine p_sub (lv' := [(0, .ref b), (1, .ref x), (2, .ref m), (3, .ref o), (4, .int (zi (i : Int)))]) [2, 3, 4, 5, 6] rfl ?_
        exact hC _ _ _ _ (by show k + 4 + 0 + 0 ≤ k + 60; omega) (by show n + 24 + 0 + 0 ≤ n + 7000; omega) h
      · have h := h.2 b16
        refine p_iconst dL_law_307 ?_
        exact absurd h id
  · have h := h.2 b13
    refine p_iconst dL_law_290 ?_
    exact absurd h id
set_option maxRecDepth 20000 in
set_option maxHeartbeats 4000000 in
theorem v_law_1 {g : zG} (G : zOK g) {S : zSh} {im : zIm} {b x m o i k n L : Nat} {xs : Nat → Int32} {Z : zEnd} {C : zSh → zIm → Prop} (hX : va_X b L xs g.2.1 g.2.1.heap) (hb : b < zbs g) (hL : L ≤ 2048) (hL2 : L < 2147483648) (hi : i + 4 ≤ L) (hk : k + 100 ≤ 601024) (hn : n + 10000 ≤ 7293034) {s1 : Int} (c1 : zc s1) (e1 : (xs ((i : Int) + 1).toNat).toInt = s1)
    (hC : ∀ k2 n2 S2 im2, k2 ≤ k + 60 → n2 ≤ n + 7000 → C S2 im2 → zPz g M_L k2 n2 2747 [(0, .ref b), (1, .ref x), (2, .ref m), (3, .ref o), (4, .int (zi (i : Int)))] [] S2 im2 Z)
    (h : (zkd S x = 7 ∧ zCW g yL_addBase M_L_addBase [(0, 9, 12, 13), (0, 9, 15, 15)] [.ref x, .int (zi s1), .ref o] S im (zQW (fun r2 S3 im4 => (zkd S3 m = 8 ∧ zCI g yX8_addBase M_X8_addBase [.ref m, .int (zi s1)] S3 im4 (fun r8 im7 => zCI g yX8_thrown M_X8_thrown [.ref m] S3 im7 (fun r11 im10 => ((r11 = r2 → ((¬ r2 = 0 → C S3 im10) ∧ (r2 = 0 → (zkd S3 o = 12 ∧ (zln S3 o = 1 ∧ (((zcmp (im10 o 0) r8) = 0 → C S3 im10) ∧ (¬ (zcmp (im10 o 0) r8) = 0 → False))))))) ∧ (¬ r11 = r2 → False))))))) zX0)) :
    zPz g M_L k n 312 [(0, .ref b), (1, .ref x), (2, .ref m), (3, .ref o), (4, .int (zi (i : Int)))] [] S im Z := by
  refine p_aload_n dL_law_312 rfl (q := 1) rfl ?_
  refine p_aload_n dL_law_313 rfl (q := 0) rfl ?_
  refine p_iload dL_law_314 (q := 4) rfl ?_
  refine p_iconst dL_law_316 ?_
  refine p_iadd dL_law_317 ?_
  refine p_sld hX hb hL2 (nf_r (zc_of (by omega) (by omega))) (by omega) (by omega) dL_law_318 ?_
  rw [e1]
  refine p_aload_n dL_law_319 rfl (q := 3) rfl ?_
  have k1 := h.1
  have h := h.2
  refine p_SW G k_RL_145 rfl rfl (Nat.le_of_ble_eq_true rfl) ⟨by decide, by decide⟩ ⟨by show k + 2 ≤ 601024; omega, by show n + 12 ≤ 7293034; omega⟩ dL_law_320 h (fun r2 S3 im4 c5 h => ?_)
  refine p_istore (lv' := [(5, .int (zi r2)), (0, .ref b), (1, .ref x), (2, .ref m), (3, .ref o), (4, .int (zi (i : Int)))]) dL_law_323 (by decide) rfl ?_
  refine p_aload_n dL_law_325 rfl (q := 3) rfl ?_
  refine p_aload_n dL_law_326 rfl (q := 1) rfl ?_
  refine p_iload dL_law_327 (q := 5) rfl ?_
  refine p_iconst dL_law_329 ?_
  refine p_iadd dL_law_330 ?_
  refine p_sld hX hb hL2 (nf_r (zc_of (by omega) (by omega))) (by omega) (by omega) dL_law_331 ?_
  rw [e1]
  have k6 := h.1
  have h := h.2
  refine p_VI G k_RL_148 (by decide) k6 rfl rfl (Nat.le_of_ble_eq_true rfl) ⟨by decide, by decide⟩ ⟨by show k + 2 + 0 ≤ 601024; omega, by show n + 12 + 0 ≤ 7293034; omega⟩ dL_law_332 h (fun r8 im7 c9 h => ?_)
  refine p_istore (lv' := [(6, .int (zi r8)), (5, .int (zi r2)), (0, .ref b), (1, .ref x), (2, .ref m), (3, .ref o), (4, .int (zi (i : Int)))]) dL_law_335 (by decide) rfl ?_
  refine p_aload_n dL_law_337 rfl (q := 4) rfl ?_
  refine p_VI G k_RL_141 (by decide) k6 rfl rfl (Nat.le_of_ble_eq_true rfl) ⟨by decide, by decide⟩ ⟨by show k + 2 + 0 + 0 ≤ 601024; omega, by show n + 12 + 0 + 0 ≤ 7293034; omega⟩ dL_law_338 h (fun r11 im10 c12 h => ?_)
  refine p_iload dL_law_341 (q := 1) rfl ?_
  refine p_icmp_eq (tgt := 348) dL_law_343 (by decide) (nf_r c12) (nf_r c5) (fun b13 => ?_) (fun b13 => ?_)
  · have h := h.1 b13
    refine p_iload dL_law_348 (q := 1) rfl ?_
    refine p_if_ne (tgt := 365) dL_law_350 (by decide) (nf_r c5) (fun b13 => ?_) (fun b13 => ?_)
    · have h := h.1 b13
      refine p_goto (tgt := 2747) dL_law_365 (by decide) ?_
      refine p_sub (lv' := [(0, .ref b), (1, .ref x), (2, .ref m), (3, .ref o), (4, .int (zi (i : Int)))]) [2, 3, 4, 5, 6] rfl ?_
      exact hC _ _ _ _ (by show k + 2 + 0 + 0 ≤ k + 60; omega) (by show n + 12 + 0 + 0 ≤ n + 7000; omega) h
    · have h := h.2 b13
      refine p_aload_n dL_law_353 rfl (q := 5) rfl ?_
      refine p_iconst dL_law_354 ?_
      have k13 := h.1
      have h := h.2
      have l14 := h.1
      have h := h.2
      refine p_lald G k13 (nf_k (by decide)) (by decide) (by rw [l14]; decide) dL_law_355 (fun c15 => ?_)
      refine p_iload dL_law_356 (q := 0) rfl ?_
      refine p_i2l dL_law_358 (nf_r c9) ?_
      refine p_lcmp dL_law_359 (nfl_r c15) (nfl_r (zcl_zc ((nf_r c9)).2)) ?_
      refine p_if_eq (tgt := 365) dL_law_360 (by decide) (nf_r (zc_zcmp _ _)) (fun b16 => ?_) (fun b16 => ?_)
      · have h := h.1 b16
        refine p_goto (tgt := 2747) dL_law_365 (by decide) ?_
        refine p_sub (lv' := [(0, .ref b), (1, .ref x), (2, .ref m), (3, .ref o), (4, .int (zi (i : Int)))]) [2, 3, 4, 5, 6] rfl ?_
        exact hC _ _ _ _ (by show k + 2 + 0 + 0 ≤ k + 60; omega) (by show n + 12 + 0 + 0 ≤ n + 7000; omega) h
      · have h := h.2 b16
        refine p_iconst dL_law_363 ?_
        exact absurd h id
  · have h := h.2 b13
    refine p_iconst dL_law_346 ?_
    exact absurd h id
set_option maxRecDepth 20000 in
set_option maxHeartbeats 4000000 in
theorem v_law_2 {g : zG} (G : zOK g) {S : zSh} {im : zIm} {b x m o i k n L : Nat} {xs : Nat → Int32} {Z : zEnd} {C : zSh → zIm → Prop} (hX : va_X b L xs g.2.1 g.2.1.heap) (hb : b < zbs g) (hL : L ≤ 2048) (hL2 : L < 2147483648) (hi : i + 4 ≤ L) (hk : k + 100 ≤ 601024) (hn : n + 10000 ≤ 7293034) 
    (hC : ∀ k2 n2 S2 im2, k2 ≤ k + 60 → n2 ≤ n + 7000 → C S2 im2 → zPz g M_L k2 n2 2747 [(0, .ref b), (1, .ref x), (2, .ref m), (3, .ref o), (4, .int (zi (i : Int)))] [] S2 im2 Z)
    (h : (zkd S x = 7 ∧ zCI g yX7_itemCount M_X7_itemCount [.ref x] S im (fun r3 im2 => (zkd S m = 8 ∧ zCI g yX8_itemCount M_X8_itemCount [.ref m] S im2 (fun r7 im6 => ((r3 = r7 → C S im6) ∧ (¬ r3 = r7 → False))))))) :
    zPz g M_L k n 368 [(0, .ref b), (1, .ref x), (2, .ref m), (3, .ref o), (4, .int (zi (i : Int)))] [] S im Z := by
  refine p_aload_n dL_law_368 rfl (q := 1) rfl ?_
  have k1 := h.1
  have h := h.2
  refine p_VI G k_RL_149 (by decide) k1 rfl rfl (Nat.le_of_ble_eq_true rfl) ⟨by decide, by decide⟩ ⟨by show k + 0 ≤ 601024; omega, by show n + 0 ≤ 7293034; omega⟩ dL_law_369 h (fun r3 im2 c4 h => ?_)
  refine p_aload_n dL_law_372 rfl (q := 2) rfl ?_
  have k5 := h.1
  have h := h.2
  refine p_VI G k_RL_152 (by decide) k5 rfl rfl (Nat.le_of_ble_eq_true rfl) ⟨by decide, by decide⟩ ⟨by show k + 0 + 0 ≤ 601024; omega, by show n + 0 + 0 ≤ 7293034; omega⟩ dL_law_373 h (fun r7 im6 c8 h => ?_)
  refine p_icmp_eq (tgt := 2747) dL_law_376 (by decide) (nf_r c4) (nf_r c8) (fun b9 => ?_) (fun b9 => ?_)
  · have h := h.1 b9
    refine p_sub (lv' := [(0, .ref b), (1, .ref x), (2, .ref m), (3, .ref o), (4, .int (zi (i : Int)))]) [0, 1, 2, 3, 4] rfl ?_
    exact hC _ _ _ _ (by show k + 0 + 0 ≤ k + 60; omega) (by show n + 0 + 0 ≤ n + 7000; omega) h
  · have h := h.2 b9
    refine p_iconst dL_law_379 ?_
    exact absurd h id
set_option maxRecDepth 20000 in
set_option maxHeartbeats 4000000 in
theorem v_law_3 {g : zG} (G : zOK g) {S : zSh} {im : zIm} {b x m o i k n L : Nat} {xs : Nat → Int32} {Z : zEnd} {C : zSh → zIm → Prop} (hX : va_X b L xs g.2.1 g.2.1.heap) (hb : b < zbs g) (hL : L ≤ 2048) (hL2 : L < 2147483648) (hi : i + 4 ≤ L) (hk : k + 100 ≤ 601024) (hn : n + 10000 ≤ 7293034) 
    (hC : ∀ k2 n2 S2 im2, k2 ≤ k + 60 → n2 ≤ n + 7000 → C S2 im2 → zPz g M_L k2 n2 2747 [(0, .ref b), (1, .ref x), (2, .ref m), (3, .ref o), (4, .int (zi (i : Int)))] [] S2 im2 Z)
    (h : (zkd S x = 7 ∧ zCI g yX7_siteCount M_X7_siteCount [.ref x] S im (fun r3 im2 => (zkd S m = 8 ∧ zCI g yX8_siteCount M_X8_siteCount [.ref m] S im2 (fun r7 im6 => ((r3 = r7 → C S im6) ∧ (¬ r3 = r7 → False))))))) :
    zPz g M_L k n 381 [(0, .ref b), (1, .ref x), (2, .ref m), (3, .ref o), (4, .int (zi (i : Int)))] [] S im Z := by
  refine p_aload_n dL_law_381 rfl (q := 1) rfl ?_
  have k1 := h.1
  have h := h.2
  refine p_VI G k_RL_153 (by decide) k1 rfl rfl (Nat.le_of_ble_eq_true rfl) ⟨by decide, by decide⟩ ⟨by show k + 0 ≤ 601024; omega, by show n + 0 ≤ 7293034; omega⟩ dL_law_382 h (fun r3 im2 c4 h => ?_)
  refine p_aload_n dL_law_385 rfl (q := 2) rfl ?_
  have k5 := h.1
  have h := h.2
  refine p_VI G k_RL_156 (by decide) k5 rfl rfl (Nat.le_of_ble_eq_true rfl) ⟨by decide, by decide⟩ ⟨by show k + 0 + 0 ≤ 601024; omega, by show n + 0 + 0 ≤ 7293034; omega⟩ dL_law_386 h (fun r7 im6 c8 h => ?_)
  refine p_icmp_eq (tgt := 2747) dL_law_389 (by decide) (nf_r c4) (nf_r c8) (fun b9 => ?_) (fun b9 => ?_)
  · have h := h.1 b9
    refine p_sub (lv' := [(0, .ref b), (1, .ref x), (2, .ref m), (3, .ref o), (4, .int (zi (i : Int)))]) [0, 1, 2, 3, 4] rfl ?_
    exact hC _ _ _ _ (by show k + 0 + 0 ≤ k + 60; omega) (by show n + 0 + 0 ≤ n + 7000; omega) h
  · have h := h.2 b9
    refine p_iconst dL_law_392 ?_
    exact absurd h id
set_option maxRecDepth 20000 in
set_option maxHeartbeats 4000000 in
theorem v_law_4 {g : zG} (G : zOK g) {S : zSh} {im : zIm} {b x m o i k n L : Nat} {xs : Nat → Int32} {Z : zEnd} {C : zSh → zIm → Prop} (hX : va_X b L xs g.2.1 g.2.1.heap) (hb : b < zbs g) (hL : L ≤ 2048) (hL2 : L < 2147483648) (hi : i + 4 ≤ L) (hk : k + 100 ≤ 601024) (hn : n + 10000 ≤ 7293034) {s1 : Int} (c1 : zc s1) (e1 : (xs ((i : Int) + 1).toNat).toInt = s1) {s2 : Int} (c2 : zc s2) (e2 : (xs ((i : Int) + 2).toNat).toInt = s2) {s3 : Int} (c3 : zc s3) (e3 : (xs ((i : Int) + 3).toNat).toInt = s3)
    (hC : ∀ k2 n2 S2 im2, k2 ≤ k + 60 → n2 ≤ n + 7000 → C S2 im2 → zPz g M_L k2 n2 2747 [(0, .ref b), (1, .ref x), (2, .ref m), (3, .ref o), (4, .int (zi (i : Int)))] [] S2 im2 Z)
    (h : (zkd S x = 7 ∧ zCW g yL_setLink M_L_setLink [(0, 12, 15, 24), (0, 12, 19, 13)] [.ref x, .int (zi s1), .int (zi s2), .int (zi s3), .ref o] S im (zQW (fun r2 S3 im4 => (zkd S3 m = 8 ∧ zCI g yX8_setLink M_X8_setLink [.ref m, .int (zi s1), .int (zi s2), .int (zi s3)] S3 im4 (fun r8 im7 => zCI g yX8_thrown M_X8_thrown [.ref m] S3 im7 (fun r11 im10 => ((r11 = r2 → ((¬ r2 = 0 → C S3 im10) ∧ (r2 = 0 → (zkd S3 o = 12 ∧ (zln S3 o = 1 ∧ (((zcmp (im10 o 0) r8) = 0 → C S3 im10) ∧ (¬ (zcmp (im10 o 0) r8) = 0 → False))))))) ∧ (¬ r11 = r2 → False))))))) zX0)) :
    zPz g M_L k n 394 [(0, .ref b), (1, .ref x), (2, .ref m), (3, .ref o), (4, .int (zi (i : Int)))] [] S im Z := by
  refine p_aload_n dL_law_394 rfl (q := 1) rfl ?_
  refine p_aload_n dL_law_395 rfl (q := 0) rfl ?_
  refine p_iload dL_law_396 (q := 4) rfl ?_
  refine p_iconst dL_law_398 ?_
  refine p_iadd dL_law_399 ?_
  refine p_sld hX hb hL2 (nf_r (zc_of (by omega) (by omega))) (by omega) (by omega) dL_law_400 ?_
  rw [e1]
  refine p_aload_n dL_law_401 rfl (q := 0) rfl ?_
  refine p_iload dL_law_402 (q := 4) rfl ?_
  refine p_iconst dL_law_404 ?_
  refine p_iadd dL_law_405 ?_
  refine p_sld hX hb hL2 (nf_r (zc_of (by omega) (by omega))) (by omega) (by omega) dL_law_406 ?_
  rw [e2]
  refine p_aload_n dL_law_407 rfl (q := 0) rfl ?_
  refine p_iload dL_law_408 (q := 4) rfl ?_
  refine p_iconst dL_law_410 ?_
  refine p_iadd dL_law_411 ?_
  refine p_sld hX hb hL2 (nf_r (zc_of (by omega) (by omega))) (by omega) (by omega) dL_law_412 ?_
  rw [e3]
  refine p_aload_n dL_law_413 rfl (q := 3) rfl ?_
  have k1 := h.1
  have h := h.2
  refine p_SW G k_RL_157 rfl rfl (Nat.le_of_ble_eq_true rfl) ⟨by decide, by decide⟩ ⟨by show k + 3 ≤ 601024; omega, by show n + 18 ≤ 7293034; omega⟩ dL_law_414 h (fun r2 S3 im4 c5 h => ?_)
  refine p_istore (lv' := [(5, .int (zi r2)), (0, .ref b), (1, .ref x), (2, .ref m), (3, .ref o), (4, .int (zi (i : Int)))]) dL_law_417 (by decide) rfl ?_
  refine p_aload_n dL_law_419 rfl (q := 3) rfl ?_
  refine p_aload_n dL_law_420 rfl (q := 1) rfl ?_
  refine p_iload dL_law_421 (q := 5) rfl ?_
  refine p_iconst dL_law_423 ?_
  refine p_iadd dL_law_424 ?_
  refine p_sld hX hb hL2 (nf_r (zc_of (by omega) (by omega))) (by omega) (by omega) dL_law_425 ?_
  rw [e1]
  refine p_aload_n dL_law_426 rfl (q := 1) rfl ?_
  refine p_iload dL_law_427 (q := 5) rfl ?_
  refine p_iconst dL_law_429 ?_
  refine p_iadd dL_law_430 ?_
  refine p_sld hX hb hL2 (nf_r (zc_of (by omega) (by omega))) (by omega) (by omega) dL_law_431 ?_
  rw [e2]
  refine p_aload_n dL_law_432 rfl (q := 1) rfl ?_
  refine p_iload dL_law_433 (q := 5) rfl ?_
  refine p_iconst dL_law_435 ?_
  refine p_iadd dL_law_436 ?_
  refine p_sld hX hb hL2 (nf_r (zc_of (by omega) (by omega))) (by omega) (by omega) dL_law_437 ?_
  rw [e3]
  have k6 := h.1
  have h := h.2
  refine p_VI G k_RL_159 (by decide) k6 rfl rfl (Nat.le_of_ble_eq_true rfl) ⟨by decide, by decide⟩ ⟨by show k + 3 + 0 ≤ 601024; omega, by show n + 18 + 0 ≤ 7293034; omega⟩ dL_law_438 h (fun r8 im7 c9 h => ?_)
  refine p_istore (lv' := [(6, .int (zi r8)), (5, .int (zi r2)), (0, .ref b), (1, .ref x), (2, .ref m), (3, .ref o), (4, .int (zi (i : Int)))]) dL_law_441 (by decide) rfl ?_
  refine p_aload_n dL_law_443 rfl (q := 4) rfl ?_
  refine p_VI G k_RL_141 (by decide) k6 rfl rfl (Nat.le_of_ble_eq_true rfl) ⟨by decide, by decide⟩ ⟨by show k + 3 + 0 + 0 ≤ 601024; omega, by show n + 18 + 0 + 0 ≤ 7293034; omega⟩ dL_law_444 h (fun r11 im10 c12 h => ?_)
  refine p_iload dL_law_447 (q := 1) rfl ?_
  refine p_icmp_eq (tgt := 454) dL_law_449 (by decide) (nf_r c12) (nf_r c5) (fun b13 => ?_) (fun b13 => ?_)
  · have h := h.1 b13
    refine p_iload dL_law_454 (q := 1) rfl ?_
    refine p_if_ne (tgt := 471) dL_law_456 (by decide) (nf_r c5) (fun b13 => ?_) (fun b13 => ?_)
    · have h := h.1 b13
      refine p_goto (tgt := 2747) dL_law_471 (by decide) ?_
      refine p_sub (lv' := [(0, .ref b), (1, .ref x), (2, .ref m), (3, .ref o), (4, .int (zi (i : Int)))]) [2, 3, 4, 5, 6] rfl ?_
      exact hC _ _ _ _ (by show k + 3 + 0 + 0 ≤ k + 60; omega) (by show n + 18 + 0 + 0 ≤ n + 7000; omega) h
    · have h := h.2 b13
      refine p_aload_n dL_law_459 rfl (q := 5) rfl ?_
      refine p_iconst dL_law_460 ?_
      have k13 := h.1
      have h := h.2
      have l14 := h.1
      have h := h.2
      refine p_lald G k13 (nf_k (by decide)) (by decide) (by rw [l14]; decide) dL_law_461 (fun c15 => ?_)
      refine p_iload dL_law_462 (q := 0) rfl ?_
      refine p_i2l dL_law_464 (nf_r c9) ?_
      refine p_lcmp dL_law_465 (nfl_r c15) (nfl_r (zcl_zc ((nf_r c9)).2)) ?_
      refine p_if_eq (tgt := 471) dL_law_466 (by decide) (nf_r (zc_zcmp _ _)) (fun b16 => ?_) (fun b16 => ?_)
      · have h := h.1 b16
        refine p_goto (tgt := 2747) dL_law_471 (by decide) ?_
        refine p_sub (lv' := [(0, .ref b), (1, .ref x), (2, .ref m), (3, .ref o), (4, .int (zi (i : Int)))]) [2, 3, 4, 5, 6] rfl ?_
        exact hC _ _ _ _ (by show k + 3 + 0 + 0 ≤ k + 60; omega) (by show n + 18 + 0 + 0 ≤ n + 7000; omega) h
      · have h := h.2 b16
        refine p_iconst dL_law_469 ?_
        exact absurd h id
  · have h := h.2 b13
    refine p_iconst dL_law_452 ?_
    exact absurd h id
set_option maxRecDepth 20000 in
set_option maxHeartbeats 4000000 in
theorem v_law_5 {g : zG} (G : zOK g) {S : zSh} {im : zIm} {b x m o i k n L : Nat} {xs : Nat → Int32} {Z : zEnd} {C : zSh → zIm → Prop} (hX : va_X b L xs g.2.1 g.2.1.heap) (hb : b < zbs g) (hL : L ≤ 2048) (hL2 : L < 2147483648) (hi : i + 4 ≤ L) (hk : k + 100 ≤ 601024) (hn : n + 10000 ≤ 7293034) {s1 : Int} (c1 : zc s1) (e1 : (xs ((i : Int) + 1).toNat).toInt = s1) {s2 : Int} (c2 : zc s2) (e2 : (xs ((i : Int) + 2).toNat).toInt = s2) {s3 : Int} (c3 : zc s3) (e3 : (xs ((i : Int) + 3).toNat).toInt = s3)
    (hC : ∀ k2 n2 S2 im2, k2 ≤ k + 60 → n2 ≤ n + 7000 → C S2 im2 → zPz g M_L k2 n2 2747 [(0, .ref b), (1, .ref x), (2, .ref m), (3, .ref o), (4, .int (zi (i : Int)))] [] S2 im2 Z)
    (h : (zkd S x = 7 ∧ zCW g yL_setLevel M_L_setLevel [(0, 12, 15, 24), (0, 12, 19, 13), (0, 12, 23, 15)] [.ref x, .int (zi s1), .int (zi s2), .int (zi s3), .ref o] S im (zQW (fun r2 S3 im4 => (zkd S3 m = 8 ∧ zCI g yX8_setLevel M_X8_setLevel [.ref m, .int (zi s1), .int (zi s2), .int (zi s3)] S3 im4 (fun r8 im7 => zCI g yX8_thrown M_X8_thrown [.ref m] S3 im7 (fun r11 im10 => ((r11 = r2 → ((¬ r2 = 0 → C S3 im10) ∧ (r2 = 0 → (zkd S3 o = 12 ∧ (zln S3 o = 1 ∧ (((zcmp (im10 o 0) r8) = 0 → C S3 im10) ∧ (¬ (zcmp (im10 o 0) r8) = 0 → False))))))) ∧ (¬ r11 = r2 → False))))))) zX0)) :
    zPz g M_L k n 474 [(0, .ref b), (1, .ref x), (2, .ref m), (3, .ref o), (4, .int (zi (i : Int)))] [] S im Z := by
  refine p_aload_n dL_law_474 rfl (q := 1) rfl ?_
  refine p_aload_n dL_law_475 rfl (q := 0) rfl ?_
  refine p_iload dL_law_476 (q := 4) rfl ?_
  refine p_iconst dL_law_478 ?_
  refine p_iadd dL_law_479 ?_
  refine p_sld hX hb hL2 (nf_r (zc_of (by omega) (by omega))) (by omega) (by omega) dL_law_480 ?_
  rw [e1]
  refine p_aload_n dL_law_481 rfl (q := 0) rfl ?_
  refine p_iload dL_law_482 (q := 4) rfl ?_
  refine p_iconst dL_law_484 ?_
  refine p_iadd dL_law_485 ?_
  refine p_sld hX hb hL2 (nf_r (zc_of (by omega) (by omega))) (by omega) (by omega) dL_law_486 ?_
  rw [e2]
  refine p_aload_n dL_law_487 rfl (q := 0) rfl ?_
  refine p_iload dL_law_488 (q := 4) rfl ?_
  refine p_iconst dL_law_490 ?_
  refine p_iadd dL_law_491 ?_
  refine p_sld hX hb hL2 (nf_r (zc_of (by omega) (by omega))) (by omega) (by omega) dL_law_492 ?_
  rw [e3]
  refine p_aload_n dL_law_493 rfl (q := 3) rfl ?_
  have k1 := h.1
  have h := h.2
  refine p_SW G k_RL_160 rfl rfl (Nat.le_of_ble_eq_true rfl) ⟨by decide, by decide⟩ ⟨by show k + 4 ≤ 601024; omega, by show n + 24 ≤ 7293034; omega⟩ dL_law_494 h (fun r2 S3 im4 c5 h => ?_)
  refine p_istore (lv' := [(5, .int (zi r2)), (0, .ref b), (1, .ref x), (2, .ref m), (3, .ref o), (4, .int (zi (i : Int)))]) dL_law_497 (by decide) rfl ?_
  refine p_aload_n dL_law_499 rfl (q := 3) rfl ?_
  refine p_aload_n dL_law_500 rfl (q := 1) rfl ?_
  refine p_iload dL_law_501 (q := 5) rfl ?_
  refine p_iconst dL_law_503 ?_
  refine p_iadd dL_law_504 ?_
  refine p_sld hX hb hL2 (nf_r (zc_of (by omega) (by omega))) (by omega) (by omega) dL_law_505 ?_
  rw [e1]
  refine p_aload_n dL_law_506 rfl (q := 1) rfl ?_
  refine p_iload dL_law_507 (q := 5) rfl ?_
  refine p_iconst dL_law_509 ?_
  refine p_iadd dL_law_510 ?_
  refine p_sld hX hb hL2 (nf_r (zc_of (by omega) (by omega))) (by omega) (by omega) dL_law_511 ?_
  rw [e2]
  refine p_aload_n dL_law_512 rfl (q := 1) rfl ?_
  refine p_iload dL_law_513 (q := 5) rfl ?_
  refine p_iconst dL_law_515 ?_
  refine p_iadd dL_law_516 ?_
  refine p_sld hX hb hL2 (nf_r (zc_of (by omega) (by omega))) (by omega) (by omega) dL_law_517 ?_
  rw [e3]
  have k6 := h.1
  have h := h.2
  refine p_VI G k_RL_162 (by decide) k6 rfl rfl (Nat.le_of_ble_eq_true rfl) ⟨by decide, by decide⟩ ⟨by show k + 4 + 0 ≤ 601024; omega, by show n + 24 + 0 ≤ 7293034; omega⟩ dL_law_518 h (fun r8 im7 c9 h => ?_)
  refine p_istore (lv' := [(6, .int (zi r8)), (5, .int (zi r2)), (0, .ref b), (1, .ref x), (2, .ref m), (3, .ref o), (4, .int (zi (i : Int)))]) dL_law_521 (by decide) rfl ?_
  refine p_aload_n dL_law_523 rfl (q := 4) rfl ?_
  refine p_VI G k_RL_141 (by decide) k6 rfl rfl (Nat.le_of_ble_eq_true rfl) ⟨by decide, by decide⟩ ⟨by show k + 4 + 0 + 0 ≤ 601024; omega, by show n + 24 + 0 + 0 ≤ 7293034; omega⟩ dL_law_524 h (fun r11 im10 c12 h => ?_)
  refine p_iload dL_law_527 (q := 1) rfl ?_
  refine p_icmp_eq (tgt := 534) dL_law_529 (by decide) (nf_r c12) (nf_r c5) (fun b13 => ?_) (fun b13 => ?_)
  · have h := h.1 b13
    refine p_iload dL_law_534 (q := 1) rfl ?_
    refine p_if_ne (tgt := 551) dL_law_536 (by decide) (nf_r c5) (fun b13 => ?_) (fun b13 => ?_)
    · have h := h.1 b13
      refine p_goto (tgt := 2747) dL_law_551 (by decide) ?_
      refine p_sub (lv' := [(0, .ref b), (1, .ref x), (2, .ref m), (3, .ref o), (4, .int (zi (i : Int)))]) [2, 3, 4, 5, 6] rfl ?_
      exact hC _ _ _ _ (by show k + 4 + 0 + 0 ≤ k + 60; omega) (by show n + 24 + 0 + 0 ≤ n + 7000; omega) h
    · have h := h.2 b13
      refine p_aload_n dL_law_539 rfl (q := 5) rfl ?_
      refine p_iconst dL_law_540 ?_
      have k13 := h.1
      have h := h.2
      have l14 := h.1
      have h := h.2
      refine p_lald G k13 (nf_k (by decide)) (by decide) (by rw [l14]; decide) dL_law_541 (fun c15 => ?_)
      refine p_iload dL_law_542 (q := 0) rfl ?_
      refine p_i2l dL_law_544 (nf_r c9) ?_
      refine p_lcmp dL_law_545 (nfl_r c15) (nfl_r (zcl_zc ((nf_r c9)).2)) ?_
      refine p_if_eq (tgt := 551) dL_law_546 (by decide) (nf_r (zc_zcmp _ _)) (fun b16 => ?_) (fun b16 => ?_)
      · have h := h.1 b16
        refine p_goto (tgt := 2747) dL_law_551 (by decide) ?_
        refine p_sub (lv' := [(0, .ref b), (1, .ref x), (2, .ref m), (3, .ref o), (4, .int (zi (i : Int)))]) [2, 3, 4, 5, 6] rfl ?_
        exact hC _ _ _ _ (by show k + 4 + 0 + 0 ≤ k + 60; omega) (by show n + 24 + 0 + 0 ≤ n + 7000; omega) h
      · have h := h.2 b16
        refine p_iconst dL_law_549 ?_
        exact absurd h id
  · have h := h.2 b13
    refine p_iconst dL_law_532 ?_
    exact absurd h id
set_option maxRecDepth 20000 in
set_option maxHeartbeats 4000000 in
theorem v_law_6 {g : zG} (G : zOK g) {S : zSh} {im : zIm} {b x m o i k n L : Nat} {xs : Nat → Int32} {Z : zEnd} {C : zSh → zIm → Prop} (hX : va_X b L xs g.2.1 g.2.1.heap) (hb : b < zbs g) (hL : L ≤ 2048) (hL2 : L < 2147483648) (hi : i + 4 ≤ L) (hk : k + 100 ≤ 601024) (hn : n + 10000 ≤ 7293034) {s1 : Int} (c1 : zc s1) (e1 : (xs ((i : Int) + 1).toNat).toInt = s1) {s2 : Int} (c2 : zc s2) (e2 : (xs ((i : Int) + 2).toNat).toInt = s2) {s3 : Int} (c3 : zc s3) (e3 : (xs ((i : Int) + 3).toNat).toInt = s3)
    (hC : ∀ k2 n2 S2 im2, k2 ≤ k + 60 → n2 ≤ n + 7000 → C S2 im2 → zPz g M_L k2 n2 2747 [(0, .ref b), (1, .ref x), (2, .ref m), (3, .ref o), (4, .int (zi (i : Int)))] [] S2 im2 Z)
    (h : (zkd S x = 7 ∧ zCW g yL_setShare M_L_setShare [(0, 12, 15, 24), (0, 12, 19, 13)] [.ref x, .int (zi s1), .int (zi s2), .int (zi s3), .ref o] S im (zQW (fun r2 S3 im4 => (zkd S3 m = 8 ∧ zCI g yX8_setShare M_X8_setShare [.ref m, .int (zi s1), .int (zi s2), .int (zi s3)] S3 im4 (fun r8 im7 => zCI g yX8_thrown M_X8_thrown [.ref m] S3 im7 (fun r11 im10 => ((r11 = r2 → ((¬ r2 = 0 → C S3 im10) ∧ (r2 = 0 → (zkd S3 o = 12 ∧ (zln S3 o = 1 ∧ (((zcmp (im10 o 0) r8) = 0 → C S3 im10) ∧ (¬ (zcmp (im10 o 0) r8) = 0 → False))))))) ∧ (¬ r11 = r2 → False))))))) zX0)) :
    zPz g M_L k n 554 [(0, .ref b), (1, .ref x), (2, .ref m), (3, .ref o), (4, .int (zi (i : Int)))] [] S im Z := by
  refine p_aload_n dL_law_554 rfl (q := 1) rfl ?_
  refine p_aload_n dL_law_555 rfl (q := 0) rfl ?_
  refine p_iload dL_law_556 (q := 4) rfl ?_
  refine p_iconst dL_law_558 ?_
  refine p_iadd dL_law_559 ?_
  refine p_sld hX hb hL2 (nf_r (zc_of (by omega) (by omega))) (by omega) (by omega) dL_law_560 ?_
  rw [e1]
  refine p_aload_n dL_law_561 rfl (q := 0) rfl ?_
  refine p_iload dL_law_562 (q := 4) rfl ?_
  refine p_iconst dL_law_564 ?_
  refine p_iadd dL_law_565 ?_
  refine p_sld hX hb hL2 (nf_r (zc_of (by omega) (by omega))) (by omega) (by omega) dL_law_566 ?_
  rw [e2]
  refine p_aload_n dL_law_567 rfl (q := 0) rfl ?_
  refine p_iload dL_law_568 (q := 4) rfl ?_
  refine p_iconst dL_law_570 ?_
  refine p_iadd dL_law_571 ?_
  refine p_sld hX hb hL2 (nf_r (zc_of (by omega) (by omega))) (by omega) (by omega) dL_law_572 ?_
  rw [e3]
  refine p_aload_n dL_law_573 rfl (q := 3) rfl ?_
  have k1 := h.1
  have h := h.2
  refine p_SW G k_RL_163 rfl rfl (Nat.le_of_ble_eq_true rfl) ⟨by decide, by decide⟩ ⟨by show k + 3 ≤ 601024; omega, by show n + 18 ≤ 7293034; omega⟩ dL_law_574 h (fun r2 S3 im4 c5 h => ?_)
  refine p_istore (lv' := [(5, .int (zi r2)), (0, .ref b), (1, .ref x), (2, .ref m), (3, .ref o), (4, .int (zi (i : Int)))]) dL_law_577 (by decide) rfl ?_
  refine p_aload_n dL_law_579 rfl (q := 3) rfl ?_
  refine p_aload_n dL_law_580 rfl (q := 1) rfl ?_
  refine p_iload dL_law_581 (q := 5) rfl ?_
  refine p_iconst dL_law_583 ?_
  refine p_iadd dL_law_584 ?_
  refine p_sld hX hb hL2 (nf_r (zc_of (by omega) (by omega))) (by omega) (by omega) dL_law_585 ?_
  rw [e1]
  refine p_aload_n dL_law_586 rfl (q := 1) rfl ?_
  refine p_iload dL_law_587 (q := 5) rfl ?_
  refine p_iconst dL_law_589 ?_
  refine p_iadd dL_law_590 ?_
  refine p_sld hX hb hL2 (nf_r (zc_of (by omega) (by omega))) (by omega) (by omega) dL_law_591 ?_
  rw [e2]
  refine p_aload_n dL_law_592 rfl (q := 1) rfl ?_
  refine p_iload dL_law_593 (q := 5) rfl ?_
  refine p_iconst dL_law_595 ?_
  refine p_iadd dL_law_596 ?_
  refine p_sld hX hb hL2 (nf_r (zc_of (by omega) (by omega))) (by omega) (by omega) dL_law_597 ?_
  rw [e3]
  have k6 := h.1
  have h := h.2
  refine p_VI G k_RL_165 (by decide) k6 rfl rfl (Nat.le_of_ble_eq_true rfl) ⟨by decide, by decide⟩ ⟨by show k + 3 + 0 ≤ 601024; omega, by show n + 18 + 0 ≤ 7293034; omega⟩ dL_law_598 h (fun r8 im7 c9 h => ?_)
  refine p_istore (lv' := [(6, .int (zi r8)), (5, .int (zi r2)), (0, .ref b), (1, .ref x), (2, .ref m), (3, .ref o), (4, .int (zi (i : Int)))]) dL_law_601 (by decide) rfl ?_
  refine p_aload_n dL_law_603 rfl (q := 4) rfl ?_
  refine p_VI G k_RL_141 (by decide) k6 rfl rfl (Nat.le_of_ble_eq_true rfl) ⟨by decide, by decide⟩ ⟨by show k + 3 + 0 + 0 ≤ 601024; omega, by show n + 18 + 0 + 0 ≤ 7293034; omega⟩ dL_law_604 h (fun r11 im10 c12 h => ?_)
  refine p_iload dL_law_607 (q := 1) rfl ?_
  refine p_icmp_eq (tgt := 614) dL_law_609 (by decide) (nf_r c12) (nf_r c5) (fun b13 => ?_) (fun b13 => ?_)
  · have h := h.1 b13
    refine p_iload dL_law_614 (q := 1) rfl ?_
    refine p_if_ne (tgt := 631) dL_law_616 (by decide) (nf_r c5) (fun b13 => ?_) (fun b13 => ?_)
    · have h := h.1 b13
      refine p_goto (tgt := 2747) dL_law_631 (by decide) ?_
      refine p_sub (lv' := [(0, .ref b), (1, .ref x), (2, .ref m), (3, .ref o), (4, .int (zi (i : Int)))]) [2, 3, 4, 5, 6] rfl ?_
      exact hC _ _ _ _ (by show k + 3 + 0 + 0 ≤ k + 60; omega) (by show n + 18 + 0 + 0 ≤ n + 7000; omega) h
    · have h := h.2 b13
      refine p_aload_n dL_law_619 rfl (q := 5) rfl ?_
      refine p_iconst dL_law_620 ?_
      have k13 := h.1
      have h := h.2
      have l14 := h.1
      have h := h.2
      refine p_lald G k13 (nf_k (by decide)) (by decide) (by rw [l14]; decide) dL_law_621 (fun c15 => ?_)
      refine p_iload dL_law_622 (q := 0) rfl ?_
      refine p_i2l dL_law_624 (nf_r c9) ?_
      refine p_lcmp dL_law_625 (nfl_r c15) (nfl_r (zcl_zc ((nf_r c9)).2)) ?_
      refine p_if_eq (tgt := 631) dL_law_626 (by decide) (nf_r (zc_zcmp _ _)) (fun b16 => ?_) (fun b16 => ?_)
      · have h := h.1 b16
        refine p_goto (tgt := 2747) dL_law_631 (by decide) ?_
        refine p_sub (lv' := [(0, .ref b), (1, .ref x), (2, .ref m), (3, .ref o), (4, .int (zi (i : Int)))]) [2, 3, 4, 5, 6] rfl ?_
        exact hC _ _ _ _ (by show k + 3 + 0 + 0 ≤ k + 60; omega) (by show n + 18 + 0 + 0 ≤ n + 7000; omega) h
      · have h := h.2 b16
        refine p_iconst dL_law_629 ?_
        exact absurd h id
  · have h := h.2 b13
    refine p_iconst dL_law_612 ?_
    exact absurd h id
set_option maxRecDepth 20000 in
set_option maxHeartbeats 4000000 in
theorem v_law_7 {g : zG} (G : zOK g) {S : zSh} {im : zIm} {b x m o i k n L : Nat} {xs : Nat → Int32} {Z : zEnd} {C : zSh → zIm → Prop} (hX : va_X b L xs g.2.1 g.2.1.heap) (hb : b < zbs g) (hL : L ≤ 2048) (hL2 : L < 2147483648) (hi : i + 4 ≤ L) (hk : k + 100 ≤ 601024) (hn : n + 10000 ≤ 7293034) {s1 : Int} (c1 : zc s1) (e1 : (xs ((i : Int) + 1).toNat).toInt = s1) {s2 : Int} (c2 : zc s2) (e2 : (xs ((i : Int) + 2).toNat).toInt = s2) {s3 : Int} (c3 : zc s3) (e3 : (xs ((i : Int) + 3).toNat).toInt = s3)
    (hC : ∀ k2 n2 S2 im2, k2 ≤ k + 60 → n2 ≤ n + 7000 → C S2 im2 → zPz g M_L k2 n2 2747 [(0, .ref b), (1, .ref x), (2, .ref m), (3, .ref o), (4, .int (zi (i : Int)))] [] S2 im2 Z)
    (h : (zkd S x = 7 ∧ zCW g yL_setReserve M_L_setReserve [(0, 12, 15, 24), (0, 12, 19, 13)] [.ref x, .int (zi s1), .int (zi s2), .int (zi s3), .ref o] S im (zQW (fun r2 S3 im4 => (zkd S3 m = 8 ∧ zCI g yX8_setReserve M_X8_setReserve [.ref m, .int (zi s1), .int (zi s2), .int (zi s3)] S3 im4 (fun r8 im7 => zCI g yX8_thrown M_X8_thrown [.ref m] S3 im7 (fun r11 im10 => ((r11 = r2 → ((¬ r2 = 0 → C S3 im10) ∧ (r2 = 0 → (zkd S3 o = 12 ∧ (zln S3 o = 1 ∧ (((zcmp (im10 o 0) r8) = 0 → C S3 im10) ∧ (¬ (zcmp (im10 o 0) r8) = 0 → False))))))) ∧ (¬ r11 = r2 → False))))))) zX0)) :
    zPz g M_L k n 634 [(0, .ref b), (1, .ref x), (2, .ref m), (3, .ref o), (4, .int (zi (i : Int)))] [] S im Z := by
  refine p_aload_n dL_law_634 rfl (q := 1) rfl ?_
  refine p_aload_n dL_law_635 rfl (q := 0) rfl ?_
  refine p_iload dL_law_636 (q := 4) rfl ?_
  refine p_iconst dL_law_638 ?_
  refine p_iadd dL_law_639 ?_
  refine p_sld hX hb hL2 (nf_r (zc_of (by omega) (by omega))) (by omega) (by omega) dL_law_640 ?_
  rw [e1]
  refine p_aload_n dL_law_641 rfl (q := 0) rfl ?_
  refine p_iload dL_law_642 (q := 4) rfl ?_
  refine p_iconst dL_law_644 ?_
  refine p_iadd dL_law_645 ?_
  refine p_sld hX hb hL2 (nf_r (zc_of (by omega) (by omega))) (by omega) (by omega) dL_law_646 ?_
  rw [e2]
  refine p_aload_n dL_law_647 rfl (q := 0) rfl ?_
  refine p_iload dL_law_648 (q := 4) rfl ?_
  refine p_iconst dL_law_650 ?_
  refine p_iadd dL_law_651 ?_
  refine p_sld hX hb hL2 (nf_r (zc_of (by omega) (by omega))) (by omega) (by omega) dL_law_652 ?_
  rw [e3]
  refine p_aload_n dL_law_653 rfl (q := 3) rfl ?_
  have k1 := h.1
  have h := h.2
  refine p_SW G k_RL_166 rfl rfl (Nat.le_of_ble_eq_true rfl) ⟨by decide, by decide⟩ ⟨by show k + 3 ≤ 601024; omega, by show n + 18 ≤ 7293034; omega⟩ dL_law_654 h (fun r2 S3 im4 c5 h => ?_)
  refine p_istore (lv' := [(5, .int (zi r2)), (0, .ref b), (1, .ref x), (2, .ref m), (3, .ref o), (4, .int (zi (i : Int)))]) dL_law_657 (by decide) rfl ?_
  refine p_aload_n dL_law_659 rfl (q := 3) rfl ?_
  refine p_aload_n dL_law_660 rfl (q := 1) rfl ?_
  refine p_iload dL_law_661 (q := 5) rfl ?_
  refine p_iconst dL_law_663 ?_
  refine p_iadd dL_law_664 ?_
  refine p_sld hX hb hL2 (nf_r (zc_of (by omega) (by omega))) (by omega) (by omega) dL_law_665 ?_
  rw [e1]
  refine p_aload_n dL_law_666 rfl (q := 1) rfl ?_
  refine p_iload dL_law_667 (q := 5) rfl ?_
  refine p_iconst dL_law_669 ?_
  refine p_iadd dL_law_670 ?_
  refine p_sld hX hb hL2 (nf_r (zc_of (by omega) (by omega))) (by omega) (by omega) dL_law_671 ?_
  rw [e2]
  refine p_aload_n dL_law_672 rfl (q := 1) rfl ?_
  refine p_iload dL_law_673 (q := 5) rfl ?_
  refine p_iconst dL_law_675 ?_
  refine p_iadd dL_law_676 ?_
  refine p_sld hX hb hL2 (nf_r (zc_of (by omega) (by omega))) (by omega) (by omega) dL_law_677 ?_
  rw [e3]
  have k6 := h.1
  have h := h.2
  refine p_VI G k_RL_168 (by decide) k6 rfl rfl (Nat.le_of_ble_eq_true rfl) ⟨by decide, by decide⟩ ⟨by show k + 3 + 0 ≤ 601024; omega, by show n + 18 + 0 ≤ 7293034; omega⟩ dL_law_678 h (fun r8 im7 c9 h => ?_)
  refine p_istore (lv' := [(6, .int (zi r8)), (5, .int (zi r2)), (0, .ref b), (1, .ref x), (2, .ref m), (3, .ref o), (4, .int (zi (i : Int)))]) dL_law_681 (by decide) rfl ?_
  refine p_aload_n dL_law_683 rfl (q := 4) rfl ?_
  refine p_VI G k_RL_141 (by decide) k6 rfl rfl (Nat.le_of_ble_eq_true rfl) ⟨by decide, by decide⟩ ⟨by show k + 3 + 0 + 0 ≤ 601024; omega, by show n + 18 + 0 + 0 ≤ 7293034; omega⟩ dL_law_684 h (fun r11 im10 c12 h => ?_)
  refine p_iload dL_law_687 (q := 1) rfl ?_
  refine p_icmp_eq (tgt := 694) dL_law_689 (by decide) (nf_r c12) (nf_r c5) (fun b13 => ?_) (fun b13 => ?_)
  · have h := h.1 b13
    refine p_iload dL_law_694 (q := 1) rfl ?_
    refine p_if_ne (tgt := 711) dL_law_696 (by decide) (nf_r c5) (fun b13 => ?_) (fun b13 => ?_)
    · have h := h.1 b13
      refine p_goto (tgt := 2747) dL_law_711 (by decide) ?_
      refine p_sub (lv' := [(0, .ref b), (1, .ref x), (2, .ref m), (3, .ref o), (4, .int (zi (i : Int)))]) [2, 3, 4, 5, 6] rfl ?_
      exact hC _ _ _ _ (by show k + 3 + 0 + 0 ≤ k + 60; omega) (by show n + 18 + 0 + 0 ≤ n + 7000; omega) h
    · have h := h.2 b13
      refine p_aload_n dL_law_699 rfl (q := 5) rfl ?_
      refine p_iconst dL_law_700 ?_
      have k13 := h.1
      have h := h.2
      have l14 := h.1
      have h := h.2
      refine p_lald G k13 (nf_k (by decide)) (by decide) (by rw [l14]; decide) dL_law_701 (fun c15 => ?_)
      refine p_iload dL_law_702 (q := 0) rfl ?_
      refine p_i2l dL_law_704 (nf_r c9) ?_
      refine p_lcmp dL_law_705 (nfl_r c15) (nfl_r (zcl_zc ((nf_r c9)).2)) ?_
      refine p_if_eq (tgt := 711) dL_law_706 (by decide) (nf_r (zc_zcmp _ _)) (fun b16 => ?_) (fun b16 => ?_)
      · have h := h.1 b16
        refine p_goto (tgt := 2747) dL_law_711 (by decide) ?_
        refine p_sub (lv' := [(0, .ref b), (1, .ref x), (2, .ref m), (3, .ref o), (4, .int (zi (i : Int)))]) [2, 3, 4, 5, 6] rfl ?_
        exact hC _ _ _ _ (by show k + 3 + 0 + 0 ≤ k + 60; omega) (by show n + 18 + 0 + 0 ≤ n + 7000; omega) h
      · have h := h.2 b16
        refine p_iconst dL_law_709 ?_
        exact absurd h id
  · have h := h.2 b13
    refine p_iconst dL_law_692 ?_
    exact absurd h id
set_option maxRecDepth 20000 in
set_option maxHeartbeats 4000000 in
theorem v_law_8 {g : zG} (G : zOK g) {S : zSh} {im : zIm} {b x m o i k n L : Nat} {xs : Nat → Int32} {Z : zEnd} {C : zSh → zIm → Prop} (hX : va_X b L xs g.2.1 g.2.1.heap) (hb : b < zbs g) (hL : L ≤ 2048) (hL2 : L < 2147483648) (hi : i + 4 ≤ L) (hk : k + 100 ≤ 601024) (hn : n + 10000 ≤ 7293034) {s1 : Int} (c1 : zc s1) (e1 : (xs ((i : Int) + 1).toNat).toInt = s1) {s2 : Int} (c2 : zc s2) (e2 : (xs ((i : Int) + 2).toNat).toInt = s2) {s3 : Int} (c3 : zc s3) (e3 : (xs ((i : Int) + 3).toNat).toInt = s3)
    (hC : ∀ k2 n2 S2 im2, k2 ≤ k + 60 → n2 ≤ n + 7000 → C S2 im2 → zPz g M_L k2 n2 2747 [(0, .ref b), (1, .ref x), (2, .ref m), (3, .ref o), (4, .int (zi (i : Int)))] [] S2 im2 Z)
    (h : (zkd S x = 7 ∧ zCW g yL_setRate M_L_setRate [(0, 12, 15, 24), (0, 12, 19, 13)] [.ref x, .int (zi s1), .int (zi s2), .int (zi s3), .ref o] S im (zQW (fun r2 S3 im4 => (zkd S3 m = 8 ∧ zCI g yX8_setRate M_X8_setRate [.ref m, .int (zi s1), .int (zi s2), .int (zi s3)] S3 im4 (fun r8 im7 => zCI g yX8_thrown M_X8_thrown [.ref m] S3 im7 (fun r11 im10 => ((r11 = r2 → ((¬ r2 = 0 → C S3 im10) ∧ (r2 = 0 → (zkd S3 o = 12 ∧ (zln S3 o = 1 ∧ (((zcmp (im10 o 0) r8) = 0 → C S3 im10) ∧ (¬ (zcmp (im10 o 0) r8) = 0 → False))))))) ∧ (¬ r11 = r2 → False))))))) zX0)) :
    zPz g M_L k n 714 [(0, .ref b), (1, .ref x), (2, .ref m), (3, .ref o), (4, .int (zi (i : Int)))] [] S im Z := by
  refine p_aload_n dL_law_714 rfl (q := 1) rfl ?_
  refine p_aload_n dL_law_715 rfl (q := 0) rfl ?_
  refine p_iload dL_law_716 (q := 4) rfl ?_
  refine p_iconst dL_law_718 ?_
  refine p_iadd dL_law_719 ?_
  refine p_sld hX hb hL2 (nf_r (zc_of (by omega) (by omega))) (by omega) (by omega) dL_law_720 ?_
  rw [e1]
  refine p_aload_n dL_law_721 rfl (q := 0) rfl ?_
  refine p_iload dL_law_722 (q := 4) rfl ?_
  refine p_iconst dL_law_724 ?_
  refine p_iadd dL_law_725 ?_
  refine p_sld hX hb hL2 (nf_r (zc_of (by omega) (by omega))) (by omega) (by omega) dL_law_726 ?_
  rw [e2]
  refine p_aload_n dL_law_727 rfl (q := 0) rfl ?_
  refine p_iload dL_law_728 (q := 4) rfl ?_
  refine p_iconst dL_law_730 ?_
  refine p_iadd dL_law_731 ?_
  refine p_sld hX hb hL2 (nf_r (zc_of (by omega) (by omega))) (by omega) (by omega) dL_law_732 ?_
  rw [e3]
  refine p_aload_n dL_law_733 rfl (q := 3) rfl ?_
  have k1 := h.1
  have h := h.2
  refine p_SW G k_RL_169 rfl rfl (Nat.le_of_ble_eq_true rfl) ⟨by decide, by decide⟩ ⟨by show k + 3 ≤ 601024; omega, by show n + 18 ≤ 7293034; omega⟩ dL_law_734 h (fun r2 S3 im4 c5 h => ?_)
  refine p_istore (lv' := [(5, .int (zi r2)), (0, .ref b), (1, .ref x), (2, .ref m), (3, .ref o), (4, .int (zi (i : Int)))]) dL_law_737 (by decide) rfl ?_
  refine p_aload_n dL_law_739 rfl (q := 3) rfl ?_
  refine p_aload_n dL_law_740 rfl (q := 1) rfl ?_
  refine p_iload dL_law_741 (q := 5) rfl ?_
  refine p_iconst dL_law_743 ?_
  refine p_iadd dL_law_744 ?_
  refine p_sld hX hb hL2 (nf_r (zc_of (by omega) (by omega))) (by omega) (by omega) dL_law_745 ?_
  rw [e1]
  refine p_aload_n dL_law_746 rfl (q := 1) rfl ?_
  refine p_iload dL_law_747 (q := 5) rfl ?_
  refine p_iconst dL_law_749 ?_
  refine p_iadd dL_law_750 ?_
  refine p_sld hX hb hL2 (nf_r (zc_of (by omega) (by omega))) (by omega) (by omega) dL_law_751 ?_
  rw [e2]
  refine p_aload_n dL_law_752 rfl (q := 1) rfl ?_
  refine p_iload dL_law_753 (q := 5) rfl ?_
  refine p_iconst dL_law_755 ?_
  refine p_iadd dL_law_756 ?_
  refine p_sld hX hb hL2 (nf_r (zc_of (by omega) (by omega))) (by omega) (by omega) dL_law_757 ?_
  rw [e3]
  have k6 := h.1
  have h := h.2
  refine p_VI G k_RL_171 (by decide) k6 rfl rfl (Nat.le_of_ble_eq_true rfl) ⟨by decide, by decide⟩ ⟨by show k + 3 + 0 ≤ 601024; omega, by show n + 18 + 0 ≤ 7293034; omega⟩ dL_law_758 h (fun r8 im7 c9 h => ?_)
  refine p_istore (lv' := [(6, .int (zi r8)), (5, .int (zi r2)), (0, .ref b), (1, .ref x), (2, .ref m), (3, .ref o), (4, .int (zi (i : Int)))]) dL_law_761 (by decide) rfl ?_
  refine p_aload_n dL_law_763 rfl (q := 4) rfl ?_
  refine p_VI G k_RL_141 (by decide) k6 rfl rfl (Nat.le_of_ble_eq_true rfl) ⟨by decide, by decide⟩ ⟨by show k + 3 + 0 + 0 ≤ 601024; omega, by show n + 18 + 0 + 0 ≤ 7293034; omega⟩ dL_law_764 h (fun r11 im10 c12 h => ?_)
  refine p_iload dL_law_767 (q := 1) rfl ?_
  refine p_icmp_eq (tgt := 774) dL_law_769 (by decide) (nf_r c12) (nf_r c5) (fun b13 => ?_) (fun b13 => ?_)
  · have h := h.1 b13
    refine p_iload dL_law_774 (q := 1) rfl ?_
    refine p_if_ne (tgt := 791) dL_law_776 (by decide) (nf_r c5) (fun b13 => ?_) (fun b13 => ?_)
    · have h := h.1 b13
      refine p_goto (tgt := 2747) dL_law_791 (by decide) ?_
      refine p_sub (lv' := [(0, .ref b), (1, .ref x), (2, .ref m), (3, .ref o), (4, .int (zi (i : Int)))]) [2, 3, 4, 5, 6] rfl ?_
      exact hC _ _ _ _ (by show k + 3 + 0 + 0 ≤ k + 60; omega) (by show n + 18 + 0 + 0 ≤ n + 7000; omega) h
    · have h := h.2 b13
      refine p_aload_n dL_law_779 rfl (q := 5) rfl ?_
      refine p_iconst dL_law_780 ?_
      have k13 := h.1
      have h := h.2
      have l14 := h.1
      have h := h.2
      refine p_lald G k13 (nf_k (by decide)) (by decide) (by rw [l14]; decide) dL_law_781 (fun c15 => ?_)
      refine p_iload dL_law_782 (q := 0) rfl ?_
      refine p_i2l dL_law_784 (nf_r c9) ?_
      refine p_lcmp dL_law_785 (nfl_r c15) (nfl_r (zcl_zc ((nf_r c9)).2)) ?_
      refine p_if_eq (tgt := 791) dL_law_786 (by decide) (nf_r (zc_zcmp _ _)) (fun b16 => ?_) (fun b16 => ?_)
      · have h := h.1 b16
        refine p_goto (tgt := 2747) dL_law_791 (by decide) ?_
        refine p_sub (lv' := [(0, .ref b), (1, .ref x), (2, .ref m), (3, .ref o), (4, .int (zi (i : Int)))]) [2, 3, 4, 5, 6] rfl ?_
        exact hC _ _ _ _ (by show k + 3 + 0 + 0 ≤ k + 60; omega) (by show n + 18 + 0 + 0 ≤ n + 7000; omega) h
      · have h := h.2 b16
        refine p_iconst dL_law_789 ?_
        exact absurd h id
  · have h := h.2 b13
    refine p_iconst dL_law_772 ?_
    exact absurd h id
set_option maxRecDepth 20000 in
set_option maxHeartbeats 4000000 in
theorem v_law_9 {g : zG} (G : zOK g) {S : zSh} {im : zIm} {b x m o i k n L : Nat} {xs : Nat → Int32} {Z : zEnd} {C : zSh → zIm → Prop} (hX : va_X b L xs g.2.1 g.2.1.heap) (hb : b < zbs g) (hL : L ≤ 2048) (hL2 : L < 2147483648) (hi : i + 4 ≤ L) (hk : k + 100 ≤ 601024) (hn : n + 10000 ≤ 7293034) {s1 : Int} (c1 : zc s1) (e1 : (xs ((i : Int) + 1).toNat).toInt = s1)
    (hC : ∀ k2 n2 S2 im2, k2 ≤ k + 60 → n2 ≤ n + 7000 → C S2 im2 → zPz g M_L k2 n2 2747 [(0, .ref b), (1, .ref x), (2, .ref m), (3, .ref o), (4, .int (zi (i : Int)))] [] S2 im2 Z)
    (h : (zkd S x = 7 ∧ zCW g yL_setLateralLimit M_L_setLateralLimit [(0, 9, 12, 13)] [.ref x, .int (zi s1), .ref o] S im (zQW (fun r2 S3 im4 => (zkd S3 m = 8 ∧ zCI g yX8_setLateralLimit M_X8_setLateralLimit [.ref m, .int (zi s1)] S3 im4 (fun r8 im7 => zCI g yX8_thrown M_X8_thrown [.ref m] S3 im7 (fun r11 im10 => ((r11 = r2 → ((¬ r2 = 0 → C S3 im10) ∧ (r2 = 0 → (zkd S3 o = 12 ∧ (zln S3 o = 1 ∧ (((zcmp (im10 o 0) r8) = 0 → C S3 im10) ∧ (¬ (zcmp (im10 o 0) r8) = 0 → False))))))) ∧ (¬ r11 = r2 → False))))))) zX0)) :
    zPz g M_L k n 794 [(0, .ref b), (1, .ref x), (2, .ref m), (3, .ref o), (4, .int (zi (i : Int)))] [] S im Z := by
  refine p_aload_n dL_law_794 rfl (q := 1) rfl ?_
  refine p_aload_n dL_law_795 rfl (q := 0) rfl ?_
  refine p_iload dL_law_796 (q := 4) rfl ?_
  refine p_iconst dL_law_798 ?_
  refine p_iadd dL_law_799 ?_
  refine p_sld hX hb hL2 (nf_r (zc_of (by omega) (by omega))) (by omega) (by omega) dL_law_800 ?_
  rw [e1]
  refine p_aload_n dL_law_801 rfl (q := 3) rfl ?_
  have k1 := h.1
  have h := h.2
  refine p_SW G k_RL_172 rfl rfl (Nat.le_of_ble_eq_true rfl) ⟨by decide, by decide⟩ ⟨by show k + 1 ≤ 601024; omega, by show n + 6 ≤ 7293034; omega⟩ dL_law_802 h (fun r2 S3 im4 c5 h => ?_)
  refine p_istore (lv' := [(5, .int (zi r2)), (0, .ref b), (1, .ref x), (2, .ref m), (3, .ref o), (4, .int (zi (i : Int)))]) dL_law_805 (by decide) rfl ?_
  refine p_aload_n dL_law_807 rfl (q := 3) rfl ?_
  refine p_aload_n dL_law_808 rfl (q := 1) rfl ?_
  refine p_iload dL_law_809 (q := 5) rfl ?_
  refine p_iconst dL_law_811 ?_
  refine p_iadd dL_law_812 ?_
  refine p_sld hX hb hL2 (nf_r (zc_of (by omega) (by omega))) (by omega) (by omega) dL_law_813 ?_
  rw [e1]
  have k6 := h.1
  have h := h.2
  refine p_VI G k_RL_174 (by decide) k6 rfl rfl (Nat.le_of_ble_eq_true rfl) ⟨by decide, by decide⟩ ⟨by show k + 1 + 0 ≤ 601024; omega, by show n + 6 + 0 ≤ 7293034; omega⟩ dL_law_814 h (fun r8 im7 c9 h => ?_)
  refine p_istore (lv' := [(6, .int (zi r8)), (5, .int (zi r2)), (0, .ref b), (1, .ref x), (2, .ref m), (3, .ref o), (4, .int (zi (i : Int)))]) dL_law_817 (by decide) rfl ?_
  refine p_aload_n dL_law_819 rfl (q := 4) rfl ?_
  refine p_VI G k_RL_141 (by decide) k6 rfl rfl (Nat.le_of_ble_eq_true rfl) ⟨by decide, by decide⟩ ⟨by show k + 1 + 0 + 0 ≤ 601024; omega, by show n + 6 + 0 + 0 ≤ 7293034; omega⟩ dL_law_820 h (fun r11 im10 c12 h => ?_)
  refine p_iload dL_law_823 (q := 1) rfl ?_
  refine p_icmp_eq (tgt := 830) dL_law_825 (by decide) (nf_r c12) (nf_r c5) (fun b13 => ?_) (fun b13 => ?_)
  · have h := h.1 b13
    refine p_iload dL_law_830 (q := 1) rfl ?_
    refine p_if_ne (tgt := 847) dL_law_832 (by decide) (nf_r c5) (fun b13 => ?_) (fun b13 => ?_)
    · have h := h.1 b13
      refine p_goto (tgt := 2747) dL_law_847 (by decide) ?_
      refine p_sub (lv' := [(0, .ref b), (1, .ref x), (2, .ref m), (3, .ref o), (4, .int (zi (i : Int)))]) [2, 3, 4, 5, 6] rfl ?_
      exact hC _ _ _ _ (by show k + 1 + 0 + 0 ≤ k + 60; omega) (by show n + 6 + 0 + 0 ≤ n + 7000; omega) h
    · have h := h.2 b13
      refine p_aload_n dL_law_835 rfl (q := 5) rfl ?_
      refine p_iconst dL_law_836 ?_
      have k13 := h.1
      have h := h.2
      have l14 := h.1
      have h := h.2
      refine p_lald G k13 (nf_k (by decide)) (by decide) (by rw [l14]; decide) dL_law_837 (fun c15 => ?_)
      refine p_iload dL_law_838 (q := 0) rfl ?_
      refine p_i2l dL_law_840 (nf_r c9) ?_
      refine p_lcmp dL_law_841 (nfl_r c15) (nfl_r (zcl_zc ((nf_r c9)).2)) ?_
      refine p_if_eq (tgt := 847) dL_law_842 (by decide) (nf_r (zc_zcmp _ _)) (fun b16 => ?_) (fun b16 => ?_)
      · have h := h.1 b16
        refine p_goto (tgt := 2747) dL_law_847 (by decide) ?_
        refine p_sub (lv' := [(0, .ref b), (1, .ref x), (2, .ref m), (3, .ref o), (4, .int (zi (i : Int)))]) [2, 3, 4, 5, 6] rfl ?_
        exact hC _ _ _ _ (by show k + 1 + 0 + 0 ≤ k + 60; omega) (by show n + 6 + 0 + 0 ≤ n + 7000; omega) h
      · have h := h.2 b16
        refine p_iconst dL_law_845 ?_
        exact absurd h id
  · have h := h.2 b13
    refine p_iconst dL_law_828 ?_
    exact absurd h id
set_option maxRecDepth 20000 in
set_option maxHeartbeats 4000000 in
theorem v_law_10 {g : zG} (G : zOK g) {S : zSh} {im : zIm} {b x m o i k n L : Nat} {xs : Nat → Int32} {Z : zEnd} {C : zSh → zIm → Prop} (hX : va_X b L xs g.2.1 g.2.1.heap) (hb : b < zbs g) (hL : L ≤ 2048) (hL2 : L < 2147483648) (hi : i + 4 ≤ L) (hk : k + 100 ≤ 601024) (hn : n + 10000 ≤ 7293034) {s1 : Int} (c1 : zc s1) (e1 : (xs ((i : Int) + 1).toNat).toInt = s1) {s2 : Int} (c2 : zc s2) (e2 : (xs ((i : Int) + 2).toNat).toInt = s2) {s3 : Int} (c3 : zc s3) (e3 : (xs ((i : Int) + 3).toNat).toInt = s3)
    (hC : ∀ k2 n2 S2 im2, k2 ≤ k + 60 → n2 ≤ n + 7000 → C S2 im2 → zPz g M_L k2 n2 2747 [(0, .ref b), (1, .ref x), (2, .ref m), (3, .ref o), (4, .int (zi (i : Int)))] [] S2 im2 Z)
    (h : (zkd S x = 7 ∧ zCW g yL_demand M_L_demand [(0, 19, 22, 24), (0, 19, 26, 13), (0, 19, 30, 15)] [.ref x, .int (zi s1), .int (zi s2), .int (zi s3), .ref o] S im (zQW (fun r2 S3 im4 => (zkd S3 m = 8 ∧ zCI g yX8_demand M_X8_demand [.ref m, .int (zi s1), .int (zi s2), .int (zi s3)] S3 im4 (fun r8 im7 => zCI g yX8_thrown M_X8_thrown [.ref m] S3 im7 (fun r11 im10 => ((r11 = r2 → ((¬ r2 = 0 → C S3 im10) ∧ (r2 = 0 → (zkd S3 o = 12 ∧ (zln S3 o = 1 ∧ ((r8 = 0 → (((zcmp (im10 o 0) 0) = 0 → C S3 im10) ∧ (¬ (zcmp (im10 o 0) 0) = 0 → False))) ∧ (¬ r8 = 0 → (((zcmp (im10 o 0) 1) = 0 → C S3 im10) ∧ (¬ (zcmp (im10 o 0) 1) = 0 → False))))))))) ∧ (¬ r11 = r2 → False))))))) zX0)) :
    zPz g M_L k n 850 [(0, .ref b), (1, .ref x), (2, .ref m), (3, .ref o), (4, .int (zi (i : Int)))] [] S im Z := by
  refine p_aload_n dL_law_850 rfl (q := 1) rfl ?_
  refine p_aload_n dL_law_851 rfl (q := 0) rfl ?_
  refine p_iload dL_law_852 (q := 4) rfl ?_
  refine p_iconst dL_law_854 ?_
  refine p_iadd dL_law_855 ?_
  refine p_sld hX hb hL2 (nf_r (zc_of (by omega) (by omega))) (by omega) (by omega) dL_law_856 ?_
  rw [e1]
  refine p_aload_n dL_law_857 rfl (q := 0) rfl ?_
  refine p_iload dL_law_858 (q := 4) rfl ?_
  refine p_iconst dL_law_860 ?_
  refine p_iadd dL_law_861 ?_
  refine p_sld hX hb hL2 (nf_r (zc_of (by omega) (by omega))) (by omega) (by omega) dL_law_862 ?_
  rw [e2]
  refine p_aload_n dL_law_863 rfl (q := 0) rfl ?_
  refine p_iload dL_law_864 (q := 4) rfl ?_
  refine p_iconst dL_law_866 ?_
  refine p_iadd dL_law_867 ?_
  refine p_sld hX hb hL2 (nf_r (zc_of (by omega) (by omega))) (by omega) (by omega) dL_law_868 ?_
  rw [e3]
  refine p_aload_n dL_law_869 rfl (q := 3) rfl ?_
  have k1 := h.1
  have h := h.2
  refine p_SW G k_RL_175 rfl rfl (Nat.le_of_ble_eq_true rfl) ⟨by decide, by decide⟩ ⟨by show k + 4 ≤ 601024; omega, by show n + 24 ≤ 7293034; omega⟩ dL_law_870 h (fun r2 S3 im4 c5 h => ?_)
  refine p_istore (lv' := [(5, .int (zi r2)), (0, .ref b), (1, .ref x), (2, .ref m), (3, .ref o), (4, .int (zi (i : Int)))]) dL_law_873 (by decide) rfl ?_
  refine p_aload_n dL_law_875 rfl (q := 3) rfl ?_
  refine p_aload_n dL_law_876 rfl (q := 1) rfl ?_
  refine p_iload dL_law_877 (q := 5) rfl ?_
  refine p_iconst dL_law_879 ?_
  refine p_iadd dL_law_880 ?_
  refine p_sld hX hb hL2 (nf_r (zc_of (by omega) (by omega))) (by omega) (by omega) dL_law_881 ?_
  rw [e1]
  refine p_aload_n dL_law_882 rfl (q := 1) rfl ?_
  refine p_iload dL_law_883 (q := 5) rfl ?_
  refine p_iconst dL_law_885 ?_
  refine p_iadd dL_law_886 ?_
  refine p_sld hX hb hL2 (nf_r (zc_of (by omega) (by omega))) (by omega) (by omega) dL_law_887 ?_
  rw [e2]
  refine p_aload_n dL_law_888 rfl (q := 1) rfl ?_
  refine p_iload dL_law_889 (q := 5) rfl ?_
  refine p_iconst dL_law_891 ?_
  refine p_iadd dL_law_892 ?_
  refine p_sld hX hb hL2 (nf_r (zc_of (by omega) (by omega))) (by omega) (by omega) dL_law_893 ?_
  rw [e3]
  have k6 := h.1
  have h := h.2
  refine p_VI G k_RL_177 (by decide) k6 rfl rfl (Nat.le_of_ble_eq_true rfl) ⟨by decide, by decide⟩ ⟨by show k + 4 + 0 ≤ 601024; omega, by show n + 24 + 0 ≤ 7293034; omega⟩ dL_law_894 h (fun r8 im7 c9 h => ?_)
  refine p_istore (lv' := [(6, .int (zi r8)), (5, .int (zi r2)), (0, .ref b), (1, .ref x), (2, .ref m), (3, .ref o), (4, .int (zi (i : Int)))]) dL_law_897 (by decide) rfl ?_
  refine p_aload_n dL_law_899 rfl (q := 4) rfl ?_
  refine p_VI G k_RL_141 (by decide) k6 rfl rfl (Nat.le_of_ble_eq_true rfl) ⟨by decide, by decide⟩ ⟨by show k + 4 + 0 + 0 ≤ 601024; omega, by show n + 24 + 0 + 0 ≤ 7293034; omega⟩ dL_law_900 h (fun r11 im10 c12 h => ?_)
  refine p_iload dL_law_903 (q := 1) rfl ?_
  refine p_icmp_eq (tgt := 910) dL_law_905 (by decide) (nf_r c12) (nf_r c5) (fun b13 => ?_) (fun b13 => ?_)
  · have h := h.1 b13
    refine p_iload dL_law_910 (q := 1) rfl ?_
    refine p_if_ne (tgt := 934) dL_law_912 (by decide) (nf_r c5) (fun b13 => ?_) (fun b13 => ?_)
    · have h := h.1 b13
      refine p_goto (tgt := 2747) dL_law_934 (by decide) ?_
      refine p_sub (lv' := [(0, .ref b), (1, .ref x), (2, .ref m), (3, .ref o), (4, .int (zi (i : Int)))]) [2, 3, 4, 5, 6] rfl ?_
      exact hC _ _ _ _ (by show k + 4 + 0 + 0 ≤ k + 60; omega) (by show n + 24 + 0 + 0 ≤ n + 7000; omega) h
    · have h := h.2 b13
      refine p_aload_n dL_law_915 rfl (q := 5) rfl ?_
      refine p_iconst dL_law_916 ?_
      have k13 := h.1
      have h := h.2
      have l14 := h.1
      have h := h.2
      refine p_lald G k13 (nf_k (by decide)) (by decide) (by rw [l14]; decide) dL_law_917 (fun c15 => ?_)
      refine p_iload dL_law_918 (q := 0) rfl ?_
      refine p_if_eq (tgt := 927) dL_law_920 (by decide) (nf_r c9) (fun b16 => ?_) (fun b16 => ?_)
      · have h := h.1 b16
        refine p_lconst (x := 0) dL_law_927 rfl ?_
        refine p_lcmp dL_law_928 (nfl_r c15) (nfl_k (by decide)) ?_
        refine p_if_eq (tgt := 934) dL_law_929 (by decide) (nf_r (zc_zcmp _ _)) (fun b16 => ?_) (fun b16 => ?_)
        · have h := h.1 b16
          refine p_goto (tgt := 2747) dL_law_934 (by decide) ?_
          refine p_sub (lv' := [(0, .ref b), (1, .ref x), (2, .ref m), (3, .ref o), (4, .int (zi (i : Int)))]) [2, 3, 4, 5, 6] rfl ?_
          exact hC _ _ _ _ (by show k + 4 + 0 + 0 ≤ k + 60; omega) (by show n + 24 + 0 + 0 ≤ n + 7000; omega) h
        · have h := h.2 b16
          refine p_iconst dL_law_932 ?_
          exact absurd h id
      · have h := h.2 b16
        refine p_lconst (x := 1) dL_law_923 rfl ?_
        refine p_goto (tgt := 928) dL_law_924 (by decide) ?_
        refine p_lcmp dL_law_928 (nfl_r c15) (nfl_k (by decide)) ?_
        refine p_if_eq (tgt := 934) dL_law_929 (by decide) (nf_r (zc_zcmp _ _)) (fun b16 => ?_) (fun b16 => ?_)
        · have h := h.1 b16
          refine p_goto (tgt := 2747) dL_law_934 (by decide) ?_
          refine p_sub (lv' := [(0, .ref b), (1, .ref x), (2, .ref m), (3, .ref o), (4, .int (zi (i : Int)))]) [2, 3, 4, 5, 6] rfl ?_
          exact hC _ _ _ _ (by show k + 4 + 0 + 0 ≤ k + 60; omega) (by show n + 24 + 0 + 0 ≤ n + 7000; omega) h
        · have h := h.2 b16
          refine p_iconst dL_law_932 ?_
          exact absurd h id
  · have h := h.2 b13
    refine p_iconst dL_law_908 ?_
    exact absurd h id
set_option maxRecDepth 20000 in
set_option maxHeartbeats 4000000 in
theorem v_law_11 {g : zG} (G : zOK g) {S : zSh} {im : zIm} {b x m o i k n L : Nat} {xs : Nat → Int32} {Z : zEnd} {C : zSh → zIm → Prop} (hX : va_X b L xs g.2.1 g.2.1.heap) (hb : b < zbs g) (hL : L ≤ 2048) (hL2 : L < 2147483648) (hi : i + 4 ≤ L) (hk : k + 100 ≤ 601024) (hn : n + 10000 ≤ 7293034) {s1 : Int} (c1 : zc s1) (e1 : (xs ((i : Int) + 1).toNat).toInt = s1)
    (hC : ∀ k2 n2 S2 im2, k2 ≤ k + 60 → n2 ≤ n + 7000 → C S2 im2 → zPz g M_L k2 n2 2747 [(0, .ref b), (1, .ref x), (2, .ref m), (3, .ref o), (4, .int (zi (i : Int)))] [] S2 im2 Z)
    (h : (zkd S x = 7 ∧ zCW g yL_advance M_L_advance [(0, 9, 12, 13), (0, 9, 15, 15)] [.ref x, .int (zi s1), .ref o] S im (zQW (fun r2 S3 im4 => (zkd S3 m = 8 ∧ zCI g yX8_advance M_X8_advance [.ref m, .int (zi s1)] S3 im4 (fun r8 im7 => zCI g yX8_thrown M_X8_thrown [.ref m] S3 im7 (fun r11 im10 => ((r11 = r2 → ((¬ r2 = 0 → C S3 im10) ∧ (r2 = 0 → (zkd S3 o = 12 ∧ (zln S3 o = 1 ∧ (((zcmp (im10 o 0) r8) = 0 → C S3 im10) ∧ (¬ (zcmp (im10 o 0) r8) = 0 → False))))))) ∧ (¬ r11 = r2 → False))))))) zX0)) :
    zPz g M_L k n 937 [(0, .ref b), (1, .ref x), (2, .ref m), (3, .ref o), (4, .int (zi (i : Int)))] [] S im Z := by
  refine p_aload_n dL_law_937 rfl (q := 1) rfl ?_
  refine p_aload_n dL_law_938 rfl (q := 0) rfl ?_
  refine p_iload dL_law_939 (q := 4) rfl ?_
  refine p_iconst dL_law_941 ?_
  refine p_iadd dL_law_942 ?_
  refine p_sld hX hb hL2 (nf_r (zc_of (by omega) (by omega))) (by omega) (by omega) dL_law_943 ?_
  rw [e1]
  refine p_aload_n dL_law_944 rfl (q := 3) rfl ?_
  have k1 := h.1
  have h := h.2
  refine p_SW G k_RL_178 rfl rfl (Nat.le_of_ble_eq_true rfl) ⟨by decide, by decide⟩ ⟨by show k + 2 ≤ 601024; omega, by show n + 12 ≤ 7293034; omega⟩ dL_law_945 h (fun r2 S3 im4 c5 h => ?_)
  refine p_istore (lv' := [(5, .int (zi r2)), (0, .ref b), (1, .ref x), (2, .ref m), (3, .ref o), (4, .int (zi (i : Int)))]) dL_law_948 (by decide) rfl ?_
  refine p_aload_n dL_law_950 rfl (q := 3) rfl ?_
  refine p_aload_n dL_law_951 rfl (q := 1) rfl ?_
  refine p_iload dL_law_952 (q := 5) rfl ?_
  refine p_iconst dL_law_954 ?_
  refine p_iadd dL_law_955 ?_
  refine p_sld hX hb hL2 (nf_r (zc_of (by omega) (by omega))) (by omega) (by omega) dL_law_956 ?_
  rw [e1]
  have k6 := h.1
  have h := h.2
  refine p_VI G k_RL_180 (by decide) k6 rfl rfl (Nat.le_of_ble_eq_true rfl) ⟨by decide, by decide⟩ ⟨by show k + 2 + 0 ≤ 601024; omega, by show n + 12 + 0 ≤ 7293034; omega⟩ dL_law_957 h (fun r8 im7 c9 h => ?_)
  refine p_istore (lv' := [(6, .int (zi r8)), (5, .int (zi r2)), (0, .ref b), (1, .ref x), (2, .ref m), (3, .ref o), (4, .int (zi (i : Int)))]) dL_law_960 (by decide) rfl ?_
  refine p_aload_n dL_law_962 rfl (q := 4) rfl ?_
  refine p_VI G k_RL_141 (by decide) k6 rfl rfl (Nat.le_of_ble_eq_true rfl) ⟨by decide, by decide⟩ ⟨by show k + 2 + 0 + 0 ≤ 601024; omega, by show n + 12 + 0 + 0 ≤ 7293034; omega⟩ dL_law_963 h (fun r11 im10 c12 h => ?_)
  refine p_iload dL_law_966 (q := 1) rfl ?_
  refine p_icmp_eq (tgt := 973) dL_law_968 (by decide) (nf_r c12) (nf_r c5) (fun b13 => ?_) (fun b13 => ?_)
  · have h := h.1 b13
    refine p_iload dL_law_973 (q := 1) rfl ?_
    refine p_if_ne (tgt := 990) dL_law_975 (by decide) (nf_r c5) (fun b13 => ?_) (fun b13 => ?_)
    · have h := h.1 b13
      refine p_goto (tgt := 2747) dL_law_990 (by decide) ?_
      refine p_sub (lv' := [(0, .ref b), (1, .ref x), (2, .ref m), (3, .ref o), (4, .int (zi (i : Int)))]) [2, 3, 4, 5, 6] rfl ?_
      exact hC _ _ _ _ (by show k + 2 + 0 + 0 ≤ k + 60; omega) (by show n + 12 + 0 + 0 ≤ n + 7000; omega) h
    · have h := h.2 b13
      refine p_aload_n dL_law_978 rfl (q := 5) rfl ?_
      refine p_iconst dL_law_979 ?_
      have k13 := h.1
      have h := h.2
      have l14 := h.1
      have h := h.2
      refine p_lald G k13 (nf_k (by decide)) (by decide) (by rw [l14]; decide) dL_law_980 (fun c15 => ?_)
      refine p_iload dL_law_981 (q := 0) rfl ?_
      refine p_i2l dL_law_983 (nf_r c9) ?_
      refine p_lcmp dL_law_984 (nfl_r c15) (nfl_r (zcl_zc ((nf_r c9)).2)) ?_
      refine p_if_eq (tgt := 990) dL_law_985 (by decide) (nf_r (zc_zcmp _ _)) (fun b16 => ?_) (fun b16 => ?_)
      · have h := h.1 b16
        refine p_goto (tgt := 2747) dL_law_990 (by decide) ?_
        refine p_sub (lv' := [(0, .ref b), (1, .ref x), (2, .ref m), (3, .ref o), (4, .int (zi (i : Int)))]) [2, 3, 4, 5, 6] rfl ?_
        exact hC _ _ _ _ (by show k + 2 + 0 + 0 ≤ k + 60; omega) (by show n + 12 + 0 + 0 ≤ n + 7000; omega) h
      · have h := h.2 b16
        refine p_iconst dL_law_988 ?_
        exact absurd h id
  · have h := h.2 b13
    refine p_iconst dL_law_971 ?_
    exact absurd h id
set_option maxRecDepth 20000 in
set_option maxHeartbeats 4000000 in
theorem v_law_12 {g : zG} (G : zOK g) {S : zSh} {im : zIm} {b x m o i k n L : Nat} {xs : Nat → Int32} {Z : zEnd} {C : zSh → zIm → Prop} (hX : va_X b L xs g.2.1 g.2.1.heap) (hb : b < zbs g) (hL : L ≤ 2048) (hL2 : L < 2147483648) (hi : i + 4 ≤ L) (hk : k + 100 ≤ 601024) (hn : n + 10000 ≤ 7293034) {s1 : Int} (c1 : zc s1) (e1 : (xs ((i : Int) + 1).toNat).toInt = s1) {s2 : Int} (c2 : zc s2) (e2 : (xs ((i : Int) + 2).toNat).toInt = s2)
    (hC : ∀ k2 n2 S2 im2, k2 ≤ k + 60 → n2 ≤ n + 7000 → C S2 im2 → zPz g M_L k2 n2 2747 [(0, .ref b), (1, .ref x), (2, .ref m), (3, .ref o), (4, .int (zi (i : Int)))] [] S2 im2 Z)
    (h : (zkd S x = 7 ∧ zCW g yL_run M_L_run [(0, 10, 13, 13), (0, 10, 17, 15)] [.ref x, .int (zi s1), .int (zi s2), .ref o] S im (zQW (fun r2 S3 im4 => (zkd S3 m = 8 ∧ zCI g yX8_run M_X8_run [.ref m, .int (zi s1), .int (zi s2)] S3 im4 (fun r8 im7 => zCI g yX8_thrown M_X8_thrown [.ref m] S3 im7 (fun r11 im10 => ((r11 = r2 → ((¬ r2 = 0 → C S3 im10) ∧ (r2 = 0 → (zkd S3 o = 12 ∧ (zln S3 o = 1 ∧ (((zcmp (im10 o 0) r8) = 0 → C S3 im10) ∧ (¬ (zcmp (im10 o 0) r8) = 0 → False))))))) ∧ (¬ r11 = r2 → False))))))) zX0)) :
    zPz g M_L k n 993 [(0, .ref b), (1, .ref x), (2, .ref m), (3, .ref o), (4, .int (zi (i : Int)))] [] S im Z := by
  refine p_aload_n dL_law_993 rfl (q := 1) rfl ?_
  refine p_aload_n dL_law_994 rfl (q := 0) rfl ?_
  refine p_iload dL_law_995 (q := 4) rfl ?_
  refine p_iconst dL_law_997 ?_
  refine p_iadd dL_law_998 ?_
  refine p_sld hX hb hL2 (nf_r (zc_of (by omega) (by omega))) (by omega) (by omega) dL_law_999 ?_
  rw [e1]
  refine p_aload_n dL_law_1000 rfl (q := 0) rfl ?_
  refine p_iload dL_law_1001 (q := 4) rfl ?_
  refine p_iconst dL_law_1003 ?_
  refine p_iadd dL_law_1004 ?_
  refine p_sld hX hb hL2 (nf_r (zc_of (by omega) (by omega))) (by omega) (by omega) dL_law_1005 ?_
  rw [e2]
  refine p_aload_n dL_law_1006 rfl (q := 3) rfl ?_
  have k1 := h.1
  have h := h.2
  refine p_SW G k_RL_181 rfl rfl (Nat.le_of_ble_eq_true rfl) ⟨by decide, by decide⟩ ⟨by show k + 3 ≤ 601024; omega, by show n + 18 ≤ 7293034; omega⟩ dL_law_1007 h (fun r2 S3 im4 c5 h => ?_)
  refine p_istore (lv' := [(5, .int (zi r2)), (0, .ref b), (1, .ref x), (2, .ref m), (3, .ref o), (4, .int (zi (i : Int)))]) dL_law_1010 (by decide) rfl ?_
  refine p_aload_n dL_law_1012 rfl (q := 3) rfl ?_
  refine p_aload_n dL_law_1013 rfl (q := 1) rfl ?_
  refine p_iload dL_law_1014 (q := 5) rfl ?_
  refine p_iconst dL_law_1016 ?_
  refine p_iadd dL_law_1017 ?_
  refine p_sld hX hb hL2 (nf_r (zc_of (by omega) (by omega))) (by omega) (by omega) dL_law_1018 ?_
  rw [e1]
  refine p_aload_n dL_law_1019 rfl (q := 1) rfl ?_
  refine p_iload dL_law_1020 (q := 5) rfl ?_
  refine p_iconst dL_law_1022 ?_
  refine p_iadd dL_law_1023 ?_
  refine p_sld hX hb hL2 (nf_r (zc_of (by omega) (by omega))) (by omega) (by omega) dL_law_1024 ?_
  rw [e2]
  have k6 := h.1
  have h := h.2
  refine p_VI G k_RL_184 (by decide) k6 rfl rfl (Nat.le_of_ble_eq_true rfl) ⟨by decide, by decide⟩ ⟨by show k + 3 + 0 ≤ 601024; omega, by show n + 18 + 0 ≤ 7293034; omega⟩ dL_law_1025 h (fun r8 im7 c9 h => ?_)
  refine p_istore (lv' := [(6, .int (zi r8)), (5, .int (zi r2)), (0, .ref b), (1, .ref x), (2, .ref m), (3, .ref o), (4, .int (zi (i : Int)))]) dL_law_1028 (by decide) rfl ?_
  refine p_aload_n dL_law_1030 rfl (q := 4) rfl ?_
  refine p_VI G k_RL_141 (by decide) k6 rfl rfl (Nat.le_of_ble_eq_true rfl) ⟨by decide, by decide⟩ ⟨by show k + 3 + 0 + 0 ≤ 601024; omega, by show n + 18 + 0 + 0 ≤ 7293034; omega⟩ dL_law_1031 h (fun r11 im10 c12 h => ?_)
  refine p_iload dL_law_1034 (q := 1) rfl ?_
  refine p_icmp_eq (tgt := 1041) dL_law_1036 (by decide) (nf_r c12) (nf_r c5) (fun b13 => ?_) (fun b13 => ?_)
  · have h := h.1 b13
    refine p_iload dL_law_1041 (q := 1) rfl ?_
    refine p_if_ne (tgt := 1058) dL_law_1043 (by decide) (nf_r c5) (fun b13 => ?_) (fun b13 => ?_)
    · have h := h.1 b13
      refine p_goto (tgt := 2747) dL_law_1058 (by decide) ?_
      refine p_sub (lv' := [(0, .ref b), (1, .ref x), (2, .ref m), (3, .ref o), (4, .int (zi (i : Int)))]) [2, 3, 4, 5, 6] rfl ?_
      exact hC _ _ _ _ (by show k + 3 + 0 + 0 ≤ k + 60; omega) (by show n + 18 + 0 + 0 ≤ n + 7000; omega) h
    · have h := h.2 b13
      refine p_aload_n dL_law_1046 rfl (q := 5) rfl ?_
      refine p_iconst dL_law_1047 ?_
      have k13 := h.1
      have h := h.2
      have l14 := h.1
      have h := h.2
      refine p_lald G k13 (nf_k (by decide)) (by decide) (by rw [l14]; decide) dL_law_1048 (fun c15 => ?_)
      refine p_iload dL_law_1049 (q := 0) rfl ?_
      refine p_i2l dL_law_1051 (nf_r c9) ?_
      refine p_lcmp dL_law_1052 (nfl_r c15) (nfl_r (zcl_zc ((nf_r c9)).2)) ?_
      refine p_if_eq (tgt := 1058) dL_law_1053 (by decide) (nf_r (zc_zcmp _ _)) (fun b16 => ?_) (fun b16 => ?_)
      · have h := h.1 b16
        refine p_goto (tgt := 2747) dL_law_1058 (by decide) ?_
        refine p_sub (lv' := [(0, .ref b), (1, .ref x), (2, .ref m), (3, .ref o), (4, .int (zi (i : Int)))]) [2, 3, 4, 5, 6] rfl ?_
        exact hC _ _ _ _ (by show k + 3 + 0 + 0 ≤ k + 60; omega) (by show n + 18 + 0 + 0 ≤ n + 7000; omega) h
      · have h := h.2 b16
        refine p_iconst dL_law_1056 ?_
        exact absurd h id
  · have h := h.2 b13
    refine p_iconst dL_law_1039 ?_
    exact absurd h id
set_option maxRecDepth 20000 in
set_option maxHeartbeats 4000000 in
theorem v_law_13 {g : zG} (G : zOK g) {S : zSh} {im : zIm} {b x m o i k n L : Nat} {xs : Nat → Int32} {Z : zEnd} {C : zSh → zIm → Prop} (hX : va_X b L xs g.2.1 g.2.1.heap) (hb : b < zbs g) (hL : L ≤ 2048) (hL2 : L < 2147483648) (hi : i + 4 ≤ L) (hk : k + 100 ≤ 601024) (hn : n + 10000 ≤ 7293034) 
    (hC : ∀ k2 n2 S2 im2, k2 ≤ k + 60 → n2 ≤ n + 7000 → C S2 im2 → zPz g M_L k2 n2 2747 [(0, .ref b), (1, .ref x), (2, .ref m), (3, .ref o), (4, .int (zi (i : Int)))] [] S2 im2 Z)
    (h : (zkd S x = 7 ∧ zCI g yX7_day M_X7_day [.ref x] S im (fun r3 im2 => (zkd S m = 8 ∧ zCI g yX8_day M_X8_day [.ref m] S im2 (fun r7 im6 => ((r3 = r7 → C S im6) ∧ (¬ r3 = r7 → False))))))) :
    zPz g M_L k n 1061 [(0, .ref b), (1, .ref x), (2, .ref m), (3, .ref o), (4, .int (zi (i : Int)))] [] S im Z := by
  refine p_aload_n dL_law_1061 rfl (q := 1) rfl ?_
  have k1 := h.1
  have h := h.2
  refine p_VI G k_RL_185 (by decide) k1 rfl rfl (Nat.le_of_ble_eq_true rfl) ⟨by decide, by decide⟩ ⟨by show k + 0 ≤ 601024; omega, by show n + 0 ≤ 7293034; omega⟩ dL_law_1062 h (fun r3 im2 c4 h => ?_)
  refine p_aload_n dL_law_1065 rfl (q := 2) rfl ?_
  have k5 := h.1
  have h := h.2
  refine p_VI G k_RL_188 (by decide) k5 rfl rfl (Nat.le_of_ble_eq_true rfl) ⟨by decide, by decide⟩ ⟨by show k + 0 + 0 ≤ 601024; omega, by show n + 0 + 0 ≤ 7293034; omega⟩ dL_law_1066 h (fun r7 im6 c8 h => ?_)
  refine p_icmp_eq (tgt := 2747) dL_law_1069 (by decide) (nf_r c4) (nf_r c8) (fun b9 => ?_) (fun b9 => ?_)
  · have h := h.1 b9
    refine p_sub (lv' := [(0, .ref b), (1, .ref x), (2, .ref m), (3, .ref o), (4, .int (zi (i : Int)))]) [0, 1, 2, 3, 4] rfl ?_
    exact hC _ _ _ _ (by show k + 0 + 0 ≤ k + 60; omega) (by show n + 0 + 0 ≤ n + 7000; omega) h
  · have h := h.2 b9
    refine p_iconst dL_law_1072 ?_
    exact absurd h id
set_option maxRecDepth 20000 in
set_option maxHeartbeats 4000000 in
theorem v_law_14 {g : zG} (G : zOK g) {S : zSh} {im : zIm} {b x m o i k n L : Nat} {xs : Nat → Int32} {Z : zEnd} {C : zSh → zIm → Prop} (hX : va_X b L xs g.2.1 g.2.1.heap) (hb : b < zbs g) (hL : L ≤ 2048) (hL2 : L < 2147483648) (hi : i + 4 ≤ L) (hk : k + 100 ≤ 601024) (hn : n + 10000 ≤ 7293034) 
    (hC : ∀ k2 n2 S2 im2, k2 ≤ k + 60 → n2 ≤ n + 7000 → C S2 im2 → zPz g M_L k2 n2 2747 [(0, .ref b), (1, .ref x), (2, .ref m), (3, .ref o), (4, .int (zi (i : Int)))] [] S2 im2 Z)
    (h : (zkd S x = 7 ∧ zCI g yX7_refusedDemands M_X7_refusedDemands [.ref x] S im (fun r3 im2 => (zkd S m = 8 ∧ zCI g yX8_refusedDemands M_X8_refusedDemands [.ref m] S im2 (fun r7 im6 => ((r3 = r7 → C S im6) ∧ (¬ r3 = r7 → False))))))) :
    zPz g M_L k n 1074 [(0, .ref b), (1, .ref x), (2, .ref m), (3, .ref o), (4, .int (zi (i : Int)))] [] S im Z := by
  refine p_aload_n dL_law_1074 rfl (q := 1) rfl ?_
  have k1 := h.1
  have h := h.2
  refine p_VI G k_RL_189 (by decide) k1 rfl rfl (Nat.le_of_ble_eq_true rfl) ⟨by decide, by decide⟩ ⟨by show k + 0 ≤ 601024; omega, by show n + 0 ≤ 7293034; omega⟩ dL_law_1075 h (fun r3 im2 c4 h => ?_)
  refine p_aload_n dL_law_1078 rfl (q := 2) rfl ?_
  have k5 := h.1
  have h := h.2
  refine p_VI G k_RL_192 (by decide) k5 rfl rfl (Nat.le_of_ble_eq_true rfl) ⟨by decide, by decide⟩ ⟨by show k + 0 + 0 ≤ 601024; omega, by show n + 0 + 0 ≤ 7293034; omega⟩ dL_law_1079 h (fun r7 im6 c8 h => ?_)
  refine p_icmp_eq (tgt := 2747) dL_law_1082 (by decide) (nf_r c4) (nf_r c8) (fun b9 => ?_) (fun b9 => ?_)
  · have h := h.1 b9
    refine p_sub (lv' := [(0, .ref b), (1, .ref x), (2, .ref m), (3, .ref o), (4, .int (zi (i : Int)))]) [0, 1, 2, 3, 4] rfl ?_
    exact hC _ _ _ _ (by show k + 0 + 0 ≤ k + 60; omega) (by show n + 0 + 0 ≤ n + 7000; omega) h
  · have h := h.2 b9
    refine p_iconst dL_law_1085 ?_
    exact absurd h id
set_option maxRecDepth 20000 in
set_option maxHeartbeats 4000000 in
theorem v_law_15 {g : zG} (G : zOK g) {S : zSh} {im : zIm} {b x m o i k n L : Nat} {xs : Nat → Int32} {Z : zEnd} {C : zSh → zIm → Prop} (hX : va_X b L xs g.2.1 g.2.1.heap) (hb : b < zbs g) (hL : L ≤ 2048) (hL2 : L < 2147483648) (hi : i + 4 ≤ L) (hk : k + 100 ≤ 601024) (hn : n + 10000 ≤ 7293034) {s1 : Int} (c1 : zc s1) (e1 : (xs ((i : Int) + 1).toNat).toInt = s1) {s2 : Int} (c2 : zc s2) (e2 : (xs ((i : Int) + 2).toNat).toInt = s2)
    (hC : ∀ k2 n2 S2 im2, k2 ≤ k + 60 → n2 ≤ n + 7000 → C S2 im2 → zPz g M_L k2 n2 2747 [(0, .ref b), (1, .ref x), (2, .ref m), (3, .ref o), (4, .int (zi (i : Int)))] [] S2 im2 Z)
    (h : (zkd S x = 7 ∧ zCW g yL_level M_L_level [(0, 10, 13, 24)] [.ref x, .int (zi s1), .int (zi s2), .ref o] S im (zQW (fun r2 S3 im4 => (zkd S3 m = 8 ∧ zCI g yX8_level M_X8_level [.ref m, .int (zi s1), .int (zi s2)] S3 im4 (fun r8 im7 => zCI g yX8_thrown M_X8_thrown [.ref m] S3 im7 (fun r11 im10 => ((r11 = r2 → ((¬ r2 = 0 → C S3 im10) ∧ (r2 = 0 → (zkd S3 o = 12 ∧ (zln S3 o = 1 ∧ (((zcmp (im10 o 0) r8) = 0 → C S3 im10) ∧ (¬ (zcmp (im10 o 0) r8) = 0 → False))))))) ∧ (¬ r11 = r2 → False))))))) zX0)) :
    zPz g M_L k n 1087 [(0, .ref b), (1, .ref x), (2, .ref m), (3, .ref o), (4, .int (zi (i : Int)))] [] S im Z := by
  refine p_aload_n dL_law_1087 rfl (q := 1) rfl ?_
  refine p_aload_n dL_law_1088 rfl (q := 0) rfl ?_
  refine p_iload dL_law_1089 (q := 4) rfl ?_
  refine p_iconst dL_law_1091 ?_
  refine p_iadd dL_law_1092 ?_
  refine p_sld hX hb hL2 (nf_r (zc_of (by omega) (by omega))) (by omega) (by omega) dL_law_1093 ?_
  rw [e1]
  refine p_aload_n dL_law_1094 rfl (q := 0) rfl ?_
  refine p_iload dL_law_1095 (q := 4) rfl ?_
  refine p_iconst dL_law_1097 ?_
  refine p_iadd dL_law_1098 ?_
  refine p_sld hX hb hL2 (nf_r (zc_of (by omega) (by omega))) (by omega) (by omega) dL_law_1099 ?_
  rw [e2]
  refine p_aload_n dL_law_1100 rfl (q := 3) rfl ?_
  have k1 := h.1
  have h := h.2
  refine p_SW G k_RL_193 rfl rfl (Nat.le_of_ble_eq_true rfl) ⟨by decide, by decide⟩ ⟨by show k + 2 ≤ 601024; omega, by show n + 12 ≤ 7293034; omega⟩ dL_law_1101 h (fun r2 S3 im4 c5 h => ?_)
  refine p_istore (lv' := [(5, .int (zi r2)), (0, .ref b), (1, .ref x), (2, .ref m), (3, .ref o), (4, .int (zi (i : Int)))]) dL_law_1104 (by decide) rfl ?_
  refine p_aload_n dL_law_1106 rfl (q := 3) rfl ?_
  refine p_aload_n dL_law_1107 rfl (q := 1) rfl ?_
  refine p_iload dL_law_1108 (q := 5) rfl ?_
  refine p_iconst dL_law_1110 ?_
  refine p_iadd dL_law_1111 ?_
  refine p_sld hX hb hL2 (nf_r (zc_of (by omega) (by omega))) (by omega) (by omega) dL_law_1112 ?_
  rw [e1]
  refine p_aload_n dL_law_1113 rfl (q := 1) rfl ?_
  refine p_iload dL_law_1114 (q := 5) rfl ?_
  refine p_iconst dL_law_1116 ?_
  refine p_iadd dL_law_1117 ?_
  refine p_sld hX hb hL2 (nf_r (zc_of (by omega) (by omega))) (by omega) (by omega) dL_law_1118 ?_
  rw [e2]
  have k6 := h.1
  have h := h.2
  refine p_VI G k_RL_195 (by decide) k6 rfl rfl (Nat.le_of_ble_eq_true rfl) ⟨by decide, by decide⟩ ⟨by show k + 2 + 0 ≤ 601024; omega, by show n + 12 + 0 ≤ 7293034; omega⟩ dL_law_1119 h (fun r8 im7 c9 h => ?_)
  refine p_istore (lv' := [(6, .int (zi r8)), (5, .int (zi r2)), (0, .ref b), (1, .ref x), (2, .ref m), (3, .ref o), (4, .int (zi (i : Int)))]) dL_law_1122 (by decide) rfl ?_
  refine p_aload_n dL_law_1124 rfl (q := 4) rfl ?_
  refine p_VI G k_RL_141 (by decide) k6 rfl rfl (Nat.le_of_ble_eq_true rfl) ⟨by decide, by decide⟩ ⟨by show k + 2 + 0 + 0 ≤ 601024; omega, by show n + 12 + 0 + 0 ≤ 7293034; omega⟩ dL_law_1125 h (fun r11 im10 c12 h => ?_)
  refine p_iload dL_law_1128 (q := 1) rfl ?_
  refine p_icmp_eq (tgt := 1135) dL_law_1130 (by decide) (nf_r c12) (nf_r c5) (fun b13 => ?_) (fun b13 => ?_)
  · have h := h.1 b13
    refine p_iload dL_law_1135 (q := 1) rfl ?_
    refine p_if_ne (tgt := 1152) dL_law_1137 (by decide) (nf_r c5) (fun b13 => ?_) (fun b13 => ?_)
    · have h := h.1 b13
      refine p_goto (tgt := 2747) dL_law_1152 (by decide) ?_
      refine p_sub (lv' := [(0, .ref b), (1, .ref x), (2, .ref m), (3, .ref o), (4, .int (zi (i : Int)))]) [2, 3, 4, 5, 6] rfl ?_
      exact hC _ _ _ _ (by show k + 2 + 0 + 0 ≤ k + 60; omega) (by show n + 12 + 0 + 0 ≤ n + 7000; omega) h
    · have h := h.2 b13
      refine p_aload_n dL_law_1140 rfl (q := 5) rfl ?_
      refine p_iconst dL_law_1141 ?_
      have k13 := h.1
      have h := h.2
      have l14 := h.1
      have h := h.2
      refine p_lald G k13 (nf_k (by decide)) (by decide) (by rw [l14]; decide) dL_law_1142 (fun c15 => ?_)
      refine p_iload dL_law_1143 (q := 0) rfl ?_
      refine p_i2l dL_law_1145 (nf_r c9) ?_
      refine p_lcmp dL_law_1146 (nfl_r c15) (nfl_r (zcl_zc ((nf_r c9)).2)) ?_
      refine p_if_eq (tgt := 1152) dL_law_1147 (by decide) (nf_r (zc_zcmp _ _)) (fun b16 => ?_) (fun b16 => ?_)
      · have h := h.1 b16
        refine p_goto (tgt := 2747) dL_law_1152 (by decide) ?_
        refine p_sub (lv' := [(0, .ref b), (1, .ref x), (2, .ref m), (3, .ref o), (4, .int (zi (i : Int)))]) [2, 3, 4, 5, 6] rfl ?_
        exact hC _ _ _ _ (by show k + 2 + 0 + 0 ≤ k + 60; omega) (by show n + 12 + 0 + 0 ≤ n + 7000; omega) h
      · have h := h.2 b16
        refine p_iconst dL_law_1150 ?_
        exact absurd h id
  · have h := h.2 b13
    refine p_iconst dL_law_1133 ?_
    exact absurd h id
set_option maxRecDepth 20000 in
set_option maxHeartbeats 4000000 in
theorem v_law_16 {g : zG} (G : zOK g) {S : zSh} {im : zIm} {b x m o i k n L : Nat} {xs : Nat → Int32} {Z : zEnd} {C : zSh → zIm → Prop} (hX : va_X b L xs g.2.1 g.2.1.heap) (hb : b < zbs g) (hL : L ≤ 2048) (hL2 : L < 2147483648) (hi : i + 4 ≤ L) (hk : k + 100 ≤ 601024) (hn : n + 10000 ≤ 7293034) {s1 : Int} (c1 : zc s1) (e1 : (xs ((i : Int) + 1).toNat).toInt = s1) {s2 : Int} (c2 : zc s2) (e2 : (xs ((i : Int) + 2).toNat).toInt = s2)
    (hC : ∀ k2 n2 S2 im2, k2 ≤ k + 60 → n2 ≤ n + 7000 → C S2 im2 → zPz g M_L k2 n2 2747 [(0, .ref b), (1, .ref x), (2, .ref m), (3, .ref o), (4, .int (zi (i : Int)))] [] S2 im2 Z)
    (h : (zkd S x = 7 ∧ zCW g yL_onHand M_L_onHand [(0, 10, 13, 24)] [.ref x, .int (zi s1), .int (zi s2), .ref o] S im (zQW (fun r2 S3 im4 => (zkd S3 m = 8 ∧ zCI g yX8_onHand M_X8_onHand [.ref m, .int (zi s1), .int (zi s2)] S3 im4 (fun r8 im7 => zCI g yX8_thrown M_X8_thrown [.ref m] S3 im7 (fun r11 im10 => ((r11 = r2 → ((¬ r2 = 0 → C S3 im10) ∧ (r2 = 0 → (zkd S3 o = 12 ∧ (zln S3 o = 1 ∧ (((zcmp (im10 o 0) r8) = 0 → C S3 im10) ∧ (¬ (zcmp (im10 o 0) r8) = 0 → False))))))) ∧ (¬ r11 = r2 → False))))))) zX0)) :
    zPz g M_L k n 1155 [(0, .ref b), (1, .ref x), (2, .ref m), (3, .ref o), (4, .int (zi (i : Int)))] [] S im Z := by
  refine p_aload_n dL_law_1155 rfl (q := 1) rfl ?_
  refine p_aload_n dL_law_1156 rfl (q := 0) rfl ?_
  refine p_iload dL_law_1157 (q := 4) rfl ?_
  refine p_iconst dL_law_1159 ?_
  refine p_iadd dL_law_1160 ?_
  refine p_sld hX hb hL2 (nf_r (zc_of (by omega) (by omega))) (by omega) (by omega) dL_law_1161 ?_
  rw [e1]
  refine p_aload_n dL_law_1162 rfl (q := 0) rfl ?_
  refine p_iload dL_law_1163 (q := 4) rfl ?_
  refine p_iconst dL_law_1165 ?_
  refine p_iadd dL_law_1166 ?_
  refine p_sld hX hb hL2 (nf_r (zc_of (by omega) (by omega))) (by omega) (by omega) dL_law_1167 ?_
  rw [e2]
  refine p_aload_n dL_law_1168 rfl (q := 3) rfl ?_
  have k1 := h.1
  have h := h.2
  refine p_SW G k_RL_196 rfl rfl (Nat.le_of_ble_eq_true rfl) ⟨by decide, by decide⟩ ⟨by show k + 2 ≤ 601024; omega, by show n + 12 ≤ 7293034; omega⟩ dL_law_1169 h (fun r2 S3 im4 c5 h => ?_)
  refine p_istore (lv' := [(5, .int (zi r2)), (0, .ref b), (1, .ref x), (2, .ref m), (3, .ref o), (4, .int (zi (i : Int)))]) dL_law_1172 (by decide) rfl ?_
  refine p_aload_n dL_law_1174 rfl (q := 3) rfl ?_
  refine p_aload_n dL_law_1175 rfl (q := 1) rfl ?_
  refine p_iload dL_law_1176 (q := 5) rfl ?_
  refine p_iconst dL_law_1178 ?_
  refine p_iadd dL_law_1179 ?_
  refine p_sld hX hb hL2 (nf_r (zc_of (by omega) (by omega))) (by omega) (by omega) dL_law_1180 ?_
  rw [e1]
  refine p_aload_n dL_law_1181 rfl (q := 1) rfl ?_
  refine p_iload dL_law_1182 (q := 5) rfl ?_
  refine p_iconst dL_law_1184 ?_
  refine p_iadd dL_law_1185 ?_
  refine p_sld hX hb hL2 (nf_r (zc_of (by omega) (by omega))) (by omega) (by omega) dL_law_1186 ?_
  rw [e2]
  have k6 := h.1
  have h := h.2
  refine p_VI G k_RL_198 (by decide) k6 rfl rfl (Nat.le_of_ble_eq_true rfl) ⟨by decide, by decide⟩ ⟨by show k + 2 + 0 ≤ 601024; omega, by show n + 12 + 0 ≤ 7293034; omega⟩ dL_law_1187 h (fun r8 im7 c9 h => ?_)
  refine p_istore (lv' := [(6, .int (zi r8)), (5, .int (zi r2)), (0, .ref b), (1, .ref x), (2, .ref m), (3, .ref o), (4, .int (zi (i : Int)))]) dL_law_1190 (by decide) rfl ?_
  refine p_aload_n dL_law_1192 rfl (q := 4) rfl ?_
  refine p_VI G k_RL_141 (by decide) k6 rfl rfl (Nat.le_of_ble_eq_true rfl) ⟨by decide, by decide⟩ ⟨by show k + 2 + 0 + 0 ≤ 601024; omega, by show n + 12 + 0 + 0 ≤ 7293034; omega⟩ dL_law_1193 h (fun r11 im10 c12 h => ?_)
  refine p_iload dL_law_1196 (q := 1) rfl ?_
  refine p_icmp_eq (tgt := 1203) dL_law_1198 (by decide) (nf_r c12) (nf_r c5) (fun b13 => ?_) (fun b13 => ?_)
  · have h := h.1 b13
    refine p_iload dL_law_1203 (q := 1) rfl ?_
    refine p_if_ne (tgt := 1220) dL_law_1205 (by decide) (nf_r c5) (fun b13 => ?_) (fun b13 => ?_)
    · have h := h.1 b13
      refine p_goto (tgt := 2747) dL_law_1220 (by decide) ?_
      refine p_sub (lv' := [(0, .ref b), (1, .ref x), (2, .ref m), (3, .ref o), (4, .int (zi (i : Int)))]) [2, 3, 4, 5, 6] rfl ?_
      exact hC _ _ _ _ (by show k + 2 + 0 + 0 ≤ k + 60; omega) (by show n + 12 + 0 + 0 ≤ n + 7000; omega) h
    · have h := h.2 b13
      refine p_aload_n dL_law_1208 rfl (q := 5) rfl ?_
      refine p_iconst dL_law_1209 ?_
      have k13 := h.1
      have h := h.2
      have l14 := h.1
      have h := h.2
      refine p_lald G k13 (nf_k (by decide)) (by decide) (by rw [l14]; decide) dL_law_1210 (fun c15 => ?_)
      refine p_iload dL_law_1211 (q := 0) rfl ?_
      refine p_i2l dL_law_1213 (nf_r c9) ?_
      refine p_lcmp dL_law_1214 (nfl_r c15) (nfl_r (zcl_zc ((nf_r c9)).2)) ?_
      refine p_if_eq (tgt := 1220) dL_law_1215 (by decide) (nf_r (zc_zcmp _ _)) (fun b16 => ?_) (fun b16 => ?_)
      · have h := h.1 b16
        refine p_goto (tgt := 2747) dL_law_1220 (by decide) ?_
        refine p_sub (lv' := [(0, .ref b), (1, .ref x), (2, .ref m), (3, .ref o), (4, .int (zi (i : Int)))]) [2, 3, 4, 5, 6] rfl ?_
        exact hC _ _ _ _ (by show k + 2 + 0 + 0 ≤ k + 60; omega) (by show n + 12 + 0 + 0 ≤ n + 7000; omega) h
      · have h := h.2 b16
        refine p_iconst dL_law_1218 ?_
        exact absurd h id
  · have h := h.2 b13
    refine p_iconst dL_law_1201 ?_
    exact absurd h id
set_option maxRecDepth 20000 in
set_option maxHeartbeats 4000000 in
theorem v_law_17 {g : zG} (G : zOK g) {S : zSh} {im : zIm} {b x m o i k n L : Nat} {xs : Nat → Int32} {Z : zEnd} {C : zSh → zIm → Prop} (hX : va_X b L xs g.2.1 g.2.1.heap) (hb : b < zbs g) (hL : L ≤ 2048) (hL2 : L < 2147483648) (hi : i + 4 ≤ L) (hk : k + 100 ≤ 601024) (hn : n + 10000 ≤ 7293034) {s1 : Int} (c1 : zc s1) (e1 : (xs ((i : Int) + 1).toNat).toInt = s1) {s2 : Int} (c2 : zc s2) (e2 : (xs ((i : Int) + 2).toNat).toInt = s2)
    (hC : ∀ k2 n2 S2 im2, k2 ≤ k + 60 → n2 ≤ n + 7000 → C S2 im2 → zPz g M_L k2 n2 2747 [(0, .ref b), (1, .ref x), (2, .ref m), (3, .ref o), (4, .int (zi (i : Int)))] [] S2 im2 Z)
    (h : (zkd S x = 7 ∧ zCW g yL_waiting M_L_waiting [(0, 10, 13, 24)] [.ref x, .int (zi s1), .int (zi s2), .ref o] S im (zQW (fun r2 S3 im4 => (zkd S3 m = 8 ∧ zCI g yX8_waiting M_X8_waiting [.ref m, .int (zi s1), .int (zi s2)] S3 im4 (fun r8 im7 => zCI g yX8_thrown M_X8_thrown [.ref m] S3 im7 (fun r11 im10 => ((r11 = r2 → ((¬ r2 = 0 → C S3 im10) ∧ (r2 = 0 → (zkd S3 o = 12 ∧ (zln S3 o = 1 ∧ (((zcmp (im10 o 0) r8) = 0 → C S3 im10) ∧ (¬ (zcmp (im10 o 0) r8) = 0 → False))))))) ∧ (¬ r11 = r2 → False))))))) zX0)) :
    zPz g M_L k n 1223 [(0, .ref b), (1, .ref x), (2, .ref m), (3, .ref o), (4, .int (zi (i : Int)))] [] S im Z := by
  refine p_aload_n dL_law_1223 rfl (q := 1) rfl ?_
  refine p_aload_n dL_law_1224 rfl (q := 0) rfl ?_
  refine p_iload dL_law_1225 (q := 4) rfl ?_
  refine p_iconst dL_law_1227 ?_
  refine p_iadd dL_law_1228 ?_
  refine p_sld hX hb hL2 (nf_r (zc_of (by omega) (by omega))) (by omega) (by omega) dL_law_1229 ?_
  rw [e1]
  refine p_aload_n dL_law_1230 rfl (q := 0) rfl ?_
  refine p_iload dL_law_1231 (q := 4) rfl ?_
  refine p_iconst dL_law_1233 ?_
  refine p_iadd dL_law_1234 ?_
  refine p_sld hX hb hL2 (nf_r (zc_of (by omega) (by omega))) (by omega) (by omega) dL_law_1235 ?_
  rw [e2]
  refine p_aload_n dL_law_1236 rfl (q := 3) rfl ?_
  have k1 := h.1
  have h := h.2
  refine p_SW G k_RL_199 rfl rfl (Nat.le_of_ble_eq_true rfl) ⟨by decide, by decide⟩ ⟨by show k + 2 ≤ 601024; omega, by show n + 12 ≤ 7293034; omega⟩ dL_law_1237 h (fun r2 S3 im4 c5 h => ?_)
  refine p_istore (lv' := [(5, .int (zi r2)), (0, .ref b), (1, .ref x), (2, .ref m), (3, .ref o), (4, .int (zi (i : Int)))]) dL_law_1240 (by decide) rfl ?_
  refine p_aload_n dL_law_1242 rfl (q := 3) rfl ?_
  refine p_aload_n dL_law_1243 rfl (q := 1) rfl ?_
  refine p_iload dL_law_1244 (q := 5) rfl ?_
  refine p_iconst dL_law_1246 ?_
  refine p_iadd dL_law_1247 ?_
  refine p_sld hX hb hL2 (nf_r (zc_of (by omega) (by omega))) (by omega) (by omega) dL_law_1248 ?_
  rw [e1]
  refine p_aload_n dL_law_1249 rfl (q := 1) rfl ?_
  refine p_iload dL_law_1250 (q := 5) rfl ?_
  refine p_iconst dL_law_1252 ?_
  refine p_iadd dL_law_1253 ?_
  refine p_sld hX hb hL2 (nf_r (zc_of (by omega) (by omega))) (by omega) (by omega) dL_law_1254 ?_
  rw [e2]
  have k6 := h.1
  have h := h.2
  refine p_VI G k_RL_201 (by decide) k6 rfl rfl (Nat.le_of_ble_eq_true rfl) ⟨by decide, by decide⟩ ⟨by show k + 2 + 0 ≤ 601024; omega, by show n + 12 + 0 ≤ 7293034; omega⟩ dL_law_1255 h (fun r8 im7 c9 h => ?_)
  refine p_istore (lv' := [(6, .int (zi r8)), (5, .int (zi r2)), (0, .ref b), (1, .ref x), (2, .ref m), (3, .ref o), (4, .int (zi (i : Int)))]) dL_law_1258 (by decide) rfl ?_
  refine p_aload_n dL_law_1260 rfl (q := 4) rfl ?_
  refine p_VI G k_RL_141 (by decide) k6 rfl rfl (Nat.le_of_ble_eq_true rfl) ⟨by decide, by decide⟩ ⟨by show k + 2 + 0 + 0 ≤ 601024; omega, by show n + 12 + 0 + 0 ≤ 7293034; omega⟩ dL_law_1261 h (fun r11 im10 c12 h => ?_)
  refine p_iload dL_law_1264 (q := 1) rfl ?_
  refine p_icmp_eq (tgt := 1271) dL_law_1266 (by decide) (nf_r c12) (nf_r c5) (fun b13 => ?_) (fun b13 => ?_)
  · have h := h.1 b13
    refine p_iload dL_law_1271 (q := 1) rfl ?_
    refine p_if_ne (tgt := 1288) dL_law_1273 (by decide) (nf_r c5) (fun b13 => ?_) (fun b13 => ?_)
    · have h := h.1 b13
      refine p_goto (tgt := 2747) dL_law_1288 (by decide) ?_
      refine p_sub (lv' := [(0, .ref b), (1, .ref x), (2, .ref m), (3, .ref o), (4, .int (zi (i : Int)))]) [2, 3, 4, 5, 6] rfl ?_
      exact hC _ _ _ _ (by show k + 2 + 0 + 0 ≤ k + 60; omega) (by show n + 12 + 0 + 0 ≤ n + 7000; omega) h
    · have h := h.2 b13
      refine p_aload_n dL_law_1276 rfl (q := 5) rfl ?_
      refine p_iconst dL_law_1277 ?_
      have k13 := h.1
      have h := h.2
      have l14 := h.1
      have h := h.2
      refine p_lald G k13 (nf_k (by decide)) (by decide) (by rw [l14]; decide) dL_law_1278 (fun c15 => ?_)
      refine p_iload dL_law_1279 (q := 0) rfl ?_
      refine p_i2l dL_law_1281 (nf_r c9) ?_
      refine p_lcmp dL_law_1282 (nfl_r c15) (nfl_r (zcl_zc ((nf_r c9)).2)) ?_
      refine p_if_eq (tgt := 1288) dL_law_1283 (by decide) (nf_r (zc_zcmp _ _)) (fun b16 => ?_) (fun b16 => ?_)
      · have h := h.1 b16
        refine p_goto (tgt := 2747) dL_law_1288 (by decide) ?_
        refine p_sub (lv' := [(0, .ref b), (1, .ref x), (2, .ref m), (3, .ref o), (4, .int (zi (i : Int)))]) [2, 3, 4, 5, 6] rfl ?_
        exact hC _ _ _ _ (by show k + 2 + 0 + 0 ≤ k + 60; omega) (by show n + 12 + 0 + 0 ≤ n + 7000; omega) h
      · have h := h.2 b16
        refine p_iconst dL_law_1286 ?_
        exact absurd h id
  · have h := h.2 b13
    refine p_iconst dL_law_1269 ?_
    exact absurd h id
set_option maxRecDepth 20000 in
set_option maxHeartbeats 4000000 in
theorem v_law_18 {g : zG} (G : zOK g) {S : zSh} {im : zIm} {b x m o i k n L : Nat} {xs : Nat → Int32} {Z : zEnd} {C : zSh → zIm → Prop} (hX : va_X b L xs g.2.1 g.2.1.heap) (hb : b < zbs g) (hL : L ≤ 2048) (hL2 : L < 2147483648) (hi : i + 4 ≤ L) (hk : k + 100 ≤ 601024) (hn : n + 10000 ≤ 7293034) {s1 : Int} (c1 : zc s1) (e1 : (xs ((i : Int) + 1).toNat).toInt = s1) {s2 : Int} (c2 : zc s2) (e2 : (xs ((i : Int) + 2).toNat).toInt = s2)
    (hC : ∀ k2 n2 S2 im2, k2 ≤ k + 60 → n2 ≤ n + 7000 → C S2 im2 → zPz g M_L k2 n2 2747 [(0, .ref b), (1, .ref x), (2, .ref m), (3, .ref o), (4, .int (zi (i : Int)))] [] S2 im2 Z)
    (h : (zkd S x = 7 ∧ zCW g yL_topPriority M_L_topPriority [(0, 10, 13, 24)] [.ref x, .int (zi s1), .int (zi s2), .ref o] S im (zQW (fun r2 S3 im4 => (zkd S3 m = 8 ∧ zCI g yX8_topPriority M_X8_topPriority [.ref m, .int (zi s1), .int (zi s2)] S3 im4 (fun r8 im7 => zCI g yX8_thrown M_X8_thrown [.ref m] S3 im7 (fun r11 im10 => ((r11 = r2 → ((¬ r2 = 0 → C S3 im10) ∧ (r2 = 0 → (zkd S3 o = 12 ∧ (zln S3 o = 1 ∧ (((zcmp (im10 o 0) r8) = 0 → C S3 im10) ∧ (¬ (zcmp (im10 o 0) r8) = 0 → False))))))) ∧ (¬ r11 = r2 → False))))))) zX0)) :
    zPz g M_L k n 1291 [(0, .ref b), (1, .ref x), (2, .ref m), (3, .ref o), (4, .int (zi (i : Int)))] [] S im Z := by
  refine p_aload_n dL_law_1291 rfl (q := 1) rfl ?_
  refine p_aload_n dL_law_1292 rfl (q := 0) rfl ?_
  refine p_iload dL_law_1293 (q := 4) rfl ?_
  refine p_iconst dL_law_1295 ?_
  refine p_iadd dL_law_1296 ?_
  refine p_sld hX hb hL2 (nf_r (zc_of (by omega) (by omega))) (by omega) (by omega) dL_law_1297 ?_
  rw [e1]
  refine p_aload_n dL_law_1298 rfl (q := 0) rfl ?_
  refine p_iload dL_law_1299 (q := 4) rfl ?_
  refine p_iconst dL_law_1301 ?_
  refine p_iadd dL_law_1302 ?_
  refine p_sld hX hb hL2 (nf_r (zc_of (by omega) (by omega))) (by omega) (by omega) dL_law_1303 ?_
  rw [e2]
  refine p_aload_n dL_law_1304 rfl (q := 3) rfl ?_
  have k1 := h.1
  have h := h.2
  refine p_SW G k_RL_202 rfl rfl (Nat.le_of_ble_eq_true rfl) ⟨by decide, by decide⟩ ⟨by show k + 2 ≤ 601024; omega, by show n + 12 ≤ 7293034; omega⟩ dL_law_1305 h (fun r2 S3 im4 c5 h => ?_)
  refine p_istore (lv' := [(5, .int (zi r2)), (0, .ref b), (1, .ref x), (2, .ref m), (3, .ref o), (4, .int (zi (i : Int)))]) dL_law_1308 (by decide) rfl ?_
  refine p_aload_n dL_law_1310 rfl (q := 3) rfl ?_
  refine p_aload_n dL_law_1311 rfl (q := 1) rfl ?_
  refine p_iload dL_law_1312 (q := 5) rfl ?_
  refine p_iconst dL_law_1314 ?_
  refine p_iadd dL_law_1315 ?_
  refine p_sld hX hb hL2 (nf_r (zc_of (by omega) (by omega))) (by omega) (by omega) dL_law_1316 ?_
  rw [e1]
  refine p_aload_n dL_law_1317 rfl (q := 1) rfl ?_
  refine p_iload dL_law_1318 (q := 5) rfl ?_
  refine p_iconst dL_law_1320 ?_
  refine p_iadd dL_law_1321 ?_
  refine p_sld hX hb hL2 (nf_r (zc_of (by omega) (by omega))) (by omega) (by omega) dL_law_1322 ?_
  rw [e2]
  have k6 := h.1
  have h := h.2
  refine p_VI G k_RL_204 (by decide) k6 rfl rfl (Nat.le_of_ble_eq_true rfl) ⟨by decide, by decide⟩ ⟨by show k + 2 + 0 ≤ 601024; omega, by show n + 12 + 0 ≤ 7293034; omega⟩ dL_law_1323 h (fun r8 im7 c9 h => ?_)
  refine p_istore (lv' := [(6, .int (zi r8)), (5, .int (zi r2)), (0, .ref b), (1, .ref x), (2, .ref m), (3, .ref o), (4, .int (zi (i : Int)))]) dL_law_1326 (by decide) rfl ?_
  refine p_aload_n dL_law_1328 rfl (q := 4) rfl ?_
  refine p_VI G k_RL_141 (by decide) k6 rfl rfl (Nat.le_of_ble_eq_true rfl) ⟨by decide, by decide⟩ ⟨by show k + 2 + 0 + 0 ≤ 601024; omega, by show n + 12 + 0 + 0 ≤ 7293034; omega⟩ dL_law_1329 h (fun r11 im10 c12 h => ?_)
  refine p_iload dL_law_1332 (q := 1) rfl ?_
  refine p_icmp_eq (tgt := 1339) dL_law_1334 (by decide) (nf_r c12) (nf_r c5) (fun b13 => ?_) (fun b13 => ?_)
  · have h := h.1 b13
    refine p_iload dL_law_1339 (q := 1) rfl ?_
    refine p_if_ne (tgt := 1356) dL_law_1341 (by decide) (nf_r c5) (fun b13 => ?_) (fun b13 => ?_)
    · have h := h.1 b13
      refine p_goto (tgt := 2747) dL_law_1356 (by decide) ?_
      refine p_sub (lv' := [(0, .ref b), (1, .ref x), (2, .ref m), (3, .ref o), (4, .int (zi (i : Int)))]) [2, 3, 4, 5, 6] rfl ?_
      exact hC _ _ _ _ (by show k + 2 + 0 + 0 ≤ k + 60; omega) (by show n + 12 + 0 + 0 ≤ n + 7000; omega) h
    · have h := h.2 b13
      refine p_aload_n dL_law_1344 rfl (q := 5) rfl ?_
      refine p_iconst dL_law_1345 ?_
      have k13 := h.1
      have h := h.2
      have l14 := h.1
      have h := h.2
      refine p_lald G k13 (nf_k (by decide)) (by decide) (by rw [l14]; decide) dL_law_1346 (fun c15 => ?_)
      refine p_iload dL_law_1347 (q := 0) rfl ?_
      refine p_i2l dL_law_1349 (nf_r c9) ?_
      refine p_lcmp dL_law_1350 (nfl_r c15) (nfl_r (zcl_zc ((nf_r c9)).2)) ?_
      refine p_if_eq (tgt := 1356) dL_law_1351 (by decide) (nf_r (zc_zcmp _ _)) (fun b16 => ?_) (fun b16 => ?_)
      · have h := h.1 b16
        refine p_goto (tgt := 2747) dL_law_1356 (by decide) ?_
        refine p_sub (lv' := [(0, .ref b), (1, .ref x), (2, .ref m), (3, .ref o), (4, .int (zi (i : Int)))]) [2, 3, 4, 5, 6] rfl ?_
        exact hC _ _ _ _ (by show k + 2 + 0 + 0 ≤ k + 60; omega) (by show n + 12 + 0 + 0 ≤ n + 7000; omega) h
      · have h := h.2 b16
        refine p_iconst dL_law_1354 ?_
        exact absurd h id
  · have h := h.2 b13
    refine p_iconst dL_law_1337 ?_
    exact absurd h id
set_option maxRecDepth 20000 in
set_option maxHeartbeats 4000000 in
theorem v_law_19 {g : zG} (G : zOK g) {S : zSh} {im : zIm} {b x m o i k n L : Nat} {xs : Nat → Int32} {Z : zEnd} {C : zSh → zIm → Prop} (hX : va_X b L xs g.2.1 g.2.1.heap) (hb : b < zbs g) (hL : L ≤ 2048) (hL2 : L < 2147483648) (hi : i + 4 ≤ L) (hk : k + 100 ≤ 601024) (hn : n + 10000 ≤ 7293034) {s1 : Int} (c1 : zc s1) (e1 : (xs ((i : Int) + 1).toNat).toInt = s1)
    (hC : ∀ k2 n2 S2 im2, k2 ≤ k + 60 → n2 ≤ n + 7000 → C S2 im2 → zPz g M_L k2 n2 2747 [(0, .ref b), (1, .ref x), (2, .ref m), (3, .ref o), (4, .int (zi (i : Int)))] [] S2 im2 Z)
    (h : (zkd S x = 7 ∧ zCW g yL_keptOrders M_L_keptOrders [(0, 9, 12, 24)] [.ref x, .int (zi s1), .ref o] S im (zQW (fun r2 S3 im4 => (zkd S3 m = 8 ∧ zCI g yX8_keptOrders M_X8_keptOrders [.ref m, .int (zi s1)] S3 im4 (fun r8 im7 => zCI g yX8_thrown M_X8_thrown [.ref m] S3 im7 (fun r11 im10 => ((r11 = r2 → ((¬ r2 = 0 → C S3 im10) ∧ (r2 = 0 → (zkd S3 o = 12 ∧ (zln S3 o = 1 ∧ (((zcmp (im10 o 0) r8) = 0 → C S3 im10) ∧ (¬ (zcmp (im10 o 0) r8) = 0 → False))))))) ∧ (¬ r11 = r2 → False))))))) zX0)) :
    zPz g M_L k n 1359 [(0, .ref b), (1, .ref x), (2, .ref m), (3, .ref o), (4, .int (zi (i : Int)))] [] S im Z := by
  refine p_aload_n dL_law_1359 rfl (q := 1) rfl ?_
  refine p_aload_n dL_law_1360 rfl (q := 0) rfl ?_
  refine p_iload dL_law_1361 (q := 4) rfl ?_
  refine p_iconst dL_law_1363 ?_
  refine p_iadd dL_law_1364 ?_
  refine p_sld hX hb hL2 (nf_r (zc_of (by omega) (by omega))) (by omega) (by omega) dL_law_1365 ?_
  rw [e1]
  refine p_aload_n dL_law_1366 rfl (q := 3) rfl ?_
  have k1 := h.1
  have h := h.2
  refine p_SW G k_RL_205 rfl rfl (Nat.le_of_ble_eq_true rfl) ⟨by decide, by decide⟩ ⟨by show k + 1 ≤ 601024; omega, by show n + 6 ≤ 7293034; omega⟩ dL_law_1367 h (fun r2 S3 im4 c5 h => ?_)
  refine p_istore (lv' := [(5, .int (zi r2)), (0, .ref b), (1, .ref x), (2, .ref m), (3, .ref o), (4, .int (zi (i : Int)))]) dL_law_1370 (by decide) rfl ?_
  refine p_aload_n dL_law_1372 rfl (q := 3) rfl ?_
  refine p_aload_n dL_law_1373 rfl (q := 1) rfl ?_
  refine p_iload dL_law_1374 (q := 5) rfl ?_
  refine p_iconst dL_law_1376 ?_
  refine p_iadd dL_law_1377 ?_
  refine p_sld hX hb hL2 (nf_r (zc_of (by omega) (by omega))) (by omega) (by omega) dL_law_1378 ?_
  rw [e1]
  have k6 := h.1
  have h := h.2
  refine p_VI G k_RL_207 (by decide) k6 rfl rfl (Nat.le_of_ble_eq_true rfl) ⟨by decide, by decide⟩ ⟨by show k + 1 + 0 ≤ 601024; omega, by show n + 6 + 0 ≤ 7293034; omega⟩ dL_law_1379 h (fun r8 im7 c9 h => ?_)
  refine p_istore (lv' := [(6, .int (zi r8)), (5, .int (zi r2)), (0, .ref b), (1, .ref x), (2, .ref m), (3, .ref o), (4, .int (zi (i : Int)))]) dL_law_1382 (by decide) rfl ?_
  refine p_aload_n dL_law_1384 rfl (q := 4) rfl ?_
  refine p_VI G k_RL_141 (by decide) k6 rfl rfl (Nat.le_of_ble_eq_true rfl) ⟨by decide, by decide⟩ ⟨by show k + 1 + 0 + 0 ≤ 601024; omega, by show n + 6 + 0 + 0 ≤ 7293034; omega⟩ dL_law_1385 h (fun r11 im10 c12 h => ?_)
  refine p_iload dL_law_1388 (q := 1) rfl ?_
  refine p_icmp_eq (tgt := 1395) dL_law_1390 (by decide) (nf_r c12) (nf_r c5) (fun b13 => ?_) (fun b13 => ?_)
  · have h := h.1 b13
    refine p_iload dL_law_1395 (q := 1) rfl ?_
    refine p_if_ne (tgt := 1412) dL_law_1397 (by decide) (nf_r c5) (fun b13 => ?_) (fun b13 => ?_)
    · have h := h.1 b13
      refine p_goto (tgt := 2747) dL_law_1412 (by decide) ?_
      refine p_sub (lv' := [(0, .ref b), (1, .ref x), (2, .ref m), (3, .ref o), (4, .int (zi (i : Int)))]) [2, 3, 4, 5, 6] rfl ?_
      exact hC _ _ _ _ (by show k + 1 + 0 + 0 ≤ k + 60; omega) (by show n + 6 + 0 + 0 ≤ n + 7000; omega) h
    · have h := h.2 b13
      refine p_aload_n dL_law_1400 rfl (q := 5) rfl ?_
      refine p_iconst dL_law_1401 ?_
      have k13 := h.1
      have h := h.2
      have l14 := h.1
      have h := h.2
      refine p_lald G k13 (nf_k (by decide)) (by decide) (by rw [l14]; decide) dL_law_1402 (fun c15 => ?_)
      refine p_iload dL_law_1403 (q := 0) rfl ?_
      refine p_i2l dL_law_1405 (nf_r c9) ?_
      refine p_lcmp dL_law_1406 (nfl_r c15) (nfl_r (zcl_zc ((nf_r c9)).2)) ?_
      refine p_if_eq (tgt := 1412) dL_law_1407 (by decide) (nf_r (zc_zcmp _ _)) (fun b16 => ?_) (fun b16 => ?_)
      · have h := h.1 b16
        refine p_goto (tgt := 2747) dL_law_1412 (by decide) ?_
        refine p_sub (lv' := [(0, .ref b), (1, .ref x), (2, .ref m), (3, .ref o), (4, .int (zi (i : Int)))]) [2, 3, 4, 5, 6] rfl ?_
        exact hC _ _ _ _ (by show k + 1 + 0 + 0 ≤ k + 60; omega) (by show n + 6 + 0 + 0 ≤ n + 7000; omega) h
      · have h := h.2 b16
        refine p_iconst dL_law_1410 ?_
        exact absurd h id
  · have h := h.2 b13
    refine p_iconst dL_law_1393 ?_
    exact absurd h id
set_option maxRecDepth 20000 in
set_option maxHeartbeats 4000000 in
theorem v_law_20 {g : zG} (G : zOK g) {S : zSh} {im : zIm} {b x m o i k n L : Nat} {xs : Nat → Int32} {Z : zEnd} {C : zSh → zIm → Prop} (hX : va_X b L xs g.2.1 g.2.1.heap) (hb : b < zbs g) (hL : L ≤ 2048) (hL2 : L < 2147483648) (hi : i + 4 ≤ L) (hk : k + 100 ≤ 601024) (hn : n + 10000 ≤ 7293034) {s1 : Int} (c1 : zc s1) (e1 : (xs ((i : Int) + 1).toNat).toInt = s1) {s2 : Int} (c2 : zc s2) (e2 : (xs ((i : Int) + 2).toNat).toInt = s2)
    (hC : ∀ k2 n2 S2 im2, k2 ≤ k + 60 → n2 ≤ n + 7000 → C S2 im2 → zPz g M_L k2 n2 2747 [(0, .ref b), (1, .ref x), (2, .ref m), (3, .ref o), (4, .int (zi (i : Int)))] [] S2 im2 Z)
    (h : (zkd S x = 7 ∧ zCW g yL_dueIn M_L_dueIn [(0, 10, 13, 24)] [.ref x, .int (zi s1), .int (zi s2), .ref o] S im (zQW (fun r2 S3 im4 => (zkd S3 m = 8 ∧ zCI g yX8_dueIn M_X8_dueIn [.ref m, .int (zi s1), .int (zi s2)] S3 im4 (fun r8 im7 => zCI g yX8_thrown M_X8_thrown [.ref m] S3 im7 (fun r11 im10 => ((r11 = r2 → ((¬ r2 = 0 → C S3 im10) ∧ (r2 = 0 → (zkd S3 o = 12 ∧ (zln S3 o = 1 ∧ (((zcmp (im10 o 0) r8) = 0 → C S3 im10) ∧ (¬ (zcmp (im10 o 0) r8) = 0 → False))))))) ∧ (¬ r11 = r2 → False))))))) zX0)) :
    zPz g M_L k n 1415 [(0, .ref b), (1, .ref x), (2, .ref m), (3, .ref o), (4, .int (zi (i : Int)))] [] S im Z := by
  refine p_aload_n dL_law_1415 rfl (q := 1) rfl ?_
  refine p_aload_n dL_law_1416 rfl (q := 0) rfl ?_
  refine p_iload dL_law_1417 (q := 4) rfl ?_
  refine p_iconst dL_law_1419 ?_
  refine p_iadd dL_law_1420 ?_
  refine p_sld hX hb hL2 (nf_r (zc_of (by omega) (by omega))) (by omega) (by omega) dL_law_1421 ?_
  rw [e1]
  refine p_aload_n dL_law_1422 rfl (q := 0) rfl ?_
  refine p_iload dL_law_1423 (q := 4) rfl ?_
  refine p_iconst dL_law_1425 ?_
  refine p_iadd dL_law_1426 ?_
  refine p_sld hX hb hL2 (nf_r (zc_of (by omega) (by omega))) (by omega) (by omega) dL_law_1427 ?_
  rw [e2]
  refine p_aload_n dL_law_1428 rfl (q := 3) rfl ?_
  have k1 := h.1
  have h := h.2
  refine p_SW G k_RL_208 rfl rfl (Nat.le_of_ble_eq_true rfl) ⟨by decide, by decide⟩ ⟨by show k + 2 ≤ 601024; omega, by show n + 12 ≤ 7293034; omega⟩ dL_law_1429 h (fun r2 S3 im4 c5 h => ?_)
  refine p_istore (lv' := [(5, .int (zi r2)), (0, .ref b), (1, .ref x), (2, .ref m), (3, .ref o), (4, .int (zi (i : Int)))]) dL_law_1432 (by decide) rfl ?_
  refine p_aload_n dL_law_1434 rfl (q := 3) rfl ?_
  refine p_aload_n dL_law_1435 rfl (q := 1) rfl ?_
  refine p_iload dL_law_1436 (q := 5) rfl ?_
  refine p_iconst dL_law_1438 ?_
  refine p_iadd dL_law_1439 ?_
  refine p_sld hX hb hL2 (nf_r (zc_of (by omega) (by omega))) (by omega) (by omega) dL_law_1440 ?_
  rw [e1]
  refine p_aload_n dL_law_1441 rfl (q := 1) rfl ?_
  refine p_iload dL_law_1442 (q := 5) rfl ?_
  refine p_iconst dL_law_1444 ?_
  refine p_iadd dL_law_1445 ?_
  refine p_sld hX hb hL2 (nf_r (zc_of (by omega) (by omega))) (by omega) (by omega) dL_law_1446 ?_
  rw [e2]
  have k6 := h.1
  have h := h.2
  refine p_VI G k_RL_210 (by decide) k6 rfl rfl (Nat.le_of_ble_eq_true rfl) ⟨by decide, by decide⟩ ⟨by show k + 2 + 0 ≤ 601024; omega, by show n + 12 + 0 ≤ 7293034; omega⟩ dL_law_1447 h (fun r8 im7 c9 h => ?_)
  refine p_istore (lv' := [(6, .int (zi r8)), (5, .int (zi r2)), (0, .ref b), (1, .ref x), (2, .ref m), (3, .ref o), (4, .int (zi (i : Int)))]) dL_law_1450 (by decide) rfl ?_
  refine p_aload_n dL_law_1452 rfl (q := 4) rfl ?_
  refine p_VI G k_RL_141 (by decide) k6 rfl rfl (Nat.le_of_ble_eq_true rfl) ⟨by decide, by decide⟩ ⟨by show k + 2 + 0 + 0 ≤ 601024; omega, by show n + 12 + 0 + 0 ≤ 7293034; omega⟩ dL_law_1453 h (fun r11 im10 c12 h => ?_)
  refine p_iload dL_law_1456 (q := 1) rfl ?_
  refine p_icmp_eq (tgt := 1463) dL_law_1458 (by decide) (nf_r c12) (nf_r c5) (fun b13 => ?_) (fun b13 => ?_)
  · have h := h.1 b13
    refine p_iload dL_law_1463 (q := 1) rfl ?_
    refine p_if_ne (tgt := 1480) dL_law_1465 (by decide) (nf_r c5) (fun b13 => ?_) (fun b13 => ?_)
    · have h := h.1 b13
      refine p_goto (tgt := 2747) dL_law_1480 (by decide) ?_
      refine p_sub (lv' := [(0, .ref b), (1, .ref x), (2, .ref m), (3, .ref o), (4, .int (zi (i : Int)))]) [2, 3, 4, 5, 6] rfl ?_
      exact hC _ _ _ _ (by show k + 2 + 0 + 0 ≤ k + 60; omega) (by show n + 12 + 0 + 0 ≤ n + 7000; omega) h
    · have h := h.2 b13
      refine p_aload_n dL_law_1468 rfl (q := 5) rfl ?_
      refine p_iconst dL_law_1469 ?_
      have k13 := h.1
      have h := h.2
      have l14 := h.1
      have h := h.2
      refine p_lald G k13 (nf_k (by decide)) (by decide) (by rw [l14]; decide) dL_law_1470 (fun c15 => ?_)
      refine p_iload dL_law_1471 (q := 0) rfl ?_
      refine p_i2l dL_law_1473 (nf_r c9) ?_
      refine p_lcmp dL_law_1474 (nfl_r c15) (nfl_r (zcl_zc ((nf_r c9)).2)) ?_
      refine p_if_eq (tgt := 1480) dL_law_1475 (by decide) (nf_r (zc_zcmp _ _)) (fun b16 => ?_) (fun b16 => ?_)
      · have h := h.1 b16
        refine p_goto (tgt := 2747) dL_law_1480 (by decide) ?_
        refine p_sub (lv' := [(0, .ref b), (1, .ref x), (2, .ref m), (3, .ref o), (4, .int (zi (i : Int)))]) [2, 3, 4, 5, 6] rfl ?_
        exact hC _ _ _ _ (by show k + 2 + 0 + 0 ≤ k + 60; omega) (by show n + 12 + 0 + 0 ≤ n + 7000; omega) h
      · have h := h.2 b16
        refine p_iconst dL_law_1478 ?_
        exact absurd h id
  · have h := h.2 b13
    refine p_iconst dL_law_1461 ?_
    exact absurd h id
set_option maxRecDepth 20000 in
set_option maxHeartbeats 4000000 in
theorem v_law_21 {g : zG} (G : zOK g) {S : zSh} {im : zIm} {b x m o i k n L : Nat} {xs : Nat → Int32} {Z : zEnd} {C : zSh → zIm → Prop} (hX : va_X b L xs g.2.1 g.2.1.heap) (hb : b < zbs g) (hL : L ≤ 2048) (hL2 : L < 2147483648) (hi : i + 4 ≤ L) (hk : k + 100 ≤ 601024) (hn : n + 10000 ≤ 7293034) {s1 : Int} (c1 : zc s1) (e1 : (xs ((i : Int) + 1).toNat).toInt = s1) {s2 : Int} (c2 : zc s2) (e2 : (xs ((i : Int) + 2).toNat).toInt = s2)
    (hC : ∀ k2 n2 S2 im2, k2 ≤ k + 60 → n2 ≤ n + 7000 → C S2 im2 → zPz g M_L k2 n2 2747 [(0, .ref b), (1, .ref x), (2, .ref m), (3, .ref o), (4, .int (zi (i : Int)))] [] S2 im2 Z)
    (h : (zkd S x = 7 ∧ zCW g yL_position M_L_position [(0, 10, 13, 24)] [.ref x, .int (zi s1), .int (zi s2), .ref o] S im (zQW (fun r2 S3 im4 => (zkd S3 m = 8 ∧ zCI g yX8_position M_X8_position [.ref m, .int (zi s1), .int (zi s2)] S3 im4 (fun r8 im7 => zCI g yX8_thrown M_X8_thrown [.ref m] S3 im7 (fun r11 im10 => ((r11 = r2 → ((¬ r2 = 0 → C S3 im10) ∧ (r2 = 0 → (zkd S3 o = 12 ∧ (zln S3 o = 1 ∧ (((zcmp (im10 o 0) r8) = 0 → C S3 im10) ∧ (¬ (zcmp (im10 o 0) r8) = 0 → False))))))) ∧ (¬ r11 = r2 → False))))))) zX0)) :
    zPz g M_L k n 1483 [(0, .ref b), (1, .ref x), (2, .ref m), (3, .ref o), (4, .int (zi (i : Int)))] [] S im Z := by
  refine p_aload_n dL_law_1483 rfl (q := 1) rfl ?_
  refine p_aload_n dL_law_1484 rfl (q := 0) rfl ?_
  refine p_iload dL_law_1485 (q := 4) rfl ?_
  refine p_iconst dL_law_1487 ?_
  refine p_iadd dL_law_1488 ?_
  refine p_sld hX hb hL2 (nf_r (zc_of (by omega) (by omega))) (by omega) (by omega) dL_law_1489 ?_
  rw [e1]
  refine p_aload_n dL_law_1490 rfl (q := 0) rfl ?_
  refine p_iload dL_law_1491 (q := 4) rfl ?_
  refine p_iconst dL_law_1493 ?_
  refine p_iadd dL_law_1494 ?_
  refine p_sld hX hb hL2 (nf_r (zc_of (by omega) (by omega))) (by omega) (by omega) dL_law_1495 ?_
  rw [e2]
  refine p_aload_n dL_law_1496 rfl (q := 3) rfl ?_
  have k1 := h.1
  have h := h.2
  refine p_SW G k_RL_211 rfl rfl (Nat.le_of_ble_eq_true rfl) ⟨by decide, by decide⟩ ⟨by show k + 2 ≤ 601024; omega, by show n + 12 ≤ 7293034; omega⟩ dL_law_1497 h (fun r2 S3 im4 c5 h => ?_)
  refine p_istore (lv' := [(5, .int (zi r2)), (0, .ref b), (1, .ref x), (2, .ref m), (3, .ref o), (4, .int (zi (i : Int)))]) dL_law_1500 (by decide) rfl ?_
  refine p_aload_n dL_law_1502 rfl (q := 3) rfl ?_
  refine p_aload_n dL_law_1503 rfl (q := 1) rfl ?_
  refine p_iload dL_law_1504 (q := 5) rfl ?_
  refine p_iconst dL_law_1506 ?_
  refine p_iadd dL_law_1507 ?_
  refine p_sld hX hb hL2 (nf_r (zc_of (by omega) (by omega))) (by omega) (by omega) dL_law_1508 ?_
  rw [e1]
  refine p_aload_n dL_law_1509 rfl (q := 1) rfl ?_
  refine p_iload dL_law_1510 (q := 5) rfl ?_
  refine p_iconst dL_law_1512 ?_
  refine p_iadd dL_law_1513 ?_
  refine p_sld hX hb hL2 (nf_r (zc_of (by omega) (by omega))) (by omega) (by omega) dL_law_1514 ?_
  rw [e2]
  have k6 := h.1
  have h := h.2
  refine p_VI G k_RL_213 (by decide) k6 rfl rfl (Nat.le_of_ble_eq_true rfl) ⟨by decide, by decide⟩ ⟨by show k + 2 + 0 ≤ 601024; omega, by show n + 12 + 0 ≤ 7293034; omega⟩ dL_law_1515 h (fun r8 im7 c9 h => ?_)
  refine p_istore (lv' := [(6, .int (zi r8)), (5, .int (zi r2)), (0, .ref b), (1, .ref x), (2, .ref m), (3, .ref o), (4, .int (zi (i : Int)))]) dL_law_1518 (by decide) rfl ?_
  refine p_aload_n dL_law_1520 rfl (q := 4) rfl ?_
  refine p_VI G k_RL_141 (by decide) k6 rfl rfl (Nat.le_of_ble_eq_true rfl) ⟨by decide, by decide⟩ ⟨by show k + 2 + 0 + 0 ≤ 601024; omega, by show n + 12 + 0 + 0 ≤ 7293034; omega⟩ dL_law_1521 h (fun r11 im10 c12 h => ?_)
  refine p_iload dL_law_1524 (q := 1) rfl ?_
  refine p_icmp_eq (tgt := 1531) dL_law_1526 (by decide) (nf_r c12) (nf_r c5) (fun b13 => ?_) (fun b13 => ?_)
  · have h := h.1 b13
    refine p_iload dL_law_1531 (q := 1) rfl ?_
    refine p_if_ne (tgt := 1548) dL_law_1533 (by decide) (nf_r c5) (fun b13 => ?_) (fun b13 => ?_)
    · have h := h.1 b13
      refine p_goto (tgt := 2747) dL_law_1548 (by decide) ?_
      refine p_sub (lv' := [(0, .ref b), (1, .ref x), (2, .ref m), (3, .ref o), (4, .int (zi (i : Int)))]) [2, 3, 4, 5, 6] rfl ?_
      exact hC _ _ _ _ (by show k + 2 + 0 + 0 ≤ k + 60; omega) (by show n + 12 + 0 + 0 ≤ n + 7000; omega) h
    · have h := h.2 b13
      refine p_aload_n dL_law_1536 rfl (q := 5) rfl ?_
      refine p_iconst dL_law_1537 ?_
      have k13 := h.1
      have h := h.2
      have l14 := h.1
      have h := h.2
      refine p_lald G k13 (nf_k (by decide)) (by decide) (by rw [l14]; decide) dL_law_1538 (fun c15 => ?_)
      refine p_iload dL_law_1539 (q := 0) rfl ?_
      refine p_i2l dL_law_1541 (nf_r c9) ?_
      refine p_lcmp dL_law_1542 (nfl_r c15) (nfl_r (zcl_zc ((nf_r c9)).2)) ?_
      refine p_if_eq (tgt := 1548) dL_law_1543 (by decide) (nf_r (zc_zcmp _ _)) (fun b16 => ?_) (fun b16 => ?_)
      · have h := h.1 b16
        refine p_goto (tgt := 2747) dL_law_1548 (by decide) ?_
        refine p_sub (lv' := [(0, .ref b), (1, .ref x), (2, .ref m), (3, .ref o), (4, .int (zi (i : Int)))]) [2, 3, 4, 5, 6] rfl ?_
        exact hC _ _ _ _ (by show k + 2 + 0 + 0 ≤ k + 60; omega) (by show n + 12 + 0 + 0 ≤ n + 7000; omega) h
      · have h := h.2 b16
        refine p_iconst dL_law_1546 ?_
        exact absurd h id
  · have h := h.2 b13
    refine p_iconst dL_law_1529 ?_
    exact absurd h id
set_option maxRecDepth 20000 in
set_option maxHeartbeats 4000000 in
theorem v_law_22 {g : zG} (G : zOK g) {S : zSh} {im : zIm} {b x m o i k n L : Nat} {xs : Nat → Int32} {Z : zEnd} {C : zSh → zIm → Prop} (hX : va_X b L xs g.2.1 g.2.1.heap) (hb : b < zbs g) (hL : L ≤ 2048) (hL2 : L < 2147483648) (hi : i + 4 ≤ L) (hk : k + 100 ≤ 601024) (hn : n + 10000 ≤ 7293034) {s1 : Int} (c1 : zc s1) (e1 : (xs ((i : Int) + 1).toNat).toInt = s1) {s2 : Int} (c2 : zc s2) (e2 : (xs ((i : Int) + 2).toNat).toInt = s2)
    (hC : ∀ k2 n2 S2 im2, k2 ≤ k + 60 → n2 ≤ n + 7000 → C S2 im2 → zPz g M_L k2 n2 2747 [(0, .ref b), (1, .ref x), (2, .ref m), (3, .ref o), (4, .int (zi (i : Int)))] [] S2 im2 Z)
    (h : (zkd S x = 7 ∧ zCW g yL_underWay M_L_underWay [(0, 10, 13, 24), (0, 10, 17, 13)] [.ref x, .int (zi s1), .int (zi s2), .ref o] S im (zQW (fun r2 S3 im4 => (zkd S3 m = 8 ∧ zCI g yX8_underWay M_X8_underWay [.ref m, .int (zi s1), .int (zi s2)] S3 im4 (fun r8 im7 => zCI g yX8_thrown M_X8_thrown [.ref m] S3 im7 (fun r11 im10 => ((r11 = r2 → ((¬ r2 = 0 → C S3 im10) ∧ (r2 = 0 → (zkd S3 o = 12 ∧ (zln S3 o = 1 ∧ (((zcmp (im10 o 0) r8) = 0 → C S3 im10) ∧ (¬ (zcmp (im10 o 0) r8) = 0 → False))))))) ∧ (¬ r11 = r2 → False))))))) zX0)) :
    zPz g M_L k n 1551 [(0, .ref b), (1, .ref x), (2, .ref m), (3, .ref o), (4, .int (zi (i : Int)))] [] S im Z := by
  refine p_aload_n dL_law_1551 rfl (q := 1) rfl ?_
  refine p_aload_n dL_law_1552 rfl (q := 0) rfl ?_
  refine p_iload dL_law_1553 (q := 4) rfl ?_
  refine p_iconst dL_law_1555 ?_
  refine p_iadd dL_law_1556 ?_
  refine p_sld hX hb hL2 (nf_r (zc_of (by omega) (by omega))) (by omega) (by omega) dL_law_1557 ?_
  rw [e1]
  refine p_aload_n dL_law_1558 rfl (q := 0) rfl ?_
  refine p_iload dL_law_1559 (q := 4) rfl ?_
  refine p_iconst dL_law_1561 ?_
  refine p_iadd dL_law_1562 ?_
  refine p_sld hX hb hL2 (nf_r (zc_of (by omega) (by omega))) (by omega) (by omega) dL_law_1563 ?_
  rw [e2]
  refine p_aload_n dL_law_1564 rfl (q := 3) rfl ?_
  have k1 := h.1
  have h := h.2
  refine p_SW G k_RL_214 rfl rfl (Nat.le_of_ble_eq_true rfl) ⟨by decide, by decide⟩ ⟨by show k + 2 ≤ 601024; omega, by show n + 12 ≤ 7293034; omega⟩ dL_law_1565 h (fun r2 S3 im4 c5 h => ?_)
  refine p_istore (lv' := [(5, .int (zi r2)), (0, .ref b), (1, .ref x), (2, .ref m), (3, .ref o), (4, .int (zi (i : Int)))]) dL_law_1568 (by decide) rfl ?_
  refine p_aload_n dL_law_1570 rfl (q := 3) rfl ?_
  refine p_aload_n dL_law_1571 rfl (q := 1) rfl ?_
  refine p_iload dL_law_1572 (q := 5) rfl ?_
  refine p_iconst dL_law_1574 ?_
  refine p_iadd dL_law_1575 ?_
  refine p_sld hX hb hL2 (nf_r (zc_of (by omega) (by omega))) (by omega) (by omega) dL_law_1576 ?_
  rw [e1]
  refine p_aload_n dL_law_1577 rfl (q := 1) rfl ?_
  refine p_iload dL_law_1578 (q := 5) rfl ?_
  refine p_iconst dL_law_1580 ?_
  refine p_iadd dL_law_1581 ?_
  refine p_sld hX hb hL2 (nf_r (zc_of (by omega) (by omega))) (by omega) (by omega) dL_law_1582 ?_
  rw [e2]
  have k6 := h.1
  have h := h.2
  refine p_VI G k_RL_216 (by decide) k6 rfl rfl (Nat.le_of_ble_eq_true rfl) ⟨by decide, by decide⟩ ⟨by show k + 2 + 0 ≤ 601024; omega, by show n + 12 + 0 ≤ 7293034; omega⟩ dL_law_1583 h (fun r8 im7 c9 h => ?_)
  refine p_istore (lv' := [(6, .int (zi r8)), (5, .int (zi r2)), (0, .ref b), (1, .ref x), (2, .ref m), (3, .ref o), (4, .int (zi (i : Int)))]) dL_law_1586 (by decide) rfl ?_
  refine p_aload_n dL_law_1588 rfl (q := 4) rfl ?_
  refine p_VI G k_RL_141 (by decide) k6 rfl rfl (Nat.le_of_ble_eq_true rfl) ⟨by decide, by decide⟩ ⟨by show k + 2 + 0 + 0 ≤ 601024; omega, by show n + 12 + 0 + 0 ≤ 7293034; omega⟩ dL_law_1589 h (fun r11 im10 c12 h => ?_)
  refine p_iload dL_law_1592 (q := 1) rfl ?_
  refine p_icmp_eq (tgt := 1599) dL_law_1594 (by decide) (nf_r c12) (nf_r c5) (fun b13 => ?_) (fun b13 => ?_)
  · have h := h.1 b13
    refine p_iload dL_law_1599 (q := 1) rfl ?_
    refine p_if_ne (tgt := 1616) dL_law_1601 (by decide) (nf_r c5) (fun b13 => ?_) (fun b13 => ?_)
    · have h := h.1 b13
      refine p_goto (tgt := 2747) dL_law_1616 (by decide) ?_
      refine p_sub (lv' := [(0, .ref b), (1, .ref x), (2, .ref m), (3, .ref o), (4, .int (zi (i : Int)))]) [2, 3, 4, 5, 6] rfl ?_
      exact hC _ _ _ _ (by show k + 2 + 0 + 0 ≤ k + 60; omega) (by show n + 12 + 0 + 0 ≤ n + 7000; omega) h
    · have h := h.2 b13
      refine p_aload_n dL_law_1604 rfl (q := 5) rfl ?_
      refine p_iconst dL_law_1605 ?_
      have k13 := h.1
      have h := h.2
      have l14 := h.1
      have h := h.2
      refine p_lald G k13 (nf_k (by decide)) (by decide) (by rw [l14]; decide) dL_law_1606 (fun c15 => ?_)
      refine p_iload dL_law_1607 (q := 0) rfl ?_
      refine p_i2l dL_law_1609 (nf_r c9) ?_
      refine p_lcmp dL_law_1610 (nfl_r c15) (nfl_r (zcl_zc ((nf_r c9)).2)) ?_
      refine p_if_eq (tgt := 1616) dL_law_1611 (by decide) (nf_r (zc_zcmp _ _)) (fun b16 => ?_) (fun b16 => ?_)
      · have h := h.1 b16
        refine p_goto (tgt := 2747) dL_law_1616 (by decide) ?_
        refine p_sub (lv' := [(0, .ref b), (1, .ref x), (2, .ref m), (3, .ref o), (4, .int (zi (i : Int)))]) [2, 3, 4, 5, 6] rfl ?_
        exact hC _ _ _ _ (by show k + 2 + 0 + 0 ≤ k + 60; omega) (by show n + 12 + 0 + 0 ≤ n + 7000; omega) h
      · have h := h.2 b16
        refine p_iconst dL_law_1614 ?_
        exact absurd h id
  · have h := h.2 b13
    refine p_iconst dL_law_1597 ?_
    exact absurd h id
set_option maxRecDepth 20000 in
set_option maxHeartbeats 4000000 in
theorem v_law_23 {g : zG} (G : zOK g) {S : zSh} {im : zIm} {b x m o i k n L : Nat} {xs : Nat → Int32} {Z : zEnd} {C : zSh → zIm → Prop} (hX : va_X b L xs g.2.1 g.2.1.heap) (hb : b < zbs g) (hL : L ≤ 2048) (hL2 : L < 2147483648) (hi : i + 4 ≤ L) (hk : k + 100 ≤ 601024) (hn : n + 10000 ≤ 7293034) {s1 : Int} (c1 : zc s1) (e1 : (xs ((i : Int) + 1).toNat).toInt = s1)
    (hC : ∀ k2 n2 S2 im2, k2 ≤ k + 60 → n2 ≤ n + 7000 → C S2 im2 → zPz g M_L k2 n2 2747 [(0, .ref b), (1, .ref x), (2, .ref m), (3, .ref o), (4, .int (zi (i : Int)))] [] S2 im2 Z)
    (h : (zkd S x = 7 ∧ zCW g yL_fleet M_L_fleet [(0, 9, 12, 24)] [.ref x, .int (zi s1), .ref o] S im (zQW (fun r2 S3 im4 => (zkd S3 m = 8 ∧ zCI g yX8_fleet M_X8_fleet [.ref m, .int (zi s1)] S3 im4 (fun r8 im7 => zCI g yX8_thrown M_X8_thrown [.ref m] S3 im7 (fun r11 im10 => ((r11 = r2 → ((¬ r2 = 0 → C S3 im10) ∧ (r2 = 0 → (zkd S3 o = 12 ∧ (zln S3 o = 1 ∧ (((zcmp (im10 o 0) r8) = 0 → C S3 im10) ∧ (¬ (zcmp (im10 o 0) r8) = 0 → False))))))) ∧ (¬ r11 = r2 → False))))))) zX0)) :
    zPz g M_L k n 1619 [(0, .ref b), (1, .ref x), (2, .ref m), (3, .ref o), (4, .int (zi (i : Int)))] [] S im Z := by
  refine p_aload_n dL_law_1619 rfl (q := 1) rfl ?_
  refine p_aload_n dL_law_1620 rfl (q := 0) rfl ?_
  refine p_iload dL_law_1621 (q := 4) rfl ?_
  refine p_iconst dL_law_1623 ?_
  refine p_iadd dL_law_1624 ?_
  refine p_sld hX hb hL2 (nf_r (zc_of (by omega) (by omega))) (by omega) (by omega) dL_law_1625 ?_
  rw [e1]
  refine p_aload_n dL_law_1626 rfl (q := 3) rfl ?_
  have k1 := h.1
  have h := h.2
  refine p_SW G k_RL_217 rfl rfl (Nat.le_of_ble_eq_true rfl) ⟨by decide, by decide⟩ ⟨by show k + 1 ≤ 601024; omega, by show n + 6 ≤ 7293034; omega⟩ dL_law_1627 h (fun r2 S3 im4 c5 h => ?_)
  refine p_istore (lv' := [(5, .int (zi r2)), (0, .ref b), (1, .ref x), (2, .ref m), (3, .ref o), (4, .int (zi (i : Int)))]) dL_law_1630 (by decide) rfl ?_
  refine p_aload_n dL_law_1632 rfl (q := 3) rfl ?_
  refine p_aload_n dL_law_1633 rfl (q := 1) rfl ?_
  refine p_iload dL_law_1634 (q := 5) rfl ?_
  refine p_iconst dL_law_1636 ?_
  refine p_iadd dL_law_1637 ?_
  refine p_sld hX hb hL2 (nf_r (zc_of (by omega) (by omega))) (by omega) (by omega) dL_law_1638 ?_
  rw [e1]
  have k6 := h.1
  have h := h.2
  refine p_VI G k_RL_219 (by decide) k6 rfl rfl (Nat.le_of_ble_eq_true rfl) ⟨by decide, by decide⟩ ⟨by show k + 1 + 0 ≤ 601024; omega, by show n + 6 + 0 ≤ 7293034; omega⟩ dL_law_1639 h (fun r8 im7 c9 h => ?_)
  refine p_istore (lv' := [(6, .int (zi r8)), (5, .int (zi r2)), (0, .ref b), (1, .ref x), (2, .ref m), (3, .ref o), (4, .int (zi (i : Int)))]) dL_law_1642 (by decide) rfl ?_
  refine p_aload_n dL_law_1644 rfl (q := 4) rfl ?_
  refine p_VI G k_RL_141 (by decide) k6 rfl rfl (Nat.le_of_ble_eq_true rfl) ⟨by decide, by decide⟩ ⟨by show k + 1 + 0 + 0 ≤ 601024; omega, by show n + 6 + 0 + 0 ≤ 7293034; omega⟩ dL_law_1645 h (fun r11 im10 c12 h => ?_)
  refine p_iload dL_law_1648 (q := 1) rfl ?_
  refine p_icmp_eq (tgt := 1655) dL_law_1650 (by decide) (nf_r c12) (nf_r c5) (fun b13 => ?_) (fun b13 => ?_)
  · have h := h.1 b13
    refine p_iload dL_law_1655 (q := 1) rfl ?_
    refine p_if_ne (tgt := 1672) dL_law_1657 (by decide) (nf_r c5) (fun b13 => ?_) (fun b13 => ?_)
    · have h := h.1 b13
      refine p_goto (tgt := 2747) dL_law_1672 (by decide) ?_
      refine p_sub (lv' := [(0, .ref b), (1, .ref x), (2, .ref m), (3, .ref o), (4, .int (zi (i : Int)))]) [2, 3, 4, 5, 6] rfl ?_
      exact hC _ _ _ _ (by show k + 1 + 0 + 0 ≤ k + 60; omega) (by show n + 6 + 0 + 0 ≤ n + 7000; omega) h
    · have h := h.2 b13
      refine p_aload_n dL_law_1660 rfl (q := 5) rfl ?_
      refine p_iconst dL_law_1661 ?_
      have k13 := h.1
      have h := h.2
      have l14 := h.1
      have h := h.2
      refine p_lald G k13 (nf_k (by decide)) (by decide) (by rw [l14]; decide) dL_law_1662 (fun c15 => ?_)
      refine p_iload dL_law_1663 (q := 0) rfl ?_
      refine p_i2l dL_law_1665 (nf_r c9) ?_
      refine p_lcmp dL_law_1666 (nfl_r c15) (nfl_r (zcl_zc ((nf_r c9)).2)) ?_
      refine p_if_eq (tgt := 1672) dL_law_1667 (by decide) (nf_r (zc_zcmp _ _)) (fun b16 => ?_) (fun b16 => ?_)
      · have h := h.1 b16
        refine p_goto (tgt := 2747) dL_law_1672 (by decide) ?_
        refine p_sub (lv' := [(0, .ref b), (1, .ref x), (2, .ref m), (3, .ref o), (4, .int (zi (i : Int)))]) [2, 3, 4, 5, 6] rfl ?_
        exact hC _ _ _ _ (by show k + 1 + 0 + 0 ≤ k + 60; omega) (by show n + 6 + 0 + 0 ≤ n + 7000; omega) h
      · have h := h.2 b16
        refine p_iconst dL_law_1670 ?_
        exact absurd h id
  · have h := h.2 b13
    refine p_iconst dL_law_1653 ?_
    exact absurd h id
set_option maxRecDepth 20000 in
set_option maxHeartbeats 4000000 in
theorem v_law_24 {g : zG} (G : zOK g) {S : zSh} {im : zIm} {b x m o i k n L : Nat} {xs : Nat → Int32} {Z : zEnd} {C : zSh → zIm → Prop} (hX : va_X b L xs g.2.1 g.2.1.heap) (hb : b < zbs g) (hL : L ≤ 2048) (hL2 : L < 2147483648) (hi : i + 4 ≤ L) (hk : k + 100 ≤ 601024) (hn : n + 10000 ≤ 7293034) {s1 : Int} (c1 : zc s1) (e1 : (xs ((i : Int) + 1).toNat).toInt = s1) {s2 : Int} (c2 : zc s2) (e2 : (xs ((i : Int) + 2).toNat).toInt = s2)
    (hC : ∀ k2 n2 S2 im2, k2 ≤ k + 60 → n2 ≤ n + 7000 → C S2 im2 → zPz g M_L k2 n2 2747 [(0, .ref b), (1, .ref x), (2, .ref m), (3, .ref o), (4, .int (zi (i : Int)))] [] S2 im2 Z)
    (h : (zkd S x = 7 ∧ zCW g yL_nextArrival M_L_nextArrival [(0, 10, 13, 24)] [.ref x, .int (zi s1), .int (zi s2), .ref o] S im (zQW (fun r2 S3 im4 => (zkd S3 m = 8 ∧ zCI g yX8_nextArrival M_X8_nextArrival [.ref m, .int (zi s1), .int (zi s2)] S3 im4 (fun r8 im7 => zCI g yX8_thrown M_X8_thrown [.ref m] S3 im7 (fun r11 im10 => ((r11 = r2 → ((¬ r2 = 0 → C S3 im10) ∧ (r2 = 0 → (zkd S3 o = 12 ∧ (zln S3 o = 1 ∧ (((zcmp (im10 o 0) r8) = 0 → C S3 im10) ∧ (¬ (zcmp (im10 o 0) r8) = 0 → False))))))) ∧ (¬ r11 = r2 → False))))))) zX0)) :
    zPz g M_L k n 1675 [(0, .ref b), (1, .ref x), (2, .ref m), (3, .ref o), (4, .int (zi (i : Int)))] [] S im Z := by
  refine p_aload_n dL_law_1675 rfl (q := 1) rfl ?_
  refine p_aload_n dL_law_1676 rfl (q := 0) rfl ?_
  refine p_iload dL_law_1677 (q := 4) rfl ?_
  refine p_iconst dL_law_1679 ?_
  refine p_iadd dL_law_1680 ?_
  refine p_sld hX hb hL2 (nf_r (zc_of (by omega) (by omega))) (by omega) (by omega) dL_law_1681 ?_
  rw [e1]
  refine p_aload_n dL_law_1682 rfl (q := 0) rfl ?_
  refine p_iload dL_law_1683 (q := 4) rfl ?_
  refine p_iconst dL_law_1685 ?_
  refine p_iadd dL_law_1686 ?_
  refine p_sld hX hb hL2 (nf_r (zc_of (by omega) (by omega))) (by omega) (by omega) dL_law_1687 ?_
  rw [e2]
  refine p_aload_n dL_law_1688 rfl (q := 3) rfl ?_
  have k1 := h.1
  have h := h.2
  refine p_SW G k_RL_220 rfl rfl (Nat.le_of_ble_eq_true rfl) ⟨by decide, by decide⟩ ⟨by show k + 2 ≤ 601024; omega, by show n + 12 ≤ 7293034; omega⟩ dL_law_1689 h (fun r2 S3 im4 c5 h => ?_)
  refine p_istore (lv' := [(5, .int (zi r2)), (0, .ref b), (1, .ref x), (2, .ref m), (3, .ref o), (4, .int (zi (i : Int)))]) dL_law_1692 (by decide) rfl ?_
  refine p_aload_n dL_law_1694 rfl (q := 3) rfl ?_
  refine p_aload_n dL_law_1695 rfl (q := 1) rfl ?_
  refine p_iload dL_law_1696 (q := 5) rfl ?_
  refine p_iconst dL_law_1698 ?_
  refine p_iadd dL_law_1699 ?_
  refine p_sld hX hb hL2 (nf_r (zc_of (by omega) (by omega))) (by omega) (by omega) dL_law_1700 ?_
  rw [e1]
  refine p_aload_n dL_law_1701 rfl (q := 1) rfl ?_
  refine p_iload dL_law_1702 (q := 5) rfl ?_
  refine p_iconst dL_law_1704 ?_
  refine p_iadd dL_law_1705 ?_
  refine p_sld hX hb hL2 (nf_r (zc_of (by omega) (by omega))) (by omega) (by omega) dL_law_1706 ?_
  rw [e2]
  have k6 := h.1
  have h := h.2
  refine p_VI G k_RL_222 (by decide) k6 rfl rfl (Nat.le_of_ble_eq_true rfl) ⟨by decide, by decide⟩ ⟨by show k + 2 + 0 ≤ 601024; omega, by show n + 12 + 0 ≤ 7293034; omega⟩ dL_law_1707 h (fun r8 im7 c9 h => ?_)
  refine p_istore (lv' := [(6, .int (zi r8)), (5, .int (zi r2)), (0, .ref b), (1, .ref x), (2, .ref m), (3, .ref o), (4, .int (zi (i : Int)))]) dL_law_1710 (by decide) rfl ?_
  refine p_aload_n dL_law_1712 rfl (q := 4) rfl ?_
  refine p_VI G k_RL_141 (by decide) k6 rfl rfl (Nat.le_of_ble_eq_true rfl) ⟨by decide, by decide⟩ ⟨by show k + 2 + 0 + 0 ≤ 601024; omega, by show n + 12 + 0 + 0 ≤ 7293034; omega⟩ dL_law_1713 h (fun r11 im10 c12 h => ?_)
  refine p_iload dL_law_1716 (q := 1) rfl ?_
  refine p_icmp_eq (tgt := 1723) dL_law_1718 (by decide) (nf_r c12) (nf_r c5) (fun b13 => ?_) (fun b13 => ?_)
  · have h := h.1 b13
    refine p_iload dL_law_1723 (q := 1) rfl ?_
    refine p_if_ne (tgt := 1740) dL_law_1725 (by decide) (nf_r c5) (fun b13 => ?_) (fun b13 => ?_)
    · have h := h.1 b13
      refine p_goto (tgt := 2747) dL_law_1740 (by decide) ?_
      refine p_sub (lv' := [(0, .ref b), (1, .ref x), (2, .ref m), (3, .ref o), (4, .int (zi (i : Int)))]) [2, 3, 4, 5, 6] rfl ?_
      exact hC _ _ _ _ (by show k + 2 + 0 + 0 ≤ k + 60; omega) (by show n + 12 + 0 + 0 ≤ n + 7000; omega) h
    · have h := h.2 b13
      refine p_aload_n dL_law_1728 rfl (q := 5) rfl ?_
      refine p_iconst dL_law_1729 ?_
      have k13 := h.1
      have h := h.2
      have l14 := h.1
      have h := h.2
      refine p_lald G k13 (nf_k (by decide)) (by decide) (by rw [l14]; decide) dL_law_1730 (fun c15 => ?_)
      refine p_iload dL_law_1731 (q := 0) rfl ?_
      refine p_i2l dL_law_1733 (nf_r c9) ?_
      refine p_lcmp dL_law_1734 (nfl_r c15) (nfl_r (zcl_zc ((nf_r c9)).2)) ?_
      refine p_if_eq (tgt := 1740) dL_law_1735 (by decide) (nf_r (zc_zcmp _ _)) (fun b16 => ?_) (fun b16 => ?_)
      · have h := h.1 b16
        refine p_goto (tgt := 2747) dL_law_1740 (by decide) ?_
        refine p_sub (lv' := [(0, .ref b), (1, .ref x), (2, .ref m), (3, .ref o), (4, .int (zi (i : Int)))]) [2, 3, 4, 5, 6] rfl ?_
        exact hC _ _ _ _ (by show k + 2 + 0 + 0 ≤ k + 60; omega) (by show n + 12 + 0 + 0 ≤ n + 7000; omega) h
      · have h := h.2 b16
        refine p_iconst dL_law_1738 ?_
        exact absurd h id
  · have h := h.2 b13
    refine p_iconst dL_law_1721 ?_
    exact absurd h id
set_option maxRecDepth 20000 in
set_option maxHeartbeats 4000000 in
theorem v_law_25 {g : zG} (G : zOK g) {S : zSh} {im : zIm} {b x m o i k n L : Nat} {xs : Nat → Int32} {Z : zEnd} {C : zSh → zIm → Prop} (hX : va_X b L xs g.2.1 g.2.1.heap) (hb : b < zbs g) (hL : L ≤ 2048) (hL2 : L < 2147483648) (hi : i + 4 ≤ L) (hk : k + 100 ≤ 601024) (hn : n + 10000 ≤ 7293034) 
    (hC : ∀ k2 n2 S2 im2, k2 ≤ k + 60 → n2 ≤ n + 7000 → C S2 im2 → zPz g M_L k2 n2 2747 [(0, .ref b), (1, .ref x), (2, .ref m), (3, .ref o), (4, .int (zi (i : Int)))] [] S2 im2 Z)
    (h : (zkd S x = 7 ∧ zCI g yX7_dueCount M_X7_dueCount [.ref x] S im (fun r3 im2 => (zkd S m = 8 ∧ zCI g yX8_dueCount M_X8_dueCount [.ref m] S im2 (fun r7 im6 => ((r3 = r7 → C S im6) ∧ (¬ r3 = r7 → False))))))) :
    zPz g M_L k n 1743 [(0, .ref b), (1, .ref x), (2, .ref m), (3, .ref o), (4, .int (zi (i : Int)))] [] S im Z := by
  refine p_aload_n dL_law_1743 rfl (q := 1) rfl ?_
  have k1 := h.1
  have h := h.2
  refine p_VI G k_RL_223 (by decide) k1 rfl rfl (Nat.le_of_ble_eq_true rfl) ⟨by decide, by decide⟩ ⟨by show k + 0 ≤ 601024; omega, by show n + 0 ≤ 7293034; omega⟩ dL_law_1744 h (fun r3 im2 c4 h => ?_)
  refine p_aload_n dL_law_1747 rfl (q := 2) rfl ?_
  have k5 := h.1
  have h := h.2
  refine p_VI G k_RL_226 (by decide) k5 rfl rfl (Nat.le_of_ble_eq_true rfl) ⟨by decide, by decide⟩ ⟨by show k + 0 + 0 ≤ 601024; omega, by show n + 0 + 0 ≤ 7293034; omega⟩ dL_law_1748 h (fun r7 im6 c8 h => ?_)
  refine p_icmp_eq (tgt := 2747) dL_law_1751 (by decide) (nf_r c4) (nf_r c8) (fun b9 => ?_) (fun b9 => ?_)
  · have h := h.1 b9
    refine p_sub (lv' := [(0, .ref b), (1, .ref x), (2, .ref m), (3, .ref o), (4, .int (zi (i : Int)))]) [0, 1, 2, 3, 4] rfl ?_
    exact hC _ _ _ _ (by show k + 0 + 0 ≤ k + 60; omega) (by show n + 0 + 0 ≤ n + 7000; omega) h
  · have h := h.2 b9
    refine p_iconst dL_law_1754 ?_
    exact absurd h id
set_option maxRecDepth 20000 in
set_option maxHeartbeats 4000000 in
theorem v_law_26 {g : zG} (G : zOK g) {S : zSh} {im : zIm} {b x m o i k n L : Nat} {xs : Nat → Int32} {Z : zEnd} {C : zSh → zIm → Prop} (hX : va_X b L xs g.2.1 g.2.1.heap) (hb : b < zbs g) (hL : L ≤ 2048) (hL2 : L < 2147483648) (hi : i + 4 ≤ L) (hk : k + 100 ≤ 601024) (hn : n + 10000 ≤ 7293034) {s1 : Int} (c1 : zc s1) (e1 : (xs ((i : Int) + 1).toNat).toInt = s1)
    (hC : ∀ k2 n2 S2 im2, k2 ≤ k + 60 → n2 ≤ n + 7000 → C S2 im2 → zPz g M_L k2 n2 2747 [(0, .ref b), (1, .ref x), (2, .ref m), (3, .ref o), (4, .int (zi (i : Int)))] [] S2 im2 Z)
    (h : (zkd S x = 7 ∧ zCW g yL_dueDay M_L_dueDay [(0, 9, 12, 24)] [.ref x, .int (zi s1), .ref o] S im (zQW (fun r2 S3 im4 => (zkd S3 m = 8 ∧ zCI g yX8_dueDay M_X8_dueDay [.ref m, .int (zi s1)] S3 im4 (fun r8 im7 => zCI g yX8_thrown M_X8_thrown [.ref m] S3 im7 (fun r11 im10 => ((r11 = r2 → ((¬ r2 = 0 → C S3 im10) ∧ (r2 = 0 → (zkd S3 o = 12 ∧ (zln S3 o = 1 ∧ (((zcmp (im10 o 0) r8) = 0 → C S3 im10) ∧ (¬ (zcmp (im10 o 0) r8) = 0 → False))))))) ∧ (¬ r11 = r2 → False))))))) zX0)) :
    zPz g M_L k n 1756 [(0, .ref b), (1, .ref x), (2, .ref m), (3, .ref o), (4, .int (zi (i : Int)))] [] S im Z := by
  refine p_aload_n dL_law_1756 rfl (q := 1) rfl ?_
  refine p_aload_n dL_law_1757 rfl (q := 0) rfl ?_
  refine p_iload dL_law_1758 (q := 4) rfl ?_
  refine p_iconst dL_law_1760 ?_
  refine p_iadd dL_law_1761 ?_
  refine p_sld hX hb hL2 (nf_r (zc_of (by omega) (by omega))) (by omega) (by omega) dL_law_1762 ?_
  rw [e1]
  refine p_aload_n dL_law_1763 rfl (q := 3) rfl ?_
  have k1 := h.1
  have h := h.2
  refine p_SW G k_RL_227 rfl rfl (Nat.le_of_ble_eq_true rfl) ⟨by decide, by decide⟩ ⟨by show k + 1 ≤ 601024; omega, by show n + 6 ≤ 7293034; omega⟩ dL_law_1764 h (fun r2 S3 im4 c5 h => ?_)
  refine p_istore (lv' := [(5, .int (zi r2)), (0, .ref b), (1, .ref x), (2, .ref m), (3, .ref o), (4, .int (zi (i : Int)))]) dL_law_1767 (by decide) rfl ?_
  refine p_aload_n dL_law_1769 rfl (q := 3) rfl ?_
  refine p_aload_n dL_law_1770 rfl (q := 1) rfl ?_
  refine p_iload dL_law_1771 (q := 5) rfl ?_
  refine p_iconst dL_law_1773 ?_
  refine p_iadd dL_law_1774 ?_
  refine p_sld hX hb hL2 (nf_r (zc_of (by omega) (by omega))) (by omega) (by omega) dL_law_1775 ?_
  rw [e1]
  have k6 := h.1
  have h := h.2
  refine p_VI G k_RL_229 (by decide) k6 rfl rfl (Nat.le_of_ble_eq_true rfl) ⟨by decide, by decide⟩ ⟨by show k + 1 + 0 ≤ 601024; omega, by show n + 6 + 0 ≤ 7293034; omega⟩ dL_law_1776 h (fun r8 im7 c9 h => ?_)
  refine p_istore (lv' := [(6, .int (zi r8)), (5, .int (zi r2)), (0, .ref b), (1, .ref x), (2, .ref m), (3, .ref o), (4, .int (zi (i : Int)))]) dL_law_1779 (by decide) rfl ?_
  refine p_aload_n dL_law_1781 rfl (q := 4) rfl ?_
  refine p_VI G k_RL_141 (by decide) k6 rfl rfl (Nat.le_of_ble_eq_true rfl) ⟨by decide, by decide⟩ ⟨by show k + 1 + 0 + 0 ≤ 601024; omega, by show n + 6 + 0 + 0 ≤ 7293034; omega⟩ dL_law_1782 h (fun r11 im10 c12 h => ?_)
  refine p_iload dL_law_1785 (q := 1) rfl ?_
  refine p_icmp_eq (tgt := 1792) dL_law_1787 (by decide) (nf_r c12) (nf_r c5) (fun b13 => ?_) (fun b13 => ?_)
  · have h := h.1 b13
    refine p_iload dL_law_1792 (q := 1) rfl ?_
    refine p_if_ne (tgt := 1809) dL_law_1794 (by decide) (nf_r c5) (fun b13 => ?_) (fun b13 => ?_)
    · have h := h.1 b13
      refine p_goto (tgt := 2747) dL_law_1809 (by decide) ?_
      refine p_sub (lv' := [(0, .ref b), (1, .ref x), (2, .ref m), (3, .ref o), (4, .int (zi (i : Int)))]) [2, 3, 4, 5, 6] rfl ?_
      exact hC _ _ _ _ (by show k + 1 + 0 + 0 ≤ k + 60; omega) (by show n + 6 + 0 + 0 ≤ n + 7000; omega) h
    · have h := h.2 b13
      refine p_aload_n dL_law_1797 rfl (q := 5) rfl ?_
      refine p_iconst dL_law_1798 ?_
      have k13 := h.1
      have h := h.2
      have l14 := h.1
      have h := h.2
      refine p_lald G k13 (nf_k (by decide)) (by decide) (by rw [l14]; decide) dL_law_1799 (fun c15 => ?_)
      refine p_iload dL_law_1800 (q := 0) rfl ?_
      refine p_i2l dL_law_1802 (nf_r c9) ?_
      refine p_lcmp dL_law_1803 (nfl_r c15) (nfl_r (zcl_zc ((nf_r c9)).2)) ?_
      refine p_if_eq (tgt := 1809) dL_law_1804 (by decide) (nf_r (zc_zcmp _ _)) (fun b16 => ?_) (fun b16 => ?_)
      · have h := h.1 b16
        refine p_goto (tgt := 2747) dL_law_1809 (by decide) ?_
        refine p_sub (lv' := [(0, .ref b), (1, .ref x), (2, .ref m), (3, .ref o), (4, .int (zi (i : Int)))]) [2, 3, 4, 5, 6] rfl ?_
        exact hC _ _ _ _ (by show k + 1 + 0 + 0 ≤ k + 60; omega) (by show n + 6 + 0 + 0 ≤ n + 7000; omega) h
      · have h := h.2 b16
        refine p_iconst dL_law_1807 ?_
        exact absurd h id
  · have h := h.2 b13
    refine p_iconst dL_law_1790 ?_
    exact absurd h id
set_option maxRecDepth 20000 in
set_option maxHeartbeats 4000000 in
theorem v_law_27 {g : zG} (G : zOK g) {S : zSh} {im : zIm} {b x m o i k n L : Nat} {xs : Nat → Int32} {Z : zEnd} {C : zSh → zIm → Prop} (hX : va_X b L xs g.2.1 g.2.1.heap) (hb : b < zbs g) (hL : L ≤ 2048) (hL2 : L < 2147483648) (hi : i + 4 ≤ L) (hk : k + 100 ≤ 601024) (hn : n + 10000 ≤ 7293034) {s1 : Int} (c1 : zc s1) (e1 : (xs ((i : Int) + 1).toNat).toInt = s1)
    (hC : ∀ k2 n2 S2 im2, k2 ≤ k + 60 → n2 ≤ n + 7000 → C S2 im2 → zPz g M_L k2 n2 2747 [(0, .ref b), (1, .ref x), (2, .ref m), (3, .ref o), (4, .int (zi (i : Int)))] [] S2 im2 Z)
    (h : (zkd S x = 7 ∧ zCW g yL_dueKind M_L_dueKind [(0, 9, 12, 24)] [.ref x, .int (zi s1), .ref o] S im (zQW (fun r2 S3 im4 => (zkd S3 m = 8 ∧ zCI g yX8_dueKind M_X8_dueKind [.ref m, .int (zi s1)] S3 im4 (fun r8 im7 => zCI g yX8_thrown M_X8_thrown [.ref m] S3 im7 (fun r11 im10 => ((r11 = r2 → ((¬ r2 = 0 → C S3 im10) ∧ (r2 = 0 → (zkd S3 o = 12 ∧ (zln S3 o = 1 ∧ (((zcmp (im10 o 0) r8) = 0 → C S3 im10) ∧ (¬ (zcmp (im10 o 0) r8) = 0 → False))))))) ∧ (¬ r11 = r2 → False))))))) zX0)) :
    zPz g M_L k n 1812 [(0, .ref b), (1, .ref x), (2, .ref m), (3, .ref o), (4, .int (zi (i : Int)))] [] S im Z := by
  refine p_aload_n dL_law_1812 rfl (q := 1) rfl ?_
  refine p_aload_n dL_law_1813 rfl (q := 0) rfl ?_
  refine p_iload dL_law_1814 (q := 4) rfl ?_
  refine p_iconst dL_law_1816 ?_
  refine p_iadd dL_law_1817 ?_
  refine p_sld hX hb hL2 (nf_r (zc_of (by omega) (by omega))) (by omega) (by omega) dL_law_1818 ?_
  rw [e1]
  refine p_aload_n dL_law_1819 rfl (q := 3) rfl ?_
  have k1 := h.1
  have h := h.2
  refine p_SW G k_RL_230 rfl rfl (Nat.le_of_ble_eq_true rfl) ⟨by decide, by decide⟩ ⟨by show k + 1 ≤ 601024; omega, by show n + 6 ≤ 7293034; omega⟩ dL_law_1820 h (fun r2 S3 im4 c5 h => ?_)
  refine p_istore (lv' := [(5, .int (zi r2)), (0, .ref b), (1, .ref x), (2, .ref m), (3, .ref o), (4, .int (zi (i : Int)))]) dL_law_1823 (by decide) rfl ?_
  refine p_aload_n dL_law_1825 rfl (q := 3) rfl ?_
  refine p_aload_n dL_law_1826 rfl (q := 1) rfl ?_
  refine p_iload dL_law_1827 (q := 5) rfl ?_
  refine p_iconst dL_law_1829 ?_
  refine p_iadd dL_law_1830 ?_
  refine p_sld hX hb hL2 (nf_r (zc_of (by omega) (by omega))) (by omega) (by omega) dL_law_1831 ?_
  rw [e1]
  have k6 := h.1
  have h := h.2
  refine p_VI G k_RL_232 (by decide) k6 rfl rfl (Nat.le_of_ble_eq_true rfl) ⟨by decide, by decide⟩ ⟨by show k + 1 + 0 ≤ 601024; omega, by show n + 6 + 0 ≤ 7293034; omega⟩ dL_law_1832 h (fun r8 im7 c9 h => ?_)
  refine p_istore (lv' := [(6, .int (zi r8)), (5, .int (zi r2)), (0, .ref b), (1, .ref x), (2, .ref m), (3, .ref o), (4, .int (zi (i : Int)))]) dL_law_1835 (by decide) rfl ?_
  refine p_aload_n dL_law_1837 rfl (q := 4) rfl ?_
  refine p_VI G k_RL_141 (by decide) k6 rfl rfl (Nat.le_of_ble_eq_true rfl) ⟨by decide, by decide⟩ ⟨by show k + 1 + 0 + 0 ≤ 601024; omega, by show n + 6 + 0 + 0 ≤ 7293034; omega⟩ dL_law_1838 h (fun r11 im10 c12 h => ?_)
  refine p_iload dL_law_1841 (q := 1) rfl ?_
  refine p_icmp_eq (tgt := 1848) dL_law_1843 (by decide) (nf_r c12) (nf_r c5) (fun b13 => ?_) (fun b13 => ?_)
  · have h := h.1 b13
    refine p_iload dL_law_1848 (q := 1) rfl ?_
    refine p_if_ne (tgt := 1865) dL_law_1850 (by decide) (nf_r c5) (fun b13 => ?_) (fun b13 => ?_)
    · have h := h.1 b13
      refine p_goto (tgt := 2747) dL_law_1865 (by decide) ?_
      refine p_sub (lv' := [(0, .ref b), (1, .ref x), (2, .ref m), (3, .ref o), (4, .int (zi (i : Int)))]) [2, 3, 4, 5, 6] rfl ?_
      exact hC _ _ _ _ (by show k + 1 + 0 + 0 ≤ k + 60; omega) (by show n + 6 + 0 + 0 ≤ n + 7000; omega) h
    · have h := h.2 b13
      refine p_aload_n dL_law_1853 rfl (q := 5) rfl ?_
      refine p_iconst dL_law_1854 ?_
      have k13 := h.1
      have h := h.2
      have l14 := h.1
      have h := h.2
      refine p_lald G k13 (nf_k (by decide)) (by decide) (by rw [l14]; decide) dL_law_1855 (fun c15 => ?_)
      refine p_iload dL_law_1856 (q := 0) rfl ?_
      refine p_i2l dL_law_1858 (nf_r c9) ?_
      refine p_lcmp dL_law_1859 (nfl_r c15) (nfl_r (zcl_zc ((nf_r c9)).2)) ?_
      refine p_if_eq (tgt := 1865) dL_law_1860 (by decide) (nf_r (zc_zcmp _ _)) (fun b16 => ?_) (fun b16 => ?_)
      · have h := h.1 b16
        refine p_goto (tgt := 2747) dL_law_1865 (by decide) ?_
        refine p_sub (lv' := [(0, .ref b), (1, .ref x), (2, .ref m), (3, .ref o), (4, .int (zi (i : Int)))]) [2, 3, 4, 5, 6] rfl ?_
        exact hC _ _ _ _ (by show k + 1 + 0 + 0 ≤ k + 60; omega) (by show n + 6 + 0 + 0 ≤ n + 7000; omega) h
      · have h := h.2 b16
        refine p_iconst dL_law_1863 ?_
        exact absurd h id
  · have h := h.2 b13
    refine p_iconst dL_law_1846 ?_
    exact absurd h id
set_option maxRecDepth 20000 in
set_option maxHeartbeats 4000000 in
theorem v_law_28 {g : zG} (G : zOK g) {S : zSh} {im : zIm} {b x m o i k n L : Nat} {xs : Nat → Int32} {Z : zEnd} {C : zSh → zIm → Prop} (hX : va_X b L xs g.2.1 g.2.1.heap) (hb : b < zbs g) (hL : L ≤ 2048) (hL2 : L < 2147483648) (hi : i + 4 ≤ L) (hk : k + 100 ≤ 601024) (hn : n + 10000 ≤ 7293034) {s1 : Int} (c1 : zc s1) (e1 : (xs ((i : Int) + 1).toNat).toInt = s1)
    (hC : ∀ k2 n2 S2 im2, k2 ≤ k + 60 → n2 ≤ n + 7000 → C S2 im2 → zPz g M_L k2 n2 2747 [(0, .ref b), (1, .ref x), (2, .ref m), (3, .ref o), (4, .int (zi (i : Int)))] [] S2 im2 Z)
    (h : (zkd S x = 7 ∧ zCW g yL_dueItem M_L_dueItem [(0, 9, 12, 24)] [.ref x, .int (zi s1), .ref o] S im (zQW (fun r2 S3 im4 => (zkd S3 m = 8 ∧ zCI g yX8_dueItem M_X8_dueItem [.ref m, .int (zi s1)] S3 im4 (fun r8 im7 => zCI g yX8_thrown M_X8_thrown [.ref m] S3 im7 (fun r11 im10 => ((r11 = r2 → ((¬ r2 = 0 → C S3 im10) ∧ (r2 = 0 → (zkd S3 o = 12 ∧ (zln S3 o = 1 ∧ (((zcmp (im10 o 0) r8) = 0 → C S3 im10) ∧ (¬ (zcmp (im10 o 0) r8) = 0 → False))))))) ∧ (¬ r11 = r2 → False))))))) zX0)) :
    zPz g M_L k n 1868 [(0, .ref b), (1, .ref x), (2, .ref m), (3, .ref o), (4, .int (zi (i : Int)))] [] S im Z := by
  refine p_aload_n dL_law_1868 rfl (q := 1) rfl ?_
  refine p_aload_n dL_law_1869 rfl (q := 0) rfl ?_
  refine p_iload dL_law_1870 (q := 4) rfl ?_
  refine p_iconst dL_law_1872 ?_
  refine p_iadd dL_law_1873 ?_
  refine p_sld hX hb hL2 (nf_r (zc_of (by omega) (by omega))) (by omega) (by omega) dL_law_1874 ?_
  rw [e1]
  refine p_aload_n dL_law_1875 rfl (q := 3) rfl ?_
  have k1 := h.1
  have h := h.2
  refine p_SW G k_RL_233 rfl rfl (Nat.le_of_ble_eq_true rfl) ⟨by decide, by decide⟩ ⟨by show k + 1 ≤ 601024; omega, by show n + 6 ≤ 7293034; omega⟩ dL_law_1876 h (fun r2 S3 im4 c5 h => ?_)
  refine p_istore (lv' := [(5, .int (zi r2)), (0, .ref b), (1, .ref x), (2, .ref m), (3, .ref o), (4, .int (zi (i : Int)))]) dL_law_1879 (by decide) rfl ?_
  refine p_aload_n dL_law_1881 rfl (q := 3) rfl ?_
  refine p_aload_n dL_law_1882 rfl (q := 1) rfl ?_
  refine p_iload dL_law_1883 (q := 5) rfl ?_
  refine p_iconst dL_law_1885 ?_
  refine p_iadd dL_law_1886 ?_
  refine p_sld hX hb hL2 (nf_r (zc_of (by omega) (by omega))) (by omega) (by omega) dL_law_1887 ?_
  rw [e1]
  have k6 := h.1
  have h := h.2
  refine p_VI G k_RL_235 (by decide) k6 rfl rfl (Nat.le_of_ble_eq_true rfl) ⟨by decide, by decide⟩ ⟨by show k + 1 + 0 ≤ 601024; omega, by show n + 6 + 0 ≤ 7293034; omega⟩ dL_law_1888 h (fun r8 im7 c9 h => ?_)
  refine p_istore (lv' := [(6, .int (zi r8)), (5, .int (zi r2)), (0, .ref b), (1, .ref x), (2, .ref m), (3, .ref o), (4, .int (zi (i : Int)))]) dL_law_1891 (by decide) rfl ?_
  refine p_aload_n dL_law_1893 rfl (q := 4) rfl ?_
  refine p_VI G k_RL_141 (by decide) k6 rfl rfl (Nat.le_of_ble_eq_true rfl) ⟨by decide, by decide⟩ ⟨by show k + 1 + 0 + 0 ≤ 601024; omega, by show n + 6 + 0 + 0 ≤ 7293034; omega⟩ dL_law_1894 h (fun r11 im10 c12 h => ?_)
  refine p_iload dL_law_1897 (q := 1) rfl ?_
  refine p_icmp_eq (tgt := 1904) dL_law_1899 (by decide) (nf_r c12) (nf_r c5) (fun b13 => ?_) (fun b13 => ?_)
  · have h := h.1 b13
    refine p_iload dL_law_1904 (q := 1) rfl ?_
    refine p_if_ne (tgt := 1921) dL_law_1906 (by decide) (nf_r c5) (fun b13 => ?_) (fun b13 => ?_)
    · have h := h.1 b13
      refine p_goto (tgt := 2747) dL_law_1921 (by decide) ?_
      refine p_sub (lv' := [(0, .ref b), (1, .ref x), (2, .ref m), (3, .ref o), (4, .int (zi (i : Int)))]) [2, 3, 4, 5, 6] rfl ?_
      exact hC _ _ _ _ (by show k + 1 + 0 + 0 ≤ k + 60; omega) (by show n + 6 + 0 + 0 ≤ n + 7000; omega) h
    · have h := h.2 b13
      refine p_aload_n dL_law_1909 rfl (q := 5) rfl ?_
      refine p_iconst dL_law_1910 ?_
      have k13 := h.1
      have h := h.2
      have l14 := h.1
      have h := h.2
      refine p_lald G k13 (nf_k (by decide)) (by decide) (by rw [l14]; decide) dL_law_1911 (fun c15 => ?_)
      refine p_iload dL_law_1912 (q := 0) rfl ?_
      refine p_i2l dL_law_1914 (nf_r c9) ?_
      refine p_lcmp dL_law_1915 (nfl_r c15) (nfl_r (zcl_zc ((nf_r c9)).2)) ?_
      refine p_if_eq (tgt := 1921) dL_law_1916 (by decide) (nf_r (zc_zcmp _ _)) (fun b16 => ?_) (fun b16 => ?_)
      · have h := h.1 b16
        refine p_goto (tgt := 2747) dL_law_1921 (by decide) ?_
        refine p_sub (lv' := [(0, .ref b), (1, .ref x), (2, .ref m), (3, .ref o), (4, .int (zi (i : Int)))]) [2, 3, 4, 5, 6] rfl ?_
        exact hC _ _ _ _ (by show k + 1 + 0 + 0 ≤ k + 60; omega) (by show n + 6 + 0 + 0 ≤ n + 7000; omega) h
      · have h := h.2 b16
        refine p_iconst dL_law_1919 ?_
        exact absurd h id
  · have h := h.2 b13
    refine p_iconst dL_law_1902 ?_
    exact absurd h id
set_option maxRecDepth 20000 in
set_option maxHeartbeats 4000000 in
theorem v_law_29 {g : zG} (G : zOK g) {S : zSh} {im : zIm} {b x m o i k n L : Nat} {xs : Nat → Int32} {Z : zEnd} {C : zSh → zIm → Prop} (hX : va_X b L xs g.2.1 g.2.1.heap) (hb : b < zbs g) (hL : L ≤ 2048) (hL2 : L < 2147483648) (hi : i + 4 ≤ L) (hk : k + 100 ≤ 601024) (hn : n + 10000 ≤ 7293034) {s1 : Int} (c1 : zc s1) (e1 : (xs ((i : Int) + 1).toNat).toInt = s1)
    (hC : ∀ k2 n2 S2 im2, k2 ≤ k + 60 → n2 ≤ n + 7000 → C S2 im2 → zPz g M_L k2 n2 2747 [(0, .ref b), (1, .ref x), (2, .ref m), (3, .ref o), (4, .int (zi (i : Int)))] [] S2 im2 Z)
    (h : (zkd S x = 7 ∧ zCW g yL_dueSite M_L_dueSite [(0, 9, 12, 24)] [.ref x, .int (zi s1), .ref o] S im (zQW (fun r2 S3 im4 => (zkd S3 m = 8 ∧ zCI g yX8_dueSite M_X8_dueSite [.ref m, .int (zi s1)] S3 im4 (fun r8 im7 => zCI g yX8_thrown M_X8_thrown [.ref m] S3 im7 (fun r11 im10 => ((r11 = r2 → ((¬ r2 = 0 → C S3 im10) ∧ (r2 = 0 → (zkd S3 o = 12 ∧ (zln S3 o = 1 ∧ (((zcmp (im10 o 0) r8) = 0 → C S3 im10) ∧ (¬ (zcmp (im10 o 0) r8) = 0 → False))))))) ∧ (¬ r11 = r2 → False))))))) zX0)) :
    zPz g M_L k n 1924 [(0, .ref b), (1, .ref x), (2, .ref m), (3, .ref o), (4, .int (zi (i : Int)))] [] S im Z := by
  refine p_aload_n dL_law_1924 rfl (q := 1) rfl ?_
  refine p_aload_n dL_law_1925 rfl (q := 0) rfl ?_
  refine p_iload dL_law_1926 (q := 4) rfl ?_
  refine p_iconst dL_law_1928 ?_
  refine p_iadd dL_law_1929 ?_
  refine p_sld hX hb hL2 (nf_r (zc_of (by omega) (by omega))) (by omega) (by omega) dL_law_1930 ?_
  rw [e1]
  refine p_aload_n dL_law_1931 rfl (q := 3) rfl ?_
  have k1 := h.1
  have h := h.2
  refine p_SW G k_RL_236 rfl rfl (Nat.le_of_ble_eq_true rfl) ⟨by decide, by decide⟩ ⟨by show k + 1 ≤ 601024; omega, by show n + 6 ≤ 7293034; omega⟩ dL_law_1932 h (fun r2 S3 im4 c5 h => ?_)
  refine p_istore (lv' := [(5, .int (zi r2)), (0, .ref b), (1, .ref x), (2, .ref m), (3, .ref o), (4, .int (zi (i : Int)))]) dL_law_1935 (by decide) rfl ?_
  refine p_aload_n dL_law_1937 rfl (q := 3) rfl ?_
  refine p_aload_n dL_law_1938 rfl (q := 1) rfl ?_
  refine p_iload dL_law_1939 (q := 5) rfl ?_
  refine p_iconst dL_law_1941 ?_
  refine p_iadd dL_law_1942 ?_
  refine p_sld hX hb hL2 (nf_r (zc_of (by omega) (by omega))) (by omega) (by omega) dL_law_1943 ?_
  rw [e1]
  have k6 := h.1
  have h := h.2
  refine p_VI G k_RL_238 (by decide) k6 rfl rfl (Nat.le_of_ble_eq_true rfl) ⟨by decide, by decide⟩ ⟨by show k + 1 + 0 ≤ 601024; omega, by show n + 6 + 0 ≤ 7293034; omega⟩ dL_law_1944 h (fun r8 im7 c9 h => ?_)
  refine p_istore (lv' := [(6, .int (zi r8)), (5, .int (zi r2)), (0, .ref b), (1, .ref x), (2, .ref m), (3, .ref o), (4, .int (zi (i : Int)))]) dL_law_1947 (by decide) rfl ?_
  refine p_aload_n dL_law_1949 rfl (q := 4) rfl ?_
  refine p_VI G k_RL_141 (by decide) k6 rfl rfl (Nat.le_of_ble_eq_true rfl) ⟨by decide, by decide⟩ ⟨by show k + 1 + 0 + 0 ≤ 601024; omega, by show n + 6 + 0 + 0 ≤ 7293034; omega⟩ dL_law_1950 h (fun r11 im10 c12 h => ?_)
  refine p_iload dL_law_1953 (q := 1) rfl ?_
  refine p_icmp_eq (tgt := 1960) dL_law_1955 (by decide) (nf_r c12) (nf_r c5) (fun b13 => ?_) (fun b13 => ?_)
  · have h := h.1 b13
    refine p_iload dL_law_1960 (q := 1) rfl ?_
    refine p_if_ne (tgt := 1977) dL_law_1962 (by decide) (nf_r c5) (fun b13 => ?_) (fun b13 => ?_)
    · have h := h.1 b13
      refine p_goto (tgt := 2747) dL_law_1977 (by decide) ?_
      refine p_sub (lv' := [(0, .ref b), (1, .ref x), (2, .ref m), (3, .ref o), (4, .int (zi (i : Int)))]) [2, 3, 4, 5, 6] rfl ?_
      exact hC _ _ _ _ (by show k + 1 + 0 + 0 ≤ k + 60; omega) (by show n + 6 + 0 + 0 ≤ n + 7000; omega) h
    · have h := h.2 b13
      refine p_aload_n dL_law_1965 rfl (q := 5) rfl ?_
      refine p_iconst dL_law_1966 ?_
      have k13 := h.1
      have h := h.2
      have l14 := h.1
      have h := h.2
      refine p_lald G k13 (nf_k (by decide)) (by decide) (by rw [l14]; decide) dL_law_1967 (fun c15 => ?_)
      refine p_iload dL_law_1968 (q := 0) rfl ?_
      refine p_i2l dL_law_1970 (nf_r c9) ?_
      refine p_lcmp dL_law_1971 (nfl_r c15) (nfl_r (zcl_zc ((nf_r c9)).2)) ?_
      refine p_if_eq (tgt := 1977) dL_law_1972 (by decide) (nf_r (zc_zcmp _ _)) (fun b16 => ?_) (fun b16 => ?_)
      · have h := h.1 b16
        refine p_goto (tgt := 2747) dL_law_1977 (by decide) ?_
        refine p_sub (lv' := [(0, .ref b), (1, .ref x), (2, .ref m), (3, .ref o), (4, .int (zi (i : Int)))]) [2, 3, 4, 5, 6] rfl ?_
        exact hC _ _ _ _ (by show k + 1 + 0 + 0 ≤ k + 60; omega) (by show n + 6 + 0 + 0 ≤ n + 7000; omega) h
      · have h := h.2 b16
        refine p_iconst dL_law_1975 ?_
        exact absurd h id
  · have h := h.2 b13
    refine p_iconst dL_law_1958 ?_
    exact absurd h id
set_option maxRecDepth 20000 in
set_option maxHeartbeats 4000000 in
theorem v_law_30 {g : zG} (G : zOK g) {S : zSh} {im : zIm} {b x m o i k n L : Nat} {xs : Nat → Int32} {Z : zEnd} {C : zSh → zIm → Prop} (hX : va_X b L xs g.2.1 g.2.1.heap) (hb : b < zbs g) (hL : L ≤ 2048) (hL2 : L < 2147483648) (hi : i + 4 ≤ L) (hk : k + 100 ≤ 601024) (hn : n + 10000 ≤ 7293034) {s1 : Int} (c1 : zc s1) (e1 : (xs ((i : Int) + 1).toNat).toInt = s1)
    (hC : ∀ k2 n2 S2 im2, k2 ≤ k + 60 → n2 ≤ n + 7000 → C S2 im2 → zPz g M_L k2 n2 2747 [(0, .ref b), (1, .ref x), (2, .ref m), (3, .ref o), (4, .int (zi (i : Int)))] [] S2 im2 Z)
    (h : (zkd S x = 7 ∧ zCW g yL_dueOwner M_L_dueOwner [(0, 9, 12, 24)] [.ref x, .int (zi s1), .ref o] S im (zQW (fun r2 S3 im4 => (zkd S3 m = 8 ∧ zCI g yX8_dueOwner M_X8_dueOwner [.ref m, .int (zi s1)] S3 im4 (fun r8 im7 => zCI g yX8_thrown M_X8_thrown [.ref m] S3 im7 (fun r11 im10 => ((r11 = r2 → ((¬ r2 = 0 → C S3 im10) ∧ (r2 = 0 → (zkd S3 o = 12 ∧ (zln S3 o = 1 ∧ (((zcmp (im10 o 0) r8) = 0 → C S3 im10) ∧ (¬ (zcmp (im10 o 0) r8) = 0 → False))))))) ∧ (¬ r11 = r2 → False))))))) zX0)) :
    zPz g M_L k n 1980 [(0, .ref b), (1, .ref x), (2, .ref m), (3, .ref o), (4, .int (zi (i : Int)))] [] S im Z := by
  refine p_aload_n dL_law_1980 rfl (q := 1) rfl ?_
  refine p_aload_n dL_law_1981 rfl (q := 0) rfl ?_
  refine p_iload dL_law_1982 (q := 4) rfl ?_
  refine p_iconst dL_law_1984 ?_
  refine p_iadd dL_law_1985 ?_
  refine p_sld hX hb hL2 (nf_r (zc_of (by omega) (by omega))) (by omega) (by omega) dL_law_1986 ?_
  rw [e1]
  refine p_aload_n dL_law_1987 rfl (q := 3) rfl ?_
  have k1 := h.1
  have h := h.2
  refine p_SW G k_RL_239 rfl rfl (Nat.le_of_ble_eq_true rfl) ⟨by decide, by decide⟩ ⟨by show k + 1 ≤ 601024; omega, by show n + 6 ≤ 7293034; omega⟩ dL_law_1988 h (fun r2 S3 im4 c5 h => ?_)
  refine p_istore (lv' := [(5, .int (zi r2)), (0, .ref b), (1, .ref x), (2, .ref m), (3, .ref o), (4, .int (zi (i : Int)))]) dL_law_1991 (by decide) rfl ?_
  refine p_aload_n dL_law_1993 rfl (q := 3) rfl ?_
  refine p_aload_n dL_law_1994 rfl (q := 1) rfl ?_
  refine p_iload dL_law_1995 (q := 5) rfl ?_
  refine p_iconst dL_law_1997 ?_
  refine p_iadd dL_law_1998 ?_
  refine p_sld hX hb hL2 (nf_r (zc_of (by omega) (by omega))) (by omega) (by omega) dL_law_1999 ?_
  rw [e1]
  have k6 := h.1
  have h := h.2
  refine p_VI G k_RL_241 (by decide) k6 rfl rfl (Nat.le_of_ble_eq_true rfl) ⟨by decide, by decide⟩ ⟨by show k + 1 + 0 ≤ 601024; omega, by show n + 6 + 0 ≤ 7293034; omega⟩ dL_law_2000 h (fun r8 im7 c9 h => ?_)
  refine p_istore (lv' := [(6, .int (zi r8)), (5, .int (zi r2)), (0, .ref b), (1, .ref x), (2, .ref m), (3, .ref o), (4, .int (zi (i : Int)))]) dL_law_2003 (by decide) rfl ?_
  refine p_aload_n dL_law_2005 rfl (q := 4) rfl ?_
  refine p_VI G k_RL_141 (by decide) k6 rfl rfl (Nat.le_of_ble_eq_true rfl) ⟨by decide, by decide⟩ ⟨by show k + 1 + 0 + 0 ≤ 601024; omega, by show n + 6 + 0 + 0 ≤ 7293034; omega⟩ dL_law_2006 h (fun r11 im10 c12 h => ?_)
  refine p_iload dL_law_2009 (q := 1) rfl ?_
  refine p_icmp_eq (tgt := 2016) dL_law_2011 (by decide) (nf_r c12) (nf_r c5) (fun b13 => ?_) (fun b13 => ?_)
  · have h := h.1 b13
    refine p_iload dL_law_2016 (q := 1) rfl ?_
    refine p_if_ne (tgt := 2033) dL_law_2018 (by decide) (nf_r c5) (fun b13 => ?_) (fun b13 => ?_)
    · have h := h.1 b13
      refine p_goto (tgt := 2747) dL_law_2033 (by decide) ?_
      refine p_sub (lv' := [(0, .ref b), (1, .ref x), (2, .ref m), (3, .ref o), (4, .int (zi (i : Int)))]) [2, 3, 4, 5, 6] rfl ?_
      exact hC _ _ _ _ (by show k + 1 + 0 + 0 ≤ k + 60; omega) (by show n + 6 + 0 + 0 ≤ n + 7000; omega) h
    · have h := h.2 b13
      refine p_aload_n dL_law_2021 rfl (q := 5) rfl ?_
      refine p_iconst dL_law_2022 ?_
      have k13 := h.1
      have h := h.2
      have l14 := h.1
      have h := h.2
      refine p_lald G k13 (nf_k (by decide)) (by decide) (by rw [l14]; decide) dL_law_2023 (fun c15 => ?_)
      refine p_iload dL_law_2024 (q := 0) rfl ?_
      refine p_i2l dL_law_2026 (nf_r c9) ?_
      refine p_lcmp dL_law_2027 (nfl_r c15) (nfl_r (zcl_zc ((nf_r c9)).2)) ?_
      refine p_if_eq (tgt := 2033) dL_law_2028 (by decide) (nf_r (zc_zcmp _ _)) (fun b16 => ?_) (fun b16 => ?_)
      · have h := h.1 b16
        refine p_goto (tgt := 2747) dL_law_2033 (by decide) ?_
        refine p_sub (lv' := [(0, .ref b), (1, .ref x), (2, .ref m), (3, .ref o), (4, .int (zi (i : Int)))]) [2, 3, 4, 5, 6] rfl ?_
        exact hC _ _ _ _ (by show k + 1 + 0 + 0 ≤ k + 60; omega) (by show n + 6 + 0 + 0 ≤ n + 7000; omega) h
      · have h := h.2 b16
        refine p_iconst dL_law_2031 ?_
        exact absurd h id
  · have h := h.2 b13
    refine p_iconst dL_law_2014 ?_
    exact absurd h id
set_option maxRecDepth 20000 in
set_option maxHeartbeats 4000000 in
theorem v_law_31 {g : zG} (G : zOK g) {S : zSh} {im : zIm} {b x m o i k n L : Nat} {xs : Nat → Int32} {Z : zEnd} {C : zSh → zIm → Prop} (hX : va_X b L xs g.2.1 g.2.1.heap) (hb : b < zbs g) (hL : L ≤ 2048) (hL2 : L < 2147483648) (hi : i + 4 ≤ L) (hk : k + 100 ≤ 601024) (hn : n + 10000 ≤ 7293034) {s1 : Int} (c1 : zc s1) (e1 : (xs ((i : Int) + 1).toNat).toInt = s1) {s2 : Int} (c2 : zc s2) (e2 : (xs ((i : Int) + 2).toNat).toInt = s2)
    (hC : ∀ k2 n2 S2 im2, k2 ≤ k + 60 → n2 ≤ n + 7000 → C S2 im2 → zPz g M_L k2 n2 2747 [(0, .ref b), (1, .ref x), (2, .ref m), (3, .ref o), (4, .int (zi (i : Int)))] [] S2 im2 Z)
    (h : (zkd S x = 7 ∧ zCW g yL_demands M_L_demands [(0, 10, 13, 24)] [.ref x, .int (zi s1), .int (zi s2), .ref o] S im (zQW (fun r2 S3 im4 => (zkd S3 m = 8 ∧ zCI g yX8_demands M_X8_demands [.ref m, .int (zi s1), .int (zi s2)] S3 im4 (fun r8 im7 => zCI g yX8_thrown M_X8_thrown [.ref m] S3 im7 (fun r11 im10 => ((r11 = r2 → ((¬ r2 = 0 → C S3 im10) ∧ (r2 = 0 → (zkd S3 o = 12 ∧ (zln S3 o = 1 ∧ (((zcmp (im10 o 0) r8) = 0 → C S3 im10) ∧ (¬ (zcmp (im10 o 0) r8) = 0 → False))))))) ∧ (¬ r11 = r2 → False))))))) zX0)) :
    zPz g M_L k n 2036 [(0, .ref b), (1, .ref x), (2, .ref m), (3, .ref o), (4, .int (zi (i : Int)))] [] S im Z := by
  refine p_aload_n dL_law_2036 rfl (q := 1) rfl ?_
  refine p_aload_n dL_law_2037 rfl (q := 0) rfl ?_
  refine p_iload dL_law_2038 (q := 4) rfl ?_
  refine p_iconst dL_law_2040 ?_
  refine p_iadd dL_law_2041 ?_
  refine p_sld hX hb hL2 (nf_r (zc_of (by omega) (by omega))) (by omega) (by omega) dL_law_2042 ?_
  rw [e1]
  refine p_aload_n dL_law_2043 rfl (q := 0) rfl ?_
  refine p_iload dL_law_2044 (q := 4) rfl ?_
  refine p_iconst dL_law_2046 ?_
  refine p_iadd dL_law_2047 ?_
  refine p_sld hX hb hL2 (nf_r (zc_of (by omega) (by omega))) (by omega) (by omega) dL_law_2048 ?_
  rw [e2]
  refine p_aload_n dL_law_2049 rfl (q := 3) rfl ?_
  have k1 := h.1
  have h := h.2
  refine p_SW G k_RL_242 rfl rfl (Nat.le_of_ble_eq_true rfl) ⟨by decide, by decide⟩ ⟨by show k + 2 ≤ 601024; omega, by show n + 12 ≤ 7293034; omega⟩ dL_law_2050 h (fun r2 S3 im4 c5 h => ?_)
  refine p_istore (lv' := [(5, .int (zi r2)), (0, .ref b), (1, .ref x), (2, .ref m), (3, .ref o), (4, .int (zi (i : Int)))]) dL_law_2053 (by decide) rfl ?_
  refine p_aload_n dL_law_2055 rfl (q := 3) rfl ?_
  refine p_aload_n dL_law_2056 rfl (q := 1) rfl ?_
  refine p_iload dL_law_2057 (q := 5) rfl ?_
  refine p_iconst dL_law_2059 ?_
  refine p_iadd dL_law_2060 ?_
  refine p_sld hX hb hL2 (nf_r (zc_of (by omega) (by omega))) (by omega) (by omega) dL_law_2061 ?_
  rw [e1]
  refine p_aload_n dL_law_2062 rfl (q := 1) rfl ?_
  refine p_iload dL_law_2063 (q := 5) rfl ?_
  refine p_iconst dL_law_2065 ?_
  refine p_iadd dL_law_2066 ?_
  refine p_sld hX hb hL2 (nf_r (zc_of (by omega) (by omega))) (by omega) (by omega) dL_law_2067 ?_
  rw [e2]
  have k6 := h.1
  have h := h.2
  refine p_VI G k_RL_244 (by decide) k6 rfl rfl (Nat.le_of_ble_eq_true rfl) ⟨by decide, by decide⟩ ⟨by show k + 2 + 0 ≤ 601024; omega, by show n + 12 + 0 ≤ 7293034; omega⟩ dL_law_2068 h (fun r8 im7 c9 h => ?_)
  refine p_istore (lv' := [(6, .int (zi r8)), (5, .int (zi r2)), (0, .ref b), (1, .ref x), (2, .ref m), (3, .ref o), (4, .int (zi (i : Int)))]) dL_law_2071 (by decide) rfl ?_
  refine p_aload_n dL_law_2073 rfl (q := 4) rfl ?_
  refine p_VI G k_RL_141 (by decide) k6 rfl rfl (Nat.le_of_ble_eq_true rfl) ⟨by decide, by decide⟩ ⟨by show k + 2 + 0 + 0 ≤ 601024; omega, by show n + 12 + 0 + 0 ≤ 7293034; omega⟩ dL_law_2074 h (fun r11 im10 c12 h => ?_)
  refine p_iload dL_law_2077 (q := 1) rfl ?_
  refine p_icmp_eq (tgt := 2084) dL_law_2079 (by decide) (nf_r c12) (nf_r c5) (fun b13 => ?_) (fun b13 => ?_)
  · have h := h.1 b13
    refine p_iload dL_law_2084 (q := 1) rfl ?_
    refine p_if_ne (tgt := 2101) dL_law_2086 (by decide) (nf_r c5) (fun b13 => ?_) (fun b13 => ?_)
    · have h := h.1 b13
      refine p_goto (tgt := 2747) dL_law_2101 (by decide) ?_
      refine p_sub (lv' := [(0, .ref b), (1, .ref x), (2, .ref m), (3, .ref o), (4, .int (zi (i : Int)))]) [2, 3, 4, 5, 6] rfl ?_
      exact hC _ _ _ _ (by show k + 2 + 0 + 0 ≤ k + 60; omega) (by show n + 12 + 0 + 0 ≤ n + 7000; omega) h
    · have h := h.2 b13
      refine p_aload_n dL_law_2089 rfl (q := 5) rfl ?_
      refine p_iconst dL_law_2090 ?_
      have k13 := h.1
      have h := h.2
      have l14 := h.1
      have h := h.2
      refine p_lald G k13 (nf_k (by decide)) (by decide) (by rw [l14]; decide) dL_law_2091 (fun c15 => ?_)
      refine p_iload dL_law_2092 (q := 0) rfl ?_
      refine p_i2l dL_law_2094 (nf_r c9) ?_
      refine p_lcmp dL_law_2095 (nfl_r c15) (nfl_r (zcl_zc ((nf_r c9)).2)) ?_
      refine p_if_eq (tgt := 2101) dL_law_2096 (by decide) (nf_r (zc_zcmp _ _)) (fun b16 => ?_) (fun b16 => ?_)
      · have h := h.1 b16
        refine p_goto (tgt := 2747) dL_law_2101 (by decide) ?_
        refine p_sub (lv' := [(0, .ref b), (1, .ref x), (2, .ref m), (3, .ref o), (4, .int (zi (i : Int)))]) [2, 3, 4, 5, 6] rfl ?_
        exact hC _ _ _ _ (by show k + 2 + 0 + 0 ≤ k + 60; omega) (by show n + 12 + 0 + 0 ≤ n + 7000; omega) h
      · have h := h.2 b16
        refine p_iconst dL_law_2099 ?_
        exact absurd h id
  · have h := h.2 b13
    refine p_iconst dL_law_2082 ?_
    exact absurd h id
set_option maxRecDepth 20000 in
set_option maxHeartbeats 4000000 in
theorem v_law_32 {g : zG} (G : zOK g) {S : zSh} {im : zIm} {b x m o i k n L : Nat} {xs : Nat → Int32} {Z : zEnd} {C : zSh → zIm → Prop} (hX : va_X b L xs g.2.1 g.2.1.heap) (hb : b < zbs g) (hL : L ≤ 2048) (hL2 : L < 2147483648) (hi : i + 4 ≤ L) (hk : k + 100 ≤ 601024) (hn : n + 10000 ≤ 7293034) {s1 : Int} (c1 : zc s1) (e1 : (xs ((i : Int) + 1).toNat).toInt = s1) {s2 : Int} (c2 : zc s2) (e2 : (xs ((i : Int) + 2).toNat).toInt = s2)
    (hC : ∀ k2 n2 S2 im2, k2 ≤ k + 60 → n2 ≤ n + 7000 → C S2 im2 → zPz g M_L k2 n2 2747 [(0, .ref b), (1, .ref x), (2, .ref m), (3, .ref o), (4, .int (zi (i : Int)))] [] S2 im2 Z)
    (h : (zkd S x = 7 ∧ zCW g yL_fillNumerator M_L_fillNumerator [(0, 10, 13, 24)] [.ref x, .int (zi s1), .int (zi s2), .ref o] S im (zQW (fun r2 S3 im4 => (zkd S3 m = 8 ∧ zCI g yX8_fillNumerator M_X8_fillNumerator [.ref m, .int (zi s1), .int (zi s2)] S3 im4 (fun r8 im7 => zCI g yX8_thrown M_X8_thrown [.ref m] S3 im7 (fun r11 im10 => ((r11 = r2 → ((¬ r2 = 0 → C S3 im10) ∧ (r2 = 0 → (zkd S3 o = 12 ∧ (zln S3 o = 1 ∧ (((zcmp (im10 o 0) r8) = 0 → C S3 im10) ∧ (¬ (zcmp (im10 o 0) r8) = 0 → False))))))) ∧ (¬ r11 = r2 → False))))))) zX0)) :
    zPz g M_L k n 2104 [(0, .ref b), (1, .ref x), (2, .ref m), (3, .ref o), (4, .int (zi (i : Int)))] [] S im Z := by
  refine p_aload_n dL_law_2104 rfl (q := 1) rfl ?_
  refine p_aload_n dL_law_2105 rfl (q := 0) rfl ?_
  refine p_iload dL_law_2106 (q := 4) rfl ?_
  refine p_iconst dL_law_2108 ?_
  refine p_iadd dL_law_2109 ?_
  refine p_sld hX hb hL2 (nf_r (zc_of (by omega) (by omega))) (by omega) (by omega) dL_law_2110 ?_
  rw [e1]
  refine p_aload_n dL_law_2111 rfl (q := 0) rfl ?_
  refine p_iload dL_law_2112 (q := 4) rfl ?_
  refine p_iconst dL_law_2114 ?_
  refine p_iadd dL_law_2115 ?_
  refine p_sld hX hb hL2 (nf_r (zc_of (by omega) (by omega))) (by omega) (by omega) dL_law_2116 ?_
  rw [e2]
  refine p_aload_n dL_law_2117 rfl (q := 3) rfl ?_
  have k1 := h.1
  have h := h.2
  refine p_SW G k_RL_245 rfl rfl (Nat.le_of_ble_eq_true rfl) ⟨by decide, by decide⟩ ⟨by show k + 2 ≤ 601024; omega, by show n + 12 ≤ 7293034; omega⟩ dL_law_2118 h (fun r2 S3 im4 c5 h => ?_)
  refine p_istore (lv' := [(5, .int (zi r2)), (0, .ref b), (1, .ref x), (2, .ref m), (3, .ref o), (4, .int (zi (i : Int)))]) dL_law_2121 (by decide) rfl ?_
  refine p_aload_n dL_law_2123 rfl (q := 3) rfl ?_
  refine p_aload_n dL_law_2124 rfl (q := 1) rfl ?_
  refine p_iload dL_law_2125 (q := 5) rfl ?_
  refine p_iconst dL_law_2127 ?_
  refine p_iadd dL_law_2128 ?_
  refine p_sld hX hb hL2 (nf_r (zc_of (by omega) (by omega))) (by omega) (by omega) dL_law_2129 ?_
  rw [e1]
  refine p_aload_n dL_law_2130 rfl (q := 1) rfl ?_
  refine p_iload dL_law_2131 (q := 5) rfl ?_
  refine p_iconst dL_law_2133 ?_
  refine p_iadd dL_law_2134 ?_
  refine p_sld hX hb hL2 (nf_r (zc_of (by omega) (by omega))) (by omega) (by omega) dL_law_2135 ?_
  rw [e2]
  have k6 := h.1
  have h := h.2
  refine p_VI G k_RL_247 (by decide) k6 rfl rfl (Nat.le_of_ble_eq_true rfl) ⟨by decide, by decide⟩ ⟨by show k + 2 + 0 ≤ 601024; omega, by show n + 12 + 0 ≤ 7293034; omega⟩ dL_law_2136 h (fun r8 im7 c9 h => ?_)
  refine p_istore (lv' := [(6, .int (zi r8)), (5, .int (zi r2)), (0, .ref b), (1, .ref x), (2, .ref m), (3, .ref o), (4, .int (zi (i : Int)))]) dL_law_2139 (by decide) rfl ?_
  refine p_aload_n dL_law_2141 rfl (q := 4) rfl ?_
  refine p_VI G k_RL_141 (by decide) k6 rfl rfl (Nat.le_of_ble_eq_true rfl) ⟨by decide, by decide⟩ ⟨by show k + 2 + 0 + 0 ≤ 601024; omega, by show n + 12 + 0 + 0 ≤ 7293034; omega⟩ dL_law_2142 h (fun r11 im10 c12 h => ?_)
  refine p_iload dL_law_2145 (q := 1) rfl ?_
  refine p_icmp_eq (tgt := 2152) dL_law_2147 (by decide) (nf_r c12) (nf_r c5) (fun b13 => ?_) (fun b13 => ?_)
  · have h := h.1 b13
    refine p_iload dL_law_2152 (q := 1) rfl ?_
    refine p_if_ne (tgt := 2169) dL_law_2154 (by decide) (nf_r c5) (fun b13 => ?_) (fun b13 => ?_)
    · have h := h.1 b13
      refine p_goto (tgt := 2747) dL_law_2169 (by decide) ?_
      refine p_sub (lv' := [(0, .ref b), (1, .ref x), (2, .ref m), (3, .ref o), (4, .int (zi (i : Int)))]) [2, 3, 4, 5, 6] rfl ?_
      exact hC _ _ _ _ (by show k + 2 + 0 + 0 ≤ k + 60; omega) (by show n + 12 + 0 + 0 ≤ n + 7000; omega) h
    · have h := h.2 b13
      refine p_aload_n dL_law_2157 rfl (q := 5) rfl ?_
      refine p_iconst dL_law_2158 ?_
      have k13 := h.1
      have h := h.2
      have l14 := h.1
      have h := h.2
      refine p_lald G k13 (nf_k (by decide)) (by decide) (by rw [l14]; decide) dL_law_2159 (fun c15 => ?_)
      refine p_iload dL_law_2160 (q := 0) rfl ?_
      refine p_i2l dL_law_2162 (nf_r c9) ?_
      refine p_lcmp dL_law_2163 (nfl_r c15) (nfl_r (zcl_zc ((nf_r c9)).2)) ?_
      refine p_if_eq (tgt := 2169) dL_law_2164 (by decide) (nf_r (zc_zcmp _ _)) (fun b16 => ?_) (fun b16 => ?_)
      · have h := h.1 b16
        refine p_goto (tgt := 2747) dL_law_2169 (by decide) ?_
        refine p_sub (lv' := [(0, .ref b), (1, .ref x), (2, .ref m), (3, .ref o), (4, .int (zi (i : Int)))]) [2, 3, 4, 5, 6] rfl ?_
        exact hC _ _ _ _ (by show k + 2 + 0 + 0 ≤ k + 60; omega) (by show n + 12 + 0 + 0 ≤ n + 7000; omega) h
      · have h := h.2 b16
        refine p_iconst dL_law_2167 ?_
        exact absurd h id
  · have h := h.2 b13
    refine p_iconst dL_law_2150 ?_
    exact absurd h id
set_option maxRecDepth 20000 in
set_option maxHeartbeats 4000000 in
theorem v_law_33 {g : zG} (G : zOK g) {S : zSh} {im : zIm} {b x m o i k n L : Nat} {xs : Nat → Int32} {Z : zEnd} {C : zSh → zIm → Prop} (hX : va_X b L xs g.2.1 g.2.1.heap) (hb : b < zbs g) (hL : L ≤ 2048) (hL2 : L < 2147483648) (hi : i + 4 ≤ L) (hk : k + 100 ≤ 601024) (hn : n + 10000 ≤ 7293034) {s1 : Int} (c1 : zc s1) (e1 : (xs ((i : Int) + 1).toNat).toInt = s1) {s2 : Int} (c2 : zc s2) (e2 : (xs ((i : Int) + 2).toNat).toInt = s2)
    (hC : ∀ k2 n2 S2 im2, k2 ≤ k + 60 → n2 ≤ n + 7000 → C S2 im2 → zPz g M_L k2 n2 2747 [(0, .ref b), (1, .ref x), (2, .ref m), (3, .ref o), (4, .int (zi (i : Int)))] [] S2 im2 Z)
    (h : (zkd S x = 7 ∧ zCW g yL_fillDenominator M_L_fillDenominator [(0, 10, 13, 24)] [.ref x, .int (zi s1), .int (zi s2), .ref o] S im (zQW (fun r2 S3 im4 => (zkd S3 m = 8 ∧ zCI g yX8_fillDenominator M_X8_fillDenominator [.ref m, .int (zi s1), .int (zi s2)] S3 im4 (fun r8 im7 => zCI g yX8_thrown M_X8_thrown [.ref m] S3 im7 (fun r11 im10 => ((r11 = r2 → ((¬ r2 = 0 → C S3 im10) ∧ (r2 = 0 → (zkd S3 o = 12 ∧ (zln S3 o = 1 ∧ (((zcmp (im10 o 0) r8) = 0 → C S3 im10) ∧ (¬ (zcmp (im10 o 0) r8) = 0 → False))))))) ∧ (¬ r11 = r2 → False))))))) zX0)) :
    zPz g M_L k n 2172 [(0, .ref b), (1, .ref x), (2, .ref m), (3, .ref o), (4, .int (zi (i : Int)))] [] S im Z := by
  refine p_aload_n dL_law_2172 rfl (q := 1) rfl ?_
  refine p_aload_n dL_law_2173 rfl (q := 0) rfl ?_
  refine p_iload dL_law_2174 (q := 4) rfl ?_
  refine p_iconst dL_law_2176 ?_
  refine p_iadd dL_law_2177 ?_
  refine p_sld hX hb hL2 (nf_r (zc_of (by omega) (by omega))) (by omega) (by omega) dL_law_2178 ?_
  rw [e1]
  refine p_aload_n dL_law_2179 rfl (q := 0) rfl ?_
  refine p_iload dL_law_2180 (q := 4) rfl ?_
  refine p_iconst dL_law_2182 ?_
  refine p_iadd dL_law_2183 ?_
  refine p_sld hX hb hL2 (nf_r (zc_of (by omega) (by omega))) (by omega) (by omega) dL_law_2184 ?_
  rw [e2]
  refine p_aload_n dL_law_2185 rfl (q := 3) rfl ?_
  have k1 := h.1
  have h := h.2
  refine p_SW G k_RL_248 rfl rfl (Nat.le_of_ble_eq_true rfl) ⟨by decide, by decide⟩ ⟨by show k + 2 ≤ 601024; omega, by show n + 12 ≤ 7293034; omega⟩ dL_law_2186 h (fun r2 S3 im4 c5 h => ?_)
  refine p_istore (lv' := [(5, .int (zi r2)), (0, .ref b), (1, .ref x), (2, .ref m), (3, .ref o), (4, .int (zi (i : Int)))]) dL_law_2189 (by decide) rfl ?_
  refine p_aload_n dL_law_2191 rfl (q := 3) rfl ?_
  refine p_aload_n dL_law_2192 rfl (q := 1) rfl ?_
  refine p_iload dL_law_2193 (q := 5) rfl ?_
  refine p_iconst dL_law_2195 ?_
  refine p_iadd dL_law_2196 ?_
  refine p_sld hX hb hL2 (nf_r (zc_of (by omega) (by omega))) (by omega) (by omega) dL_law_2197 ?_
  rw [e1]
  refine p_aload_n dL_law_2198 rfl (q := 1) rfl ?_
  refine p_iload dL_law_2199 (q := 5) rfl ?_
  refine p_iconst dL_law_2201 ?_
  refine p_iadd dL_law_2202 ?_
  refine p_sld hX hb hL2 (nf_r (zc_of (by omega) (by omega))) (by omega) (by omega) dL_law_2203 ?_
  rw [e2]
  have k6 := h.1
  have h := h.2
  refine p_VI G k_RL_250 (by decide) k6 rfl rfl (Nat.le_of_ble_eq_true rfl) ⟨by decide, by decide⟩ ⟨by show k + 2 + 0 ≤ 601024; omega, by show n + 12 + 0 ≤ 7293034; omega⟩ dL_law_2204 h (fun r8 im7 c9 h => ?_)
  refine p_istore (lv' := [(6, .int (zi r8)), (5, .int (zi r2)), (0, .ref b), (1, .ref x), (2, .ref m), (3, .ref o), (4, .int (zi (i : Int)))]) dL_law_2207 (by decide) rfl ?_
  refine p_aload_n dL_law_2209 rfl (q := 4) rfl ?_
  refine p_VI G k_RL_141 (by decide) k6 rfl rfl (Nat.le_of_ble_eq_true rfl) ⟨by decide, by decide⟩ ⟨by show k + 2 + 0 + 0 ≤ 601024; omega, by show n + 12 + 0 + 0 ≤ 7293034; omega⟩ dL_law_2210 h (fun r11 im10 c12 h => ?_)
  refine p_iload dL_law_2213 (q := 1) rfl ?_
  refine p_icmp_eq (tgt := 2220) dL_law_2215 (by decide) (nf_r c12) (nf_r c5) (fun b13 => ?_) (fun b13 => ?_)
  · have h := h.1 b13
    refine p_iload dL_law_2220 (q := 1) rfl ?_
    refine p_if_ne (tgt := 2237) dL_law_2222 (by decide) (nf_r c5) (fun b13 => ?_) (fun b13 => ?_)
    · have h := h.1 b13
      refine p_goto (tgt := 2747) dL_law_2237 (by decide) ?_
      refine p_sub (lv' := [(0, .ref b), (1, .ref x), (2, .ref m), (3, .ref o), (4, .int (zi (i : Int)))]) [2, 3, 4, 5, 6] rfl ?_
      exact hC _ _ _ _ (by show k + 2 + 0 + 0 ≤ k + 60; omega) (by show n + 12 + 0 + 0 ≤ n + 7000; omega) h
    · have h := h.2 b13
      refine p_aload_n dL_law_2225 rfl (q := 5) rfl ?_
      refine p_iconst dL_law_2226 ?_
      have k13 := h.1
      have h := h.2
      have l14 := h.1
      have h := h.2
      refine p_lald G k13 (nf_k (by decide)) (by decide) (by rw [l14]; decide) dL_law_2227 (fun c15 => ?_)
      refine p_iload dL_law_2228 (q := 0) rfl ?_
      refine p_i2l dL_law_2230 (nf_r c9) ?_
      refine p_lcmp dL_law_2231 (nfl_r c15) (nfl_r (zcl_zc ((nf_r c9)).2)) ?_
      refine p_if_eq (tgt := 2237) dL_law_2232 (by decide) (nf_r (zc_zcmp _ _)) (fun b16 => ?_) (fun b16 => ?_)
      · have h := h.1 b16
        refine p_goto (tgt := 2747) dL_law_2237 (by decide) ?_
        refine p_sub (lv' := [(0, .ref b), (1, .ref x), (2, .ref m), (3, .ref o), (4, .int (zi (i : Int)))]) [2, 3, 4, 5, 6] rfl ?_
        exact hC _ _ _ _ (by show k + 2 + 0 + 0 ≤ k + 60; omega) (by show n + 12 + 0 + 0 ≤ n + 7000; omega) h
      · have h := h.2 b16
        refine p_iconst dL_law_2235 ?_
        exact absurd h id
  · have h := h.2 b13
    refine p_iconst dL_law_2218 ?_
    exact absurd h id
set_option maxRecDepth 20000 in
set_option maxHeartbeats 4000000 in
theorem v_law_34 {g : zG} (G : zOK g) {S : zSh} {im : zIm} {b x m o i k n L : Nat} {xs : Nat → Int32} {Z : zEnd} {C : zSh → zIm → Prop} (hX : va_X b L xs g.2.1 g.2.1.heap) (hb : b < zbs g) (hL : L ≤ 2048) (hL2 : L < 2147483648) (hi : i + 4 ≤ L) (hk : k + 100 ≤ 601024) (hn : n + 10000 ≤ 7293034) {s1 : Int} (c1 : zc s1) (e1 : (xs ((i : Int) + 1).toNat).toInt = s1) {s2 : Int} (c2 : zc s2) (e2 : (xs ((i : Int) + 2).toNat).toInt = s2)
    (hC : ∀ k2 n2 S2 im2, k2 ≤ k + 60 → n2 ≤ n + 7000 → C S2 im2 → zPz g M_L k2 n2 2747 [(0, .ref b), (1, .ref x), (2, .ref m), (3, .ref o), (4, .int (zi (i : Int)))] [] S2 im2 Z)
    (h : (zkd S x = 7 ∧ zCW g yL_delays M_L_delays [(0, 10, 13, 24)] [.ref x, .int (zi s1), .int (zi s2), .ref o] S im (zQW (fun r2 S3 im4 => (zkd S3 m = 8 ∧ zCI g yX8_delays M_X8_delays [.ref m, .int (zi s1), .int (zi s2)] S3 im4 (fun r8 im7 => zCI g yX8_thrown M_X8_thrown [.ref m] S3 im7 (fun r11 im10 => ((r11 = r2 → ((¬ r2 = 0 → C S3 im10) ∧ (r2 = 0 → (zkd S3 o = 12 ∧ (zln S3 o = 1 ∧ (((zcmp (im10 o 0) r8) = 0 → C S3 im10) ∧ (¬ (zcmp (im10 o 0) r8) = 0 → False))))))) ∧ (¬ r11 = r2 → False))))))) zX0)) :
    zPz g M_L k n 2240 [(0, .ref b), (1, .ref x), (2, .ref m), (3, .ref o), (4, .int (zi (i : Int)))] [] S im Z := by
  refine p_aload_n dL_law_2240 rfl (q := 1) rfl ?_
  refine p_aload_n dL_law_2241 rfl (q := 0) rfl ?_
  refine p_iload dL_law_2242 (q := 4) rfl ?_
  refine p_iconst dL_law_2244 ?_
  refine p_iadd dL_law_2245 ?_
  refine p_sld hX hb hL2 (nf_r (zc_of (by omega) (by omega))) (by omega) (by omega) dL_law_2246 ?_
  rw [e1]
  refine p_aload_n dL_law_2247 rfl (q := 0) rfl ?_
  refine p_iload dL_law_2248 (q := 4) rfl ?_
  refine p_iconst dL_law_2250 ?_
  refine p_iadd dL_law_2251 ?_
  refine p_sld hX hb hL2 (nf_r (zc_of (by omega) (by omega))) (by omega) (by omega) dL_law_2252 ?_
  rw [e2]
  refine p_aload_n dL_law_2253 rfl (q := 3) rfl ?_
  have k1 := h.1
  have h := h.2
  refine p_SW G k_RL_251 rfl rfl (Nat.le_of_ble_eq_true rfl) ⟨by decide, by decide⟩ ⟨by show k + 2 ≤ 601024; omega, by show n + 12 ≤ 7293034; omega⟩ dL_law_2254 h (fun r2 S3 im4 c5 h => ?_)
  refine p_istore (lv' := [(5, .int (zi r2)), (0, .ref b), (1, .ref x), (2, .ref m), (3, .ref o), (4, .int (zi (i : Int)))]) dL_law_2257 (by decide) rfl ?_
  refine p_aload_n dL_law_2259 rfl (q := 3) rfl ?_
  refine p_aload_n dL_law_2260 rfl (q := 1) rfl ?_
  refine p_iload dL_law_2261 (q := 5) rfl ?_
  refine p_iconst dL_law_2263 ?_
  refine p_iadd dL_law_2264 ?_
  refine p_sld hX hb hL2 (nf_r (zc_of (by omega) (by omega))) (by omega) (by omega) dL_law_2265 ?_
  rw [e1]
  refine p_aload_n dL_law_2266 rfl (q := 1) rfl ?_
  refine p_iload dL_law_2267 (q := 5) rfl ?_
  refine p_iconst dL_law_2269 ?_
  refine p_iadd dL_law_2270 ?_
  refine p_sld hX hb hL2 (nf_r (zc_of (by omega) (by omega))) (by omega) (by omega) dL_law_2271 ?_
  rw [e2]
  have k6 := h.1
  have h := h.2
  refine p_VI G k_RL_253 (by decide) k6 rfl rfl (Nat.le_of_ble_eq_true rfl) ⟨by decide, by decide⟩ ⟨by show k + 2 + 0 ≤ 601024; omega, by show n + 12 + 0 ≤ 7293034; omega⟩ dL_law_2272 h (fun r8 im7 c9 h => ?_)
  refine p_istore (lv' := [(6, .int (zi r8)), (5, .int (zi r2)), (0, .ref b), (1, .ref x), (2, .ref m), (3, .ref o), (4, .int (zi (i : Int)))]) dL_law_2275 (by decide) rfl ?_
  refine p_aload_n dL_law_2277 rfl (q := 4) rfl ?_
  refine p_VI G k_RL_141 (by decide) k6 rfl rfl (Nat.le_of_ble_eq_true rfl) ⟨by decide, by decide⟩ ⟨by show k + 2 + 0 + 0 ≤ 601024; omega, by show n + 12 + 0 + 0 ≤ 7293034; omega⟩ dL_law_2278 h (fun r11 im10 c12 h => ?_)
  refine p_iload dL_law_2281 (q := 1) rfl ?_
  refine p_icmp_eq (tgt := 2288) dL_law_2283 (by decide) (nf_r c12) (nf_r c5) (fun b13 => ?_) (fun b13 => ?_)
  · have h := h.1 b13
    refine p_iload dL_law_2288 (q := 1) rfl ?_
    refine p_if_ne (tgt := 2305) dL_law_2290 (by decide) (nf_r c5) (fun b13 => ?_) (fun b13 => ?_)
    · have h := h.1 b13
      refine p_goto (tgt := 2747) dL_law_2305 (by decide) ?_
      refine p_sub (lv' := [(0, .ref b), (1, .ref x), (2, .ref m), (3, .ref o), (4, .int (zi (i : Int)))]) [2, 3, 4, 5, 6] rfl ?_
      exact hC _ _ _ _ (by show k + 2 + 0 + 0 ≤ k + 60; omega) (by show n + 12 + 0 + 0 ≤ n + 7000; omega) h
    · have h := h.2 b13
      refine p_aload_n dL_law_2293 rfl (q := 5) rfl ?_
      refine p_iconst dL_law_2294 ?_
      have k13 := h.1
      have h := h.2
      have l14 := h.1
      have h := h.2
      refine p_lald G k13 (nf_k (by decide)) (by decide) (by rw [l14]; decide) dL_law_2295 (fun c15 => ?_)
      refine p_iload dL_law_2296 (q := 0) rfl ?_
      refine p_i2l dL_law_2298 (nf_r c9) ?_
      refine p_lcmp dL_law_2299 (nfl_r c15) (nfl_r (zcl_zc ((nf_r c9)).2)) ?_
      refine p_if_eq (tgt := 2305) dL_law_2300 (by decide) (nf_r (zc_zcmp _ _)) (fun b16 => ?_) (fun b16 => ?_)
      · have h := h.1 b16
        refine p_goto (tgt := 2747) dL_law_2305 (by decide) ?_
        refine p_sub (lv' := [(0, .ref b), (1, .ref x), (2, .ref m), (3, .ref o), (4, .int (zi (i : Int)))]) [2, 3, 4, 5, 6] rfl ?_
        exact hC _ _ _ _ (by show k + 2 + 0 + 0 ≤ k + 60; omega) (by show n + 12 + 0 + 0 ≤ n + 7000; omega) h
      · have h := h.2 b16
        refine p_iconst dL_law_2303 ?_
        exact absurd h id
  · have h := h.2 b13
    refine p_iconst dL_law_2286 ?_
    exact absurd h id
set_option maxRecDepth 20000 in
set_option maxHeartbeats 4000000 in
theorem v_law_35 {g : zG} (G : zOK g) {S : zSh} {im : zIm} {b x m o i k n L : Nat} {xs : Nat → Int32} {Z : zEnd} {C : zSh → zIm → Prop} (hX : va_X b L xs g.2.1 g.2.1.heap) (hb : b < zbs g) (hL : L ≤ 2048) (hL2 : L < 2147483648) (hi : i + 4 ≤ L) (hk : k + 100 ≤ 601024) (hn : n + 10000 ≤ 7293034) {s1 : Int} (c1 : zc s1) (e1 : (xs ((i : Int) + 1).toNat).toInt = s1) {s2 : Int} (c2 : zc s2) (e2 : (xs ((i : Int) + 2).toNat).toInt = s2)
    (hC : ∀ k2 n2 S2 im2, k2 ≤ k + 60 → n2 ≤ n + 7000 → C S2 im2 → zPz g M_L k2 n2 2747 [(0, .ref b), (1, .ref x), (2, .ref m), (3, .ref o), (4, .int (zi (i : Int)))] [] S2 im2 Z)
    (h : (zkd S x = 7 ∧ zCW g yL_backorderDays M_L_backorderDays [(0, 10, 13, 24)] [.ref x, .int (zi s1), .int (zi s2), .ref o] S im (zQW (fun r2 S3 im4 => (zkd S3 m = 8 ∧ zCI g yX8_backorderDays M_X8_backorderDays [.ref m, .int (zi s1), .int (zi s2)] S3 im4 (fun r8 im7 => zCI g yX8_thrown M_X8_thrown [.ref m] S3 im7 (fun r11 im10 => ((r11 = r2 → ((¬ r2 = 0 → C S3 im10) ∧ (r2 = 0 → (zkd S3 o = 12 ∧ (zln S3 o = 1 ∧ (((zcmp (im10 o 0) r8) = 0 → C S3 im10) ∧ (¬ (zcmp (im10 o 0) r8) = 0 → False))))))) ∧ (¬ r11 = r2 → False))))))) zX0)) :
    zPz g M_L k n 2308 [(0, .ref b), (1, .ref x), (2, .ref m), (3, .ref o), (4, .int (zi (i : Int)))] [] S im Z := by
  refine p_aload_n dL_law_2308 rfl (q := 1) rfl ?_
  refine p_aload_n dL_law_2309 rfl (q := 0) rfl ?_
  refine p_iload dL_law_2310 (q := 4) rfl ?_
  refine p_iconst dL_law_2312 ?_
  refine p_iadd dL_law_2313 ?_
  refine p_sld hX hb hL2 (nf_r (zc_of (by omega) (by omega))) (by omega) (by omega) dL_law_2314 ?_
  rw [e1]
  refine p_aload_n dL_law_2315 rfl (q := 0) rfl ?_
  refine p_iload dL_law_2316 (q := 4) rfl ?_
  refine p_iconst dL_law_2318 ?_
  refine p_iadd dL_law_2319 ?_
  refine p_sld hX hb hL2 (nf_r (zc_of (by omega) (by omega))) (by omega) (by omega) dL_law_2320 ?_
  rw [e2]
  refine p_aload_n dL_law_2321 rfl (q := 3) rfl ?_
  have k1 := h.1
  have h := h.2
  refine p_SW G k_RL_254 rfl rfl (Nat.le_of_ble_eq_true rfl) ⟨by decide, by decide⟩ ⟨by show k + 2 ≤ 601024; omega, by show n + 12 ≤ 7293034; omega⟩ dL_law_2322 h (fun r2 S3 im4 c5 h => ?_)
  refine p_istore (lv' := [(5, .int (zi r2)), (0, .ref b), (1, .ref x), (2, .ref m), (3, .ref o), (4, .int (zi (i : Int)))]) dL_law_2325 (by decide) rfl ?_
  refine p_aload_n dL_law_2327 rfl (q := 3) rfl ?_
  refine p_aload_n dL_law_2328 rfl (q := 1) rfl ?_
  refine p_iload dL_law_2329 (q := 5) rfl ?_
  refine p_iconst dL_law_2331 ?_
  refine p_iadd dL_law_2332 ?_
  refine p_sld hX hb hL2 (nf_r (zc_of (by omega) (by omega))) (by omega) (by omega) dL_law_2333 ?_
  rw [e1]
  refine p_aload_n dL_law_2334 rfl (q := 1) rfl ?_
  refine p_iload dL_law_2335 (q := 5) rfl ?_
  refine p_iconst dL_law_2337 ?_
  refine p_iadd dL_law_2338 ?_
  refine p_sld hX hb hL2 (nf_r (zc_of (by omega) (by omega))) (by omega) (by omega) dL_law_2339 ?_
  rw [e2]
  have k6 := h.1
  have h := h.2
  refine p_VI G k_RL_256 (by decide) k6 rfl rfl (Nat.le_of_ble_eq_true rfl) ⟨by decide, by decide⟩ ⟨by show k + 2 + 0 ≤ 601024; omega, by show n + 12 + 0 ≤ 7293034; omega⟩ dL_law_2340 h (fun r8 im7 c9 h => ?_)
  refine p_istore (lv' := [(6, .int (zi r8)), (5, .int (zi r2)), (0, .ref b), (1, .ref x), (2, .ref m), (3, .ref o), (4, .int (zi (i : Int)))]) dL_law_2343 (by decide) rfl ?_
  refine p_aload_n dL_law_2345 rfl (q := 4) rfl ?_
  refine p_VI G k_RL_141 (by decide) k6 rfl rfl (Nat.le_of_ble_eq_true rfl) ⟨by decide, by decide⟩ ⟨by show k + 2 + 0 + 0 ≤ 601024; omega, by show n + 12 + 0 + 0 ≤ 7293034; omega⟩ dL_law_2346 h (fun r11 im10 c12 h => ?_)
  refine p_iload dL_law_2349 (q := 1) rfl ?_
  refine p_icmp_eq (tgt := 2356) dL_law_2351 (by decide) (nf_r c12) (nf_r c5) (fun b13 => ?_) (fun b13 => ?_)
  · have h := h.1 b13
    refine p_iload dL_law_2356 (q := 1) rfl ?_
    refine p_if_ne (tgt := 2373) dL_law_2358 (by decide) (nf_r c5) (fun b13 => ?_) (fun b13 => ?_)
    · have h := h.1 b13
      refine p_goto (tgt := 2747) dL_law_2373 (by decide) ?_
      refine p_sub (lv' := [(0, .ref b), (1, .ref x), (2, .ref m), (3, .ref o), (4, .int (zi (i : Int)))]) [2, 3, 4, 5, 6] rfl ?_
      exact hC _ _ _ _ (by show k + 2 + 0 + 0 ≤ k + 60; omega) (by show n + 12 + 0 + 0 ≤ n + 7000; omega) h
    · have h := h.2 b13
      refine p_aload_n dL_law_2361 rfl (q := 5) rfl ?_
      refine p_iconst dL_law_2362 ?_
      have k13 := h.1
      have h := h.2
      have l14 := h.1
      have h := h.2
      refine p_lald G k13 (nf_k (by decide)) (by decide) (by rw [l14]; decide) dL_law_2363 (fun c15 => ?_)
      refine p_iload dL_law_2364 (q := 0) rfl ?_
      refine p_i2l dL_law_2366 (nf_r c9) ?_
      refine p_lcmp dL_law_2367 (nfl_r c15) (nfl_r (zcl_zc ((nf_r c9)).2)) ?_
      refine p_if_eq (tgt := 2373) dL_law_2368 (by decide) (nf_r (zc_zcmp _ _)) (fun b16 => ?_) (fun b16 => ?_)
      · have h := h.1 b16
        refine p_goto (tgt := 2747) dL_law_2373 (by decide) ?_
        refine p_sub (lv' := [(0, .ref b), (1, .ref x), (2, .ref m), (3, .ref o), (4, .int (zi (i : Int)))]) [2, 3, 4, 5, 6] rfl ?_
        exact hC _ _ _ _ (by show k + 2 + 0 + 0 ≤ k + 60; omega) (by show n + 12 + 0 + 0 ≤ n + 7000; omega) h
      · have h := h.2 b16
        refine p_iconst dL_law_2371 ?_
        exact absurd h id
  · have h := h.2 b13
    refine p_iconst dL_law_2354 ?_
    exact absurd h id
set_option maxRecDepth 20000 in
set_option maxHeartbeats 4000000 in
theorem v_law_36 {g : zG} (G : zOK g) {S : zSh} {im : zIm} {b x m o i k n L : Nat} {xs : Nat → Int32} {Z : zEnd} {C : zSh → zIm → Prop} (hX : va_X b L xs g.2.1 g.2.1.heap) (hb : b < zbs g) (hL : L ≤ 2048) (hL2 : L < 2147483648) (hi : i + 4 ≤ L) (hk : k + 100 ≤ 601024) (hn : n + 10000 ≤ 7293034) {s1 : Int} (c1 : zc s1) (e1 : (xs ((i : Int) + 1).toNat).toInt = s1) {s2 : Int} (c2 : zc s2) (e2 : (xs ((i : Int) + 2).toNat).toInt = s2)
    (hC : ∀ k2 n2 S2 im2, k2 ≤ k + 60 → n2 ≤ n + 7000 → C S2 im2 → zPz g M_L k2 n2 2747 [(0, .ref b), (1, .ref x), (2, .ref m), (3, .ref o), (4, .int (zi (i : Int)))] [] S2 im2 Z)
    (h : (zkd S x = 7 ∧ zCW g yL_helped M_L_helped [(0, 10, 13, 24)] [.ref x, .int (zi s1), .int (zi s2), .ref o] S im (zQW (fun r2 S3 im4 => (zkd S3 m = 8 ∧ zCI g yX8_helped M_X8_helped [.ref m, .int (zi s1), .int (zi s2)] S3 im4 (fun r8 im7 => zCI g yX8_thrown M_X8_thrown [.ref m] S3 im7 (fun r11 im10 => ((r11 = r2 → ((¬ r2 = 0 → C S3 im10) ∧ (r2 = 0 → (zkd S3 o = 12 ∧ (zln S3 o = 1 ∧ (((zcmp (im10 o 0) r8) = 0 → C S3 im10) ∧ (¬ (zcmp (im10 o 0) r8) = 0 → False))))))) ∧ (¬ r11 = r2 → False))))))) zX0)) :
    zPz g M_L k n 2376 [(0, .ref b), (1, .ref x), (2, .ref m), (3, .ref o), (4, .int (zi (i : Int)))] [] S im Z := by
  refine p_aload_n dL_law_2376 rfl (q := 1) rfl ?_
  refine p_aload_n dL_law_2377 rfl (q := 0) rfl ?_
  refine p_iload dL_law_2378 (q := 4) rfl ?_
  refine p_iconst dL_law_2380 ?_
  refine p_iadd dL_law_2381 ?_
  refine p_sld hX hb hL2 (nf_r (zc_of (by omega) (by omega))) (by omega) (by omega) dL_law_2382 ?_
  rw [e1]
  refine p_aload_n dL_law_2383 rfl (q := 0) rfl ?_
  refine p_iload dL_law_2384 (q := 4) rfl ?_
  refine p_iconst dL_law_2386 ?_
  refine p_iadd dL_law_2387 ?_
  refine p_sld hX hb hL2 (nf_r (zc_of (by omega) (by omega))) (by omega) (by omega) dL_law_2388 ?_
  rw [e2]
  refine p_aload_n dL_law_2389 rfl (q := 3) rfl ?_
  have k1 := h.1
  have h := h.2
  refine p_SW G k_RL_257 rfl rfl (Nat.le_of_ble_eq_true rfl) ⟨by decide, by decide⟩ ⟨by show k + 2 ≤ 601024; omega, by show n + 12 ≤ 7293034; omega⟩ dL_law_2390 h (fun r2 S3 im4 c5 h => ?_)
  refine p_istore (lv' := [(5, .int (zi r2)), (0, .ref b), (1, .ref x), (2, .ref m), (3, .ref o), (4, .int (zi (i : Int)))]) dL_law_2393 (by decide) rfl ?_
  refine p_aload_n dL_law_2395 rfl (q := 3) rfl ?_
  refine p_aload_n dL_law_2396 rfl (q := 1) rfl ?_
  refine p_iload dL_law_2397 (q := 5) rfl ?_
  refine p_iconst dL_law_2399 ?_
  refine p_iadd dL_law_2400 ?_
  refine p_sld hX hb hL2 (nf_r (zc_of (by omega) (by omega))) (by omega) (by omega) dL_law_2401 ?_
  rw [e1]
  refine p_aload_n dL_law_2402 rfl (q := 1) rfl ?_
  refine p_iload dL_law_2403 (q := 5) rfl ?_
  refine p_iconst dL_law_2405 ?_
  refine p_iadd dL_law_2406 ?_
  refine p_sld hX hb hL2 (nf_r (zc_of (by omega) (by omega))) (by omega) (by omega) dL_law_2407 ?_
  rw [e2]
  have k6 := h.1
  have h := h.2
  refine p_VI G k_RL_259 (by decide) k6 rfl rfl (Nat.le_of_ble_eq_true rfl) ⟨by decide, by decide⟩ ⟨by show k + 2 + 0 ≤ 601024; omega, by show n + 12 + 0 ≤ 7293034; omega⟩ dL_law_2408 h (fun r8 im7 c9 h => ?_)
  refine p_istore (lv' := [(6, .int (zi r8)), (5, .int (zi r2)), (0, .ref b), (1, .ref x), (2, .ref m), (3, .ref o), (4, .int (zi (i : Int)))]) dL_law_2411 (by decide) rfl ?_
  refine p_aload_n dL_law_2413 rfl (q := 4) rfl ?_
  refine p_VI G k_RL_141 (by decide) k6 rfl rfl (Nat.le_of_ble_eq_true rfl) ⟨by decide, by decide⟩ ⟨by show k + 2 + 0 + 0 ≤ 601024; omega, by show n + 12 + 0 + 0 ≤ 7293034; omega⟩ dL_law_2414 h (fun r11 im10 c12 h => ?_)
  refine p_iload dL_law_2417 (q := 1) rfl ?_
  refine p_icmp_eq (tgt := 2424) dL_law_2419 (by decide) (nf_r c12) (nf_r c5) (fun b13 => ?_) (fun b13 => ?_)
  · have h := h.1 b13
    refine p_iload dL_law_2424 (q := 1) rfl ?_
    refine p_if_ne (tgt := 2441) dL_law_2426 (by decide) (nf_r c5) (fun b13 => ?_) (fun b13 => ?_)
    · have h := h.1 b13
      refine p_goto (tgt := 2747) dL_law_2441 (by decide) ?_
      refine p_sub (lv' := [(0, .ref b), (1, .ref x), (2, .ref m), (3, .ref o), (4, .int (zi (i : Int)))]) [2, 3, 4, 5, 6] rfl ?_
      exact hC _ _ _ _ (by show k + 2 + 0 + 0 ≤ k + 60; omega) (by show n + 12 + 0 + 0 ≤ n + 7000; omega) h
    · have h := h.2 b13
      refine p_aload_n dL_law_2429 rfl (q := 5) rfl ?_
      refine p_iconst dL_law_2430 ?_
      have k13 := h.1
      have h := h.2
      have l14 := h.1
      have h := h.2
      refine p_lald G k13 (nf_k (by decide)) (by decide) (by rw [l14]; decide) dL_law_2431 (fun c15 => ?_)
      refine p_iload dL_law_2432 (q := 0) rfl ?_
      refine p_i2l dL_law_2434 (nf_r c9) ?_
      refine p_lcmp dL_law_2435 (nfl_r c15) (nfl_r (zcl_zc ((nf_r c9)).2)) ?_
      refine p_if_eq (tgt := 2441) dL_law_2436 (by decide) (nf_r (zc_zcmp _ _)) (fun b16 => ?_) (fun b16 => ?_)
      · have h := h.1 b16
        refine p_goto (tgt := 2747) dL_law_2441 (by decide) ?_
        refine p_sub (lv' := [(0, .ref b), (1, .ref x), (2, .ref m), (3, .ref o), (4, .int (zi (i : Int)))]) [2, 3, 4, 5, 6] rfl ?_
        exact hC _ _ _ _ (by show k + 2 + 0 + 0 ≤ k + 60; omega) (by show n + 12 + 0 + 0 ≤ n + 7000; omega) h
      · have h := h.2 b16
        refine p_iconst dL_law_2439 ?_
        exact absurd h id
  · have h := h.2 b13
    refine p_iconst dL_law_2422 ?_
    exact absurd h id
set_option maxRecDepth 20000 in
set_option maxHeartbeats 4000000 in
theorem v_law_37 {g : zG} (G : zOK g) {S : zSh} {im : zIm} {b x m o i k n L : Nat} {xs : Nat → Int32} {Z : zEnd} {C : zSh → zIm → Prop} (hX : va_X b L xs g.2.1 g.2.1.heap) (hb : b < zbs g) (hL : L ≤ 2048) (hL2 : L < 2147483648) (hi : i + 4 ≤ L) (hk : k + 100 ≤ 601024) (hn : n + 10000 ≤ 7293034) {s1 : Int} (c1 : zc s1) (e1 : (xs ((i : Int) + 1).toNat).toInt = s1) {s2 : Int} (c2 : zc s2) (e2 : (xs ((i : Int) + 2).toNat).toInt = s2) {s3 : Int} (c3 : zc s3) (e3 : (xs ((i : Int) + 3).toNat).toInt = s3)
    (hC : ∀ k2 n2 S2 im2, k2 ≤ k + 60 → n2 ≤ n + 7000 → C S2 im2 → zPz g M_L k2 n2 2747 [(0, .ref b), (1, .ref x), (2, .ref m), (3, .ref o), (4, .int (zi (i : Int)))] [] S2 im2 Z)
    (h : (zkd S x = 7 ∧ zCW g yL_bestSite M_L_bestSite [(0, 12, 15, 24), (0, 12, 19, 13), (0, 12, 23, 15)] [.ref x, .int (zi s1), .int (zi s2), .int (zi s3), .ref o] S im (zQW (fun r2 S3 im4 => (zkd S3 m = 8 ∧ zCI g yX8_bestSite M_X8_bestSite [.ref m, .int (zi s1), .int (zi s2), .int (zi s3)] S3 im4 (fun r8 im7 => zCI g yX8_thrown M_X8_thrown [.ref m] S3 im7 (fun r11 im10 => ((r11 = r2 → ((¬ r2 = 0 → C S3 im10) ∧ (r2 = 0 → (zkd S3 o = 12 ∧ (zln S3 o = 1 ∧ (((zcmp (im10 o 0) r8) = 0 → C S3 im10) ∧ (¬ (zcmp (im10 o 0) r8) = 0 → False))))))) ∧ (¬ r11 = r2 → False))))))) zX0)) :
    zPz g M_L k n 2444 [(0, .ref b), (1, .ref x), (2, .ref m), (3, .ref o), (4, .int (zi (i : Int)))] [] S im Z := by
  refine p_aload_n dL_law_2444 rfl (q := 1) rfl ?_
  refine p_aload_n dL_law_2445 rfl (q := 0) rfl ?_
  refine p_iload dL_law_2446 (q := 4) rfl ?_
  refine p_iconst dL_law_2448 ?_
  refine p_iadd dL_law_2449 ?_
  refine p_sld hX hb hL2 (nf_r (zc_of (by omega) (by omega))) (by omega) (by omega) dL_law_2450 ?_
  rw [e1]
  refine p_aload_n dL_law_2451 rfl (q := 0) rfl ?_
  refine p_iload dL_law_2452 (q := 4) rfl ?_
  refine p_iconst dL_law_2454 ?_
  refine p_iadd dL_law_2455 ?_
  refine p_sld hX hb hL2 (nf_r (zc_of (by omega) (by omega))) (by omega) (by omega) dL_law_2456 ?_
  rw [e2]
  refine p_aload_n dL_law_2457 rfl (q := 0) rfl ?_
  refine p_iload dL_law_2458 (q := 4) rfl ?_
  refine p_iconst dL_law_2460 ?_
  refine p_iadd dL_law_2461 ?_
  refine p_sld hX hb hL2 (nf_r (zc_of (by omega) (by omega))) (by omega) (by omega) dL_law_2462 ?_
  rw [e3]
  refine p_aload_n dL_law_2463 rfl (q := 3) rfl ?_
  have k1 := h.1
  have h := h.2
  refine p_SW G k_RL_260 rfl rfl (Nat.le_of_ble_eq_true rfl) ⟨by decide, by decide⟩ ⟨by show k + 4 ≤ 601024; omega, by show n + 24 ≤ 7293034; omega⟩ dL_law_2464 h (fun r2 S3 im4 c5 h => ?_)
  refine p_istore (lv' := [(5, .int (zi r2)), (0, .ref b), (1, .ref x), (2, .ref m), (3, .ref o), (4, .int (zi (i : Int)))]) dL_law_2467 (by decide) rfl ?_
  refine p_aload_n dL_law_2469 rfl (q := 3) rfl ?_
  refine p_aload_n dL_law_2470 rfl (q := 1) rfl ?_
  refine p_iload dL_law_2471 (q := 5) rfl ?_
  refine p_iconst dL_law_2473 ?_
  refine p_iadd dL_law_2474 ?_
  refine p_sld hX hb hL2 (nf_r (zc_of (by omega) (by omega))) (by omega) (by omega) dL_law_2475 ?_
  rw [e1]
  refine p_aload_n dL_law_2476 rfl (q := 1) rfl ?_
  refine p_iload dL_law_2477 (q := 5) rfl ?_
  refine p_iconst dL_law_2479 ?_
  refine p_iadd dL_law_2480 ?_
  refine p_sld hX hb hL2 (nf_r (zc_of (by omega) (by omega))) (by omega) (by omega) dL_law_2481 ?_
  rw [e2]
  refine p_aload_n dL_law_2482 rfl (q := 1) rfl ?_
  refine p_iload dL_law_2483 (q := 5) rfl ?_
  refine p_iconst dL_law_2485 ?_
  refine p_iadd dL_law_2486 ?_
  refine p_sld hX hb hL2 (nf_r (zc_of (by omega) (by omega))) (by omega) (by omega) dL_law_2487 ?_
  rw [e3]
  have k6 := h.1
  have h := h.2
  refine p_VI G k_RL_262 (by decide) k6 rfl rfl (Nat.le_of_ble_eq_true rfl) ⟨by decide, by decide⟩ ⟨by show k + 4 + 0 ≤ 601024; omega, by show n + 24 + 0 ≤ 7293034; omega⟩ dL_law_2488 h (fun r8 im7 c9 h => ?_)
  refine p_istore (lv' := [(6, .int (zi r8)), (5, .int (zi r2)), (0, .ref b), (1, .ref x), (2, .ref m), (3, .ref o), (4, .int (zi (i : Int)))]) dL_law_2491 (by decide) rfl ?_
  refine p_aload_n dL_law_2493 rfl (q := 4) rfl ?_
  refine p_VI G k_RL_141 (by decide) k6 rfl rfl (Nat.le_of_ble_eq_true rfl) ⟨by decide, by decide⟩ ⟨by show k + 4 + 0 + 0 ≤ 601024; omega, by show n + 24 + 0 + 0 ≤ 7293034; omega⟩ dL_law_2494 h (fun r11 im10 c12 h => ?_)
  refine p_iload dL_law_2497 (q := 1) rfl ?_
  refine p_icmp_eq (tgt := 2504) dL_law_2499 (by decide) (nf_r c12) (nf_r c5) (fun b13 => ?_) (fun b13 => ?_)
  · have h := h.1 b13
    refine p_iload dL_law_2504 (q := 1) rfl ?_
    refine p_if_ne (tgt := 2521) dL_law_2506 (by decide) (nf_r c5) (fun b13 => ?_) (fun b13 => ?_)
    · have h := h.1 b13
      refine p_goto (tgt := 2747) dL_law_2521 (by decide) ?_
      refine p_sub (lv' := [(0, .ref b), (1, .ref x), (2, .ref m), (3, .ref o), (4, .int (zi (i : Int)))]) [2, 3, 4, 5, 6] rfl ?_
      exact hC _ _ _ _ (by show k + 4 + 0 + 0 ≤ k + 60; omega) (by show n + 24 + 0 + 0 ≤ n + 7000; omega) h
    · have h := h.2 b13
      refine p_aload_n dL_law_2509 rfl (q := 5) rfl ?_
      refine p_iconst dL_law_2510 ?_
      have k13 := h.1
      have h := h.2
      have l14 := h.1
      have h := h.2
      refine p_lald G k13 (nf_k (by decide)) (by decide) (by rw [l14]; decide) dL_law_2511 (fun c15 => ?_)
      refine p_iload dL_law_2512 (q := 0) rfl ?_
      refine p_i2l dL_law_2514 (nf_r c9) ?_
      refine p_lcmp dL_law_2515 (nfl_r c15) (nfl_r (zcl_zc ((nf_r c9)).2)) ?_
      refine p_if_eq (tgt := 2521) dL_law_2516 (by decide) (nf_r (zc_zcmp _ _)) (fun b16 => ?_) (fun b16 => ?_)
      · have h := h.1 b16
        refine p_goto (tgt := 2747) dL_law_2521 (by decide) ?_
        refine p_sub (lv' := [(0, .ref b), (1, .ref x), (2, .ref m), (3, .ref o), (4, .int (zi (i : Int)))]) [2, 3, 4, 5, 6] rfl ?_
        exact hC _ _ _ _ (by show k + 4 + 0 + 0 ≤ k + 60; omega) (by show n + 24 + 0 + 0 ≤ n + 7000; omega) h
      · have h := h.2 b16
        refine p_iconst dL_law_2519 ?_
        exact absurd h id
  · have h := h.2 b13
    refine p_iconst dL_law_2502 ?_
    exact absurd h id
set_option maxRecDepth 20000 in
set_option maxHeartbeats 4000000 in
theorem v_law_38 {g : zG} (G : zOK g) {S : zSh} {im : zIm} {b x m o i k n L : Nat} {xs : Nat → Int32} {Z : zEnd} {C : zSh → zIm → Prop} (hX : va_X b L xs g.2.1 g.2.1.heap) (hb : b < zbs g) (hL : L ≤ 2048) (hL2 : L < 2147483648) (hi : i + 4 ≤ L) (hk : k + 100 ≤ 601024) (hn : n + 10000 ≤ 7293034) {s1 : Int} (c1 : zc s1) (e1 : (xs ((i : Int) + 1).toNat).toInt = s1)
    (hC : ∀ k2 n2 S2 im2, k2 ≤ k + 60 → n2 ≤ n + 7000 → C S2 im2 → zPz g M_L k2 n2 2747 [(0, .ref b), (1, .ref x), (2, .ref m), (3, .ref o), (4, .int (zi (i : Int)))] [] S2 im2 Z)
    (h : (zkd S x = 7 ∧ zCW g yL_appendText M_L_appendText [(0, 9, 12, 15)] [.ref x, .int (zi s1), .ref o] S im (zQW (fun r2 S3 im4 => (zkd S3 m = 8 ∧ zCI g yX8_appendText M_X8_appendText [.ref m, .int (zi s1)] S3 im4 (fun r8 im7 => zCI g yX8_thrown M_X8_thrown [.ref m] S3 im7 (fun r11 im10 => ((r11 = r2 → ((¬ r2 = 0 → C S3 im10) ∧ (r2 = 0 → (zkd S3 o = 12 ∧ (zln S3 o = 1 ∧ (((zcmp (im10 o 0) r8) = 0 → C S3 im10) ∧ (¬ (zcmp (im10 o 0) r8) = 0 → False))))))) ∧ (¬ r11 = r2 → False))))))) zX0)) :
    zPz g M_L k n 2524 [(0, .ref b), (1, .ref x), (2, .ref m), (3, .ref o), (4, .int (zi (i : Int)))] [] S im Z := by
  refine p_aload_n dL_law_2524 rfl (q := 1) rfl ?_
  refine p_aload_n dL_law_2525 rfl (q := 0) rfl ?_
  refine p_iload dL_law_2526 (q := 4) rfl ?_
  refine p_iconst dL_law_2528 ?_
  refine p_iadd dL_law_2529 ?_
  refine p_sld hX hb hL2 (nf_r (zc_of (by omega) (by omega))) (by omega) (by omega) dL_law_2530 ?_
  rw [e1]
  refine p_aload_n dL_law_2531 rfl (q := 3) rfl ?_
  have k1 := h.1
  have h := h.2
  refine p_SW G k_RL_263 rfl rfl (Nat.le_of_ble_eq_true rfl) ⟨by decide, by decide⟩ ⟨by show k + 1 ≤ 601024; omega, by show n + 6 ≤ 7293034; omega⟩ dL_law_2532 h (fun r2 S3 im4 c5 h => ?_)
  refine p_istore (lv' := [(5, .int (zi r2)), (0, .ref b), (1, .ref x), (2, .ref m), (3, .ref o), (4, .int (zi (i : Int)))]) dL_law_2535 (by decide) rfl ?_
  refine p_aload_n dL_law_2537 rfl (q := 3) rfl ?_
  refine p_aload_n dL_law_2538 rfl (q := 1) rfl ?_
  refine p_iload dL_law_2539 (q := 5) rfl ?_
  refine p_iconst dL_law_2541 ?_
  refine p_iadd dL_law_2542 ?_
  refine p_sld hX hb hL2 (nf_r (zc_of (by omega) (by omega))) (by omega) (by omega) dL_law_2543 ?_
  rw [e1]
  have k6 := h.1
  have h := h.2
  refine p_VI G k_RL_265 (by decide) k6 rfl rfl (Nat.le_of_ble_eq_true rfl) ⟨by decide, by decide⟩ ⟨by show k + 1 + 0 ≤ 601024; omega, by show n + 6 + 0 ≤ 7293034; omega⟩ dL_law_2544 h (fun r8 im7 c9 h => ?_)
  refine p_istore (lv' := [(6, .int (zi r8)), (5, .int (zi r2)), (0, .ref b), (1, .ref x), (2, .ref m), (3, .ref o), (4, .int (zi (i : Int)))]) dL_law_2547 (by decide) rfl ?_
  refine p_aload_n dL_law_2549 rfl (q := 4) rfl ?_
  refine p_VI G k_RL_141 (by decide) k6 rfl rfl (Nat.le_of_ble_eq_true rfl) ⟨by decide, by decide⟩ ⟨by show k + 1 + 0 + 0 ≤ 601024; omega, by show n + 6 + 0 + 0 ≤ 7293034; omega⟩ dL_law_2550 h (fun r11 im10 c12 h => ?_)
  refine p_iload dL_law_2553 (q := 1) rfl ?_
  refine p_icmp_eq (tgt := 2560) dL_law_2555 (by decide) (nf_r c12) (nf_r c5) (fun b13 => ?_) (fun b13 => ?_)
  · have h := h.1 b13
    refine p_iload dL_law_2560 (q := 1) rfl ?_
    refine p_if_ne (tgt := 2577) dL_law_2562 (by decide) (nf_r c5) (fun b13 => ?_) (fun b13 => ?_)
    · have h := h.1 b13
      refine p_goto (tgt := 2747) dL_law_2577 (by decide) ?_
      refine p_sub (lv' := [(0, .ref b), (1, .ref x), (2, .ref m), (3, .ref o), (4, .int (zi (i : Int)))]) [2, 3, 4, 5, 6] rfl ?_
      exact hC _ _ _ _ (by show k + 1 + 0 + 0 ≤ k + 60; omega) (by show n + 6 + 0 + 0 ≤ n + 7000; omega) h
    · have h := h.2 b13
      refine p_aload_n dL_law_2565 rfl (q := 5) rfl ?_
      refine p_iconst dL_law_2566 ?_
      have k13 := h.1
      have h := h.2
      have l14 := h.1
      have h := h.2
      refine p_lald G k13 (nf_k (by decide)) (by decide) (by rw [l14]; decide) dL_law_2567 (fun c15 => ?_)
      refine p_iload dL_law_2568 (q := 0) rfl ?_
      refine p_i2l dL_law_2570 (nf_r c9) ?_
      refine p_lcmp dL_law_2571 (nfl_r c15) (nfl_r (zcl_zc ((nf_r c9)).2)) ?_
      refine p_if_eq (tgt := 2577) dL_law_2572 (by decide) (nf_r (zc_zcmp _ _)) (fun b16 => ?_) (fun b16 => ?_)
      · have h := h.1 b16
        refine p_goto (tgt := 2747) dL_law_2577 (by decide) ?_
        refine p_sub (lv' := [(0, .ref b), (1, .ref x), (2, .ref m), (3, .ref o), (4, .int (zi (i : Int)))]) [2, 3, 4, 5, 6] rfl ?_
        exact hC _ _ _ _ (by show k + 1 + 0 + 0 ≤ k + 60; omega) (by show n + 6 + 0 + 0 ≤ n + 7000; omega) h
      · have h := h.2 b16
        refine p_iconst dL_law_2575 ?_
        exact absurd h id
  · have h := h.2 b13
    refine p_iconst dL_law_2558 ?_
    exact absurd h id
set_option maxRecDepth 20000 in
set_option maxHeartbeats 4000000 in
theorem v_law_39 {g : zG} (G : zOK g) {S : zSh} {im : zIm} {b x m o i k n L : Nat} {xs : Nat → Int32} {Z : zEnd} {C : zSh → zIm → Prop} (hX : va_X b L xs g.2.1 g.2.1.heap) (hb : b < zbs g) (hL : L ≤ 2048) (hL2 : L < 2147483648) (hi : i + 4 ≤ L) (hk : k + 100 ≤ 601024) (hn : n + 10000 ≤ 7293034) {s1 : Int} (c1 : zc s1) (e1 : (xs ((i : Int) + 1).toNat).toInt = s1)
    (hC : ∀ k2 n2 S2 im2, k2 ≤ k + 60 → n2 ≤ n + 7000 → C S2 im2 → zPz g M_L k2 n2 2747 [(0, .ref b), (1, .ref x), (2, .ref m), (3, .ref o), (4, .int (zi (i : Int)))] [] S2 im2 Z)
    (h : (zkd S x = 7 ∧ zCW g yL_truncateText M_L_truncateText [(0, 9, 12, 13)] [.ref x, .int (zi s1), .ref o] S im (zQW (fun r2 S3 im4 => (zkd S3 m = 8 ∧ zCI g yX8_truncateText M_X8_truncateText [.ref m, .int (zi s1)] S3 im4 (fun r8 im7 => zCI g yX8_thrown M_X8_thrown [.ref m] S3 im7 (fun r11 im10 => ((r11 = r2 → ((¬ r2 = 0 → C S3 im10) ∧ (r2 = 0 → (zkd S3 o = 12 ∧ (zln S3 o = 1 ∧ (((zcmp (im10 o 0) r8) = 0 → C S3 im10) ∧ (¬ (zcmp (im10 o 0) r8) = 0 → False))))))) ∧ (¬ r11 = r2 → False))))))) zX0)) :
    zPz g M_L k n 2580 [(0, .ref b), (1, .ref x), (2, .ref m), (3, .ref o), (4, .int (zi (i : Int)))] [] S im Z := by
  refine p_aload_n dL_law_2580 rfl (q := 1) rfl ?_
  refine p_aload_n dL_law_2581 rfl (q := 0) rfl ?_
  refine p_iload dL_law_2582 (q := 4) rfl ?_
  refine p_iconst dL_law_2584 ?_
  refine p_iadd dL_law_2585 ?_
  refine p_sld hX hb hL2 (nf_r (zc_of (by omega) (by omega))) (by omega) (by omega) dL_law_2586 ?_
  rw [e1]
  refine p_aload_n dL_law_2587 rfl (q := 3) rfl ?_
  have k1 := h.1
  have h := h.2
  refine p_SW G k_RL_266 rfl rfl (Nat.le_of_ble_eq_true rfl) ⟨by decide, by decide⟩ ⟨by show k + 1 ≤ 601024; omega, by show n + 6 ≤ 7293034; omega⟩ dL_law_2588 h (fun r2 S3 im4 c5 h => ?_)
  refine p_istore (lv' := [(5, .int (zi r2)), (0, .ref b), (1, .ref x), (2, .ref m), (3, .ref o), (4, .int (zi (i : Int)))]) dL_law_2591 (by decide) rfl ?_
  refine p_aload_n dL_law_2593 rfl (q := 3) rfl ?_
  refine p_aload_n dL_law_2594 rfl (q := 1) rfl ?_
  refine p_iload dL_law_2595 (q := 5) rfl ?_
  refine p_iconst dL_law_2597 ?_
  refine p_iadd dL_law_2598 ?_
  refine p_sld hX hb hL2 (nf_r (zc_of (by omega) (by omega))) (by omega) (by omega) dL_law_2599 ?_
  rw [e1]
  have k6 := h.1
  have h := h.2
  refine p_VI G k_RL_268 (by decide) k6 rfl rfl (Nat.le_of_ble_eq_true rfl) ⟨by decide, by decide⟩ ⟨by show k + 1 + 0 ≤ 601024; omega, by show n + 6 + 0 ≤ 7293034; omega⟩ dL_law_2600 h (fun r8 im7 c9 h => ?_)
  refine p_istore (lv' := [(6, .int (zi r8)), (5, .int (zi r2)), (0, .ref b), (1, .ref x), (2, .ref m), (3, .ref o), (4, .int (zi (i : Int)))]) dL_law_2603 (by decide) rfl ?_
  refine p_aload_n dL_law_2605 rfl (q := 4) rfl ?_
  refine p_VI G k_RL_141 (by decide) k6 rfl rfl (Nat.le_of_ble_eq_true rfl) ⟨by decide, by decide⟩ ⟨by show k + 1 + 0 + 0 ≤ 601024; omega, by show n + 6 + 0 + 0 ≤ 7293034; omega⟩ dL_law_2606 h (fun r11 im10 c12 h => ?_)
  refine p_iload dL_law_2609 (q := 1) rfl ?_
  refine p_icmp_eq (tgt := 2616) dL_law_2611 (by decide) (nf_r c12) (nf_r c5) (fun b13 => ?_) (fun b13 => ?_)
  · have h := h.1 b13
    refine p_iload dL_law_2616 (q := 1) rfl ?_
    refine p_if_ne (tgt := 2633) dL_law_2618 (by decide) (nf_r c5) (fun b13 => ?_) (fun b13 => ?_)
    · have h := h.1 b13
      refine p_goto (tgt := 2747) dL_law_2633 (by decide) ?_
      refine p_sub (lv' := [(0, .ref b), (1, .ref x), (2, .ref m), (3, .ref o), (4, .int (zi (i : Int)))]) [2, 3, 4, 5, 6] rfl ?_
      exact hC _ _ _ _ (by show k + 1 + 0 + 0 ≤ k + 60; omega) (by show n + 6 + 0 + 0 ≤ n + 7000; omega) h
    · have h := h.2 b13
      refine p_aload_n dL_law_2621 rfl (q := 5) rfl ?_
      refine p_iconst dL_law_2622 ?_
      have k13 := h.1
      have h := h.2
      have l14 := h.1
      have h := h.2
      refine p_lald G k13 (nf_k (by decide)) (by decide) (by rw [l14]; decide) dL_law_2623 (fun c15 => ?_)
      refine p_iload dL_law_2624 (q := 0) rfl ?_
      refine p_i2l dL_law_2626 (nf_r c9) ?_
      refine p_lcmp dL_law_2627 (nfl_r c15) (nfl_r (zcl_zc ((nf_r c9)).2)) ?_
      refine p_if_eq (tgt := 2633) dL_law_2628 (by decide) (nf_r (zc_zcmp _ _)) (fun b16 => ?_) (fun b16 => ?_)
      · have h := h.1 b16
        refine p_goto (tgt := 2747) dL_law_2633 (by decide) ?_
        refine p_sub (lv' := [(0, .ref b), (1, .ref x), (2, .ref m), (3, .ref o), (4, .int (zi (i : Int)))]) [2, 3, 4, 5, 6] rfl ?_
        exact hC _ _ _ _ (by show k + 1 + 0 + 0 ≤ k + 60; omega) (by show n + 6 + 0 + 0 ≤ n + 7000; omega) h
      · have h := h.2 b16
        refine p_iconst dL_law_2631 ?_
        exact absurd h id
  · have h := h.2 b13
    refine p_iconst dL_law_2614 ?_
    exact absurd h id
set_option maxRecDepth 20000 in
set_option maxHeartbeats 4000000 in
theorem v_law_40 {g : zG} (G : zOK g) {S : zSh} {im : zIm} {b x m o i k n L : Nat} {xs : Nat → Int32} {Z : zEnd} {C : zSh → zIm → Prop} (hX : va_X b L xs g.2.1 g.2.1.heap) (hb : b < zbs g) (hL : L ≤ 2048) (hL2 : L < 2147483648) (hi : i + 4 ≤ L) (hk : k + 100 ≤ 601024) (hn : n + 10000 ≤ 7293034) 
    (hC : ∀ k2 n2 S2 im2, k2 ≤ k + 60 → n2 ≤ n + 7000 → C S2 im2 → zPz g M_L k2 n2 2747 [(0, .ref b), (1, .ref x), (2, .ref m), (3, .ref o), (4, .int (zi (i : Int)))] [] S2 im2 Z)
    (h : (zkd S x = 7 ∧ zC g yX7_load M_X7_load [.ref x] S im (fun v6 S4 im2 => ∃ r3 : Int, v6 = some (.int (zi r3)) ∧ zc r3 ∧ (zkd S4 m = 8 ∧ zCI g yX8_load M_X8_load [.ref m] S4 im2 (fun r9 im8 => ((r3 = r9 → C S4 im8) ∧ (¬ r3 = r9 → False))))) zX0)) :
    zPz g M_L k n 2636 [(0, .ref b), (1, .ref x), (2, .ref m), (3, .ref o), (4, .int (zi (i : Int)))] [] S im Z := by
  refine p_aload_n dL_law_2636 rfl (q := 1) rfl ?_
  have k1 := h.1
  have h := h.2
  refine p_V G k_RL_269 (by decide) k1 rfl rfl (Nat.le_of_ble_eq_true rfl) ⟨by decide, by decide⟩ ⟨by show k + 0 ≤ 601024; omega, by show n + 0 ≤ 7293034; omega⟩ dL_law_2637 h (fun v6 S4 im2 h => ?_) (fun _ _ _ h => absurd h id)
  obtain ⟨r3, rfl, c5, h⟩ := h
  refine p_aload_n dL_law_2640 rfl (q := 2) rfl ?_
  have k7 := h.1
  have h := h.2
  refine p_VI G k_RL_272 (by decide) k7 rfl rfl (Nat.le_of_ble_eq_true rfl) ⟨by decide, by decide⟩ ⟨by show k + 0 + 0 ≤ 601024; omega, by show n + 0 + 0 ≤ 7293034; omega⟩ dL_law_2641 h (fun r9 im8 c10 h => ?_)
  refine p_icmp_eq (tgt := 2747) dL_law_2644 (by decide) (nf_r c5) (nf_r c10) (fun b11 => ?_) (fun b11 => ?_)
  · have h := h.1 b11
    refine p_sub (lv' := [(0, .ref b), (1, .ref x), (2, .ref m), (3, .ref o), (4, .int (zi (i : Int)))]) [0, 1, 2, 3, 4] rfl ?_
    exact hC _ _ _ _ (by show k + 0 + 0 ≤ k + 60; omega) (by show n + 0 + 0 ≤ n + 7000; omega) h
  · have h := h.2 b11
    refine p_iconst dL_law_2647 ?_
    exact absurd h id
set_option maxRecDepth 20000 in
set_option maxHeartbeats 4000000 in
theorem v_law_41 {g : zG} (G : zOK g) {S : zSh} {im : zIm} {b x m o i k n L : Nat} {xs : Nat → Int32} {Z : zEnd} {C : zSh → zIm → Prop} (hX : va_X b L xs g.2.1 g.2.1.heap) (hb : b < zbs g) (hL : L ≤ 2048) (hL2 : L < 2147483648) (hi : i + 4 ≤ L) (hk : k + 100 ≤ 601024) (hn : n + 10000 ≤ 7293034) 
    (hC : ∀ k2 n2 S2 im2, k2 ≤ k + 60 → n2 ≤ n + 7000 → C S2 im2 → zPz g M_L k2 n2 2747 [(0, .ref b), (1, .ref x), (2, .ref m), (3, .ref o), (4, .int (zi (i : Int)))] [] S2 im2 Z)
    (h : (zkd S x = 7 ∧ zCI g yX7_errorCode M_X7_errorCode [.ref x] S im (fun r3 im2 => (zkd S m = 8 ∧ zCI g yX8_errorCode M_X8_errorCode [.ref m] S im2 (fun r7 im6 => ((r3 = r7 → C S im6) ∧ (¬ r3 = r7 → False))))))) :
    zPz g M_L k n 2649 [(0, .ref b), (1, .ref x), (2, .ref m), (3, .ref o), (4, .int (zi (i : Int)))] [] S im Z := by
  refine p_aload_n dL_law_2649 rfl (q := 1) rfl ?_
  have k1 := h.1
  have h := h.2
  refine p_VI G k_RL_273 (by decide) k1 rfl rfl (Nat.le_of_ble_eq_true rfl) ⟨by decide, by decide⟩ ⟨by show k + 0 ≤ 601024; omega, by show n + 0 ≤ 7293034; omega⟩ dL_law_2650 h (fun r3 im2 c4 h => ?_)
  refine p_aload_n dL_law_2653 rfl (q := 2) rfl ?_
  have k5 := h.1
  have h := h.2
  refine p_VI G k_RL_276 (by decide) k5 rfl rfl (Nat.le_of_ble_eq_true rfl) ⟨by decide, by decide⟩ ⟨by show k + 0 + 0 ≤ 601024; omega, by show n + 0 + 0 ≤ 7293034; omega⟩ dL_law_2654 h (fun r7 im6 c8 h => ?_)
  refine p_icmp_eq (tgt := 2747) dL_law_2657 (by decide) (nf_r c4) (nf_r c8) (fun b9 => ?_) (fun b9 => ?_)
  · have h := h.1 b9
    refine p_sub (lv' := [(0, .ref b), (1, .ref x), (2, .ref m), (3, .ref o), (4, .int (zi (i : Int)))]) [0, 1, 2, 3, 4] rfl ?_
    exact hC _ _ _ _ (by show k + 0 + 0 ≤ k + 60; omega) (by show n + 0 + 0 ≤ n + 7000; omega) h
  · have h := h.2 b9
    refine p_iconst dL_law_2660 ?_
    exact absurd h id
set_option maxRecDepth 20000 in
set_option maxHeartbeats 4000000 in
theorem v_law_42 {g : zG} (G : zOK g) {S : zSh} {im : zIm} {b x m o i k n L : Nat} {xs : Nat → Int32} {Z : zEnd} {C : zSh → zIm → Prop} (hX : va_X b L xs g.2.1 g.2.1.heap) (hb : b < zbs g) (hL : L ≤ 2048) (hL2 : L < 2147483648) (hi : i + 4 ≤ L) (hk : k + 100 ≤ 601024) (hn : n + 10000 ≤ 7293034) 
    (hC : ∀ k2 n2 S2 im2, k2 ≤ k + 60 → n2 ≤ n + 7000 → C S2 im2 → zPz g M_L k2 n2 2747 [(0, .ref b), (1, .ref x), (2, .ref m), (3, .ref o), (4, .int (zi (i : Int)))] [] S2 im2 Z)
    (h : (zkd S x = 7 ∧ zCI g yX7_errorPosition M_X7_errorPosition [.ref x] S im (fun r3 im2 => (zkd S m = 8 ∧ zCI g yX8_errorPosition M_X8_errorPosition [.ref m] S im2 (fun r7 im6 => ((r3 = r7 → C S im6) ∧ (¬ r3 = r7 → False))))))) :
    zPz g M_L k n 2662 [(0, .ref b), (1, .ref x), (2, .ref m), (3, .ref o), (4, .int (zi (i : Int)))] [] S im Z := by
  refine p_aload_n dL_law_2662 rfl (q := 1) rfl ?_
  have k1 := h.1
  have h := h.2
  refine p_VI G k_RL_277 (by decide) k1 rfl rfl (Nat.le_of_ble_eq_true rfl) ⟨by decide, by decide⟩ ⟨by show k + 0 ≤ 601024; omega, by show n + 0 ≤ 7293034; omega⟩ dL_law_2663 h (fun r3 im2 c4 h => ?_)
  refine p_aload_n dL_law_2666 rfl (q := 2) rfl ?_
  have k5 := h.1
  have h := h.2
  refine p_VI G k_RL_280 (by decide) k5 rfl rfl (Nat.le_of_ble_eq_true rfl) ⟨by decide, by decide⟩ ⟨by show k + 0 + 0 ≤ 601024; omega, by show n + 0 + 0 ≤ 7293034; omega⟩ dL_law_2667 h (fun r7 im6 c8 h => ?_)
  refine p_icmp_eq (tgt := 2747) dL_law_2670 (by decide) (nf_r c4) (nf_r c8) (fun b9 => ?_) (fun b9 => ?_)
  · have h := h.1 b9
    refine p_sub (lv' := [(0, .ref b), (1, .ref x), (2, .ref m), (3, .ref o), (4, .int (zi (i : Int)))]) [0, 1, 2, 3, 4] rfl ?_
    exact hC _ _ _ _ (by show k + 0 + 0 ≤ k + 60; omega) (by show n + 0 + 0 ≤ n + 7000; omega) h
  · have h := h.2 b9
    refine p_iconst dL_law_2673 ?_
    exact absurd h id
set_option maxRecDepth 20000 in
set_option maxHeartbeats 4000000 in
theorem v_law_43 {g : zG} (G : zOK g) {S : zSh} {im : zIm} {b x m o i k n L : Nat} {xs : Nat → Int32} {Z : zEnd} {C : zSh → zIm → Prop} (hX : va_X b L xs g.2.1 g.2.1.heap) (hb : b < zbs g) (hL : L ≤ 2048) (hL2 : L < 2147483648) (hi : i + 4 ≤ L) (hk : k + 100 ≤ 601024) (hn : n + 10000 ≤ 7293034) {s1 : Int} (c1 : zc s1) (e1 : (xs ((i : Int) + 1).toNat).toInt = s1)
    (hC : ∀ k2 n2 S2 im2, k2 ≤ k + 60 → n2 ≤ n + 7000 → C S2 im2 → zPz g M_L k2 n2 2747 [(0, .ref b), (1, .ref x), (2, .ref m), (3, .ref o), (4, .int (zi (i : Int)))] [] S2 im2 Z)
    (h : (zkd S x = 7 ∧ zCW g yL_save M_L_save [(0, 5, 8, 13)] [.ref x, .int (zi s1)] S im (zQW (fun r2 S3 im4 => (zkd S3 m = 8 ∧ zCV g yX8_save M_X8_save [.ref m, .int (zi s1)] S3 im4 (fun im7 => zCI g yX8_thrown M_X8_thrown [.ref m] S3 im7 (fun r10 im9 => ((r10 = r2 → C S3 im9) ∧ (¬ r10 = r2 → False))))))) zX0)) :
    zPz g M_L k n 2675 [(0, .ref b), (1, .ref x), (2, .ref m), (3, .ref o), (4, .int (zi (i : Int)))] [] S im Z := by
  refine p_aload_n dL_law_2675 rfl (q := 1) rfl ?_
  refine p_aload_n dL_law_2676 rfl (q := 0) rfl ?_
  refine p_iload dL_law_2677 (q := 4) rfl ?_
  refine p_iconst dL_law_2679 ?_
  refine p_iadd dL_law_2680 ?_
  refine p_sld hX hb hL2 (nf_r (zc_of (by omega) (by omega))) (by omega) (by omega) dL_law_2681 ?_
  rw [e1]
  have k1 := h.1
  have h := h.2
  refine p_SW G k_RL_281 rfl rfl (Nat.le_of_ble_eq_true rfl) ⟨by decide, by decide⟩ ⟨by show k + 42 ≤ 601024; omega, by show n + 5860 ≤ 7293034; omega⟩ dL_law_2682 h (fun r2 S3 im4 c5 h => ?_)
  refine p_istore (lv' := [(5, .int (zi r2)), (0, .ref b), (1, .ref x), (2, .ref m), (3, .ref o), (4, .int (zi (i : Int)))]) dL_law_2685 (by decide) rfl ?_
  refine p_aload_n dL_law_2687 rfl (q := 3) rfl ?_
  refine p_aload_n dL_law_2688 rfl (q := 1) rfl ?_
  refine p_iload dL_law_2689 (q := 5) rfl ?_
  refine p_iconst dL_law_2691 ?_
  refine p_iadd dL_law_2692 ?_
  refine p_sld hX hb hL2 (nf_r (zc_of (by omega) (by omega))) (by omega) (by omega) dL_law_2693 ?_
  rw [e1]
  have k6 := h.1
  have h := h.2
  refine p_VV G k_RL_284 (by decide) k6 rfl rfl (Nat.le_of_ble_eq_true rfl) ⟨by decide, by decide⟩ ⟨by show k + 42 + 0 ≤ 601024; omega, by show n + 5860 + 0 ≤ 7293034; omega⟩ dL_law_2694 h (fun im7 h => ?_)
  refine p_aload_n dL_law_2697 rfl (q := 3) rfl ?_
  refine p_VI G k_RL_141 (by decide) k6 rfl rfl (Nat.le_of_ble_eq_true rfl) ⟨by decide, by decide⟩ ⟨by show k + 42 + 0 + 0 ≤ 601024; omega, by show n + 5860 + 0 + 0 ≤ 7293034; omega⟩ dL_law_2698 h (fun r10 im9 c11 h => ?_)
  refine p_iload dL_law_2701 (q := 0) rfl ?_
  refine p_icmp_eq (tgt := 2708) dL_law_2703 (by decide) (nf_r c11) (nf_r c5) (fun b12 => ?_) (fun b12 => ?_)
  · have h := h.1 b12
    refine p_goto (tgt := 2747) dL_law_2708 (by decide) ?_
    refine p_sub (lv' := [(0, .ref b), (1, .ref x), (2, .ref m), (3, .ref o), (4, .int (zi (i : Int)))]) [1, 2, 3, 4, 5] rfl ?_
    exact hC _ _ _ _ (by show k + 42 + 0 + 0 ≤ k + 60; omega) (by show n + 5860 + 0 + 0 ≤ n + 7000; omega) h
  · have h := h.2 b12
    refine p_iconst dL_law_2706 ?_
    exact absurd h id
set_option maxRecDepth 20000 in
set_option maxHeartbeats 4000000 in
theorem v_law_44 {g : zG} (G : zOK g) {S : zSh} {im : zIm} {b x m o i k n L : Nat} {xs : Nat → Int32} {Z : zEnd} {C : zSh → zIm → Prop} (hX : va_X b L xs g.2.1 g.2.1.heap) (hb : b < zbs g) (hL : L ≤ 2048) (hL2 : L < 2147483648) (hi : i + 4 ≤ L) (hk : k + 100 ≤ 601024) (hn : n + 10000 ≤ 7293034) {s1 : Int} (c1 : zc s1) (e1 : (xs ((i : Int) + 1).toNat).toInt = s1)
    (hC : ∀ k2 n2 S2 im2, k2 ≤ k + 60 → n2 ≤ n + 7000 → C S2 im2 → zPz g M_L k2 n2 2747 [(0, .ref b), (1, .ref x), (2, .ref m), (3, .ref o), (4, .int (zi (i : Int)))] [] S2 im2 Z)
    (h : (zkd S x = 7 ∧ zCW g yL_restore M_L_restore [(0, 5, 8, 13), (0, 5, 11, 15)] [.ref x, .int (zi s1)] S im (zQW (fun r2 S3 im4 => (zkd S3 m = 8 ∧ zCV g yX8_restore M_X8_restore [.ref m, .int (zi s1)] S3 im4 (fun im7 => zCI g yX8_thrown M_X8_thrown [.ref m] S3 im7 (fun r10 im9 => ((r10 = r2 → C S3 im9) ∧ (¬ r10 = r2 → False))))))) zX0)) :
    zPz g M_L k n 2711 [(0, .ref b), (1, .ref x), (2, .ref m), (3, .ref o), (4, .int (zi (i : Int)))] [] S im Z := by
  refine p_aload_n dL_law_2711 rfl (q := 1) rfl ?_
  refine p_aload_n dL_law_2712 rfl (q := 0) rfl ?_
  refine p_iload dL_law_2713 (q := 4) rfl ?_
  refine p_iconst dL_law_2715 ?_
  refine p_iadd dL_law_2716 ?_
  refine p_sld hX hb hL2 (nf_r (zc_of (by omega) (by omega))) (by omega) (by omega) dL_law_2717 ?_
  rw [e1]
  have k1 := h.1
  have h := h.2
  refine p_SW G k_RL_285 rfl rfl (Nat.le_of_ble_eq_true rfl) ⟨by decide, by decide⟩ ⟨by show k + 2 ≤ 601024; omega, by show n + 12 ≤ 7293034; omega⟩ dL_law_2718 h (fun r2 S3 im4 c5 h => ?_)
  refine p_istore (lv' := [(5, .int (zi r2)), (0, .ref b), (1, .ref x), (2, .ref m), (3, .ref o), (4, .int (zi (i : Int)))]) dL_law_2721 (by decide) rfl ?_
  refine p_aload_n dL_law_2723 rfl (q := 3) rfl ?_
  refine p_aload_n dL_law_2724 rfl (q := 1) rfl ?_
  refine p_iload dL_law_2725 (q := 5) rfl ?_
  refine p_iconst dL_law_2727 ?_
  refine p_iadd dL_law_2728 ?_
  refine p_sld hX hb hL2 (nf_r (zc_of (by omega) (by omega))) (by omega) (by omega) dL_law_2729 ?_
  rw [e1]
  have k6 := h.1
  have h := h.2
  refine p_VV G k_RL_287 (by decide) k6 rfl rfl (Nat.le_of_ble_eq_true rfl) ⟨by decide, by decide⟩ ⟨by show k + 2 + 0 ≤ 601024; omega, by show n + 12 + 0 ≤ 7293034; omega⟩ dL_law_2730 h (fun im7 h => ?_)
  refine p_aload_n dL_law_2733 rfl (q := 3) rfl ?_
  refine p_VI G k_RL_141 (by decide) k6 rfl rfl (Nat.le_of_ble_eq_true rfl) ⟨by decide, by decide⟩ ⟨by show k + 2 + 0 + 0 ≤ 601024; omega, by show n + 12 + 0 + 0 ≤ 7293034; omega⟩ dL_law_2734 h (fun r10 im9 c11 h => ?_)
  refine p_iload dL_law_2737 (q := 0) rfl ?_
  refine p_icmp_eq (tgt := 2744) dL_law_2739 (by decide) (nf_r c11) (nf_r c5) (fun b12 => ?_) (fun b12 => ?_)
  · have h := h.1 b12
    refine p_goto (tgt := 2747) dL_law_2744 (by decide) ?_
    refine p_sub (lv' := [(0, .ref b), (1, .ref x), (2, .ref m), (3, .ref o), (4, .int (zi (i : Int)))]) [1, 2, 3, 4, 5] rfl ?_
    exact hC _ _ _ _ (by show k + 2 + 0 + 0 ≤ k + 60; omega) (by show n + 12 + 0 + 0 ≤ n + 7000; omega) h
  · have h := h.2 b12
    refine p_iconst dL_law_2742 ?_
    exact absurd h id
