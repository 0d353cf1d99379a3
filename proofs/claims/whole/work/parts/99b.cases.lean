/-! THE LAW: its cases -/
theorem oC0 : oB shC 0 10 = true := by decide +kernel
theorem oR0 : oB shR 0 11 = true := by decide +kernel
theorem lcs_0 {X : Cx} {b L : Nat} {xs : Nat → Int32} {i : Int32} {M1 M2 : Mem} {kc ks : Nat} (hX : OkX X code R_law 13 480) (hA : ∀ a, X.B ≤ a → X.A a) (hs : va_X b L xs X.s X.H0) (hb : b < X.H0.size) (hn : ¬ X.A b) (v1 : vp_in (i + 1) L) (v2 : vp_in (i + 2) L) (v3 : vp_in (i + 3) L) (v4 : vp_in (i + 4) L) (v5 : vp_in (i + 5) L) (hR : Rel M1 M2) (hk : kc ≤ X.R.cells ∧ ks ≤ X.R.slots) (K : ∀ N1 N2, Rel N1 N2 → GoP X (PL X N1 N2) kc ks 1706 [some (.ref b), some (.ref (X.B + 0)), some (.ref (X.B + nC + 0)), some (.int i)] []) : GoP X (PL X M1 M2) kc ks 224 [some (.ref b), some (.ref (X.B + 0)), some (.ref (X.B + nC + 0)), some (.int i)] [] := by
  obtain ⟨N1, N2, r, e1, e2, hR2⟩ := eq_feed hR (xs (i + 1).toNatClampNeg) (xs (i + 2).toNatClampNeg) (xs (i + 3).toNatClampNeg) (xs (i + 4).toNatClampNeg) (xs (i + 5).toNatClampNeg)
  refine p_aload_n (i := 1) hX e_L_law_224 rfl rfl ?_
  refine p_aload_n (i := 0) hX e_L_law_225 rfl rfl ?_
  refine p_iload_n (i := 3) hX e_L_law_226 rfl rfl ?_
  refine p_iconst (v := 1) hX e_L_law_227 (by decide +kernel) ?_
  refine p_iadd hX e_L_law_228 ?_
  refine p_sld hX hs hb hn v1 e_L_law_229 ?_
  refine p_aload_n (i := 0) hX e_L_law_230 rfl rfl ?_
  refine p_iload_n (i := 3) hX e_L_law_231 rfl rfl ?_
  refine p_iconst (v := 2) hX e_L_law_232 (by decide +kernel) ?_
  refine p_iadd hX e_L_law_233 ?_
  refine p_sld hX hs hb hn v2 e_L_law_234 ?_
  refine p_aload_n (i := 0) hX e_L_law_235 rfl rfl ?_
  refine p_iload_n (i := 3) hX e_L_law_236 rfl rfl ?_
  refine p_iconst (v := 3) hX e_L_law_237 (by decide +kernel) ?_
  refine p_iadd hX e_L_law_238 ?_
  refine p_sld hX hs hb hn v3 e_L_law_239 ?_
  refine p_aload_n (i := 0) hX e_L_law_240 rfl rfl ?_
  refine p_iload_n (i := 3) hX e_L_law_241 rfl rfl ?_
  refine p_iconst (v := 4) hX e_L_law_242 (by decide +kernel) ?_
  refine p_iadd hX e_L_law_243 ?_
  refine p_sld hX hs hb hn v4 e_L_law_244 ?_
  refine p_aload_n (i := 0) hX e_L_law_245 rfl rfl ?_
  refine p_iload_n (i := 3) hX e_L_law_246 rfl rfl ?_
  refine p_iconst (v := 5) hX e_L_law_247 (by decide +kernel) ?_
  refine p_iadd hX e_L_law_248 ?_
  refine p_sld hX hs hb hn v5 e_L_law_249 ?_
  refine p_c1 (As := fun _ _ => [.int (xs (i + 1).toNatClampNeg), .int (xs (i + 2).toNatClampNeg), .int (xs (i + 3).toNatClampNeg), .int (xs (i + 4).toNatClampNeg), .int (xs (i + 5).toNatClampNeg)]) hX hA (t_X10_feed e1) e_L_law_250 cw_X10_feed cv_X10_feed wk_484 ⟨Nat.le_of_ble_eq_true rfl, Nat.le_of_ble_eq_true rfl⟩ (show cls[10]? = some (RX10, TX10, 10) from rfl) rfl (by decide) oC0 rfl rfl (Nat.le_of_ble_eq_true rfl) hk ?_
  refine p_aload_n (i := 2) hX e_L_law_253 rfl rfl ?_
  refine p_aload_n (i := 0) hX e_L_law_254 rfl rfl ?_
  refine p_iload_n (i := 3) hX e_L_law_255 rfl rfl ?_
  refine p_iconst (v := 1) hX e_L_law_256 (by decide +kernel) ?_
  refine p_iadd hX e_L_law_257 ?_
  refine p_sld hX hs hb hn v1 e_L_law_258 ?_
  refine p_aload_n (i := 0) hX e_L_law_259 rfl rfl ?_
  refine p_iload_n (i := 3) hX e_L_law_260 rfl rfl ?_
  refine p_iconst (v := 2) hX e_L_law_261 (by decide +kernel) ?_
  refine p_iadd hX e_L_law_262 ?_
  refine p_sld hX hs hb hn v2 e_L_law_263 ?_
  refine p_aload_n (i := 0) hX e_L_law_264 rfl rfl ?_
  refine p_iload_n (i := 3) hX e_L_law_265 rfl rfl ?_
  refine p_iconst (v := 3) hX e_L_law_266 (by decide +kernel) ?_
  refine p_iadd hX e_L_law_267 ?_
  refine p_sld hX hs hb hn v3 e_L_law_268 ?_
  refine p_aload_n (i := 0) hX e_L_law_269 rfl rfl ?_
  refine p_iload_n (i := 3) hX e_L_law_270 rfl rfl ?_
  refine p_iconst (v := 4) hX e_L_law_271 (by decide +kernel) ?_
  refine p_iadd hX e_L_law_272 ?_
  refine p_sld hX hs hb hn v4 e_L_law_273 ?_
  refine p_aload_n (i := 0) hX e_L_law_274 rfl rfl ?_
  refine p_iload_n (i := 3) hX e_L_law_275 rfl rfl ?_
  refine p_iconst (v := 5) hX e_L_law_276 (by decide +kernel) ?_
  refine p_iadd hX e_L_law_277 ?_
  refine p_sld hX hs hb hn v5 e_L_law_278 ?_
  refine p_c2 (As := fun _ _ => [.int (xs (i + 1).toNatClampNeg), .int (xs (i + 2).toNatClampNeg), .int (xs (i + 3).toNatClampNeg), .int (xs (i + 4).toNatClampNeg), .int (xs (i + 5).toNatClampNeg)]) hX hA (t_X11_feed e2) e_L_law_279 cw_X11_feed cv_X11_feed wk_1308 ⟨Nat.le_of_ble_eq_true rfl, Nat.le_of_ble_eq_true rfl⟩ (show cls[11]? = some (RX11, TX11, 54) from rfl) rfl (by decide) oR0 rfl rfl (Nat.le_of_ble_eq_true rfl) hk ?_
  exact p_icmp_eq hX e_L_law_282 (fun _ => K _ _ hR2) (fun h => absurd rfl h)
theorem lcs_1 {X : Cx} {b L : Nat} {xs : Nat → Int32} {i : Int32} {M1 M2 : Mem} {kc ks : Nat} (hX : OkX X code R_law 13 480) (hA : ∀ a, X.B ≤ a → X.A a) (hs : va_X b L xs X.s X.H0) (hb : b < X.H0.size) (hn : ¬ X.A b) (v1 : vp_in (i + 1) L) (v2 : vp_in (i + 2) L) (v3 : vp_in (i + 3) L) (v4 : vp_in (i + 4) L) (v5 : vp_in (i + 5) L) (hR : Rel M1 M2) (hk : kc ≤ X.R.cells ∧ ks ≤ X.R.slots) (K : ∀ N1 N2, Rel N1 N2 → GoP X (PL X N1 N2) kc ks 1706 [some (.ref b), some (.ref (X.B + 0)), some (.ref (X.B + nC + 0)), some (.int i)] []) : GoP X (PL X M1 M2) kc ks 287 [some (.ref b), some (.ref (X.B + 0)), some (.ref (X.B + nC + 0)), some (.int i)] [] := by
  obtain ⟨N1, N2, r, e1, e2, hR2⟩ := eq_end hR (xs (i + 1).toNatClampNeg)
  refine p_aload_n (i := 1) hX e_L_law_287 rfl rfl ?_
  refine p_aload_n (i := 0) hX e_L_law_288 rfl rfl ?_
  refine p_iload_n (i := 3) hX e_L_law_289 rfl rfl ?_
  refine p_iconst (v := 1) hX e_L_law_290 (by decide +kernel) ?_
  refine p_iadd hX e_L_law_291 ?_
  refine p_sld hX hs hb hn v1 e_L_law_292 ?_
  refine p_c1 (As := fun _ _ => [.int (xs (i + 1).toNatClampNeg)]) hX hA (t_X10_end e1) e_L_law_293 cw_X10_end cv_X10_end wk_492 ⟨Nat.le_of_ble_eq_true rfl, Nat.le_of_ble_eq_true rfl⟩ (show cls[10]? = some (RX10, TX10, 10) from rfl) rfl (by decide) oC0 rfl rfl (Nat.le_of_ble_eq_true rfl) hk ?_
  refine p_aload_n (i := 2) hX e_L_law_296 rfl rfl ?_
  refine p_aload_n (i := 0) hX e_L_law_297 rfl rfl ?_
  refine p_iload_n (i := 3) hX e_L_law_298 rfl rfl ?_
  refine p_iconst (v := 1) hX e_L_law_299 (by decide +kernel) ?_
  refine p_iadd hX e_L_law_300 ?_
  refine p_sld hX hs hb hn v1 e_L_law_301 ?_
  refine p_c2 (As := fun _ _ => [.int (xs (i + 1).toNatClampNeg)]) hX hA (t_X11_end e2) e_L_law_302 cw_X11_end cv_X11_end wk_1316 ⟨Nat.le_of_ble_eq_true rfl, Nat.le_of_ble_eq_true rfl⟩ (show cls[11]? = some (RX11, TX11, 54) from rfl) rfl (by decide) oR0 rfl rfl (Nat.le_of_ble_eq_true rfl) hk ?_
  exact p_icmp_eq hX e_L_law_305 (fun _ => K _ _ hR2) (fun h => absurd rfl h)
theorem lcs_2 {X : Cx} {b L : Nat} {xs : Nat → Int32} {i : Int32} {M1 M2 : Mem} {kc ks : Nat} (hX : OkX X code R_law 13 480) (hA : ∀ a, X.B ≤ a → X.A a) (hs : va_X b L xs X.s X.H0) (hb : b < X.H0.size) (hn : ¬ X.A b) (v1 : vp_in (i + 1) L) (v2 : vp_in (i + 2) L) (v3 : vp_in (i + 3) L) (v4 : vp_in (i + 4) L) (v5 : vp_in (i + 5) L) (hR : Rel M1 M2) (hk : kc ≤ X.R.cells ∧ ks ≤ X.R.slots) (K : ∀ N1 N2, Rel N1 N2 → GoP X (PL X N1 N2) kc ks 1706 [some (.ref b), some (.ref (X.B + 0)), some (.ref (X.B + nC + 0)), some (.int i)] []) : GoP X (PL X M1 M2) kc ks 310 [some (.ref b), some (.ref (X.B + 0)), some (.ref (X.B + nC + 0)), some (.int i)] [] := by
  obtain ⟨N1, N2, r, e1, e2, hR2⟩ := eq_market hR 
  refine p_aload_n (i := 1) hX e_L_law_310 rfl rfl ?_
  refine p_c1 (As := fun _ _ => []) hX hA (t_X10_market e1) e_L_law_311 cw_X10_market cv_X10_market wk_496 ⟨Nat.le_of_ble_eq_true rfl, Nat.le_of_ble_eq_true rfl⟩ (show cls[10]? = some (RX10, TX10, 10) from rfl) rfl (by decide) oC0 rfl rfl (Nat.le_of_ble_eq_true rfl) hk ?_
  refine p_aload_n (i := 2) hX e_L_law_314 rfl rfl ?_
  refine p_c2 (As := fun _ _ => []) hX hA (t_X11_market e2) e_L_law_315 cw_X11_market cv_X11_market wk_1324 ⟨Nat.le_of_ble_eq_true rfl, Nat.le_of_ble_eq_true rfl⟩ (show cls[11]? = some (RX11, TX11, 54) from rfl) rfl (by decide) oR0 rfl rfl (Nat.le_of_ble_eq_true rfl) hk ?_
  exact p_icmp_eq hX e_L_law_318 (fun _ => K _ _ hR2) (fun h => absurd rfl h)
theorem lcs_3 {X : Cx} {b L : Nat} {xs : Nat → Int32} {i : Int32} {M1 M2 : Mem} {kc ks : Nat} (hX : OkX X code R_law 13 480) (hA : ∀ a, X.B ≤ a → X.A a) (hs : va_X b L xs X.s X.H0) (hb : b < X.H0.size) (hn : ¬ X.A b) (v1 : vp_in (i + 1) L) (v2 : vp_in (i + 2) L) (v3 : vp_in (i + 3) L) (v4 : vp_in (i + 4) L) (v5 : vp_in (i + 5) L) (hR : Rel M1 M2) (hk : kc ≤ X.R.cells ∧ ks ≤ X.R.slots) (K : ∀ N1 N2, Rel N1 N2 → GoP X (PL X N1 N2) kc ks 1706 [some (.ref b), some (.ref (X.B + 0)), some (.ref (X.B + nC + 0)), some (.int i)] []) : GoP X (PL X M1 M2) kc ks 323 [some (.ref b), some (.ref (X.B + 0)), some (.ref (X.B + nC + 0)), some (.int i)] [] := by
  obtain ⟨N2, r, e1, e2, hR2⟩ := eqV_fault hR (xs (i + 1).toNatClampNeg)
  refine p_aload_n (i := 1) hX e_L_law_323 rfl rfl ?_
  refine p_aload_n (i := 0) hX e_L_law_324 rfl rfl ?_
  refine p_iload_n (i := 3) hX e_L_law_325 rfl rfl ?_
  refine p_iconst (v := 1) hX e_L_law_326 (by decide +kernel) ?_
  refine p_iadd hX e_L_law_327 ?_
  refine p_sld hX hs hb hn v1 e_L_law_328 ?_
  refine p_c1 (As := fun _ _ => [.int (xs (i + 1).toNatClampNeg)]) hX hA (t_X10_fault e1) e_L_law_329 cw_X10_fault cv_X10_fault wk_672 ⟨Nat.le_of_ble_eq_true rfl, Nat.le_of_ble_eq_true rfl⟩ (show cls[10]? = some (RX10, TX10, 10) from rfl) rfl (by decide) oC0 rfl rfl (Nat.le_of_ble_eq_true rfl) hk ?_
  refine p_aload_n (i := 2) hX e_L_law_332 rfl rfl ?_
  refine p_aload_n (i := 0) hX e_L_law_333 rfl rfl ?_
  refine p_iload_n (i := 3) hX e_L_law_334 rfl rfl ?_
  refine p_iconst (v := 1) hX e_L_law_335 (by decide +kernel) ?_
  refine p_iadd hX e_L_law_336 ?_
  refine p_sld hX hs hb hn v1 e_L_law_337 ?_
  refine p_c2 (As := fun _ _ => [.int (xs (i + 1).toNatClampNeg)]) hX hA (t_X11_fault e2) e_L_law_338 cw_X11_fault cv_X11_fault wk_1320 ⟨Nat.le_of_ble_eq_true rfl, Nat.le_of_ble_eq_true rfl⟩ (show cls[11]? = some (RX11, TX11, 54) from rfl) rfl (by decide) oR0 rfl rfl (Nat.le_of_ble_eq_true rfl) hk ?_
  exact p_icmp_eq hX e_L_law_341 (fun _ => K _ _ hR2) (fun h => absurd rfl h)
theorem lcs_4 {X : Cx} {b L : Nat} {xs : Nat → Int32} {i : Int32} {M1 M2 : Mem} {kc ks : Nat} (hX : OkX X code R_law 13 480) (hA : ∀ a, X.B ≤ a → X.A a) (hs : va_X b L xs X.s X.H0) (hb : b < X.H0.size) (hn : ¬ X.A b) (v1 : vp_in (i + 1) L) (v2 : vp_in (i + 2) L) (v3 : vp_in (i + 3) L) (v4 : vp_in (i + 4) L) (v5 : vp_in (i + 5) L) (hR : Rel M1 M2) (hk : kc ≤ X.R.cells ∧ ks ≤ X.R.slots) (K : ∀ N1 N2, Rel N1 N2 → GoP X (PL X N1 N2) kc ks 1706 [some (.ref b), some (.ref (X.B + 0)), some (.ref (X.B + nC + 0)), some (.int i)] []) : GoP X (PL X M1 M2) kc ks 346 [some (.ref b), some (.ref (X.B + 0)), some (.ref (X.B + nC + 0)), some (.int i)] [] := by
  obtain ⟨N2, r, e1, e2, hR2⟩ := eqV_stall hR (xs (i + 1).toNatClampNeg) (xs (i + 2).toNatClampNeg)
  refine p_aload_n (i := 1) hX e_L_law_346 rfl rfl ?_
  refine p_aload_n (i := 0) hX e_L_law_347 rfl rfl ?_
  refine p_iload_n (i := 3) hX e_L_law_348 rfl rfl ?_
  refine p_iconst (v := 1) hX e_L_law_349 (by decide +kernel) ?_
  refine p_iadd hX e_L_law_350 ?_
  refine p_sld hX hs hb hn v1 e_L_law_351 ?_
  refine p_aload_n (i := 0) hX e_L_law_352 rfl rfl ?_
  refine p_iload_n (i := 3) hX e_L_law_353 rfl rfl ?_
  refine p_iconst (v := 2) hX e_L_law_354 (by decide +kernel) ?_
  refine p_iadd hX e_L_law_355 ?_
  refine p_sld hX hs hb hn v2 e_L_law_356 ?_
  refine p_c1 (As := fun _ _ => [.int (xs (i + 1).toNatClampNeg), .int (xs (i + 2).toNatClampNeg)]) hX hA (t_X10_stall e1) e_L_law_357 cw_X10_stall cv_X10_stall wk_676 ⟨Nat.le_of_ble_eq_true rfl, Nat.le_of_ble_eq_true rfl⟩ (show cls[10]? = some (RX10, TX10, 10) from rfl) rfl (by decide) oC0 rfl rfl (Nat.le_of_ble_eq_true rfl) hk ?_
  refine p_aload_n (i := 2) hX e_L_law_360 rfl rfl ?_
  refine p_aload_n (i := 0) hX e_L_law_361 rfl rfl ?_
  refine p_iload_n (i := 3) hX e_L_law_362 rfl rfl ?_
  refine p_iconst (v := 1) hX e_L_law_363 (by decide +kernel) ?_
  refine p_iadd hX e_L_law_364 ?_
  refine p_sld hX hs hb hn v1 e_L_law_365 ?_
  refine p_aload_n (i := 0) hX e_L_law_366 rfl rfl ?_
  refine p_iload_n (i := 3) hX e_L_law_367 rfl rfl ?_
  refine p_iconst (v := 2) hX e_L_law_368 (by decide +kernel) ?_
  refine p_iadd hX e_L_law_369 ?_
  refine p_sld hX hs hb hn v2 e_L_law_370 ?_
  refine p_c2 (As := fun _ _ => [.int (xs (i + 1).toNatClampNeg), .int (xs (i + 2).toNatClampNeg)]) hX hA (t_X11_stall e2) e_L_law_371 cw_X11_stall cv_X11_stall wk_1446 ⟨Nat.le_of_ble_eq_true rfl, Nat.le_of_ble_eq_true rfl⟩ (show cls[11]? = some (RX11, TX11, 54) from rfl) rfl (by decide) oR0 rfl rfl (Nat.le_of_ble_eq_true rfl) hk ?_
  exact p_icmp_eq hX e_L_law_374 (fun _ => K _ _ hR2) (fun h => absurd rfl h)
theorem lcs_5 {X : Cx} {b L : Nat} {xs : Nat → Int32} {i : Int32} {M1 M2 : Mem} {kc ks : Nat} (hX : OkX X code R_law 13 480) (hA : ∀ a, X.B ≤ a → X.A a) (hs : va_X b L xs X.s X.H0) (hb : b < X.H0.size) (hn : ¬ X.A b) (v1 : vp_in (i + 1) L) (v2 : vp_in (i + 2) L) (v3 : vp_in (i + 3) L) (v4 : vp_in (i + 4) L) (v5 : vp_in (i + 5) L) (hR : Rel M1 M2) (hk : kc ≤ X.R.cells ∧ ks ≤ X.R.slots) (K : ∀ N1 N2, Rel N1 N2 → GoP X (PL X N1 N2) kc ks 1706 [some (.ref b), some (.ref (X.B + 0)), some (.ref (X.B + nC + 0)), some (.int i)] []) : GoP X (PL X M1 M2) kc ks 379 [some (.ref b), some (.ref (X.B + 0)), some (.ref (X.B + nC + 0)), some (.int i)] [] := by
  obtain ⟨N2, r, e1, e2, hR2⟩ := eqV_buyer hR (xs (i + 1).toNatClampNeg) (xs (i + 2).toNatClampNeg)
  refine p_aload_n (i := 1) hX e_L_law_379 rfl rfl ?_
  refine p_aload_n (i := 0) hX e_L_law_380 rfl rfl ?_
  refine p_iload_n (i := 3) hX e_L_law_381 rfl rfl ?_
  refine p_iconst (v := 1) hX e_L_law_382 (by decide +kernel) ?_
  refine p_iadd hX e_L_law_383 ?_
  refine p_sld hX hs hb hn v1 e_L_law_384 ?_
  refine p_aload_n (i := 0) hX e_L_law_385 rfl rfl ?_
  refine p_iload_n (i := 3) hX e_L_law_386 rfl rfl ?_
  refine p_iconst (v := 2) hX e_L_law_387 (by decide +kernel) ?_
  refine p_iadd hX e_L_law_388 ?_
  refine p_sld hX hs hb hn v2 e_L_law_389 ?_
  refine p_c1 (As := fun _ _ => [.int (xs (i + 1).toNatClampNeg), .int (xs (i + 2).toNatClampNeg)]) hX hA (t_X10_buyer e1) e_L_law_390 cw_X10_buyer cv_X10_buyer wk_684 ⟨Nat.le_of_ble_eq_true rfl, Nat.le_of_ble_eq_true rfl⟩ (show cls[10]? = some (RX10, TX10, 10) from rfl) rfl (by decide) oC0 rfl rfl (Nat.le_of_ble_eq_true rfl) hk ?_
  refine p_aload_n (i := 2) hX e_L_law_393 rfl rfl ?_
  refine p_aload_n (i := 0) hX e_L_law_394 rfl rfl ?_
  refine p_iload_n (i := 3) hX e_L_law_395 rfl rfl ?_
  refine p_iconst (v := 1) hX e_L_law_396 (by decide +kernel) ?_
  refine p_iadd hX e_L_law_397 ?_
  refine p_sld hX hs hb hn v1 e_L_law_398 ?_
  refine p_aload_n (i := 0) hX e_L_law_399 rfl rfl ?_
  refine p_iload_n (i := 3) hX e_L_law_400 rfl rfl ?_
  refine p_iconst (v := 2) hX e_L_law_401 (by decide +kernel) ?_
  refine p_iadd hX e_L_law_402 ?_
  refine p_sld hX hs hb hn v2 e_L_law_403 ?_
  refine p_c2 (As := fun _ _ => [.int (xs (i + 1).toNatClampNeg), .int (xs (i + 2).toNatClampNeg)]) hX hA (t_X11_buyer e2) e_L_law_404 cw_X11_buyer cv_X11_buyer wk_1459 ⟨Nat.le_of_ble_eq_true rfl, Nat.le_of_ble_eq_true rfl⟩ (show cls[11]? = some (RX11, TX11, 54) from rfl) rfl (by decide) oR0 rfl rfl (Nat.le_of_ble_eq_true rfl) hk ?_
  exact p_icmp_eq hX e_L_law_407 (fun _ => K _ _ hR2) (fun h => absurd rfl h)
theorem lcs_6 {X : Cx} {b L : Nat} {xs : Nat → Int32} {i : Int32} {M1 M2 : Mem} {kc ks : Nat} (hX : OkX X code R_law 13 480) (hA : ∀ a, X.B ≤ a → X.A a) (hs : va_X b L xs X.s X.H0) (hb : b < X.H0.size) (hn : ¬ X.A b) (v1 : vp_in (i + 1) L) (v2 : vp_in (i + 2) L) (v3 : vp_in (i + 3) L) (v4 : vp_in (i + 4) L) (v5 : vp_in (i + 5) L) (hR : Rel M1 M2) (hk : kc ≤ X.R.cells ∧ ks ≤ X.R.slots) (K : ∀ N1 N2, Rel N1 N2 → GoP X (PL X N1 N2) kc ks 1706 [some (.ref b), some (.ref (X.B + 0)), some (.ref (X.B + nC + 0)), some (.int i)] []) : GoP X (PL X M1 M2) kc ks 412 [some (.ref b), some (.ref (X.B + 0)), some (.ref (X.B + nC + 0)), some (.int i)] [] := by
  obtain ⟨N2, r, e1, e2, hR2⟩ := eqV_want hR (xs (i + 1).toNatClampNeg) (xs (i + 2).toNatClampNeg) (xs (i + 3).toNatClampNeg)
  refine p_aload_n (i := 1) hX e_L_law_412 rfl rfl ?_
  refine p_aload_n (i := 0) hX e_L_law_413 rfl rfl ?_
  refine p_iload_n (i := 3) hX e_L_law_414 rfl rfl ?_
  refine p_iconst (v := 1) hX e_L_law_415 (by decide +kernel) ?_
  refine p_iadd hX e_L_law_416 ?_
  refine p_sld hX hs hb hn v1 e_L_law_417 ?_
  refine p_aload_n (i := 0) hX e_L_law_418 rfl rfl ?_
  refine p_iload_n (i := 3) hX e_L_law_419 rfl rfl ?_
  refine p_iconst (v := 2) hX e_L_law_420 (by decide +kernel) ?_
  refine p_iadd hX e_L_law_421 ?_
  refine p_sld hX hs hb hn v2 e_L_law_422 ?_
  refine p_aload_n (i := 0) hX e_L_law_423 rfl rfl ?_
  refine p_iload_n (i := 3) hX e_L_law_424 rfl rfl ?_
  refine p_iconst (v := 3) hX e_L_law_425 (by decide +kernel) ?_
  refine p_iadd hX e_L_law_426 ?_
  refine p_sld hX hs hb hn v3 e_L_law_427 ?_
  refine p_c1 (As := fun _ _ => [.int (xs (i + 1).toNatClampNeg), .int (xs (i + 2).toNatClampNeg), .int (xs (i + 3).toNatClampNeg)]) hX hA (t_X10_want e1) e_L_law_428 cw_X10_want cv_X10_want wk_692 ⟨Nat.le_of_ble_eq_true rfl, Nat.le_of_ble_eq_true rfl⟩ (show cls[10]? = some (RX10, TX10, 10) from rfl) rfl (by decide) oC0 rfl rfl (Nat.le_of_ble_eq_true rfl) hk ?_
  refine p_aload_n (i := 2) hX e_L_law_431 rfl rfl ?_
  refine p_aload_n (i := 0) hX e_L_law_432 rfl rfl ?_
  refine p_iload_n (i := 3) hX e_L_law_433 rfl rfl ?_
  refine p_iconst (v := 1) hX e_L_law_434 (by decide +kernel) ?_
  refine p_iadd hX e_L_law_435 ?_
  refine p_sld hX hs hb hn v1 e_L_law_436 ?_
  refine p_aload_n (i := 0) hX e_L_law_437 rfl rfl ?_
  refine p_iload_n (i := 3) hX e_L_law_438 rfl rfl ?_
  refine p_iconst (v := 2) hX e_L_law_439 (by decide +kernel) ?_
  refine p_iadd hX e_L_law_440 ?_
  refine p_sld hX hs hb hn v2 e_L_law_441 ?_
  refine p_aload_n (i := 0) hX e_L_law_442 rfl rfl ?_
  refine p_iload_n (i := 3) hX e_L_law_443 rfl rfl ?_
  refine p_iconst (v := 3) hX e_L_law_444 (by decide +kernel) ?_
  refine p_iadd hX e_L_law_445 ?_
  refine p_sld hX hs hb hn v3 e_L_law_446 ?_
  refine p_c2 (As := fun _ _ => [.int (xs (i + 1).toNatClampNeg), .int (xs (i + 2).toNatClampNeg), .int (xs (i + 3).toNatClampNeg)]) hX hA (t_X11_want e2) e_L_law_447 cw_X11_want cv_X11_want wk_1467 ⟨Nat.le_of_ble_eq_true rfl, Nat.le_of_ble_eq_true rfl⟩ (show cls[11]? = some (RX11, TX11, 54) from rfl) rfl (by decide) oR0 rfl rfl (Nat.le_of_ble_eq_true rfl) hk ?_
  exact p_icmp_eq hX e_L_law_450 (fun _ => K _ _ hR2) (fun h => absurd rfl h)
theorem lcs_7 {X : Cx} {b L : Nat} {xs : Nat → Int32} {i : Int32} {M1 M2 : Mem} {kc ks : Nat} (hX : OkX X code R_law 13 480) (hA : ∀ a, X.B ≤ a → X.A a) (hs : va_X b L xs X.s X.H0) (hb : b < X.H0.size) (hn : ¬ X.A b) (v1 : vp_in (i + 1) L) (v2 : vp_in (i + 2) L) (v3 : vp_in (i + 3) L) (v4 : vp_in (i + 4) L) (v5 : vp_in (i + 5) L) (hR : Rel M1 M2) (hk : kc ≤ X.R.cells ∧ ks ≤ X.R.slots) (K : ∀ N1 N2, Rel N1 N2 → GoP X (PL X N1 N2) kc ks 1706 [some (.ref b), some (.ref (X.B + 0)), some (.ref (X.B + nC + 0)), some (.int i)] []) : GoP X (PL X M1 M2) kc ks 455 [some (.ref b), some (.ref (X.B + 0)), some (.ref (X.B + nC + 0)), some (.int i)] [] := by
  obtain ⟨N1, N2, r, e1, e2, hR2⟩ := eq_at hR (xs (i + 1).toNatClampNeg) (xs (i + 2).toNatClampNeg)
  refine p_aload_n (i := 1) hX e_L_law_455 rfl rfl ?_
  refine p_aload_n (i := 0) hX e_L_law_456 rfl rfl ?_
  refine p_iload_n (i := 3) hX e_L_law_457 rfl rfl ?_
  refine p_iconst (v := 1) hX e_L_law_458 (by decide +kernel) ?_
  refine p_iadd hX e_L_law_459 ?_
  refine p_sld hX hs hb hn v1 e_L_law_460 ?_
  refine p_aload_n (i := 0) hX e_L_law_461 rfl rfl ?_
  refine p_iload_n (i := 3) hX e_L_law_462 rfl rfl ?_
  refine p_iconst (v := 2) hX e_L_law_463 (by decide +kernel) ?_
  refine p_iadd hX e_L_law_464 ?_
  refine p_sld hX hs hb hn v2 e_L_law_465 ?_
  refine p_c1 (As := fun _ _ => [.int (xs (i + 1).toNatClampNeg), .int (xs (i + 2).toNatClampNeg)]) hX hA (t_X10_at e1) e_L_law_466 cw_X10_at cv_X10_at wk_696 ⟨Nat.le_of_ble_eq_true rfl, Nat.le_of_ble_eq_true rfl⟩ (show cls[10]? = some (RX10, TX10, 10) from rfl) rfl (by decide) oC0 rfl rfl (Nat.le_of_ble_eq_true rfl) hk ?_
  refine p_aload_n (i := 2) hX e_L_law_469 rfl rfl ?_
  refine p_aload_n (i := 0) hX e_L_law_470 rfl rfl ?_
  refine p_iload_n (i := 3) hX e_L_law_471 rfl rfl ?_
  refine p_iconst (v := 1) hX e_L_law_472 (by decide +kernel) ?_
  refine p_iadd hX e_L_law_473 ?_
  refine p_sld hX hs hb hn v1 e_L_law_474 ?_
  refine p_aload_n (i := 0) hX e_L_law_475 rfl rfl ?_
  refine p_iload_n (i := 3) hX e_L_law_476 rfl rfl ?_
  refine p_iconst (v := 2) hX e_L_law_477 (by decide +kernel) ?_
  refine p_iadd hX e_L_law_478 ?_
  refine p_sld hX hs hb hn v2 e_L_law_479 ?_
  refine p_c2 (As := fun _ _ => [.int (xs (i + 1).toNatClampNeg), .int (xs (i + 2).toNatClampNeg)]) hX hA (t_X11_at e2) e_L_law_480 cw_X11_at cv_X11_at wk_1472 ⟨Nat.le_of_ble_eq_true rfl, Nat.le_of_ble_eq_true rfl⟩ (show cls[11]? = some (RX11, TX11, 54) from rfl) rfl (by decide) oR0 rfl rfl (Nat.le_of_ble_eq_true rfl) hk ?_
  exact p_icmp_eq hX e_L_law_483 (fun _ => K _ _ hR2) (fun h => absurd rfl h)
theorem lcs_8 {X : Cx} {b L : Nat} {xs : Nat → Int32} {i : Int32} {M1 M2 : Mem} {kc ks : Nat} (hX : OkX X code R_law 13 480) (hA : ∀ a, X.B ≤ a → X.A a) (hs : va_X b L xs X.s X.H0) (hb : b < X.H0.size) (hn : ¬ X.A b) (v1 : vp_in (i + 1) L) (v2 : vp_in (i + 2) L) (v3 : vp_in (i + 3) L) (v4 : vp_in (i + 4) L) (v5 : vp_in (i + 5) L) (hR : Rel M1 M2) (hk : kc ≤ X.R.cells ∧ ks ≤ X.R.slots) (K : ∀ N1 N2, Rel N1 N2 → GoP X (PL X N1 N2) kc ks 1706 [some (.ref b), some (.ref (X.B + 0)), some (.ref (X.B + nC + 0)), some (.int i)] []) : GoP X (PL X M1 M2) kc ks 488 [some (.ref b), some (.ref (X.B + 0)), some (.ref (X.B + nC + 0)), some (.int i)] [] := by
  obtain ⟨N1, N2, r, e1, e2, hR2⟩ := eq_comes hR (xs (i + 1).toNatClampNeg) (xs (i + 2).toNatClampNeg) (xs (i + 3).toNatClampNeg)
  refine p_aload_n (i := 1) hX e_L_law_488 rfl rfl ?_
  refine p_aload_n (i := 0) hX e_L_law_489 rfl rfl ?_
  refine p_iload_n (i := 3) hX e_L_law_490 rfl rfl ?_
  refine p_iconst (v := 1) hX e_L_law_491 (by decide +kernel) ?_
  refine p_iadd hX e_L_law_492 ?_
  refine p_sld hX hs hb hn v1 e_L_law_493 ?_
  refine p_aload_n (i := 0) hX e_L_law_494 rfl rfl ?_
  refine p_iload_n (i := 3) hX e_L_law_495 rfl rfl ?_
  refine p_iconst (v := 2) hX e_L_law_496 (by decide +kernel) ?_
  refine p_iadd hX e_L_law_497 ?_
  refine p_sld hX hs hb hn v2 e_L_law_498 ?_
  refine p_aload_n (i := 0) hX e_L_law_499 rfl rfl ?_
  refine p_iload_n (i := 3) hX e_L_law_500 rfl rfl ?_
  refine p_iconst (v := 3) hX e_L_law_501 (by decide +kernel) ?_
  refine p_iadd hX e_L_law_502 ?_
  refine p_sld hX hs hb hn v3 e_L_law_503 ?_
  refine p_c1 (As := fun _ _ => [.int (xs (i + 1).toNatClampNeg), .int (xs (i + 2).toNatClampNeg), .int (xs (i + 3).toNatClampNeg)]) hX hA (t_X10_comes e1) e_L_law_504 cw_X10_comes cv_X10_comes wk_779 ⟨Nat.le_of_ble_eq_true rfl, Nat.le_of_ble_eq_true rfl⟩ (show cls[10]? = some (RX10, TX10, 10) from rfl) rfl (by decide) oC0 rfl rfl (Nat.le_of_ble_eq_true rfl) hk ?_
  refine p_aload_n (i := 2) hX e_L_law_507 rfl rfl ?_
  refine p_aload_n (i := 0) hX e_L_law_508 rfl rfl ?_
  refine p_iload_n (i := 3) hX e_L_law_509 rfl rfl ?_
  refine p_iconst (v := 1) hX e_L_law_510 (by decide +kernel) ?_
  refine p_iadd hX e_L_law_511 ?_
  refine p_sld hX hs hb hn v1 e_L_law_512 ?_
  refine p_aload_n (i := 0) hX e_L_law_513 rfl rfl ?_
  refine p_iload_n (i := 3) hX e_L_law_514 rfl rfl ?_
  refine p_iconst (v := 2) hX e_L_law_515 (by decide +kernel) ?_
  refine p_iadd hX e_L_law_516 ?_
  refine p_sld hX hs hb hn v2 e_L_law_517 ?_
  refine p_aload_n (i := 0) hX e_L_law_518 rfl rfl ?_
  refine p_iload_n (i := 3) hX e_L_law_519 rfl rfl ?_
  refine p_iconst (v := 3) hX e_L_law_520 (by decide +kernel) ?_
  refine p_iadd hX e_L_law_521 ?_
  refine p_sld hX hs hb hn v3 e_L_law_522 ?_
  refine p_c2 (As := fun _ _ => [.int (xs (i + 1).toNatClampNeg), .int (xs (i + 2).toNatClampNeg), .int (xs (i + 3).toNatClampNeg)]) hX hA (t_X11_comes e2) e_L_law_523 cw_X11_comes cv_X11_comes wk_1509 ⟨Nat.le_of_ble_eq_true rfl, Nat.le_of_ble_eq_true rfl⟩ (show cls[11]? = some (RX11, TX11, 54) from rfl) rfl (by decide) oR0 rfl rfl (Nat.le_of_ble_eq_true rfl) hk ?_
  exact p_icmp_eq hX e_L_law_526 (fun _ => K _ _ hR2) (fun h => absurd rfl h)
theorem lcs_9 {X : Cx} {b L : Nat} {xs : Nat → Int32} {i : Int32} {M1 M2 : Mem} {kc ks : Nat} (hX : OkX X code R_law 13 480) (hA : ∀ a, X.B ≤ a → X.A a) (hs : va_X b L xs X.s X.H0) (hb : b < X.H0.size) (hn : ¬ X.A b) (v1 : vp_in (i + 1) L) (v2 : vp_in (i + 2) L) (v3 : vp_in (i + 3) L) (v4 : vp_in (i + 4) L) (v5 : vp_in (i + 5) L) (hR : Rel M1 M2) (hk : kc ≤ X.R.cells ∧ ks ≤ X.R.slots) (K : ∀ N1 N2, Rel N1 N2 → GoP X (PL X N1 N2) kc ks 1706 [some (.ref b), some (.ref (X.B + 0)), some (.ref (X.B + nC + 0)), some (.int i)] []) : GoP X (PL X M1 M2) kc ks 531 [some (.ref b), some (.ref (X.B + 0)), some (.ref (X.B + nC + 0)), some (.int i)] [] := by
  obtain ⟨N1, N2, r, e1, e2, hR2⟩ := eq_there hR (xs (i + 1).toNatClampNeg) (xs (i + 2).toNatClampNeg) (xs (i + 3).toNatClampNeg)
  refine p_aload_n (i := 1) hX e_L_law_531 rfl rfl ?_
  refine p_aload_n (i := 0) hX e_L_law_532 rfl rfl ?_
  refine p_iload_n (i := 3) hX e_L_law_533 rfl rfl ?_
  refine p_iconst (v := 1) hX e_L_law_534 (by decide +kernel) ?_
  refine p_iadd hX e_L_law_535 ?_
  refine p_sld hX hs hb hn v1 e_L_law_536 ?_
  refine p_aload_n (i := 0) hX e_L_law_537 rfl rfl ?_
  refine p_iload_n (i := 3) hX e_L_law_538 rfl rfl ?_
  refine p_iconst (v := 2) hX e_L_law_539 (by decide +kernel) ?_
  refine p_iadd hX e_L_law_540 ?_
  refine p_sld hX hs hb hn v2 e_L_law_541 ?_
  refine p_aload_n (i := 0) hX e_L_law_542 rfl rfl ?_
  refine p_iload_n (i := 3) hX e_L_law_543 rfl rfl ?_
  refine p_iconst (v := 3) hX e_L_law_544 (by decide +kernel) ?_
  refine p_iadd hX e_L_law_545 ?_
  refine p_sld hX hs hb hn v3 e_L_law_546 ?_
  refine p_c1 (As := fun _ _ => [.int (xs (i + 1).toNatClampNeg), .int (xs (i + 2).toNatClampNeg), .int (xs (i + 3).toNatClampNeg)]) hX hA (t_X10_there e1) e_L_law_547 cw_X10_there cv_X10_there wk_787 ⟨Nat.le_of_ble_eq_true rfl, Nat.le_of_ble_eq_true rfl⟩ (show cls[10]? = some (RX10, TX10, 10) from rfl) rfl (by decide) oC0 rfl rfl (Nat.le_of_ble_eq_true rfl) hk ?_
  refine p_aload_n (i := 2) hX e_L_law_550 rfl rfl ?_
  refine p_aload_n (i := 0) hX e_L_law_551 rfl rfl ?_
  refine p_iload_n (i := 3) hX e_L_law_552 rfl rfl ?_
  refine p_iconst (v := 1) hX e_L_law_553 (by decide +kernel) ?_
  refine p_iadd hX e_L_law_554 ?_
  refine p_sld hX hs hb hn v1 e_L_law_555 ?_
  refine p_aload_n (i := 0) hX e_L_law_556 rfl rfl ?_
  refine p_iload_n (i := 3) hX e_L_law_557 rfl rfl ?_
  refine p_iconst (v := 2) hX e_L_law_558 (by decide +kernel) ?_
  refine p_iadd hX e_L_law_559 ?_
  refine p_sld hX hs hb hn v2 e_L_law_560 ?_
  refine p_aload_n (i := 0) hX e_L_law_561 rfl rfl ?_
  refine p_iload_n (i := 3) hX e_L_law_562 rfl rfl ?_
  refine p_iconst (v := 3) hX e_L_law_563 (by decide +kernel) ?_
  refine p_iadd hX e_L_law_564 ?_
  refine p_sld hX hs hb hn v3 e_L_law_565 ?_
  refine p_c2 (As := fun _ _ => [.int (xs (i + 1).toNatClampNeg), .int (xs (i + 2).toNatClampNeg), .int (xs (i + 3).toNatClampNeg)]) hX hA (t_X11_there e2) e_L_law_566 cw_X11_there cv_X11_there wk_1517 ⟨Nat.le_of_ble_eq_true rfl, Nat.le_of_ble_eq_true rfl⟩ (show cls[11]? = some (RX11, TX11, 54) from rfl) rfl (by decide) oR0 rfl rfl (Nat.le_of_ble_eq_true rfl) hk ?_
  exact p_icmp_eq hX e_L_law_569 (fun _ => K _ _ hR2) (fun h => absurd rfl h)
theorem lcs_10 {X : Cx} {b L : Nat} {xs : Nat → Int32} {i : Int32} {M1 M2 : Mem} {kc ks : Nat} (hX : OkX X code R_law 13 480) (hA : ∀ a, X.B ≤ a → X.A a) (hs : va_X b L xs X.s X.H0) (hb : b < X.H0.size) (hn : ¬ X.A b) (v1 : vp_in (i + 1) L) (v2 : vp_in (i + 2) L) (v3 : vp_in (i + 3) L) (v4 : vp_in (i + 4) L) (v5 : vp_in (i + 5) L) (hR : Rel M1 M2) (hk : kc ≤ X.R.cells ∧ ks ≤ X.R.slots) (K : ∀ N1 N2, Rel N1 N2 → GoP X (PL X N1 N2) kc ks 1706 [some (.ref b), some (.ref (X.B + 0)), some (.ref (X.B + nC + 0)), some (.int i)] []) : GoP X (PL X M1 M2) kc ks 574 [some (.ref b), some (.ref (X.B + 0)), some (.ref (X.B + nC + 0)), some (.int i)] [] := by
  obtain ⟨N1, N2, r, e1, e2, hR2⟩ := eq_face hR (xs (i + 1).toNatClampNeg) (xs (i + 2).toNatClampNeg) (xs (i + 3).toNatClampNeg)
  refine p_aload_n (i := 1) hX e_L_law_574 rfl rfl ?_
  refine p_aload_n (i := 0) hX e_L_law_575 rfl rfl ?_
  refine p_iload_n (i := 3) hX e_L_law_576 rfl rfl ?_
  refine p_iconst (v := 1) hX e_L_law_577 (by decide +kernel) ?_
  refine p_iadd hX e_L_law_578 ?_
  refine p_sld hX hs hb hn v1 e_L_law_579 ?_
  refine p_aload_n (i := 0) hX e_L_law_580 rfl rfl ?_
  refine p_iload_n (i := 3) hX e_L_law_581 rfl rfl ?_
  refine p_iconst (v := 2) hX e_L_law_582 (by decide +kernel) ?_
  refine p_iadd hX e_L_law_583 ?_
  refine p_sld hX hs hb hn v2 e_L_law_584 ?_
  refine p_aload_n (i := 0) hX e_L_law_585 rfl rfl ?_
  refine p_iload_n (i := 3) hX e_L_law_586 rfl rfl ?_
  refine p_iconst (v := 3) hX e_L_law_587 (by decide +kernel) ?_
  refine p_iadd hX e_L_law_588 ?_
  refine p_sld hX hs hb hn v3 e_L_law_589 ?_
  refine p_c1 (As := fun _ _ => [.int (xs (i + 1).toNatClampNeg), .int (xs (i + 2).toNatClampNeg), .int (xs (i + 3).toNatClampNeg)]) hX hA (t_X10_face e1) e_L_law_590 cw_X10_face cv_X10_face wk_795 ⟨Nat.le_of_ble_eq_true rfl, Nat.le_of_ble_eq_true rfl⟩ (show cls[10]? = some (RX10, TX10, 10) from rfl) rfl (by decide) oC0 rfl rfl (Nat.le_of_ble_eq_true rfl) hk ?_
  refine p_aload_n (i := 2) hX e_L_law_593 rfl rfl ?_
  refine p_aload_n (i := 0) hX e_L_law_594 rfl rfl ?_
  refine p_iload_n (i := 3) hX e_L_law_595 rfl rfl ?_
  refine p_iconst (v := 1) hX e_L_law_596 (by decide +kernel) ?_
  refine p_iadd hX e_L_law_597 ?_
  refine p_sld hX hs hb hn v1 e_L_law_598 ?_
  refine p_aload_n (i := 0) hX e_L_law_599 rfl rfl ?_
  refine p_iload_n (i := 3) hX e_L_law_600 rfl rfl ?_
  refine p_iconst (v := 2) hX e_L_law_601 (by decide +kernel) ?_
  refine p_iadd hX e_L_law_602 ?_
  refine p_sld hX hs hb hn v2 e_L_law_603 ?_
  refine p_aload_n (i := 0) hX e_L_law_604 rfl rfl ?_
  refine p_iload_n (i := 3) hX e_L_law_605 rfl rfl ?_
  refine p_iconst (v := 3) hX e_L_law_606 (by decide +kernel) ?_
  refine p_iadd hX e_L_law_607 ?_
  refine p_sld hX hs hb hn v3 e_L_law_608 ?_
  refine p_c2 (As := fun _ _ => [.int (xs (i + 1).toNatClampNeg), .int (xs (i + 2).toNatClampNeg), .int (xs (i + 3).toNatClampNeg)]) hX hA (t_X11_face e2) e_L_law_609 cw_X11_face cv_X11_face wk_1525 ⟨Nat.le_of_ble_eq_true rfl, Nat.le_of_ble_eq_true rfl⟩ (show cls[11]? = some (RX11, TX11, 54) from rfl) rfl (by decide) oR0 rfl rfl (Nat.le_of_ble_eq_true rfl) hk ?_
  exact p_icmp_eq hX e_L_law_612 (fun _ => K _ _ hR2) (fun h => absurd rfl h)
theorem lcs_11 {X : Cx} {b L : Nat} {xs : Nat → Int32} {i : Int32} {M1 M2 : Mem} {kc ks : Nat} (hX : OkX X code R_law 13 480) (hA : ∀ a, X.B ≤ a → X.A a) (hs : va_X b L xs X.s X.H0) (hb : b < X.H0.size) (hn : ¬ X.A b) (v1 : vp_in (i + 1) L) (v2 : vp_in (i + 2) L) (v3 : vp_in (i + 3) L) (v4 : vp_in (i + 4) L) (v5 : vp_in (i + 5) L) (hR : Rel M1 M2) (hk : kc ≤ X.R.cells ∧ ks ≤ X.R.slots) (K : ∀ N1 N2, Rel N1 N2 → GoP X (PL X N1 N2) kc ks 1706 [some (.ref b), some (.ref (X.B + 0)), some (.ref (X.B + nC + 0)), some (.int i)] []) : GoP X (PL X M1 M2) kc ks 617 [some (.ref b), some (.ref (X.B + 0)), some (.ref (X.B + nC + 0)), some (.int i)] [] := by
  obtain ⟨N1, N2, r, e1, e2, hR2⟩ := eq_often hR (xs (i + 1).toNatClampNeg) (xs (i + 2).toNatClampNeg)
  refine p_aload_n (i := 1) hX e_L_law_617 rfl rfl ?_
  refine p_aload_n (i := 0) hX e_L_law_618 rfl rfl ?_
  refine p_iload_n (i := 3) hX e_L_law_619 rfl rfl ?_
  refine p_iconst (v := 1) hX e_L_law_620 (by decide +kernel) ?_
  refine p_iadd hX e_L_law_621 ?_
  refine p_sld hX hs hb hn v1 e_L_law_622 ?_
  refine p_aload_n (i := 0) hX e_L_law_623 rfl rfl ?_
  refine p_iload_n (i := 3) hX e_L_law_624 rfl rfl ?_
  refine p_iconst (v := 2) hX e_L_law_625 (by decide +kernel) ?_
  refine p_iadd hX e_L_law_626 ?_
  refine p_sld hX hs hb hn v2 e_L_law_627 ?_
  refine p_c1 (As := fun _ _ => [.int (xs (i + 1).toNatClampNeg), .int (xs (i + 2).toNatClampNeg)]) hX hA (t_X10_often e1) e_L_law_628 cw_X10_often cv_X10_often wk_803 ⟨Nat.le_of_ble_eq_true rfl, Nat.le_of_ble_eq_true rfl⟩ (show cls[10]? = some (RX10, TX10, 10) from rfl) rfl (by decide) oC0 rfl rfl (Nat.le_of_ble_eq_true rfl) hk ?_
  refine p_aload_n (i := 2) hX e_L_law_631 rfl rfl ?_
  refine p_aload_n (i := 0) hX e_L_law_632 rfl rfl ?_
  refine p_iload_n (i := 3) hX e_L_law_633 rfl rfl ?_
  refine p_iconst (v := 1) hX e_L_law_634 (by decide +kernel) ?_
  refine p_iadd hX e_L_law_635 ?_
  refine p_sld hX hs hb hn v1 e_L_law_636 ?_
  refine p_aload_n (i := 0) hX e_L_law_637 rfl rfl ?_
  refine p_iload_n (i := 3) hX e_L_law_638 rfl rfl ?_
  refine p_iconst (v := 2) hX e_L_law_639 (by decide +kernel) ?_
  refine p_iadd hX e_L_law_640 ?_
  refine p_sld hX hs hb hn v2 e_L_law_641 ?_
  refine p_c2 (As := fun _ _ => [.int (xs (i + 1).toNatClampNeg), .int (xs (i + 2).toNatClampNeg)]) hX hA (t_X11_often e2) e_L_law_642 cw_X11_often cv_X11_often wk_1529 ⟨Nat.le_of_ble_eq_true rfl, Nat.le_of_ble_eq_true rfl⟩ (show cls[11]? = some (RX11, TX11, 54) from rfl) rfl (by decide) oR0 rfl rfl (Nat.le_of_ble_eq_true rfl) hk ?_
  exact p_icmp_eq hX e_L_law_645 (fun _ => K _ _ hR2) (fun h => absurd rfl h)
theorem lcs_12 {X : Cx} {b L : Nat} {xs : Nat → Int32} {i : Int32} {M1 M2 : Mem} {kc ks : Nat} (hX : OkX X code R_law 13 480) (hA : ∀ a, X.B ≤ a → X.A a) (hs : va_X b L xs X.s X.H0) (hb : b < X.H0.size) (hn : ¬ X.A b) (v1 : vp_in (i + 1) L) (v2 : vp_in (i + 2) L) (v3 : vp_in (i + 3) L) (v4 : vp_in (i + 4) L) (v5 : vp_in (i + 5) L) (hR : Rel M1 M2) (hk : kc ≤ X.R.cells ∧ ks ≤ X.R.slots) (K : ∀ N1 N2, Rel N1 N2 → GoP X (PL X N1 N2) kc ks 1706 [some (.ref b), some (.ref (X.B + 0)), some (.ref (X.B + nC + 0)), some (.int i)] []) : GoP X (PL X M1 M2) kc ks 650 [some (.ref b), some (.ref (X.B + 0)), some (.ref (X.B + nC + 0)), some (.int i)] [] := by
  obtain ⟨N1, N2, r, e1, e2, hR2⟩ := eq_asks hR (xs (i + 1).toNatClampNeg) (xs (i + 2).toNatClampNeg)
  refine p_aload_n (i := 1) hX e_L_law_650 rfl rfl ?_
  refine p_aload_n (i := 0) hX e_L_law_651 rfl rfl ?_
  refine p_iload_n (i := 3) hX e_L_law_652 rfl rfl ?_
  refine p_iconst (v := 1) hX e_L_law_653 (by decide +kernel) ?_
  refine p_iadd hX e_L_law_654 ?_
  refine p_sld hX hs hb hn v1 e_L_law_655 ?_
  refine p_aload_n (i := 0) hX e_L_law_656 rfl rfl ?_
  refine p_iload_n (i := 3) hX e_L_law_657 rfl rfl ?_
  refine p_iconst (v := 2) hX e_L_law_658 (by decide +kernel) ?_
  refine p_iadd hX e_L_law_659 ?_
  refine p_sld hX hs hb hn v2 e_L_law_660 ?_
  refine p_c1 (As := fun _ _ => [.int (xs (i + 1).toNatClampNeg), .int (xs (i + 2).toNatClampNeg)]) hX hA (t_X10_asks e1) e_L_law_661 cw_X10_asks cv_X10_asks wk_807 ⟨Nat.le_of_ble_eq_true rfl, Nat.le_of_ble_eq_true rfl⟩ (show cls[10]? = some (RX10, TX10, 10) from rfl) rfl (by decide) oC0 rfl rfl (Nat.le_of_ble_eq_true rfl) hk ?_
  refine p_aload_n (i := 2) hX e_L_law_664 rfl rfl ?_
  refine p_aload_n (i := 0) hX e_L_law_665 rfl rfl ?_
  refine p_iload_n (i := 3) hX e_L_law_666 rfl rfl ?_
  refine p_iconst (v := 1) hX e_L_law_667 (by decide +kernel) ?_
  refine p_iadd hX e_L_law_668 ?_
  refine p_sld hX hs hb hn v1 e_L_law_669 ?_
  refine p_aload_n (i := 0) hX e_L_law_670 rfl rfl ?_
  refine p_iload_n (i := 3) hX e_L_law_671 rfl rfl ?_
  refine p_iconst (v := 2) hX e_L_law_672 (by decide +kernel) ?_
  refine p_iadd hX e_L_law_673 ?_
  refine p_sld hX hs hb hn v2 e_L_law_674 ?_
  refine p_c2 (As := fun _ _ => [.int (xs (i + 1).toNatClampNeg), .int (xs (i + 2).toNatClampNeg)]) hX hA (t_X11_asks_ e2) e_L_law_675 cw_X11_asks_ cv_X11_asks_ wk_1533 ⟨Nat.le_of_ble_eq_true rfl, Nat.le_of_ble_eq_true rfl⟩ (show cls[11]? = some (RX11, TX11, 54) from rfl) rfl (by decide) oR0 rfl rfl (Nat.le_of_ble_eq_true rfl) hk ?_
  exact p_icmp_eq hX e_L_law_678 (fun _ => K _ _ hR2) (fun h => absurd rfl h)
theorem lcs_13 {X : Cx} {b L : Nat} {xs : Nat → Int32} {i : Int32} {M1 M2 : Mem} {kc ks : Nat} (hX : OkX X code R_law 13 480) (hA : ∀ a, X.B ≤ a → X.A a) (hs : va_X b L xs X.s X.H0) (hb : b < X.H0.size) (hn : ¬ X.A b) (v1 : vp_in (i + 1) L) (v2 : vp_in (i + 2) L) (v3 : vp_in (i + 3) L) (v4 : vp_in (i + 4) L) (v5 : vp_in (i + 5) L) (hR : Rel M1 M2) (hk : kc ≤ X.R.cells ∧ ks ≤ X.R.slots) (K : ∀ N1 N2, Rel N1 N2 → GoP X (PL X N1 N2) kc ks 1706 [some (.ref b), some (.ref (X.B + 0)), some (.ref (X.B + nC + 0)), some (.int i)] []) : GoP X (PL X M1 M2) kc ks 683 [some (.ref b), some (.ref (X.B + 0)), some (.ref (X.B + nC + 0)), some (.int i)] [] := by
  obtain ⟨N1, N2, r, e1, e2, hR2⟩ := eq_has hR (xs (i + 1).toNatClampNeg) (xs (i + 2).toNatClampNeg)
  refine p_aload_n (i := 1) hX e_L_law_683 rfl rfl ?_
  refine p_aload_n (i := 0) hX e_L_law_684 rfl rfl ?_
  refine p_iload_n (i := 3) hX e_L_law_685 rfl rfl ?_
  refine p_iconst (v := 1) hX e_L_law_686 (by decide +kernel) ?_
  refine p_iadd hX e_L_law_687 ?_
  refine p_sld hX hs hb hn v1 e_L_law_688 ?_
  refine p_aload_n (i := 0) hX e_L_law_689 rfl rfl ?_
  refine p_iload_n (i := 3) hX e_L_law_690 rfl rfl ?_
  refine p_iconst (v := 2) hX e_L_law_691 (by decide +kernel) ?_
  refine p_iadd hX e_L_law_692 ?_
  refine p_sld hX hs hb hn v2 e_L_law_693 ?_
  refine p_c1 (As := fun _ _ => [.int (xs (i + 1).toNatClampNeg), .int (xs (i + 2).toNatClampNeg)]) hX hA (t_X10_has e1) e_L_law_694 cw_X10_has cv_X10_has wk_811 ⟨Nat.le_of_ble_eq_true rfl, Nat.le_of_ble_eq_true rfl⟩ (show cls[10]? = some (RX10, TX10, 10) from rfl) rfl (by decide) oC0 rfl rfl (Nat.le_of_ble_eq_true rfl) hk ?_
  refine p_aload_n (i := 2) hX e_L_law_697 rfl rfl ?_
  refine p_aload_n (i := 0) hX e_L_law_698 rfl rfl ?_
  refine p_iload_n (i := 3) hX e_L_law_699 rfl rfl ?_
  refine p_iconst (v := 1) hX e_L_law_700 (by decide +kernel) ?_
  refine p_iadd hX e_L_law_701 ?_
  refine p_sld hX hs hb hn v1 e_L_law_702 ?_
  refine p_aload_n (i := 0) hX e_L_law_703 rfl rfl ?_
  refine p_iload_n (i := 3) hX e_L_law_704 rfl rfl ?_
  refine p_iconst (v := 2) hX e_L_law_705 (by decide +kernel) ?_
  refine p_iadd hX e_L_law_706 ?_
  refine p_sld hX hs hb hn v2 e_L_law_707 ?_
  refine p_c2 (As := fun _ _ => [.int (xs (i + 1).toNatClampNeg), .int (xs (i + 2).toNatClampNeg)]) hX hA (t_X11_has e2) e_L_law_708 cw_X11_has cv_X11_has wk_1573 ⟨Nat.le_of_ble_eq_true rfl, Nat.le_of_ble_eq_true rfl⟩ (show cls[11]? = some (RX11, TX11, 54) from rfl) rfl (by decide) oR0 rfl rfl (Nat.le_of_ble_eq_true rfl) hk ?_
  exact p_icmp_eq hX e_L_law_711 (fun _ => K _ _ hR2) (fun h => absurd rfl h)
theorem lcs_14 {X : Cx} {b L : Nat} {xs : Nat → Int32} {i : Int32} {M1 M2 : Mem} {kc ks : Nat} (hX : OkX X code R_law 13 480) (hA : ∀ a, X.B ≤ a → X.A a) (hs : va_X b L xs X.s X.H0) (hb : b < X.H0.size) (hn : ¬ X.A b) (v1 : vp_in (i + 1) L) (v2 : vp_in (i + 2) L) (v3 : vp_in (i + 3) L) (v4 : vp_in (i + 4) L) (v5 : vp_in (i + 5) L) (hR : Rel M1 M2) (hk : kc ≤ X.R.cells ∧ ks ≤ X.R.slots) (K : ∀ N1 N2, Rel N1 N2 → GoP X (PL X N1 N2) kc ks 1706 [some (.ref b), some (.ref (X.B + 0)), some (.ref (X.B + nC + 0)), some (.int i)] []) : GoP X (PL X M1 M2) kc ks 716 [some (.ref b), some (.ref (X.B + 0)), some (.ref (X.B + nC + 0)), some (.int i)] [] := by
  obtain ⟨N1, N2, r, e1, e2, hR2⟩ := eq_sold hR (xs (i + 1).toNatClampNeg) (xs (i + 2).toNatClampNeg)
  refine p_aload_n (i := 1) hX e_L_law_716 rfl rfl ?_
  refine p_aload_n (i := 0) hX e_L_law_717 rfl rfl ?_
  refine p_iload_n (i := 3) hX e_L_law_718 rfl rfl ?_
  refine p_iconst (v := 1) hX e_L_law_719 (by decide +kernel) ?_
  refine p_iadd hX e_L_law_720 ?_
  refine p_sld hX hs hb hn v1 e_L_law_721 ?_
  refine p_aload_n (i := 0) hX e_L_law_722 rfl rfl ?_
  refine p_iload_n (i := 3) hX e_L_law_723 rfl rfl ?_
  refine p_iconst (v := 2) hX e_L_law_724 (by decide +kernel) ?_
  refine p_iadd hX e_L_law_725 ?_
  refine p_sld hX hs hb hn v2 e_L_law_726 ?_
  refine p_c1 (As := fun _ _ => [.int (xs (i + 1).toNatClampNeg), .int (xs (i + 2).toNatClampNeg)]) hX hA (t_X10_sold e1) e_L_law_727 cw_X10_sold cv_X10_sold wk_815 ⟨Nat.le_of_ble_eq_true rfl, Nat.le_of_ble_eq_true rfl⟩ (show cls[10]? = some (RX10, TX10, 10) from rfl) rfl (by decide) oC0 rfl rfl (Nat.le_of_ble_eq_true rfl) hk ?_
  refine p_aload_n (i := 2) hX e_L_law_730 rfl rfl ?_
  refine p_aload_n (i := 0) hX e_L_law_731 rfl rfl ?_
  refine p_iload_n (i := 3) hX e_L_law_732 rfl rfl ?_
  refine p_iconst (v := 1) hX e_L_law_733 (by decide +kernel) ?_
  refine p_iadd hX e_L_law_734 ?_
  refine p_sld hX hs hb hn v1 e_L_law_735 ?_
  refine p_aload_n (i := 0) hX e_L_law_736 rfl rfl ?_
  refine p_iload_n (i := 3) hX e_L_law_737 rfl rfl ?_
  refine p_iconst (v := 2) hX e_L_law_738 (by decide +kernel) ?_
  refine p_iadd hX e_L_law_739 ?_
  refine p_sld hX hs hb hn v2 e_L_law_740 ?_
  refine p_c2 (As := fun _ _ => [.int (xs (i + 1).toNatClampNeg), .int (xs (i + 2).toNatClampNeg)]) hX hA (t_X11_sold e2) e_L_law_741 cw_X11_sold cv_X11_sold wk_1577 ⟨Nat.le_of_ble_eq_true rfl, Nat.le_of_ble_eq_true rfl⟩ (show cls[11]? = some (RX11, TX11, 54) from rfl) rfl (by decide) oR0 rfl rfl (Nat.le_of_ble_eq_true rfl) hk ?_
  exact p_icmp_eq hX e_L_law_744 (fun _ => K _ _ hR2) (fun h => absurd rfl h)
theorem lcs_15 {X : Cx} {b L : Nat} {xs : Nat → Int32} {i : Int32} {M1 M2 : Mem} {kc ks : Nat} (hX : OkX X code R_law 13 480) (hA : ∀ a, X.B ≤ a → X.A a) (hs : va_X b L xs X.s X.H0) (hb : b < X.H0.size) (hn : ¬ X.A b) (v1 : vp_in (i + 1) L) (v2 : vp_in (i + 2) L) (v3 : vp_in (i + 3) L) (v4 : vp_in (i + 4) L) (v5 : vp_in (i + 5) L) (hR : Rel M1 M2) (hk : kc ≤ X.R.cells ∧ ks ≤ X.R.slots) (K : ∀ N1 N2, Rel N1 N2 → GoP X (PL X N1 N2) kc ks 1706 [some (.ref b), some (.ref (X.B + 0)), some (.ref (X.B + nC + 0)), some (.int i)] []) : GoP X (PL X M1 M2) kc ks 749 [some (.ref b), some (.ref (X.B + 0)), some (.ref (X.B + nC + 0)), some (.int i)] [] := by
  obtain ⟨N1, N2, r, e1, e2, hR2⟩ := eq_bought hR (xs (i + 1).toNatClampNeg) (xs (i + 2).toNatClampNeg)
  refine p_aload_n (i := 1) hX e_L_law_749 rfl rfl ?_
  refine p_aload_n (i := 0) hX e_L_law_750 rfl rfl ?_
  refine p_iload_n (i := 3) hX e_L_law_751 rfl rfl ?_
  refine p_iconst (v := 1) hX e_L_law_752 (by decide +kernel) ?_
  refine p_iadd hX e_L_law_753 ?_
  refine p_sld hX hs hb hn v1 e_L_law_754 ?_
  refine p_aload_n (i := 0) hX e_L_law_755 rfl rfl ?_
  refine p_iload_n (i := 3) hX e_L_law_756 rfl rfl ?_
  refine p_iconst (v := 2) hX e_L_law_757 (by decide +kernel) ?_
  refine p_iadd hX e_L_law_758 ?_
  refine p_sld hX hs hb hn v2 e_L_law_759 ?_
  refine p_c1 (As := fun _ _ => [.int (xs (i + 1).toNatClampNeg), .int (xs (i + 2).toNatClampNeg)]) hX hA (t_X10_bought e1) e_L_law_760 cw_X10_bought cv_X10_bought wk_831 ⟨Nat.le_of_ble_eq_true rfl, Nat.le_of_ble_eq_true rfl⟩ (show cls[10]? = some (RX10, TX10, 10) from rfl) rfl (by decide) oC0 rfl rfl (Nat.le_of_ble_eq_true rfl) hk ?_
  refine p_aload_n (i := 2) hX e_L_law_763 rfl rfl ?_
  refine p_aload_n (i := 0) hX e_L_law_764 rfl rfl ?_
  refine p_iload_n (i := 3) hX e_L_law_765 rfl rfl ?_
  refine p_iconst (v := 1) hX e_L_law_766 (by decide +kernel) ?_
  refine p_iadd hX e_L_law_767 ?_
  refine p_sld hX hs hb hn v1 e_L_law_768 ?_
  refine p_aload_n (i := 0) hX e_L_law_769 rfl rfl ?_
  refine p_iload_n (i := 3) hX e_L_law_770 rfl rfl ?_
  refine p_iconst (v := 2) hX e_L_law_771 (by decide +kernel) ?_
  refine p_iadd hX e_L_law_772 ?_
  refine p_sld hX hs hb hn v2 e_L_law_773 ?_
  refine p_c2 (As := fun _ _ => [.int (xs (i + 1).toNatClampNeg), .int (xs (i + 2).toNatClampNeg)]) hX hA (t_X11_bought e2) e_L_law_774 cw_X11_bought cv_X11_bought wk_1581 ⟨Nat.le_of_ble_eq_true rfl, Nat.le_of_ble_eq_true rfl⟩ (show cls[11]? = some (RX11, TX11, 54) from rfl) rfl (by decide) oR0 rfl rfl (Nat.le_of_ble_eq_true rfl) hk ?_
  exact p_icmp_eq hX e_L_law_777 (fun _ => K _ _ hR2) (fun h => absurd rfl h)
theorem lcs_16 {X : Cx} {b L : Nat} {xs : Nat → Int32} {i : Int32} {M1 M2 : Mem} {kc ks : Nat} (hX : OkX X code R_law 13 480) (hA : ∀ a, X.B ≤ a → X.A a) (hs : va_X b L xs X.s X.H0) (hb : b < X.H0.size) (hn : ¬ X.A b) (v1 : vp_in (i + 1) L) (v2 : vp_in (i + 2) L) (v3 : vp_in (i + 3) L) (v4 : vp_in (i + 4) L) (v5 : vp_in (i + 5) L) (hR : Rel M1 M2) (hk : kc ≤ X.R.cells ∧ ks ≤ X.R.slots) (K : ∀ N1 N2, Rel N1 N2 → GoP X (PL X N1 N2) kc ks 1706 [some (.ref b), some (.ref (X.B + 0)), some (.ref (X.B + nC + 0)), some (.int i)] []) : GoP X (PL X M1 M2) kc ks 782 [some (.ref b), some (.ref (X.B + 0)), some (.ref (X.B + nC + 0)), some (.int i)] [] := by
  obtain ⟨N1, N2, r, e1, e2, hR2⟩ := eq_coins hR (xs (i + 1).toNatClampNeg) (xs (i + 2).toNatClampNeg)
  refine p_aload_n (i := 1) hX e_L_law_782 rfl rfl ?_
  refine p_aload_n (i := 0) hX e_L_law_783 rfl rfl ?_
  refine p_iload_n (i := 3) hX e_L_law_784 rfl rfl ?_
  refine p_iconst (v := 1) hX e_L_law_785 (by decide +kernel) ?_
  refine p_iadd hX e_L_law_786 ?_
  refine p_sld hX hs hb hn v1 e_L_law_787 ?_
  refine p_aload_n (i := 0) hX e_L_law_788 rfl rfl ?_
  refine p_iload_n (i := 3) hX e_L_law_789 rfl rfl ?_
  refine p_iconst (v := 2) hX e_L_law_790 (by decide +kernel) ?_
  refine p_iadd hX e_L_law_791 ?_
  refine p_sld hX hs hb hn v2 e_L_law_792 ?_
  refine p_c1 (As := fun _ _ => [.int (xs (i + 1).toNatClampNeg), .int (xs (i + 2).toNatClampNeg)]) hX hA (t_X10_coins e1) e_L_law_793 cw_X10_coins cv_X10_coins wk_844 ⟨Nat.le_of_ble_eq_true rfl, Nat.le_of_ble_eq_true rfl⟩ (show cls[10]? = some (RX10, TX10, 10) from rfl) rfl (by decide) oC0 rfl rfl (Nat.le_of_ble_eq_true rfl) hk ?_
  refine p_aload_n (i := 2) hX e_L_law_796 rfl rfl ?_
  refine p_aload_n (i := 0) hX e_L_law_797 rfl rfl ?_
  refine p_iload_n (i := 3) hX e_L_law_798 rfl rfl ?_
  refine p_iconst (v := 1) hX e_L_law_799 (by decide +kernel) ?_
  refine p_iadd hX e_L_law_800 ?_
  refine p_sld hX hs hb hn v1 e_L_law_801 ?_
  refine p_aload_n (i := 0) hX e_L_law_802 rfl rfl ?_
  refine p_iload_n (i := 3) hX e_L_law_803 rfl rfl ?_
  refine p_iconst (v := 2) hX e_L_law_804 (by decide +kernel) ?_
  refine p_iadd hX e_L_law_805 ?_
  refine p_sld hX hs hb hn v2 e_L_law_806 ?_
  refine p_c2 (As := fun _ _ => [.int (xs (i + 1).toNatClampNeg), .int (xs (i + 2).toNatClampNeg)]) hX hA (t_X11_coins e2) e_L_law_807 cw_X11_coins cv_X11_coins wk_1585 ⟨Nat.le_of_ble_eq_true rfl, Nat.le_of_ble_eq_true rfl⟩ (show cls[11]? = some (RX11, TX11, 54) from rfl) rfl (by decide) oR0 rfl rfl (Nat.le_of_ble_eq_true rfl) hk ?_
  exact p_icmp_eq hX e_L_law_810 (fun _ => K _ _ hR2) (fun h => absurd rfl h)
theorem lcs_17 {X : Cx} {b L : Nat} {xs : Nat → Int32} {i : Int32} {M1 M2 : Mem} {kc ks : Nat} (hX : OkX X code R_law 13 480) (hA : ∀ a, X.B ≤ a → X.A a) (hs : va_X b L xs X.s X.H0) (hb : b < X.H0.size) (hn : ¬ X.A b) (v1 : vp_in (i + 1) L) (v2 : vp_in (i + 2) L) (v3 : vp_in (i + 3) L) (v4 : vp_in (i + 4) L) (v5 : vp_in (i + 5) L) (hR : Rel M1 M2) (hk : kc ≤ X.R.cells ∧ ks ≤ X.R.slots) (K : ∀ N1 N2, Rel N1 N2 → GoP X (PL X N1 N2) kc ks 1706 [some (.ref b), some (.ref (X.B + 0)), some (.ref (X.B + nC + 0)), some (.int i)] []) : GoP X (PL X M1 M2) kc ks 815 [some (.ref b), some (.ref (X.B + 0)), some (.ref (X.B + nC + 0)), some (.int i)] [] := by
  obtain ⟨N1, N2, r, e1, e2, hR2⟩ := eq_sale hR (xs (i + 1).toNatClampNeg) (xs (i + 2).toNatClampNeg)
  refine p_aload_n (i := 1) hX e_L_law_815 rfl rfl ?_
  refine p_aload_n (i := 0) hX e_L_law_816 rfl rfl ?_
  refine p_iload_n (i := 3) hX e_L_law_817 rfl rfl ?_
  refine p_iconst (v := 1) hX e_L_law_818 (by decide +kernel) ?_
  refine p_iadd hX e_L_law_819 ?_
  refine p_sld hX hs hb hn v1 e_L_law_820 ?_
  refine p_aload_n (i := 0) hX e_L_law_821 rfl rfl ?_
  refine p_iload_n (i := 3) hX e_L_law_822 rfl rfl ?_
  refine p_iconst (v := 2) hX e_L_law_823 (by decide +kernel) ?_
  refine p_iadd hX e_L_law_824 ?_
  refine p_sld hX hs hb hn v2 e_L_law_825 ?_
  refine p_c1 (As := fun _ _ => [.int (xs (i + 1).toNatClampNeg), .int (xs (i + 2).toNatClampNeg)]) hX hA (t_X10_sale e1) e_L_law_826 cw_X10_sale cv_X10_sale wk_848 ⟨Nat.le_of_ble_eq_true rfl, Nat.le_of_ble_eq_true rfl⟩ (show cls[10]? = some (RX10, TX10, 10) from rfl) rfl (by decide) oC0 rfl rfl (Nat.le_of_ble_eq_true rfl) hk ?_
  refine p_aload_n (i := 2) hX e_L_law_829 rfl rfl ?_
  refine p_aload_n (i := 0) hX e_L_law_830 rfl rfl ?_
  refine p_iload_n (i := 3) hX e_L_law_831 rfl rfl ?_
  refine p_iconst (v := 1) hX e_L_law_832 (by decide +kernel) ?_
  refine p_iadd hX e_L_law_833 ?_
  refine p_sld hX hs hb hn v1 e_L_law_834 ?_
  refine p_aload_n (i := 0) hX e_L_law_835 rfl rfl ?_
  refine p_iload_n (i := 3) hX e_L_law_836 rfl rfl ?_
  refine p_iconst (v := 2) hX e_L_law_837 (by decide +kernel) ?_
  refine p_iadd hX e_L_law_838 ?_
  refine p_sld hX hs hb hn v2 e_L_law_839 ?_
  refine p_c2 (As := fun _ _ => [.int (xs (i + 1).toNatClampNeg), .int (xs (i + 2).toNatClampNeg)]) hX hA (t_X11_sale e2) e_L_law_840 cw_X11_sale cv_X11_sale wk_1589 ⟨Nat.le_of_ble_eq_true rfl, Nat.le_of_ble_eq_true rfl⟩ (show cls[11]? = some (RX11, TX11, 54) from rfl) rfl (by decide) oR0 rfl rfl (Nat.le_of_ble_eq_true rfl) hk ?_
  exact p_icmp_eq hX e_L_law_843 (fun _ => K _ _ hR2) (fun h => absurd rfl h)
theorem lcs_18 {X : Cx} {b L : Nat} {xs : Nat → Int32} {i : Int32} {M1 M2 : Mem} {kc ks : Nat} (hX : OkX X code R_law 13 480) (hA : ∀ a, X.B ≤ a → X.A a) (hs : va_X b L xs X.s X.H0) (hb : b < X.H0.size) (hn : ¬ X.A b) (v1 : vp_in (i + 1) L) (v2 : vp_in (i + 2) L) (v3 : vp_in (i + 3) L) (v4 : vp_in (i + 4) L) (v5 : vp_in (i + 5) L) (hR : Rel M1 M2) (hk : kc ≤ X.R.cells ∧ ks ≤ X.R.slots) (K : ∀ N1 N2, Rel N1 N2 → GoP X (PL X N1 N2) kc ks 1706 [some (.ref b), some (.ref (X.B + 0)), some (.ref (X.B + nC + 0)), some (.int i)] []) : GoP X (PL X M1 M2) kc ks 848 [some (.ref b), some (.ref (X.B + 0)), some (.ref (X.B + nC + 0)), some (.int i)] [] := by
  obtain ⟨N1, N2, r, e1, e2, hR2⟩ := eq_all hR (xs (i + 1).toNatClampNeg)
  refine p_aload_n (i := 1) hX e_L_law_848 rfl rfl ?_
  refine p_aload_n (i := 0) hX e_L_law_849 rfl rfl ?_
  refine p_iload_n (i := 3) hX e_L_law_850 rfl rfl ?_
  refine p_iconst (v := 1) hX e_L_law_851 (by decide +kernel) ?_
  refine p_iadd hX e_L_law_852 ?_
  refine p_sld hX hs hb hn v1 e_L_law_853 ?_
  refine p_c1 (As := fun _ _ => [.int (xs (i + 1).toNatClampNeg)]) hX hA (t_X10_all e1) e_L_law_854 cw_X10_all cv_X10_all wk_856 ⟨Nat.le_of_ble_eq_true rfl, Nat.le_of_ble_eq_true rfl⟩ (show cls[10]? = some (RX10, TX10, 10) from rfl) rfl (by decide) oC0 rfl rfl (Nat.le_of_ble_eq_true rfl) hk ?_
  refine p_aload_n (i := 2) hX e_L_law_857 rfl rfl ?_
  refine p_aload_n (i := 0) hX e_L_law_858 rfl rfl ?_
  refine p_iload_n (i := 3) hX e_L_law_859 rfl rfl ?_
  refine p_iconst (v := 1) hX e_L_law_860 (by decide +kernel) ?_
  refine p_iadd hX e_L_law_861 ?_
  refine p_sld hX hs hb hn v1 e_L_law_862 ?_
  refine p_c2 (As := fun _ _ => [.int (xs (i + 1).toNatClampNeg)]) hX hA (t_X11_all e2) e_L_law_863 cw_X11_all cv_X11_all wk_1597 ⟨Nat.le_of_ble_eq_true rfl, Nat.le_of_ble_eq_true rfl⟩ (show cls[11]? = some (RX11, TX11, 54) from rfl) rfl (by decide) oR0 rfl rfl (Nat.le_of_ble_eq_true rfl) hk ?_
  exact p_icmp_eq hX e_L_law_866 (fun _ => K _ _ hR2) (fun h => absurd rfl h)
theorem lcs_19 {X : Cx} {b L : Nat} {xs : Nat → Int32} {i : Int32} {M1 M2 : Mem} {kc ks : Nat} (hX : OkX X code R_law 13 480) (hA : ∀ a, X.B ≤ a → X.A a) (hs : va_X b L xs X.s X.H0) (hb : b < X.H0.size) (hn : ¬ X.A b) (v1 : vp_in (i + 1) L) (v2 : vp_in (i + 2) L) (v3 : vp_in (i + 3) L) (v4 : vp_in (i + 4) L) (v5 : vp_in (i + 5) L) (hR : Rel M1 M2) (hk : kc ≤ X.R.cells ∧ ks ≤ X.R.slots) (K : ∀ N1 N2, Rel N1 N2 → GoP X (PL X N1 N2) kc ks 1706 [some (.ref b), some (.ref (X.B + 0)), some (.ref (X.B + nC + 0)), some (.int i)] []) : GoP X (PL X M1 M2) kc ks 871 [some (.ref b), some (.ref (X.B + 0)), some (.ref (X.B + nC + 0)), some (.int i)] [] := by
  obtain ⟨N1, N2, r, e1, e2, hR2⟩ := eq_best hR (xs (i + 1).toNatClampNeg)
  refine p_aload_n (i := 1) hX e_L_law_871 rfl rfl ?_
  refine p_aload_n (i := 0) hX e_L_law_872 rfl rfl ?_
  refine p_iload_n (i := 3) hX e_L_law_873 rfl rfl ?_
  refine p_iconst (v := 1) hX e_L_law_874 (by decide +kernel) ?_
  refine p_iadd hX e_L_law_875 ?_
  refine p_sld hX hs hb hn v1 e_L_law_876 ?_
  refine p_c1 (As := fun _ _ => [.int (xs (i + 1).toNatClampNeg)]) hX hA (t_X10_best e1) e_L_law_877 cw_X10_best cv_X10_best wk_876 ⟨Nat.le_of_ble_eq_true rfl, Nat.le_of_ble_eq_true rfl⟩ (show cls[10]? = some (RX10, TX10, 10) from rfl) rfl (by decide) oC0 rfl rfl (Nat.le_of_ble_eq_true rfl) hk ?_
  refine p_aload_n (i := 2) hX e_L_law_880 rfl rfl ?_
  refine p_aload_n (i := 0) hX e_L_law_881 rfl rfl ?_
  refine p_iload_n (i := 3) hX e_L_law_882 rfl rfl ?_
  refine p_iconst (v := 1) hX e_L_law_883 (by decide +kernel) ?_
  refine p_iadd hX e_L_law_884 ?_
  refine p_sld hX hs hb hn v1 e_L_law_885 ?_
  refine p_c2 (As := fun _ _ => [.int (xs (i + 1).toNatClampNeg)]) hX hA (t_X11_best e2) e_L_law_886 cw_X11_best cv_X11_best wk_1602 ⟨Nat.le_of_ble_eq_true rfl, Nat.le_of_ble_eq_true rfl⟩ (show cls[11]? = some (RX11, TX11, 54) from rfl) rfl (by decide) oR0 rfl rfl (Nat.le_of_ble_eq_true rfl) hk ?_
  exact p_icmp_eq hX e_L_law_889 (fun _ => K _ _ hR2) (fun h => absurd rfl h)
theorem lcs_20 {X : Cx} {b L : Nat} {xs : Nat → Int32} {i : Int32} {M1 M2 : Mem} {kc ks : Nat} (hX : OkX X code R_law 13 480) (hA : ∀ a, X.B ≤ a → X.A a) (hs : va_X b L xs X.s X.H0) (hb : b < X.H0.size) (hn : ¬ X.A b) (v1 : vp_in (i + 1) L) (v2 : vp_in (i + 2) L) (v3 : vp_in (i + 3) L) (v4 : vp_in (i + 4) L) (v5 : vp_in (i + 5) L) (hR : Rel M1 M2) (hk : kc ≤ X.R.cells ∧ ks ≤ X.R.slots) (K : ∀ N1 N2, Rel N1 N2 → GoP X (PL X N1 N2) kc ks 1706 [some (.ref b), some (.ref (X.B + 0)), some (.ref (X.B + nC + 0)), some (.int i)] []) : GoP X (PL X M1 M2) kc ks 894 [some (.ref b), some (.ref (X.B + 0)), some (.ref (X.B + nC + 0)), some (.int i)] [] := by
  obtain ⟨N1, N2, r, e1, e2, hR2⟩ := eq_cost hR (xs (i + 1).toNatClampNeg)
  refine p_aload_n (i := 1) hX e_L_law_894 rfl rfl ?_
  refine p_aload_n (i := 0) hX e_L_law_895 rfl rfl ?_
  refine p_iload_n (i := 3) hX e_L_law_896 rfl rfl ?_
  refine p_iconst (v := 1) hX e_L_law_897 (by decide +kernel) ?_
  refine p_iadd hX e_L_law_898 ?_
  refine p_sld hX hs hb hn v1 e_L_law_899 ?_
  refine p_c1 (As := fun _ _ => [.int (xs (i + 1).toNatClampNeg)]) hX hA (t_X10_cost e1) e_L_law_900 cw_X10_cost cv_X10_cost wk_915 ⟨Nat.le_of_ble_eq_true rfl, Nat.le_of_ble_eq_true rfl⟩ (show cls[10]? = some (RX10, TX10, 10) from rfl) rfl (by decide) oC0 rfl rfl (Nat.le_of_ble_eq_true rfl) hk ?_
  refine p_aload_n (i := 2) hX e_L_law_903 rfl rfl ?_
  refine p_aload_n (i := 0) hX e_L_law_904 rfl rfl ?_
  refine p_iload_n (i := 3) hX e_L_law_905 rfl rfl ?_
  refine p_iconst (v := 1) hX e_L_law_906 (by decide +kernel) ?_
  refine p_iadd hX e_L_law_907 ?_
  refine p_sld hX hs hb hn v1 e_L_law_908 ?_
  refine p_c2 (As := fun _ _ => [.int (xs (i + 1).toNatClampNeg)]) hX hA (t_X11_cost e2) e_L_law_909 cw_X11_cost cv_X11_cost wk_1610 ⟨Nat.le_of_ble_eq_true rfl, Nat.le_of_ble_eq_true rfl⟩ (show cls[11]? = some (RX11, TX11, 54) from rfl) rfl (by decide) oR0 rfl rfl (Nat.le_of_ble_eq_true rfl) hk ?_
  exact p_icmp_eq hX e_L_law_912 (fun _ => K _ _ hR2) (fun h => absurd rfl h)
theorem lcs_21 {X : Cx} {b L : Nat} {xs : Nat → Int32} {i : Int32} {M1 M2 : Mem} {kc ks : Nat} (hX : OkX X code R_law 13 480) (hA : ∀ a, X.B ≤ a → X.A a) (hs : va_X b L xs X.s X.H0) (hb : b < X.H0.size) (hn : ¬ X.A b) (v1 : vp_in (i + 1) L) (v2 : vp_in (i + 2) L) (v3 : vp_in (i + 3) L) (v4 : vp_in (i + 4) L) (v5 : vp_in (i + 5) L) (hR : Rel M1 M2) (hk : kc ≤ X.R.cells ∧ ks ≤ X.R.slots) (K : ∀ N1 N2, Rel N1 N2 → GoP X (PL X N1 N2) kc ks 1706 [some (.ref b), some (.ref (X.B + 0)), some (.ref (X.B + nC + 0)), some (.int i)] []) : GoP X (PL X M1 M2) kc ks 917 [some (.ref b), some (.ref (X.B + 0)), some (.ref (X.B + nC + 0)), some (.int i)] [] := by
  obtain ⟨N1, N2, r, e1, e2, hR2⟩ := eq_choice hR (xs (i + 1).toNatClampNeg) (xs (i + 2).toNatClampNeg)
  refine p_aload_n (i := 1) hX e_L_law_917 rfl rfl ?_
  refine p_aload_n (i := 0) hX e_L_law_918 rfl rfl ?_
  refine p_iload_n (i := 3) hX e_L_law_919 rfl rfl ?_
  refine p_iconst (v := 1) hX e_L_law_920 (by decide +kernel) ?_
  refine p_iadd hX e_L_law_921 ?_
  refine p_sld hX hs hb hn v1 e_L_law_922 ?_
  refine p_aload_n (i := 0) hX e_L_law_923 rfl rfl ?_
  refine p_iload_n (i := 3) hX e_L_law_924 rfl rfl ?_
  refine p_iconst (v := 2) hX e_L_law_925 (by decide +kernel) ?_
  refine p_iadd hX e_L_law_926 ?_
  refine p_sld hX hs hb hn v2 e_L_law_927 ?_
  refine p_c1 (As := fun _ _ => [.int (xs (i + 1).toNatClampNeg), .int (xs (i + 2).toNatClampNeg)]) hX hA (t_X10_choice e1) e_L_law_928 cw_X10_choice cv_X10_choice wk_919 ⟨Nat.le_of_ble_eq_true rfl, Nat.le_of_ble_eq_true rfl⟩ (show cls[10]? = some (RX10, TX10, 10) from rfl) rfl (by decide) oC0 rfl rfl (Nat.le_of_ble_eq_true rfl) hk ?_
  refine p_aload_n (i := 2) hX e_L_law_931 rfl rfl ?_
  refine p_aload_n (i := 0) hX e_L_law_932 rfl rfl ?_
  refine p_iload_n (i := 3) hX e_L_law_933 rfl rfl ?_
  refine p_iconst (v := 1) hX e_L_law_934 (by decide +kernel) ?_
  refine p_iadd hX e_L_law_935 ?_
  refine p_sld hX hs hb hn v1 e_L_law_936 ?_
  refine p_aload_n (i := 0) hX e_L_law_937 rfl rfl ?_
  refine p_iload_n (i := 3) hX e_L_law_938 rfl rfl ?_
  refine p_iconst (v := 2) hX e_L_law_939 (by decide +kernel) ?_
  refine p_iadd hX e_L_law_940 ?_
  refine p_sld hX hs hb hn v2 e_L_law_941 ?_
  refine p_c2 (As := fun _ _ => [.int (xs (i + 1).toNatClampNeg), .int (xs (i + 2).toNatClampNeg)]) hX hA (t_X11_choice e2) e_L_law_942 cw_X11_choice cv_X11_choice wk_1614 ⟨Nat.le_of_ble_eq_true rfl, Nat.le_of_ble_eq_true rfl⟩ (show cls[11]? = some (RX11, TX11, 54) from rfl) rfl (by decide) oR0 rfl rfl (Nat.le_of_ble_eq_true rfl) hk ?_
  exact p_icmp_eq hX e_L_law_945 (fun _ => K _ _ hR2) (fun h => absurd rfl h)
theorem lcs_22 {X : Cx} {b L : Nat} {xs : Nat → Int32} {i : Int32} {M1 M2 : Mem} {kc ks : Nat} (hX : OkX X code R_law 13 480) (hA : ∀ a, X.B ≤ a → X.A a) (hs : va_X b L xs X.s X.H0) (hb : b < X.H0.size) (hn : ¬ X.A b) (v1 : vp_in (i + 1) L) (v2 : vp_in (i + 2) L) (v3 : vp_in (i + 3) L) (v4 : vp_in (i + 4) L) (v5 : vp_in (i + 5) L) (hR : Rel M1 M2) (hk : kc ≤ X.R.cells ∧ ks ≤ X.R.slots) (K : ∀ N1 N2, Rel N1 N2 → GoP X (PL X N1 N2) kc ks 1706 [some (.ref b), some (.ref (X.B + 0)), some (.ref (X.B + nC + 0)), some (.int i)] []) : GoP X (PL X M1 M2) kc ks 950 [some (.ref b), some (.ref (X.B + 0)), some (.ref (X.B + nC + 0)), some (.int i)] [] := by
  obtain ⟨N1, N2, r, e1, e2, hR2⟩ := eq_needs hR (xs (i + 1).toNatClampNeg)
  refine p_aload_n (i := 1) hX e_L_law_950 rfl rfl ?_
  refine p_aload_n (i := 0) hX e_L_law_951 rfl rfl ?_
  refine p_iload_n (i := 3) hX e_L_law_952 rfl rfl ?_
  refine p_iconst (v := 1) hX e_L_law_953 (by decide +kernel) ?_
  refine p_iadd hX e_L_law_954 ?_
  refine p_sld hX hs hb hn v1 e_L_law_955 ?_
  refine p_c1 (As := fun _ _ => [.int (xs (i + 1).toNatClampNeg)]) hX hA (t_X10_needs e1) e_L_law_956 cw_X10_needs cv_X10_needs wk_923 ⟨Nat.le_of_ble_eq_true rfl, Nat.le_of_ble_eq_true rfl⟩ (show cls[10]? = some (RX10, TX10, 10) from rfl) rfl (by decide) oC0 rfl rfl (Nat.le_of_ble_eq_true rfl) hk ?_
  refine p_aload_n (i := 2) hX e_L_law_959 rfl rfl ?_
  refine p_aload_n (i := 0) hX e_L_law_960 rfl rfl ?_
  refine p_iload_n (i := 3) hX e_L_law_961 rfl rfl ?_
  refine p_iconst (v := 1) hX e_L_law_962 (by decide +kernel) ?_
  refine p_iadd hX e_L_law_963 ?_
  refine p_sld hX hs hb hn v1 e_L_law_964 ?_
  refine p_c2 (As := fun _ _ => [.int (xs (i + 1).toNatClampNeg)]) hX hA (t_X11_needs e2) e_L_law_965 cw_X11_needs cv_X11_needs wk_1618 ⟨Nat.le_of_ble_eq_true rfl, Nat.le_of_ble_eq_true rfl⟩ (show cls[11]? = some (RX11, TX11, 54) from rfl) rfl (by decide) oR0 rfl rfl (Nat.le_of_ble_eq_true rfl) hk ?_
  exact p_icmp_eq hX e_L_law_968 (fun _ => K _ _ hR2) (fun h => absurd rfl h)
theorem lcs_23 {X : Cx} {b L : Nat} {xs : Nat → Int32} {i : Int32} {M1 M2 : Mem} {kc ks : Nat} (hX : OkX X code R_law 13 480) (hA : ∀ a, X.B ≤ a → X.A a) (hs : va_X b L xs X.s X.H0) (hb : b < X.H0.size) (hn : ¬ X.A b) (v1 : vp_in (i + 1) L) (v2 : vp_in (i + 2) L) (v3 : vp_in (i + 3) L) (v4 : vp_in (i + 4) L) (v5 : vp_in (i + 5) L) (hR : Rel M1 M2) (hk : kc ≤ X.R.cells ∧ ks ≤ X.R.slots) (K : ∀ N1 N2, Rel N1 N2 → GoP X (PL X N1 N2) kc ks 1706 [some (.ref b), some (.ref (X.B + 0)), some (.ref (X.B + nC + 0)), some (.int i)] []) : GoP X (PL X M1 M2) kc ks 973 [some (.ref b), some (.ref (X.B + 0)), some (.ref (X.B + nC + 0)), some (.int i)] [] := by
  obtain ⟨N1, N2, r, e1, e2, hR2⟩ := eq_send hR (xs (i + 1).toNatClampNeg) (xs (i + 2).toNatClampNeg) (xs (i + 3).toNatClampNeg) (xs (i + 4).toNatClampNeg)
  refine p_aload_n (i := 1) hX e_L_law_973 rfl rfl ?_
  refine p_aload_n (i := 0) hX e_L_law_974 rfl rfl ?_
  refine p_iload_n (i := 3) hX e_L_law_975 rfl rfl ?_
  refine p_iconst (v := 1) hX e_L_law_976 (by decide +kernel) ?_
  refine p_iadd hX e_L_law_977 ?_
  refine p_sld hX hs hb hn v1 e_L_law_978 ?_
  refine p_aload_n (i := 0) hX e_L_law_979 rfl rfl ?_
  refine p_iload_n (i := 3) hX e_L_law_980 rfl rfl ?_
  refine p_iconst (v := 2) hX e_L_law_981 (by decide +kernel) ?_
  refine p_iadd hX e_L_law_982 ?_
  refine p_sld hX hs hb hn v2 e_L_law_983 ?_
  refine p_aload_n (i := 0) hX e_L_law_984 rfl rfl ?_
  refine p_iload_n (i := 3) hX e_L_law_985 rfl rfl ?_
  refine p_iconst (v := 3) hX e_L_law_986 (by decide +kernel) ?_
  refine p_iadd hX e_L_law_987 ?_
  refine p_sld hX hs hb hn v3 e_L_law_988 ?_
  refine p_aload_n (i := 0) hX e_L_law_989 rfl rfl ?_
  refine p_iload_n (i := 3) hX e_L_law_990 rfl rfl ?_
  refine p_iconst (v := 4) hX e_L_law_991 (by decide +kernel) ?_
  refine p_iadd hX e_L_law_992 ?_
  refine p_sld hX hs hb hn v4 e_L_law_993 ?_
  refine p_c1 (As := fun _ _ => [.int (xs (i + 1).toNatClampNeg), .int (xs (i + 2).toNatClampNeg), .int (xs (i + 3).toNatClampNeg), .int (xs (i + 4).toNatClampNeg)]) hX hA (t_X10_send e1) e_L_law_994 cw_X10_send cv_X10_send wk_929 ⟨Nat.le_of_ble_eq_true rfl, Nat.le_of_ble_eq_true rfl⟩ (show cls[10]? = some (RX10, TX10, 10) from rfl) rfl (by decide) oC0 rfl rfl (Nat.le_of_ble_eq_true rfl) hk ?_
  refine p_aload_n (i := 2) hX e_L_law_997 rfl rfl ?_
  refine p_aload_n (i := 0) hX e_L_law_998 rfl rfl ?_
  refine p_iload_n (i := 3) hX e_L_law_999 rfl rfl ?_
  refine p_iconst (v := 1) hX e_L_law_1000 (by decide +kernel) ?_
  refine p_iadd hX e_L_law_1001 ?_
  refine p_sld hX hs hb hn v1 e_L_law_1002 ?_
  refine p_aload_n (i := 0) hX e_L_law_1003 rfl rfl ?_
  refine p_iload_n (i := 3) hX e_L_law_1004 rfl rfl ?_
  refine p_iconst (v := 2) hX e_L_law_1005 (by decide +kernel) ?_
  refine p_iadd hX e_L_law_1006 ?_
  refine p_sld hX hs hb hn v2 e_L_law_1007 ?_
  refine p_aload_n (i := 0) hX e_L_law_1008 rfl rfl ?_
  refine p_iload_n (i := 3) hX e_L_law_1009 rfl rfl ?_
  refine p_iconst (v := 3) hX e_L_law_1010 (by decide +kernel) ?_
  refine p_iadd hX e_L_law_1011 ?_
  refine p_sld hX hs hb hn v3 e_L_law_1012 ?_
  refine p_aload_n (i := 0) hX e_L_law_1013 rfl rfl ?_
  refine p_iload_n (i := 3) hX e_L_law_1014 rfl rfl ?_
  refine p_iconst (v := 4) hX e_L_law_1015 (by decide +kernel) ?_
  refine p_iadd hX e_L_law_1016 ?_
  refine p_sld hX hs hb hn v4 e_L_law_1017 ?_
  refine p_c2 (As := fun _ _ => [.int (xs (i + 1).toNatClampNeg), .int (xs (i + 2).toNatClampNeg), .int (xs (i + 3).toNatClampNeg), .int (xs (i + 4).toNatClampNeg)]) hX hA (t_X11_send e2) e_L_law_1018 cw_X11_send cv_X11_send wk_1622 ⟨Nat.le_of_ble_eq_true rfl, Nat.le_of_ble_eq_true rfl⟩ (show cls[11]? = some (RX11, TX11, 54) from rfl) rfl (by decide) oR0 rfl rfl (Nat.le_of_ble_eq_true rfl) hk ?_
  exact p_icmp_eq hX e_L_law_1021 (fun _ => K _ _ hR2) (fun h => absurd rfl h)
theorem lcs_24 {X : Cx} {b L : Nat} {xs : Nat → Int32} {i : Int32} {M1 M2 : Mem} {kc ks : Nat} (hX : OkX X code R_law 13 480) (hA : ∀ a, X.B ≤ a → X.A a) (hs : va_X b L xs X.s X.H0) (hb : b < X.H0.size) (hn : ¬ X.A b) (v1 : vp_in (i + 1) L) (v2 : vp_in (i + 2) L) (v3 : vp_in (i + 3) L) (v4 : vp_in (i + 4) L) (v5 : vp_in (i + 5) L) (hR : Rel M1 M2) (hk : kc ≤ X.R.cells ∧ ks ≤ X.R.slots) (K : ∀ N1 N2, Rel N1 N2 → GoP X (PL X N1 N2) kc ks 1706 [some (.ref b), some (.ref (X.B + 0)), some (.ref (X.B + nC + 0)), some (.int i)] []) : GoP X (PL X M1 M2) kc ks 1026 [some (.ref b), some (.ref (X.B + 0)), some (.ref (X.B + nC + 0)), some (.int i)] [] := by
  obtain ⟨N1, N2, r, e1, e2, hR2⟩ := eq_round hR (xs (i + 1).toNatClampNeg) (xs (i + 2).toNatClampNeg)
  refine p_aload_n (i := 1) hX e_L_law_1026 rfl rfl ?_
  refine p_aload_n (i := 0) hX e_L_law_1027 rfl rfl ?_
  refine p_iload_n (i := 3) hX e_L_law_1028 rfl rfl ?_
  refine p_iconst (v := 1) hX e_L_law_1029 (by decide +kernel) ?_
  refine p_iadd hX e_L_law_1030 ?_
  refine p_sld hX hs hb hn v1 e_L_law_1031 ?_
  refine p_aload_n (i := 0) hX e_L_law_1032 rfl rfl ?_
  refine p_iload_n (i := 3) hX e_L_law_1033 rfl rfl ?_
  refine p_iconst (v := 2) hX e_L_law_1034 (by decide +kernel) ?_
  refine p_iadd hX e_L_law_1035 ?_
  refine p_sld hX hs hb hn v2 e_L_law_1036 ?_
  refine p_c1 (As := fun _ _ => [.int (xs (i + 1).toNatClampNeg), .int (xs (i + 2).toNatClampNeg)]) hX hA (t_X10_round e1) e_L_law_1037 cw_X10_round cv_X10_round wk_949 ⟨Nat.le_of_ble_eq_true rfl, Nat.le_of_ble_eq_true rfl⟩ (show cls[10]? = some (RX10, TX10, 10) from rfl) rfl (by decide) oC0 rfl rfl (Nat.le_of_ble_eq_true rfl) hk ?_
  refine p_aload_n (i := 2) hX e_L_law_1040 rfl rfl ?_
  refine p_aload_n (i := 0) hX e_L_law_1041 rfl rfl ?_
  refine p_iload_n (i := 3) hX e_L_law_1042 rfl rfl ?_
  refine p_iconst (v := 1) hX e_L_law_1043 (by decide +kernel) ?_
  refine p_iadd hX e_L_law_1044 ?_
  refine p_sld hX hs hb hn v1 e_L_law_1045 ?_
  refine p_aload_n (i := 0) hX e_L_law_1046 rfl rfl ?_
  refine p_iload_n (i := 3) hX e_L_law_1047 rfl rfl ?_
  refine p_iconst (v := 2) hX e_L_law_1048 (by decide +kernel) ?_
  refine p_iadd hX e_L_law_1049 ?_
  refine p_sld hX hs hb hn v2 e_L_law_1050 ?_
  refine p_c2 (As := fun _ _ => [.int (xs (i + 1).toNatClampNeg), .int (xs (i + 2).toNatClampNeg)]) hX hA (t_X11_round e2) e_L_law_1051 cw_X11_round cv_X11_round wk_1642 ⟨Nat.le_of_ble_eq_true rfl, Nat.le_of_ble_eq_true rfl⟩ (show cls[11]? = some (RX11, TX11, 54) from rfl) rfl (by decide) oR0 rfl rfl (Nat.le_of_ble_eq_true rfl) hk ?_
  exact p_icmp_eq hX e_L_law_1054 (fun _ => K _ _ hR2) (fun h => absurd rfl h)
theorem lcs_25 {X : Cx} {b L : Nat} {xs : Nat → Int32} {i : Int32} {M1 M2 : Mem} {kc ks : Nat} (hX : OkX X code R_law 13 480) (hA : ∀ a, X.B ≤ a → X.A a) (hs : va_X b L xs X.s X.H0) (hb : b < X.H0.size) (hn : ¬ X.A b) (v1 : vp_in (i + 1) L) (v2 : vp_in (i + 2) L) (v3 : vp_in (i + 3) L) (v4 : vp_in (i + 4) L) (v5 : vp_in (i + 5) L) (hR : Rel M1 M2) (hk : kc ≤ X.R.cells ∧ ks ≤ X.R.slots) (K : ∀ N1 N2, Rel N1 N2 → GoP X (PL X N1 N2) kc ks 1706 [some (.ref b), some (.ref (X.B + 0)), some (.ref (X.B + nC + 0)), some (.int i)] []) : GoP X (PL X M1 M2) kc ks 1059 [some (.ref b), some (.ref (X.B + 0)), some (.ref (X.B + nC + 0)), some (.int i)] [] := by
  obtain ⟨N1, N2, r, e1, e2, hR2⟩ := eq_swap hR (xs (i + 1).toNatClampNeg)
  refine p_aload_n (i := 1) hX e_L_law_1059 rfl rfl ?_
  refine p_aload_n (i := 0) hX e_L_law_1060 rfl rfl ?_
  refine p_iload_n (i := 3) hX e_L_law_1061 rfl rfl ?_
  refine p_iconst (v := 1) hX e_L_law_1062 (by decide +kernel) ?_
  refine p_iadd hX e_L_law_1063 ?_
  refine p_sld hX hs hb hn v1 e_L_law_1064 ?_
  refine p_c1 (As := fun _ _ => [.int (xs (i + 1).toNatClampNeg)]) hX hA (t_X10_swap e1) e_L_law_1065 cw_X10_swap cv_X10_swap wk_954 ⟨Nat.le_of_ble_eq_true rfl, Nat.le_of_ble_eq_true rfl⟩ (show cls[10]? = some (RX10, TX10, 10) from rfl) rfl (by decide) oC0 rfl rfl (Nat.le_of_ble_eq_true rfl) hk ?_
  refine p_aload_n (i := 2) hX e_L_law_1068 rfl rfl ?_
  refine p_aload_n (i := 0) hX e_L_law_1069 rfl rfl ?_
  refine p_iload_n (i := 3) hX e_L_law_1070 rfl rfl ?_
  refine p_iconst (v := 1) hX e_L_law_1071 (by decide +kernel) ?_
  refine p_iadd hX e_L_law_1072 ?_
  refine p_sld hX hs hb hn v1 e_L_law_1073 ?_
  refine p_c2 (As := fun _ _ => [.int (xs (i + 1).toNatClampNeg)]) hX hA (t_X11_swap e2) e_L_law_1074 cw_X11_swap cv_X11_swap wk_1646 ⟨Nat.le_of_ble_eq_true rfl, Nat.le_of_ble_eq_true rfl⟩ (show cls[11]? = some (RX11, TX11, 54) from rfl) rfl (by decide) oR0 rfl rfl (Nat.le_of_ble_eq_true rfl) hk ?_
  exact p_icmp_eq hX e_L_law_1077 (fun _ => K _ _ hR2) (fun h => absurd rfl h)
theorem lcs_26 {X : Cx} {b L : Nat} {xs : Nat → Int32} {i : Int32} {M1 M2 : Mem} {kc ks : Nat} (hX : OkX X code R_law 13 480) (hA : ∀ a, X.B ≤ a → X.A a) (hs : va_X b L xs X.s X.H0) (hb : b < X.H0.size) (hn : ¬ X.A b) (v1 : vp_in (i + 1) L) (v2 : vp_in (i + 2) L) (v3 : vp_in (i + 3) L) (v4 : vp_in (i + 4) L) (v5 : vp_in (i + 5) L) (hR : Rel M1 M2) (hk : kc ≤ X.R.cells ∧ ks ≤ X.R.slots) (K : ∀ N1 N2, Rel N1 N2 → GoP X (PL X N1 N2) kc ks 1706 [some (.ref b), some (.ref (X.B + 0)), some (.ref (X.B + nC + 0)), some (.int i)] []) : GoP X (PL X M1 M2) kc ks 1082 [some (.ref b), some (.ref (X.B + 0)), some (.ref (X.B + nC + 0)), some (.int i)] [] := by
  obtain ⟨N1, N2, r, e1, e2, hR2⟩ := eq_moves hR (xs (i + 1).toNatClampNeg) (xs (i + 2).toNatClampNeg)
  refine p_aload_n (i := 1) hX e_L_law_1082 rfl rfl ?_
  refine p_aload_n (i := 0) hX e_L_law_1083 rfl rfl ?_
  refine p_iload_n (i := 3) hX e_L_law_1084 rfl rfl ?_
  refine p_iconst (v := 1) hX e_L_law_1085 (by decide +kernel) ?_
  refine p_iadd hX e_L_law_1086 ?_
  refine p_sld hX hs hb hn v1 e_L_law_1087 ?_
  refine p_aload_n (i := 0) hX e_L_law_1088 rfl rfl ?_
  refine p_iload_n (i := 3) hX e_L_law_1089 rfl rfl ?_
  refine p_iconst (v := 2) hX e_L_law_1090 (by decide +kernel) ?_
  refine p_iadd hX e_L_law_1091 ?_
  refine p_sld hX hs hb hn v2 e_L_law_1092 ?_
  refine p_c1 (As := fun _ _ => [.int (xs (i + 1).toNatClampNeg), .int (xs (i + 2).toNatClampNeg)]) hX hA (t_X10_moves e1) e_L_law_1093 cw_X10_moves cv_X10_moves wk_987 ⟨Nat.le_of_ble_eq_true rfl, Nat.le_of_ble_eq_true rfl⟩ (show cls[10]? = some (RX10, TX10, 10) from rfl) rfl (by decide) oC0 rfl rfl (Nat.le_of_ble_eq_true rfl) hk ?_
  refine p_aload_n (i := 2) hX e_L_law_1096 rfl rfl ?_
  refine p_aload_n (i := 0) hX e_L_law_1097 rfl rfl ?_
  refine p_iload_n (i := 3) hX e_L_law_1098 rfl rfl ?_
  refine p_iconst (v := 1) hX e_L_law_1099 (by decide +kernel) ?_
  refine p_iadd hX e_L_law_1100 ?_
  refine p_sld hX hs hb hn v1 e_L_law_1101 ?_
  refine p_aload_n (i := 0) hX e_L_law_1102 rfl rfl ?_
  refine p_iload_n (i := 3) hX e_L_law_1103 rfl rfl ?_
  refine p_iconst (v := 2) hX e_L_law_1104 (by decide +kernel) ?_
  refine p_iadd hX e_L_law_1105 ?_
  refine p_sld hX hs hb hn v2 e_L_law_1106 ?_
  refine p_c2 (As := fun _ _ => [.int (xs (i + 1).toNatClampNeg), .int (xs (i + 2).toNatClampNeg)]) hX hA (t_X11_moves e2) e_L_law_1107 cw_X11_moves cv_X11_moves wk_1658 ⟨Nat.le_of_ble_eq_true rfl, Nat.le_of_ble_eq_true rfl⟩ (show cls[11]? = some (RX11, TX11, 54) from rfl) rfl (by decide) oR0 rfl rfl (Nat.le_of_ble_eq_true rfl) hk ?_
  exact p_icmp_eq hX e_L_law_1110 (fun _ => K _ _ hR2) (fun h => absurd rfl h)
theorem lcs_27 {X : Cx} {b L : Nat} {xs : Nat → Int32} {i : Int32} {M1 M2 : Mem} {kc ks : Nat} (hX : OkX X code R_law 13 480) (hA : ∀ a, X.B ≤ a → X.A a) (hs : va_X b L xs X.s X.H0) (hb : b < X.H0.size) (hn : ¬ X.A b) (v1 : vp_in (i + 1) L) (v2 : vp_in (i + 2) L) (v3 : vp_in (i + 3) L) (v4 : vp_in (i + 4) L) (v5 : vp_in (i + 5) L) (hR : Rel M1 M2) (hk : kc ≤ X.R.cells ∧ ks ≤ X.R.slots) (K : ∀ N1 N2, Rel N1 N2 → GoP X (PL X N1 N2) kc ks 1706 [some (.ref b), some (.ref (X.B + 0)), some (.ref (X.B + nC + 0)), some (.int i)] []) : GoP X (PL X M1 M2) kc ks 1115 [some (.ref b), some (.ref (X.B + 0)), some (.ref (X.B + nC + 0)), some (.int i)] [] := by
  obtain ⟨N1, N2, r, e1, e2, hR2⟩ := eq_offer hR (xs (i + 1).toNatClampNeg) (xs (i + 2).toNatClampNeg)
  refine p_aload_n (i := 1) hX e_L_law_1115 rfl rfl ?_
  refine p_aload_n (i := 0) hX e_L_law_1116 rfl rfl ?_
  refine p_iload_n (i := 3) hX e_L_law_1117 rfl rfl ?_
  refine p_iconst (v := 1) hX e_L_law_1118 (by decide +kernel) ?_
  refine p_iadd hX e_L_law_1119 ?_
  refine p_sld hX hs hb hn v1 e_L_law_1120 ?_
  refine p_aload_n (i := 0) hX e_L_law_1121 rfl rfl ?_
  refine p_iload_n (i := 3) hX e_L_law_1122 rfl rfl ?_
  refine p_iconst (v := 2) hX e_L_law_1123 (by decide +kernel) ?_
  refine p_iadd hX e_L_law_1124 ?_
  refine p_sld hX hs hb hn v2 e_L_law_1125 ?_
  refine p_c1 (As := fun _ _ => [.int (xs (i + 1).toNatClampNeg), .int (xs (i + 2).toNatClampNeg)]) hX hA (t_X10_offer e1) e_L_law_1126 cw_X10_offer cv_X10_offer wk_991 ⟨Nat.le_of_ble_eq_true rfl, Nat.le_of_ble_eq_true rfl⟩ (show cls[10]? = some (RX10, TX10, 10) from rfl) rfl (by decide) oC0 rfl rfl (Nat.le_of_ble_eq_true rfl) hk ?_
  refine p_aload_n (i := 2) hX e_L_law_1129 rfl rfl ?_
  refine p_aload_n (i := 0) hX e_L_law_1130 rfl rfl ?_
  refine p_iload_n (i := 3) hX e_L_law_1131 rfl rfl ?_
  refine p_iconst (v := 1) hX e_L_law_1132 (by decide +kernel) ?_
  refine p_iadd hX e_L_law_1133 ?_
  refine p_sld hX hs hb hn v1 e_L_law_1134 ?_
  refine p_aload_n (i := 0) hX e_L_law_1135 rfl rfl ?_
  refine p_iload_n (i := 3) hX e_L_law_1136 rfl rfl ?_
  refine p_iconst (v := 2) hX e_L_law_1137 (by decide +kernel) ?_
  refine p_iadd hX e_L_law_1138 ?_
  refine p_sld hX hs hb hn v2 e_L_law_1139 ?_
  refine p_c2 (As := fun _ _ => [.int (xs (i + 1).toNatClampNeg), .int (xs (i + 2).toNatClampNeg)]) hX hA (t_X11_offer e2) e_L_law_1140 cw_X11_offer cv_X11_offer wk_1662 ⟨Nat.le_of_ble_eq_true rfl, Nat.le_of_ble_eq_true rfl⟩ (show cls[11]? = some (RX11, TX11, 54) from rfl) rfl (by decide) oR0 rfl rfl (Nat.le_of_ble_eq_true rfl) hk ?_
  exact p_icmp_eq hX e_L_law_1143 (fun _ => K _ _ hR2) (fun h => absurd rfl h)
theorem lcs_28 {X : Cx} {b L : Nat} {xs : Nat → Int32} {i : Int32} {M1 M2 : Mem} {kc ks : Nat} (hX : OkX X code R_law 13 480) (hA : ∀ a, X.B ≤ a → X.A a) (hs : va_X b L xs X.s X.H0) (hb : b < X.H0.size) (hn : ¬ X.A b) (v1 : vp_in (i + 1) L) (v2 : vp_in (i + 2) L) (v3 : vp_in (i + 3) L) (v4 : vp_in (i + 4) L) (v5 : vp_in (i + 5) L) (hR : Rel M1 M2) (hk : kc ≤ X.R.cells ∧ ks ≤ X.R.slots) (K : ∀ N1 N2, Rel N1 N2 → GoP X (PL X N1 N2) kc ks 1706 [some (.ref b), some (.ref (X.B + 0)), some (.ref (X.B + nC + 0)), some (.int i)] []) : GoP X (PL X M1 M2) kc ks 1148 [some (.ref b), some (.ref (X.B + 0)), some (.ref (X.B + nC + 0)), some (.int i)] [] := by
  obtain ⟨N1, N2, r, e1, e2, hR2⟩ := eq_wise hR (xs (i + 1).toNatClampNeg)
  refine p_aload_n (i := 1) hX e_L_law_1148 rfl rfl ?_
  refine p_aload_n (i := 0) hX e_L_law_1149 rfl rfl ?_
  refine p_iload_n (i := 3) hX e_L_law_1150 rfl rfl ?_
  refine p_iconst (v := 1) hX e_L_law_1151 (by decide +kernel) ?_
  refine p_iadd hX e_L_law_1152 ?_
  refine p_sld hX hs hb hn v1 e_L_law_1153 ?_
  refine p_c1 (As := fun _ _ => [.int (xs (i + 1).toNatClampNeg)]) hX hA (t_X10_wise e1) e_L_law_1154 cw_X10_wise cv_X10_wise wk_995 ⟨Nat.le_of_ble_eq_true rfl, Nat.le_of_ble_eq_true rfl⟩ (show cls[10]? = some (RX10, TX10, 10) from rfl) rfl (by decide) oC0 rfl rfl (Nat.le_of_ble_eq_true rfl) hk ?_
  refine p_aload_n (i := 2) hX e_L_law_1157 rfl rfl ?_
  refine p_aload_n (i := 0) hX e_L_law_1158 rfl rfl ?_
  refine p_iload_n (i := 3) hX e_L_law_1159 rfl rfl ?_
  refine p_iconst (v := 1) hX e_L_law_1160 (by decide +kernel) ?_
  refine p_iadd hX e_L_law_1161 ?_
  refine p_sld hX hs hb hn v1 e_L_law_1162 ?_
  refine p_c2 (As := fun _ _ => [.int (xs (i + 1).toNatClampNeg)]) hX hA (t_X11_wise e2) e_L_law_1163 cw_X11_wise cv_X11_wise wk_1667 ⟨Nat.le_of_ble_eq_true rfl, Nat.le_of_ble_eq_true rfl⟩ (show cls[11]? = some (RX11, TX11, 54) from rfl) rfl (by decide) oR0 rfl rfl (Nat.le_of_ble_eq_true rfl) hk ?_
  exact p_icmp_eq hX e_L_law_1166 (fun _ => K _ _ hR2) (fun h => absurd rfl h)
theorem lcs_29 {X : Cx} {b L : Nat} {xs : Nat → Int32} {i : Int32} {M1 M2 : Mem} {kc ks : Nat} (hX : OkX X code R_law 13 480) (hA : ∀ a, X.B ≤ a → X.A a) (hs : va_X b L xs X.s X.H0) (hb : b < X.H0.size) (hn : ¬ X.A b) (v1 : vp_in (i + 1) L) (v2 : vp_in (i + 2) L) (v3 : vp_in (i + 3) L) (v4 : vp_in (i + 4) L) (v5 : vp_in (i + 5) L) (hR : Rel M1 M2) (hk : kc ≤ X.R.cells ∧ ks ≤ X.R.slots) (K : ∀ N1 N2, Rel N1 N2 → GoP X (PL X N1 N2) kc ks 1706 [some (.ref b), some (.ref (X.B + 0)), some (.ref (X.B + nC + 0)), some (.int i)] []) : GoP X (PL X M1 M2) kc ks 1171 [some (.ref b), some (.ref (X.B + 0)), some (.ref (X.B + nC + 0)), some (.int i)] [] := by
  obtain ⟨N1, N2, r, e1, e2, hR2⟩ := eq_theft hR (xs (i + 1).toNatClampNeg) (xs (i + 2).toNatClampNeg)
  refine p_aload_n (i := 1) hX e_L_law_1171 rfl rfl ?_
  refine p_aload_n (i := 0) hX e_L_law_1172 rfl rfl ?_
  refine p_iload_n (i := 3) hX e_L_law_1173 rfl rfl ?_
  refine p_iconst (v := 1) hX e_L_law_1174 (by decide +kernel) ?_
  refine p_iadd hX e_L_law_1175 ?_
  refine p_sld hX hs hb hn v1 e_L_law_1176 ?_
  refine p_aload_n (i := 0) hX e_L_law_1177 rfl rfl ?_
  refine p_iload_n (i := 3) hX e_L_law_1178 rfl rfl ?_
  refine p_iconst (v := 2) hX e_L_law_1179 (by decide +kernel) ?_
  refine p_iadd hX e_L_law_1180 ?_
  refine p_sld hX hs hb hn v2 e_L_law_1181 ?_
  refine p_c1 (As := fun _ _ => [.int (xs (i + 1).toNatClampNeg), .int (xs (i + 2).toNatClampNeg)]) hX hA (t_X10_theft e1) e_L_law_1182 cw_X10_theft cv_X10_theft wk_999 ⟨Nat.le_of_ble_eq_true rfl, Nat.le_of_ble_eq_true rfl⟩ (show cls[10]? = some (RX10, TX10, 10) from rfl) rfl (by decide) oC0 rfl rfl (Nat.le_of_ble_eq_true rfl) hk ?_
  refine p_aload_n (i := 2) hX e_L_law_1185 rfl rfl ?_
  refine p_aload_n (i := 0) hX e_L_law_1186 rfl rfl ?_
  refine p_iload_n (i := 3) hX e_L_law_1187 rfl rfl ?_
  refine p_iconst (v := 1) hX e_L_law_1188 (by decide +kernel) ?_
  refine p_iadd hX e_L_law_1189 ?_
  refine p_sld hX hs hb hn v1 e_L_law_1190 ?_
  refine p_aload_n (i := 0) hX e_L_law_1191 rfl rfl ?_
  refine p_iload_n (i := 3) hX e_L_law_1192 rfl rfl ?_
  refine p_iconst (v := 2) hX e_L_law_1193 (by decide +kernel) ?_
  refine p_iadd hX e_L_law_1194 ?_
  refine p_sld hX hs hb hn v2 e_L_law_1195 ?_
  refine p_c2 (As := fun _ _ => [.int (xs (i + 1).toNatClampNeg), .int (xs (i + 2).toNatClampNeg)]) hX hA (t_X11_theft e2) e_L_law_1196 cw_X11_theft cv_X11_theft wk_1671 ⟨Nat.le_of_ble_eq_true rfl, Nat.le_of_ble_eq_true rfl⟩ (show cls[11]? = some (RX11, TX11, 54) from rfl) rfl (by decide) oR0 rfl rfl (Nat.le_of_ble_eq_true rfl) hk ?_
  exact p_icmp_eq hX e_L_law_1199 (fun _ => K _ _ hR2) (fun h => absurd rfl h)
theorem lcs_30 {X : Cx} {b L : Nat} {xs : Nat → Int32} {i : Int32} {M1 M2 : Mem} {kc ks : Nat} (hX : OkX X code R_law 13 480) (hA : ∀ a, X.B ≤ a → X.A a) (hs : va_X b L xs X.s X.H0) (hb : b < X.H0.size) (hn : ¬ X.A b) (v1 : vp_in (i + 1) L) (v2 : vp_in (i + 2) L) (v3 : vp_in (i + 3) L) (v4 : vp_in (i + 4) L) (v5 : vp_in (i + 5) L) (hR : Rel M1 M2) (hk : kc ≤ X.R.cells ∧ ks ≤ X.R.slots) (K : ∀ N1 N2, Rel N1 N2 → GoP X (PL X N1 N2) kc ks 1706 [some (.ref b), some (.ref (X.B + 0)), some (.ref (X.B + nC + 0)), some (.int i)] []) : GoP X (PL X M1 M2) kc ks 1204 [some (.ref b), some (.ref (X.B + 0)), some (.ref (X.B + nC + 0)), some (.int i)] [] := by
  obtain ⟨N1, N2, r, e1, e2, hR2⟩ := eq_passed hR (xs (i + 1).toNatClampNeg) (xs (i + 2).toNatClampNeg) (xs (i + 3).toNatClampNeg)
  refine p_aload_n (i := 1) hX e_L_law_1204 rfl rfl ?_
  refine p_aload_n (i := 0) hX e_L_law_1205 rfl rfl ?_
  refine p_iload_n (i := 3) hX e_L_law_1206 rfl rfl ?_
  refine p_iconst (v := 1) hX e_L_law_1207 (by decide +kernel) ?_
  refine p_iadd hX e_L_law_1208 ?_
  refine p_sld hX hs hb hn v1 e_L_law_1209 ?_
  refine p_aload_n (i := 0) hX e_L_law_1210 rfl rfl ?_
  refine p_iload_n (i := 3) hX e_L_law_1211 rfl rfl ?_
  refine p_iconst (v := 2) hX e_L_law_1212 (by decide +kernel) ?_
  refine p_iadd hX e_L_law_1213 ?_
  refine p_sld hX hs hb hn v2 e_L_law_1214 ?_
  refine p_aload_n (i := 0) hX e_L_law_1215 rfl rfl ?_
  refine p_iload_n (i := 3) hX e_L_law_1216 rfl rfl ?_
  refine p_iconst (v := 3) hX e_L_law_1217 (by decide +kernel) ?_
  refine p_iadd hX e_L_law_1218 ?_
  refine p_sld hX hs hb hn v3 e_L_law_1219 ?_
  refine p_c1 (As := fun _ _ => [.int (xs (i + 1).toNatClampNeg), .int (xs (i + 2).toNatClampNeg), .int (xs (i + 3).toNatClampNeg)]) hX hA (t_X10_passed e1) e_L_law_1220 cw_X10_passed cv_X10_passed wk_1014 ⟨Nat.le_of_ble_eq_true rfl, Nat.le_of_ble_eq_true rfl⟩ (show cls[10]? = some (RX10, TX10, 10) from rfl) rfl (by decide) oC0 rfl rfl (Nat.le_of_ble_eq_true rfl) hk ?_
  refine p_aload_n (i := 2) hX e_L_law_1223 rfl rfl ?_
  refine p_aload_n (i := 0) hX e_L_law_1224 rfl rfl ?_
  refine p_iload_n (i := 3) hX e_L_law_1225 rfl rfl ?_
  refine p_iconst (v := 1) hX e_L_law_1226 (by decide +kernel) ?_
  refine p_iadd hX e_L_law_1227 ?_
  refine p_sld hX hs hb hn v1 e_L_law_1228 ?_
  refine p_aload_n (i := 0) hX e_L_law_1229 rfl rfl ?_
  refine p_iload_n (i := 3) hX e_L_law_1230 rfl rfl ?_
  refine p_iconst (v := 2) hX e_L_law_1231 (by decide +kernel) ?_
  refine p_iadd hX e_L_law_1232 ?_
  refine p_sld hX hs hb hn v2 e_L_law_1233 ?_
  refine p_aload_n (i := 0) hX e_L_law_1234 rfl rfl ?_
  refine p_iload_n (i := 3) hX e_L_law_1235 rfl rfl ?_
  refine p_iconst (v := 3) hX e_L_law_1236 (by decide +kernel) ?_
  refine p_iadd hX e_L_law_1237 ?_
  refine p_sld hX hs hb hn v3 e_L_law_1238 ?_
  refine p_c2 (As := fun _ _ => [.int (xs (i + 1).toNatClampNeg), .int (xs (i + 2).toNatClampNeg), .int (xs (i + 3).toNatClampNeg)]) hX hA (t_X11_passed e2) e_L_law_1239 cw_X11_passed cv_X11_passed wk_1676 ⟨Nat.le_of_ble_eq_true rfl, Nat.le_of_ble_eq_true rfl⟩ (show cls[11]? = some (RX11, TX11, 54) from rfl) rfl (by decide) oR0 rfl rfl (Nat.le_of_ble_eq_true rfl) hk ?_
  exact p_icmp_eq hX e_L_law_1242 (fun _ => K _ _ hR2) (fun h => absurd rfl h)
theorem lcs_31 {X : Cx} {b L : Nat} {xs : Nat → Int32} {i : Int32} {M1 M2 : Mem} {kc ks : Nat} (hX : OkX X code R_law 13 480) (hA : ∀ a, X.B ≤ a → X.A a) (hs : va_X b L xs X.s X.H0) (hb : b < X.H0.size) (hn : ¬ X.A b) (v1 : vp_in (i + 1) L) (v2 : vp_in (i + 2) L) (v3 : vp_in (i + 3) L) (v4 : vp_in (i + 4) L) (v5 : vp_in (i + 5) L) (hR : Rel M1 M2) (hk : kc ≤ X.R.cells ∧ ks ≤ X.R.slots) (K : ∀ N1 N2, Rel N1 N2 → GoP X (PL X N1 N2) kc ks 1706 [some (.ref b), some (.ref (X.B + 0)), some (.ref (X.B + nC + 0)), some (.int i)] []) : GoP X (PL X M1 M2) kc ks 1247 [some (.ref b), some (.ref (X.B + 0)), some (.ref (X.B + nC + 0)), some (.int i)] [] := by
  obtain ⟨N1, N2, r, e1, e2, hR2⟩ := eq_harm hR (xs (i + 1).toNatClampNeg) (xs (i + 2).toNatClampNeg)
  refine p_aload_n (i := 1) hX e_L_law_1247 rfl rfl ?_
  refine p_aload_n (i := 0) hX e_L_law_1248 rfl rfl ?_
  refine p_iload_n (i := 3) hX e_L_law_1249 rfl rfl ?_
  refine p_iconst (v := 1) hX e_L_law_1250 (by decide +kernel) ?_
  refine p_iadd hX e_L_law_1251 ?_
  refine p_sld hX hs hb hn v1 e_L_law_1252 ?_
  refine p_aload_n (i := 0) hX e_L_law_1253 rfl rfl ?_
  refine p_iload_n (i := 3) hX e_L_law_1254 rfl rfl ?_
  refine p_iconst (v := 2) hX e_L_law_1255 (by decide +kernel) ?_
  refine p_iadd hX e_L_law_1256 ?_
  refine p_sld hX hs hb hn v2 e_L_law_1257 ?_
  refine p_c1 (As := fun _ _ => [.int (xs (i + 1).toNatClampNeg), .int (xs (i + 2).toNatClampNeg)]) hX hA (t_X10_harm e1) e_L_law_1258 cw_X10_harm cv_X10_harm wk_1019 ⟨Nat.le_of_ble_eq_true rfl, Nat.le_of_ble_eq_true rfl⟩ (show cls[10]? = some (RX10, TX10, 10) from rfl) rfl (by decide) oC0 rfl rfl (Nat.le_of_ble_eq_true rfl) hk ?_
  refine p_aload_n (i := 2) hX e_L_law_1261 rfl rfl ?_
  refine p_aload_n (i := 0) hX e_L_law_1262 rfl rfl ?_
  refine p_iload_n (i := 3) hX e_L_law_1263 rfl rfl ?_
  refine p_iconst (v := 1) hX e_L_law_1264 (by decide +kernel) ?_
  refine p_iadd hX e_L_law_1265 ?_
  refine p_sld hX hs hb hn v1 e_L_law_1266 ?_
  refine p_aload_n (i := 0) hX e_L_law_1267 rfl rfl ?_
  refine p_iload_n (i := 3) hX e_L_law_1268 rfl rfl ?_
  refine p_iconst (v := 2) hX e_L_law_1269 (by decide +kernel) ?_
  refine p_iadd hX e_L_law_1270 ?_
  refine p_sld hX hs hb hn v2 e_L_law_1271 ?_
  refine p_c2 (As := fun _ _ => [.int (xs (i + 1).toNatClampNeg), .int (xs (i + 2).toNatClampNeg)]) hX hA (t_X11_harm e2) e_L_law_1272 cw_X11_harm cv_X11_harm wk_1680 ⟨Nat.le_of_ble_eq_true rfl, Nat.le_of_ble_eq_true rfl⟩ (show cls[11]? = some (RX11, TX11, 54) from rfl) rfl (by decide) oR0 rfl rfl (Nat.le_of_ble_eq_true rfl) hk ?_
  exact p_icmp_eq hX e_L_law_1275 (fun _ => K _ _ hR2) (fun h => absurd rfl h)
theorem lcs_32 {X : Cx} {b L : Nat} {xs : Nat → Int32} {i : Int32} {M1 M2 : Mem} {kc ks : Nat} (hX : OkX X code R_law 13 480) (hA : ∀ a, X.B ≤ a → X.A a) (hs : va_X b L xs X.s X.H0) (hb : b < X.H0.size) (hn : ¬ X.A b) (v1 : vp_in (i + 1) L) (v2 : vp_in (i + 2) L) (v3 : vp_in (i + 3) L) (v4 : vp_in (i + 4) L) (v5 : vp_in (i + 5) L) (hR : Rel M1 M2) (hk : kc ≤ X.R.cells ∧ ks ≤ X.R.slots) (K : ∀ N1 N2, Rel N1 N2 → GoP X (PL X N1 N2) kc ks 1706 [some (.ref b), some (.ref (X.B + 0)), some (.ref (X.B + nC + 0)), some (.int i)] []) : GoP X (PL X M1 M2) kc ks 1280 [some (.ref b), some (.ref (X.B + 0)), some (.ref (X.B + nC + 0)), some (.int i)] [] := by
  obtain ⟨N1, N2, r, e1, e2, hR2⟩ := eq_least hR (xs (i + 1).toNatClampNeg)
  refine p_aload_n (i := 1) hX e_L_law_1280 rfl rfl ?_
  refine p_aload_n (i := 0) hX e_L_law_1281 rfl rfl ?_
  refine p_iload_n (i := 3) hX e_L_law_1282 rfl rfl ?_
  refine p_iconst (v := 1) hX e_L_law_1283 (by decide +kernel) ?_
  refine p_iadd hX e_L_law_1284 ?_
  refine p_sld hX hs hb hn v1 e_L_law_1285 ?_
  refine p_c1 (As := fun _ _ => [.int (xs (i + 1).toNatClampNeg)]) hX hA (t_X10_least e1) e_L_law_1286 cw_X10_least cv_X10_least wk_1029 ⟨Nat.le_of_ble_eq_true rfl, Nat.le_of_ble_eq_true rfl⟩ (show cls[10]? = some (RX10, TX10, 10) from rfl) rfl (by decide) oC0 rfl rfl (Nat.le_of_ble_eq_true rfl) hk ?_
  refine p_aload_n (i := 2) hX e_L_law_1289 rfl rfl ?_
  refine p_aload_n (i := 0) hX e_L_law_1290 rfl rfl ?_
  refine p_iload_n (i := 3) hX e_L_law_1291 rfl rfl ?_
  refine p_iconst (v := 1) hX e_L_law_1292 (by decide +kernel) ?_
  refine p_iadd hX e_L_law_1293 ?_
  refine p_sld hX hs hb hn v1 e_L_law_1294 ?_
  refine p_c2 (As := fun _ _ => [.int (xs (i + 1).toNatClampNeg)]) hX hA (t_X11_least e2) e_L_law_1295 cw_X11_least cv_X11_least wk_1689 ⟨Nat.le_of_ble_eq_true rfl, Nat.le_of_ble_eq_true rfl⟩ (show cls[11]? = some (RX11, TX11, 54) from rfl) rfl (by decide) oR0 rfl rfl (Nat.le_of_ble_eq_true rfl) hk ?_
  exact p_icmp_eq hX e_L_law_1298 (fun _ => K _ _ hR2) (fun h => absurd rfl h)
theorem lcs_33 {X : Cx} {b L : Nat} {xs : Nat → Int32} {i : Int32} {M1 M2 : Mem} {kc ks : Nat} (hX : OkX X code R_law 13 480) (hA : ∀ a, X.B ≤ a → X.A a) (hs : va_X b L xs X.s X.H0) (hb : b < X.H0.size) (hn : ¬ X.A b) (v1 : vp_in (i + 1) L) (v2 : vp_in (i + 2) L) (v3 : vp_in (i + 3) L) (v4 : vp_in (i + 4) L) (v5 : vp_in (i + 5) L) (hR : Rel M1 M2) (hk : kc ≤ X.R.cells ∧ ks ≤ X.R.slots) (K : ∀ N1 N2, Rel N1 N2 → GoP X (PL X N1 N2) kc ks 1706 [some (.ref b), some (.ref (X.B + 0)), some (.ref (X.B + nC + 0)), some (.int i)] []) : GoP X (PL X M1 M2) kc ks 1303 [some (.ref b), some (.ref (X.B + 0)), some (.ref (X.B + nC + 0)), some (.int i)] [] := by
  obtain ⟨N1, N2, r, e1, e2, hR2⟩ := eq_turn hR (xs (i + 1).toNatClampNeg) (xs (i + 2).toNatClampNeg)
  refine p_aload_n (i := 1) hX e_L_law_1303 rfl rfl ?_
  refine p_aload_n (i := 0) hX e_L_law_1304 rfl rfl ?_
  refine p_iload_n (i := 3) hX e_L_law_1305 rfl rfl ?_
  refine p_iconst (v := 1) hX e_L_law_1306 (by decide +kernel) ?_
  refine p_iadd hX e_L_law_1307 ?_
  refine p_sld hX hs hb hn v1 e_L_law_1308 ?_
  refine p_aload_n (i := 0) hX e_L_law_1309 rfl rfl ?_
  refine p_iload_n (i := 3) hX e_L_law_1310 rfl rfl ?_
  refine p_iconst (v := 2) hX e_L_law_1311 (by decide +kernel) ?_
  refine p_iadd hX e_L_law_1312 ?_
  refine p_sld hX hs hb hn v2 e_L_law_1313 ?_
  refine p_c1 (As := fun _ _ => [.int (xs (i + 1).toNatClampNeg), .int (xs (i + 2).toNatClampNeg)]) hX hA (t_X10_turn e1) e_L_law_1314 cw_X10_turn cv_X10_turn wk_1033 ⟨Nat.le_of_ble_eq_true rfl, Nat.le_of_ble_eq_true rfl⟩ (show cls[10]? = some (RX10, TX10, 10) from rfl) rfl (by decide) oC0 rfl rfl (Nat.le_of_ble_eq_true rfl) hk ?_
  refine p_aload_n (i := 2) hX e_L_law_1317 rfl rfl ?_
  refine p_aload_n (i := 0) hX e_L_law_1318 rfl rfl ?_
  refine p_iload_n (i := 3) hX e_L_law_1319 rfl rfl ?_
  refine p_iconst (v := 1) hX e_L_law_1320 (by decide +kernel) ?_
  refine p_iadd hX e_L_law_1321 ?_
  refine p_sld hX hs hb hn v1 e_L_law_1322 ?_
  refine p_aload_n (i := 0) hX e_L_law_1323 rfl rfl ?_
  refine p_iload_n (i := 3) hX e_L_law_1324 rfl rfl ?_
  refine p_iconst (v := 2) hX e_L_law_1325 (by decide +kernel) ?_
  refine p_iadd hX e_L_law_1326 ?_
  refine p_sld hX hs hb hn v2 e_L_law_1327 ?_
  refine p_c2 (As := fun _ _ => [.int (xs (i + 1).toNatClampNeg), .int (xs (i + 2).toNatClampNeg)]) hX hA (t_X11_turn e2) e_L_law_1328 cw_X11_turn cv_X11_turn wk_1693 ⟨Nat.le_of_ble_eq_true rfl, Nat.le_of_ble_eq_true rfl⟩ (show cls[11]? = some (RX11, TX11, 54) from rfl) rfl (by decide) oR0 rfl rfl (Nat.le_of_ble_eq_true rfl) hk ?_
  exact p_icmp_eq hX e_L_law_1331 (fun _ => K _ _ hR2) (fun h => absurd rfl h)
theorem lcs_34 {X : Cx} {b L : Nat} {xs : Nat → Int32} {i : Int32} {M1 M2 : Mem} {kc ks : Nat} (hX : OkX X code R_law 13 480) (hA : ∀ a, X.B ≤ a → X.A a) (hs : va_X b L xs X.s X.H0) (hb : b < X.H0.size) (hn : ¬ X.A b) (v1 : vp_in (i + 1) L) (v2 : vp_in (i + 2) L) (v3 : vp_in (i + 3) L) (v4 : vp_in (i + 4) L) (v5 : vp_in (i + 5) L) (hR : Rel M1 M2) (hk : kc ≤ X.R.cells ∧ ks ≤ X.R.slots) (K : ∀ N1 N2, Rel N1 N2 → GoP X (PL X N1 N2) kc ks 1706 [some (.ref b), some (.ref (X.B + 0)), some (.ref (X.B + nC + 0)), some (.int i)] []) : GoP X (PL X M1 M2) kc ks 1336 [some (.ref b), some (.ref (X.B + 0)), some (.ref (X.B + nC + 0)), some (.int i)] [] := by
  obtain ⟨N2, r, e1, e2, hR2⟩ := eqV_again hR 
  refine p_aload_n (i := 1) hX e_L_law_1336 rfl rfl ?_
  refine p_c1 (As := fun _ _ => []) hX hA (t_X10_again e1) e_L_law_1337 cw_X10_again cv_X10_again wk_1037 ⟨Nat.le_of_ble_eq_true rfl, Nat.le_of_ble_eq_true rfl⟩ (show cls[10]? = some (RX10, TX10, 10) from rfl) rfl (by decide) oC0 rfl rfl (Nat.le_of_ble_eq_true rfl) hk ?_
  refine p_aload_n (i := 2) hX e_L_law_1340 rfl rfl ?_
  refine p_c2 (As := fun _ _ => []) hX hA (t_X11_again e2) e_L_law_1341 cw_X11_again cv_X11_again wk_1698 ⟨Nat.le_of_ble_eq_true rfl, Nat.le_of_ble_eq_true rfl⟩ (show cls[11]? = some (RX11, TX11, 54) from rfl) rfl (by decide) oR0 rfl rfl (Nat.le_of_ble_eq_true rfl) hk ?_
  exact p_icmp_eq hX e_L_law_1344 (fun _ => K _ _ hR2) (fun h => absurd rfl h)
theorem lcs_35 {X : Cx} {b L : Nat} {xs : Nat → Int32} {i : Int32} {M1 M2 : Mem} {kc ks : Nat} (hX : OkX X code R_law 13 480) (hA : ∀ a, X.B ≤ a → X.A a) (hs : va_X b L xs X.s X.H0) (hb : b < X.H0.size) (hn : ¬ X.A b) (v1 : vp_in (i + 1) L) (v2 : vp_in (i + 2) L) (v3 : vp_in (i + 3) L) (v4 : vp_in (i + 4) L) (v5 : vp_in (i + 5) L) (hR : Rel M1 M2) (hk : kc ≤ X.R.cells ∧ ks ≤ X.R.slots) (K : ∀ N1 N2, Rel N1 N2 → GoP X (PL X N1 N2) kc ks 1706 [some (.ref b), some (.ref (X.B + 0)), some (.ref (X.B + nC + 0)), some (.int i)] []) : GoP X (PL X M1 M2) kc ks 1349 [some (.ref b), some (.ref (X.B + 0)), some (.ref (X.B + nC + 0)), some (.int i)] [] := by
  obtain ⟨N1, N2, r, e1, e2, hR2⟩ := eq_drawn hR (xs (i + 1).toNatClampNeg) (xs (i + 2).toNatClampNeg)
  refine p_aload_n (i := 1) hX e_L_law_1349 rfl rfl ?_
  refine p_aload_n (i := 0) hX e_L_law_1350 rfl rfl ?_
  refine p_iload_n (i := 3) hX e_L_law_1351 rfl rfl ?_
  refine p_iconst (v := 1) hX e_L_law_1352 (by decide +kernel) ?_
  refine p_iadd hX e_L_law_1353 ?_
  refine p_sld hX hs hb hn v1 e_L_law_1354 ?_
  refine p_aload_n (i := 0) hX e_L_law_1355 rfl rfl ?_
  refine p_iload_n (i := 3) hX e_L_law_1356 rfl rfl ?_
  refine p_iconst (v := 2) hX e_L_law_1357 (by decide +kernel) ?_
  refine p_iadd hX e_L_law_1358 ?_
  refine p_sld hX hs hb hn v2 e_L_law_1359 ?_
  refine p_c1 (As := fun _ _ => [.int (xs (i + 1).toNatClampNeg), .int (xs (i + 2).toNatClampNeg)]) hX hA (t_X10_drawn e1) e_L_law_1360 cw_X10_drawn cv_X10_drawn wk_1045 ⟨Nat.le_of_ble_eq_true rfl, Nat.le_of_ble_eq_true rfl⟩ (show cls[10]? = some (RX10, TX10, 10) from rfl) rfl (by decide) oC0 rfl rfl (Nat.le_of_ble_eq_true rfl) hk ?_
  refine p_aload_n (i := 2) hX e_L_law_1363 rfl rfl ?_
  refine p_aload_n (i := 0) hX e_L_law_1364 rfl rfl ?_
  refine p_iload_n (i := 3) hX e_L_law_1365 rfl rfl ?_
  refine p_iconst (v := 1) hX e_L_law_1366 (by decide +kernel) ?_
  refine p_iadd hX e_L_law_1367 ?_
  refine p_sld hX hs hb hn v1 e_L_law_1368 ?_
  refine p_aload_n (i := 0) hX e_L_law_1369 rfl rfl ?_
  refine p_iload_n (i := 3) hX e_L_law_1370 rfl rfl ?_
  refine p_iconst (v := 2) hX e_L_law_1371 (by decide +kernel) ?_
  refine p_iadd hX e_L_law_1372 ?_
  refine p_sld hX hs hb hn v2 e_L_law_1373 ?_
  refine p_c2 (As := fun _ _ => [.int (xs (i + 1).toNatClampNeg), .int (xs (i + 2).toNatClampNeg)]) hX hA (t_X11_drawn e2) e_L_law_1374 cw_X11_drawn cv_X11_drawn wk_1706 ⟨Nat.le_of_ble_eq_true rfl, Nat.le_of_ble_eq_true rfl⟩ (show cls[11]? = some (RX11, TX11, 54) from rfl) rfl (by decide) oR0 rfl rfl (Nat.le_of_ble_eq_true rfl) hk ?_
  exact p_icmp_eq hX e_L_law_1377 (fun _ => K _ _ hR2) (fun h => absurd rfl h)
theorem lcs_36 {X : Cx} {b L : Nat} {xs : Nat → Int32} {i : Int32} {M1 M2 : Mem} {kc ks : Nat} (hX : OkX X code R_law 13 480) (hA : ∀ a, X.B ≤ a → X.A a) (hs : va_X b L xs X.s X.H0) (hb : b < X.H0.size) (hn : ¬ X.A b) (v1 : vp_in (i + 1) L) (v2 : vp_in (i + 2) L) (v3 : vp_in (i + 3) L) (v4 : vp_in (i + 4) L) (v5 : vp_in (i + 5) L) (hR : Rel M1 M2) (hk : kc ≤ X.R.cells ∧ ks ≤ X.R.slots) (K : ∀ N1 N2, Rel N1 N2 → GoP X (PL X N1 N2) kc ks 1706 [some (.ref b), some (.ref (X.B + 0)), some (.ref (X.B + nC + 0)), some (.int i)] []) : GoP X (PL X M1 M2) kc ks 1382 [some (.ref b), some (.ref (X.B + 0)), some (.ref (X.B + nC + 0)), some (.int i)] [] := by
  obtain ⟨N1, N2, r, e1, e2, hR2⟩ := eq_chance hR (xs (i + 1).toNatClampNeg) (xs (i + 2).toNatClampNeg) (xs (i + 3).toNatClampNeg) (xs (i + 4).toNatClampNeg)
  refine p_aload_n (i := 1) hX e_L_law_1382 rfl rfl ?_
  refine p_aload_n (i := 0) hX e_L_law_1383 rfl rfl ?_
  refine p_iload_n (i := 3) hX e_L_law_1384 rfl rfl ?_
  refine p_iconst (v := 1) hX e_L_law_1385 (by decide +kernel) ?_
  refine p_iadd hX e_L_law_1386 ?_
  refine p_sld hX hs hb hn v1 e_L_law_1387 ?_
  refine p_aload_n (i := 0) hX e_L_law_1388 rfl rfl ?_
  refine p_iload_n (i := 3) hX e_L_law_1389 rfl rfl ?_
  refine p_iconst (v := 2) hX e_L_law_1390 (by decide +kernel) ?_
  refine p_iadd hX e_L_law_1391 ?_
  refine p_sld hX hs hb hn v2 e_L_law_1392 ?_
  refine p_aload_n (i := 0) hX e_L_law_1393 rfl rfl ?_
  refine p_iload_n (i := 3) hX e_L_law_1394 rfl rfl ?_
  refine p_iconst (v := 3) hX e_L_law_1395 (by decide +kernel) ?_
  refine p_iadd hX e_L_law_1396 ?_
  refine p_sld hX hs hb hn v3 e_L_law_1397 ?_
  refine p_aload_n (i := 0) hX e_L_law_1398 rfl rfl ?_
  refine p_iload_n (i := 3) hX e_L_law_1399 rfl rfl ?_
  refine p_iconst (v := 4) hX e_L_law_1400 (by decide +kernel) ?_
  refine p_iadd hX e_L_law_1401 ?_
  refine p_sld hX hs hb hn v4 e_L_law_1402 ?_
  refine p_c1 (As := fun _ _ => [.int (xs (i + 1).toNatClampNeg), .int (xs (i + 2).toNatClampNeg), .int (xs (i + 3).toNatClampNeg), .int (xs (i + 4).toNatClampNeg)]) hX hA (t_X10_chance e1) e_L_law_1403 cw_X10_chance cv_X10_chance wk_1062 ⟨Nat.le_of_ble_eq_true rfl, Nat.le_of_ble_eq_true rfl⟩ (show cls[10]? = some (RX10, TX10, 10) from rfl) rfl (by decide) oC0 rfl rfl (Nat.le_of_ble_eq_true rfl) hk ?_
  refine p_aload_n (i := 2) hX e_L_law_1406 rfl rfl ?_
  refine p_aload_n (i := 0) hX e_L_law_1407 rfl rfl ?_
  refine p_iload_n (i := 3) hX e_L_law_1408 rfl rfl ?_
  refine p_iconst (v := 1) hX e_L_law_1409 (by decide +kernel) ?_
  refine p_iadd hX e_L_law_1410 ?_
  refine p_sld hX hs hb hn v1 e_L_law_1411 ?_
  refine p_aload_n (i := 0) hX e_L_law_1412 rfl rfl ?_
  refine p_iload_n (i := 3) hX e_L_law_1413 rfl rfl ?_
  refine p_iconst (v := 2) hX e_L_law_1414 (by decide +kernel) ?_
  refine p_iadd hX e_L_law_1415 ?_
  refine p_sld hX hs hb hn v2 e_L_law_1416 ?_
  refine p_aload_n (i := 0) hX e_L_law_1417 rfl rfl ?_
  refine p_iload_n (i := 3) hX e_L_law_1418 rfl rfl ?_
  refine p_iconst (v := 3) hX e_L_law_1419 (by decide +kernel) ?_
  refine p_iadd hX e_L_law_1420 ?_
  refine p_sld hX hs hb hn v3 e_L_law_1421 ?_
  refine p_aload_n (i := 0) hX e_L_law_1422 rfl rfl ?_
  refine p_iload_n (i := 3) hX e_L_law_1423 rfl rfl ?_
  refine p_iconst (v := 4) hX e_L_law_1424 (by decide +kernel) ?_
  refine p_iadd hX e_L_law_1425 ?_
  refine p_sld hX hs hb hn v4 e_L_law_1426 ?_
  refine p_c2 (As := fun _ _ => [.int (xs (i + 1).toNatClampNeg), .int (xs (i + 2).toNatClampNeg), .int (xs (i + 3).toNatClampNeg), .int (xs (i + 4).toNatClampNeg)]) hX hA (t_X11_chance e2) e_L_law_1427 cw_X11_chance cv_X11_chance wk_1719 ⟨Nat.le_of_ble_eq_true rfl, Nat.le_of_ble_eq_true rfl⟩ (show cls[11]? = some (RX11, TX11, 54) from rfl) rfl (by decide) oR0 rfl rfl (Nat.le_of_ble_eq_true rfl) hk ?_
  exact p_icmp_eq hX e_L_law_1430 (fun _ => K _ _ hR2) (fun h => absurd rfl h)
theorem lcs_37 {X : Cx} {b L : Nat} {xs : Nat → Int32} {i : Int32} {M1 M2 : Mem} {kc ks : Nat} (hX : OkX X code R_law 13 480) (hA : ∀ a, X.B ≤ a → X.A a) (hs : va_X b L xs X.s X.H0) (hb : b < X.H0.size) (hn : ¬ X.A b) (v1 : vp_in (i + 1) L) (v2 : vp_in (i + 2) L) (v3 : vp_in (i + 3) L) (v4 : vp_in (i + 4) L) (v5 : vp_in (i + 5) L) (hR : Rel M1 M2) (hk : kc ≤ X.R.cells ∧ ks ≤ X.R.slots) (K : ∀ N1 N2, Rel N1 N2 → GoP X (PL X N1 N2) kc ks 1706 [some (.ref b), some (.ref (X.B + 0)), some (.ref (X.B + nC + 0)), some (.int i)] []) : GoP X (PL X M1 M2) kc ks 1435 [some (.ref b), some (.ref (X.B + 0)), some (.ref (X.B + nC + 0)), some (.int i)] [] := by
  obtain ⟨N1, N2, r, e1, e2, hR2⟩ := eq_judge hR (xs (i + 1).toNatClampNeg)
  refine p_aload_n (i := 1) hX e_L_law_1435 rfl rfl ?_
  refine p_aload_n (i := 0) hX e_L_law_1436 rfl rfl ?_
  refine p_iload_n (i := 3) hX e_L_law_1437 rfl rfl ?_
  refine p_iconst (v := 1) hX e_L_law_1438 (by decide +kernel) ?_
  refine p_iadd hX e_L_law_1439 ?_
  refine p_sld hX hs hb hn v1 e_L_law_1440 ?_
  refine p_c1 (As := fun _ _ => [.int (xs (i + 1).toNatClampNeg)]) hX hA (t_X10_judge e1) e_L_law_1441 cw_X10_judge cv_X10_judge wk_1066 ⟨Nat.le_of_ble_eq_true rfl, Nat.le_of_ble_eq_true rfl⟩ (show cls[10]? = some (RX10, TX10, 10) from rfl) rfl (by decide) oC0 rfl rfl (Nat.le_of_ble_eq_true rfl) hk ?_
  refine p_aload_n (i := 2) hX e_L_law_1444 rfl rfl ?_
  refine p_aload_n (i := 0) hX e_L_law_1445 rfl rfl ?_
  refine p_iload_n (i := 3) hX e_L_law_1446 rfl rfl ?_
  refine p_iconst (v := 1) hX e_L_law_1447 (by decide +kernel) ?_
  refine p_iadd hX e_L_law_1448 ?_
  refine p_sld hX hs hb hn v1 e_L_law_1449 ?_
  refine p_c2 (As := fun _ _ => [.int (xs (i + 1).toNatClampNeg)]) hX hA (t_X11_judge e2) e_L_law_1450 cw_X11_judge cv_X11_judge wk_1723 ⟨Nat.le_of_ble_eq_true rfl, Nat.le_of_ble_eq_true rfl⟩ (show cls[11]? = some (RX11, TX11, 54) from rfl) rfl (by decide) oR0 rfl rfl (Nat.le_of_ble_eq_true rfl) hk ?_
  exact p_icmp_eq hX e_L_law_1453 (fun _ => K _ _ hR2) (fun h => absurd rfl h)
theorem lcs_38 {X : Cx} {b L : Nat} {xs : Nat → Int32} {i : Int32} {M1 M2 : Mem} {kc ks : Nat} (hX : OkX X code R_law 13 480) (hA : ∀ a, X.B ≤ a → X.A a) (hs : va_X b L xs X.s X.H0) (hb : b < X.H0.size) (hn : ¬ X.A b) (v1 : vp_in (i + 1) L) (v2 : vp_in (i + 2) L) (v3 : vp_in (i + 3) L) (v4 : vp_in (i + 4) L) (v5 : vp_in (i + 5) L) (hR : Rel M1 M2) (hk : kc ≤ X.R.cells ∧ ks ≤ X.R.slots) (K : ∀ N1 N2, Rel N1 N2 → GoP X (PL X N1 N2) kc ks 1706 [some (.ref b), some (.ref (X.B + 0)), some (.ref (X.B + nC + 0)), some (.int i)] []) : GoP X (PL X M1 M2) kc ks 1458 [some (.ref b), some (.ref (X.B + 0)), some (.ref (X.B + nC + 0)), some (.int i)] [] := by
  obtain ⟨N2, r, e1, e2, hR2⟩ := eqV_count hR (xs (i + 1).toNatClampNeg)
  refine p_aload_n (i := 1) hX e_L_law_1458 rfl rfl ?_
  refine p_aload_n (i := 0) hX e_L_law_1459 rfl rfl ?_
  refine p_iload_n (i := 3) hX e_L_law_1460 rfl rfl ?_
  refine p_iconst (v := 1) hX e_L_law_1461 (by decide +kernel) ?_
  refine p_iadd hX e_L_law_1462 ?_
  refine p_sld hX hs hb hn v1 e_L_law_1463 ?_
  refine p_c1 (As := fun _ _ => [.int (xs (i + 1).toNatClampNeg)]) hX hA (t_X10_count e1) e_L_law_1464 cw_X10_count cv_X10_count wk_1070 ⟨Nat.le_of_ble_eq_true rfl, Nat.le_of_ble_eq_true rfl⟩ (show cls[10]? = some (RX10, TX10, 10) from rfl) rfl (by decide) oC0 rfl rfl (Nat.le_of_ble_eq_true rfl) hk ?_
  refine p_aload_n (i := 2) hX e_L_law_1467 rfl rfl ?_
  refine p_aload_n (i := 0) hX e_L_law_1468 rfl rfl ?_
  refine p_iload_n (i := 3) hX e_L_law_1469 rfl rfl ?_
  refine p_iconst (v := 1) hX e_L_law_1470 (by decide +kernel) ?_
  refine p_iadd hX e_L_law_1471 ?_
  refine p_sld hX hs hb hn v1 e_L_law_1472 ?_
  refine p_c2 (As := fun _ _ => [.int (xs (i + 1).toNatClampNeg)]) hX hA (t_X11_count e2) e_L_law_1473 cw_X11_count cv_X11_count wk_1727 ⟨Nat.le_of_ble_eq_true rfl, Nat.le_of_ble_eq_true rfl⟩ (show cls[11]? = some (RX11, TX11, 54) from rfl) rfl (by decide) oR0 rfl rfl (Nat.le_of_ble_eq_true rfl) hk ?_
  exact p_icmp_eq hX e_L_law_1476 (fun _ => K _ _ hR2) (fun h => absurd rfl h)
theorem lcs_39 {X : Cx} {b L : Nat} {xs : Nat → Int32} {i : Int32} {M1 M2 : Mem} {kc ks : Nat} (hX : OkX X code R_law 13 480) (hA : ∀ a, X.B ≤ a → X.A a) (hs : va_X b L xs X.s X.H0) (hb : b < X.H0.size) (hn : ¬ X.A b) (v1 : vp_in (i + 1) L) (v2 : vp_in (i + 2) L) (v3 : vp_in (i + 3) L) (v4 : vp_in (i + 4) L) (v5 : vp_in (i + 5) L) (hR : Rel M1 M2) (hk : kc ≤ X.R.cells ∧ ks ≤ X.R.slots) (K : ∀ N1 N2, Rel N1 N2 → GoP X (PL X N1 N2) kc ks 1706 [some (.ref b), some (.ref (X.B + 0)), some (.ref (X.B + nC + 0)), some (.int i)] []) : GoP X (PL X M1 M2) kc ks 1481 [some (.ref b), some (.ref (X.B + 0)), some (.ref (X.B + nC + 0)), some (.int i)] [] := by
  obtain ⟨N1, N2, r, e1, e2, hR2⟩ := eq_keep hR (xs (i + 1).toNatClampNeg)
  refine p_aload_n (i := 1) hX e_L_law_1481 rfl rfl ?_
  refine p_aload_n (i := 0) hX e_L_law_1482 rfl rfl ?_
  refine p_iload_n (i := 3) hX e_L_law_1483 rfl rfl ?_
  refine p_iconst (v := 1) hX e_L_law_1484 (by decide +kernel) ?_
  refine p_iadd hX e_L_law_1485 ?_
  refine p_sld hX hs hb hn v1 e_L_law_1486 ?_
  refine p_c1 (As := fun _ _ => [.int (xs (i + 1).toNatClampNeg)]) hX hA (t_X10_keep e1) e_L_law_1487 cw_X10_keep cv_X10_keep wk_1083 ⟨Nat.le_of_ble_eq_true rfl, Nat.le_of_ble_eq_true rfl⟩ (show cls[10]? = some (RX10, TX10, 10) from rfl) rfl (by decide) oC0 rfl rfl (Nat.le_of_ble_eq_true rfl) hk ?_
  refine p_aload_n (i := 2) hX e_L_law_1490 rfl rfl ?_
  refine p_aload_n (i := 0) hX e_L_law_1491 rfl rfl ?_
  refine p_iload_n (i := 3) hX e_L_law_1492 rfl rfl ?_
  refine p_iconst (v := 1) hX e_L_law_1493 (by decide +kernel) ?_
  refine p_iadd hX e_L_law_1494 ?_
  refine p_sld hX hs hb hn v1 e_L_law_1495 ?_
  refine p_c2 (As := fun _ _ => [.int (xs (i + 1).toNatClampNeg)]) hX hA (t_X11_keep e2) e_L_law_1496 cw_X11_keep cv_X11_keep wk_1731 ⟨Nat.le_of_ble_eq_true rfl, Nat.le_of_ble_eq_true rfl⟩ (show cls[11]? = some (RX11, TX11, 54) from rfl) rfl (by decide) oR0 rfl rfl (Nat.le_of_ble_eq_true rfl) hk ?_
  exact p_icmp_eq hX e_L_law_1499 (fun _ => K _ _ hR2) (fun h => absurd rfl h)
theorem lcs_40 {X : Cx} {b L : Nat} {xs : Nat → Int32} {i : Int32} {M1 M2 : Mem} {kc ks : Nat} (hX : OkX X code R_law 13 480) (hA : ∀ a, X.B ≤ a → X.A a) (hs : va_X b L xs X.s X.H0) (hb : b < X.H0.size) (hn : ¬ X.A b) (v1 : vp_in (i + 1) L) (v2 : vp_in (i + 2) L) (v3 : vp_in (i + 3) L) (v4 : vp_in (i + 4) L) (v5 : vp_in (i + 5) L) (hR : Rel M1 M2) (hk : kc ≤ X.R.cells ∧ ks ≤ X.R.slots) (K : ∀ N1 N2, Rel N1 N2 → GoP X (PL X N1 N2) kc ks 1706 [some (.ref b), some (.ref (X.B + 0)), some (.ref (X.B + nC + 0)), some (.int i)] []) : GoP X (PL X M1 M2) kc ks 1504 [some (.ref b), some (.ref (X.B + 0)), some (.ref (X.B + nC + 0)), some (.int i)] [] := by
  obtain ⟨N1, N2, r, e1, e2, hR2⟩ := eq_back hR (xs (i + 1).toNatClampNeg)
  refine p_aload_n (i := 1) hX e_L_law_1504 rfl rfl ?_
  refine p_aload_n (i := 0) hX e_L_law_1505 rfl rfl ?_
  refine p_iload_n (i := 3) hX e_L_law_1506 rfl rfl ?_
  refine p_iconst (v := 1) hX e_L_law_1507 (by decide +kernel) ?_
  refine p_iadd hX e_L_law_1508 ?_
  refine p_sld hX hs hb hn v1 e_L_law_1509 ?_
  refine p_c1 (As := fun _ _ => [.int (xs (i + 1).toNatClampNeg)]) hX hA (t_X10_back e1) e_L_law_1510 cw_X10_back cv_X10_back wk_1087 ⟨Nat.le_of_ble_eq_true rfl, Nat.le_of_ble_eq_true rfl⟩ (show cls[10]? = some (RX10, TX10, 10) from rfl) rfl (by decide) oC0 rfl rfl (Nat.le_of_ble_eq_true rfl) hk ?_
  refine p_aload_n (i := 2) hX e_L_law_1513 rfl rfl ?_
  refine p_aload_n (i := 0) hX e_L_law_1514 rfl rfl ?_
  refine p_iload_n (i := 3) hX e_L_law_1515 rfl rfl ?_
  refine p_iconst (v := 1) hX e_L_law_1516 (by decide +kernel) ?_
  refine p_iadd hX e_L_law_1517 ?_
  refine p_sld hX hs hb hn v1 e_L_law_1518 ?_
  refine p_c2 (As := fun _ _ => [.int (xs (i + 1).toNatClampNeg)]) hX hA (t_X11_back e2) e_L_law_1519 cw_X11_back cv_X11_back wk_1735 ⟨Nat.le_of_ble_eq_true rfl, Nat.le_of_ble_eq_true rfl⟩ (show cls[11]? = some (RX11, TX11, 54) from rfl) rfl (by decide) oR0 rfl rfl (Nat.le_of_ble_eq_true rfl) hk ?_
  exact p_icmp_eq hX e_L_law_1522 (fun _ => K _ _ hR2) (fun h => absurd rfl h)
theorem lcs_41 {X : Cx} {b L : Nat} {xs : Nat → Int32} {i : Int32} {M1 M2 : Mem} {kc ks : Nat} (hX : OkX X code R_law 13 480) (hA : ∀ a, X.B ≤ a → X.A a) (hs : va_X b L xs X.s X.H0) (hb : b < X.H0.size) (hn : ¬ X.A b) (v1 : vp_in (i + 1) L) (v2 : vp_in (i + 2) L) (v3 : vp_in (i + 3) L) (v4 : vp_in (i + 4) L) (v5 : vp_in (i + 5) L) (hR : Rel M1 M2) (hk : kc ≤ X.R.cells ∧ ks ≤ X.R.slots) (K : ∀ N1 N2, Rel N1 N2 → GoP X (PL X N1 N2) kc ks 1706 [some (.ref b), some (.ref (X.B + 0)), some (.ref (X.B + nC + 0)), some (.int i)] []) : GoP X (PL X M1 M2) kc ks 1527 [some (.ref b), some (.ref (X.B + 0)), some (.ref (X.B + nC + 0)), some (.int i)] [] := by
  obtain ⟨N1, N2, r, e1, e2, hR2⟩ := eq_row hR (xs (i + 1).toNatClampNeg) (xs (i + 2).toNatClampNeg) (xs (i + 3).toNatClampNeg)
  refine p_aload_n (i := 1) hX e_L_law_1527 rfl rfl ?_
  refine p_aload_n (i := 0) hX e_L_law_1528 rfl rfl ?_
  refine p_iload_n (i := 3) hX e_L_law_1529 rfl rfl ?_
  refine p_iconst (v := 1) hX e_L_law_1530 (by decide +kernel) ?_
  refine p_iadd hX e_L_law_1531 ?_
  refine p_sld hX hs hb hn v1 e_L_law_1532 ?_
  refine p_aload_n (i := 0) hX e_L_law_1533 rfl rfl ?_
  refine p_iload_n (i := 3) hX e_L_law_1534 rfl rfl ?_
  refine p_iconst (v := 2) hX e_L_law_1535 (by decide +kernel) ?_
  refine p_iadd hX e_L_law_1536 ?_
  refine p_sld hX hs hb hn v2 e_L_law_1537 ?_
  refine p_aload_n (i := 0) hX e_L_law_1538 rfl rfl ?_
  refine p_iload_n (i := 3) hX e_L_law_1539 rfl rfl ?_
  refine p_iconst (v := 3) hX e_L_law_1540 (by decide +kernel) ?_
  refine p_iadd hX e_L_law_1541 ?_
  refine p_sld hX hs hb hn v3 e_L_law_1542 ?_
  refine p_c1 (As := fun _ _ => [.int (xs (i + 1).toNatClampNeg), .int (xs (i + 2).toNatClampNeg), .int (xs (i + 3).toNatClampNeg)]) hX hA (t_X10_row e1) e_L_law_1543 cw_X10_row cv_X10_row wk_1091 ⟨Nat.le_of_ble_eq_true rfl, Nat.le_of_ble_eq_true rfl⟩ (show cls[10]? = some (RX10, TX10, 10) from rfl) rfl (by decide) oC0 rfl rfl (Nat.le_of_ble_eq_true rfl) hk ?_
  refine p_aload_n (i := 2) hX e_L_law_1546 rfl rfl ?_
  refine p_aload_n (i := 0) hX e_L_law_1547 rfl rfl ?_
  refine p_iload_n (i := 3) hX e_L_law_1548 rfl rfl ?_
  refine p_iconst (v := 1) hX e_L_law_1549 (by decide +kernel) ?_
  refine p_iadd hX e_L_law_1550 ?_
  refine p_sld hX hs hb hn v1 e_L_law_1551 ?_
  refine p_aload_n (i := 0) hX e_L_law_1552 rfl rfl ?_
  refine p_iload_n (i := 3) hX e_L_law_1553 rfl rfl ?_
  refine p_iconst (v := 2) hX e_L_law_1554 (by decide +kernel) ?_
  refine p_iadd hX e_L_law_1555 ?_
  refine p_sld hX hs hb hn v2 e_L_law_1556 ?_
  refine p_aload_n (i := 0) hX e_L_law_1557 rfl rfl ?_
  refine p_iload_n (i := 3) hX e_L_law_1558 rfl rfl ?_
  refine p_iconst (v := 3) hX e_L_law_1559 (by decide +kernel) ?_
  refine p_iadd hX e_L_law_1560 ?_
  refine p_sld hX hs hb hn v3 e_L_law_1561 ?_
  refine p_c2 (As := fun _ _ => [.int (xs (i + 1).toNatClampNeg), .int (xs (i + 2).toNatClampNeg), .int (xs (i + 3).toNatClampNeg)]) hX hA (t_X11_row e2) e_L_law_1562 cw_X11_row cv_X11_row wk_1286 ⟨Nat.le_of_ble_eq_true rfl, Nat.le_of_ble_eq_true rfl⟩ (show cls[11]? = some (RX11, TX11, 54) from rfl) rfl (by decide) oR0 rfl rfl (Nat.le_of_ble_eq_true rfl) hk ?_
  exact p_icmp_eq hX e_L_law_1565 (fun _ => K _ _ hR2) (fun h => absurd rfl h)
theorem lcs_42 {X : Cx} {b L : Nat} {xs : Nat → Int32} {i : Int32} {M1 M2 : Mem} {kc ks : Nat} (hX : OkX X code R_law 13 480) (hA : ∀ a, X.B ≤ a → X.A a) (hs : va_X b L xs X.s X.H0) (hb : b < X.H0.size) (hn : ¬ X.A b) (v1 : vp_in (i + 1) L) (v2 : vp_in (i + 2) L) (v3 : vp_in (i + 3) L) (v4 : vp_in (i + 4) L) (v5 : vp_in (i + 5) L) (hR : Rel M1 M2) (hk : kc ≤ X.R.cells ∧ ks ≤ X.R.slots) (K : ∀ N1 N2, Rel N1 N2 → GoP X (PL X N1 N2) kc ks 1706 [some (.ref b), some (.ref (X.B + 0)), some (.ref (X.B + nC + 0)), some (.int i)] []) : GoP X (PL X M1 M2) kc ks 1570 [some (.ref b), some (.ref (X.B + 0)), some (.ref (X.B + nC + 0)), some (.int i)] [] := by
  obtain ⟨N1, N2, r, e1, e2, hR2⟩ := eq_write hR (xs (i + 1).toNatClampNeg) (xs (i + 2).toNatClampNeg) ((((xs (i + 3).toNatClampNeg).toInt64) <<< (((32 : Int32)).toInt64 &&& 63)) ||| (((xs (i + 4).toNatClampNeg).toInt64) &&& (4294967295 : Int64)))
  refine p_aload_n (i := 1) hX e_L_law_1570 rfl rfl ?_
  refine p_aload_n (i := 0) hX e_L_law_1571 rfl rfl ?_
  refine p_iload_n (i := 3) hX e_L_law_1572 rfl rfl ?_
  refine p_iconst (v := 1) hX e_L_law_1573 (by decide +kernel) ?_
  refine p_iadd hX e_L_law_1574 ?_
  refine p_sld hX hs hb hn v1 e_L_law_1575 ?_
  refine p_aload_n (i := 0) hX e_L_law_1576 rfl rfl ?_
  refine p_iload_n (i := 3) hX e_L_law_1577 rfl rfl ?_
  refine p_iconst (v := 2) hX e_L_law_1578 (by decide +kernel) ?_
  refine p_iadd hX e_L_law_1579 ?_
  refine p_sld hX hs hb hn v2 e_L_law_1580 ?_
  refine p_aload_n (i := 0) hX e_L_law_1581 rfl rfl ?_
  refine p_iload_n (i := 3) hX e_L_law_1582 rfl rfl ?_
  refine p_iconst (v := 3) hX e_L_law_1583 (by decide +kernel) ?_
  refine p_iadd hX e_L_law_1584 ?_
  refine p_sld hX hs hb hn v3 e_L_law_1585 ?_
  refine p_i2l hX e_L_law_1586 ?_
  refine p_bipush (v := 32) hX e_L_law_1587 (by decide +kernel) ?_
  refine p_lshl hX e_L_law_1589 ?_
  refine p_aload_n (i := 0) hX e_L_law_1590 rfl rfl ?_
  refine p_iload_n (i := 3) hX e_L_law_1591 rfl rfl ?_
  refine p_iconst (v := 4) hX e_L_law_1592 (by decide +kernel) ?_
  refine p_iadd hX e_L_law_1593 ?_
  refine p_sld hX hs hb hn v4 e_L_law_1594 ?_
  refine p_i2l hX e_L_law_1595 ?_
  refine p_ldc2 (v := 4294967295) hX e_L_law_1596 wk_1739 ?_
  refine p_land hX e_L_law_1599 ?_
  refine p_lor hX e_L_law_1600 ?_
  refine p_c1 (As := fun _ _ => [.int (xs (i + 1).toNatClampNeg), .int (xs (i + 2).toNatClampNeg), .long ((((xs (i + 3).toNatClampNeg).toInt64) <<< (((32 : Int32)).toInt64 &&& 63)) ||| (((xs (i + 4).toNatClampNeg).toInt64) &&& (4294967295 : Int64)))]) hX hA (t_X10_write e1) e_L_law_1601 cw_X10_write cv_X10_write wk_1100 ⟨Nat.le_of_ble_eq_true rfl, Nat.le_of_ble_eq_true rfl⟩ (show cls[10]? = some (RX10, TX10, 10) from rfl) rfl (by decide) oC0 rfl rfl (Nat.le_of_ble_eq_true rfl) hk ?_
  refine p_aload_n (i := 2) hX e_L_law_1604 rfl rfl ?_
  refine p_aload_n (i := 0) hX e_L_law_1605 rfl rfl ?_
  refine p_iload_n (i := 3) hX e_L_law_1606 rfl rfl ?_
  refine p_iconst (v := 1) hX e_L_law_1607 (by decide +kernel) ?_
  refine p_iadd hX e_L_law_1608 ?_
  refine p_sld hX hs hb hn v1 e_L_law_1609 ?_
  refine p_aload_n (i := 0) hX e_L_law_1610 rfl rfl ?_
  refine p_iload_n (i := 3) hX e_L_law_1611 rfl rfl ?_
  refine p_iconst (v := 2) hX e_L_law_1612 (by decide +kernel) ?_
  refine p_iadd hX e_L_law_1613 ?_
  refine p_sld hX hs hb hn v2 e_L_law_1614 ?_
  refine p_aload_n (i := 0) hX e_L_law_1615 rfl rfl ?_
  refine p_iload_n (i := 3) hX e_L_law_1616 rfl rfl ?_
  refine p_iconst (v := 3) hX e_L_law_1617 (by decide +kernel) ?_
  refine p_iadd hX e_L_law_1618 ?_
  refine p_sld hX hs hb hn v3 e_L_law_1619 ?_
  refine p_i2l hX e_L_law_1620 ?_
  refine p_bipush (v := 32) hX e_L_law_1621 (by decide +kernel) ?_
  refine p_lshl hX e_L_law_1623 ?_
  refine p_aload_n (i := 0) hX e_L_law_1624 rfl rfl ?_
  refine p_iload_n (i := 3) hX e_L_law_1625 rfl rfl ?_
  refine p_iconst (v := 4) hX e_L_law_1626 (by decide +kernel) ?_
  refine p_iadd hX e_L_law_1627 ?_
  refine p_sld hX hs hb hn v4 e_L_law_1628 ?_
  refine p_i2l hX e_L_law_1629 ?_
  refine p_ldc2 (v := 4294967295) hX e_L_law_1630 wk_1739 ?_
  refine p_land hX e_L_law_1633 ?_
  refine p_lor hX e_L_law_1634 ?_
  refine p_c2 (As := fun _ _ => [.int (xs (i + 1).toNatClampNeg), .int (xs (i + 2).toNatClampNeg), .long ((((xs (i + 3).toNatClampNeg).toInt64) <<< (((32 : Int32)).toInt64 &&& 63)) ||| (((xs (i + 4).toNatClampNeg).toInt64) &&& (4294967295 : Int64)))]) hX hA (t_X11_write e2) e_L_law_1635 cw_X11_write cv_X11_write wk_1297 ⟨Nat.le_of_ble_eq_true rfl, Nat.le_of_ble_eq_true rfl⟩ (show cls[11]? = some (RX11, TX11, 54) from rfl) rfl (by decide) oR0 rfl rfl (Nat.le_of_ble_eq_true rfl) hk ?_
  exact p_icmp_eq hX e_L_law_1638 (fun _ => K _ _ hR2) (fun h => absurd rfl h)
theorem lcs_43 {X : Cx} {b L : Nat} {xs : Nat → Int32} {i : Int32} {M1 M2 : Mem} {kc ks : Nat} (hX : OkX X code R_law 13 480) (hA : ∀ a, X.B ≤ a → X.A a) (hs : va_X b L xs X.s X.H0) (hb : b < X.H0.size) (hn : ¬ X.A b) (v1 : vp_in (i + 1) L) (v2 : vp_in (i + 2) L) (v3 : vp_in (i + 3) L) (v4 : vp_in (i + 4) L) (v5 : vp_in (i + 5) L) (hR : Rel M1 M2) (hk : kc ≤ X.R.cells ∧ ks ≤ X.R.slots) (K : ∀ N1 N2, Rel N1 N2 → GoP X (PL X N1 N2) kc ks 1706 [some (.ref b), some (.ref (X.B + 0)), some (.ref (X.B + nC + 0)), some (.int i)] []) : GoP X (PL X M1 M2) kc ks 1643 [some (.ref b), some (.ref (X.B + 0)), some (.ref (X.B + nC + 0)), some (.int i)] [] := by
  obtain ⟨N1, N2, r, e1, e2, hR2⟩ := eq_paste hR (xs (i + 1).toNatClampNeg) (xs (i + 2).toNatClampNeg) (xs (i + 3).toNatClampNeg) (xs (i + 4).toNatClampNeg) (xs (i + 5).toNatClampNeg)
  refine p_aload_n (i := 1) hX e_L_law_1643 rfl rfl ?_
  refine p_aload_n (i := 0) hX e_L_law_1644 rfl rfl ?_
  refine p_iload_n (i := 3) hX e_L_law_1645 rfl rfl ?_
  refine p_iconst (v := 1) hX e_L_law_1646 (by decide +kernel) ?_
  refine p_iadd hX e_L_law_1647 ?_
  refine p_sld hX hs hb hn v1 e_L_law_1648 ?_
  refine p_aload_n (i := 0) hX e_L_law_1649 rfl rfl ?_
  refine p_iload_n (i := 3) hX e_L_law_1650 rfl rfl ?_
  refine p_iconst (v := 2) hX e_L_law_1651 (by decide +kernel) ?_
  refine p_iadd hX e_L_law_1652 ?_
  refine p_sld hX hs hb hn v2 e_L_law_1653 ?_
  refine p_aload_n (i := 0) hX e_L_law_1654 rfl rfl ?_
  refine p_iload_n (i := 3) hX e_L_law_1655 rfl rfl ?_
  refine p_iconst (v := 3) hX e_L_law_1656 (by decide +kernel) ?_
  refine p_iadd hX e_L_law_1657 ?_
  refine p_sld hX hs hb hn v3 e_L_law_1658 ?_
  refine p_aload_n (i := 0) hX e_L_law_1659 rfl rfl ?_
  refine p_iload_n (i := 3) hX e_L_law_1660 rfl rfl ?_
  refine p_iconst (v := 4) hX e_L_law_1661 (by decide +kernel) ?_
  refine p_iadd hX e_L_law_1662 ?_
  refine p_sld hX hs hb hn v4 e_L_law_1663 ?_
  refine p_aload_n (i := 0) hX e_L_law_1664 rfl rfl ?_
  refine p_iload_n (i := 3) hX e_L_law_1665 rfl rfl ?_
  refine p_iconst (v := 5) hX e_L_law_1666 (by decide +kernel) ?_
  refine p_iadd hX e_L_law_1667 ?_
  refine p_sld hX hs hb hn v5 e_L_law_1668 ?_
  refine p_c1 (As := fun _ _ => [.int (xs (i + 1).toNatClampNeg), .int (xs (i + 2).toNatClampNeg), .int (xs (i + 3).toNatClampNeg), .int (xs (i + 4).toNatClampNeg), .int (xs (i + 5).toNatClampNeg)]) hX hA (t_X10_paste e1) e_L_law_1669 cw_X10_paste cv_X10_paste wk_1108 ⟨Nat.le_of_ble_eq_true rfl, Nat.le_of_ble_eq_true rfl⟩ (show cls[10]? = some (RX10, TX10, 10) from rfl) rfl (by decide) oC0 rfl rfl (Nat.le_of_ble_eq_true rfl) hk ?_
  refine p_aload_n (i := 2) hX e_L_law_1672 rfl rfl ?_
  refine p_aload_n (i := 0) hX e_L_law_1673 rfl rfl ?_
  refine p_iload_n (i := 3) hX e_L_law_1674 rfl rfl ?_
  refine p_iconst (v := 1) hX e_L_law_1675 (by decide +kernel) ?_
  refine p_iadd hX e_L_law_1676 ?_
  refine p_sld hX hs hb hn v1 e_L_law_1677 ?_
  refine p_aload_n (i := 0) hX e_L_law_1678 rfl rfl ?_
  refine p_iload_n (i := 3) hX e_L_law_1679 rfl rfl ?_
  refine p_iconst (v := 2) hX e_L_law_1680 (by decide +kernel) ?_
  refine p_iadd hX e_L_law_1681 ?_
  refine p_sld hX hs hb hn v2 e_L_law_1682 ?_
  refine p_aload_n (i := 0) hX e_L_law_1683 rfl rfl ?_
  refine p_iload_n (i := 3) hX e_L_law_1684 rfl rfl ?_
  refine p_iconst (v := 3) hX e_L_law_1685 (by decide +kernel) ?_
  refine p_iadd hX e_L_law_1686 ?_
  refine p_sld hX hs hb hn v3 e_L_law_1687 ?_
  refine p_aload_n (i := 0) hX e_L_law_1688 rfl rfl ?_
  refine p_iload_n (i := 3) hX e_L_law_1689 rfl rfl ?_
  refine p_iconst (v := 4) hX e_L_law_1690 (by decide +kernel) ?_
  refine p_iadd hX e_L_law_1691 ?_
  refine p_sld hX hs hb hn v4 e_L_law_1692 ?_
  refine p_aload_n (i := 0) hX e_L_law_1693 rfl rfl ?_
  refine p_iload_n (i := 3) hX e_L_law_1694 rfl rfl ?_
  refine p_iconst (v := 5) hX e_L_law_1695 (by decide +kernel) ?_
  refine p_iadd hX e_L_law_1696 ?_
  refine p_sld hX hs hb hn v5 e_L_law_1697 ?_
  refine p_c2 (As := fun _ _ => [.int (xs (i + 1).toNatClampNeg), .int (xs (i + 2).toNatClampNeg), .int (xs (i + 3).toNatClampNeg), .int (xs (i + 4).toNatClampNeg), .int (xs (i + 5).toNatClampNeg)]) hX hA (t_X11_paste e2) e_L_law_1698 cw_X11_paste cv_X11_paste wk_1304 ⟨Nat.le_of_ble_eq_true rfl, Nat.le_of_ble_eq_true rfl⟩ (show cls[11]? = some (RX11, TX11, 54) from rfl) rfl (by decide) oR0 rfl rfl (Nat.le_of_ble_eq_true rfl) hk ?_
  exact p_icmp_eq hX e_L_law_1701 (fun _ => K _ _ hR2) (fun h => absurd rfl h)
