/-! THE LAW'S CASES -/
theorem iand_31 (a : Int) : ∃ y : Nat, iand a 31 = (y : Int) ∧ y < 32 := by
  refine ⟨(Int32.ofInt a).toBitVec.toNat % 32, ?_, Nat.mod_lt _ (by decide)⟩
  unfold iand
  have e : (Int32.ofInt a &&& Int32.ofInt 31).toBitVec.toNat = (Int32.ofInt a).toBitVec.toNat % 32 := by
    show ((Int32.ofInt a).toBitVec &&& (31#32)).toNat = _
    rw [BitVec.toNat_and]
    show (Int32.ofInt a).toBitVec.toNat &&& (2 ^ 5 - 1) = _
    rw [Nat.and_two_pow_sub_one_eq_mod]
  have e2 : (Int32.ofInt a &&& Int32.ofInt 31).toInt = (((Int32.ofInt a &&& Int32.ofInt 31).toBitVec.toNat : Nat) : Int) := by
    show (Int32.ofInt a &&& Int32.ofInt 31).toBitVec.toInt = _
    rw [BitVec.toInt_eq_toNat_of_lt]
    rw [e]
    omega
  rw [e2, e]
section LCASES
variable {E : FX} {l : Launch} {z : RT} {N : Nat} {xs : Nat → Int32}
theorem lc_172 (C : Cx E z 20 RL cL_law 4) (X : XS E z N xs) (hN : N ≤ 3072) : LC E l z N 172 := by
  intro i M h0 h6 hR hG K
  refine v_aload_n (i := 1) C dL_law_172 rfl rfl ?_
  refine v_arg (k := 1) C X hN h0 h6 (by decide) dL_law_173 dL_law_174 dL_law_175 dL_law_176 dL_law_177 ?_
  refine v_arg (k := 2) C X hN h0 h6 (by decide) dL_law_178 dL_law_179 dL_law_180 dL_law_181 dL_law_182 ?_
  refine v_callV (q := qX11_measure) (k := 0) (As := [vi (sx xs i 1), vi (sx xs i 2)]) (S := []) C co_yX11_measure ml_RL_13 im_yX11_measure se_yX11_measure ini_RX11 rfl rfl hq_X11_measure (by decide) (Nat.le_of_ble_eq_true rfl) rfl dL_law_183 ((((e_measure sx32 sx32)).g M hR hG).mono ?_ (Nat.le_refl _))
  rintro r M1 ⟨x, rfl, hc⟩
  refine v_aload_n (i := 2) C dL_law_186 rfl rfl ?_
  refine v_arg (k := 1) C X hN h0 h6 (by decide) dL_law_187 dL_law_188 dL_law_189 dL_law_190 dL_law_191 ?_
  refine v_arg (k := 2) C X hN h0 h6 (by decide) dL_law_192 dL_law_193 dL_law_194 dL_law_195 dL_law_196 ?_
  refine v_callV (q := qX12_measure) (k := 44) (As := [vi (sx xs i 1), vi (sx xs i 2)]) (S := [vi x]) C co_yX12_measure ml_RL_17 im_yX12_measure se_yX12_measure ini_RX12 rfl rfl hq_X12_measure (by decide) (Nat.le_of_ble_eq_true rfl) rfl dL_law_197 (hc.mono ?_ (Nat.le_refl _))
  rintro r2 M2 ⟨rfl, hR2, hG2⟩
  exact v_icmpS C rfl dL_law_200 rfl (K M2 hR2 hG2)
theorem lc_205 (C : Cx E z 20 RL cL_law 4) (X : XS E z N xs) (hN : N ≤ 3072) : LC E l z N 205 := by
  intro i M h0 h6 hR hG K
  refine v_aload_n (i := 1) C dL_law_205 rfl rfl ?_
  refine v_arg (k := 1) C X hN h0 h6 (by decide) dL_law_206 dL_law_207 dL_law_208 dL_law_209 dL_law_210 ?_
  refine v_arg (k := 2) C X hN h0 h6 (by decide) dL_law_211 dL_law_212 dL_law_213 dL_law_214 dL_law_215 ?_
  refine v_callV (q := qX11_rule) (k := 0) (As := [vi (sx xs i 1), vi (sx xs i 2)]) (S := []) C co_yX11_rule ml_RL_18 im_yX11_rule se_yX11_rule ini_RX11 rfl rfl hq_X11_rule (by decide) (Nat.le_of_ble_eq_true rfl) rfl dL_law_216 ((((e_rule sx32 sx32)).g M hR hG).mono ?_ (Nat.le_refl _))
  rintro r M1 ⟨x, rfl, hc⟩
  refine v_aload_n (i := 2) C dL_law_219 rfl rfl ?_
  refine v_arg (k := 1) C X hN h0 h6 (by decide) dL_law_220 dL_law_221 dL_law_222 dL_law_223 dL_law_224 ?_
  refine v_arg (k := 2) C X hN h0 h6 (by decide) dL_law_225 dL_law_226 dL_law_227 dL_law_228 dL_law_229 ?_
  refine v_callV (q := qX12_rule) (k := 44) (As := [vi (sx xs i 1), vi (sx xs i 2)]) (S := [vi x]) C co_yX12_rule ml_RL_21 im_yX12_rule se_yX12_rule ini_RX12 rfl rfl hq_X12_rule (by decide) (Nat.le_of_ble_eq_true rfl) rfl dL_law_230 (hc.mono ?_ (Nat.le_refl _))
  rintro r2 M2 ⟨rfl, hR2, hG2⟩
  exact v_icmpS C rfl dL_law_233 rfl (K M2 hR2 hG2)
theorem lc_238 (C : Cx E z 20 RL cL_law 4) (X : XS E z N xs) (hN : N ≤ 3072) : LC E l z N 238 := by
  intro i M h0 h6 hR hG K
  refine v_aload_n (i := 1) C dL_law_238 rfl rfl ?_
  refine v_arg (k := 1) C X hN h0 h6 (by decide) dL_law_239 dL_law_240 dL_law_241 dL_law_242 dL_law_243 ?_
  refine v_callV (q := qX11_seam) (k := 0) (As := [vi (sx xs i 1)]) (S := []) C co_yX11_seam ml_RL_22 im_yX11_seam se_yX11_seam ini_RX11 rfl rfl hq_X11_seam (by decide) (Nat.le_of_ble_eq_true rfl) rfl dL_law_244 ((((e_seam sx32)).g M hR hG).mono ?_ (Nat.le_refl _))
  rintro r M1 ⟨x, rfl, hc⟩
  refine v_aload_n (i := 2) C dL_law_247 rfl rfl ?_
  refine v_arg (k := 1) C X hN h0 h6 (by decide) dL_law_248 dL_law_249 dL_law_250 dL_law_251 dL_law_252 ?_
  refine v_callV (q := qX12_seam) (k := 44) (As := [vi (sx xs i 1)]) (S := [vi x]) C co_yX12_seam ml_RL_26 im_yX12_seam se_yX12_seam ini_RX12 rfl rfl hq_X12_seam (by decide) (Nat.le_of_ble_eq_true rfl) rfl dL_law_253 (hc.mono ?_ (Nat.le_refl _))
  rintro r2 M2 ⟨rfl, hR2, hG2⟩
  exact v_icmpS C rfl dL_law_256 rfl (K M2 hR2 hG2)
theorem lc_261 (C : Cx E z 20 RL cL_law 4) (X : XS E z N xs) (hN : N ≤ 3072) : LC E l z N 261 := by
  intro i M h0 h6 hR hG K
  refine v_aload_n (i := 1) C dL_law_261 rfl rfl ?_
  refine v_arg (k := 1) C X hN h0 h6 (by decide) dL_law_262 dL_law_263 dL_law_264 dL_law_265 dL_law_266 ?_
  refine v_callV (q := qX11_place) (k := 0) (As := [vi (sx xs i 1)]) (S := []) C co_yX11_place ml_RL_27 im_yX11_place se_yX11_place ini_RX11 rfl rfl hq_X11_place (by decide) (Nat.le_of_ble_eq_true rfl) rfl dL_law_267 ((((e_place sx32)).g M hR hG).mono ?_ (Nat.le_refl _))
  rintro r M1 ⟨x, rfl, hc⟩
  refine v_aload_n (i := 2) C dL_law_270 rfl rfl ?_
  refine v_arg (k := 1) C X hN h0 h6 (by decide) dL_law_271 dL_law_272 dL_law_273 dL_law_274 dL_law_275 ?_
  refine v_callV (q := qX12_place) (k := 44) (As := [vi (sx xs i 1)]) (S := [vj x]) C co_yX12_place ml_RL_31 im_yX12_place se_yX12_place ini_RX12 rfl rfl hq_X12_place (by decide) (Nat.le_of_ble_eq_true rfl) rfl dL_law_276 (hc.mono ?_ (Nat.le_refl _))
  rintro r2 M2 ⟨rfl, hR2, hG2⟩
  refine v_lcmp_same C rfl dL_law_279 ?_
  exact v_if_eq C r32_0 dL_law_280 rfl (fun _ => K M2 hR2 hG2) (fun q => absurd rfl q)
theorem lc_285 (C : Cx E z 20 RL cL_law 4) (X : XS E z N xs) (hN : N ≤ 3072) : LC E l z N 285 := by
  intro i M h0 h6 hR hG K
  refine v_aload_n (i := 1) C dL_law_285 rfl rfl ?_
  refine v_arg (k := 1) C X hN h0 h6 (by decide) dL_law_286 dL_law_287 dL_law_288 dL_law_289 dL_law_290 ?_
  refine v_i2l C sx32 dL_law_291 ?_
  refine v_bipush C dL_law_292 (by decide) ?_
  refine v_lshl C dL_law_294 ?_
  refine v_arg (k := 2) C X hN h0 h6 (by decide) dL_law_295 dL_law_296 dL_law_297 dL_law_298 dL_law_299 ?_
  refine v_i2l C sx32 dL_law_300 ?_
  refine v_ldc2 (x := 4294967295) C cs_RL_32 rfl dL_law_301 ?_
  refine v_land C dL_law_304 ?_
  refine v_lor C dL_law_305 ?_
  refine v_callV (q := qX11_places) (k := 0) (As := [vj (jor (jshl (sx xs i 1) 32) (jand (sx xs i 2) 4294967295))]) (S := []) C co_yX11_places ml_RL_34 im_yX11_places se_yX11_places ini_RX11 rfl rfl hq_X11_places (by decide) (Nat.le_of_ble_eq_true rfl) rfl dL_law_306 ((((e_places jor64)).g M hR hG).mono ?_ (Nat.le_refl _))
  rintro r M1 ⟨x, rfl, hc⟩
  refine v_aload_n (i := 2) C dL_law_309 rfl rfl ?_
  refine v_arg (k := 1) C X hN h0 h6 (by decide) dL_law_310 dL_law_311 dL_law_312 dL_law_313 dL_law_314 ?_
  refine v_i2l C sx32 dL_law_315 ?_
  refine v_bipush C dL_law_316 (by decide) ?_
  refine v_lshl C dL_law_318 ?_
  refine v_arg (k := 2) C X hN h0 h6 (by decide) dL_law_319 dL_law_320 dL_law_321 dL_law_322 dL_law_323 ?_
  refine v_i2l C sx32 dL_law_324 ?_
  refine v_ldc2 (x := 4294967295) C cs_RL_32 rfl dL_law_325 ?_
  refine v_land C dL_law_328 ?_
  refine v_lor C dL_law_329 ?_
  refine v_callV (q := qX12_places) (k := 44) (As := [vj (jor (jshl (sx xs i 1) 32) (jand (sx xs i 2) 4294967295))]) (S := [vj x]) C co_yX12_places ml_RL_38 im_yX12_places se_yX12_places ini_RX12 rfl rfl hq_X12_places (by decide) (Nat.le_of_ble_eq_true rfl) rfl dL_law_330 (hc.mono ?_ (Nat.le_refl _))
  rintro r2 M2 ⟨rfl, hR2, hG2⟩
  refine v_lcmp_same C rfl dL_law_333 ?_
  exact v_if_eq C r32_0 dL_law_334 rfl (fun _ => K M2 hR2 hG2) (fun q => absurd rfl q)
theorem lc_339 (C : Cx E z 20 RL cL_law 4) (X : XS E z N xs) (hN : N ≤ 3072) : LC E l z N 339 := by
  intro i M h0 h6 hR hG K
  refine v_aload_n (i := 1) C dL_law_339 rfl rfl ?_
  refine v_arg (k := 1) C X hN h0 h6 (by decide) dL_law_340 dL_law_341 dL_law_342 dL_law_343 dL_law_344 ?_
  refine v_arg (k := 2) C X hN h0 h6 (by decide) dL_law_345 dL_law_346 dL_law_347 dL_law_348 dL_law_349 ?_
  refine v_callV (q := qX11_bolt) (k := 0) (As := [vi (sx xs i 1), vi (sx xs i 2)]) (S := []) C co_yX11_bolt ml_RL_39 im_yX11_bolt se_yX11_bolt ini_RX11 rfl rfl hq_X11_bolt (by decide) (Nat.le_of_ble_eq_true rfl) rfl dL_law_350 ((((e_bolt sx32 sx32)).g M hR hG).mono ?_ (Nat.le_refl _))
  rintro r M1 ⟨x, rfl, hc⟩
  refine v_aload_n (i := 2) C dL_law_353 rfl rfl ?_
  refine v_arg (k := 1) C X hN h0 h6 (by decide) dL_law_354 dL_law_355 dL_law_356 dL_law_357 dL_law_358 ?_
  refine v_arg (k := 2) C X hN h0 h6 (by decide) dL_law_359 dL_law_360 dL_law_361 dL_law_362 dL_law_363 ?_
  refine v_callV (q := qX12_bolt) (k := 44) (As := [vi (sx xs i 1), vi (sx xs i 2)]) (S := [vi x]) C co_yX12_bolt ml_RL_42 im_yX12_bolt se_yX12_bolt ini_RX12 rfl rfl hq_X12_bolt (by decide) (Nat.le_of_ble_eq_true rfl) rfl dL_law_364 (hc.mono ?_ (Nat.le_refl _))
  rintro r2 M2 ⟨rfl, hR2, hG2⟩
  exact v_icmpS C rfl dL_law_367 rfl (K M2 hR2 hG2)
theorem lc_372 (C : Cx E z 20 RL cL_law 4) (X : XS E z N xs) (hN : N ≤ 3072) : LC E l z N 372 := by
  intro i M h0 h6 hR hG K
  refine v_aload_n (i := 1) C dL_law_372 rfl rfl ?_
  refine v_arg (k := 1) C X hN h0 h6 (by decide) dL_law_373 dL_law_374 dL_law_375 dL_law_376 dL_law_377 ?_
  refine v_arg (k := 2) C X hN h0 h6 (by decide) dL_law_378 dL_law_379 dL_law_380 dL_law_381 dL_law_382 ?_
  refine v_callV (q := qX11_told) (k := 0) (As := [vi (sx xs i 1), vi (sx xs i 2)]) (S := []) C co_yX11_told ml_RL_43 im_yX11_told se_yX11_told ini_RX11 rfl rfl hq_X11_told (by decide) (Nat.le_of_ble_eq_true rfl) rfl dL_law_383 ((((e_told sx32 sx32)).g M hR hG).mono ?_ (Nat.le_refl _))
  rintro r M1 ⟨x, rfl, hc⟩
  refine v_aload_n (i := 2) C dL_law_386 rfl rfl ?_
  refine v_arg (k := 1) C X hN h0 h6 (by decide) dL_law_387 dL_law_388 dL_law_389 dL_law_390 dL_law_391 ?_
  refine v_arg (k := 2) C X hN h0 h6 (by decide) dL_law_392 dL_law_393 dL_law_394 dL_law_395 dL_law_396 ?_
  refine v_callV (q := qX12_told) (k := 44) (As := [vi (sx xs i 1), vi (sx xs i 2)]) (S := [vi x]) C co_yX12_told ml_RL_46 im_yX12_told se_yX12_told ini_RX12 rfl rfl hq_X12_told (by decide) (Nat.le_of_ble_eq_true rfl) rfl dL_law_397 (hc.mono ?_ (Nat.le_refl _))
  rintro r2 M2 ⟨rfl, hR2, hG2⟩
  exact v_icmpS C rfl dL_law_400 rfl (K M2 hR2 hG2)
theorem lc_405 (C : Cx E z 20 RL cL_law 4) (X : XS E z N xs) (hN : N ≤ 3072) : LC E l z N 405 := by
  intro i M h0 h6 hR hG K
  refine v_aload_n (i := 1) C dL_law_405 rfl rfl ?_
  refine v_arg (k := 1) C X hN h0 h6 (by decide) dL_law_406 dL_law_407 dL_law_408 dL_law_409 dL_law_410 ?_
  refine v_arg (k := 2) C X hN h0 h6 (by decide) dL_law_411 dL_law_412 dL_law_413 dL_law_414 dL_law_415 ?_
  refine v_callV (q := qX11_cut) (k := 0) (As := [vi (sx xs i 1), vi (sx xs i 2)]) (S := []) C co_yX11_cut ml_RL_47 im_yX11_cut se_yX11_cut ini_RX11 rfl rfl hq_X11_cut (by decide) (Nat.le_of_ble_eq_true rfl) rfl dL_law_416 ((((e_cut sx32 sx32)).g M hR hG).mono ?_ (Nat.le_refl _))
  rintro r M1 ⟨x, rfl, hc⟩
  refine v_aload_n (i := 2) C dL_law_419 rfl rfl ?_
  refine v_arg (k := 1) C X hN h0 h6 (by decide) dL_law_420 dL_law_421 dL_law_422 dL_law_423 dL_law_424 ?_
  refine v_arg (k := 2) C X hN h0 h6 (by decide) dL_law_425 dL_law_426 dL_law_427 dL_law_428 dL_law_429 ?_
  refine v_callV (q := qX12_cut) (k := 44) (As := [vi (sx xs i 1), vi (sx xs i 2)]) (S := [vi x]) C co_yX12_cut ml_RL_50 im_yX12_cut se_yX12_cut ini_RX12 rfl rfl hq_X12_cut (by decide) (Nat.le_of_ble_eq_true rfl) rfl dL_law_430 (hc.mono ?_ (Nat.le_refl _))
  rintro r2 M2 ⟨rfl, hR2, hG2⟩
  exact v_icmpS C rfl dL_law_433 rfl (K M2 hR2 hG2)
theorem lc_438 (C : Cx E z 20 RL cL_law 4) (X : XS E z N xs) (hN : N ≤ 3072) : LC E l z N 438 := by
  intro i M h0 h6 hR hG K
  refine v_aload_n (i := 1) C dL_law_438 rfl rfl ?_
  refine v_arg (k := 1) C X hN h0 h6 (by decide) dL_law_439 dL_law_440 dL_law_441 dL_law_442 dL_law_443 ?_
  refine v_arg (k := 2) C X hN h0 h6 (by decide) dL_law_444 dL_law_445 dL_law_446 dL_law_447 dL_law_448 ?_
  refine v_callV (q := qX11_join) (k := 0) (As := [vi (sx xs i 1), vi (sx xs i 2)]) (S := []) C co_yX11_join ml_RL_51 im_yX11_join se_yX11_join ini_RX11 rfl rfl hq_X11_join (by decide) (Nat.le_of_ble_eq_true rfl) rfl dL_law_449 ((((e_join sx32 sx32)).g M hR hG).mono ?_ (Nat.le_refl _))
  rintro r M1 ⟨x, rfl, hc⟩
  refine v_aload_n (i := 2) C dL_law_452 rfl rfl ?_
  refine v_arg (k := 1) C X hN h0 h6 (by decide) dL_law_453 dL_law_454 dL_law_455 dL_law_456 dL_law_457 ?_
  refine v_arg (k := 2) C X hN h0 h6 (by decide) dL_law_458 dL_law_459 dL_law_460 dL_law_461 dL_law_462 ?_
  refine v_callV (q := qX12_join) (k := 44) (As := [vi (sx xs i 1), vi (sx xs i 2)]) (S := [vi x]) C co_yX12_join ml_RL_54 im_yX12_join se_yX12_join ini_RX12 rfl rfl hq_X12_join (by decide) (Nat.le_of_ble_eq_true rfl) rfl dL_law_463 (hc.mono ?_ (Nat.le_refl _))
  rintro r2 M2 ⟨rfl, hR2, hG2⟩
  exact v_icmpS C rfl dL_law_466 rfl (K M2 hR2 hG2)
theorem lc_471 (C : Cx E z 20 RL cL_law 4) (X : XS E z N xs) (hN : N ≤ 3072) : LC E l z N 471 := by
  intro i M h0 h6 hR hG K
  refine v_aload_n (i := 1) C dL_law_471 rfl rfl ?_
  refine v_arg (k := 1) C X hN h0 h6 (by decide) dL_law_472 dL_law_473 dL_law_474 dL_law_475 dL_law_476 ?_
  refine v_i2l C sx32 dL_law_477 ?_
  refine v_bipush C dL_law_478 (by decide) ?_
  refine v_lshl C dL_law_480 ?_
  refine v_arg (k := 2) C X hN h0 h6 (by decide) dL_law_481 dL_law_482 dL_law_483 dL_law_484 dL_law_485 ?_
  refine v_i2l C sx32 dL_law_486 ?_
  refine v_ldc2 (x := 4294967295) C cs_RL_32 rfl dL_law_487 ?_
  refine v_land C dL_law_490 ?_
  refine v_lor C dL_law_491 ?_
  refine v_arg (k := 3) C X hN h0 h6 (by decide) dL_law_492 dL_law_493 dL_law_494 dL_law_495 dL_law_496 ?_
  refine v_callV (q := qX11_type) (k := 0) (As := [vj (jor (jshl (sx xs i 1) 32) (jand (sx xs i 2) 4294967295)), vi (sx xs i 3)]) (S := []) C co_yX11_type ml_RL_55 im_yX11_type se_yX11_type ini_RX11 rfl rfl hq_X11_type (by decide) (Nat.le_of_ble_eq_true rfl) rfl dL_law_497 ((((e_type jor64 sx32)).g M hR hG).mono ?_ (Nat.le_refl _))
  rintro r M1 ⟨x, rfl, hc⟩
  refine v_aload_n (i := 2) C dL_law_500 rfl rfl ?_
  refine v_arg (k := 1) C X hN h0 h6 (by decide) dL_law_501 dL_law_502 dL_law_503 dL_law_504 dL_law_505 ?_
  refine v_i2l C sx32 dL_law_506 ?_
  refine v_bipush C dL_law_507 (by decide) ?_
  refine v_lshl C dL_law_509 ?_
  refine v_arg (k := 2) C X hN h0 h6 (by decide) dL_law_510 dL_law_511 dL_law_512 dL_law_513 dL_law_514 ?_
  refine v_i2l C sx32 dL_law_515 ?_
  refine v_ldc2 (x := 4294967295) C cs_RL_32 rfl dL_law_516 ?_
  refine v_land C dL_law_519 ?_
  refine v_lor C dL_law_520 ?_
  refine v_arg (k := 3) C X hN h0 h6 (by decide) dL_law_521 dL_law_522 dL_law_523 dL_law_524 dL_law_525 ?_
  refine v_callV (q := qX12_type) (k := 44) (As := [vj (jor (jshl (sx xs i 1) 32) (jand (sx xs i 2) 4294967295)), vi (sx xs i 3)]) (S := [vi x]) C co_yX12_type ml_RL_59 im_yX12_type se_yX12_type ini_RX12 rfl rfl hq_X12_type (by decide) (Nat.le_of_ble_eq_true rfl) rfl dL_law_526 (hc.mono ?_ (Nat.le_refl _))
  rintro r2 M2 ⟨rfl, hR2, hG2⟩
  exact v_icmpS C rfl dL_law_529 rfl (K M2 hR2 hG2)
theorem lc_534 (C : Cx E z 20 RL cL_law 4) (X : XS E z N xs) (hN : N ≤ 3072) : LC E l z N 534 := by
  intro i M h0 h6 hR hG K
  refine v_aload_n (i := 1) C dL_law_534 rfl rfl ?_
  refine v_callV (q := qX11_towns) (k := 0) (As := []) (S := []) C co_yX11_towns ml_RL_60 im_yX11_towns se_yX11_towns ini_RX11 rfl rfl hq_X11_towns (by decide) (Nat.le_of_ble_eq_true rfl) rfl dL_law_535 (((e_towns).g M hR hG).mono ?_ (Nat.le_refl _))
  rintro r M1 ⟨x, rfl, hc⟩
  refine v_aload_n (i := 2) C dL_law_538 rfl rfl ?_
  refine v_callV (q := qX12_towns) (k := 44) (As := []) (S := [vi x]) C co_yX12_towns ml_RL_64 im_yX12_towns se_yX12_towns ini_RX12 rfl rfl hq_X12_towns (by decide) (Nat.le_of_ble_eq_true rfl) rfl dL_law_539 (hc.mono ?_ (Nat.le_refl _))
  rintro r2 M2 ⟨rfl, hR2, hG2⟩
  exact v_icmpS C rfl dL_law_542 rfl (K M2 hR2 hG2)
theorem lc_547 (C : Cx E z 20 RL cL_law 4) (X : XS E z N xs) (hN : N ≤ 3072) : LC E l z N 547 := by
  intro i M h0 h6 hR hG K
  refine v_aload_n (i := 1) C dL_law_547 rfl rfl ?_
  refine v_arg (k := 1) C X hN h0 h6 (by decide) dL_law_548 dL_law_549 dL_law_550 dL_law_551 dL_law_552 ?_
  refine v_callV (q := qX11_count) (k := 0) (As := [vi (sx xs i 1)]) (S := []) C co_yX11_count ml_RL_65 im_yX11_count se_yX11_count ini_RX11 rfl rfl hq_X11_count (by decide) (Nat.le_of_ble_eq_true rfl) rfl dL_law_553 ((((e_count sx32)).g M hR hG).mono ?_ (Nat.le_refl _))
  rintro r M1 ⟨x, rfl, hc⟩
  refine v_aload_n (i := 2) C dL_law_556 rfl rfl ?_
  refine v_arg (k := 1) C X hN h0 h6 (by decide) dL_law_557 dL_law_558 dL_law_559 dL_law_560 dL_law_561 ?_
  refine v_callV (q := qX12_count) (k := 44) (As := [vi (sx xs i 1)]) (S := [vi x]) C co_yX12_count ml_RL_68 im_yX12_count se_yX12_count ini_RX12 rfl rfl hq_X12_count (by decide) (Nat.le_of_ble_eq_true rfl) rfl dL_law_562 (hc.mono ?_ (Nat.le_refl _))
  rintro r2 M2 ⟨rfl, hR2, hG2⟩
  exact v_icmpS C rfl dL_law_565 rfl (K M2 hR2 hG2)
theorem lc_570 (C : Cx E z 20 RL cL_law 4) (X : XS E z N xs) (hN : N ≤ 3072) : LC E l z N 570 := by
  intro i M h0 h6 hR hG K
  refine v_aload_n (i := 1) C dL_law_570 rfl rfl ?_
  refine v_arg (k := 1) C X hN h0 h6 (by decide) dL_law_571 dL_law_572 dL_law_573 dL_law_574 dL_law_575 ?_
  refine v_arg (k := 2) C X hN h0 h6 (by decide) dL_law_576 dL_law_577 dL_law_578 dL_law_579 dL_law_580 ?_
  refine v_callV (q := qX11_most) (k := 0) (As := [vi (sx xs i 1), vi (sx xs i 2)]) (S := []) C co_yX11_most ml_RL_69 im_yX11_most se_yX11_most ini_RX11 rfl rfl hq_X11_most (by decide) (Nat.le_of_ble_eq_true rfl) rfl dL_law_581 (((e_most sx32 sx32) M hR hG).mono ?_ (Nat.le_refl _))
  rintro r M1 ⟨x, rfl, hc⟩
  refine v_aload_n (i := 2) C dL_law_584 rfl rfl ?_
  refine v_arg (k := 1) C X hN h0 h6 (by decide) dL_law_585 dL_law_586 dL_law_587 dL_law_588 dL_law_589 ?_
  refine v_arg (k := 2) C X hN h0 h6 (by decide) dL_law_590 dL_law_591 dL_law_592 dL_law_593 dL_law_594 ?_
  refine v_callV (q := qX12_most) (k := 44) (As := [vi (sx xs i 1), vi (sx xs i 2)]) (S := [vi x]) C co_yX12_most ml_RL_72 im_yX12_most se_yX12_most ini_RX12 rfl rfl hq_X12_most (by decide) (Nat.le_of_ble_eq_true rfl) rfl dL_law_595 (hc.mono ?_ (Nat.le_refl _))
  rintro r2 M2 ⟨rfl, hR2, hG2⟩
  exact v_icmpS C rfl dL_law_598 rfl (K M2 hR2 hG2)
theorem lc_603 (C : Cx E z 20 RL cL_law 4) (X : XS E z N xs) (hN : N ≤ 3072) : LC E l z N 603 := by
  intro i M h0 h6 hR hG K
  refine v_aload_n (i := 1) C dL_law_603 rfl rfl ?_
  refine v_arg (k := 1) C X hN h0 h6 (by decide) dL_law_604 dL_law_605 dL_law_606 dL_law_607 dL_law_608 ?_
  refine v_callV (q := qX11_buyer) (k := 0) (As := [vi (sx xs i 1)]) (S := []) C co_yX11_buyer ml_RL_73 im_yX11_buyer se_yX11_buyer ini_RX11 rfl rfl hq_X11_buyer (by decide) (Nat.le_of_ble_eq_true rfl) rfl dL_law_609 ((((e_buyer sx32)).g M hR hG).mono ?_ (Nat.le_refl _))
  rintro r M1 ⟨x, rfl, hc⟩
  refine v_aload_n (i := 2) C dL_law_612 rfl rfl ?_
  refine v_arg (k := 1) C X hN h0 h6 (by decide) dL_law_613 dL_law_614 dL_law_615 dL_law_616 dL_law_617 ?_
  refine v_callV (q := qX12_buyer) (k := 44) (As := [vi (sx xs i 1)]) (S := [vi x]) C co_yX12_buyer ml_RL_76 im_yX12_buyer se_yX12_buyer ini_RX12 rfl rfl hq_X12_buyer (by decide) (Nat.le_of_ble_eq_true rfl) rfl dL_law_618 (hc.mono ?_ (Nat.le_refl _))
  rintro r2 M2 ⟨rfl, hR2, hG2⟩
  exact v_icmpS C rfl dL_law_621 rfl (K M2 hR2 hG2)
theorem lc_626 (C : Cx E z 20 RL cL_law 4) (X : XS E z N xs) (hN : N ≤ 3072) : LC E l z N 626 := by
  intro i M h0 h6 hR hG K
  refine v_aload_n (i := 1) C dL_law_626 rfl rfl ?_
  refine v_callV (q := qX11_home) (k := 0) (As := []) (S := []) C co_yX11_home ml_RL_77 im_yX11_home se_yX11_home ini_RX11 rfl rfl hq_X11_home (by decide) (Nat.le_of_ble_eq_true rfl) rfl dL_law_627 (((e_home).g M hR hG).mono ?_ (Nat.le_refl _))
  rintro r M1 ⟨x, rfl, hc⟩
  refine v_aload_n (i := 2) C dL_law_630 rfl rfl ?_
  refine v_callV (q := qX12_home) (k := 44) (As := []) (S := [vi x]) C co_yX12_home ml_RL_80 im_yX12_home se_yX12_home ini_RX12 rfl rfl hq_X12_home (by decide) (Nat.le_of_ble_eq_true rfl) rfl dL_law_631 (hc.mono ?_ (Nat.le_refl _))
  rintro r2 M2 ⟨rfl, hR2, hG2⟩
  exact v_icmpS C rfl dL_law_634 rfl (K M2 hR2 hG2)
theorem lc_639 (C : Cx E z 20 RL cL_law 4) (X : XS E z N xs) (hN : N ≤ 3072) : LC E l z N 639 := by
  intro i M h0 h6 hR hG K
  refine v_aload_n (i := 1) C dL_law_639 rfl rfl ?_
  refine v_arg (k := 1) C X hN h0 h6 (by decide) dL_law_640 dL_law_641 dL_law_642 dL_law_643 dL_law_644 ?_
  refine v_callV (q := qX11_price) (k := 0) (As := [vi (sx xs i 1)]) (S := []) C co_yX11_price ml_RL_81 im_yX11_price se_yX11_price ini_RX11 rfl rfl hq_X11_price (by decide) (Nat.le_of_ble_eq_true rfl) rfl dL_law_645 ((((e_price sx32)).g M hR hG).mono ?_ (Nat.le_refl _))
  rintro r M1 ⟨x, rfl, hc⟩
  refine v_aload_n (i := 2) C dL_law_648 rfl rfl ?_
  refine v_arg (k := 1) C X hN h0 h6 (by decide) dL_law_649 dL_law_650 dL_law_651 dL_law_652 dL_law_653 ?_
  refine v_callV (q := qX12_price) (k := 44) (As := [vi (sx xs i 1)]) (S := [vj x]) C co_yX12_price ml_RL_84 im_yX12_price se_yX12_price ini_RX12 rfl rfl hq_X12_price (by decide) (Nat.le_of_ble_eq_true rfl) rfl dL_law_654 (hc.mono ?_ (Nat.le_refl _))
  rintro r2 M2 ⟨rfl, hR2, hG2⟩
  refine v_lcmp_same C rfl dL_law_657 ?_
  exact v_if_eq C r32_0 dL_law_658 rfl (fun _ => K M2 hR2 hG2) (fun q => absurd rfl q)
theorem lc_663 (C : Cx E z 20 RL cL_law 4) (X : XS E z N xs) (hN : N ≤ 3072) : LC E l z N 663 := by
  intro i M h0 h6 hR hG K
  refine v_aload_n (i := 1) C dL_law_663 rfl rfl ?_
  refine v_arg (k := 1) C X hN h0 h6 (by decide) dL_law_664 dL_law_665 dL_law_666 dL_law_667 dL_law_668 ?_
  refine v_arg (k := 2) C X hN h0 h6 (by decide) dL_law_669 dL_law_670 dL_law_671 dL_law_672 dL_law_673 ?_
  refine v_callV (q := qX11_parties) (k := 0) (As := [vi (sx xs i 1), vi (sx xs i 2)]) (S := []) C co_yX11_parties ml_RL_85 im_yX11_parties se_yX11_parties ini_RX11 rfl rfl hq_X11_parties (by decide) (Nat.le_of_ble_eq_true rfl) rfl dL_law_674 (((e_parties sx32 sx32) M hR hG).mono ?_ (Nat.le_refl _))
  rintro r M1 ⟨x, rfl, hc⟩
  refine v_aload_n (i := 2) C dL_law_677 rfl rfl ?_
  refine v_arg (k := 1) C X hN h0 h6 (by decide) dL_law_678 dL_law_679 dL_law_680 dL_law_681 dL_law_682 ?_
  refine v_arg (k := 2) C X hN h0 h6 (by decide) dL_law_683 dL_law_684 dL_law_685 dL_law_686 dL_law_687 ?_
  refine v_callV (q := qX12_parties) (k := 44) (As := [vi (sx xs i 1), vi (sx xs i 2)]) (S := [vj x]) C co_yX12_parties ml_RL_89 im_yX12_parties se_yX12_parties ini_RX12 rfl rfl hq_X12_parties (by decide) (Nat.le_of_ble_eq_true rfl) rfl dL_law_688 (hc.mono ?_ (Nat.le_refl _))
  rintro r2 M2 ⟨rfl, hR2, hG2⟩
  refine v_lcmp_same C rfl dL_law_691 ?_
  exact v_if_eq C r32_0 dL_law_692 rfl (fun _ => K M2 hR2 hG2) (fun q => absurd rfl q)
theorem lc_697 (C : Cx E z 20 RL cL_law 4) (X : XS E z N xs) (hN : N ≤ 3072) : LC E l z N 697 := by
  intro i M h0 h6 hR hG K
  refine v_aload_n (i := 1) C dL_law_697 rfl rfl ?_
  refine v_arg (k := 1) C X hN h0 h6 (by decide) dL_law_698 dL_law_699 dL_law_700 dL_law_701 dL_law_702 ?_
  refine v_callV (q := qX11_third) (k := 0) (As := [vi (sx xs i 1)]) (S := []) C co_yX11_third ml_RL_90 im_yX11_third se_yX11_third ini_RX11 rfl rfl hq_X11_third (by decide) (Nat.le_of_ble_eq_true rfl) rfl dL_law_703 ((((e_third sx32)).g M hR hG).mono ?_ (Nat.le_refl _))
  rintro r M1 ⟨x, rfl, hc⟩
  refine v_aload_n (i := 2) C dL_law_706 rfl rfl ?_
  refine v_arg (k := 1) C X hN h0 h6 (by decide) dL_law_707 dL_law_708 dL_law_709 dL_law_710 dL_law_711 ?_
  refine v_callV (q := qX12_third) (k := 44) (As := [vi (sx xs i 1)]) (S := [vi x]) C co_yX12_third ml_RL_93 im_yX12_third se_yX12_third ini_RX12 rfl rfl hq_X12_third (by decide) (Nat.le_of_ble_eq_true rfl) rfl dL_law_712 (hc.mono ?_ (Nat.le_refl _))
  rintro r2 M2 ⟨rfl, hR2, hG2⟩
  exact v_icmpS C rfl dL_law_715 rfl (K M2 hR2 hG2)
theorem lc_720 (C : Cx E z 20 RL cL_law 4) (X : XS E z N xs) (hN : N ≤ 3072) : LC E l z N 720 := by
  intro i M h0 h6 hR hG K
  refine v_aload_n (i := 1) C dL_law_720 rfl rfl ?_
  refine v_arg (k := 1) C X hN h0 h6 (by decide) dL_law_721 dL_law_722 dL_law_723 dL_law_724 dL_law_725 ?_
  refine v_callV (q := qX11_worn) (k := 0) (As := [vi (sx xs i 1)]) (S := []) C co_yX11_worn ml_RL_94 im_yX11_worn se_yX11_worn ini_RX11 rfl rfl hq_X11_worn (by decide) (Nat.le_of_ble_eq_true rfl) rfl dL_law_726 ((((e_worn sx32)).g M hR hG).mono ?_ (Nat.le_refl _))
  rintro r M1 ⟨x, rfl, hc⟩
  refine v_aload_n (i := 2) C dL_law_729 rfl rfl ?_
  refine v_arg (k := 1) C X hN h0 h6 (by decide) dL_law_730 dL_law_731 dL_law_732 dL_law_733 dL_law_734 ?_
  refine v_callV (q := qX12_worn) (k := 44) (As := [vi (sx xs i 1)]) (S := [vi x]) C co_yX12_worn ml_RL_97 im_yX12_worn se_yX12_worn ini_RX12 rfl rfl hq_X12_worn (by decide) (Nat.le_of_ble_eq_true rfl) rfl dL_law_735 (hc.mono ?_ (Nat.le_refl _))
  rintro r2 M2 ⟨rfl, hR2, hG2⟩
  exact v_icmpS C rfl dL_law_738 rfl (K M2 hR2 hG2)
theorem lc_743 (C : Cx E z 20 RL cL_law 4) (X : XS E z N xs) (hN : N ≤ 3072) : LC E l z N 743 := by
  intro i M h0 h6 hR hG K
  refine v_aload_n (i := 1) C dL_law_743 rfl rfl ?_
  refine v_arg (k := 1) C X hN h0 h6 (by decide) dL_law_744 dL_law_745 dL_law_746 dL_law_747 dL_law_748 ?_
  refine v_arg (k := 2) C X hN h0 h6 (by decide) dL_law_749 dL_law_750 dL_law_751 dL_law_752 dL_law_753 ?_
  refine v_arg (k := 3) C X hN h0 h6 (by decide) dL_law_754 dL_law_755 dL_law_756 dL_law_757 dL_law_758 ?_
  refine v_arg (k := 4) C X hN h0 h6 (by decide) dL_law_759 dL_law_760 dL_law_761 dL_law_762 dL_law_763 ?_
  refine v_callV (q := qX11_rate) (k := 0) (As := [vi (sx xs i 1), vi (sx xs i 2), vi (sx xs i 3), vi (sx xs i 4)]) (S := []) C co_yX11_rate ml_RL_98 im_yX11_rate se_yX11_rate ini_RX11 rfl rfl hq_X11_rate (by decide) (Nat.le_of_ble_eq_true rfl) rfl dL_law_764 ((((e_rate sx32 sx32 sx32 sx32)).g M hR hG).mono ?_ (Nat.le_refl _))
  rintro r M1 ⟨x, rfl, hc⟩
  refine v_aload_n (i := 2) C dL_law_767 rfl rfl ?_
  refine v_arg (k := 1) C X hN h0 h6 (by decide) dL_law_768 dL_law_769 dL_law_770 dL_law_771 dL_law_772 ?_
  refine v_arg (k := 2) C X hN h0 h6 (by decide) dL_law_773 dL_law_774 dL_law_775 dL_law_776 dL_law_777 ?_
  refine v_arg (k := 3) C X hN h0 h6 (by decide) dL_law_778 dL_law_779 dL_law_780 dL_law_781 dL_law_782 ?_
  refine v_arg (k := 4) C X hN h0 h6 (by decide) dL_law_783 dL_law_784 dL_law_785 dL_law_786 dL_law_787 ?_
  refine v_callV (q := qX12_rate) (k := 44) (As := [vi (sx xs i 1), vi (sx xs i 2), vi (sx xs i 3), vi (sx xs i 4)]) (S := [vi x]) C co_yX12_rate ml_RL_102 im_yX12_rate se_yX12_rate ini_RX12 rfl rfl hq_X12_rate (by decide) (Nat.le_of_ble_eq_true rfl) rfl dL_law_788 (hc.mono ?_ (Nat.le_refl _))
  rintro r2 M2 ⟨rfl, hR2, hG2⟩
  exact v_icmpS C rfl dL_law_791 rfl (K M2 hR2 hG2)
theorem lc_796 (C : Cx E z 20 RL cL_law 4) (X : XS E z N xs) (hN : N ≤ 3072) : LC E l z N 796 := by
  intro i M h0 h6 hR hG K
  refine v_aload_n (i := 1) C dL_law_796 rfl rfl ?_
  refine v_arg (k := 1) C X hN h0 h6 (by decide) dL_law_797 dL_law_798 dL_law_799 dL_law_800 dL_law_801 ?_
  refine v_callV (q := qX11_rings) (k := 0) (As := [vi (sx xs i 1)]) (S := []) C co_yX11_rings ml_RL_103 im_yX11_rings se_yX11_rings ini_RX11 rfl rfl hq_X11_rings (by decide) (Nat.le_of_ble_eq_true rfl) rfl dL_law_802 ((((e_rings sx32)).g M hR hG).mono ?_ (Nat.le_refl _))
  rintro r M1 ⟨x, rfl, hc⟩
  refine v_aload_n (i := 2) C dL_law_805 rfl rfl ?_
  refine v_arg (k := 1) C X hN h0 h6 (by decide) dL_law_806 dL_law_807 dL_law_808 dL_law_809 dL_law_810 ?_
  refine v_callV (q := qX12_rings) (k := 44) (As := [vi (sx xs i 1)]) (S := [vi x]) C co_yX12_rings ml_RL_106 im_yX12_rings se_yX12_rings ini_RX12 rfl rfl hq_X12_rings (by decide) (Nat.le_of_ble_eq_true rfl) rfl dL_law_811 (hc.mono ?_ (Nat.le_refl _))
  rintro r2 M2 ⟨rfl, hR2, hG2⟩
  exact v_icmpS C rfl dL_law_814 rfl (K M2 hR2 hG2)
theorem lc_819 (C : Cx E z 20 RL cL_law 4) (X : XS E z N xs) (hN : N ≤ 3072) : LC E l z N 819 := by
  intro i M h0 h6 hR hG K
  refine v_aload_n (i := 1) C dL_law_819 rfl rfl ?_
  refine v_arg (k := 1) C X hN h0 h6 (by decide) dL_law_820 dL_law_821 dL_law_822 dL_law_823 dL_law_824 ?_
  refine v_arg (k := 2) C X hN h0 h6 (by decide) dL_law_825 dL_law_826 dL_law_827 dL_law_828 dL_law_829 ?_
  refine v_arg (k := 3) C X hN h0 h6 (by decide) dL_law_830 dL_law_831 dL_law_832 dL_law_833 dL_law_834 ?_
  refine v_arg (k := 4) C X hN h0 h6 (by decide) dL_law_835 dL_law_836 dL_law_837 dL_law_838 dL_law_839 ?_
  refine v_callV (q := qX11_turn) (k := 0) (As := [vi (sx xs i 1), vi (sx xs i 2), vi (sx xs i 3), vi (sx xs i 4)]) (S := []) C co_yX11_turn ml_RL_107 im_yX11_turn se_yX11_turn ini_RX11 rfl rfl hq_X11_turn (by decide) (Nat.le_of_ble_eq_true rfl) rfl dL_law_840 ((((e_turn sx32 sx32 sx32 sx32)).g M hR hG).mono ?_ (Nat.le_refl _))
  rintro r M1 ⟨x, rfl, hc⟩
  refine v_aload_n (i := 2) C dL_law_843 rfl rfl ?_
  refine v_arg (k := 1) C X hN h0 h6 (by decide) dL_law_844 dL_law_845 dL_law_846 dL_law_847 dL_law_848 ?_
  refine v_arg (k := 2) C X hN h0 h6 (by decide) dL_law_849 dL_law_850 dL_law_851 dL_law_852 dL_law_853 ?_
  refine v_arg (k := 3) C X hN h0 h6 (by decide) dL_law_854 dL_law_855 dL_law_856 dL_law_857 dL_law_858 ?_
  refine v_arg (k := 4) C X hN h0 h6 (by decide) dL_law_859 dL_law_860 dL_law_861 dL_law_862 dL_law_863 ?_
  refine v_callV (q := qX12_turn) (k := 44) (As := [vi (sx xs i 1), vi (sx xs i 2), vi (sx xs i 3), vi (sx xs i 4)]) (S := [vj x]) C co_yX12_turn ml_RL_111 im_yX12_turn se_yX12_turn ini_RX12 rfl rfl hq_X12_turn (by decide) (Nat.le_of_ble_eq_true rfl) rfl dL_law_864 (hc.mono ?_ (Nat.le_refl _))
  rintro r2 M2 ⟨rfl, hR2, hG2⟩
  refine v_lcmp_same C rfl dL_law_867 ?_
  exact v_if_eq C r32_0 dL_law_868 rfl (fun _ => K M2 hR2 hG2) (fun q => absurd rfl q)
theorem lc_873 (C : Cx E z 20 RL cL_law 4) (X : XS E z N xs) (hN : N ≤ 3072) : LC E l z N 873 := by
  intro i M h0 h6 hR hG K
  refine v_aload_n (i := 1) C dL_law_873 rfl rfl ?_
  refine v_callV (q := qX11_image) (k := 0) (As := []) (S := []) C co_yX11_image ml_RL_112 im_yX11_image se_yX11_image ini_RX11 rfl rfl hq_X11_image (by decide) (Nat.le_of_ble_eq_true rfl) rfl dL_law_874 (((e_image).g M hR hG).mono ?_ (Nat.le_refl _))
  rintro r M1 ⟨x, rfl, hc⟩
  refine v_aload_n (i := 2) C dL_law_877 rfl rfl ?_
  refine v_callV (q := qX12_image) (k := 44) (As := []) (S := [vi x]) C co_yX12_image ml_RL_115 im_yX12_image se_yX12_image ini_RX12 rfl rfl hq_X12_image (by decide) (Nat.le_of_ble_eq_true rfl) rfl dL_law_878 (hc.mono ?_ (Nat.le_refl _))
  rintro r2 M2 ⟨rfl, hR2, hG2⟩
  exact v_icmpS C rfl dL_law_881 rfl (K M2 hR2 hG2)
theorem lc_886 (C : Cx E z 20 RL cL_law 4) (X : XS E z N xs) (hN : N ≤ 3072) : LC E l z N 886 := by
  intro i M h0 h6 hR hG K
  refine v_aload_n (i := 1) C dL_law_886 rfl rfl ?_
  refine v_callV (q := qX11_restore) (k := 0) (As := []) (S := []) C co_yX11_restore ml_RL_116 im_yX11_restore se_yX11_restore ini_RX11 rfl rfl hq_X11_restore (by decide) (Nat.le_of_ble_eq_true rfl) rfl dL_law_887 (((e_restore).g M hR hG).mono ?_ (Nat.le_refl _))
  rintro r M1 ⟨x, rfl, hc⟩
  refine v_aload_n (i := 2) C dL_law_890 rfl rfl ?_
  refine v_callV (q := qX12_restore) (k := 44) (As := []) (S := [vi x]) C co_yX12_restore ml_RL_119 im_yX12_restore se_yX12_restore ini_RX12 rfl rfl hq_X12_restore (by decide) (Nat.le_of_ble_eq_true rfl) rfl dL_law_891 (hc.mono ?_ (Nat.le_refl _))
  rintro r2 M2 ⟨rfl, hR2, hG2⟩
  exact v_icmpS C rfl dL_law_894 rfl (K M2 hR2 hG2)
theorem lc_899 (C : Cx E z 20 RL cL_law 4) (X : XS E z N xs) (hN : N ≤ 3072) : LC E l z N 899 := by
  intro i M h0 h6 hR hG K
  refine v_aload_n (i := 1) C dL_law_899 rfl rfl ?_
  refine v_arg (k := 1) C X hN h0 h6 (by decide) dL_law_900 dL_law_901 dL_law_902 dL_law_903 dL_law_904 ?_
  refine v_arg (k := 2) C X hN h0 h6 (by decide) dL_law_905 dL_law_906 dL_law_907 dL_law_908 dL_law_909 ?_
  refine v_arg (k := 3) C X hN h0 h6 (by decide) dL_law_910 dL_law_911 dL_law_912 dL_law_913 dL_law_914 ?_
  refine v_callV (q := qX11_leaves) (k := 0) (As := [vi (sx xs i 1), vi (sx xs i 2), vi (sx xs i 3)]) (S := []) C co_yX11_leaves ml_RL_120 im_yX11_leaves se_yX11_leaves ini_RX11 rfl rfl hq_X11_leaves (by decide) (Nat.le_of_ble_eq_true rfl) rfl dL_law_915 ((((e_leaves sx32 sx32 sx32)).g M hR hG).mono ?_ (Nat.le_refl _))
  rintro r M1 ⟨x, rfl, hc⟩
  refine v_aload_n (i := 2) C dL_law_918 rfl rfl ?_
  refine v_arg (k := 1) C X hN h0 h6 (by decide) dL_law_919 dL_law_920 dL_law_921 dL_law_922 dL_law_923 ?_
  refine v_arg (k := 2) C X hN h0 h6 (by decide) dL_law_924 dL_law_925 dL_law_926 dL_law_927 dL_law_928 ?_
  refine v_arg (k := 3) C X hN h0 h6 (by decide) dL_law_929 dL_law_930 dL_law_931 dL_law_932 dL_law_933 ?_
  refine v_callV (q := qX12_leaves) (k := 44) (As := [vi (sx xs i 1), vi (sx xs i 2), vi (sx xs i 3)]) (S := [vi x]) C co_yX12_leaves ml_RL_124 im_yX12_leaves se_yX12_leaves ini_RX12 rfl rfl hq_X12_leaves (by decide) (Nat.le_of_ble_eq_true rfl) rfl dL_law_934 (hc.mono ?_ (Nat.le_refl _))
  rintro r2 M2 ⟨rfl, hR2, hG2⟩
  exact v_icmpS C rfl dL_law_937 rfl (K M2 hR2 hG2)
theorem lc_942 (C : Cx E z 20 RL cL_law 4) (X : XS E z N xs) (hN : N ≤ 3072) : LC E l z N 942 := by
  intro i M h0 h6 hR hG K
  refine v_aload_n (i := 1) C dL_law_942 rfl rfl ?_
  refine v_arg (k := 1) C X hN h0 h6 (by decide) dL_law_943 dL_law_944 dL_law_945 dL_law_946 dL_law_947 ?_
  refine v_arg (k := 2) C X hN h0 h6 (by decide) dL_law_948 dL_law_949 dL_law_950 dL_law_951 dL_law_952 ?_
  refine v_arg (k := 3) C X hN h0 h6 (by decide) dL_law_953 dL_law_954 dL_law_955 dL_law_956 dL_law_957 ?_
  refine v_arg (k := 4) C X hN h0 h6 (by decide) dL_law_958 dL_law_959 dL_law_960 dL_law_961 dL_law_962 ?_
  refine v_arg (k := 5) C X hN h0 h6 (by decide) dL_law_963 dL_law_964 dL_law_965 dL_law_966 dL_law_967 ?_
  refine v_callV (q := qX11_fit) (k := 0) (As := [vi (sx xs i 1), vi (sx xs i 2), vi (sx xs i 3), vi (sx xs i 4), vi (sx xs i 5)]) (S := []) C co_yX11_fit ml_RL_125 im_yX11_fit se_yX11_fit ini_RX11 rfl rfl hq_X11_fit (by decide) (Nat.le_of_ble_eq_true rfl) rfl dL_law_968 ((((e_fit sx32 sx32 sx32 sx32 sx32)).g M hR hG).mono ?_ (Nat.le_refl _))
  rintro r M1 ⟨x, rfl, hc⟩
  refine v_aload_n (i := 2) C dL_law_971 rfl rfl ?_
  refine v_arg (k := 1) C X hN h0 h6 (by decide) dL_law_972 dL_law_973 dL_law_974 dL_law_975 dL_law_976 ?_
  refine v_arg (k := 2) C X hN h0 h6 (by decide) dL_law_977 dL_law_978 dL_law_979 dL_law_980 dL_law_981 ?_
  refine v_arg (k := 3) C X hN h0 h6 (by decide) dL_law_982 dL_law_983 dL_law_984 dL_law_985 dL_law_986 ?_
  refine v_arg (k := 4) C X hN h0 h6 (by decide) dL_law_987 dL_law_988 dL_law_989 dL_law_990 dL_law_991 ?_
  refine v_arg (k := 5) C X hN h0 h6 (by decide) dL_law_992 dL_law_993 dL_law_994 dL_law_995 dL_law_996 ?_
  refine v_callV (q := qX12_fit) (k := 44) (As := [vi (sx xs i 1), vi (sx xs i 2), vi (sx xs i 3), vi (sx xs i 4), vi (sx xs i 5)]) (S := [vi x]) C co_yX12_fit ml_RL_129 im_yX12_fit se_yX12_fit ini_RX12 rfl rfl hq_X12_fit (by decide) (Nat.le_of_ble_eq_true rfl) rfl dL_law_997 (hc.mono ?_ (Nat.le_refl _))
  rintro r2 M2 ⟨rfl, hR2, hG2⟩
  exact v_icmpS C rfl dL_law_1000 rfl (K M2 hR2 hG2)
theorem lc_1005 (C : Cx E z 20 RL cL_law 4) (X : XS E z N xs) (hN : N ≤ 3072) : LC E l z N 1005 := by
  intro i M h0 h6 hR hG K
  refine v_aload_n (i := 1) C dL_law_1005 rfl rfl ?_
  refine v_arg (k := 1) C X hN h0 h6 (by decide) dL_law_1006 dL_law_1007 dL_law_1008 dL_law_1009 dL_law_1010 ?_
  refine v_arg (k := 2) C X hN h0 h6 (by decide) dL_law_1011 dL_law_1012 dL_law_1013 dL_law_1014 dL_law_1015 ?_
  refine v_arg (k := 3) C X hN h0 h6 (by decide) dL_law_1016 dL_law_1017 dL_law_1018 dL_law_1019 dL_law_1020 ?_
  refine v_callV (q := qX11_film) (k := 0) (As := [vi (sx xs i 1), vi (sx xs i 2), vi (sx xs i 3)]) (S := []) C co_yX11_film ml_RL_130 im_yX11_film se_yX11_film ini_RX11 rfl rfl hq_X11_film (by decide) (Nat.le_of_ble_eq_true rfl) rfl dL_law_1021 ((((e_film sx32 sx32 sx32)).g M hR hG).mono ?_ (Nat.le_refl _))
  rintro r M1 ⟨x, rfl, hc⟩
  refine v_aload_n (i := 2) C dL_law_1024 rfl rfl ?_
  refine v_arg (k := 1) C X hN h0 h6 (by decide) dL_law_1025 dL_law_1026 dL_law_1027 dL_law_1028 dL_law_1029 ?_
  refine v_arg (k := 2) C X hN h0 h6 (by decide) dL_law_1030 dL_law_1031 dL_law_1032 dL_law_1033 dL_law_1034 ?_
  refine v_arg (k := 3) C X hN h0 h6 (by decide) dL_law_1035 dL_law_1036 dL_law_1037 dL_law_1038 dL_law_1039 ?_
  refine v_callV (q := qX12_film) (k := 44) (As := [vi (sx xs i 1), vi (sx xs i 2), vi (sx xs i 3)]) (S := [vi x]) C co_yX12_film ml_RL_133 im_yX12_film se_yX12_film ini_RX12 rfl rfl hq_X12_film (by decide) (Nat.le_of_ble_eq_true rfl) rfl dL_law_1040 (hc.mono ?_ (Nat.le_refl _))
  rintro r2 M2 ⟨rfl, hR2, hG2⟩
  exact v_icmpS C rfl dL_law_1043 rfl (K M2 hR2 hG2)
theorem lc_1048 (C : Cx E z 20 RL cL_law 4) (X : XS E z N xs) (hN : N ≤ 3072) : LC E l z N 1048 := by
  intro i M h0 h6 hR hG K
  refine v_aload_n (i := 1) C dL_law_1048 rfl rfl ?_
  refine v_arg (k := 1) C X hN h0 h6 (by decide) dL_law_1049 dL_law_1050 dL_law_1051 dL_law_1052 dL_law_1053 ?_
  refine v_arg (k := 2) C X hN h0 h6 (by decide) dL_law_1054 dL_law_1055 dL_law_1056 dL_law_1057 dL_law_1058 ?_
  refine v_arg (k := 3) C X hN h0 h6 (by decide) dL_law_1059 dL_law_1060 dL_law_1061 dL_law_1062 dL_law_1063 ?_
  refine v_callV (q := qX11_sheet) (k := 0) (As := [vi (sx xs i 1), vi (sx xs i 2), vi (sx xs i 3)]) (S := []) C co_yX11_sheet ml_RL_134 im_yX11_sheet se_yX11_sheet ini_RX11 rfl rfl hq_X11_sheet (by decide) (Nat.le_of_ble_eq_true rfl) rfl dL_law_1064 ((((e_sheet sx32 sx32 sx32)).g M hR hG).mono ?_ (Nat.le_refl _))
  rintro r M1 ⟨x, rfl, hc⟩
  refine v_aload_n (i := 2) C dL_law_1067 rfl rfl ?_
  refine v_arg (k := 1) C X hN h0 h6 (by decide) dL_law_1068 dL_law_1069 dL_law_1070 dL_law_1071 dL_law_1072 ?_
  refine v_arg (k := 2) C X hN h0 h6 (by decide) dL_law_1073 dL_law_1074 dL_law_1075 dL_law_1076 dL_law_1077 ?_
  refine v_arg (k := 3) C X hN h0 h6 (by decide) dL_law_1078 dL_law_1079 dL_law_1080 dL_law_1081 dL_law_1082 ?_
  refine v_callV (q := qX12_sheet) (k := 44) (As := [vi (sx xs i 1), vi (sx xs i 2), vi (sx xs i 3)]) (S := [vi x]) C co_yX12_sheet ml_RL_137 im_yX12_sheet se_yX12_sheet ini_RX12 rfl rfl hq_X12_sheet (by decide) (Nat.le_of_ble_eq_true rfl) rfl dL_law_1083 (hc.mono ?_ (Nat.le_refl _))
  rintro r2 M2 ⟨rfl, hR2, hG2⟩
  exact v_icmpS C rfl dL_law_1086 rfl (K M2 hR2 hG2)
theorem lc_1091 (C : Cx E z 20 RL cL_law 4) (X : XS E z N xs) (hN : N ≤ 3072) : LC E l z N 1091 := by
  intro i M h0 h6 hR hG K
  refine v_aload_n (i := 1) C dL_law_1091 rfl rfl ?_
  refine v_arg (k := 1) C X hN h0 h6 (by decide) dL_law_1092 dL_law_1093 dL_law_1094 dL_law_1095 dL_law_1096 ?_
  refine v_callV (q := qX11_drop) (k := 0) (As := [vi (sx xs i 1)]) (S := []) C co_yX11_drop ml_RL_138 im_yX11_drop se_yX11_drop ini_RX11 rfl rfl hq_X11_drop (by decide) (Nat.le_of_ble_eq_true rfl) rfl dL_law_1097 ((((e_drop sx32)).g M hR hG).mono ?_ (Nat.le_refl _))
  rintro r M1 ⟨x, rfl, hc⟩
  refine v_aload_n (i := 2) C dL_law_1100 rfl rfl ?_
  refine v_arg (k := 1) C X hN h0 h6 (by decide) dL_law_1101 dL_law_1102 dL_law_1103 dL_law_1104 dL_law_1105 ?_
  refine v_callV (q := qX12_drop) (k := 44) (As := [vi (sx xs i 1)]) (S := [vi x]) C co_yX12_drop ml_RL_141 im_yX12_drop se_yX12_drop ini_RX12 rfl rfl hq_X12_drop (by decide) (Nat.le_of_ble_eq_true rfl) rfl dL_law_1106 (hc.mono ?_ (Nat.le_refl _))
  rintro r2 M2 ⟨rfl, hR2, hG2⟩
  exact v_icmpS C rfl dL_law_1109 rfl (K M2 hR2 hG2)
theorem lc_1114 (C : Cx E z 20 RL cL_law 4) (X : XS E z N xs) (hN : N ≤ 3072) : LC E l z N 1114 := by
  intro i M h0 h6 hR hG K
  refine v_aload_n (i := 1) C dL_law_1114 rfl rfl ?_
  refine v_arg (k := 1) C X hN h0 h6 (by decide) dL_law_1115 dL_law_1116 dL_law_1117 dL_law_1118 dL_law_1119 ?_
  refine v_arg (k := 2) C X hN h0 h6 (by decide) dL_law_1120 dL_law_1121 dL_law_1122 dL_law_1123 dL_law_1124 ?_
  refine v_arg (k := 3) C X hN h0 h6 (by decide) dL_law_1125 dL_law_1126 dL_law_1127 dL_law_1128 dL_law_1129 ?_
  refine v_arg (k := 4) C X hN h0 h6 (by decide) dL_law_1130 dL_law_1131 dL_law_1132 dL_law_1133 dL_law_1134 ?_
  refine v_i2l C sx32 dL_law_1135 ?_
  refine v_bipush C dL_law_1136 (by decide) ?_
  refine v_lshl C dL_law_1138 ?_
  refine v_arg (k := 5) C X hN h0 h6 (by decide) dL_law_1139 dL_law_1140 dL_law_1141 dL_law_1142 dL_law_1143 ?_
  refine v_i2l C sx32 dL_law_1144 ?_
  refine v_ldc2 (x := 4294967295) C cs_RL_32 rfl dL_law_1145 ?_
  refine v_land C dL_law_1148 ?_
  refine v_lor C dL_law_1149 ?_
  refine v_callV (q := qX11_item) (k := 0) (As := [vi (sx xs i 1), vi (sx xs i 2), vi (sx xs i 3), vj (jor (jshl (sx xs i 4) 32) (jand (sx xs i 5) 4294967295))]) (S := []) C co_yX11_item ml_RL_142 im_yX11_item se_yX11_item ini_RX11 rfl rfl hq_X11_item (by decide) (Nat.le_of_ble_eq_true rfl) rfl dL_law_1150 ((((e_item sx32 sx32 sx32 jor64)).g M hR hG).mono ?_ (Nat.le_refl _))
  rintro r M1 ⟨x, rfl, hc⟩
  refine v_aload_n (i := 2) C dL_law_1153 rfl rfl ?_
  refine v_arg (k := 1) C X hN h0 h6 (by decide) dL_law_1154 dL_law_1155 dL_law_1156 dL_law_1157 dL_law_1158 ?_
  refine v_arg (k := 2) C X hN h0 h6 (by decide) dL_law_1159 dL_law_1160 dL_law_1161 dL_law_1162 dL_law_1163 ?_
  refine v_arg (k := 3) C X hN h0 h6 (by decide) dL_law_1164 dL_law_1165 dL_law_1166 dL_law_1167 dL_law_1168 ?_
  refine v_arg (k := 4) C X hN h0 h6 (by decide) dL_law_1169 dL_law_1170 dL_law_1171 dL_law_1172 dL_law_1173 ?_
  refine v_i2l C sx32 dL_law_1174 ?_
  refine v_bipush C dL_law_1175 (by decide) ?_
  refine v_lshl C dL_law_1177 ?_
  refine v_arg (k := 5) C X hN h0 h6 (by decide) dL_law_1178 dL_law_1179 dL_law_1180 dL_law_1181 dL_law_1182 ?_
  refine v_i2l C sx32 dL_law_1183 ?_
  refine v_ldc2 (x := 4294967295) C cs_RL_32 rfl dL_law_1184 ?_
  refine v_land C dL_law_1187 ?_
  refine v_lor C dL_law_1188 ?_
  refine v_callV (q := qX12_item) (k := 44) (As := [vi (sx xs i 1), vi (sx xs i 2), vi (sx xs i 3), vj (jor (jshl (sx xs i 4) 32) (jand (sx xs i 5) 4294967295))]) (S := [vi x]) C co_yX12_item ml_RL_146 im_yX12_item se_yX12_item ini_RX12 rfl rfl hq_X12_item (by decide) (Nat.le_of_ble_eq_true rfl) rfl dL_law_1189 (hc.mono ?_ (Nat.le_refl _))
  rintro r2 M2 ⟨rfl, hR2, hG2⟩
  exact v_icmpS C rfl dL_law_1192 rfl (K M2 hR2 hG2)
theorem lc_1197 (C : Cx E z 20 RL cL_law 4) (X : XS E z N xs) (hN : N ≤ 3072) : LC E l z N 1197 := by
  intro i M h0 h6 hR hG K
  refine v_aload_n (i := 1) C dL_law_1197 rfl rfl ?_
  refine v_arg (k := 1) C X hN h0 h6 (by decide) dL_law_1198 dL_law_1199 dL_law_1200 dL_law_1201 dL_law_1202 ?_
  refine v_arg (k := 2) C X hN h0 h6 (by decide) dL_law_1203 dL_law_1204 dL_law_1205 dL_law_1206 dL_law_1207 ?_
  refine v_arg (k := 3) C X hN h0 h6 (by decide) dL_law_1208 dL_law_1209 dL_law_1210 dL_law_1211 dL_law_1212 ?_
  refine v_arg (k := 4) C X hN h0 h6 (by decide) dL_law_1213 dL_law_1214 dL_law_1215 dL_law_1216 dL_law_1217 ?_
  refine v_arg (k := 5) C X hN h0 h6 (by decide) dL_law_1218 dL_law_1219 dL_law_1220 dL_law_1221 dL_law_1222 ?_
  refine v_callV (q := qX11_copy) (k := 0) (As := [vi (sx xs i 1), vi (sx xs i 2), vi (sx xs i 3), vi (sx xs i 4), vi (sx xs i 5)]) (S := []) C co_yX11_copy ml_RL_147 im_yX11_copy se_yX11_copy ini_RX11 rfl rfl hq_X11_copy (by decide) (Nat.le_of_ble_eq_true rfl) rfl dL_law_1223 ((((e_copy sx32 sx32 sx32 sx32 sx32)).g M hR hG).mono ?_ (Nat.le_refl _))
  rintro r M1 ⟨x, rfl, hc⟩
  refine v_aload_n (i := 2) C dL_law_1226 rfl rfl ?_
  refine v_arg (k := 1) C X hN h0 h6 (by decide) dL_law_1227 dL_law_1228 dL_law_1229 dL_law_1230 dL_law_1231 ?_
  refine v_arg (k := 2) C X hN h0 h6 (by decide) dL_law_1232 dL_law_1233 dL_law_1234 dL_law_1235 dL_law_1236 ?_
  refine v_arg (k := 3) C X hN h0 h6 (by decide) dL_law_1237 dL_law_1238 dL_law_1239 dL_law_1240 dL_law_1241 ?_
  refine v_arg (k := 4) C X hN h0 h6 (by decide) dL_law_1242 dL_law_1243 dL_law_1244 dL_law_1245 dL_law_1246 ?_
  refine v_arg (k := 5) C X hN h0 h6 (by decide) dL_law_1247 dL_law_1248 dL_law_1249 dL_law_1250 dL_law_1251 ?_
  refine v_callV (q := qX12_copy) (k := 44) (As := [vi (sx xs i 1), vi (sx xs i 2), vi (sx xs i 3), vi (sx xs i 4), vi (sx xs i 5)]) (S := [vi x]) C co_yX12_copy ml_RL_150 im_yX12_copy se_yX12_copy ini_RX12 rfl rfl hq_X12_copy (by decide) (Nat.le_of_ble_eq_true rfl) rfl dL_law_1252 (hc.mono ?_ (Nat.le_refl _))
  rintro r2 M2 ⟨rfl, hR2, hG2⟩
  exact v_icmpS C rfl dL_law_1255 rfl (K M2 hR2 hG2)
theorem lc_sw (C : Cx E z 20 RL cL_law 4) (X : XS E z N xs) (hN : N ≤ 3072) : LC E l z N 27 := by
  intro i M h0 h6 hR hG K
  refine v_aload_n (i := 0) C dL_law_27 rfl rfl ?_
  refine v_iload_n (i := 3) C dL_law_28 rfl rfl ?_
  refine v_sld C X hN h0 (by omega) dL_law_29 ?_
  refine v_bipush C dL_law_30 (by decide) ?_
  refine v_iand C dL_law_32 ?_
  obtain ⟨y, hy, hy2⟩ := iand_31 (xs i.toNat).toInt
  rw [hy]
  have hr : R32 (y : Int) := by unfold R32; omega
  by_cases h31 : y = 31
  · exact v_tswOut C hr dL_law_33 (by omega) (tgt := 1260) rfl (K M hR hG)
  by_cases c0 : y = 0
  · subst c0
    exact v_tswIn C hr dL_law_33 (by decide) (by decide) (off := 139) rfl (tgt := 172) rfl (lc_172 C X hN i M h0 h6 hR hG K)
  by_cases c1 : y = 1
  · subst c1
    exact v_tswIn C hr dL_law_33 (by decide) (by decide) (off := 172) rfl (tgt := 205) rfl (lc_205 C X hN i M h0 h6 hR hG K)
  by_cases c2 : y = 2
  · subst c2
    exact v_tswIn C hr dL_law_33 (by decide) (by decide) (off := 205) rfl (tgt := 238) rfl (lc_238 C X hN i M h0 h6 hR hG K)
  by_cases c3 : y = 3
  · subst c3
    exact v_tswIn C hr dL_law_33 (by decide) (by decide) (off := 228) rfl (tgt := 261) rfl (lc_261 C X hN i M h0 h6 hR hG K)
  by_cases c4 : y = 4
  · subst c4
    exact v_tswIn C hr dL_law_33 (by decide) (by decide) (off := 252) rfl (tgt := 285) rfl (lc_285 C X hN i M h0 h6 hR hG K)
  by_cases c5 : y = 5
  · subst c5
    exact v_tswIn C hr dL_law_33 (by decide) (by decide) (off := 306) rfl (tgt := 339) rfl (lc_339 C X hN i M h0 h6 hR hG K)
  by_cases c6 : y = 6
  · subst c6
    exact v_tswIn C hr dL_law_33 (by decide) (by decide) (off := 339) rfl (tgt := 372) rfl (lc_372 C X hN i M h0 h6 hR hG K)
  by_cases c7 : y = 7
  · subst c7
    exact v_tswIn C hr dL_law_33 (by decide) (by decide) (off := 372) rfl (tgt := 405) rfl (lc_405 C X hN i M h0 h6 hR hG K)
  by_cases c8 : y = 8
  · subst c8
    exact v_tswIn C hr dL_law_33 (by decide) (by decide) (off := 405) rfl (tgt := 438) rfl (lc_438 C X hN i M h0 h6 hR hG K)
  by_cases c9 : y = 9
  · subst c9
    exact v_tswIn C hr dL_law_33 (by decide) (by decide) (off := 438) rfl (tgt := 471) rfl (lc_471 C X hN i M h0 h6 hR hG K)
  by_cases c10 : y = 10
  · subst c10
    exact v_tswIn C hr dL_law_33 (by decide) (by decide) (off := 501) rfl (tgt := 534) rfl (lc_534 C X hN i M h0 h6 hR hG K)
  by_cases c11 : y = 11
  · subst c11
    exact v_tswIn C hr dL_law_33 (by decide) (by decide) (off := 514) rfl (tgt := 547) rfl (lc_547 C X hN i M h0 h6 hR hG K)
  by_cases c12 : y = 12
  · subst c12
    exact v_tswIn C hr dL_law_33 (by decide) (by decide) (off := 537) rfl (tgt := 570) rfl (lc_570 C X hN i M h0 h6 hR hG K)
  by_cases c13 : y = 13
  · subst c13
    exact v_tswIn C hr dL_law_33 (by decide) (by decide) (off := 570) rfl (tgt := 603) rfl (lc_603 C X hN i M h0 h6 hR hG K)
  by_cases c14 : y = 14
  · subst c14
    exact v_tswIn C hr dL_law_33 (by decide) (by decide) (off := 593) rfl (tgt := 626) rfl (lc_626 C X hN i M h0 h6 hR hG K)
  by_cases c15 : y = 15
  · subst c15
    exact v_tswIn C hr dL_law_33 (by decide) (by decide) (off := 606) rfl (tgt := 639) rfl (lc_639 C X hN i M h0 h6 hR hG K)
  by_cases c16 : y = 16
  · subst c16
    exact v_tswIn C hr dL_law_33 (by decide) (by decide) (off := 630) rfl (tgt := 663) rfl (lc_663 C X hN i M h0 h6 hR hG K)
  by_cases c17 : y = 17
  · subst c17
    exact v_tswIn C hr dL_law_33 (by decide) (by decide) (off := 664) rfl (tgt := 697) rfl (lc_697 C X hN i M h0 h6 hR hG K)
  by_cases c18 : y = 18
  · subst c18
    exact v_tswIn C hr dL_law_33 (by decide) (by decide) (off := 687) rfl (tgt := 720) rfl (lc_720 C X hN i M h0 h6 hR hG K)
  by_cases c19 : y = 19
  · subst c19
    exact v_tswIn C hr dL_law_33 (by decide) (by decide) (off := 710) rfl (tgt := 743) rfl (lc_743 C X hN i M h0 h6 hR hG K)
  by_cases c20 : y = 20
  · subst c20
    exact v_tswIn C hr dL_law_33 (by decide) (by decide) (off := 763) rfl (tgt := 796) rfl (lc_796 C X hN i M h0 h6 hR hG K)
  by_cases c21 : y = 21
  · subst c21
    exact v_tswIn C hr dL_law_33 (by decide) (by decide) (off := 786) rfl (tgt := 819) rfl (lc_819 C X hN i M h0 h6 hR hG K)
  by_cases c22 : y = 22
  · subst c22
    exact v_tswIn C hr dL_law_33 (by decide) (by decide) (off := 840) rfl (tgt := 873) rfl (lc_873 C X hN i M h0 h6 hR hG K)
  by_cases c23 : y = 23
  · subst c23
    exact v_tswIn C hr dL_law_33 (by decide) (by decide) (off := 853) rfl (tgt := 886) rfl (lc_886 C X hN i M h0 h6 hR hG K)
  by_cases c24 : y = 24
  · subst c24
    exact v_tswIn C hr dL_law_33 (by decide) (by decide) (off := 866) rfl (tgt := 899) rfl (lc_899 C X hN i M h0 h6 hR hG K)
  by_cases c25 : y = 25
  · subst c25
    exact v_tswIn C hr dL_law_33 (by decide) (by decide) (off := 909) rfl (tgt := 942) rfl (lc_942 C X hN i M h0 h6 hR hG K)
  by_cases c26 : y = 26
  · subst c26
    exact v_tswIn C hr dL_law_33 (by decide) (by decide) (off := 972) rfl (tgt := 1005) rfl (lc_1005 C X hN i M h0 h6 hR hG K)
  by_cases c27 : y = 27
  · subst c27
    exact v_tswIn C hr dL_law_33 (by decide) (by decide) (off := 1015) rfl (tgt := 1048) rfl (lc_1048 C X hN i M h0 h6 hR hG K)
  by_cases c28 : y = 28
  · subst c28
    exact v_tswIn C hr dL_law_33 (by decide) (by decide) (off := 1058) rfl (tgt := 1091) rfl (lc_1091 C X hN i M h0 h6 hR hG K)
  by_cases c29 : y = 29
  · subst c29
    exact v_tswIn C hr dL_law_33 (by decide) (by decide) (off := 1081) rfl (tgt := 1114) rfl (lc_1114 C X hN i M h0 h6 hR hG K)
  by_cases c30 : y = 30
  · subst c30
    exact v_tswIn C hr dL_law_33 (by decide) (by decide) (off := 1164) rfl (tgt := 1197) rfl (lc_1197 C X hN i M h0 h6 hR hG K)
  omega
end LCASES
