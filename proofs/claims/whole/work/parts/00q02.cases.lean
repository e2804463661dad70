/-! the law: its cases, law() aside -/
def lvL (b : Nat) (i : Int) : LV := fun α => [(0, .ref b), (1, .ref (α 3)), (2, .ref (α 64)), (3, .int (Int32.ofInt i))]
theorem lm0 {b : Nat} {i : Int} : ∀ α, (0, Value.ref b) ∈ lvL b i α := fun α => List.mem_cons_self
theorem lm1 {b : Nat} {i : Int} : ∀ α, (1, Value.ref (α 3)) ∈ lvL b i α := fun α => List.mem_cons_of_mem _ List.mem_cons_self
theorem lm2 {b : Nat} {i : Int} : ∀ α, (2, Value.ref (α 64)) ∈ lvL b i α := fun α => List.mem_cons_of_mem _ (List.mem_cons_of_mem _ List.mem_cons_self)
theorem lm3 {b : Nat} {i : Int} : ∀ α, (3, Value.int (Int32.ofInt i)) ∈ lvL b i α := fun α => List.mem_cons_of_mem _ (List.mem_cons_of_mem _ (List.mem_cons_of_mem _ List.mem_cons_self))
theorem lvL_ok {b n : Nat} {i : Int} (h : 64 < n) : ∀ α α' : Nat → Nat, (∀ o, o < n → α' o = α o) → lvL b i α' = lvL b i α := fun α α' q => by unfold lvL; rw [q 3 (by omega), q 64 h]
theorem lc_0 {b Ln : Nat} {xv : Nat → Int32} {Λ : LT} (hΛ : lG b Ln xv Λ) {N : NN} {X : MX} {i B : Int} (hsk : m_Sk X) (hI : Inv X N B) (hB : 0 ≤ B ∧ B + 300 ≤ 1000000) (hi : 0 ≤ i) (hi5 : i + 5 < (Ln : Int)) (k : ∀ N1, Inv X N1 (B + 300) → Λ (lvL b i) 1391 [] N1 X) : Λ (lvL b i) 204 [] N X := by
  obtain ⟨o, e1, p, e2, hv, hI2⟩ := sim_lord hI ((xv (i + 1).toNat).toInt) ((xv (i + 2).toNat).toInt)
  have hn := hsk.1
  refine l_aload (o := 3) hΛ dL_law_204 ⟨by omega, by omega⟩ lm1 ?_
  refine l_arg (j := 1) hΛ hi (by omega) (by omega) dL_law_205 dL_law_206 dL_law_207 dL_law_208 dL_law_209 lm0 lm3 ?_
  refine l_arg (j := 2) hΛ hi (by omega) (by omega) dL_law_210 dL_law_211 dL_law_212 dL_law_213 dL_law_214 lm0 lm3 ?_
  refine l_callV (d' := 4) (o := 3) (ci := 11) (args := [.inl (xv (i + 1).toNat).toInt, .inl (xv (i + 2).toNat).toInt]) hΛ (by omega) dL_law_215 cv_RL_13 cw_X11_lord rfl rfl (sk_k hsk 3 rfl) (Nat.le_of_ble_eq_true rfl) (lvL_ok (by omega)) rfl (t_X11_lord hsk (Nat.le_refl _) e1) ?_
  refine l_aload (o := 64) hΛ dL_law_218 ⟨by omega, by omega⟩ lm2 ?_
  refine l_arg (j := 1) hΛ hi (by omega) (by omega) dL_law_219 dL_law_220 dL_law_221 dL_law_222 dL_law_223 lm0 lm3 ?_
  refine l_arg (j := 2) hΛ hi (by omega) (by omega) dL_law_224 dL_law_225 dL_law_226 dL_law_227 dL_law_228 lm0 lm3 ?_
  refine l_callV (d' := 3) (o := 64) (ci := 12) (args := [.inl (xv (i + 1).toNat).toInt, .inl (xv (i + 2).toNat).toInt]) hΛ (by omega) dL_law_229 cv_RL_17 cw_X12_lord rfl rfl (sk_k hsk 64 rfl) (Nat.le_of_ble_eq_true rfl) (lvL_ok (by omega)) rfl (t_X12_lord hsk (Nat.le_refl _) e2) ?_
  exact l_icmp_eq hΛ 1391 dL_law_232 rfl (fun _ => k _ (inv_B hI2 (by omega) (by omega))) (fun h => absurd hv.symm h)
theorem lc_1 {b Ln : Nat} {xv : Nat → Int32} {Λ : LT} (hΛ : lG b Ln xv Λ) {N : NN} {X : MX} {i B : Int} (hsk : m_Sk X) (hI : Inv X N B) (hB : 0 ≤ B ∧ B + 300 ≤ 1000000) (hi : 0 ≤ i) (hi5 : i + 5 < (Ln : Int)) (k : ∀ N1, Inv X N1 (B + 300) → Λ (lvL b i) 1391 [] N1 X) : Λ (lvL b i) 237 [] N X := by
  obtain ⟨o, e1, p, e2, hv, hI2⟩ := sim_of hI ((xv (i + 1).toNat).toInt) ((xv (i + 2).toNat).toInt)
  have hn := hsk.1
  refine l_aload (o := 3) hΛ dL_law_237 ⟨by omega, by omega⟩ lm1 ?_
  refine l_arg (j := 1) hΛ hi (by omega) (by omega) dL_law_238 dL_law_239 dL_law_240 dL_law_241 dL_law_242 lm0 lm3 ?_
  refine l_arg (j := 2) hΛ hi (by omega) (by omega) dL_law_243 dL_law_244 dL_law_245 dL_law_246 dL_law_247 lm0 lm3 ?_
  refine l_callV (d' := 5) (o := 3) (ci := 11) (args := [.inl (xv (i + 1).toNat).toInt, .inl (xv (i + 2).toNat).toInt]) hΛ (by omega) dL_law_248 cv_RL_18 cw_X11_of rfl rfl (sk_k hsk 3 rfl) (Nat.le_of_ble_eq_true rfl) (lvL_ok (by omega)) rfl (t_X11_of hsk (Nat.le_refl _) e1) ?_
  refine l_aload (o := 64) hΛ dL_law_251 ⟨by omega, by omega⟩ lm2 ?_
  refine l_arg (j := 1) hΛ hi (by omega) (by omega) dL_law_252 dL_law_253 dL_law_254 dL_law_255 dL_law_256 lm0 lm3 ?_
  refine l_arg (j := 2) hΛ hi (by omega) (by omega) dL_law_257 dL_law_258 dL_law_259 dL_law_260 dL_law_261 lm0 lm3 ?_
  refine l_callV (d' := 9) (o := 64) (ci := 12) (args := [.inl (xv (i + 1).toNat).toInt, .inl (xv (i + 2).toNat).toInt]) hΛ (by omega) dL_law_262 cv_RL_21 cw_X12_of rfl rfl (sk_k hsk 64 rfl) (Nat.le_of_ble_eq_true rfl) (lvL_ok (by omega)) rfl (t_X12_of hsk (Nat.le_refl _) e2) ?_
  exact l_icmp_eq hΛ 1391 dL_law_265 rfl (fun _ => k _ (inv_B hI2 (by omega) (by omega))) (fun h => absurd hv.symm h)
theorem lc_2 {b Ln : Nat} {xv : Nat → Int32} {Λ : LT} (hΛ : lG b Ln xv Λ) {N : NN} {X : MX} {i B : Int} (hsk : m_Sk X) (hI : Inv X N B) (hB : 0 ≤ B ∧ B + 300 ≤ 1000000) (hi : 0 ≤ i) (hi5 : i + 5 < (Ln : Int)) (k : ∀ N1, Inv X N1 (B + 300) → Λ (lvL b i) 1391 [] N1 X) : Λ (lvL b i) 270 [] N X := by
  obtain ⟨o, e1, p, e2, hv, hI2⟩ := sim_put hI ((xv (i + 1).toNat).toInt) ((xv (i + 2).toNat).toInt) ((xv (i + 3).toNat).toInt)
  have hn := hsk.1
  refine l_aload (o := 3) hΛ dL_law_270 ⟨by omega, by omega⟩ lm1 ?_
  refine l_arg (j := 1) hΛ hi (by omega) (by omega) dL_law_271 dL_law_272 dL_law_273 dL_law_274 dL_law_275 lm0 lm3 ?_
  refine l_arg (j := 2) hΛ hi (by omega) (by omega) dL_law_276 dL_law_277 dL_law_278 dL_law_279 dL_law_280 lm0 lm3 ?_
  refine l_arg (j := 3) hΛ hi (by omega) (by omega) dL_law_281 dL_law_282 dL_law_283 dL_law_284 dL_law_285 lm0 lm3 ?_
  refine l_callV (d' := 2) (o := 3) (ci := 11) (args := [.inl (xv (i + 1).toNat).toInt, .inl (xv (i + 2).toNat).toInt, .inl (xv (i + 3).toNat).toInt]) hΛ (by omega) dL_law_286 cv_RL_22 cw_X11_put rfl rfl (sk_k hsk 3 rfl) (Nat.le_of_ble_eq_true rfl) (lvL_ok (by omega)) rfl (t_X11_put hsk (Nat.le_refl _) e1) ?_
  refine l_aload (o := 64) hΛ dL_law_289 ⟨by omega, by omega⟩ lm2 ?_
  refine l_arg (j := 1) hΛ hi (by omega) (by omega) dL_law_290 dL_law_291 dL_law_292 dL_law_293 dL_law_294 lm0 lm3 ?_
  refine l_arg (j := 2) hΛ hi (by omega) (by omega) dL_law_295 dL_law_296 dL_law_297 dL_law_298 dL_law_299 lm0 lm3 ?_
  refine l_arg (j := 3) hΛ hi (by omega) (by omega) dL_law_300 dL_law_301 dL_law_302 dL_law_303 dL_law_304 lm0 lm3 ?_
  refine l_callV (d' := 3) (o := 64) (ci := 12) (args := [.inl (xv (i + 1).toNat).toInt, .inl (xv (i + 2).toNat).toInt, .inl (xv (i + 3).toNat).toInt]) hΛ (by omega) dL_law_305 cv_RL_26 cw_X12_put rfl rfl (sk_k hsk 64 rfl) (Nat.le_of_ble_eq_true rfl) (lvL_ok (by omega)) rfl (t_X12_put hsk (Nat.le_refl _) e2) ?_
  exact l_icmp_eq hΛ 1391 dL_law_308 rfl (fun _ => k _ (inv_B hI2 (by omega) (by omega))) (fun h => absurd hv.symm h)
theorem lc_3 {b Ln : Nat} {xv : Nat → Int32} {Λ : LT} (hΛ : lG b Ln xv Λ) {N : NN} {X : MX} {i B : Int} (hsk : m_Sk X) (hI : Inv X N B) (hB : 0 ≤ B ∧ B + 300 ≤ 1000000) (hi : 0 ≤ i) (hi5 : i + 5 < (Ln : Int)) (k : ∀ N1, Inv X N1 (B + 300) → Λ (lvL b i) 1391 [] N1 X) : Λ (lvL b i) 313 [] N X := by
  obtain ⟨o, e1, p, e2, hv, hI2⟩ := sim_good hI hB.1 ((xv (i + 1).toNat).toInt) ((xv (i + 2).toNat).toInt) ((xv (i + 3).toNat).toInt)
  have hn := hsk.1
  refine l_aload (o := 3) hΛ dL_law_313 ⟨by omega, by omega⟩ lm1 ?_
  refine l_arg (j := 1) hΛ hi (by omega) (by omega) dL_law_314 dL_law_315 dL_law_316 dL_law_317 dL_law_318 lm0 lm3 ?_
  refine l_arg (j := 2) hΛ hi (by omega) (by omega) dL_law_319 dL_law_320 dL_law_321 dL_law_322 dL_law_323 lm0 lm3 ?_
  refine l_arg (j := 3) hΛ hi (by omega) (by omega) dL_law_324 dL_law_325 dL_law_326 dL_law_327 dL_law_328 lm0 lm3 ?_
  refine l_callV (d' := 2) (o := 3) (ci := 11) (args := [.inl (xv (i + 1).toNat).toInt, .inl (xv (i + 2).toNat).toInt, .inl (xv (i + 3).toNat).toInt]) hΛ (by omega) dL_law_329 cv_RL_27 cw_X11_good rfl rfl (sk_k hsk 3 rfl) (Nat.le_of_ble_eq_true rfl) (lvL_ok (by omega)) rfl (t_X11_good hsk (Nat.le_refl _) e1) ?_
  refine l_aload (o := 64) hΛ dL_law_332 ⟨by omega, by omega⟩ lm2 ?_
  refine l_arg (j := 1) hΛ hi (by omega) (by omega) dL_law_333 dL_law_334 dL_law_335 dL_law_336 dL_law_337 lm0 lm3 ?_
  refine l_arg (j := 2) hΛ hi (by omega) (by omega) dL_law_338 dL_law_339 dL_law_340 dL_law_341 dL_law_342 lm0 lm3 ?_
  refine l_arg (j := 3) hΛ hi (by omega) (by omega) dL_law_343 dL_law_344 dL_law_345 dL_law_346 dL_law_347 lm0 lm3 ?_
  refine l_callV (d' := 4) (o := 64) (ci := 12) (args := [.inl (xv (i + 1).toNat).toInt, .inl (xv (i + 2).toNat).toInt, .inl (xv (i + 3).toNat).toInt]) hΛ (by omega) dL_law_348 cv_RL_30 cw_X12_good rfl rfl (sk_k hsk 64 rfl) (Nat.le_of_ble_eq_true rfl) (lvL_ok (by omega)) rfl (t_X12_good hsk (Nat.le_refl _) e2) ?_
  exact l_icmp_eq hΛ 1391 dL_law_351 rfl (fun _ => k _ (inv_B hI2 (by omega) (by omega))) (fun h => absurd hv.symm h)
theorem lc_4 {b Ln : Nat} {xv : Nat → Int32} {Λ : LT} (hΛ : lG b Ln xv Λ) {N : NN} {X : MX} {i B : Int} (hsk : m_Sk X) (hI : Inv X N B) (hB : 0 ≤ B ∧ B + 300 ≤ 1000000) (hi : 0 ≤ i) (hi5 : i + 5 < (Ln : Int)) (k : ∀ N1, Inv X N1 (B + 300) → Λ (lvL b i) 1391 [] N1 X) : Λ (lvL b i) 356 [] N X := by
  obtain ⟨o, e1, p, e2, hv, hI2⟩ := sim_at hI ((xv (i + 1).toNat).toInt) ((xv (i + 2).toNat).toInt)
  have hn := hsk.1
  refine l_aload (o := 3) hΛ dL_law_356 ⟨by omega, by omega⟩ lm1 ?_
  refine l_arg (j := 1) hΛ hi (by omega) (by omega) dL_law_357 dL_law_358 dL_law_359 dL_law_360 dL_law_361 lm0 lm3 ?_
  refine l_arg (j := 2) hΛ hi (by omega) (by omega) dL_law_362 dL_law_363 dL_law_364 dL_law_365 dL_law_366 lm0 lm3 ?_
  refine l_callV (d' := 5) (o := 3) (ci := 11) (args := [.inl (xv (i + 1).toNat).toInt, .inl (xv (i + 2).toNat).toInt]) hΛ (by omega) dL_law_367 cv_RL_31 cw_X11_at rfl rfl (sk_k hsk 3 rfl) (Nat.le_of_ble_eq_true rfl) (lvL_ok (by omega)) rfl (t_X11_at hsk (Nat.le_refl _) e1) ?_
  refine l_aload (o := 64) hΛ dL_law_370 ⟨by omega, by omega⟩ lm2 ?_
  refine l_arg (j := 1) hΛ hi (by omega) (by omega) dL_law_371 dL_law_372 dL_law_373 dL_law_374 dL_law_375 lm0 lm3 ?_
  refine l_arg (j := 2) hΛ hi (by omega) (by omega) dL_law_376 dL_law_377 dL_law_378 dL_law_379 dL_law_380 lm0 lm3 ?_
  refine l_callV (d' := 8) (o := 64) (ci := 12) (args := [.inl (xv (i + 1).toNat).toInt, .inl (xv (i + 2).toNat).toInt]) hΛ (by omega) dL_law_381 cv_RL_34 cw_X12_at rfl rfl (sk_k hsk 64 rfl) (Nat.le_of_ble_eq_true rfl) (lvL_ok (by omega)) rfl (t_X12_at hsk (Nat.le_refl _) e2) ?_
  exact l_icmp_eq hΛ 1391 dL_law_384 rfl (fun _ => k _ (inv_B hI2 (by omega) (by omega))) (fun h => absurd hv.symm h)
theorem lc_5 {b Ln : Nat} {xv : Nat → Int32} {Λ : LT} (hΛ : lG b Ln xv Λ) {N : NN} {X : MX} {i B : Int} (hsk : m_Sk X) (hI : Inv X N B) (hB : 0 ≤ B ∧ B + 300 ≤ 1000000) (hi : 0 ≤ i) (hi5 : i + 5 < (Ln : Int)) (k : ∀ N1, Inv X N1 (B + 300) → Λ (lvL b i) 1391 [] N1 X) : Λ (lvL b i) 389 [] N X := by
  obtain ⟨o, e1, p, e2, hv, hI2⟩ := sim_terms hI ((xv (i + 1).toNat).toInt) ((xv (i + 2).toNat).toInt)
  have hn := hsk.1
  refine l_aload (o := 3) hΛ dL_law_389 ⟨by omega, by omega⟩ lm1 ?_
  refine l_arg (j := 1) hΛ hi (by omega) (by omega) dL_law_390 dL_law_391 dL_law_392 dL_law_393 dL_law_394 lm0 lm3 ?_
  refine l_arg (j := 2) hΛ hi (by omega) (by omega) dL_law_395 dL_law_396 dL_law_397 dL_law_398 dL_law_399 lm0 lm3 ?_
  refine l_callV (d' := 2) (o := 3) (ci := 11) (args := [.inl (xv (i + 1).toNat).toInt, .inl (xv (i + 2).toNat).toInt]) hΛ (by omega) dL_law_400 cv_RL_35 cw_X11_terms rfl rfl (sk_k hsk 3 rfl) (Nat.le_of_ble_eq_true rfl) (lvL_ok (by omega)) rfl (t_X11_terms hsk (Nat.le_refl _) e1) ?_
  refine l_aload (o := 64) hΛ dL_law_403 ⟨by omega, by omega⟩ lm2 ?_
  refine l_arg (j := 1) hΛ hi (by omega) (by omega) dL_law_404 dL_law_405 dL_law_406 dL_law_407 dL_law_408 lm0 lm3 ?_
  refine l_arg (j := 2) hΛ hi (by omega) (by omega) dL_law_409 dL_law_410 dL_law_411 dL_law_412 dL_law_413 lm0 lm3 ?_
  refine l_callV (d' := 2) (o := 64) (ci := 12) (args := [.inl (xv (i + 1).toNat).toInt, .inl (xv (i + 2).toNat).toInt]) hΛ (by omega) dL_law_414 cv_RL_38 cw_X12_terms rfl rfl (sk_k hsk 64 rfl) (Nat.le_of_ble_eq_true rfl) (lvL_ok (by omega)) rfl (t_X12_terms hsk (Nat.le_refl _) e2) ?_
  exact l_icmp_eq hΛ 1391 dL_law_417 rfl (fun _ => k _ (inv_B hI2 (by omega) (by omega))) (fun h => absurd hv.symm h)
theorem lc_6 {b Ln : Nat} {xv : Nat → Int32} {Λ : LT} (hΛ : lG b Ln xv Λ) {N : NN} {X : MX} {i B : Int} (hsk : m_Sk X) (hI : Inv X N B) (hB : 0 ≤ B ∧ B + 300 ≤ 1000000) (hi : 0 ≤ i) (hi5 : i + 5 < (Ln : Int)) (k : ∀ N1, Inv X N1 (B + 300) → Λ (lvL b i) 1391 [] N1 X) : Λ (lvL b i) 422 [] N X := by
  obtain ⟨o, e1, p, e2, hv, hI2⟩ := sim_feed hI ((xv (i + 1).toNat).toInt) ((xv (i + 2).toNat).toInt) ((xv (i + 3).toNat).toInt) ((xv (i + 4).toNat).toInt) ((xv (i + 5).toNat).toInt)
  have hn := hsk.1
  refine l_aload (o := 3) hΛ dL_law_422 ⟨by omega, by omega⟩ lm1 ?_
  refine l_arg (j := 1) hΛ hi (by omega) (by omega) dL_law_423 dL_law_424 dL_law_425 dL_law_426 dL_law_427 lm0 lm3 ?_
  refine l_arg (j := 2) hΛ hi (by omega) (by omega) dL_law_428 dL_law_429 dL_law_430 dL_law_431 dL_law_432 lm0 lm3 ?_
  refine l_arg (j := 3) hΛ hi (by omega) (by omega) dL_law_433 dL_law_434 dL_law_435 dL_law_436 dL_law_437 lm0 lm3 ?_
  refine l_arg (j := 4) hΛ hi (by omega) (by omega) dL_law_438 dL_law_439 dL_law_440 dL_law_441 dL_law_442 lm0 lm3 ?_
  refine l_arg (j := 5) hΛ hi (by omega) (by omega) dL_law_443 dL_law_444 dL_law_445 dL_law_446 dL_law_447 lm0 lm3 ?_
  refine l_callV (d' := 2) (o := 3) (ci := 11) (args := [.inl (xv (i + 1).toNat).toInt, .inl (xv (i + 2).toNat).toInt, .inl (xv (i + 3).toNat).toInt, .inl (xv (i + 4).toNat).toInt, .inl (xv (i + 5).toNat).toInt]) hΛ (by omega) dL_law_448 cv_RL_39 cw_X11_feed rfl rfl (sk_k hsk 3 rfl) (Nat.le_of_ble_eq_true rfl) (lvL_ok (by omega)) rfl (t_X11_feed hsk (Nat.le_refl _) e1) ?_
  refine l_aload (o := 64) hΛ dL_law_451 ⟨by omega, by omega⟩ lm2 ?_
  refine l_arg (j := 1) hΛ hi (by omega) (by omega) dL_law_452 dL_law_453 dL_law_454 dL_law_455 dL_law_456 lm0 lm3 ?_
  refine l_arg (j := 2) hΛ hi (by omega) (by omega) dL_law_457 dL_law_458 dL_law_459 dL_law_460 dL_law_461 lm0 lm3 ?_
  refine l_arg (j := 3) hΛ hi (by omega) (by omega) dL_law_462 dL_law_463 dL_law_464 dL_law_465 dL_law_466 lm0 lm3 ?_
  refine l_arg (j := 4) hΛ hi (by omega) (by omega) dL_law_467 dL_law_468 dL_law_469 dL_law_470 dL_law_471 lm0 lm3 ?_
  refine l_arg (j := 5) hΛ hi (by omega) (by omega) dL_law_472 dL_law_473 dL_law_474 dL_law_475 dL_law_476 lm0 lm3 ?_
  refine l_callV (d' := 2) (o := 64) (ci := 12) (args := [.inl (xv (i + 1).toNat).toInt, .inl (xv (i + 2).toNat).toInt, .inl (xv (i + 3).toNat).toInt, .inl (xv (i + 4).toNat).toInt, .inl (xv (i + 5).toNat).toInt]) hΛ (by omega) dL_law_477 cv_RL_43 cw_X12_feed rfl rfl (sk_k hsk 64 rfl) (Nat.le_of_ble_eq_true rfl) (lvL_ok (by omega)) rfl (t_X12_feed hsk (Nat.le_refl _) e2) ?_
  exact l_icmp_eq hΛ 1391 dL_law_480 rfl (fun _ => k _ (inv_B hI2 (by omega) (by omega))) (fun h => absurd hv.symm h)
theorem lc_7 {b Ln : Nat} {xv : Nat → Int32} {Λ : LT} (hΛ : lG b Ln xv Λ) {N : NN} {X : MX} {i B : Int} (hsk : m_Sk X) (hI : Inv X N B) (hB : 0 ≤ B ∧ B + 300 ≤ 1000000) (hi : 0 ≤ i) (hi5 : i + 5 < (Ln : Int)) (k : ∀ N1, Inv X N1 (B + 300) → Λ (lvL b i) 1391 [] N1 X) : Λ (lvL b i) 485 [] N X := by
  obtain ⟨o, e1, p, e2, hv, hI2⟩ := sim_end hI ((xv (i + 1).toNat).toInt)
  have hn := hsk.1
  refine l_aload (o := 3) hΛ dL_law_485 ⟨by omega, by omega⟩ lm1 ?_
  refine l_arg (j := 1) hΛ hi (by omega) (by omega) dL_law_486 dL_law_487 dL_law_488 dL_law_489 dL_law_490 lm0 lm3 ?_
  refine l_callV (d' := 2) (o := 3) (ci := 11) (args := [.inl (xv (i + 1).toNat).toInt]) hΛ (by omega) dL_law_491 cv_RL_44 cw_X11_end rfl rfl (sk_k hsk 3 rfl) (Nat.le_of_ble_eq_true rfl) (lvL_ok (by omega)) rfl (t_X11_end hsk (Nat.le_refl _) e1) ?_
  refine l_aload (o := 64) hΛ dL_law_494 ⟨by omega, by omega⟩ lm2 ?_
  refine l_arg (j := 1) hΛ hi (by omega) (by omega) dL_law_495 dL_law_496 dL_law_497 dL_law_498 dL_law_499 lm0 lm3 ?_
  refine l_callV (d' := 1) (o := 64) (ci := 12) (args := [.inl (xv (i + 1).toNat).toInt]) hΛ (by omega) dL_law_500 cv_RL_48 cw_X12_end rfl rfl (sk_k hsk 64 rfl) (Nat.le_of_ble_eq_true rfl) (lvL_ok (by omega)) rfl (t_X12_end hsk (Nat.le_refl _) e2) ?_
  exact l_icmp_eq hΛ 1391 dL_law_503 rfl (fun _ => k _ (inv_B hI2 (by omega) (by omega))) (fun h => absurd hv.symm h)
theorem lc_8 {b Ln : Nat} {xv : Nat → Int32} {Λ : LT} (hΛ : lG b Ln xv Λ) {N : NN} {X : MX} {i B : Int} (hsk : m_Sk X) (hI : Inv X N B) (hB : 0 ≤ B ∧ B + 300 ≤ 1000000) (hi : 0 ≤ i) (hi5 : i + 5 < (Ln : Int)) (k : ∀ N1, Inv X N1 (B + 300) → Λ (lvL b i) 1391 [] N1 X) : Λ (lvL b i) 508 [] N X := by
  obtain ⟨o, e1, p, e2, hv, hI2⟩ := sim_row hI hB.1
  have hn := hsk.1
  refine l_aload (o := 3) hΛ dL_law_508 ⟨by omega, by omega⟩ lm1 ?_
  refine l_callV (d' := 3) (o := 3) (ci := 11) (args := []) hΛ (by omega) dL_law_509 cv_RL_49 cw_X11_row rfl rfl (sk_k hsk 3 rfl) (Nat.le_of_ble_eq_true rfl) (lvL_ok (by omega)) rfl (t_X11_row hsk (Nat.le_refl _) e1) ?_
  refine l_aload (o := 64) hΛ dL_law_512 ⟨by omega, by omega⟩ lm2 ?_
  refine l_callV (d' := 4) (o := 64) (ci := 12) (args := []) hΛ (by omega) dL_law_513 cv_RL_53 cw_X12_row rfl rfl (sk_k hsk 64 rfl) (Nat.le_of_ble_eq_true rfl) (lvL_ok (by omega)) rfl (t_X12_row hsk (Nat.le_refl _) e2) ?_
  exact l_icmp_eq hΛ 1391 dL_law_516 rfl (fun _ => k _ (inv_B hI2 (by omega) (by omega))) (fun h => absurd hv.symm h)
theorem lc_9 {b Ln : Nat} {xv : Nat → Int32} {Λ : LT} (hΛ : lG b Ln xv Λ) {N : NN} {X : MX} {i B : Int} (hsk : m_Sk X) (hI : Inv X N B) (hB : 0 ≤ B ∧ B + 300 ≤ 1000000) (hi : 0 ≤ i) (hi5 : i + 5 < (Ln : Int)) (k : ∀ N1, Inv X N1 (B + 300) → Λ (lvL b i) 1391 [] N1 X) : Λ (lvL b i) 521 [] N X := by
  obtain ⟨o, e1, p, e2, hv, hI2⟩ := sim_dross hI
  have hn := hsk.1
  refine l_aload (o := 3) hΛ dL_law_521 ⟨by omega, by omega⟩ lm1 ?_
  refine l_callV (d' := 1) (o := 3) (ci := 11) (args := []) hΛ (by omega) dL_law_522 cv_RL_54 cw_X11_dross rfl rfl (sk_k hsk 3 rfl) (Nat.le_of_ble_eq_true rfl) (lvL_ok (by omega)) rfl (t_X11_dross hsk (Nat.le_refl _) e1) ?_
  refine l_aload (o := 64) hΛ dL_law_525 ⟨by omega, by omega⟩ lm2 ?_
  refine l_callV (d' := 1) (o := 64) (ci := 12) (args := []) hΛ (by omega) dL_law_526 cv_RL_57 cw_X12_dross rfl rfl (sk_k hsk 64 rfl) (Nat.le_of_ble_eq_true rfl) (lvL_ok (by omega)) rfl (t_X12_dross hsk (Nat.le_refl _) e2) ?_
  exact l_icmp_eq hΛ 1391 dL_law_529 rfl (fun _ => k _ (inv_B hI2 (by omega) (by omega))) (fun h => absurd hv.symm h)
theorem lc_11 {b Ln : Nat} {xv : Nat → Int32} {Λ : LT} (hΛ : lG b Ln xv Λ) {N : NN} {X : MX} {i B : Int} (hsk : m_Sk X) (hI : Inv X N B) (hB : 0 ≤ B ∧ B + 300 ≤ 1000000) (hi : 0 ≤ i) (hi5 : i + 5 < (Ln : Int)) (k : ∀ N1, Inv X N1 (B + 300) → Λ (lvL b i) 1391 [] N1 X) : Λ (lvL b i) 547 [] N X := by
  obtain ⟨o, e1, p, e2, hv, hI2⟩ := sim_orders hI hB.2
  have hn := hsk.1
  refine l_aload (o := 3) hΛ dL_law_547 ⟨by omega, by omega⟩ lm1 ?_
  refine l_callV (d' := 120) (o := 3) (ci := 11) (args := []) hΛ (by omega) dL_law_548 cv_RL_62 cw_X11_orders rfl rfl (sk_k hsk 3 rfl) (Nat.le_of_ble_eq_true rfl) (lvL_ok (by omega)) rfl (t_X11_orders hsk (Nat.le_refl _) e1) ?_
  refine l_aload (o := 64) hΛ dL_law_551 ⟨by omega, by omega⟩ lm2 ?_
  refine l_callV (d' := 12) (o := 64) (ci := 12) (args := []) hΛ (by omega) dL_law_552 cv_RL_65 cw_X12_orders rfl rfl (sk_k hsk 64 rfl) (Nat.le_of_ble_eq_true rfl) (lvL_ok (by omega)) rfl (t_X12_orders hsk (Nat.le_refl _) e2) ?_
  exact l_icmp_eq hΛ 1391 dL_law_555 rfl (fun _ => k _ (inv_B hI2 (by omega) (by omega))) (fun h => absurd hv.symm h)
theorem lc_12 {b Ln : Nat} {xv : Nat → Int32} {Λ : LT} (hΛ : lG b Ln xv Λ) {N : NN} {X : MX} {i B : Int} (hsk : m_Sk X) (hI : Inv X N B) (hB : 0 ≤ B ∧ B + 300 ≤ 1000000) (hi : 0 ≤ i) (hi5 : i + 5 < (Ln : Int)) (k : ∀ N1, Inv X N1 (B + 300) → Λ (lvL b i) 1391 [] N1 X) : Λ (lvL b i) 560 [] N X := by
  obtain ⟨o, e1, p, e2, hv, hI2⟩ := sim_fault hI
  have hn := hsk.1
  refine l_aload (o := 3) hΛ dL_law_560 ⟨by omega, by omega⟩ lm1 ?_
  refine l_callV (d' := 2) (o := 3) (ci := 11) (args := []) hΛ (by omega) dL_law_561 cv_RL_66 cw_X11_fault rfl rfl (sk_k hsk 3 rfl) (Nat.le_of_ble_eq_true rfl) (lvL_ok (by omega)) rfl (t_X11_fault hsk (Nat.le_refl _) e1) ?_
  refine l_aload (o := 64) hΛ dL_law_564 ⟨by omega, by omega⟩ lm2 ?_
  refine l_callV (d' := 1) (o := 64) (ci := 12) (args := []) hΛ (by omega) dL_law_565 cv_RL_69 cw_X12_fault rfl rfl (sk_k hsk 64 rfl) (Nat.le_of_ble_eq_true rfl) (lvL_ok (by omega)) rfl (t_X12_fault hsk (Nat.le_refl _) e2) ?_
  exact l_icmp_eq hΛ 1391 dL_law_568 rfl (fun _ => k _ (inv_B hI2 (by omega) (by omega))) (fun h => absurd hv.symm h)
theorem lc_13 {b Ln : Nat} {xv : Nat → Int32} {Λ : LT} (hΛ : lG b Ln xv Λ) {N : NN} {X : MX} {i B : Int} (hsk : m_Sk X) (hI : Inv X N B) (hB : 0 ≤ B ∧ B + 300 ≤ 1000000) (hi : 0 ≤ i) (hi5 : i + 5 < (Ln : Int)) (k : ∀ N1, Inv X N1 (B + 300) → Λ (lvL b i) 1391 [] N1 X) : Λ (lvL b i) 573 [] N X := by
  obtain ⟨o, e1, p, e2, hv, hI2⟩ := sim_stopped hI
  have hn := hsk.1
  refine l_aload (o := 3) hΛ dL_law_573 ⟨by omega, by omega⟩ lm1 ?_
  refine l_callV (d' := 2) (o := 3) (ci := 11) (args := []) hΛ (by omega) dL_law_574 cv_RL_70 cw_X11_stopped rfl rfl (sk_k hsk 3 rfl) (Nat.le_of_ble_eq_true rfl) (lvL_ok (by omega)) rfl (t_X11_stopped hsk (Nat.le_refl _) e1) ?_
  refine l_aload (o := 64) hΛ dL_law_577 ⟨by omega, by omega⟩ lm2 ?_
  refine l_callV (d' := 1) (o := 64) (ci := 12) (args := []) hΛ (by omega) dL_law_578 cv_RL_73 cw_X12_stopped rfl rfl (sk_k hsk 64 rfl) (Nat.le_of_ble_eq_true rfl) (lvL_ok (by omega)) rfl (t_X12_stopped hsk (Nat.le_refl _) e2) ?_
  exact l_icmp_eq hΛ 1391 dL_law_581 rfl (fun _ => k _ (inv_B hI2 (by omega) (by omega))) (fun h => absurd hv.symm h)
theorem lc_14 {b Ln : Nat} {xv : Nat → Int32} {Λ : LT} (hΛ : lG b Ln xv Λ) {N : NN} {X : MX} {i B : Int} (hsk : m_Sk X) (hI : Inv X N B) (hB : 0 ≤ B ∧ B + 300 ≤ 1000000) (hi : 0 ≤ i) (hi5 : i + 5 < (Ln : Int)) (k : ∀ N1, Inv X N1 (B + 300) → Λ (lvL b i) 1391 [] N1 X) : Λ (lvL b i) 586 [] N X := by
  obtain ⟨o, e1, p, e2, hv, hI2⟩ := sim_force hI ((xv (i + 1).toNat).toInt)
  have hn := hsk.1
  refine l_aload (o := 3) hΛ dL_law_586 ⟨by omega, by omega⟩ lm1 ?_
  refine l_arg (j := 1) hΛ hi (by omega) (by omega) dL_law_587 dL_law_588 dL_law_589 dL_law_590 dL_law_591 lm0 lm3 ?_
  refine l_callV (d' := 2) (o := 3) (ci := 11) (args := [.inl (xv (i + 1).toNat).toInt]) hΛ (by omega) dL_law_592 cv_RL_74 cw_X11_force rfl rfl (sk_k hsk 3 rfl) (Nat.le_of_ble_eq_true rfl) (lvL_ok (by omega)) rfl (t_X11_force hsk (Nat.le_refl _) e1) ?_
  refine l_aload (o := 64) hΛ dL_law_595 ⟨by omega, by omega⟩ lm2 ?_
  refine l_arg (j := 1) hΛ hi (by omega) (by omega) dL_law_596 dL_law_597 dL_law_598 dL_law_599 dL_law_600 lm0 lm3 ?_
  refine l_callV (d' := 2) (o := 64) (ci := 12) (args := [.inl (xv (i + 1).toNat).toInt]) hΛ (by omega) dL_law_601 cv_RL_77 cw_X12_force rfl rfl (sk_k hsk 64 rfl) (Nat.le_of_ble_eq_true rfl) (lvL_ok (by omega)) rfl (t_X12_force hsk (Nat.le_refl _) e2) ?_
  exact l_icmp_eq hΛ 1391 dL_law_604 rfl (fun _ => k _ (inv_B hI2 (by omega) (by omega))) (fun h => absurd hv.symm h)
theorem lc_15 {b Ln : Nat} {xv : Nat → Int32} {Λ : LT} (hΛ : lG b Ln xv Λ) {N : NN} {X : MX} {i B : Int} (hsk : m_Sk X) (hI : Inv X N B) (hB : 0 ≤ B ∧ B + 300 ≤ 1000000) (hi : 0 ≤ i) (hi5 : i + 5 < (Ln : Int)) (k : ∀ N1, Inv X N1 (B + 300) → Λ (lvL b i) 1391 [] N1 X) : Λ (lvL b i) 609 [] N X := by
  obtain ⟨o, e1, p, e2, hv, hI2⟩ := sim_asks hI ((xv (i + 1).toNat).toInt) ((xv (i + 2).toNat).toInt) ((xv (i + 3).toNat).toInt)
  have hn := hsk.1
  refine l_aload (o := 3) hΛ dL_law_609 ⟨by omega, by omega⟩ lm1 ?_
  refine l_arg (j := 1) hΛ hi (by omega) (by omega) dL_law_610 dL_law_611 dL_law_612 dL_law_613 dL_law_614 lm0 lm3 ?_
  refine l_arg (j := 2) hΛ hi (by omega) (by omega) dL_law_615 dL_law_616 dL_law_617 dL_law_618 dL_law_619 lm0 lm3 ?_
  refine l_arg (j := 3) hΛ hi (by omega) (by omega) dL_law_620 dL_law_621 dL_law_622 dL_law_623 dL_law_624 lm0 lm3 ?_
  refine l_callV (d' := 5) (o := 3) (ci := 11) (args := [.inl (xv (i + 1).toNat).toInt, .inl (xv (i + 2).toNat).toInt, .inl (xv (i + 3).toNat).toInt]) hΛ (by omega) dL_law_625 cv_RL_78 cw_X11_asks rfl rfl (sk_k hsk 3 rfl) (Nat.le_of_ble_eq_true rfl) (lvL_ok (by omega)) rfl (t_X11_asks hsk (Nat.le_refl _) e1) ?_
  refine l_aload (o := 64) hΛ dL_law_628 ⟨by omega, by omega⟩ lm2 ?_
  refine l_arg (j := 1) hΛ hi (by omega) (by omega) dL_law_629 dL_law_630 dL_law_631 dL_law_632 dL_law_633 lm0 lm3 ?_
  refine l_arg (j := 2) hΛ hi (by omega) (by omega) dL_law_634 dL_law_635 dL_law_636 dL_law_637 dL_law_638 lm0 lm3 ?_
  refine l_arg (j := 3) hΛ hi (by omega) (by omega) dL_law_639 dL_law_640 dL_law_641 dL_law_642 dL_law_643 lm0 lm3 ?_
  refine l_callV (d' := 8) (o := 64) (ci := 12) (args := [.inl (xv (i + 1).toNat).toInt, .inl (xv (i + 2).toNat).toInt, .inl (xv (i + 3).toNat).toInt]) hΛ (by omega) dL_law_644 cv_RL_81 cw_X12_asks rfl rfl (sk_k hsk 64 rfl) (Nat.le_of_ble_eq_true rfl) (lvL_ok (by omega)) rfl (t_X12_asks hsk (Nat.le_refl _) e2) ?_
  exact l_icmp_eq hΛ 1391 dL_law_647 rfl (fun _ => k _ (inv_B hI2 (by omega) (by omega))) (fun h => absurd hv.symm h)
theorem lc_16 {b Ln : Nat} {xv : Nat → Int32} {Λ : LT} (hΛ : lG b Ln xv Λ) {N : NN} {X : MX} {i B : Int} (hsk : m_Sk X) (hI : Inv X N B) (hB : 0 ≤ B ∧ B + 300 ≤ 1000000) (hi : 0 ≤ i) (hi5 : i + 5 < (Ln : Int)) (k : ∀ N1, Inv X N1 (B + 300) → Λ (lvL b i) 1391 [] N1 X) : Λ (lvL b i) 652 [] N X := by
  obtain ⟨o, e1, p, e2, hv, hI2⟩ := sim_give hI (by omega) ((xv (i + 1).toNat).toInt) ((xv (i + 2).toNat).toInt)
  have hn := hsk.1
  refine l_aload (o := 3) hΛ dL_law_652 ⟨by omega, by omega⟩ lm1 ?_
  refine l_arg (j := 1) hΛ hi (by omega) (by omega) dL_law_653 dL_law_654 dL_law_655 dL_law_656 dL_law_657 lm0 lm3 ?_
  refine l_arg (j := 2) hΛ hi (by omega) (by omega) dL_law_658 dL_law_659 dL_law_660 dL_law_661 dL_law_662 lm0 lm3 ?_
  refine l_callV (d' := 6) (o := 3) (ci := 11) (args := [.inl (xv (i + 1).toNat).toInt, .inl (xv (i + 2).toNat).toInt]) hΛ (by omega) dL_law_663 cv_RL_82 cw_X11_give rfl rfl (sk_k hsk 3 rfl) (Nat.le_of_ble_eq_true rfl) (lvL_ok (by omega)) rfl (t_X11_give hsk (Nat.le_refl _) e1) ?_
  refine l_aload (o := 64) hΛ dL_law_666 ⟨by omega, by omega⟩ lm2 ?_
  refine l_arg (j := 1) hΛ hi (by omega) (by omega) dL_law_667 dL_law_668 dL_law_669 dL_law_670 dL_law_671 lm0 lm3 ?_
  refine l_arg (j := 2) hΛ hi (by omega) (by omega) dL_law_672 dL_law_673 dL_law_674 dL_law_675 dL_law_676 lm0 lm3 ?_
  refine l_callV (d' := 10) (o := 64) (ci := 12) (args := [.inl (xv (i + 1).toNat).toInt, .inl (xv (i + 2).toNat).toInt]) hΛ (by omega) dL_law_677 cv_RL_85 cw_X12_give rfl rfl (sk_k hsk 64 rfl) (Nat.le_of_ble_eq_true rfl) (lvL_ok (by omega)) rfl (t_X12_give hsk (Nat.le_refl _) e2) ?_
  exact l_icmp_eq hΛ 1391 dL_law_680 rfl (fun _ => k _ (inv_B hI2 (by omega) (by omega))) (fun h => absurd hv.symm h)
theorem lc_17 {b Ln : Nat} {xv : Nat → Int32} {Λ : LT} (hΛ : lG b Ln xv Λ) {N : NN} {X : MX} {i B : Int} (hsk : m_Sk X) (hI : Inv X N B) (hB : 0 ≤ B ∧ B + 300 ≤ 1000000) (hi : 0 ≤ i) (hi5 : i + 5 < (Ln : Int)) (k : ∀ N1, Inv X N1 (B + 300) → Λ (lvL b i) 1391 [] N1 X) : Λ (lvL b i) 685 [] N X := by
  obtain ⟨o, e1, p, e2, hv, hI2⟩ := sim_await hI
  have hn := hsk.1
  refine l_aload (o := 3) hΛ dL_law_685 ⟨by omega, by omega⟩ lm1 ?_
  refine l_callV (d' := 6) (o := 3) (ci := 11) (args := []) hΛ (by omega) dL_law_686 cv_RL_86 cw_X11_await rfl rfl (sk_k hsk 3 rfl) (Nat.le_of_ble_eq_true rfl) (lvL_ok (by omega)) rfl (t_X11_await hsk (Nat.le_refl _) e1) ?_
  refine l_aload (o := 64) hΛ dL_law_689 ⟨by omega, by omega⟩ lm2 ?_
  refine l_callV (d' := 11) (o := 64) (ci := 12) (args := []) hΛ (by omega) dL_law_690 cv_RL_89 cw_X12_await rfl rfl (sk_k hsk 64 rfl) (Nat.le_of_ble_eq_true rfl) (lvL_ok (by omega)) rfl (t_X12_await hsk (Nat.le_refl _) e2) ?_
  exact l_icmp_eq hΛ 1391 dL_law_693 rfl (fun _ => k _ (inv_B hI2 (by omega) (by omega))) (fun h => absurd hv.symm h)
theorem lc_18 {b Ln : Nat} {xv : Nat → Int32} {Λ : LT} (hΛ : lG b Ln xv Λ) {N : NN} {X : MX} {i B : Int} (hsk : m_Sk X) (hI : Inv X N B) (hB : 0 ≤ B ∧ B + 300 ≤ 1000000) (hi : 0 ≤ i) (hi5 : i + 5 < (Ln : Int)) (k : ∀ N1, Inv X N1 (B + 300) → Λ (lvL b i) 1391 [] N1 X) : Λ (lvL b i) 698 [] N X := by
  obtain ⟨o, e1, p, e2, hv, hI2⟩ := sim_undo hI
  have hn := hsk.1
  refine l_aload (o := 3) hΛ dL_law_698 ⟨by omega, by omega⟩ lm1 ?_
  refine l_callV (d' := 3) (o := 3) (ci := 11) (args := []) hΛ (by omega) dL_law_699 cv_RL_90 cw_X11_undo rfl rfl (sk_k hsk 3 rfl) (Nat.le_of_ble_eq_true rfl) (lvL_ok (by omega)) rfl (t_X11_undo hsk (Nat.le_refl _) e1) ?_
  refine l_aload (o := 64) hΛ dL_law_702 ⟨by omega, by omega⟩ lm2 ?_
  refine l_callV (d' := 2) (o := 64) (ci := 12) (args := []) hΛ (by omega) dL_law_703 cv_RL_93 cw_X12_undo rfl rfl (sk_k hsk 64 rfl) (Nat.le_of_ble_eq_true rfl) (lvL_ok (by omega)) rfl (t_X12_undo hsk (Nat.le_refl _) e2) ?_
  exact l_icmp_eq hΛ 1391 dL_law_706 rfl (fun _ => k _ (inv_B hI2 (by omega) (by omega))) (fun h => absurd hv.symm h)
theorem lc_19 {b Ln : Nat} {xv : Nat → Int32} {Λ : LT} (hΛ : lG b Ln xv Λ) {N : NN} {X : MX} {i B : Int} (hsk : m_Sk X) (hI : Inv X N B) (hB : 0 ≤ B ∧ B + 300 ≤ 1000000) (hi : 0 ≤ i) (hi5 : i + 5 < (Ln : Int)) (k : ∀ N1, Inv X N1 (B + 300) → Λ (lvL b i) 1391 [] N1 X) : Λ (lvL b i) 711 [] N X := by
  obtain ⟨o, e1, p, e2, hv, hI2⟩ := sim_debt hI ((xv (i + 1).toNat).toInt) ((xv (i + 2).toNat).toInt) ((xv (i + 3).toNat).toInt)
  have hn := hsk.1
  refine l_aload (o := 3) hΛ dL_law_711 ⟨by omega, by omega⟩ lm1 ?_
  refine l_arg (j := 1) hΛ hi (by omega) (by omega) dL_law_712 dL_law_713 dL_law_714 dL_law_715 dL_law_716 lm0 lm3 ?_
  refine l_arg (j := 2) hΛ hi (by omega) (by omega) dL_law_717 dL_law_718 dL_law_719 dL_law_720 dL_law_721 lm0 lm3 ?_
  refine l_arg (j := 3) hΛ hi (by omega) (by omega) dL_law_722 dL_law_723 dL_law_724 dL_law_725 dL_law_726 lm0 lm3 ?_
  refine l_callV (d' := 2) (o := 3) (ci := 11) (args := [.inl (xv (i + 1).toNat).toInt, .inl (xv (i + 2).toNat).toInt, .inl (xv (i + 3).toNat).toInt]) hΛ (by omega) dL_law_727 cv_RL_94 cw_X11_debt rfl rfl (sk_k hsk 3 rfl) (Nat.le_of_ble_eq_true rfl) (lvL_ok (by omega)) rfl (t_X11_debt hsk (Nat.le_refl _) e1) ?_
  refine l_aload (o := 64) hΛ dL_law_730 ⟨by omega, by omega⟩ lm2 ?_
  refine l_arg (j := 1) hΛ hi (by omega) (by omega) dL_law_731 dL_law_732 dL_law_733 dL_law_734 dL_law_735 lm0 lm3 ?_
  refine l_arg (j := 2) hΛ hi (by omega) (by omega) dL_law_736 dL_law_737 dL_law_738 dL_law_739 dL_law_740 lm0 lm3 ?_
  refine l_arg (j := 3) hΛ hi (by omega) (by omega) dL_law_741 dL_law_742 dL_law_743 dL_law_744 dL_law_745 lm0 lm3 ?_
  refine l_callV (d' := 3) (o := 64) (ci := 12) (args := [.inl (xv (i + 1).toNat).toInt, .inl (xv (i + 2).toNat).toInt, .inl (xv (i + 3).toNat).toInt]) hΛ (by omega) dL_law_746 cv_RL_97 cw_X12_debt rfl rfl (sk_k hsk 64 rfl) (Nat.le_of_ble_eq_true rfl) (lvL_ok (by omega)) rfl (t_X12_debt hsk (Nat.le_refl _) e2) ?_
  exact l_icmp_eq hΛ 1391 dL_law_749 rfl (fun _ => k _ (inv_B hI2 (by omega) (by omega))) (fun h => absurd hv.symm h)
theorem lc_20 {b Ln : Nat} {xv : Nat → Int32} {Λ : LT} (hΛ : lG b Ln xv Λ) {N : NN} {X : MX} {i B : Int} (hsk : m_Sk X) (hI : Inv X N B) (hB : 0 ≤ B ∧ B + 300 ≤ 1000000) (hi : 0 ≤ i) (hi5 : i + 5 < (Ln : Int)) (k : ∀ N1, Inv X N1 (B + 300) → Λ (lvL b i) 1391 [] N1 X) : Λ (lvL b i) 754 [] N X := by
  obtain ⟨o, e1, p, e2, hv, hI2⟩ := sim_owed hI ((xv (i + 1).toNat).toInt) ((xv (i + 2).toNat).toInt)
  have hn := hsk.1
  refine l_aload (o := 3) hΛ dL_law_754 ⟨by omega, by omega⟩ lm1 ?_
  refine l_arg (j := 1) hΛ hi (by omega) (by omega) dL_law_755 dL_law_756 dL_law_757 dL_law_758 dL_law_759 lm0 lm3 ?_
  refine l_arg (j := 2) hΛ hi (by omega) (by omega) dL_law_760 dL_law_761 dL_law_762 dL_law_763 dL_law_764 lm0 lm3 ?_
  refine l_callV (d' := 3) (o := 3) (ci := 11) (args := [.inl (xv (i + 1).toNat).toInt, .inl (xv (i + 2).toNat).toInt]) hΛ (by omega) dL_law_765 cv_RL_98 cw_X11_owed rfl rfl (sk_k hsk 3 rfl) (Nat.le_of_ble_eq_true rfl) (lvL_ok (by omega)) rfl (t_X11_owed hsk (Nat.le_refl _) e1) ?_
  refine l_aload (o := 64) hΛ dL_law_768 ⟨by omega, by omega⟩ lm2 ?_
  refine l_arg (j := 1) hΛ hi (by omega) (by omega) dL_law_769 dL_law_770 dL_law_771 dL_law_772 dL_law_773 lm0 lm3 ?_
  refine l_arg (j := 2) hΛ hi (by omega) (by omega) dL_law_774 dL_law_775 dL_law_776 dL_law_777 dL_law_778 lm0 lm3 ?_
  refine l_callV (d' := 3) (o := 64) (ci := 12) (args := [.inl (xv (i + 1).toNat).toInt, .inl (xv (i + 2).toNat).toInt]) hΛ (by omega) dL_law_779 cv_RL_101 cw_X12_owed rfl rfl (sk_k hsk 64 rfl) (Nat.le_of_ble_eq_true rfl) (lvL_ok (by omega)) rfl (t_X12_owed hsk (Nat.le_refl _) e2) ?_
  exact l_icmp_eq hΛ 1391 dL_law_782 rfl (fun _ => k _ (inv_B hI2 (by omega) (by omega))) (fun h => absurd hv.symm h)
theorem lc_21 {b Ln : Nat} {xv : Nat → Int32} {Λ : LT} (hΛ : lG b Ln xv Λ) {N : NN} {X : MX} {i B : Int} (hsk : m_Sk X) (hI : Inv X N B) (hB : 0 ≤ B ∧ B + 300 ≤ 1000000) (hi : 0 ≤ i) (hi5 : i + 5 < (Ln : Int)) (k : ∀ N1, Inv X N1 (B + 300) → Λ (lvL b i) 1391 [] N1 X) : Λ (lvL b i) 787 [] N X := by
  obtain ⟨o, e1, p, e2, hv, hI2⟩ := sim_duel hI ((xv (i + 1).toNat).toInt) ((xv (i + 2).toNat).toInt) ((xv (i + 3).toNat).toInt)
  have hn := hsk.1
  refine l_aload (o := 3) hΛ dL_law_787 ⟨by omega, by omega⟩ lm1 ?_
  refine l_arg (j := 1) hΛ hi (by omega) (by omega) dL_law_788 dL_law_789 dL_law_790 dL_law_791 dL_law_792 lm0 lm3 ?_
  refine l_arg (j := 2) hΛ hi (by omega) (by omega) dL_law_793 dL_law_794 dL_law_795 dL_law_796 dL_law_797 lm0 lm3 ?_
  refine l_arg (j := 3) hΛ hi (by omega) (by omega) dL_law_798 dL_law_799 dL_law_800 dL_law_801 dL_law_802 lm0 lm3 ?_
  refine l_callV (d' := 37) (o := 3) (ci := 11) (args := [.inl (xv (i + 1).toNat).toInt, .inl (xv (i + 2).toNat).toInt, .inl (xv (i + 3).toNat).toInt]) hΛ (by omega) dL_law_803 cv_RL_102 cw_X11_duel rfl rfl (sk_k hsk 3 rfl) (Nat.le_of_ble_eq_true rfl) (lvL_ok (by omega)) rfl (t_X11_duel hsk (Nat.le_refl _) e1) ?_
  refine l_aload (o := 64) hΛ dL_law_806 ⟨by omega, by omega⟩ lm2 ?_
  refine l_arg (j := 1) hΛ hi (by omega) (by omega) dL_law_807 dL_law_808 dL_law_809 dL_law_810 dL_law_811 lm0 lm3 ?_
  refine l_arg (j := 2) hΛ hi (by omega) (by omega) dL_law_812 dL_law_813 dL_law_814 dL_law_815 dL_law_816 lm0 lm3 ?_
  refine l_arg (j := 3) hΛ hi (by omega) (by omega) dL_law_817 dL_law_818 dL_law_819 dL_law_820 dL_law_821 lm0 lm3 ?_
  refine l_callV (d' := 9) (o := 64) (ci := 12) (args := [.inl (xv (i + 1).toNat).toInt, .inl (xv (i + 2).toNat).toInt, .inl (xv (i + 3).toNat).toInt]) hΛ (by omega) dL_law_822 cv_RL_105 cw_X12_duel rfl rfl (sk_k hsk 64 rfl) (Nat.le_of_ble_eq_true rfl) (lvL_ok (by omega)) rfl (t_X12_duel hsk (Nat.le_refl _) e2) ?_
  exact l_icmp_eq hΛ 1391 dL_law_825 rfl (fun _ => k _ (inv_B hI2 (by omega) (by omega))) (fun h => absurd hv.symm h)
theorem lc_22 {b Ln : Nat} {xv : Nat → Int32} {Λ : LT} (hΛ : lG b Ln xv Λ) {N : NN} {X : MX} {i B : Int} (hsk : m_Sk X) (hI : Inv X N B) (hB : 0 ≤ B ∧ B + 300 ≤ 1000000) (hi : 0 ≤ i) (hi5 : i + 5 < (Ln : Int)) (k : ∀ N1, Inv X N1 (B + 300) → Λ (lvL b i) 1391 [] N1 X) : Λ (lvL b i) 830 [] N X := by
  obtain ⟨o, e1, p, e2, hv, hI2⟩ := sim_ruin hI ((xv (i + 1).toNat).toInt) ((xv (i + 2).toNat).toInt)
  have hn := hsk.1
  refine l_aload (o := 3) hΛ dL_law_830 ⟨by omega, by omega⟩ lm1 ?_
  refine l_arg (j := 1) hΛ hi (by omega) (by omega) dL_law_831 dL_law_832 dL_law_833 dL_law_834 dL_law_835 lm0 lm3 ?_
  refine l_arg (j := 2) hΛ hi (by omega) (by omega) dL_law_836 dL_law_837 dL_law_838 dL_law_839 dL_law_840 lm0 lm3 ?_
  refine l_callV (d' := 6) (o := 3) (ci := 11) (args := [.inl (xv (i + 1).toNat).toInt, .inl (xv (i + 2).toNat).toInt]) hΛ (by omega) dL_law_841 cv_RL_106 cw_X11_ruin rfl rfl (sk_k hsk 3 rfl) (Nat.le_of_ble_eq_true rfl) (lvL_ok (by omega)) rfl (t_X11_ruin hsk (Nat.le_refl _) e1) ?_
  refine l_aload (o := 64) hΛ dL_law_844 ⟨by omega, by omega⟩ lm2 ?_
  refine l_arg (j := 1) hΛ hi (by omega) (by omega) dL_law_845 dL_law_846 dL_law_847 dL_law_848 dL_law_849 lm0 lm3 ?_
  refine l_arg (j := 2) hΛ hi (by omega) (by omega) dL_law_850 dL_law_851 dL_law_852 dL_law_853 dL_law_854 lm0 lm3 ?_
  refine l_callV (d' := 10) (o := 64) (ci := 12) (args := [.inl (xv (i + 1).toNat).toInt, .inl (xv (i + 2).toNat).toInt]) hΛ (by omega) dL_law_855 cv_RL_109 cw_X12_ruin rfl rfl (sk_k hsk 64 rfl) (Nat.le_of_ble_eq_true rfl) (lvL_ok (by omega)) rfl (t_X12_ruin hsk (Nat.le_refl _) e2) ?_
  exact l_icmp_eq hΛ 1391 dL_law_858 rfl (fun _ => k _ (inv_B hI2 (by omega) (by omega))) (fun h => absurd hv.symm h)
theorem lc_23 {b Ln : Nat} {xv : Nat → Int32} {Λ : LT} (hΛ : lG b Ln xv Λ) {N : NN} {X : MX} {i B : Int} (hsk : m_Sk X) (hI : Inv X N B) (hB : 0 ≤ B ∧ B + 300 ≤ 1000000) (hi : 0 ≤ i) (hi5 : i + 5 < (Ln : Int)) (k : ∀ N1, Inv X N1 (B + 300) → Λ (lvL b i) 1391 [] N1 X) : Λ (lvL b i) 863 [] N X := by
  obtain ⟨o, e1, p, e2, hv, hI2⟩ := sim_siege hI ((xv (i + 1).toNat).toInt) ((xv (i + 2).toNat).toInt) ((xv (i + 3).toNat).toInt) ((xv (i + 4).toNat).toInt)
  have hn := hsk.1
  refine l_aload (o := 3) hΛ dL_law_863 ⟨by omega, by omega⟩ lm1 ?_
  refine l_arg (j := 1) hΛ hi (by omega) (by omega) dL_law_864 dL_law_865 dL_law_866 dL_law_867 dL_law_868 lm0 lm3 ?_
  refine l_arg (j := 2) hΛ hi (by omega) (by omega) dL_law_869 dL_law_870 dL_law_871 dL_law_872 dL_law_873 lm0 lm3 ?_
  refine l_arg (j := 3) hΛ hi (by omega) (by omega) dL_law_874 dL_law_875 dL_law_876 dL_law_877 dL_law_878 lm0 lm3 ?_
  refine l_arg (j := 4) hΛ hi (by omega) (by omega) dL_law_879 dL_law_880 dL_law_881 dL_law_882 dL_law_883 lm0 lm3 ?_
  refine l_callV (d' := 7) (o := 3) (ci := 11) (args := [.inl (xv (i + 1).toNat).toInt, .inl (xv (i + 2).toNat).toInt, .inl (xv (i + 3).toNat).toInt, .inl (xv (i + 4).toNat).toInt]) hΛ (by omega) dL_law_884 cv_RL_110 cw_X11_siege rfl rfl (sk_k hsk 3 rfl) (Nat.le_of_ble_eq_true rfl) (lvL_ok (by omega)) rfl (t_X11_siege hsk (Nat.le_refl _) e1) ?_
  refine l_aload (o := 64) hΛ dL_law_887 ⟨by omega, by omega⟩ lm2 ?_
  refine l_arg (j := 1) hΛ hi (by omega) (by omega) dL_law_888 dL_law_889 dL_law_890 dL_law_891 dL_law_892 lm0 lm3 ?_
  refine l_arg (j := 2) hΛ hi (by omega) (by omega) dL_law_893 dL_law_894 dL_law_895 dL_law_896 dL_law_897 lm0 lm3 ?_
  refine l_arg (j := 3) hΛ hi (by omega) (by omega) dL_law_898 dL_law_899 dL_law_900 dL_law_901 dL_law_902 lm0 lm3 ?_
  refine l_arg (j := 4) hΛ hi (by omega) (by omega) dL_law_903 dL_law_904 dL_law_905 dL_law_906 dL_law_907 lm0 lm3 ?_
  refine l_callV (d' := 10) (o := 64) (ci := 12) (args := [.inl (xv (i + 1).toNat).toInt, .inl (xv (i + 2).toNat).toInt, .inl (xv (i + 3).toNat).toInt, .inl (xv (i + 4).toNat).toInt]) hΛ (by omega) dL_law_908 cv_RL_114 cw_X12_siege rfl rfl (sk_k hsk 64 rfl) (Nat.le_of_ble_eq_true rfl) (lvL_ok (by omega)) rfl (t_X12_siege hsk (Nat.le_refl _) e2) ?_
  exact l_icmp_eq hΛ 1391 dL_law_911 rfl (fun _ => k _ (inv_B hI2 (by omega) (by omega))) (fun h => absurd hv.symm h)
theorem lc_24 {b Ln : Nat} {xv : Nat → Int32} {Λ : LT} (hΛ : lG b Ln xv Λ) {N : NN} {X : MX} {i B : Int} (hsk : m_Sk X) (hI : Inv X N B) (hB : 0 ≤ B ∧ B + 300 ≤ 1000000) (hi : 0 ≤ i) (hi5 : i + 5 < (Ln : Int)) (k : ∀ N1, Inv X N1 (B + 300) → Λ (lvL b i) 1391 [] N1 X) : Λ (lvL b i) 916 [] N X := by
  obtain ⟨o, e1, p, e2, hv, hI2⟩ := sim_herald hI ((xv (i + 1).toNat).toInt)
  have hn := hsk.1
  refine l_aload (o := 3) hΛ dL_law_916 ⟨by omega, by omega⟩ lm1 ?_
  refine l_arg (j := 1) hΛ hi (by omega) (by omega) dL_law_917 dL_law_918 dL_law_919 dL_law_920 dL_law_921 lm0 lm3 ?_
  refine l_callV (d' := 2) (o := 3) (ci := 11) (args := [.inl (xv (i + 1).toNat).toInt]) hΛ (by omega) dL_law_922 cv_RL_115 cw_X11_herald rfl rfl (sk_k hsk 3 rfl) (Nat.le_of_ble_eq_true rfl) (lvL_ok (by omega)) rfl (t_X11_herald hsk (Nat.le_refl _) e1) ?_
  refine l_aload (o := 64) hΛ dL_law_925 ⟨by omega, by omega⟩ lm2 ?_
  refine l_arg (j := 1) hΛ hi (by omega) (by omega) dL_law_926 dL_law_927 dL_law_928 dL_law_929 dL_law_930 lm0 lm3 ?_
  refine l_callV (d' := 2) (o := 64) (ci := 12) (args := [.inl (xv (i + 1).toNat).toInt]) hΛ (by omega) dL_law_931 cv_RL_118 cw_X12_herald rfl rfl (sk_k hsk 64 rfl) (Nat.le_of_ble_eq_true rfl) (lvL_ok (by omega)) rfl (t_X12_herald hsk (Nat.le_refl _) e2) ?_
  exact l_icmp_eq hΛ 1391 dL_law_934 rfl (fun _ => k _ (inv_B hI2 (by omega) (by omega))) (fun h => absurd hv.symm h)
theorem lc_25 {b Ln : Nat} {xv : Nat → Int32} {Λ : LT} (hΛ : lG b Ln xv Λ) {N : NN} {X : MX} {i B : Int} (hsk : m_Sk X) (hI : Inv X N B) (hB : 0 ≤ B ∧ B + 300 ≤ 1000000) (hi : 0 ≤ i) (hi5 : i + 5 < (Ln : Int)) (k : ∀ N1, Inv X N1 (B + 300) → Λ (lvL b i) 1391 [] N1 X) : Λ (lvL b i) 939 [] N X := by
  obtain ⟨o, e1, p, e2, hv, hI2⟩ := sim_tells hI ((xv (i + 1).toNat).toInt) ((xv (i + 2).toNat).toInt)
  have hn := hsk.1
  refine l_aload (o := 3) hΛ dL_law_939 ⟨by omega, by omega⟩ lm1 ?_
  refine l_arg (j := 1) hΛ hi (by omega) (by omega) dL_law_940 dL_law_941 dL_law_942 dL_law_943 dL_law_944 lm0 lm3 ?_
  refine l_arg (j := 2) hΛ hi (by omega) (by omega) dL_law_945 dL_law_946 dL_law_947 dL_law_948 dL_law_949 lm0 lm3 ?_
  refine l_callV (d' := 7) (o := 3) (ci := 11) (args := [.inl (xv (i + 1).toNat).toInt, .inl (xv (i + 2).toNat).toInt]) hΛ (by omega) dL_law_950 cv_RL_119 cw_X11_tells rfl rfl (sk_k hsk 3 rfl) (Nat.le_of_ble_eq_true rfl) (lvL_ok (by omega)) rfl (t_X11_tells hsk (Nat.le_refl _) e1) ?_
  refine l_aload (o := 64) hΛ dL_law_953 ⟨by omega, by omega⟩ lm2 ?_
  refine l_arg (j := 1) hΛ hi (by omega) (by omega) dL_law_954 dL_law_955 dL_law_956 dL_law_957 dL_law_958 lm0 lm3 ?_
  refine l_arg (j := 2) hΛ hi (by omega) (by omega) dL_law_959 dL_law_960 dL_law_961 dL_law_962 dL_law_963 lm0 lm3 ?_
  refine l_callV (d' := 9) (o := 64) (ci := 12) (args := [.inl (xv (i + 1).toNat).toInt, .inl (xv (i + 2).toNat).toInt]) hΛ (by omega) dL_law_964 cv_RL_122 cw_X12_tells rfl rfl (sk_k hsk 64 rfl) (Nat.le_of_ble_eq_true rfl) (lvL_ok (by omega)) rfl (t_X12_tells hsk (Nat.le_refl _) e2) ?_
  exact l_icmp_eq hΛ 1391 dL_law_967 rfl (fun _ => k _ (inv_B hI2 (by omega) (by omega))) (fun h => absurd hv.symm h)
theorem lc_26 {b Ln : Nat} {xv : Nat → Int32} {Λ : LT} (hΛ : lG b Ln xv Λ) {N : NN} {X : MX} {i B : Int} (hsk : m_Sk X) (hI : Inv X N B) (hB : 0 ≤ B ∧ B + 300 ≤ 1000000) (hi : 0 ≤ i) (hi5 : i + 5 < (Ln : Int)) (k : ∀ N1, Inv X N1 (B + 300) → Λ (lvL b i) 1391 [] N1 X) : Λ (lvL b i) 972 [] N X := by
  obtain ⟨o, e1, p, e2, hv, hI2⟩ := sim_bribe hI ((xv (i + 1).toNat).toInt) ((xv (i + 2).toNat).toInt) ((xv (i + 3).toNat).toInt)
  have hn := hsk.1
  refine l_aload (o := 3) hΛ dL_law_972 ⟨by omega, by omega⟩ lm1 ?_
  refine l_arg (j := 1) hΛ hi (by omega) (by omega) dL_law_973 dL_law_974 dL_law_975 dL_law_976 dL_law_977 lm0 lm3 ?_
  refine l_arg (j := 2) hΛ hi (by omega) (by omega) dL_law_978 dL_law_979 dL_law_980 dL_law_981 dL_law_982 lm0 lm3 ?_
  refine l_arg (j := 3) hΛ hi (by omega) (by omega) dL_law_983 dL_law_984 dL_law_985 dL_law_986 dL_law_987 lm0 lm3 ?_
  refine l_callV (d' := 8) (o := 3) (ci := 11) (args := [.inl (xv (i + 1).toNat).toInt, .inl (xv (i + 2).toNat).toInt, .inl (xv (i + 3).toNat).toInt]) hΛ (by omega) dL_law_988 cv_RL_123 cw_X11_bribe rfl rfl (sk_k hsk 3 rfl) (Nat.le_of_ble_eq_true rfl) (lvL_ok (by omega)) rfl (t_X11_bribe hsk (Nat.le_refl _) e1) ?_
  refine l_aload (o := 64) hΛ dL_law_991 ⟨by omega, by omega⟩ lm2 ?_
  refine l_arg (j := 1) hΛ hi (by omega) (by omega) dL_law_992 dL_law_993 dL_law_994 dL_law_995 dL_law_996 lm0 lm3 ?_
  refine l_arg (j := 2) hΛ hi (by omega) (by omega) dL_law_997 dL_law_998 dL_law_999 dL_law_1000 dL_law_1001 lm0 lm3 ?_
  refine l_arg (j := 3) hΛ hi (by omega) (by omega) dL_law_1002 dL_law_1003 dL_law_1004 dL_law_1005 dL_law_1006 lm0 lm3 ?_
  refine l_callV (d' := 9) (o := 64) (ci := 12) (args := [.inl (xv (i + 1).toNat).toInt, .inl (xv (i + 2).toNat).toInt, .inl (xv (i + 3).toNat).toInt]) hΛ (by omega) dL_law_1007 cv_RL_126 cw_X12_bribe rfl rfl (sk_k hsk 64 rfl) (Nat.le_of_ble_eq_true rfl) (lvL_ok (by omega)) rfl (t_X12_bribe hsk (Nat.le_refl _) e2) ?_
  exact l_icmp_eq hΛ 1391 dL_law_1010 rfl (fun _ => k _ (inv_B hI2 (by omega) (by omega))) (fun h => absurd hv.symm h)
theorem lc_27 {b Ln : Nat} {xv : Nat → Int32} {Λ : LT} (hΛ : lG b Ln xv Λ) {N : NN} {X : MX} {i B : Int} (hsk : m_Sk X) (hI : Inv X N B) (hB : 0 ≤ B ∧ B + 300 ≤ 1000000) (hi : 0 ≤ i) (hi5 : i + 5 < (Ln : Int)) (k : ∀ N1, Inv X N1 (B + 300) → Λ (lvL b i) 1391 [] N1 X) : Λ (lvL b i) 1015 [] N X := by
  obtain ⟨o, e1, p, e2, hv, hI2⟩ := sim_road hI ((xv (i + 1).toNat).toInt) ((xv (i + 2).toNat).toInt) ((xv (i + 3).toNat).toInt) ((xv (i + 4).toNat).toInt)
  have hn := hsk.1
  refine l_aload (o := 3) hΛ dL_law_1015 ⟨by omega, by omega⟩ lm1 ?_
  refine l_arg (j := 1) hΛ hi (by omega) (by omega) dL_law_1016 dL_law_1017 dL_law_1018 dL_law_1019 dL_law_1020 lm0 lm3 ?_
  refine l_arg (j := 2) hΛ hi (by omega) (by omega) dL_law_1021 dL_law_1022 dL_law_1023 dL_law_1024 dL_law_1025 lm0 lm3 ?_
  refine l_arg (j := 3) hΛ hi (by omega) (by omega) dL_law_1026 dL_law_1027 dL_law_1028 dL_law_1029 dL_law_1030 lm0 lm3 ?_
  refine l_arg (j := 4) hΛ hi (by omega) (by omega) dL_law_1031 dL_law_1032 dL_law_1033 dL_law_1034 dL_law_1035 lm0 lm3 ?_
  refine l_callV (d' := 2) (o := 3) (ci := 11) (args := [.inl (xv (i + 1).toNat).toInt, .inl (xv (i + 2).toNat).toInt, .inl (xv (i + 3).toNat).toInt, .inl (xv (i + 4).toNat).toInt]) hΛ (by omega) dL_law_1036 cv_RL_127 cw_X11_road rfl rfl (sk_k hsk 3 rfl) (Nat.le_of_ble_eq_true rfl) (lvL_ok (by omega)) rfl (t_X11_road hsk (Nat.le_refl _) e1) ?_
  refine l_aload (o := 64) hΛ dL_law_1039 ⟨by omega, by omega⟩ lm2 ?_
  refine l_arg (j := 1) hΛ hi (by omega) (by omega) dL_law_1040 dL_law_1041 dL_law_1042 dL_law_1043 dL_law_1044 lm0 lm3 ?_
  refine l_arg (j := 2) hΛ hi (by omega) (by omega) dL_law_1045 dL_law_1046 dL_law_1047 dL_law_1048 dL_law_1049 lm0 lm3 ?_
  refine l_arg (j := 3) hΛ hi (by omega) (by omega) dL_law_1050 dL_law_1051 dL_law_1052 dL_law_1053 dL_law_1054 lm0 lm3 ?_
  refine l_arg (j := 4) hΛ hi (by omega) (by omega) dL_law_1055 dL_law_1056 dL_law_1057 dL_law_1058 dL_law_1059 lm0 lm3 ?_
  refine l_callV (d' := 3) (o := 64) (ci := 12) (args := [.inl (xv (i + 1).toNat).toInt, .inl (xv (i + 2).toNat).toInt, .inl (xv (i + 3).toNat).toInt, .inl (xv (i + 4).toNat).toInt]) hΛ (by omega) dL_law_1060 cv_RL_130 cw_X12_road rfl rfl (sk_k hsk 64 rfl) (Nat.le_of_ble_eq_true rfl) (lvL_ok (by omega)) rfl (t_X12_road hsk (Nat.le_refl _) e2) ?_
  exact l_icmp_eq hΛ 1391 dL_law_1063 rfl (fun _ => k _ (inv_B hI2 (by omega) (by omega))) (fun h => absurd hv.symm h)
theorem lc_28 {b Ln : Nat} {xv : Nat → Int32} {Λ : LT} (hΛ : lG b Ln xv Λ) {N : NN} {X : MX} {i B : Int} (hsk : m_Sk X) (hI : Inv X N B) (hB : 0 ≤ B ∧ B + 300 ≤ 1000000) (hi : 0 ≤ i) (hi5 : i + 5 < (Ln : Int)) (k : ∀ N1, Inv X N1 (B + 300) → Λ (lvL b i) 1391 [] N1 X) : Λ (lvL b i) 1068 [] N X := by
  obtain ⟨o, e1, p, e2, hv, hI2⟩ := sim_way hI ((xv (i + 1).toNat).toInt) ((xv (i + 2).toNat).toInt) ((xv (i + 3).toNat).toInt) (m_cv_i 0 _)
  have hn := hsk.1
  refine l_aload (o := 3) hΛ dL_law_1068 ⟨by omega, by omega⟩ lm1 ?_
  refine l_arg (j := 1) hΛ hi (by omega) (by omega) dL_law_1069 dL_law_1070 dL_law_1071 dL_law_1072 dL_law_1073 lm0 lm3 ?_
  refine l_arg (j := 2) hΛ hi (by omega) (by omega) dL_law_1074 dL_law_1075 dL_law_1076 dL_law_1077 dL_law_1078 lm0 lm3 ?_
  refine l_arg (j := 3) hΛ hi (by omega) (by omega) dL_law_1079 dL_law_1080 dL_law_1081 dL_law_1082 dL_law_1083 lm0 lm3 ?_
  refine l_callV (d' := 10) (o := 3) (ci := 11) (args := [.inl (xv (i + 1).toNat).toInt, .inl (xv (i + 2).toNat).toInt, .inl (xv (i + 3).toNat).toInt]) hΛ (by omega) dL_law_1084 cv_RL_131 cw_X11_way rfl rfl (sk_k hsk 3 rfl) (Nat.le_of_ble_eq_true rfl) (lvL_ok (by omega)) rfl (t_X11_way hsk (Nat.le_refl _) e1) ?_
  refine l_aload (o := 64) hΛ dL_law_1087 ⟨by omega, by omega⟩ lm2 ?_
  refine l_arg (j := 1) hΛ hi (by omega) (by omega) dL_law_1088 dL_law_1089 dL_law_1090 dL_law_1091 dL_law_1092 lm0 lm3 ?_
  refine l_arg (j := 2) hΛ hi (by omega) (by omega) dL_law_1093 dL_law_1094 dL_law_1095 dL_law_1096 dL_law_1097 lm0 lm3 ?_
  refine l_arg (j := 3) hΛ hi (by omega) (by omega) dL_law_1098 dL_law_1099 dL_law_1100 dL_law_1101 dL_law_1102 lm0 lm3 ?_
  refine l_callV (d' := 4) (o := 64) (ci := 12) (args := [.inl (xv (i + 1).toNat).toInt, .inl (xv (i + 2).toNat).toInt, .inl (xv (i + 3).toNat).toInt]) hΛ (by omega) dL_law_1103 cv_RL_134 cw_X12_way rfl rfl (sk_k hsk 64 rfl) (Nat.le_of_ble_eq_true rfl) (lvL_ok (by omega)) rfl (t_X12_way hsk (Nat.le_refl _) e2) ?_
  exact l_icmp_eq hΛ 1391 dL_law_1106 rfl (fun _ => k _ (inv_B hI2 (by omega) (by omega))) (fun h => absurd hv.symm h)
theorem lc_29 {b Ln : Nat} {xv : Nat → Int32} {Λ : LT} (hΛ : lG b Ln xv Λ) {N : NN} {X : MX} {i B : Int} (hsk : m_Sk X) (hI : Inv X N B) (hB : 0 ≤ B ∧ B + 300 ≤ 1000000) (hi : 0 ≤ i) (hi5 : i + 5 < (Ln : Int)) (k : ∀ N1, Inv X N1 (B + 300) → Λ (lvL b i) 1391 [] N1 X) : Λ (lvL b i) 1111 [] N X := by
  obtain ⟨o, e1, p, e2, hv, hI2⟩ := sim_ring hI ((xv (i + 1).toNat).toInt)
  have hn := hsk.1
  refine l_aload (o := 3) hΛ dL_law_1111 ⟨by omega, by omega⟩ lm1 ?_
  refine l_arg (j := 1) hΛ hi (by omega) (by omega) dL_law_1112 dL_law_1113 dL_law_1114 dL_law_1115 dL_law_1116 lm0 lm3 ?_
  refine l_callV (d' := 18) (o := 3) (ci := 11) (args := [.inl (xv (i + 1).toNat).toInt]) hΛ (by omega) dL_law_1117 cv_RL_135 cw_X11_ring rfl rfl (sk_k hsk 3 rfl) (Nat.le_of_ble_eq_true rfl) (lvL_ok (by omega)) rfl (t_X11_ring hsk (Nat.le_refl _) e1) ?_
  refine l_aload (o := 64) hΛ dL_law_1120 ⟨by omega, by omega⟩ lm2 ?_
  refine l_arg (j := 1) hΛ hi (by omega) (by omega) dL_law_1121 dL_law_1122 dL_law_1123 dL_law_1124 dL_law_1125 lm0 lm3 ?_
  refine l_callV (d' := 3) (o := 64) (ci := 12) (args := [.inl (xv (i + 1).toNat).toInt]) hΛ (by omega) dL_law_1126 cv_RL_138 cw_X12_ring rfl rfl (sk_k hsk 64 rfl) (Nat.le_of_ble_eq_true rfl) (lvL_ok (by omega)) rfl (t_X12_ring hsk (Nat.le_refl _) e2) ?_
  exact l_icmp_eq hΛ 1391 dL_law_1129 rfl (fun _ => k _ (inv_B hI2 (by omega) (by omega))) (fun h => absurd hv.symm h)
theorem lc_30 {b Ln : Nat} {xv : Nat → Int32} {Λ : LT} (hΛ : lG b Ln xv Λ) {N : NN} {X : MX} {i B : Int} (hsk : m_Sk X) (hI : Inv X N B) (hB : 0 ≤ B ∧ B + 300 ≤ 1000000) (hi : 0 ≤ i) (hi5 : i + 5 < (Ln : Int)) (k : ∀ N1, Inv X N1 (B + 300) → Λ (lvL b i) 1391 [] N1 X) : Λ (lvL b i) 1134 [] N X := by
  obtain ⟨o, e1, p, e2, hv, hI2⟩ := sim_shelf hI ((xv (i + 1).toNat).toInt) ((xv (i + 2).toNat).toInt)
  have hn := hsk.1
  refine l_aload (o := 3) hΛ dL_law_1134 ⟨by omega, by omega⟩ lm1 ?_
  refine l_arg (j := 1) hΛ hi (by omega) (by omega) dL_law_1135 dL_law_1136 dL_law_1137 dL_law_1138 dL_law_1139 lm0 lm3 ?_
  refine l_arg (j := 2) hΛ hi (by omega) (by omega) dL_law_1140 dL_law_1141 dL_law_1142 dL_law_1143 dL_law_1144 lm0 lm3 ?_
  refine l_callV (d' := 2) (o := 3) (ci := 11) (args := [.inl (xv (i + 1).toNat).toInt, .inl (xv (i + 2).toNat).toInt]) hΛ (by omega) dL_law_1145 cv_RL_139 cw_X11_shelf rfl rfl (sk_k hsk 3 rfl) (Nat.le_of_ble_eq_true rfl) (lvL_ok (by omega)) rfl (t_X11_shelf hsk (Nat.le_refl _) e1) ?_
  refine l_aload (o := 64) hΛ dL_law_1148 ⟨by omega, by omega⟩ lm2 ?_
  refine l_arg (j := 1) hΛ hi (by omega) (by omega) dL_law_1149 dL_law_1150 dL_law_1151 dL_law_1152 dL_law_1153 lm0 lm3 ?_
  refine l_arg (j := 2) hΛ hi (by omega) (by omega) dL_law_1154 dL_law_1155 dL_law_1156 dL_law_1157 dL_law_1158 lm0 lm3 ?_
  refine l_callV (d' := 3) (o := 64) (ci := 12) (args := [.inl (xv (i + 1).toNat).toInt, .inl (xv (i + 2).toNat).toInt]) hΛ (by omega) dL_law_1159 cv_RL_142 cw_X12_shelf rfl rfl (sk_k hsk 64 rfl) (Nat.le_of_ble_eq_true rfl) (lvL_ok (by omega)) rfl (t_X12_shelf hsk (Nat.le_refl _) e2) ?_
  exact l_icmp_eq hΛ 1391 dL_law_1162 rfl (fun _ => k _ (inv_B hI2 (by omega) (by omega))) (fun h => absurd hv.symm h)
theorem lc_31 {b Ln : Nat} {xv : Nat → Int32} {Λ : LT} (hΛ : lG b Ln xv Λ) {N : NN} {X : MX} {i B : Int} (hsk : m_Sk X) (hI : Inv X N B) (hB : 0 ≤ B ∧ B + 300 ≤ 1000000) (hi : 0 ≤ i) (hi5 : i + 5 < (Ln : Int)) (k : ∀ N1, Inv X N1 (B + 300) → Λ (lvL b i) 1391 [] N1 X) : Λ (lvL b i) 1167 [] N X := by
  obtain ⟨o, e1, p, e2, hv, hI2⟩ := sim_found hI ((xv (i + 1).toNat).toInt) ((xv (i + 2).toNat).toInt)
  have hn := hsk.1
  refine l_aload (o := 3) hΛ dL_law_1167 ⟨by omega, by omega⟩ lm1 ?_
  refine l_arg (j := 1) hΛ hi (by omega) (by omega) dL_law_1168 dL_law_1169 dL_law_1170 dL_law_1171 dL_law_1172 lm0 lm3 ?_
  refine l_arg (j := 2) hΛ hi (by omega) (by omega) dL_law_1173 dL_law_1174 dL_law_1175 dL_law_1176 dL_law_1177 lm0 lm3 ?_
  refine l_callV (d' := 6) (o := 3) (ci := 11) (args := [.inl (xv (i + 1).toNat).toInt, .inl (xv (i + 2).toNat).toInt]) hΛ (by omega) dL_law_1178 cv_RL_143 cw_X11_found rfl rfl (sk_k hsk 3 rfl) (Nat.le_of_ble_eq_true rfl) (lvL_ok (by omega)) rfl (t_X11_found hsk (Nat.le_refl _) e1) ?_
  refine l_aload (o := 64) hΛ dL_law_1181 ⟨by omega, by omega⟩ lm2 ?_
  refine l_arg (j := 1) hΛ hi (by omega) (by omega) dL_law_1182 dL_law_1183 dL_law_1184 dL_law_1185 dL_law_1186 lm0 lm3 ?_
  refine l_arg (j := 2) hΛ hi (by omega) (by omega) dL_law_1187 dL_law_1188 dL_law_1189 dL_law_1190 dL_law_1191 lm0 lm3 ?_
  refine l_callV (d' := 9) (o := 64) (ci := 12) (args := [.inl (xv (i + 1).toNat).toInt, .inl (xv (i + 2).toNat).toInt]) hΛ (by omega) dL_law_1192 cv_RL_146 cw_X12_found rfl rfl (sk_k hsk 64 rfl) (Nat.le_of_ble_eq_true rfl) (lvL_ok (by omega)) rfl (t_X12_found hsk (Nat.le_refl _) e2) ?_
  exact l_icmp_eq hΛ 1391 dL_law_1195 rfl (fun _ => k _ (inv_B hI2 (by omega) (by omega))) (fun h => absurd hv.symm h)
theorem lc_32 {b Ln : Nat} {xv : Nat → Int32} {Λ : LT} (hΛ : lG b Ln xv Λ) {N : NN} {X : MX} {i B : Int} (hsk : m_Sk X) (hI : Inv X N B) (hB : 0 ≤ B ∧ B + 300 ≤ 1000000) (hi : 0 ≤ i) (hi5 : i + 5 < (Ln : Int)) (k : ∀ N1, Inv X N1 (B + 300) → Λ (lvL b i) 1391 [] N1 X) : Λ (lvL b i) 1200 [] N X := by
  obtain ⟨o, e1, p, e2, hv, hI2⟩ := sim_beats hI ((xv (i + 1).toNat).toInt) ((xv (i + 2).toNat).toInt) ((xv (i + 3).toNat).toInt)
  have hn := hsk.1
  refine l_aload (o := 3) hΛ dL_law_1200 ⟨by omega, by omega⟩ lm1 ?_
  refine l_arg (j := 1) hΛ hi (by omega) (by omega) dL_law_1201 dL_law_1202 dL_law_1203 dL_law_1204 dL_law_1205 lm0 lm3 ?_
  refine l_arg (j := 2) hΛ hi (by omega) (by omega) dL_law_1206 dL_law_1207 dL_law_1208 dL_law_1209 dL_law_1210 lm0 lm3 ?_
  refine l_arg (j := 3) hΛ hi (by omega) (by omega) dL_law_1211 dL_law_1212 dL_law_1213 dL_law_1214 dL_law_1215 lm0 lm3 ?_
  refine l_callV (d' := 6) (o := 3) (ci := 11) (args := [.inl (xv (i + 1).toNat).toInt, .inl (xv (i + 2).toNat).toInt, .inl (xv (i + 3).toNat).toInt]) hΛ (by omega) dL_law_1216 cv_RL_147 cw_X11_beats rfl rfl (sk_k hsk 3 rfl) (Nat.le_of_ble_eq_true rfl) (lvL_ok (by omega)) rfl (t_X11_beats hsk (Nat.le_refl _) e1) ?_
  refine l_aload (o := 64) hΛ dL_law_1219 ⟨by omega, by omega⟩ lm2 ?_
  refine l_arg (j := 1) hΛ hi (by omega) (by omega) dL_law_1220 dL_law_1221 dL_law_1222 dL_law_1223 dL_law_1224 lm0 lm3 ?_
  refine l_arg (j := 2) hΛ hi (by omega) (by omega) dL_law_1225 dL_law_1226 dL_law_1227 dL_law_1228 dL_law_1229 lm0 lm3 ?_
  refine l_arg (j := 3) hΛ hi (by omega) (by omega) dL_law_1230 dL_law_1231 dL_law_1232 dL_law_1233 dL_law_1234 lm0 lm3 ?_
  refine l_callV (d' := 8) (o := 64) (ci := 12) (args := [.inl (xv (i + 1).toNat).toInt, .inl (xv (i + 2).toNat).toInt, .inl (xv (i + 3).toNat).toInt]) hΛ (by omega) dL_law_1235 cv_RL_150 cw_X12_beats rfl rfl (sk_k hsk 64 rfl) (Nat.le_of_ble_eq_true rfl) (lvL_ok (by omega)) rfl (t_X12_beats hsk (Nat.le_refl _) e2) ?_
  exact l_icmp_eq hΛ 1391 dL_law_1238 rfl (fun _ => k _ (inv_B hI2 (by omega) (by omega))) (fun h => absurd hv.symm h)
theorem lc_33 {b Ln : Nat} {xv : Nat → Int32} {Λ : LT} (hΛ : lG b Ln xv Λ) {N : NN} {X : MX} {i B : Int} (hsk : m_Sk X) (hI : Inv X N B) (hB : 0 ≤ B ∧ B + 300 ≤ 1000000) (hi : 0 ≤ i) (hi5 : i + 5 < (Ln : Int)) (k : ∀ N1, Inv X N1 (B + 300) → Λ (lvL b i) 1391 [] N1 X) : Λ (lvL b i) 1243 [] N X := by
  obtain ⟨o, e1, p, e2, hv, hI2⟩ := sim_generation hI hB.1 (by omega) ((xv (i + 1).toNat).toInt) ((xv (i + 2).toNat).toInt)
  have hn := hsk.1
  refine l_aload (o := 3) hΛ dL_law_1243 ⟨by omega, by omega⟩ lm1 ?_
  refine l_arg (j := 1) hΛ hi (by omega) (by omega) dL_law_1244 dL_law_1245 dL_law_1246 dL_law_1247 dL_law_1248 lm0 lm3 ?_
  refine l_arg (j := 2) hΛ hi (by omega) (by omega) dL_law_1249 dL_law_1250 dL_law_1251 dL_law_1252 dL_law_1253 lm0 lm3 ?_
  refine l_callV (d' := 7) (o := 3) (ci := 11) (args := [.inl (xv (i + 1).toNat).toInt, .inl (xv (i + 2).toNat).toInt]) hΛ (by omega) dL_law_1254 cv_RL_151 cw_X11_generation rfl rfl (sk_k hsk 3 rfl) (Nat.le_of_ble_eq_true rfl) (lvL_ok (by omega)) rfl (t_X11_generation hsk (Nat.le_refl _) e1) ?_
  refine l_aload (o := 64) hΛ dL_law_1257 ⟨by omega, by omega⟩ lm2 ?_
  refine l_arg (j := 1) hΛ hi (by omega) (by omega) dL_law_1258 dL_law_1259 dL_law_1260 dL_law_1261 dL_law_1262 lm0 lm3 ?_
  refine l_arg (j := 2) hΛ hi (by omega) (by omega) dL_law_1263 dL_law_1264 dL_law_1265 dL_law_1266 dL_law_1267 lm0 lm3 ?_
  refine l_callV (d' := 10) (o := 64) (ci := 12) (args := [.inl (xv (i + 1).toNat).toInt, .inl (xv (i + 2).toNat).toInt]) hΛ (by omega) dL_law_1268 cv_RL_154 cw_X12_generation rfl rfl (sk_k hsk 64 rfl) (Nat.le_of_ble_eq_true rfl) (lvL_ok (by omega)) rfl (t_X12_generation hsk (Nat.le_refl _) e2) ?_
  exact l_icmp_eq hΛ 1391 dL_law_1271 rfl (fun _ => k _ (inv_B hI2 (by omega) (by omega))) (fun h => absurd hv.symm h)
theorem lc_34 {b Ln : Nat} {xv : Nat → Int32} {Λ : LT} (hΛ : lG b Ln xv Λ) {N : NN} {X : MX} {i B : Int} (hsk : m_Sk X) (hI : Inv X N B) (hB : 0 ≤ B ∧ B + 300 ≤ 1000000) (hi : 0 ≤ i) (hi5 : i + 5 < (Ln : Int)) (k : ∀ N1, Inv X N1 (B + 300) → Λ (lvL b i) 1391 [] N1 X) : Λ (lvL b i) 1276 [] N X := by
  obtain ⟨o, e1, p, e2, hv, hI2⟩ := sim_drawn hI ((xv (i + 1).toNat).toInt) ((xv (i + 2).toNat).toInt)
  have hn := hsk.1
  refine l_aload (o := 3) hΛ dL_law_1276 ⟨by omega, by omega⟩ lm1 ?_
  refine l_arg (j := 1) hΛ hi (by omega) (by omega) dL_law_1277 dL_law_1278 dL_law_1279 dL_law_1280 dL_law_1281 lm0 lm3 ?_
  refine l_arg (j := 2) hΛ hi (by omega) (by omega) dL_law_1282 dL_law_1283 dL_law_1284 dL_law_1285 dL_law_1286 lm0 lm3 ?_
  refine l_callV (d' := 4) (o := 3) (ci := 11) (args := [.inl (xv (i + 1).toNat).toInt, .inl (xv (i + 2).toNat).toInt]) hΛ (by omega) dL_law_1287 cv_RL_155 cw_X11_drawn rfl rfl (sk_k hsk 3 rfl) (Nat.le_of_ble_eq_true rfl) (lvL_ok (by omega)) rfl (t_X11_drawn hsk (Nat.le_refl _) e1) ?_
  refine l_aload (o := 64) hΛ dL_law_1290 ⟨by omega, by omega⟩ lm2 ?_
  refine l_arg (j := 1) hΛ hi (by omega) (by omega) dL_law_1291 dL_law_1292 dL_law_1293 dL_law_1294 dL_law_1295 lm0 lm3 ?_
  refine l_arg (j := 2) hΛ hi (by omega) (by omega) dL_law_1296 dL_law_1297 dL_law_1298 dL_law_1299 dL_law_1300 lm0 lm3 ?_
  refine l_callV (d' := 2) (o := 64) (ci := 12) (args := [.inl (xv (i + 1).toNat).toInt, .inl (xv (i + 2).toNat).toInt]) hΛ (by omega) dL_law_1301 cv_RL_158 cw_X12_drawn rfl rfl (sk_k hsk 64 rfl) (Nat.le_of_ble_eq_true rfl) (lvL_ok (by omega)) rfl (t_X12_drawn hsk (Nat.le_refl _) e2) ?_
  exact l_icmp_eq hΛ 1391 dL_law_1304 rfl (fun _ => k _ (inv_B hI2 (by omega) (by omega))) (fun h => absurd hv.symm h)
theorem lc_35 {b Ln : Nat} {xv : Nat → Int32} {Λ : LT} (hΛ : lG b Ln xv Λ) {N : NN} {X : MX} {i B : Int} (hsk : m_Sk X) (hI : Inv X N B) (hB : 0 ≤ B ∧ B + 300 ≤ 1000000) (hi : 0 ≤ i) (hi5 : i + 5 < (Ln : Int)) (k : ∀ N1, Inv X N1 (B + 300) → Λ (lvL b i) 1391 [] N1 X) : Λ (lvL b i) 1309 [] N X := by
  obtain ⟨o, e1, p, e2, hv, hI2⟩ := sim_image hI ((xv (i + 1).toNat).toInt)
  have hn := hsk.1
  refine l_aload (o := 3) hΛ dL_law_1309 ⟨by omega, by omega⟩ lm1 ?_
  refine l_arg (j := 1) hΛ hi (by omega) (by omega) dL_law_1310 dL_law_1311 dL_law_1312 dL_law_1313 dL_law_1314 lm0 lm3 ?_
  refine l_callV (d' := 2) (o := 3) (ci := 11) (args := [.inl (xv (i + 1).toNat).toInt]) hΛ (by omega) dL_law_1315 cv_RL_159 cw_X11_image rfl rfl (sk_k hsk 3 rfl) (Nat.le_of_ble_eq_true rfl) (lvL_ok (by omega)) rfl (t_X11_image hsk (Nat.le_refl _) e1) ?_
  refine l_aload (o := 64) hΛ dL_law_1318 ⟨by omega, by omega⟩ lm2 ?_
  refine l_arg (j := 1) hΛ hi (by omega) (by omega) dL_law_1319 dL_law_1320 dL_law_1321 dL_law_1322 dL_law_1323 lm0 lm3 ?_
  refine l_callV (d' := 2) (o := 64) (ci := 12) (args := [.inl (xv (i + 1).toNat).toInt]) hΛ (by omega) dL_law_1324 cv_RL_162 cw_X12_image rfl rfl (sk_k hsk 64 rfl) (Nat.le_of_ble_eq_true rfl) (lvL_ok (by omega)) rfl (t_X12_image hsk (Nat.le_refl _) e2) ?_
  exact l_icmp_eq hΛ 1391 dL_law_1327 rfl (fun _ => k _ (inv_B hI2 (by omega) (by omega))) (fun h => absurd hv.symm h)
theorem lc_36 {b Ln : Nat} {xv : Nat → Int32} {Λ : LT} (hΛ : lG b Ln xv Λ) {N : NN} {X : MX} {i B : Int} (hsk : m_Sk X) (hI : Inv X N B) (hB : 0 ≤ B ∧ B + 300 ≤ 1000000) (hi : 0 ≤ i) (hi5 : i + 5 < (Ln : Int)) (k : ∀ N1, Inv X N1 (B + 300) → Λ (lvL b i) 1391 [] N1 X) : Λ (lvL b i) 1332 [] N X := by
  obtain ⟨o, e1, p, e2, hv, hI2⟩ := sim_back hI ((xv (i + 1).toNat).toInt)
  have hn := hsk.1
  refine l_aload (o := 3) hΛ dL_law_1332 ⟨by omega, by omega⟩ lm1 ?_
  refine l_arg (j := 1) hΛ hi (by omega) (by omega) dL_law_1333 dL_law_1334 dL_law_1335 dL_law_1336 dL_law_1337 lm0 lm3 ?_
  refine l_callV (d' := 2) (o := 3) (ci := 11) (args := [.inl (xv (i + 1).toNat).toInt]) hΛ (by omega) dL_law_1338 cv_RL_163 cw_X11_back rfl rfl (sk_k hsk 3 rfl) (Nat.le_of_ble_eq_true rfl) (lvL_ok (by omega)) rfl (t_X11_back hsk (Nat.le_refl _) e1) ?_
  refine l_aload (o := 64) hΛ dL_law_1341 ⟨by omega, by omega⟩ lm2 ?_
  refine l_arg (j := 1) hΛ hi (by omega) (by omega) dL_law_1342 dL_law_1343 dL_law_1344 dL_law_1345 dL_law_1346 lm0 lm3 ?_
  refine l_callV (d' := 3) (o := 64) (ci := 12) (args := [.inl (xv (i + 1).toNat).toInt]) hΛ (by omega) dL_law_1347 cv_RL_166 cw_X12_back rfl rfl (sk_k hsk 64 rfl) (Nat.le_of_ble_eq_true rfl) (lvL_ok (by omega)) rfl (t_X12_back hsk (Nat.le_refl _) e2) ?_
  exact l_icmp_eq hΛ 1391 dL_law_1350 rfl (fun _ => k _ (inv_B hI2 (by omega) (by omega))) (fun h => absurd hv.symm h)
theorem lc_37 {b Ln : Nat} {xv : Nat → Int32} {Λ : LT} (hΛ : lG b Ln xv Λ) {N : NN} {X : MX} {i B : Int} (hsk : m_Sk X) (hI : Inv X N B) (hB : 0 ≤ B ∧ B + 300 ≤ 1000000) (hi : 0 ≤ i) (hi5 : i + 5 < (Ln : Int)) (k : ∀ N1, Inv X N1 (B + 300) → Λ (lvL b i) 1391 [] N1 X) : Λ (lvL b i) 1355 [] N X := by
  obtain ⟨o, e1, p, e2, hv, hI2⟩ := sim_count hI ((xv (i + 1).toNat).toInt)
  have hn := hsk.1
  refine l_aload (o := 3) hΛ dL_law_1355 ⟨by omega, by omega⟩ lm1 ?_
  refine l_arg (j := 1) hΛ hi (by omega) (by omega) dL_law_1356 dL_law_1357 dL_law_1358 dL_law_1359 dL_law_1360 lm0 lm3 ?_
  refine l_callV (d' := 4) (o := 3) (ci := 11) (args := [.inl (xv (i + 1).toNat).toInt]) hΛ (by omega) dL_law_1361 cv_RL_167 cw_X11_count rfl rfl (sk_k hsk 3 rfl) (Nat.le_of_ble_eq_true rfl) (lvL_ok (by omega)) rfl (t_X11_count hsk (Nat.le_refl _) e1) ?_
  refine l_aload (o := 64) hΛ dL_law_1364 ⟨by omega, by omega⟩ lm2 ?_
  refine l_arg (j := 1) hΛ hi (by omega) (by omega) dL_law_1365 dL_law_1366 dL_law_1367 dL_law_1368 dL_law_1369 lm0 lm3 ?_
  refine l_callV (d' := 4) (o := 64) (ci := 12) (args := [.inl (xv (i + 1).toNat).toInt]) hΛ (by omega) dL_law_1370 cv_RL_170 cw_X12_count rfl rfl (sk_k hsk 64 rfl) (Nat.le_of_ble_eq_true rfl) (lvL_ok (by omega)) rfl (t_X12_count hsk (Nat.le_refl _) e2) ?_
  exact l_icmp_eq hΛ 1391 dL_law_1373 rfl (fun _ => k _ (inv_B hI2 (by omega) (by omega))) (fun h => absurd hv.symm h)
theorem lc_38 {b Ln : Nat} {xv : Nat → Int32} {Λ : LT} (hΛ : lG b Ln xv Λ) {N : NN} {X : MX} {i B : Int} (hsk : m_Sk X) (hI : Inv X N B) (hB : 0 ≤ B ∧ B + 300 ≤ 1000000) (hi : 0 ≤ i) (hi5 : i + 5 < (Ln : Int)) (k : ∀ N1, Inv X N1 (B + 300) → Λ (lvL b i) 1391 [] N1 X) : Λ (lvL b i) 1378 [] N X := by
  obtain ⟨o, e1, p, e2, hv, hI2⟩ := sim_status hI
  have hn := hsk.1
  refine l_aload (o := 3) hΛ dL_law_1378 ⟨by omega, by omega⟩ lm1 ?_
  refine l_callV (d' := 1) (o := 3) (ci := 11) (args := []) hΛ (by omega) dL_law_1379 cv_RL_171 cw_X11_status rfl rfl (sk_k hsk 3 rfl) (Nat.le_of_ble_eq_true rfl) (lvL_ok (by omega)) rfl (t_X11_status hsk (Nat.le_refl _) e1) ?_
  refine l_aload (o := 64) hΛ dL_law_1382 ⟨by omega, by omega⟩ lm2 ?_
  refine l_callV (d' := 1) (o := 64) (ci := 12) (args := []) hΛ (by omega) dL_law_1383 cv_RL_174 cw_X12_status rfl rfl (sk_k hsk 64 rfl) (Nat.le_of_ble_eq_true rfl) (lvL_ok (by omega)) rfl (t_X12_status hsk (Nat.le_refl _) e2) ?_
  exact l_icmp_eq hΛ 1391 dL_law_1386 rfl (fun _ => k _ (inv_B hI2 (by omega) (by omega))) (fun h => absurd hv.symm h)
