set_option maxRecDepth 20000 in
set_option maxHeartbeats 4000000 in
theorem lc_0 {K : Cx} {X : Wx} {ρM : Nat → Nat} {b L : Nat} {xs : Nat → Int32} {σ τ : St} {i : Nat} {Inv : St → St → Prop} (O : LOK K X ρM b L xs) (hL : L ≤ 3072) (hi : i + 6 ≤ L) (hO : Ok2 Inv (X8_row (xs (i + 1)).toInt (xs (i + 2)).toInt σ) (X9_row (xs (i + 1)).toInt (xs (i + 2)).toInt τ)) (kk : ∀ σ τ, Inv σ τ → GL K X ρM b 1274 [(0, .ref b), (1, .ref (xr X 0)), (2, .ref (ρM 0)), (3, .int (nI i))] [] σ τ) : GL K X ρM b 188 [(0, .ref b), (1, .ref (xr X 0)), (2, .ref (ρM 0)), (3, .int (nI i))] [] σ τ := by
  obtain ⟨r, s1, t1, hA, hB, hI⟩ := hO
  refine l_aload_n O dL_law_188 rfl 1 rfl ?_
  refine l_arg O (i := i) (k := 1) (by omega) (by decide) hL dL_law_189 dL_law_190 dL_law_191 dL_law_192 dL_law_193 rfl rfl rfl rfl rfl rfl ?_
  refine l_arg O (i := i) (k := 2) (by omega) (by decide) hL dL_law_194 dL_law_195 dL_law_196 dL_law_197 dL_law_198 rfl rfl rfl rfl rfl rfl ?_
  refine l_callC (As := [vI (xs (i + 1)).toInt, vI (xs (i + 2)).toInt]) (rest := []) O hA (ct_X8_row (xs (i + 1)).toInt (xs (i + 2)).toInt σ) mw_2_28 mw_2_29 mw_2_30 mw_2_31 mw_1_1 hd_X8_row rfl (by simp [tv, iI_back, rvo]) dL_law_199 (by decide) (by decide) (Nat.le_of_ble_eq_true rfl) ?_
  refine l_aload_n O dL_law_202 rfl 2 rfl ?_
  refine l_arg O (i := i) (k := 1) (by omega) (by decide) hL dL_law_203 dL_law_204 dL_law_205 dL_law_206 dL_law_207 rfl rfl rfl rfl rfl rfl ?_
  refine l_arg O (i := i) (k := 2) (by omega) (by decide) hL dL_law_208 dL_law_209 dL_law_210 dL_law_211 dL_law_212 rfl rfl rfl rfl rfl rfl ?_
  refine l_callM (As := [vI (xs (i + 1)).toInt, vI (xs (i + 2)).toInt]) (rest := [.int (iI r)]) O hB (ct_X9_row (xs (i + 1)).toInt (xs (i + 2)).toInt τ) mw_4_126 mw_4_127 mw_4_128 mw_4_129 mw_1_10 hd_X9_row rfl (by simp [tv, iI_back, rvo]) dL_law_213 (by decide) (by decide) (Nat.le_of_ble_eq_true rfl) ?_
  refine l_same (tgt := 1274) O dL_law_216 (by decide) ?_
  exact kk _ _ hI
set_option maxRecDepth 20000 in
set_option maxHeartbeats 4000000 in
theorem lc_1 {K : Cx} {X : Wx} {ρM : Nat → Nat} {b L : Nat} {xs : Nat → Int32} {σ τ : St} {i : Nat} {Inv : St → St → Prop} (O : LOK K X ρM b L xs) (hL : L ≤ 3072) (hi : i + 6 ≤ L) (hO : Ok2 Inv (X8_lay (xs (i + 1)).toInt (xs (i + 2)).toInt (xs (i + 3)).toInt σ) (X9_lay (xs (i + 1)).toInt (xs (i + 2)).toInt (xs (i + 3)).toInt τ)) (kk : ∀ σ τ, Inv σ τ → GL K X ρM b 1274 [(0, .ref b), (1, .ref (xr X 0)), (2, .ref (ρM 0)), (3, .int (nI i))] [] σ τ) : GL K X ρM b 221 [(0, .ref b), (1, .ref (xr X 0)), (2, .ref (ρM 0)), (3, .int (nI i))] [] σ τ := by
  obtain ⟨r, s1, t1, hA, hB, hI⟩ := hO
  refine l_aload_n O dL_law_221 rfl 1 rfl ?_
  refine l_arg O (i := i) (k := 1) (by omega) (by decide) hL dL_law_222 dL_law_223 dL_law_224 dL_law_225 dL_law_226 rfl rfl rfl rfl rfl rfl ?_
  refine l_arg O (i := i) (k := 2) (by omega) (by decide) hL dL_law_227 dL_law_228 dL_law_229 dL_law_230 dL_law_231 rfl rfl rfl rfl rfl rfl ?_
  refine l_arg O (i := i) (k := 3) (by omega) (by decide) hL dL_law_232 dL_law_233 dL_law_234 dL_law_235 dL_law_236 rfl rfl rfl rfl rfl rfl ?_
  refine l_callC (As := [vI (xs (i + 1)).toInt, vI (xs (i + 2)).toInt, vI (xs (i + 3)).toInt]) (rest := []) O hA (ct_X8_lay (xs (i + 1)).toInt (xs (i + 2)).toInt (xs (i + 3)).toInt σ) mw_2_43 mw_2_44 mw_2_45 mw_2_46 mw_1_1 hd_X8_lay rfl (by simp [tv, iI_back, rvo]) dL_law_237 (by decide) (by decide) (Nat.le_of_ble_eq_true rfl) ?_
  refine l_aload_n O dL_law_240 rfl 2 rfl ?_
  refine l_arg O (i := i) (k := 1) (by omega) (by decide) hL dL_law_241 dL_law_242 dL_law_243 dL_law_244 dL_law_245 rfl rfl rfl rfl rfl rfl ?_
  refine l_arg O (i := i) (k := 2) (by omega) (by decide) hL dL_law_246 dL_law_247 dL_law_248 dL_law_249 dL_law_250 rfl rfl rfl rfl rfl rfl ?_
  refine l_arg O (i := i) (k := 3) (by omega) (by decide) hL dL_law_251 dL_law_252 dL_law_253 dL_law_254 dL_law_255 rfl rfl rfl rfl rfl rfl ?_
  refine l_callM (As := [vI (xs (i + 1)).toInt, vI (xs (i + 2)).toInt, vI (xs (i + 3)).toInt]) (rest := [.int (iI r)]) O hB (ct_X9_lay (xs (i + 1)).toInt (xs (i + 2)).toInt (xs (i + 3)).toInt τ) mw_4_144 mw_4_145 mw_4_146 mw_4_147 mw_1_10 hd_X9_lay rfl (by simp [tv, iI_back, rvo]) dL_law_256 (by decide) (by decide) (Nat.le_of_ble_eq_true rfl) ?_
  refine l_same (tgt := 1274) O dL_law_259 (by decide) ?_
  exact kk _ _ hI
set_option maxRecDepth 20000 in
set_option maxHeartbeats 4000000 in
theorem lc_2 {K : Cx} {X : Wx} {ρM : Nat → Nat} {b L : Nat} {xs : Nat → Int32} {σ τ : St} {i : Nat} {Inv : St → St → Prop} (O : LOK K X ρM b L xs) (hL : L ≤ 3072) (hi : i + 6 ≤ L) (hO : Ok2 Inv (X8_at (xs (i + 1)).toInt (xs (i + 2)).toInt σ) (X9_at (xs (i + 1)).toInt (xs (i + 2)).toInt τ)) (kk : ∀ σ τ, Inv σ τ → GL K X ρM b 1274 [(0, .ref b), (1, .ref (xr X 0)), (2, .ref (ρM 0)), (3, .int (nI i))] [] σ τ) : GL K X ρM b 264 [(0, .ref b), (1, .ref (xr X 0)), (2, .ref (ρM 0)), (3, .int (nI i))] [] σ τ := by
  obtain ⟨r, s1, t1, hA, hB, hI⟩ := hO
  refine l_aload_n O dL_law_264 rfl 1 rfl ?_
  refine l_arg O (i := i) (k := 1) (by omega) (by decide) hL dL_law_265 dL_law_266 dL_law_267 dL_law_268 dL_law_269 rfl rfl rfl rfl rfl rfl ?_
  refine l_arg O (i := i) (k := 2) (by omega) (by decide) hL dL_law_270 dL_law_271 dL_law_272 dL_law_273 dL_law_274 rfl rfl rfl rfl rfl rfl ?_
  refine l_callC (As := [vI (xs (i + 1)).toInt, vI (xs (i + 2)).toInt]) (rest := []) O hA (ct_X8_at (xs (i + 1)).toInt (xs (i + 2)).toInt σ) mw_2_51 mw_2_52 mw_2_53 mw_2_54 mw_1_1 hd_X8_at rfl (by simp [tv, iI_back, rvo]) dL_law_275 (by decide) (by decide) (Nat.le_of_ble_eq_true rfl) ?_
  refine l_aload_n O dL_law_278 rfl 2 rfl ?_
  refine l_arg O (i := i) (k := 1) (by omega) (by decide) hL dL_law_279 dL_law_280 dL_law_281 dL_law_282 dL_law_283 rfl rfl rfl rfl rfl rfl ?_
  refine l_arg O (i := i) (k := 2) (by omega) (by decide) hL dL_law_284 dL_law_285 dL_law_286 dL_law_287 dL_law_288 rfl rfl rfl rfl rfl rfl ?_
  refine l_callM (As := [vI (xs (i + 1)).toInt, vI (xs (i + 2)).toInt]) (rest := [.int (iI r)]) O hB (ct_X9_at (xs (i + 1)).toInt (xs (i + 2)).toInt τ) mw_4_156 mw_4_157 mw_4_158 mw_4_159 mw_1_10 hd_X9_at rfl (by simp [tv, iI_back, rvo]) dL_law_289 (by decide) (by decide) (Nat.le_of_ble_eq_true rfl) ?_
  refine l_same (tgt := 1274) O dL_law_292 (by decide) ?_
  exact kk _ _ hI
set_option maxRecDepth 20000 in
set_option maxHeartbeats 4000000 in
theorem lc_3 {K : Cx} {X : Wx} {ρM : Nat → Nat} {b L : Nat} {xs : Nat → Int32} {σ τ : St} {i : Nat} {Inv : St → St → Prop} (O : LOK K X ρM b L xs) (hL : L ≤ 3072) (hi : i + 6 ≤ L) (hO : Ok2 Inv (X8_tear (xs (i + 1)).toInt σ) (X9_tear (xs (i + 1)).toInt τ)) (kk : ∀ σ τ, Inv σ τ → GL K X ρM b 1274 [(0, .ref b), (1, .ref (xr X 0)), (2, .ref (ρM 0)), (3, .int (nI i))] [] σ τ) : GL K X ρM b 297 [(0, .ref b), (1, .ref (xr X 0)), (2, .ref (ρM 0)), (3, .int (nI i))] [] σ τ := by
  obtain ⟨r, s1, t1, hA, hB, hI⟩ := hO
  refine l_aload_n O dL_law_297 rfl 1 rfl ?_
  refine l_arg O (i := i) (k := 1) (by omega) (by decide) hL dL_law_298 dL_law_299 dL_law_300 dL_law_301 dL_law_302 rfl rfl rfl rfl rfl rfl ?_
  refine l_callC (As := [vI (xs (i + 1)).toInt]) (rest := []) O hA (ct_X8_tear (xs (i + 1)).toInt σ) mw_2_55 mw_2_56 mw_2_57 mw_2_58 mw_1_1 hd_X8_tear rfl (by simp [tv, iI_back, rvo]) dL_law_303 (by decide) (by decide) (Nat.le_of_ble_eq_true rfl) ?_
  refine l_aload_n O dL_law_306 rfl 2 rfl ?_
  refine l_arg O (i := i) (k := 1) (by omega) (by decide) hL dL_law_307 dL_law_308 dL_law_309 dL_law_310 dL_law_311 rfl rfl rfl rfl rfl rfl ?_
  refine l_callM (As := [vI (xs (i + 1)).toInt]) (rest := [.int (iI r)]) O hB (ct_X9_tear (xs (i + 1)).toInt τ) mw_4_160 mw_4_161 mw_4_162 mw_4_163 mw_1_10 hd_X9_tear rfl (by simp [tv, iI_back, rvo]) dL_law_312 (by decide) (by decide) (Nat.le_of_ble_eq_true rfl) ?_
  refine l_same (tgt := 1274) O dL_law_315 (by decide) ?_
  exact kk _ _ hI
set_option maxRecDepth 20000 in
set_option maxHeartbeats 4000000 in
theorem lc_4 {K : Cx} {X : Wx} {ρM : Nat → Nat} {b L : Nat} {xs : Nat → Int32} {σ τ : St} {i : Nat} {Inv : St → St → Prop} (O : LOK K X ρM b L xs) (hL : L ≤ 3072) (hi : i + 6 ≤ L) (hO : Ok2 Inv (X8_copy (xs (i + 1)).toInt (xs (i + 2)).toInt (xs (i + 3)).toInt (xs (i + 4)).toInt (xs (i + 5)).toInt σ) (X9_copy (xs (i + 1)).toInt (xs (i + 2)).toInt (xs (i + 3)).toInt (xs (i + 4)).toInt (xs (i + 5)).toInt τ)) (kk : ∀ σ τ, Inv σ τ → GL K X ρM b 1274 [(0, .ref b), (1, .ref (xr X 0)), (2, .ref (ρM 0)), (3, .int (nI i))] [] σ τ) : GL K X ρM b 320 [(0, .ref b), (1, .ref (xr X 0)), (2, .ref (ρM 0)), (3, .int (nI i))] [] σ τ := by
  obtain ⟨r, s1, t1, hA, hB, hI⟩ := hO
  refine l_aload_n O dL_law_320 rfl 1 rfl ?_
  refine l_arg O (i := i) (k := 1) (by omega) (by decide) hL dL_law_321 dL_law_322 dL_law_323 dL_law_324 dL_law_325 rfl rfl rfl rfl rfl rfl ?_
  refine l_arg O (i := i) (k := 2) (by omega) (by decide) hL dL_law_326 dL_law_327 dL_law_328 dL_law_329 dL_law_330 rfl rfl rfl rfl rfl rfl ?_
  refine l_arg O (i := i) (k := 3) (by omega) (by decide) hL dL_law_331 dL_law_332 dL_law_333 dL_law_334 dL_law_335 rfl rfl rfl rfl rfl rfl ?_
  refine l_arg O (i := i) (k := 4) (by omega) (by decide) hL dL_law_336 dL_law_337 dL_law_338 dL_law_339 dL_law_340 rfl rfl rfl rfl rfl rfl ?_
  refine l_arg O (i := i) (k := 5) (by omega) (by decide) hL dL_law_341 dL_law_342 dL_law_343 dL_law_344 dL_law_345 rfl rfl rfl rfl rfl rfl ?_
  refine l_callC (As := [vI (xs (i + 1)).toInt, vI (xs (i + 2)).toInt, vI (xs (i + 3)).toInt, vI (xs (i + 4)).toInt, vI (xs (i + 5)).toInt]) (rest := []) O hA (ct_X8_copy (xs (i + 1)).toInt (xs (i + 2)).toInt (xs (i + 3)).toInt (xs (i + 4)).toInt (xs (i + 5)).toInt σ) mw_2_59 mw_2_60 mw_2_61 mw_2_62 mw_1_1 hd_X8_copy rfl (by simp [tv, iI_back, rvo]) dL_law_346 (by decide) (by decide) (Nat.le_of_ble_eq_true rfl) ?_
  refine l_aload_n O dL_law_349 rfl 2 rfl ?_
  refine l_arg O (i := i) (k := 1) (by omega) (by decide) hL dL_law_350 dL_law_351 dL_law_352 dL_law_353 dL_law_354 rfl rfl rfl rfl rfl rfl ?_
  refine l_arg O (i := i) (k := 2) (by omega) (by decide) hL dL_law_355 dL_law_356 dL_law_357 dL_law_358 dL_law_359 rfl rfl rfl rfl rfl rfl ?_
  refine l_arg O (i := i) (k := 3) (by omega) (by decide) hL dL_law_360 dL_law_361 dL_law_362 dL_law_363 dL_law_364 rfl rfl rfl rfl rfl rfl ?_
  refine l_arg O (i := i) (k := 4) (by omega) (by decide) hL dL_law_365 dL_law_366 dL_law_367 dL_law_368 dL_law_369 rfl rfl rfl rfl rfl rfl ?_
  refine l_arg O (i := i) (k := 5) (by omega) (by decide) hL dL_law_370 dL_law_371 dL_law_372 dL_law_373 dL_law_374 rfl rfl rfl rfl rfl rfl ?_
  refine l_callM (As := [vI (xs (i + 1)).toInt, vI (xs (i + 2)).toInt, vI (xs (i + 3)).toInt, vI (xs (i + 4)).toInt, vI (xs (i + 5)).toInt]) (rest := [.int (iI r)]) O hB (ct_X9_copy (xs (i + 1)).toInt (xs (i + 2)).toInt (xs (i + 3)).toInt (xs (i + 4)).toInt (xs (i + 5)).toInt τ) mw_4_164 mw_4_165 mw_4_166 mw_4_167 mw_1_10 hd_X9_copy rfl (by simp [tv, iI_back, rvo]) dL_law_375 (by decide) (by decide) (Nat.le_of_ble_eq_true rfl) ?_
  refine l_same (tgt := 1274) O dL_law_378 (by decide) ?_
  exact kk _ _ hI
set_option maxRecDepth 20000 in
set_option maxHeartbeats 4000000 in
theorem lc_5 {K : Cx} {X : Wx} {ρM : Nat → Nat} {b L : Nat} {xs : Nat → Int32} {σ τ : St} {i : Nat} {Inv : St → St → Prop} (O : LOK K X ρM b L xs) (hL : L ≤ 3072) (hi : i + 6 ≤ L) (hO : Ok2 Inv (X8_mean (xs (i + 1)).toInt σ) (X9_mean (xs (i + 1)).toInt τ)) (kk : ∀ σ τ, Inv σ τ → GL K X ρM b 1274 [(0, .ref b), (1, .ref (xr X 0)), (2, .ref (ρM 0)), (3, .int (nI i))] [] σ τ) : GL K X ρM b 383 [(0, .ref b), (1, .ref (xr X 0)), (2, .ref (ρM 0)), (3, .int (nI i))] [] σ τ := by
  obtain ⟨r, s1, t1, hA, hB, hI⟩ := hO
  refine l_aload_n O dL_law_383 rfl 1 rfl ?_
  refine l_arg O (i := i) (k := 1) (by omega) (by decide) hL dL_law_384 dL_law_385 dL_law_386 dL_law_387 dL_law_388 rfl rfl rfl rfl rfl rfl ?_
  refine l_callC (As := [vI (xs (i + 1)).toInt]) (rest := []) O hA (ct_X8_mean (xs (i + 1)).toInt σ) mw_2_70 mw_2_71 mw_2_72 mw_2_73 mw_1_1 hd_X8_mean rfl (by simp [tv, iI_back, rvo]) dL_law_389 (by decide) (by decide) (Nat.le_of_ble_eq_true rfl) ?_
  refine l_aload_n O dL_law_392 rfl 2 rfl ?_
  refine l_arg O (i := i) (k := 1) (by omega) (by decide) hL dL_law_393 dL_law_394 dL_law_395 dL_law_396 dL_law_397 rfl rfl rfl rfl rfl rfl ?_
  refine l_callM (As := [vI (xs (i + 1)).toInt]) (rest := [.int (iI r)]) O hB (ct_X9_mean (xs (i + 1)).toInt τ) mw_4_168 mw_4_169 mw_4_170 mw_4_171 mw_1_10 hd_X9_mean rfl (by simp [tv, iI_back, rvo]) dL_law_398 (by decide) (by decide) (Nat.le_of_ble_eq_true rfl) ?_
  refine l_same (tgt := 1274) O dL_law_401 (by decide) ?_
  exact kk _ _ hI
set_option maxRecDepth 20000 in
set_option maxHeartbeats 4000000 in
theorem lc_6 {K : Cx} {X : Wx} {ρM : Nat → Nat} {b L : Nat} {xs : Nat → Int32} {σ τ : St} {i : Nat} {Inv : St → St → Prop} (O : LOK K X ρM b L xs) (hL : L ≤ 3072) (hi : i + 6 ≤ L) (hO : Ok2 Inv (X8_text (xs (i + 1)).toInt (xs (i + 2)).toInt σ) (X9_text (xs (i + 1)).toInt (xs (i + 2)).toInt τ)) (kk : ∀ σ τ, Inv σ τ → GL K X ρM b 1274 [(0, .ref b), (1, .ref (xr X 0)), (2, .ref (ρM 0)), (3, .int (nI i))] [] σ τ) : GL K X ρM b 406 [(0, .ref b), (1, .ref (xr X 0)), (2, .ref (ρM 0)), (3, .int (nI i))] [] σ τ := by
  obtain ⟨r, s1, t1, hA, hB, hI⟩ := hO
  refine l_aload_n O dL_law_406 rfl 1 rfl ?_
  refine l_arg O (i := i) (k := 1) (by omega) (by decide) hL dL_law_407 dL_law_408 dL_law_409 dL_law_410 dL_law_411 rfl rfl rfl rfl rfl rfl ?_
  refine l_arg O (i := i) (k := 2) (by omega) (by decide) hL dL_law_412 dL_law_413 dL_law_414 dL_law_415 dL_law_416 rfl rfl rfl rfl rfl rfl ?_
  refine l_callC (As := [vI (xs (i + 1)).toInt, vI (xs (i + 2)).toInt]) (rest := []) O hA (ct_X8_text (xs (i + 1)).toInt (xs (i + 2)).toInt σ) mw_2_78 mw_2_79 mw_2_80 mw_2_81 mw_1_1 hd_X8_text rfl (by simp [tv, iI_back, rvo]) dL_law_417 (by decide) (by decide) (Nat.le_of_ble_eq_true rfl) ?_
  refine l_aload_n O dL_law_420 rfl 2 rfl ?_
  refine l_arg O (i := i) (k := 1) (by omega) (by decide) hL dL_law_421 dL_law_422 dL_law_423 dL_law_424 dL_law_425 rfl rfl rfl rfl rfl rfl ?_
  refine l_arg O (i := i) (k := 2) (by omega) (by decide) hL dL_law_426 dL_law_427 dL_law_428 dL_law_429 dL_law_430 rfl rfl rfl rfl rfl rfl ?_
  refine l_callM (As := [vI (xs (i + 1)).toInt, vI (xs (i + 2)).toInt]) (rest := [.int (iI r)]) O hB (ct_X9_text (xs (i + 1)).toInt (xs (i + 2)).toInt τ) mw_4_172 mw_4_173 mw_4_174 mw_4_175 mw_1_10 hd_X9_text rfl (by simp [tv, iI_back, rvo]) dL_law_431 (by decide) (by decide) (Nat.le_of_ble_eq_true rfl) ?_
  refine l_same (tgt := 1274) O dL_law_434 (by decide) ?_
  exact kk _ _ hI
set_option maxRecDepth 20000 in
set_option maxHeartbeats 4000000 in
theorem lc_7 {K : Cx} {X : Wx} {ρM : Nat → Nat} {b L : Nat} {xs : Nat → Int32} {σ τ : St} {i : Nat} {Inv : St → St → Prop} (O : LOK K X ρM b L xs) (hL : L ≤ 3072) (hi : i + 6 ≤ L) (hO : Ok2 Inv (X8_put (xs (i + 1)).toInt (xs (i + 2)).toInt (xs (i + 3)).toInt σ) (X9_put (xs (i + 1)).toInt (xs (i + 2)).toInt (xs (i + 3)).toInt τ)) (kk : ∀ σ τ, Inv σ τ → GL K X ρM b 1274 [(0, .ref b), (1, .ref (xr X 0)), (2, .ref (ρM 0)), (3, .int (nI i))] [] σ τ) : GL K X ρM b 439 [(0, .ref b), (1, .ref (xr X 0)), (2, .ref (ρM 0)), (3, .int (nI i))] [] σ τ := by
  obtain ⟨r, s1, t1, hA, hB, hI⟩ := hO
  refine l_aload_n O dL_law_439 rfl 1 rfl ?_
  refine l_arg O (i := i) (k := 1) (by omega) (by decide) hL dL_law_440 dL_law_441 dL_law_442 dL_law_443 dL_law_444 rfl rfl rfl rfl rfl rfl ?_
  refine l_arg O (i := i) (k := 2) (by omega) (by decide) hL dL_law_445 dL_law_446 dL_law_447 dL_law_448 dL_law_449 rfl rfl rfl rfl rfl rfl ?_
  refine l_arg O (i := i) (k := 3) (by omega) (by decide) hL dL_law_450 dL_law_451 dL_law_452 dL_law_453 dL_law_454 rfl rfl rfl rfl rfl rfl ?_
  refine l_callC (As := [vI (xs (i + 1)).toInt, vI (xs (i + 2)).toInt, vI (xs (i + 3)).toInt]) (rest := []) O hA (ct_X8_put (xs (i + 1)).toInt (xs (i + 2)).toInt (xs (i + 3)).toInt σ) mw_2_89 mw_2_90 mw_2_91 mw_2_92 mw_1_1 hd_X8_put rfl (by simp [tv, iI_back, rvo]) dL_law_455 (by decide) (by decide) (Nat.le_of_ble_eq_true rfl) ?_
  refine l_aload_n O dL_law_458 rfl 2 rfl ?_
  refine l_arg O (i := i) (k := 1) (by omega) (by decide) hL dL_law_459 dL_law_460 dL_law_461 dL_law_462 dL_law_463 rfl rfl rfl rfl rfl rfl ?_
  refine l_arg O (i := i) (k := 2) (by omega) (by decide) hL dL_law_464 dL_law_465 dL_law_466 dL_law_467 dL_law_468 rfl rfl rfl rfl rfl rfl ?_
  refine l_arg O (i := i) (k := 3) (by omega) (by decide) hL dL_law_469 dL_law_470 dL_law_471 dL_law_472 dL_law_473 rfl rfl rfl rfl rfl rfl ?_
  refine l_callM (As := [vI (xs (i + 1)).toInt, vI (xs (i + 2)).toInt, vI (xs (i + 3)).toInt]) (rest := [.int (iI r)]) O hB (ct_X9_put (xs (i + 1)).toInt (xs (i + 2)).toInt (xs (i + 3)).toInt τ) mw_4_179 mw_4_180 mw_4_181 mw_4_182 mw_1_10 hd_X9_put rfl (by simp [tv, iI_back, rvo]) dL_law_474 (by decide) (by decide) (Nat.le_of_ble_eq_true rfl) ?_
  refine l_same (tgt := 1274) O dL_law_477 (by decide) ?_
  exact kk _ _ hI
set_option maxRecDepth 20000 in
set_option maxHeartbeats 4000000 in
theorem lc_8 {K : Cx} {X : Wx} {ρM : Nat → Nat} {b L : Nat} {xs : Nat → Int32} {σ τ : St} {i : Nat} {Inv : St → St → Prop} (O : LOK K X ρM b L xs) (hL : L ≤ 3072) (hi : i + 6 ≤ L) (hO : Ok2 Inv (X8_fault (xs (i + 1)).toInt σ) (X9_fault (xs (i + 1)).toInt τ)) (kk : ∀ σ τ, Inv σ τ → GL K X ρM b 1274 [(0, .ref b), (1, .ref (xr X 0)), (2, .ref (ρM 0)), (3, .int (nI i))] [] σ τ) : GL K X ρM b 482 [(0, .ref b), (1, .ref (xr X 0)), (2, .ref (ρM 0)), (3, .int (nI i))] [] σ τ := by
  obtain ⟨r, s1, t1, hA, hB, hI⟩ := hO
  refine l_aload_n O dL_law_482 rfl 1 rfl ?_
  refine l_arg O (i := i) (k := 1) (by omega) (by decide) hL dL_law_483 dL_law_484 dL_law_485 dL_law_486 dL_law_487 rfl rfl rfl rfl rfl rfl ?_
  refine l_callC (As := [vI (xs (i + 1)).toInt]) (rest := []) O hA (ct_X8_fault (xs (i + 1)).toInt σ) mw_2_93 mw_2_94 mw_2_95 mw_2_96 mw_1_1 hd_X8_fault rfl (by simp [tv, iI_back, rvo]) dL_law_488 (by decide) (by decide) (Nat.le_of_ble_eq_true rfl) ?_
  refine l_aload_n O dL_law_491 rfl 2 rfl ?_
  refine l_arg O (i := i) (k := 1) (by omega) (by decide) hL dL_law_492 dL_law_493 dL_law_494 dL_law_495 dL_law_496 rfl rfl rfl rfl rfl rfl ?_
  refine l_callM (As := [vI (xs (i + 1)).toInt]) (rest := [.int (iI r)]) O hB (ct_X9_fault (xs (i + 1)).toInt τ) mw_4_183 mw_4_184 mw_4_185 mw_4_186 mw_1_10 hd_X9_fault rfl (by simp [tv, iI_back, rvo]) dL_law_497 (by decide) (by decide) (Nat.le_of_ble_eq_true rfl) ?_
  refine l_same (tgt := 1274) O dL_law_500 (by decide) ?_
  exact kk _ _ hI
set_option maxRecDepth 20000 in
set_option maxHeartbeats 4000000 in
theorem lc_9 {K : Cx} {X : Wx} {ρM : Nat → Nat} {b L : Nat} {xs : Nat → Int32} {σ τ : St} {i : Nat} {Inv : St → St → Prop} (O : LOK K X ρM b L xs) (hL : L ≤ 3072) (hi : i + 6 ≤ L) (hO : Ok2 Inv (X8_document (xs (i + 1)).toInt (xs (i + 2)).toInt σ) (X9_document (xs (i + 1)).toInt (xs (i + 2)).toInt τ)) (kk : ∀ σ τ, Inv σ τ → GL K X ρM b 1274 [(0, .ref b), (1, .ref (xr X 0)), (2, .ref (ρM 0)), (3, .int (nI i))] [] σ τ) : GL K X ρM b 505 [(0, .ref b), (1, .ref (xr X 0)), (2, .ref (ρM 0)), (3, .int (nI i))] [] σ τ := by
  obtain ⟨r, s1, t1, hA, hB, hI⟩ := hO
  refine l_aload_n O dL_law_505 rfl 1 rfl ?_
  refine l_arg O (i := i) (k := 1) (by omega) (by decide) hL dL_law_506 dL_law_507 dL_law_508 dL_law_509 dL_law_510 rfl rfl rfl rfl rfl rfl ?_
  refine l_arg O (i := i) (k := 2) (by omega) (by decide) hL dL_law_511 dL_law_512 dL_law_513 dL_law_514 dL_law_515 rfl rfl rfl rfl rfl rfl ?_
  refine l_callC (As := [vI (xs (i + 1)).toInt, vI (xs (i + 2)).toInt]) (rest := []) O hA (ct_X8_document (xs (i + 1)).toInt (xs (i + 2)).toInt σ) mw_2_124 mw_2_125 mw_2_126 mw_2_127 mw_1_1 hd_X8_document rfl (by simp [tv, iI_back, rvo]) dL_law_516 (by decide) (by decide) (Nat.le_of_ble_eq_true rfl) ?_
  refine l_aload_n O dL_law_519 rfl 2 rfl ?_
  refine l_arg O (i := i) (k := 1) (by omega) (by decide) hL dL_law_520 dL_law_521 dL_law_522 dL_law_523 dL_law_524 rfl rfl rfl rfl rfl rfl ?_
  refine l_arg O (i := i) (k := 2) (by omega) (by decide) hL dL_law_525 dL_law_526 dL_law_527 dL_law_528 dL_law_529 rfl rfl rfl rfl rfl rfl ?_
  refine l_callM (As := [vI (xs (i + 1)).toInt, vI (xs (i + 2)).toInt]) (rest := [.int (iI r)]) O hB (ct_X9_document (xs (i + 1)).toInt (xs (i + 2)).toInt τ) mw_4_202 mw_4_203 mw_4_204 mw_4_205 mw_1_10 hd_X9_document rfl (by simp [tv, iI_back, rvo]) dL_law_530 (by decide) (by decide) (Nat.le_of_ble_eq_true rfl) ?_
  refine l_same (tgt := 1274) O dL_law_533 (by decide) ?_
  exact kk _ _ hI
set_option maxRecDepth 20000 in
set_option maxHeartbeats 4000000 in
theorem lc_10 {K : Cx} {X : Wx} {ρM : Nat → Nat} {b L : Nat} {xs : Nat → Int32} {σ τ : St} {i : Nat} {Inv : St → St → Prop} (O : LOK K X ρM b L xs) (hL : L ≤ 3072) (hi : i + 6 ≤ L) (hO : Ok2 Inv (X8_write (xs (i + 1)).toInt (xs (i + 2)).toInt σ) (X9_write (xs (i + 1)).toInt (xs (i + 2)).toInt τ)) (kk : ∀ σ τ, Inv σ τ → GL K X ρM b 1274 [(0, .ref b), (1, .ref (xr X 0)), (2, .ref (ρM 0)), (3, .int (nI i))] [] σ τ) : GL K X ρM b 538 [(0, .ref b), (1, .ref (xr X 0)), (2, .ref (ρM 0)), (3, .int (nI i))] [] σ τ := by
  obtain ⟨r, s1, t1, hA, hB, hI⟩ := hO
  refine l_aload_n O dL_law_538 rfl 1 rfl ?_
  refine l_arg O (i := i) (k := 1) (by omega) (by decide) hL dL_law_539 dL_law_540 dL_law_541 dL_law_542 dL_law_543 rfl rfl rfl rfl rfl rfl ?_
  refine l_arg O (i := i) (k := 2) (by omega) (by decide) hL dL_law_544 dL_law_545 dL_law_546 dL_law_547 dL_law_548 rfl rfl rfl rfl rfl rfl ?_
  refine l_callC (As := [vI (xs (i + 1)).toInt, vI (xs (i + 2)).toInt]) (rest := []) O hA (ct_X8_write (xs (i + 1)).toInt (xs (i + 2)).toInt σ) mw_2_140 mw_2_141 mw_2_142 mw_2_143 mw_1_1 hd_X8_write rfl (by simp [tv, iI_back, rvo]) dL_law_549 (by decide) (by decide) (Nat.le_of_ble_eq_true rfl) ?_
  refine l_aload_n O dL_law_552 rfl 2 rfl ?_
  refine l_arg O (i := i) (k := 1) (by omega) (by decide) hL dL_law_553 dL_law_554 dL_law_555 dL_law_556 dL_law_557 rfl rfl rfl rfl rfl rfl ?_
  refine l_arg O (i := i) (k := 2) (by omega) (by decide) hL dL_law_558 dL_law_559 dL_law_560 dL_law_561 dL_law_562 rfl rfl rfl rfl rfl rfl ?_
  refine l_callM (As := [vI (xs (i + 1)).toInt, vI (xs (i + 2)).toInt]) (rest := [.int (iI r)]) O hB (ct_X9_write (xs (i + 1)).toInt (xs (i + 2)).toInt τ) mw_4_212 mw_4_213 mw_4_214 mw_4_215 mw_1_10 hd_X9_write rfl (by simp [tv, iI_back, rvo]) dL_law_563 (by decide) (by decide) (Nat.le_of_ble_eq_true rfl) ?_
  refine l_same (tgt := 1274) O dL_law_566 (by decide) ?_
  exact kk _ _ hI
set_option maxRecDepth 20000 in
set_option maxHeartbeats 4000000 in
theorem lc_11 {K : Cx} {X : Wx} {ρM : Nat → Nat} {b L : Nat} {xs : Nat → Int32} {σ τ : St} {i : Nat} {Inv : St → St → Prop} (O : LOK K X ρM b L xs) (hL : L ≤ 3072) (hi : i + 6 ≤ L) (hO : Ok2 Inv (X8_node (xs (i + 1)).toInt (xs (i + 2)).toInt (xs (i + 3)).toInt σ) (X9_node (xs (i + 1)).toInt (xs (i + 2)).toInt (xs (i + 3)).toInt τ)) (kk : ∀ σ τ, Inv σ τ → GL K X ρM b 1274 [(0, .ref b), (1, .ref (xr X 0)), (2, .ref (ρM 0)), (3, .int (nI i))] [] σ τ) : GL K X ρM b 571 [(0, .ref b), (1, .ref (xr X 0)), (2, .ref (ρM 0)), (3, .int (nI i))] [] σ τ := by
  obtain ⟨r, s1, t1, hA, hB, hI⟩ := hO
  refine l_aload_n O dL_law_571 rfl 1 rfl ?_
  refine l_arg O (i := i) (k := 1) (by omega) (by decide) hL dL_law_572 dL_law_573 dL_law_574 dL_law_575 dL_law_576 rfl rfl rfl rfl rfl rfl ?_
  refine l_arg O (i := i) (k := 2) (by omega) (by decide) hL dL_law_577 dL_law_578 dL_law_579 dL_law_580 dL_law_581 rfl rfl rfl rfl rfl rfl ?_
  refine l_arg O (i := i) (k := 3) (by omega) (by decide) hL dL_law_582 dL_law_583 dL_law_584 dL_law_585 dL_law_586 rfl rfl rfl rfl rfl rfl ?_
  refine l_callC (As := [vI (xs (i + 1)).toInt, vI (xs (i + 2)).toInt, vI (xs (i + 3)).toInt]) (rest := []) O hA (ct_X8_node (xs (i + 1)).toInt (xs (i + 2)).toInt (xs (i + 3)).toInt σ) mw_2_160 mw_2_161 mw_2_162 mw_2_163 mw_1_1 hd_X8_node rfl (by simp [tv, iI_back, rvo]) dL_law_587 (by decide) (by decide) (Nat.le_of_ble_eq_true rfl) ?_
  refine l_aload_n O dL_law_590 rfl 2 rfl ?_
  refine l_arg O (i := i) (k := 1) (by omega) (by decide) hL dL_law_591 dL_law_592 dL_law_593 dL_law_594 dL_law_595 rfl rfl rfl rfl rfl rfl ?_
  refine l_arg O (i := i) (k := 2) (by omega) (by decide) hL dL_law_596 dL_law_597 dL_law_598 dL_law_599 dL_law_600 rfl rfl rfl rfl rfl rfl ?_
  refine l_arg O (i := i) (k := 3) (by omega) (by decide) hL dL_law_601 dL_law_602 dL_law_603 dL_law_604 dL_law_605 rfl rfl rfl rfl rfl rfl ?_
  refine l_callM (As := [vI (xs (i + 1)).toInt, vI (xs (i + 2)).toInt, vI (xs (i + 3)).toInt]) (rest := [.int (iI r)]) O hB (ct_X9_node (xs (i + 1)).toInt (xs (i + 2)).toInt (xs (i + 3)).toInt τ) mw_5_11 mw_5_12 mw_5_13 mw_5_14 mw_1_10 hd_X9_node rfl (by simp [tv, iI_back, rvo]) dL_law_606 (by decide) (by decide) (Nat.le_of_ble_eq_true rfl) ?_
  refine l_same (tgt := 1274) O dL_law_609 (by decide) ?_
  exact kk _ _ hI
set_option maxRecDepth 20000 in
set_option maxHeartbeats 4000000 in
theorem lc_12 {K : Cx} {X : Wx} {ρM : Nat → Nat} {b L : Nat} {xs : Nat → Int32} {σ τ : St} {i : Nat} {Inv : St → St → Prop} (O : LOK K X ρM b L xs) (hL : L ≤ 3072) (hi : i + 6 ≤ L) (hO : Ok2 Inv (X8_mark (xs (i + 1)).toInt (xs (i + 2)).toInt (xs (i + 3)).toInt σ) (X9_mark (xs (i + 1)).toInt (xs (i + 2)).toInt (xs (i + 3)).toInt τ)) (kk : ∀ σ τ, Inv σ τ → GL K X ρM b 1274 [(0, .ref b), (1, .ref (xr X 0)), (2, .ref (ρM 0)), (3, .int (nI i))] [] σ τ) : GL K X ρM b 614 [(0, .ref b), (1, .ref (xr X 0)), (2, .ref (ρM 0)), (3, .int (nI i))] [] σ τ := by
  obtain ⟨r, s1, t1, hA, hB, hI⟩ := hO
  refine l_aload_n O dL_law_614 rfl 1 rfl ?_
  refine l_arg O (i := i) (k := 1) (by omega) (by decide) hL dL_law_615 dL_law_616 dL_law_617 dL_law_618 dL_law_619 rfl rfl rfl rfl rfl rfl ?_
  refine l_arg O (i := i) (k := 2) (by omega) (by decide) hL dL_law_620 dL_law_621 dL_law_622 dL_law_623 dL_law_624 rfl rfl rfl rfl rfl rfl ?_
  refine l_arg O (i := i) (k := 3) (by omega) (by decide) hL dL_law_625 dL_law_626 dL_law_627 dL_law_628 dL_law_629 rfl rfl rfl rfl rfl rfl ?_
  refine l_callC (As := [vI (xs (i + 1)).toInt, vI (xs (i + 2)).toInt, vI (xs (i + 3)).toInt]) (rest := []) O hA (ct_X8_mark (xs (i + 1)).toInt (xs (i + 2)).toInt (xs (i + 3)).toInt σ) mw_2_203 mw_2_204 mw_2_205 mw_2_206 mw_1_1 hd_X8_mark rfl (by simp [tv, iI_back, rvo]) dL_law_630 (by decide) (by decide) (Nat.le_of_ble_eq_true rfl) ?_
  refine l_aload_n O dL_law_633 rfl 2 rfl ?_
  refine l_arg O (i := i) (k := 1) (by omega) (by decide) hL dL_law_634 dL_law_635 dL_law_636 dL_law_637 dL_law_638 rfl rfl rfl rfl rfl rfl ?_
  refine l_arg O (i := i) (k := 2) (by omega) (by decide) hL dL_law_639 dL_law_640 dL_law_641 dL_law_642 dL_law_643 rfl rfl rfl rfl rfl rfl ?_
  refine l_arg O (i := i) (k := 3) (by omega) (by decide) hL dL_law_644 dL_law_645 dL_law_646 dL_law_647 dL_law_648 rfl rfl rfl rfl rfl rfl ?_
  refine l_callM (As := [vI (xs (i + 1)).toInt, vI (xs (i + 2)).toInt, vI (xs (i + 3)).toInt]) (rest := [.int (iI r)]) O hB (ct_X9_mark (xs (i + 1)).toInt (xs (i + 2)).toInt (xs (i + 3)).toInt τ) mw_5_37 mw_5_38 mw_5_39 mw_5_40 mw_1_10 hd_X9_mark rfl (by simp [tv, iI_back, rvo]) dL_law_649 (by decide) (by decide) (Nat.le_of_ble_eq_true rfl) ?_
  refine l_same (tgt := 1274) O dL_law_652 (by decide) ?_
  exact kk _ _ hI
set_option maxRecDepth 20000 in
set_option maxHeartbeats 4000000 in
theorem lc_13 {K : Cx} {X : Wx} {ρM : Nat → Nat} {b L : Nat} {xs : Nat → Int32} {σ τ : St} {i : Nat} {Inv : St → St → Prop} (O : LOK K X ρM b L xs) (hL : L ≤ 3072) (hi : i + 6 ≤ L) (hO : Ok2 Inv (X8_least σ) (X9_least τ)) (kk : ∀ σ τ, Inv σ τ → GL K X ρM b 1274 [(0, .ref b), (1, .ref (xr X 0)), (2, .ref (ρM 0)), (3, .int (nI i))] [] σ τ) : GL K X ρM b 657 [(0, .ref b), (1, .ref (xr X 0)), (2, .ref (ρM 0)), (3, .int (nI i))] [] σ τ := by
  obtain ⟨r, s1, t1, hA, hB, hI⟩ := hO
  refine l_aload_n O dL_law_657 rfl 1 rfl ?_
  refine l_callC (As := []) (rest := []) O hA (ct_X8_least  σ) mw_2_224 mw_2_225 mw_2_226 mw_2_227 mw_1_1 hd_X8_least rfl (by simp [tv, iI_back, rvo]) dL_law_658 (by decide) (by decide) (Nat.le_of_ble_eq_true rfl) ?_
  refine l_aload_n O dL_law_661 rfl 2 rfl ?_
  refine l_callM (As := []) (rest := [.int (iI r)]) O hB (ct_X9_least  τ) mw_5_56 mw_5_57 mw_5_58 mw_5_59 mw_1_10 hd_X9_least rfl (by simp [tv, iI_back, rvo]) dL_law_662 (by decide) (by decide) (Nat.le_of_ble_eq_true rfl) ?_
  refine l_same (tgt := 1274) O dL_law_665 (by decide) ?_
  exact kk _ _ hI
set_option maxRecDepth 20000 in
set_option maxHeartbeats 4000000 in
theorem lc_14 {K : Cx} {X : Wx} {ρM : Nat → Nat} {b L : Nat} {xs : Nat → Int32} {σ τ : St} {i : Nat} {Inv : St → St → Prop} (O : LOK K X ρM b L xs) (hL : L ≤ 3072) (hi : i + 6 ≤ L) (hO : Ok2 Inv (X8_cost (xs (i + 1)).toInt (xs (i + 2)).toInt σ) (X9_cost (xs (i + 1)).toInt (xs (i + 2)).toInt τ)) (kk : ∀ σ τ, Inv σ τ → GL K X ρM b 1274 [(0, .ref b), (1, .ref (xr X 0)), (2, .ref (ρM 0)), (3, .int (nI i))] [] σ τ) : GL K X ρM b 670 [(0, .ref b), (1, .ref (xr X 0)), (2, .ref (ρM 0)), (3, .int (nI i))] [] σ τ := by
  obtain ⟨r, s1, t1, hA, hB, hI⟩ := hO
  refine l_aload_n O dL_law_670 rfl 1 rfl ?_
  refine l_arg O (i := i) (k := 1) (by omega) (by decide) hL dL_law_671 dL_law_672 dL_law_673 dL_law_674 dL_law_675 rfl rfl rfl rfl rfl rfl ?_
  refine l_arg O (i := i) (k := 2) (by omega) (by decide) hL dL_law_676 dL_law_677 dL_law_678 dL_law_679 dL_law_680 rfl rfl rfl rfl rfl rfl ?_
  refine l_callC (As := [vI (xs (i + 1)).toInt, vI (xs (i + 2)).toInt]) (rest := []) O hA (ct_X8_cost (xs (i + 1)).toInt (xs (i + 2)).toInt σ) mw_3_49 mw_3_50 mw_3_51 mw_3_52 mw_1_1 hd_X8_cost rfl (by simp [tv, iI_back, rvo]) dL_law_681 (by decide) (by decide) (Nat.le_of_ble_eq_true rfl) ?_
  refine l_aload_n O dL_law_684 rfl 2 rfl ?_
  refine l_arg O (i := i) (k := 1) (by omega) (by decide) hL dL_law_685 dL_law_686 dL_law_687 dL_law_688 dL_law_689 rfl rfl rfl rfl rfl rfl ?_
  refine l_arg O (i := i) (k := 2) (by omega) (by decide) hL dL_law_690 dL_law_691 dL_law_692 dL_law_693 dL_law_694 rfl rfl rfl rfl rfl rfl ?_
  refine l_callM (As := [vI (xs (i + 1)).toInt, vI (xs (i + 2)).toInt]) (rest := [.int (iI r)]) O hB (ct_X9_cost (xs (i + 1)).toInt (xs (i + 2)).toInt τ) mw_5_87 mw_5_88 mw_5_89 mw_5_90 mw_1_10 hd_X9_cost rfl (by simp [tv, iI_back, rvo]) dL_law_695 (by decide) (by decide) (Nat.le_of_ble_eq_true rfl) ?_
  refine l_same (tgt := 1274) O dL_law_698 (by decide) ?_
  exact kk _ _ hI
set_option maxRecDepth 20000 in
set_option maxHeartbeats 4000000 in
theorem lc_15 {K : Cx} {X : Wx} {ρM : Nat → Nat} {b L : Nat} {xs : Nat → Int32} {σ τ : St} {i : Nat} {Inv : St → St → Prop} (O : LOK K X ρM b L xs) (hL : L ≤ 3072) (hi : i + 6 ≤ L) (hO : Ok2 Inv (X8_partner (xs (i + 1)).toInt (xs (i + 2)).toInt σ) (X9_partner (xs (i + 1)).toInt (xs (i + 2)).toInt τ)) (kk : ∀ σ τ, Inv σ τ → GL K X ρM b 1274 [(0, .ref b), (1, .ref (xr X 0)), (2, .ref (ρM 0)), (3, .int (nI i))] [] σ τ) : GL K X ρM b 703 [(0, .ref b), (1, .ref (xr X 0)), (2, .ref (ρM 0)), (3, .int (nI i))] [] σ τ := by
  obtain ⟨r, s1, t1, hA, hB, hI⟩ := hO
  refine l_aload_n O dL_law_703 rfl 1 rfl ?_
  refine l_arg O (i := i) (k := 1) (by omega) (by decide) hL dL_law_704 dL_law_705 dL_law_706 dL_law_707 dL_law_708 rfl rfl rfl rfl rfl rfl ?_
  refine l_arg O (i := i) (k := 2) (by omega) (by decide) hL dL_law_709 dL_law_710 dL_law_711 dL_law_712 dL_law_713 rfl rfl rfl rfl rfl rfl ?_
  refine l_callC (As := [vI (xs (i + 1)).toInt, vI (xs (i + 2)).toInt]) (rest := []) O hA (ct_X8_partner (xs (i + 1)).toInt (xs (i + 2)).toInt σ) mw_3_53 mw_3_54 mw_3_55 mw_3_56 mw_1_1 hd_X8_partner rfl (by simp [tv, iI_back, rvo]) dL_law_714 (by decide) (by decide) (Nat.le_of_ble_eq_true rfl) ?_
  refine l_aload_n O dL_law_717 rfl 2 rfl ?_
  refine l_arg O (i := i) (k := 1) (by omega) (by decide) hL dL_law_718 dL_law_719 dL_law_720 dL_law_721 dL_law_722 rfl rfl rfl rfl rfl rfl ?_
  refine l_arg O (i := i) (k := 2) (by omega) (by decide) hL dL_law_723 dL_law_724 dL_law_725 dL_law_726 dL_law_727 rfl rfl rfl rfl rfl rfl ?_
  refine l_callM (As := [vI (xs (i + 1)).toInt, vI (xs (i + 2)).toInt]) (rest := [.int (iI r)]) O hB (ct_X9_partner (xs (i + 1)).toInt (xs (i + 2)).toInt τ) mw_5_91 mw_5_92 mw_5_93 mw_5_94 mw_1_10 hd_X9_partner rfl (by simp [tv, iI_back, rvo]) dL_law_728 (by decide) (by decide) (Nat.le_of_ble_eq_true rfl) ?_
  refine l_same (tgt := 1274) O dL_law_731 (by decide) ?_
  exact kk _ _ hI
set_option maxRecDepth 20000 in
set_option maxHeartbeats 4000000 in
theorem lc_16 {K : Cx} {X : Wx} {ρM : Nat → Nat} {b L : Nat} {xs : Nat → Int32} {σ τ : St} {i : Nat} {Inv : St → St → Prop} (O : LOK K X ρM b L xs) (hL : L ≤ 3072) (hi : i + 6 ≤ L) (hO : Ok2 Inv (X8_step (xs (i + 1)).toInt (xs (i + 2)).toInt σ) (X9_step (xs (i + 1)).toInt (xs (i + 2)).toInt τ)) (kk : ∀ σ τ, Inv σ τ → GL K X ρM b 1274 [(0, .ref b), (1, .ref (xr X 0)), (2, .ref (ρM 0)), (3, .int (nI i))] [] σ τ) : GL K X ρM b 736 [(0, .ref b), (1, .ref (xr X 0)), (2, .ref (ρM 0)), (3, .int (nI i))] [] σ τ := by
  obtain ⟨r, s1, t1, hA, hB, hI⟩ := hO
  refine l_aload_n O dL_law_736 rfl 1 rfl ?_
  refine l_arg O (i := i) (k := 1) (by omega) (by decide) hL dL_law_737 dL_law_738 dL_law_739 dL_law_740 dL_law_741 rfl rfl rfl rfl rfl rfl ?_
  refine l_arg O (i := i) (k := 2) (by omega) (by decide) hL dL_law_742 dL_law_743 dL_law_744 dL_law_745 dL_law_746 rfl rfl rfl rfl rfl rfl ?_
  refine l_callC (As := [vI (xs (i + 1)).toInt, vI (xs (i + 2)).toInt]) (rest := []) O hA (ct_X8_step (xs (i + 1)).toInt (xs (i + 2)).toInt σ) mw_3_61 mw_3_62 mw_3_63 mw_3_64 mw_1_1 hd_X8_step rfl (by simp [tv, iI_back, rvo]) dL_law_747 (by decide) (by decide) (Nat.le_of_ble_eq_true rfl) ?_
  refine l_aload_n O dL_law_750 rfl 2 rfl ?_
  refine l_arg O (i := i) (k := 1) (by omega) (by decide) hL dL_law_751 dL_law_752 dL_law_753 dL_law_754 dL_law_755 rfl rfl rfl rfl rfl rfl ?_
  refine l_arg O (i := i) (k := 2) (by omega) (by decide) hL dL_law_756 dL_law_757 dL_law_758 dL_law_759 dL_law_760 rfl rfl rfl rfl rfl rfl ?_
  refine l_callM (As := [vI (xs (i + 1)).toInt, vI (xs (i + 2)).toInt]) (rest := [.int (iI r)]) O hB (ct_X9_step (xs (i + 1)).toInt (xs (i + 2)).toInt τ) mw_5_108 mw_5_109 mw_5_110 mw_5_111 mw_1_10 hd_X9_step rfl (by simp [tv, iI_back, rvo]) dL_law_761 (by decide) (by decide) (Nat.le_of_ble_eq_true rfl) ?_
  refine l_same (tgt := 1274) O dL_law_764 (by decide) ?_
  exact kk _ _ hI
set_option maxRecDepth 20000 in
set_option maxHeartbeats 4000000 in
theorem lc_17 {K : Cx} {X : Wx} {ρM : Nat → Nat} {b L : Nat} {xs : Nat → Int32} {σ τ : St} {i : Nat} {Inv : St → St → Prop} (O : LOK K X ρM b L xs) (hL : L ≤ 3072) (hi : i + 6 ≤ L) (hO : Ok2 Inv (X8_behind (xs (i + 1)).toInt (xs (i + 2)).toInt σ) (X9_behind (xs (i + 1)).toInt (xs (i + 2)).toInt τ)) (kk : ∀ σ τ, Inv σ τ → GL K X ρM b 1274 [(0, .ref b), (1, .ref (xr X 0)), (2, .ref (ρM 0)), (3, .int (nI i))] [] σ τ) : GL K X ρM b 769 [(0, .ref b), (1, .ref (xr X 0)), (2, .ref (ρM 0)), (3, .int (nI i))] [] σ τ := by
  obtain ⟨r, s1, t1, hA, hB, hI⟩ := hO
  refine l_aload_n O dL_law_769 rfl 1 rfl ?_
  refine l_arg O (i := i) (k := 1) (by omega) (by decide) hL dL_law_770 dL_law_771 dL_law_772 dL_law_773 dL_law_774 rfl rfl rfl rfl rfl rfl ?_
  refine l_arg O (i := i) (k := 2) (by omega) (by decide) hL dL_law_775 dL_law_776 dL_law_777 dL_law_778 dL_law_779 rfl rfl rfl rfl rfl rfl ?_
  refine l_callC (As := [vI (xs (i + 1)).toInt, vI (xs (i + 2)).toInt]) (rest := []) O hA (ct_X8_behind (xs (i + 1)).toInt (xs (i + 2)).toInt σ) mw_3_65 mw_3_66 mw_3_67 mw_3_68 mw_1_1 hd_X8_behind rfl (by simp [tv, iI_back, rvo]) dL_law_780 (by decide) (by decide) (Nat.le_of_ble_eq_true rfl) ?_
  refine l_aload_n O dL_law_783 rfl 2 rfl ?_
  refine l_arg O (i := i) (k := 1) (by omega) (by decide) hL dL_law_784 dL_law_785 dL_law_786 dL_law_787 dL_law_788 rfl rfl rfl rfl rfl rfl ?_
  refine l_arg O (i := i) (k := 2) (by omega) (by decide) hL dL_law_789 dL_law_790 dL_law_791 dL_law_792 dL_law_793 rfl rfl rfl rfl rfl rfl ?_
  refine l_callM (As := [vI (xs (i + 1)).toInt, vI (xs (i + 2)).toInt]) (rest := [.int (iI r)]) O hB (ct_X9_behind (xs (i + 1)).toInt (xs (i + 2)).toInt τ) mw_5_120 mw_5_121 mw_5_122 mw_5_123 mw_1_10 hd_X9_behind rfl (by simp [tv, iI_back, rvo]) dL_law_794 (by decide) (by decide) (Nat.le_of_ble_eq_true rfl) ?_
  refine l_same (tgt := 1274) O dL_law_797 (by decide) ?_
  exact kk _ _ hI
set_option maxRecDepth 20000 in
set_option maxHeartbeats 4000000 in
theorem lc_18 {K : Cx} {X : Wx} {ρM : Nat → Nat} {b L : Nat} {xs : Nat → Int32} {σ τ : St} {i : Nat} {Inv : St → St → Prop} (O : LOK K X ρM b L xs) (hL : L ≤ 3072) (hi : i + 6 ≤ L) (hO : Ok2 Inv (X8_work (xs (i + 1)).toInt σ) (X9_work (xs (i + 1)).toInt τ)) (kk : ∀ σ τ, Inv σ τ → GL K X ρM b 1274 [(0, .ref b), (1, .ref (xr X 0)), (2, .ref (ρM 0)), (3, .int (nI i))] [] σ τ) : GL K X ρM b 802 [(0, .ref b), (1, .ref (xr X 0)), (2, .ref (ρM 0)), (3, .int (nI i))] [] σ τ := by
  obtain ⟨r, s1, t1, hA, hB, hI⟩ := hO
  refine l_aload_n O dL_law_802 rfl 1 rfl ?_
  refine l_arg O (i := i) (k := 1) (by omega) (by decide) hL dL_law_803 dL_law_804 dL_law_805 dL_law_806 dL_law_807 rfl rfl rfl rfl rfl rfl ?_
  refine l_callC (As := [vI (xs (i + 1)).toInt]) (rest := []) O hA (ct_X8_work (xs (i + 1)).toInt σ) mw_3_87 mw_3_88 mw_3_89 mw_3_90 mw_1_1 hd_X8_work rfl (by simp [tv, iI_back, rvo]) dL_law_808 (by decide) (by decide) (Nat.le_of_ble_eq_true rfl) ?_
  refine l_aload_n O dL_law_811 rfl 2 rfl ?_
  refine l_arg O (i := i) (k := 1) (by omega) (by decide) hL dL_law_812 dL_law_813 dL_law_814 dL_law_815 dL_law_816 rfl rfl rfl rfl rfl rfl ?_
  refine l_callM (As := [vI (xs (i + 1)).toInt]) (rest := [.int (iI r)]) O hB (ct_X9_work (xs (i + 1)).toInt τ) mw_5_124 mw_5_125 mw_5_126 mw_5_127 mw_1_10 hd_X9_work rfl (by simp [tv, iI_back, rvo]) dL_law_817 (by decide) (by decide) (Nat.le_of_ble_eq_true rfl) ?_
  refine l_same (tgt := 1274) O dL_law_820 (by decide) ?_
  exact kk _ _ hI
set_option maxRecDepth 20000 in
set_option maxHeartbeats 4000000 in
theorem lc_19 {K : Cx} {X : Wx} {ρM : Nat → Nat} {b L : Nat} {xs : Nat → Int32} {σ τ : St} {i : Nat} {Inv : St → St → Prop} (O : LOK K X ρM b L xs) (hL : L ≤ 3072) (hi : i + 6 ≤ L) (hO : Ok2 Inv (X8_nearest (xs (i + 1)).toInt (xs (i + 2)).toInt σ) (X9_nearest (xs (i + 1)).toInt (xs (i + 2)).toInt τ)) (kk : ∀ σ τ, Inv σ τ → GL K X ρM b 1274 [(0, .ref b), (1, .ref (xr X 0)), (2, .ref (ρM 0)), (3, .int (nI i))] [] σ τ) : GL K X ρM b 825 [(0, .ref b), (1, .ref (xr X 0)), (2, .ref (ρM 0)), (3, .int (nI i))] [] σ τ := by
  obtain ⟨r, s1, t1, hA, hB, hI⟩ := hO
  refine l_aload_n O dL_law_825 rfl 1 rfl ?_
  refine l_arg O (i := i) (k := 1) (by omega) (by decide) hL dL_law_826 dL_law_827 dL_law_828 dL_law_829 dL_law_830 rfl rfl rfl rfl rfl rfl ?_
  refine l_arg O (i := i) (k := 2) (by omega) (by decide) hL dL_law_831 dL_law_832 dL_law_833 dL_law_834 dL_law_835 rfl rfl rfl rfl rfl rfl ?_
  refine l_callC (As := [vI (xs (i + 1)).toInt, vI (xs (i + 2)).toInt]) (rest := []) O hA (ct_X8_nearest (xs (i + 1)).toInt (xs (i + 2)).toInt σ) mw_3_100 mw_3_101 mw_3_102 mw_3_103 mw_1_1 hd_X8_nearest rfl (by simp [tv, iI_back, rvo]) dL_law_836 (by decide) (by decide) (Nat.le_of_ble_eq_true rfl) ?_
  refine l_aload_n O dL_law_839 rfl 2 rfl ?_
  refine l_arg O (i := i) (k := 1) (by omega) (by decide) hL dL_law_840 dL_law_841 dL_law_842 dL_law_843 dL_law_844 rfl rfl rfl rfl rfl rfl ?_
  refine l_arg O (i := i) (k := 2) (by omega) (by decide) hL dL_law_845 dL_law_846 dL_law_847 dL_law_848 dL_law_849 rfl rfl rfl rfl rfl rfl ?_
  refine l_callM (As := [vI (xs (i + 1)).toInt, vI (xs (i + 2)).toInt]) (rest := [.int (iI r)]) O hB (ct_X9_nearest (xs (i + 1)).toInt (xs (i + 2)).toInt τ) mw_5_136 mw_5_137 mw_5_138 mw_5_139 mw_1_10 hd_X9_nearest rfl (by simp [tv, iI_back, rvo]) dL_law_850 (by decide) (by decide) (Nat.le_of_ble_eq_true rfl) ?_
  refine l_same (tgt := 1274) O dL_law_853 (by decide) ?_
  exact kk _ _ hI
set_option maxRecDepth 20000 in
set_option maxHeartbeats 4000000 in
theorem lc_20 {K : Cx} {X : Wx} {ρM : Nat → Nat} {b L : Nat} {xs : Nat → Int32} {σ τ : St} {i : Nat} {Inv : St → St → Prop} (O : LOK K X ρM b L xs) (hL : L ≤ 3072) (hi : i + 6 ≤ L) (hO : Ok2 Inv (X8_would (xs (i + 1)).toInt (xs (i + 2)).toInt (xs (i + 3)).toInt σ) (X9_would (xs (i + 1)).toInt (xs (i + 2)).toInt (xs (i + 3)).toInt τ)) (kk : ∀ σ τ, Inv σ τ → GL K X ρM b 1274 [(0, .ref b), (1, .ref (xr X 0)), (2, .ref (ρM 0)), (3, .int (nI i))] [] σ τ) : GL K X ρM b 858 [(0, .ref b), (1, .ref (xr X 0)), (2, .ref (ρM 0)), (3, .int (nI i))] [] σ τ := by
  obtain ⟨r, s1, t1, hA, hB, hI⟩ := hO
  refine l_aload_n O dL_law_858 rfl 1 rfl ?_
  refine l_arg O (i := i) (k := 1) (by omega) (by decide) hL dL_law_859 dL_law_860 dL_law_861 dL_law_862 dL_law_863 rfl rfl rfl rfl rfl rfl ?_
  refine l_arg O (i := i) (k := 2) (by omega) (by decide) hL dL_law_864 dL_law_865 dL_law_866 dL_law_867 dL_law_868 rfl rfl rfl rfl rfl rfl ?_
  refine l_arg O (i := i) (k := 3) (by omega) (by decide) hL dL_law_869 dL_law_870 dL_law_871 dL_law_872 dL_law_873 rfl rfl rfl rfl rfl rfl ?_
  refine l_callC (As := [vI (xs (i + 1)).toInt, vI (xs (i + 2)).toInt, vI (xs (i + 3)).toInt]) (rest := []) O hA (ct_X8_would (xs (i + 1)).toInt (xs (i + 2)).toInt (xs (i + 3)).toInt σ) mw_3_108 mw_3_109 mw_3_110 mw_3_111 mw_1_1 hd_X8_would rfl (by simp [tv, iI_back, rvo]) dL_law_874 (by decide) (by decide) (Nat.le_of_ble_eq_true rfl) ?_
  refine l_aload_n O dL_law_877 rfl 2 rfl ?_
  refine l_arg O (i := i) (k := 1) (by omega) (by decide) hL dL_law_878 dL_law_879 dL_law_880 dL_law_881 dL_law_882 rfl rfl rfl rfl rfl rfl ?_
  refine l_arg O (i := i) (k := 2) (by omega) (by decide) hL dL_law_883 dL_law_884 dL_law_885 dL_law_886 dL_law_887 rfl rfl rfl rfl rfl rfl ?_
  refine l_arg O (i := i) (k := 3) (by omega) (by decide) hL dL_law_888 dL_law_889 dL_law_890 dL_law_891 dL_law_892 rfl rfl rfl rfl rfl rfl ?_
  refine l_callM (As := [vI (xs (i + 1)).toInt, vI (xs (i + 2)).toInt, vI (xs (i + 3)).toInt]) (rest := [.int (iI r)]) O hB (ct_X9_would (xs (i + 1)).toInt (xs (i + 2)).toInt (xs (i + 3)).toInt τ) mw_5_140 mw_5_141 mw_5_142 mw_5_143 mw_1_10 hd_X9_would rfl (by simp [tv, iI_back, rvo]) dL_law_893 (by decide) (by decide) (Nat.le_of_ble_eq_true rfl) ?_
  refine l_same (tgt := 1274) O dL_law_896 (by decide) ?_
  exact kk _ _ hI
set_option maxRecDepth 20000 in
set_option maxHeartbeats 4000000 in
theorem lc_21 {K : Cx} {X : Wx} {ρM : Nat → Nat} {b L : Nat} {xs : Nat → Int32} {σ τ : St} {i : Nat} {Inv : St → St → Prop} (O : LOK K X ρM b L xs) (hL : L ≤ 3072) (hi : i + 6 ≤ L) (hO : Ok2 Inv (X8_change (xs (i + 1)).toInt (xs (i + 2)).toInt (xs (i + 3)).toInt σ) (X9_change (xs (i + 1)).toInt (xs (i + 2)).toInt (xs (i + 3)).toInt τ)) (kk : ∀ σ τ, Inv σ τ → GL K X ρM b 1274 [(0, .ref b), (1, .ref (xr X 0)), (2, .ref (ρM 0)), (3, .int (nI i))] [] σ τ) : GL K X ρM b 901 [(0, .ref b), (1, .ref (xr X 0)), (2, .ref (ρM 0)), (3, .int (nI i))] [] σ τ := by
  obtain ⟨r, s1, t1, hA, hB, hI⟩ := hO
  refine l_aload_n O dL_law_901 rfl 1 rfl ?_
  refine l_arg O (i := i) (k := 1) (by omega) (by decide) hL dL_law_902 dL_law_903 dL_law_904 dL_law_905 dL_law_906 rfl rfl rfl rfl rfl rfl ?_
  refine l_arg O (i := i) (k := 2) (by omega) (by decide) hL dL_law_907 dL_law_908 dL_law_909 dL_law_910 dL_law_911 rfl rfl rfl rfl rfl rfl ?_
  refine l_arg O (i := i) (k := 3) (by omega) (by decide) hL dL_law_912 dL_law_913 dL_law_914 dL_law_915 dL_law_916 rfl rfl rfl rfl rfl rfl ?_
  refine l_callC (As := [vI (xs (i + 1)).toInt, vI (xs (i + 2)).toInt, vI (xs (i + 3)).toInt]) (rest := []) O hA (ct_X8_change (xs (i + 1)).toInt (xs (i + 2)).toInt (xs (i + 3)).toInt σ) mw_3_113 mw_3_114 mw_3_115 mw_3_116 mw_1_1 hd_X8_change rfl (by simp [tv, iI_back, rvo]) dL_law_917 (by decide) (by decide) (Nat.le_of_ble_eq_true rfl) ?_
  refine l_aload_n O dL_law_920 rfl 2 rfl ?_
  refine l_arg O (i := i) (k := 1) (by omega) (by decide) hL dL_law_921 dL_law_922 dL_law_923 dL_law_924 dL_law_925 rfl rfl rfl rfl rfl rfl ?_
  refine l_arg O (i := i) (k := 2) (by omega) (by decide) hL dL_law_926 dL_law_927 dL_law_928 dL_law_929 dL_law_930 rfl rfl rfl rfl rfl rfl ?_
  refine l_arg O (i := i) (k := 3) (by omega) (by decide) hL dL_law_931 dL_law_932 dL_law_933 dL_law_934 dL_law_935 rfl rfl rfl rfl rfl rfl ?_
  refine l_callM (As := [vI (xs (i + 1)).toInt, vI (xs (i + 2)).toInt, vI (xs (i + 3)).toInt]) (rest := [.int (iI r)]) O hB (ct_X9_change (xs (i + 1)).toInt (xs (i + 2)).toInt (xs (i + 3)).toInt τ) mw_5_144 mw_5_145 mw_5_146 mw_5_147 mw_1_10 hd_X9_change rfl (by simp [tv, iI_back, rvo]) dL_law_936 (by decide) (by decide) (Nat.le_of_ble_eq_true rfl) ?_
  refine l_same (tgt := 1274) O dL_law_939 (by decide) ?_
  exact kk _ _ hI
set_option maxRecDepth 20000 in
set_option maxHeartbeats 4000000 in
theorem lc_22 {K : Cx} {X : Wx} {ρM : Nat → Nat} {b L : Nat} {xs : Nat → Int32} {σ τ : St} {i : Nat} {Inv : St → St → Prop} (O : LOK K X ρM b L xs) (hL : L ≤ 3072) (hi : i + 6 ≤ L) (hO : Ok2 Inv (X8_cut (xs (i + 1)).toInt (xs (i + 2)).toInt σ) (X9_cut (xs (i + 1)).toInt (xs (i + 2)).toInt τ)) (kk : ∀ σ τ, Inv σ τ → GL K X ρM b 1274 [(0, .ref b), (1, .ref (xr X 0)), (2, .ref (ρM 0)), (3, .int (nI i))] [] σ τ) : GL K X ρM b 944 [(0, .ref b), (1, .ref (xr X 0)), (2, .ref (ρM 0)), (3, .int (nI i))] [] σ τ := by
  obtain ⟨r, s1, t1, hA, hB, hI⟩ := hO
  refine l_aload_n O dL_law_944 rfl 1 rfl ?_
  refine l_arg O (i := i) (k := 1) (by omega) (by decide) hL dL_law_945 dL_law_946 dL_law_947 dL_law_948 dL_law_949 rfl rfl rfl rfl rfl rfl ?_
  refine l_arg O (i := i) (k := 2) (by omega) (by decide) hL dL_law_950 dL_law_951 dL_law_952 dL_law_953 dL_law_954 rfl rfl rfl rfl rfl rfl ?_
  refine l_callC (As := [vI (xs (i + 1)).toInt, vI (xs (i + 2)).toInt]) (rest := []) O hA (ct_X8_cut (xs (i + 1)).toInt (xs (i + 2)).toInt σ) mw_3_133 mw_3_134 mw_3_135 mw_3_136 mw_1_1 hd_X8_cut rfl (by simp [tv, iI_back, rvo]) dL_law_955 (by decide) (by decide) (Nat.le_of_ble_eq_true rfl) ?_
  refine l_aload_n O dL_law_958 rfl 2 rfl ?_
  refine l_arg O (i := i) (k := 1) (by omega) (by decide) hL dL_law_959 dL_law_960 dL_law_961 dL_law_962 dL_law_963 rfl rfl rfl rfl rfl rfl ?_
  refine l_arg O (i := i) (k := 2) (by omega) (by decide) hL dL_law_964 dL_law_965 dL_law_966 dL_law_967 dL_law_968 rfl rfl rfl rfl rfl rfl ?_
  refine l_callM (As := [vI (xs (i + 1)).toInt, vI (xs (i + 2)).toInt]) (rest := [.int (iI r)]) O hB (ct_X9_cut (xs (i + 1)).toInt (xs (i + 2)).toInt τ) mw_5_152 mw_5_153 mw_5_154 mw_5_155 mw_1_10 hd_X9_cut rfl (by simp [tv, iI_back, rvo]) dL_law_969 (by decide) (by decide) (Nat.le_of_ble_eq_true rfl) ?_
  refine l_same (tgt := 1274) O dL_law_972 (by decide) ?_
  exact kk _ _ hI
set_option maxRecDepth 20000 in
set_option maxHeartbeats 4000000 in
theorem lc_23 {K : Cx} {X : Wx} {ρM : Nat → Nat} {b L : Nat} {xs : Nat → Int32} {σ τ : St} {i : Nat} {Inv : St → St → Prop} (O : LOK K X ρM b L xs) (hL : L ≤ 3072) (hi : i + 6 ≤ L) (hO : Ok2 Inv (X8_add (xs (i + 1)).toInt (xs (i + 2)).toInt (xs (i + 3)).toInt (xs (i + 4)).toInt (xs (i + 5)).toInt σ) (X9_add (xs (i + 1)).toInt (xs (i + 2)).toInt (xs (i + 3)).toInt (xs (i + 4)).toInt (xs (i + 5)).toInt τ)) (kk : ∀ σ τ, Inv σ τ → GL K X ρM b 1274 [(0, .ref b), (1, .ref (xr X 0)), (2, .ref (ρM 0)), (3, .int (nI i))] [] σ τ) : GL K X ρM b 977 [(0, .ref b), (1, .ref (xr X 0)), (2, .ref (ρM 0)), (3, .int (nI i))] [] σ τ := by
  obtain ⟨r, s1, t1, hA, hB, hI⟩ := hO
  refine l_aload_n O dL_law_977 rfl 1 rfl ?_
  refine l_arg O (i := i) (k := 1) (by omega) (by decide) hL dL_law_978 dL_law_979 dL_law_980 dL_law_981 dL_law_982 rfl rfl rfl rfl rfl rfl ?_
  refine l_arg O (i := i) (k := 2) (by omega) (by decide) hL dL_law_983 dL_law_984 dL_law_985 dL_law_986 dL_law_987 rfl rfl rfl rfl rfl rfl ?_
  refine l_arg O (i := i) (k := 3) (by omega) (by decide) hL dL_law_988 dL_law_989 dL_law_990 dL_law_991 dL_law_992 rfl rfl rfl rfl rfl rfl ?_
  refine l_arg O (i := i) (k := 4) (by omega) (by decide) hL dL_law_993 dL_law_994 dL_law_995 dL_law_996 dL_law_997 rfl rfl rfl rfl rfl rfl ?_
  refine l_arg O (i := i) (k := 5) (by omega) (by decide) hL dL_law_998 dL_law_999 dL_law_1000 dL_law_1001 dL_law_1002 rfl rfl rfl rfl rfl rfl ?_
  refine l_callC (As := [vI (xs (i + 1)).toInt, vI (xs (i + 2)).toInt, vI (xs (i + 3)).toInt, vI (xs (i + 4)).toInt, vI (xs (i + 5)).toInt]) (rest := []) O hA (ct_X8_add (xs (i + 1)).toInt (xs (i + 2)).toInt (xs (i + 3)).toInt (xs (i + 4)).toInt (xs (i + 5)).toInt σ) mw_3_143 mw_3_144 mw_3_145 mw_3_146 mw_1_1 hd_X8_add rfl (by simp [tv, iI_back, rvo]) dL_law_1003 (by decide) (by decide) (Nat.le_of_ble_eq_true rfl) ?_
  refine l_aload_n O dL_law_1006 rfl 2 rfl ?_
  refine l_arg O (i := i) (k := 1) (by omega) (by decide) hL dL_law_1007 dL_law_1008 dL_law_1009 dL_law_1010 dL_law_1011 rfl rfl rfl rfl rfl rfl ?_
  refine l_arg O (i := i) (k := 2) (by omega) (by decide) hL dL_law_1012 dL_law_1013 dL_law_1014 dL_law_1015 dL_law_1016 rfl rfl rfl rfl rfl rfl ?_
  refine l_arg O (i := i) (k := 3) (by omega) (by decide) hL dL_law_1017 dL_law_1018 dL_law_1019 dL_law_1020 dL_law_1021 rfl rfl rfl rfl rfl rfl ?_
  refine l_arg O (i := i) (k := 4) (by omega) (by decide) hL dL_law_1022 dL_law_1023 dL_law_1024 dL_law_1025 dL_law_1026 rfl rfl rfl rfl rfl rfl ?_
  refine l_arg O (i := i) (k := 5) (by omega) (by decide) hL dL_law_1027 dL_law_1028 dL_law_1029 dL_law_1030 dL_law_1031 rfl rfl rfl rfl rfl rfl ?_
  refine l_callM (As := [vI (xs (i + 1)).toInt, vI (xs (i + 2)).toInt, vI (xs (i + 3)).toInt, vI (xs (i + 4)).toInt, vI (xs (i + 5)).toInt]) (rest := [.int (iI r)]) O hB (ct_X9_add (xs (i + 1)).toInt (xs (i + 2)).toInt (xs (i + 3)).toInt (xs (i + 4)).toInt (xs (i + 5)).toInt τ) mw_5_164 mw_5_165 mw_5_166 mw_5_167 mw_1_10 hd_X9_add rfl (by simp [tv, iI_back, rvo]) dL_law_1032 (by decide) (by decide) (Nat.le_of_ble_eq_true rfl) ?_
  refine l_same (tgt := 1274) O dL_law_1035 (by decide) ?_
  exact kk _ _ hI
set_option maxRecDepth 20000 in
set_option maxHeartbeats 4000000 in
theorem lc_24 {K : Cx} {X : Wx} {ρM : Nat → Nat} {b L : Nat} {xs : Nat → Int32} {σ τ : St} {i : Nat} {Inv : St → St → Prop} (O : LOK K X ρM b L xs) (hL : L ≤ 3072) (hi : i + 6 ≤ L) (hO : Ok2 Inv (X8_price (xs (i + 1)).toInt (xs (i + 2)).toInt σ) (X9_price (xs (i + 1)).toInt (xs (i + 2)).toInt τ)) (kk : ∀ σ τ, Inv σ τ → GL K X ρM b 1274 [(0, .ref b), (1, .ref (xr X 0)), (2, .ref (ρM 0)), (3, .int (nI i))] [] σ τ) : GL K X ρM b 1040 [(0, .ref b), (1, .ref (xr X 0)), (2, .ref (ρM 0)), (3, .int (nI i))] [] σ τ := by
  obtain ⟨r, s1, t1, hA, hB, hI⟩ := hO
  refine l_aload_n O dL_law_1040 rfl 1 rfl ?_
  refine l_arg O (i := i) (k := 1) (by omega) (by decide) hL dL_law_1041 dL_law_1042 dL_law_1043 dL_law_1044 dL_law_1045 rfl rfl rfl rfl rfl rfl ?_
  refine l_arg O (i := i) (k := 2) (by omega) (by decide) hL dL_law_1046 dL_law_1047 dL_law_1048 dL_law_1049 dL_law_1050 rfl rfl rfl rfl rfl rfl ?_
  refine l_callC (As := [vI (xs (i + 1)).toInt, vI (xs (i + 2)).toInt]) (rest := []) O hA (ct_X8_price (xs (i + 1)).toInt (xs (i + 2)).toInt σ) mw_3_155 mw_3_156 mw_3_157 mw_3_158 mw_1_1 hd_X8_price rfl (by simp [tv, iI_back, rvo]) dL_law_1051 (by decide) (by decide) (Nat.le_of_ble_eq_true rfl) ?_
  refine l_aload_n O dL_law_1054 rfl 2 rfl ?_
  refine l_arg O (i := i) (k := 1) (by omega) (by decide) hL dL_law_1055 dL_law_1056 dL_law_1057 dL_law_1058 dL_law_1059 rfl rfl rfl rfl rfl rfl ?_
  refine l_arg O (i := i) (k := 2) (by omega) (by decide) hL dL_law_1060 dL_law_1061 dL_law_1062 dL_law_1063 dL_law_1064 rfl rfl rfl rfl rfl rfl ?_
  refine l_callM (As := [vI (xs (i + 1)).toInt, vI (xs (i + 2)).toInt]) (rest := [.int (iI r)]) O hB (ct_X9_price (xs (i + 1)).toInt (xs (i + 2)).toInt τ) mw_5_180 mw_5_181 mw_5_182 mw_5_183 mw_1_10 hd_X9_price rfl (by simp [tv, iI_back, rvo]) dL_law_1065 (by decide) (by decide) (Nat.le_of_ble_eq_true rfl) ?_
  refine l_same (tgt := 1274) O dL_law_1068 (by decide) ?_
  exact kk _ _ hI
set_option maxRecDepth 20000 in
set_option maxHeartbeats 4000000 in
theorem lc_25 {K : Cx} {X : Wx} {ρM : Nat → Nat} {b L : Nat} {xs : Nat → Int32} {σ τ : St} {i : Nat} {Inv : St → St → Prop} (O : LOK K X ρM b L xs) (hL : L ≤ 3072) (hi : i + 6 ≤ L) (hO : Ok2 Inv (X8_turn σ) (X9_turn τ)) (kk : ∀ σ τ, Inv σ τ → GL K X ρM b 1274 [(0, .ref b), (1, .ref (xr X 0)), (2, .ref (ρM 0)), (3, .int (nI i))] [] σ τ) : GL K X ρM b 1073 [(0, .ref b), (1, .ref (xr X 0)), (2, .ref (ρM 0)), (3, .int (nI i))] [] σ τ := by
  obtain ⟨r, s1, t1, hA, hB, hI⟩ := hO
  refine l_aload_n O dL_law_1073 rfl 1 rfl ?_
  refine l_callC (As := []) (rest := []) O hA (ct_X8_turn  σ) mw_3_159 mw_3_160 mw_3_161 mw_3_162 mw_1_1 hd_X8_turn rfl (by simp [tv, iI_back, rvo]) dL_law_1074 (by decide) (by decide) (Nat.le_of_ble_eq_true rfl) ?_
  refine l_aload_n O dL_law_1077 rfl 2 rfl ?_
  refine l_callM (As := []) (rest := [.int (iI r)]) O hB (ct_X9_turn  τ) mw_5_184 mw_5_185 mw_5_186 mw_5_187 mw_1_10 hd_X9_turn rfl (by simp [tv, iI_back, rvo]) dL_law_1078 (by decide) (by decide) (Nat.le_of_ble_eq_true rfl) ?_
  refine l_same (tgt := 1274) O dL_law_1081 (by decide) ?_
  exact kk _ _ hI
set_option maxRecDepth 20000 in
set_option maxHeartbeats 4000000 in
theorem lc_26 {K : Cx} {X : Wx} {ρM : Nat → Nat} {b L : Nat} {xs : Nat → Int32} {σ τ : St} {i : Nat} {Inv : St → St → Prop} (O : LOK K X ρM b L xs) (hL : L ≤ 3072) (hi : i + 6 ≤ L) (hO : Ok2 Inv (X8_undo (xs (i + 1)).toInt σ) (X9_undo (xs (i + 1)).toInt τ)) (kk : ∀ σ τ, Inv σ τ → GL K X ρM b 1274 [(0, .ref b), (1, .ref (xr X 0)), (2, .ref (ρM 0)), (3, .int (nI i))] [] σ τ) : GL K X ρM b 1086 [(0, .ref b), (1, .ref (xr X 0)), (2, .ref (ρM 0)), (3, .int (nI i))] [] σ τ := by
  obtain ⟨r, s1, t1, hA, hB, hI⟩ := hO
  refine l_aload_n O dL_law_1086 rfl 1 rfl ?_
  refine l_arg O (i := i) (k := 1) (by omega) (by decide) hL dL_law_1087 dL_law_1088 dL_law_1089 dL_law_1090 dL_law_1091 rfl rfl rfl rfl rfl rfl ?_
  refine l_callC (As := [vI (xs (i + 1)).toInt]) (rest := []) O hA (ct_X8_undo (xs (i + 1)).toInt σ) mw_3_167 mw_3_168 mw_3_169 mw_3_170 mw_1_1 hd_X8_undo rfl (by simp [tv, iI_back, rvo]) dL_law_1092 (by decide) (by decide) (Nat.le_of_ble_eq_true rfl) ?_
  refine l_aload_n O dL_law_1095 rfl 2 rfl ?_
  refine l_arg O (i := i) (k := 1) (by omega) (by decide) hL dL_law_1096 dL_law_1097 dL_law_1098 dL_law_1099 dL_law_1100 rfl rfl rfl rfl rfl rfl ?_
  refine l_callM (As := [vI (xs (i + 1)).toInt]) (rest := [.int (iI r)]) O hB (ct_X9_undo (xs (i + 1)).toInt τ) mw_5_192 mw_5_193 mw_5_194 mw_5_195 mw_1_10 hd_X9_undo rfl (by simp [tv, iI_back, rvo]) dL_law_1101 (by decide) (by decide) (Nat.le_of_ble_eq_true rfl) ?_
  refine l_same (tgt := 1274) O dL_law_1104 (by decide) ?_
  exact kk _ _ hI
set_option maxRecDepth 20000 in
set_option maxHeartbeats 4000000 in
theorem lc_27 {K : Cx} {X : Wx} {ρM : Nat → Nat} {b L : Nat} {xs : Nat → Int32} {σ τ : St} {i : Nat} {Inv : St → St → Prop} (O : LOK K X ρM b L xs) (hL : L ≤ 3072) (hi : i + 6 ≤ L) (hO : Ok2 Inv (X8_keep (xs (i + 1)).toInt σ) (X9_keep (xs (i + 1)).toInt τ)) (kk : ∀ σ τ, Inv σ τ → GL K X ρM b 1274 [(0, .ref b), (1, .ref (xr X 0)), (2, .ref (ρM 0)), (3, .int (nI i))] [] σ τ) : GL K X ρM b 1109 [(0, .ref b), (1, .ref (xr X 0)), (2, .ref (ρM 0)), (3, .int (nI i))] [] σ τ := by
  obtain ⟨r, s1, t1, hA, hB, hI⟩ := hO
  refine l_aload_n O dL_law_1109 rfl 1 rfl ?_
  refine l_arg O (i := i) (k := 1) (by omega) (by decide) hL dL_law_1110 dL_law_1111 dL_law_1112 dL_law_1113 dL_law_1114 rfl rfl rfl rfl rfl rfl ?_
  refine l_callC (As := [vI (xs (i + 1)).toInt]) (rest := []) O hA (ct_X8_keep (xs (i + 1)).toInt σ) mw_3_186 mw_3_187 mw_3_188 mw_3_189 mw_1_1 hd_X8_keep rfl (by simp [tv, iI_back, rvo]) dL_law_1115 (by decide) (by decide) (Nat.le_of_ble_eq_true rfl) ?_
  refine l_aload_n O dL_law_1118 rfl 2 rfl ?_
  refine l_arg O (i := i) (k := 1) (by omega) (by decide) hL dL_law_1119 dL_law_1120 dL_law_1121 dL_law_1122 dL_law_1123 rfl rfl rfl rfl rfl rfl ?_
  refine l_callM (As := [vI (xs (i + 1)).toInt]) (rest := [.int (iI r)]) O hB (ct_X9_keep (xs (i + 1)).toInt τ) mw_5_196 mw_5_197 mw_5_198 mw_5_199 mw_1_10 hd_X9_keep rfl (by simp [tv, iI_back, rvo]) dL_law_1124 (by decide) (by decide) (Nat.le_of_ble_eq_true rfl) ?_
  refine l_same (tgt := 1274) O dL_law_1127 (by decide) ?_
  exact kk _ _ hI
set_option maxRecDepth 20000 in
set_option maxHeartbeats 4000000 in
theorem lc_28 {K : Cx} {X : Wx} {ρM : Nat → Nat} {b L : Nat} {xs : Nat → Int32} {σ τ : St} {i : Nat} {Inv : St → St → Prop} (O : LOK K X ρM b L xs) (hL : L ≤ 3072) (hi : i + 6 ≤ L) (hO : Ok2 Inv (X8_on (xs (i + 1)).toInt σ) (X9_on (xs (i + 1)).toInt τ)) (kk : ∀ σ τ, Inv σ τ → GL K X ρM b 1274 [(0, .ref b), (1, .ref (xr X 0)), (2, .ref (ρM 0)), (3, .int (nI i))] [] σ τ) : GL K X ρM b 1132 [(0, .ref b), (1, .ref (xr X 0)), (2, .ref (ρM 0)), (3, .int (nI i))] [] σ τ := by
  obtain ⟨r, s1, t1, hA, hB, hI⟩ := hO
  refine l_aload_n O dL_law_1132 rfl 1 rfl ?_
  refine l_arg O (i := i) (k := 1) (by omega) (by decide) hL dL_law_1133 dL_law_1134 dL_law_1135 dL_law_1136 dL_law_1137 rfl rfl rfl rfl rfl rfl ?_
  refine l_callC (As := [vI (xs (i + 1)).toInt]) (rest := []) O hA (ct_X8_on (xs (i + 1)).toInt σ) mw_3_198 mw_3_199 mw_3_200 mw_3_201 mw_1_1 hd_X8_on rfl (by simp [tv, iI_back, rvo]) dL_law_1138 (by decide) (by decide) (Nat.le_of_ble_eq_true rfl) ?_
  refine l_aload_n O dL_law_1141 rfl 2 rfl ?_
  refine l_arg O (i := i) (k := 1) (by omega) (by decide) hL dL_law_1142 dL_law_1143 dL_law_1144 dL_law_1145 dL_law_1146 rfl rfl rfl rfl rfl rfl ?_
  refine l_callM (As := [vI (xs (i + 1)).toInt]) (rest := [.int (iI r)]) O hB (ct_X9_on (xs (i + 1)).toInt τ) mw_5_200 mw_5_201 mw_5_202 mw_5_203 mw_1_10 hd_X9_on rfl (by simp [tv, iI_back, rvo]) dL_law_1147 (by decide) (by decide) (Nat.le_of_ble_eq_true rfl) ?_
  refine l_same (tgt := 1274) O dL_law_1150 (by decide) ?_
  exact kk _ _ hI
set_option maxRecDepth 20000 in
set_option maxHeartbeats 4000000 in
theorem lc_29 {K : Cx} {X : Wx} {ρM : Nat → Nat} {b L : Nat} {xs : Nat → Int32} {σ τ : St} {i : Nat} {Inv : St → St → Prop} (O : LOK K X ρM b L xs) (hL : L ≤ 3072) (hi : i + 6 ≤ L) (hO : Ok2 Inv (X8_lots (xs (i + 1)).toInt (xs (i + 2)).toInt σ) (X9_lots (xs (i + 1)).toInt (xs (i + 2)).toInt τ)) (kk : ∀ σ τ, Inv σ τ → GL K X ρM b 1274 [(0, .ref b), (1, .ref (xr X 0)), (2, .ref (ρM 0)), (3, .int (nI i))] [] σ τ) : GL K X ρM b 1155 [(0, .ref b), (1, .ref (xr X 0)), (2, .ref (ρM 0)), (3, .int (nI i))] [] σ τ := by
  obtain ⟨r, s1, t1, hA, hB, hI⟩ := hO
  refine l_aload_n O dL_law_1155 rfl 1 rfl ?_
  refine l_arg O (i := i) (k := 1) (by omega) (by decide) hL dL_law_1156 dL_law_1157 dL_law_1158 dL_law_1159 dL_law_1160 rfl rfl rfl rfl rfl rfl ?_
  refine l_arg O (i := i) (k := 2) (by omega) (by decide) hL dL_law_1161 dL_law_1162 dL_law_1163 dL_law_1164 dL_law_1165 rfl rfl rfl rfl rfl rfl ?_
  refine l_callC (As := [vI (xs (i + 1)).toInt, vI (xs (i + 2)).toInt]) (rest := []) O hA (ct_X8_lots (xs (i + 1)).toInt (xs (i + 2)).toInt σ) mw_3_202 mw_3_203 mw_3_204 mw_3_205 mw_1_1 hd_X8_lots rfl (by simp [tv, iI_back, rvo]) dL_law_1166 (by decide) (by decide) (Nat.le_of_ble_eq_true rfl) ?_
  refine l_aload_n O dL_law_1169 rfl 2 rfl ?_
  refine l_arg O (i := i) (k := 1) (by omega) (by decide) hL dL_law_1170 dL_law_1171 dL_law_1172 dL_law_1173 dL_law_1174 rfl rfl rfl rfl rfl rfl ?_
  refine l_arg O (i := i) (k := 2) (by omega) (by decide) hL dL_law_1175 dL_law_1176 dL_law_1177 dL_law_1178 dL_law_1179 rfl rfl rfl rfl rfl rfl ?_
  refine l_callM (As := [vI (xs (i + 1)).toInt, vI (xs (i + 2)).toInt]) (rest := [.int (iI r)]) O hB (ct_X9_lots (xs (i + 1)).toInt (xs (i + 2)).toInt τ) mw_5_204 mw_5_205 mw_5_206 mw_5_207 mw_1_10 hd_X9_lots rfl (by simp [tv, iI_back, rvo]) dL_law_1180 (by decide) (by decide) (Nat.le_of_ble_eq_true rfl) ?_
  refine l_same (tgt := 1274) O dL_law_1183 (by decide) ?_
  exact kk _ _ hI
set_option maxRecDepth 20000 in
set_option maxHeartbeats 4000000 in
theorem lc_30 {K : Cx} {X : Wx} {ρM : Nat → Nat} {b L : Nat} {xs : Nat → Int32} {σ τ : St} {i : Nat} {Inv : St → St → Prop} (O : LOK K X ρM b L xs) (hL : L ≤ 3072) (hi : i + 6 ≤ L) (hO : Ok2 Inv (X8_asked σ) (X9_asked τ)) (kk : ∀ σ τ, Inv σ τ → GL K X ρM b 1274 [(0, .ref b), (1, .ref (xr X 0)), (2, .ref (ρM 0)), (3, .int (nI i))] [] σ τ) : GL K X ρM b 1188 [(0, .ref b), (1, .ref (xr X 0)), (2, .ref (ρM 0)), (3, .int (nI i))] [] σ τ := by
  obtain ⟨r, s1, t1, hA, hB, hI⟩ := hO
  refine l_aload_n O dL_law_1188 rfl 1 rfl ?_
  refine l_callC (As := []) (rest := []) O hA (ct_X8_asked  σ) mw_3_213 mw_3_214 mw_3_215 mw_3_216 mw_1_1 hd_X8_asked rfl (by simp [tv, iI_back, rvo]) dL_law_1189 (by decide) (by decide) (Nat.le_of_ble_eq_true rfl) ?_
  refine l_aload_n O dL_law_1192 rfl 2 rfl ?_
  refine l_callM (As := []) (rest := [.int (iI r)]) O hB (ct_X9_asked  τ) mw_5_215 mw_5_216 mw_5_217 mw_5_218 mw_1_10 hd_X9_asked rfl (by simp [tv, iI_back, rvo]) dL_law_1193 (by decide) (by decide) (Nat.le_of_ble_eq_true rfl) ?_
  refine l_same (tgt := 1274) O dL_law_1196 (by decide) ?_
  exact kk _ _ hI
set_option maxRecDepth 20000 in
set_option maxHeartbeats 4000000 in
theorem lc_31 {K : Cx} {X : Wx} {ρM : Nat → Nat} {b L : Nat} {xs : Nat → Int32} {σ τ : St} {i : Nat} {Inv : St → St → Prop} (O : LOK K X ρM b L xs) (hL : L ≤ 3072) (hi : i + 6 ≤ L) (hO : Ok2 Inv (X8_count (xs (i + 1)).toInt σ) (X9_count (xs (i + 1)).toInt τ)) (kk : ∀ σ τ, Inv σ τ → GL K X ρM b 1274 [(0, .ref b), (1, .ref (xr X 0)), (2, .ref (ρM 0)), (3, .int (nI i))] [] σ τ) : GL K X ρM b 1201 [(0, .ref b), (1, .ref (xr X 0)), (2, .ref (ρM 0)), (3, .int (nI i))] [] σ τ := by
  obtain ⟨r, s1, t1, hA, hB, hI⟩ := hO
  refine l_aload_n O dL_law_1201 rfl 1 rfl ?_
  refine l_arg O (i := i) (k := 1) (by omega) (by decide) hL dL_law_1202 dL_law_1203 dL_law_1204 dL_law_1205 dL_law_1206 rfl rfl rfl rfl rfl rfl ?_
  refine l_callC (As := [vI (xs (i + 1)).toInt]) (rest := []) O hA (ct_X8_count (xs (i + 1)).toInt σ) mw_3_217 mw_3_218 mw_3_219 mw_3_220 mw_1_1 hd_X8_count rfl (by simp [tv, iI_back, rvo]) dL_law_1207 (by decide) (by decide) (Nat.le_of_ble_eq_true rfl) ?_
  refine l_aload_n O dL_law_1210 rfl 2 rfl ?_
  refine l_arg O (i := i) (k := 1) (by omega) (by decide) hL dL_law_1211 dL_law_1212 dL_law_1213 dL_law_1214 dL_law_1215 rfl rfl rfl rfl rfl rfl ?_
  refine l_callM (As := [vI (xs (i + 1)).toInt]) (rest := [.int (iI r)]) O hB (ct_X9_count (xs (i + 1)).toInt τ) mw_5_219 mw_5_220 mw_5_221 mw_5_222 mw_1_10 hd_X9_count rfl (by simp [tv, iI_back, rvo]) dL_law_1216 (by decide) (by decide) (Nat.le_of_ble_eq_true rfl) ?_
  refine l_same (tgt := 1274) O dL_law_1219 (by decide) ?_
  exact kk _ _ hI
set_option maxRecDepth 20000 in
set_option maxHeartbeats 4000000 in
theorem lc_32 {K : Cx} {X : Wx} {ρM : Nat → Nat} {b L : Nat} {xs : Nat → Int32} {σ τ : St} {i : Nat} {Inv : St → St → Prop} (O : LOK K X ρM b L xs) (hL : L ≤ 3072) (hi : i + 6 ≤ L) (hO : Ok2 Inv (X8_finding σ) (X9_finding τ)) (kk : ∀ σ τ, Inv σ τ → GL K X ρM b 1274 [(0, .ref b), (1, .ref (xr X 0)), (2, .ref (ρM 0)), (3, .int (nI i))] [] σ τ) : GL K X ρM b 1224 [(0, .ref b), (1, .ref (xr X 0)), (2, .ref (ρM 0)), (3, .int (nI i))] [] σ τ := by
  obtain ⟨r, s1, t1, hA, hB, hI⟩ := hO
  refine l_aload_n O dL_law_1224 rfl 1 rfl ?_
  refine l_callC (As := []) (rest := []) O hA (ct_X8_finding  σ) mw_3_237 mw_3_238 mw_3_239 mw_4_0 mw_1_1 hd_X8_finding rfl (by simp [tv, iI_back, rvo]) dL_law_1225 (by decide) (by decide) (Nat.le_of_ble_eq_true rfl) ?_
  refine l_aload_n O dL_law_1228 rfl 2 rfl ?_
  refine l_callM (As := []) (rest := [.int (iI r)]) O hB (ct_X9_finding  τ) mw_5_238 mw_5_239 mw_6_0 mw_6_1 mw_1_10 hd_X9_finding rfl (by simp [tv, iI_back, rvo]) dL_law_1229 (by decide) (by decide) (Nat.le_of_ble_eq_true rfl) ?_
  refine l_same (tgt := 1274) O dL_law_1232 (by decide) ?_
  exact kk _ _ hI
set_option maxRecDepth 20000 in
set_option maxHeartbeats 4000000 in
theorem lc_33 {K : Cx} {X : Wx} {ρM : Nat → Nat} {b L : Nat} {xs : Nat → Int32} {σ τ : St} {i : Nat} {Inv : St → St → Prop} (O : LOK K X ρM b L xs) (hL : L ≤ 3072) (hi : i + 6 ≤ L) (hO : Ok2 Inv (X8_findings (xs (i + 1)).toInt σ) (X9_findings (xs (i + 1)).toInt τ)) (kk : ∀ σ τ, Inv σ τ → GL K X ρM b 1274 [(0, .ref b), (1, .ref (xr X 0)), (2, .ref (ρM 0)), (3, .int (nI i))] [] σ τ) : GL K X ρM b 1237 [(0, .ref b), (1, .ref (xr X 0)), (2, .ref (ρM 0)), (3, .int (nI i))] [] σ τ := by
  obtain ⟨r, s1, t1, hA, hB, hI⟩ := hO
  refine l_aload_n O dL_law_1237 rfl 1 rfl ?_
  refine l_arg O (i := i) (k := 1) (by omega) (by decide) hL dL_law_1238 dL_law_1239 dL_law_1240 dL_law_1241 dL_law_1242 rfl rfl rfl rfl rfl rfl ?_
  refine l_callC (As := [vI (xs (i + 1)).toInt]) (rest := []) O hA (ct_X8_findings (xs (i + 1)).toInt σ) mw_4_1 mw_4_2 mw_4_3 mw_4_4 mw_1_1 hd_X8_findings rfl (by simp [tv, iI_back, rvo]) dL_law_1243 (by decide) (by decide) (Nat.le_of_ble_eq_true rfl) ?_
  refine l_aload_n O dL_law_1246 rfl 2 rfl ?_
  refine l_arg O (i := i) (k := 1) (by omega) (by decide) hL dL_law_1247 dL_law_1248 dL_law_1249 dL_law_1250 dL_law_1251 rfl rfl rfl rfl rfl rfl ?_
  refine l_callM (As := [vI (xs (i + 1)).toInt]) (rest := [.int (iI r)]) O hB (ct_X9_findings (xs (i + 1)).toInt τ) mw_6_2 mw_6_3 mw_6_4 mw_6_5 mw_1_10 hd_X9_findings rfl (by simp [tv, iI_back, rvo]) dL_law_1252 (by decide) (by decide) (Nat.le_of_ble_eq_true rfl) ?_
  refine l_same (tgt := 1274) O dL_law_1255 (by decide) ?_
  exact kk _ _ hI
set_option maxRecDepth 20000 in
set_option maxHeartbeats 4000000 in
theorem lc_34 {K : Cx} {X : Wx} {ρM : Nat → Nat} {b L : Nat} {xs : Nat → Int32} {σ τ : St} {i : Nat} {Inv : St → St → Prop} (O : LOK K X ρM b L xs) (hL : L ≤ 3072) (hi : i + 6 ≤ L) (hO : Ok2 Inv (X8_digest σ) (X9_digest τ)) (kk : ∀ σ τ, Inv σ τ → GL K X ρM b 1274 [(0, .ref b), (1, .ref (xr X 0)), (2, .ref (ρM 0)), (3, .int (nI i))] [] σ τ) : GL K X ρM b 1260 [(0, .ref b), (1, .ref (xr X 0)), (2, .ref (ρM 0)), (3, .int (nI i))] [] σ τ := by
  obtain ⟨r, s1, t1, hA, hB, hI⟩ := hO
  refine l_aload_n O dL_law_1260 rfl 1 rfl ?_
  refine l_callC (As := []) (rest := []) O hA (ct_X8_digest  σ) mw_4_5 mw_4_6 mw_4_7 mw_4_8 mw_1_1 hd_X8_digest rfl (by simp [tv, iI_back, rvo]) dL_law_1261 (by decide) (by decide) (Nat.le_of_ble_eq_true rfl) ?_
  refine l_aload_n O dL_law_1264 rfl 2 rfl ?_
  refine l_callM (As := []) (rest := [.long (iL r)]) O hB (ct_X9_digest  τ) mw_6_6 mw_6_7 mw_6_8 mw_6_9 mw_1_10 hd_X9_digest rfl (by simp [tv, iI_back, rvo]) dL_law_1265 (by decide) (by decide) (Nat.le_of_ble_eq_true rfl) ?_
  refine l_sameL (tgt := 1274) O dL_law_1268 dL_law_1269 rfl (by decide) ?_
  exact kk _ _ hI
