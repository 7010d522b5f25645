/-! the law's cases (by program gen4.py) -/
section LC
variable {p : Program} {l : Launch} {e : Env} {s : State} {m : MethodId} {below : List Frame} {meth : Method} {c : Code} {b L : Nat} {xs : Nat → Int32} {D : va_G} {ca : Nat → ClassId} {aX aM : Nat → Nat} {i : Nat} {X Y : ax_Mem} {J : ax_Mem → ax_Mem → Prop}
theorem lc_cabin (F : lx_F p s m meth c b L xs D ca aX aM) (hi : i + 8 ≤ L) (hL : L ≤ 4096) (hq : kX_cabin [.inr (.inr 0), .inl (xs (i + 1)).toInt, .inl (xs (i + 2)).toInt, .inl (xs (i + 3)).toInt] X (fun r X2 => kM_cabin [.inr (.inr 0), .inl (xs (i + 1)).toInt, .inl (xs (i + 2)).toInt, .inl (xs (i + 3)).toInt] Y (fun r2 Y2 => r2 = r ∧ J X2 Y2))) (k : ∀ X2 Y2, J X2 Y2 → lx_J p l e s m below meth c b D ca aX aM 1019 (lx_ls b aX aM i) [] X2 Y2) : lx_J p l e s m below meth c b D ca aX aM 160 (lx_ls b aX aM i) [] X Y := by
  refine lx_aload F 2 dl_160 rfl rfl ?_
  refine lx_sc F hi hL (k := 1) (by decide) rfl dl_161 dl_162 dl_163 dl_164 dl_165 ?_
  refine lx_sc F hi hL (k := 2) (by decide) rfl dl_166 dl_167 dl_168 dl_169 dl_170 ?_
  refine lx_sc F hi hL (k := 3) (by decide) rfl dl_171 dl_172 dl_173 dl_174 dl_175 ?_
  refine lx_callXi F (as := [.inl (xs (i + 1)).toInt, .inl (xs (i + 2)).toInt, .inl (xs (i + 3)).toInt]) dl_176 ll_13 ⟨_, _, rfl⟩ rfl rfl (Nat.le_of_ble_eq_true rfl) ⟨by decide, by decide⟩ (ax_cc (v := .inl (xs (i + 1)).toInt) (lx_r _) (ax_cc (v := .inl (xs (i + 2)).toInt) (lx_r _) (ax_cc (v := .inl (xs (i + 3)).toInt) (lx_r _) lx_v0))) hq (fun r X2 hp => ?_)
  refine lx_aload F 1 dl_179 rfl rfl ?_
  refine lx_sc F hi hL (k := 1) (by decide) rfl dl_180 dl_181 dl_182 dl_183 dl_184 ?_
  refine lx_sc F hi hL (k := 2) (by decide) rfl dl_185 dl_186 dl_187 dl_188 dl_189 ?_
  refine lx_sc F hi hL (k := 3) (by decide) rfl dl_190 dl_191 dl_192 dl_193 dl_194 ?_
  refine lx_callMi F (as := [.inl (xs (i + 1)).toInt, .inl (xs (i + 2)).toInt, .inl (xs (i + 3)).toInt]) dl_195 ll_17 ⟨_, _, rfl⟩ rfl rfl (Nat.le_of_ble_eq_true rfl) ⟨by decide, by decide⟩ (ax_cc (v := .inl (xs (i + 1)).toInt) (lx_r _) (ax_cc (v := .inl (xs (i + 2)).toInt) (lx_r _) (ax_cc (v := .inl (xs (i + 3)).toInt) (lx_r _) lx_v0))) hp (fun r2 Y2 hp2 => ?_)
  obtain ⟨rfl, hJ⟩ := hp2
  exact lx_eqi F (tgt := 1019) dl_198 (by decide) (k _ _ hJ)
theorem lc_person (F : lx_F p s m meth c b L xs D ca aX aM) (hi : i + 8 ≤ L) (hL : L ≤ 4096) (hq : kX_person [.inr (.inr 0), .inl (xs (i + 1)).toInt, .inl (xs (i + 2)).toInt, .inl (xs (i + 3)).toInt, .inl (xs (i + 4)).toInt, .inl (xs (i + 5)).toInt, .inl (xs (i + 6)).toInt, .inl (xs (i + 7)).toInt] X (fun r X2 => kM_person [.inr (.inr 0), .inl (xs (i + 1)).toInt, .inl (xs (i + 2)).toInt, .inl (xs (i + 3)).toInt, .inl (xs (i + 4)).toInt, .inl (xs (i + 5)).toInt, .inl (xs (i + 6)).toInt, .inl (xs (i + 7)).toInt] Y (fun r2 Y2 => r2 = r ∧ J X2 Y2))) (k : ∀ X2 Y2, J X2 Y2 → lx_J p l e s m below meth c b D ca aX aM 1019 (lx_ls b aX aM i) [] X2 Y2) : lx_J p l e s m below meth c b D ca aX aM 203 (lx_ls b aX aM i) [] X Y := by
  refine lx_aload F 2 dl_203 rfl rfl ?_
  refine lx_sc F hi hL (k := 1) (by decide) rfl dl_204 dl_205 dl_206 dl_207 dl_208 ?_
  refine lx_sc F hi hL (k := 2) (by decide) rfl dl_209 dl_210 dl_211 dl_212 dl_213 ?_
  refine lx_sc F hi hL (k := 3) (by decide) rfl dl_214 dl_215 dl_216 dl_217 dl_218 ?_
  refine lx_sc F hi hL (k := 4) (by decide) rfl dl_219 dl_220 dl_221 dl_222 dl_223 ?_
  refine lx_sc F hi hL (k := 5) (by decide) rfl dl_224 dl_225 dl_226 dl_227 dl_228 ?_
  refine lx_sb F hi hL (k := 6) (by decide) rfl dl_229 dl_230 dl_231 dl_233 dl_234 ?_
  refine lx_sb F hi hL (k := 7) (by decide) rfl dl_235 dl_236 dl_237 dl_239 dl_240 ?_
  refine lx_callXi F (as := [.inl (xs (i + 1)).toInt, .inl (xs (i + 2)).toInt, .inl (xs (i + 3)).toInt, .inl (xs (i + 4)).toInt, .inl (xs (i + 5)).toInt, .inl (xs (i + 6)).toInt, .inl (xs (i + 7)).toInt]) dl_241 ll_18 ⟨_, _, rfl⟩ rfl rfl (Nat.le_of_ble_eq_true rfl) ⟨by decide, by decide⟩ (ax_cc (v := .inl (xs (i + 1)).toInt) (lx_r _) (ax_cc (v := .inl (xs (i + 2)).toInt) (lx_r _) (ax_cc (v := .inl (xs (i + 3)).toInt) (lx_r _) (ax_cc (v := .inl (xs (i + 4)).toInt) (lx_r _) (ax_cc (v := .inl (xs (i + 5)).toInt) (lx_r _) (ax_cc (v := .inl (xs (i + 6)).toInt) (lx_r _) (ax_cc (v := .inl (xs (i + 7)).toInt) (lx_r _) lx_v0))))))) hq (fun r X2 hp => ?_)
  refine lx_aload F 1 dl_244 rfl rfl ?_
  refine lx_sc F hi hL (k := 1) (by decide) rfl dl_245 dl_246 dl_247 dl_248 dl_249 ?_
  refine lx_sc F hi hL (k := 2) (by decide) rfl dl_250 dl_251 dl_252 dl_253 dl_254 ?_
  refine lx_sc F hi hL (k := 3) (by decide) rfl dl_255 dl_256 dl_257 dl_258 dl_259 ?_
  refine lx_sc F hi hL (k := 4) (by decide) rfl dl_260 dl_261 dl_262 dl_263 dl_264 ?_
  refine lx_sc F hi hL (k := 5) (by decide) rfl dl_265 dl_266 dl_267 dl_268 dl_269 ?_
  refine lx_sb F hi hL (k := 6) (by decide) rfl dl_270 dl_271 dl_272 dl_274 dl_275 ?_
  refine lx_sb F hi hL (k := 7) (by decide) rfl dl_276 dl_277 dl_278 dl_280 dl_281 ?_
  refine lx_callMi F (as := [.inl (xs (i + 1)).toInt, .inl (xs (i + 2)).toInt, .inl (xs (i + 3)).toInt, .inl (xs (i + 4)).toInt, .inl (xs (i + 5)).toInt, .inl (xs (i + 6)).toInt, .inl (xs (i + 7)).toInt]) dl_282 ll_22 ⟨_, _, rfl⟩ rfl rfl (Nat.le_of_ble_eq_true rfl) ⟨by decide, by decide⟩ (ax_cc (v := .inl (xs (i + 1)).toInt) (lx_r _) (ax_cc (v := .inl (xs (i + 2)).toInt) (lx_r _) (ax_cc (v := .inl (xs (i + 3)).toInt) (lx_r _) (ax_cc (v := .inl (xs (i + 4)).toInt) (lx_r _) (ax_cc (v := .inl (xs (i + 5)).toInt) (lx_r _) (ax_cc (v := .inl (xs (i + 6)).toInt) (lx_r _) (ax_cc (v := .inl (xs (i + 7)).toInt) (lx_r _) lx_v0))))))) hp (fun r2 Y2 hp2 => ?_)
  obtain ⟨rfl, hJ⟩ := hp2
  exact lx_eqi F (tgt := 1019) dl_285 (by decide) (k _ _ hJ)
theorem lc_as (F : lx_F p s m meth c b L xs D ca aX aM) (hi : i + 8 ≤ L) (hL : L ≤ 4096) (hq : kX_as [.inr (.inr 0), .inl (xs (i + 1)).toInt, .inl (xs (i + 2)).toInt] X (fun r X2 => kM_as [.inr (.inr 0), .inl (xs (i + 1)).toInt, .inl (xs (i + 2)).toInt] Y (fun r2 Y2 => r2 = r ∧ J X2 Y2))) (k : ∀ X2 Y2, J X2 Y2 → lx_J p l e s m below meth c b D ca aX aM 1019 (lx_ls b aX aM i) [] X2 Y2) : lx_J p l e s m below meth c b D ca aX aM 290 (lx_ls b aX aM i) [] X Y := by
  refine lx_aload F 2 dl_290 rfl rfl ?_
  refine lx_sc F hi hL (k := 1) (by decide) rfl dl_291 dl_292 dl_293 dl_294 dl_295 ?_
  refine lx_sc F hi hL (k := 2) (by decide) rfl dl_296 dl_297 dl_298 dl_299 dl_300 ?_
  refine lx_callXi F (as := [.inl (xs (i + 1)).toInt, .inl (xs (i + 2)).toInt]) dl_301 ll_23 ⟨_, _, rfl⟩ rfl rfl (Nat.le_of_ble_eq_true rfl) ⟨by decide, by decide⟩ (ax_cc (v := .inl (xs (i + 1)).toInt) (lx_r _) (ax_cc (v := .inl (xs (i + 2)).toInt) (lx_r _) lx_v0)) hq (fun r X2 hp => ?_)
  refine lx_aload F 1 dl_304 rfl rfl ?_
  refine lx_sc F hi hL (k := 1) (by decide) rfl dl_305 dl_306 dl_307 dl_308 dl_309 ?_
  refine lx_sc F hi hL (k := 2) (by decide) rfl dl_310 dl_311 dl_312 dl_313 dl_314 ?_
  refine lx_callMi F (as := [.inl (xs (i + 1)).toInt, .inl (xs (i + 2)).toInt]) dl_315 ll_27 ⟨_, _, rfl⟩ rfl rfl (Nat.le_of_ble_eq_true rfl) ⟨by decide, by decide⟩ (ax_cc (v := .inl (xs (i + 1)).toInt) (lx_r _) (ax_cc (v := .inl (xs (i + 2)).toInt) (lx_r _) lx_v0)) hp (fun r2 Y2 hp2 => ?_)
  obtain ⟨rfl, hJ⟩ := hp2
  exact lx_eqi F (tgt := 1019) dl_318 (by decide) (k _ _ hJ)
theorem lc_about (F : lx_F p s m meth c b L xs D ca aX aM) (hi : i + 8 ≤ L) (hL : L ≤ 4096) (hq : kX_about [.inr (.inr 0), .inl (xs (i + 1)).toInt, .inl (xs (i + 2)).toInt] X (fun r X2 => kM_about [.inr (.inr 0), .inl (xs (i + 1)).toInt, .inl (xs (i + 2)).toInt] Y (fun r2 Y2 => r2 = r ∧ J X2 Y2))) (k : ∀ X2 Y2, J X2 Y2 → lx_J p l e s m below meth c b D ca aX aM 1019 (lx_ls b aX aM i) [] X2 Y2) : lx_J p l e s m below meth c b D ca aX aM 323 (lx_ls b aX aM i) [] X Y := by
  refine lx_aload F 2 dl_323 rfl rfl ?_
  refine lx_sc F hi hL (k := 1) (by decide) rfl dl_324 dl_325 dl_326 dl_327 dl_328 ?_
  refine lx_sc F hi hL (k := 2) (by decide) rfl dl_329 dl_330 dl_331 dl_332 dl_333 ?_
  refine lx_callXi F (as := [.inl (xs (i + 1)).toInt, .inl (xs (i + 2)).toInt]) dl_334 ll_28 ⟨_, _, rfl⟩ rfl rfl (Nat.le_of_ble_eq_true rfl) ⟨by decide, by decide⟩ (ax_cc (v := .inl (xs (i + 1)).toInt) (lx_r _) (ax_cc (v := .inl (xs (i + 2)).toInt) (lx_r _) lx_v0)) hq (fun r X2 hp => ?_)
  refine lx_aload F 1 dl_337 rfl rfl ?_
  refine lx_sc F hi hL (k := 1) (by decide) rfl dl_338 dl_339 dl_340 dl_341 dl_342 ?_
  refine lx_sc F hi hL (k := 2) (by decide) rfl dl_343 dl_344 dl_345 dl_346 dl_347 ?_
  refine lx_callMi F (as := [.inl (xs (i + 1)).toInt, .inl (xs (i + 2)).toInt]) dl_348 ll_31 ⟨_, _, rfl⟩ rfl rfl (Nat.le_of_ble_eq_true rfl) ⟨by decide, by decide⟩ (ax_cc (v := .inl (xs (i + 1)).toInt) (lx_r _) (ax_cc (v := .inl (xs (i + 2)).toInt) (lx_r _) lx_v0)) hp (fun r2 Y2 hp2 => ?_)
  obtain ⟨rfl, hJ⟩ := hp2
  exact lx_eqi F (tgt := 1019) dl_351 (by decide) (k _ _ hJ)
theorem lc_change (F : lx_F p s m meth c b L xs D ca aX aM) (hi : i + 8 ≤ L) (hL : L ≤ 4096) (hq : kX_change [.inr (.inr 0), .inl (xs (i + 1)).toInt, .inl (xs (i + 2)).toInt, .inl (xs (i + 3)).toInt] X (fun r X2 => kM_change [.inr (.inr 0), .inl (xs (i + 1)).toInt, .inl (xs (i + 2)).toInt, .inl (xs (i + 3)).toInt] Y (fun r2 Y2 => r2 = r ∧ J X2 Y2))) (k : ∀ X2 Y2, J X2 Y2 → lx_J p l e s m below meth c b D ca aX aM 1019 (lx_ls b aX aM i) [] X2 Y2) : lx_J p l e s m below meth c b D ca aX aM 356 (lx_ls b aX aM i) [] X Y := by
  refine lx_aload F 2 dl_356 rfl rfl ?_
  refine lx_sc F hi hL (k := 1) (by decide) rfl dl_357 dl_358 dl_359 dl_360 dl_361 ?_
  refine lx_sc F hi hL (k := 2) (by decide) rfl dl_362 dl_363 dl_364 dl_365 dl_366 ?_
  refine lx_sc F hi hL (k := 3) (by decide) rfl dl_367 dl_368 dl_369 dl_370 dl_371 ?_
  refine lx_callXi F (as := [.inl (xs (i + 1)).toInt, .inl (xs (i + 2)).toInt, .inl (xs (i + 3)).toInt]) dl_372 ll_32 ⟨_, _, rfl⟩ rfl rfl (Nat.le_of_ble_eq_true rfl) ⟨by decide, by decide⟩ (ax_cc (v := .inl (xs (i + 1)).toInt) (lx_r _) (ax_cc (v := .inl (xs (i + 2)).toInt) (lx_r _) (ax_cc (v := .inl (xs (i + 3)).toInt) (lx_r _) lx_v0))) hq (fun r X2 hp => ?_)
  refine lx_aload F 1 dl_375 rfl rfl ?_
  refine lx_sc F hi hL (k := 1) (by decide) rfl dl_376 dl_377 dl_378 dl_379 dl_380 ?_
  refine lx_sc F hi hL (k := 2) (by decide) rfl dl_381 dl_382 dl_383 dl_384 dl_385 ?_
  refine lx_sc F hi hL (k := 3) (by decide) rfl dl_386 dl_387 dl_388 dl_389 dl_390 ?_
  refine lx_callMi F (as := [.inl (xs (i + 1)).toInt, .inl (xs (i + 2)).toInt, .inl (xs (i + 3)).toInt]) dl_391 ll_35 ⟨_, _, rfl⟩ rfl rfl (Nat.le_of_ble_eq_true rfl) ⟨by decide, by decide⟩ (ax_cc (v := .inl (xs (i + 1)).toInt) (lx_r _) (ax_cc (v := .inl (xs (i + 2)).toInt) (lx_r _) (ax_cc (v := .inl (xs (i + 3)).toInt) (lx_r _) lx_v0))) hp (fun r2 Y2 hp2 => ?_)
  obtain ⟨rfl, hJ⟩ := hp2
  exact lx_eqi F (tgt := 1019) dl_394 (by decide) (k _ _ hJ)
theorem lc_letters (F : lx_F p s m meth c b L xs D ca aX aM) (hi : i + 8 ≤ L) (hL : L ≤ 4096) (hq : kX_letters [.inr (.inr 0), .inr (.inl (lx_w xs i).toInt)] X (fun r X2 => kM_letters [.inr (.inr 0), .inr (.inl (lx_w xs i).toInt)] Y (fun r2 Y2 => r2 = r ∧ J X2 Y2))) (k : ∀ X2 Y2, J X2 Y2 → lx_J p l e s m below meth c b D ca aX aM 1019 (lx_ls b aX aM i) [] X2 Y2) : lx_J p l e s m below meth c b D ca aX aM 399 (lx_ls b aX aM i) [] X Y := by
  refine lx_aload F 2 dl_399 rfl rfl ?_
  refine lx_sc F hi hL (k := 1) (by decide) rfl dl_400 dl_401 dl_402 dl_403 dl_404 ?_
  refine lx_i2l F dl_405 ?_
  refine lx_bipush F (v := 32) dl_406 (by decide) ?_
  refine lx_lshl F dl_408 ?_
  refine lx_sc F hi hL (k := 2) (by decide) rfl dl_409 dl_410 dl_411 dl_412 dl_413 ?_
  refine lx_i2l F dl_414 ?_
  refine lx_ldc2 F dl_415 nl_36 ?_
  refine lx_land F dl_418 ?_
  refine lx_lor F dl_419 ?_
  refine lx_tol ?_
  refine lx_callXi F (as := [.inr (.inl (lx_w xs i).toInt)]) dl_420 ll_38 ⟨_, _, rfl⟩ rfl rfl (Nat.le_of_ble_eq_true rfl) ⟨by decide, by decide⟩ (ax_cc (v := .inr (.inl (lx_w xs i).toInt)) trivial lx_v0) hq (fun r X2 hp => ?_)
  refine lx_aload F 1 dl_423 rfl rfl ?_
  refine lx_sc F hi hL (k := 1) (by decide) rfl dl_424 dl_425 dl_426 dl_427 dl_428 ?_
  refine lx_i2l F dl_429 ?_
  refine lx_bipush F (v := 32) dl_430 (by decide) ?_
  refine lx_lshl F dl_432 ?_
  refine lx_sc F hi hL (k := 2) (by decide) rfl dl_433 dl_434 dl_435 dl_436 dl_437 ?_
  refine lx_i2l F dl_438 ?_
  refine lx_ldc2 F dl_439 nl_36 ?_
  refine lx_land F dl_442 ?_
  refine lx_lor F dl_443 ?_
  refine lx_tol ?_
  refine lx_callMi F (as := [.inr (.inl (lx_w xs i).toInt)]) dl_444 ll_42 ⟨_, _, rfl⟩ rfl rfl (Nat.le_of_ble_eq_true rfl) ⟨by decide, by decide⟩ (ax_cc (v := .inr (.inl (lx_w xs i).toInt)) trivial lx_v0) hp (fun r2 Y2 hp2 => ?_)
  obtain ⟨rfl, hJ⟩ := hp2
  exact lx_eqi F (tgt := 1019) dl_447 (by decide) (k _ _ hJ)
theorem lc_blank (F : lx_F p s m meth c b L xs D ca aX aM) (hi : i + 8 ≤ L) (hL : L ≤ 4096) (hq : kX_blank [.inr (.inr 0)] X (fun r X2 => kM_blank [.inr (.inr 0)] Y (fun r2 Y2 => r2 = r ∧ J X2 Y2))) (k : ∀ X2 Y2, J X2 Y2 → lx_J p l e s m below meth c b D ca aX aM 1019 (lx_ls b aX aM i) [] X2 Y2) : lx_J p l e s m below meth c b D ca aX aM 452 (lx_ls b aX aM i) [] X Y := by
  refine lx_aload F 2 dl_452 rfl rfl ?_
  refine lx_callXi F (as := []) dl_453 ll_43 ⟨_, _, rfl⟩ rfl rfl (Nat.le_of_ble_eq_true rfl) ⟨by decide, by decide⟩ lx_v0 hq (fun r X2 hp => ?_)
  refine lx_aload F 1 dl_456 rfl rfl ?_
  refine lx_callMi F (as := []) dl_457 ll_47 ⟨_, _, rfl⟩ rfl rfl (Nat.le_of_ble_eq_true rfl) ⟨by decide, by decide⟩ lx_v0 hp (fun r2 Y2 hp2 => ?_)
  obtain ⟨rfl, hJ⟩ := hp2
  exact lx_eqi F (tgt := 1019) dl_460 (by decide) (k _ _ hJ)
theorem lc_fault (F : lx_F p s m meth c b L xs D ca aX aM) (hi : i + 8 ≤ L) (hL : L ≤ 4096) (hq : kX_fault [.inr (.inr 0)] X (fun r X2 => kM_fault [.inr (.inr 0)] Y (fun r2 Y2 => r2 = r ∧ J X2 Y2))) (k : ∀ X2 Y2, J X2 Y2 → lx_J p l e s m below meth c b D ca aX aM 1019 (lx_ls b aX aM i) [] X2 Y2) : lx_J p l e s m below meth c b D ca aX aM 465 (lx_ls b aX aM i) [] X Y := by
  refine lx_aload F 2 dl_465 rfl rfl ?_
  refine lx_callXi F (as := []) dl_466 ll_48 ⟨_, _, rfl⟩ rfl rfl (Nat.le_of_ble_eq_true rfl) ⟨by decide, by decide⟩ lx_v0 hq (fun r X2 hp => ?_)
  refine lx_aload F 1 dl_469 rfl rfl ?_
  refine lx_callMi F (as := []) dl_470 ll_51 ⟨_, _, rfl⟩ rfl rfl (Nat.le_of_ble_eq_true rfl) ⟨by decide, by decide⟩ lx_v0 hp (fun r2 Y2 hp2 => ?_)
  obtain ⟨rfl, hJ⟩ := hp2
  exact lx_eqi F (tgt := 1019) dl_473 (by decide) (k _ _ hJ)
theorem lc_call (F : lx_F p s m meth c b L xs D ca aX aM) (hi : i + 8 ≤ L) (hL : L ≤ 4096) (hq : kX_call [.inr (.inr 0)] X (fun r X2 => kM_call [.inr (.inr 0)] Y (fun r2 Y2 => r2 = r ∧ J X2 Y2))) (k : ∀ X2 Y2, J X2 Y2 → lx_J p l e s m below meth c b D ca aX aM 1019 (lx_ls b aX aM i) [] X2 Y2) : lx_J p l e s m below meth c b D ca aX aM 478 (lx_ls b aX aM i) [] X Y := by
  refine lx_aload F 2 dl_478 rfl rfl ?_
  refine lx_callXi F (as := []) dl_479 ll_52 ⟨_, _, rfl⟩ rfl rfl (Nat.le_of_ble_eq_true rfl) ⟨by decide, by decide⟩ lx_v0 hq (fun r X2 hp => ?_)
  refine lx_aload F 1 dl_482 rfl rfl ?_
  refine lx_callMi F (as := []) dl_483 ll_55 ⟨_, _, rfl⟩ rfl rfl (Nat.le_of_ble_eq_true rfl) ⟨by decide, by decide⟩ lx_v0 hp (fun r2 Y2 hp2 => ?_)
  obtain ⟨rfl, hJ⟩ := hp2
  exact lx_eqi F (tgt := 1019) dl_486 (by decide) (k _ _ hJ)
theorem lc_order (F : lx_F p s m meth c b L xs D ca aX aM) (hi : i + 8 ≤ L) (hL : L ≤ 4096) (hq : kX_order [.inr (.inr 0), .inl (xs (i + 1)).toInt, .inl (xs (i + 2)).toInt] X (fun r X2 => kM_order [.inr (.inr 0), .inl (xs (i + 1)).toInt, .inl (xs (i + 2)).toInt] Y (fun r2 Y2 => r2 = r ∧ J X2 Y2))) (k : ∀ X2 Y2, J X2 Y2 → lx_J p l e s m below meth c b D ca aX aM 1019 (lx_ls b aX aM i) [] X2 Y2) : lx_J p l e s m below meth c b D ca aX aM 491 (lx_ls b aX aM i) [] X Y := by
  refine lx_aload F 2 dl_491 rfl rfl ?_
  refine lx_sc F hi hL (k := 1) (by decide) rfl dl_492 dl_493 dl_494 dl_495 dl_496 ?_
  refine lx_sc F hi hL (k := 2) (by decide) rfl dl_497 dl_498 dl_499 dl_500 dl_501 ?_
  refine lx_callXi F (as := [.inl (xs (i + 1)).toInt, .inl (xs (i + 2)).toInt]) dl_502 ll_56 ⟨_, _, rfl⟩ rfl rfl (Nat.le_of_ble_eq_true rfl) ⟨by decide, by decide⟩ (ax_cc (v := .inl (xs (i + 1)).toInt) (lx_r _) (ax_cc (v := .inl (xs (i + 2)).toInt) (lx_r _) lx_v0)) hq (fun r X2 hp => ?_)
  refine lx_aload F 1 dl_505 rfl rfl ?_
  refine lx_sc F hi hL (k := 1) (by decide) rfl dl_506 dl_507 dl_508 dl_509 dl_510 ?_
  refine lx_sc F hi hL (k := 2) (by decide) rfl dl_511 dl_512 dl_513 dl_514 dl_515 ?_
  refine lx_callMi F (as := [.inl (xs (i + 1)).toInt, .inl (xs (i + 2)).toInt]) dl_516 ll_59 ⟨_, _, rfl⟩ rfl rfl (Nat.le_of_ble_eq_true rfl) ⟨by decide, by decide⟩ (ax_cc (v := .inl (xs (i + 1)).toInt) (lx_r _) (ax_cc (v := .inl (xs (i + 2)).toInt) (lx_r _) lx_v0)) hp (fun r2 Y2 hp2 => ?_)
  obtain ⟨rfl, hJ⟩ := hp2
  exact lx_eqi F (tgt := 1019) dl_519 (by decide) (k _ _ hJ)
theorem lc_board (F : lx_F p s m meth c b L xs D ca aX aM) (hi : i + 8 ≤ L) (hL : L ≤ 4096) (hq : kX_board [.inr (.inr 0), .inl (xs (i + 1)).toInt, .inl (xs (i + 2)).toInt] X (fun r X2 => kM_board [.inr (.inr 0), .inl (xs (i + 1)).toInt, .inl (xs (i + 2)).toInt] Y (fun r2 Y2 => r2 = r ∧ J X2 Y2))) (k : ∀ X2 Y2, J X2 Y2 → lx_J p l e s m below meth c b D ca aX aM 1019 (lx_ls b aX aM i) [] X2 Y2) : lx_J p l e s m below meth c b D ca aX aM 524 (lx_ls b aX aM i) [] X Y := by
  refine lx_aload F 2 dl_524 rfl rfl ?_
  refine lx_sc F hi hL (k := 1) (by decide) rfl dl_525 dl_526 dl_527 dl_528 dl_529 ?_
  refine lx_sc F hi hL (k := 2) (by decide) rfl dl_530 dl_531 dl_532 dl_533 dl_534 ?_
  refine lx_callXi F (as := [.inl (xs (i + 1)).toInt, .inl (xs (i + 2)).toInt]) dl_535 ll_60 ⟨_, _, rfl⟩ rfl rfl (Nat.le_of_ble_eq_true rfl) ⟨by decide, by decide⟩ (ax_cc (v := .inl (xs (i + 1)).toInt) (lx_r _) (ax_cc (v := .inl (xs (i + 2)).toInt) (lx_r _) lx_v0)) hq (fun r X2 hp => ?_)
  refine lx_aload F 1 dl_538 rfl rfl ?_
  refine lx_sc F hi hL (k := 1) (by decide) rfl dl_539 dl_540 dl_541 dl_542 dl_543 ?_
  refine lx_sc F hi hL (k := 2) (by decide) rfl dl_544 dl_545 dl_546 dl_547 dl_548 ?_
  refine lx_callMi F (as := [.inl (xs (i + 1)).toInt, .inl (xs (i + 2)).toInt]) dl_549 ll_63 ⟨_, _, rfl⟩ rfl rfl (Nat.le_of_ble_eq_true rfl) ⟨by decide, by decide⟩ (ax_cc (v := .inl (xs (i + 1)).toInt) (lx_r _) (ax_cc (v := .inl (xs (i + 2)).toInt) (lx_r _) lx_v0)) hp (fun r2 Y2 hp2 => ?_)
  obtain ⟨rfl, hJ⟩ := hp2
  exact lx_eqi F (tgt := 1019) dl_552 (by decide) (k _ _ hJ)
theorem lc_sits (F : lx_F p s m meth c b L xs D ca aX aM) (hi : i + 8 ≤ L) (hL : L ≤ 4096) (hq : kX_sits [.inr (.inr 0), .inl (xs (i + 1)).toInt, .inl (xs (i + 2)).toInt, .inl (xs (i + 3)).toInt] X (fun r X2 => kM_sits [.inr (.inr 0), .inl (xs (i + 1)).toInt, .inl (xs (i + 2)).toInt, .inl (xs (i + 3)).toInt] Y (fun r2 Y2 => r2 = r ∧ J X2 Y2))) (k : ∀ X2 Y2, J X2 Y2 → lx_J p l e s m below meth c b D ca aX aM 1019 (lx_ls b aX aM i) [] X2 Y2) : lx_J p l e s m below meth c b D ca aX aM 557 (lx_ls b aX aM i) [] X Y := by
  refine lx_aload F 2 dl_557 rfl rfl ?_
  refine lx_sc F hi hL (k := 1) (by decide) rfl dl_558 dl_559 dl_560 dl_561 dl_562 ?_
  refine lx_sc F hi hL (k := 2) (by decide) rfl dl_563 dl_564 dl_565 dl_566 dl_567 ?_
  refine lx_sc F hi hL (k := 3) (by decide) rfl dl_568 dl_569 dl_570 dl_571 dl_572 ?_
  refine lx_callXi F (as := [.inl (xs (i + 1)).toInt, .inl (xs (i + 2)).toInt, .inl (xs (i + 3)).toInt]) dl_573 ll_64 ⟨_, _, rfl⟩ rfl rfl (Nat.le_of_ble_eq_true rfl) ⟨by decide, by decide⟩ (ax_cc (v := .inl (xs (i + 1)).toInt) (lx_r _) (ax_cc (v := .inl (xs (i + 2)).toInt) (lx_r _) (ax_cc (v := .inl (xs (i + 3)).toInt) (lx_r _) lx_v0))) hq (fun r X2 hp => ?_)
  refine lx_aload F 1 dl_576 rfl rfl ?_
  refine lx_sc F hi hL (k := 1) (by decide) rfl dl_577 dl_578 dl_579 dl_580 dl_581 ?_
  refine lx_sc F hi hL (k := 2) (by decide) rfl dl_582 dl_583 dl_584 dl_585 dl_586 ?_
  refine lx_sc F hi hL (k := 3) (by decide) rfl dl_587 dl_588 dl_589 dl_590 dl_591 ?_
  refine lx_callMi F (as := [.inl (xs (i + 1)).toInt, .inl (xs (i + 2)).toInt, .inl (xs (i + 3)).toInt]) dl_592 ll_67 ⟨_, _, rfl⟩ rfl rfl (Nat.le_of_ble_eq_true rfl) ⟨by decide, by decide⟩ (ax_cc (v := .inl (xs (i + 1)).toInt) (lx_r _) (ax_cc (v := .inl (xs (i + 2)).toInt) (lx_r _) (ax_cc (v := .inl (xs (i + 3)).toInt) (lx_r _) lx_v0))) hp (fun r2 Y2 hp2 => ?_)
  obtain ⟨rfl, hJ⟩ := hp2
  exact lx_eqi F (tgt := 1019) dl_595 (by decide) (k _ _ hJ)
theorem lc_stands (F : lx_F p s m meth c b L xs D ca aX aM) (hi : i + 8 ≤ L) (hL : L ≤ 4096) (hq : kX_stands [.inr (.inr 0), .inl (xs (i + 1)).toInt, .inl (xs (i + 2)).toInt, .inl (xs (i + 3)).toInt] X (fun r X2 => kM_stands [.inr (.inr 0), .inl (xs (i + 1)).toInt, .inl (xs (i + 2)).toInt, .inl (xs (i + 3)).toInt] Y (fun r2 Y2 => r2 = r ∧ J X2 Y2))) (k : ∀ X2 Y2, J X2 Y2 → lx_J p l e s m below meth c b D ca aX aM 1019 (lx_ls b aX aM i) [] X2 Y2) : lx_J p l e s m below meth c b D ca aX aM 600 (lx_ls b aX aM i) [] X Y := by
  refine lx_aload F 2 dl_600 rfl rfl ?_
  refine lx_sc F hi hL (k := 1) (by decide) rfl dl_601 dl_602 dl_603 dl_604 dl_605 ?_
  refine lx_sc F hi hL (k := 2) (by decide) rfl dl_606 dl_607 dl_608 dl_609 dl_610 ?_
  refine lx_sc F hi hL (k := 3) (by decide) rfl dl_611 dl_612 dl_613 dl_614 dl_615 ?_
  refine lx_callXi F (as := [.inl (xs (i + 1)).toInt, .inl (xs (i + 2)).toInt, .inl (xs (i + 3)).toInt]) dl_616 ll_68 ⟨_, _, rfl⟩ rfl rfl (Nat.le_of_ble_eq_true rfl) ⟨by decide, by decide⟩ (ax_cc (v := .inl (xs (i + 1)).toInt) (lx_r _) (ax_cc (v := .inl (xs (i + 2)).toInt) (lx_r _) (ax_cc (v := .inl (xs (i + 3)).toInt) (lx_r _) lx_v0))) hq (fun r X2 hp => ?_)
  refine lx_aload F 1 dl_619 rfl rfl ?_
  refine lx_sc F hi hL (k := 1) (by decide) rfl dl_620 dl_621 dl_622 dl_623 dl_624 ?_
  refine lx_sc F hi hL (k := 2) (by decide) rfl dl_625 dl_626 dl_627 dl_628 dl_629 ?_
  refine lx_sc F hi hL (k := 3) (by decide) rfl dl_630 dl_631 dl_632 dl_633 dl_634 ?_
  refine lx_callMi F (as := [.inl (xs (i + 1)).toInt, .inl (xs (i + 2)).toInt, .inl (xs (i + 3)).toInt]) dl_635 ll_71 ⟨_, _, rfl⟩ rfl rfl (Nat.le_of_ble_eq_true rfl) ⟨by decide, by decide⟩ (ax_cc (v := .inl (xs (i + 1)).toInt) (lx_r _) (ax_cc (v := .inl (xs (i + 2)).toInt) (lx_r _) (ax_cc (v := .inl (xs (i + 3)).toInt) (lx_r _) lx_v0))) hp (fun r2 Y2 hp2 => ?_)
  obtain ⟨rfl, hJ⟩ := hp2
  exact lx_eqi F (tgt := 1019) dl_638 (by decide) (k _ _ hJ)
theorem lc_least (F : lx_F p s m meth c b L xs D ca aX aM) (hi : i + 8 ≤ L) (hL : L ≤ 4096) (hq : kX_least [.inr (.inr 0)] X (fun r X2 => kM_least [.inr (.inr 0)] Y (fun r2 Y2 => r2 = r ∧ J X2 Y2))) (k : ∀ X2 Y2, J X2 Y2 → lx_J p l e s m below meth c b D ca aX aM 1019 (lx_ls b aX aM i) [] X2 Y2) : lx_J p l e s m below meth c b D ca aX aM 643 (lx_ls b aX aM i) [] X Y := by
  refine lx_aload F 2 dl_643 rfl rfl ?_
  refine lx_callXi F (as := []) dl_644 ll_72 ⟨_, _, rfl⟩ rfl rfl (Nat.le_of_ble_eq_true rfl) ⟨by decide, by decide⟩ lx_v0 hq (fun r X2 hp => ?_)
  refine lx_aload F 1 dl_647 rfl rfl ?_
  refine lx_callMi F (as := []) dl_648 ll_75 ⟨_, _, rfl⟩ rfl rfl (Nat.le_of_ble_eq_true rfl) ⟨by decide, by decide⟩ lx_v0 hp (fun r2 Y2 hp2 => ?_)
  obtain ⟨rfl, hJ⟩ := hp2
  exact lx_eqi F (tgt := 1019) dl_651 (by decide) (k _ _ hJ)
theorem lc_bestOrder (F : lx_F p s m meth c b L xs D ca aX aM) (hi : i + 8 ≤ L) (hL : L ≤ 4096) (hq : kX_bestOrder [.inr (.inr 0), .inl (xs (i + 1)).toInt] X (fun r X2 => kM_bestOrder [.inr (.inr 0), .inl (xs (i + 1)).toInt] Y (fun r2 Y2 => r2 = r ∧ J X2 Y2))) (k : ∀ X2 Y2, J X2 Y2 → lx_J p l e s m below meth c b D ca aX aM 1019 (lx_ls b aX aM i) [] X2 Y2) : lx_J p l e s m below meth c b D ca aX aM 656 (lx_ls b aX aM i) [] X Y := by
  refine lx_aload F 2 dl_656 rfl rfl ?_
  refine lx_sc F hi hL (k := 1) (by decide) rfl dl_657 dl_658 dl_659 dl_660 dl_661 ?_
  refine lx_callXi F (as := [.inl (xs (i + 1)).toInt]) dl_662 ll_76 ⟨_, _, rfl⟩ rfl rfl (Nat.le_of_ble_eq_true rfl) ⟨by decide, by decide⟩ (ax_cc (v := .inl (xs (i + 1)).toInt) (lx_r _) lx_v0) hq (fun r X2 hp => ?_)
  refine lx_aload F 1 dl_665 rfl rfl ?_
  refine lx_sc F hi hL (k := 1) (by decide) rfl dl_666 dl_667 dl_668 dl_669 dl_670 ?_
  refine lx_callMi F (as := [.inl (xs (i + 1)).toInt]) dl_671 ll_80 ⟨_, _, rfl⟩ rfl rfl (Nat.le_of_ble_eq_true rfl) ⟨by decide, by decide⟩ (ax_cc (v := .inl (xs (i + 1)).toInt) (lx_r _) lx_v0) hp (fun r2 Y2 hp2 => ?_)
  obtain ⟨rfl, hJ⟩ := hp2
  exact lx_eqi F (tgt := 1019) dl_674 (by decide) (k _ _ hJ)
theorem lc_swap (F : lx_F p s m meth c b L xs D ca aX aM) (hi : i + 8 ≤ L) (hL : L ≤ 4096) (hq : kX_swap [.inr (.inr 0), .inl (xs (i + 1)).toInt] X (fun r X2 => kM_swap [.inr (.inr 0), .inl (xs (i + 1)).toInt] Y (fun r2 Y2 => r2 = r ∧ J X2 Y2))) (k : ∀ X2 Y2, J X2 Y2 → lx_J p l e s m below meth c b D ca aX aM 1019 (lx_ls b aX aM i) [] X2 Y2) : lx_J p l e s m below meth c b D ca aX aM 679 (lx_ls b aX aM i) [] X Y := by
  refine lx_aload F 2 dl_679 rfl rfl ?_
  refine lx_sc F hi hL (k := 1) (by decide) rfl dl_680 dl_681 dl_682 dl_683 dl_684 ?_
  refine lx_callXi F (as := [.inl (xs (i + 1)).toInt]) dl_685 ll_81 ⟨_, _, rfl⟩ rfl rfl (Nat.le_of_ble_eq_true rfl) ⟨by decide, by decide⟩ (ax_cc (v := .inl (xs (i + 1)).toInt) (lx_r _) lx_v0) hq (fun r X2 hp => ?_)
  refine lx_aload F 1 dl_688 rfl rfl ?_
  refine lx_sc F hi hL (k := 1) (by decide) rfl dl_689 dl_690 dl_691 dl_692 dl_693 ?_
  refine lx_callMi F (as := [.inl (xs (i + 1)).toInt]) dl_694 ll_84 ⟨_, _, rfl⟩ rfl rfl (Nat.le_of_ble_eq_true rfl) ⟨by decide, by decide⟩ (ax_cc (v := .inl (xs (i + 1)).toInt) (lx_r _) lx_v0) hp (fun r2 Y2 hp2 => ?_)
  obtain ⟨rfl, hJ⟩ := hp2
  exact lx_eqi F (tgt := 1019) dl_697 (by decide) (k _ _ hJ)
theorem lc_later (F : lx_F p s m meth c b L xs D ca aX aM) (hi : i + 8 ≤ L) (hL : L ≤ 4096) (hq : kX_later [.inr (.inr 0), .inl (xs (i + 1)).toInt, .inl (xs (i + 2)).toInt] X (fun r X2 => kM_later [.inr (.inr 0), .inl (xs (i + 1)).toInt, .inl (xs (i + 2)).toInt] Y (fun r2 Y2 => r2 = r ∧ J X2 Y2))) (k : ∀ X2 Y2, J X2 Y2 → lx_J p l e s m below meth c b D ca aX aM 1019 (lx_ls b aX aM i) [] X2 Y2) : lx_J p l e s m below meth c b D ca aX aM 702 (lx_ls b aX aM i) [] X Y := by
  refine lx_aload F 2 dl_702 rfl rfl ?_
  refine lx_sc F hi hL (k := 1) (by decide) rfl dl_703 dl_704 dl_705 dl_706 dl_707 ?_
  refine lx_sc F hi hL (k := 2) (by decide) rfl dl_708 dl_709 dl_710 dl_711 dl_712 ?_
  refine lx_callXi F (as := [.inl (xs (i + 1)).toInt, .inl (xs (i + 2)).toInt]) dl_713 ll_85 ⟨_, _, rfl⟩ rfl rfl (Nat.le_of_ble_eq_true rfl) ⟨by decide, by decide⟩ (ax_cc (v := .inl (xs (i + 1)).toInt) (lx_r _) (ax_cc (v := .inl (xs (i + 2)).toInt) (lx_r _) lx_v0)) hq (fun r X2 hp => ?_)
  refine lx_aload F 1 dl_716 rfl rfl ?_
  refine lx_sc F hi hL (k := 1) (by decide) rfl dl_717 dl_718 dl_719 dl_720 dl_721 ?_
  refine lx_sc F hi hL (k := 2) (by decide) rfl dl_722 dl_723 dl_724 dl_725 dl_726 ?_
  refine lx_callMi F (as := [.inl (xs (i + 1)).toInt, .inl (xs (i + 2)).toInt]) dl_727 ll_88 ⟨_, _, rfl⟩ rfl rfl (Nat.le_of_ble_eq_true rfl) ⟨by decide, by decide⟩ (ax_cc (v := .inl (xs (i + 1)).toInt) (lx_r _) (ax_cc (v := .inl (xs (i + 2)).toInt) (lx_r _) lx_v0)) hp (fun r2 Y2 hp2 => ?_)
  obtain ⟨rfl, hJ⟩ := hp2
  exact lx_eqi F (tgt := 1019) dl_730 (by decide) (k _ _ hJ)
theorem lc_bound (F : lx_F p s m meth c b L xs D ca aX aM) (hi : i + 8 ≤ L) (hL : L ≤ 4096) (hq : kX_bound [.inr (.inr 0), .inl (xs (i + 1)).toInt, .inl (xs (i + 2)).toInt] X (fun r X2 => kM_bound [.inr (.inr 0), .inl (xs (i + 1)).toInt, .inl (xs (i + 2)).toInt] Y (fun r2 Y2 => r2 = r ∧ J X2 Y2))) (k : ∀ X2 Y2, J X2 Y2 → lx_J p l e s m below meth c b D ca aX aM 1019 (lx_ls b aX aM i) [] X2 Y2) : lx_J p l e s m below meth c b D ca aX aM 735 (lx_ls b aX aM i) [] X Y := by
  refine lx_aload F 2 dl_735 rfl rfl ?_
  refine lx_sc F hi hL (k := 1) (by decide) rfl dl_736 dl_737 dl_738 dl_739 dl_740 ?_
  refine lx_sc F hi hL (k := 2) (by decide) rfl dl_741 dl_742 dl_743 dl_744 dl_745 ?_
  refine lx_callXi F (as := [.inl (xs (i + 1)).toInt, .inl (xs (i + 2)).toInt]) dl_746 ll_89 ⟨_, _, rfl⟩ rfl rfl (Nat.le_of_ble_eq_true rfl) ⟨by decide, by decide⟩ (ax_cc (v := .inl (xs (i + 1)).toInt) (lx_r _) (ax_cc (v := .inl (xs (i + 2)).toInt) (lx_r _) lx_v0)) hq (fun r X2 hp => ?_)
  refine lx_aload F 1 dl_749 rfl rfl ?_
  refine lx_sc F hi hL (k := 1) (by decide) rfl dl_750 dl_751 dl_752 dl_753 dl_754 ?_
  refine lx_sc F hi hL (k := 2) (by decide) rfl dl_755 dl_756 dl_757 dl_758 dl_759 ?_
  refine lx_callMi F (as := [.inl (xs (i + 1)).toInt, .inl (xs (i + 2)).toInt]) dl_760 ll_92 ⟨_, _, rfl⟩ rfl rfl (Nat.le_of_ble_eq_true rfl) ⟨by decide, by decide⟩ (ax_cc (v := .inl (xs (i + 1)).toInt) (lx_r _) (ax_cc (v := .inl (xs (i + 2)).toInt) (lx_r _) lx_v0)) hp (fun r2 Y2 hp2 => ?_)
  obtain ⟨rfl, hJ⟩ := hp2
  exact lx_eqi F (tgt := 1019) dl_763 (by decide) (k _ _ hJ)
theorem lc_doors (F : lx_F p s m meth c b L xs D ca aX aM) (hi : i + 8 ≤ L) (hL : L ≤ 4096) (hq : kX_doors [.inr (.inr 0), .inl (xs (i + 1)).toInt] X (fun r X2 => kM_doors [.inr (.inr 0), .inl (xs (i + 1)).toInt] Y (fun r2 Y2 => r2 = r ∧ J X2 Y2))) (k : ∀ X2 Y2, J X2 Y2 → lx_J p l e s m below meth c b D ca aX aM 1019 (lx_ls b aX aM i) [] X2 Y2) : lx_J p l e s m below meth c b D ca aX aM 768 (lx_ls b aX aM i) [] X Y := by
  refine lx_aload F 2 dl_768 rfl rfl ?_
  refine lx_sc F hi hL (k := 1) (by decide) rfl dl_769 dl_770 dl_771 dl_772 dl_773 ?_
  refine lx_callXi F (as := [.inl (xs (i + 1)).toInt]) dl_774 ll_93 ⟨_, _, rfl⟩ rfl rfl (Nat.le_of_ble_eq_true rfl) ⟨by decide, by decide⟩ (ax_cc (v := .inl (xs (i + 1)).toInt) (lx_r _) lx_v0) hq (fun r X2 hp => ?_)
  refine lx_aload F 1 dl_777 rfl rfl ?_
  refine lx_sc F hi hL (k := 1) (by decide) rfl dl_778 dl_779 dl_780 dl_781 dl_782 ?_
  refine lx_callMi F (as := [.inl (xs (i + 1)).toInt]) dl_783 ll_96 ⟨_, _, rfl⟩ rfl rfl (Nat.le_of_ble_eq_true rfl) ⟨by decide, by decide⟩ (ax_cc (v := .inl (xs (i + 1)).toInt) (lx_r _) lx_v0) hp (fun r2 Y2 hp2 => ?_)
  obtain ⟨rfl, hJ⟩ := hp2
  exact lx_eqi F (tgt := 1019) dl_786 (by decide) (k _ _ hJ)
theorem lc_mixed (F : lx_F p s m meth c b L xs D ca aX aM) (hi : i + 8 ≤ L) (hL : L ≤ 4096) (hq : kX_mixed [.inr (.inr 0), .inl (xs (i + 1)).toInt, .inl (xs (i + 2)).toInt, .inl (xs (i + 3)).toInt] X (fun r X2 => kM_mixed [.inr (.inr 0), .inl (xs (i + 1)).toInt, .inl (xs (i + 2)).toInt, .inl (xs (i + 3)).toInt] Y (fun r2 Y2 => r2 = r ∧ J X2 Y2))) (k : ∀ X2 Y2, J X2 Y2 → lx_J p l e s m below meth c b D ca aX aM 1019 (lx_ls b aX aM i) [] X2 Y2) : lx_J p l e s m below meth c b D ca aX aM 791 (lx_ls b aX aM i) [] X Y := by
  refine lx_aload F 2 dl_791 rfl rfl ?_
  refine lx_sc F hi hL (k := 1) (by decide) rfl dl_792 dl_793 dl_794 dl_795 dl_796 ?_
  refine lx_sc F hi hL (k := 2) (by decide) rfl dl_797 dl_798 dl_799 dl_800 dl_801 ?_
  refine lx_sc F hi hL (k := 3) (by decide) rfl dl_802 dl_803 dl_804 dl_805 dl_806 ?_
  refine lx_callXi F (as := [.inl (xs (i + 1)).toInt, .inl (xs (i + 2)).toInt, .inl (xs (i + 3)).toInt]) dl_807 ll_97 ⟨_, _, rfl⟩ rfl rfl (Nat.le_of_ble_eq_true rfl) ⟨by decide, by decide⟩ (ax_cc (v := .inl (xs (i + 1)).toInt) (lx_r _) (ax_cc (v := .inl (xs (i + 2)).toInt) (lx_r _) (ax_cc (v := .inl (xs (i + 3)).toInt) (lx_r _) lx_v0))) hq (fun r X2 hp => ?_)
  refine lx_aload F 1 dl_810 rfl rfl ?_
  refine lx_sc F hi hL (k := 1) (by decide) rfl dl_811 dl_812 dl_813 dl_814 dl_815 ?_
  refine lx_sc F hi hL (k := 2) (by decide) rfl dl_816 dl_817 dl_818 dl_819 dl_820 ?_
  refine lx_sc F hi hL (k := 3) (by decide) rfl dl_821 dl_822 dl_823 dl_824 dl_825 ?_
  refine lx_callMi F (as := [.inl (xs (i + 1)).toInt, .inl (xs (i + 2)).toInt, .inl (xs (i + 3)).toInt]) dl_826 ll_100 ⟨_, _, rfl⟩ rfl rfl (Nat.le_of_ble_eq_true rfl) ⟨by decide, by decide⟩ (ax_cc (v := .inl (xs (i + 1)).toInt) (lx_r _) (ax_cc (v := .inl (xs (i + 2)).toInt) (lx_r _) (ax_cc (v := .inl (xs (i + 3)).toInt) (lx_r _) lx_v0))) hp (fun r2 Y2 hp2 => ?_)
  obtain ⟨rfl, hJ⟩ := hp2
  exact lx_eqi F (tgt := 1019) dl_829 (by decide) (k _ _ hJ)
theorem lc_out (F : lx_F p s m meth c b L xs D ca aX aM) (hi : i + 8 ≤ L) (hL : L ≤ 4096) (hq : kX_out [.inr (.inr 0), .inl (xs (i + 1)).toInt] X (fun r X2 => kM_out [.inr (.inr 0), .inl (xs (i + 1)).toInt] Y (fun r2 Y2 => r2 = r ∧ J X2 Y2))) (k : ∀ X2 Y2, J X2 Y2 → lx_J p l e s m below meth c b D ca aX aM 1019 (lx_ls b aX aM i) [] X2 Y2) : lx_J p l e s m below meth c b D ca aX aM 834 (lx_ls b aX aM i) [] X Y := by
  refine lx_aload F 2 dl_834 rfl rfl ?_
  refine lx_sc F hi hL (k := 1) (by decide) rfl dl_835 dl_836 dl_837 dl_838 dl_839 ?_
  refine lx_callXi F (as := [.inl (xs (i + 1)).toInt]) dl_840 ll_101 ⟨_, _, rfl⟩ rfl rfl (Nat.le_of_ble_eq_true rfl) ⟨by decide, by decide⟩ (ax_cc (v := .inl (xs (i + 1)).toInt) (lx_r _) lx_v0) hq (fun r X2 hp => ?_)
  refine lx_aload F 1 dl_843 rfl rfl ?_
  refine lx_sc F hi hL (k := 1) (by decide) rfl dl_844 dl_845 dl_846 dl_847 dl_848 ?_
  refine lx_callMi F (as := [.inl (xs (i + 1)).toInt]) dl_849 ll_104 ⟨_, _, rfl⟩ rfl rfl (Nat.le_of_ble_eq_true rfl) ⟨by decide, by decide⟩ (ax_cc (v := .inl (xs (i + 1)).toInt) (lx_r _) lx_v0) hp (fun r2 Y2 hp2 => ?_)
  obtain ⟨rfl, hJ⟩ := hp2
  exact lx_eqi F (tgt := 1019) dl_852 (by decide) (k _ _ hJ)
theorem lc_outOf (F : lx_F p s m meth c b L xs D ca aX aM) (hi : i + 8 ≤ L) (hL : L ≤ 4096) (hq : kX_outOf [.inr (.inr 0), .inl (xs (i + 1)).toInt, .inl (xs (i + 2)).toInt] X (fun r X2 => kM_outOf [.inr (.inr 0), .inl (xs (i + 1)).toInt, .inl (xs (i + 2)).toInt] Y (fun r2 Y2 => r2 = r ∧ J X2 Y2))) (k : ∀ X2 Y2, J X2 Y2 → lx_J p l e s m below meth c b D ca aX aM 1019 (lx_ls b aX aM i) [] X2 Y2) : lx_J p l e s m below meth c b D ca aX aM 857 (lx_ls b aX aM i) [] X Y := by
  refine lx_aload F 2 dl_857 rfl rfl ?_
  refine lx_sc F hi hL (k := 1) (by decide) rfl dl_858 dl_859 dl_860 dl_861 dl_862 ?_
  refine lx_sc F hi hL (k := 2) (by decide) rfl dl_863 dl_864 dl_865 dl_866 dl_867 ?_
  refine lx_callXi F (as := [.inl (xs (i + 1)).toInt, .inl (xs (i + 2)).toInt]) dl_868 ll_105 ⟨_, _, rfl⟩ rfl rfl (Nat.le_of_ble_eq_true rfl) ⟨by decide, by decide⟩ (ax_cc (v := .inl (xs (i + 1)).toInt) (lx_r _) (ax_cc (v := .inl (xs (i + 2)).toInt) (lx_r _) lx_v0)) hq (fun r X2 hp => ?_)
  refine lx_aload F 1 dl_871 rfl rfl ?_
  refine lx_sc F hi hL (k := 1) (by decide) rfl dl_872 dl_873 dl_874 dl_875 dl_876 ?_
  refine lx_sc F hi hL (k := 2) (by decide) rfl dl_877 dl_878 dl_879 dl_880 dl_881 ?_
  refine lx_callMi F (as := [.inl (xs (i + 1)).toInt, .inl (xs (i + 2)).toInt]) dl_882 ll_108 ⟨_, _, rfl⟩ rfl rfl (Nat.le_of_ble_eq_true rfl) ⟨by decide, by decide⟩ (ax_cc (v := .inl (xs (i + 1)).toInt) (lx_r _) (ax_cc (v := .inl (xs (i + 2)).toInt) (lx_r _) lx_v0)) hp (fun r2 Y2 hp2 => ?_)
  obtain ⟨rfl, hJ⟩ := hp2
  exact lx_eqi F (tgt := 1019) dl_885 (by decide) (k _ _ hJ)
theorem lc_missed (F : lx_F p s m meth c b L xs D ca aX aM) (hi : i + 8 ≤ L) (hL : L ≤ 4096) (hq : kX_missed [.inr (.inr 0), .inl (xs (i + 1)).toInt] X (fun r X2 => kM_missed [.inr (.inr 0), .inl (xs (i + 1)).toInt] Y (fun r2 Y2 => r2 = r ∧ J X2 Y2))) (k : ∀ X2 Y2, J X2 Y2 → lx_J p l e s m below meth c b D ca aX aM 1019 (lx_ls b aX aM i) [] X2 Y2) : lx_J p l e s m below meth c b D ca aX aM 890 (lx_ls b aX aM i) [] X Y := by
  refine lx_aload F 2 dl_890 rfl rfl ?_
  refine lx_sc F hi hL (k := 1) (by decide) rfl dl_891 dl_892 dl_893 dl_894 dl_895 ?_
  refine lx_callXi F (as := [.inl (xs (i + 1)).toInt]) dl_896 ll_109 ⟨_, _, rfl⟩ rfl rfl (Nat.le_of_ble_eq_true rfl) ⟨by decide, by decide⟩ (ax_cc (v := .inl (xs (i + 1)).toInt) (lx_r _) lx_v0) hq (fun r X2 hp => ?_)
  refine lx_aload F 1 dl_899 rfl rfl ?_
  refine lx_sc F hi hL (k := 1) (by decide) rfl dl_900 dl_901 dl_902 dl_903 dl_904 ?_
  refine lx_callMi F (as := [.inl (xs (i + 1)).toInt]) dl_905 ll_112 ⟨_, _, rfl⟩ rfl rfl (Nat.le_of_ble_eq_true rfl) ⟨by decide, by decide⟩ (ax_cc (v := .inl (xs (i + 1)).toInt) (lx_r _) lx_v0) hp (fun r2 Y2 hp2 => ?_)
  obtain ⟨rfl, hJ⟩ := hp2
  exact lx_eqi F (tgt := 1019) dl_908 (by decide) (k _ _ hJ)
theorem lc_stay (F : lx_F p s m meth c b L xs D ca aX aM) (hi : i + 8 ≤ L) (hL : L ≤ 4096) (hq : kX_stay [.inr (.inr 0), .inl (xs (i + 1)).toInt, .inl (xs (i + 2)).toInt, .inl (xs (i + 3)).toInt] X (fun r X2 => kM_stay [.inr (.inr 0), .inl (xs (i + 1)).toInt, .inl (xs (i + 2)).toInt, .inl (xs (i + 3)).toInt] Y (fun r2 Y2 => r2 = r ∧ J X2 Y2))) (k : ∀ X2 Y2, J X2 Y2 → lx_J p l e s m below meth c b D ca aX aM 1019 (lx_ls b aX aM i) [] X2 Y2) : lx_J p l e s m below meth c b D ca aX aM 913 (lx_ls b aX aM i) [] X Y := by
  refine lx_aload F 2 dl_913 rfl rfl ?_
  refine lx_sc F hi hL (k := 1) (by decide) rfl dl_914 dl_915 dl_916 dl_917 dl_918 ?_
  refine lx_sc F hi hL (k := 2) (by decide) rfl dl_919 dl_920 dl_921 dl_922 dl_923 ?_
  refine lx_sc F hi hL (k := 3) (by decide) rfl dl_924 dl_925 dl_926 dl_927 dl_928 ?_
  refine lx_callXi F (as := [.inl (xs (i + 1)).toInt, .inl (xs (i + 2)).toInt, .inl (xs (i + 3)).toInt]) dl_929 ll_113 ⟨_, _, rfl⟩ rfl rfl (Nat.le_of_ble_eq_true rfl) ⟨by decide, by decide⟩ (ax_cc (v := .inl (xs (i + 1)).toInt) (lx_r _) (ax_cc (v := .inl (xs (i + 2)).toInt) (lx_r _) (ax_cc (v := .inl (xs (i + 3)).toInt) (lx_r _) lx_v0))) hq (fun r X2 hp => ?_)
  refine lx_aload F 1 dl_932 rfl rfl ?_
  refine lx_sc F hi hL (k := 1) (by decide) rfl dl_933 dl_934 dl_935 dl_936 dl_937 ?_
  refine lx_sc F hi hL (k := 2) (by decide) rfl dl_938 dl_939 dl_940 dl_941 dl_942 ?_
  refine lx_sc F hi hL (k := 3) (by decide) rfl dl_943 dl_944 dl_945 dl_946 dl_947 ?_
  refine lx_callMi F (as := [.inl (xs (i + 1)).toInt, .inl (xs (i + 2)).toInt, .inl (xs (i + 3)).toInt]) dl_948 ll_116 ⟨_, _, rfl⟩ rfl rfl (Nat.le_of_ble_eq_true rfl) ⟨by decide, by decide⟩ (ax_cc (v := .inl (xs (i + 1)).toInt) (lx_r _) (ax_cc (v := .inl (xs (i + 2)).toInt) (lx_r _) (ax_cc (v := .inl (xs (i + 3)).toInt) (lx_r _) lx_v0))) hp (fun r2 Y2 hp2 => ?_)
  obtain ⟨rfl, hJ⟩ := hp2
  exact lx_eqi F (tgt := 1019) dl_951 (by decide) (k _ _ hJ)
theorem lc_image (F : lx_F p s m meth c b L xs D ca aX aM) (hi : i + 8 ≤ L) (hL : L ≤ 4096) (hq : kX_image [.inr (.inr 0)] X (fun r X2 => kM_image [.inr (.inr 0)] Y (fun r2 Y2 => r2 = r ∧ J X2 Y2))) (k : ∀ X2 Y2, J X2 Y2 → lx_J p l e s m below meth c b D ca aX aM 1019 (lx_ls b aX aM i) [] X2 Y2) : lx_J p l e s m below meth c b D ca aX aM 956 (lx_ls b aX aM i) [] X Y := by
  refine lx_aload F 2 dl_956 rfl rfl ?_
  refine lx_callXi F (as := []) dl_957 ll_117 ⟨_, _, rfl⟩ rfl rfl (Nat.le_of_ble_eq_true rfl) ⟨by decide, by decide⟩ lx_v0 hq (fun r X2 hp => ?_)
  refine lx_aload F 1 dl_960 rfl rfl ?_
  refine lx_callMi F (as := []) dl_961 ll_120 ⟨_, _, rfl⟩ rfl rfl (Nat.le_of_ble_eq_true rfl) ⟨by decide, by decide⟩ lx_v0 hp (fun r2 Y2 hp2 => ?_)
  obtain ⟨rfl, hJ⟩ := hp2
  exact lx_eqi F (tgt := 1019) dl_964 (by decide) (k _ _ hJ)
theorem lc_restore (F : lx_F p s m meth c b L xs D ca aX aM) (hi : i + 8 ≤ L) (hL : L ≤ 4096) (hq : kX_restore [.inr (.inr 0)] X (fun r X2 => kM_restore [.inr (.inr 0)] Y (fun r2 Y2 => r2 = r ∧ J X2 Y2))) (k : ∀ X2 Y2, J X2 Y2 → lx_J p l e s m below meth c b D ca aX aM 1019 (lx_ls b aX aM i) [] X2 Y2) : lx_J p l e s m below meth c b D ca aX aM 969 (lx_ls b aX aM i) [] X Y := by
  refine lx_aload F 2 dl_969 rfl rfl ?_
  refine lx_callXi F (as := []) dl_970 ll_121 ⟨_, _, rfl⟩ rfl rfl (Nat.le_of_ble_eq_true rfl) ⟨by decide, by decide⟩ lx_v0 hq (fun r X2 hp => ?_)
  refine lx_aload F 1 dl_973 rfl rfl ?_
  refine lx_callMi F (as := []) dl_974 ll_124 ⟨_, _, rfl⟩ rfl rfl (Nat.le_of_ble_eq_true rfl) ⟨by decide, by decide⟩ lx_v0 hp (fun r2 Y2 hp2 => ?_)
  obtain ⟨rfl, hJ⟩ := hp2
  exact lx_eqi F (tgt := 1019) dl_977 (by decide) (k _ _ hJ)
theorem lc_count (F : lx_F p s m meth c b L xs D ca aX aM) (hi : i + 8 ≤ L) (hL : L ≤ 4096) (hq : kX_count [.inr (.inr 0), .inl (xs (i + 1)).toInt] X (fun r X2 => kM_count [.inr (.inr 0), .inl (xs (i + 1)).toInt] Y (fun r2 Y2 => r2 = r ∧ J X2 Y2))) (k : ∀ X2 Y2, J X2 Y2 → lx_J p l e s m below meth c b D ca aX aM 1019 (lx_ls b aX aM i) [] X2 Y2) : lx_J p l e s m below meth c b D ca aX aM 982 (lx_ls b aX aM i) [] X Y := by
  refine lx_aload F 2 dl_982 rfl rfl ?_
  refine lx_sc F hi hL (k := 1) (by decide) rfl dl_983 dl_984 dl_985 dl_986 dl_987 ?_
  refine lx_callXi F (as := [.inl (xs (i + 1)).toInt]) dl_988 ll_125 ⟨_, _, rfl⟩ rfl rfl (Nat.le_of_ble_eq_true rfl) ⟨by decide, by decide⟩ (ax_cc (v := .inl (xs (i + 1)).toInt) (lx_r _) lx_v0) hq (fun r X2 hp => ?_)
  refine lx_aload F 1 dl_991 rfl rfl ?_
  refine lx_sc F hi hL (k := 1) (by decide) rfl dl_992 dl_993 dl_994 dl_995 dl_996 ?_
  refine lx_callMi F (as := [.inl (xs (i + 1)).toInt]) dl_997 ll_128 ⟨_, _, rfl⟩ rfl rfl (Nat.le_of_ble_eq_true rfl) ⟨by decide, by decide⟩ (ax_cc (v := .inl (xs (i + 1)).toInt) (lx_r _) lx_v0) hp (fun r2 Y2 hp2 => ?_)
  obtain ⟨rfl, hJ⟩ := hp2
  exact lx_eqi F (tgt := 1019) dl_1000 (by decide) (k _ _ hJ)
theorem lc_digest (F : lx_F p s m meth c b L xs D ca aX aM) (hi : i + 8 ≤ L) (hL : L ≤ 4096) (hq : kX_digest [.inr (.inr 0)] X (fun r X2 => kM_digest [.inr (.inr 0)] Y (fun r2 Y2 => r2 = r ∧ J X2 Y2))) (k : ∀ X2 Y2, J X2 Y2 → lx_J p l e s m below meth c b D ca aX aM 1019 (lx_ls b aX aM i) [] X2 Y2) : lx_J p l e s m below meth c b D ca aX aM 1005 (lx_ls b aX aM i) [] X Y := by
  refine lx_aload F 2 dl_1005 rfl rfl ?_
  refine lx_callXl F (as := []) dl_1006 ll_129 ⟨_, _, rfl⟩ rfl rfl (Nat.le_of_ble_eq_true rfl) ⟨by decide, by decide⟩ lx_v0 hq (fun r X2 hp => ?_)
  refine lx_aload F 1 dl_1009 rfl rfl ?_
  refine lx_callMl F (as := []) dl_1010 ll_133 ⟨_, _, rfl⟩ rfl rfl (Nat.le_of_ble_eq_true rfl) ⟨by decide, by decide⟩ lx_v0 hp (fun r2 Y2 hp2 => ?_)
  obtain ⟨rfl, hJ⟩ := hp2
  exact lx_eql F (tgt := 1019) dl_1013 dl_1014 (by decide) (k _ _ hJ)
end LC
