/-! the law: its end and entry (the skeleton's rows), its instructions and links (by program gen4.py) -/
/-! THE CLAIM OUT OF ONE WALK OF THE LAW'S BODY. Your part is whole_start (and what it stands on); all else here is the same for every law, but numbers. -/
def R_law : String := "RowsIntoPlaneLaw"
def lw_P (b : Addr) (xs : List Int32) (args : Array Value) (s : State) : Prop := args = #[.ref b] ∧ s.IntsAt b xs ∧ xs.length ≤ 4096 ∧ (Jvm.Cond.and given_1 narrow_1).before args s = true
def lw_Q (_ : Array Value) (s : State) (o : Outcome) (t : State) : Prop := o = .returned (some (.int 1)) ∧ Framed s o t [] 600000 7302250
def lw_Z (below : List Frame) (a : Array Value) (s : State) : State → Prop := fun t => ∃ o, t.status = .running ∧ Ended t below o ∧ lw_Q a s o t
/-- the law's own end, with 1 on the stack, nothing written that was there before, its room as the claim has it -/
theorem lw_ret {p : Program} {l : Launch} {e : Env} {s : State} {m : MethodId} {below : List Frame} {meth : Method} {c : Code} {b : Nat} (hx : p.tables.exec = Jvm.exec) (hb : c.code = code) (hr : meth.sig.returnType = ret) (hlocks : meth.locks = false) {pc : Nat} {H : Heap} {ls : Array Slot} (hdg : decode code pc = .ok (.ireturn, 1)) : W p l e room_1 s m #[Value.ref b] below meth c H [] 600000 7302250 (lw_Z below #[Value.ref b] s) (F0 m pc ls [.int 1]) := by
  intro T hT X
  obtain ⟨fs, hret, hrun, hended, hW, hframe⟩ := X.leave (v := some (.int 1)) (hlocks := hlocks) (fun h => by rw [hr] at h; cases h)
  have hmeth' : T.vm.method? m = some meth := X.method'
  refine ⟨T.setFrames fs, ?_, .returned (some (.int 1)), hrun, hended, rfl, ⟨_, rfl⟩, hW, hframe⟩
  jvm_step X.here [X.here.top, hx, hb, hdg, hmeth', hr, ret, narrow_b1]
  (try refine ⟨rfl, ?_⟩); (try refine ⟨rfl, ?_⟩)
  first | (intro acts; rw [hret _ acts rfl rfl rfl]) | rw [hret _ _ rfl rfl rfl]
  exact Steps.refl _
/-- what holds at the law's entry: the machine, the code, the tables' words (any of lw_tbl by 'hts w (by decide +kernel)'), the script of L ints xs at the cell b, what the Statement gives of the start (any of its parts by flat_of_before) -/
def lw_At (p : Program) (s : State) (m : MethodId) (meth : Method) (c : Code) (b L : Nat) (xs : Nat → Int32) : Prop :=
  p.tables.exec = Jvm.exec ∧ c.code = code ∧ meth.sig.returnType = ret ∧ c.maxLocals = 4 ∧ s.vm.findClass R_law = some m.cls ∧ (∀ w ∈ lw_tbl, w.before #[Value.ref b] s = true) ∧ va_X b L xs s s.heap ∧ b < s.heap.size ∧ meth.locks = false ∧ (Jvm.Cond.and given_1 narrow_1).before #[Value.ref b] s = true
theorem dl_0 : decode code 0 = .ok (.new 7, 3) := by decide +kernel
theorem dl_3 : decode code 3 = .ok (.dup, 1) := by decide +kernel
theorem dl_4 : decode code 4 = .ok (.invokespecial 9, 3) := by decide +kernel
theorem dl_7 : decode code 7 = .ok (.astore_n 1, 1) := by decide +kernel
theorem dl_8 : decode code 8 = .ok (.new 10, 3) := by decide +kernel
theorem dl_11 : decode code 11 = .ok (.dup, 1) := by decide +kernel
theorem dl_12 : decode code 12 = .ok (.invokespecial 12, 3) := by decide +kernel
theorem dl_15 : decode code 15 = .ok (.astore_n 2, 1) := by decide +kernel
theorem dl_16 : decode code 16 = .ok (.iconst 0, 1) := by decide +kernel
theorem dl_17 : decode code 17 = .ok (.istore_n 3, 1) := by decide +kernel
theorem dl_18 : decode code 18 = .ok (.iload_n 3, 1) := by decide +kernel
theorem dl_19 : decode code 19 = .ok (.aload_n 0, 1) := by decide +kernel
theorem dl_20 : decode code 20 = .ok (.arraylength, 1) := by decide +kernel
theorem dl_21 : decode code 21 = .ok (.bipush 8, 2) := by decide +kernel
theorem dl_23 : decode code 23 = .ok (.isub, 1) := by decide +kernel
theorem dl_24 : decode code 24 = .ok (.if_icmp .gt 1001, 3) := by decide +kernel
theorem dl_27 : decode code 27 = .ok (.aload_n 0, 1) := by decide +kernel
theorem dl_28 : decode code 28 = .ok (.iload_n 3, 1) := by decide +kernel
theorem dl_29 : decode code 29 = .ok (.iaload, 1) := by decide +kernel
theorem dl_30 : decode code 30 = .ok (.bipush 31, 2) := by decide +kernel
theorem dl_32 : decode code 32 = .ok (.iand, 1) := by decide +kernel
theorem dl_33 : decode code 33 = .ok (.tableswitch 986 0 27 #[127, 170, 257, 290, 323, 366, 419, 432, 445, 458, 491, 524, 567, 610, 623, 646, 669, 702, 735, 758, 801, 824, 857, 880, 923, 936, 949, 972], 127) := by decide +kernel
theorem dl_160 : decode code 160 = .ok (.aload_n 1, 1) := by decide +kernel
theorem dl_161 : decode code 161 = .ok (.aload_n 0, 1) := by decide +kernel
theorem dl_162 : decode code 162 = .ok (.iload_n 3, 1) := by decide +kernel
theorem dl_163 : decode code 163 = .ok (.iconst 1, 1) := by decide +kernel
theorem dl_164 : decode code 164 = .ok (.iadd, 1) := by decide +kernel
theorem dl_165 : decode code 165 = .ok (.iaload, 1) := by decide +kernel
theorem dl_166 : decode code 166 = .ok (.aload_n 0, 1) := by decide +kernel
theorem dl_167 : decode code 167 = .ok (.iload_n 3, 1) := by decide +kernel
theorem dl_168 : decode code 168 = .ok (.iconst 2, 1) := by decide +kernel
theorem dl_169 : decode code 169 = .ok (.iadd, 1) := by decide +kernel
theorem dl_170 : decode code 170 = .ok (.iaload, 1) := by decide +kernel
theorem dl_171 : decode code 171 = .ok (.aload_n 0, 1) := by decide +kernel
theorem dl_172 : decode code 172 = .ok (.iload_n 3, 1) := by decide +kernel
theorem dl_173 : decode code 173 = .ok (.iconst 3, 1) := by decide +kernel
theorem dl_174 : decode code 174 = .ok (.iadd, 1) := by decide +kernel
theorem dl_175 : decode code 175 = .ok (.iaload, 1) := by decide +kernel
theorem dl_176 : decode code 176 = .ok (.invokevirtual 13, 3) := by decide +kernel
theorem dl_179 : decode code 179 = .ok (.aload_n 2, 1) := by decide +kernel
theorem dl_180 : decode code 180 = .ok (.aload_n 0, 1) := by decide +kernel
theorem dl_181 : decode code 181 = .ok (.iload_n 3, 1) := by decide +kernel
theorem dl_182 : decode code 182 = .ok (.iconst 1, 1) := by decide +kernel
theorem dl_183 : decode code 183 = .ok (.iadd, 1) := by decide +kernel
theorem dl_184 : decode code 184 = .ok (.iaload, 1) := by decide +kernel
theorem dl_185 : decode code 185 = .ok (.aload_n 0, 1) := by decide +kernel
theorem dl_186 : decode code 186 = .ok (.iload_n 3, 1) := by decide +kernel
theorem dl_187 : decode code 187 = .ok (.iconst 2, 1) := by decide +kernel
theorem dl_188 : decode code 188 = .ok (.iadd, 1) := by decide +kernel
theorem dl_189 : decode code 189 = .ok (.iaload, 1) := by decide +kernel
theorem dl_190 : decode code 190 = .ok (.aload_n 0, 1) := by decide +kernel
theorem dl_191 : decode code 191 = .ok (.iload_n 3, 1) := by decide +kernel
theorem dl_192 : decode code 192 = .ok (.iconst 3, 1) := by decide +kernel
theorem dl_193 : decode code 193 = .ok (.iadd, 1) := by decide +kernel
theorem dl_194 : decode code 194 = .ok (.iaload, 1) := by decide +kernel
theorem dl_195 : decode code 195 = .ok (.invokevirtual 17, 3) := by decide +kernel
theorem dl_198 : decode code 198 = .ok (.if_icmp .eq 821, 3) := by decide +kernel
theorem dl_203 : decode code 203 = .ok (.aload_n 1, 1) := by decide +kernel
theorem dl_204 : decode code 204 = .ok (.aload_n 0, 1) := by decide +kernel
theorem dl_205 : decode code 205 = .ok (.iload_n 3, 1) := by decide +kernel
theorem dl_206 : decode code 206 = .ok (.iconst 1, 1) := by decide +kernel
theorem dl_207 : decode code 207 = .ok (.iadd, 1) := by decide +kernel
theorem dl_208 : decode code 208 = .ok (.iaload, 1) := by decide +kernel
theorem dl_209 : decode code 209 = .ok (.aload_n 0, 1) := by decide +kernel
theorem dl_210 : decode code 210 = .ok (.iload_n 3, 1) := by decide +kernel
theorem dl_211 : decode code 211 = .ok (.iconst 2, 1) := by decide +kernel
theorem dl_212 : decode code 212 = .ok (.iadd, 1) := by decide +kernel
theorem dl_213 : decode code 213 = .ok (.iaload, 1) := by decide +kernel
theorem dl_214 : decode code 214 = .ok (.aload_n 0, 1) := by decide +kernel
theorem dl_215 : decode code 215 = .ok (.iload_n 3, 1) := by decide +kernel
theorem dl_216 : decode code 216 = .ok (.iconst 3, 1) := by decide +kernel
theorem dl_217 : decode code 217 = .ok (.iadd, 1) := by decide +kernel
theorem dl_218 : decode code 218 = .ok (.iaload, 1) := by decide +kernel
theorem dl_219 : decode code 219 = .ok (.aload_n 0, 1) := by decide +kernel
theorem dl_220 : decode code 220 = .ok (.iload_n 3, 1) := by decide +kernel
theorem dl_221 : decode code 221 = .ok (.iconst 4, 1) := by decide +kernel
theorem dl_222 : decode code 222 = .ok (.iadd, 1) := by decide +kernel
theorem dl_223 : decode code 223 = .ok (.iaload, 1) := by decide +kernel
theorem dl_224 : decode code 224 = .ok (.aload_n 0, 1) := by decide +kernel
theorem dl_225 : decode code 225 = .ok (.iload_n 3, 1) := by decide +kernel
theorem dl_226 : decode code 226 = .ok (.iconst 5, 1) := by decide +kernel
theorem dl_227 : decode code 227 = .ok (.iadd, 1) := by decide +kernel
theorem dl_228 : decode code 228 = .ok (.iaload, 1) := by decide +kernel
theorem dl_229 : decode code 229 = .ok (.aload_n 0, 1) := by decide +kernel
theorem dl_230 : decode code 230 = .ok (.iload_n 3, 1) := by decide +kernel
theorem dl_231 : decode code 231 = .ok (.bipush 6, 2) := by decide +kernel
theorem dl_233 : decode code 233 = .ok (.iadd, 1) := by decide +kernel
theorem dl_234 : decode code 234 = .ok (.iaload, 1) := by decide +kernel
theorem dl_235 : decode code 235 = .ok (.aload_n 0, 1) := by decide +kernel
theorem dl_236 : decode code 236 = .ok (.iload_n 3, 1) := by decide +kernel
theorem dl_237 : decode code 237 = .ok (.bipush 7, 2) := by decide +kernel
theorem dl_239 : decode code 239 = .ok (.iadd, 1) := by decide +kernel
theorem dl_240 : decode code 240 = .ok (.iaload, 1) := by decide +kernel
theorem dl_241 : decode code 241 = .ok (.invokevirtual 18, 3) := by decide +kernel
theorem dl_244 : decode code 244 = .ok (.aload_n 2, 1) := by decide +kernel
theorem dl_245 : decode code 245 = .ok (.aload_n 0, 1) := by decide +kernel
theorem dl_246 : decode code 246 = .ok (.iload_n 3, 1) := by decide +kernel
theorem dl_247 : decode code 247 = .ok (.iconst 1, 1) := by decide +kernel
theorem dl_248 : decode code 248 = .ok (.iadd, 1) := by decide +kernel
theorem dl_249 : decode code 249 = .ok (.iaload, 1) := by decide +kernel
theorem dl_250 : decode code 250 = .ok (.aload_n 0, 1) := by decide +kernel
theorem dl_251 : decode code 251 = .ok (.iload_n 3, 1) := by decide +kernel
theorem dl_252 : decode code 252 = .ok (.iconst 2, 1) := by decide +kernel
theorem dl_253 : decode code 253 = .ok (.iadd, 1) := by decide +kernel
theorem dl_254 : decode code 254 = .ok (.iaload, 1) := by decide +kernel
theorem dl_255 : decode code 255 = .ok (.aload_n 0, 1) := by decide +kernel
theorem dl_256 : decode code 256 = .ok (.iload_n 3, 1) := by decide +kernel
theorem dl_257 : decode code 257 = .ok (.iconst 3, 1) := by decide +kernel
theorem dl_258 : decode code 258 = .ok (.iadd, 1) := by decide +kernel
theorem dl_259 : decode code 259 = .ok (.iaload, 1) := by decide +kernel
theorem dl_260 : decode code 260 = .ok (.aload_n 0, 1) := by decide +kernel
theorem dl_261 : decode code 261 = .ok (.iload_n 3, 1) := by decide +kernel
theorem dl_262 : decode code 262 = .ok (.iconst 4, 1) := by decide +kernel
theorem dl_263 : decode code 263 = .ok (.iadd, 1) := by decide +kernel
theorem dl_264 : decode code 264 = .ok (.iaload, 1) := by decide +kernel
theorem dl_265 : decode code 265 = .ok (.aload_n 0, 1) := by decide +kernel
theorem dl_266 : decode code 266 = .ok (.iload_n 3, 1) := by decide +kernel
theorem dl_267 : decode code 267 = .ok (.iconst 5, 1) := by decide +kernel
theorem dl_268 : decode code 268 = .ok (.iadd, 1) := by decide +kernel
theorem dl_269 : decode code 269 = .ok (.iaload, 1) := by decide +kernel
theorem dl_270 : decode code 270 = .ok (.aload_n 0, 1) := by decide +kernel
theorem dl_271 : decode code 271 = .ok (.iload_n 3, 1) := by decide +kernel
theorem dl_272 : decode code 272 = .ok (.bipush 6, 2) := by decide +kernel
theorem dl_274 : decode code 274 = .ok (.iadd, 1) := by decide +kernel
theorem dl_275 : decode code 275 = .ok (.iaload, 1) := by decide +kernel
theorem dl_276 : decode code 276 = .ok (.aload_n 0, 1) := by decide +kernel
theorem dl_277 : decode code 277 = .ok (.iload_n 3, 1) := by decide +kernel
theorem dl_278 : decode code 278 = .ok (.bipush 7, 2) := by decide +kernel
theorem dl_280 : decode code 280 = .ok (.iadd, 1) := by decide +kernel
theorem dl_281 : decode code 281 = .ok (.iaload, 1) := by decide +kernel
theorem dl_282 : decode code 282 = .ok (.invokevirtual 22, 3) := by decide +kernel
theorem dl_285 : decode code 285 = .ok (.if_icmp .eq 734, 3) := by decide +kernel
theorem dl_290 : decode code 290 = .ok (.aload_n 1, 1) := by decide +kernel
theorem dl_291 : decode code 291 = .ok (.aload_n 0, 1) := by decide +kernel
theorem dl_292 : decode code 292 = .ok (.iload_n 3, 1) := by decide +kernel
theorem dl_293 : decode code 293 = .ok (.iconst 1, 1) := by decide +kernel
theorem dl_294 : decode code 294 = .ok (.iadd, 1) := by decide +kernel
theorem dl_295 : decode code 295 = .ok (.iaload, 1) := by decide +kernel
theorem dl_296 : decode code 296 = .ok (.aload_n 0, 1) := by decide +kernel
theorem dl_297 : decode code 297 = .ok (.iload_n 3, 1) := by decide +kernel
theorem dl_298 : decode code 298 = .ok (.iconst 2, 1) := by decide +kernel
theorem dl_299 : decode code 299 = .ok (.iadd, 1) := by decide +kernel
theorem dl_300 : decode code 300 = .ok (.iaload, 1) := by decide +kernel
theorem dl_301 : decode code 301 = .ok (.invokevirtual 23, 3) := by decide +kernel
theorem dl_304 : decode code 304 = .ok (.aload_n 2, 1) := by decide +kernel
theorem dl_305 : decode code 305 = .ok (.aload_n 0, 1) := by decide +kernel
theorem dl_306 : decode code 306 = .ok (.iload_n 3, 1) := by decide +kernel
theorem dl_307 : decode code 307 = .ok (.iconst 1, 1) := by decide +kernel
theorem dl_308 : decode code 308 = .ok (.iadd, 1) := by decide +kernel
theorem dl_309 : decode code 309 = .ok (.iaload, 1) := by decide +kernel
theorem dl_310 : decode code 310 = .ok (.aload_n 0, 1) := by decide +kernel
theorem dl_311 : decode code 311 = .ok (.iload_n 3, 1) := by decide +kernel
theorem dl_312 : decode code 312 = .ok (.iconst 2, 1) := by decide +kernel
theorem dl_313 : decode code 313 = .ok (.iadd, 1) := by decide +kernel
theorem dl_314 : decode code 314 = .ok (.iaload, 1) := by decide +kernel
theorem dl_315 : decode code 315 = .ok (.invokevirtual 27, 3) := by decide +kernel
theorem dl_318 : decode code 318 = .ok (.if_icmp .eq 701, 3) := by decide +kernel
theorem dl_323 : decode code 323 = .ok (.aload_n 1, 1) := by decide +kernel
theorem dl_324 : decode code 324 = .ok (.aload_n 0, 1) := by decide +kernel
theorem dl_325 : decode code 325 = .ok (.iload_n 3, 1) := by decide +kernel
theorem dl_326 : decode code 326 = .ok (.iconst 1, 1) := by decide +kernel
theorem dl_327 : decode code 327 = .ok (.iadd, 1) := by decide +kernel
theorem dl_328 : decode code 328 = .ok (.iaload, 1) := by decide +kernel
theorem dl_329 : decode code 329 = .ok (.aload_n 0, 1) := by decide +kernel
theorem dl_330 : decode code 330 = .ok (.iload_n 3, 1) := by decide +kernel
theorem dl_331 : decode code 331 = .ok (.iconst 2, 1) := by decide +kernel
theorem dl_332 : decode code 332 = .ok (.iadd, 1) := by decide +kernel
theorem dl_333 : decode code 333 = .ok (.iaload, 1) := by decide +kernel
theorem dl_334 : decode code 334 = .ok (.invokevirtual 28, 3) := by decide +kernel
theorem dl_337 : decode code 337 = .ok (.aload_n 2, 1) := by decide +kernel
theorem dl_338 : decode code 338 = .ok (.aload_n 0, 1) := by decide +kernel
theorem dl_339 : decode code 339 = .ok (.iload_n 3, 1) := by decide +kernel
theorem dl_340 : decode code 340 = .ok (.iconst 1, 1) := by decide +kernel
theorem dl_341 : decode code 341 = .ok (.iadd, 1) := by decide +kernel
theorem dl_342 : decode code 342 = .ok (.iaload, 1) := by decide +kernel
theorem dl_343 : decode code 343 = .ok (.aload_n 0, 1) := by decide +kernel
theorem dl_344 : decode code 344 = .ok (.iload_n 3, 1) := by decide +kernel
theorem dl_345 : decode code 345 = .ok (.iconst 2, 1) := by decide +kernel
theorem dl_346 : decode code 346 = .ok (.iadd, 1) := by decide +kernel
theorem dl_347 : decode code 347 = .ok (.iaload, 1) := by decide +kernel
theorem dl_348 : decode code 348 = .ok (.invokevirtual 31, 3) := by decide +kernel
theorem dl_351 : decode code 351 = .ok (.if_icmp .eq 668, 3) := by decide +kernel
theorem dl_356 : decode code 356 = .ok (.aload_n 1, 1) := by decide +kernel
theorem dl_357 : decode code 357 = .ok (.aload_n 0, 1) := by decide +kernel
theorem dl_358 : decode code 358 = .ok (.iload_n 3, 1) := by decide +kernel
theorem dl_359 : decode code 359 = .ok (.iconst 1, 1) := by decide +kernel
theorem dl_360 : decode code 360 = .ok (.iadd, 1) := by decide +kernel
theorem dl_361 : decode code 361 = .ok (.iaload, 1) := by decide +kernel
theorem dl_362 : decode code 362 = .ok (.aload_n 0, 1) := by decide +kernel
theorem dl_363 : decode code 363 = .ok (.iload_n 3, 1) := by decide +kernel
theorem dl_364 : decode code 364 = .ok (.iconst 2, 1) := by decide +kernel
theorem dl_365 : decode code 365 = .ok (.iadd, 1) := by decide +kernel
theorem dl_366 : decode code 366 = .ok (.iaload, 1) := by decide +kernel
theorem dl_367 : decode code 367 = .ok (.aload_n 0, 1) := by decide +kernel
theorem dl_368 : decode code 368 = .ok (.iload_n 3, 1) := by decide +kernel
theorem dl_369 : decode code 369 = .ok (.iconst 3, 1) := by decide +kernel
theorem dl_370 : decode code 370 = .ok (.iadd, 1) := by decide +kernel
theorem dl_371 : decode code 371 = .ok (.iaload, 1) := by decide +kernel
theorem dl_372 : decode code 372 = .ok (.invokevirtual 32, 3) := by decide +kernel
theorem dl_375 : decode code 375 = .ok (.aload_n 2, 1) := by decide +kernel
theorem dl_376 : decode code 376 = .ok (.aload_n 0, 1) := by decide +kernel
theorem dl_377 : decode code 377 = .ok (.iload_n 3, 1) := by decide +kernel
theorem dl_378 : decode code 378 = .ok (.iconst 1, 1) := by decide +kernel
theorem dl_379 : decode code 379 = .ok (.iadd, 1) := by decide +kernel
theorem dl_380 : decode code 380 = .ok (.iaload, 1) := by decide +kernel
theorem dl_381 : decode code 381 = .ok (.aload_n 0, 1) := by decide +kernel
theorem dl_382 : decode code 382 = .ok (.iload_n 3, 1) := by decide +kernel
theorem dl_383 : decode code 383 = .ok (.iconst 2, 1) := by decide +kernel
theorem dl_384 : decode code 384 = .ok (.iadd, 1) := by decide +kernel
theorem dl_385 : decode code 385 = .ok (.iaload, 1) := by decide +kernel
theorem dl_386 : decode code 386 = .ok (.aload_n 0, 1) := by decide +kernel
theorem dl_387 : decode code 387 = .ok (.iload_n 3, 1) := by decide +kernel
theorem dl_388 : decode code 388 = .ok (.iconst 3, 1) := by decide +kernel
theorem dl_389 : decode code 389 = .ok (.iadd, 1) := by decide +kernel
theorem dl_390 : decode code 390 = .ok (.iaload, 1) := by decide +kernel
theorem dl_391 : decode code 391 = .ok (.invokevirtual 35, 3) := by decide +kernel
theorem dl_394 : decode code 394 = .ok (.if_icmp .eq 625, 3) := by decide +kernel
theorem dl_399 : decode code 399 = .ok (.aload_n 1, 1) := by decide +kernel
theorem dl_400 : decode code 400 = .ok (.aload_n 0, 1) := by decide +kernel
theorem dl_401 : decode code 401 = .ok (.iload_n 3, 1) := by decide +kernel
theorem dl_402 : decode code 402 = .ok (.iconst 1, 1) := by decide +kernel
theorem dl_403 : decode code 403 = .ok (.iadd, 1) := by decide +kernel
theorem dl_404 : decode code 404 = .ok (.iaload, 1) := by decide +kernel
theorem dl_405 : decode code 405 = .ok (.i2l, 1) := by decide +kernel
theorem dl_406 : decode code 406 = .ok (.bipush 32, 2) := by decide +kernel
theorem dl_408 : decode code 408 = .ok (.lshl, 1) := by decide +kernel
theorem dl_409 : decode code 409 = .ok (.aload_n 0, 1) := by decide +kernel
theorem dl_410 : decode code 410 = .ok (.iload_n 3, 1) := by decide +kernel
theorem dl_411 : decode code 411 = .ok (.iconst 2, 1) := by decide +kernel
theorem dl_412 : decode code 412 = .ok (.iadd, 1) := by decide +kernel
theorem dl_413 : decode code 413 = .ok (.iaload, 1) := by decide +kernel
theorem dl_414 : decode code 414 = .ok (.i2l, 1) := by decide +kernel
theorem dl_415 : decode code 415 = .ok (.ldc2_w 36, 3) := by decide +kernel
theorem dl_418 : decode code 418 = .ok (.land, 1) := by decide +kernel
theorem dl_419 : decode code 419 = .ok (.lor, 1) := by decide +kernel
theorem dl_420 : decode code 420 = .ok (.invokevirtual 38, 3) := by decide +kernel
theorem dl_423 : decode code 423 = .ok (.aload_n 2, 1) := by decide +kernel
theorem dl_424 : decode code 424 = .ok (.aload_n 0, 1) := by decide +kernel
theorem dl_425 : decode code 425 = .ok (.iload_n 3, 1) := by decide +kernel
theorem dl_426 : decode code 426 = .ok (.iconst 1, 1) := by decide +kernel
theorem dl_427 : decode code 427 = .ok (.iadd, 1) := by decide +kernel
theorem dl_428 : decode code 428 = .ok (.iaload, 1) := by decide +kernel
theorem dl_429 : decode code 429 = .ok (.i2l, 1) := by decide +kernel
theorem dl_430 : decode code 430 = .ok (.bipush 32, 2) := by decide +kernel
theorem dl_432 : decode code 432 = .ok (.lshl, 1) := by decide +kernel
theorem dl_433 : decode code 433 = .ok (.aload_n 0, 1) := by decide +kernel
theorem dl_434 : decode code 434 = .ok (.iload_n 3, 1) := by decide +kernel
theorem dl_435 : decode code 435 = .ok (.iconst 2, 1) := by decide +kernel
theorem dl_436 : decode code 436 = .ok (.iadd, 1) := by decide +kernel
theorem dl_437 : decode code 437 = .ok (.iaload, 1) := by decide +kernel
theorem dl_438 : decode code 438 = .ok (.i2l, 1) := by decide +kernel
theorem dl_439 : decode code 439 = .ok (.ldc2_w 36, 3) := by decide +kernel
theorem dl_442 : decode code 442 = .ok (.land, 1) := by decide +kernel
theorem dl_443 : decode code 443 = .ok (.lor, 1) := by decide +kernel
theorem dl_444 : decode code 444 = .ok (.invokevirtual 42, 3) := by decide +kernel
theorem dl_447 : decode code 447 = .ok (.if_icmp .eq 572, 3) := by decide +kernel
theorem dl_452 : decode code 452 = .ok (.aload_n 1, 1) := by decide +kernel
theorem dl_453 : decode code 453 = .ok (.invokevirtual 43, 3) := by decide +kernel
theorem dl_456 : decode code 456 = .ok (.aload_n 2, 1) := by decide +kernel
theorem dl_457 : decode code 457 = .ok (.invokevirtual 47, 3) := by decide +kernel
theorem dl_460 : decode code 460 = .ok (.if_icmp .eq 559, 3) := by decide +kernel
theorem dl_465 : decode code 465 = .ok (.aload_n 1, 1) := by decide +kernel
theorem dl_466 : decode code 466 = .ok (.invokevirtual 48, 3) := by decide +kernel
theorem dl_469 : decode code 469 = .ok (.aload_n 2, 1) := by decide +kernel
theorem dl_470 : decode code 470 = .ok (.invokevirtual 51, 3) := by decide +kernel
theorem dl_473 : decode code 473 = .ok (.if_icmp .eq 546, 3) := by decide +kernel
theorem dl_478 : decode code 478 = .ok (.aload_n 1, 1) := by decide +kernel
theorem dl_479 : decode code 479 = .ok (.invokevirtual 52, 3) := by decide +kernel
theorem dl_482 : decode code 482 = .ok (.aload_n 2, 1) := by decide +kernel
theorem dl_483 : decode code 483 = .ok (.invokevirtual 55, 3) := by decide +kernel
theorem dl_486 : decode code 486 = .ok (.if_icmp .eq 533, 3) := by decide +kernel
theorem dl_491 : decode code 491 = .ok (.aload_n 1, 1) := by decide +kernel
theorem dl_492 : decode code 492 = .ok (.aload_n 0, 1) := by decide +kernel
theorem dl_493 : decode code 493 = .ok (.iload_n 3, 1) := by decide +kernel
theorem dl_494 : decode code 494 = .ok (.iconst 1, 1) := by decide +kernel
theorem dl_495 : decode code 495 = .ok (.iadd, 1) := by decide +kernel
theorem dl_496 : decode code 496 = .ok (.iaload, 1) := by decide +kernel
theorem dl_497 : decode code 497 = .ok (.aload_n 0, 1) := by decide +kernel
theorem dl_498 : decode code 498 = .ok (.iload_n 3, 1) := by decide +kernel
theorem dl_499 : decode code 499 = .ok (.iconst 2, 1) := by decide +kernel
theorem dl_500 : decode code 500 = .ok (.iadd, 1) := by decide +kernel
theorem dl_501 : decode code 501 = .ok (.iaload, 1) := by decide +kernel
theorem dl_502 : decode code 502 = .ok (.invokevirtual 56, 3) := by decide +kernel
theorem dl_505 : decode code 505 = .ok (.aload_n 2, 1) := by decide +kernel
theorem dl_506 : decode code 506 = .ok (.aload_n 0, 1) := by decide +kernel
theorem dl_507 : decode code 507 = .ok (.iload_n 3, 1) := by decide +kernel
theorem dl_508 : decode code 508 = .ok (.iconst 1, 1) := by decide +kernel
theorem dl_509 : decode code 509 = .ok (.iadd, 1) := by decide +kernel
theorem dl_510 : decode code 510 = .ok (.iaload, 1) := by decide +kernel
theorem dl_511 : decode code 511 = .ok (.aload_n 0, 1) := by decide +kernel
theorem dl_512 : decode code 512 = .ok (.iload_n 3, 1) := by decide +kernel
theorem dl_513 : decode code 513 = .ok (.iconst 2, 1) := by decide +kernel
theorem dl_514 : decode code 514 = .ok (.iadd, 1) := by decide +kernel
theorem dl_515 : decode code 515 = .ok (.iaload, 1) := by decide +kernel
theorem dl_516 : decode code 516 = .ok (.invokevirtual 59, 3) := by decide +kernel
theorem dl_519 : decode code 519 = .ok (.if_icmp .eq 500, 3) := by decide +kernel
theorem dl_524 : decode code 524 = .ok (.aload_n 1, 1) := by decide +kernel
theorem dl_525 : decode code 525 = .ok (.aload_n 0, 1) := by decide +kernel
theorem dl_526 : decode code 526 = .ok (.iload_n 3, 1) := by decide +kernel
theorem dl_527 : decode code 527 = .ok (.iconst 1, 1) := by decide +kernel
theorem dl_528 : decode code 528 = .ok (.iadd, 1) := by decide +kernel
theorem dl_529 : decode code 529 = .ok (.iaload, 1) := by decide +kernel
theorem dl_530 : decode code 530 = .ok (.aload_n 0, 1) := by decide +kernel
theorem dl_531 : decode code 531 = .ok (.iload_n 3, 1) := by decide +kernel
theorem dl_532 : decode code 532 = .ok (.iconst 2, 1) := by decide +kernel
theorem dl_533 : decode code 533 = .ok (.iadd, 1) := by decide +kernel
theorem dl_534 : decode code 534 = .ok (.iaload, 1) := by decide +kernel
theorem dl_535 : decode code 535 = .ok (.invokevirtual 60, 3) := by decide +kernel
theorem dl_538 : decode code 538 = .ok (.aload_n 2, 1) := by decide +kernel
theorem dl_539 : decode code 539 = .ok (.aload_n 0, 1) := by decide +kernel
theorem dl_540 : decode code 540 = .ok (.iload_n 3, 1) := by decide +kernel
theorem dl_541 : decode code 541 = .ok (.iconst 1, 1) := by decide +kernel
theorem dl_542 : decode code 542 = .ok (.iadd, 1) := by decide +kernel
theorem dl_543 : decode code 543 = .ok (.iaload, 1) := by decide +kernel
theorem dl_544 : decode code 544 = .ok (.aload_n 0, 1) := by decide +kernel
theorem dl_545 : decode code 545 = .ok (.iload_n 3, 1) := by decide +kernel
theorem dl_546 : decode code 546 = .ok (.iconst 2, 1) := by decide +kernel
theorem dl_547 : decode code 547 = .ok (.iadd, 1) := by decide +kernel
theorem dl_548 : decode code 548 = .ok (.iaload, 1) := by decide +kernel
theorem dl_549 : decode code 549 = .ok (.invokevirtual 63, 3) := by decide +kernel
theorem dl_552 : decode code 552 = .ok (.if_icmp .eq 467, 3) := by decide +kernel
theorem dl_557 : decode code 557 = .ok (.aload_n 1, 1) := by decide +kernel
theorem dl_558 : decode code 558 = .ok (.aload_n 0, 1) := by decide +kernel
theorem dl_559 : decode code 559 = .ok (.iload_n 3, 1) := by decide +kernel
theorem dl_560 : decode code 560 = .ok (.iconst 1, 1) := by decide +kernel
theorem dl_561 : decode code 561 = .ok (.iadd, 1) := by decide +kernel
theorem dl_562 : decode code 562 = .ok (.iaload, 1) := by decide +kernel
theorem dl_563 : decode code 563 = .ok (.aload_n 0, 1) := by decide +kernel
theorem dl_564 : decode code 564 = .ok (.iload_n 3, 1) := by decide +kernel
theorem dl_565 : decode code 565 = .ok (.iconst 2, 1) := by decide +kernel
theorem dl_566 : decode code 566 = .ok (.iadd, 1) := by decide +kernel
theorem dl_567 : decode code 567 = .ok (.iaload, 1) := by decide +kernel
theorem dl_568 : decode code 568 = .ok (.aload_n 0, 1) := by decide +kernel
theorem dl_569 : decode code 569 = .ok (.iload_n 3, 1) := by decide +kernel
theorem dl_570 : decode code 570 = .ok (.iconst 3, 1) := by decide +kernel
theorem dl_571 : decode code 571 = .ok (.iadd, 1) := by decide +kernel
theorem dl_572 : decode code 572 = .ok (.iaload, 1) := by decide +kernel
theorem dl_573 : decode code 573 = .ok (.invokevirtual 64, 3) := by decide +kernel
theorem dl_576 : decode code 576 = .ok (.aload_n 2, 1) := by decide +kernel
theorem dl_577 : decode code 577 = .ok (.aload_n 0, 1) := by decide +kernel
theorem dl_578 : decode code 578 = .ok (.iload_n 3, 1) := by decide +kernel
theorem dl_579 : decode code 579 = .ok (.iconst 1, 1) := by decide +kernel
theorem dl_580 : decode code 580 = .ok (.iadd, 1) := by decide +kernel
theorem dl_581 : decode code 581 = .ok (.iaload, 1) := by decide +kernel
theorem dl_582 : decode code 582 = .ok (.aload_n 0, 1) := by decide +kernel
theorem dl_583 : decode code 583 = .ok (.iload_n 3, 1) := by decide +kernel
theorem dl_584 : decode code 584 = .ok (.iconst 2, 1) := by decide +kernel
theorem dl_585 : decode code 585 = .ok (.iadd, 1) := by decide +kernel
theorem dl_586 : decode code 586 = .ok (.iaload, 1) := by decide +kernel
theorem dl_587 : decode code 587 = .ok (.aload_n 0, 1) := by decide +kernel
theorem dl_588 : decode code 588 = .ok (.iload_n 3, 1) := by decide +kernel
theorem dl_589 : decode code 589 = .ok (.iconst 3, 1) := by decide +kernel
theorem dl_590 : decode code 590 = .ok (.iadd, 1) := by decide +kernel
theorem dl_591 : decode code 591 = .ok (.iaload, 1) := by decide +kernel
theorem dl_592 : decode code 592 = .ok (.invokevirtual 67, 3) := by decide +kernel
theorem dl_595 : decode code 595 = .ok (.if_icmp .eq 424, 3) := by decide +kernel
theorem dl_600 : decode code 600 = .ok (.aload_n 1, 1) := by decide +kernel
theorem dl_601 : decode code 601 = .ok (.aload_n 0, 1) := by decide +kernel
theorem dl_602 : decode code 602 = .ok (.iload_n 3, 1) := by decide +kernel
theorem dl_603 : decode code 603 = .ok (.iconst 1, 1) := by decide +kernel
theorem dl_604 : decode code 604 = .ok (.iadd, 1) := by decide +kernel
theorem dl_605 : decode code 605 = .ok (.iaload, 1) := by decide +kernel
theorem dl_606 : decode code 606 = .ok (.aload_n 0, 1) := by decide +kernel
theorem dl_607 : decode code 607 = .ok (.iload_n 3, 1) := by decide +kernel
theorem dl_608 : decode code 608 = .ok (.iconst 2, 1) := by decide +kernel
theorem dl_609 : decode code 609 = .ok (.iadd, 1) := by decide +kernel
theorem dl_610 : decode code 610 = .ok (.iaload, 1) := by decide +kernel
theorem dl_611 : decode code 611 = .ok (.aload_n 0, 1) := by decide +kernel
theorem dl_612 : decode code 612 = .ok (.iload_n 3, 1) := by decide +kernel
theorem dl_613 : decode code 613 = .ok (.iconst 3, 1) := by decide +kernel
theorem dl_614 : decode code 614 = .ok (.iadd, 1) := by decide +kernel
theorem dl_615 : decode code 615 = .ok (.iaload, 1) := by decide +kernel
theorem dl_616 : decode code 616 = .ok (.invokevirtual 68, 3) := by decide +kernel
theorem dl_619 : decode code 619 = .ok (.aload_n 2, 1) := by decide +kernel
theorem dl_620 : decode code 620 = .ok (.aload_n 0, 1) := by decide +kernel
theorem dl_621 : decode code 621 = .ok (.iload_n 3, 1) := by decide +kernel
theorem dl_622 : decode code 622 = .ok (.iconst 1, 1) := by decide +kernel
theorem dl_623 : decode code 623 = .ok (.iadd, 1) := by decide +kernel
theorem dl_624 : decode code 624 = .ok (.iaload, 1) := by decide +kernel
theorem dl_625 : decode code 625 = .ok (.aload_n 0, 1) := by decide +kernel
theorem dl_626 : decode code 626 = .ok (.iload_n 3, 1) := by decide +kernel
theorem dl_627 : decode code 627 = .ok (.iconst 2, 1) := by decide +kernel
theorem dl_628 : decode code 628 = .ok (.iadd, 1) := by decide +kernel
theorem dl_629 : decode code 629 = .ok (.iaload, 1) := by decide +kernel
theorem dl_630 : decode code 630 = .ok (.aload_n 0, 1) := by decide +kernel
theorem dl_631 : decode code 631 = .ok (.iload_n 3, 1) := by decide +kernel
theorem dl_632 : decode code 632 = .ok (.iconst 3, 1) := by decide +kernel
theorem dl_633 : decode code 633 = .ok (.iadd, 1) := by decide +kernel
theorem dl_634 : decode code 634 = .ok (.iaload, 1) := by decide +kernel
theorem dl_635 : decode code 635 = .ok (.invokevirtual 71, 3) := by decide +kernel
theorem dl_638 : decode code 638 = .ok (.if_icmp .eq 381, 3) := by decide +kernel
theorem dl_643 : decode code 643 = .ok (.aload_n 1, 1) := by decide +kernel
theorem dl_644 : decode code 644 = .ok (.invokevirtual 72, 3) := by decide +kernel
theorem dl_647 : decode code 647 = .ok (.aload_n 2, 1) := by decide +kernel
theorem dl_648 : decode code 648 = .ok (.invokevirtual 75, 3) := by decide +kernel
theorem dl_651 : decode code 651 = .ok (.if_icmp .eq 368, 3) := by decide +kernel
theorem dl_656 : decode code 656 = .ok (.aload_n 1, 1) := by decide +kernel
theorem dl_657 : decode code 657 = .ok (.aload_n 0, 1) := by decide +kernel
theorem dl_658 : decode code 658 = .ok (.iload_n 3, 1) := by decide +kernel
theorem dl_659 : decode code 659 = .ok (.iconst 1, 1) := by decide +kernel
theorem dl_660 : decode code 660 = .ok (.iadd, 1) := by decide +kernel
theorem dl_661 : decode code 661 = .ok (.iaload, 1) := by decide +kernel
theorem dl_662 : decode code 662 = .ok (.invokevirtual 76, 3) := by decide +kernel
theorem dl_665 : decode code 665 = .ok (.aload_n 2, 1) := by decide +kernel
theorem dl_666 : decode code 666 = .ok (.aload_n 0, 1) := by decide +kernel
theorem dl_667 : decode code 667 = .ok (.iload_n 3, 1) := by decide +kernel
theorem dl_668 : decode code 668 = .ok (.iconst 1, 1) := by decide +kernel
theorem dl_669 : decode code 669 = .ok (.iadd, 1) := by decide +kernel
theorem dl_670 : decode code 670 = .ok (.iaload, 1) := by decide +kernel
theorem dl_671 : decode code 671 = .ok (.invokevirtual 80, 3) := by decide +kernel
theorem dl_674 : decode code 674 = .ok (.if_icmp .eq 345, 3) := by decide +kernel
theorem dl_679 : decode code 679 = .ok (.aload_n 1, 1) := by decide +kernel
theorem dl_680 : decode code 680 = .ok (.aload_n 0, 1) := by decide +kernel
theorem dl_681 : decode code 681 = .ok (.iload_n 3, 1) := by decide +kernel
theorem dl_682 : decode code 682 = .ok (.iconst 1, 1) := by decide +kernel
theorem dl_683 : decode code 683 = .ok (.iadd, 1) := by decide +kernel
theorem dl_684 : decode code 684 = .ok (.iaload, 1) := by decide +kernel
theorem dl_685 : decode code 685 = .ok (.invokevirtual 81, 3) := by decide +kernel
theorem dl_688 : decode code 688 = .ok (.aload_n 2, 1) := by decide +kernel
theorem dl_689 : decode code 689 = .ok (.aload_n 0, 1) := by decide +kernel
theorem dl_690 : decode code 690 = .ok (.iload_n 3, 1) := by decide +kernel
theorem dl_691 : decode code 691 = .ok (.iconst 1, 1) := by decide +kernel
theorem dl_692 : decode code 692 = .ok (.iadd, 1) := by decide +kernel
theorem dl_693 : decode code 693 = .ok (.iaload, 1) := by decide +kernel
theorem dl_694 : decode code 694 = .ok (.invokevirtual 84, 3) := by decide +kernel
theorem dl_697 : decode code 697 = .ok (.if_icmp .eq 322, 3) := by decide +kernel
theorem dl_702 : decode code 702 = .ok (.aload_n 1, 1) := by decide +kernel
theorem dl_703 : decode code 703 = .ok (.aload_n 0, 1) := by decide +kernel
theorem dl_704 : decode code 704 = .ok (.iload_n 3, 1) := by decide +kernel
theorem dl_705 : decode code 705 = .ok (.iconst 1, 1) := by decide +kernel
theorem dl_706 : decode code 706 = .ok (.iadd, 1) := by decide +kernel
theorem dl_707 : decode code 707 = .ok (.iaload, 1) := by decide +kernel
theorem dl_708 : decode code 708 = .ok (.aload_n 0, 1) := by decide +kernel
theorem dl_709 : decode code 709 = .ok (.iload_n 3, 1) := by decide +kernel
theorem dl_710 : decode code 710 = .ok (.iconst 2, 1) := by decide +kernel
theorem dl_711 : decode code 711 = .ok (.iadd, 1) := by decide +kernel
theorem dl_712 : decode code 712 = .ok (.iaload, 1) := by decide +kernel
theorem dl_713 : decode code 713 = .ok (.invokevirtual 85, 3) := by decide +kernel
theorem dl_716 : decode code 716 = .ok (.aload_n 2, 1) := by decide +kernel
theorem dl_717 : decode code 717 = .ok (.aload_n 0, 1) := by decide +kernel
theorem dl_718 : decode code 718 = .ok (.iload_n 3, 1) := by decide +kernel
theorem dl_719 : decode code 719 = .ok (.iconst 1, 1) := by decide +kernel
theorem dl_720 : decode code 720 = .ok (.iadd, 1) := by decide +kernel
theorem dl_721 : decode code 721 = .ok (.iaload, 1) := by decide +kernel
theorem dl_722 : decode code 722 = .ok (.aload_n 0, 1) := by decide +kernel
theorem dl_723 : decode code 723 = .ok (.iload_n 3, 1) := by decide +kernel
theorem dl_724 : decode code 724 = .ok (.iconst 2, 1) := by decide +kernel
theorem dl_725 : decode code 725 = .ok (.iadd, 1) := by decide +kernel
theorem dl_726 : decode code 726 = .ok (.iaload, 1) := by decide +kernel
theorem dl_727 : decode code 727 = .ok (.invokevirtual 88, 3) := by decide +kernel
theorem dl_730 : decode code 730 = .ok (.if_icmp .eq 289, 3) := by decide +kernel
theorem dl_735 : decode code 735 = .ok (.aload_n 1, 1) := by decide +kernel
theorem dl_736 : decode code 736 = .ok (.aload_n 0, 1) := by decide +kernel
theorem dl_737 : decode code 737 = .ok (.iload_n 3, 1) := by decide +kernel
theorem dl_738 : decode code 738 = .ok (.iconst 1, 1) := by decide +kernel
theorem dl_739 : decode code 739 = .ok (.iadd, 1) := by decide +kernel
theorem dl_740 : decode code 740 = .ok (.iaload, 1) := by decide +kernel
theorem dl_741 : decode code 741 = .ok (.aload_n 0, 1) := by decide +kernel
theorem dl_742 : decode code 742 = .ok (.iload_n 3, 1) := by decide +kernel
theorem dl_743 : decode code 743 = .ok (.iconst 2, 1) := by decide +kernel
theorem dl_744 : decode code 744 = .ok (.iadd, 1) := by decide +kernel
theorem dl_745 : decode code 745 = .ok (.iaload, 1) := by decide +kernel
theorem dl_746 : decode code 746 = .ok (.invokevirtual 89, 3) := by decide +kernel
theorem dl_749 : decode code 749 = .ok (.aload_n 2, 1) := by decide +kernel
theorem dl_750 : decode code 750 = .ok (.aload_n 0, 1) := by decide +kernel
theorem dl_751 : decode code 751 = .ok (.iload_n 3, 1) := by decide +kernel
theorem dl_752 : decode code 752 = .ok (.iconst 1, 1) := by decide +kernel
theorem dl_753 : decode code 753 = .ok (.iadd, 1) := by decide +kernel
theorem dl_754 : decode code 754 = .ok (.iaload, 1) := by decide +kernel
theorem dl_755 : decode code 755 = .ok (.aload_n 0, 1) := by decide +kernel
theorem dl_756 : decode code 756 = .ok (.iload_n 3, 1) := by decide +kernel
theorem dl_757 : decode code 757 = .ok (.iconst 2, 1) := by decide +kernel
theorem dl_758 : decode code 758 = .ok (.iadd, 1) := by decide +kernel
theorem dl_759 : decode code 759 = .ok (.iaload, 1) := by decide +kernel
theorem dl_760 : decode code 760 = .ok (.invokevirtual 92, 3) := by decide +kernel
theorem dl_763 : decode code 763 = .ok (.if_icmp .eq 256, 3) := by decide +kernel
theorem dl_768 : decode code 768 = .ok (.aload_n 1, 1) := by decide +kernel
theorem dl_769 : decode code 769 = .ok (.aload_n 0, 1) := by decide +kernel
theorem dl_770 : decode code 770 = .ok (.iload_n 3, 1) := by decide +kernel
theorem dl_771 : decode code 771 = .ok (.iconst 1, 1) := by decide +kernel
theorem dl_772 : decode code 772 = .ok (.iadd, 1) := by decide +kernel
theorem dl_773 : decode code 773 = .ok (.iaload, 1) := by decide +kernel
theorem dl_774 : decode code 774 = .ok (.invokevirtual 93, 3) := by decide +kernel
theorem dl_777 : decode code 777 = .ok (.aload_n 2, 1) := by decide +kernel
theorem dl_778 : decode code 778 = .ok (.aload_n 0, 1) := by decide +kernel
theorem dl_779 : decode code 779 = .ok (.iload_n 3, 1) := by decide +kernel
theorem dl_780 : decode code 780 = .ok (.iconst 1, 1) := by decide +kernel
theorem dl_781 : decode code 781 = .ok (.iadd, 1) := by decide +kernel
theorem dl_782 : decode code 782 = .ok (.iaload, 1) := by decide +kernel
theorem dl_783 : decode code 783 = .ok (.invokevirtual 96, 3) := by decide +kernel
theorem dl_786 : decode code 786 = .ok (.if_icmp .eq 233, 3) := by decide +kernel
theorem dl_791 : decode code 791 = .ok (.aload_n 1, 1) := by decide +kernel
theorem dl_792 : decode code 792 = .ok (.aload_n 0, 1) := by decide +kernel
theorem dl_793 : decode code 793 = .ok (.iload_n 3, 1) := by decide +kernel
theorem dl_794 : decode code 794 = .ok (.iconst 1, 1) := by decide +kernel
theorem dl_795 : decode code 795 = .ok (.iadd, 1) := by decide +kernel
theorem dl_796 : decode code 796 = .ok (.iaload, 1) := by decide +kernel
theorem dl_797 : decode code 797 = .ok (.aload_n 0, 1) := by decide +kernel
theorem dl_798 : decode code 798 = .ok (.iload_n 3, 1) := by decide +kernel
theorem dl_799 : decode code 799 = .ok (.iconst 2, 1) := by decide +kernel
theorem dl_800 : decode code 800 = .ok (.iadd, 1) := by decide +kernel
theorem dl_801 : decode code 801 = .ok (.iaload, 1) := by decide +kernel
theorem dl_802 : decode code 802 = .ok (.aload_n 0, 1) := by decide +kernel
theorem dl_803 : decode code 803 = .ok (.iload_n 3, 1) := by decide +kernel
theorem dl_804 : decode code 804 = .ok (.iconst 3, 1) := by decide +kernel
theorem dl_805 : decode code 805 = .ok (.iadd, 1) := by decide +kernel
theorem dl_806 : decode code 806 = .ok (.iaload, 1) := by decide +kernel
theorem dl_807 : decode code 807 = .ok (.invokevirtual 97, 3) := by decide +kernel
theorem dl_810 : decode code 810 = .ok (.aload_n 2, 1) := by decide +kernel
theorem dl_811 : decode code 811 = .ok (.aload_n 0, 1) := by decide +kernel
theorem dl_812 : decode code 812 = .ok (.iload_n 3, 1) := by decide +kernel
theorem dl_813 : decode code 813 = .ok (.iconst 1, 1) := by decide +kernel
theorem dl_814 : decode code 814 = .ok (.iadd, 1) := by decide +kernel
theorem dl_815 : decode code 815 = .ok (.iaload, 1) := by decide +kernel
theorem dl_816 : decode code 816 = .ok (.aload_n 0, 1) := by decide +kernel
theorem dl_817 : decode code 817 = .ok (.iload_n 3, 1) := by decide +kernel
theorem dl_818 : decode code 818 = .ok (.iconst 2, 1) := by decide +kernel
theorem dl_819 : decode code 819 = .ok (.iadd, 1) := by decide +kernel
theorem dl_820 : decode code 820 = .ok (.iaload, 1) := by decide +kernel
theorem dl_821 : decode code 821 = .ok (.aload_n 0, 1) := by decide +kernel
theorem dl_822 : decode code 822 = .ok (.iload_n 3, 1) := by decide +kernel
theorem dl_823 : decode code 823 = .ok (.iconst 3, 1) := by decide +kernel
theorem dl_824 : decode code 824 = .ok (.iadd, 1) := by decide +kernel
theorem dl_825 : decode code 825 = .ok (.iaload, 1) := by decide +kernel
theorem dl_826 : decode code 826 = .ok (.invokevirtual 100, 3) := by decide +kernel
theorem dl_829 : decode code 829 = .ok (.if_icmp .eq 190, 3) := by decide +kernel
theorem dl_834 : decode code 834 = .ok (.aload_n 1, 1) := by decide +kernel
theorem dl_835 : decode code 835 = .ok (.aload_n 0, 1) := by decide +kernel
theorem dl_836 : decode code 836 = .ok (.iload_n 3, 1) := by decide +kernel
theorem dl_837 : decode code 837 = .ok (.iconst 1, 1) := by decide +kernel
theorem dl_838 : decode code 838 = .ok (.iadd, 1) := by decide +kernel
theorem dl_839 : decode code 839 = .ok (.iaload, 1) := by decide +kernel
theorem dl_840 : decode code 840 = .ok (.invokevirtual 101, 3) := by decide +kernel
theorem dl_843 : decode code 843 = .ok (.aload_n 2, 1) := by decide +kernel
theorem dl_844 : decode code 844 = .ok (.aload_n 0, 1) := by decide +kernel
theorem dl_845 : decode code 845 = .ok (.iload_n 3, 1) := by decide +kernel
theorem dl_846 : decode code 846 = .ok (.iconst 1, 1) := by decide +kernel
theorem dl_847 : decode code 847 = .ok (.iadd, 1) := by decide +kernel
theorem dl_848 : decode code 848 = .ok (.iaload, 1) := by decide +kernel
theorem dl_849 : decode code 849 = .ok (.invokevirtual 104, 3) := by decide +kernel
theorem dl_852 : decode code 852 = .ok (.if_icmp .eq 167, 3) := by decide +kernel
theorem dl_857 : decode code 857 = .ok (.aload_n 1, 1) := by decide +kernel
theorem dl_858 : decode code 858 = .ok (.aload_n 0, 1) := by decide +kernel
theorem dl_859 : decode code 859 = .ok (.iload_n 3, 1) := by decide +kernel
theorem dl_860 : decode code 860 = .ok (.iconst 1, 1) := by decide +kernel
theorem dl_861 : decode code 861 = .ok (.iadd, 1) := by decide +kernel
theorem dl_862 : decode code 862 = .ok (.iaload, 1) := by decide +kernel
theorem dl_863 : decode code 863 = .ok (.aload_n 0, 1) := by decide +kernel
theorem dl_864 : decode code 864 = .ok (.iload_n 3, 1) := by decide +kernel
theorem dl_865 : decode code 865 = .ok (.iconst 2, 1) := by decide +kernel
theorem dl_866 : decode code 866 = .ok (.iadd, 1) := by decide +kernel
theorem dl_867 : decode code 867 = .ok (.iaload, 1) := by decide +kernel
theorem dl_868 : decode code 868 = .ok (.invokevirtual 105, 3) := by decide +kernel
theorem dl_871 : decode code 871 = .ok (.aload_n 2, 1) := by decide +kernel
theorem dl_872 : decode code 872 = .ok (.aload_n 0, 1) := by decide +kernel
theorem dl_873 : decode code 873 = .ok (.iload_n 3, 1) := by decide +kernel
theorem dl_874 : decode code 874 = .ok (.iconst 1, 1) := by decide +kernel
theorem dl_875 : decode code 875 = .ok (.iadd, 1) := by decide +kernel
theorem dl_876 : decode code 876 = .ok (.iaload, 1) := by decide +kernel
theorem dl_877 : decode code 877 = .ok (.aload_n 0, 1) := by decide +kernel
theorem dl_878 : decode code 878 = .ok (.iload_n 3, 1) := by decide +kernel
theorem dl_879 : decode code 879 = .ok (.iconst 2, 1) := by decide +kernel
theorem dl_880 : decode code 880 = .ok (.iadd, 1) := by decide +kernel
theorem dl_881 : decode code 881 = .ok (.iaload, 1) := by decide +kernel
theorem dl_882 : decode code 882 = .ok (.invokevirtual 108, 3) := by decide +kernel
theorem dl_885 : decode code 885 = .ok (.if_icmp .eq 134, 3) := by decide +kernel
theorem dl_890 : decode code 890 = .ok (.aload_n 1, 1) := by decide +kernel
theorem dl_891 : decode code 891 = .ok (.aload_n 0, 1) := by decide +kernel
theorem dl_892 : decode code 892 = .ok (.iload_n 3, 1) := by decide +kernel
theorem dl_893 : decode code 893 = .ok (.iconst 1, 1) := by decide +kernel
theorem dl_894 : decode code 894 = .ok (.iadd, 1) := by decide +kernel
theorem dl_895 : decode code 895 = .ok (.iaload, 1) := by decide +kernel
theorem dl_896 : decode code 896 = .ok (.invokevirtual 109, 3) := by decide +kernel
theorem dl_899 : decode code 899 = .ok (.aload_n 2, 1) := by decide +kernel
theorem dl_900 : decode code 900 = .ok (.aload_n 0, 1) := by decide +kernel
theorem dl_901 : decode code 901 = .ok (.iload_n 3, 1) := by decide +kernel
theorem dl_902 : decode code 902 = .ok (.iconst 1, 1) := by decide +kernel
theorem dl_903 : decode code 903 = .ok (.iadd, 1) := by decide +kernel
theorem dl_904 : decode code 904 = .ok (.iaload, 1) := by decide +kernel
theorem dl_905 : decode code 905 = .ok (.invokevirtual 112, 3) := by decide +kernel
theorem dl_908 : decode code 908 = .ok (.if_icmp .eq 111, 3) := by decide +kernel
theorem dl_913 : decode code 913 = .ok (.aload_n 1, 1) := by decide +kernel
theorem dl_914 : decode code 914 = .ok (.aload_n 0, 1) := by decide +kernel
theorem dl_915 : decode code 915 = .ok (.iload_n 3, 1) := by decide +kernel
theorem dl_916 : decode code 916 = .ok (.iconst 1, 1) := by decide +kernel
theorem dl_917 : decode code 917 = .ok (.iadd, 1) := by decide +kernel
theorem dl_918 : decode code 918 = .ok (.iaload, 1) := by decide +kernel
theorem dl_919 : decode code 919 = .ok (.aload_n 0, 1) := by decide +kernel
theorem dl_920 : decode code 920 = .ok (.iload_n 3, 1) := by decide +kernel
theorem dl_921 : decode code 921 = .ok (.iconst 2, 1) := by decide +kernel
theorem dl_922 : decode code 922 = .ok (.iadd, 1) := by decide +kernel
theorem dl_923 : decode code 923 = .ok (.iaload, 1) := by decide +kernel
theorem dl_924 : decode code 924 = .ok (.aload_n 0, 1) := by decide +kernel
theorem dl_925 : decode code 925 = .ok (.iload_n 3, 1) := by decide +kernel
theorem dl_926 : decode code 926 = .ok (.iconst 3, 1) := by decide +kernel
theorem dl_927 : decode code 927 = .ok (.iadd, 1) := by decide +kernel
theorem dl_928 : decode code 928 = .ok (.iaload, 1) := by decide +kernel
theorem dl_929 : decode code 929 = .ok (.invokevirtual 113, 3) := by decide +kernel
theorem dl_932 : decode code 932 = .ok (.aload_n 2, 1) := by decide +kernel
theorem dl_933 : decode code 933 = .ok (.aload_n 0, 1) := by decide +kernel
theorem dl_934 : decode code 934 = .ok (.iload_n 3, 1) := by decide +kernel
theorem dl_935 : decode code 935 = .ok (.iconst 1, 1) := by decide +kernel
theorem dl_936 : decode code 936 = .ok (.iadd, 1) := by decide +kernel
theorem dl_937 : decode code 937 = .ok (.iaload, 1) := by decide +kernel
theorem dl_938 : decode code 938 = .ok (.aload_n 0, 1) := by decide +kernel
theorem dl_939 : decode code 939 = .ok (.iload_n 3, 1) := by decide +kernel
theorem dl_940 : decode code 940 = .ok (.iconst 2, 1) := by decide +kernel
theorem dl_941 : decode code 941 = .ok (.iadd, 1) := by decide +kernel
theorem dl_942 : decode code 942 = .ok (.iaload, 1) := by decide +kernel
theorem dl_943 : decode code 943 = .ok (.aload_n 0, 1) := by decide +kernel
theorem dl_944 : decode code 944 = .ok (.iload_n 3, 1) := by decide +kernel
theorem dl_945 : decode code 945 = .ok (.iconst 3, 1) := by decide +kernel
theorem dl_946 : decode code 946 = .ok (.iadd, 1) := by decide +kernel
theorem dl_947 : decode code 947 = .ok (.iaload, 1) := by decide +kernel
theorem dl_948 : decode code 948 = .ok (.invokevirtual 116, 3) := by decide +kernel
theorem dl_951 : decode code 951 = .ok (.if_icmp .eq 68, 3) := by decide +kernel
theorem dl_956 : decode code 956 = .ok (.aload_n 1, 1) := by decide +kernel
theorem dl_957 : decode code 957 = .ok (.invokevirtual 117, 3) := by decide +kernel
theorem dl_960 : decode code 960 = .ok (.aload_n 2, 1) := by decide +kernel
theorem dl_961 : decode code 961 = .ok (.invokevirtual 120, 3) := by decide +kernel
theorem dl_964 : decode code 964 = .ok (.if_icmp .eq 55, 3) := by decide +kernel
theorem dl_969 : decode code 969 = .ok (.aload_n 1, 1) := by decide +kernel
theorem dl_970 : decode code 970 = .ok (.invokevirtual 121, 3) := by decide +kernel
theorem dl_973 : decode code 973 = .ok (.aload_n 2, 1) := by decide +kernel
theorem dl_974 : decode code 974 = .ok (.invokevirtual 124, 3) := by decide +kernel
theorem dl_977 : decode code 977 = .ok (.if_icmp .eq 42, 3) := by decide +kernel
theorem dl_982 : decode code 982 = .ok (.aload_n 1, 1) := by decide +kernel
theorem dl_983 : decode code 983 = .ok (.aload_n 0, 1) := by decide +kernel
theorem dl_984 : decode code 984 = .ok (.iload_n 3, 1) := by decide +kernel
theorem dl_985 : decode code 985 = .ok (.iconst 1, 1) := by decide +kernel
theorem dl_986 : decode code 986 = .ok (.iadd, 1) := by decide +kernel
theorem dl_987 : decode code 987 = .ok (.iaload, 1) := by decide +kernel
theorem dl_988 : decode code 988 = .ok (.invokevirtual 125, 3) := by decide +kernel
theorem dl_991 : decode code 991 = .ok (.aload_n 2, 1) := by decide +kernel
theorem dl_992 : decode code 992 = .ok (.aload_n 0, 1) := by decide +kernel
theorem dl_993 : decode code 993 = .ok (.iload_n 3, 1) := by decide +kernel
theorem dl_994 : decode code 994 = .ok (.iconst 1, 1) := by decide +kernel
theorem dl_995 : decode code 995 = .ok (.iadd, 1) := by decide +kernel
theorem dl_996 : decode code 996 = .ok (.iaload, 1) := by decide +kernel
theorem dl_997 : decode code 997 = .ok (.invokevirtual 128, 3) := by decide +kernel
theorem dl_1000 : decode code 1000 = .ok (.if_icmp .eq 19, 3) := by decide +kernel
theorem dl_1005 : decode code 1005 = .ok (.aload_n 1, 1) := by decide +kernel
theorem dl_1006 : decode code 1006 = .ok (.invokevirtual 129, 3) := by decide +kernel
theorem dl_1009 : decode code 1009 = .ok (.aload_n 2, 1) := by decide +kernel
theorem dl_1010 : decode code 1010 = .ok (.invokevirtual 133, 3) := by decide +kernel
theorem dl_1013 : decode code 1013 = .ok (.lcmp, 1) := by decide +kernel
theorem dl_1014 : decode code 1014 = .ok (.ifCond .eq 5, 3) := by decide +kernel
theorem dl_1019 : decode code 1019 = .ok (.iinc 3 8, 3) := by decide +kernel
theorem dl_1022 : decode code 1022 = .ok (.goto (-1004), 3) := by decide +kernel
theorem dl_1025 : decode code 1025 = .ok (.iconst 1, 1) := by decide +kernel
theorem dl_1026 : decode code 1026 = .ok (.ireturn, 1) := by decide +kernel
theorem nl_36 : Cond.constantLong "RowsIntoPlaneLaw" 36 4294967295 ∈ ax_Ts := ax_mem 1182 (by decide +kernel) (by decide +kernel)
theorem ll_13 : ax_LV "RowsIntoPlaneLaw" 13 yX_cabin bX_cabin 4 (some .int) 3 := ⟨ax_mem 375 (by decide +kernel) (by decide +kernel), wvX_cabin.1, wvX_cabin.2.1, wvX_cabin.2.2, wX_cabin, by decide, by decide, by decide +kernel, by decide⟩
theorem ll_17 : ax_LV "RowsIntoPlaneLaw" 17 yM_cabin bM_cabin 4 (some .int) 3 := ⟨ax_mem 885 (by decide +kernel) (by decide +kernel), wvM_cabin.1, wvM_cabin.2.1, wvM_cabin.2.2, wM_cabin, by decide, by decide, by decide +kernel, by decide⟩
theorem ll_18 : ax_LV "RowsIntoPlaneLaw" 18 yX_person bX_person 9 (some .int) 7 := ⟨ax_mem 390 (by decide +kernel) (by decide +kernel), wvX_person.1, wvX_person.2.1, wvX_person.2.2, wX_person, by decide, by decide, by decide +kernel, by decide⟩
theorem ll_22 : ax_LV "RowsIntoPlaneLaw" 22 yM_person bM_person 11 (some .int) 7 := ⟨ax_mem 896 (by decide +kernel) (by decide +kernel), wvM_person.1, wvM_person.2.1, wvM_person.2.2, wM_person, by decide, by decide, by decide +kernel, by decide⟩
theorem ll_23 : ax_LV "RowsIntoPlaneLaw" 23 yX_as bX_as 3 (some .int) 2 := ⟨ax_mem 411 (by decide +kernel) (by decide +kernel), wvX_as.1, wvX_as.2.1, wvX_as.2.2, wX_as, by decide, by decide, by decide +kernel, by decide⟩
theorem ll_27 : ax_LV "RowsIntoPlaneLaw" 27 yM_as bM_as 5 (some .int) 2 := ⟨ax_mem 913 (by decide +kernel) (by decide +kernel), wvM_as.1, wvM_as.2.1, wvM_as.2.2, wM_as, by decide, by decide, by decide +kernel, by decide⟩
theorem ll_28 : ax_LV "RowsIntoPlaneLaw" 28 yX_about bX_about 3 (some .int) 2 := ⟨ax_mem 419 (by decide +kernel) (by decide +kernel), wvX_about.1, wvX_about.2.1, wvX_about.2.2, wX_about, by decide, by decide, by decide +kernel, by decide⟩
theorem ll_31 : ax_LV "RowsIntoPlaneLaw" 31 yM_about bM_about 3 (some .int) 2 := ⟨ax_mem 917 (by decide +kernel) (by decide +kernel), wvM_about.1, wvM_about.2.1, wvM_about.2.2, wM_about, by decide, by decide, by decide +kernel, by decide⟩
theorem ll_32 : ax_LV "RowsIntoPlaneLaw" 32 yX_change bX_change 5 (some .int) 3 := ⟨ax_mem 427 (by decide +kernel) (by decide +kernel), wvX_change.1, wvX_change.2.1, wvX_change.2.2, wX_change, by decide, by decide, by decide +kernel, by decide⟩
theorem ll_35 : ax_LV "RowsIntoPlaneLaw" 35 yM_change bM_change 5 (some .int) 3 := ⟨ax_mem 921 (by decide +kernel) (by decide +kernel), wvM_change.1, wvM_change.2.1, wvM_change.2.2, wM_change, by decide, by decide, by decide +kernel, by decide⟩
theorem ll_38 : ax_LV "RowsIntoPlaneLaw" 38 yX_letters bX_letters 4 (some .int) 1 := ⟨ax_mem 431 (by decide +kernel) (by decide +kernel), wvX_letters.1, wvX_letters.2.1, wvX_letters.2.2, wX_letters, by decide, by decide, by decide +kernel, by decide⟩
theorem ll_42 : ax_LV "RowsIntoPlaneLaw" 42 yM_letters bM_letters 9 (some .int) 1 := ⟨ax_mem 926 (by decide +kernel) (by decide +kernel), wvM_letters.1, wvM_letters.2.1, wvM_letters.2.2, wM_letters, by decide, by decide, by decide +kernel, by decide⟩
theorem ll_43 : ax_LV "RowsIntoPlaneLaw" 43 yX_blank bX_blank 2 (some .int) 0 := ⟨ax_mem 446 (by decide +kernel) (by decide +kernel), wvX_blank.1, wvX_blank.2.1, wvX_blank.2.2, wX_blank, by decide, by decide, by decide +kernel, by decide⟩
theorem ll_47 : ax_LV "RowsIntoPlaneLaw" 47 yM_blank bM_blank 2 (some .int) 0 := ⟨ax_mem 931 (by decide +kernel) (by decide +kernel), wvM_blank.1, wvM_blank.2.1, wvM_blank.2.2, wM_blank, by decide, by decide, by decide +kernel, by decide⟩
theorem ll_48 : ax_LV "RowsIntoPlaneLaw" 48 yX_fault bX_fault 1 (some .int) 0 := ⟨ax_mem 450 (by decide +kernel) (by decide +kernel), wvX_fault.1, wvX_fault.2.1, wvX_fault.2.2, wX_fault, by decide, by decide, by decide +kernel, by decide⟩
theorem ll_51 : ax_LV "RowsIntoPlaneLaw" 51 yM_fault bM_fault 1 (some .int) 0 := ⟨ax_mem 935 (by decide +kernel) (by decide +kernel), wvM_fault.1, wvM_fault.2.1, wvM_fault.2.2, wM_fault, by decide, by decide, by decide +kernel, by decide⟩
theorem ll_52 : ax_LV "RowsIntoPlaneLaw" 52 yX_call bX_call 1 (some .int) 0 := ⟨ax_mem 465 (by decide +kernel) (by decide +kernel), wvX_call.1, wvX_call.2.1, wvX_call.2.2, wX_call, by decide, by decide, by decide +kernel, by decide⟩
theorem ll_55 : ax_LV "RowsIntoPlaneLaw" 55 yM_call bM_call 2 (some .int) 0 := ⟨ax_mem 952 (by decide +kernel) (by decide +kernel), wvM_call.1, wvM_call.2.1, wvM_call.2.2, wM_call, by decide, by decide, by decide +kernel, by decide⟩
theorem ll_56 : ax_LV "RowsIntoPlaneLaw" 56 yX_order bX_order 4 (some .int) 2 := ⟨ax_mem 478 (by decide +kernel) (by decide +kernel), wvX_order.1, wvX_order.2.1, wvX_order.2.2, wX_order, by decide, by decide, by decide +kernel, by decide⟩
theorem ll_59 : ax_LV "RowsIntoPlaneLaw" 59 yM_order bM_order 3 (some .int) 2 := ⟨ax_mem 956 (by decide +kernel) (by decide +kernel), wvM_order.1, wvM_order.2.1, wvM_order.2.2, wM_order, by decide, by decide, by decide +kernel, by decide⟩
theorem ll_60 : ax_LV "RowsIntoPlaneLaw" 60 yX_board bX_board 4 (some .int) 2 := ⟨ax_mem 528 (by decide +kernel) (by decide +kernel), wvX_board.1, wvX_board.2.1, wvX_board.2.2, wX_board, by decide, by decide, by decide +kernel, by decide⟩
theorem ll_63 : ax_LV "RowsIntoPlaneLaw" 63 yM_board bM_board 3 (some .int) 2 := ⟨ax_mem 1000 (by decide +kernel) (by decide +kernel), wvM_board.1, wvM_board.2.1, wvM_board.2.2, wM_board, by decide, by decide, by decide +kernel, by decide⟩
theorem ll_64 : ax_LV "RowsIntoPlaneLaw" 64 yX_sits bX_sits 4 (some .int) 3 := ⟨ax_mem 580 (by decide +kernel) (by decide +kernel), wvX_sits.1, wvX_sits.2.1, wvX_sits.2.2, wX_sits, by decide, by decide, by decide +kernel, by decide⟩
theorem ll_67 : ax_LV "RowsIntoPlaneLaw" 67 yM_sits bM_sits 5 (some .int) 3 := ⟨ax_mem 1040 (by decide +kernel) (by decide +kernel), wvM_sits.1, wvM_sits.2.1, wvM_sits.2.2, wM_sits, by decide, by decide, by decide +kernel, by decide⟩
theorem ll_68 : ax_LV "RowsIntoPlaneLaw" 68 yX_stands bX_stands 5 (some .int) 3 := ⟨ax_mem 588 (by decide +kernel) (by decide +kernel), wvX_stands.1, wvX_stands.2.1, wvX_stands.2.2, wX_stands, by decide, by decide, by decide +kernel, by decide⟩
theorem ll_71 : ax_LV "RowsIntoPlaneLaw" 71 yM_stands bM_stands 5 (some .int) 3 := ⟨ax_mem 1045 (by decide +kernel) (by decide +kernel), wvM_stands.1, wvM_stands.2.1, wvM_stands.2.2, wM_stands, by decide, by decide, by decide +kernel, by decide⟩
theorem ll_72 : ax_LV "RowsIntoPlaneLaw" 72 yX_least bX_least 4 (some .int) 0 := ⟨ax_mem 592 (by decide +kernel) (by decide +kernel), wvX_least.1, wvX_least.2.1, wvX_least.2.2, wX_least, by decide, by decide, by decide +kernel, by decide⟩
theorem ll_75 : ax_LV "RowsIntoPlaneLaw" 75 yM_least bM_least 1 (some .int) 0 := ⟨ax_mem 1049 (by decide +kernel) (by decide +kernel), wvM_least.1, wvM_least.2.1, wvM_least.2.2, wM_least, by decide, by decide, by decide +kernel, by decide⟩
theorem ll_76 : ax_LV "RowsIntoPlaneLaw" 76 yX_bestOrder bX_bestOrder 3 (some .int) 1 := ⟨ax_mem 596 (by decide +kernel) (by decide +kernel), wvX_bestOrder.1, wvX_bestOrder.2.1, wvX_bestOrder.2.2, wX_bestOrder, by decide, by decide, by decide +kernel, by decide⟩
theorem ll_80 : ax_LV "RowsIntoPlaneLaw" 80 yM_bestOrder bM_bestOrder 7 (some .int) 1 := ⟨ax_mem 1058 (by decide +kernel) (by decide +kernel), wvM_bestOrder.1, wvM_bestOrder.2.1, wvM_bestOrder.2.2, wM_bestOrder, by decide, by decide, by decide +kernel, by decide⟩
theorem ll_81 : ax_LV "RowsIntoPlaneLaw" 81 yX_swap bX_swap 7 (some .int) 1 := ⟨ax_mem 629 (by decide +kernel) (by decide +kernel), wvX_swap.1, wvX_swap.2.1, wvX_swap.2.2, wX_swap, by decide, by decide, by decide +kernel, by decide⟩
theorem ll_84 : ax_LV "RowsIntoPlaneLaw" 84 yM_swap bM_swap 7 (some .int) 1 := ⟨ax_mem 1070 (by decide +kernel) (by decide +kernel), wvM_swap.1, wvM_swap.2.1, wvM_swap.2.2, wM_swap, by decide, by decide, by decide +kernel, by decide⟩
theorem ll_85 : ax_LV "RowsIntoPlaneLaw" 85 yX_later bX_later 3 (some .int) 2 := ⟨ax_mem 634 (by decide +kernel) (by decide +kernel), wvX_later.1, wvX_later.2.1, wvX_later.2.2, wX_later, by decide, by decide, by decide +kernel, by decide⟩
theorem ll_88 : ax_LV "RowsIntoPlaneLaw" 88 yM_later bM_later 4 (some .int) 2 := ⟨ax_mem 1078 (by decide +kernel) (by decide +kernel), wvM_later.1, wvM_later.2.1, wvM_later.2.2, wM_later, by decide, by decide, by decide +kernel, by decide⟩
theorem ll_89 : ax_LV "RowsIntoPlaneLaw" 89 yX_bound bX_bound 4 (some .int) 2 := ⟨ax_mem 640 (by decide +kernel) (by decide +kernel), wvX_bound.1, wvX_bound.2.1, wvX_bound.2.2, wX_bound, by decide, by decide, by decide +kernel, by decide⟩
theorem ll_92 : ax_LV "RowsIntoPlaneLaw" 92 yM_bound bM_bound 3 (some .int) 2 := ⟨ax_mem 1082 (by decide +kernel) (by decide +kernel), wvM_bound.1, wvM_bound.2.1, wvM_bound.2.2, wM_bound, by decide, by decide, by decide +kernel, by decide⟩
theorem ll_93 : ax_LV "RowsIntoPlaneLaw" 93 yX_doors bX_doors 3 (some .int) 1 := ⟨ax_mem 644 (by decide +kernel) (by decide +kernel), wvX_doors.1, wvX_doors.2.1, wvX_doors.2.2, wX_doors, by decide, by decide, by decide +kernel, by decide⟩
theorem ll_96 : ax_LV "RowsIntoPlaneLaw" 96 yM_doors bM_doors 2 (some .int) 1 := ⟨ax_mem 1086 (by decide +kernel) (by decide +kernel), wvM_doors.1, wvM_doors.2.1, wvM_doors.2.2, wM_doors, by decide, by decide, by decide +kernel, by decide⟩
theorem ll_97 : ax_LV "RowsIntoPlaneLaw" 97 yX_mixed bX_mixed 8 (some .int) 3 := ⟨ax_mem 666 (by decide +kernel) (by decide +kernel), wvX_mixed.1, wvX_mixed.2.1, wvX_mixed.2.2, wX_mixed, by decide, by decide, by decide +kernel, by decide⟩
theorem ll_100 : ax_LV "RowsIntoPlaneLaw" 100 yM_mixed bM_mixed 4 (some .int) 3 := ⟨ax_mem 1098 (by decide +kernel) (by decide +kernel), wvM_mixed.1, wvM_mixed.2.1, wvM_mixed.2.2, wM_mixed, by decide, by decide, by decide +kernel, by decide⟩
theorem ll_101 : ax_LV "RowsIntoPlaneLaw" 101 yX_out bX_out 2 (some .int) 1 := ⟨ax_mem 679 (by decide +kernel) (by decide +kernel), wvX_out.1, wvX_out.2.1, wvX_out.2.2, wX_out, by decide, by decide, by decide +kernel, by decide⟩
theorem ll_104 : ax_LV "RowsIntoPlaneLaw" 104 yM_out bM_out 2 (some .int) 1 := ⟨ax_mem 1115 (by decide +kernel) (by decide +kernel), wvM_out.1, wvM_out.2.1, wvM_out.2.2, wM_out, by decide, by decide, by decide +kernel, by decide⟩
theorem ll_105 : ax_LV "RowsIntoPlaneLaw" 105 yX_outOf bX_outOf 3 (some .int) 2 := ⟨ax_mem 712 (by decide +kernel) (by decide +kernel), wvX_outOf.1, wvX_outOf.2.1, wvX_outOf.2.2, wX_outOf, by decide, by decide, by decide +kernel, by decide⟩
theorem ll_108 : ax_LV "RowsIntoPlaneLaw" 108 yM_outOf bM_outOf 4 (some .int) 2 := ⟨ax_mem 1135 (by decide +kernel) (by decide +kernel), wvM_outOf.1, wvM_outOf.2.1, wvM_outOf.2.2, wM_outOf, by decide, by decide, by decide +kernel, by decide⟩
theorem ll_109 : ax_LV "RowsIntoPlaneLaw" 109 yX_missed bX_missed 4 (some .int) 1 := ⟨ax_mem 716 (by decide +kernel) (by decide +kernel), wvX_missed.1, wvX_missed.2.1, wvX_missed.2.2, wX_missed, by decide, by decide, by decide +kernel, by decide⟩
theorem ll_112 : ax_LV "RowsIntoPlaneLaw" 112 yM_missed bM_missed 5 (some .int) 1 := ⟨ax_mem 1139 (by decide +kernel) (by decide +kernel), wvM_missed.1, wvM_missed.2.1, wvM_missed.2.2, wM_missed, by decide, by decide, by decide +kernel, by decide⟩
theorem ll_113 : ax_LV "RowsIntoPlaneLaw" 113 yX_stay bX_stay 5 (some .int) 3 := ⟨ax_mem 720 (by decide +kernel) (by decide +kernel), wvX_stay.1, wvX_stay.2.1, wvX_stay.2.2, wX_stay, by decide, by decide, by decide +kernel, by decide⟩
theorem ll_116 : ax_LV "RowsIntoPlaneLaw" 116 yM_stay bM_stay 7 (some .int) 3 := ⟨ax_mem 1143 (by decide +kernel) (by decide +kernel), wvM_stay.1, wvM_stay.2.1, wvM_stay.2.2, wM_stay, by decide, by decide, by decide +kernel, by decide⟩
theorem ll_117 : ax_LV "RowsIntoPlaneLaw" 117 yX_image bX_image 1 (some .int) 0 := ⟨ax_mem 728 (by decide +kernel) (by decide +kernel), wvX_image.1, wvX_image.2.1, wvX_image.2.2, wX_image, by decide, by decide, by decide +kernel, by decide⟩
theorem ll_120 : ax_LV "RowsIntoPlaneLaw" 120 yM_image bM_image 2 (some .int) 0 := ⟨ax_mem 1148 (by decide +kernel) (by decide +kernel), wvM_image.1, wvM_image.2.1, wvM_image.2.2, wM_image, by decide, by decide, by decide +kernel, by decide⟩
theorem ll_121 : ax_LV "RowsIntoPlaneLaw" 121 yX_restore bX_restore 1 (some .int) 0 := ⟨ax_mem 737 (by decide +kernel) (by decide +kernel), wvX_restore.1, wvX_restore.2.1, wvX_restore.2.2, wX_restore, by decide, by decide, by decide +kernel, by decide⟩
theorem ll_124 : ax_LV "RowsIntoPlaneLaw" 124 yM_restore bM_restore 2 (some .int) 0 := ⟨ax_mem 1152 (by decide +kernel) (by decide +kernel), wvM_restore.1, wvM_restore.2.1, wvM_restore.2.2, wM_restore, by decide, by decide, by decide +kernel, by decide⟩
theorem ll_125 : ax_LV "RowsIntoPlaneLaw" 125 yX_count bX_count 2 (some .int) 1 := ⟨ax_mem 745 (by decide +kernel) (by decide +kernel), wvX_count.1, wvX_count.2.1, wvX_count.2.2, wX_count, by decide, by decide, by decide +kernel, by decide⟩
theorem ll_128 : ax_LV "RowsIntoPlaneLaw" 128 yM_count bM_count 2 (some .int) 1 := ⟨ax_mem 1156 (by decide +kernel) (by decide +kernel), wvM_count.1, wvM_count.2.1, wvM_count.2.2, wM_count, by decide, by decide, by decide +kernel, by decide⟩
theorem ll_129 : ax_LV "RowsIntoPlaneLaw" 129 yX_digest bX_digest 5 (some .long) 0 := ⟨ax_mem 753 (by decide +kernel) (by decide +kernel), wvX_digest.1, wvX_digest.2.1, wvX_digest.2.2, wX_digest, by decide, by decide, by decide +kernel, by decide⟩
theorem ll_133 : ax_LV "RowsIntoPlaneLaw" 133 yM_digest bM_digest 2 (some .long) 0 := ⟨ax_mem 1168 (by decide +kernel) (by decide +kernel), wvM_digest.1, wvM_digest.2.1, wvM_digest.2.2, wM_digest, by decide, by decide, by decide +kernel, by decide⟩
