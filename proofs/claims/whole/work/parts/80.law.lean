-- ===== end of PART A; then your names; then what follows =====
/-! THE CLAIM OUT OF ONE WALK OF THE LAW'S BODY. Your part is whole_start (and what it stands on); all else here is the same for every law, but numbers. -/
def R_law : String := "WheelOnWheelLaw"
def lw_P (b : Addr) (xs : List Int32) (args : Array Value) (s : State) : Prop := args = #[.ref b] ∧ s.IntsAt b xs ∧ xs.length ≤ 3072 ∧ (Jvm.Cond.and given_1 narrow_1).before args s = true
def lw_Q (_ : Array Value) (s : State) (o : Outcome) (t : State) : Prop := o = .returned (some (.int 1)) ∧ Framed s o t [] 600000 7302250
def lw_Z (below : List Frame) (a : Array Value) (s : State) : State → Prop := fun t => ∃ o, t.status = .running ∧ Ended t below o ∧ lw_Q a s o t
/-- the law's own end, with 1 on the stack, nothing written that was there before, its room as the claim has it -/
theorem lw_ret {p : Program} {l : Launch} {e : Env} {s : State} {m : MethodId} {below : List Frame} {meth : Method} {c : Code} {b : Nat} (hx : p.tables.exec = Jvm.exec) (hb : c.code = code) (hr : meth.sig.returnType = ret) (hlocks : meth.locks = false) {pc : Nat} {H : Heap} {ls : Array Slot} (hdg : decode code pc = .ok (.ireturn, 1)) : W p l e room_1 s m #[Value.ref b] below meth c H [] 600000 7302250 (lw_Z below #[Value.ref b] s) (F0 m pc ls [.int 1]) := by
  intro T hT X
  obtain ⟨fs, hret, hrun, hended, hW, hframe⟩ := X.leave (v := some (.int 1)) (hlocks := hlocks) (fun h => by rw [hr] at h; cases h)
  have hmeth' : T.vm.method? m = some meth := X.method'
  refine ⟨T.setFrames fs, ?_, .returned (some (.int 1)), hrun, hended, rfl, ⟨_, rfl⟩, hW, hframe⟩
  jvm_step X.here [X.here.top, hx, hb, hdg, hmeth', hr, ret, narrow_b1]
  (try refine ⟨rfl, ?_⟩); (try refine ⟨rfl, ?_⟩)
  first | (intro acts; rw [hret _ acts rfl rfl rfl]) | rw [hret _ _ rfl rfl rfl]
  exact Steps.refl _
/-- what holds at the law's entry: the machine, the code, the tables' words (any of lw_tbl by 'hts w (by decide +kernel)'), the script of L ints xs at the cell b, what the Statement gives of the start (any of its parts by flat_of_before) -/
def lw_At (p : Program) (s : State) (m : MethodId) (meth : Method) (c : Code) (b L : Nat) (xs : Nat → Int32) : Prop :=
  p.tables.exec = Jvm.exec ∧ c.code = code ∧ meth.sig.returnType = ret ∧ c.maxLocals = 4 ∧ s.vm.findClass R_law = some m.cls ∧ (∀ w ∈ lw_tbl, w.before #[Value.ref b] s = true) ∧ va_X b L xs s s.heap ∧ b < s.heap.size ∧ meth.locks = false ∧ (Jvm.Cond.and given_1 narrow_1).before #[Value.ref b] s = true

theorem dL_law_0 : decode code 0 = .ok (.new 7, 3) := by decide +kernel
theorem dL_law_3 : decode code 3 = .ok (.dup, 1) := by decide +kernel
theorem dL_law_4 : decode code 4 = .ok (.invokespecial 9, 3) := by decide +kernel
theorem dL_law_7 : decode code 7 = .ok (.astore_n 1, 1) := by decide +kernel
theorem dL_law_8 : decode code 8 = .ok (.new 10, 3) := by decide +kernel
theorem dL_law_11 : decode code 11 = .ok (.dup, 1) := by decide +kernel
theorem dL_law_12 : decode code 12 = .ok (.invokespecial 12, 3) := by decide +kernel
theorem dL_law_15 : decode code 15 = .ok (.astore_n 2, 1) := by decide +kernel
theorem dL_law_16 : decode code 16 = .ok (.iconst 0, 1) := by decide +kernel
theorem dL_law_17 : decode code 17 = .ok (.istore_n 3, 1) := by decide +kernel
theorem dL_law_18 : decode code 18 = .ok (.iload_n 3, 1) := by decide +kernel
theorem dL_law_19 : decode code 19 = .ok (.aload_n 0, 1) := by decide +kernel
theorem dL_law_20 : decode code 20 = .ok (.arraylength, 1) := by decide +kernel
theorem dL_law_21 : decode code 21 = .ok (.bipush 6, 2) := by decide +kernel
theorem dL_law_23 : decode code 23 = .ok (.isub, 1) := by decide +kernel
theorem dL_law_24 : decode code 24 = .ok (.if_icmp .gt 1400, 3) := by decide +kernel
theorem dL_law_27 : decode code 27 = .ok (.aload_n 0, 1) := by decide +kernel
theorem dL_law_28 : decode code 28 = .ok (.iload_n 3, 1) := by decide +kernel
theorem dL_law_29 : decode code 29 = .ok (.iaload, 1) := by decide +kernel
theorem dL_law_30 : decode code 30 = .ok (.bipush 63, 2) := by decide +kernel
theorem dL_law_32 : decode code 32 = .ok (.iand, 1) := by decide +kernel
theorem dL_law_33 : decode code 33 = .ok (.tableswitch 1385 0 37 #[167, 190, 203, 226, 289, 322, 365, 398, 431, 465, 488, 521, 554, 587, 620, 653, 686, 729, 742, 776, 819, 852, 895, 928, 951, 974, 1018, 1061, 1094, 1127, 1170, 1203, 1246, 1280, 1323, 1336, 1349, 1362], 167) := by decide +kernel
theorem dL_law_200 : decode code 200 = .ok (.aload_n 1, 1) := by decide +kernel
theorem dL_law_201 : decode code 201 = .ok (.aload_n 0, 1) := by decide +kernel
theorem dL_law_202 : decode code 202 = .ok (.iload_n 3, 1) := by decide +kernel
theorem dL_law_203 : decode code 203 = .ok (.iconst 1, 1) := by decide +kernel
theorem dL_law_204 : decode code 204 = .ok (.iadd, 1) := by decide +kernel
theorem dL_law_205 : decode code 205 = .ok (.iaload, 1) := by decide +kernel
theorem dL_law_206 : decode code 206 = .ok (.invokevirtual 13, 3) := by decide +kernel
theorem dL_law_209 : decode code 209 = .ok (.aload_n 2, 1) := by decide +kernel
theorem dL_law_210 : decode code 210 = .ok (.aload_n 0, 1) := by decide +kernel
theorem dL_law_211 : decode code 211 = .ok (.iload_n 3, 1) := by decide +kernel
theorem dL_law_212 : decode code 212 = .ok (.iconst 1, 1) := by decide +kernel
theorem dL_law_213 : decode code 213 = .ok (.iadd, 1) := by decide +kernel
theorem dL_law_214 : decode code 214 = .ok (.iaload, 1) := by decide +kernel
theorem dL_law_215 : decode code 215 = .ok (.invokevirtual 17, 3) := by decide +kernel
theorem dL_law_218 : decode code 218 = .ok (.if_icmp .eq 1200, 3) := by decide +kernel
theorem dL_law_221 : decode code 221 = .ok (.iconst 0, 1) := by decide +kernel
theorem dL_law_222 : decode code 222 = .ok (.ireturn, 1) := by decide +kernel
theorem dL_law_223 : decode code 223 = .ok (.aload_n 1, 1) := by decide +kernel
theorem dL_law_224 : decode code 224 = .ok (.invokevirtual 18, 3) := by decide +kernel
theorem dL_law_227 : decode code 227 = .ok (.aload_n 2, 1) := by decide +kernel
theorem dL_law_228 : decode code 228 = .ok (.invokevirtual 22, 3) := by decide +kernel
theorem dL_law_231 : decode code 231 = .ok (.if_icmp .eq 1187, 3) := by decide +kernel
theorem dL_law_234 : decode code 234 = .ok (.iconst 0, 1) := by decide +kernel
theorem dL_law_235 : decode code 235 = .ok (.ireturn, 1) := by decide +kernel
theorem dL_law_236 : decode code 236 = .ok (.aload_n 1, 1) := by decide +kernel
theorem dL_law_237 : decode code 237 = .ok (.aload_n 0, 1) := by decide +kernel
theorem dL_law_238 : decode code 238 = .ok (.iload_n 3, 1) := by decide +kernel
theorem dL_law_239 : decode code 239 = .ok (.iconst 1, 1) := by decide +kernel
theorem dL_law_240 : decode code 240 = .ok (.iadd, 1) := by decide +kernel
theorem dL_law_241 : decode code 241 = .ok (.iaload, 1) := by decide +kernel
theorem dL_law_242 : decode code 242 = .ok (.invokevirtual 23, 3) := by decide +kernel
theorem dL_law_245 : decode code 245 = .ok (.aload_n 2, 1) := by decide +kernel
theorem dL_law_246 : decode code 246 = .ok (.aload_n 0, 1) := by decide +kernel
theorem dL_law_247 : decode code 247 = .ok (.iload_n 3, 1) := by decide +kernel
theorem dL_law_248 : decode code 248 = .ok (.iconst 1, 1) := by decide +kernel
theorem dL_law_249 : decode code 249 = .ok (.iadd, 1) := by decide +kernel
theorem dL_law_250 : decode code 250 = .ok (.iaload, 1) := by decide +kernel
theorem dL_law_251 : decode code 251 = .ok (.invokevirtual 26, 3) := by decide +kernel
theorem dL_law_254 : decode code 254 = .ok (.if_icmp .eq 1164, 3) := by decide +kernel
theorem dL_law_257 : decode code 257 = .ok (.iconst 0, 1) := by decide +kernel
theorem dL_law_258 : decode code 258 = .ok (.ireturn, 1) := by decide +kernel
theorem dL_law_259 : decode code 259 = .ok (.aload_n 1, 1) := by decide +kernel
theorem dL_law_260 : decode code 260 = .ok (.aload_n 0, 1) := by decide +kernel
theorem dL_law_261 : decode code 261 = .ok (.iload_n 3, 1) := by decide +kernel
theorem dL_law_262 : decode code 262 = .ok (.iconst 1, 1) := by decide +kernel
theorem dL_law_263 : decode code 263 = .ok (.iadd, 1) := by decide +kernel
theorem dL_law_264 : decode code 264 = .ok (.iaload, 1) := by decide +kernel
theorem dL_law_265 : decode code 265 = .ok (.aload_n 0, 1) := by decide +kernel
theorem dL_law_266 : decode code 266 = .ok (.iload_n 3, 1) := by decide +kernel
theorem dL_law_267 : decode code 267 = .ok (.iconst 2, 1) := by decide +kernel
theorem dL_law_268 : decode code 268 = .ok (.iadd, 1) := by decide +kernel
theorem dL_law_269 : decode code 269 = .ok (.iaload, 1) := by decide +kernel
theorem dL_law_270 : decode code 270 = .ok (.aload_n 0, 1) := by decide +kernel
theorem dL_law_271 : decode code 271 = .ok (.iload_n 3, 1) := by decide +kernel
theorem dL_law_272 : decode code 272 = .ok (.iconst 3, 1) := by decide +kernel
theorem dL_law_273 : decode code 273 = .ok (.iadd, 1) := by decide +kernel
theorem dL_law_274 : decode code 274 = .ok (.iaload, 1) := by decide +kernel
theorem dL_law_275 : decode code 275 = .ok (.aload_n 0, 1) := by decide +kernel
theorem dL_law_276 : decode code 276 = .ok (.iload_n 3, 1) := by decide +kernel
theorem dL_law_277 : decode code 277 = .ok (.iconst 4, 1) := by decide +kernel
theorem dL_law_278 : decode code 278 = .ok (.iadd, 1) := by decide +kernel
theorem dL_law_279 : decode code 279 = .ok (.iaload, 1) := by decide +kernel
theorem dL_law_280 : decode code 280 = .ok (.aload_n 0, 1) := by decide +kernel
theorem dL_law_281 : decode code 281 = .ok (.iload_n 3, 1) := by decide +kernel
theorem dL_law_282 : decode code 282 = .ok (.iconst 5, 1) := by decide +kernel
theorem dL_law_283 : decode code 283 = .ok (.iadd, 1) := by decide +kernel
theorem dL_law_284 : decode code 284 = .ok (.iaload, 1) := by decide +kernel
theorem dL_law_285 : decode code 285 = .ok (.invokevirtual 27, 3) := by decide +kernel
theorem dL_law_288 : decode code 288 = .ok (.aload_n 2, 1) := by decide +kernel
theorem dL_law_289 : decode code 289 = .ok (.aload_n 0, 1) := by decide +kernel
theorem dL_law_290 : decode code 290 = .ok (.iload_n 3, 1) := by decide +kernel
theorem dL_law_291 : decode code 291 = .ok (.iconst 1, 1) := by decide +kernel
theorem dL_law_292 : decode code 292 = .ok (.iadd, 1) := by decide +kernel
theorem dL_law_293 : decode code 293 = .ok (.iaload, 1) := by decide +kernel
theorem dL_law_294 : decode code 294 = .ok (.aload_n 0, 1) := by decide +kernel
theorem dL_law_295 : decode code 295 = .ok (.iload_n 3, 1) := by decide +kernel
theorem dL_law_296 : decode code 296 = .ok (.iconst 2, 1) := by decide +kernel
theorem dL_law_297 : decode code 297 = .ok (.iadd, 1) := by decide +kernel
theorem dL_law_298 : decode code 298 = .ok (.iaload, 1) := by decide +kernel
theorem dL_law_299 : decode code 299 = .ok (.aload_n 0, 1) := by decide +kernel
theorem dL_law_300 : decode code 300 = .ok (.iload_n 3, 1) := by decide +kernel
theorem dL_law_301 : decode code 301 = .ok (.iconst 3, 1) := by decide +kernel
theorem dL_law_302 : decode code 302 = .ok (.iadd, 1) := by decide +kernel
theorem dL_law_303 : decode code 303 = .ok (.iaload, 1) := by decide +kernel
theorem dL_law_304 : decode code 304 = .ok (.aload_n 0, 1) := by decide +kernel
theorem dL_law_305 : decode code 305 = .ok (.iload_n 3, 1) := by decide +kernel
theorem dL_law_306 : decode code 306 = .ok (.iconst 4, 1) := by decide +kernel
theorem dL_law_307 : decode code 307 = .ok (.iadd, 1) := by decide +kernel
theorem dL_law_308 : decode code 308 = .ok (.iaload, 1) := by decide +kernel
theorem dL_law_309 : decode code 309 = .ok (.aload_n 0, 1) := by decide +kernel
theorem dL_law_310 : decode code 310 = .ok (.iload_n 3, 1) := by decide +kernel
theorem dL_law_311 : decode code 311 = .ok (.iconst 5, 1) := by decide +kernel
theorem dL_law_312 : decode code 312 = .ok (.iadd, 1) := by decide +kernel
theorem dL_law_313 : decode code 313 = .ok (.iaload, 1) := by decide +kernel
theorem dL_law_314 : decode code 314 = .ok (.invokevirtual 31, 3) := by decide +kernel
theorem dL_law_317 : decode code 317 = .ok (.if_icmp .eq 1101, 3) := by decide +kernel
theorem dL_law_320 : decode code 320 = .ok (.iconst 0, 1) := by decide +kernel
theorem dL_law_321 : decode code 321 = .ok (.ireturn, 1) := by decide +kernel
theorem dL_law_322 : decode code 322 = .ok (.aload_n 1, 1) := by decide +kernel
theorem dL_law_323 : decode code 323 = .ok (.aload_n 0, 1) := by decide +kernel
theorem dL_law_324 : decode code 324 = .ok (.iload_n 3, 1) := by decide +kernel
theorem dL_law_325 : decode code 325 = .ok (.iconst 1, 1) := by decide +kernel
theorem dL_law_326 : decode code 326 = .ok (.iadd, 1) := by decide +kernel
theorem dL_law_327 : decode code 327 = .ok (.iaload, 1) := by decide +kernel
theorem dL_law_328 : decode code 328 = .ok (.aload_n 0, 1) := by decide +kernel
theorem dL_law_329 : decode code 329 = .ok (.iload_n 3, 1) := by decide +kernel
theorem dL_law_330 : decode code 330 = .ok (.iconst 2, 1) := by decide +kernel
theorem dL_law_331 : decode code 331 = .ok (.iadd, 1) := by decide +kernel
theorem dL_law_332 : decode code 332 = .ok (.iaload, 1) := by decide +kernel
theorem dL_law_333 : decode code 333 = .ok (.invokevirtual 32, 3) := by decide +kernel
theorem dL_law_336 : decode code 336 = .ok (.aload_n 2, 1) := by decide +kernel
theorem dL_law_337 : decode code 337 = .ok (.aload_n 0, 1) := by decide +kernel
theorem dL_law_338 : decode code 338 = .ok (.iload_n 3, 1) := by decide +kernel
theorem dL_law_339 : decode code 339 = .ok (.iconst 1, 1) := by decide +kernel
theorem dL_law_340 : decode code 340 = .ok (.iadd, 1) := by decide +kernel
theorem dL_law_341 : decode code 341 = .ok (.iaload, 1) := by decide +kernel
theorem dL_law_342 : decode code 342 = .ok (.aload_n 0, 1) := by decide +kernel
theorem dL_law_343 : decode code 343 = .ok (.iload_n 3, 1) := by decide +kernel
theorem dL_law_344 : decode code 344 = .ok (.iconst 2, 1) := by decide +kernel
theorem dL_law_345 : decode code 345 = .ok (.iadd, 1) := by decide +kernel
theorem dL_law_346 : decode code 346 = .ok (.iaload, 1) := by decide +kernel
theorem dL_law_347 : decode code 347 = .ok (.invokevirtual 36, 3) := by decide +kernel
theorem dL_law_350 : decode code 350 = .ok (.if_icmp .eq 1068, 3) := by decide +kernel
theorem dL_law_353 : decode code 353 = .ok (.iconst 0, 1) := by decide +kernel
theorem dL_law_354 : decode code 354 = .ok (.ireturn, 1) := by decide +kernel
theorem dL_law_355 : decode code 355 = .ok (.aload_n 1, 1) := by decide +kernel
theorem dL_law_356 : decode code 356 = .ok (.aload_n 0, 1) := by decide +kernel
theorem dL_law_357 : decode code 357 = .ok (.iload_n 3, 1) := by decide +kernel
theorem dL_law_358 : decode code 358 = .ok (.iconst 1, 1) := by decide +kernel
theorem dL_law_359 : decode code 359 = .ok (.iadd, 1) := by decide +kernel
theorem dL_law_360 : decode code 360 = .ok (.iaload, 1) := by decide +kernel
theorem dL_law_361 : decode code 361 = .ok (.aload_n 0, 1) := by decide +kernel
theorem dL_law_362 : decode code 362 = .ok (.iload_n 3, 1) := by decide +kernel
theorem dL_law_363 : decode code 363 = .ok (.iconst 2, 1) := by decide +kernel
theorem dL_law_364 : decode code 364 = .ok (.iadd, 1) := by decide +kernel
theorem dL_law_365 : decode code 365 = .ok (.iaload, 1) := by decide +kernel
theorem dL_law_366 : decode code 366 = .ok (.aload_n 0, 1) := by decide +kernel
theorem dL_law_367 : decode code 367 = .ok (.iload_n 3, 1) := by decide +kernel
theorem dL_law_368 : decode code 368 = .ok (.iconst 3, 1) := by decide +kernel
theorem dL_law_369 : decode code 369 = .ok (.iadd, 1) := by decide +kernel
theorem dL_law_370 : decode code 370 = .ok (.iaload, 1) := by decide +kernel
theorem dL_law_371 : decode code 371 = .ok (.invokevirtual 37, 3) := by decide +kernel
theorem dL_law_374 : decode code 374 = .ok (.aload_n 2, 1) := by decide +kernel
theorem dL_law_375 : decode code 375 = .ok (.aload_n 0, 1) := by decide +kernel
theorem dL_law_376 : decode code 376 = .ok (.iload_n 3, 1) := by decide +kernel
theorem dL_law_377 : decode code 377 = .ok (.iconst 1, 1) := by decide +kernel
theorem dL_law_378 : decode code 378 = .ok (.iadd, 1) := by decide +kernel
theorem dL_law_379 : decode code 379 = .ok (.iaload, 1) := by decide +kernel
theorem dL_law_380 : decode code 380 = .ok (.aload_n 0, 1) := by decide +kernel
theorem dL_law_381 : decode code 381 = .ok (.iload_n 3, 1) := by decide +kernel
theorem dL_law_382 : decode code 382 = .ok (.iconst 2, 1) := by decide +kernel
theorem dL_law_383 : decode code 383 = .ok (.iadd, 1) := by decide +kernel
theorem dL_law_384 : decode code 384 = .ok (.iaload, 1) := by decide +kernel
theorem dL_law_385 : decode code 385 = .ok (.aload_n 0, 1) := by decide +kernel
theorem dL_law_386 : decode code 386 = .ok (.iload_n 3, 1) := by decide +kernel
theorem dL_law_387 : decode code 387 = .ok (.iconst 3, 1) := by decide +kernel
theorem dL_law_388 : decode code 388 = .ok (.iadd, 1) := by decide +kernel
theorem dL_law_389 : decode code 389 = .ok (.iaload, 1) := by decide +kernel
theorem dL_law_390 : decode code 390 = .ok (.invokevirtual 41, 3) := by decide +kernel
theorem dL_law_393 : decode code 393 = .ok (.if_icmp .eq 1025, 3) := by decide +kernel
theorem dL_law_396 : decode code 396 = .ok (.iconst 0, 1) := by decide +kernel
theorem dL_law_397 : decode code 397 = .ok (.ireturn, 1) := by decide +kernel
theorem dL_law_398 : decode code 398 = .ok (.aload_n 1, 1) := by decide +kernel
theorem dL_law_399 : decode code 399 = .ok (.aload_n 0, 1) := by decide +kernel
theorem dL_law_400 : decode code 400 = .ok (.iload_n 3, 1) := by decide +kernel
theorem dL_law_401 : decode code 401 = .ok (.iconst 1, 1) := by decide +kernel
theorem dL_law_402 : decode code 402 = .ok (.iadd, 1) := by decide +kernel
theorem dL_law_403 : decode code 403 = .ok (.iaload, 1) := by decide +kernel
theorem dL_law_404 : decode code 404 = .ok (.aload_n 0, 1) := by decide +kernel
theorem dL_law_405 : decode code 405 = .ok (.iload_n 3, 1) := by decide +kernel
theorem dL_law_406 : decode code 406 = .ok (.iconst 2, 1) := by decide +kernel
theorem dL_law_407 : decode code 407 = .ok (.iadd, 1) := by decide +kernel
theorem dL_law_408 : decode code 408 = .ok (.iaload, 1) := by decide +kernel
theorem dL_law_409 : decode code 409 = .ok (.invokevirtual 42, 3) := by decide +kernel
theorem dL_law_412 : decode code 412 = .ok (.aload_n 2, 1) := by decide +kernel
theorem dL_law_413 : decode code 413 = .ok (.aload_n 0, 1) := by decide +kernel
theorem dL_law_414 : decode code 414 = .ok (.iload_n 3, 1) := by decide +kernel
theorem dL_law_415 : decode code 415 = .ok (.iconst 1, 1) := by decide +kernel
theorem dL_law_416 : decode code 416 = .ok (.iadd, 1) := by decide +kernel
theorem dL_law_417 : decode code 417 = .ok (.iaload, 1) := by decide +kernel
theorem dL_law_418 : decode code 418 = .ok (.aload_n 0, 1) := by decide +kernel
theorem dL_law_419 : decode code 419 = .ok (.iload_n 3, 1) := by decide +kernel
theorem dL_law_420 : decode code 420 = .ok (.iconst 2, 1) := by decide +kernel
theorem dL_law_421 : decode code 421 = .ok (.iadd, 1) := by decide +kernel
theorem dL_law_422 : decode code 422 = .ok (.iaload, 1) := by decide +kernel
theorem dL_law_423 : decode code 423 = .ok (.invokevirtual 45, 3) := by decide +kernel
theorem dL_law_426 : decode code 426 = .ok (.if_icmp .eq 992, 3) := by decide +kernel
theorem dL_law_429 : decode code 429 = .ok (.iconst 0, 1) := by decide +kernel
theorem dL_law_430 : decode code 430 = .ok (.ireturn, 1) := by decide +kernel
theorem dL_law_431 : decode code 431 = .ok (.aload_n 1, 1) := by decide +kernel
theorem dL_law_432 : decode code 432 = .ok (.aload_n 0, 1) := by decide +kernel
theorem dL_law_433 : decode code 433 = .ok (.iload_n 3, 1) := by decide +kernel
theorem dL_law_434 : decode code 434 = .ok (.iconst 1, 1) := by decide +kernel
theorem dL_law_435 : decode code 435 = .ok (.iadd, 1) := by decide +kernel
theorem dL_law_436 : decode code 436 = .ok (.iaload, 1) := by decide +kernel
theorem dL_law_437 : decode code 437 = .ok (.aload_n 0, 1) := by decide +kernel
theorem dL_law_438 : decode code 438 = .ok (.iload_n 3, 1) := by decide +kernel
theorem dL_law_439 : decode code 439 = .ok (.iconst 2, 1) := by decide +kernel
theorem dL_law_440 : decode code 440 = .ok (.iadd, 1) := by decide +kernel
theorem dL_law_441 : decode code 441 = .ok (.iaload, 1) := by decide +kernel
theorem dL_law_442 : decode code 442 = .ok (.invokevirtual 46, 3) := by decide +kernel
theorem dL_law_445 : decode code 445 = .ok (.aload_n 2, 1) := by decide +kernel
theorem dL_law_446 : decode code 446 = .ok (.aload_n 0, 1) := by decide +kernel
theorem dL_law_447 : decode code 447 = .ok (.iload_n 3, 1) := by decide +kernel
theorem dL_law_448 : decode code 448 = .ok (.iconst 1, 1) := by decide +kernel
theorem dL_law_449 : decode code 449 = .ok (.iadd, 1) := by decide +kernel
theorem dL_law_450 : decode code 450 = .ok (.iaload, 1) := by decide +kernel
theorem dL_law_451 : decode code 451 = .ok (.aload_n 0, 1) := by decide +kernel
theorem dL_law_452 : decode code 452 = .ok (.iload_n 3, 1) := by decide +kernel
theorem dL_law_453 : decode code 453 = .ok (.iconst 2, 1) := by decide +kernel
theorem dL_law_454 : decode code 454 = .ok (.iadd, 1) := by decide +kernel
theorem dL_law_455 : decode code 455 = .ok (.iaload, 1) := by decide +kernel
theorem dL_law_456 : decode code 456 = .ok (.invokevirtual 49, 3) := by decide +kernel
theorem dL_law_459 : decode code 459 = .ok (.if_icmp .eq 959, 3) := by decide +kernel
theorem dL_law_462 : decode code 462 = .ok (.iconst 0, 1) := by decide +kernel
theorem dL_law_463 : decode code 463 = .ok (.ireturn, 1) := by decide +kernel
theorem dL_law_464 : decode code 464 = .ok (.aload_n 1, 1) := by decide +kernel
theorem dL_law_465 : decode code 465 = .ok (.aload_n 0, 1) := by decide +kernel
theorem dL_law_466 : decode code 466 = .ok (.iload_n 3, 1) := by decide +kernel
theorem dL_law_467 : decode code 467 = .ok (.iconst 1, 1) := by decide +kernel
theorem dL_law_468 : decode code 468 = .ok (.iadd, 1) := by decide +kernel
theorem dL_law_469 : decode code 469 = .ok (.iaload, 1) := by decide +kernel
theorem dL_law_470 : decode code 470 = .ok (.aload_n 0, 1) := by decide +kernel
theorem dL_law_471 : decode code 471 = .ok (.iload_n 3, 1) := by decide +kernel
theorem dL_law_472 : decode code 472 = .ok (.iconst 2, 1) := by decide +kernel
theorem dL_law_473 : decode code 473 = .ok (.iadd, 1) := by decide +kernel
theorem dL_law_474 : decode code 474 = .ok (.iaload, 1) := by decide +kernel
theorem dL_law_475 : decode code 475 = .ok (.invokevirtual 50, 3) := by decide +kernel
theorem dL_law_478 : decode code 478 = .ok (.aload_n 2, 1) := by decide +kernel
theorem dL_law_479 : decode code 479 = .ok (.aload_n 0, 1) := by decide +kernel
theorem dL_law_480 : decode code 480 = .ok (.iload_n 3, 1) := by decide +kernel
theorem dL_law_481 : decode code 481 = .ok (.iconst 1, 1) := by decide +kernel
theorem dL_law_482 : decode code 482 = .ok (.iadd, 1) := by decide +kernel
theorem dL_law_483 : decode code 483 = .ok (.iaload, 1) := by decide +kernel
theorem dL_law_484 : decode code 484 = .ok (.aload_n 0, 1) := by decide +kernel
theorem dL_law_485 : decode code 485 = .ok (.iload_n 3, 1) := by decide +kernel
theorem dL_law_486 : decode code 486 = .ok (.iconst 2, 1) := by decide +kernel
theorem dL_law_487 : decode code 487 = .ok (.iadd, 1) := by decide +kernel
theorem dL_law_488 : decode code 488 = .ok (.iaload, 1) := by decide +kernel
theorem dL_law_489 : decode code 489 = .ok (.invokevirtual 54, 3) := by decide +kernel
theorem dL_law_492 : decode code 492 = .ok (.lcmp, 1) := by decide +kernel
theorem dL_law_493 : decode code 493 = .ok (.ifCond .eq 925, 3) := by decide +kernel
theorem dL_law_496 : decode code 496 = .ok (.iconst 0, 1) := by decide +kernel
theorem dL_law_497 : decode code 497 = .ok (.ireturn, 1) := by decide +kernel
theorem dL_law_498 : decode code 498 = .ok (.aload_n 1, 1) := by decide +kernel
theorem dL_law_499 : decode code 499 = .ok (.aload_n 0, 1) := by decide +kernel
theorem dL_law_500 : decode code 500 = .ok (.iload_n 3, 1) := by decide +kernel
theorem dL_law_501 : decode code 501 = .ok (.iconst 1, 1) := by decide +kernel
theorem dL_law_502 : decode code 502 = .ok (.iadd, 1) := by decide +kernel
theorem dL_law_503 : decode code 503 = .ok (.iaload, 1) := by decide +kernel
theorem dL_law_504 : decode code 504 = .ok (.invokevirtual 55, 3) := by decide +kernel
theorem dL_law_507 : decode code 507 = .ok (.aload_n 2, 1) := by decide +kernel
theorem dL_law_508 : decode code 508 = .ok (.aload_n 0, 1) := by decide +kernel
theorem dL_law_509 : decode code 509 = .ok (.iload_n 3, 1) := by decide +kernel
theorem dL_law_510 : decode code 510 = .ok (.iconst 1, 1) := by decide +kernel
theorem dL_law_511 : decode code 511 = .ok (.iadd, 1) := by decide +kernel
theorem dL_law_512 : decode code 512 = .ok (.iaload, 1) := by decide +kernel
theorem dL_law_513 : decode code 513 = .ok (.invokevirtual 58, 3) := by decide +kernel
theorem dL_law_516 : decode code 516 = .ok (.if_icmp .eq 902, 3) := by decide +kernel
theorem dL_law_519 : decode code 519 = .ok (.iconst 0, 1) := by decide +kernel
theorem dL_law_520 : decode code 520 = .ok (.ireturn, 1) := by decide +kernel
theorem dL_law_521 : decode code 521 = .ok (.aload_n 1, 1) := by decide +kernel
theorem dL_law_522 : decode code 522 = .ok (.aload_n 0, 1) := by decide +kernel
theorem dL_law_523 : decode code 523 = .ok (.iload_n 3, 1) := by decide +kernel
theorem dL_law_524 : decode code 524 = .ok (.iconst 1, 1) := by decide +kernel
theorem dL_law_525 : decode code 525 = .ok (.iadd, 1) := by decide +kernel
theorem dL_law_526 : decode code 526 = .ok (.iaload, 1) := by decide +kernel
theorem dL_law_527 : decode code 527 = .ok (.aload_n 0, 1) := by decide +kernel
theorem dL_law_528 : decode code 528 = .ok (.iload_n 3, 1) := by decide +kernel
theorem dL_law_529 : decode code 529 = .ok (.iconst 2, 1) := by decide +kernel
theorem dL_law_530 : decode code 530 = .ok (.iadd, 1) := by decide +kernel
theorem dL_law_531 : decode code 531 = .ok (.iaload, 1) := by decide +kernel
theorem dL_law_532 : decode code 532 = .ok (.invokevirtual 59, 3) := by decide +kernel
theorem dL_law_535 : decode code 535 = .ok (.aload_n 2, 1) := by decide +kernel
theorem dL_law_536 : decode code 536 = .ok (.aload_n 0, 1) := by decide +kernel
theorem dL_law_537 : decode code 537 = .ok (.iload_n 3, 1) := by decide +kernel
theorem dL_law_538 : decode code 538 = .ok (.iconst 1, 1) := by decide +kernel
theorem dL_law_539 : decode code 539 = .ok (.iadd, 1) := by decide +kernel
theorem dL_law_540 : decode code 540 = .ok (.iaload, 1) := by decide +kernel
theorem dL_law_541 : decode code 541 = .ok (.aload_n 0, 1) := by decide +kernel
theorem dL_law_542 : decode code 542 = .ok (.iload_n 3, 1) := by decide +kernel
theorem dL_law_543 : decode code 543 = .ok (.iconst 2, 1) := by decide +kernel
theorem dL_law_544 : decode code 544 = .ok (.iadd, 1) := by decide +kernel
theorem dL_law_545 : decode code 545 = .ok (.iaload, 1) := by decide +kernel
theorem dL_law_546 : decode code 546 = .ok (.invokevirtual 62, 3) := by decide +kernel
theorem dL_law_549 : decode code 549 = .ok (.if_icmp .eq 869, 3) := by decide +kernel
theorem dL_law_552 : decode code 552 = .ok (.iconst 0, 1) := by decide +kernel
theorem dL_law_553 : decode code 553 = .ok (.ireturn, 1) := by decide +kernel
theorem dL_law_554 : decode code 554 = .ok (.aload_n 1, 1) := by decide +kernel
theorem dL_law_555 : decode code 555 = .ok (.aload_n 0, 1) := by decide +kernel
theorem dL_law_556 : decode code 556 = .ok (.iload_n 3, 1) := by decide +kernel
theorem dL_law_557 : decode code 557 = .ok (.iconst 1, 1) := by decide +kernel
theorem dL_law_558 : decode code 558 = .ok (.iadd, 1) := by decide +kernel
theorem dL_law_559 : decode code 559 = .ok (.iaload, 1) := by decide +kernel
theorem dL_law_560 : decode code 560 = .ok (.aload_n 0, 1) := by decide +kernel
theorem dL_law_561 : decode code 561 = .ok (.iload_n 3, 1) := by decide +kernel
theorem dL_law_562 : decode code 562 = .ok (.iconst 2, 1) := by decide +kernel
theorem dL_law_563 : decode code 563 = .ok (.iadd, 1) := by decide +kernel
theorem dL_law_564 : decode code 564 = .ok (.iaload, 1) := by decide +kernel
theorem dL_law_565 : decode code 565 = .ok (.invokevirtual 63, 3) := by decide +kernel
theorem dL_law_568 : decode code 568 = .ok (.aload_n 2, 1) := by decide +kernel
theorem dL_law_569 : decode code 569 = .ok (.aload_n 0, 1) := by decide +kernel
theorem dL_law_570 : decode code 570 = .ok (.iload_n 3, 1) := by decide +kernel
theorem dL_law_571 : decode code 571 = .ok (.iconst 1, 1) := by decide +kernel
theorem dL_law_572 : decode code 572 = .ok (.iadd, 1) := by decide +kernel
theorem dL_law_573 : decode code 573 = .ok (.iaload, 1) := by decide +kernel
theorem dL_law_574 : decode code 574 = .ok (.aload_n 0, 1) := by decide +kernel
theorem dL_law_575 : decode code 575 = .ok (.iload_n 3, 1) := by decide +kernel
theorem dL_law_576 : decode code 576 = .ok (.iconst 2, 1) := by decide +kernel
theorem dL_law_577 : decode code 577 = .ok (.iadd, 1) := by decide +kernel
theorem dL_law_578 : decode code 578 = .ok (.iaload, 1) := by decide +kernel
theorem dL_law_579 : decode code 579 = .ok (.invokevirtual 66, 3) := by decide +kernel
theorem dL_law_582 : decode code 582 = .ok (.if_icmp .eq 836, 3) := by decide +kernel
theorem dL_law_585 : decode code 585 = .ok (.iconst 0, 1) := by decide +kernel
theorem dL_law_586 : decode code 586 = .ok (.ireturn, 1) := by decide +kernel
theorem dL_law_587 : decode code 587 = .ok (.aload_n 1, 1) := by decide +kernel
theorem dL_law_588 : decode code 588 = .ok (.aload_n 0, 1) := by decide +kernel
theorem dL_law_589 : decode code 589 = .ok (.iload_n 3, 1) := by decide +kernel
theorem dL_law_590 : decode code 590 = .ok (.iconst 1, 1) := by decide +kernel
theorem dL_law_591 : decode code 591 = .ok (.iadd, 1) := by decide +kernel
theorem dL_law_592 : decode code 592 = .ok (.iaload, 1) := by decide +kernel
theorem dL_law_593 : decode code 593 = .ok (.aload_n 0, 1) := by decide +kernel
theorem dL_law_594 : decode code 594 = .ok (.iload_n 3, 1) := by decide +kernel
theorem dL_law_595 : decode code 595 = .ok (.iconst 2, 1) := by decide +kernel
theorem dL_law_596 : decode code 596 = .ok (.iadd, 1) := by decide +kernel
theorem dL_law_597 : decode code 597 = .ok (.iaload, 1) := by decide +kernel
theorem dL_law_598 : decode code 598 = .ok (.invokevirtual 67, 3) := by decide +kernel
theorem dL_law_601 : decode code 601 = .ok (.aload_n 2, 1) := by decide +kernel
theorem dL_law_602 : decode code 602 = .ok (.aload_n 0, 1) := by decide +kernel
theorem dL_law_603 : decode code 603 = .ok (.iload_n 3, 1) := by decide +kernel
theorem dL_law_604 : decode code 604 = .ok (.iconst 1, 1) := by decide +kernel
theorem dL_law_605 : decode code 605 = .ok (.iadd, 1) := by decide +kernel
theorem dL_law_606 : decode code 606 = .ok (.iaload, 1) := by decide +kernel
theorem dL_law_607 : decode code 607 = .ok (.aload_n 0, 1) := by decide +kernel
theorem dL_law_608 : decode code 608 = .ok (.iload_n 3, 1) := by decide +kernel
theorem dL_law_609 : decode code 609 = .ok (.iconst 2, 1) := by decide +kernel
theorem dL_law_610 : decode code 610 = .ok (.iadd, 1) := by decide +kernel
theorem dL_law_611 : decode code 611 = .ok (.iaload, 1) := by decide +kernel
theorem dL_law_612 : decode code 612 = .ok (.invokevirtual 70, 3) := by decide +kernel
theorem dL_law_615 : decode code 615 = .ok (.if_icmp .eq 803, 3) := by decide +kernel
theorem dL_law_618 : decode code 618 = .ok (.iconst 0, 1) := by decide +kernel
theorem dL_law_619 : decode code 619 = .ok (.ireturn, 1) := by decide +kernel
theorem dL_law_620 : decode code 620 = .ok (.aload_n 1, 1) := by decide +kernel
theorem dL_law_621 : decode code 621 = .ok (.aload_n 0, 1) := by decide +kernel
theorem dL_law_622 : decode code 622 = .ok (.iload_n 3, 1) := by decide +kernel
theorem dL_law_623 : decode code 623 = .ok (.iconst 1, 1) := by decide +kernel
theorem dL_law_624 : decode code 624 = .ok (.iadd, 1) := by decide +kernel
theorem dL_law_625 : decode code 625 = .ok (.iaload, 1) := by decide +kernel
theorem dL_law_626 : decode code 626 = .ok (.aload_n 0, 1) := by decide +kernel
theorem dL_law_627 : decode code 627 = .ok (.iload_n 3, 1) := by decide +kernel
theorem dL_law_628 : decode code 628 = .ok (.iconst 2, 1) := by decide +kernel
theorem dL_law_629 : decode code 629 = .ok (.iadd, 1) := by decide +kernel
theorem dL_law_630 : decode code 630 = .ok (.iaload, 1) := by decide +kernel
theorem dL_law_631 : decode code 631 = .ok (.invokevirtual 71, 3) := by decide +kernel
theorem dL_law_634 : decode code 634 = .ok (.aload_n 2, 1) := by decide +kernel
theorem dL_law_635 : decode code 635 = .ok (.aload_n 0, 1) := by decide +kernel
theorem dL_law_636 : decode code 636 = .ok (.iload_n 3, 1) := by decide +kernel
theorem dL_law_637 : decode code 637 = .ok (.iconst 1, 1) := by decide +kernel
theorem dL_law_638 : decode code 638 = .ok (.iadd, 1) := by decide +kernel
theorem dL_law_639 : decode code 639 = .ok (.iaload, 1) := by decide +kernel
theorem dL_law_640 : decode code 640 = .ok (.aload_n 0, 1) := by decide +kernel
theorem dL_law_641 : decode code 641 = .ok (.iload_n 3, 1) := by decide +kernel
theorem dL_law_642 : decode code 642 = .ok (.iconst 2, 1) := by decide +kernel
theorem dL_law_643 : decode code 643 = .ok (.iadd, 1) := by decide +kernel
theorem dL_law_644 : decode code 644 = .ok (.iaload, 1) := by decide +kernel
theorem dL_law_645 : decode code 645 = .ok (.invokevirtual 74, 3) := by decide +kernel
theorem dL_law_648 : decode code 648 = .ok (.if_icmp .eq 770, 3) := by decide +kernel
theorem dL_law_651 : decode code 651 = .ok (.iconst 0, 1) := by decide +kernel
theorem dL_law_652 : decode code 652 = .ok (.ireturn, 1) := by decide +kernel
theorem dL_law_653 : decode code 653 = .ok (.aload_n 1, 1) := by decide +kernel
theorem dL_law_654 : decode code 654 = .ok (.aload_n 0, 1) := by decide +kernel
theorem dL_law_655 : decode code 655 = .ok (.iload_n 3, 1) := by decide +kernel
theorem dL_law_656 : decode code 656 = .ok (.iconst 1, 1) := by decide +kernel
theorem dL_law_657 : decode code 657 = .ok (.iadd, 1) := by decide +kernel
theorem dL_law_658 : decode code 658 = .ok (.iaload, 1) := by decide +kernel
theorem dL_law_659 : decode code 659 = .ok (.aload_n 0, 1) := by decide +kernel
theorem dL_law_660 : decode code 660 = .ok (.iload_n 3, 1) := by decide +kernel
theorem dL_law_661 : decode code 661 = .ok (.iconst 2, 1) := by decide +kernel
theorem dL_law_662 : decode code 662 = .ok (.iadd, 1) := by decide +kernel
theorem dL_law_663 : decode code 663 = .ok (.iaload, 1) := by decide +kernel
theorem dL_law_664 : decode code 664 = .ok (.invokevirtual 75, 3) := by decide +kernel
theorem dL_law_667 : decode code 667 = .ok (.aload_n 2, 1) := by decide +kernel
theorem dL_law_668 : decode code 668 = .ok (.aload_n 0, 1) := by decide +kernel
theorem dL_law_669 : decode code 669 = .ok (.iload_n 3, 1) := by decide +kernel
theorem dL_law_670 : decode code 670 = .ok (.iconst 1, 1) := by decide +kernel
theorem dL_law_671 : decode code 671 = .ok (.iadd, 1) := by decide +kernel
theorem dL_law_672 : decode code 672 = .ok (.iaload, 1) := by decide +kernel
theorem dL_law_673 : decode code 673 = .ok (.aload_n 0, 1) := by decide +kernel
theorem dL_law_674 : decode code 674 = .ok (.iload_n 3, 1) := by decide +kernel
theorem dL_law_675 : decode code 675 = .ok (.iconst 2, 1) := by decide +kernel
theorem dL_law_676 : decode code 676 = .ok (.iadd, 1) := by decide +kernel
theorem dL_law_677 : decode code 677 = .ok (.iaload, 1) := by decide +kernel
theorem dL_law_678 : decode code 678 = .ok (.invokevirtual 78, 3) := by decide +kernel
theorem dL_law_681 : decode code 681 = .ok (.if_icmp .eq 737, 3) := by decide +kernel
theorem dL_law_684 : decode code 684 = .ok (.iconst 0, 1) := by decide +kernel
theorem dL_law_685 : decode code 685 = .ok (.ireturn, 1) := by decide +kernel
theorem dL_law_686 : decode code 686 = .ok (.aload_n 1, 1) := by decide +kernel
theorem dL_law_687 : decode code 687 = .ok (.aload_n 0, 1) := by decide +kernel
theorem dL_law_688 : decode code 688 = .ok (.iload_n 3, 1) := by decide +kernel
theorem dL_law_689 : decode code 689 = .ok (.iconst 1, 1) := by decide +kernel
theorem dL_law_690 : decode code 690 = .ok (.iadd, 1) := by decide +kernel
theorem dL_law_691 : decode code 691 = .ok (.iaload, 1) := by decide +kernel
theorem dL_law_692 : decode code 692 = .ok (.aload_n 0, 1) := by decide +kernel
theorem dL_law_693 : decode code 693 = .ok (.iload_n 3, 1) := by decide +kernel
theorem dL_law_694 : decode code 694 = .ok (.iconst 2, 1) := by decide +kernel
theorem dL_law_695 : decode code 695 = .ok (.iadd, 1) := by decide +kernel
theorem dL_law_696 : decode code 696 = .ok (.iaload, 1) := by decide +kernel
theorem dL_law_697 : decode code 697 = .ok (.invokevirtual 79, 3) := by decide +kernel
theorem dL_law_700 : decode code 700 = .ok (.aload_n 2, 1) := by decide +kernel
theorem dL_law_701 : decode code 701 = .ok (.aload_n 0, 1) := by decide +kernel
theorem dL_law_702 : decode code 702 = .ok (.iload_n 3, 1) := by decide +kernel
theorem dL_law_703 : decode code 703 = .ok (.iconst 1, 1) := by decide +kernel
theorem dL_law_704 : decode code 704 = .ok (.iadd, 1) := by decide +kernel
theorem dL_law_705 : decode code 705 = .ok (.iaload, 1) := by decide +kernel
theorem dL_law_706 : decode code 706 = .ok (.aload_n 0, 1) := by decide +kernel
theorem dL_law_707 : decode code 707 = .ok (.iload_n 3, 1) := by decide +kernel
theorem dL_law_708 : decode code 708 = .ok (.iconst 2, 1) := by decide +kernel
theorem dL_law_709 : decode code 709 = .ok (.iadd, 1) := by decide +kernel
theorem dL_law_710 : decode code 710 = .ok (.iaload, 1) := by decide +kernel
theorem dL_law_711 : decode code 711 = .ok (.invokevirtual 82, 3) := by decide +kernel
theorem dL_law_714 : decode code 714 = .ok (.if_icmp .eq 704, 3) := by decide +kernel
theorem dL_law_717 : decode code 717 = .ok (.iconst 0, 1) := by decide +kernel
theorem dL_law_718 : decode code 718 = .ok (.ireturn, 1) := by decide +kernel
theorem dL_law_719 : decode code 719 = .ok (.aload_n 1, 1) := by decide +kernel
theorem dL_law_720 : decode code 720 = .ok (.aload_n 0, 1) := by decide +kernel
theorem dL_law_721 : decode code 721 = .ok (.iload_n 3, 1) := by decide +kernel
theorem dL_law_722 : decode code 722 = .ok (.iconst 1, 1) := by decide +kernel
theorem dL_law_723 : decode code 723 = .ok (.iadd, 1) := by decide +kernel
theorem dL_law_724 : decode code 724 = .ok (.iaload, 1) := by decide +kernel
theorem dL_law_725 : decode code 725 = .ok (.aload_n 0, 1) := by decide +kernel
theorem dL_law_726 : decode code 726 = .ok (.iload_n 3, 1) := by decide +kernel
theorem dL_law_727 : decode code 727 = .ok (.iconst 2, 1) := by decide +kernel
theorem dL_law_728 : decode code 728 = .ok (.iadd, 1) := by decide +kernel
theorem dL_law_729 : decode code 729 = .ok (.iaload, 1) := by decide +kernel
theorem dL_law_730 : decode code 730 = .ok (.aload_n 0, 1) := by decide +kernel
theorem dL_law_731 : decode code 731 = .ok (.iload_n 3, 1) := by decide +kernel
theorem dL_law_732 : decode code 732 = .ok (.iconst 3, 1) := by decide +kernel
theorem dL_law_733 : decode code 733 = .ok (.iadd, 1) := by decide +kernel
theorem dL_law_734 : decode code 734 = .ok (.iaload, 1) := by decide +kernel
theorem dL_law_735 : decode code 735 = .ok (.invokevirtual 83, 3) := by decide +kernel
theorem dL_law_738 : decode code 738 = .ok (.aload_n 2, 1) := by decide +kernel
theorem dL_law_739 : decode code 739 = .ok (.aload_n 0, 1) := by decide +kernel
theorem dL_law_740 : decode code 740 = .ok (.iload_n 3, 1) := by decide +kernel
theorem dL_law_741 : decode code 741 = .ok (.iconst 1, 1) := by decide +kernel
theorem dL_law_742 : decode code 742 = .ok (.iadd, 1) := by decide +kernel
theorem dL_law_743 : decode code 743 = .ok (.iaload, 1) := by decide +kernel
theorem dL_law_744 : decode code 744 = .ok (.aload_n 0, 1) := by decide +kernel
theorem dL_law_745 : decode code 745 = .ok (.iload_n 3, 1) := by decide +kernel
theorem dL_law_746 : decode code 746 = .ok (.iconst 2, 1) := by decide +kernel
theorem dL_law_747 : decode code 747 = .ok (.iadd, 1) := by decide +kernel
theorem dL_law_748 : decode code 748 = .ok (.iaload, 1) := by decide +kernel
theorem dL_law_749 : decode code 749 = .ok (.aload_n 0, 1) := by decide +kernel
theorem dL_law_750 : decode code 750 = .ok (.iload_n 3, 1) := by decide +kernel
theorem dL_law_751 : decode code 751 = .ok (.iconst 3, 1) := by decide +kernel
theorem dL_law_752 : decode code 752 = .ok (.iadd, 1) := by decide +kernel
theorem dL_law_753 : decode code 753 = .ok (.iaload, 1) := by decide +kernel
theorem dL_law_754 : decode code 754 = .ok (.invokevirtual 86, 3) := by decide +kernel
theorem dL_law_757 : decode code 757 = .ok (.if_icmp .eq 661, 3) := by decide +kernel
theorem dL_law_760 : decode code 760 = .ok (.iconst 0, 1) := by decide +kernel
theorem dL_law_761 : decode code 761 = .ok (.ireturn, 1) := by decide +kernel
theorem dL_law_762 : decode code 762 = .ok (.aload_n 1, 1) := by decide +kernel
theorem dL_law_763 : decode code 763 = .ok (.invokevirtual 87, 3) := by decide +kernel
theorem dL_law_766 : decode code 766 = .ok (.aload_n 2, 1) := by decide +kernel
theorem dL_law_767 : decode code 767 = .ok (.invokevirtual 90, 3) := by decide +kernel
theorem dL_law_770 : decode code 770 = .ok (.if_icmp .eq 648, 3) := by decide +kernel
theorem dL_law_773 : decode code 773 = .ok (.iconst 0, 1) := by decide +kernel
theorem dL_law_774 : decode code 774 = .ok (.ireturn, 1) := by decide +kernel
theorem dL_law_775 : decode code 775 = .ok (.aload_n 1, 1) := by decide +kernel
theorem dL_law_776 : decode code 776 = .ok (.aload_n 0, 1) := by decide +kernel
theorem dL_law_777 : decode code 777 = .ok (.iload_n 3, 1) := by decide +kernel
theorem dL_law_778 : decode code 778 = .ok (.iconst 1, 1) := by decide +kernel
theorem dL_law_779 : decode code 779 = .ok (.iadd, 1) := by decide +kernel
theorem dL_law_780 : decode code 780 = .ok (.iaload, 1) := by decide +kernel
theorem dL_law_781 : decode code 781 = .ok (.aload_n 0, 1) := by decide +kernel
theorem dL_law_782 : decode code 782 = .ok (.iload_n 3, 1) := by decide +kernel
theorem dL_law_783 : decode code 783 = .ok (.iconst 2, 1) := by decide +kernel
theorem dL_law_784 : decode code 784 = .ok (.iadd, 1) := by decide +kernel
theorem dL_law_785 : decode code 785 = .ok (.iaload, 1) := by decide +kernel
theorem dL_law_786 : decode code 786 = .ok (.invokevirtual 91, 3) := by decide +kernel
theorem dL_law_789 : decode code 789 = .ok (.aload_n 2, 1) := by decide +kernel
theorem dL_law_790 : decode code 790 = .ok (.aload_n 0, 1) := by decide +kernel
theorem dL_law_791 : decode code 791 = .ok (.iload_n 3, 1) := by decide +kernel
theorem dL_law_792 : decode code 792 = .ok (.iconst 1, 1) := by decide +kernel
theorem dL_law_793 : decode code 793 = .ok (.iadd, 1) := by decide +kernel
theorem dL_law_794 : decode code 794 = .ok (.iaload, 1) := by decide +kernel
theorem dL_law_795 : decode code 795 = .ok (.aload_n 0, 1) := by decide +kernel
theorem dL_law_796 : decode code 796 = .ok (.iload_n 3, 1) := by decide +kernel
theorem dL_law_797 : decode code 797 = .ok (.iconst 2, 1) := by decide +kernel
theorem dL_law_798 : decode code 798 = .ok (.iadd, 1) := by decide +kernel
theorem dL_law_799 : decode code 799 = .ok (.iaload, 1) := by decide +kernel
theorem dL_law_800 : decode code 800 = .ok (.invokevirtual 94, 3) := by decide +kernel
theorem dL_law_803 : decode code 803 = .ok (.lcmp, 1) := by decide +kernel
theorem dL_law_804 : decode code 804 = .ok (.ifCond .eq 614, 3) := by decide +kernel
theorem dL_law_807 : decode code 807 = .ok (.iconst 0, 1) := by decide +kernel
theorem dL_law_808 : decode code 808 = .ok (.ireturn, 1) := by decide +kernel
theorem dL_law_809 : decode code 809 = .ok (.aload_n 1, 1) := by decide +kernel
theorem dL_law_810 : decode code 810 = .ok (.aload_n 0, 1) := by decide +kernel
theorem dL_law_811 : decode code 811 = .ok (.iload_n 3, 1) := by decide +kernel
theorem dL_law_812 : decode code 812 = .ok (.iconst 1, 1) := by decide +kernel
theorem dL_law_813 : decode code 813 = .ok (.iadd, 1) := by decide +kernel
theorem dL_law_814 : decode code 814 = .ok (.iaload, 1) := by decide +kernel
theorem dL_law_815 : decode code 815 = .ok (.aload_n 0, 1) := by decide +kernel
theorem dL_law_816 : decode code 816 = .ok (.iload_n 3, 1) := by decide +kernel
theorem dL_law_817 : decode code 817 = .ok (.iconst 2, 1) := by decide +kernel
theorem dL_law_818 : decode code 818 = .ok (.iadd, 1) := by decide +kernel
theorem dL_law_819 : decode code 819 = .ok (.iaload, 1) := by decide +kernel
theorem dL_law_820 : decode code 820 = .ok (.aload_n 0, 1) := by decide +kernel
theorem dL_law_821 : decode code 821 = .ok (.iload_n 3, 1) := by decide +kernel
theorem dL_law_822 : decode code 822 = .ok (.iconst 3, 1) := by decide +kernel
theorem dL_law_823 : decode code 823 = .ok (.iadd, 1) := by decide +kernel
theorem dL_law_824 : decode code 824 = .ok (.iaload, 1) := by decide +kernel
theorem dL_law_825 : decode code 825 = .ok (.invokevirtual 95, 3) := by decide +kernel
theorem dL_law_828 : decode code 828 = .ok (.aload_n 2, 1) := by decide +kernel
theorem dL_law_829 : decode code 829 = .ok (.aload_n 0, 1) := by decide +kernel
theorem dL_law_830 : decode code 830 = .ok (.iload_n 3, 1) := by decide +kernel
theorem dL_law_831 : decode code 831 = .ok (.iconst 1, 1) := by decide +kernel
theorem dL_law_832 : decode code 832 = .ok (.iadd, 1) := by decide +kernel
theorem dL_law_833 : decode code 833 = .ok (.iaload, 1) := by decide +kernel
theorem dL_law_834 : decode code 834 = .ok (.aload_n 0, 1) := by decide +kernel
theorem dL_law_835 : decode code 835 = .ok (.iload_n 3, 1) := by decide +kernel
theorem dL_law_836 : decode code 836 = .ok (.iconst 2, 1) := by decide +kernel
theorem dL_law_837 : decode code 837 = .ok (.iadd, 1) := by decide +kernel
theorem dL_law_838 : decode code 838 = .ok (.iaload, 1) := by decide +kernel
theorem dL_law_839 : decode code 839 = .ok (.aload_n 0, 1) := by decide +kernel
theorem dL_law_840 : decode code 840 = .ok (.iload_n 3, 1) := by decide +kernel
theorem dL_law_841 : decode code 841 = .ok (.iconst 3, 1) := by decide +kernel
theorem dL_law_842 : decode code 842 = .ok (.iadd, 1) := by decide +kernel
theorem dL_law_843 : decode code 843 = .ok (.iaload, 1) := by decide +kernel
theorem dL_law_844 : decode code 844 = .ok (.invokevirtual 98, 3) := by decide +kernel
theorem dL_law_847 : decode code 847 = .ok (.if_icmp .eq 571, 3) := by decide +kernel
theorem dL_law_850 : decode code 850 = .ok (.iconst 0, 1) := by decide +kernel
theorem dL_law_851 : decode code 851 = .ok (.ireturn, 1) := by decide +kernel
theorem dL_law_852 : decode code 852 = .ok (.aload_n 1, 1) := by decide +kernel
theorem dL_law_853 : decode code 853 = .ok (.aload_n 0, 1) := by decide +kernel
theorem dL_law_854 : decode code 854 = .ok (.iload_n 3, 1) := by decide +kernel
theorem dL_law_855 : decode code 855 = .ok (.iconst 1, 1) := by decide +kernel
theorem dL_law_856 : decode code 856 = .ok (.iadd, 1) := by decide +kernel
theorem dL_law_857 : decode code 857 = .ok (.iaload, 1) := by decide +kernel
theorem dL_law_858 : decode code 858 = .ok (.aload_n 0, 1) := by decide +kernel
theorem dL_law_859 : decode code 859 = .ok (.iload_n 3, 1) := by decide +kernel
theorem dL_law_860 : decode code 860 = .ok (.iconst 2, 1) := by decide +kernel
theorem dL_law_861 : decode code 861 = .ok (.iadd, 1) := by decide +kernel
theorem dL_law_862 : decode code 862 = .ok (.iaload, 1) := by decide +kernel
theorem dL_law_863 : decode code 863 = .ok (.invokevirtual 99, 3) := by decide +kernel
theorem dL_law_866 : decode code 866 = .ok (.aload_n 2, 1) := by decide +kernel
theorem dL_law_867 : decode code 867 = .ok (.aload_n 0, 1) := by decide +kernel
theorem dL_law_868 : decode code 868 = .ok (.iload_n 3, 1) := by decide +kernel
theorem dL_law_869 : decode code 869 = .ok (.iconst 1, 1) := by decide +kernel
theorem dL_law_870 : decode code 870 = .ok (.iadd, 1) := by decide +kernel
theorem dL_law_871 : decode code 871 = .ok (.iaload, 1) := by decide +kernel
theorem dL_law_872 : decode code 872 = .ok (.aload_n 0, 1) := by decide +kernel
theorem dL_law_873 : decode code 873 = .ok (.iload_n 3, 1) := by decide +kernel
theorem dL_law_874 : decode code 874 = .ok (.iconst 2, 1) := by decide +kernel
theorem dL_law_875 : decode code 875 = .ok (.iadd, 1) := by decide +kernel
theorem dL_law_876 : decode code 876 = .ok (.iaload, 1) := by decide +kernel
theorem dL_law_877 : decode code 877 = .ok (.invokevirtual 102, 3) := by decide +kernel
theorem dL_law_880 : decode code 880 = .ok (.if_icmp .eq 538, 3) := by decide +kernel
theorem dL_law_883 : decode code 883 = .ok (.iconst 0, 1) := by decide +kernel
theorem dL_law_884 : decode code 884 = .ok (.ireturn, 1) := by decide +kernel
theorem dL_law_885 : decode code 885 = .ok (.aload_n 1, 1) := by decide +kernel
theorem dL_law_886 : decode code 886 = .ok (.aload_n 0, 1) := by decide +kernel
theorem dL_law_887 : decode code 887 = .ok (.iload_n 3, 1) := by decide +kernel
theorem dL_law_888 : decode code 888 = .ok (.iconst 1, 1) := by decide +kernel
theorem dL_law_889 : decode code 889 = .ok (.iadd, 1) := by decide +kernel
theorem dL_law_890 : decode code 890 = .ok (.iaload, 1) := by decide +kernel
theorem dL_law_891 : decode code 891 = .ok (.aload_n 0, 1) := by decide +kernel
theorem dL_law_892 : decode code 892 = .ok (.iload_n 3, 1) := by decide +kernel
theorem dL_law_893 : decode code 893 = .ok (.iconst 2, 1) := by decide +kernel
theorem dL_law_894 : decode code 894 = .ok (.iadd, 1) := by decide +kernel
theorem dL_law_895 : decode code 895 = .ok (.iaload, 1) := by decide +kernel
theorem dL_law_896 : decode code 896 = .ok (.aload_n 0, 1) := by decide +kernel
theorem dL_law_897 : decode code 897 = .ok (.iload_n 3, 1) := by decide +kernel
theorem dL_law_898 : decode code 898 = .ok (.iconst 3, 1) := by decide +kernel
theorem dL_law_899 : decode code 899 = .ok (.iadd, 1) := by decide +kernel
theorem dL_law_900 : decode code 900 = .ok (.iaload, 1) := by decide +kernel
theorem dL_law_901 : decode code 901 = .ok (.invokevirtual 103, 3) := by decide +kernel
theorem dL_law_904 : decode code 904 = .ok (.aload_n 2, 1) := by decide +kernel
theorem dL_law_905 : decode code 905 = .ok (.aload_n 0, 1) := by decide +kernel
theorem dL_law_906 : decode code 906 = .ok (.iload_n 3, 1) := by decide +kernel
theorem dL_law_907 : decode code 907 = .ok (.iconst 1, 1) := by decide +kernel
theorem dL_law_908 : decode code 908 = .ok (.iadd, 1) := by decide +kernel
theorem dL_law_909 : decode code 909 = .ok (.iaload, 1) := by decide +kernel
theorem dL_law_910 : decode code 910 = .ok (.aload_n 0, 1) := by decide +kernel
theorem dL_law_911 : decode code 911 = .ok (.iload_n 3, 1) := by decide +kernel
theorem dL_law_912 : decode code 912 = .ok (.iconst 2, 1) := by decide +kernel
theorem dL_law_913 : decode code 913 = .ok (.iadd, 1) := by decide +kernel
theorem dL_law_914 : decode code 914 = .ok (.iaload, 1) := by decide +kernel
theorem dL_law_915 : decode code 915 = .ok (.aload_n 0, 1) := by decide +kernel
theorem dL_law_916 : decode code 916 = .ok (.iload_n 3, 1) := by decide +kernel
theorem dL_law_917 : decode code 917 = .ok (.iconst 3, 1) := by decide +kernel
theorem dL_law_918 : decode code 918 = .ok (.iadd, 1) := by decide +kernel
theorem dL_law_919 : decode code 919 = .ok (.iaload, 1) := by decide +kernel
theorem dL_law_920 : decode code 920 = .ok (.invokevirtual 106, 3) := by decide +kernel
theorem dL_law_923 : decode code 923 = .ok (.if_icmp .eq 495, 3) := by decide +kernel
theorem dL_law_926 : decode code 926 = .ok (.iconst 0, 1) := by decide +kernel
theorem dL_law_927 : decode code 927 = .ok (.ireturn, 1) := by decide +kernel
theorem dL_law_928 : decode code 928 = .ok (.aload_n 1, 1) := by decide +kernel
theorem dL_law_929 : decode code 929 = .ok (.aload_n 0, 1) := by decide +kernel
theorem dL_law_930 : decode code 930 = .ok (.iload_n 3, 1) := by decide +kernel
theorem dL_law_931 : decode code 931 = .ok (.iconst 1, 1) := by decide +kernel
theorem dL_law_932 : decode code 932 = .ok (.iadd, 1) := by decide +kernel
theorem dL_law_933 : decode code 933 = .ok (.iaload, 1) := by decide +kernel
theorem dL_law_934 : decode code 934 = .ok (.aload_n 0, 1) := by decide +kernel
theorem dL_law_935 : decode code 935 = .ok (.iload_n 3, 1) := by decide +kernel
theorem dL_law_936 : decode code 936 = .ok (.iconst 2, 1) := by decide +kernel
theorem dL_law_937 : decode code 937 = .ok (.iadd, 1) := by decide +kernel
theorem dL_law_938 : decode code 938 = .ok (.iaload, 1) := by decide +kernel
theorem dL_law_939 : decode code 939 = .ok (.invokevirtual 107, 3) := by decide +kernel
theorem dL_law_942 : decode code 942 = .ok (.aload_n 2, 1) := by decide +kernel
theorem dL_law_943 : decode code 943 = .ok (.aload_n 0, 1) := by decide +kernel
theorem dL_law_944 : decode code 944 = .ok (.iload_n 3, 1) := by decide +kernel
theorem dL_law_945 : decode code 945 = .ok (.iconst 1, 1) := by decide +kernel
theorem dL_law_946 : decode code 946 = .ok (.iadd, 1) := by decide +kernel
theorem dL_law_947 : decode code 947 = .ok (.iaload, 1) := by decide +kernel
theorem dL_law_948 : decode code 948 = .ok (.aload_n 0, 1) := by decide +kernel
theorem dL_law_949 : decode code 949 = .ok (.iload_n 3, 1) := by decide +kernel
theorem dL_law_950 : decode code 950 = .ok (.iconst 2, 1) := by decide +kernel
theorem dL_law_951 : decode code 951 = .ok (.iadd, 1) := by decide +kernel
theorem dL_law_952 : decode code 952 = .ok (.iaload, 1) := by decide +kernel
theorem dL_law_953 : decode code 953 = .ok (.invokevirtual 110, 3) := by decide +kernel
theorem dL_law_956 : decode code 956 = .ok (.if_icmp .eq 462, 3) := by decide +kernel
theorem dL_law_959 : decode code 959 = .ok (.iconst 0, 1) := by decide +kernel
theorem dL_law_960 : decode code 960 = .ok (.ireturn, 1) := by decide +kernel
theorem dL_law_961 : decode code 961 = .ok (.aload_n 1, 1) := by decide +kernel
theorem dL_law_962 : decode code 962 = .ok (.aload_n 0, 1) := by decide +kernel
theorem dL_law_963 : decode code 963 = .ok (.iload_n 3, 1) := by decide +kernel
theorem dL_law_964 : decode code 964 = .ok (.iconst 1, 1) := by decide +kernel
theorem dL_law_965 : decode code 965 = .ok (.iadd, 1) := by decide +kernel
theorem dL_law_966 : decode code 966 = .ok (.iaload, 1) := by decide +kernel
theorem dL_law_967 : decode code 967 = .ok (.invokevirtual 111, 3) := by decide +kernel
theorem dL_law_970 : decode code 970 = .ok (.aload_n 2, 1) := by decide +kernel
theorem dL_law_971 : decode code 971 = .ok (.aload_n 0, 1) := by decide +kernel
theorem dL_law_972 : decode code 972 = .ok (.iload_n 3, 1) := by decide +kernel
theorem dL_law_973 : decode code 973 = .ok (.iconst 1, 1) := by decide +kernel
theorem dL_law_974 : decode code 974 = .ok (.iadd, 1) := by decide +kernel
theorem dL_law_975 : decode code 975 = .ok (.iaload, 1) := by decide +kernel
theorem dL_law_976 : decode code 976 = .ok (.invokevirtual 114, 3) := by decide +kernel
theorem dL_law_979 : decode code 979 = .ok (.if_icmp .eq 439, 3) := by decide +kernel
theorem dL_law_982 : decode code 982 = .ok (.iconst 0, 1) := by decide +kernel
theorem dL_law_983 : decode code 983 = .ok (.ireturn, 1) := by decide +kernel
theorem dL_law_984 : decode code 984 = .ok (.aload_n 1, 1) := by decide +kernel
theorem dL_law_985 : decode code 985 = .ok (.aload_n 0, 1) := by decide +kernel
theorem dL_law_986 : decode code 986 = .ok (.iload_n 3, 1) := by decide +kernel
theorem dL_law_987 : decode code 987 = .ok (.iconst 1, 1) := by decide +kernel
theorem dL_law_988 : decode code 988 = .ok (.iadd, 1) := by decide +kernel
theorem dL_law_989 : decode code 989 = .ok (.iaload, 1) := by decide +kernel
theorem dL_law_990 : decode code 990 = .ok (.invokevirtual 115, 3) := by decide +kernel
theorem dL_law_993 : decode code 993 = .ok (.aload_n 2, 1) := by decide +kernel
theorem dL_law_994 : decode code 994 = .ok (.aload_n 0, 1) := by decide +kernel
theorem dL_law_995 : decode code 995 = .ok (.iload_n 3, 1) := by decide +kernel
theorem dL_law_996 : decode code 996 = .ok (.iconst 1, 1) := by decide +kernel
theorem dL_law_997 : decode code 997 = .ok (.iadd, 1) := by decide +kernel
theorem dL_law_998 : decode code 998 = .ok (.iaload, 1) := by decide +kernel
theorem dL_law_999 : decode code 999 = .ok (.invokevirtual 118, 3) := by decide +kernel
theorem dL_law_1002 : decode code 1002 = .ok (.if_icmp .eq 416, 3) := by decide +kernel
theorem dL_law_1005 : decode code 1005 = .ok (.iconst 0, 1) := by decide +kernel
theorem dL_law_1006 : decode code 1006 = .ok (.ireturn, 1) := by decide +kernel
theorem dL_law_1007 : decode code 1007 = .ok (.aload_n 1, 1) := by decide +kernel
theorem dL_law_1008 : decode code 1008 = .ok (.aload_n 0, 1) := by decide +kernel
theorem dL_law_1009 : decode code 1009 = .ok (.iload_n 3, 1) := by decide +kernel
theorem dL_law_1010 : decode code 1010 = .ok (.iconst 1, 1) := by decide +kernel
theorem dL_law_1011 : decode code 1011 = .ok (.iadd, 1) := by decide +kernel
theorem dL_law_1012 : decode code 1012 = .ok (.iaload, 1) := by decide +kernel
theorem dL_law_1013 : decode code 1013 = .ok (.aload_n 0, 1) := by decide +kernel
theorem dL_law_1014 : decode code 1014 = .ok (.iload_n 3, 1) := by decide +kernel
theorem dL_law_1015 : decode code 1015 = .ok (.iconst 2, 1) := by decide +kernel
theorem dL_law_1016 : decode code 1016 = .ok (.iadd, 1) := by decide +kernel
theorem dL_law_1017 : decode code 1017 = .ok (.iaload, 1) := by decide +kernel
theorem dL_law_1018 : decode code 1018 = .ok (.aload_n 0, 1) := by decide +kernel
theorem dL_law_1019 : decode code 1019 = .ok (.iload_n 3, 1) := by decide +kernel
theorem dL_law_1020 : decode code 1020 = .ok (.iconst 3, 1) := by decide +kernel
theorem dL_law_1021 : decode code 1021 = .ok (.iadd, 1) := by decide +kernel
theorem dL_law_1022 : decode code 1022 = .ok (.iaload, 1) := by decide +kernel
theorem dL_law_1023 : decode code 1023 = .ok (.invokevirtual 119, 3) := by decide +kernel
theorem dL_law_1026 : decode code 1026 = .ok (.aload_n 2, 1) := by decide +kernel
theorem dL_law_1027 : decode code 1027 = .ok (.aload_n 0, 1) := by decide +kernel
theorem dL_law_1028 : decode code 1028 = .ok (.iload_n 3, 1) := by decide +kernel
theorem dL_law_1029 : decode code 1029 = .ok (.iconst 1, 1) := by decide +kernel
theorem dL_law_1030 : decode code 1030 = .ok (.iadd, 1) := by decide +kernel
theorem dL_law_1031 : decode code 1031 = .ok (.iaload, 1) := by decide +kernel
theorem dL_law_1032 : decode code 1032 = .ok (.aload_n 0, 1) := by decide +kernel
theorem dL_law_1033 : decode code 1033 = .ok (.iload_n 3, 1) := by decide +kernel
theorem dL_law_1034 : decode code 1034 = .ok (.iconst 2, 1) := by decide +kernel
theorem dL_law_1035 : decode code 1035 = .ok (.iadd, 1) := by decide +kernel
theorem dL_law_1036 : decode code 1036 = .ok (.iaload, 1) := by decide +kernel
theorem dL_law_1037 : decode code 1037 = .ok (.aload_n 0, 1) := by decide +kernel
theorem dL_law_1038 : decode code 1038 = .ok (.iload_n 3, 1) := by decide +kernel
theorem dL_law_1039 : decode code 1039 = .ok (.iconst 3, 1) := by decide +kernel
theorem dL_law_1040 : decode code 1040 = .ok (.iadd, 1) := by decide +kernel
theorem dL_law_1041 : decode code 1041 = .ok (.iaload, 1) := by decide +kernel
theorem dL_law_1042 : decode code 1042 = .ok (.invokevirtual 123, 3) := by decide +kernel
theorem dL_law_1045 : decode code 1045 = .ok (.lcmp, 1) := by decide +kernel
theorem dL_law_1046 : decode code 1046 = .ok (.ifCond .eq 372, 3) := by decide +kernel
theorem dL_law_1049 : decode code 1049 = .ok (.iconst 0, 1) := by decide +kernel
theorem dL_law_1050 : decode code 1050 = .ok (.ireturn, 1) := by decide +kernel
theorem dL_law_1051 : decode code 1051 = .ok (.aload_n 1, 1) := by decide +kernel
theorem dL_law_1052 : decode code 1052 = .ok (.aload_n 0, 1) := by decide +kernel
theorem dL_law_1053 : decode code 1053 = .ok (.iload_n 3, 1) := by decide +kernel
theorem dL_law_1054 : decode code 1054 = .ok (.iconst 1, 1) := by decide +kernel
theorem dL_law_1055 : decode code 1055 = .ok (.iadd, 1) := by decide +kernel
theorem dL_law_1056 : decode code 1056 = .ok (.iaload, 1) := by decide +kernel
theorem dL_law_1057 : decode code 1057 = .ok (.aload_n 0, 1) := by decide +kernel
theorem dL_law_1058 : decode code 1058 = .ok (.iload_n 3, 1) := by decide +kernel
theorem dL_law_1059 : decode code 1059 = .ok (.iconst 2, 1) := by decide +kernel
theorem dL_law_1060 : decode code 1060 = .ok (.iadd, 1) := by decide +kernel
theorem dL_law_1061 : decode code 1061 = .ok (.iaload, 1) := by decide +kernel
theorem dL_law_1062 : decode code 1062 = .ok (.aload_n 0, 1) := by decide +kernel
theorem dL_law_1063 : decode code 1063 = .ok (.iload_n 3, 1) := by decide +kernel
theorem dL_law_1064 : decode code 1064 = .ok (.iconst 3, 1) := by decide +kernel
theorem dL_law_1065 : decode code 1065 = .ok (.iadd, 1) := by decide +kernel
theorem dL_law_1066 : decode code 1066 = .ok (.iaload, 1) := by decide +kernel
theorem dL_law_1067 : decode code 1067 = .ok (.invokevirtual 124, 3) := by decide +kernel
theorem dL_law_1070 : decode code 1070 = .ok (.aload_n 2, 1) := by decide +kernel
theorem dL_law_1071 : decode code 1071 = .ok (.aload_n 0, 1) := by decide +kernel
theorem dL_law_1072 : decode code 1072 = .ok (.iload_n 3, 1) := by decide +kernel
theorem dL_law_1073 : decode code 1073 = .ok (.iconst 1, 1) := by decide +kernel
theorem dL_law_1074 : decode code 1074 = .ok (.iadd, 1) := by decide +kernel
theorem dL_law_1075 : decode code 1075 = .ok (.iaload, 1) := by decide +kernel
theorem dL_law_1076 : decode code 1076 = .ok (.aload_n 0, 1) := by decide +kernel
theorem dL_law_1077 : decode code 1077 = .ok (.iload_n 3, 1) := by decide +kernel
theorem dL_law_1078 : decode code 1078 = .ok (.iconst 2, 1) := by decide +kernel
theorem dL_law_1079 : decode code 1079 = .ok (.iadd, 1) := by decide +kernel
theorem dL_law_1080 : decode code 1080 = .ok (.iaload, 1) := by decide +kernel
theorem dL_law_1081 : decode code 1081 = .ok (.aload_n 0, 1) := by decide +kernel
theorem dL_law_1082 : decode code 1082 = .ok (.iload_n 3, 1) := by decide +kernel
theorem dL_law_1083 : decode code 1083 = .ok (.iconst 3, 1) := by decide +kernel
theorem dL_law_1084 : decode code 1084 = .ok (.iadd, 1) := by decide +kernel
theorem dL_law_1085 : decode code 1085 = .ok (.iaload, 1) := by decide +kernel
theorem dL_law_1086 : decode code 1086 = .ok (.invokevirtual 127, 3) := by decide +kernel
theorem dL_law_1089 : decode code 1089 = .ok (.if_icmp .eq 329, 3) := by decide +kernel
theorem dL_law_1092 : decode code 1092 = .ok (.iconst 0, 1) := by decide +kernel
theorem dL_law_1093 : decode code 1093 = .ok (.ireturn, 1) := by decide +kernel
theorem dL_law_1094 : decode code 1094 = .ok (.aload_n 1, 1) := by decide +kernel
theorem dL_law_1095 : decode code 1095 = .ok (.aload_n 0, 1) := by decide +kernel
theorem dL_law_1096 : decode code 1096 = .ok (.iload_n 3, 1) := by decide +kernel
theorem dL_law_1097 : decode code 1097 = .ok (.iconst 1, 1) := by decide +kernel
theorem dL_law_1098 : decode code 1098 = .ok (.iadd, 1) := by decide +kernel
theorem dL_law_1099 : decode code 1099 = .ok (.iaload, 1) := by decide +kernel
theorem dL_law_1100 : decode code 1100 = .ok (.aload_n 0, 1) := by decide +kernel
theorem dL_law_1101 : decode code 1101 = .ok (.iload_n 3, 1) := by decide +kernel
theorem dL_law_1102 : decode code 1102 = .ok (.iconst 2, 1) := by decide +kernel
theorem dL_law_1103 : decode code 1103 = .ok (.iadd, 1) := by decide +kernel
theorem dL_law_1104 : decode code 1104 = .ok (.iaload, 1) := by decide +kernel
theorem dL_law_1105 : decode code 1105 = .ok (.invokevirtual 128, 3) := by decide +kernel
theorem dL_law_1108 : decode code 1108 = .ok (.aload_n 2, 1) := by decide +kernel
theorem dL_law_1109 : decode code 1109 = .ok (.aload_n 0, 1) := by decide +kernel
theorem dL_law_1110 : decode code 1110 = .ok (.iload_n 3, 1) := by decide +kernel
theorem dL_law_1111 : decode code 1111 = .ok (.iconst 1, 1) := by decide +kernel
theorem dL_law_1112 : decode code 1112 = .ok (.iadd, 1) := by decide +kernel
theorem dL_law_1113 : decode code 1113 = .ok (.iaload, 1) := by decide +kernel
theorem dL_law_1114 : decode code 1114 = .ok (.aload_n 0, 1) := by decide +kernel
theorem dL_law_1115 : decode code 1115 = .ok (.iload_n 3, 1) := by decide +kernel
theorem dL_law_1116 : decode code 1116 = .ok (.iconst 2, 1) := by decide +kernel
theorem dL_law_1117 : decode code 1117 = .ok (.iadd, 1) := by decide +kernel
theorem dL_law_1118 : decode code 1118 = .ok (.iaload, 1) := by decide +kernel
theorem dL_law_1119 : decode code 1119 = .ok (.invokevirtual 131, 3) := by decide +kernel
theorem dL_law_1122 : decode code 1122 = .ok (.if_icmp .eq 296, 3) := by decide +kernel
theorem dL_law_1125 : decode code 1125 = .ok (.iconst 0, 1) := by decide +kernel
theorem dL_law_1126 : decode code 1126 = .ok (.ireturn, 1) := by decide +kernel
theorem dL_law_1127 : decode code 1127 = .ok (.aload_n 1, 1) := by decide +kernel
theorem dL_law_1128 : decode code 1128 = .ok (.aload_n 0, 1) := by decide +kernel
theorem dL_law_1129 : decode code 1129 = .ok (.iload_n 3, 1) := by decide +kernel
theorem dL_law_1130 : decode code 1130 = .ok (.iconst 1, 1) := by decide +kernel
theorem dL_law_1131 : decode code 1131 = .ok (.iadd, 1) := by decide +kernel
theorem dL_law_1132 : decode code 1132 = .ok (.iaload, 1) := by decide +kernel
theorem dL_law_1133 : decode code 1133 = .ok (.aload_n 0, 1) := by decide +kernel
theorem dL_law_1134 : decode code 1134 = .ok (.iload_n 3, 1) := by decide +kernel
theorem dL_law_1135 : decode code 1135 = .ok (.iconst 2, 1) := by decide +kernel
theorem dL_law_1136 : decode code 1136 = .ok (.iadd, 1) := by decide +kernel
theorem dL_law_1137 : decode code 1137 = .ok (.iaload, 1) := by decide +kernel
theorem dL_law_1138 : decode code 1138 = .ok (.invokevirtual 132, 3) := by decide +kernel
theorem dL_law_1141 : decode code 1141 = .ok (.aload_n 2, 1) := by decide +kernel
theorem dL_law_1142 : decode code 1142 = .ok (.aload_n 0, 1) := by decide +kernel
theorem dL_law_1143 : decode code 1143 = .ok (.iload_n 3, 1) := by decide +kernel
theorem dL_law_1144 : decode code 1144 = .ok (.iconst 1, 1) := by decide +kernel
theorem dL_law_1145 : decode code 1145 = .ok (.iadd, 1) := by decide +kernel
theorem dL_law_1146 : decode code 1146 = .ok (.iaload, 1) := by decide +kernel
theorem dL_law_1147 : decode code 1147 = .ok (.aload_n 0, 1) := by decide +kernel
theorem dL_law_1148 : decode code 1148 = .ok (.iload_n 3, 1) := by decide +kernel
theorem dL_law_1149 : decode code 1149 = .ok (.iconst 2, 1) := by decide +kernel
theorem dL_law_1150 : decode code 1150 = .ok (.iadd, 1) := by decide +kernel
theorem dL_law_1151 : decode code 1151 = .ok (.iaload, 1) := by decide +kernel
theorem dL_law_1152 : decode code 1152 = .ok (.invokevirtual 135, 3) := by decide +kernel
theorem dL_law_1155 : decode code 1155 = .ok (.if_icmp .eq 263, 3) := by decide +kernel
theorem dL_law_1158 : decode code 1158 = .ok (.iconst 0, 1) := by decide +kernel
theorem dL_law_1159 : decode code 1159 = .ok (.ireturn, 1) := by decide +kernel
theorem dL_law_1160 : decode code 1160 = .ok (.aload_n 1, 1) := by decide +kernel
theorem dL_law_1161 : decode code 1161 = .ok (.aload_n 0, 1) := by decide +kernel
theorem dL_law_1162 : decode code 1162 = .ok (.iload_n 3, 1) := by decide +kernel
theorem dL_law_1163 : decode code 1163 = .ok (.iconst 1, 1) := by decide +kernel
theorem dL_law_1164 : decode code 1164 = .ok (.iadd, 1) := by decide +kernel
theorem dL_law_1165 : decode code 1165 = .ok (.iaload, 1) := by decide +kernel
theorem dL_law_1166 : decode code 1166 = .ok (.aload_n 0, 1) := by decide +kernel
theorem dL_law_1167 : decode code 1167 = .ok (.iload_n 3, 1) := by decide +kernel
theorem dL_law_1168 : decode code 1168 = .ok (.iconst 2, 1) := by decide +kernel
theorem dL_law_1169 : decode code 1169 = .ok (.iadd, 1) := by decide +kernel
theorem dL_law_1170 : decode code 1170 = .ok (.iaload, 1) := by decide +kernel
theorem dL_law_1171 : decode code 1171 = .ok (.aload_n 0, 1) := by decide +kernel
theorem dL_law_1172 : decode code 1172 = .ok (.iload_n 3, 1) := by decide +kernel
theorem dL_law_1173 : decode code 1173 = .ok (.iconst 3, 1) := by decide +kernel
theorem dL_law_1174 : decode code 1174 = .ok (.iadd, 1) := by decide +kernel
theorem dL_law_1175 : decode code 1175 = .ok (.iaload, 1) := by decide +kernel
theorem dL_law_1176 : decode code 1176 = .ok (.invokevirtual 136, 3) := by decide +kernel
theorem dL_law_1179 : decode code 1179 = .ok (.aload_n 2, 1) := by decide +kernel
theorem dL_law_1180 : decode code 1180 = .ok (.aload_n 0, 1) := by decide +kernel
theorem dL_law_1181 : decode code 1181 = .ok (.iload_n 3, 1) := by decide +kernel
theorem dL_law_1182 : decode code 1182 = .ok (.iconst 1, 1) := by decide +kernel
theorem dL_law_1183 : decode code 1183 = .ok (.iadd, 1) := by decide +kernel
theorem dL_law_1184 : decode code 1184 = .ok (.iaload, 1) := by decide +kernel
theorem dL_law_1185 : decode code 1185 = .ok (.aload_n 0, 1) := by decide +kernel
theorem dL_law_1186 : decode code 1186 = .ok (.iload_n 3, 1) := by decide +kernel
theorem dL_law_1187 : decode code 1187 = .ok (.iconst 2, 1) := by decide +kernel
theorem dL_law_1188 : decode code 1188 = .ok (.iadd, 1) := by decide +kernel
theorem dL_law_1189 : decode code 1189 = .ok (.iaload, 1) := by decide +kernel
theorem dL_law_1190 : decode code 1190 = .ok (.aload_n 0, 1) := by decide +kernel
theorem dL_law_1191 : decode code 1191 = .ok (.iload_n 3, 1) := by decide +kernel
theorem dL_law_1192 : decode code 1192 = .ok (.iconst 3, 1) := by decide +kernel
theorem dL_law_1193 : decode code 1193 = .ok (.iadd, 1) := by decide +kernel
theorem dL_law_1194 : decode code 1194 = .ok (.iaload, 1) := by decide +kernel
theorem dL_law_1195 : decode code 1195 = .ok (.invokevirtual 139, 3) := by decide +kernel
theorem dL_law_1198 : decode code 1198 = .ok (.if_icmp .eq 220, 3) := by decide +kernel
theorem dL_law_1201 : decode code 1201 = .ok (.iconst 0, 1) := by decide +kernel
theorem dL_law_1202 : decode code 1202 = .ok (.ireturn, 1) := by decide +kernel
theorem dL_law_1203 : decode code 1203 = .ok (.aload_n 1, 1) := by decide +kernel
theorem dL_law_1204 : decode code 1204 = .ok (.aload_n 0, 1) := by decide +kernel
theorem dL_law_1205 : decode code 1205 = .ok (.iload_n 3, 1) := by decide +kernel
theorem dL_law_1206 : decode code 1206 = .ok (.iconst 1, 1) := by decide +kernel
theorem dL_law_1207 : decode code 1207 = .ok (.iadd, 1) := by decide +kernel
theorem dL_law_1208 : decode code 1208 = .ok (.iaload, 1) := by decide +kernel
theorem dL_law_1209 : decode code 1209 = .ok (.aload_n 0, 1) := by decide +kernel
theorem dL_law_1210 : decode code 1210 = .ok (.iload_n 3, 1) := by decide +kernel
theorem dL_law_1211 : decode code 1211 = .ok (.iconst 2, 1) := by decide +kernel
theorem dL_law_1212 : decode code 1212 = .ok (.iadd, 1) := by decide +kernel
theorem dL_law_1213 : decode code 1213 = .ok (.iaload, 1) := by decide +kernel
theorem dL_law_1214 : decode code 1214 = .ok (.invokevirtual 140, 3) := by decide +kernel
theorem dL_law_1217 : decode code 1217 = .ok (.aload_n 2, 1) := by decide +kernel
theorem dL_law_1218 : decode code 1218 = .ok (.aload_n 0, 1) := by decide +kernel
theorem dL_law_1219 : decode code 1219 = .ok (.iload_n 3, 1) := by decide +kernel
theorem dL_law_1220 : decode code 1220 = .ok (.iconst 1, 1) := by decide +kernel
theorem dL_law_1221 : decode code 1221 = .ok (.iadd, 1) := by decide +kernel
theorem dL_law_1222 : decode code 1222 = .ok (.iaload, 1) := by decide +kernel
theorem dL_law_1223 : decode code 1223 = .ok (.aload_n 0, 1) := by decide +kernel
theorem dL_law_1224 : decode code 1224 = .ok (.iload_n 3, 1) := by decide +kernel
theorem dL_law_1225 : decode code 1225 = .ok (.iconst 2, 1) := by decide +kernel
theorem dL_law_1226 : decode code 1226 = .ok (.iadd, 1) := by decide +kernel
theorem dL_law_1227 : decode code 1227 = .ok (.iaload, 1) := by decide +kernel
theorem dL_law_1228 : decode code 1228 = .ok (.invokevirtual 143, 3) := by decide +kernel
theorem dL_law_1231 : decode code 1231 = .ok (.if_icmp .eq 187, 3) := by decide +kernel
theorem dL_law_1234 : decode code 1234 = .ok (.iconst 0, 1) := by decide +kernel
theorem dL_law_1235 : decode code 1235 = .ok (.ireturn, 1) := by decide +kernel
theorem dL_law_1236 : decode code 1236 = .ok (.aload_n 1, 1) := by decide +kernel
theorem dL_law_1237 : decode code 1237 = .ok (.aload_n 0, 1) := by decide +kernel
theorem dL_law_1238 : decode code 1238 = .ok (.iload_n 3, 1) := by decide +kernel
theorem dL_law_1239 : decode code 1239 = .ok (.iconst 1, 1) := by decide +kernel
theorem dL_law_1240 : decode code 1240 = .ok (.iadd, 1) := by decide +kernel
theorem dL_law_1241 : decode code 1241 = .ok (.iaload, 1) := by decide +kernel
theorem dL_law_1242 : decode code 1242 = .ok (.aload_n 0, 1) := by decide +kernel
theorem dL_law_1243 : decode code 1243 = .ok (.iload_n 3, 1) := by decide +kernel
theorem dL_law_1244 : decode code 1244 = .ok (.iconst 2, 1) := by decide +kernel
theorem dL_law_1245 : decode code 1245 = .ok (.iadd, 1) := by decide +kernel
theorem dL_law_1246 : decode code 1246 = .ok (.iaload, 1) := by decide +kernel
theorem dL_law_1247 : decode code 1247 = .ok (.aload_n 0, 1) := by decide +kernel
theorem dL_law_1248 : decode code 1248 = .ok (.iload_n 3, 1) := by decide +kernel
theorem dL_law_1249 : decode code 1249 = .ok (.iconst 3, 1) := by decide +kernel
theorem dL_law_1250 : decode code 1250 = .ok (.iadd, 1) := by decide +kernel
theorem dL_law_1251 : decode code 1251 = .ok (.iaload, 1) := by decide +kernel
theorem dL_law_1252 : decode code 1252 = .ok (.invokevirtual 144, 3) := by decide +kernel
theorem dL_law_1255 : decode code 1255 = .ok (.aload_n 2, 1) := by decide +kernel
theorem dL_law_1256 : decode code 1256 = .ok (.aload_n 0, 1) := by decide +kernel
theorem dL_law_1257 : decode code 1257 = .ok (.iload_n 3, 1) := by decide +kernel
theorem dL_law_1258 : decode code 1258 = .ok (.iconst 1, 1) := by decide +kernel
theorem dL_law_1259 : decode code 1259 = .ok (.iadd, 1) := by decide +kernel
theorem dL_law_1260 : decode code 1260 = .ok (.iaload, 1) := by decide +kernel
theorem dL_law_1261 : decode code 1261 = .ok (.aload_n 0, 1) := by decide +kernel
theorem dL_law_1262 : decode code 1262 = .ok (.iload_n 3, 1) := by decide +kernel
theorem dL_law_1263 : decode code 1263 = .ok (.iconst 2, 1) := by decide +kernel
theorem dL_law_1264 : decode code 1264 = .ok (.iadd, 1) := by decide +kernel
theorem dL_law_1265 : decode code 1265 = .ok (.iaload, 1) := by decide +kernel
theorem dL_law_1266 : decode code 1266 = .ok (.aload_n 0, 1) := by decide +kernel
theorem dL_law_1267 : decode code 1267 = .ok (.iload_n 3, 1) := by decide +kernel
theorem dL_law_1268 : decode code 1268 = .ok (.iconst 3, 1) := by decide +kernel
theorem dL_law_1269 : decode code 1269 = .ok (.iadd, 1) := by decide +kernel
theorem dL_law_1270 : decode code 1270 = .ok (.iaload, 1) := by decide +kernel
theorem dL_law_1271 : decode code 1271 = .ok (.invokevirtual 147, 3) := by decide +kernel
theorem dL_law_1274 : decode code 1274 = .ok (.if_icmp .eq 144, 3) := by decide +kernel
theorem dL_law_1277 : decode code 1277 = .ok (.iconst 0, 1) := by decide +kernel
theorem dL_law_1278 : decode code 1278 = .ok (.ireturn, 1) := by decide +kernel
theorem dL_law_1279 : decode code 1279 = .ok (.aload_n 1, 1) := by decide +kernel
theorem dL_law_1280 : decode code 1280 = .ok (.aload_n 0, 1) := by decide +kernel
theorem dL_law_1281 : decode code 1281 = .ok (.iload_n 3, 1) := by decide +kernel
theorem dL_law_1282 : decode code 1282 = .ok (.iconst 1, 1) := by decide +kernel
theorem dL_law_1283 : decode code 1283 = .ok (.iadd, 1) := by decide +kernel
theorem dL_law_1284 : decode code 1284 = .ok (.iaload, 1) := by decide +kernel
theorem dL_law_1285 : decode code 1285 = .ok (.aload_n 0, 1) := by decide +kernel
theorem dL_law_1286 : decode code 1286 = .ok (.iload_n 3, 1) := by decide +kernel
theorem dL_law_1287 : decode code 1287 = .ok (.iconst 2, 1) := by decide +kernel
theorem dL_law_1288 : decode code 1288 = .ok (.iadd, 1) := by decide +kernel
theorem dL_law_1289 : decode code 1289 = .ok (.iaload, 1) := by decide +kernel
theorem dL_law_1290 : decode code 1290 = .ok (.invokevirtual 148, 3) := by decide +kernel
theorem dL_law_1293 : decode code 1293 = .ok (.aload_n 2, 1) := by decide +kernel
theorem dL_law_1294 : decode code 1294 = .ok (.aload_n 0, 1) := by decide +kernel
theorem dL_law_1295 : decode code 1295 = .ok (.iload_n 3, 1) := by decide +kernel
theorem dL_law_1296 : decode code 1296 = .ok (.iconst 1, 1) := by decide +kernel
theorem dL_law_1297 : decode code 1297 = .ok (.iadd, 1) := by decide +kernel
theorem dL_law_1298 : decode code 1298 = .ok (.iaload, 1) := by decide +kernel
theorem dL_law_1299 : decode code 1299 = .ok (.aload_n 0, 1) := by decide +kernel
theorem dL_law_1300 : decode code 1300 = .ok (.iload_n 3, 1) := by decide +kernel
theorem dL_law_1301 : decode code 1301 = .ok (.iconst 2, 1) := by decide +kernel
theorem dL_law_1302 : decode code 1302 = .ok (.iadd, 1) := by decide +kernel
theorem dL_law_1303 : decode code 1303 = .ok (.iaload, 1) := by decide +kernel
theorem dL_law_1304 : decode code 1304 = .ok (.invokevirtual 151, 3) := by decide +kernel
theorem dL_law_1307 : decode code 1307 = .ok (.lcmp, 1) := by decide +kernel
theorem dL_law_1308 : decode code 1308 = .ok (.ifCond .eq 110, 3) := by decide +kernel
theorem dL_law_1311 : decode code 1311 = .ok (.iconst 0, 1) := by decide +kernel
theorem dL_law_1312 : decode code 1312 = .ok (.ireturn, 1) := by decide +kernel
theorem dL_law_1313 : decode code 1313 = .ok (.aload_n 1, 1) := by decide +kernel
theorem dL_law_1314 : decode code 1314 = .ok (.aload_n 0, 1) := by decide +kernel
theorem dL_law_1315 : decode code 1315 = .ok (.iload_n 3, 1) := by decide +kernel
theorem dL_law_1316 : decode code 1316 = .ok (.iconst 1, 1) := by decide +kernel
theorem dL_law_1317 : decode code 1317 = .ok (.iadd, 1) := by decide +kernel
theorem dL_law_1318 : decode code 1318 = .ok (.iaload, 1) := by decide +kernel
theorem dL_law_1319 : decode code 1319 = .ok (.aload_n 0, 1) := by decide +kernel
theorem dL_law_1320 : decode code 1320 = .ok (.iload_n 3, 1) := by decide +kernel
theorem dL_law_1321 : decode code 1321 = .ok (.iconst 2, 1) := by decide +kernel
theorem dL_law_1322 : decode code 1322 = .ok (.iadd, 1) := by decide +kernel
theorem dL_law_1323 : decode code 1323 = .ok (.iaload, 1) := by decide +kernel
theorem dL_law_1324 : decode code 1324 = .ok (.aload_n 0, 1) := by decide +kernel
theorem dL_law_1325 : decode code 1325 = .ok (.iload_n 3, 1) := by decide +kernel
theorem dL_law_1326 : decode code 1326 = .ok (.iconst 3, 1) := by decide +kernel
theorem dL_law_1327 : decode code 1327 = .ok (.iadd, 1) := by decide +kernel
theorem dL_law_1328 : decode code 1328 = .ok (.iaload, 1) := by decide +kernel
theorem dL_law_1329 : decode code 1329 = .ok (.invokevirtual 152, 3) := by decide +kernel
theorem dL_law_1332 : decode code 1332 = .ok (.aload_n 2, 1) := by decide +kernel
theorem dL_law_1333 : decode code 1333 = .ok (.aload_n 0, 1) := by decide +kernel
theorem dL_law_1334 : decode code 1334 = .ok (.iload_n 3, 1) := by decide +kernel
theorem dL_law_1335 : decode code 1335 = .ok (.iconst 1, 1) := by decide +kernel
theorem dL_law_1336 : decode code 1336 = .ok (.iadd, 1) := by decide +kernel
theorem dL_law_1337 : decode code 1337 = .ok (.iaload, 1) := by decide +kernel
theorem dL_law_1338 : decode code 1338 = .ok (.aload_n 0, 1) := by decide +kernel
theorem dL_law_1339 : decode code 1339 = .ok (.iload_n 3, 1) := by decide +kernel
theorem dL_law_1340 : decode code 1340 = .ok (.iconst 2, 1) := by decide +kernel
theorem dL_law_1341 : decode code 1341 = .ok (.iadd, 1) := by decide +kernel
theorem dL_law_1342 : decode code 1342 = .ok (.iaload, 1) := by decide +kernel
theorem dL_law_1343 : decode code 1343 = .ok (.aload_n 0, 1) := by decide +kernel
theorem dL_law_1344 : decode code 1344 = .ok (.iload_n 3, 1) := by decide +kernel
theorem dL_law_1345 : decode code 1345 = .ok (.iconst 3, 1) := by decide +kernel
theorem dL_law_1346 : decode code 1346 = .ok (.iadd, 1) := by decide +kernel
theorem dL_law_1347 : decode code 1347 = .ok (.iaload, 1) := by decide +kernel
theorem dL_law_1348 : decode code 1348 = .ok (.invokevirtual 155, 3) := by decide +kernel
theorem dL_law_1351 : decode code 1351 = .ok (.if_icmp .eq 67, 3) := by decide +kernel
theorem dL_law_1354 : decode code 1354 = .ok (.iconst 0, 1) := by decide +kernel
theorem dL_law_1355 : decode code 1355 = .ok (.ireturn, 1) := by decide +kernel
theorem dL_law_1356 : decode code 1356 = .ok (.aload_n 1, 1) := by decide +kernel
theorem dL_law_1357 : decode code 1357 = .ok (.invokevirtual 156, 3) := by decide +kernel
theorem dL_law_1360 : decode code 1360 = .ok (.aload_n 2, 1) := by decide +kernel
theorem dL_law_1361 : decode code 1361 = .ok (.invokevirtual 159, 3) := by decide +kernel
theorem dL_law_1364 : decode code 1364 = .ok (.if_icmp .eq 54, 3) := by decide +kernel
theorem dL_law_1367 : decode code 1367 = .ok (.iconst 0, 1) := by decide +kernel
theorem dL_law_1368 : decode code 1368 = .ok (.ireturn, 1) := by decide +kernel
theorem dL_law_1369 : decode code 1369 = .ok (.aload_n 1, 1) := by decide +kernel
theorem dL_law_1370 : decode code 1370 = .ok (.invokevirtual 160, 3) := by decide +kernel
theorem dL_law_1373 : decode code 1373 = .ok (.aload_n 2, 1) := by decide +kernel
theorem dL_law_1374 : decode code 1374 = .ok (.invokevirtual 163, 3) := by decide +kernel
theorem dL_law_1377 : decode code 1377 = .ok (.if_icmp .eq 41, 3) := by decide +kernel
theorem dL_law_1380 : decode code 1380 = .ok (.iconst 0, 1) := by decide +kernel
theorem dL_law_1381 : decode code 1381 = .ok (.ireturn, 1) := by decide +kernel
theorem dL_law_1382 : decode code 1382 = .ok (.aload_n 1, 1) := by decide +kernel
theorem dL_law_1383 : decode code 1383 = .ok (.invokevirtual 164, 3) := by decide +kernel
theorem dL_law_1386 : decode code 1386 = .ok (.aload_n 2, 1) := by decide +kernel
theorem dL_law_1387 : decode code 1387 = .ok (.invokevirtual 167, 3) := by decide +kernel
theorem dL_law_1390 : decode code 1390 = .ok (.if_icmp .eq 28, 3) := by decide +kernel
theorem dL_law_1393 : decode code 1393 = .ok (.iconst 0, 1) := by decide +kernel
theorem dL_law_1394 : decode code 1394 = .ok (.ireturn, 1) := by decide +kernel
theorem dL_law_1395 : decode code 1395 = .ok (.aload_n 1, 1) := by decide +kernel
theorem dL_law_1396 : decode code 1396 = .ok (.aload_n 0, 1) := by decide +kernel
theorem dL_law_1397 : decode code 1397 = .ok (.iload_n 3, 1) := by decide +kernel
theorem dL_law_1398 : decode code 1398 = .ok (.iconst 1, 1) := by decide +kernel
theorem dL_law_1399 : decode code 1399 = .ok (.iadd, 1) := by decide +kernel
theorem dL_law_1400 : decode code 1400 = .ok (.iaload, 1) := by decide +kernel
theorem dL_law_1401 : decode code 1401 = .ok (.invokevirtual 168, 3) := by decide +kernel
theorem dL_law_1404 : decode code 1404 = .ok (.aload_n 2, 1) := by decide +kernel
theorem dL_law_1405 : decode code 1405 = .ok (.aload_n 0, 1) := by decide +kernel
theorem dL_law_1406 : decode code 1406 = .ok (.iload_n 3, 1) := by decide +kernel
theorem dL_law_1407 : decode code 1407 = .ok (.iconst 1, 1) := by decide +kernel
theorem dL_law_1408 : decode code 1408 = .ok (.iadd, 1) := by decide +kernel
theorem dL_law_1409 : decode code 1409 = .ok (.iaload, 1) := by decide +kernel
theorem dL_law_1410 : decode code 1410 = .ok (.invokevirtual 171, 3) := by decide +kernel
theorem dL_law_1413 : decode code 1413 = .ok (.if_icmp .eq 5, 3) := by decide +kernel
theorem dL_law_1416 : decode code 1416 = .ok (.iconst 0, 1) := by decide +kernel
theorem dL_law_1417 : decode code 1417 = .ok (.ireturn, 1) := by decide +kernel
theorem dL_law_1418 : decode code 1418 = .ok (.iinc 3 6, 3) := by decide +kernel
theorem dL_law_1421 : decode code 1421 = .ok (.goto (-1403), 3) := by decide +kernel
theorem dL_law_1424 : decode code 1424 = .ok (.iconst 1, 1) := by decide +kernel
theorem dL_law_1425 : decode code 1425 = .ok (.ireturn, 1) := by decide +kernel

def CxL (g : GG) (b L : Nat) (xs : Nat → Int32) (σ : SS) : State → Array Value → Heap → List Loc → Prop := fun s args H locs =>
  args = #[Value.ref b] ∧ va_K g.2.1 vwCl (tysG g) s ∧ Gok g ∧ (∀ q, q < NC → s.heap.size ≤ g.1 q) ∧ va_P g.2.1 vwCl (wsG g σ) H ∧ va_S (fun q => s.heap.size ≤ q) s.heap H locs ∧ va_X b L xs s s.heap ∧ b < s.heap.size
def MtL (meth : Method) : Prop := meth.sig.returnType = ret ∧ meth.locks = false
def VL (l : Launch) (g : GG) (b L : Nat) (xs : Nat → Int32) (pc : Nat) (lv : List (Nat × Value)) (st : List Value) (σ : SS) : Prop :=
  VX l room_1 R_law code 4 MtL (CxL g b L xs σ) (fun below args s => lw_Z below args s) 600000 7302250 pc lv st
section VL
variable {l : Launch} {g : GG} {b L : Nat} {xs : Nat → Int32} {pc : Nat} {lv : List (Nat × Value)} {st : List Value} {σ : SS}
theorem vl_sld {i : Nat} {x : Int32} (hx0 : x = nI i) (hi : i < L) (hL : L ≤ 3072) (hd : decode code pc = .ok (.iaload, 1)) (kk : VL l g b L xs (pc + 1) lv (.int (xs i) :: st) σ) : VL l g b L xs pc lv (.int x :: .ref b :: st) σ := by
  intro p e s m args below meth c H locs ls hx hb hml hM hown hts hC hl
  obtain ⟨ha, hK, hG, hA, hP, hS, hX, hbl⟩ := id hC
  subst hx0
  have k1 := kk p e s m args below meth c H locs ls hx hb hml hM hown hts hC hl
  refine va_sld hx hb hX hbl (Nat.not_le.mpr hbl) hS (vp_in_nI hi (by omega)) hd ?_
  rw [nI_clamp (by omega)]
  exact k1
theorem vl_slen (hd : decode code pc = .ok (.arraylength, 1)) (kk : VL l g b L xs (pc + 1) lv (.int (nI L) :: st) σ) : VL l g b L xs pc lv (.ref b :: st) σ := by
  intro p e s m args below meth c H locs ls hx hb hml hM hown hts hC hl
  obtain ⟨ha, hK, hG, hA, hP, hS, hX, hbl⟩ := id hC
  exact va_slen hx hb hX hbl (Nat.not_le.mpr hbl) hS hd (kk p e s m args below meth c H locs ls hx hb hml hM hown hts hC hl)
/-- script[i + j] is pushed -/
theorem vl_arg {i : Nat} {n : Int} {rs : List (Nat × Value)} (j : Nat) (hn : Int32.ofInt n = nI j) (hlv : lv = (0, .ref b) :: (1, rs.head?.elim .null (fun q => q.2)) :: (2, (rs.drop 1).head?.elim .null (fun q => q.2)) :: (3, .int (nI i)) :: []) (hi : i + j < L) (hL : L ≤ 3072) (d1 : decode code pc = .ok (.aload_n 0, 1)) (d2 : decode code (pc + 1) = .ok (.iload_n 3, 1)) (d3 : decode code (pc + 1 + 1) = .ok (.iconst n, 1)) (d4 : decode code (pc + 1 + 1 + 1) = .ok (.iadd, 1)) (d5 : decode code (pc + 1 + 1 + 1 + 1) = .ok (.iaload, 1))
    (kk : VL l g b L xs (pc + 1 + 1 + 1 + 1 + 1) lv (.int (xs (i + j)) :: st) σ) : VL l g b L xs pc lv st σ := by
  subst hlv
  refine vx_aload_n 0 d1 rfl rfl ?_
  refine vx_iload_n 3 d2 rfl rfl ?_
  refine vx_iconst (nI j) d3 hn ?_
  refine vx_iadd d4 ?_
  exact vl_sld (nI_add i j) hi hL d5 kk
theorem vl_call {y : MethodName} {cy : ByteArray} {ny n index d' ci q : Nat} {ry : Option FieldType} {ρ1 : Option Value × SS} {st0 : List Value} (As : List Value) (hd : decode code pc = .ok (.invokevirtual index, 3)) (hM : CT l g d' y cy ny ry (.ref (g.1 q) :: As) σ ρ1) (hw : CWv y cy ny ry n) (hl0 : Cond.methodLink R_law index y ∈ lw_g) (hk : kd q = ci) (hcl : (vwCl[ci]?).map (fun x => x.1) = some y.cls) (hc : ci < 9) (hdd : d' ≤ 20) (hn : As.length = n)
    (hst0 : st0 = As.reverse ++ .ref (g.1 q) :: st) (hst : (st.map fun v => v.category).sum ≤ 8)
    (kk : VL l g b L xs (pc + 3) lv (ρ1.1.toList ++ st) ρ1.2) : VL l g b L xs pc lv st0 σ := by
  intro p e s m args below meth c H locs ls hx hb hml hMt hown hts hC hl
  subst hst0
  obtain ⟨ha, hK, hG, hA, hP, hS, hX, hbl⟩ := id hC
  obtain ⟨h1, h2, h3, h4⟩ := hw.1
  have hB : CallB room_1 s args R_law index y cy ny ry (Cond.code y cy ny ry :: lw_g) (rmD d') 0 0 n := by
    refine callB_of n hts (goodIn_sub (fun w hw => ?_) ?_) rfl rfl rfl (hts _ h2) (hts _ hl0) h3 ⟨?_, ?_⟩
    · rcases List.mem_cons.mp hw with rfl | h
      · exact h1
      · exact h
    · rw [List.all_cons, lw_good, Bool.and_true]
      exact List.all_eq_true.mp lw_good _ h1
    · show d' + 1 ≤ 2048
      omega
    · show 8 + (ny + 11) + 48 * d' ≤ 84000
      omega
  obtain ⟨C, hC1, hCy⟩ := Option.map_eq_some_iff.mp hcl
  have hrec := va_recv (a := g.1 q) hK hP hC1 (by rw [ws_at g σ (kd_lt hk (by omega)), ce_obj hk hc])
  rw [hCy] at hrec
  have hr := va_runV (l := l) (e := e) (R := room_1) (below := below) (meth := meth) (locs := locs) (cells := 600000) (slots := 7302250) (mc := 0) (ms := 0) (C := y.cls) (As := As) (rest := st) (g := F0 m pc ls (As.reverse ++ .ref (g.1 q) :: st)) (nL := 4) ⟨hx, hb, hml, hown, hts⟩ hM ⟨hB, hts _ hw.2.1, hts _ hw.2.2⟩ ⟨CT.blind, hrec, fun U hU hW => ⟨rfl, hG, by rw [hU]; exact hP, va_K.moved hW.alike hK⟩⟩ rfl hn hl.1 rfl (lv_room hst) hd ⟨Nat.le_of_ble_eq_true rfl, Nat.le_of_ble_eq_true rfl⟩
  intro T hT X
  obtain ⟨v, st₀, t, T', L0, h0, X', hL, e1, e2, ⟨⟨hv, hp, hkk⟩, hz, hf⟩, stp⟩ := hr T hT X
  cases hv
  rw [h0] at hz hf
  have hAw : ∀ q, Aw g q → s.heap.size ≤ q := fun q h => by obtain ⟨z, hz, rfl⟩ := h; exact hA z hz
  obtain ⟨t2, a1, b1⟩ := kk p e s m args below meth c T'.heap (locs ++ L0) ls hx hb hml hMt hown hts ⟨ha, hK, hG, hA, by rw [e1]; exact hp,
    ⟨Nat.le_trans hS.1 (by rw [e1]; exact hz), fun q h1 h2 => by rw [e1, hf q (Nat.lt_of_lt_of_le h1 hS.1) (fun z => h2 (hAw q z))]; exact hS.2.1 q h1 h2, fun q hq => by
      rcases List.mem_append.mp hq with h | h
      · exact hS.2.2 q h
      · exact hAw _ (hL q h)⟩, hX, hbl⟩ hl T' rfl X'
  exact ⟨t2, stp t2 a1, b1⟩
theorem vl_ret (hd : decode code pc = .ok (.ireturn, 1)) : VL l g b L xs pc lv [.int 1] σ := by
  intro p e s m args below meth c H locs ls hx hb hml hM hown hts hC hl
  obtain ⟨ha, hK, hG, hA, hP, hS, hX, hbl⟩ := hC
  subst ha
  exact va_forget hS.2.2 (lw_ret hx hb hM.1 hM.2 hd)
end VL

theorem kd_0 : kd 0 = 7 := by decide +kernel
theorem kd_143 : kd 143 = 8 := by decide +kernel
theorem lcmp_self (r : Int64) : lg_cmp r r = 0 := by
  unfold lg_cmp
  rw [if_neg (by rw [gt_iff_lt, Int64.lt_iff_toInt_lt]; omega), if_pos rfl]

theorem ml_L_13 : Cond.methodLink RL 13 yX8_letter ∈ lw_g := lw_in 311 (by decide +kernel) rfl
theorem ml_L_17 : Cond.methodLink RL 17 yX9_letter ∈ lw_g := lw_in 963 (by decide +kernel) rfl
theorem ml_L_18 : Cond.methodLink RL 18 yX8_sheet ∈ lw_g := lw_in 323 (by decide +kernel) rfl
theorem ml_L_22 : Cond.methodLink RL 22 yX9_sheet ∈ lw_g := lw_in 971 (by decide +kernel) rfl
theorem ml_L_23 : Cond.methodLink RL 23 yX8_ring ∈ lw_g := lw_in 437 (by decide +kernel) rfl
theorem ml_L_26 : Cond.methodLink RL 26 yX9_ring ∈ lw_g := lw_in 1030 (by decide +kernel) rfl
theorem ml_L_27 : Cond.methodLink RL 27 yX8_wheel ∈ lw_g := lw_in 443 (by decide +kernel) rfl
theorem ml_L_31 : Cond.methodLink RL 31 yX9_wheel ∈ lw_g := lw_in 1034 (by decide +kernel) rfl
theorem ml_L_32 : Cond.methodLink RL 32 yX8_of ∈ lw_g := lw_in 449 (by decide +kernel) rfl
theorem ml_L_36 : Cond.methodLink RL 36 yX9_of ∈ lw_g := lw_in 1042 (by decide +kernel) rfl
theorem ml_L_37 : Cond.methodLink RL 37 yX8_change ∈ lw_g := lw_in 459 (by decide +kernel) rfl
theorem ml_L_41 : Cond.methodLink RL 41 yX9_change ∈ lw_g := lw_in 1053 (by decide +kernel) rfl
theorem ml_L_42 : Cond.methodLink RL 42 yX8_puts ∈ lw_g := lw_in 467 (by decide +kernel) rfl
theorem ml_L_45 : Cond.methodLink RL 45 yX9_puts ∈ lw_g := lw_in 1057 (by decide +kernel) rfl
theorem ml_L_46 : Cond.methodLink RL 46 yX8_next ∈ lw_g := lw_in 479 (by decide +kernel) rfl
theorem ml_L_49 : Cond.methodLink RL 49 yX9_next ∈ lw_g := lw_in 1065 (by decide +kernel) rfl
theorem ml_L_50 : Cond.methodLink RL 50 yX8_ratio ∈ lw_g := lw_in 483 (by decide +kernel) rfl
theorem ml_L_54 : Cond.methodLink RL 54 yX9_ratio ∈ lw_g := lw_in 1069 (by decide +kernel) rfl
theorem ml_L_55 : Cond.methodLink RL 55 yX8_wears ∈ lw_g := lw_in 508 (by decide +kernel) rfl
theorem ml_L_58 : Cond.methodLink RL 58 yX9_wears ∈ lw_g := lw_in 1081 (by decide +kernel) rfl
theorem ml_L_59 : Cond.methodLink RL 59 yX8_tooth ∈ lw_g := lw_in 513 (by decide +kernel) rfl
theorem ml_L_62 : Cond.methodLink RL 62 yX9_tooth ∈ lw_g := lw_in 1085 (by decide +kernel) rfl
theorem ml_L_63 : Cond.methodLink RL 63 yX8_drawing ∈ lw_g := lw_in 517 (by decide +kernel) rfl
theorem ml_L_66 : Cond.methodLink RL 66 yX9_drawing ∈ lw_g := lw_in 1089 (by decide +kernel) rfl
theorem ml_L_67 : Cond.methodLink RL 67 yX8_arc ∈ lw_g := lw_in 591 (by decide +kernel) rfl
theorem ml_L_70 : Cond.methodLink RL 70 yX9_arc ∈ lw_g := lw_in 1132 (by decide +kernel) rfl
theorem ml_L_71 : Cond.methodLink RL 71 yX8_crosses ∈ lw_g := lw_in 596 (by decide +kernel) rfl
theorem ml_L_74 : Cond.methodLink RL 74 yX9_crosses ∈ lw_g := lw_in 1136 (by decide +kernel) rfl
theorem ml_L_75 : Cond.methodLink RL 75 yX8_behind ∈ lw_g := lw_in 601 (by decide +kernel) rfl
theorem ml_L_78 : Cond.methodLink RL 78 yX9_behind ∈ lw_g := lw_in 1140 (by decide +kernel) rfl
theorem ml_L_79 : Cond.methodLink RL 79 yX8_between ∈ lw_g := lw_in 606 (by decide +kernel) rfl
theorem ml_L_82 : Cond.methodLink RL 82 yX9_between ∈ lw_g := lw_in 1144 (by decide +kernel) rfl
theorem ml_L_83 : Cond.methodLink RL 83 yX8_mirror ∈ lw_g := lw_in 615 (by decide +kernel) rfl
theorem ml_L_86 : Cond.methodLink RL 86 yX9_mirror ∈ lw_g := lw_in 1152 (by decide +kernel) rfl
theorem ml_L_87 : Cond.methodLink RL 87 yX8_full ∈ lw_g := lw_in 627 (by decide +kernel) rfl
theorem ml_L_90 : Cond.methodLink RL 90 yX9_full ∈ lw_g := lw_in 1168 (by decide +kernel) rfl
theorem ml_L_91 : Cond.methodLink RL 91 yX8_odds ∈ lw_g := lw_in 636 (by decide +kernel) rfl
theorem ml_L_94 : Cond.methodLink RL 94 yX9_odds ∈ lw_g := lw_in 1172 (by decide +kernel) rfl
theorem ml_L_95 : Cond.methodLink RL 95 yX8_touch ∈ lw_g := lw_in 640 (by decide +kernel) rfl
theorem ml_L_98 : Cond.methodLink RL 98 yX9_touch ∈ lw_g := lw_in 1176 (by decide +kernel) rfl
theorem ml_L_99 : Cond.methodLink RL 99 yX8_meet ∈ lw_g := lw_in 671 (by decide +kernel) rfl
theorem ml_L_102 : Cond.methodLink RL 102 yX9_meet ∈ lw_g := lw_in 1199 (by decide +kernel) rfl
theorem ml_L_103 : Cond.methodLink RL 103 yX8_crowd ∈ lw_g := lw_in 681 (by decide +kernel) rfl
theorem ml_L_106 : Cond.methodLink RL 106 yX9_crowd ∈ lw_g := lw_in 1203 (by decide +kernel) rfl
theorem ml_L_107 : Cond.methodLink RL 107 yX8_roll ∈ lw_g := lw_in 695 (by decide +kernel) rfl
theorem ml_L_110 : Cond.methodLink RL 110 yX9_roll ∈ lw_g := lw_in 1207 (by decide +kernel) rfl
theorem ml_L_111 : Cond.methodLink RL 111 yX8_inked ∈ lw_g := lw_in 700 (by decide +kernel) rfl
theorem ml_L_114 : Cond.methodLink RL 114 yX9_inked ∈ lw_g := lw_in 1211 (by decide +kernel) rfl
theorem ml_L_115 : Cond.methodLink RL 115 yX8_ahead ∈ lw_g := lw_in 723 (by decide +kernel) rfl
theorem ml_L_118 : Cond.methodLink RL 118 yX9_ahead ∈ lw_g := lw_in 1219 (by decide +kernel) rfl
theorem ml_L_119 : Cond.methodLink RL 119 yX8_fits ∈ lw_g := lw_in 727 (by decide +kernel) rfl
theorem ml_L_123 : Cond.methodLink RL 123 yX9_fits ∈ lw_g := lw_in 1223 (by decide +kernel) rfl
theorem ml_L_124 : Cond.methodLink RL 124 yX8_kinds ∈ lw_g := lw_in 747 (by decide +kernel) rfl
theorem ml_L_127 : Cond.methodLink RL 127 yX9_kinds ∈ lw_g := lw_in 1239 (by decide +kernel) rfl
theorem ml_L_128 : Cond.methodLink RL 128 yX8_drawnBy ∈ lw_g := lw_in 759 (by decide +kernel) rfl
theorem ml_L_131 : Cond.methodLink RL 131 yX9_drawnBy ∈ lw_g := lw_in 1243 (by decide +kernel) rfl
theorem ml_L_132 : Cond.methodLink RL 132 yX8_judge ∈ lw_g := lw_in 767 (by decide +kernel) rfl
theorem ml_L_135 : Cond.methodLink RL 135 yX9_judge ∈ lw_g := lw_in 1247 (by decide +kernel) rfl
theorem ml_L_136 : Cond.methodLink RL 136 yX8_lots ∈ lw_g := lw_in 771 (by decide +kernel) rfl
theorem ml_L_139 : Cond.methodLink RL 139 yX9_lots ∈ lw_g := lw_in 1251 (by decide +kernel) rfl
theorem ml_L_140 : Cond.methodLink RL 140 yX8_list ∈ lw_g := lw_in 789 (by decide +kernel) rfl
theorem ml_L_143 : Cond.methodLink RL 143 yX9_list ∈ lw_g := lw_in 1262 (by decide +kernel) rfl
theorem ml_L_144 : Cond.methodLink RL 144 yX8_put ∈ lw_g := lw_in 798 (by decide +kernel) rfl
theorem ml_L_147 : Cond.methodLink RL 147 yX9_put ∈ lw_g := lw_in 1266 (by decide +kernel) rfl
theorem ml_L_148 : Cond.methodLink RL 148 yX8_look ∈ lw_g := lw_in 809 (by decide +kernel) rfl
theorem ml_L_151 : Cond.methodLink RL 151 yX9_look ∈ lw_g := lw_in 1270 (by decide +kernel) rfl
theorem ml_L_152 : Cond.methodLink RL 152 yX8_lays ∈ lw_g := lw_in 813 (by decide +kernel) rfl
theorem ml_L_155 : Cond.methodLink RL 155 yX9_lays_ ∈ lw_g := lw_in 1275 (by decide +kernel) rfl
theorem ml_L_156 : Cond.methodLink RL 156 yX8_undo ∈ lw_g := lw_in 818 (by decide +kernel) rfl
theorem ml_L_159 : Cond.methodLink RL 159 yX9_undo ∈ lw_g := lw_in 1279 (by decide +kernel) rfl
theorem ml_L_160 : Cond.methodLink RL 160 yX8_image ∈ lw_g := lw_in 826 (by decide +kernel) rfl
theorem ml_L_163 : Cond.methodLink RL 163 yX9_image ∈ lw_g := lw_in 1283 (by decide +kernel) rfl
theorem ml_L_164 : Cond.methodLink RL 164 yX8_on ∈ lw_g := lw_in 830 (by decide +kernel) rfl
theorem ml_L_167 : Cond.methodLink RL 167 yX9_on ∈ lw_g := lw_in 1287 (by decide +kernel) rfl
theorem ml_L_168 : Cond.methodLink RL 168 yX8_count ∈ lw_g := lw_in 834 (by decide +kernel) rfl
theorem ml_L_171 : Cond.methodLink RL 171 yX9_count ∈ lw_g := lw_in 1291 (by decide +kernel) rfl
theorem cw_X8_letter : CWv yX8_letter cX8_letter 2 (some .int) 1 := ⟨⟨lw_in 314 (by decide +kernel) rfl, lw_in 54 (by decide +kernel) rfl, by decide +kernel, by decide⟩, lw_in 312 (by decide +kernel) rfl, lw_in 313 (by decide +kernel) rfl⟩
theorem cw_X9_letter : CWv yX9_letter cX9_letter 2 (some .int) 1 := ⟨⟨lw_in 966 (by decide +kernel) rfl, lw_in 62 (by decide +kernel) rfl, by decide +kernel, by decide⟩, lw_in 964 (by decide +kernel) rfl, lw_in 965 (by decide +kernel) rfl⟩
theorem cw_X8_sheet : CWv yX8_sheet cX8_sheet 4 (some .int) 0 := ⟨⟨lw_in 326 (by decide +kernel) rfl, lw_in 54 (by decide +kernel) rfl, by decide +kernel, by decide⟩, lw_in 324 (by decide +kernel) rfl, lw_in 325 (by decide +kernel) rfl⟩
theorem cw_X9_sheet : CWv yX9_sheet cX9_sheet 4 (some .int) 0 := ⟨⟨lw_in 974 (by decide +kernel) rfl, lw_in 62 (by decide +kernel) rfl, by decide +kernel, by decide⟩, lw_in 972 (by decide +kernel) rfl, lw_in 973 (by decide +kernel) rfl⟩
theorem cw_X8_ring : CWv yX8_ring cX8_ring 3 (some .int) 1 := ⟨⟨lw_in 440 (by decide +kernel) rfl, lw_in 54 (by decide +kernel) rfl, by decide +kernel, by decide⟩, lw_in 438 (by decide +kernel) rfl, lw_in 439 (by decide +kernel) rfl⟩
theorem cw_X9_ring : CWv yX9_ring cX9_ring 3 (some .int) 1 := ⟨⟨lw_in 1033 (by decide +kernel) rfl, lw_in 62 (by decide +kernel) rfl, by decide +kernel, by decide⟩, lw_in 1031 (by decide +kernel) rfl, lw_in 1032 (by decide +kernel) rfl⟩
theorem cw_X8_wheel : CWv yX8_wheel cX8_wheel 7 (some .int) 5 := ⟨⟨lw_in 446 (by decide +kernel) rfl, lw_in 54 (by decide +kernel) rfl, by decide +kernel, by decide⟩, lw_in 444 (by decide +kernel) rfl, lw_in 445 (by decide +kernel) rfl⟩
theorem cw_X9_wheel : CWv yX9_wheel cX9_wheel 6 (some .int) 5 := ⟨⟨lw_in 1037 (by decide +kernel) rfl, lw_in 62 (by decide +kernel) rfl, by decide +kernel, by decide⟩, lw_in 1035 (by decide +kernel) rfl, lw_in 1036 (by decide +kernel) rfl⟩
theorem cw_X8_of : CWv yX8_of cX8_of 4 (some .int) 2 := ⟨⟨lw_in 452 (by decide +kernel) rfl, lw_in 54 (by decide +kernel) rfl, by decide +kernel, by decide⟩, lw_in 450 (by decide +kernel) rfl, lw_in 451 (by decide +kernel) rfl⟩
theorem cw_X9_of : CWv yX9_of cX9_of 3 (some .int) 2 := ⟨⟨lw_in 1045 (by decide +kernel) rfl, lw_in 62 (by decide +kernel) rfl, by decide +kernel, by decide⟩, lw_in 1043 (by decide +kernel) rfl, lw_in 1044 (by decide +kernel) rfl⟩
theorem cw_X8_change : CWv yX8_change cX8_change 7 (some .int) 3 := ⟨⟨lw_in 462 (by decide +kernel) rfl, lw_in 54 (by decide +kernel) rfl, by decide +kernel, by decide⟩, lw_in 460 (by decide +kernel) rfl, lw_in 461 (by decide +kernel) rfl⟩
theorem cw_X9_change : CWv yX9_change cX9_change 6 (some .int) 3 := ⟨⟨lw_in 1056 (by decide +kernel) rfl, lw_in 62 (by decide +kernel) rfl, by decide +kernel, by decide⟩, lw_in 1054 (by decide +kernel) rfl, lw_in 1055 (by decide +kernel) rfl⟩
theorem cw_X8_puts : CWv yX8_puts cX8_puts 5 (some .int) 2 := ⟨⟨lw_in 470 (by decide +kernel) rfl, lw_in 54 (by decide +kernel) rfl, by decide +kernel, by decide⟩, lw_in 468 (by decide +kernel) rfl, lw_in 469 (by decide +kernel) rfl⟩
theorem cw_X9_puts : CWv yX9_puts cX9_puts 4 (some .int) 2 := ⟨⟨lw_in 1060 (by decide +kernel) rfl, lw_in 62 (by decide +kernel) rfl, by decide +kernel, by decide⟩, lw_in 1058 (by decide +kernel) rfl, lw_in 1059 (by decide +kernel) rfl⟩
theorem cw_X8_next : CWv yX8_next cX8_next 4 (some .int) 2 := ⟨⟨lw_in 482 (by decide +kernel) rfl, lw_in 54 (by decide +kernel) rfl, by decide +kernel, by decide⟩, lw_in 480 (by decide +kernel) rfl, lw_in 481 (by decide +kernel) rfl⟩
theorem cw_X9_next : CWv yX9_next cX9_next 3 (some .int) 2 := ⟨⟨lw_in 1068 (by decide +kernel) rfl, lw_in 62 (by decide +kernel) rfl, by decide +kernel, by decide⟩, lw_in 1066 (by decide +kernel) rfl, lw_in 1067 (by decide +kernel) rfl⟩
theorem cw_X8_ratio : CWv yX8_ratio cX8_ratio 4 (some .long) 2 := ⟨⟨lw_in 486 (by decide +kernel) rfl, lw_in 54 (by decide +kernel) rfl, by decide +kernel, by decide⟩, lw_in 484 (by decide +kernel) rfl, lw_in 485 (by decide +kernel) rfl⟩
theorem cw_X9_ratio : CWv yX9_ratio cX9_ratio 5 (some .long) 2 := ⟨⟨lw_in 1072 (by decide +kernel) rfl, lw_in 62 (by decide +kernel) rfl, by decide +kernel, by decide⟩, lw_in 1070 (by decide +kernel) rfl, lw_in 1071 (by decide +kernel) rfl⟩
theorem cw_X8_wears : CWv yX8_wears cX8_wears 2 (some .int) 1 := ⟨⟨lw_in 511 (by decide +kernel) rfl, lw_in 54 (by decide +kernel) rfl, by decide +kernel, by decide⟩, lw_in 509 (by decide +kernel) rfl, lw_in 510 (by decide +kernel) rfl⟩
theorem cw_X9_wears : CWv yX9_wears cX9_wears 2 (some .int) 1 := ⟨⟨lw_in 1084 (by decide +kernel) rfl, lw_in 62 (by decide +kernel) rfl, by decide +kernel, by decide⟩, lw_in 1082 (by decide +kernel) rfl, lw_in 1083 (by decide +kernel) rfl⟩
theorem cw_X8_tooth : CWv yX8_tooth cX8_tooth 3 (some .int) 2 := ⟨⟨lw_in 516 (by decide +kernel) rfl, lw_in 54 (by decide +kernel) rfl, by decide +kernel, by decide⟩, lw_in 514 (by decide +kernel) rfl, lw_in 515 (by decide +kernel) rfl⟩
theorem cw_X9_tooth : CWv yX9_tooth cX9_tooth 3 (some .int) 2 := ⟨⟨lw_in 1088 (by decide +kernel) rfl, lw_in 62 (by decide +kernel) rfl, by decide +kernel, by decide⟩, lw_in 1086 (by decide +kernel) rfl, lw_in 1087 (by decide +kernel) rfl⟩
theorem cw_X8_drawing : CWv yX8_drawing cX8_drawing 4 (some .int) 2 := ⟨⟨lw_in 520 (by decide +kernel) rfl, lw_in 54 (by decide +kernel) rfl, by decide +kernel, by decide⟩, lw_in 518 (by decide +kernel) rfl, lw_in 519 (by decide +kernel) rfl⟩
theorem cw_X9_drawing : CWv yX9_drawing cX9_drawing 3 (some .int) 2 := ⟨⟨lw_in 1092 (by decide +kernel) rfl, lw_in 62 (by decide +kernel) rfl, by decide +kernel, by decide⟩, lw_in 1090 (by decide +kernel) rfl, lw_in 1091 (by decide +kernel) rfl⟩
theorem cw_X8_arc : CWv yX8_arc cX8_arc 4 (some .int) 2 := ⟨⟨lw_in 594 (by decide +kernel) rfl, lw_in 54 (by decide +kernel) rfl, by decide +kernel, by decide⟩, lw_in 592 (by decide +kernel) rfl, lw_in 593 (by decide +kernel) rfl⟩
theorem cw_X9_arc : CWv yX9_arc cX9_arc 3 (some .int) 2 := ⟨⟨lw_in 1135 (by decide +kernel) rfl, lw_in 62 (by decide +kernel) rfl, by decide +kernel, by decide⟩, lw_in 1133 (by decide +kernel) rfl, lw_in 1134 (by decide +kernel) rfl⟩
theorem cw_X8_crosses : CWv yX8_crosses cX8_crosses 4 (some .int) 2 := ⟨⟨lw_in 599 (by decide +kernel) rfl, lw_in 54 (by decide +kernel) rfl, by decide +kernel, by decide⟩, lw_in 597 (by decide +kernel) rfl, lw_in 598 (by decide +kernel) rfl⟩
theorem cw_X9_crosses : CWv yX9_crosses cX9_crosses 3 (some .int) 2 := ⟨⟨lw_in 1139 (by decide +kernel) rfl, lw_in 62 (by decide +kernel) rfl, by decide +kernel, by decide⟩, lw_in 1137 (by decide +kernel) rfl, lw_in 1138 (by decide +kernel) rfl⟩
theorem cw_X8_behind : CWv yX8_behind cX8_behind 4 (some .int) 2 := ⟨⟨lw_in 604 (by decide +kernel) rfl, lw_in 54 (by decide +kernel) rfl, by decide +kernel, by decide⟩, lw_in 602 (by decide +kernel) rfl, lw_in 603 (by decide +kernel) rfl⟩
theorem cw_X9_behind : CWv yX9_behind cX9_behind 4 (some .int) 2 := ⟨⟨lw_in 1143 (by decide +kernel) rfl, lw_in 62 (by decide +kernel) rfl, by decide +kernel, by decide⟩, lw_in 1141 (by decide +kernel) rfl, lw_in 1142 (by decide +kernel) rfl⟩
theorem cw_X8_between : CWv yX8_between cX8_between 3 (some .int) 2 := ⟨⟨lw_in 609 (by decide +kernel) rfl, lw_in 54 (by decide +kernel) rfl, by decide +kernel, by decide⟩, lw_in 607 (by decide +kernel) rfl, lw_in 608 (by decide +kernel) rfl⟩
theorem cw_X9_between : CWv yX9_between cX9_between 6 (some .int) 2 := ⟨⟨lw_in 1147 (by decide +kernel) rfl, lw_in 62 (by decide +kernel) rfl, by decide +kernel, by decide⟩, lw_in 1145 (by decide +kernel) rfl, lw_in 1146 (by decide +kernel) rfl⟩
theorem cw_X8_mirror : CWv yX8_mirror cX8_mirror 4 (some .int) 3 := ⟨⟨lw_in 618 (by decide +kernel) rfl, lw_in 54 (by decide +kernel) rfl, by decide +kernel, by decide⟩, lw_in 616 (by decide +kernel) rfl, lw_in 617 (by decide +kernel) rfl⟩
theorem cw_X9_mirror : CWv yX9_mirror cX9_mirror 5 (some .int) 3 := ⟨⟨lw_in 1155 (by decide +kernel) rfl, lw_in 62 (by decide +kernel) rfl, by decide +kernel, by decide⟩, lw_in 1153 (by decide +kernel) rfl, lw_in 1154 (by decide +kernel) rfl⟩
theorem cw_X8_full : CWv yX8_full cX8_full 3 (some .int) 0 := ⟨⟨lw_in 630 (by decide +kernel) rfl, lw_in 54 (by decide +kernel) rfl, by decide +kernel, by decide⟩, lw_in 628 (by decide +kernel) rfl, lw_in 629 (by decide +kernel) rfl⟩
theorem cw_X9_full : CWv yX9_full cX9_full 3 (some .int) 0 := ⟨⟨lw_in 1171 (by decide +kernel) rfl, lw_in 62 (by decide +kernel) rfl, by decide +kernel, by decide⟩, lw_in 1169 (by decide +kernel) rfl, lw_in 1170 (by decide +kernel) rfl⟩
theorem cw_X8_odds : CWv yX8_odds cX8_odds 4 (some .long) 2 := ⟨⟨lw_in 639 (by decide +kernel) rfl, lw_in 54 (by decide +kernel) rfl, by decide +kernel, by decide⟩, lw_in 637 (by decide +kernel) rfl, lw_in 638 (by decide +kernel) rfl⟩
theorem cw_X9_odds : CWv yX9_odds cX9_odds 3 (some .long) 2 := ⟨⟨lw_in 1175 (by decide +kernel) rfl, lw_in 62 (by decide +kernel) rfl, by decide +kernel, by decide⟩, lw_in 1173 (by decide +kernel) rfl, lw_in 1174 (by decide +kernel) rfl⟩
theorem cw_X8_touch : CWv yX8_touch cX8_touch 4 (some .int) 3 := ⟨⟨lw_in 643 (by decide +kernel) rfl, lw_in 54 (by decide +kernel) rfl, by decide +kernel, by decide⟩, lw_in 641 (by decide +kernel) rfl, lw_in 642 (by decide +kernel) rfl⟩
theorem cw_X9_touch : CWv yX9_touch cX9_touch 4 (some .int) 3 := ⟨⟨lw_in 1179 (by decide +kernel) rfl, lw_in 62 (by decide +kernel) rfl, by decide +kernel, by decide⟩, lw_in 1177 (by decide +kernel) rfl, lw_in 1178 (by decide +kernel) rfl⟩
theorem cw_X8_meet : CWv yX8_meet cX8_meet 5 (some .int) 2 := ⟨⟨lw_in 674 (by decide +kernel) rfl, lw_in 54 (by decide +kernel) rfl, by decide +kernel, by decide⟩, lw_in 672 (by decide +kernel) rfl, lw_in 673 (by decide +kernel) rfl⟩
theorem cw_X9_meet : CWv yX9_meet cX9_meet 7 (some .int) 2 := ⟨⟨lw_in 1202 (by decide +kernel) rfl, lw_in 62 (by decide +kernel) rfl, by decide +kernel, by decide⟩, lw_in 1200 (by decide +kernel) rfl, lw_in 1201 (by decide +kernel) rfl⟩
theorem cw_X8_crowd : CWv yX8_crowd cX8_crowd 5 (some .int) 3 := ⟨⟨lw_in 684 (by decide +kernel) rfl, lw_in 54 (by decide +kernel) rfl, by decide +kernel, by decide⟩, lw_in 682 (by decide +kernel) rfl, lw_in 683 (by decide +kernel) rfl⟩
theorem cw_X9_crowd : CWv yX9_crowd cX9_crowd 7 (some .int) 3 := ⟨⟨lw_in 1206 (by decide +kernel) rfl, lw_in 62 (by decide +kernel) rfl, by decide +kernel, by decide⟩, lw_in 1204 (by decide +kernel) rfl, lw_in 1205 (by decide +kernel) rfl⟩
theorem cw_X8_roll : CWv yX8_roll cX8_roll 4 (some .int) 2 := ⟨⟨lw_in 698 (by decide +kernel) rfl, lw_in 54 (by decide +kernel) rfl, by decide +kernel, by decide⟩, lw_in 696 (by decide +kernel) rfl, lw_in 697 (by decide +kernel) rfl⟩
theorem cw_X9_roll : CWv yX9_roll cX9_roll 3 (some .int) 2 := ⟨⟨lw_in 1210 (by decide +kernel) rfl, lw_in 62 (by decide +kernel) rfl, by decide +kernel, by decide⟩, lw_in 1208 (by decide +kernel) rfl, lw_in 1209 (by decide +kernel) rfl⟩
theorem cw_X8_inked : CWv yX8_inked cX8_inked 2 (some .int) 1 := ⟨⟨lw_in 703 (by decide +kernel) rfl, lw_in 54 (by decide +kernel) rfl, by decide +kernel, by decide⟩, lw_in 701 (by decide +kernel) rfl, lw_in 702 (by decide +kernel) rfl⟩
theorem cw_X9_inked : CWv yX9_inked cX9_inked 4 (some .int) 1 := ⟨⟨lw_in 1214 (by decide +kernel) rfl, lw_in 62 (by decide +kernel) rfl, by decide +kernel, by decide⟩, lw_in 1212 (by decide +kernel) rfl, lw_in 1213 (by decide +kernel) rfl⟩
theorem cw_X8_ahead : CWv yX8_ahead cX8_ahead 2 (some .int) 1 := ⟨⟨lw_in 726 (by decide +kernel) rfl, lw_in 54 (by decide +kernel) rfl, by decide +kernel, by decide⟩, lw_in 724 (by decide +kernel) rfl, lw_in 725 (by decide +kernel) rfl⟩
theorem cw_X9_ahead : CWv yX9_ahead cX9_ahead 3 (some .int) 1 := ⟨⟨lw_in 1222 (by decide +kernel) rfl, lw_in 62 (by decide +kernel) rfl, by decide +kernel, by decide⟩, lw_in 1220 (by decide +kernel) rfl, lw_in 1221 (by decide +kernel) rfl⟩
theorem cw_X8_fits : CWv yX8_fits cX8_fits 8 (some .long) 3 := ⟨⟨lw_in 730 (by decide +kernel) rfl, lw_in 54 (by decide +kernel) rfl, by decide +kernel, by decide⟩, lw_in 728 (by decide +kernel) rfl, lw_in 729 (by decide +kernel) rfl⟩
theorem cw_X9_fits : CWv yX9_fits cX9_fits 7 (some .long) 3 := ⟨⟨lw_in 1226 (by decide +kernel) rfl, lw_in 62 (by decide +kernel) rfl, by decide +kernel, by decide⟩, lw_in 1224 (by decide +kernel) rfl, lw_in 1225 (by decide +kernel) rfl⟩
theorem cw_X8_kinds : CWv yX8_kinds cX8_kinds 6 (some .int) 3 := ⟨⟨lw_in 750 (by decide +kernel) rfl, lw_in 54 (by decide +kernel) rfl, by decide +kernel, by decide⟩, lw_in 748 (by decide +kernel) rfl, lw_in 749 (by decide +kernel) rfl⟩
theorem cw_X9_kinds : CWv yX9_kinds cX9_kinds 7 (some .int) 3 := ⟨⟨lw_in 1242 (by decide +kernel) rfl, lw_in 62 (by decide +kernel) rfl, by decide +kernel, by decide⟩, lw_in 1240 (by decide +kernel) rfl, lw_in 1241 (by decide +kernel) rfl⟩
theorem cw_X8_drawnBy : CWv yX8_drawnBy cX8_drawnBy 4 (some .int) 2 := ⟨⟨lw_in 762 (by decide +kernel) rfl, lw_in 54 (by decide +kernel) rfl, by decide +kernel, by decide⟩, lw_in 760 (by decide +kernel) rfl, lw_in 761 (by decide +kernel) rfl⟩
theorem cw_X9_drawnBy : CWv yX9_drawnBy cX9_drawnBy 4 (some .int) 2 := ⟨⟨lw_in 1246 (by decide +kernel) rfl, lw_in 62 (by decide +kernel) rfl, by decide +kernel, by decide⟩, lw_in 1244 (by decide +kernel) rfl, lw_in 1245 (by decide +kernel) rfl⟩
theorem cw_X8_judge : CWv yX8_judge cX8_judge 6 (some .int) 2 := ⟨⟨lw_in 770 (by decide +kernel) rfl, lw_in 54 (by decide +kernel) rfl, by decide +kernel, by decide⟩, lw_in 768 (by decide +kernel) rfl, lw_in 769 (by decide +kernel) rfl⟩
theorem cw_X9_judge : CWv yX9_judge cX9_judge 4 (some .int) 2 := ⟨⟨lw_in 1250 (by decide +kernel) rfl, lw_in 62 (by decide +kernel) rfl, by decide +kernel, by decide⟩, lw_in 1248 (by decide +kernel) rfl, lw_in 1249 (by decide +kernel) rfl⟩
theorem cw_X8_lots : CWv yX8_lots cX8_lots 4 (some .int) 3 := ⟨⟨lw_in 774 (by decide +kernel) rfl, lw_in 54 (by decide +kernel) rfl, by decide +kernel, by decide⟩, lw_in 772 (by decide +kernel) rfl, lw_in 773 (by decide +kernel) rfl⟩
theorem cw_X9_lots : CWv yX9_lots cX9_lots 8 (some .int) 3 := ⟨⟨lw_in 1254 (by decide +kernel) rfl, lw_in 62 (by decide +kernel) rfl, by decide +kernel, by decide⟩, lw_in 1252 (by decide +kernel) rfl, lw_in 1253 (by decide +kernel) rfl⟩
theorem cw_X8_list : CWv yX8_list cX8_list 4 (some .int) 2 := ⟨⟨lw_in 792 (by decide +kernel) rfl, lw_in 54 (by decide +kernel) rfl, by decide +kernel, by decide⟩, lw_in 790 (by decide +kernel) rfl, lw_in 791 (by decide +kernel) rfl⟩
theorem cw_X9_list : CWv yX9_list cX9_list 4 (some .int) 2 := ⟨⟨lw_in 1265 (by decide +kernel) rfl, lw_in 62 (by decide +kernel) rfl, by decide +kernel, by decide⟩, lw_in 1263 (by decide +kernel) rfl, lw_in 1264 (by decide +kernel) rfl⟩
theorem cw_X8_put : CWv yX8_put cX8_put 5 (some .int) 3 := ⟨⟨lw_in 801 (by decide +kernel) rfl, lw_in 54 (by decide +kernel) rfl, by decide +kernel, by decide⟩, lw_in 799 (by decide +kernel) rfl, lw_in 800 (by decide +kernel) rfl⟩
theorem cw_X9_put : CWv yX9_put cX9_put 4 (some .int) 3 := ⟨⟨lw_in 1269 (by decide +kernel) rfl, lw_in 62 (by decide +kernel) rfl, by decide +kernel, by decide⟩, lw_in 1267 (by decide +kernel) rfl, lw_in 1268 (by decide +kernel) rfl⟩
theorem cw_X8_look : CWv yX8_look cX8_look 4 (some .long) 2 := ⟨⟨lw_in 812 (by decide +kernel) rfl, lw_in 54 (by decide +kernel) rfl, by decide +kernel, by decide⟩, lw_in 810 (by decide +kernel) rfl, lw_in 811 (by decide +kernel) rfl⟩
theorem cw_X9_look : CWv yX9_look cX9_look 3 (some .long) 2 := ⟨⟨lw_in 1273 (by decide +kernel) rfl, lw_in 62 (by decide +kernel) rfl, by decide +kernel, by decide⟩, lw_in 1271 (by decide +kernel) rfl, lw_in 1272 (by decide +kernel) rfl⟩
theorem cw_X8_lays : CWv yX8_lays cX8_lays 9 (some .int) 3 := ⟨⟨lw_in 816 (by decide +kernel) rfl, lw_in 54 (by decide +kernel) rfl, by decide +kernel, by decide⟩, lw_in 814 (by decide +kernel) rfl, lw_in 815 (by decide +kernel) rfl⟩
theorem cw_X9_lays_ : CWv yX9_lays_ cX9_lays_ 6 (some .int) 3 := ⟨⟨lw_in 1278 (by decide +kernel) rfl, lw_in 62 (by decide +kernel) rfl, by decide +kernel, by decide⟩, lw_in 1276 (by decide +kernel) rfl, lw_in 1277 (by decide +kernel) rfl⟩
theorem cw_X8_undo : CWv yX8_undo cX8_undo 1 (some .int) 0 := ⟨⟨lw_in 821 (by decide +kernel) rfl, lw_in 54 (by decide +kernel) rfl, by decide +kernel, by decide⟩, lw_in 819 (by decide +kernel) rfl, lw_in 820 (by decide +kernel) rfl⟩
theorem cw_X9_undo : CWv yX9_undo cX9_undo 3 (some .int) 0 := ⟨⟨lw_in 1282 (by decide +kernel) rfl, lw_in 62 (by decide +kernel) rfl, by decide +kernel, by decide⟩, lw_in 1280 (by decide +kernel) rfl, lw_in 1281 (by decide +kernel) rfl⟩
theorem cw_X8_image : CWv yX8_image cX8_image 1 (some .int) 0 := ⟨⟨lw_in 829 (by decide +kernel) rfl, lw_in 54 (by decide +kernel) rfl, by decide +kernel, by decide⟩, lw_in 827 (by decide +kernel) rfl, lw_in 828 (by decide +kernel) rfl⟩
theorem cw_X9_image : CWv yX9_image cX9_image 1 (some .int) 0 := ⟨⟨lw_in 1286 (by decide +kernel) rfl, lw_in 62 (by decide +kernel) rfl, by decide +kernel, by decide⟩, lw_in 1284 (by decide +kernel) rfl, lw_in 1285 (by decide +kernel) rfl⟩
theorem cw_X8_on : CWv yX8_on cX8_on 1 (some .int) 0 := ⟨⟨lw_in 833 (by decide +kernel) rfl, lw_in 54 (by decide +kernel) rfl, by decide +kernel, by decide⟩, lw_in 831 (by decide +kernel) rfl, lw_in 832 (by decide +kernel) rfl⟩
theorem cw_X9_on : CWv yX9_on cX9_on 1 (some .int) 0 := ⟨⟨lw_in 1290 (by decide +kernel) rfl, lw_in 62 (by decide +kernel) rfl, by decide +kernel, by decide⟩, lw_in 1288 (by decide +kernel) rfl, lw_in 1289 (by decide +kernel) rfl⟩
theorem cw_X8_count : CWv yX8_count cX8_count 2 (some .int) 1 := ⟨⟨lw_in 837 (by decide +kernel) rfl, lw_in 54 (by decide +kernel) rfl, by decide +kernel, by decide⟩, lw_in 835 (by decide +kernel) rfl, lw_in 836 (by decide +kernel) rfl⟩
theorem cw_X9_count : CWv yX9_count cX9_count 4 (some .int) 1 := ⟨⟨lw_in 1294 (by decide +kernel) rfl, lw_in 62 (by decide +kernel) rfl, by decide +kernel, by decide⟩, lw_in 1292 (by decide +kernel) rfl, lw_in 1293 (by decide +kernel) rfl⟩
set_option maxRecDepth 20000 in
set_option maxHeartbeats 4000000 in
theorem lc_letter (l : Launch) (g : GG) {b L i : Nat} {xs : Nat → Int32} {σ : SS} {Rel : SS → Prop} (hp : pc_letter Rel) (hR : Rel σ) (hi : i + 6 ≤ L) (hL : L ≤ 3072) (kk : ∀ σ', Rel σ' → VL l g b L xs 1418 [(0, .ref b), (1, .ref (g.1 0)), (2, .ref (g.1 143)), (3, .int (nI i))] [] σ') : VL l g b L xs 200 [(0, .ref b), (1, .ref (g.1 0)), (2, .ref (g.1 143)), (3, .int (nI i))] [] σ := by
  obtain ⟨r, σ1, σ2, h1, h2, hR2⟩ := hp σ (xs (i + 1)) hR
  refine vx_aload_n (pc := 200) 1 dL_law_200 rfl rfl ?_
  refine vl_arg (pc := 201) (i := i) (rs := [(1, .ref (g.1 0)), (2, .ref (g.1 143))]) 1 (by decide) rfl (by omega) hL dL_law_201 dL_law_202 dL_law_203 dL_law_204 dL_law_205 ?_
  refine vl_call (pc := 206) (q := 0) (ρ1 := (some (.int r), σ1)) [.int (xs (i + 1))] dL_law_206 (s_X8_letter l g kd_0 h1) cw_X8_letter ml_L_13 kd_0 rfl (by decide) (by decide) rfl rfl (Nat.le_of_ble_eq_true rfl) ?_
  refine vx_aload_n (pc := 209) 2 dL_law_209 rfl rfl ?_
  refine vl_arg (pc := 210) (i := i) (rs := [(1, .ref (g.1 0)), (2, .ref (g.1 143))]) 1 (by decide) rfl (by omega) hL dL_law_210 dL_law_211 dL_law_212 dL_law_213 dL_law_214 ?_
  refine vl_call (pc := 215) (q := 143) (ρ1 := (some (.int r), σ2)) [.int (xs (i + 1))] dL_law_215 (s_X9_letter l g kd_143 h2) cw_X9_letter ml_L_17 kd_143 rfl (by decide) (by decide) rfl rfl (Nat.le_of_ble_eq_true rfl) ?_
  refine vx_icmp_eq (pc := 218) 1418 dL_law_218 (by decide) (fun _ => ?_) (fun c => absurd rfl c)
  exact kk σ2 hR2
set_option maxRecDepth 20000 in
set_option maxHeartbeats 4000000 in
theorem lc_sheet (l : Launch) (g : GG) {b L i : Nat} {xs : Nat → Int32} {σ : SS} {Rel : SS → Prop} (hp : pc_sheet Rel) (hR : Rel σ) (hi : i + 6 ≤ L) (hL : L ≤ 3072) (kk : ∀ σ', Rel σ' → VL l g b L xs 1418 [(0, .ref b), (1, .ref (g.1 0)), (2, .ref (g.1 143)), (3, .int (nI i))] [] σ') : VL l g b L xs 223 [(0, .ref b), (1, .ref (g.1 0)), (2, .ref (g.1 143)), (3, .int (nI i))] [] σ := by
  obtain ⟨r, σ1, σ2, h1, h2, hR2⟩ := hp σ hR
  refine vx_aload_n (pc := 223) 1 dL_law_223 rfl rfl ?_
  refine vl_call (pc := 224) (q := 0) (ρ1 := (some (.int r), σ1)) [] dL_law_224 (s_X8_sheet l g kd_0 h1) cw_X8_sheet ml_L_18 kd_0 rfl (by decide) (by decide) rfl rfl (Nat.le_of_ble_eq_true rfl) ?_
  refine vx_aload_n (pc := 227) 2 dL_law_227 rfl rfl ?_
  refine vl_call (pc := 228) (q := 143) (ρ1 := (some (.int r), σ2)) [] dL_law_228 (s_X9_sheet l g kd_143 h2) cw_X9_sheet ml_L_22 kd_143 rfl (by decide) (by decide) rfl rfl (Nat.le_of_ble_eq_true rfl) ?_
  refine vx_icmp_eq (pc := 231) 1418 dL_law_231 (by decide) (fun _ => ?_) (fun c => absurd rfl c)
  exact kk σ2 hR2
set_option maxRecDepth 20000 in
set_option maxHeartbeats 4000000 in
theorem lc_ring (l : Launch) (g : GG) {b L i : Nat} {xs : Nat → Int32} {σ : SS} {Rel : SS → Prop} (hp : pc_ring Rel) (hR : Rel σ) (hi : i + 6 ≤ L) (hL : L ≤ 3072) (kk : ∀ σ', Rel σ' → VL l g b L xs 1418 [(0, .ref b), (1, .ref (g.1 0)), (2, .ref (g.1 143)), (3, .int (nI i))] [] σ') : VL l g b L xs 236 [(0, .ref b), (1, .ref (g.1 0)), (2, .ref (g.1 143)), (3, .int (nI i))] [] σ := by
  obtain ⟨r, σ1, σ2, h1, h2, hR2⟩ := hp σ (xs (i + 1)) hR
  refine vx_aload_n (pc := 236) 1 dL_law_236 rfl rfl ?_
  refine vl_arg (pc := 237) (i := i) (rs := [(1, .ref (g.1 0)), (2, .ref (g.1 143))]) 1 (by decide) rfl (by omega) hL dL_law_237 dL_law_238 dL_law_239 dL_law_240 dL_law_241 ?_
  refine vl_call (pc := 242) (q := 0) (ρ1 := (some (.int r), σ1)) [.int (xs (i + 1))] dL_law_242 (s_X8_ring l g kd_0 h1) cw_X8_ring ml_L_23 kd_0 rfl (by decide) (by decide) rfl rfl (Nat.le_of_ble_eq_true rfl) ?_
  refine vx_aload_n (pc := 245) 2 dL_law_245 rfl rfl ?_
  refine vl_arg (pc := 246) (i := i) (rs := [(1, .ref (g.1 0)), (2, .ref (g.1 143))]) 1 (by decide) rfl (by omega) hL dL_law_246 dL_law_247 dL_law_248 dL_law_249 dL_law_250 ?_
  refine vl_call (pc := 251) (q := 143) (ρ1 := (some (.int r), σ2)) [.int (xs (i + 1))] dL_law_251 (s_X9_ring l g kd_143 h2) cw_X9_ring ml_L_26 kd_143 rfl (by decide) (by decide) rfl rfl (Nat.le_of_ble_eq_true rfl) ?_
  refine vx_icmp_eq (pc := 254) 1418 dL_law_254 (by decide) (fun _ => ?_) (fun c => absurd rfl c)
  exact kk σ2 hR2
set_option maxRecDepth 20000 in
set_option maxHeartbeats 4000000 in
theorem lc_wheel (l : Launch) (g : GG) {b L i : Nat} {xs : Nat → Int32} {σ : SS} {Rel : SS → Prop} (hp : pc_wheel Rel) (hR : Rel σ) (hi : i + 6 ≤ L) (hL : L ≤ 3072) (kk : ∀ σ', Rel σ' → VL l g b L xs 1418 [(0, .ref b), (1, .ref (g.1 0)), (2, .ref (g.1 143)), (3, .int (nI i))] [] σ') : VL l g b L xs 259 [(0, .ref b), (1, .ref (g.1 0)), (2, .ref (g.1 143)), (3, .int (nI i))] [] σ := by
  obtain ⟨r, σ1, σ2, h1, h2, hR2⟩ := hp σ (xs (i + 1)) (xs (i + 2)) (xs (i + 3)) (xs (i + 4)) (xs (i + 5)) hR
  refine vx_aload_n (pc := 259) 1 dL_law_259 rfl rfl ?_
  refine vl_arg (pc := 260) (i := i) (rs := [(1, .ref (g.1 0)), (2, .ref (g.1 143))]) 1 (by decide) rfl (by omega) hL dL_law_260 dL_law_261 dL_law_262 dL_law_263 dL_law_264 ?_
  refine vl_arg (pc := 265) (i := i) (rs := [(1, .ref (g.1 0)), (2, .ref (g.1 143))]) 2 (by decide) rfl (by omega) hL dL_law_265 dL_law_266 dL_law_267 dL_law_268 dL_law_269 ?_
  refine vl_arg (pc := 270) (i := i) (rs := [(1, .ref (g.1 0)), (2, .ref (g.1 143))]) 3 (by decide) rfl (by omega) hL dL_law_270 dL_law_271 dL_law_272 dL_law_273 dL_law_274 ?_
  refine vl_arg (pc := 275) (i := i) (rs := [(1, .ref (g.1 0)), (2, .ref (g.1 143))]) 4 (by decide) rfl (by omega) hL dL_law_275 dL_law_276 dL_law_277 dL_law_278 dL_law_279 ?_
  refine vl_arg (pc := 280) (i := i) (rs := [(1, .ref (g.1 0)), (2, .ref (g.1 143))]) 5 (by decide) rfl (by omega) hL dL_law_280 dL_law_281 dL_law_282 dL_law_283 dL_law_284 ?_
  refine vl_call (pc := 285) (q := 0) (ρ1 := (some (.int r), σ1)) [.int (xs (i + 1)), .int (xs (i + 2)), .int (xs (i + 3)), .int (xs (i + 4)), .int (xs (i + 5))] dL_law_285 (s_X8_wheel l g kd_0 h1) cw_X8_wheel ml_L_27 kd_0 rfl (by decide) (by decide) rfl rfl (Nat.le_of_ble_eq_true rfl) ?_
  refine vx_aload_n (pc := 288) 2 dL_law_288 rfl rfl ?_
  refine vl_arg (pc := 289) (i := i) (rs := [(1, .ref (g.1 0)), (2, .ref (g.1 143))]) 1 (by decide) rfl (by omega) hL dL_law_289 dL_law_290 dL_law_291 dL_law_292 dL_law_293 ?_
  refine vl_arg (pc := 294) (i := i) (rs := [(1, .ref (g.1 0)), (2, .ref (g.1 143))]) 2 (by decide) rfl (by omega) hL dL_law_294 dL_law_295 dL_law_296 dL_law_297 dL_law_298 ?_
  refine vl_arg (pc := 299) (i := i) (rs := [(1, .ref (g.1 0)), (2, .ref (g.1 143))]) 3 (by decide) rfl (by omega) hL dL_law_299 dL_law_300 dL_law_301 dL_law_302 dL_law_303 ?_
  refine vl_arg (pc := 304) (i := i) (rs := [(1, .ref (g.1 0)), (2, .ref (g.1 143))]) 4 (by decide) rfl (by omega) hL dL_law_304 dL_law_305 dL_law_306 dL_law_307 dL_law_308 ?_
  refine vl_arg (pc := 309) (i := i) (rs := [(1, .ref (g.1 0)), (2, .ref (g.1 143))]) 5 (by decide) rfl (by omega) hL dL_law_309 dL_law_310 dL_law_311 dL_law_312 dL_law_313 ?_
  refine vl_call (pc := 314) (q := 143) (ρ1 := (some (.int r), σ2)) [.int (xs (i + 1)), .int (xs (i + 2)), .int (xs (i + 3)), .int (xs (i + 4)), .int (xs (i + 5))] dL_law_314 (s_X9_wheel l g kd_143 h2) cw_X9_wheel ml_L_31 kd_143 rfl (by decide) (by decide) rfl rfl (Nat.le_of_ble_eq_true rfl) ?_
  refine vx_icmp_eq (pc := 317) 1418 dL_law_317 (by decide) (fun _ => ?_) (fun c => absurd rfl c)
  exact kk σ2 hR2
set_option maxRecDepth 20000 in
set_option maxHeartbeats 4000000 in
theorem lc_of (l : Launch) (g : GG) {b L i : Nat} {xs : Nat → Int32} {σ : SS} {Rel : SS → Prop} (hp : pc_of Rel) (hR : Rel σ) (hi : i + 6 ≤ L) (hL : L ≤ 3072) (kk : ∀ σ', Rel σ' → VL l g b L xs 1418 [(0, .ref b), (1, .ref (g.1 0)), (2, .ref (g.1 143)), (3, .int (nI i))] [] σ') : VL l g b L xs 322 [(0, .ref b), (1, .ref (g.1 0)), (2, .ref (g.1 143)), (3, .int (nI i))] [] σ := by
  obtain ⟨r, σ1, σ2, h1, h2, hR2⟩ := hp σ (xs (i + 1)) (xs (i + 2)) hR
  refine vx_aload_n (pc := 322) 1 dL_law_322 rfl rfl ?_
  refine vl_arg (pc := 323) (i := i) (rs := [(1, .ref (g.1 0)), (2, .ref (g.1 143))]) 1 (by decide) rfl (by omega) hL dL_law_323 dL_law_324 dL_law_325 dL_law_326 dL_law_327 ?_
  refine vl_arg (pc := 328) (i := i) (rs := [(1, .ref (g.1 0)), (2, .ref (g.1 143))]) 2 (by decide) rfl (by omega) hL dL_law_328 dL_law_329 dL_law_330 dL_law_331 dL_law_332 ?_
  refine vl_call (pc := 333) (q := 0) (ρ1 := (some (.int r), σ1)) [.int (xs (i + 1)), .int (xs (i + 2))] dL_law_333 (s_X8_of l g kd_0 h1) cw_X8_of ml_L_32 kd_0 rfl (by decide) (by decide) rfl rfl (Nat.le_of_ble_eq_true rfl) ?_
  refine vx_aload_n (pc := 336) 2 dL_law_336 rfl rfl ?_
  refine vl_arg (pc := 337) (i := i) (rs := [(1, .ref (g.1 0)), (2, .ref (g.1 143))]) 1 (by decide) rfl (by omega) hL dL_law_337 dL_law_338 dL_law_339 dL_law_340 dL_law_341 ?_
  refine vl_arg (pc := 342) (i := i) (rs := [(1, .ref (g.1 0)), (2, .ref (g.1 143))]) 2 (by decide) rfl (by omega) hL dL_law_342 dL_law_343 dL_law_344 dL_law_345 dL_law_346 ?_
  refine vl_call (pc := 347) (q := 143) (ρ1 := (some (.int r), σ2)) [.int (xs (i + 1)), .int (xs (i + 2))] dL_law_347 (s_X9_of l g kd_143 h2) cw_X9_of ml_L_36 kd_143 rfl (by decide) (by decide) rfl rfl (Nat.le_of_ble_eq_true rfl) ?_
  refine vx_icmp_eq (pc := 350) 1418 dL_law_350 (by decide) (fun _ => ?_) (fun c => absurd rfl c)
  exact kk σ2 hR2
set_option maxRecDepth 20000 in
set_option maxHeartbeats 4000000 in
theorem lc_change (l : Launch) (g : GG) {b L i : Nat} {xs : Nat → Int32} {σ : SS} {Rel : SS → Prop} (hp : pc_change Rel) (hR : Rel σ) (hi : i + 6 ≤ L) (hL : L ≤ 3072) (kk : ∀ σ', Rel σ' → VL l g b L xs 1418 [(0, .ref b), (1, .ref (g.1 0)), (2, .ref (g.1 143)), (3, .int (nI i))] [] σ') : VL l g b L xs 355 [(0, .ref b), (1, .ref (g.1 0)), (2, .ref (g.1 143)), (3, .int (nI i))] [] σ := by
  obtain ⟨r, σ1, σ2, h1, h2, hR2⟩ := hp σ (xs (i + 1)) (xs (i + 2)) (xs (i + 3)) hR
  refine vx_aload_n (pc := 355) 1 dL_law_355 rfl rfl ?_
  refine vl_arg (pc := 356) (i := i) (rs := [(1, .ref (g.1 0)), (2, .ref (g.1 143))]) 1 (by decide) rfl (by omega) hL dL_law_356 dL_law_357 dL_law_358 dL_law_359 dL_law_360 ?_
  refine vl_arg (pc := 361) (i := i) (rs := [(1, .ref (g.1 0)), (2, .ref (g.1 143))]) 2 (by decide) rfl (by omega) hL dL_law_361 dL_law_362 dL_law_363 dL_law_364 dL_law_365 ?_
  refine vl_arg (pc := 366) (i := i) (rs := [(1, .ref (g.1 0)), (2, .ref (g.1 143))]) 3 (by decide) rfl (by omega) hL dL_law_366 dL_law_367 dL_law_368 dL_law_369 dL_law_370 ?_
  refine vl_call (pc := 371) (q := 0) (ρ1 := (some (.int r), σ1)) [.int (xs (i + 1)), .int (xs (i + 2)), .int (xs (i + 3))] dL_law_371 (s_X8_change l g kd_0 h1) cw_X8_change ml_L_37 kd_0 rfl (by decide) (by decide) rfl rfl (Nat.le_of_ble_eq_true rfl) ?_
  refine vx_aload_n (pc := 374) 2 dL_law_374 rfl rfl ?_
  refine vl_arg (pc := 375) (i := i) (rs := [(1, .ref (g.1 0)), (2, .ref (g.1 143))]) 1 (by decide) rfl (by omega) hL dL_law_375 dL_law_376 dL_law_377 dL_law_378 dL_law_379 ?_
  refine vl_arg (pc := 380) (i := i) (rs := [(1, .ref (g.1 0)), (2, .ref (g.1 143))]) 2 (by decide) rfl (by omega) hL dL_law_380 dL_law_381 dL_law_382 dL_law_383 dL_law_384 ?_
  refine vl_arg (pc := 385) (i := i) (rs := [(1, .ref (g.1 0)), (2, .ref (g.1 143))]) 3 (by decide) rfl (by omega) hL dL_law_385 dL_law_386 dL_law_387 dL_law_388 dL_law_389 ?_
  refine vl_call (pc := 390) (q := 143) (ρ1 := (some (.int r), σ2)) [.int (xs (i + 1)), .int (xs (i + 2)), .int (xs (i + 3))] dL_law_390 (s_X9_change l g kd_143 h2) cw_X9_change ml_L_41 kd_143 rfl (by decide) (by decide) rfl rfl (Nat.le_of_ble_eq_true rfl) ?_
  refine vx_icmp_eq (pc := 393) 1418 dL_law_393 (by decide) (fun _ => ?_) (fun c => absurd rfl c)
  exact kk σ2 hR2
set_option maxRecDepth 20000 in
set_option maxHeartbeats 4000000 in
theorem lc_puts (l : Launch) (g : GG) {b L i : Nat} {xs : Nat → Int32} {σ : SS} {Rel : SS → Prop} (hp : pc_puts Rel) (hR : Rel σ) (hi : i + 6 ≤ L) (hL : L ≤ 3072) (kk : ∀ σ', Rel σ' → VL l g b L xs 1418 [(0, .ref b), (1, .ref (g.1 0)), (2, .ref (g.1 143)), (3, .int (nI i))] [] σ') : VL l g b L xs 398 [(0, .ref b), (1, .ref (g.1 0)), (2, .ref (g.1 143)), (3, .int (nI i))] [] σ := by
  obtain ⟨r, σ1, σ2, h1, h2, hR2⟩ := hp σ (xs (i + 1)) (xs (i + 2)) hR
  refine vx_aload_n (pc := 398) 1 dL_law_398 rfl rfl ?_
  refine vl_arg (pc := 399) (i := i) (rs := [(1, .ref (g.1 0)), (2, .ref (g.1 143))]) 1 (by decide) rfl (by omega) hL dL_law_399 dL_law_400 dL_law_401 dL_law_402 dL_law_403 ?_
  refine vl_arg (pc := 404) (i := i) (rs := [(1, .ref (g.1 0)), (2, .ref (g.1 143))]) 2 (by decide) rfl (by omega) hL dL_law_404 dL_law_405 dL_law_406 dL_law_407 dL_law_408 ?_
  refine vl_call (pc := 409) (q := 0) (ρ1 := (some (.int r), σ1)) [.int (xs (i + 1)), .int (xs (i + 2))] dL_law_409 (s_X8_puts l g kd_0 h1) cw_X8_puts ml_L_42 kd_0 rfl (by decide) (by decide) rfl rfl (Nat.le_of_ble_eq_true rfl) ?_
  refine vx_aload_n (pc := 412) 2 dL_law_412 rfl rfl ?_
  refine vl_arg (pc := 413) (i := i) (rs := [(1, .ref (g.1 0)), (2, .ref (g.1 143))]) 1 (by decide) rfl (by omega) hL dL_law_413 dL_law_414 dL_law_415 dL_law_416 dL_law_417 ?_
  refine vl_arg (pc := 418) (i := i) (rs := [(1, .ref (g.1 0)), (2, .ref (g.1 143))]) 2 (by decide) rfl (by omega) hL dL_law_418 dL_law_419 dL_law_420 dL_law_421 dL_law_422 ?_
  refine vl_call (pc := 423) (q := 143) (ρ1 := (some (.int r), σ2)) [.int (xs (i + 1)), .int (xs (i + 2))] dL_law_423 (s_X9_puts l g kd_143 h2) cw_X9_puts ml_L_45 kd_143 rfl (by decide) (by decide) rfl rfl (Nat.le_of_ble_eq_true rfl) ?_
  refine vx_icmp_eq (pc := 426) 1418 dL_law_426 (by decide) (fun _ => ?_) (fun c => absurd rfl c)
  exact kk σ2 hR2
set_option maxRecDepth 20000 in
set_option maxHeartbeats 4000000 in
theorem lc_next (l : Launch) (g : GG) {b L i : Nat} {xs : Nat → Int32} {σ : SS} {Rel : SS → Prop} (hp : pc_next Rel) (hR : Rel σ) (hi : i + 6 ≤ L) (hL : L ≤ 3072) (kk : ∀ σ', Rel σ' → VL l g b L xs 1418 [(0, .ref b), (1, .ref (g.1 0)), (2, .ref (g.1 143)), (3, .int (nI i))] [] σ') : VL l g b L xs 431 [(0, .ref b), (1, .ref (g.1 0)), (2, .ref (g.1 143)), (3, .int (nI i))] [] σ := by
  obtain ⟨r, σ1, σ2, h1, h2, hR2⟩ := hp σ (xs (i + 1)) (xs (i + 2)) hR
  refine vx_aload_n (pc := 431) 1 dL_law_431 rfl rfl ?_
  refine vl_arg (pc := 432) (i := i) (rs := [(1, .ref (g.1 0)), (2, .ref (g.1 143))]) 1 (by decide) rfl (by omega) hL dL_law_432 dL_law_433 dL_law_434 dL_law_435 dL_law_436 ?_
  refine vl_arg (pc := 437) (i := i) (rs := [(1, .ref (g.1 0)), (2, .ref (g.1 143))]) 2 (by decide) rfl (by omega) hL dL_law_437 dL_law_438 dL_law_439 dL_law_440 dL_law_441 ?_
  refine vl_call (pc := 442) (q := 0) (ρ1 := (some (.int r), σ1)) [.int (xs (i + 1)), .int (xs (i + 2))] dL_law_442 (s_X8_next l g kd_0 h1) cw_X8_next ml_L_46 kd_0 rfl (by decide) (by decide) rfl rfl (Nat.le_of_ble_eq_true rfl) ?_
  refine vx_aload_n (pc := 445) 2 dL_law_445 rfl rfl ?_
  refine vl_arg (pc := 446) (i := i) (rs := [(1, .ref (g.1 0)), (2, .ref (g.1 143))]) 1 (by decide) rfl (by omega) hL dL_law_446 dL_law_447 dL_law_448 dL_law_449 dL_law_450 ?_
  refine vl_arg (pc := 451) (i := i) (rs := [(1, .ref (g.1 0)), (2, .ref (g.1 143))]) 2 (by decide) rfl (by omega) hL dL_law_451 dL_law_452 dL_law_453 dL_law_454 dL_law_455 ?_
  refine vl_call (pc := 456) (q := 143) (ρ1 := (some (.int r), σ2)) [.int (xs (i + 1)), .int (xs (i + 2))] dL_law_456 (s_X9_next l g kd_143 h2) cw_X9_next ml_L_49 kd_143 rfl (by decide) (by decide) rfl rfl (Nat.le_of_ble_eq_true rfl) ?_
  refine vx_icmp_eq (pc := 459) 1418 dL_law_459 (by decide) (fun _ => ?_) (fun c => absurd rfl c)
  exact kk σ2 hR2
set_option maxRecDepth 20000 in
set_option maxHeartbeats 4000000 in
theorem lc_ratio (l : Launch) (g : GG) {b L i : Nat} {xs : Nat → Int32} {σ : SS} {Rel : SS → Prop} (hp : pc_ratio Rel) (hR : Rel σ) (hi : i + 6 ≤ L) (hL : L ≤ 3072) (kk : ∀ σ', Rel σ' → VL l g b L xs 1418 [(0, .ref b), (1, .ref (g.1 0)), (2, .ref (g.1 143)), (3, .int (nI i))] [] σ') : VL l g b L xs 464 [(0, .ref b), (1, .ref (g.1 0)), (2, .ref (g.1 143)), (3, .int (nI i))] [] σ := by
  obtain ⟨r, σ1, σ2, h1, h2, hR2⟩ := hp σ (xs (i + 1)) (xs (i + 2)) hR
  refine vx_aload_n (pc := 464) 1 dL_law_464 rfl rfl ?_
  refine vl_arg (pc := 465) (i := i) (rs := [(1, .ref (g.1 0)), (2, .ref (g.1 143))]) 1 (by decide) rfl (by omega) hL dL_law_465 dL_law_466 dL_law_467 dL_law_468 dL_law_469 ?_
  refine vl_arg (pc := 470) (i := i) (rs := [(1, .ref (g.1 0)), (2, .ref (g.1 143))]) 2 (by decide) rfl (by omega) hL dL_law_470 dL_law_471 dL_law_472 dL_law_473 dL_law_474 ?_
  refine vl_call (pc := 475) (q := 0) (ρ1 := (some (.long r), σ1)) [.int (xs (i + 1)), .int (xs (i + 2))] dL_law_475 (s_X8_ratio l g kd_0 h1) cw_X8_ratio ml_L_50 kd_0 rfl (by decide) (by decide) rfl rfl (Nat.le_of_ble_eq_true rfl) ?_
  refine vx_aload_n (pc := 478) 2 dL_law_478 rfl rfl ?_
  refine vl_arg (pc := 479) (i := i) (rs := [(1, .ref (g.1 0)), (2, .ref (g.1 143))]) 1 (by decide) rfl (by omega) hL dL_law_479 dL_law_480 dL_law_481 dL_law_482 dL_law_483 ?_
  refine vl_arg (pc := 484) (i := i) (rs := [(1, .ref (g.1 0)), (2, .ref (g.1 143))]) 2 (by decide) rfl (by omega) hL dL_law_484 dL_law_485 dL_law_486 dL_law_487 dL_law_488 ?_
  refine vl_call (pc := 489) (q := 143) (ρ1 := (some (.long r), σ2)) [.int (xs (i + 1)), .int (xs (i + 2))] dL_law_489 (s_X9_ratio l g kd_143 h2) cw_X9_ratio ml_L_54 kd_143 rfl (by decide) (by decide) rfl rfl (Nat.le_of_ble_eq_true rfl) ?_
  refine vx_lcmp (pc := 492) dL_law_492 ?_
  refine vx_if_eq (pc := 493) 1418 dL_law_493 (by decide) (fun _ => ?_) (fun c => absurd (lcmp_self r) c)
  exact kk σ2 hR2
set_option maxRecDepth 20000 in
set_option maxHeartbeats 4000000 in
theorem lc_wears (l : Launch) (g : GG) {b L i : Nat} {xs : Nat → Int32} {σ : SS} {Rel : SS → Prop} (hp : pc_wears Rel) (hR : Rel σ) (hi : i + 6 ≤ L) (hL : L ≤ 3072) (kk : ∀ σ', Rel σ' → VL l g b L xs 1418 [(0, .ref b), (1, .ref (g.1 0)), (2, .ref (g.1 143)), (3, .int (nI i))] [] σ') : VL l g b L xs 498 [(0, .ref b), (1, .ref (g.1 0)), (2, .ref (g.1 143)), (3, .int (nI i))] [] σ := by
  obtain ⟨r, σ1, σ2, h1, h2, hR2⟩ := hp σ (xs (i + 1)) hR
  refine vx_aload_n (pc := 498) 1 dL_law_498 rfl rfl ?_
  refine vl_arg (pc := 499) (i := i) (rs := [(1, .ref (g.1 0)), (2, .ref (g.1 143))]) 1 (by decide) rfl (by omega) hL dL_law_499 dL_law_500 dL_law_501 dL_law_502 dL_law_503 ?_
  refine vl_call (pc := 504) (q := 0) (ρ1 := (some (.int r), σ1)) [.int (xs (i + 1))] dL_law_504 (s_X8_wears l g kd_0 h1) cw_X8_wears ml_L_55 kd_0 rfl (by decide) (by decide) rfl rfl (Nat.le_of_ble_eq_true rfl) ?_
  refine vx_aload_n (pc := 507) 2 dL_law_507 rfl rfl ?_
  refine vl_arg (pc := 508) (i := i) (rs := [(1, .ref (g.1 0)), (2, .ref (g.1 143))]) 1 (by decide) rfl (by omega) hL dL_law_508 dL_law_509 dL_law_510 dL_law_511 dL_law_512 ?_
  refine vl_call (pc := 513) (q := 143) (ρ1 := (some (.int r), σ2)) [.int (xs (i + 1))] dL_law_513 (s_X9_wears l g kd_143 h2) cw_X9_wears ml_L_58 kd_143 rfl (by decide) (by decide) rfl rfl (Nat.le_of_ble_eq_true rfl) ?_
  refine vx_icmp_eq (pc := 516) 1418 dL_law_516 (by decide) (fun _ => ?_) (fun c => absurd rfl c)
  exact kk σ2 hR2
set_option maxRecDepth 20000 in
set_option maxHeartbeats 4000000 in
theorem lc_tooth (l : Launch) (g : GG) {b L i : Nat} {xs : Nat → Int32} {σ : SS} {Rel : SS → Prop} (hp : pc_tooth Rel) (hR : Rel σ) (hi : i + 6 ≤ L) (hL : L ≤ 3072) (kk : ∀ σ', Rel σ' → VL l g b L xs 1418 [(0, .ref b), (1, .ref (g.1 0)), (2, .ref (g.1 143)), (3, .int (nI i))] [] σ') : VL l g b L xs 521 [(0, .ref b), (1, .ref (g.1 0)), (2, .ref (g.1 143)), (3, .int (nI i))] [] σ := by
  obtain ⟨r, σ1, σ2, h1, h2, hR2⟩ := hp σ (xs (i + 1)) (xs (i + 2)) hR
  refine vx_aload_n (pc := 521) 1 dL_law_521 rfl rfl ?_
  refine vl_arg (pc := 522) (i := i) (rs := [(1, .ref (g.1 0)), (2, .ref (g.1 143))]) 1 (by decide) rfl (by omega) hL dL_law_522 dL_law_523 dL_law_524 dL_law_525 dL_law_526 ?_
  refine vl_arg (pc := 527) (i := i) (rs := [(1, .ref (g.1 0)), (2, .ref (g.1 143))]) 2 (by decide) rfl (by omega) hL dL_law_527 dL_law_528 dL_law_529 dL_law_530 dL_law_531 ?_
  refine vl_call (pc := 532) (q := 0) (ρ1 := (some (.int r), σ1)) [.int (xs (i + 1)), .int (xs (i + 2))] dL_law_532 (s_X8_tooth l g kd_0 h1) cw_X8_tooth ml_L_59 kd_0 rfl (by decide) (by decide) rfl rfl (Nat.le_of_ble_eq_true rfl) ?_
  refine vx_aload_n (pc := 535) 2 dL_law_535 rfl rfl ?_
  refine vl_arg (pc := 536) (i := i) (rs := [(1, .ref (g.1 0)), (2, .ref (g.1 143))]) 1 (by decide) rfl (by omega) hL dL_law_536 dL_law_537 dL_law_538 dL_law_539 dL_law_540 ?_
  refine vl_arg (pc := 541) (i := i) (rs := [(1, .ref (g.1 0)), (2, .ref (g.1 143))]) 2 (by decide) rfl (by omega) hL dL_law_541 dL_law_542 dL_law_543 dL_law_544 dL_law_545 ?_
  refine vl_call (pc := 546) (q := 143) (ρ1 := (some (.int r), σ2)) [.int (xs (i + 1)), .int (xs (i + 2))] dL_law_546 (s_X9_tooth l g kd_143 h2) cw_X9_tooth ml_L_62 kd_143 rfl (by decide) (by decide) rfl rfl (Nat.le_of_ble_eq_true rfl) ?_
  refine vx_icmp_eq (pc := 549) 1418 dL_law_549 (by decide) (fun _ => ?_) (fun c => absurd rfl c)
  exact kk σ2 hR2
set_option maxRecDepth 20000 in
set_option maxHeartbeats 4000000 in
theorem lc_drawing (l : Launch) (g : GG) {b L i : Nat} {xs : Nat → Int32} {σ : SS} {Rel : SS → Prop} (hp : pc_drawing Rel) (hR : Rel σ) (hi : i + 6 ≤ L) (hL : L ≤ 3072) (kk : ∀ σ', Rel σ' → VL l g b L xs 1418 [(0, .ref b), (1, .ref (g.1 0)), (2, .ref (g.1 143)), (3, .int (nI i))] [] σ') : VL l g b L xs 554 [(0, .ref b), (1, .ref (g.1 0)), (2, .ref (g.1 143)), (3, .int (nI i))] [] σ := by
  obtain ⟨r, σ1, σ2, h1, h2, hR2⟩ := hp σ (xs (i + 1)) (xs (i + 2)) hR
  refine vx_aload_n (pc := 554) 1 dL_law_554 rfl rfl ?_
  refine vl_arg (pc := 555) (i := i) (rs := [(1, .ref (g.1 0)), (2, .ref (g.1 143))]) 1 (by decide) rfl (by omega) hL dL_law_555 dL_law_556 dL_law_557 dL_law_558 dL_law_559 ?_
  refine vl_arg (pc := 560) (i := i) (rs := [(1, .ref (g.1 0)), (2, .ref (g.1 143))]) 2 (by decide) rfl (by omega) hL dL_law_560 dL_law_561 dL_law_562 dL_law_563 dL_law_564 ?_
  refine vl_call (pc := 565) (q := 0) (ρ1 := (some (.int r), σ1)) [.int (xs (i + 1)), .int (xs (i + 2))] dL_law_565 (s_X8_drawing l g kd_0 h1) cw_X8_drawing ml_L_63 kd_0 rfl (by decide) (by decide) rfl rfl (Nat.le_of_ble_eq_true rfl) ?_
  refine vx_aload_n (pc := 568) 2 dL_law_568 rfl rfl ?_
  refine vl_arg (pc := 569) (i := i) (rs := [(1, .ref (g.1 0)), (2, .ref (g.1 143))]) 1 (by decide) rfl (by omega) hL dL_law_569 dL_law_570 dL_law_571 dL_law_572 dL_law_573 ?_
  refine vl_arg (pc := 574) (i := i) (rs := [(1, .ref (g.1 0)), (2, .ref (g.1 143))]) 2 (by decide) rfl (by omega) hL dL_law_574 dL_law_575 dL_law_576 dL_law_577 dL_law_578 ?_
  refine vl_call (pc := 579) (q := 143) (ρ1 := (some (.int r), σ2)) [.int (xs (i + 1)), .int (xs (i + 2))] dL_law_579 (s_X9_drawing l g kd_143 h2) cw_X9_drawing ml_L_66 kd_143 rfl (by decide) (by decide) rfl rfl (Nat.le_of_ble_eq_true rfl) ?_
  refine vx_icmp_eq (pc := 582) 1418 dL_law_582 (by decide) (fun _ => ?_) (fun c => absurd rfl c)
  exact kk σ2 hR2
set_option maxRecDepth 20000 in
set_option maxHeartbeats 4000000 in
theorem lc_arc (l : Launch) (g : GG) {b L i : Nat} {xs : Nat → Int32} {σ : SS} {Rel : SS → Prop} (hp : pc_arc Rel) (hR : Rel σ) (hi : i + 6 ≤ L) (hL : L ≤ 3072) (kk : ∀ σ', Rel σ' → VL l g b L xs 1418 [(0, .ref b), (1, .ref (g.1 0)), (2, .ref (g.1 143)), (3, .int (nI i))] [] σ') : VL l g b L xs 587 [(0, .ref b), (1, .ref (g.1 0)), (2, .ref (g.1 143)), (3, .int (nI i))] [] σ := by
  obtain ⟨r, σ1, σ2, h1, h2, hR2⟩ := hp σ (xs (i + 1)) (xs (i + 2)) hR
  refine vx_aload_n (pc := 587) 1 dL_law_587 rfl rfl ?_
  refine vl_arg (pc := 588) (i := i) (rs := [(1, .ref (g.1 0)), (2, .ref (g.1 143))]) 1 (by decide) rfl (by omega) hL dL_law_588 dL_law_589 dL_law_590 dL_law_591 dL_law_592 ?_
  refine vl_arg (pc := 593) (i := i) (rs := [(1, .ref (g.1 0)), (2, .ref (g.1 143))]) 2 (by decide) rfl (by omega) hL dL_law_593 dL_law_594 dL_law_595 dL_law_596 dL_law_597 ?_
  refine vl_call (pc := 598) (q := 0) (ρ1 := (some (.int r), σ1)) [.int (xs (i + 1)), .int (xs (i + 2))] dL_law_598 (s_X8_arc l g kd_0 h1) cw_X8_arc ml_L_67 kd_0 rfl (by decide) (by decide) rfl rfl (Nat.le_of_ble_eq_true rfl) ?_
  refine vx_aload_n (pc := 601) 2 dL_law_601 rfl rfl ?_
  refine vl_arg (pc := 602) (i := i) (rs := [(1, .ref (g.1 0)), (2, .ref (g.1 143))]) 1 (by decide) rfl (by omega) hL dL_law_602 dL_law_603 dL_law_604 dL_law_605 dL_law_606 ?_
  refine vl_arg (pc := 607) (i := i) (rs := [(1, .ref (g.1 0)), (2, .ref (g.1 143))]) 2 (by decide) rfl (by omega) hL dL_law_607 dL_law_608 dL_law_609 dL_law_610 dL_law_611 ?_
  refine vl_call (pc := 612) (q := 143) (ρ1 := (some (.int r), σ2)) [.int (xs (i + 1)), .int (xs (i + 2))] dL_law_612 (s_X9_arc l g kd_143 h2) cw_X9_arc ml_L_70 kd_143 rfl (by decide) (by decide) rfl rfl (Nat.le_of_ble_eq_true rfl) ?_
  refine vx_icmp_eq (pc := 615) 1418 dL_law_615 (by decide) (fun _ => ?_) (fun c => absurd rfl c)
  exact kk σ2 hR2
set_option maxRecDepth 20000 in
set_option maxHeartbeats 4000000 in
theorem lc_crosses (l : Launch) (g : GG) {b L i : Nat} {xs : Nat → Int32} {σ : SS} {Rel : SS → Prop} (hp : pc_crosses Rel) (hR : Rel σ) (hi : i + 6 ≤ L) (hL : L ≤ 3072) (kk : ∀ σ', Rel σ' → VL l g b L xs 1418 [(0, .ref b), (1, .ref (g.1 0)), (2, .ref (g.1 143)), (3, .int (nI i))] [] σ') : VL l g b L xs 620 [(0, .ref b), (1, .ref (g.1 0)), (2, .ref (g.1 143)), (3, .int (nI i))] [] σ := by
  obtain ⟨r, σ1, σ2, h1, h2, hR2⟩ := hp σ (xs (i + 1)) (xs (i + 2)) hR
  refine vx_aload_n (pc := 620) 1 dL_law_620 rfl rfl ?_
  refine vl_arg (pc := 621) (i := i) (rs := [(1, .ref (g.1 0)), (2, .ref (g.1 143))]) 1 (by decide) rfl (by omega) hL dL_law_621 dL_law_622 dL_law_623 dL_law_624 dL_law_625 ?_
  refine vl_arg (pc := 626) (i := i) (rs := [(1, .ref (g.1 0)), (2, .ref (g.1 143))]) 2 (by decide) rfl (by omega) hL dL_law_626 dL_law_627 dL_law_628 dL_law_629 dL_law_630 ?_
  refine vl_call (pc := 631) (q := 0) (ρ1 := (some (.int r), σ1)) [.int (xs (i + 1)), .int (xs (i + 2))] dL_law_631 (s_X8_crosses l g kd_0 h1) cw_X8_crosses ml_L_71 kd_0 rfl (by decide) (by decide) rfl rfl (Nat.le_of_ble_eq_true rfl) ?_
  refine vx_aload_n (pc := 634) 2 dL_law_634 rfl rfl ?_
  refine vl_arg (pc := 635) (i := i) (rs := [(1, .ref (g.1 0)), (2, .ref (g.1 143))]) 1 (by decide) rfl (by omega) hL dL_law_635 dL_law_636 dL_law_637 dL_law_638 dL_law_639 ?_
  refine vl_arg (pc := 640) (i := i) (rs := [(1, .ref (g.1 0)), (2, .ref (g.1 143))]) 2 (by decide) rfl (by omega) hL dL_law_640 dL_law_641 dL_law_642 dL_law_643 dL_law_644 ?_
  refine vl_call (pc := 645) (q := 143) (ρ1 := (some (.int r), σ2)) [.int (xs (i + 1)), .int (xs (i + 2))] dL_law_645 (s_X9_crosses l g kd_143 h2) cw_X9_crosses ml_L_74 kd_143 rfl (by decide) (by decide) rfl rfl (Nat.le_of_ble_eq_true rfl) ?_
  refine vx_icmp_eq (pc := 648) 1418 dL_law_648 (by decide) (fun _ => ?_) (fun c => absurd rfl c)
  exact kk σ2 hR2
set_option maxRecDepth 20000 in
set_option maxHeartbeats 4000000 in
theorem lc_behind (l : Launch) (g : GG) {b L i : Nat} {xs : Nat → Int32} {σ : SS} {Rel : SS → Prop} (hp : pc_behind Rel) (hR : Rel σ) (hi : i + 6 ≤ L) (hL : L ≤ 3072) (kk : ∀ σ', Rel σ' → VL l g b L xs 1418 [(0, .ref b), (1, .ref (g.1 0)), (2, .ref (g.1 143)), (3, .int (nI i))] [] σ') : VL l g b L xs 653 [(0, .ref b), (1, .ref (g.1 0)), (2, .ref (g.1 143)), (3, .int (nI i))] [] σ := by
  obtain ⟨r, σ1, σ2, h1, h2, hR2⟩ := hp σ (xs (i + 1)) (xs (i + 2)) hR
  refine vx_aload_n (pc := 653) 1 dL_law_653 rfl rfl ?_
  refine vl_arg (pc := 654) (i := i) (rs := [(1, .ref (g.1 0)), (2, .ref (g.1 143))]) 1 (by decide) rfl (by omega) hL dL_law_654 dL_law_655 dL_law_656 dL_law_657 dL_law_658 ?_
  refine vl_arg (pc := 659) (i := i) (rs := [(1, .ref (g.1 0)), (2, .ref (g.1 143))]) 2 (by decide) rfl (by omega) hL dL_law_659 dL_law_660 dL_law_661 dL_law_662 dL_law_663 ?_
  refine vl_call (pc := 664) (q := 0) (ρ1 := (some (.int r), σ1)) [.int (xs (i + 1)), .int (xs (i + 2))] dL_law_664 (s_X8_behind l g kd_0 h1) cw_X8_behind ml_L_75 kd_0 rfl (by decide) (by decide) rfl rfl (Nat.le_of_ble_eq_true rfl) ?_
  refine vx_aload_n (pc := 667) 2 dL_law_667 rfl rfl ?_
  refine vl_arg (pc := 668) (i := i) (rs := [(1, .ref (g.1 0)), (2, .ref (g.1 143))]) 1 (by decide) rfl (by omega) hL dL_law_668 dL_law_669 dL_law_670 dL_law_671 dL_law_672 ?_
  refine vl_arg (pc := 673) (i := i) (rs := [(1, .ref (g.1 0)), (2, .ref (g.1 143))]) 2 (by decide) rfl (by omega) hL dL_law_673 dL_law_674 dL_law_675 dL_law_676 dL_law_677 ?_
  refine vl_call (pc := 678) (q := 143) (ρ1 := (some (.int r), σ2)) [.int (xs (i + 1)), .int (xs (i + 2))] dL_law_678 (s_X9_behind l g kd_143 h2) cw_X9_behind ml_L_78 kd_143 rfl (by decide) (by decide) rfl rfl (Nat.le_of_ble_eq_true rfl) ?_
  refine vx_icmp_eq (pc := 681) 1418 dL_law_681 (by decide) (fun _ => ?_) (fun c => absurd rfl c)
  exact kk σ2 hR2
set_option maxRecDepth 20000 in
set_option maxHeartbeats 4000000 in
theorem lc_between (l : Launch) (g : GG) {b L i : Nat} {xs : Nat → Int32} {σ : SS} {Rel : SS → Prop} (hp : pc_between Rel) (hR : Rel σ) (hi : i + 6 ≤ L) (hL : L ≤ 3072) (kk : ∀ σ', Rel σ' → VL l g b L xs 1418 [(0, .ref b), (1, .ref (g.1 0)), (2, .ref (g.1 143)), (3, .int (nI i))] [] σ') : VL l g b L xs 686 [(0, .ref b), (1, .ref (g.1 0)), (2, .ref (g.1 143)), (3, .int (nI i))] [] σ := by
  obtain ⟨r, σ1, σ2, h1, h2, hR2⟩ := hp σ (xs (i + 1)) (xs (i + 2)) hR
  refine vx_aload_n (pc := 686) 1 dL_law_686 rfl rfl ?_
  refine vl_arg (pc := 687) (i := i) (rs := [(1, .ref (g.1 0)), (2, .ref (g.1 143))]) 1 (by decide) rfl (by omega) hL dL_law_687 dL_law_688 dL_law_689 dL_law_690 dL_law_691 ?_
  refine vl_arg (pc := 692) (i := i) (rs := [(1, .ref (g.1 0)), (2, .ref (g.1 143))]) 2 (by decide) rfl (by omega) hL dL_law_692 dL_law_693 dL_law_694 dL_law_695 dL_law_696 ?_
  refine vl_call (pc := 697) (q := 0) (ρ1 := (some (.int r), σ1)) [.int (xs (i + 1)), .int (xs (i + 2))] dL_law_697 (s_X8_between l g kd_0 h1) cw_X8_between ml_L_79 kd_0 rfl (by decide) (by decide) rfl rfl (Nat.le_of_ble_eq_true rfl) ?_
  refine vx_aload_n (pc := 700) 2 dL_law_700 rfl rfl ?_
  refine vl_arg (pc := 701) (i := i) (rs := [(1, .ref (g.1 0)), (2, .ref (g.1 143))]) 1 (by decide) rfl (by omega) hL dL_law_701 dL_law_702 dL_law_703 dL_law_704 dL_law_705 ?_
  refine vl_arg (pc := 706) (i := i) (rs := [(1, .ref (g.1 0)), (2, .ref (g.1 143))]) 2 (by decide) rfl (by omega) hL dL_law_706 dL_law_707 dL_law_708 dL_law_709 dL_law_710 ?_
  refine vl_call (pc := 711) (q := 143) (ρ1 := (some (.int r), σ2)) [.int (xs (i + 1)), .int (xs (i + 2))] dL_law_711 (s_X9_between l g kd_143 h2) cw_X9_between ml_L_82 kd_143 rfl (by decide) (by decide) rfl rfl (Nat.le_of_ble_eq_true rfl) ?_
  refine vx_icmp_eq (pc := 714) 1418 dL_law_714 (by decide) (fun _ => ?_) (fun c => absurd rfl c)
  exact kk σ2 hR2
set_option maxRecDepth 20000 in
set_option maxHeartbeats 4000000 in
theorem lc_mirror (l : Launch) (g : GG) {b L i : Nat} {xs : Nat → Int32} {σ : SS} {Rel : SS → Prop} (hp : pc_mirror Rel) (hR : Rel σ) (hi : i + 6 ≤ L) (hL : L ≤ 3072) (kk : ∀ σ', Rel σ' → VL l g b L xs 1418 [(0, .ref b), (1, .ref (g.1 0)), (2, .ref (g.1 143)), (3, .int (nI i))] [] σ') : VL l g b L xs 719 [(0, .ref b), (1, .ref (g.1 0)), (2, .ref (g.1 143)), (3, .int (nI i))] [] σ := by
  obtain ⟨r, σ1, σ2, h1, h2, hR2⟩ := hp σ (xs (i + 1)) (xs (i + 2)) (xs (i + 3)) hR
  refine vx_aload_n (pc := 719) 1 dL_law_719 rfl rfl ?_
  refine vl_arg (pc := 720) (i := i) (rs := [(1, .ref (g.1 0)), (2, .ref (g.1 143))]) 1 (by decide) rfl (by omega) hL dL_law_720 dL_law_721 dL_law_722 dL_law_723 dL_law_724 ?_
  refine vl_arg (pc := 725) (i := i) (rs := [(1, .ref (g.1 0)), (2, .ref (g.1 143))]) 2 (by decide) rfl (by omega) hL dL_law_725 dL_law_726 dL_law_727 dL_law_728 dL_law_729 ?_
  refine vl_arg (pc := 730) (i := i) (rs := [(1, .ref (g.1 0)), (2, .ref (g.1 143))]) 3 (by decide) rfl (by omega) hL dL_law_730 dL_law_731 dL_law_732 dL_law_733 dL_law_734 ?_
  refine vl_call (pc := 735) (q := 0) (ρ1 := (some (.int r), σ1)) [.int (xs (i + 1)), .int (xs (i + 2)), .int (xs (i + 3))] dL_law_735 (s_X8_mirror l g kd_0 h1) cw_X8_mirror ml_L_83 kd_0 rfl (by decide) (by decide) rfl rfl (Nat.le_of_ble_eq_true rfl) ?_
  refine vx_aload_n (pc := 738) 2 dL_law_738 rfl rfl ?_
  refine vl_arg (pc := 739) (i := i) (rs := [(1, .ref (g.1 0)), (2, .ref (g.1 143))]) 1 (by decide) rfl (by omega) hL dL_law_739 dL_law_740 dL_law_741 dL_law_742 dL_law_743 ?_
  refine vl_arg (pc := 744) (i := i) (rs := [(1, .ref (g.1 0)), (2, .ref (g.1 143))]) 2 (by decide) rfl (by omega) hL dL_law_744 dL_law_745 dL_law_746 dL_law_747 dL_law_748 ?_
  refine vl_arg (pc := 749) (i := i) (rs := [(1, .ref (g.1 0)), (2, .ref (g.1 143))]) 3 (by decide) rfl (by omega) hL dL_law_749 dL_law_750 dL_law_751 dL_law_752 dL_law_753 ?_
  refine vl_call (pc := 754) (q := 143) (ρ1 := (some (.int r), σ2)) [.int (xs (i + 1)), .int (xs (i + 2)), .int (xs (i + 3))] dL_law_754 (s_X9_mirror l g kd_143 h2) cw_X9_mirror ml_L_86 kd_143 rfl (by decide) (by decide) rfl rfl (Nat.le_of_ble_eq_true rfl) ?_
  refine vx_icmp_eq (pc := 757) 1418 dL_law_757 (by decide) (fun _ => ?_) (fun c => absurd rfl c)
  exact kk σ2 hR2
set_option maxRecDepth 20000 in
set_option maxHeartbeats 4000000 in
theorem lc_full (l : Launch) (g : GG) {b L i : Nat} {xs : Nat → Int32} {σ : SS} {Rel : SS → Prop} (hp : pc_full Rel) (hR : Rel σ) (hi : i + 6 ≤ L) (hL : L ≤ 3072) (kk : ∀ σ', Rel σ' → VL l g b L xs 1418 [(0, .ref b), (1, .ref (g.1 0)), (2, .ref (g.1 143)), (3, .int (nI i))] [] σ') : VL l g b L xs 762 [(0, .ref b), (1, .ref (g.1 0)), (2, .ref (g.1 143)), (3, .int (nI i))] [] σ := by
  obtain ⟨r, σ1, σ2, h1, h2, hR2⟩ := hp σ hR
  refine vx_aload_n (pc := 762) 1 dL_law_762 rfl rfl ?_
  refine vl_call (pc := 763) (q := 0) (ρ1 := (some (.int r), σ1)) [] dL_law_763 (s_X8_full l g kd_0 h1) cw_X8_full ml_L_87 kd_0 rfl (by decide) (by decide) rfl rfl (Nat.le_of_ble_eq_true rfl) ?_
  refine vx_aload_n (pc := 766) 2 dL_law_766 rfl rfl ?_
  refine vl_call (pc := 767) (q := 143) (ρ1 := (some (.int r), σ2)) [] dL_law_767 (s_X9_full l g kd_143 h2) cw_X9_full ml_L_90 kd_143 rfl (by decide) (by decide) rfl rfl (Nat.le_of_ble_eq_true rfl) ?_
  refine vx_icmp_eq (pc := 770) 1418 dL_law_770 (by decide) (fun _ => ?_) (fun c => absurd rfl c)
  exact kk σ2 hR2
set_option maxRecDepth 20000 in
set_option maxHeartbeats 4000000 in
theorem lc_odds (l : Launch) (g : GG) {b L i : Nat} {xs : Nat → Int32} {σ : SS} {Rel : SS → Prop} (hp : pc_odds Rel) (hR : Rel σ) (hi : i + 6 ≤ L) (hL : L ≤ 3072) (kk : ∀ σ', Rel σ' → VL l g b L xs 1418 [(0, .ref b), (1, .ref (g.1 0)), (2, .ref (g.1 143)), (3, .int (nI i))] [] σ') : VL l g b L xs 775 [(0, .ref b), (1, .ref (g.1 0)), (2, .ref (g.1 143)), (3, .int (nI i))] [] σ := by
  obtain ⟨r, σ1, σ2, h1, h2, hR2⟩ := hp σ (xs (i + 1)) (xs (i + 2)) hR
  refine vx_aload_n (pc := 775) 1 dL_law_775 rfl rfl ?_
  refine vl_arg (pc := 776) (i := i) (rs := [(1, .ref (g.1 0)), (2, .ref (g.1 143))]) 1 (by decide) rfl (by omega) hL dL_law_776 dL_law_777 dL_law_778 dL_law_779 dL_law_780 ?_
  refine vl_arg (pc := 781) (i := i) (rs := [(1, .ref (g.1 0)), (2, .ref (g.1 143))]) 2 (by decide) rfl (by omega) hL dL_law_781 dL_law_782 dL_law_783 dL_law_784 dL_law_785 ?_
  refine vl_call (pc := 786) (q := 0) (ρ1 := (some (.long r), σ1)) [.int (xs (i + 1)), .int (xs (i + 2))] dL_law_786 (s_X8_odds l g kd_0 h1) cw_X8_odds ml_L_91 kd_0 rfl (by decide) (by decide) rfl rfl (Nat.le_of_ble_eq_true rfl) ?_
  refine vx_aload_n (pc := 789) 2 dL_law_789 rfl rfl ?_
  refine vl_arg (pc := 790) (i := i) (rs := [(1, .ref (g.1 0)), (2, .ref (g.1 143))]) 1 (by decide) rfl (by omega) hL dL_law_790 dL_law_791 dL_law_792 dL_law_793 dL_law_794 ?_
  refine vl_arg (pc := 795) (i := i) (rs := [(1, .ref (g.1 0)), (2, .ref (g.1 143))]) 2 (by decide) rfl (by omega) hL dL_law_795 dL_law_796 dL_law_797 dL_law_798 dL_law_799 ?_
  refine vl_call (pc := 800) (q := 143) (ρ1 := (some (.long r), σ2)) [.int (xs (i + 1)), .int (xs (i + 2))] dL_law_800 (s_X9_odds l g kd_143 h2) cw_X9_odds ml_L_94 kd_143 rfl (by decide) (by decide) rfl rfl (Nat.le_of_ble_eq_true rfl) ?_
  refine vx_lcmp (pc := 803) dL_law_803 ?_
  refine vx_if_eq (pc := 804) 1418 dL_law_804 (by decide) (fun _ => ?_) (fun c => absurd (lcmp_self r) c)
  exact kk σ2 hR2
set_option maxRecDepth 20000 in
set_option maxHeartbeats 4000000 in
theorem lc_touch (l : Launch) (g : GG) {b L i : Nat} {xs : Nat → Int32} {σ : SS} {Rel : SS → Prop} (hp : pc_touch Rel) (hR : Rel σ) (hi : i + 6 ≤ L) (hL : L ≤ 3072) (kk : ∀ σ', Rel σ' → VL l g b L xs 1418 [(0, .ref b), (1, .ref (g.1 0)), (2, .ref (g.1 143)), (3, .int (nI i))] [] σ') : VL l g b L xs 809 [(0, .ref b), (1, .ref (g.1 0)), (2, .ref (g.1 143)), (3, .int (nI i))] [] σ := by
  obtain ⟨r, σ1, σ2, h1, h2, hR2⟩ := hp σ (xs (i + 1)) (xs (i + 2)) (xs (i + 3)) hR
  refine vx_aload_n (pc := 809) 1 dL_law_809 rfl rfl ?_
  refine vl_arg (pc := 810) (i := i) (rs := [(1, .ref (g.1 0)), (2, .ref (g.1 143))]) 1 (by decide) rfl (by omega) hL dL_law_810 dL_law_811 dL_law_812 dL_law_813 dL_law_814 ?_
  refine vl_arg (pc := 815) (i := i) (rs := [(1, .ref (g.1 0)), (2, .ref (g.1 143))]) 2 (by decide) rfl (by omega) hL dL_law_815 dL_law_816 dL_law_817 dL_law_818 dL_law_819 ?_
  refine vl_arg (pc := 820) (i := i) (rs := [(1, .ref (g.1 0)), (2, .ref (g.1 143))]) 3 (by decide) rfl (by omega) hL dL_law_820 dL_law_821 dL_law_822 dL_law_823 dL_law_824 ?_
  refine vl_call (pc := 825) (q := 0) (ρ1 := (some (.int r), σ1)) [.int (xs (i + 1)), .int (xs (i + 2)), .int (xs (i + 3))] dL_law_825 (s_X8_touch l g kd_0 h1) cw_X8_touch ml_L_95 kd_0 rfl (by decide) (by decide) rfl rfl (Nat.le_of_ble_eq_true rfl) ?_
  refine vx_aload_n (pc := 828) 2 dL_law_828 rfl rfl ?_
  refine vl_arg (pc := 829) (i := i) (rs := [(1, .ref (g.1 0)), (2, .ref (g.1 143))]) 1 (by decide) rfl (by omega) hL dL_law_829 dL_law_830 dL_law_831 dL_law_832 dL_law_833 ?_
  refine vl_arg (pc := 834) (i := i) (rs := [(1, .ref (g.1 0)), (2, .ref (g.1 143))]) 2 (by decide) rfl (by omega) hL dL_law_834 dL_law_835 dL_law_836 dL_law_837 dL_law_838 ?_
  refine vl_arg (pc := 839) (i := i) (rs := [(1, .ref (g.1 0)), (2, .ref (g.1 143))]) 3 (by decide) rfl (by omega) hL dL_law_839 dL_law_840 dL_law_841 dL_law_842 dL_law_843 ?_
  refine vl_call (pc := 844) (q := 143) (ρ1 := (some (.int r), σ2)) [.int (xs (i + 1)), .int (xs (i + 2)), .int (xs (i + 3))] dL_law_844 (s_X9_touch l g kd_143 h2) cw_X9_touch ml_L_98 kd_143 rfl (by decide) (by decide) rfl rfl (Nat.le_of_ble_eq_true rfl) ?_
  refine vx_icmp_eq (pc := 847) 1418 dL_law_847 (by decide) (fun _ => ?_) (fun c => absurd rfl c)
  exact kk σ2 hR2
set_option maxRecDepth 20000 in
set_option maxHeartbeats 4000000 in
theorem lc_meet (l : Launch) (g : GG) {b L i : Nat} {xs : Nat → Int32} {σ : SS} {Rel : SS → Prop} (hp : pc_meet Rel) (hR : Rel σ) (hi : i + 6 ≤ L) (hL : L ≤ 3072) (kk : ∀ σ', Rel σ' → VL l g b L xs 1418 [(0, .ref b), (1, .ref (g.1 0)), (2, .ref (g.1 143)), (3, .int (nI i))] [] σ') : VL l g b L xs 852 [(0, .ref b), (1, .ref (g.1 0)), (2, .ref (g.1 143)), (3, .int (nI i))] [] σ := by
  obtain ⟨r, σ1, σ2, h1, h2, hR2⟩ := hp σ (xs (i + 1)) (xs (i + 2)) hR
  refine vx_aload_n (pc := 852) 1 dL_law_852 rfl rfl ?_
  refine vl_arg (pc := 853) (i := i) (rs := [(1, .ref (g.1 0)), (2, .ref (g.1 143))]) 1 (by decide) rfl (by omega) hL dL_law_853 dL_law_854 dL_law_855 dL_law_856 dL_law_857 ?_
  refine vl_arg (pc := 858) (i := i) (rs := [(1, .ref (g.1 0)), (2, .ref (g.1 143))]) 2 (by decide) rfl (by omega) hL dL_law_858 dL_law_859 dL_law_860 dL_law_861 dL_law_862 ?_
  refine vl_call (pc := 863) (q := 0) (ρ1 := (some (.int r), σ1)) [.int (xs (i + 1)), .int (xs (i + 2))] dL_law_863 (s_X8_meet l g kd_0 h1) cw_X8_meet ml_L_99 kd_0 rfl (by decide) (by decide) rfl rfl (Nat.le_of_ble_eq_true rfl) ?_
  refine vx_aload_n (pc := 866) 2 dL_law_866 rfl rfl ?_
  refine vl_arg (pc := 867) (i := i) (rs := [(1, .ref (g.1 0)), (2, .ref (g.1 143))]) 1 (by decide) rfl (by omega) hL dL_law_867 dL_law_868 dL_law_869 dL_law_870 dL_law_871 ?_
  refine vl_arg (pc := 872) (i := i) (rs := [(1, .ref (g.1 0)), (2, .ref (g.1 143))]) 2 (by decide) rfl (by omega) hL dL_law_872 dL_law_873 dL_law_874 dL_law_875 dL_law_876 ?_
  refine vl_call (pc := 877) (q := 143) (ρ1 := (some (.int r), σ2)) [.int (xs (i + 1)), .int (xs (i + 2))] dL_law_877 (s_X9_meet l g kd_143 h2) cw_X9_meet ml_L_102 kd_143 rfl (by decide) (by decide) rfl rfl (Nat.le_of_ble_eq_true rfl) ?_
  refine vx_icmp_eq (pc := 880) 1418 dL_law_880 (by decide) (fun _ => ?_) (fun c => absurd rfl c)
  exact kk σ2 hR2
set_option maxRecDepth 20000 in
set_option maxHeartbeats 4000000 in
theorem lc_crowd (l : Launch) (g : GG) {b L i : Nat} {xs : Nat → Int32} {σ : SS} {Rel : SS → Prop} (hp : pc_crowd Rel) (hR : Rel σ) (hi : i + 6 ≤ L) (hL : L ≤ 3072) (kk : ∀ σ', Rel σ' → VL l g b L xs 1418 [(0, .ref b), (1, .ref (g.1 0)), (2, .ref (g.1 143)), (3, .int (nI i))] [] σ') : VL l g b L xs 885 [(0, .ref b), (1, .ref (g.1 0)), (2, .ref (g.1 143)), (3, .int (nI i))] [] σ := by
  obtain ⟨r, σ1, σ2, h1, h2, hR2⟩ := hp σ (xs (i + 1)) (xs (i + 2)) (xs (i + 3)) hR
  refine vx_aload_n (pc := 885) 1 dL_law_885 rfl rfl ?_
  refine vl_arg (pc := 886) (i := i) (rs := [(1, .ref (g.1 0)), (2, .ref (g.1 143))]) 1 (by decide) rfl (by omega) hL dL_law_886 dL_law_887 dL_law_888 dL_law_889 dL_law_890 ?_
  refine vl_arg (pc := 891) (i := i) (rs := [(1, .ref (g.1 0)), (2, .ref (g.1 143))]) 2 (by decide) rfl (by omega) hL dL_law_891 dL_law_892 dL_law_893 dL_law_894 dL_law_895 ?_
  refine vl_arg (pc := 896) (i := i) (rs := [(1, .ref (g.1 0)), (2, .ref (g.1 143))]) 3 (by decide) rfl (by omega) hL dL_law_896 dL_law_897 dL_law_898 dL_law_899 dL_law_900 ?_
  refine vl_call (pc := 901) (q := 0) (ρ1 := (some (.int r), σ1)) [.int (xs (i + 1)), .int (xs (i + 2)), .int (xs (i + 3))] dL_law_901 (s_X8_crowd l g kd_0 h1) cw_X8_crowd ml_L_103 kd_0 rfl (by decide) (by decide) rfl rfl (Nat.le_of_ble_eq_true rfl) ?_
  refine vx_aload_n (pc := 904) 2 dL_law_904 rfl rfl ?_
  refine vl_arg (pc := 905) (i := i) (rs := [(1, .ref (g.1 0)), (2, .ref (g.1 143))]) 1 (by decide) rfl (by omega) hL dL_law_905 dL_law_906 dL_law_907 dL_law_908 dL_law_909 ?_
  refine vl_arg (pc := 910) (i := i) (rs := [(1, .ref (g.1 0)), (2, .ref (g.1 143))]) 2 (by decide) rfl (by omega) hL dL_law_910 dL_law_911 dL_law_912 dL_law_913 dL_law_914 ?_
  refine vl_arg (pc := 915) (i := i) (rs := [(1, .ref (g.1 0)), (2, .ref (g.1 143))]) 3 (by decide) rfl (by omega) hL dL_law_915 dL_law_916 dL_law_917 dL_law_918 dL_law_919 ?_
  refine vl_call (pc := 920) (q := 143) (ρ1 := (some (.int r), σ2)) [.int (xs (i + 1)), .int (xs (i + 2)), .int (xs (i + 3))] dL_law_920 (s_X9_crowd l g kd_143 h2) cw_X9_crowd ml_L_106 kd_143 rfl (by decide) (by decide) rfl rfl (Nat.le_of_ble_eq_true rfl) ?_
  refine vx_icmp_eq (pc := 923) 1418 dL_law_923 (by decide) (fun _ => ?_) (fun c => absurd rfl c)
  exact kk σ2 hR2
set_option maxRecDepth 20000 in
set_option maxHeartbeats 4000000 in
theorem lc_roll (l : Launch) (g : GG) {b L i : Nat} {xs : Nat → Int32} {σ : SS} {Rel : SS → Prop} (hp : pc_roll Rel) (hR : Rel σ) (hi : i + 6 ≤ L) (hL : L ≤ 3072) (kk : ∀ σ', Rel σ' → VL l g b L xs 1418 [(0, .ref b), (1, .ref (g.1 0)), (2, .ref (g.1 143)), (3, .int (nI i))] [] σ') : VL l g b L xs 928 [(0, .ref b), (1, .ref (g.1 0)), (2, .ref (g.1 143)), (3, .int (nI i))] [] σ := by
  obtain ⟨r, σ1, σ2, h1, h2, hR2⟩ := hp σ (xs (i + 1)) (xs (i + 2)) hR
  refine vx_aload_n (pc := 928) 1 dL_law_928 rfl rfl ?_
  refine vl_arg (pc := 929) (i := i) (rs := [(1, .ref (g.1 0)), (2, .ref (g.1 143))]) 1 (by decide) rfl (by omega) hL dL_law_929 dL_law_930 dL_law_931 dL_law_932 dL_law_933 ?_
  refine vl_arg (pc := 934) (i := i) (rs := [(1, .ref (g.1 0)), (2, .ref (g.1 143))]) 2 (by decide) rfl (by omega) hL dL_law_934 dL_law_935 dL_law_936 dL_law_937 dL_law_938 ?_
  refine vl_call (pc := 939) (q := 0) (ρ1 := (some (.int r), σ1)) [.int (xs (i + 1)), .int (xs (i + 2))] dL_law_939 (s_X8_roll l g kd_0 h1) cw_X8_roll ml_L_107 kd_0 rfl (by decide) (by decide) rfl rfl (Nat.le_of_ble_eq_true rfl) ?_
  refine vx_aload_n (pc := 942) 2 dL_law_942 rfl rfl ?_
  refine vl_arg (pc := 943) (i := i) (rs := [(1, .ref (g.1 0)), (2, .ref (g.1 143))]) 1 (by decide) rfl (by omega) hL dL_law_943 dL_law_944 dL_law_945 dL_law_946 dL_law_947 ?_
  refine vl_arg (pc := 948) (i := i) (rs := [(1, .ref (g.1 0)), (2, .ref (g.1 143))]) 2 (by decide) rfl (by omega) hL dL_law_948 dL_law_949 dL_law_950 dL_law_951 dL_law_952 ?_
  refine vl_call (pc := 953) (q := 143) (ρ1 := (some (.int r), σ2)) [.int (xs (i + 1)), .int (xs (i + 2))] dL_law_953 (s_X9_roll l g kd_143 h2) cw_X9_roll ml_L_110 kd_143 rfl (by decide) (by decide) rfl rfl (Nat.le_of_ble_eq_true rfl) ?_
  refine vx_icmp_eq (pc := 956) 1418 dL_law_956 (by decide) (fun _ => ?_) (fun c => absurd rfl c)
  exact kk σ2 hR2
set_option maxRecDepth 20000 in
set_option maxHeartbeats 4000000 in
theorem lc_inked (l : Launch) (g : GG) {b L i : Nat} {xs : Nat → Int32} {σ : SS} {Rel : SS → Prop} (hp : pc_inked Rel) (hR : Rel σ) (hi : i + 6 ≤ L) (hL : L ≤ 3072) (kk : ∀ σ', Rel σ' → VL l g b L xs 1418 [(0, .ref b), (1, .ref (g.1 0)), (2, .ref (g.1 143)), (3, .int (nI i))] [] σ') : VL l g b L xs 961 [(0, .ref b), (1, .ref (g.1 0)), (2, .ref (g.1 143)), (3, .int (nI i))] [] σ := by
  obtain ⟨r, σ1, σ2, h1, h2, hR2⟩ := hp σ (xs (i + 1)) hR
  refine vx_aload_n (pc := 961) 1 dL_law_961 rfl rfl ?_
  refine vl_arg (pc := 962) (i := i) (rs := [(1, .ref (g.1 0)), (2, .ref (g.1 143))]) 1 (by decide) rfl (by omega) hL dL_law_962 dL_law_963 dL_law_964 dL_law_965 dL_law_966 ?_
  refine vl_call (pc := 967) (q := 0) (ρ1 := (some (.int r), σ1)) [.int (xs (i + 1))] dL_law_967 (s_X8_inked l g kd_0 h1) cw_X8_inked ml_L_111 kd_0 rfl (by decide) (by decide) rfl rfl (Nat.le_of_ble_eq_true rfl) ?_
  refine vx_aload_n (pc := 970) 2 dL_law_970 rfl rfl ?_
  refine vl_arg (pc := 971) (i := i) (rs := [(1, .ref (g.1 0)), (2, .ref (g.1 143))]) 1 (by decide) rfl (by omega) hL dL_law_971 dL_law_972 dL_law_973 dL_law_974 dL_law_975 ?_
  refine vl_call (pc := 976) (q := 143) (ρ1 := (some (.int r), σ2)) [.int (xs (i + 1))] dL_law_976 (s_X9_inked l g kd_143 h2) cw_X9_inked ml_L_114 kd_143 rfl (by decide) (by decide) rfl rfl (Nat.le_of_ble_eq_true rfl) ?_
  refine vx_icmp_eq (pc := 979) 1418 dL_law_979 (by decide) (fun _ => ?_) (fun c => absurd rfl c)
  exact kk σ2 hR2
set_option maxRecDepth 20000 in
set_option maxHeartbeats 4000000 in
theorem lc_ahead (l : Launch) (g : GG) {b L i : Nat} {xs : Nat → Int32} {σ : SS} {Rel : SS → Prop} (hp : pc_ahead Rel) (hR : Rel σ) (hi : i + 6 ≤ L) (hL : L ≤ 3072) (kk : ∀ σ', Rel σ' → VL l g b L xs 1418 [(0, .ref b), (1, .ref (g.1 0)), (2, .ref (g.1 143)), (3, .int (nI i))] [] σ') : VL l g b L xs 984 [(0, .ref b), (1, .ref (g.1 0)), (2, .ref (g.1 143)), (3, .int (nI i))] [] σ := by
  obtain ⟨r, σ1, σ2, h1, h2, hR2⟩ := hp σ (xs (i + 1)) hR
  refine vx_aload_n (pc := 984) 1 dL_law_984 rfl rfl ?_
  refine vl_arg (pc := 985) (i := i) (rs := [(1, .ref (g.1 0)), (2, .ref (g.1 143))]) 1 (by decide) rfl (by omega) hL dL_law_985 dL_law_986 dL_law_987 dL_law_988 dL_law_989 ?_
  refine vl_call (pc := 990) (q := 0) (ρ1 := (some (.int r), σ1)) [.int (xs (i + 1))] dL_law_990 (s_X8_ahead l g kd_0 h1) cw_X8_ahead ml_L_115 kd_0 rfl (by decide) (by decide) rfl rfl (Nat.le_of_ble_eq_true rfl) ?_
  refine vx_aload_n (pc := 993) 2 dL_law_993 rfl rfl ?_
  refine vl_arg (pc := 994) (i := i) (rs := [(1, .ref (g.1 0)), (2, .ref (g.1 143))]) 1 (by decide) rfl (by omega) hL dL_law_994 dL_law_995 dL_law_996 dL_law_997 dL_law_998 ?_
  refine vl_call (pc := 999) (q := 143) (ρ1 := (some (.int r), σ2)) [.int (xs (i + 1))] dL_law_999 (s_X9_ahead l g kd_143 h2) cw_X9_ahead ml_L_118 kd_143 rfl (by decide) (by decide) rfl rfl (Nat.le_of_ble_eq_true rfl) ?_
  refine vx_icmp_eq (pc := 1002) 1418 dL_law_1002 (by decide) (fun _ => ?_) (fun c => absurd rfl c)
  exact kk σ2 hR2
set_option maxRecDepth 20000 in
set_option maxHeartbeats 4000000 in
theorem lc_fits (l : Launch) (g : GG) {b L i : Nat} {xs : Nat → Int32} {σ : SS} {Rel : SS → Prop} (hp : pc_fits Rel) (hR : Rel σ) (hi : i + 6 ≤ L) (hL : L ≤ 3072) (kk : ∀ σ', Rel σ' → VL l g b L xs 1418 [(0, .ref b), (1, .ref (g.1 0)), (2, .ref (g.1 143)), (3, .int (nI i))] [] σ') : VL l g b L xs 1007 [(0, .ref b), (1, .ref (g.1 0)), (2, .ref (g.1 143)), (3, .int (nI i))] [] σ := by
  obtain ⟨r, σ1, σ2, h1, h2, hR2⟩ := hp σ (xs (i + 1)) (xs (i + 2)) (xs (i + 3)) hR
  refine vx_aload_n (pc := 1007) 1 dL_law_1007 rfl rfl ?_
  refine vl_arg (pc := 1008) (i := i) (rs := [(1, .ref (g.1 0)), (2, .ref (g.1 143))]) 1 (by decide) rfl (by omega) hL dL_law_1008 dL_law_1009 dL_law_1010 dL_law_1011 dL_law_1012 ?_
  refine vl_arg (pc := 1013) (i := i) (rs := [(1, .ref (g.1 0)), (2, .ref (g.1 143))]) 2 (by decide) rfl (by omega) hL dL_law_1013 dL_law_1014 dL_law_1015 dL_law_1016 dL_law_1017 ?_
  refine vl_arg (pc := 1018) (i := i) (rs := [(1, .ref (g.1 0)), (2, .ref (g.1 143))]) 3 (by decide) rfl (by omega) hL dL_law_1018 dL_law_1019 dL_law_1020 dL_law_1021 dL_law_1022 ?_
  refine vl_call (pc := 1023) (q := 0) (ρ1 := (some (.long r), σ1)) [.int (xs (i + 1)), .int (xs (i + 2)), .int (xs (i + 3))] dL_law_1023 (s_X8_fits l g kd_0 h1) cw_X8_fits ml_L_119 kd_0 rfl (by decide) (by decide) rfl rfl (Nat.le_of_ble_eq_true rfl) ?_
  refine vx_aload_n (pc := 1026) 2 dL_law_1026 rfl rfl ?_
  refine vl_arg (pc := 1027) (i := i) (rs := [(1, .ref (g.1 0)), (2, .ref (g.1 143))]) 1 (by decide) rfl (by omega) hL dL_law_1027 dL_law_1028 dL_law_1029 dL_law_1030 dL_law_1031 ?_
  refine vl_arg (pc := 1032) (i := i) (rs := [(1, .ref (g.1 0)), (2, .ref (g.1 143))]) 2 (by decide) rfl (by omega) hL dL_law_1032 dL_law_1033 dL_law_1034 dL_law_1035 dL_law_1036 ?_
  refine vl_arg (pc := 1037) (i := i) (rs := [(1, .ref (g.1 0)), (2, .ref (g.1 143))]) 3 (by decide) rfl (by omega) hL dL_law_1037 dL_law_1038 dL_law_1039 dL_law_1040 dL_law_1041 ?_
  refine vl_call (pc := 1042) (q := 143) (ρ1 := (some (.long r), σ2)) [.int (xs (i + 1)), .int (xs (i + 2)), .int (xs (i + 3))] dL_law_1042 (s_X9_fits l g kd_143 h2) cw_X9_fits ml_L_123 kd_143 rfl (by decide) (by decide) rfl rfl (Nat.le_of_ble_eq_true rfl) ?_
  refine vx_lcmp (pc := 1045) dL_law_1045 ?_
  refine vx_if_eq (pc := 1046) 1418 dL_law_1046 (by decide) (fun _ => ?_) (fun c => absurd (lcmp_self r) c)
  exact kk σ2 hR2
set_option maxRecDepth 20000 in
set_option maxHeartbeats 4000000 in
theorem lc_kinds (l : Launch) (g : GG) {b L i : Nat} {xs : Nat → Int32} {σ : SS} {Rel : SS → Prop} (hp : pc_kinds Rel) (hR : Rel σ) (hi : i + 6 ≤ L) (hL : L ≤ 3072) (kk : ∀ σ', Rel σ' → VL l g b L xs 1418 [(0, .ref b), (1, .ref (g.1 0)), (2, .ref (g.1 143)), (3, .int (nI i))] [] σ') : VL l g b L xs 1051 [(0, .ref b), (1, .ref (g.1 0)), (2, .ref (g.1 143)), (3, .int (nI i))] [] σ := by
  obtain ⟨r, σ1, σ2, h1, h2, hR2⟩ := hp σ (xs (i + 1)) (xs (i + 2)) (xs (i + 3)) hR
  refine vx_aload_n (pc := 1051) 1 dL_law_1051 rfl rfl ?_
  refine vl_arg (pc := 1052) (i := i) (rs := [(1, .ref (g.1 0)), (2, .ref (g.1 143))]) 1 (by decide) rfl (by omega) hL dL_law_1052 dL_law_1053 dL_law_1054 dL_law_1055 dL_law_1056 ?_
  refine vl_arg (pc := 1057) (i := i) (rs := [(1, .ref (g.1 0)), (2, .ref (g.1 143))]) 2 (by decide) rfl (by omega) hL dL_law_1057 dL_law_1058 dL_law_1059 dL_law_1060 dL_law_1061 ?_
  refine vl_arg (pc := 1062) (i := i) (rs := [(1, .ref (g.1 0)), (2, .ref (g.1 143))]) 3 (by decide) rfl (by omega) hL dL_law_1062 dL_law_1063 dL_law_1064 dL_law_1065 dL_law_1066 ?_
  refine vl_call (pc := 1067) (q := 0) (ρ1 := (some (.int r), σ1)) [.int (xs (i + 1)), .int (xs (i + 2)), .int (xs (i + 3))] dL_law_1067 (s_X8_kinds l g kd_0 h1) cw_X8_kinds ml_L_124 kd_0 rfl (by decide) (by decide) rfl rfl (Nat.le_of_ble_eq_true rfl) ?_
  refine vx_aload_n (pc := 1070) 2 dL_law_1070 rfl rfl ?_
  refine vl_arg (pc := 1071) (i := i) (rs := [(1, .ref (g.1 0)), (2, .ref (g.1 143))]) 1 (by decide) rfl (by omega) hL dL_law_1071 dL_law_1072 dL_law_1073 dL_law_1074 dL_law_1075 ?_
  refine vl_arg (pc := 1076) (i := i) (rs := [(1, .ref (g.1 0)), (2, .ref (g.1 143))]) 2 (by decide) rfl (by omega) hL dL_law_1076 dL_law_1077 dL_law_1078 dL_law_1079 dL_law_1080 ?_
  refine vl_arg (pc := 1081) (i := i) (rs := [(1, .ref (g.1 0)), (2, .ref (g.1 143))]) 3 (by decide) rfl (by omega) hL dL_law_1081 dL_law_1082 dL_law_1083 dL_law_1084 dL_law_1085 ?_
  refine vl_call (pc := 1086) (q := 143) (ρ1 := (some (.int r), σ2)) [.int (xs (i + 1)), .int (xs (i + 2)), .int (xs (i + 3))] dL_law_1086 (s_X9_kinds l g kd_143 h2) cw_X9_kinds ml_L_127 kd_143 rfl (by decide) (by decide) rfl rfl (Nat.le_of_ble_eq_true rfl) ?_
  refine vx_icmp_eq (pc := 1089) 1418 dL_law_1089 (by decide) (fun _ => ?_) (fun c => absurd rfl c)
  exact kk σ2 hR2
set_option maxRecDepth 20000 in
set_option maxHeartbeats 4000000 in
theorem lc_drawnBy (l : Launch) (g : GG) {b L i : Nat} {xs : Nat → Int32} {σ : SS} {Rel : SS → Prop} (hp : pc_drawnBy Rel) (hR : Rel σ) (hi : i + 6 ≤ L) (hL : L ≤ 3072) (kk : ∀ σ', Rel σ' → VL l g b L xs 1418 [(0, .ref b), (1, .ref (g.1 0)), (2, .ref (g.1 143)), (3, .int (nI i))] [] σ') : VL l g b L xs 1094 [(0, .ref b), (1, .ref (g.1 0)), (2, .ref (g.1 143)), (3, .int (nI i))] [] σ := by
  obtain ⟨r, σ1, σ2, h1, h2, hR2⟩ := hp σ (xs (i + 1)) (xs (i + 2)) hR
  refine vx_aload_n (pc := 1094) 1 dL_law_1094 rfl rfl ?_
  refine vl_arg (pc := 1095) (i := i) (rs := [(1, .ref (g.1 0)), (2, .ref (g.1 143))]) 1 (by decide) rfl (by omega) hL dL_law_1095 dL_law_1096 dL_law_1097 dL_law_1098 dL_law_1099 ?_
  refine vl_arg (pc := 1100) (i := i) (rs := [(1, .ref (g.1 0)), (2, .ref (g.1 143))]) 2 (by decide) rfl (by omega) hL dL_law_1100 dL_law_1101 dL_law_1102 dL_law_1103 dL_law_1104 ?_
  refine vl_call (pc := 1105) (q := 0) (ρ1 := (some (.int r), σ1)) [.int (xs (i + 1)), .int (xs (i + 2))] dL_law_1105 (s_X8_drawnBy l g kd_0 h1) cw_X8_drawnBy ml_L_128 kd_0 rfl (by decide) (by decide) rfl rfl (Nat.le_of_ble_eq_true rfl) ?_
  refine vx_aload_n (pc := 1108) 2 dL_law_1108 rfl rfl ?_
  refine vl_arg (pc := 1109) (i := i) (rs := [(1, .ref (g.1 0)), (2, .ref (g.1 143))]) 1 (by decide) rfl (by omega) hL dL_law_1109 dL_law_1110 dL_law_1111 dL_law_1112 dL_law_1113 ?_
  refine vl_arg (pc := 1114) (i := i) (rs := [(1, .ref (g.1 0)), (2, .ref (g.1 143))]) 2 (by decide) rfl (by omega) hL dL_law_1114 dL_law_1115 dL_law_1116 dL_law_1117 dL_law_1118 ?_
  refine vl_call (pc := 1119) (q := 143) (ρ1 := (some (.int r), σ2)) [.int (xs (i + 1)), .int (xs (i + 2))] dL_law_1119 (s_X9_drawnBy l g kd_143 h2) cw_X9_drawnBy ml_L_131 kd_143 rfl (by decide) (by decide) rfl rfl (Nat.le_of_ble_eq_true rfl) ?_
  refine vx_icmp_eq (pc := 1122) 1418 dL_law_1122 (by decide) (fun _ => ?_) (fun c => absurd rfl c)
  exact kk σ2 hR2
set_option maxRecDepth 20000 in
set_option maxHeartbeats 4000000 in
theorem lc_judge (l : Launch) (g : GG) {b L i : Nat} {xs : Nat → Int32} {σ : SS} {Rel : SS → Prop} (hp : pc_judge Rel) (hR : Rel σ) (hi : i + 6 ≤ L) (hL : L ≤ 3072) (kk : ∀ σ', Rel σ' → VL l g b L xs 1418 [(0, .ref b), (1, .ref (g.1 0)), (2, .ref (g.1 143)), (3, .int (nI i))] [] σ') : VL l g b L xs 1127 [(0, .ref b), (1, .ref (g.1 0)), (2, .ref (g.1 143)), (3, .int (nI i))] [] σ := by
  obtain ⟨r, σ1, σ2, h1, h2, hR2⟩ := hp σ (xs (i + 1)) (xs (i + 2)) hR
  refine vx_aload_n (pc := 1127) 1 dL_law_1127 rfl rfl ?_
  refine vl_arg (pc := 1128) (i := i) (rs := [(1, .ref (g.1 0)), (2, .ref (g.1 143))]) 1 (by decide) rfl (by omega) hL dL_law_1128 dL_law_1129 dL_law_1130 dL_law_1131 dL_law_1132 ?_
  refine vl_arg (pc := 1133) (i := i) (rs := [(1, .ref (g.1 0)), (2, .ref (g.1 143))]) 2 (by decide) rfl (by omega) hL dL_law_1133 dL_law_1134 dL_law_1135 dL_law_1136 dL_law_1137 ?_
  refine vl_call (pc := 1138) (q := 0) (ρ1 := (some (.int r), σ1)) [.int (xs (i + 1)), .int (xs (i + 2))] dL_law_1138 (s_X8_judge l g kd_0 h1) cw_X8_judge ml_L_132 kd_0 rfl (by decide) (by decide) rfl rfl (Nat.le_of_ble_eq_true rfl) ?_
  refine vx_aload_n (pc := 1141) 2 dL_law_1141 rfl rfl ?_
  refine vl_arg (pc := 1142) (i := i) (rs := [(1, .ref (g.1 0)), (2, .ref (g.1 143))]) 1 (by decide) rfl (by omega) hL dL_law_1142 dL_law_1143 dL_law_1144 dL_law_1145 dL_law_1146 ?_
  refine vl_arg (pc := 1147) (i := i) (rs := [(1, .ref (g.1 0)), (2, .ref (g.1 143))]) 2 (by decide) rfl (by omega) hL dL_law_1147 dL_law_1148 dL_law_1149 dL_law_1150 dL_law_1151 ?_
  refine vl_call (pc := 1152) (q := 143) (ρ1 := (some (.int r), σ2)) [.int (xs (i + 1)), .int (xs (i + 2))] dL_law_1152 (s_X9_judge l g kd_143 h2) cw_X9_judge ml_L_135 kd_143 rfl (by decide) (by decide) rfl rfl (Nat.le_of_ble_eq_true rfl) ?_
  refine vx_icmp_eq (pc := 1155) 1418 dL_law_1155 (by decide) (fun _ => ?_) (fun c => absurd rfl c)
  exact kk σ2 hR2
set_option maxRecDepth 20000 in
set_option maxHeartbeats 4000000 in
theorem lc_lots (l : Launch) (g : GG) {b L i : Nat} {xs : Nat → Int32} {σ : SS} {Rel : SS → Prop} (hp : pc_lots Rel) (hR : Rel σ) (hi : i + 6 ≤ L) (hL : L ≤ 3072) (kk : ∀ σ', Rel σ' → VL l g b L xs 1418 [(0, .ref b), (1, .ref (g.1 0)), (2, .ref (g.1 143)), (3, .int (nI i))] [] σ') : VL l g b L xs 1160 [(0, .ref b), (1, .ref (g.1 0)), (2, .ref (g.1 143)), (3, .int (nI i))] [] σ := by
  obtain ⟨r, σ1, σ2, h1, h2, hR2⟩ := hp σ (xs (i + 1)) (xs (i + 2)) (xs (i + 3)) hR
  refine vx_aload_n (pc := 1160) 1 dL_law_1160 rfl rfl ?_
  refine vl_arg (pc := 1161) (i := i) (rs := [(1, .ref (g.1 0)), (2, .ref (g.1 143))]) 1 (by decide) rfl (by omega) hL dL_law_1161 dL_law_1162 dL_law_1163 dL_law_1164 dL_law_1165 ?_
  refine vl_arg (pc := 1166) (i := i) (rs := [(1, .ref (g.1 0)), (2, .ref (g.1 143))]) 2 (by decide) rfl (by omega) hL dL_law_1166 dL_law_1167 dL_law_1168 dL_law_1169 dL_law_1170 ?_
  refine vl_arg (pc := 1171) (i := i) (rs := [(1, .ref (g.1 0)), (2, .ref (g.1 143))]) 3 (by decide) rfl (by omega) hL dL_law_1171 dL_law_1172 dL_law_1173 dL_law_1174 dL_law_1175 ?_
  refine vl_call (pc := 1176) (q := 0) (ρ1 := (some (.int r), σ1)) [.int (xs (i + 1)), .int (xs (i + 2)), .int (xs (i + 3))] dL_law_1176 (s_X8_lots l g kd_0 h1) cw_X8_lots ml_L_136 kd_0 rfl (by decide) (by decide) rfl rfl (Nat.le_of_ble_eq_true rfl) ?_
  refine vx_aload_n (pc := 1179) 2 dL_law_1179 rfl rfl ?_
  refine vl_arg (pc := 1180) (i := i) (rs := [(1, .ref (g.1 0)), (2, .ref (g.1 143))]) 1 (by decide) rfl (by omega) hL dL_law_1180 dL_law_1181 dL_law_1182 dL_law_1183 dL_law_1184 ?_
  refine vl_arg (pc := 1185) (i := i) (rs := [(1, .ref (g.1 0)), (2, .ref (g.1 143))]) 2 (by decide) rfl (by omega) hL dL_law_1185 dL_law_1186 dL_law_1187 dL_law_1188 dL_law_1189 ?_
  refine vl_arg (pc := 1190) (i := i) (rs := [(1, .ref (g.1 0)), (2, .ref (g.1 143))]) 3 (by decide) rfl (by omega) hL dL_law_1190 dL_law_1191 dL_law_1192 dL_law_1193 dL_law_1194 ?_
  refine vl_call (pc := 1195) (q := 143) (ρ1 := (some (.int r), σ2)) [.int (xs (i + 1)), .int (xs (i + 2)), .int (xs (i + 3))] dL_law_1195 (s_X9_lots l g kd_143 h2) cw_X9_lots ml_L_139 kd_143 rfl (by decide) (by decide) rfl rfl (Nat.le_of_ble_eq_true rfl) ?_
  refine vx_icmp_eq (pc := 1198) 1418 dL_law_1198 (by decide) (fun _ => ?_) (fun c => absurd rfl c)
  exact kk σ2 hR2
set_option maxRecDepth 20000 in
set_option maxHeartbeats 4000000 in
theorem lc_list (l : Launch) (g : GG) {b L i : Nat} {xs : Nat → Int32} {σ : SS} {Rel : SS → Prop} (hp : pc_list Rel) (hR : Rel σ) (hi : i + 6 ≤ L) (hL : L ≤ 3072) (kk : ∀ σ', Rel σ' → VL l g b L xs 1418 [(0, .ref b), (1, .ref (g.1 0)), (2, .ref (g.1 143)), (3, .int (nI i))] [] σ') : VL l g b L xs 1203 [(0, .ref b), (1, .ref (g.1 0)), (2, .ref (g.1 143)), (3, .int (nI i))] [] σ := by
  obtain ⟨r, σ1, σ2, h1, h2, hR2⟩ := hp σ (xs (i + 1)) (xs (i + 2)) hR
  refine vx_aload_n (pc := 1203) 1 dL_law_1203 rfl rfl ?_
  refine vl_arg (pc := 1204) (i := i) (rs := [(1, .ref (g.1 0)), (2, .ref (g.1 143))]) 1 (by decide) rfl (by omega) hL dL_law_1204 dL_law_1205 dL_law_1206 dL_law_1207 dL_law_1208 ?_
  refine vl_arg (pc := 1209) (i := i) (rs := [(1, .ref (g.1 0)), (2, .ref (g.1 143))]) 2 (by decide) rfl (by omega) hL dL_law_1209 dL_law_1210 dL_law_1211 dL_law_1212 dL_law_1213 ?_
  refine vl_call (pc := 1214) (q := 0) (ρ1 := (some (.int r), σ1)) [.int (xs (i + 1)), .int (xs (i + 2))] dL_law_1214 (s_X8_list l g kd_0 h1) cw_X8_list ml_L_140 kd_0 rfl (by decide) (by decide) rfl rfl (Nat.le_of_ble_eq_true rfl) ?_
  refine vx_aload_n (pc := 1217) 2 dL_law_1217 rfl rfl ?_
  refine vl_arg (pc := 1218) (i := i) (rs := [(1, .ref (g.1 0)), (2, .ref (g.1 143))]) 1 (by decide) rfl (by omega) hL dL_law_1218 dL_law_1219 dL_law_1220 dL_law_1221 dL_law_1222 ?_
  refine vl_arg (pc := 1223) (i := i) (rs := [(1, .ref (g.1 0)), (2, .ref (g.1 143))]) 2 (by decide) rfl (by omega) hL dL_law_1223 dL_law_1224 dL_law_1225 dL_law_1226 dL_law_1227 ?_
  refine vl_call (pc := 1228) (q := 143) (ρ1 := (some (.int r), σ2)) [.int (xs (i + 1)), .int (xs (i + 2))] dL_law_1228 (s_X9_list l g kd_143 h2) cw_X9_list ml_L_143 kd_143 rfl (by decide) (by decide) rfl rfl (Nat.le_of_ble_eq_true rfl) ?_
  refine vx_icmp_eq (pc := 1231) 1418 dL_law_1231 (by decide) (fun _ => ?_) (fun c => absurd rfl c)
  exact kk σ2 hR2
set_option maxRecDepth 20000 in
set_option maxHeartbeats 4000000 in
theorem lc_put (l : Launch) (g : GG) {b L i : Nat} {xs : Nat → Int32} {σ : SS} {Rel : SS → Prop} (hp : pc_put Rel) (hR : Rel σ) (hi : i + 6 ≤ L) (hL : L ≤ 3072) (kk : ∀ σ', Rel σ' → VL l g b L xs 1418 [(0, .ref b), (1, .ref (g.1 0)), (2, .ref (g.1 143)), (3, .int (nI i))] [] σ') : VL l g b L xs 1236 [(0, .ref b), (1, .ref (g.1 0)), (2, .ref (g.1 143)), (3, .int (nI i))] [] σ := by
  obtain ⟨r, σ1, σ2, h1, h2, hR2⟩ := hp σ (xs (i + 1)) (xs (i + 2)) (xs (i + 3)) hR
  refine vx_aload_n (pc := 1236) 1 dL_law_1236 rfl rfl ?_
  refine vl_arg (pc := 1237) (i := i) (rs := [(1, .ref (g.1 0)), (2, .ref (g.1 143))]) 1 (by decide) rfl (by omega) hL dL_law_1237 dL_law_1238 dL_law_1239 dL_law_1240 dL_law_1241 ?_
  refine vl_arg (pc := 1242) (i := i) (rs := [(1, .ref (g.1 0)), (2, .ref (g.1 143))]) 2 (by decide) rfl (by omega) hL dL_law_1242 dL_law_1243 dL_law_1244 dL_law_1245 dL_law_1246 ?_
  refine vl_arg (pc := 1247) (i := i) (rs := [(1, .ref (g.1 0)), (2, .ref (g.1 143))]) 3 (by decide) rfl (by omega) hL dL_law_1247 dL_law_1248 dL_law_1249 dL_law_1250 dL_law_1251 ?_
  refine vl_call (pc := 1252) (q := 0) (ρ1 := (some (.int r), σ1)) [.int (xs (i + 1)), .int (xs (i + 2)), .int (xs (i + 3))] dL_law_1252 (s_X8_put l g kd_0 h1) cw_X8_put ml_L_144 kd_0 rfl (by decide) (by decide) rfl rfl (Nat.le_of_ble_eq_true rfl) ?_
  refine vx_aload_n (pc := 1255) 2 dL_law_1255 rfl rfl ?_
  refine vl_arg (pc := 1256) (i := i) (rs := [(1, .ref (g.1 0)), (2, .ref (g.1 143))]) 1 (by decide) rfl (by omega) hL dL_law_1256 dL_law_1257 dL_law_1258 dL_law_1259 dL_law_1260 ?_
  refine vl_arg (pc := 1261) (i := i) (rs := [(1, .ref (g.1 0)), (2, .ref (g.1 143))]) 2 (by decide) rfl (by omega) hL dL_law_1261 dL_law_1262 dL_law_1263 dL_law_1264 dL_law_1265 ?_
  refine vl_arg (pc := 1266) (i := i) (rs := [(1, .ref (g.1 0)), (2, .ref (g.1 143))]) 3 (by decide) rfl (by omega) hL dL_law_1266 dL_law_1267 dL_law_1268 dL_law_1269 dL_law_1270 ?_
  refine vl_call (pc := 1271) (q := 143) (ρ1 := (some (.int r), σ2)) [.int (xs (i + 1)), .int (xs (i + 2)), .int (xs (i + 3))] dL_law_1271 (s_X9_put l g kd_143 h2) cw_X9_put ml_L_147 kd_143 rfl (by decide) (by decide) rfl rfl (Nat.le_of_ble_eq_true rfl) ?_
  refine vx_icmp_eq (pc := 1274) 1418 dL_law_1274 (by decide) (fun _ => ?_) (fun c => absurd rfl c)
  exact kk σ2 hR2
set_option maxRecDepth 20000 in
set_option maxHeartbeats 4000000 in
theorem lc_look (l : Launch) (g : GG) {b L i : Nat} {xs : Nat → Int32} {σ : SS} {Rel : SS → Prop} (hp : pc_look Rel) (hR : Rel σ) (hi : i + 6 ≤ L) (hL : L ≤ 3072) (kk : ∀ σ', Rel σ' → VL l g b L xs 1418 [(0, .ref b), (1, .ref (g.1 0)), (2, .ref (g.1 143)), (3, .int (nI i))] [] σ') : VL l g b L xs 1279 [(0, .ref b), (1, .ref (g.1 0)), (2, .ref (g.1 143)), (3, .int (nI i))] [] σ := by
  obtain ⟨r, σ1, σ2, h1, h2, hR2⟩ := hp σ (xs (i + 1)) (xs (i + 2)) hR
  refine vx_aload_n (pc := 1279) 1 dL_law_1279 rfl rfl ?_
  refine vl_arg (pc := 1280) (i := i) (rs := [(1, .ref (g.1 0)), (2, .ref (g.1 143))]) 1 (by decide) rfl (by omega) hL dL_law_1280 dL_law_1281 dL_law_1282 dL_law_1283 dL_law_1284 ?_
  refine vl_arg (pc := 1285) (i := i) (rs := [(1, .ref (g.1 0)), (2, .ref (g.1 143))]) 2 (by decide) rfl (by omega) hL dL_law_1285 dL_law_1286 dL_law_1287 dL_law_1288 dL_law_1289 ?_
  refine vl_call (pc := 1290) (q := 0) (ρ1 := (some (.long r), σ1)) [.int (xs (i + 1)), .int (xs (i + 2))] dL_law_1290 (s_X8_look l g kd_0 h1) cw_X8_look ml_L_148 kd_0 rfl (by decide) (by decide) rfl rfl (Nat.le_of_ble_eq_true rfl) ?_
  refine vx_aload_n (pc := 1293) 2 dL_law_1293 rfl rfl ?_
  refine vl_arg (pc := 1294) (i := i) (rs := [(1, .ref (g.1 0)), (2, .ref (g.1 143))]) 1 (by decide) rfl (by omega) hL dL_law_1294 dL_law_1295 dL_law_1296 dL_law_1297 dL_law_1298 ?_
  refine vl_arg (pc := 1299) (i := i) (rs := [(1, .ref (g.1 0)), (2, .ref (g.1 143))]) 2 (by decide) rfl (by omega) hL dL_law_1299 dL_law_1300 dL_law_1301 dL_law_1302 dL_law_1303 ?_
  refine vl_call (pc := 1304) (q := 143) (ρ1 := (some (.long r), σ2)) [.int (xs (i + 1)), .int (xs (i + 2))] dL_law_1304 (s_X9_look l g kd_143 h2) cw_X9_look ml_L_151 kd_143 rfl (by decide) (by decide) rfl rfl (Nat.le_of_ble_eq_true rfl) ?_
  refine vx_lcmp (pc := 1307) dL_law_1307 ?_
  refine vx_if_eq (pc := 1308) 1418 dL_law_1308 (by decide) (fun _ => ?_) (fun c => absurd (lcmp_self r) c)
  exact kk σ2 hR2
set_option maxRecDepth 20000 in
set_option maxHeartbeats 4000000 in
theorem lc_lays (l : Launch) (g : GG) {b L i : Nat} {xs : Nat → Int32} {σ : SS} {Rel : SS → Prop} (hp : pc_lays Rel) (hR : Rel σ) (hi : i + 6 ≤ L) (hL : L ≤ 3072) (kk : ∀ σ', Rel σ' → VL l g b L xs 1418 [(0, .ref b), (1, .ref (g.1 0)), (2, .ref (g.1 143)), (3, .int (nI i))] [] σ') : VL l g b L xs 1313 [(0, .ref b), (1, .ref (g.1 0)), (2, .ref (g.1 143)), (3, .int (nI i))] [] σ := by
  obtain ⟨r, σ1, σ2, h1, h2, hR2⟩ := hp σ (xs (i + 1)) (xs (i + 2)) (xs (i + 3)) hR
  refine vx_aload_n (pc := 1313) 1 dL_law_1313 rfl rfl ?_
  refine vl_arg (pc := 1314) (i := i) (rs := [(1, .ref (g.1 0)), (2, .ref (g.1 143))]) 1 (by decide) rfl (by omega) hL dL_law_1314 dL_law_1315 dL_law_1316 dL_law_1317 dL_law_1318 ?_
  refine vl_arg (pc := 1319) (i := i) (rs := [(1, .ref (g.1 0)), (2, .ref (g.1 143))]) 2 (by decide) rfl (by omega) hL dL_law_1319 dL_law_1320 dL_law_1321 dL_law_1322 dL_law_1323 ?_
  refine vl_arg (pc := 1324) (i := i) (rs := [(1, .ref (g.1 0)), (2, .ref (g.1 143))]) 3 (by decide) rfl (by omega) hL dL_law_1324 dL_law_1325 dL_law_1326 dL_law_1327 dL_law_1328 ?_
  refine vl_call (pc := 1329) (q := 0) (ρ1 := (some (.int r), σ1)) [.int (xs (i + 1)), .int (xs (i + 2)), .int (xs (i + 3))] dL_law_1329 (s_X8_lays l g kd_0 h1) cw_X8_lays ml_L_152 kd_0 rfl (by decide) (by decide) rfl rfl (Nat.le_of_ble_eq_true rfl) ?_
  refine vx_aload_n (pc := 1332) 2 dL_law_1332 rfl rfl ?_
  refine vl_arg (pc := 1333) (i := i) (rs := [(1, .ref (g.1 0)), (2, .ref (g.1 143))]) 1 (by decide) rfl (by omega) hL dL_law_1333 dL_law_1334 dL_law_1335 dL_law_1336 dL_law_1337 ?_
  refine vl_arg (pc := 1338) (i := i) (rs := [(1, .ref (g.1 0)), (2, .ref (g.1 143))]) 2 (by decide) rfl (by omega) hL dL_law_1338 dL_law_1339 dL_law_1340 dL_law_1341 dL_law_1342 ?_
  refine vl_arg (pc := 1343) (i := i) (rs := [(1, .ref (g.1 0)), (2, .ref (g.1 143))]) 3 (by decide) rfl (by omega) hL dL_law_1343 dL_law_1344 dL_law_1345 dL_law_1346 dL_law_1347 ?_
  refine vl_call (pc := 1348) (q := 143) (ρ1 := (some (.int r), σ2)) [.int (xs (i + 1)), .int (xs (i + 2)), .int (xs (i + 3))] dL_law_1348 (s_X9_lays_ l g kd_143 h2) cw_X9_lays_ ml_L_155 kd_143 rfl (by decide) (by decide) rfl rfl (Nat.le_of_ble_eq_true rfl) ?_
  refine vx_icmp_eq (pc := 1351) 1418 dL_law_1351 (by decide) (fun _ => ?_) (fun c => absurd rfl c)
  exact kk σ2 hR2
set_option maxRecDepth 20000 in
set_option maxHeartbeats 4000000 in
theorem lc_undo (l : Launch) (g : GG) {b L i : Nat} {xs : Nat → Int32} {σ : SS} {Rel : SS → Prop} (hp : pc_undo Rel) (hR : Rel σ) (hi : i + 6 ≤ L) (hL : L ≤ 3072) (kk : ∀ σ', Rel σ' → VL l g b L xs 1418 [(0, .ref b), (1, .ref (g.1 0)), (2, .ref (g.1 143)), (3, .int (nI i))] [] σ') : VL l g b L xs 1356 [(0, .ref b), (1, .ref (g.1 0)), (2, .ref (g.1 143)), (3, .int (nI i))] [] σ := by
  obtain ⟨r, σ1, σ2, h1, h2, hR2⟩ := hp σ hR
  refine vx_aload_n (pc := 1356) 1 dL_law_1356 rfl rfl ?_
  refine vl_call (pc := 1357) (q := 0) (ρ1 := (some (.int r), σ1)) [] dL_law_1357 (s_X8_undo l g kd_0 h1) cw_X8_undo ml_L_156 kd_0 rfl (by decide) (by decide) rfl rfl (Nat.le_of_ble_eq_true rfl) ?_
  refine vx_aload_n (pc := 1360) 2 dL_law_1360 rfl rfl ?_
  refine vl_call (pc := 1361) (q := 143) (ρ1 := (some (.int r), σ2)) [] dL_law_1361 (s_X9_undo l g kd_143 h2) cw_X9_undo ml_L_159 kd_143 rfl (by decide) (by decide) rfl rfl (Nat.le_of_ble_eq_true rfl) ?_
  refine vx_icmp_eq (pc := 1364) 1418 dL_law_1364 (by decide) (fun _ => ?_) (fun c => absurd rfl c)
  exact kk σ2 hR2
set_option maxRecDepth 20000 in
set_option maxHeartbeats 4000000 in
theorem lc_image (l : Launch) (g : GG) {b L i : Nat} {xs : Nat → Int32} {σ : SS} {Rel : SS → Prop} (hp : pc_image Rel) (hR : Rel σ) (hi : i + 6 ≤ L) (hL : L ≤ 3072) (kk : ∀ σ', Rel σ' → VL l g b L xs 1418 [(0, .ref b), (1, .ref (g.1 0)), (2, .ref (g.1 143)), (3, .int (nI i))] [] σ') : VL l g b L xs 1369 [(0, .ref b), (1, .ref (g.1 0)), (2, .ref (g.1 143)), (3, .int (nI i))] [] σ := by
  obtain ⟨r, σ1, σ2, h1, h2, hR2⟩ := hp σ hR
  refine vx_aload_n (pc := 1369) 1 dL_law_1369 rfl rfl ?_
  refine vl_call (pc := 1370) (q := 0) (ρ1 := (some (.int r), σ1)) [] dL_law_1370 (s_X8_image l g kd_0 h1) cw_X8_image ml_L_160 kd_0 rfl (by decide) (by decide) rfl rfl (Nat.le_of_ble_eq_true rfl) ?_
  refine vx_aload_n (pc := 1373) 2 dL_law_1373 rfl rfl ?_
  refine vl_call (pc := 1374) (q := 143) (ρ1 := (some (.int r), σ2)) [] dL_law_1374 (s_X9_image l g kd_143 h2) cw_X9_image ml_L_163 kd_143 rfl (by decide) (by decide) rfl rfl (Nat.le_of_ble_eq_true rfl) ?_
  refine vx_icmp_eq (pc := 1377) 1418 dL_law_1377 (by decide) (fun _ => ?_) (fun c => absurd rfl c)
  exact kk σ2 hR2
set_option maxRecDepth 20000 in
set_option maxHeartbeats 4000000 in
theorem lc_on (l : Launch) (g : GG) {b L i : Nat} {xs : Nat → Int32} {σ : SS} {Rel : SS → Prop} (hp : pc_on Rel) (hR : Rel σ) (hi : i + 6 ≤ L) (hL : L ≤ 3072) (kk : ∀ σ', Rel σ' → VL l g b L xs 1418 [(0, .ref b), (1, .ref (g.1 0)), (2, .ref (g.1 143)), (3, .int (nI i))] [] σ') : VL l g b L xs 1382 [(0, .ref b), (1, .ref (g.1 0)), (2, .ref (g.1 143)), (3, .int (nI i))] [] σ := by
  obtain ⟨r, σ1, σ2, h1, h2, hR2⟩ := hp σ hR
  refine vx_aload_n (pc := 1382) 1 dL_law_1382 rfl rfl ?_
  refine vl_call (pc := 1383) (q := 0) (ρ1 := (some (.int r), σ1)) [] dL_law_1383 (s_X8_on l g kd_0 h1) cw_X8_on ml_L_164 kd_0 rfl (by decide) (by decide) rfl rfl (Nat.le_of_ble_eq_true rfl) ?_
  refine vx_aload_n (pc := 1386) 2 dL_law_1386 rfl rfl ?_
  refine vl_call (pc := 1387) (q := 143) (ρ1 := (some (.int r), σ2)) [] dL_law_1387 (s_X9_on l g kd_143 h2) cw_X9_on ml_L_167 kd_143 rfl (by decide) (by decide) rfl rfl (Nat.le_of_ble_eq_true rfl) ?_
  refine vx_icmp_eq (pc := 1390) 1418 dL_law_1390 (by decide) (fun _ => ?_) (fun c => absurd rfl c)
  exact kk σ2 hR2
set_option maxRecDepth 20000 in
set_option maxHeartbeats 4000000 in
theorem lc_count (l : Launch) (g : GG) {b L i : Nat} {xs : Nat → Int32} {σ : SS} {Rel : SS → Prop} (hp : pc_count Rel) (hR : Rel σ) (hi : i + 6 ≤ L) (hL : L ≤ 3072) (kk : ∀ σ', Rel σ' → VL l g b L xs 1418 [(0, .ref b), (1, .ref (g.1 0)), (2, .ref (g.1 143)), (3, .int (nI i))] [] σ') : VL l g b L xs 1395 [(0, .ref b), (1, .ref (g.1 0)), (2, .ref (g.1 143)), (3, .int (nI i))] [] σ := by
  obtain ⟨r, h1, h2⟩ := hp σ (xs (i + 1)) hR
  refine vx_aload_n (pc := 1395) 1 dL_law_1395 rfl rfl ?_
  refine vl_arg (pc := 1396) (i := i) (rs := [(1, .ref (g.1 0)), (2, .ref (g.1 143))]) 1 (by decide) rfl (by omega) hL dL_law_1396 dL_law_1397 dL_law_1398 dL_law_1399 dL_law_1400 ?_
  refine vl_call (pc := 1401) (q := 0) (ρ1 := (some (.int r), σ)) [.int (xs (i + 1))] dL_law_1401 (s_X8_count l g kd_0 h1) cw_X8_count ml_L_168 kd_0 rfl (by decide) (by decide) rfl rfl (Nat.le_of_ble_eq_true rfl) ?_
  refine vx_aload_n (pc := 1404) 2 dL_law_1404 rfl rfl ?_
  refine vl_arg (pc := 1405) (i := i) (rs := [(1, .ref (g.1 0)), (2, .ref (g.1 143))]) 1 (by decide) rfl (by omega) hL dL_law_1405 dL_law_1406 dL_law_1407 dL_law_1408 dL_law_1409 ?_
  refine vl_call (pc := 1410) (q := 143) (ρ1 := (some (.int r), σ)) [.int (xs (i + 1))] dL_law_1410 (s_X9_count l g kd_143 h2) cw_X9_count ml_L_171 kd_143 rfl (by decide) (by decide) rfl rfl (Nat.le_of_ble_eq_true rfl) ?_
  refine vx_icmp_eq (pc := 1413) 1418 dL_law_1413 (by decide) (fun _ => ?_) (fun c => absurd rfl c)
  exact kk σ hR
theorem law_go {L i : Nat} (hL : L ≤ 3072) (hi : i ≤ L + 6) (c : ¬ nI L - 6 < nI i) : i + 6 ≤ L := by
  rw [Int32.lt_iff_toInt_lt, show (6 : Int32) = nI 6 from rfl, pk_sub_toInt (by omega) (by omega), nI_toInt (by omega)] at c
  omega
set_option maxRecDepth 20000 in
set_option maxHeartbeats 8000000 in
theorem law_loop (l : Launch) (g : GG) {b L : Nat} {xs : Nat → Int32} {Rel : SS → Prop} (hp : PureOK Rel) (hL : L ≤ 3072) : ∀ (N i : Nat) (σ : SS), L + 7 - i ≤ N → i ≤ L + 6 → Rel σ → VL l g b L xs 18 [(0, .ref b), (1, .ref (g.1 0)), (2, .ref (g.1 143)), (3, .int (nI i))] [] σ := by
  intro N
  induction N with
  | zero => intro i σ hN; omega
  | succ N ih =>
    intro i σ hN hi3 hR
    refine vx_iload_n (pc := 18) 3 dL_law_18 rfl rfl ?_
    refine vx_aload_n (pc := 19) 0 dL_law_19 rfl rfl ?_
    refine vl_slen (pc := 20) dL_law_20 ?_
    refine vx_bipush (pc := 21) 6 dL_law_21 (by decide) ?_
    refine vx_isub (pc := 23) dL_law_23 ?_
    refine vx_icmp_gt (pc := 24) 1424 dL_law_24 (by decide) (fun _ => ?_) (fun c => ?_)
    · refine vx_iconst (pc := 1424) 1 dL_law_1424 (by decide) ?_
      exact vl_ret dL_law_1425
    · have hi6 : i + 6 ≤ L := law_go hL hi3 c
      refine vx_aload_n (pc := 27) 0 dL_law_27 rfl rfl ?_
      refine vx_iload_n (pc := 28) 3 dL_law_28 rfl rfl ?_
      refine vl_sld (pc := 29) rfl (by omega) hL dL_law_29 ?_
      refine vx_bipush (pc := 30) 63 dL_law_30 (by decide) ?_
      refine vx_iand (pc := 32) dL_law_32 ?_
      have kk : ∀ σ1, Rel σ1 → VL l g b L xs 1418 [(0, .ref b), (1, .ref (g.1 0)), (2, .ref (g.1 143)), (3, .int (nI i))] [] σ1 := by
        intro σ1 hR1
        refine vx_iinc (v := nI (i + 6)) (pc := 1418) [(3, .int (nI (i + 6))), (0, .ref b), (1, .ref (g.1 0)), (2, .ref (g.1 143))] 3 dL_law_1418 rfl (nI_add i 6) (by decide) rfl ?_
        refine vx_sub (pc := 1421) [1, 2, 3, 0] [(0, .ref b), (1, .ref (g.1 0)), (2, .ref (g.1 143)), (3, .int (nI (i + 6)))] rfl ?_
        refine vx_goto (pc := 1421) 18 dL_law_1421 (by decide) ?_
        exact ih (i + 6) σ1 (by omega) (by omega) hR1
      obtain ⟨j, hj, ej⟩ := pk_andE (xs i) (m := 63) 6 (by decide)
      rw [ej]
      by_cases hj2 : 38 ≤ j
      · refine vx_tableOut (pc := 33) 1418 dL_law_33 (Or.inr (by rw [nI_toInt (by omega)]; omega)) (by decide) ?_
        exact kk σ hR
      · obtain ⟨pletter, psheet, pring, pwheel, pof, pchange, pputs, pnext, pratio, pwears, ptooth, pdrawing, parc, pcrosses, pbehind, pbetween, pmirror, pfull, podds, ptouch, pmeet, pcrowd, proll, pinked, pahead, pfits, pkinds, pdrawnBy, pjudge, plots, plist, pput, plook, plays, pundo, pimage, pon, pcount⟩ := hp
        rcases (show j = 0 ∨ j = 1 ∨ j = 2 ∨ j = 3 ∨ j = 4 ∨ j = 5 ∨ j = 6 ∨ j = 7 ∨ j = 8 ∨ j = 9 ∨ j = 10 ∨ j = 11 ∨ j = 12 ∨ j = 13 ∨ j = 14 ∨ j = 15 ∨ j = 16 ∨ j = 17 ∨ j = 18 ∨ j = 19 ∨ j = 20 ∨ j = 21 ∨ j = 22 ∨ j = 23 ∨ j = 24 ∨ j = 25 ∨ j = 26 ∨ j = 27 ∨ j = 28 ∨ j = 29 ∨ j = 30 ∨ j = 31 ∨ j = 32 ∨ j = 33 ∨ j = 34 ∨ j = 35 ∨ j = 36 ∨ j = 37 from by omega) with rfl | rfl | rfl | rfl | rfl | rfl | rfl | rfl | rfl | rfl | rfl | rfl | rfl | rfl | rfl | rfl | rfl | rfl | rfl | rfl | rfl | rfl | rfl | rfl | rfl | rfl | rfl | rfl | rfl | rfl | rfl | rfl | rfl | rfl | rfl | rfl | rfl | rfl
        · refine vx_tableIn (pc := 33) 167 200 dL_law_33 (by decide) (by decide) rfl (by decide) ?_
          exact lc_letter l g pletter hR hi6 hL kk
        · refine vx_tableIn (pc := 33) 190 223 dL_law_33 (by decide) (by decide) rfl (by decide) ?_
          exact lc_sheet l g psheet hR hi6 hL kk
        · refine vx_tableIn (pc := 33) 203 236 dL_law_33 (by decide) (by decide) rfl (by decide) ?_
          exact lc_ring l g pring hR hi6 hL kk
        · refine vx_tableIn (pc := 33) 226 259 dL_law_33 (by decide) (by decide) rfl (by decide) ?_
          exact lc_wheel l g pwheel hR hi6 hL kk
        · refine vx_tableIn (pc := 33) 289 322 dL_law_33 (by decide) (by decide) rfl (by decide) ?_
          exact lc_of l g pof hR hi6 hL kk
        · refine vx_tableIn (pc := 33) 322 355 dL_law_33 (by decide) (by decide) rfl (by decide) ?_
          exact lc_change l g pchange hR hi6 hL kk
        · refine vx_tableIn (pc := 33) 365 398 dL_law_33 (by decide) (by decide) rfl (by decide) ?_
          exact lc_puts l g pputs hR hi6 hL kk
        · refine vx_tableIn (pc := 33) 398 431 dL_law_33 (by decide) (by decide) rfl (by decide) ?_
          exact lc_next l g pnext hR hi6 hL kk
        · refine vx_tableIn (pc := 33) 431 464 dL_law_33 (by decide) (by decide) rfl (by decide) ?_
          exact lc_ratio l g pratio hR hi6 hL kk
        · refine vx_tableIn (pc := 33) 465 498 dL_law_33 (by decide) (by decide) rfl (by decide) ?_
          exact lc_wears l g pwears hR hi6 hL kk
        · refine vx_tableIn (pc := 33) 488 521 dL_law_33 (by decide) (by decide) rfl (by decide) ?_
          exact lc_tooth l g ptooth hR hi6 hL kk
        · refine vx_tableIn (pc := 33) 521 554 dL_law_33 (by decide) (by decide) rfl (by decide) ?_
          exact lc_drawing l g pdrawing hR hi6 hL kk
        · refine vx_tableIn (pc := 33) 554 587 dL_law_33 (by decide) (by decide) rfl (by decide) ?_
          exact lc_arc l g parc hR hi6 hL kk
        · refine vx_tableIn (pc := 33) 587 620 dL_law_33 (by decide) (by decide) rfl (by decide) ?_
          exact lc_crosses l g pcrosses hR hi6 hL kk
        · refine vx_tableIn (pc := 33) 620 653 dL_law_33 (by decide) (by decide) rfl (by decide) ?_
          exact lc_behind l g pbehind hR hi6 hL kk
        · refine vx_tableIn (pc := 33) 653 686 dL_law_33 (by decide) (by decide) rfl (by decide) ?_
          exact lc_between l g pbetween hR hi6 hL kk
        · refine vx_tableIn (pc := 33) 686 719 dL_law_33 (by decide) (by decide) rfl (by decide) ?_
          exact lc_mirror l g pmirror hR hi6 hL kk
        · refine vx_tableIn (pc := 33) 729 762 dL_law_33 (by decide) (by decide) rfl (by decide) ?_
          exact lc_full l g pfull hR hi6 hL kk
        · refine vx_tableIn (pc := 33) 742 775 dL_law_33 (by decide) (by decide) rfl (by decide) ?_
          exact lc_odds l g podds hR hi6 hL kk
        · refine vx_tableIn (pc := 33) 776 809 dL_law_33 (by decide) (by decide) rfl (by decide) ?_
          exact lc_touch l g ptouch hR hi6 hL kk
        · refine vx_tableIn (pc := 33) 819 852 dL_law_33 (by decide) (by decide) rfl (by decide) ?_
          exact lc_meet l g pmeet hR hi6 hL kk
        · refine vx_tableIn (pc := 33) 852 885 dL_law_33 (by decide) (by decide) rfl (by decide) ?_
          exact lc_crowd l g pcrowd hR hi6 hL kk
        · refine vx_tableIn (pc := 33) 895 928 dL_law_33 (by decide) (by decide) rfl (by decide) ?_
          exact lc_roll l g proll hR hi6 hL kk
        · refine vx_tableIn (pc := 33) 928 961 dL_law_33 (by decide) (by decide) rfl (by decide) ?_
          exact lc_inked l g pinked hR hi6 hL kk
        · refine vx_tableIn (pc := 33) 951 984 dL_law_33 (by decide) (by decide) rfl (by decide) ?_
          exact lc_ahead l g pahead hR hi6 hL kk
        · refine vx_tableIn (pc := 33) 974 1007 dL_law_33 (by decide) (by decide) rfl (by decide) ?_
          exact lc_fits l g pfits hR hi6 hL kk
        · refine vx_tableIn (pc := 33) 1018 1051 dL_law_33 (by decide) (by decide) rfl (by decide) ?_
          exact lc_kinds l g pkinds hR hi6 hL kk
        · refine vx_tableIn (pc := 33) 1061 1094 dL_law_33 (by decide) (by decide) rfl (by decide) ?_
          exact lc_drawnBy l g pdrawnBy hR hi6 hL kk
        · refine vx_tableIn (pc := 33) 1094 1127 dL_law_33 (by decide) (by decide) rfl (by decide) ?_
          exact lc_judge l g pjudge hR hi6 hL kk
        · refine vx_tableIn (pc := 33) 1127 1160 dL_law_33 (by decide) (by decide) rfl (by decide) ?_
          exact lc_lots l g plots hR hi6 hL kk
        · refine vx_tableIn (pc := 33) 1170 1203 dL_law_33 (by decide) (by decide) rfl (by decide) ?_
          exact lc_list l g plist hR hi6 hL kk
        · refine vx_tableIn (pc := 33) 1203 1236 dL_law_33 (by decide) (by decide) rfl (by decide) ?_
          exact lc_put l g pput hR hi6 hL kk
        · refine vx_tableIn (pc := 33) 1246 1279 dL_law_33 (by decide) (by decide) rfl (by decide) ?_
          exact lc_look l g plook hR hi6 hL kk
        · refine vx_tableIn (pc := 33) 1280 1313 dL_law_33 (by decide) (by decide) rfl (by decide) ?_
          exact lc_lays l g plays hR hi6 hL kk
        · refine vx_tableIn (pc := 33) 1323 1356 dL_law_33 (by decide) (by decide) rfl (by decide) ?_
          exact lc_undo l g pundo hR hi6 hL kk
        · refine vx_tableIn (pc := 33) 1336 1369 dL_law_33 (by decide) (by decide) rfl (by decide) ?_
          exact lc_image l g pimage hR hi6 hL kk
        · refine vx_tableIn (pc := 33) 1349 1382 dL_law_33 (by decide) (by decide) rfl (by decide) ?_
          exact lc_on l g pon hR hi6 hL kk
        · refine vx_tableIn (pc := 33) 1362 1395 dL_law_33 (by decide) (by decide) rfl (by decide) ?_
          exact lc_count l g pcount hR hi6 hL kk
