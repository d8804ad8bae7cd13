/-! the law's own walk, by the pure function of its body -/
def R_law : String := "SlotFleetLaw"
def lw_P (b : Addr) (xs : List Int32) (args : Array Value) (s : State) : Prop := args = #[.ref b] ∧ s.IntsAt b xs ∧ xs.length ≤ 3072 ∧ (Jvm.Cond.and given_1 narrow_1).before args s = true
def lw_Q (_ : Array Value) (s : State) (o : Outcome) (t : State) : Prop := o = .returned (some (.int 1)) ∧ Framed s o t [] 600000 7302250
def lw_Z (below : List Frame) (a : Array Value) (s : State) : State → Prop := fun t => ∃ o, t.status = .running ∧ Ended t below o ∧ lw_Q a s o t
/-- the law's own end, with 1 on the stack, nothing written that was there before, its room as the claim has it -/
theorem lw_ret {p : Program} {l : Launch} {e : Env} {s : State} {m : MethodId} {below : List Frame} {meth : Method} {c : Code} {b : Nat} (hx : p.tables.exec = Jvm.exec) (hb : c.code = code) (hr : meth.sig.returnType = ret) (hlocks : meth.locks = false) {pc : Nat} {H : Heap} {ls : Array Slot} (hdg : decode code pc = .ok (.ireturn, 1)) : W p l e room_1 s m #[Value.ref b] below meth c H [] 600000 7302250 (lw_Z below #[Value.ref b] s) (F0 m pc ls [.int 1]) := by
  intro T hT X
  obtain ⟨fs, hret, hrun, hended, hW, hframe⟩ := X.leave (v := some (.int 1)) (hlocks := hlocks) (fun h => by rw [hr] at h; cases h)
  have hmeth' : T.vm.method? m = some meth := X.method'
  refine ⟨T.setFrames fs, ?_, .returned (some (.int 1)), hrun, hended, rfl, ⟨_, rfl⟩, hW, hframe⟩
  jvm_step X.here [X.here.top, hx, hb, hdg, hmeth', hr, ret, narrow_b1]
  (try refine ⟨rfl, ?_⟩); (try refine ⟨rfl, ?_⟩)
  first | (intro acts; rw [hret _ acts rfl rfl rfl]) | rw [hret _ _ rfl rfl rfl]
  exact Steps.refl _
section ZLaw
variable {Γ : ZG} {p : Program} {l : Launch} {e : Env} {s : State} {m : MethodId} {b : Nat} {below : List Frame} {meth : Method} {c : Code} {cells slots : Nat} {pc : Nat} {lv : List (Nat × Value)} {h : ZH}
theorem z_lret {v : Int32} {r : Int32 × ZH} (hX : some (v, h) = some r) (hr1 : r.1 = 1) (G : z_GG Γ p s m #[Value.ref b] meth c code 4 RL) (hb0 : Γ.2.2.2.1 = s.heap.size) (hr : meth.sig.returnType = ret) (hd : decode code pc = .ok (.ireturn, 1)) (hc : cells ≤ 600000) (hs : slots ≤ 7302250) : z_W Γ p l e room_1 s m #[Value.ref b] below meth c 4 cells slots (lw_Z below #[Value.ref b] s) pc lv [.int v] h := by
  cases hX
  have hv : v = 1 := hr1
  subst hv
  intro H locs ls hP hl hS
  refine va_forget (fun q hq => ?_) ?_
  · rw [← hb0]
    exact hS.2.2 q hq
  refine W.widen hc hs ?_
  exact lw_ret G.2.1 G.2.2.1 hr G.2.2.2.2.2.2.2.2.1 hd
theorem z_lno {P : Prop} {r : Int32 × ZH} (hX : some ((0 : Int32), h) = some r) (hr1 : r.1 = 1) : P := by
  cases hX
  exact absurd (show (0 : Int32) = 1 from hr1) (by decide)
end ZLaw
theorem dL_law_0 : decode cL_law 0 = .ok (.new 7, 3) := by decide +kernel
theorem dL_law_3 : decode cL_law 3 = .ok (.dup, 1) := by decide +kernel
theorem dL_law_4 : decode cL_law 4 = .ok (.invokespecial 9, 3) := by decide +kernel
theorem dL_law_7 : decode cL_law 7 = .ok (.astore_n 1, 1) := by decide +kernel
theorem dL_law_8 : decode cL_law 8 = .ok (.new 10, 3) := by decide +kernel
theorem dL_law_11 : decode cL_law 11 = .ok (.dup, 1) := by decide +kernel
theorem dL_law_12 : decode cL_law 12 = .ok (.invokespecial 12, 3) := by decide +kernel
theorem dL_law_15 : decode cL_law 15 = .ok (.astore_n 2, 1) := by decide +kernel
theorem dL_law_16 : decode cL_law 16 = .ok (.iconst 0, 1) := by decide +kernel
theorem dL_law_17 : decode cL_law 17 = .ok (.istore_n 3, 1) := by decide +kernel
theorem dL_law_18 : decode cL_law 18 = .ok (.iload_n 3, 1) := by decide +kernel
theorem dL_law_19 : decode cL_law 19 = .ok (.aload_n 0, 1) := by decide +kernel
theorem dL_law_20 : decode cL_law 20 = .ok (.arraylength, 1) := by decide +kernel
theorem dL_law_21 : decode cL_law 21 = .ok (.bipush 6, 2) := by decide +kernel
theorem dL_law_23 : decode cL_law 23 = .ok (.isub, 1) := by decide +kernel
theorem dL_law_24 : decode cL_law 24 = .ok (.if_icmp .gt 1542, 3) := by decide +kernel
theorem dL_law_27 : decode cL_law 27 = .ok (.aload_n 0, 1) := by decide +kernel
theorem dL_law_28 : decode cL_law 28 = .ok (.iload_n 3, 1) := by decide +kernel
theorem dL_law_29 : decode cL_law 29 = .ok (.iaload, 1) := by decide +kernel
theorem dL_law_30 : decode cL_law 30 = .ok (.bipush 63, 2) := by decide +kernel
theorem dL_law_32 : decode cL_law 32 = .ok (.iand, 1) := by decide +kernel
theorem dL_law_33 : decode cL_law 33 = .ok (.tableswitch 1527 0 47 #[207, 270, 293, 306, 329, 362, 405, 448, 491, 524, 537, 580, 603, 616, 629, 662, 685, 718, 741, 764, 797, 820, 853, 876, 909, 932, 955, 968, 981, 1024, 1037, 1050, 1073, 1096, 1109, 1132, 1175, 1208, 1231, 1254, 1313, 1336, 1359, 1382, 1415, 1458, 1481, 1504], 207) := by decide +kernel
theorem dL_law_240 : decode cL_law 240 = .ok (.aload_n 1, 1) := by decide +kernel
theorem dL_law_241 : decode cL_law 241 = .ok (.aload_n 0, 1) := by decide +kernel
theorem dL_law_242 : decode cL_law 242 = .ok (.iload_n 3, 1) := by decide +kernel
theorem dL_law_243 : decode cL_law 243 = .ok (.iconst 1, 1) := by decide +kernel
theorem dL_law_244 : decode cL_law 244 = .ok (.iadd, 1) := by decide +kernel
theorem dL_law_245 : decode cL_law 245 = .ok (.iaload, 1) := by decide +kernel
theorem dL_law_246 : decode cL_law 246 = .ok (.aload_n 0, 1) := by decide +kernel
theorem dL_law_247 : decode cL_law 247 = .ok (.iload_n 3, 1) := by decide +kernel
theorem dL_law_248 : decode cL_law 248 = .ok (.iconst 2, 1) := by decide +kernel
theorem dL_law_249 : decode cL_law 249 = .ok (.iadd, 1) := by decide +kernel
theorem dL_law_250 : decode cL_law 250 = .ok (.iaload, 1) := by decide +kernel
theorem dL_law_251 : decode cL_law 251 = .ok (.aload_n 0, 1) := by decide +kernel
theorem dL_law_252 : decode cL_law 252 = .ok (.iload_n 3, 1) := by decide +kernel
theorem dL_law_253 : decode cL_law 253 = .ok (.iconst 3, 1) := by decide +kernel
theorem dL_law_254 : decode cL_law 254 = .ok (.iadd, 1) := by decide +kernel
theorem dL_law_255 : decode cL_law 255 = .ok (.iaload, 1) := by decide +kernel
theorem dL_law_256 : decode cL_law 256 = .ok (.aload_n 0, 1) := by decide +kernel
theorem dL_law_257 : decode cL_law 257 = .ok (.iload_n 3, 1) := by decide +kernel
theorem dL_law_258 : decode cL_law 258 = .ok (.iconst 4, 1) := by decide +kernel
theorem dL_law_259 : decode cL_law 259 = .ok (.iadd, 1) := by decide +kernel
theorem dL_law_260 : decode cL_law 260 = .ok (.iaload, 1) := by decide +kernel
theorem dL_law_261 : decode cL_law 261 = .ok (.aload_n 0, 1) := by decide +kernel
theorem dL_law_262 : decode cL_law 262 = .ok (.iload_n 3, 1) := by decide +kernel
theorem dL_law_263 : decode cL_law 263 = .ok (.iconst 5, 1) := by decide +kernel
theorem dL_law_264 : decode cL_law 264 = .ok (.iadd, 1) := by decide +kernel
theorem dL_law_265 : decode cL_law 265 = .ok (.iaload, 1) := by decide +kernel
theorem dL_law_266 : decode cL_law 266 = .ok (.invokevirtual 13, 3) := by decide +kernel
theorem dL_law_269 : decode cL_law 269 = .ok (.aload_n 2, 1) := by decide +kernel
theorem dL_law_270 : decode cL_law 270 = .ok (.aload_n 0, 1) := by decide +kernel
theorem dL_law_271 : decode cL_law 271 = .ok (.iload_n 3, 1) := by decide +kernel
theorem dL_law_272 : decode cL_law 272 = .ok (.iconst 1, 1) := by decide +kernel
theorem dL_law_273 : decode cL_law 273 = .ok (.iadd, 1) := by decide +kernel
theorem dL_law_274 : decode cL_law 274 = .ok (.iaload, 1) := by decide +kernel
theorem dL_law_275 : decode cL_law 275 = .ok (.aload_n 0, 1) := by decide +kernel
theorem dL_law_276 : decode cL_law 276 = .ok (.iload_n 3, 1) := by decide +kernel
theorem dL_law_277 : decode cL_law 277 = .ok (.iconst 2, 1) := by decide +kernel
theorem dL_law_278 : decode cL_law 278 = .ok (.iadd, 1) := by decide +kernel
theorem dL_law_279 : decode cL_law 279 = .ok (.iaload, 1) := by decide +kernel
theorem dL_law_280 : decode cL_law 280 = .ok (.aload_n 0, 1) := by decide +kernel
theorem dL_law_281 : decode cL_law 281 = .ok (.iload_n 3, 1) := by decide +kernel
theorem dL_law_282 : decode cL_law 282 = .ok (.iconst 3, 1) := by decide +kernel
theorem dL_law_283 : decode cL_law 283 = .ok (.iadd, 1) := by decide +kernel
theorem dL_law_284 : decode cL_law 284 = .ok (.iaload, 1) := by decide +kernel
theorem dL_law_285 : decode cL_law 285 = .ok (.aload_n 0, 1) := by decide +kernel
theorem dL_law_286 : decode cL_law 286 = .ok (.iload_n 3, 1) := by decide +kernel
theorem dL_law_287 : decode cL_law 287 = .ok (.iconst 4, 1) := by decide +kernel
theorem dL_law_288 : decode cL_law 288 = .ok (.iadd, 1) := by decide +kernel
theorem dL_law_289 : decode cL_law 289 = .ok (.iaload, 1) := by decide +kernel
theorem dL_law_290 : decode cL_law 290 = .ok (.aload_n 0, 1) := by decide +kernel
theorem dL_law_291 : decode cL_law 291 = .ok (.iload_n 3, 1) := by decide +kernel
theorem dL_law_292 : decode cL_law 292 = .ok (.iconst 5, 1) := by decide +kernel
theorem dL_law_293 : decode cL_law 293 = .ok (.iadd, 1) := by decide +kernel
theorem dL_law_294 : decode cL_law 294 = .ok (.iaload, 1) := by decide +kernel
theorem dL_law_295 : decode cL_law 295 = .ok (.invokevirtual 17, 3) := by decide +kernel
theorem dL_law_298 : decode cL_law 298 = .ok (.if_icmp .eq 1262, 3) := by decide +kernel
theorem dL_law_301 : decode cL_law 301 = .ok (.iconst 0, 1) := by decide +kernel
theorem dL_law_302 : decode cL_law 302 = .ok (.ireturn, 1) := by decide +kernel
theorem dL_law_303 : decode cL_law 303 = .ok (.aload_n 1, 1) := by decide +kernel
theorem dL_law_304 : decode cL_law 304 = .ok (.aload_n 0, 1) := by decide +kernel
theorem dL_law_305 : decode cL_law 305 = .ok (.iload_n 3, 1) := by decide +kernel
theorem dL_law_306 : decode cL_law 306 = .ok (.iconst 1, 1) := by decide +kernel
theorem dL_law_307 : decode cL_law 307 = .ok (.iadd, 1) := by decide +kernel
theorem dL_law_308 : decode cL_law 308 = .ok (.iaload, 1) := by decide +kernel
theorem dL_law_309 : decode cL_law 309 = .ok (.invokevirtual 18, 3) := by decide +kernel
theorem dL_law_312 : decode cL_law 312 = .ok (.aload_n 2, 1) := by decide +kernel
theorem dL_law_313 : decode cL_law 313 = .ok (.aload_n 0, 1) := by decide +kernel
theorem dL_law_314 : decode cL_law 314 = .ok (.iload_n 3, 1) := by decide +kernel
theorem dL_law_315 : decode cL_law 315 = .ok (.iconst 1, 1) := by decide +kernel
theorem dL_law_316 : decode cL_law 316 = .ok (.iadd, 1) := by decide +kernel
theorem dL_law_317 : decode cL_law 317 = .ok (.iaload, 1) := by decide +kernel
theorem dL_law_318 : decode cL_law 318 = .ok (.invokevirtual 22, 3) := by decide +kernel
theorem dL_law_321 : decode cL_law 321 = .ok (.if_icmp .eq 1239, 3) := by decide +kernel
theorem dL_law_324 : decode cL_law 324 = .ok (.iconst 0, 1) := by decide +kernel
theorem dL_law_325 : decode cL_law 325 = .ok (.ireturn, 1) := by decide +kernel
theorem dL_law_326 : decode cL_law 326 = .ok (.aload_n 1, 1) := by decide +kernel
theorem dL_law_327 : decode cL_law 327 = .ok (.invokevirtual 23, 3) := by decide +kernel
theorem dL_law_330 : decode cL_law 330 = .ok (.aload_n 2, 1) := by decide +kernel
theorem dL_law_331 : decode cL_law 331 = .ok (.invokevirtual 27, 3) := by decide +kernel
theorem dL_law_334 : decode cL_law 334 = .ok (.if_icmp .eq 1226, 3) := by decide +kernel
theorem dL_law_337 : decode cL_law 337 = .ok (.iconst 0, 1) := by decide +kernel
theorem dL_law_338 : decode cL_law 338 = .ok (.ireturn, 1) := by decide +kernel
theorem dL_law_339 : decode cL_law 339 = .ok (.aload_n 1, 1) := by decide +kernel
theorem dL_law_340 : decode cL_law 340 = .ok (.aload_n 0, 1) := by decide +kernel
theorem dL_law_341 : decode cL_law 341 = .ok (.iload_n 3, 1) := by decide +kernel
theorem dL_law_342 : decode cL_law 342 = .ok (.iconst 1, 1) := by decide +kernel
theorem dL_law_343 : decode cL_law 343 = .ok (.iadd, 1) := by decide +kernel
theorem dL_law_344 : decode cL_law 344 = .ok (.iaload, 1) := by decide +kernel
theorem dL_law_345 : decode cL_law 345 = .ok (.invokevirtual 28, 3) := by decide +kernel
theorem dL_law_348 : decode cL_law 348 = .ok (.aload_n 2, 1) := by decide +kernel
theorem dL_law_349 : decode cL_law 349 = .ok (.aload_n 0, 1) := by decide +kernel
theorem dL_law_350 : decode cL_law 350 = .ok (.iload_n 3, 1) := by decide +kernel
theorem dL_law_351 : decode cL_law 351 = .ok (.iconst 1, 1) := by decide +kernel
theorem dL_law_352 : decode cL_law 352 = .ok (.iadd, 1) := by decide +kernel
theorem dL_law_353 : decode cL_law 353 = .ok (.iaload, 1) := by decide +kernel
theorem dL_law_354 : decode cL_law 354 = .ok (.invokevirtual 31, 3) := by decide +kernel
theorem dL_law_357 : decode cL_law 357 = .ok (.if_icmp .eq 1203, 3) := by decide +kernel
theorem dL_law_360 : decode cL_law 360 = .ok (.iconst 0, 1) := by decide +kernel
theorem dL_law_361 : decode cL_law 361 = .ok (.ireturn, 1) := by decide +kernel
theorem dL_law_362 : decode cL_law 362 = .ok (.aload_n 1, 1) := by decide +kernel
theorem dL_law_363 : decode cL_law 363 = .ok (.aload_n 0, 1) := by decide +kernel
theorem dL_law_364 : decode cL_law 364 = .ok (.iload_n 3, 1) := by decide +kernel
theorem dL_law_365 : decode cL_law 365 = .ok (.iconst 1, 1) := by decide +kernel
theorem dL_law_366 : decode cL_law 366 = .ok (.iadd, 1) := by decide +kernel
theorem dL_law_367 : decode cL_law 367 = .ok (.iaload, 1) := by decide +kernel
theorem dL_law_368 : decode cL_law 368 = .ok (.aload_n 0, 1) := by decide +kernel
theorem dL_law_369 : decode cL_law 369 = .ok (.iload_n 3, 1) := by decide +kernel
theorem dL_law_370 : decode cL_law 370 = .ok (.iconst 2, 1) := by decide +kernel
theorem dL_law_371 : decode cL_law 371 = .ok (.iadd, 1) := by decide +kernel
theorem dL_law_372 : decode cL_law 372 = .ok (.iaload, 1) := by decide +kernel
theorem dL_law_373 : decode cL_law 373 = .ok (.invokevirtual 32, 3) := by decide +kernel
theorem dL_law_376 : decode cL_law 376 = .ok (.aload_n 2, 1) := by decide +kernel
theorem dL_law_377 : decode cL_law 377 = .ok (.aload_n 0, 1) := by decide +kernel
theorem dL_law_378 : decode cL_law 378 = .ok (.iload_n 3, 1) := by decide +kernel
theorem dL_law_379 : decode cL_law 379 = .ok (.iconst 1, 1) := by decide +kernel
theorem dL_law_380 : decode cL_law 380 = .ok (.iadd, 1) := by decide +kernel
theorem dL_law_381 : decode cL_law 381 = .ok (.iaload, 1) := by decide +kernel
theorem dL_law_382 : decode cL_law 382 = .ok (.aload_n 0, 1) := by decide +kernel
theorem dL_law_383 : decode cL_law 383 = .ok (.iload_n 3, 1) := by decide +kernel
theorem dL_law_384 : decode cL_law 384 = .ok (.iconst 2, 1) := by decide +kernel
theorem dL_law_385 : decode cL_law 385 = .ok (.iadd, 1) := by decide +kernel
theorem dL_law_386 : decode cL_law 386 = .ok (.iaload, 1) := by decide +kernel
theorem dL_law_387 : decode cL_law 387 = .ok (.invokevirtual 36, 3) := by decide +kernel
theorem dL_law_390 : decode cL_law 390 = .ok (.if_icmp .eq 1170, 3) := by decide +kernel
theorem dL_law_393 : decode cL_law 393 = .ok (.iconst 0, 1) := by decide +kernel
theorem dL_law_394 : decode cL_law 394 = .ok (.ireturn, 1) := by decide +kernel
theorem dL_law_395 : decode cL_law 395 = .ok (.aload_n 1, 1) := by decide +kernel
theorem dL_law_396 : decode cL_law 396 = .ok (.aload_n 0, 1) := by decide +kernel
theorem dL_law_397 : decode cL_law 397 = .ok (.iload_n 3, 1) := by decide +kernel
theorem dL_law_398 : decode cL_law 398 = .ok (.iconst 1, 1) := by decide +kernel
theorem dL_law_399 : decode cL_law 399 = .ok (.iadd, 1) := by decide +kernel
theorem dL_law_400 : decode cL_law 400 = .ok (.iaload, 1) := by decide +kernel
theorem dL_law_401 : decode cL_law 401 = .ok (.aload_n 0, 1) := by decide +kernel
theorem dL_law_402 : decode cL_law 402 = .ok (.iload_n 3, 1) := by decide +kernel
theorem dL_law_403 : decode cL_law 403 = .ok (.iconst 2, 1) := by decide +kernel
theorem dL_law_404 : decode cL_law 404 = .ok (.iadd, 1) := by decide +kernel
theorem dL_law_405 : decode cL_law 405 = .ok (.iaload, 1) := by decide +kernel
theorem dL_law_406 : decode cL_law 406 = .ok (.aload_n 0, 1) := by decide +kernel
theorem dL_law_407 : decode cL_law 407 = .ok (.iload_n 3, 1) := by decide +kernel
theorem dL_law_408 : decode cL_law 408 = .ok (.iconst 3, 1) := by decide +kernel
theorem dL_law_409 : decode cL_law 409 = .ok (.iadd, 1) := by decide +kernel
theorem dL_law_410 : decode cL_law 410 = .ok (.iaload, 1) := by decide +kernel
theorem dL_law_411 : decode cL_law 411 = .ok (.invokevirtual 37, 3) := by decide +kernel
theorem dL_law_414 : decode cL_law 414 = .ok (.aload_n 2, 1) := by decide +kernel
theorem dL_law_415 : decode cL_law 415 = .ok (.aload_n 0, 1) := by decide +kernel
theorem dL_law_416 : decode cL_law 416 = .ok (.iload_n 3, 1) := by decide +kernel
theorem dL_law_417 : decode cL_law 417 = .ok (.iconst 1, 1) := by decide +kernel
theorem dL_law_418 : decode cL_law 418 = .ok (.iadd, 1) := by decide +kernel
theorem dL_law_419 : decode cL_law 419 = .ok (.iaload, 1) := by decide +kernel
theorem dL_law_420 : decode cL_law 420 = .ok (.aload_n 0, 1) := by decide +kernel
theorem dL_law_421 : decode cL_law 421 = .ok (.iload_n 3, 1) := by decide +kernel
theorem dL_law_422 : decode cL_law 422 = .ok (.iconst 2, 1) := by decide +kernel
theorem dL_law_423 : decode cL_law 423 = .ok (.iadd, 1) := by decide +kernel
theorem dL_law_424 : decode cL_law 424 = .ok (.iaload, 1) := by decide +kernel
theorem dL_law_425 : decode cL_law 425 = .ok (.aload_n 0, 1) := by decide +kernel
theorem dL_law_426 : decode cL_law 426 = .ok (.iload_n 3, 1) := by decide +kernel
theorem dL_law_427 : decode cL_law 427 = .ok (.iconst 3, 1) := by decide +kernel
theorem dL_law_428 : decode cL_law 428 = .ok (.iadd, 1) := by decide +kernel
theorem dL_law_429 : decode cL_law 429 = .ok (.iaload, 1) := by decide +kernel
theorem dL_law_430 : decode cL_law 430 = .ok (.invokevirtual 41, 3) := by decide +kernel
theorem dL_law_433 : decode cL_law 433 = .ok (.if_icmp .eq 1127, 3) := by decide +kernel
theorem dL_law_436 : decode cL_law 436 = .ok (.iconst 0, 1) := by decide +kernel
theorem dL_law_437 : decode cL_law 437 = .ok (.ireturn, 1) := by decide +kernel
theorem dL_law_438 : decode cL_law 438 = .ok (.aload_n 1, 1) := by decide +kernel
theorem dL_law_439 : decode cL_law 439 = .ok (.aload_n 0, 1) := by decide +kernel
theorem dL_law_440 : decode cL_law 440 = .ok (.iload_n 3, 1) := by decide +kernel
theorem dL_law_441 : decode cL_law 441 = .ok (.iconst 1, 1) := by decide +kernel
theorem dL_law_442 : decode cL_law 442 = .ok (.iadd, 1) := by decide +kernel
theorem dL_law_443 : decode cL_law 443 = .ok (.iaload, 1) := by decide +kernel
theorem dL_law_444 : decode cL_law 444 = .ok (.aload_n 0, 1) := by decide +kernel
theorem dL_law_445 : decode cL_law 445 = .ok (.iload_n 3, 1) := by decide +kernel
theorem dL_law_446 : decode cL_law 446 = .ok (.iconst 2, 1) := by decide +kernel
theorem dL_law_447 : decode cL_law 447 = .ok (.iadd, 1) := by decide +kernel
theorem dL_law_448 : decode cL_law 448 = .ok (.iaload, 1) := by decide +kernel
theorem dL_law_449 : decode cL_law 449 = .ok (.aload_n 0, 1) := by decide +kernel
theorem dL_law_450 : decode cL_law 450 = .ok (.iload_n 3, 1) := by decide +kernel
theorem dL_law_451 : decode cL_law 451 = .ok (.iconst 3, 1) := by decide +kernel
theorem dL_law_452 : decode cL_law 452 = .ok (.iadd, 1) := by decide +kernel
theorem dL_law_453 : decode cL_law 453 = .ok (.iaload, 1) := by decide +kernel
theorem dL_law_454 : decode cL_law 454 = .ok (.invokevirtual 42, 3) := by decide +kernel
theorem dL_law_457 : decode cL_law 457 = .ok (.aload_n 2, 1) := by decide +kernel
theorem dL_law_458 : decode cL_law 458 = .ok (.aload_n 0, 1) := by decide +kernel
theorem dL_law_459 : decode cL_law 459 = .ok (.iload_n 3, 1) := by decide +kernel
theorem dL_law_460 : decode cL_law 460 = .ok (.iconst 1, 1) := by decide +kernel
theorem dL_law_461 : decode cL_law 461 = .ok (.iadd, 1) := by decide +kernel
theorem dL_law_462 : decode cL_law 462 = .ok (.iaload, 1) := by decide +kernel
theorem dL_law_463 : decode cL_law 463 = .ok (.aload_n 0, 1) := by decide +kernel
theorem dL_law_464 : decode cL_law 464 = .ok (.iload_n 3, 1) := by decide +kernel
theorem dL_law_465 : decode cL_law 465 = .ok (.iconst 2, 1) := by decide +kernel
theorem dL_law_466 : decode cL_law 466 = .ok (.iadd, 1) := by decide +kernel
theorem dL_law_467 : decode cL_law 467 = .ok (.iaload, 1) := by decide +kernel
theorem dL_law_468 : decode cL_law 468 = .ok (.aload_n 0, 1) := by decide +kernel
theorem dL_law_469 : decode cL_law 469 = .ok (.iload_n 3, 1) := by decide +kernel
theorem dL_law_470 : decode cL_law 470 = .ok (.iconst 3, 1) := by decide +kernel
theorem dL_law_471 : decode cL_law 471 = .ok (.iadd, 1) := by decide +kernel
theorem dL_law_472 : decode cL_law 472 = .ok (.iaload, 1) := by decide +kernel
theorem dL_law_473 : decode cL_law 473 = .ok (.invokevirtual 45, 3) := by decide +kernel
theorem dL_law_476 : decode cL_law 476 = .ok (.if_icmp .eq 1084, 3) := by decide +kernel
theorem dL_law_479 : decode cL_law 479 = .ok (.iconst 0, 1) := by decide +kernel
theorem dL_law_480 : decode cL_law 480 = .ok (.ireturn, 1) := by decide +kernel
theorem dL_law_481 : decode cL_law 481 = .ok (.aload_n 1, 1) := by decide +kernel
theorem dL_law_482 : decode cL_law 482 = .ok (.aload_n 0, 1) := by decide +kernel
theorem dL_law_483 : decode cL_law 483 = .ok (.iload_n 3, 1) := by decide +kernel
theorem dL_law_484 : decode cL_law 484 = .ok (.iconst 1, 1) := by decide +kernel
theorem dL_law_485 : decode cL_law 485 = .ok (.iadd, 1) := by decide +kernel
theorem dL_law_486 : decode cL_law 486 = .ok (.iaload, 1) := by decide +kernel
theorem dL_law_487 : decode cL_law 487 = .ok (.aload_n 0, 1) := by decide +kernel
theorem dL_law_488 : decode cL_law 488 = .ok (.iload_n 3, 1) := by decide +kernel
theorem dL_law_489 : decode cL_law 489 = .ok (.iconst 2, 1) := by decide +kernel
theorem dL_law_490 : decode cL_law 490 = .ok (.iadd, 1) := by decide +kernel
theorem dL_law_491 : decode cL_law 491 = .ok (.iaload, 1) := by decide +kernel
theorem dL_law_492 : decode cL_law 492 = .ok (.aload_n 0, 1) := by decide +kernel
theorem dL_law_493 : decode cL_law 493 = .ok (.iload_n 3, 1) := by decide +kernel
theorem dL_law_494 : decode cL_law 494 = .ok (.iconst 3, 1) := by decide +kernel
theorem dL_law_495 : decode cL_law 495 = .ok (.iadd, 1) := by decide +kernel
theorem dL_law_496 : decode cL_law 496 = .ok (.iaload, 1) := by decide +kernel
theorem dL_law_497 : decode cL_law 497 = .ok (.invokevirtual 46, 3) := by decide +kernel
theorem dL_law_500 : decode cL_law 500 = .ok (.aload_n 2, 1) := by decide +kernel
theorem dL_law_501 : decode cL_law 501 = .ok (.aload_n 0, 1) := by decide +kernel
theorem dL_law_502 : decode cL_law 502 = .ok (.iload_n 3, 1) := by decide +kernel
theorem dL_law_503 : decode cL_law 503 = .ok (.iconst 1, 1) := by decide +kernel
theorem dL_law_504 : decode cL_law 504 = .ok (.iadd, 1) := by decide +kernel
theorem dL_law_505 : decode cL_law 505 = .ok (.iaload, 1) := by decide +kernel
theorem dL_law_506 : decode cL_law 506 = .ok (.aload_n 0, 1) := by decide +kernel
theorem dL_law_507 : decode cL_law 507 = .ok (.iload_n 3, 1) := by decide +kernel
theorem dL_law_508 : decode cL_law 508 = .ok (.iconst 2, 1) := by decide +kernel
theorem dL_law_509 : decode cL_law 509 = .ok (.iadd, 1) := by decide +kernel
theorem dL_law_510 : decode cL_law 510 = .ok (.iaload, 1) := by decide +kernel
theorem dL_law_511 : decode cL_law 511 = .ok (.aload_n 0, 1) := by decide +kernel
theorem dL_law_512 : decode cL_law 512 = .ok (.iload_n 3, 1) := by decide +kernel
theorem dL_law_513 : decode cL_law 513 = .ok (.iconst 3, 1) := by decide +kernel
theorem dL_law_514 : decode cL_law 514 = .ok (.iadd, 1) := by decide +kernel
theorem dL_law_515 : decode cL_law 515 = .ok (.iaload, 1) := by decide +kernel
theorem dL_law_516 : decode cL_law 516 = .ok (.invokevirtual 49, 3) := by decide +kernel
theorem dL_law_519 : decode cL_law 519 = .ok (.if_icmp .eq 1041, 3) := by decide +kernel
theorem dL_law_522 : decode cL_law 522 = .ok (.iconst 0, 1) := by decide +kernel
theorem dL_law_523 : decode cL_law 523 = .ok (.ireturn, 1) := by decide +kernel
theorem dL_law_524 : decode cL_law 524 = .ok (.aload_n 1, 1) := by decide +kernel
theorem dL_law_525 : decode cL_law 525 = .ok (.aload_n 0, 1) := by decide +kernel
theorem dL_law_526 : decode cL_law 526 = .ok (.iload_n 3, 1) := by decide +kernel
theorem dL_law_527 : decode cL_law 527 = .ok (.iconst 1, 1) := by decide +kernel
theorem dL_law_528 : decode cL_law 528 = .ok (.iadd, 1) := by decide +kernel
theorem dL_law_529 : decode cL_law 529 = .ok (.iaload, 1) := by decide +kernel
theorem dL_law_530 : decode cL_law 530 = .ok (.aload_n 0, 1) := by decide +kernel
theorem dL_law_531 : decode cL_law 531 = .ok (.iload_n 3, 1) := by decide +kernel
theorem dL_law_532 : decode cL_law 532 = .ok (.iconst 2, 1) := by decide +kernel
theorem dL_law_533 : decode cL_law 533 = .ok (.iadd, 1) := by decide +kernel
theorem dL_law_534 : decode cL_law 534 = .ok (.iaload, 1) := by decide +kernel
theorem dL_law_535 : decode cL_law 535 = .ok (.invokevirtual 50, 3) := by decide +kernel
theorem dL_law_538 : decode cL_law 538 = .ok (.aload_n 2, 1) := by decide +kernel
theorem dL_law_539 : decode cL_law 539 = .ok (.aload_n 0, 1) := by decide +kernel
theorem dL_law_540 : decode cL_law 540 = .ok (.iload_n 3, 1) := by decide +kernel
theorem dL_law_541 : decode cL_law 541 = .ok (.iconst 1, 1) := by decide +kernel
theorem dL_law_542 : decode cL_law 542 = .ok (.iadd, 1) := by decide +kernel
theorem dL_law_543 : decode cL_law 543 = .ok (.iaload, 1) := by decide +kernel
theorem dL_law_544 : decode cL_law 544 = .ok (.aload_n 0, 1) := by decide +kernel
theorem dL_law_545 : decode cL_law 545 = .ok (.iload_n 3, 1) := by decide +kernel
theorem dL_law_546 : decode cL_law 546 = .ok (.iconst 2, 1) := by decide +kernel
theorem dL_law_547 : decode cL_law 547 = .ok (.iadd, 1) := by decide +kernel
theorem dL_law_548 : decode cL_law 548 = .ok (.iaload, 1) := by decide +kernel
theorem dL_law_549 : decode cL_law 549 = .ok (.invokevirtual 53, 3) := by decide +kernel
theorem dL_law_552 : decode cL_law 552 = .ok (.if_icmp .eq 1008, 3) := by decide +kernel
theorem dL_law_555 : decode cL_law 555 = .ok (.iconst 0, 1) := by decide +kernel
theorem dL_law_556 : decode cL_law 556 = .ok (.ireturn, 1) := by decide +kernel
theorem dL_law_557 : decode cL_law 557 = .ok (.aload_n 1, 1) := by decide +kernel
theorem dL_law_558 : decode cL_law 558 = .ok (.invokevirtual 54, 3) := by decide +kernel
theorem dL_law_561 : decode cL_law 561 = .ok (.aload_n 2, 1) := by decide +kernel
theorem dL_law_562 : decode cL_law 562 = .ok (.invokevirtual 57, 3) := by decide +kernel
theorem dL_law_565 : decode cL_law 565 = .ok (.if_icmp .eq 995, 3) := by decide +kernel
theorem dL_law_568 : decode cL_law 568 = .ok (.iconst 0, 1) := by decide +kernel
theorem dL_law_569 : decode cL_law 569 = .ok (.ireturn, 1) := by decide +kernel
theorem dL_law_570 : decode cL_law 570 = .ok (.aload_n 1, 1) := by decide +kernel
theorem dL_law_571 : decode cL_law 571 = .ok (.aload_n 0, 1) := by decide +kernel
theorem dL_law_572 : decode cL_law 572 = .ok (.iload_n 3, 1) := by decide +kernel
theorem dL_law_573 : decode cL_law 573 = .ok (.iconst 1, 1) := by decide +kernel
theorem dL_law_574 : decode cL_law 574 = .ok (.iadd, 1) := by decide +kernel
theorem dL_law_575 : decode cL_law 575 = .ok (.iaload, 1) := by decide +kernel
theorem dL_law_576 : decode cL_law 576 = .ok (.aload_n 0, 1) := by decide +kernel
theorem dL_law_577 : decode cL_law 577 = .ok (.iload_n 3, 1) := by decide +kernel
theorem dL_law_578 : decode cL_law 578 = .ok (.iconst 2, 1) := by decide +kernel
theorem dL_law_579 : decode cL_law 579 = .ok (.iadd, 1) := by decide +kernel
theorem dL_law_580 : decode cL_law 580 = .ok (.iaload, 1) := by decide +kernel
theorem dL_law_581 : decode cL_law 581 = .ok (.aload_n 0, 1) := by decide +kernel
theorem dL_law_582 : decode cL_law 582 = .ok (.iload_n 3, 1) := by decide +kernel
theorem dL_law_583 : decode cL_law 583 = .ok (.iconst 3, 1) := by decide +kernel
theorem dL_law_584 : decode cL_law 584 = .ok (.iadd, 1) := by decide +kernel
theorem dL_law_585 : decode cL_law 585 = .ok (.iaload, 1) := by decide +kernel
theorem dL_law_586 : decode cL_law 586 = .ok (.invokevirtual 58, 3) := by decide +kernel
theorem dL_law_589 : decode cL_law 589 = .ok (.aload_n 2, 1) := by decide +kernel
theorem dL_law_590 : decode cL_law 590 = .ok (.aload_n 0, 1) := by decide +kernel
theorem dL_law_591 : decode cL_law 591 = .ok (.iload_n 3, 1) := by decide +kernel
theorem dL_law_592 : decode cL_law 592 = .ok (.iconst 1, 1) := by decide +kernel
theorem dL_law_593 : decode cL_law 593 = .ok (.iadd, 1) := by decide +kernel
theorem dL_law_594 : decode cL_law 594 = .ok (.iaload, 1) := by decide +kernel
theorem dL_law_595 : decode cL_law 595 = .ok (.aload_n 0, 1) := by decide +kernel
theorem dL_law_596 : decode cL_law 596 = .ok (.iload_n 3, 1) := by decide +kernel
theorem dL_law_597 : decode cL_law 597 = .ok (.iconst 2, 1) := by decide +kernel
theorem dL_law_598 : decode cL_law 598 = .ok (.iadd, 1) := by decide +kernel
theorem dL_law_599 : decode cL_law 599 = .ok (.iaload, 1) := by decide +kernel
theorem dL_law_600 : decode cL_law 600 = .ok (.aload_n 0, 1) := by decide +kernel
theorem dL_law_601 : decode cL_law 601 = .ok (.iload_n 3, 1) := by decide +kernel
theorem dL_law_602 : decode cL_law 602 = .ok (.iconst 3, 1) := by decide +kernel
theorem dL_law_603 : decode cL_law 603 = .ok (.iadd, 1) := by decide +kernel
theorem dL_law_604 : decode cL_law 604 = .ok (.iaload, 1) := by decide +kernel
theorem dL_law_605 : decode cL_law 605 = .ok (.invokevirtual 61, 3) := by decide +kernel
theorem dL_law_608 : decode cL_law 608 = .ok (.if_icmp .eq 952, 3) := by decide +kernel
theorem dL_law_611 : decode cL_law 611 = .ok (.iconst 0, 1) := by decide +kernel
theorem dL_law_612 : decode cL_law 612 = .ok (.ireturn, 1) := by decide +kernel
theorem dL_law_613 : decode cL_law 613 = .ok (.aload_n 1, 1) := by decide +kernel
theorem dL_law_614 : decode cL_law 614 = .ok (.aload_n 0, 1) := by decide +kernel
theorem dL_law_615 : decode cL_law 615 = .ok (.iload_n 3, 1) := by decide +kernel
theorem dL_law_616 : decode cL_law 616 = .ok (.iconst 1, 1) := by decide +kernel
theorem dL_law_617 : decode cL_law 617 = .ok (.iadd, 1) := by decide +kernel
theorem dL_law_618 : decode cL_law 618 = .ok (.iaload, 1) := by decide +kernel
theorem dL_law_619 : decode cL_law 619 = .ok (.invokevirtual 62, 3) := by decide +kernel
theorem dL_law_622 : decode cL_law 622 = .ok (.aload_n 2, 1) := by decide +kernel
theorem dL_law_623 : decode cL_law 623 = .ok (.aload_n 0, 1) := by decide +kernel
theorem dL_law_624 : decode cL_law 624 = .ok (.iload_n 3, 1) := by decide +kernel
theorem dL_law_625 : decode cL_law 625 = .ok (.iconst 1, 1) := by decide +kernel
theorem dL_law_626 : decode cL_law 626 = .ok (.iadd, 1) := by decide +kernel
theorem dL_law_627 : decode cL_law 627 = .ok (.iaload, 1) := by decide +kernel
theorem dL_law_628 : decode cL_law 628 = .ok (.invokevirtual 65, 3) := by decide +kernel
theorem dL_law_631 : decode cL_law 631 = .ok (.if_icmp .eq 929, 3) := by decide +kernel
theorem dL_law_634 : decode cL_law 634 = .ok (.iconst 0, 1) := by decide +kernel
theorem dL_law_635 : decode cL_law 635 = .ok (.ireturn, 1) := by decide +kernel
theorem dL_law_636 : decode cL_law 636 = .ok (.aload_n 1, 1) := by decide +kernel
theorem dL_law_637 : decode cL_law 637 = .ok (.invokevirtual 66, 3) := by decide +kernel
theorem dL_law_640 : decode cL_law 640 = .ok (.aload_n 2, 1) := by decide +kernel
theorem dL_law_641 : decode cL_law 641 = .ok (.invokevirtual 70, 3) := by decide +kernel
theorem dL_law_644 : decode cL_law 644 = .ok (.if_icmp .eq 916, 3) := by decide +kernel
theorem dL_law_647 : decode cL_law 647 = .ok (.iconst 0, 1) := by decide +kernel
theorem dL_law_648 : decode cL_law 648 = .ok (.ireturn, 1) := by decide +kernel
theorem dL_law_649 : decode cL_law 649 = .ok (.aload_n 1, 1) := by decide +kernel
theorem dL_law_650 : decode cL_law 650 = .ok (.invokevirtual 71, 3) := by decide +kernel
theorem dL_law_653 : decode cL_law 653 = .ok (.aload_n 2, 1) := by decide +kernel
theorem dL_law_654 : decode cL_law 654 = .ok (.invokevirtual 74, 3) := by decide +kernel
theorem dL_law_657 : decode cL_law 657 = .ok (.if_icmp .eq 903, 3) := by decide +kernel
theorem dL_law_660 : decode cL_law 660 = .ok (.iconst 0, 1) := by decide +kernel
theorem dL_law_661 : decode cL_law 661 = .ok (.ireturn, 1) := by decide +kernel
theorem dL_law_662 : decode cL_law 662 = .ok (.aload_n 1, 1) := by decide +kernel
theorem dL_law_663 : decode cL_law 663 = .ok (.aload_n 0, 1) := by decide +kernel
theorem dL_law_664 : decode cL_law 664 = .ok (.iload_n 3, 1) := by decide +kernel
theorem dL_law_665 : decode cL_law 665 = .ok (.iconst 1, 1) := by decide +kernel
theorem dL_law_666 : decode cL_law 666 = .ok (.iadd, 1) := by decide +kernel
theorem dL_law_667 : decode cL_law 667 = .ok (.iaload, 1) := by decide +kernel
theorem dL_law_668 : decode cL_law 668 = .ok (.aload_n 0, 1) := by decide +kernel
theorem dL_law_669 : decode cL_law 669 = .ok (.iload_n 3, 1) := by decide +kernel
theorem dL_law_670 : decode cL_law 670 = .ok (.iconst 2, 1) := by decide +kernel
theorem dL_law_671 : decode cL_law 671 = .ok (.iadd, 1) := by decide +kernel
theorem dL_law_672 : decode cL_law 672 = .ok (.iaload, 1) := by decide +kernel
theorem dL_law_673 : decode cL_law 673 = .ok (.invokevirtual 75, 3) := by decide +kernel
theorem dL_law_676 : decode cL_law 676 = .ok (.aload_n 2, 1) := by decide +kernel
theorem dL_law_677 : decode cL_law 677 = .ok (.aload_n 0, 1) := by decide +kernel
theorem dL_law_678 : decode cL_law 678 = .ok (.iload_n 3, 1) := by decide +kernel
theorem dL_law_679 : decode cL_law 679 = .ok (.iconst 1, 1) := by decide +kernel
theorem dL_law_680 : decode cL_law 680 = .ok (.iadd, 1) := by decide +kernel
theorem dL_law_681 : decode cL_law 681 = .ok (.iaload, 1) := by decide +kernel
theorem dL_law_682 : decode cL_law 682 = .ok (.aload_n 0, 1) := by decide +kernel
theorem dL_law_683 : decode cL_law 683 = .ok (.iload_n 3, 1) := by decide +kernel
theorem dL_law_684 : decode cL_law 684 = .ok (.iconst 2, 1) := by decide +kernel
theorem dL_law_685 : decode cL_law 685 = .ok (.iadd, 1) := by decide +kernel
theorem dL_law_686 : decode cL_law 686 = .ok (.iaload, 1) := by decide +kernel
theorem dL_law_687 : decode cL_law 687 = .ok (.invokevirtual 78, 3) := by decide +kernel
theorem dL_law_690 : decode cL_law 690 = .ok (.if_icmp .eq 870, 3) := by decide +kernel
theorem dL_law_693 : decode cL_law 693 = .ok (.iconst 0, 1) := by decide +kernel
theorem dL_law_694 : decode cL_law 694 = .ok (.ireturn, 1) := by decide +kernel
theorem dL_law_695 : decode cL_law 695 = .ok (.aload_n 1, 1) := by decide +kernel
theorem dL_law_696 : decode cL_law 696 = .ok (.aload_n 0, 1) := by decide +kernel
theorem dL_law_697 : decode cL_law 697 = .ok (.iload_n 3, 1) := by decide +kernel
theorem dL_law_698 : decode cL_law 698 = .ok (.iconst 1, 1) := by decide +kernel
theorem dL_law_699 : decode cL_law 699 = .ok (.iadd, 1) := by decide +kernel
theorem dL_law_700 : decode cL_law 700 = .ok (.iaload, 1) := by decide +kernel
theorem dL_law_701 : decode cL_law 701 = .ok (.invokevirtual 79, 3) := by decide +kernel
theorem dL_law_704 : decode cL_law 704 = .ok (.aload_n 2, 1) := by decide +kernel
theorem dL_law_705 : decode cL_law 705 = .ok (.aload_n 0, 1) := by decide +kernel
theorem dL_law_706 : decode cL_law 706 = .ok (.iload_n 3, 1) := by decide +kernel
theorem dL_law_707 : decode cL_law 707 = .ok (.iconst 1, 1) := by decide +kernel
theorem dL_law_708 : decode cL_law 708 = .ok (.iadd, 1) := by decide +kernel
theorem dL_law_709 : decode cL_law 709 = .ok (.iaload, 1) := by decide +kernel
theorem dL_law_710 : decode cL_law 710 = .ok (.invokevirtual 82, 3) := by decide +kernel
theorem dL_law_713 : decode cL_law 713 = .ok (.if_icmp .eq 847, 3) := by decide +kernel
theorem dL_law_716 : decode cL_law 716 = .ok (.iconst 0, 1) := by decide +kernel
theorem dL_law_717 : decode cL_law 717 = .ok (.ireturn, 1) := by decide +kernel
theorem dL_law_718 : decode cL_law 718 = .ok (.aload_n 1, 1) := by decide +kernel
theorem dL_law_719 : decode cL_law 719 = .ok (.aload_n 0, 1) := by decide +kernel
theorem dL_law_720 : decode cL_law 720 = .ok (.iload_n 3, 1) := by decide +kernel
theorem dL_law_721 : decode cL_law 721 = .ok (.iconst 1, 1) := by decide +kernel
theorem dL_law_722 : decode cL_law 722 = .ok (.iadd, 1) := by decide +kernel
theorem dL_law_723 : decode cL_law 723 = .ok (.iaload, 1) := by decide +kernel
theorem dL_law_724 : decode cL_law 724 = .ok (.aload_n 0, 1) := by decide +kernel
theorem dL_law_725 : decode cL_law 725 = .ok (.iload_n 3, 1) := by decide +kernel
theorem dL_law_726 : decode cL_law 726 = .ok (.iconst 2, 1) := by decide +kernel
theorem dL_law_727 : decode cL_law 727 = .ok (.iadd, 1) := by decide +kernel
theorem dL_law_728 : decode cL_law 728 = .ok (.iaload, 1) := by decide +kernel
theorem dL_law_729 : decode cL_law 729 = .ok (.invokevirtual 83, 3) := by decide +kernel
theorem dL_law_732 : decode cL_law 732 = .ok (.aload_n 2, 1) := by decide +kernel
theorem dL_law_733 : decode cL_law 733 = .ok (.aload_n 0, 1) := by decide +kernel
theorem dL_law_734 : decode cL_law 734 = .ok (.iload_n 3, 1) := by decide +kernel
theorem dL_law_735 : decode cL_law 735 = .ok (.iconst 1, 1) := by decide +kernel
theorem dL_law_736 : decode cL_law 736 = .ok (.iadd, 1) := by decide +kernel
theorem dL_law_737 : decode cL_law 737 = .ok (.iaload, 1) := by decide +kernel
theorem dL_law_738 : decode cL_law 738 = .ok (.aload_n 0, 1) := by decide +kernel
theorem dL_law_739 : decode cL_law 739 = .ok (.iload_n 3, 1) := by decide +kernel
theorem dL_law_740 : decode cL_law 740 = .ok (.iconst 2, 1) := by decide +kernel
theorem dL_law_741 : decode cL_law 741 = .ok (.iadd, 1) := by decide +kernel
theorem dL_law_742 : decode cL_law 742 = .ok (.iaload, 1) := by decide +kernel
theorem dL_law_743 : decode cL_law 743 = .ok (.invokevirtual 86, 3) := by decide +kernel
theorem dL_law_746 : decode cL_law 746 = .ok (.if_icmp .eq 814, 3) := by decide +kernel
theorem dL_law_749 : decode cL_law 749 = .ok (.iconst 0, 1) := by decide +kernel
theorem dL_law_750 : decode cL_law 750 = .ok (.ireturn, 1) := by decide +kernel
theorem dL_law_751 : decode cL_law 751 = .ok (.aload_n 1, 1) := by decide +kernel
theorem dL_law_752 : decode cL_law 752 = .ok (.aload_n 0, 1) := by decide +kernel
theorem dL_law_753 : decode cL_law 753 = .ok (.iload_n 3, 1) := by decide +kernel
theorem dL_law_754 : decode cL_law 754 = .ok (.iconst 1, 1) := by decide +kernel
theorem dL_law_755 : decode cL_law 755 = .ok (.iadd, 1) := by decide +kernel
theorem dL_law_756 : decode cL_law 756 = .ok (.iaload, 1) := by decide +kernel
theorem dL_law_757 : decode cL_law 757 = .ok (.invokevirtual 87, 3) := by decide +kernel
theorem dL_law_760 : decode cL_law 760 = .ok (.aload_n 2, 1) := by decide +kernel
theorem dL_law_761 : decode cL_law 761 = .ok (.aload_n 0, 1) := by decide +kernel
theorem dL_law_762 : decode cL_law 762 = .ok (.iload_n 3, 1) := by decide +kernel
theorem dL_law_763 : decode cL_law 763 = .ok (.iconst 1, 1) := by decide +kernel
theorem dL_law_764 : decode cL_law 764 = .ok (.iadd, 1) := by decide +kernel
theorem dL_law_765 : decode cL_law 765 = .ok (.iaload, 1) := by decide +kernel
theorem dL_law_766 : decode cL_law 766 = .ok (.invokevirtual 90, 3) := by decide +kernel
theorem dL_law_769 : decode cL_law 769 = .ok (.if_icmp .eq 791, 3) := by decide +kernel
theorem dL_law_772 : decode cL_law 772 = .ok (.iconst 0, 1) := by decide +kernel
theorem dL_law_773 : decode cL_law 773 = .ok (.ireturn, 1) := by decide +kernel
theorem dL_law_774 : decode cL_law 774 = .ok (.aload_n 1, 1) := by decide +kernel
theorem dL_law_775 : decode cL_law 775 = .ok (.aload_n 0, 1) := by decide +kernel
theorem dL_law_776 : decode cL_law 776 = .ok (.iload_n 3, 1) := by decide +kernel
theorem dL_law_777 : decode cL_law 777 = .ok (.iconst 1, 1) := by decide +kernel
theorem dL_law_778 : decode cL_law 778 = .ok (.iadd, 1) := by decide +kernel
theorem dL_law_779 : decode cL_law 779 = .ok (.iaload, 1) := by decide +kernel
theorem dL_law_780 : decode cL_law 780 = .ok (.invokevirtual 91, 3) := by decide +kernel
theorem dL_law_783 : decode cL_law 783 = .ok (.aload_n 2, 1) := by decide +kernel
theorem dL_law_784 : decode cL_law 784 = .ok (.aload_n 0, 1) := by decide +kernel
theorem dL_law_785 : decode cL_law 785 = .ok (.iload_n 3, 1) := by decide +kernel
theorem dL_law_786 : decode cL_law 786 = .ok (.iconst 1, 1) := by decide +kernel
theorem dL_law_787 : decode cL_law 787 = .ok (.iadd, 1) := by decide +kernel
theorem dL_law_788 : decode cL_law 788 = .ok (.iaload, 1) := by decide +kernel
theorem dL_law_789 : decode cL_law 789 = .ok (.invokevirtual 94, 3) := by decide +kernel
theorem dL_law_792 : decode cL_law 792 = .ok (.if_icmp .eq 768, 3) := by decide +kernel
theorem dL_law_795 : decode cL_law 795 = .ok (.iconst 0, 1) := by decide +kernel
theorem dL_law_796 : decode cL_law 796 = .ok (.ireturn, 1) := by decide +kernel
theorem dL_law_797 : decode cL_law 797 = .ok (.aload_n 1, 1) := by decide +kernel
theorem dL_law_798 : decode cL_law 798 = .ok (.aload_n 0, 1) := by decide +kernel
theorem dL_law_799 : decode cL_law 799 = .ok (.iload_n 3, 1) := by decide +kernel
theorem dL_law_800 : decode cL_law 800 = .ok (.iconst 1, 1) := by decide +kernel
theorem dL_law_801 : decode cL_law 801 = .ok (.iadd, 1) := by decide +kernel
theorem dL_law_802 : decode cL_law 802 = .ok (.iaload, 1) := by decide +kernel
theorem dL_law_803 : decode cL_law 803 = .ok (.aload_n 0, 1) := by decide +kernel
theorem dL_law_804 : decode cL_law 804 = .ok (.iload_n 3, 1) := by decide +kernel
theorem dL_law_805 : decode cL_law 805 = .ok (.iconst 2, 1) := by decide +kernel
theorem dL_law_806 : decode cL_law 806 = .ok (.iadd, 1) := by decide +kernel
theorem dL_law_807 : decode cL_law 807 = .ok (.iaload, 1) := by decide +kernel
theorem dL_law_808 : decode cL_law 808 = .ok (.invokevirtual 95, 3) := by decide +kernel
theorem dL_law_811 : decode cL_law 811 = .ok (.aload_n 2, 1) := by decide +kernel
theorem dL_law_812 : decode cL_law 812 = .ok (.aload_n 0, 1) := by decide +kernel
theorem dL_law_813 : decode cL_law 813 = .ok (.iload_n 3, 1) := by decide +kernel
theorem dL_law_814 : decode cL_law 814 = .ok (.iconst 1, 1) := by decide +kernel
theorem dL_law_815 : decode cL_law 815 = .ok (.iadd, 1) := by decide +kernel
theorem dL_law_816 : decode cL_law 816 = .ok (.iaload, 1) := by decide +kernel
theorem dL_law_817 : decode cL_law 817 = .ok (.aload_n 0, 1) := by decide +kernel
theorem dL_law_818 : decode cL_law 818 = .ok (.iload_n 3, 1) := by decide +kernel
theorem dL_law_819 : decode cL_law 819 = .ok (.iconst 2, 1) := by decide +kernel
theorem dL_law_820 : decode cL_law 820 = .ok (.iadd, 1) := by decide +kernel
theorem dL_law_821 : decode cL_law 821 = .ok (.iaload, 1) := by decide +kernel
theorem dL_law_822 : decode cL_law 822 = .ok (.invokevirtual 98, 3) := by decide +kernel
theorem dL_law_825 : decode cL_law 825 = .ok (.if_icmp .eq 735, 3) := by decide +kernel
theorem dL_law_828 : decode cL_law 828 = .ok (.iconst 0, 1) := by decide +kernel
theorem dL_law_829 : decode cL_law 829 = .ok (.ireturn, 1) := by decide +kernel
theorem dL_law_830 : decode cL_law 830 = .ok (.aload_n 1, 1) := by decide +kernel
theorem dL_law_831 : decode cL_law 831 = .ok (.aload_n 0, 1) := by decide +kernel
theorem dL_law_832 : decode cL_law 832 = .ok (.iload_n 3, 1) := by decide +kernel
theorem dL_law_833 : decode cL_law 833 = .ok (.iconst 1, 1) := by decide +kernel
theorem dL_law_834 : decode cL_law 834 = .ok (.iadd, 1) := by decide +kernel
theorem dL_law_835 : decode cL_law 835 = .ok (.iaload, 1) := by decide +kernel
theorem dL_law_836 : decode cL_law 836 = .ok (.invokevirtual 99, 3) := by decide +kernel
theorem dL_law_839 : decode cL_law 839 = .ok (.aload_n 2, 1) := by decide +kernel
theorem dL_law_840 : decode cL_law 840 = .ok (.aload_n 0, 1) := by decide +kernel
theorem dL_law_841 : decode cL_law 841 = .ok (.iload_n 3, 1) := by decide +kernel
theorem dL_law_842 : decode cL_law 842 = .ok (.iconst 1, 1) := by decide +kernel
theorem dL_law_843 : decode cL_law 843 = .ok (.iadd, 1) := by decide +kernel
theorem dL_law_844 : decode cL_law 844 = .ok (.iaload, 1) := by decide +kernel
theorem dL_law_845 : decode cL_law 845 = .ok (.invokevirtual 102, 3) := by decide +kernel
theorem dL_law_848 : decode cL_law 848 = .ok (.if_icmp .eq 712, 3) := by decide +kernel
theorem dL_law_851 : decode cL_law 851 = .ok (.iconst 0, 1) := by decide +kernel
theorem dL_law_852 : decode cL_law 852 = .ok (.ireturn, 1) := by decide +kernel
theorem dL_law_853 : decode cL_law 853 = .ok (.aload_n 1, 1) := by decide +kernel
theorem dL_law_854 : decode cL_law 854 = .ok (.aload_n 0, 1) := by decide +kernel
theorem dL_law_855 : decode cL_law 855 = .ok (.iload_n 3, 1) := by decide +kernel
theorem dL_law_856 : decode cL_law 856 = .ok (.iconst 1, 1) := by decide +kernel
theorem dL_law_857 : decode cL_law 857 = .ok (.iadd, 1) := by decide +kernel
theorem dL_law_858 : decode cL_law 858 = .ok (.iaload, 1) := by decide +kernel
theorem dL_law_859 : decode cL_law 859 = .ok (.aload_n 0, 1) := by decide +kernel
theorem dL_law_860 : decode cL_law 860 = .ok (.iload_n 3, 1) := by decide +kernel
theorem dL_law_861 : decode cL_law 861 = .ok (.iconst 2, 1) := by decide +kernel
theorem dL_law_862 : decode cL_law 862 = .ok (.iadd, 1) := by decide +kernel
theorem dL_law_863 : decode cL_law 863 = .ok (.iaload, 1) := by decide +kernel
theorem dL_law_864 : decode cL_law 864 = .ok (.invokevirtual 103, 3) := by decide +kernel
theorem dL_law_867 : decode cL_law 867 = .ok (.aload_n 2, 1) := by decide +kernel
theorem dL_law_868 : decode cL_law 868 = .ok (.aload_n 0, 1) := by decide +kernel
theorem dL_law_869 : decode cL_law 869 = .ok (.iload_n 3, 1) := by decide +kernel
theorem dL_law_870 : decode cL_law 870 = .ok (.iconst 1, 1) := by decide +kernel
theorem dL_law_871 : decode cL_law 871 = .ok (.iadd, 1) := by decide +kernel
theorem dL_law_872 : decode cL_law 872 = .ok (.iaload, 1) := by decide +kernel
theorem dL_law_873 : decode cL_law 873 = .ok (.aload_n 0, 1) := by decide +kernel
theorem dL_law_874 : decode cL_law 874 = .ok (.iload_n 3, 1) := by decide +kernel
theorem dL_law_875 : decode cL_law 875 = .ok (.iconst 2, 1) := by decide +kernel
theorem dL_law_876 : decode cL_law 876 = .ok (.iadd, 1) := by decide +kernel
theorem dL_law_877 : decode cL_law 877 = .ok (.iaload, 1) := by decide +kernel
theorem dL_law_878 : decode cL_law 878 = .ok (.invokevirtual 106, 3) := by decide +kernel
theorem dL_law_881 : decode cL_law 881 = .ok (.if_icmp .eq 679, 3) := by decide +kernel
theorem dL_law_884 : decode cL_law 884 = .ok (.iconst 0, 1) := by decide +kernel
theorem dL_law_885 : decode cL_law 885 = .ok (.ireturn, 1) := by decide +kernel
theorem dL_law_886 : decode cL_law 886 = .ok (.aload_n 1, 1) := by decide +kernel
theorem dL_law_887 : decode cL_law 887 = .ok (.aload_n 0, 1) := by decide +kernel
theorem dL_law_888 : decode cL_law 888 = .ok (.iload_n 3, 1) := by decide +kernel
theorem dL_law_889 : decode cL_law 889 = .ok (.iconst 1, 1) := by decide +kernel
theorem dL_law_890 : decode cL_law 890 = .ok (.iadd, 1) := by decide +kernel
theorem dL_law_891 : decode cL_law 891 = .ok (.iaload, 1) := by decide +kernel
theorem dL_law_892 : decode cL_law 892 = .ok (.invokevirtual 107, 3) := by decide +kernel
theorem dL_law_895 : decode cL_law 895 = .ok (.aload_n 2, 1) := by decide +kernel
theorem dL_law_896 : decode cL_law 896 = .ok (.aload_n 0, 1) := by decide +kernel
theorem dL_law_897 : decode cL_law 897 = .ok (.iload_n 3, 1) := by decide +kernel
theorem dL_law_898 : decode cL_law 898 = .ok (.iconst 1, 1) := by decide +kernel
theorem dL_law_899 : decode cL_law 899 = .ok (.iadd, 1) := by decide +kernel
theorem dL_law_900 : decode cL_law 900 = .ok (.iaload, 1) := by decide +kernel
theorem dL_law_901 : decode cL_law 901 = .ok (.invokevirtual 110, 3) := by decide +kernel
theorem dL_law_904 : decode cL_law 904 = .ok (.if_icmp .eq 656, 3) := by decide +kernel
theorem dL_law_907 : decode cL_law 907 = .ok (.iconst 0, 1) := by decide +kernel
theorem dL_law_908 : decode cL_law 908 = .ok (.ireturn, 1) := by decide +kernel
theorem dL_law_909 : decode cL_law 909 = .ok (.aload_n 1, 1) := by decide +kernel
theorem dL_law_910 : decode cL_law 910 = .ok (.aload_n 0, 1) := by decide +kernel
theorem dL_law_911 : decode cL_law 911 = .ok (.iload_n 3, 1) := by decide +kernel
theorem dL_law_912 : decode cL_law 912 = .ok (.iconst 1, 1) := by decide +kernel
theorem dL_law_913 : decode cL_law 913 = .ok (.iadd, 1) := by decide +kernel
theorem dL_law_914 : decode cL_law 914 = .ok (.iaload, 1) := by decide +kernel
theorem dL_law_915 : decode cL_law 915 = .ok (.aload_n 0, 1) := by decide +kernel
theorem dL_law_916 : decode cL_law 916 = .ok (.iload_n 3, 1) := by decide +kernel
theorem dL_law_917 : decode cL_law 917 = .ok (.iconst 2, 1) := by decide +kernel
theorem dL_law_918 : decode cL_law 918 = .ok (.iadd, 1) := by decide +kernel
theorem dL_law_919 : decode cL_law 919 = .ok (.iaload, 1) := by decide +kernel
theorem dL_law_920 : decode cL_law 920 = .ok (.invokevirtual 111, 3) := by decide +kernel
theorem dL_law_923 : decode cL_law 923 = .ok (.aload_n 2, 1) := by decide +kernel
theorem dL_law_924 : decode cL_law 924 = .ok (.aload_n 0, 1) := by decide +kernel
theorem dL_law_925 : decode cL_law 925 = .ok (.iload_n 3, 1) := by decide +kernel
theorem dL_law_926 : decode cL_law 926 = .ok (.iconst 1, 1) := by decide +kernel
theorem dL_law_927 : decode cL_law 927 = .ok (.iadd, 1) := by decide +kernel
theorem dL_law_928 : decode cL_law 928 = .ok (.iaload, 1) := by decide +kernel
theorem dL_law_929 : decode cL_law 929 = .ok (.aload_n 0, 1) := by decide +kernel
theorem dL_law_930 : decode cL_law 930 = .ok (.iload_n 3, 1) := by decide +kernel
theorem dL_law_931 : decode cL_law 931 = .ok (.iconst 2, 1) := by decide +kernel
theorem dL_law_932 : decode cL_law 932 = .ok (.iadd, 1) := by decide +kernel
theorem dL_law_933 : decode cL_law 933 = .ok (.iaload, 1) := by decide +kernel
theorem dL_law_934 : decode cL_law 934 = .ok (.invokevirtual 114, 3) := by decide +kernel
theorem dL_law_937 : decode cL_law 937 = .ok (.if_icmp .eq 623, 3) := by decide +kernel
theorem dL_law_940 : decode cL_law 940 = .ok (.iconst 0, 1) := by decide +kernel
theorem dL_law_941 : decode cL_law 941 = .ok (.ireturn, 1) := by decide +kernel
theorem dL_law_942 : decode cL_law 942 = .ok (.aload_n 1, 1) := by decide +kernel
theorem dL_law_943 : decode cL_law 943 = .ok (.aload_n 0, 1) := by decide +kernel
theorem dL_law_944 : decode cL_law 944 = .ok (.iload_n 3, 1) := by decide +kernel
theorem dL_law_945 : decode cL_law 945 = .ok (.iconst 1, 1) := by decide +kernel
theorem dL_law_946 : decode cL_law 946 = .ok (.iadd, 1) := by decide +kernel
theorem dL_law_947 : decode cL_law 947 = .ok (.iaload, 1) := by decide +kernel
theorem dL_law_948 : decode cL_law 948 = .ok (.invokevirtual 115, 3) := by decide +kernel
theorem dL_law_951 : decode cL_law 951 = .ok (.aload_n 2, 1) := by decide +kernel
theorem dL_law_952 : decode cL_law 952 = .ok (.aload_n 0, 1) := by decide +kernel
theorem dL_law_953 : decode cL_law 953 = .ok (.iload_n 3, 1) := by decide +kernel
theorem dL_law_954 : decode cL_law 954 = .ok (.iconst 1, 1) := by decide +kernel
theorem dL_law_955 : decode cL_law 955 = .ok (.iadd, 1) := by decide +kernel
theorem dL_law_956 : decode cL_law 956 = .ok (.iaload, 1) := by decide +kernel
theorem dL_law_957 : decode cL_law 957 = .ok (.invokevirtual 118, 3) := by decide +kernel
theorem dL_law_960 : decode cL_law 960 = .ok (.if_icmp .eq 600, 3) := by decide +kernel
theorem dL_law_963 : decode cL_law 963 = .ok (.iconst 0, 1) := by decide +kernel
theorem dL_law_964 : decode cL_law 964 = .ok (.ireturn, 1) := by decide +kernel
theorem dL_law_965 : decode cL_law 965 = .ok (.aload_n 1, 1) := by decide +kernel
theorem dL_law_966 : decode cL_law 966 = .ok (.aload_n 0, 1) := by decide +kernel
theorem dL_law_967 : decode cL_law 967 = .ok (.iload_n 3, 1) := by decide +kernel
theorem dL_law_968 : decode cL_law 968 = .ok (.iconst 1, 1) := by decide +kernel
theorem dL_law_969 : decode cL_law 969 = .ok (.iadd, 1) := by decide +kernel
theorem dL_law_970 : decode cL_law 970 = .ok (.iaload, 1) := by decide +kernel
theorem dL_law_971 : decode cL_law 971 = .ok (.invokevirtual 119, 3) := by decide +kernel
theorem dL_law_974 : decode cL_law 974 = .ok (.aload_n 2, 1) := by decide +kernel
theorem dL_law_975 : decode cL_law 975 = .ok (.aload_n 0, 1) := by decide +kernel
theorem dL_law_976 : decode cL_law 976 = .ok (.iload_n 3, 1) := by decide +kernel
theorem dL_law_977 : decode cL_law 977 = .ok (.iconst 1, 1) := by decide +kernel
theorem dL_law_978 : decode cL_law 978 = .ok (.iadd, 1) := by decide +kernel
theorem dL_law_979 : decode cL_law 979 = .ok (.iaload, 1) := by decide +kernel
theorem dL_law_980 : decode cL_law 980 = .ok (.invokevirtual 122, 3) := by decide +kernel
theorem dL_law_983 : decode cL_law 983 = .ok (.if_icmp .eq 577, 3) := by decide +kernel
theorem dL_law_986 : decode cL_law 986 = .ok (.iconst 0, 1) := by decide +kernel
theorem dL_law_987 : decode cL_law 987 = .ok (.ireturn, 1) := by decide +kernel
theorem dL_law_988 : decode cL_law 988 = .ok (.aload_n 1, 1) := by decide +kernel
theorem dL_law_989 : decode cL_law 989 = .ok (.invokevirtual 123, 3) := by decide +kernel
theorem dL_law_992 : decode cL_law 992 = .ok (.aload_n 2, 1) := by decide +kernel
theorem dL_law_993 : decode cL_law 993 = .ok (.invokevirtual 126, 3) := by decide +kernel
theorem dL_law_996 : decode cL_law 996 = .ok (.if_icmp .eq 564, 3) := by decide +kernel
theorem dL_law_999 : decode cL_law 999 = .ok (.iconst 0, 1) := by decide +kernel
theorem dL_law_1000 : decode cL_law 1000 = .ok (.ireturn, 1) := by decide +kernel
theorem dL_law_1001 : decode cL_law 1001 = .ok (.aload_n 1, 1) := by decide +kernel
theorem dL_law_1002 : decode cL_law 1002 = .ok (.invokevirtual 127, 3) := by decide +kernel
theorem dL_law_1005 : decode cL_law 1005 = .ok (.aload_n 2, 1) := by decide +kernel
theorem dL_law_1006 : decode cL_law 1006 = .ok (.invokevirtual 130, 3) := by decide +kernel
theorem dL_law_1009 : decode cL_law 1009 = .ok (.if_icmp .eq 551, 3) := by decide +kernel
theorem dL_law_1012 : decode cL_law 1012 = .ok (.iconst 0, 1) := by decide +kernel
theorem dL_law_1013 : decode cL_law 1013 = .ok (.ireturn, 1) := by decide +kernel
theorem dL_law_1014 : decode cL_law 1014 = .ok (.aload_n 1, 1) := by decide +kernel
theorem dL_law_1015 : decode cL_law 1015 = .ok (.aload_n 0, 1) := by decide +kernel
theorem dL_law_1016 : decode cL_law 1016 = .ok (.iload_n 3, 1) := by decide +kernel
theorem dL_law_1017 : decode cL_law 1017 = .ok (.iconst 1, 1) := by decide +kernel
theorem dL_law_1018 : decode cL_law 1018 = .ok (.iadd, 1) := by decide +kernel
theorem dL_law_1019 : decode cL_law 1019 = .ok (.iaload, 1) := by decide +kernel
theorem dL_law_1020 : decode cL_law 1020 = .ok (.aload_n 0, 1) := by decide +kernel
theorem dL_law_1021 : decode cL_law 1021 = .ok (.iload_n 3, 1) := by decide +kernel
theorem dL_law_1022 : decode cL_law 1022 = .ok (.iconst 2, 1) := by decide +kernel
theorem dL_law_1023 : decode cL_law 1023 = .ok (.iadd, 1) := by decide +kernel
theorem dL_law_1024 : decode cL_law 1024 = .ok (.iaload, 1) := by decide +kernel
theorem dL_law_1025 : decode cL_law 1025 = .ok (.aload_n 0, 1) := by decide +kernel
theorem dL_law_1026 : decode cL_law 1026 = .ok (.iload_n 3, 1) := by decide +kernel
theorem dL_law_1027 : decode cL_law 1027 = .ok (.iconst 3, 1) := by decide +kernel
theorem dL_law_1028 : decode cL_law 1028 = .ok (.iadd, 1) := by decide +kernel
theorem dL_law_1029 : decode cL_law 1029 = .ok (.iaload, 1) := by decide +kernel
theorem dL_law_1030 : decode cL_law 1030 = .ok (.invokevirtual 131, 3) := by decide +kernel
theorem dL_law_1033 : decode cL_law 1033 = .ok (.aload_n 2, 1) := by decide +kernel
theorem dL_law_1034 : decode cL_law 1034 = .ok (.aload_n 0, 1) := by decide +kernel
theorem dL_law_1035 : decode cL_law 1035 = .ok (.iload_n 3, 1) := by decide +kernel
theorem dL_law_1036 : decode cL_law 1036 = .ok (.iconst 1, 1) := by decide +kernel
theorem dL_law_1037 : decode cL_law 1037 = .ok (.iadd, 1) := by decide +kernel
theorem dL_law_1038 : decode cL_law 1038 = .ok (.iaload, 1) := by decide +kernel
theorem dL_law_1039 : decode cL_law 1039 = .ok (.aload_n 0, 1) := by decide +kernel
theorem dL_law_1040 : decode cL_law 1040 = .ok (.iload_n 3, 1) := by decide +kernel
theorem dL_law_1041 : decode cL_law 1041 = .ok (.iconst 2, 1) := by decide +kernel
theorem dL_law_1042 : decode cL_law 1042 = .ok (.iadd, 1) := by decide +kernel
theorem dL_law_1043 : decode cL_law 1043 = .ok (.iaload, 1) := by decide +kernel
theorem dL_law_1044 : decode cL_law 1044 = .ok (.aload_n 0, 1) := by decide +kernel
theorem dL_law_1045 : decode cL_law 1045 = .ok (.iload_n 3, 1) := by decide +kernel
theorem dL_law_1046 : decode cL_law 1046 = .ok (.iconst 3, 1) := by decide +kernel
theorem dL_law_1047 : decode cL_law 1047 = .ok (.iadd, 1) := by decide +kernel
theorem dL_law_1048 : decode cL_law 1048 = .ok (.iaload, 1) := by decide +kernel
theorem dL_law_1049 : decode cL_law 1049 = .ok (.invokevirtual 134, 3) := by decide +kernel
theorem dL_law_1052 : decode cL_law 1052 = .ok (.if_icmp .eq 508, 3) := by decide +kernel
theorem dL_law_1055 : decode cL_law 1055 = .ok (.iconst 0, 1) := by decide +kernel
theorem dL_law_1056 : decode cL_law 1056 = .ok (.ireturn, 1) := by decide +kernel
theorem dL_law_1057 : decode cL_law 1057 = .ok (.aload_n 1, 1) := by decide +kernel
theorem dL_law_1058 : decode cL_law 1058 = .ok (.invokevirtual 135, 3) := by decide +kernel
theorem dL_law_1061 : decode cL_law 1061 = .ok (.aload_n 2, 1) := by decide +kernel
theorem dL_law_1062 : decode cL_law 1062 = .ok (.invokevirtual 138, 3) := by decide +kernel
theorem dL_law_1065 : decode cL_law 1065 = .ok (.if_icmp .eq 495, 3) := by decide +kernel
theorem dL_law_1068 : decode cL_law 1068 = .ok (.iconst 0, 1) := by decide +kernel
theorem dL_law_1069 : decode cL_law 1069 = .ok (.ireturn, 1) := by decide +kernel
theorem dL_law_1070 : decode cL_law 1070 = .ok (.aload_n 1, 1) := by decide +kernel
theorem dL_law_1071 : decode cL_law 1071 = .ok (.invokevirtual 139, 3) := by decide +kernel
theorem dL_law_1074 : decode cL_law 1074 = .ok (.aload_n 2, 1) := by decide +kernel
theorem dL_law_1075 : decode cL_law 1075 = .ok (.invokevirtual 142, 3) := by decide +kernel
theorem dL_law_1078 : decode cL_law 1078 = .ok (.if_icmp .eq 482, 3) := by decide +kernel
theorem dL_law_1081 : decode cL_law 1081 = .ok (.iconst 0, 1) := by decide +kernel
theorem dL_law_1082 : decode cL_law 1082 = .ok (.ireturn, 1) := by decide +kernel
theorem dL_law_1083 : decode cL_law 1083 = .ok (.aload_n 1, 1) := by decide +kernel
theorem dL_law_1084 : decode cL_law 1084 = .ok (.aload_n 0, 1) := by decide +kernel
theorem dL_law_1085 : decode cL_law 1085 = .ok (.iload_n 3, 1) := by decide +kernel
theorem dL_law_1086 : decode cL_law 1086 = .ok (.iconst 1, 1) := by decide +kernel
theorem dL_law_1087 : decode cL_law 1087 = .ok (.iadd, 1) := by decide +kernel
theorem dL_law_1088 : decode cL_law 1088 = .ok (.iaload, 1) := by decide +kernel
theorem dL_law_1089 : decode cL_law 1089 = .ok (.invokevirtual 143, 3) := by decide +kernel
theorem dL_law_1092 : decode cL_law 1092 = .ok (.aload_n 2, 1) := by decide +kernel
theorem dL_law_1093 : decode cL_law 1093 = .ok (.aload_n 0, 1) := by decide +kernel
theorem dL_law_1094 : decode cL_law 1094 = .ok (.iload_n 3, 1) := by decide +kernel
theorem dL_law_1095 : decode cL_law 1095 = .ok (.iconst 1, 1) := by decide +kernel
theorem dL_law_1096 : decode cL_law 1096 = .ok (.iadd, 1) := by decide +kernel
theorem dL_law_1097 : decode cL_law 1097 = .ok (.iaload, 1) := by decide +kernel
theorem dL_law_1098 : decode cL_law 1098 = .ok (.invokevirtual 146, 3) := by decide +kernel
theorem dL_law_1101 : decode cL_law 1101 = .ok (.if_icmp .eq 459, 3) := by decide +kernel
theorem dL_law_1104 : decode cL_law 1104 = .ok (.iconst 0, 1) := by decide +kernel
theorem dL_law_1105 : decode cL_law 1105 = .ok (.ireturn, 1) := by decide +kernel
theorem dL_law_1106 : decode cL_law 1106 = .ok (.aload_n 1, 1) := by decide +kernel
theorem dL_law_1107 : decode cL_law 1107 = .ok (.aload_n 0, 1) := by decide +kernel
theorem dL_law_1108 : decode cL_law 1108 = .ok (.iload_n 3, 1) := by decide +kernel
theorem dL_law_1109 : decode cL_law 1109 = .ok (.iconst 1, 1) := by decide +kernel
theorem dL_law_1110 : decode cL_law 1110 = .ok (.iadd, 1) := by decide +kernel
theorem dL_law_1111 : decode cL_law 1111 = .ok (.iaload, 1) := by decide +kernel
theorem dL_law_1112 : decode cL_law 1112 = .ok (.invokevirtual 147, 3) := by decide +kernel
theorem dL_law_1115 : decode cL_law 1115 = .ok (.aload_n 2, 1) := by decide +kernel
theorem dL_law_1116 : decode cL_law 1116 = .ok (.aload_n 0, 1) := by decide +kernel
theorem dL_law_1117 : decode cL_law 1117 = .ok (.iload_n 3, 1) := by decide +kernel
theorem dL_law_1118 : decode cL_law 1118 = .ok (.iconst 1, 1) := by decide +kernel
theorem dL_law_1119 : decode cL_law 1119 = .ok (.iadd, 1) := by decide +kernel
theorem dL_law_1120 : decode cL_law 1120 = .ok (.iaload, 1) := by decide +kernel
theorem dL_law_1121 : decode cL_law 1121 = .ok (.invokevirtual 150, 3) := by decide +kernel
theorem dL_law_1124 : decode cL_law 1124 = .ok (.if_icmp .eq 436, 3) := by decide +kernel
theorem dL_law_1127 : decode cL_law 1127 = .ok (.iconst 0, 1) := by decide +kernel
theorem dL_law_1128 : decode cL_law 1128 = .ok (.ireturn, 1) := by decide +kernel
theorem dL_law_1129 : decode cL_law 1129 = .ok (.aload_n 1, 1) := by decide +kernel
theorem dL_law_1130 : decode cL_law 1130 = .ok (.invokevirtual 151, 3) := by decide +kernel
theorem dL_law_1133 : decode cL_law 1133 = .ok (.aload_n 2, 1) := by decide +kernel
theorem dL_law_1134 : decode cL_law 1134 = .ok (.invokevirtual 154, 3) := by decide +kernel
theorem dL_law_1137 : decode cL_law 1137 = .ok (.if_icmp .eq 423, 3) := by decide +kernel
theorem dL_law_1140 : decode cL_law 1140 = .ok (.iconst 0, 1) := by decide +kernel
theorem dL_law_1141 : decode cL_law 1141 = .ok (.ireturn, 1) := by decide +kernel
theorem dL_law_1142 : decode cL_law 1142 = .ok (.aload_n 1, 1) := by decide +kernel
theorem dL_law_1143 : decode cL_law 1143 = .ok (.aload_n 0, 1) := by decide +kernel
theorem dL_law_1144 : decode cL_law 1144 = .ok (.iload_n 3, 1) := by decide +kernel
theorem dL_law_1145 : decode cL_law 1145 = .ok (.iconst 1, 1) := by decide +kernel
theorem dL_law_1146 : decode cL_law 1146 = .ok (.iadd, 1) := by decide +kernel
theorem dL_law_1147 : decode cL_law 1147 = .ok (.iaload, 1) := by decide +kernel
theorem dL_law_1148 : decode cL_law 1148 = .ok (.invokevirtual 155, 3) := by decide +kernel
theorem dL_law_1151 : decode cL_law 1151 = .ok (.aload_n 2, 1) := by decide +kernel
theorem dL_law_1152 : decode cL_law 1152 = .ok (.aload_n 0, 1) := by decide +kernel
theorem dL_law_1153 : decode cL_law 1153 = .ok (.iload_n 3, 1) := by decide +kernel
theorem dL_law_1154 : decode cL_law 1154 = .ok (.iconst 1, 1) := by decide +kernel
theorem dL_law_1155 : decode cL_law 1155 = .ok (.iadd, 1) := by decide +kernel
theorem dL_law_1156 : decode cL_law 1156 = .ok (.iaload, 1) := by decide +kernel
theorem dL_law_1157 : decode cL_law 1157 = .ok (.invokevirtual 158, 3) := by decide +kernel
theorem dL_law_1160 : decode cL_law 1160 = .ok (.if_icmp .eq 400, 3) := by decide +kernel
theorem dL_law_1163 : decode cL_law 1163 = .ok (.iconst 0, 1) := by decide +kernel
theorem dL_law_1164 : decode cL_law 1164 = .ok (.ireturn, 1) := by decide +kernel
theorem dL_law_1165 : decode cL_law 1165 = .ok (.aload_n 1, 1) := by decide +kernel
theorem dL_law_1166 : decode cL_law 1166 = .ok (.aload_n 0, 1) := by decide +kernel
theorem dL_law_1167 : decode cL_law 1167 = .ok (.iload_n 3, 1) := by decide +kernel
theorem dL_law_1168 : decode cL_law 1168 = .ok (.iconst 1, 1) := by decide +kernel
theorem dL_law_1169 : decode cL_law 1169 = .ok (.iadd, 1) := by decide +kernel
theorem dL_law_1170 : decode cL_law 1170 = .ok (.iaload, 1) := by decide +kernel
theorem dL_law_1171 : decode cL_law 1171 = .ok (.aload_n 0, 1) := by decide +kernel
theorem dL_law_1172 : decode cL_law 1172 = .ok (.iload_n 3, 1) := by decide +kernel
theorem dL_law_1173 : decode cL_law 1173 = .ok (.iconst 2, 1) := by decide +kernel
theorem dL_law_1174 : decode cL_law 1174 = .ok (.iadd, 1) := by decide +kernel
theorem dL_law_1175 : decode cL_law 1175 = .ok (.iaload, 1) := by decide +kernel
theorem dL_law_1176 : decode cL_law 1176 = .ok (.aload_n 0, 1) := by decide +kernel
theorem dL_law_1177 : decode cL_law 1177 = .ok (.iload_n 3, 1) := by decide +kernel
theorem dL_law_1178 : decode cL_law 1178 = .ok (.iconst 3, 1) := by decide +kernel
theorem dL_law_1179 : decode cL_law 1179 = .ok (.iadd, 1) := by decide +kernel
theorem dL_law_1180 : decode cL_law 1180 = .ok (.iaload, 1) := by decide +kernel
theorem dL_law_1181 : decode cL_law 1181 = .ok (.invokevirtual 159, 3) := by decide +kernel
theorem dL_law_1184 : decode cL_law 1184 = .ok (.aload_n 2, 1) := by decide +kernel
theorem dL_law_1185 : decode cL_law 1185 = .ok (.aload_n 0, 1) := by decide +kernel
theorem dL_law_1186 : decode cL_law 1186 = .ok (.iload_n 3, 1) := by decide +kernel
theorem dL_law_1187 : decode cL_law 1187 = .ok (.iconst 1, 1) := by decide +kernel
theorem dL_law_1188 : decode cL_law 1188 = .ok (.iadd, 1) := by decide +kernel
theorem dL_law_1189 : decode cL_law 1189 = .ok (.iaload, 1) := by decide +kernel
theorem dL_law_1190 : decode cL_law 1190 = .ok (.aload_n 0, 1) := by decide +kernel
theorem dL_law_1191 : decode cL_law 1191 = .ok (.iload_n 3, 1) := by decide +kernel
theorem dL_law_1192 : decode cL_law 1192 = .ok (.iconst 2, 1) := by decide +kernel
theorem dL_law_1193 : decode cL_law 1193 = .ok (.iadd, 1) := by decide +kernel
theorem dL_law_1194 : decode cL_law 1194 = .ok (.iaload, 1) := by decide +kernel
theorem dL_law_1195 : decode cL_law 1195 = .ok (.aload_n 0, 1) := by decide +kernel
theorem dL_law_1196 : decode cL_law 1196 = .ok (.iload_n 3, 1) := by decide +kernel
theorem dL_law_1197 : decode cL_law 1197 = .ok (.iconst 3, 1) := by decide +kernel
theorem dL_law_1198 : decode cL_law 1198 = .ok (.iadd, 1) := by decide +kernel
theorem dL_law_1199 : decode cL_law 1199 = .ok (.iaload, 1) := by decide +kernel
theorem dL_law_1200 : decode cL_law 1200 = .ok (.invokevirtual 162, 3) := by decide +kernel
theorem dL_law_1203 : decode cL_law 1203 = .ok (.if_icmp .eq 357, 3) := by decide +kernel
theorem dL_law_1206 : decode cL_law 1206 = .ok (.iconst 0, 1) := by decide +kernel
theorem dL_law_1207 : decode cL_law 1207 = .ok (.ireturn, 1) := by decide +kernel
theorem dL_law_1208 : decode cL_law 1208 = .ok (.aload_n 1, 1) := by decide +kernel
theorem dL_law_1209 : decode cL_law 1209 = .ok (.aload_n 0, 1) := by decide +kernel
theorem dL_law_1210 : decode cL_law 1210 = .ok (.iload_n 3, 1) := by decide +kernel
theorem dL_law_1211 : decode cL_law 1211 = .ok (.iconst 1, 1) := by decide +kernel
theorem dL_law_1212 : decode cL_law 1212 = .ok (.iadd, 1) := by decide +kernel
theorem dL_law_1213 : decode cL_law 1213 = .ok (.iaload, 1) := by decide +kernel
theorem dL_law_1214 : decode cL_law 1214 = .ok (.aload_n 0, 1) := by decide +kernel
theorem dL_law_1215 : decode cL_law 1215 = .ok (.iload_n 3, 1) := by decide +kernel
theorem dL_law_1216 : decode cL_law 1216 = .ok (.iconst 2, 1) := by decide +kernel
theorem dL_law_1217 : decode cL_law 1217 = .ok (.iadd, 1) := by decide +kernel
theorem dL_law_1218 : decode cL_law 1218 = .ok (.iaload, 1) := by decide +kernel
theorem dL_law_1219 : decode cL_law 1219 = .ok (.invokevirtual 163, 3) := by decide +kernel
theorem dL_law_1222 : decode cL_law 1222 = .ok (.aload_n 2, 1) := by decide +kernel
theorem dL_law_1223 : decode cL_law 1223 = .ok (.aload_n 0, 1) := by decide +kernel
theorem dL_law_1224 : decode cL_law 1224 = .ok (.iload_n 3, 1) := by decide +kernel
theorem dL_law_1225 : decode cL_law 1225 = .ok (.iconst 1, 1) := by decide +kernel
theorem dL_law_1226 : decode cL_law 1226 = .ok (.iadd, 1) := by decide +kernel
theorem dL_law_1227 : decode cL_law 1227 = .ok (.iaload, 1) := by decide +kernel
theorem dL_law_1228 : decode cL_law 1228 = .ok (.aload_n 0, 1) := by decide +kernel
theorem dL_law_1229 : decode cL_law 1229 = .ok (.iload_n 3, 1) := by decide +kernel
theorem dL_law_1230 : decode cL_law 1230 = .ok (.iconst 2, 1) := by decide +kernel
theorem dL_law_1231 : decode cL_law 1231 = .ok (.iadd, 1) := by decide +kernel
theorem dL_law_1232 : decode cL_law 1232 = .ok (.iaload, 1) := by decide +kernel
theorem dL_law_1233 : decode cL_law 1233 = .ok (.invokevirtual 166, 3) := by decide +kernel
theorem dL_law_1236 : decode cL_law 1236 = .ok (.if_icmp .eq 324, 3) := by decide +kernel
theorem dL_law_1239 : decode cL_law 1239 = .ok (.iconst 0, 1) := by decide +kernel
theorem dL_law_1240 : decode cL_law 1240 = .ok (.ireturn, 1) := by decide +kernel
theorem dL_law_1241 : decode cL_law 1241 = .ok (.aload_n 1, 1) := by decide +kernel
theorem dL_law_1242 : decode cL_law 1242 = .ok (.aload_n 0, 1) := by decide +kernel
theorem dL_law_1243 : decode cL_law 1243 = .ok (.iload_n 3, 1) := by decide +kernel
theorem dL_law_1244 : decode cL_law 1244 = .ok (.iconst 1, 1) := by decide +kernel
theorem dL_law_1245 : decode cL_law 1245 = .ok (.iadd, 1) := by decide +kernel
theorem dL_law_1246 : decode cL_law 1246 = .ok (.iaload, 1) := by decide +kernel
theorem dL_law_1247 : decode cL_law 1247 = .ok (.invokevirtual 167, 3) := by decide +kernel
theorem dL_law_1250 : decode cL_law 1250 = .ok (.aload_n 2, 1) := by decide +kernel
theorem dL_law_1251 : decode cL_law 1251 = .ok (.aload_n 0, 1) := by decide +kernel
theorem dL_law_1252 : decode cL_law 1252 = .ok (.iload_n 3, 1) := by decide +kernel
theorem dL_law_1253 : decode cL_law 1253 = .ok (.iconst 1, 1) := by decide +kernel
theorem dL_law_1254 : decode cL_law 1254 = .ok (.iadd, 1) := by decide +kernel
theorem dL_law_1255 : decode cL_law 1255 = .ok (.iaload, 1) := by decide +kernel
theorem dL_law_1256 : decode cL_law 1256 = .ok (.invokevirtual 170, 3) := by decide +kernel
theorem dL_law_1259 : decode cL_law 1259 = .ok (.if_icmp .eq 301, 3) := by decide +kernel
theorem dL_law_1262 : decode cL_law 1262 = .ok (.iconst 0, 1) := by decide +kernel
theorem dL_law_1263 : decode cL_law 1263 = .ok (.ireturn, 1) := by decide +kernel
theorem dL_law_1264 : decode cL_law 1264 = .ok (.aload_n 1, 1) := by decide +kernel
theorem dL_law_1265 : decode cL_law 1265 = .ok (.aload_n 0, 1) := by decide +kernel
theorem dL_law_1266 : decode cL_law 1266 = .ok (.iload_n 3, 1) := by decide +kernel
theorem dL_law_1267 : decode cL_law 1267 = .ok (.iconst 1, 1) := by decide +kernel
theorem dL_law_1268 : decode cL_law 1268 = .ok (.iadd, 1) := by decide +kernel
theorem dL_law_1269 : decode cL_law 1269 = .ok (.iaload, 1) := by decide +kernel
theorem dL_law_1270 : decode cL_law 1270 = .ok (.invokevirtual 171, 3) := by decide +kernel
theorem dL_law_1273 : decode cL_law 1273 = .ok (.aload_n 2, 1) := by decide +kernel
theorem dL_law_1274 : decode cL_law 1274 = .ok (.aload_n 0, 1) := by decide +kernel
theorem dL_law_1275 : decode cL_law 1275 = .ok (.iload_n 3, 1) := by decide +kernel
theorem dL_law_1276 : decode cL_law 1276 = .ok (.iconst 1, 1) := by decide +kernel
theorem dL_law_1277 : decode cL_law 1277 = .ok (.iadd, 1) := by decide +kernel
theorem dL_law_1278 : decode cL_law 1278 = .ok (.iaload, 1) := by decide +kernel
theorem dL_law_1279 : decode cL_law 1279 = .ok (.invokevirtual 174, 3) := by decide +kernel
theorem dL_law_1282 : decode cL_law 1282 = .ok (.if_icmp .eq 278, 3) := by decide +kernel
theorem dL_law_1285 : decode cL_law 1285 = .ok (.iconst 0, 1) := by decide +kernel
theorem dL_law_1286 : decode cL_law 1286 = .ok (.ireturn, 1) := by decide +kernel
theorem dL_law_1287 : decode cL_law 1287 = .ok (.aload_n 1, 1) := by decide +kernel
theorem dL_law_1288 : decode cL_law 1288 = .ok (.aload_n 0, 1) := by decide +kernel
theorem dL_law_1289 : decode cL_law 1289 = .ok (.iload_n 3, 1) := by decide +kernel
theorem dL_law_1290 : decode cL_law 1290 = .ok (.iconst 1, 1) := by decide +kernel
theorem dL_law_1291 : decode cL_law 1291 = .ok (.iadd, 1) := by decide +kernel
theorem dL_law_1292 : decode cL_law 1292 = .ok (.iaload, 1) := by decide +kernel
theorem dL_law_1293 : decode cL_law 1293 = .ok (.aload_n 0, 1) := by decide +kernel
theorem dL_law_1294 : decode cL_law 1294 = .ok (.iload_n 3, 1) := by decide +kernel
theorem dL_law_1295 : decode cL_law 1295 = .ok (.iconst 2, 1) := by decide +kernel
theorem dL_law_1296 : decode cL_law 1296 = .ok (.iadd, 1) := by decide +kernel
theorem dL_law_1297 : decode cL_law 1297 = .ok (.iaload, 1) := by decide +kernel
theorem dL_law_1298 : decode cL_law 1298 = .ok (.aload_n 0, 1) := by decide +kernel
theorem dL_law_1299 : decode cL_law 1299 = .ok (.iload_n 3, 1) := by decide +kernel
theorem dL_law_1300 : decode cL_law 1300 = .ok (.iconst 3, 1) := by decide +kernel
theorem dL_law_1301 : decode cL_law 1301 = .ok (.iadd, 1) := by decide +kernel
theorem dL_law_1302 : decode cL_law 1302 = .ok (.iaload, 1) := by decide +kernel
theorem dL_law_1303 : decode cL_law 1303 = .ok (.ifCond .eq 7, 3) := by decide +kernel
theorem dL_law_1306 : decode cL_law 1306 = .ok (.iconst 1, 1) := by decide +kernel
theorem dL_law_1307 : decode cL_law 1307 = .ok (.goto 4, 3) := by decide +kernel
theorem dL_law_1310 : decode cL_law 1310 = .ok (.iconst 0, 1) := by decide +kernel
theorem dL_law_1311 : decode cL_law 1311 = .ok (.invokevirtual 175, 3) := by decide +kernel
theorem dL_law_1314 : decode cL_law 1314 = .ok (.aload_n 2, 1) := by decide +kernel
theorem dL_law_1315 : decode cL_law 1315 = .ok (.aload_n 0, 1) := by decide +kernel
theorem dL_law_1316 : decode cL_law 1316 = .ok (.iload_n 3, 1) := by decide +kernel
theorem dL_law_1317 : decode cL_law 1317 = .ok (.iconst 1, 1) := by decide +kernel
theorem dL_law_1318 : decode cL_law 1318 = .ok (.iadd, 1) := by decide +kernel
theorem dL_law_1319 : decode cL_law 1319 = .ok (.iaload, 1) := by decide +kernel
theorem dL_law_1320 : decode cL_law 1320 = .ok (.aload_n 0, 1) := by decide +kernel
theorem dL_law_1321 : decode cL_law 1321 = .ok (.iload_n 3, 1) := by decide +kernel
theorem dL_law_1322 : decode cL_law 1322 = .ok (.iconst 2, 1) := by decide +kernel
theorem dL_law_1323 : decode cL_law 1323 = .ok (.iadd, 1) := by decide +kernel
theorem dL_law_1324 : decode cL_law 1324 = .ok (.iaload, 1) := by decide +kernel
theorem dL_law_1325 : decode cL_law 1325 = .ok (.aload_n 0, 1) := by decide +kernel
theorem dL_law_1326 : decode cL_law 1326 = .ok (.iload_n 3, 1) := by decide +kernel
theorem dL_law_1327 : decode cL_law 1327 = .ok (.iconst 3, 1) := by decide +kernel
theorem dL_law_1328 : decode cL_law 1328 = .ok (.iadd, 1) := by decide +kernel
theorem dL_law_1329 : decode cL_law 1329 = .ok (.iaload, 1) := by decide +kernel
theorem dL_law_1330 : decode cL_law 1330 = .ok (.ifCond .eq 7, 3) := by decide +kernel
theorem dL_law_1333 : decode cL_law 1333 = .ok (.iconst 1, 1) := by decide +kernel
theorem dL_law_1334 : decode cL_law 1334 = .ok (.goto 4, 3) := by decide +kernel
theorem dL_law_1337 : decode cL_law 1337 = .ok (.iconst 0, 1) := by decide +kernel
theorem dL_law_1338 : decode cL_law 1338 = .ok (.invokevirtual 179, 3) := by decide +kernel
theorem dL_law_1341 : decode cL_law 1341 = .ok (.if_icmp .eq 219, 3) := by decide +kernel
theorem dL_law_1344 : decode cL_law 1344 = .ok (.iconst 0, 1) := by decide +kernel
theorem dL_law_1345 : decode cL_law 1345 = .ok (.ireturn, 1) := by decide +kernel
theorem dL_law_1346 : decode cL_law 1346 = .ok (.aload_n 1, 1) := by decide +kernel
theorem dL_law_1347 : decode cL_law 1347 = .ok (.aload_n 0, 1) := by decide +kernel
theorem dL_law_1348 : decode cL_law 1348 = .ok (.iload_n 3, 1) := by decide +kernel
theorem dL_law_1349 : decode cL_law 1349 = .ok (.iconst 1, 1) := by decide +kernel
theorem dL_law_1350 : decode cL_law 1350 = .ok (.iadd, 1) := by decide +kernel
theorem dL_law_1351 : decode cL_law 1351 = .ok (.iaload, 1) := by decide +kernel
theorem dL_law_1352 : decode cL_law 1352 = .ok (.invokevirtual 180, 3) := by decide +kernel
theorem dL_law_1355 : decode cL_law 1355 = .ok (.aload_n 2, 1) := by decide +kernel
theorem dL_law_1356 : decode cL_law 1356 = .ok (.aload_n 0, 1) := by decide +kernel
theorem dL_law_1357 : decode cL_law 1357 = .ok (.iload_n 3, 1) := by decide +kernel
theorem dL_law_1358 : decode cL_law 1358 = .ok (.iconst 1, 1) := by decide +kernel
theorem dL_law_1359 : decode cL_law 1359 = .ok (.iadd, 1) := by decide +kernel
theorem dL_law_1360 : decode cL_law 1360 = .ok (.iaload, 1) := by decide +kernel
theorem dL_law_1361 : decode cL_law 1361 = .ok (.invokevirtual 184, 3) := by decide +kernel
theorem dL_law_1364 : decode cL_law 1364 = .ok (.if_icmp .eq 196, 3) := by decide +kernel
theorem dL_law_1367 : decode cL_law 1367 = .ok (.iconst 0, 1) := by decide +kernel
theorem dL_law_1368 : decode cL_law 1368 = .ok (.ireturn, 1) := by decide +kernel
theorem dL_law_1369 : decode cL_law 1369 = .ok (.aload_n 1, 1) := by decide +kernel
theorem dL_law_1370 : decode cL_law 1370 = .ok (.aload_n 0, 1) := by decide +kernel
theorem dL_law_1371 : decode cL_law 1371 = .ok (.iload_n 3, 1) := by decide +kernel
theorem dL_law_1372 : decode cL_law 1372 = .ok (.iconst 1, 1) := by decide +kernel
theorem dL_law_1373 : decode cL_law 1373 = .ok (.iadd, 1) := by decide +kernel
theorem dL_law_1374 : decode cL_law 1374 = .ok (.iaload, 1) := by decide +kernel
theorem dL_law_1375 : decode cL_law 1375 = .ok (.invokevirtual 185, 3) := by decide +kernel
theorem dL_law_1378 : decode cL_law 1378 = .ok (.aload_n 2, 1) := by decide +kernel
theorem dL_law_1379 : decode cL_law 1379 = .ok (.aload_n 0, 1) := by decide +kernel
theorem dL_law_1380 : decode cL_law 1380 = .ok (.iload_n 3, 1) := by decide +kernel
theorem dL_law_1381 : decode cL_law 1381 = .ok (.iconst 1, 1) := by decide +kernel
theorem dL_law_1382 : decode cL_law 1382 = .ok (.iadd, 1) := by decide +kernel
theorem dL_law_1383 : decode cL_law 1383 = .ok (.iaload, 1) := by decide +kernel
theorem dL_law_1384 : decode cL_law 1384 = .ok (.invokevirtual 188, 3) := by decide +kernel
theorem dL_law_1387 : decode cL_law 1387 = .ok (.if_icmp .eq 173, 3) := by decide +kernel
theorem dL_law_1390 : decode cL_law 1390 = .ok (.iconst 0, 1) := by decide +kernel
theorem dL_law_1391 : decode cL_law 1391 = .ok (.ireturn, 1) := by decide +kernel
theorem dL_law_1392 : decode cL_law 1392 = .ok (.aload_n 1, 1) := by decide +kernel
theorem dL_law_1393 : decode cL_law 1393 = .ok (.aload_n 0, 1) := by decide +kernel
theorem dL_law_1394 : decode cL_law 1394 = .ok (.iload_n 3, 1) := by decide +kernel
theorem dL_law_1395 : decode cL_law 1395 = .ok (.iconst 1, 1) := by decide +kernel
theorem dL_law_1396 : decode cL_law 1396 = .ok (.iadd, 1) := by decide +kernel
theorem dL_law_1397 : decode cL_law 1397 = .ok (.iaload, 1) := by decide +kernel
theorem dL_law_1398 : decode cL_law 1398 = .ok (.invokevirtual 189, 3) := by decide +kernel
theorem dL_law_1401 : decode cL_law 1401 = .ok (.aload_n 2, 1) := by decide +kernel
theorem dL_law_1402 : decode cL_law 1402 = .ok (.aload_n 0, 1) := by decide +kernel
theorem dL_law_1403 : decode cL_law 1403 = .ok (.iload_n 3, 1) := by decide +kernel
theorem dL_law_1404 : decode cL_law 1404 = .ok (.iconst 1, 1) := by decide +kernel
theorem dL_law_1405 : decode cL_law 1405 = .ok (.iadd, 1) := by decide +kernel
theorem dL_law_1406 : decode cL_law 1406 = .ok (.iaload, 1) := by decide +kernel
theorem dL_law_1407 : decode cL_law 1407 = .ok (.invokevirtual 192, 3) := by decide +kernel
theorem dL_law_1410 : decode cL_law 1410 = .ok (.if_icmp .eq 150, 3) := by decide +kernel
theorem dL_law_1413 : decode cL_law 1413 = .ok (.iconst 0, 1) := by decide +kernel
theorem dL_law_1414 : decode cL_law 1414 = .ok (.ireturn, 1) := by decide +kernel
theorem dL_law_1415 : decode cL_law 1415 = .ok (.aload_n 1, 1) := by decide +kernel
theorem dL_law_1416 : decode cL_law 1416 = .ok (.aload_n 0, 1) := by decide +kernel
theorem dL_law_1417 : decode cL_law 1417 = .ok (.iload_n 3, 1) := by decide +kernel
theorem dL_law_1418 : decode cL_law 1418 = .ok (.iconst 1, 1) := by decide +kernel
theorem dL_law_1419 : decode cL_law 1419 = .ok (.iadd, 1) := by decide +kernel
theorem dL_law_1420 : decode cL_law 1420 = .ok (.iaload, 1) := by decide +kernel
theorem dL_law_1421 : decode cL_law 1421 = .ok (.aload_n 0, 1) := by decide +kernel
theorem dL_law_1422 : decode cL_law 1422 = .ok (.iload_n 3, 1) := by decide +kernel
theorem dL_law_1423 : decode cL_law 1423 = .ok (.iconst 2, 1) := by decide +kernel
theorem dL_law_1424 : decode cL_law 1424 = .ok (.iadd, 1) := by decide +kernel
theorem dL_law_1425 : decode cL_law 1425 = .ok (.iaload, 1) := by decide +kernel
theorem dL_law_1426 : decode cL_law 1426 = .ok (.invokevirtual 193, 3) := by decide +kernel
theorem dL_law_1429 : decode cL_law 1429 = .ok (.aload_n 2, 1) := by decide +kernel
theorem dL_law_1430 : decode cL_law 1430 = .ok (.aload_n 0, 1) := by decide +kernel
theorem dL_law_1431 : decode cL_law 1431 = .ok (.iload_n 3, 1) := by decide +kernel
theorem dL_law_1432 : decode cL_law 1432 = .ok (.iconst 1, 1) := by decide +kernel
theorem dL_law_1433 : decode cL_law 1433 = .ok (.iadd, 1) := by decide +kernel
theorem dL_law_1434 : decode cL_law 1434 = .ok (.iaload, 1) := by decide +kernel
theorem dL_law_1435 : decode cL_law 1435 = .ok (.aload_n 0, 1) := by decide +kernel
theorem dL_law_1436 : decode cL_law 1436 = .ok (.iload_n 3, 1) := by decide +kernel
theorem dL_law_1437 : decode cL_law 1437 = .ok (.iconst 2, 1) := by decide +kernel
theorem dL_law_1438 : decode cL_law 1438 = .ok (.iadd, 1) := by decide +kernel
theorem dL_law_1439 : decode cL_law 1439 = .ok (.iaload, 1) := by decide +kernel
theorem dL_law_1440 : decode cL_law 1440 = .ok (.invokevirtual 196, 3) := by decide +kernel
theorem dL_law_1443 : decode cL_law 1443 = .ok (.if_icmp .eq 117, 3) := by decide +kernel
theorem dL_law_1446 : decode cL_law 1446 = .ok (.iconst 0, 1) := by decide +kernel
theorem dL_law_1447 : decode cL_law 1447 = .ok (.ireturn, 1) := by decide +kernel
theorem dL_law_1448 : decode cL_law 1448 = .ok (.aload_n 1, 1) := by decide +kernel
theorem dL_law_1449 : decode cL_law 1449 = .ok (.aload_n 0, 1) := by decide +kernel
theorem dL_law_1450 : decode cL_law 1450 = .ok (.iload_n 3, 1) := by decide +kernel
theorem dL_law_1451 : decode cL_law 1451 = .ok (.iconst 1, 1) := by decide +kernel
theorem dL_law_1452 : decode cL_law 1452 = .ok (.iadd, 1) := by decide +kernel
theorem dL_law_1453 : decode cL_law 1453 = .ok (.iaload, 1) := by decide +kernel
theorem dL_law_1454 : decode cL_law 1454 = .ok (.aload_n 0, 1) := by decide +kernel
theorem dL_law_1455 : decode cL_law 1455 = .ok (.iload_n 3, 1) := by decide +kernel
theorem dL_law_1456 : decode cL_law 1456 = .ok (.iconst 2, 1) := by decide +kernel
theorem dL_law_1457 : decode cL_law 1457 = .ok (.iadd, 1) := by decide +kernel
theorem dL_law_1458 : decode cL_law 1458 = .ok (.iaload, 1) := by decide +kernel
theorem dL_law_1459 : decode cL_law 1459 = .ok (.aload_n 0, 1) := by decide +kernel
theorem dL_law_1460 : decode cL_law 1460 = .ok (.iload_n 3, 1) := by decide +kernel
theorem dL_law_1461 : decode cL_law 1461 = .ok (.iconst 3, 1) := by decide +kernel
theorem dL_law_1462 : decode cL_law 1462 = .ok (.iadd, 1) := by decide +kernel
theorem dL_law_1463 : decode cL_law 1463 = .ok (.iaload, 1) := by decide +kernel
theorem dL_law_1464 : decode cL_law 1464 = .ok (.invokevirtual 197, 3) := by decide +kernel
theorem dL_law_1467 : decode cL_law 1467 = .ok (.aload_n 2, 1) := by decide +kernel
theorem dL_law_1468 : decode cL_law 1468 = .ok (.aload_n 0, 1) := by decide +kernel
theorem dL_law_1469 : decode cL_law 1469 = .ok (.iload_n 3, 1) := by decide +kernel
theorem dL_law_1470 : decode cL_law 1470 = .ok (.iconst 1, 1) := by decide +kernel
theorem dL_law_1471 : decode cL_law 1471 = .ok (.iadd, 1) := by decide +kernel
theorem dL_law_1472 : decode cL_law 1472 = .ok (.iaload, 1) := by decide +kernel
theorem dL_law_1473 : decode cL_law 1473 = .ok (.aload_n 0, 1) := by decide +kernel
theorem dL_law_1474 : decode cL_law 1474 = .ok (.iload_n 3, 1) := by decide +kernel
theorem dL_law_1475 : decode cL_law 1475 = .ok (.iconst 2, 1) := by decide +kernel
theorem dL_law_1476 : decode cL_law 1476 = .ok (.iadd, 1) := by decide +kernel
theorem dL_law_1477 : decode cL_law 1477 = .ok (.iaload, 1) := by decide +kernel
theorem dL_law_1478 : decode cL_law 1478 = .ok (.aload_n 0, 1) := by decide +kernel
theorem dL_law_1479 : decode cL_law 1479 = .ok (.iload_n 3, 1) := by decide +kernel
theorem dL_law_1480 : decode cL_law 1480 = .ok (.iconst 3, 1) := by decide +kernel
theorem dL_law_1481 : decode cL_law 1481 = .ok (.iadd, 1) := by decide +kernel
theorem dL_law_1482 : decode cL_law 1482 = .ok (.iaload, 1) := by decide +kernel
theorem dL_law_1483 : decode cL_law 1483 = .ok (.invokevirtual 200, 3) := by decide +kernel
theorem dL_law_1486 : decode cL_law 1486 = .ok (.if_icmp .eq 74, 3) := by decide +kernel
theorem dL_law_1489 : decode cL_law 1489 = .ok (.iconst 0, 1) := by decide +kernel
theorem dL_law_1490 : decode cL_law 1490 = .ok (.ireturn, 1) := by decide +kernel
theorem dL_law_1491 : decode cL_law 1491 = .ok (.aload_n 1, 1) := by decide +kernel
theorem dL_law_1492 : decode cL_law 1492 = .ok (.aload_n 0, 1) := by decide +kernel
theorem dL_law_1493 : decode cL_law 1493 = .ok (.iload_n 3, 1) := by decide +kernel
theorem dL_law_1494 : decode cL_law 1494 = .ok (.iconst 1, 1) := by decide +kernel
theorem dL_law_1495 : decode cL_law 1495 = .ok (.iadd, 1) := by decide +kernel
theorem dL_law_1496 : decode cL_law 1496 = .ok (.iaload, 1) := by decide +kernel
theorem dL_law_1497 : decode cL_law 1497 = .ok (.invokevirtual 201, 3) := by decide +kernel
theorem dL_law_1500 : decode cL_law 1500 = .ok (.aload_n 2, 1) := by decide +kernel
theorem dL_law_1501 : decode cL_law 1501 = .ok (.aload_n 0, 1) := by decide +kernel
theorem dL_law_1502 : decode cL_law 1502 = .ok (.iload_n 3, 1) := by decide +kernel
theorem dL_law_1503 : decode cL_law 1503 = .ok (.iconst 1, 1) := by decide +kernel
theorem dL_law_1504 : decode cL_law 1504 = .ok (.iadd, 1) := by decide +kernel
theorem dL_law_1505 : decode cL_law 1505 = .ok (.iaload, 1) := by decide +kernel
theorem dL_law_1506 : decode cL_law 1506 = .ok (.invokevirtual 204, 3) := by decide +kernel
theorem dL_law_1509 : decode cL_law 1509 = .ok (.if_icmp .eq 51, 3) := by decide +kernel
theorem dL_law_1512 : decode cL_law 1512 = .ok (.iconst 0, 1) := by decide +kernel
theorem dL_law_1513 : decode cL_law 1513 = .ok (.ireturn, 1) := by decide +kernel
theorem dL_law_1514 : decode cL_law 1514 = .ok (.aload_n 1, 1) := by decide +kernel
theorem dL_law_1515 : decode cL_law 1515 = .ok (.aload_n 0, 1) := by decide +kernel
theorem dL_law_1516 : decode cL_law 1516 = .ok (.iload_n 3, 1) := by decide +kernel
theorem dL_law_1517 : decode cL_law 1517 = .ok (.iconst 1, 1) := by decide +kernel
theorem dL_law_1518 : decode cL_law 1518 = .ok (.iadd, 1) := by decide +kernel
theorem dL_law_1519 : decode cL_law 1519 = .ok (.iaload, 1) := by decide +kernel
theorem dL_law_1520 : decode cL_law 1520 = .ok (.invokevirtual 205, 3) := by decide +kernel
theorem dL_law_1523 : decode cL_law 1523 = .ok (.aload_n 2, 1) := by decide +kernel
theorem dL_law_1524 : decode cL_law 1524 = .ok (.aload_n 0, 1) := by decide +kernel
theorem dL_law_1525 : decode cL_law 1525 = .ok (.iload_n 3, 1) := by decide +kernel
theorem dL_law_1526 : decode cL_law 1526 = .ok (.iconst 1, 1) := by decide +kernel
theorem dL_law_1527 : decode cL_law 1527 = .ok (.iadd, 1) := by decide +kernel
theorem dL_law_1528 : decode cL_law 1528 = .ok (.iaload, 1) := by decide +kernel
theorem dL_law_1529 : decode cL_law 1529 = .ok (.invokevirtual 208, 3) := by decide +kernel
theorem dL_law_1532 : decode cL_law 1532 = .ok (.if_icmp .eq 28, 3) := by decide +kernel
theorem dL_law_1535 : decode cL_law 1535 = .ok (.iconst 0, 1) := by decide +kernel
theorem dL_law_1536 : decode cL_law 1536 = .ok (.ireturn, 1) := by decide +kernel
theorem dL_law_1537 : decode cL_law 1537 = .ok (.aload_n 1, 1) := by decide +kernel
theorem dL_law_1538 : decode cL_law 1538 = .ok (.aload_n 0, 1) := by decide +kernel
theorem dL_law_1539 : decode cL_law 1539 = .ok (.iload_n 3, 1) := by decide +kernel
theorem dL_law_1540 : decode cL_law 1540 = .ok (.iconst 1, 1) := by decide +kernel
theorem dL_law_1541 : decode cL_law 1541 = .ok (.iadd, 1) := by decide +kernel
theorem dL_law_1542 : decode cL_law 1542 = .ok (.iaload, 1) := by decide +kernel
theorem dL_law_1543 : decode cL_law 1543 = .ok (.invokevirtual 209, 3) := by decide +kernel
theorem dL_law_1546 : decode cL_law 1546 = .ok (.aload_n 2, 1) := by decide +kernel
theorem dL_law_1547 : decode cL_law 1547 = .ok (.aload_n 0, 1) := by decide +kernel
theorem dL_law_1548 : decode cL_law 1548 = .ok (.iload_n 3, 1) := by decide +kernel
theorem dL_law_1549 : decode cL_law 1549 = .ok (.iconst 1, 1) := by decide +kernel
theorem dL_law_1550 : decode cL_law 1550 = .ok (.iadd, 1) := by decide +kernel
theorem dL_law_1551 : decode cL_law 1551 = .ok (.iaload, 1) := by decide +kernel
theorem dL_law_1552 : decode cL_law 1552 = .ok (.invokevirtual 212, 3) := by decide +kernel
theorem dL_law_1555 : decode cL_law 1555 = .ok (.if_icmp .eq 5, 3) := by decide +kernel
theorem dL_law_1558 : decode cL_law 1558 = .ok (.iconst 0, 1) := by decide +kernel
theorem dL_law_1559 : decode cL_law 1559 = .ok (.ireturn, 1) := by decide +kernel
theorem dL_law_1560 : decode cL_law 1560 = .ok (.iinc 3 6, 3) := by decide +kernel
theorem dL_law_1563 : decode cL_law 1563 = .ok (.goto (-1545), 3) := by decide +kernel
theorem dL_law_1566 : decode cL_law 1566 = .ok (.iconst 1, 1) := by decide +kernel
theorem dL_law_1567 : decode cL_law 1567 = .ok (.ireturn, 1) := by decide +kernel
noncomputable def xL_law_B18 (r18 : Nat → Nat → Nat → Int32 → ZH → Option (Int32 × ZH)) (l0 : Nat) (l1 : Nat) (l2 : Nat) (l3 : Int32) (h : ZH) : Option (Int32 × ZH) := ((z_aL h l0).bind fun x20 => (if (x20 - (6 : Int32)) < l3 then some ((1 : Int32), h) else ((z_aI h l0 l3).bind fun x29 => (if (x29 &&& (63 : Int32)) = 0 then ((z_aI h l0 (l3 + (1 : Int32))).bind fun x245 => ((z_aI h l0 (l3 + (2 : Int32))).bind fun x250 => ((z_aI h l0 (l3 + (3 : Int32))).bind fun x255 => ((z_aI h l0 (l3 + (4 : Int32))).bind fun x260 => ((z_aI h l0 (l3 + (5 : Int32))).bind fun x265 => (z_gu (z_is h l1 8) ((xX8_feed l1 x245 x250 x255 x260 x265 h).bind fun r266 => ((z_aI r266.2 l0 (l3 + (1 : Int32))).bind fun x274 => ((z_aI r266.2 l0 (l3 + (2 : Int32))).bind fun x279 => ((z_aI r266.2 l0 (l3 + (3 : Int32))).bind fun x284 => ((z_aI r266.2 l0 (l3 + (4 : Int32))).bind fun x289 => ((z_aI r266.2 l0 (l3 + (5 : Int32))).bind fun x294 => (z_gu (z_is r266.2 l2 9) ((xX9_feed l2 x274 x279 x284 x289 x294 r266.2).bind fun r295 => (if r266.1 = r295.1 then r18 l0 l1 l2 (l3 + 6) r295.2 else some ((0 : Int32), r295.2)))))))))))))))) else (if (x29 &&& (63 : Int32)) = 1 then ((z_aI h l0 (l3 + (1 : Int32))).bind fun x308 => (z_gu (z_is h l1 8) ((xX8_end l1 x308 h).bind fun r309 => ((z_aI r309.2 l0 (l3 + (1 : Int32))).bind fun x317 => (z_gu (z_is r309.2 l2 9) ((xX9_end l2 x317 r309.2).bind fun r318 => (if r309.1 = r318.1 then r18 l0 l1 l2 (l3 + 6) r318.2 else some ((0 : Int32), r318.2)))))))) else (if (x29 &&& (63 : Int32)) = 2 then (z_gu (z_is h l1 8) ((xX8_fleet l1 h).bind fun r327 => (z_gu (z_is r327.2 l2 9) ((xX9_fleet l2 r327.2).bind fun r331 => (if r327.1 = r331.1 then r18 l0 l1 l2 (l3 + 6) r331.2 else some ((0 : Int32), r331.2)))))) else (if (x29 &&& (63 : Int32)) = 3 then ((z_aI h l0 (l3 + (1 : Int32))).bind fun x344 => (z_gu (z_is h l1 8) ((xX8_fault l1 x344 h).bind fun r345 => ((z_aI r345.2 l0 (l3 + (1 : Int32))).bind fun x353 => (z_gu (z_is r345.2 l2 9) ((xX9_fault l2 x353 r345.2).bind fun r354 => (if r345.1 = r354.1 then r18 l0 l1 l2 (l3 + 6) r354.2 else some ((0 : Int32), r354.2)))))))) else (if (x29 &&& (63 : Int32)) = 4 then ((z_aI h l0 (l3 + (1 : Int32))).bind fun x367 => ((z_aI h l0 (l3 + (2 : Int32))).bind fun x372 => (z_gu (z_is h l1 8) ((xX8_ship l1 x367 x372 h).bind fun r373 => ((z_aI r373.2 l0 (l3 + (1 : Int32))).bind fun x381 => ((z_aI r373.2 l0 (l3 + (2 : Int32))).bind fun x386 => (z_gu (z_is r373.2 l2 9) ((xX9_ship l2 x381 x386 r373.2).bind fun r387 => (if r373.1 = r387.1 then r18 l0 l1 l2 (l3 + 6) r387.2 else some ((0 : Int32), r387.2)))))))))) else (if (x29 &&& (63 : Int32)) = 5 then ((z_aI h l0 (l3 + (1 : Int32))).bind fun x400 => ((z_aI h l0 (l3 + (2 : Int32))).bind fun x405 => ((z_aI h l0 (l3 + (3 : Int32))).bind fun x410 => (z_gu (z_is h l1 8) ((xX8_own l1 x400 x405 x410 h).bind fun r411 => ((z_aI r411.2 l0 (l3 + (1 : Int32))).bind fun x419 => ((z_aI r411.2 l0 (l3 + (2 : Int32))).bind fun x424 => ((z_aI r411.2 l0 (l3 + (3 : Int32))).bind fun x429 => (z_gu (z_is r411.2 l2 9) ((xX9_own l2 x419 x424 x429 r411.2).bind fun r430 => (if r411.1 = r430.1 then r18 l0 l1 l2 (l3 + 6) r430.2 else some ((0 : Int32), r430.2)))))))))))) else (if (x29 &&& (63 : Int32)) = 6 then ((z_aI h l0 (l3 + (1 : Int32))).bind fun x443 => ((z_aI h l0 (l3 + (2 : Int32))).bind fun x448 => ((z_aI h l0 (l3 + (3 : Int32))).bind fun x453 => (z_gu (z_is h l1 8) ((xX8_map l1 x443 x448 x453 h).bind fun r454 => ((z_aI r454.2 l0 (l3 + (1 : Int32))).bind fun x462 => ((z_aI r454.2 l0 (l3 + (2 : Int32))).bind fun x467 => ((z_aI r454.2 l0 (l3 + (3 : Int32))).bind fun x472 => (z_gu (z_is r454.2 l2 9) ((xX9_map l2 x462 x467 x472 r454.2).bind fun r473 => (if r454.1 = r473.1 then r18 l0 l1 l2 (l3 + 6) r473.2 else some ((0 : Int32), r473.2)))))))))))) else (if (x29 &&& (63 : Int32)) = 7 then ((z_aI h l0 (l3 + (1 : Int32))).bind fun x486 => ((z_aI h l0 (l3 + (2 : Int32))).bind fun x491 => ((z_aI h l0 (l3 + (3 : Int32))).bind fun x496 => (z_gu (z_is h l1 8) ((xX8_known l1 x486 x491 x496 h).bind fun r497 => ((z_aI r497.2 l0 (l3 + (1 : Int32))).bind fun x505 => ((z_aI r497.2 l0 (l3 + (2 : Int32))).bind fun x510 => ((z_aI r497.2 l0 (l3 + (3 : Int32))).bind fun x515 => (z_gu (z_is r497.2 l2 9) ((xX9_known l2 x505 x510 x515 r497.2).bind fun r516 => (if r497.1 = r516.1 then r18 l0 l1 l2 (l3 + 6) r516.2 else some ((0 : Int32), r516.2)))))))))))) else (if (x29 &&& (63 : Int32)) = 8 then ((z_aI h l0 (l3 + (1 : Int32))).bind fun x529 => ((z_aI h l0 (l3 + (2 : Int32))).bind fun x534 => (z_gu (z_is h l1 8) ((xX8_far l1 x529 x534 h).bind fun r535 => ((z_aI r535.2 l0 (l3 + (1 : Int32))).bind fun x543 => ((z_aI r535.2 l0 (l3 + (2 : Int32))).bind fun x548 => (z_gu (z_is r535.2 l2 9) ((xX9_far l2 x543 x548 r535.2).bind fun r549 => (if r535.1 = r549.1 then r18 l0 l1 l2 (l3 + 6) r549.2 else some ((0 : Int32), r549.2)))))))))) else (if (x29 &&& (63 : Int32)) = 9 then (z_gu (z_is h l1 8) ((xX8_step l1 h).bind fun r558 => (z_gu (z_is r558.2 l2 9) ((xX9_step l2 r558.2).bind fun r562 => (if r558.1 = r562.1 then r18 l0 l1 l2 (l3 + 6) r562.2 else some ((0 : Int32), r562.2)))))) else (if (x29 &&& (63 : Int32)) = 10 then ((z_aI h l0 (l3 + (1 : Int32))).bind fun x575 => ((z_aI h l0 (l3 + (2 : Int32))).bind fun x580 => ((z_aI h l0 (l3 + (3 : Int32))).bind fun x585 => (z_gu (z_is h l1 8) ((xX8_steer l1 x575 x580 x585 h).bind fun r586 => ((z_aI r586.2 l0 (l3 + (1 : Int32))).bind fun x594 => ((z_aI r586.2 l0 (l3 + (2 : Int32))).bind fun x599 => ((z_aI r586.2 l0 (l3 + (3 : Int32))).bind fun x604 => (z_gu (z_is r586.2 l2 9) ((xX9_steer l2 x594 x599 x604 r586.2).bind fun r605 => (if r586.1 = r605.1 then r18 l0 l1 l2 (l3 + 6) r605.2 else some ((0 : Int32), r605.2)))))))))))) else (if (x29 &&& (63 : Int32)) = 11 then ((z_aI h l0 (l3 + (1 : Int32))).bind fun x618 => (z_gu (z_is h l1 8) ((xX8_turn l1 x618 h).bind fun r619 => ((z_aI r619.2 l0 (l3 + (1 : Int32))).bind fun x627 => (z_gu (z_is r619.2 l2 9) ((xX9_turn l2 x627 r619.2).bind fun r628 => (if r619.1 = r628.1 then r18 l0 l1 l2 (l3 + 6) r628.2 else some ((0 : Int32), r628.2)))))))) else (if (x29 &&& (63 : Int32)) = 12 then (z_gu (z_is h l1 8) ((xX8_undo l1 h).bind fun r637 => (z_gu (z_is r637.2 l2 9) ((xX9_undo l2 r637.2).bind fun r641 => (if r637.1 = r641.1 then r18 l0 l1 l2 (l3 + 6) r641.2 else some ((0 : Int32), r641.2)))))) else (if (x29 &&& (63 : Int32)) = 13 then (z_gu (z_is h l1 8) ((xX8_redo l1 h).bind fun r650 => (z_gu (z_is r650.2 l2 9) ((xX9_redo l2 r650.2).bind fun r654 => (if r650.1 = r654.1 then r18 l0 l1 l2 (l3 + 6) r654.2 else some ((0 : Int32), r654.2)))))) else (if (x29 &&& (63 : Int32)) = 14 then ((z_aI h l0 (l3 + (1 : Int32))).bind fun x667 => ((z_aI h l0 (l3 + (2 : Int32))).bind fun x672 => (z_gu (z_is h l1 8) ((xX8_candidates l1 x667 x672 h).bind fun r673 => ((z_aI r673.2 l0 (l3 + (1 : Int32))).bind fun x681 => ((z_aI r673.2 l0 (l3 + (2 : Int32))).bind fun x686 => (z_gu (z_is r673.2 l2 9) ((xX9_candidates l2 x681 x686 r673.2).bind fun r687 => (if r673.1 = r687.1 then r18 l0 l1 l2 (l3 + 6) r687.2 else some ((0 : Int32), r687.2)))))))))) else (if (x29 &&& (63 : Int32)) = 15 then ((z_aI h l0 (l3 + (1 : Int32))).bind fun x700 => (z_gu (z_is h l1 8) ((xX8_free l1 x700 h).bind fun r701 => ((z_aI r701.2 l0 (l3 + (1 : Int32))).bind fun x709 => (z_gu (z_is r701.2 l2 9) ((xX9_free l2 x709 r701.2).bind fun r710 => (if r701.1 = r710.1 then r18 l0 l1 l2 (l3 + 6) r710.2 else some ((0 : Int32), r710.2)))))))) else (if (x29 &&& (63 : Int32)) = 16 then ((z_aI h l0 (l3 + (1 : Int32))).bind fun x723 => ((z_aI h l0 (l3 + (2 : Int32))).bind fun x728 => (z_gu (z_is h l1 8) ((xX8_reuse l1 x723 x728 h).bind fun r729 => ((z_aI r729.2 l0 (l3 + (1 : Int32))).bind fun x737 => ((z_aI r729.2 l0 (l3 + (2 : Int32))).bind fun x742 => (z_gu (z_is r729.2 l2 9) ((xX9_reuse l2 x737 x742 r729.2).bind fun r743 => (if r729.1 = r743.1 then r18 l0 l1 l2 (l3 + 6) r743.2 else some ((0 : Int32), r743.2)))))))))) else (if (x29 &&& (63 : Int32)) = 17 then ((z_aI h l0 (l3 + (1 : Int32))).bind fun x756 => (z_gu (z_is h l1 8) ((xX8_rate l1 x756 h).bind fun r757 => ((z_aI r757.2 l0 (l3 + (1 : Int32))).bind fun x765 => (z_gu (z_is r757.2 l2 9) ((xX9_rate l2 x765 r757.2).bind fun r766 => (if r757.1 = r766.1 then r18 l0 l1 l2 (l3 + 6) r766.2 else some ((0 : Int32), r766.2)))))))) else (if (x29 &&& (63 : Int32)) = 18 then ((z_aI h l0 (l3 + (1 : Int32))).bind fun x779 => (z_gu (z_is h l1 8) ((xX8_next l1 x779 h).bind fun r780 => ((z_aI r780.2 l0 (l3 + (1 : Int32))).bind fun x788 => (z_gu (z_is r780.2 l2 9) ((xX9_next l2 x788 r780.2).bind fun r789 => (if r780.1 = r789.1 then r18 l0 l1 l2 (l3 + 6) r789.2 else some ((0 : Int32), r789.2)))))))) else (if (x29 &&& (63 : Int32)) = 19 then ((z_aI h l0 (l3 + (1 : Int32))).bind fun x802 => ((z_aI h l0 (l3 + (2 : Int32))).bind fun x807 => (z_gu (z_is h l1 8) ((xX8_will l1 x802 x807 h).bind fun r808 => ((z_aI r808.2 l0 (l3 + (1 : Int32))).bind fun x816 => ((z_aI r808.2 l0 (l3 + (2 : Int32))).bind fun x821 => (z_gu (z_is r808.2 l2 9) ((xX9_will l2 x816 x821 r808.2).bind fun r822 => (if r808.1 = r822.1 then r18 l0 l1 l2 (l3 + 6) r822.2 else some ((0 : Int32), r822.2)))))))))) else (if (x29 &&& (63 : Int32)) = 20 then ((z_aI h l0 (l3 + (1 : Int32))).bind fun x835 => (z_gu (z_is h l1 8) ((xX8_clashes l1 x835 h).bind fun r836 => ((z_aI r836.2 l0 (l3 + (1 : Int32))).bind fun x844 => (z_gu (z_is r836.2 l2 9) ((xX9_clashes l2 x844 r836.2).bind fun r845 => (if r836.1 = r845.1 then r18 l0 l1 l2 (l3 + 6) r845.2 else some ((0 : Int32), r845.2)))))))) else (if (x29 &&& (63 : Int32)) = 21 then ((z_aI h l0 (l3 + (1 : Int32))).bind fun x858 => ((z_aI h l0 (l3 + (2 : Int32))).bind fun x863 => (z_gu (z_is h l1 8) ((xX8_agree l1 x858 x863 h).bind fun r864 => ((z_aI r864.2 l0 (l3 + (1 : Int32))).bind fun x872 => ((z_aI r864.2 l0 (l3 + (2 : Int32))).bind fun x877 => (z_gu (z_is r864.2 l2 9) ((xX9_agree l2 x872 x877 r864.2).bind fun r878 => (if r864.1 = r878.1 then r18 l0 l1 l2 (l3 + 6) r878.2 else some ((0 : Int32), r878.2)))))))))) else (if (x29 &&& (63 : Int32)) = 22 then ((z_aI h l0 (l3 + (1 : Int32))).bind fun x891 => (z_gu (z_is h l1 8) ((xX8_wrong l1 x891 h).bind fun r892 => ((z_aI r892.2 l0 (l3 + (1 : Int32))).bind fun x900 => (z_gu (z_is r892.2 l2 9) ((xX9_wrong l2 x900 r892.2).bind fun r901 => (if r892.1 = r901.1 then r18 l0 l1 l2 (l3 + 6) r901.2 else some ((0 : Int32), r901.2)))))))) else (if (x29 &&& (63 : Int32)) = 23 then ((z_aI h l0 (l3 + (1 : Int32))).bind fun x914 => ((z_aI h l0 (l3 + (2 : Int32))).bind fun x919 => (z_gu (z_is h l1 8) ((xX8_hidden l1 x914 x919 h).bind fun r920 => ((z_aI r920.2 l0 (l3 + (1 : Int32))).bind fun x928 => ((z_aI r920.2 l0 (l3 + (2 : Int32))).bind fun x933 => (z_gu (z_is r920.2 l2 9) ((xX9_hidden l2 x928 x933 r920.2).bind fun r934 => (if r920.1 = r934.1 then r18 l0 l1 l2 (l3 + 6) r934.2 else some ((0 : Int32), r934.2)))))))))) else (if (x29 &&& (63 : Int32)) = 24 then ((z_aI h l0 (l3 + (1 : Int32))).bind fun x947 => (z_gu (z_is h l1 8) ((xX8_colours l1 x947 h).bind fun r948 => ((z_aI r948.2 l0 (l3 + (1 : Int32))).bind fun x956 => (z_gu (z_is r948.2 l2 9) ((xX9_colours l2 x956 r948.2).bind fun r957 => (if r948.1 = r957.1 then r18 l0 l1 l2 (l3 + 6) r957.2 else some ((0 : Int32), r957.2)))))))) else (if (x29 &&& (63 : Int32)) = 25 then ((z_aI h l0 (l3 + (1 : Int32))).bind fun x970 => (z_gu (z_is h l1 8) ((xX8_crowd l1 x970 h).bind fun r971 => ((z_aI r971.2 l0 (l3 + (1 : Int32))).bind fun x979 => (z_gu (z_is r971.2 l2 9) ((xX9_crowd l2 x979 r971.2).bind fun r980 => (if r971.1 = r980.1 then r18 l0 l1 l2 (l3 + 6) r980.2 else some ((0 : Int32), r980.2)))))))) else (if (x29 &&& (63 : Int32)) = 26 then (z_gu (z_is h l1 8) ((xX8_parts l1 h).bind fun r989 => (z_gu (z_is r989.2 l2 9) ((xX9_parts l2 r989.2).bind fun r993 => (if r989.1 = r993.1 then r18 l0 l1 l2 (l3 + 6) r993.2 else some ((0 : Int32), r993.2)))))) else (if (x29 &&& (63 : Int32)) = 27 then (z_gu (z_is h l1 8) ((xX8_twins l1 h).bind fun r1002 => (z_gu (z_is r1002.2 l2 9) ((xX9_twins l2 r1002.2).bind fun r1006 => (if r1002.1 = r1006.1 then r18 l0 l1 l2 (l3 + 6) r1006.2 else some ((0 : Int32), r1006.2)))))) else (if (x29 &&& (63 : Int32)) = 28 then ((z_aI h l0 (l3 + (1 : Int32))).bind fun x1019 => ((z_aI h l0 (l3 + (2 : Int32))).bind fun x1024 => ((z_aI h l0 (l3 + (3 : Int32))).bind fun x1029 => (z_gu (z_is h l1 8) ((xX8_meet l1 x1019 x1024 x1029 h).bind fun r1030 => ((z_aI r1030.2 l0 (l3 + (1 : Int32))).bind fun x1038 => ((z_aI r1030.2 l0 (l3 + (2 : Int32))).bind fun x1043 => ((z_aI r1030.2 l0 (l3 + (3 : Int32))).bind fun x1048 => (z_gu (z_is r1030.2 l2 9) ((xX9_meet l2 x1038 x1043 x1048 r1030.2).bind fun r1049 => (if r1030.1 = r1049.1 then r18 l0 l1 l2 (l3 + 6) r1049.2 else some ((0 : Int32), r1049.2)))))))))))) else (if (x29 &&& (63 : Int32)) = 29 then (z_gu (z_is h l1 8) ((xX8_lit l1 h).bind fun r1058 => (z_gu (z_is r1058.2 l2 9) ((xX9_lit l2 r1058.2).bind fun r1062 => (if r1058.1 = r1062.1 then r18 l0 l1 l2 (l3 + 6) r1062.2 else some ((0 : Int32), r1062.2)))))) else (if (x29 &&& (63 : Int32)) = 30 then (z_gu (z_is h l1 8) ((xX8_taken l1 h).bind fun r1071 => (z_gu (z_is r1071.2 l2 9) ((xX9_taken l2 r1071.2).bind fun r1075 => (if r1071.1 = r1075.1 then r18 l0 l1 l2 (l3 + 6) r1075.2 else some ((0 : Int32), r1075.2)))))) else (if (x29 &&& (63 : Int32)) = 31 then ((z_aI h l0 (l3 + (1 : Int32))).bind fun x1088 => (z_gu (z_is h l1 8) ((xX8_fullest l1 x1088 h).bind fun r1089 => ((z_aI r1089.2 l0 (l3 + (1 : Int32))).bind fun x1097 => (z_gu (z_is r1089.2 l2 9) ((xX9_fullest l2 x1097 r1089.2).bind fun r1098 => (if r1089.1 = r1098.1 then r18 l0 l1 l2 (l3 + 6) r1098.2 else some ((0 : Int32), r1098.2)))))))) else (if (x29 &&& (63 : Int32)) = 32 then ((z_aI h l0 (l3 + (1 : Int32))).bind fun x1111 => (z_gu (z_is h l1 8) ((xX8_strangers l1 x1111 h).bind fun r1112 => ((z_aI r1112.2 l0 (l3 + (1 : Int32))).bind fun x1120 => (z_gu (z_is r1112.2 l2 9) ((xX9_strangers l2 x1120 r1112.2).bind fun r1121 => (if r1112.1 = r1121.1 then r18 l0 l1 l2 (l3 + 6) r1121.2 else some ((0 : Int32), r1121.2)))))))) else (if (x29 &&& (63 : Int32)) = 33 then (z_gu (z_is h l1 8) ((xX8_best l1 h).bind fun r1130 => (z_gu (z_is r1130.2 l2 9) ((xX9_best l2 r1130.2).bind fun r1134 => (if r1130.1 = r1134.1 then r18 l0 l1 l2 (l3 + 6) r1134.2 else some ((0 : Int32), r1134.2)))))) else (if (x29 &&& (63 : Int32)) = 34 then ((z_aI h l0 (l3 + (1 : Int32))).bind fun x1147 => (z_gu (z_is h l1 8) ((xX8_reach l1 x1147 h).bind fun r1148 => ((z_aI r1148.2 l0 (l3 + (1 : Int32))).bind fun x1156 => (z_gu (z_is r1148.2 l2 9) ((xX9_reach l2 x1156 r1148.2).bind fun r1157 => (if r1148.1 = r1157.1 then r18 l0 l1 l2 (l3 + 6) r1157.2 else some ((0 : Int32), r1157.2)))))))) else (if (x29 &&& (63 : Int32)) = 35 then ((z_aI h l0 (l3 + (1 : Int32))).bind fun x1170 => ((z_aI h l0 (l3 + (2 : Int32))).bind fun x1175 => ((z_aI h l0 (l3 + (3 : Int32))).bind fun x1180 => (z_gu (z_is h l1 8) ((xX8_law l1 x1170 x1175 x1180 h).bind fun r1181 => ((z_aI r1181.2 l0 (l3 + (1 : Int32))).bind fun x1189 => ((z_aI r1181.2 l0 (l3 + (2 : Int32))).bind fun x1194 => ((z_aI r1181.2 l0 (l3 + (3 : Int32))).bind fun x1199 => (z_gu (z_is r1181.2 l2 9) ((xX9_law l2 x1189 x1194 x1199 r1181.2).bind fun r1200 => (if r1181.1 = r1200.1 then r18 l0 l1 l2 (l3 + 6) r1200.2 else some ((0 : Int32), r1200.2)))))))))))) else (if (x29 &&& (63 : Int32)) = 36 then ((z_aI h l0 (l3 + (1 : Int32))).bind fun x1213 => ((z_aI h l0 (l3 + (2 : Int32))).bind fun x1218 => (z_gu (z_is h l1 8) ((xX8_odds l1 x1213 x1218 h).bind fun r1219 => ((z_aI r1219.2 l0 (l3 + (1 : Int32))).bind fun x1227 => ((z_aI r1219.2 l0 (l3 + (2 : Int32))).bind fun x1232 => (z_gu (z_is r1219.2 l2 9) ((xX9_odds l2 x1227 x1232 r1219.2).bind fun r1233 => (if r1219.1 = r1233.1 then r18 l0 l1 l2 (l3 + 6) r1233.2 else some ((0 : Int32), r1233.2)))))))))) else (if (x29 &&& (63 : Int32)) = 37 then ((z_aI h l0 (l3 + (1 : Int32))).bind fun x1246 => (z_gu (z_is h l1 8) ((xX8_near l1 x1246 h).bind fun r1247 => ((z_aI r1247.2 l0 (l3 + (1 : Int32))).bind fun x1255 => (z_gu (z_is r1247.2 l2 9) ((xX9_near l2 x1255 r1247.2).bind fun r1256 => (if r1247.1 = r1256.1 then r18 l0 l1 l2 (l3 + 6) r1256.2 else some ((0 : Int32), r1256.2)))))))) else (if (x29 &&& (63 : Int32)) = 38 then ((z_aI h l0 (l3 + (1 : Int32))).bind fun x1269 => (z_gu (z_is h l1 8) ((xX8_lies l1 x1269 h).bind fun r1270 => ((z_aI r1270.2 l0 (l3 + (1 : Int32))).bind fun x1278 => (z_gu (z_is r1270.2 l2 9) ((xX9_lies l2 x1278 r1270.2).bind fun r1279 => (if r1270.1 = r1279.1 then r18 l0 l1 l2 (l3 + 6) r1279.2 else some ((0 : Int32), r1279.2)))))))) else (if (x29 &&& (63 : Int32)) = 39 then ((z_aI h l0 (l3 + (1 : Int32))).bind fun x1292 => ((z_aI h l0 (l3 + (2 : Int32))).bind fun x1297 => ((z_aI h l0 (l3 + (3 : Int32))).bind fun x1302 => (if x1302 = 0 then (z_gu (z_is h l1 8) ((xX8_seen l1 x1292 x1297 (0 : Int32) h).bind fun r1311 => ((z_aI r1311.2 l0 (l3 + (1 : Int32))).bind fun x1319 => ((z_aI r1311.2 l0 (l3 + (2 : Int32))).bind fun x1324 => ((z_aI r1311.2 l0 (l3 + (3 : Int32))).bind fun x1329 => (if x1329 = 0 then (z_gu (z_is r1311.2 l2 9) ((xX9_seen l2 x1319 x1324 (0 : Int32) r1311.2).bind fun r1338 => (if r1311.1 = r1338.1 then r18 l0 l1 l2 (l3 + 6) r1338.2 else some ((0 : Int32), r1338.2)))) else (z_gu (z_is r1311.2 l2 9) ((xX9_seen l2 x1319 x1324 (1 : Int32) r1311.2).bind fun r1338 => (if r1311.1 = r1338.1 then r18 l0 l1 l2 (l3 + 6) r1338.2 else some ((0 : Int32), r1338.2)))))))))) else (z_gu (z_is h l1 8) ((xX8_seen l1 x1292 x1297 (1 : Int32) h).bind fun r1311 => ((z_aI r1311.2 l0 (l3 + (1 : Int32))).bind fun x1319 => ((z_aI r1311.2 l0 (l3 + (2 : Int32))).bind fun x1324 => ((z_aI r1311.2 l0 (l3 + (3 : Int32))).bind fun x1329 => (if x1329 = 0 then (z_gu (z_is r1311.2 l2 9) ((xX9_seen l2 x1319 x1324 (0 : Int32) r1311.2).bind fun r1338 => (if r1311.1 = r1338.1 then r18 l0 l1 l2 (l3 + 6) r1338.2 else some ((0 : Int32), r1338.2)))) else (z_gu (z_is r1311.2 l2 9) ((xX9_seen l2 x1319 x1324 (1 : Int32) r1311.2).bind fun r1338 => (if r1311.1 = r1338.1 then r18 l0 l1 l2 (l3 + 6) r1338.2 else some ((0 : Int32), r1338.2)))))))))))))) else (if (x29 &&& (63 : Int32)) = 40 then ((z_aI h l0 (l3 + (1 : Int32))).bind fun x1351 => (z_gu (z_is h l1 8) ((xX8_untell l1 x1351 h).bind fun r1352 => ((z_aI r1352.2 l0 (l3 + (1 : Int32))).bind fun x1360 => (z_gu (z_is r1352.2 l2 9) ((xX9_untell l2 x1360 r1352.2).bind fun r1361 => (if r1352.1 = r1361.1 then r18 l0 l1 l2 (l3 + 6) r1361.2 else some ((0 : Int32), r1361.2)))))))) else (if (x29 &&& (63 : Int32)) = 41 then ((z_aI h l0 (l3 + (1 : Int32))).bind fun x1374 => (z_gu (z_is h l1 8) ((xX8_later l1 x1374 h).bind fun r1375 => ((z_aI r1375.2 l0 (l3 + (1 : Int32))).bind fun x1383 => (z_gu (z_is r1375.2 l2 9) ((xX9_later l2 x1383 r1375.2).bind fun r1384 => (if r1375.1 = r1384.1 then r18 l0 l1 l2 (l3 + 6) r1384.2 else some ((0 : Int32), r1384.2)))))))) else (if (x29 &&& (63 : Int32)) = 42 then ((z_aI h l0 (l3 + (1 : Int32))).bind fun x1397 => (z_gu (z_is h l1 8) ((xX8_fits l1 x1397 h).bind fun r1398 => ((z_aI r1398.2 l0 (l3 + (1 : Int32))).bind fun x1406 => (z_gu (z_is r1398.2 l2 9) ((xX9_fits l2 x1406 r1398.2).bind fun r1407 => (if r1398.1 = r1407.1 then r18 l0 l1 l2 (l3 + 6) r1407.2 else some ((0 : Int32), r1407.2)))))))) else (if (x29 &&& (63 : Int32)) = 43 then ((z_aI h l0 (l3 + (1 : Int32))).bind fun x1420 => ((z_aI h l0 (l3 + (2 : Int32))).bind fun x1425 => (z_gu (z_is h l1 8) ((xX8_sure l1 x1420 x1425 h).bind fun r1426 => ((z_aI r1426.2 l0 (l3 + (1 : Int32))).bind fun x1434 => ((z_aI r1426.2 l0 (l3 + (2 : Int32))).bind fun x1439 => (z_gu (z_is r1426.2 l2 9) ((xX9_sure l2 x1434 x1439 r1426.2).bind fun r1440 => (if r1426.1 = r1440.1 then r18 l0 l1 l2 (l3 + 6) r1440.2 else some ((0 : Int32), r1440.2)))))))))) else (if (x29 &&& (63 : Int32)) = 44 then ((z_aI h l0 (l3 + (1 : Int32))).bind fun x1453 => ((z_aI h l0 (l3 + (2 : Int32))).bind fun x1458 => ((z_aI h l0 (l3 + (3 : Int32))).bind fun x1463 => (z_gu (z_is h l1 8) ((xX8_ask l1 x1453 x1458 x1463 h).bind fun r1464 => ((z_aI r1464.2 l0 (l3 + (1 : Int32))).bind fun x1472 => ((z_aI r1464.2 l0 (l3 + (2 : Int32))).bind fun x1477 => ((z_aI r1464.2 l0 (l3 + (3 : Int32))).bind fun x1482 => (z_gu (z_is r1464.2 l2 9) ((xX9_ask l2 x1472 x1477 x1482 r1464.2).bind fun r1483 => (if r1464.1 = r1483.1 then r18 l0 l1 l2 (l3 + 6) r1483.2 else some ((0 : Int32), r1483.2)))))))))))) else (if (x29 &&& (63 : Int32)) = 45 then ((z_aI h l0 (l3 + (1 : Int32))).bind fun x1496 => (z_gu (z_is h l1 8) ((xX8_image l1 x1496 h).bind fun r1497 => ((z_aI r1497.2 l0 (l3 + (1 : Int32))).bind fun x1505 => (z_gu (z_is r1497.2 l2 9) ((xX9_image l2 x1505 r1497.2).bind fun r1506 => (if r1497.1 = r1506.1 then r18 l0 l1 l2 (l3 + 6) r1506.2 else some ((0 : Int32), r1506.2)))))))) else (if (x29 &&& (63 : Int32)) = 46 then ((z_aI h l0 (l3 + (1 : Int32))).bind fun x1519 => (z_gu (z_is h l1 8) ((xX8_back l1 x1519 h).bind fun r1520 => ((z_aI r1520.2 l0 (l3 + (1 : Int32))).bind fun x1528 => (z_gu (z_is r1520.2 l2 9) ((xX9_back l2 x1528 r1520.2).bind fun r1529 => (if r1520.1 = r1529.1 then r18 l0 l1 l2 (l3 + 6) r1529.2 else some ((0 : Int32), r1529.2)))))))) else (if (x29 &&& (63 : Int32)) = 47 then ((z_aI h l0 (l3 + (1 : Int32))).bind fun x1542 => (z_gu (z_is h l1 8) ((xX8_about l1 x1542 h).bind fun r1543 => ((z_aI r1543.2 l0 (l3 + (1 : Int32))).bind fun x1551 => (z_gu (z_is r1543.2 l2 9) ((xX9_about l2 x1551 r1543.2).bind fun r1552 => (if r1543.1 = r1552.1 then r18 l0 l1 l2 (l3 + 6) r1552.2 else some ((0 : Int32), r1552.2)))))))) else r18 l0 l1 l2 (l3 + 6) h)))))))))))))))))))))))))))))))))))))))))))))))))))
noncomputable def xL_law_L18 (n : Nat) : Nat → Nat → Nat → Int32 → ZH → Option (Int32 × ZH) := Nat.rec (motive := fun _ => Nat → Nat → Nat → Int32 → ZH → Option (Int32 × ZH)) (fun _ _ _ _ _ => none) (fun _ rec => xL_law_B18 rec) n
set_option maxHeartbeats 40000000 in
set_option maxRecDepth 100000 in
theorem wL_law_B18 {Γ : ZG} {p : Program} {l : Launch} {e : Env} {s : State} {m : MethodId} {b : Nat} {below : List Frame} {meth : Method} {c : Code} (hO : z_OK Γ) (G : z_GG Γ p s m #[Value.ref b] meth c cL_law 4 RL) (hb0 : Γ.2.2.2.1 = s.heap.size) (hr : meth.sig.returnType = ret) {r : Int32 × ZH} (hr1 : r.1 = 1) {nn kc ks : Nat} (hkc : kc + 13 * (nn + 1) ≤ 600000) (hks : ks + 534 * (nn + 1) ≤ 7302250) {r18 : Nat → Nat → Nat → Int32 → ZH → Option (Int32 × ZH)} (H18 : ∀ (l0 : Nat) (l1 : Nat) (l2 : Nat) (l3 : Int32) (h : ZH), r18 l0 l1 l2 l3 h = some r → z_W Γ p l e room_1 s m #[Value.ref b] below meth c 4 (kc + 13) (ks + 534) (lw_Z below #[Value.ref b] s) 18 [(0, .ref l0), (1, .ref l1), (2, .ref l2), (3, .int l3)] [] h) : ∀ (l0 : Nat) (l1 : Nat) (l2 : Nat) (l3 : Int32) (h : ZH), xL_law_B18 r18 l0 l1 l2 l3 h = some r → z_W Γ p l e room_1 s m #[Value.ref b] below meth c 4 kc ks (lw_Z below #[Value.ref b] s) 18 [(0, .ref l0), (1, .ref l1), (2, .ref l2), (3, .int l3)] [] h := by
  intro l0 l1 l2 l3 h hX
  have hkc2 : kc + 13 ≤ 600000 := by omega
  have hks2 : ks + 534 ≤ 7302250 := by omega
  clear hkc hks
  refine z_iload_n (pc := 18) G 3 dL_law_18 rfl rfl ?_
  refine z_aload_n (pc := 19) G 0 dL_law_19 rfl rfl ?_
  obtain ⟨x20, hv20, hX⟩ := z_bd hX
  refine z_alen (pc := 20) G dL_law_20 hv20 ?_
  refine z_bipush (pc := 21) (v := 6) G dL_law_21 (by decide) ?_
  refine z_isub (pc := 23) G dL_law_23 ?_
  refine z_icmp_gt (pc := 24) (tgt := 1566) G dL_law_24 (by decide) (fun hc24 => ?_) (fun hc24 => ?_)
  · have hX := z_it hc24 hX
    refine z_iconst (pc := 1566) (v := 1) G dL_law_1566 (by decide) ?_
    exact z_lret (pc := 1567) hX hr1 G hb0 hr dL_law_1567 (by omega) (by omega)
  · have hX := z_if hc24 hX
    refine z_aload_n (pc := 27) G 0 dL_law_27 rfl rfl ?_
    refine z_iload_n (pc := 28) G 3 dL_law_28 rfl rfl ?_
    obtain ⟨x29, hv29, hX⟩ := z_bd hX
    refine z_iald (pc := 29) G dL_law_29 hv29 ?_
    refine z_bipush (pc := 30) (v := 63) G dL_law_30 (by decide) ?_
    refine z_iand (pc := 32) G dL_law_32 ?_
    by_cases hs33_0 : (x29 &&& (63 : Int32)) = 0
    · have hX := z_it hs33_0 hX
      refine z_tableIn (pc := 33) (off := 207) (tgt := 240) G dL_law_33 (by rw [hs33_0]; decide) (by rw [hs33_0]; decide) (by rw [hs33_0]; decide) (by decide) ?_
      refine z_aload_n (pc := 240) G 1 dL_law_240 rfl rfl ?_
      refine z_aload_n (pc := 241) G 0 dL_law_241 rfl rfl ?_
      refine z_iload_n (pc := 242) G 3 dL_law_242 rfl rfl ?_
      refine z_iconst (pc := 243) (v := 1) G dL_law_243 (by decide) ?_
      refine z_iadd (pc := 244) G dL_law_244 ?_
      obtain ⟨x245, hv245, hX⟩ := z_bd hX
      refine z_iald (pc := 245) G dL_law_245 hv245 ?_
      refine z_aload_n (pc := 246) G 0 dL_law_246 rfl rfl ?_
      refine z_iload_n (pc := 247) G 3 dL_law_247 rfl rfl ?_
      refine z_iconst (pc := 248) (v := 2) G dL_law_248 (by decide) ?_
      refine z_iadd (pc := 249) G dL_law_249 ?_
      obtain ⟨x250, hv250, hX⟩ := z_bd hX
      refine z_iald (pc := 250) G dL_law_250 hv250 ?_
      refine z_aload_n (pc := 251) G 0 dL_law_251 rfl rfl ?_
      refine z_iload_n (pc := 252) G 3 dL_law_252 rfl rfl ?_
      refine z_iconst (pc := 253) (v := 3) G dL_law_253 (by decide) ?_
      refine z_iadd (pc := 254) G dL_law_254 ?_
      obtain ⟨x255, hv255, hX⟩ := z_bd hX
      refine z_iald (pc := 255) G dL_law_255 hv255 ?_
      refine z_aload_n (pc := 256) G 0 dL_law_256 rfl rfl ?_
      refine z_iload_n (pc := 257) G 3 dL_law_257 rfl rfl ?_
      refine z_iconst (pc := 258) (v := 4) G dL_law_258 (by decide) ?_
      refine z_iadd (pc := 259) G dL_law_259 ?_
      obtain ⟨x260, hv260, hX⟩ := z_bd hX
      refine z_iald (pc := 260) G dL_law_260 hv260 ?_
      refine z_aload_n (pc := 261) G 0 dL_law_261 rfl rfl ?_
      refine z_iload_n (pc := 262) G 3 dL_law_262 rfl rfl ?_
      refine z_iconst (pc := 263) (v := 5) G dL_law_263 (by decide) ?_
      refine z_iadd (pc := 264) G dL_law_264 ?_
      obtain ⟨x265, hv265, hX⟩ := z_bd hX
      refine z_iald (pc := 265) G dL_law_265 hv265 ?_
      obtain ⟨hi266, hX⟩ := z_gu_s hX
      obtain ⟨r266, hv266, hX⟩ := z_bd hX
      refine z_cVI (pc := 266) (As := [.int x245, .int x250, .int x255, .int x260, .int x265]) (c2 := kc) (s2 := ks) G kK8 (lX8_feed hO hv266) hi266 kt_482 kt_1 kt_479 kt_480 kt_481 ydX8_feed ⟨by decide, by decide⟩ rfl (Nat.le_of_ble_eq_true rfl) ⟨by show kc + 0 = kc; omega, by show ks + 0 = ks; omega⟩ ⟨by show kc ≤ 600000; omega, by show ks ≤ 7302250; omega⟩ rfl dL_law_266 ?_
      refine z_aload_n (pc := 269) G 2 dL_law_269 rfl rfl ?_
      refine z_aload_n (pc := 270) G 0 dL_law_270 rfl rfl ?_
      refine z_iload_n (pc := 271) G 3 dL_law_271 rfl rfl ?_
      refine z_iconst (pc := 272) (v := 1) G dL_law_272 (by decide) ?_
      refine z_iadd (pc := 273) G dL_law_273 ?_
      obtain ⟨x274, hv274, hX⟩ := z_bd hX
      refine z_iald (pc := 274) G dL_law_274 hv274 ?_
      refine z_aload_n (pc := 275) G 0 dL_law_275 rfl rfl ?_
      refine z_iload_n (pc := 276) G 3 dL_law_276 rfl rfl ?_
      refine z_iconst (pc := 277) (v := 2) G dL_law_277 (by decide) ?_
      refine z_iadd (pc := 278) G dL_law_278 ?_
      obtain ⟨x279, hv279, hX⟩ := z_bd hX
      refine z_iald (pc := 279) G dL_law_279 hv279 ?_
      refine z_aload_n (pc := 280) G 0 dL_law_280 rfl rfl ?_
      refine z_iload_n (pc := 281) G 3 dL_law_281 rfl rfl ?_
      refine z_iconst (pc := 282) (v := 3) G dL_law_282 (by decide) ?_
      refine z_iadd (pc := 283) G dL_law_283 ?_
      obtain ⟨x284, hv284, hX⟩ := z_bd hX
      refine z_iald (pc := 284) G dL_law_284 hv284 ?_
      refine z_aload_n (pc := 285) G 0 dL_law_285 rfl rfl ?_
      refine z_iload_n (pc := 286) G 3 dL_law_286 rfl rfl ?_
      refine z_iconst (pc := 287) (v := 4) G dL_law_287 (by decide) ?_
      refine z_iadd (pc := 288) G dL_law_288 ?_
      obtain ⟨x289, hv289, hX⟩ := z_bd hX
      refine z_iald (pc := 289) G dL_law_289 hv289 ?_
      refine z_aload_n (pc := 290) G 0 dL_law_290 rfl rfl ?_
      refine z_iload_n (pc := 291) G 3 dL_law_291 rfl rfl ?_
      refine z_iconst (pc := 292) (v := 5) G dL_law_292 (by decide) ?_
      refine z_iadd (pc := 293) G dL_law_293 ?_
      obtain ⟨x294, hv294, hX⟩ := z_bd hX
      refine z_iald (pc := 294) G dL_law_294 hv294 ?_
      obtain ⟨hi295, hX⟩ := z_gu_s hX
      obtain ⟨r295, hv295, hX⟩ := z_bd hX
      refine z_cVI (pc := 295) (As := [.int x274, .int x279, .int x284, .int x289, .int x294]) (c2 := kc) (s2 := ks) G kK9 (lX9_feed hO hv295) hi295 kt_1938 kt_11 kt_1935 kt_1936 kt_1937 ydX9_feed ⟨by decide, by decide⟩ rfl (Nat.le_of_ble_eq_true rfl) ⟨by show kc + 0 = kc; omega, by show ks + 0 = ks; omega⟩ ⟨by show kc ≤ 600000; omega, by show ks ≤ 7302250; omega⟩ rfl dL_law_295 ?_
      refine z_icmp_eq (pc := 298) (tgt := 1560) G dL_law_298 (by decide) (fun hc298 => ?_) (fun hc298 => ?_)
      · have hX := z_it hc298 hX
        refine z_iincw (pc := 1560) (w := 6) (lv2 := [(0, .ref l0), (1, .ref l1), (2, .ref l2), (3, .int (l3 + 6))]) G 3 dL_law_1560 rfl (by decide) (by decide) rfl rfl ?_
        refine z_goto (pc := 1563) (tgt := 18) G dL_law_1563 (by decide) ?_
        refine z_wid (k := kc + 13) (n := ks + 534) (by omega) (by omega) ?_
        exact H18 _ _ _ _ _ hX
      · have hX := z_if hc298 hX
        refine z_iconst (pc := 301) (v := 0) G dL_law_301 (by decide) ?_
        exact z_lno hX hr1
    have hX := z_if hs33_0 hX
    by_cases hs33_1 : (x29 &&& (63 : Int32)) = 1
    · have hX := z_it hs33_1 hX
      refine z_tableIn (pc := 33) (off := 270) (tgt := 303) G dL_law_33 (by rw [hs33_1]; decide) (by rw [hs33_1]; decide) (by rw [hs33_1]; decide) (by decide) ?_
      refine z_aload_n (pc := 303) G 1 dL_law_303 rfl rfl ?_
      refine z_aload_n (pc := 304) G 0 dL_law_304 rfl rfl ?_
      refine z_iload_n (pc := 305) G 3 dL_law_305 rfl rfl ?_
      refine z_iconst (pc := 306) (v := 1) G dL_law_306 (by decide) ?_
      refine z_iadd (pc := 307) G dL_law_307 ?_
      obtain ⟨x308, hv308, hX⟩ := z_bd hX
      refine z_iald (pc := 308) G dL_law_308 hv308 ?_
      obtain ⟨hi309, hX⟩ := z_gu_s hX
      obtain ⟨r309, hv309, hX⟩ := z_bd hX
      refine z_cVI (pc := 309) (As := [.int x308]) (c2 := kc) (s2 := ks) G kK8 (lX8_end hO hv309) hi309 kt_490 kt_1 kt_487 kt_488 kt_489 ydX8_end ⟨by decide, by decide⟩ rfl (Nat.le_of_ble_eq_true rfl) ⟨by show kc + 0 = kc; omega, by show ks + 0 = ks; omega⟩ ⟨by show kc ≤ 600000; omega, by show ks ≤ 7302250; omega⟩ rfl dL_law_309 ?_
      refine z_aload_n (pc := 312) G 2 dL_law_312 rfl rfl ?_
      refine z_aload_n (pc := 313) G 0 dL_law_313 rfl rfl ?_
      refine z_iload_n (pc := 314) G 3 dL_law_314 rfl rfl ?_
      refine z_iconst (pc := 315) (v := 1) G dL_law_315 (by decide) ?_
      refine z_iadd (pc := 316) G dL_law_316 ?_
      obtain ⟨x317, hv317, hX⟩ := z_bd hX
      refine z_iald (pc := 317) G dL_law_317 hv317 ?_
      obtain ⟨hi318, hX⟩ := z_gu_s hX
      obtain ⟨r318, hv318, hX⟩ := z_bd hX
      refine z_cVI (pc := 318) (As := [.int x317]) (c2 := kc) (s2 := ks) G kK9 (lX9_end hO hv318) hi318 kt_1942 kt_11 kt_1939 kt_1940 kt_1941 ydX9_end ⟨by decide, by decide⟩ rfl (Nat.le_of_ble_eq_true rfl) ⟨by show kc + 0 = kc; omega, by show ks + 0 = ks; omega⟩ ⟨by show kc ≤ 600000; omega, by show ks ≤ 7302250; omega⟩ rfl dL_law_318 ?_
      refine z_icmp_eq (pc := 321) (tgt := 1560) G dL_law_321 (by decide) (fun hc321 => ?_) (fun hc321 => ?_)
      · have hX := z_it hc321 hX
        refine z_iincw (pc := 1560) (w := 6) (lv2 := [(0, .ref l0), (1, .ref l1), (2, .ref l2), (3, .int (l3 + 6))]) G 3 dL_law_1560 rfl (by decide) (by decide) rfl rfl ?_
        refine z_goto (pc := 1563) (tgt := 18) G dL_law_1563 (by decide) ?_
        refine z_wid (k := kc + 13) (n := ks + 534) (by omega) (by omega) ?_
        exact H18 _ _ _ _ _ hX
      · have hX := z_if hc321 hX
        refine z_iconst (pc := 324) (v := 0) G dL_law_324 (by decide) ?_
        exact z_lno hX hr1
    have hX := z_if hs33_1 hX
    by_cases hs33_2 : (x29 &&& (63 : Int32)) = 2
    · have hX := z_it hs33_2 hX
      refine z_tableIn (pc := 33) (off := 293) (tgt := 326) G dL_law_33 (by rw [hs33_2]; decide) (by rw [hs33_2]; decide) (by rw [hs33_2]; decide) (by decide) ?_
      refine z_aload_n (pc := 326) G 1 dL_law_326 rfl rfl ?_
      obtain ⟨hi327, hX⟩ := z_gu_s hX
      obtain ⟨r327, hv327, hX⟩ := z_bd hX
      refine z_cVI (pc := 327) (As := []) (c2 := kc) (s2 := ks) G kK8 (lX8_fleet hO hv327) hi327 kt_494 kt_1 kt_491 kt_492 kt_493 ydX8_fleet ⟨by decide, by decide⟩ rfl (Nat.le_of_ble_eq_true rfl) ⟨by show kc + 0 = kc; omega, by show ks + 0 = ks; omega⟩ ⟨by show kc ≤ 600000; omega, by show ks ≤ 7302250; omega⟩ rfl dL_law_327 ?_
      refine z_aload_n (pc := 330) G 2 dL_law_330 rfl rfl ?_
      obtain ⟨hi331, hX⟩ := z_gu_s hX
      obtain ⟨r331, hv331, hX⟩ := z_bd hX
      refine z_cVI (pc := 331) (As := []) (c2 := kc) (s2 := ks) G kK9 (lX9_fleet hO hv331) hi331 kt_1414 kt_11 kt_1411 kt_1412 kt_1413 ydX9_fleet ⟨by decide, by decide⟩ rfl (Nat.le_of_ble_eq_true rfl) ⟨by show kc + 0 = kc; omega, by show ks + 0 = ks; omega⟩ ⟨by show kc ≤ 600000; omega, by show ks ≤ 7302250; omega⟩ rfl dL_law_331 ?_
      refine z_icmp_eq (pc := 334) (tgt := 1560) G dL_law_334 (by decide) (fun hc334 => ?_) (fun hc334 => ?_)
      · have hX := z_it hc334 hX
        refine z_iincw (pc := 1560) (w := 6) (lv2 := [(0, .ref l0), (1, .ref l1), (2, .ref l2), (3, .int (l3 + 6))]) G 3 dL_law_1560 rfl (by decide) (by decide) rfl rfl ?_
        refine z_goto (pc := 1563) (tgt := 18) G dL_law_1563 (by decide) ?_
        refine z_wid (k := kc + 13) (n := ks + 534) (by omega) (by omega) ?_
        exact H18 _ _ _ _ _ hX
      · have hX := z_if hc334 hX
        refine z_iconst (pc := 337) (v := 0) G dL_law_337 (by decide) ?_
        exact z_lno hX hr1
    have hX := z_if hs33_2 hX
    by_cases hs33_3 : (x29 &&& (63 : Int32)) = 3
    · have hX := z_it hs33_3 hX
      refine z_tableIn (pc := 33) (off := 306) (tgt := 339) G dL_law_33 (by rw [hs33_3]; decide) (by rw [hs33_3]; decide) (by rw [hs33_3]; decide) (by decide) ?_
      refine z_aload_n (pc := 339) G 1 dL_law_339 rfl rfl ?_
      refine z_aload_n (pc := 340) G 0 dL_law_340 rfl rfl ?_
      refine z_iload_n (pc := 341) G 3 dL_law_341 rfl rfl ?_
      refine z_iconst (pc := 342) (v := 1) G dL_law_342 (by decide) ?_
      refine z_iadd (pc := 343) G dL_law_343 ?_
      obtain ⟨x344, hv344, hX⟩ := z_bd hX
      refine z_iald (pc := 344) G dL_law_344 hv344 ?_
      obtain ⟨hi345, hX⟩ := z_gu_s hX
      obtain ⟨r345, hv345, hX⟩ := z_bd hX
      refine z_cVI (pc := 345) (As := [.int x344]) (c2 := kc) (s2 := ks) G kK8 (lX8_fault hO hv345) hi345 kt_719 kt_1 kt_716 kt_717 kt_718 ydX8_fault ⟨by decide, by decide⟩ rfl (Nat.le_of_ble_eq_true rfl) ⟨by show kc + 0 = kc; omega, by show ks + 0 = ks; omega⟩ ⟨by show kc ≤ 600000; omega, by show ks ≤ 7302250; omega⟩ rfl dL_law_345 ?_
      refine z_aload_n (pc := 348) G 2 dL_law_348 rfl rfl ?_
      refine z_aload_n (pc := 349) G 0 dL_law_349 rfl rfl ?_
      refine z_iload_n (pc := 350) G 3 dL_law_350 rfl rfl ?_
      refine z_iconst (pc := 351) (v := 1) G dL_law_351 (by decide) ?_
      refine z_iadd (pc := 352) G dL_law_352 ?_
      obtain ⟨x353, hv353, hX⟩ := z_bd hX
      refine z_iald (pc := 353) G dL_law_353 hv353 ?_
      obtain ⟨hi354, hX⟩ := z_gu_s hX
      obtain ⟨r354, hv354, hX⟩ := z_bd hX
      refine z_cVI (pc := 354) (As := [.int x353]) (c2 := kc) (s2 := ks) G kK9 (lX9_fault hO hv354) hi354 kt_1548 kt_11 kt_1545 kt_1546 kt_1547 ydX9_fault ⟨by decide, by decide⟩ rfl (Nat.le_of_ble_eq_true rfl) ⟨by show kc + 0 = kc; omega, by show ks + 0 = ks; omega⟩ ⟨by show kc ≤ 600000; omega, by show ks ≤ 7302250; omega⟩ rfl dL_law_354 ?_
      refine z_icmp_eq (pc := 357) (tgt := 1560) G dL_law_357 (by decide) (fun hc357 => ?_) (fun hc357 => ?_)
      · have hX := z_it hc357 hX
        refine z_iincw (pc := 1560) (w := 6) (lv2 := [(0, .ref l0), (1, .ref l1), (2, .ref l2), (3, .int (l3 + 6))]) G 3 dL_law_1560 rfl (by decide) (by decide) rfl rfl ?_
        refine z_goto (pc := 1563) (tgt := 18) G dL_law_1563 (by decide) ?_
        refine z_wid (k := kc + 13) (n := ks + 534) (by omega) (by omega) ?_
        exact H18 _ _ _ _ _ hX
      · have hX := z_if hc357 hX
        refine z_iconst (pc := 360) (v := 0) G dL_law_360 (by decide) ?_
        exact z_lno hX hr1
    have hX := z_if hs33_3 hX
    by_cases hs33_4 : (x29 &&& (63 : Int32)) = 4
    · have hX := z_it hs33_4 hX
      refine z_tableIn (pc := 33) (off := 329) (tgt := 362) G dL_law_33 (by rw [hs33_4]; decide) (by rw [hs33_4]; decide) (by rw [hs33_4]; decide) (by decide) ?_
      refine z_aload_n (pc := 362) G 1 dL_law_362 rfl rfl ?_
      refine z_aload_n (pc := 363) G 0 dL_law_363 rfl rfl ?_
      refine z_iload_n (pc := 364) G 3 dL_law_364 rfl rfl ?_
      refine z_iconst (pc := 365) (v := 1) G dL_law_365 (by decide) ?_
      refine z_iadd (pc := 366) G dL_law_366 ?_
      obtain ⟨x367, hv367, hX⟩ := z_bd hX
      refine z_iald (pc := 367) G dL_law_367 hv367 ?_
      refine z_aload_n (pc := 368) G 0 dL_law_368 rfl rfl ?_
      refine z_iload_n (pc := 369) G 3 dL_law_369 rfl rfl ?_
      refine z_iconst (pc := 370) (v := 2) G dL_law_370 (by decide) ?_
      refine z_iadd (pc := 371) G dL_law_371 ?_
      obtain ⟨x372, hv372, hX⟩ := z_bd hX
      refine z_iald (pc := 372) G dL_law_372 hv372 ?_
      obtain ⟨hi373, hX⟩ := z_gu_s hX
      obtain ⟨r373, hv373, hX⟩ := z_bd hX
      refine z_cVI (pc := 373) (As := [.int x367, .int x372]) (c2 := kc) (s2 := ks) G kK8 (lX8_ship hO hv373) hi373 kt_723 kt_1 kt_720 kt_721 kt_722 ydX8_ship ⟨by decide, by decide⟩ rfl (Nat.le_of_ble_eq_true rfl) ⟨by show kc + 0 = kc; omega, by show ks + 0 = ks; omega⟩ ⟨by show kc ≤ 600000; omega, by show ks ≤ 7302250; omega⟩ rfl dL_law_373 ?_
      refine z_aload_n (pc := 376) G 2 dL_law_376 rfl rfl ?_
      refine z_aload_n (pc := 377) G 0 dL_law_377 rfl rfl ?_
      refine z_iload_n (pc := 378) G 3 dL_law_378 rfl rfl ?_
      refine z_iconst (pc := 379) (v := 1) G dL_law_379 (by decide) ?_
      refine z_iadd (pc := 380) G dL_law_380 ?_
      obtain ⟨x381, hv381, hX⟩ := z_bd hX
      refine z_iald (pc := 381) G dL_law_381 hv381 ?_
      refine z_aload_n (pc := 382) G 0 dL_law_382 rfl rfl ?_
      refine z_iload_n (pc := 383) G 3 dL_law_383 rfl rfl ?_
      refine z_iconst (pc := 384) (v := 2) G dL_law_384 (by decide) ?_
      refine z_iadd (pc := 385) G dL_law_385 ?_
      obtain ⟨x386, hv386, hX⟩ := z_bd hX
      refine z_iald (pc := 386) G dL_law_386 hv386 ?_
      obtain ⟨hi387, hX⟩ := z_gu_s hX
      obtain ⟨r387, hv387, hX⟩ := z_bd hX
      refine z_cVI (pc := 387) (As := [.int x381, .int x386]) (c2 := kc) (s2 := ks) G kK9 (lX9_ship hO hv387) hi387 kt_1552 kt_11 kt_1549 kt_1550 kt_1551 ydX9_ship ⟨by decide, by decide⟩ rfl (Nat.le_of_ble_eq_true rfl) ⟨by show kc + 0 = kc; omega, by show ks + 0 = ks; omega⟩ ⟨by show kc ≤ 600000; omega, by show ks ≤ 7302250; omega⟩ rfl dL_law_387 ?_
      refine z_icmp_eq (pc := 390) (tgt := 1560) G dL_law_390 (by decide) (fun hc390 => ?_) (fun hc390 => ?_)
      · have hX := z_it hc390 hX
        refine z_iincw (pc := 1560) (w := 6) (lv2 := [(0, .ref l0), (1, .ref l1), (2, .ref l2), (3, .int (l3 + 6))]) G 3 dL_law_1560 rfl (by decide) (by decide) rfl rfl ?_
        refine z_goto (pc := 1563) (tgt := 18) G dL_law_1563 (by decide) ?_
        refine z_wid (k := kc + 13) (n := ks + 534) (by omega) (by omega) ?_
        exact H18 _ _ _ _ _ hX
      · have hX := z_if hc390 hX
        refine z_iconst (pc := 393) (v := 0) G dL_law_393 (by decide) ?_
        exact z_lno hX hr1
    have hX := z_if hs33_4 hX
    by_cases hs33_5 : (x29 &&& (63 : Int32)) = 5
    · have hX := z_it hs33_5 hX
      refine z_tableIn (pc := 33) (off := 362) (tgt := 395) G dL_law_33 (by rw [hs33_5]; decide) (by rw [hs33_5]; decide) (by rw [hs33_5]; decide) (by decide) ?_
      refine z_aload_n (pc := 395) G 1 dL_law_395 rfl rfl ?_
      refine z_aload_n (pc := 396) G 0 dL_law_396 rfl rfl ?_
      refine z_iload_n (pc := 397) G 3 dL_law_397 rfl rfl ?_
      refine z_iconst (pc := 398) (v := 1) G dL_law_398 (by decide) ?_
      refine z_iadd (pc := 399) G dL_law_399 ?_
      obtain ⟨x400, hv400, hX⟩ := z_bd hX
      refine z_iald (pc := 400) G dL_law_400 hv400 ?_
      refine z_aload_n (pc := 401) G 0 dL_law_401 rfl rfl ?_
      refine z_iload_n (pc := 402) G 3 dL_law_402 rfl rfl ?_
      refine z_iconst (pc := 403) (v := 2) G dL_law_403 (by decide) ?_
      refine z_iadd (pc := 404) G dL_law_404 ?_
      obtain ⟨x405, hv405, hX⟩ := z_bd hX
      refine z_iald (pc := 405) G dL_law_405 hv405 ?_
      refine z_aload_n (pc := 406) G 0 dL_law_406 rfl rfl ?_
      refine z_iload_n (pc := 407) G 3 dL_law_407 rfl rfl ?_
      refine z_iconst (pc := 408) (v := 3) G dL_law_408 (by decide) ?_
      refine z_iadd (pc := 409) G dL_law_409 ?_
      obtain ⟨x410, hv410, hX⟩ := z_bd hX
      refine z_iald (pc := 410) G dL_law_410 hv410 ?_
      obtain ⟨hi411, hX⟩ := z_gu_s hX
      obtain ⟨r411, hv411, hX⟩ := z_bd hX
      refine z_cVI (pc := 411) (As := [.int x400, .int x405, .int x410]) (c2 := kc) (s2 := ks) G kK8 (lX8_own hO hv411) hi411 kt_758 kt_1 kt_755 kt_756 kt_757 ydX8_own ⟨by decide, by decide⟩ rfl (Nat.le_of_ble_eq_true rfl) ⟨by show kc + 0 = kc; omega, by show ks + 0 = ks; omega⟩ ⟨by show kc ≤ 600000; omega, by show ks ≤ 7302250; omega⟩ rfl dL_law_411 ?_
      refine z_aload_n (pc := 414) G 2 dL_law_414 rfl rfl ?_
      refine z_aload_n (pc := 415) G 0 dL_law_415 rfl rfl ?_
      refine z_iload_n (pc := 416) G 3 dL_law_416 rfl rfl ?_
      refine z_iconst (pc := 417) (v := 1) G dL_law_417 (by decide) ?_
      refine z_iadd (pc := 418) G dL_law_418 ?_
      obtain ⟨x419, hv419, hX⟩ := z_bd hX
      refine z_iald (pc := 419) G dL_law_419 hv419 ?_
      refine z_aload_n (pc := 420) G 0 dL_law_420 rfl rfl ?_
      refine z_iload_n (pc := 421) G 3 dL_law_421 rfl rfl ?_
      refine z_iconst (pc := 422) (v := 2) G dL_law_422 (by decide) ?_
      refine z_iadd (pc := 423) G dL_law_423 ?_
      obtain ⟨x424, hv424, hX⟩ := z_bd hX
      refine z_iald (pc := 424) G dL_law_424 hv424 ?_
      refine z_aload_n (pc := 425) G 0 dL_law_425 rfl rfl ?_
      refine z_iload_n (pc := 426) G 3 dL_law_426 rfl rfl ?_
      refine z_iconst (pc := 427) (v := 3) G dL_law_427 (by decide) ?_
      refine z_iadd (pc := 428) G dL_law_428 ?_
      obtain ⟨x429, hv429, hX⟩ := z_bd hX
      refine z_iald (pc := 429) G dL_law_429 hv429 ?_
      obtain ⟨hi430, hX⟩ := z_gu_s hX
      obtain ⟨r430, hv430, hX⟩ := z_bd hX
      refine z_cVI (pc := 430) (As := [.int x419, .int x424, .int x429]) (c2 := kc) (s2 := ks) G kK9 (lX9_own hO hv430) hi430 kt_1586 kt_11 kt_1583 kt_1584 kt_1585 ydX9_own ⟨by decide, by decide⟩ rfl (Nat.le_of_ble_eq_true rfl) ⟨by show kc + 0 = kc; omega, by show ks + 0 = ks; omega⟩ ⟨by show kc ≤ 600000; omega, by show ks ≤ 7302250; omega⟩ rfl dL_law_430 ?_
      refine z_icmp_eq (pc := 433) (tgt := 1560) G dL_law_433 (by decide) (fun hc433 => ?_) (fun hc433 => ?_)
      · have hX := z_it hc433 hX
        refine z_iincw (pc := 1560) (w := 6) (lv2 := [(0, .ref l0), (1, .ref l1), (2, .ref l2), (3, .int (l3 + 6))]) G 3 dL_law_1560 rfl (by decide) (by decide) rfl rfl ?_
        refine z_goto (pc := 1563) (tgt := 18) G dL_law_1563 (by decide) ?_
        refine z_wid (k := kc + 13) (n := ks + 534) (by omega) (by omega) ?_
        exact H18 _ _ _ _ _ hX
      · have hX := z_if hc433 hX
        refine z_iconst (pc := 436) (v := 0) G dL_law_436 (by decide) ?_
        exact z_lno hX hr1
    have hX := z_if hs33_5 hX
    by_cases hs33_6 : (x29 &&& (63 : Int32)) = 6
    · have hX := z_it hs33_6 hX
      refine z_tableIn (pc := 33) (off := 405) (tgt := 438) G dL_law_33 (by rw [hs33_6]; decide) (by rw [hs33_6]; decide) (by rw [hs33_6]; decide) (by decide) ?_
      refine z_aload_n (pc := 438) G 1 dL_law_438 rfl rfl ?_
      refine z_aload_n (pc := 439) G 0 dL_law_439 rfl rfl ?_
      refine z_iload_n (pc := 440) G 3 dL_law_440 rfl rfl ?_
      refine z_iconst (pc := 441) (v := 1) G dL_law_441 (by decide) ?_
      refine z_iadd (pc := 442) G dL_law_442 ?_
      obtain ⟨x443, hv443, hX⟩ := z_bd hX
      refine z_iald (pc := 443) G dL_law_443 hv443 ?_
      refine z_aload_n (pc := 444) G 0 dL_law_444 rfl rfl ?_
      refine z_iload_n (pc := 445) G 3 dL_law_445 rfl rfl ?_
      refine z_iconst (pc := 446) (v := 2) G dL_law_446 (by decide) ?_
      refine z_iadd (pc := 447) G dL_law_447 ?_
      obtain ⟨x448, hv448, hX⟩ := z_bd hX
      refine z_iald (pc := 448) G dL_law_448 hv448 ?_
      refine z_aload_n (pc := 449) G 0 dL_law_449 rfl rfl ?_
      refine z_iload_n (pc := 450) G 3 dL_law_450 rfl rfl ?_
      refine z_iconst (pc := 451) (v := 3) G dL_law_451 (by decide) ?_
      refine z_iadd (pc := 452) G dL_law_452 ?_
      obtain ⟨x453, hv453, hX⟩ := z_bd hX
      refine z_iald (pc := 453) G dL_law_453 hv453 ?_
      obtain ⟨hi454, hX⟩ := z_gu_s hX
      obtain ⟨r454, hv454, hX⟩ := z_bd hX
      refine z_cVI (pc := 454) (As := [.int x443, .int x448, .int x453]) (c2 := kc) (s2 := ks) G kK8 (lX8_map hO hv454) hi454 kt_762 kt_1 kt_759 kt_760 kt_761 ydX8_map ⟨by decide, by decide⟩ rfl (Nat.le_of_ble_eq_true rfl) ⟨by show kc + 0 = kc; omega, by show ks + 0 = ks; omega⟩ ⟨by show kc ≤ 600000; omega, by show ks ≤ 7302250; omega⟩ rfl dL_law_454 ?_
      refine z_aload_n (pc := 457) G 2 dL_law_457 rfl rfl ?_
      refine z_aload_n (pc := 458) G 0 dL_law_458 rfl rfl ?_
      refine z_iload_n (pc := 459) G 3 dL_law_459 rfl rfl ?_
      refine z_iconst (pc := 460) (v := 1) G dL_law_460 (by decide) ?_
      refine z_iadd (pc := 461) G dL_law_461 ?_
      obtain ⟨x462, hv462, hX⟩ := z_bd hX
      refine z_iald (pc := 462) G dL_law_462 hv462 ?_
      refine z_aload_n (pc := 463) G 0 dL_law_463 rfl rfl ?_
      refine z_iload_n (pc := 464) G 3 dL_law_464 rfl rfl ?_
      refine z_iconst (pc := 465) (v := 2) G dL_law_465 (by decide) ?_
      refine z_iadd (pc := 466) G dL_law_466 ?_
      obtain ⟨x467, hv467, hX⟩ := z_bd hX
      refine z_iald (pc := 467) G dL_law_467 hv467 ?_
      refine z_aload_n (pc := 468) G 0 dL_law_468 rfl rfl ?_
      refine z_iload_n (pc := 469) G 3 dL_law_469 rfl rfl ?_
      refine z_iconst (pc := 470) (v := 3) G dL_law_470 (by decide) ?_
      refine z_iadd (pc := 471) G dL_law_471 ?_
      obtain ⟨x472, hv472, hX⟩ := z_bd hX
      refine z_iald (pc := 472) G dL_law_472 hv472 ?_
      obtain ⟨hi473, hX⟩ := z_gu_s hX
      obtain ⟨r473, hv473, hX⟩ := z_bd hX
      refine z_cVI (pc := 473) (As := [.int x462, .int x467, .int x472]) (c2 := kc) (s2 := ks) G kK9 (lX9_map hO hv473) hi473 kt_1590 kt_11 kt_1587 kt_1588 kt_1589 ydX9_map ⟨by decide, by decide⟩ rfl (Nat.le_of_ble_eq_true rfl) ⟨by show kc + 0 = kc; omega, by show ks + 0 = ks; omega⟩ ⟨by show kc ≤ 600000; omega, by show ks ≤ 7302250; omega⟩ rfl dL_law_473 ?_
      refine z_icmp_eq (pc := 476) (tgt := 1560) G dL_law_476 (by decide) (fun hc476 => ?_) (fun hc476 => ?_)
      · have hX := z_it hc476 hX
        refine z_iincw (pc := 1560) (w := 6) (lv2 := [(0, .ref l0), (1, .ref l1), (2, .ref l2), (3, .int (l3 + 6))]) G 3 dL_law_1560 rfl (by decide) (by decide) rfl rfl ?_
        refine z_goto (pc := 1563) (tgt := 18) G dL_law_1563 (by decide) ?_
        refine z_wid (k := kc + 13) (n := ks + 534) (by omega) (by omega) ?_
        exact H18 _ _ _ _ _ hX
      · have hX := z_if hc476 hX
        refine z_iconst (pc := 479) (v := 0) G dL_law_479 (by decide) ?_
        exact z_lno hX hr1
    have hX := z_if hs33_6 hX
    by_cases hs33_7 : (x29 &&& (63 : Int32)) = 7
    · have hX := z_it hs33_7 hX
      refine z_tableIn (pc := 33) (off := 448) (tgt := 481) G dL_law_33 (by rw [hs33_7]; decide) (by rw [hs33_7]; decide) (by rw [hs33_7]; decide) (by decide) ?_
      refine z_aload_n (pc := 481) G 1 dL_law_481 rfl rfl ?_
      refine z_aload_n (pc := 482) G 0 dL_law_482 rfl rfl ?_
      refine z_iload_n (pc := 483) G 3 dL_law_483 rfl rfl ?_
      refine z_iconst (pc := 484) (v := 1) G dL_law_484 (by decide) ?_
      refine z_iadd (pc := 485) G dL_law_485 ?_
      obtain ⟨x486, hv486, hX⟩ := z_bd hX
      refine z_iald (pc := 486) G dL_law_486 hv486 ?_
      refine z_aload_n (pc := 487) G 0 dL_law_487 rfl rfl ?_
      refine z_iload_n (pc := 488) G 3 dL_law_488 rfl rfl ?_
      refine z_iconst (pc := 489) (v := 2) G dL_law_489 (by decide) ?_
      refine z_iadd (pc := 490) G dL_law_490 ?_
      obtain ⟨x491, hv491, hX⟩ := z_bd hX
      refine z_iald (pc := 491) G dL_law_491 hv491 ?_
      refine z_aload_n (pc := 492) G 0 dL_law_492 rfl rfl ?_
      refine z_iload_n (pc := 493) G 3 dL_law_493 rfl rfl ?_
      refine z_iconst (pc := 494) (v := 3) G dL_law_494 (by decide) ?_
      refine z_iadd (pc := 495) G dL_law_495 ?_
      obtain ⟨x496, hv496, hX⟩ := z_bd hX
      refine z_iald (pc := 496) G dL_law_496 hv496 ?_
      obtain ⟨hi497, hX⟩ := z_gu_s hX
      obtain ⟨r497, hv497, hX⟩ := z_bd hX
      refine z_cVI (pc := 497) (As := [.int x486, .int x491, .int x496]) (c2 := kc) (s2 := ks) G kK8 (lX8_known hO hv497) hi497 kt_770 kt_1 kt_767 kt_768 kt_769 ydX8_known ⟨by decide, by decide⟩ rfl (Nat.le_of_ble_eq_true rfl) ⟨by show kc + 0 = kc; omega, by show ks + 0 = ks; omega⟩ ⟨by show kc ≤ 600000; omega, by show ks ≤ 7302250; omega⟩ rfl dL_law_497 ?_
      refine z_aload_n (pc := 500) G 2 dL_law_500 rfl rfl ?_
      refine z_aload_n (pc := 501) G 0 dL_law_501 rfl rfl ?_
      refine z_iload_n (pc := 502) G 3 dL_law_502 rfl rfl ?_
      refine z_iconst (pc := 503) (v := 1) G dL_law_503 (by decide) ?_
      refine z_iadd (pc := 504) G dL_law_504 ?_
      obtain ⟨x505, hv505, hX⟩ := z_bd hX
      refine z_iald (pc := 505) G dL_law_505 hv505 ?_
      refine z_aload_n (pc := 506) G 0 dL_law_506 rfl rfl ?_
      refine z_iload_n (pc := 507) G 3 dL_law_507 rfl rfl ?_
      refine z_iconst (pc := 508) (v := 2) G dL_law_508 (by decide) ?_
      refine z_iadd (pc := 509) G dL_law_509 ?_
      obtain ⟨x510, hv510, hX⟩ := z_bd hX
      refine z_iald (pc := 510) G dL_law_510 hv510 ?_
      refine z_aload_n (pc := 511) G 0 dL_law_511 rfl rfl ?_
      refine z_iload_n (pc := 512) G 3 dL_law_512 rfl rfl ?_
      refine z_iconst (pc := 513) (v := 3) G dL_law_513 (by decide) ?_
      refine z_iadd (pc := 514) G dL_law_514 ?_
      obtain ⟨x515, hv515, hX⟩ := z_bd hX
      refine z_iald (pc := 515) G dL_law_515 hv515 ?_
      obtain ⟨hi516, hX⟩ := z_gu_s hX
      obtain ⟨r516, hv516, hX⟩ := z_bd hX
      refine z_cVI (pc := 516) (As := [.int x505, .int x510, .int x515]) (c2 := kc) (s2 := ks) G kK9 (lX9_known hO hv516) hi516 kt_1598 kt_11 kt_1595 kt_1596 kt_1597 ydX9_known ⟨by decide, by decide⟩ rfl (Nat.le_of_ble_eq_true rfl) ⟨by show kc + 0 = kc; omega, by show ks + 0 = ks; omega⟩ ⟨by show kc ≤ 600000; omega, by show ks ≤ 7302250; omega⟩ rfl dL_law_516 ?_
      refine z_icmp_eq (pc := 519) (tgt := 1560) G dL_law_519 (by decide) (fun hc519 => ?_) (fun hc519 => ?_)
      · have hX := z_it hc519 hX
        refine z_iincw (pc := 1560) (w := 6) (lv2 := [(0, .ref l0), (1, .ref l1), (2, .ref l2), (3, .int (l3 + 6))]) G 3 dL_law_1560 rfl (by decide) (by decide) rfl rfl ?_
        refine z_goto (pc := 1563) (tgt := 18) G dL_law_1563 (by decide) ?_
        refine z_wid (k := kc + 13) (n := ks + 534) (by omega) (by omega) ?_
        exact H18 _ _ _ _ _ hX
      · have hX := z_if hc519 hX
        refine z_iconst (pc := 522) (v := 0) G dL_law_522 (by decide) ?_
        exact z_lno hX hr1
    have hX := z_if hs33_7 hX
    by_cases hs33_8 : (x29 &&& (63 : Int32)) = 8
    · have hX := z_it hs33_8 hX
      refine z_tableIn (pc := 33) (off := 491) (tgt := 524) G dL_law_33 (by rw [hs33_8]; decide) (by rw [hs33_8]; decide) (by rw [hs33_8]; decide) (by decide) ?_
      refine z_aload_n (pc := 524) G 1 dL_law_524 rfl rfl ?_
      refine z_aload_n (pc := 525) G 0 dL_law_525 rfl rfl ?_
      refine z_iload_n (pc := 526) G 3 dL_law_526 rfl rfl ?_
      refine z_iconst (pc := 527) (v := 1) G dL_law_527 (by decide) ?_
      refine z_iadd (pc := 528) G dL_law_528 ?_
      obtain ⟨x529, hv529, hX⟩ := z_bd hX
      refine z_iald (pc := 529) G dL_law_529 hv529 ?_
      refine z_aload_n (pc := 530) G 0 dL_law_530 rfl rfl ?_
      refine z_iload_n (pc := 531) G 3 dL_law_531 rfl rfl ?_
      refine z_iconst (pc := 532) (v := 2) G dL_law_532 (by decide) ?_
      refine z_iadd (pc := 533) G dL_law_533 ?_
      obtain ⟨x534, hv534, hX⟩ := z_bd hX
      refine z_iald (pc := 534) G dL_law_534 hv534 ?_
      obtain ⟨hi535, hX⟩ := z_gu_s hX
      obtain ⟨r535, hv535, hX⟩ := z_bd hX
      refine z_cVI (pc := 535) (As := [.int x529, .int x534]) (c2 := kc) (s2 := ks) G kK8 (lX8_far hO hv535) hi535 kt_779 kt_1 kt_776 kt_777 kt_778 ydX8_far ⟨by decide, by decide⟩ rfl (Nat.le_of_ble_eq_true rfl) ⟨by show kc + 0 = kc; omega, by show ks + 0 = ks; omega⟩ ⟨by show kc ≤ 600000; omega, by show ks ≤ 7302250; omega⟩ rfl dL_law_535 ?_
      refine z_aload_n (pc := 538) G 2 dL_law_538 rfl rfl ?_
      refine z_aload_n (pc := 539) G 0 dL_law_539 rfl rfl ?_
      refine z_iload_n (pc := 540) G 3 dL_law_540 rfl rfl ?_
      refine z_iconst (pc := 541) (v := 1) G dL_law_541 (by decide) ?_
      refine z_iadd (pc := 542) G dL_law_542 ?_
      obtain ⟨x543, hv543, hX⟩ := z_bd hX
      refine z_iald (pc := 543) G dL_law_543 hv543 ?_
      refine z_aload_n (pc := 544) G 0 dL_law_544 rfl rfl ?_
      refine z_iload_n (pc := 545) G 3 dL_law_545 rfl rfl ?_
      refine z_iconst (pc := 546) (v := 2) G dL_law_546 (by decide) ?_
      refine z_iadd (pc := 547) G dL_law_547 ?_
      obtain ⟨x548, hv548, hX⟩ := z_bd hX
      refine z_iald (pc := 548) G dL_law_548 hv548 ?_
      obtain ⟨hi549, hX⟩ := z_gu_s hX
      obtain ⟨r549, hv549, hX⟩ := z_bd hX
      refine z_cVI (pc := 549) (As := [.int x543, .int x548]) (c2 := kc) (s2 := ks) G kK9 (lX9_far hO hv549) hi549 kt_1602 kt_11 kt_1599 kt_1600 kt_1601 ydX9_far ⟨by decide, by decide⟩ rfl (Nat.le_of_ble_eq_true rfl) ⟨by show kc + 0 = kc; omega, by show ks + 0 = ks; omega⟩ ⟨by show kc ≤ 600000; omega, by show ks ≤ 7302250; omega⟩ rfl dL_law_549 ?_
      refine z_icmp_eq (pc := 552) (tgt := 1560) G dL_law_552 (by decide) (fun hc552 => ?_) (fun hc552 => ?_)
      · have hX := z_it hc552 hX
        refine z_iincw (pc := 1560) (w := 6) (lv2 := [(0, .ref l0), (1, .ref l1), (2, .ref l2), (3, .int (l3 + 6))]) G 3 dL_law_1560 rfl (by decide) (by decide) rfl rfl ?_
        refine z_goto (pc := 1563) (tgt := 18) G dL_law_1563 (by decide) ?_
        refine z_wid (k := kc + 13) (n := ks + 534) (by omega) (by omega) ?_
        exact H18 _ _ _ _ _ hX
      · have hX := z_if hc552 hX
        refine z_iconst (pc := 555) (v := 0) G dL_law_555 (by decide) ?_
        exact z_lno hX hr1
    have hX := z_if hs33_8 hX
    by_cases hs33_9 : (x29 &&& (63 : Int32)) = 9
    · have hX := z_it hs33_9 hX
      refine z_tableIn (pc := 33) (off := 524) (tgt := 557) G dL_law_33 (by rw [hs33_9]; decide) (by rw [hs33_9]; decide) (by rw [hs33_9]; decide) (by decide) ?_
      refine z_aload_n (pc := 557) G 1 dL_law_557 rfl rfl ?_
      obtain ⟨hi558, hX⟩ := z_gu_s hX
      obtain ⟨r558, hv558, hX⟩ := z_bd hX
      refine z_cVI (pc := 558) (As := []) (c2 := (kc + 13)) (s2 := (ks + 534)) G kK8 (lX8_step hO hv558) hi558 kt_790 kt_1 kt_787 kt_788 kt_789 ydX8_step ⟨by decide, by decide⟩ rfl (Nat.le_of_ble_eq_true rfl) ⟨by show kc + 13 = (kc + 13); omega, by show ks + 534 = (ks + 534); omega⟩ ⟨by show (kc + 13) ≤ 600000; omega, by show (ks + 534) ≤ 7302250; omega⟩ rfl dL_law_558 ?_
      refine z_aload_n (pc := 561) G 2 dL_law_561 rfl rfl ?_
      obtain ⟨hi562, hX⟩ := z_gu_s hX
      obtain ⟨r562, hv562, hX⟩ := z_bd hX
      refine z_cVI (pc := 562) (As := []) (c2 := (kc + 13)) (s2 := (ks + 534)) G kK9 (lX9_step hO hv562) hi562 kt_1719 kt_11 kt_1716 kt_1717 kt_1718 ydX9_step ⟨by decide, by decide⟩ rfl (Nat.le_of_ble_eq_true rfl) ⟨by show (kc + 13) + 0 = (kc + 13); omega, by show (ks + 534) + 0 = (ks + 534); omega⟩ ⟨by show (kc + 13) ≤ 600000; omega, by show (ks + 534) ≤ 7302250; omega⟩ rfl dL_law_562 ?_
      refine z_icmp_eq (pc := 565) (tgt := 1560) G dL_law_565 (by decide) (fun hc565 => ?_) (fun hc565 => ?_)
      · have hX := z_it hc565 hX
        refine z_iincw (pc := 1560) (w := 6) (lv2 := [(0, .ref l0), (1, .ref l1), (2, .ref l2), (3, .int (l3 + 6))]) G 3 dL_law_1560 rfl (by decide) (by decide) rfl rfl ?_
        refine z_goto (pc := 1563) (tgt := 18) G dL_law_1563 (by decide) ?_
        refine z_wid (k := kc + 13) (n := ks + 534) (by omega) (by omega) ?_
        exact H18 _ _ _ _ _ hX
      · have hX := z_if hc565 hX
        refine z_iconst (pc := 568) (v := 0) G dL_law_568 (by decide) ?_
        exact z_lno hX hr1
    have hX := z_if hs33_9 hX
    by_cases hs33_10 : (x29 &&& (63 : Int32)) = 10
    · have hX := z_it hs33_10 hX
      refine z_tableIn (pc := 33) (off := 537) (tgt := 570) G dL_law_33 (by rw [hs33_10]; decide) (by rw [hs33_10]; decide) (by rw [hs33_10]; decide) (by decide) ?_
      refine z_aload_n (pc := 570) G 1 dL_law_570 rfl rfl ?_
      refine z_aload_n (pc := 571) G 0 dL_law_571 rfl rfl ?_
      refine z_iload_n (pc := 572) G 3 dL_law_572 rfl rfl ?_
      refine z_iconst (pc := 573) (v := 1) G dL_law_573 (by decide) ?_
      refine z_iadd (pc := 574) G dL_law_574 ?_
      obtain ⟨x575, hv575, hX⟩ := z_bd hX
      refine z_iald (pc := 575) G dL_law_575 hv575 ?_
      refine z_aload_n (pc := 576) G 0 dL_law_576 rfl rfl ?_
      refine z_iload_n (pc := 577) G 3 dL_law_577 rfl rfl ?_
      refine z_iconst (pc := 578) (v := 2) G dL_law_578 (by decide) ?_
      refine z_iadd (pc := 579) G dL_law_579 ?_
      obtain ⟨x580, hv580, hX⟩ := z_bd hX
      refine z_iald (pc := 580) G dL_law_580 hv580 ?_
      refine z_aload_n (pc := 581) G 0 dL_law_581 rfl rfl ?_
      refine z_iload_n (pc := 582) G 3 dL_law_582 rfl rfl ?_
      refine z_iconst (pc := 583) (v := 3) G dL_law_583 (by decide) ?_
      refine z_iadd (pc := 584) G dL_law_584 ?_
      obtain ⟨x585, hv585, hX⟩ := z_bd hX
      refine z_iald (pc := 585) G dL_law_585 hv585 ?_
      obtain ⟨hi586, hX⟩ := z_gu_s hX
      obtain ⟨r586, hv586, hX⟩ := z_bd hX
      refine z_cVI (pc := 586) (As := [.int x575, .int x580, .int x585]) (c2 := (kc + 13)) (s2 := (ks + 534)) G kK8 (lX8_steer hO hv586) hi586 kt_918 kt_1 kt_915 kt_916 kt_917 ydX8_steer ⟨by decide, by decide⟩ rfl (Nat.le_of_ble_eq_true rfl) ⟨by show kc + 13 = (kc + 13); omega, by show ks + 534 = (ks + 534); omega⟩ ⟨by show (kc + 13) ≤ 600000; omega, by show (ks + 534) ≤ 7302250; omega⟩ rfl dL_law_586 ?_
      refine z_aload_n (pc := 589) G 2 dL_law_589 rfl rfl ?_
      refine z_aload_n (pc := 590) G 0 dL_law_590 rfl rfl ?_
      refine z_iload_n (pc := 591) G 3 dL_law_591 rfl rfl ?_
      refine z_iconst (pc := 592) (v := 1) G dL_law_592 (by decide) ?_
      refine z_iadd (pc := 593) G dL_law_593 ?_
      obtain ⟨x594, hv594, hX⟩ := z_bd hX
      refine z_iald (pc := 594) G dL_law_594 hv594 ?_
      refine z_aload_n (pc := 595) G 0 dL_law_595 rfl rfl ?_
      refine z_iload_n (pc := 596) G 3 dL_law_596 rfl rfl ?_
      refine z_iconst (pc := 597) (v := 2) G dL_law_597 (by decide) ?_
      refine z_iadd (pc := 598) G dL_law_598 ?_
      obtain ⟨x599, hv599, hX⟩ := z_bd hX
      refine z_iald (pc := 599) G dL_law_599 hv599 ?_
      refine z_aload_n (pc := 600) G 0 dL_law_600 rfl rfl ?_
      refine z_iload_n (pc := 601) G 3 dL_law_601 rfl rfl ?_
      refine z_iconst (pc := 602) (v := 3) G dL_law_602 (by decide) ?_
      refine z_iadd (pc := 603) G dL_law_603 ?_
      obtain ⟨x604, hv604, hX⟩ := z_bd hX
      refine z_iald (pc := 604) G dL_law_604 hv604 ?_
      obtain ⟨hi605, hX⟩ := z_gu_s hX
      obtain ⟨r605, hv605, hX⟩ := z_bd hX
      refine z_cVI (pc := 605) (As := [.int x594, .int x599, .int x604]) (c2 := (kc + 13)) (s2 := (ks + 534)) G kK9 (lX9_steer hO hv605) hi605 kt_1779 kt_11 kt_1776 kt_1777 kt_1778 ydX9_steer ⟨by decide, by decide⟩ rfl (Nat.le_of_ble_eq_true rfl) ⟨by show (kc + 13) + 0 = (kc + 13); omega, by show (ks + 534) + 0 = (ks + 534); omega⟩ ⟨by show (kc + 13) ≤ 600000; omega, by show (ks + 534) ≤ 7302250; omega⟩ rfl dL_law_605 ?_
      refine z_icmp_eq (pc := 608) (tgt := 1560) G dL_law_608 (by decide) (fun hc608 => ?_) (fun hc608 => ?_)
      · have hX := z_it hc608 hX
        refine z_iincw (pc := 1560) (w := 6) (lv2 := [(0, .ref l0), (1, .ref l1), (2, .ref l2), (3, .int (l3 + 6))]) G 3 dL_law_1560 rfl (by decide) (by decide) rfl rfl ?_
        refine z_goto (pc := 1563) (tgt := 18) G dL_law_1563 (by decide) ?_
        refine z_wid (k := kc + 13) (n := ks + 534) (by omega) (by omega) ?_
        exact H18 _ _ _ _ _ hX
      · have hX := z_if hc608 hX
        refine z_iconst (pc := 611) (v := 0) G dL_law_611 (by decide) ?_
        exact z_lno hX hr1
    have hX := z_if hs33_10 hX
    by_cases hs33_11 : (x29 &&& (63 : Int32)) = 11
    · have hX := z_it hs33_11 hX
      refine z_tableIn (pc := 33) (off := 580) (tgt := 613) G dL_law_33 (by rw [hs33_11]; decide) (by rw [hs33_11]; decide) (by rw [hs33_11]; decide) (by decide) ?_
      refine z_aload_n (pc := 613) G 1 dL_law_613 rfl rfl ?_
      refine z_aload_n (pc := 614) G 0 dL_law_614 rfl rfl ?_
      refine z_iload_n (pc := 615) G 3 dL_law_615 rfl rfl ?_
      refine z_iconst (pc := 616) (v := 1) G dL_law_616 (by decide) ?_
      refine z_iadd (pc := 617) G dL_law_617 ?_
      obtain ⟨x618, hv618, hX⟩ := z_bd hX
      refine z_iald (pc := 618) G dL_law_618 hv618 ?_
      obtain ⟨hi619, hX⟩ := z_gu_s hX
      obtain ⟨r619, hv619, hX⟩ := z_bd hX
      refine z_cVI (pc := 619) (As := [.int x618]) (c2 := (kc + 13)) (s2 := (ks + 534)) G kK8 (lX8_turn hO hv619) hi619 kt_925 kt_1 kt_922 kt_923 kt_924 ydX8_turn ⟨by decide, by decide⟩ rfl (Nat.le_of_ble_eq_true rfl) ⟨by show kc + 13 = (kc + 13); omega, by show ks + 534 = (ks + 534); omega⟩ ⟨by show (kc + 13) ≤ 600000; omega, by show (ks + 534) ≤ 7302250; omega⟩ rfl dL_law_619 ?_
      refine z_aload_n (pc := 622) G 2 dL_law_622 rfl rfl ?_
      refine z_aload_n (pc := 623) G 0 dL_law_623 rfl rfl ?_
      refine z_iload_n (pc := 624) G 3 dL_law_624 rfl rfl ?_
      refine z_iconst (pc := 625) (v := 1) G dL_law_625 (by decide) ?_
      refine z_iadd (pc := 626) G dL_law_626 ?_
      obtain ⟨x627, hv627, hX⟩ := z_bd hX
      refine z_iald (pc := 627) G dL_law_627 hv627 ?_
      obtain ⟨hi628, hX⟩ := z_gu_s hX
      obtain ⟨r628, hv628, hX⟩ := z_bd hX
      refine z_cVI (pc := 628) (As := [.int x627]) (c2 := (kc + 13)) (s2 := (ks + 534)) G kK9 (lX9_turn hO hv628) hi628 kt_1783 kt_11 kt_1780 kt_1781 kt_1782 ydX9_turn ⟨by decide, by decide⟩ rfl (Nat.le_of_ble_eq_true rfl) ⟨by show (kc + 13) + 0 = (kc + 13); omega, by show (ks + 534) + 0 = (ks + 534); omega⟩ ⟨by show (kc + 13) ≤ 600000; omega, by show (ks + 534) ≤ 7302250; omega⟩ rfl dL_law_628 ?_
      refine z_icmp_eq (pc := 631) (tgt := 1560) G dL_law_631 (by decide) (fun hc631 => ?_) (fun hc631 => ?_)
      · have hX := z_it hc631 hX
        refine z_iincw (pc := 1560) (w := 6) (lv2 := [(0, .ref l0), (1, .ref l1), (2, .ref l2), (3, .int (l3 + 6))]) G 3 dL_law_1560 rfl (by decide) (by decide) rfl rfl ?_
        refine z_goto (pc := 1563) (tgt := 18) G dL_law_1563 (by decide) ?_
        refine z_wid (k := kc + 13) (n := ks + 534) (by omega) (by omega) ?_
        exact H18 _ _ _ _ _ hX
      · have hX := z_if hc631 hX
        refine z_iconst (pc := 634) (v := 0) G dL_law_634 (by decide) ?_
        exact z_lno hX hr1
    have hX := z_if hs33_11 hX
    by_cases hs33_12 : (x29 &&& (63 : Int32)) = 12
    · have hX := z_it hs33_12 hX
      refine z_tableIn (pc := 33) (off := 603) (tgt := 636) G dL_law_33 (by rw [hs33_12]; decide) (by rw [hs33_12]; decide) (by rw [hs33_12]; decide) (by decide) ?_
      refine z_aload_n (pc := 636) G 1 dL_law_636 rfl rfl ?_
      obtain ⟨hi637, hX⟩ := z_gu_s hX
      obtain ⟨r637, hv637, hX⟩ := z_bd hX
      refine z_cVI (pc := 637) (As := []) (c2 := kc) (s2 := ks) G kK8 (lX8_undo hO hv637) hi637 kt_930 kt_1 kt_927 kt_928 kt_929 ydX8_undo ⟨by decide, by decide⟩ rfl (Nat.le_of_ble_eq_true rfl) ⟨by show kc + 0 = kc; omega, by show ks + 0 = ks; omega⟩ ⟨by show kc ≤ 600000; omega, by show ks ≤ 7302250; omega⟩ rfl dL_law_637 ?_
      refine z_aload_n (pc := 640) G 2 dL_law_640 rfl rfl ?_
      obtain ⟨hi641, hX⟩ := z_gu_s hX
      obtain ⟨r641, hv641, hX⟩ := z_bd hX
      refine z_cVI (pc := 641) (As := []) (c2 := kc) (s2 := ks) G kK9 (lX9_undo hO hv641) hi641 kt_1787 kt_11 kt_1784 kt_1785 kt_1786 ydX9_undo ⟨by decide, by decide⟩ rfl (Nat.le_of_ble_eq_true rfl) ⟨by show kc + 0 = kc; omega, by show ks + 0 = ks; omega⟩ ⟨by show kc ≤ 600000; omega, by show ks ≤ 7302250; omega⟩ rfl dL_law_641 ?_
      refine z_icmp_eq (pc := 644) (tgt := 1560) G dL_law_644 (by decide) (fun hc644 => ?_) (fun hc644 => ?_)
      · have hX := z_it hc644 hX
        refine z_iincw (pc := 1560) (w := 6) (lv2 := [(0, .ref l0), (1, .ref l1), (2, .ref l2), (3, .int (l3 + 6))]) G 3 dL_law_1560 rfl (by decide) (by decide) rfl rfl ?_
        refine z_goto (pc := 1563) (tgt := 18) G dL_law_1563 (by decide) ?_
        refine z_wid (k := kc + 13) (n := ks + 534) (by omega) (by omega) ?_
        exact H18 _ _ _ _ _ hX
      · have hX := z_if hc644 hX
        refine z_iconst (pc := 647) (v := 0) G dL_law_647 (by decide) ?_
        exact z_lno hX hr1
    have hX := z_if hs33_12 hX
    by_cases hs33_13 : (x29 &&& (63 : Int32)) = 13
    · have hX := z_it hs33_13 hX
      refine z_tableIn (pc := 33) (off := 616) (tgt := 649) G dL_law_33 (by rw [hs33_13]; decide) (by rw [hs33_13]; decide) (by rw [hs33_13]; decide) (by decide) ?_
      refine z_aload_n (pc := 649) G 1 dL_law_649 rfl rfl ?_
      obtain ⟨hi650, hX⟩ := z_gu_s hX
      obtain ⟨r650, hv650, hX⟩ := z_bd hX
      refine z_cVI (pc := 650) (As := []) (c2 := kc) (s2 := ks) G kK8 (lX8_redo hO hv650) hi650 kt_942 kt_1 kt_939 kt_940 kt_941 ydX8_redo ⟨by decide, by decide⟩ rfl (Nat.le_of_ble_eq_true rfl) ⟨by show kc + 0 = kc; omega, by show ks + 0 = ks; omega⟩ ⟨by show kc ≤ 600000; omega, by show ks ≤ 7302250; omega⟩ rfl dL_law_650 ?_
      refine z_aload_n (pc := 653) G 2 dL_law_653 rfl rfl ?_
      obtain ⟨hi654, hX⟩ := z_gu_s hX
      obtain ⟨r654, hv654, hX⟩ := z_bd hX
      refine z_cVI (pc := 654) (As := []) (c2 := kc) (s2 := ks) G kK9 (lX9_redo hO hv654) hi654 kt_1795 kt_11 kt_1792 kt_1793 kt_1794 ydX9_redo ⟨by decide, by decide⟩ rfl (Nat.le_of_ble_eq_true rfl) ⟨by show kc + 0 = kc; omega, by show ks + 0 = ks; omega⟩ ⟨by show kc ≤ 600000; omega, by show ks ≤ 7302250; omega⟩ rfl dL_law_654 ?_
      refine z_icmp_eq (pc := 657) (tgt := 1560) G dL_law_657 (by decide) (fun hc657 => ?_) (fun hc657 => ?_)
      · have hX := z_it hc657 hX
        refine z_iincw (pc := 1560) (w := 6) (lv2 := [(0, .ref l0), (1, .ref l1), (2, .ref l2), (3, .int (l3 + 6))]) G 3 dL_law_1560 rfl (by decide) (by decide) rfl rfl ?_
        refine z_goto (pc := 1563) (tgt := 18) G dL_law_1563 (by decide) ?_
        refine z_wid (k := kc + 13) (n := ks + 534) (by omega) (by omega) ?_
        exact H18 _ _ _ _ _ hX
      · have hX := z_if hc657 hX
        refine z_iconst (pc := 660) (v := 0) G dL_law_660 (by decide) ?_
        exact z_lno hX hr1
    have hX := z_if hs33_13 hX
    by_cases hs33_14 : (x29 &&& (63 : Int32)) = 14
    · have hX := z_it hs33_14 hX
      refine z_tableIn (pc := 33) (off := 629) (tgt := 662) G dL_law_33 (by rw [hs33_14]; decide) (by rw [hs33_14]; decide) (by rw [hs33_14]; decide) (by decide) ?_
      refine z_aload_n (pc := 662) G 1 dL_law_662 rfl rfl ?_
      refine z_aload_n (pc := 663) G 0 dL_law_663 rfl rfl ?_
      refine z_iload_n (pc := 664) G 3 dL_law_664 rfl rfl ?_
      refine z_iconst (pc := 665) (v := 1) G dL_law_665 (by decide) ?_
      refine z_iadd (pc := 666) G dL_law_666 ?_
      obtain ⟨x667, hv667, hX⟩ := z_bd hX
      refine z_iald (pc := 667) G dL_law_667 hv667 ?_
      refine z_aload_n (pc := 668) G 0 dL_law_668 rfl rfl ?_
      refine z_iload_n (pc := 669) G 3 dL_law_669 rfl rfl ?_
      refine z_iconst (pc := 670) (v := 2) G dL_law_670 (by decide) ?_
      refine z_iadd (pc := 671) G dL_law_671 ?_
      obtain ⟨x672, hv672, hX⟩ := z_bd hX
      refine z_iald (pc := 672) G dL_law_672 hv672 ?_
      obtain ⟨hi673, hX⟩ := z_gu_s hX
      obtain ⟨r673, hv673, hX⟩ := z_bd hX
      refine z_cVI (pc := 673) (As := [.int x667, .int x672]) (c2 := kc) (s2 := ks) G kK8 (lX8_candidates hO hv673) hi673 kt_950 kt_1 kt_947 kt_948 kt_949 ydX8_candidates ⟨by decide, by decide⟩ rfl (Nat.le_of_ble_eq_true rfl) ⟨by show kc + 0 = kc; omega, by show ks + 0 = ks; omega⟩ ⟨by show kc ≤ 600000; omega, by show ks ≤ 7302250; omega⟩ rfl dL_law_673 ?_
      refine z_aload_n (pc := 676) G 2 dL_law_676 rfl rfl ?_
      refine z_aload_n (pc := 677) G 0 dL_law_677 rfl rfl ?_
      refine z_iload_n (pc := 678) G 3 dL_law_678 rfl rfl ?_
      refine z_iconst (pc := 679) (v := 1) G dL_law_679 (by decide) ?_
      refine z_iadd (pc := 680) G dL_law_680 ?_
      obtain ⟨x681, hv681, hX⟩ := z_bd hX
      refine z_iald (pc := 681) G dL_law_681 hv681 ?_
      refine z_aload_n (pc := 682) G 0 dL_law_682 rfl rfl ?_
      refine z_iload_n (pc := 683) G 3 dL_law_683 rfl rfl ?_
      refine z_iconst (pc := 684) (v := 2) G dL_law_684 (by decide) ?_
      refine z_iadd (pc := 685) G dL_law_685 ?_
      obtain ⟨x686, hv686, hX⟩ := z_bd hX
      refine z_iald (pc := 686) G dL_law_686 hv686 ?_
      obtain ⟨hi687, hX⟩ := z_gu_s hX
      obtain ⟨r687, hv687, hX⟩ := z_bd hX
      refine z_cVI (pc := 687) (As := [.int x681, .int x686]) (c2 := kc) (s2 := ks) G kK9 (lX9_candidates hO hv687) hi687 kt_1613 kt_11 kt_1610 kt_1611 kt_1612 ydX9_candidates ⟨by decide, by decide⟩ rfl (Nat.le_of_ble_eq_true rfl) ⟨by show kc + 0 = kc; omega, by show ks + 0 = ks; omega⟩ ⟨by show kc ≤ 600000; omega, by show ks ≤ 7302250; omega⟩ rfl dL_law_687 ?_
      refine z_icmp_eq (pc := 690) (tgt := 1560) G dL_law_690 (by decide) (fun hc690 => ?_) (fun hc690 => ?_)
      · have hX := z_it hc690 hX
        refine z_iincw (pc := 1560) (w := 6) (lv2 := [(0, .ref l0), (1, .ref l1), (2, .ref l2), (3, .int (l3 + 6))]) G 3 dL_law_1560 rfl (by decide) (by decide) rfl rfl ?_
        refine z_goto (pc := 1563) (tgt := 18) G dL_law_1563 (by decide) ?_
        refine z_wid (k := kc + 13) (n := ks + 534) (by omega) (by omega) ?_
        exact H18 _ _ _ _ _ hX
      · have hX := z_if hc690 hX
        refine z_iconst (pc := 693) (v := 0) G dL_law_693 (by decide) ?_
        exact z_lno hX hr1
    have hX := z_if hs33_14 hX
    by_cases hs33_15 : (x29 &&& (63 : Int32)) = 15
    · have hX := z_it hs33_15 hX
      refine z_tableIn (pc := 33) (off := 662) (tgt := 695) G dL_law_33 (by rw [hs33_15]; decide) (by rw [hs33_15]; decide) (by rw [hs33_15]; decide) (by decide) ?_
      refine z_aload_n (pc := 695) G 1 dL_law_695 rfl rfl ?_
      refine z_aload_n (pc := 696) G 0 dL_law_696 rfl rfl ?_
      refine z_iload_n (pc := 697) G 3 dL_law_697 rfl rfl ?_
      refine z_iconst (pc := 698) (v := 1) G dL_law_698 (by decide) ?_
      refine z_iadd (pc := 699) G dL_law_699 ?_
      obtain ⟨x700, hv700, hX⟩ := z_bd hX
      refine z_iald (pc := 700) G dL_law_700 hv700 ?_
      obtain ⟨hi701, hX⟩ := z_gu_s hX
      obtain ⟨r701, hv701, hX⟩ := z_bd hX
      refine z_cVI (pc := 701) (As := [.int x700]) (c2 := kc) (s2 := ks) G kK8 (lX8_free hO hv701) hi701 kt_955 kt_1 kt_952 kt_953 kt_954 ydX8_free ⟨by decide, by decide⟩ rfl (Nat.le_of_ble_eq_true rfl) ⟨by show kc + 0 = kc; omega, by show ks + 0 = ks; omega⟩ ⟨by show kc ≤ 600000; omega, by show ks ≤ 7302250; omega⟩ rfl dL_law_701 ?_
      refine z_aload_n (pc := 704) G 2 dL_law_704 rfl rfl ?_
      refine z_aload_n (pc := 705) G 0 dL_law_705 rfl rfl ?_
      refine z_iload_n (pc := 706) G 3 dL_law_706 rfl rfl ?_
      refine z_iconst (pc := 707) (v := 1) G dL_law_707 (by decide) ?_
      refine z_iadd (pc := 708) G dL_law_708 ?_
      obtain ⟨x709, hv709, hX⟩ := z_bd hX
      refine z_iald (pc := 709) G dL_law_709 hv709 ?_
      obtain ⟨hi710, hX⟩ := z_gu_s hX
      obtain ⟨r710, hv710, hX⟩ := z_bd hX
      refine z_cVI (pc := 710) (As := [.int x709]) (c2 := kc) (s2 := ks) G kK9 (lX9_free hO hv710) hi710 kt_1641 kt_11 kt_1638 kt_1639 kt_1640 ydX9_free ⟨by decide, by decide⟩ rfl (Nat.le_of_ble_eq_true rfl) ⟨by show kc + 0 = kc; omega, by show ks + 0 = ks; omega⟩ ⟨by show kc ≤ 600000; omega, by show ks ≤ 7302250; omega⟩ rfl dL_law_710 ?_
      refine z_icmp_eq (pc := 713) (tgt := 1560) G dL_law_713 (by decide) (fun hc713 => ?_) (fun hc713 => ?_)
      · have hX := z_it hc713 hX
        refine z_iincw (pc := 1560) (w := 6) (lv2 := [(0, .ref l0), (1, .ref l1), (2, .ref l2), (3, .int (l3 + 6))]) G 3 dL_law_1560 rfl (by decide) (by decide) rfl rfl ?_
        refine z_goto (pc := 1563) (tgt := 18) G dL_law_1563 (by decide) ?_
        refine z_wid (k := kc + 13) (n := ks + 534) (by omega) (by omega) ?_
        exact H18 _ _ _ _ _ hX
      · have hX := z_if hc713 hX
        refine z_iconst (pc := 716) (v := 0) G dL_law_716 (by decide) ?_
        exact z_lno hX hr1
    have hX := z_if hs33_15 hX
    by_cases hs33_16 : (x29 &&& (63 : Int32)) = 16
    · have hX := z_it hs33_16 hX
      refine z_tableIn (pc := 33) (off := 685) (tgt := 718) G dL_law_33 (by rw [hs33_16]; decide) (by rw [hs33_16]; decide) (by rw [hs33_16]; decide) (by decide) ?_
      refine z_aload_n (pc := 718) G 1 dL_law_718 rfl rfl ?_
      refine z_aload_n (pc := 719) G 0 dL_law_719 rfl rfl ?_
      refine z_iload_n (pc := 720) G 3 dL_law_720 rfl rfl ?_
      refine z_iconst (pc := 721) (v := 1) G dL_law_721 (by decide) ?_
      refine z_iadd (pc := 722) G dL_law_722 ?_
      obtain ⟨x723, hv723, hX⟩ := z_bd hX
      refine z_iald (pc := 723) G dL_law_723 hv723 ?_
      refine z_aload_n (pc := 724) G 0 dL_law_724 rfl rfl ?_
      refine z_iload_n (pc := 725) G 3 dL_law_725 rfl rfl ?_
      refine z_iconst (pc := 726) (v := 2) G dL_law_726 (by decide) ?_
      refine z_iadd (pc := 727) G dL_law_727 ?_
      obtain ⟨x728, hv728, hX⟩ := z_bd hX
      refine z_iald (pc := 728) G dL_law_728 hv728 ?_
      obtain ⟨hi729, hX⟩ := z_gu_s hX
      obtain ⟨r729, hv729, hX⟩ := z_bd hX
      refine z_cVI (pc := 729) (As := [.int x723, .int x728]) (c2 := kc) (s2 := ks) G kK8 (lX8_reuse hO hv729) hi729 kt_961 kt_1 kt_958 kt_959 kt_960 ydX8_reuse ⟨by decide, by decide⟩ rfl (Nat.le_of_ble_eq_true rfl) ⟨by show kc + 0 = kc; omega, by show ks + 0 = ks; omega⟩ ⟨by show kc ≤ 600000; omega, by show ks ≤ 7302250; omega⟩ rfl dL_law_729 ?_
      refine z_aload_n (pc := 732) G 2 dL_law_732 rfl rfl ?_
      refine z_aload_n (pc := 733) G 0 dL_law_733 rfl rfl ?_
      refine z_iload_n (pc := 734) G 3 dL_law_734 rfl rfl ?_
      refine z_iconst (pc := 735) (v := 1) G dL_law_735 (by decide) ?_
      refine z_iadd (pc := 736) G dL_law_736 ?_
      obtain ⟨x737, hv737, hX⟩ := z_bd hX
      refine z_iald (pc := 737) G dL_law_737 hv737 ?_
      refine z_aload_n (pc := 738) G 0 dL_law_738 rfl rfl ?_
      refine z_iload_n (pc := 739) G 3 dL_law_739 rfl rfl ?_
      refine z_iconst (pc := 740) (v := 2) G dL_law_740 (by decide) ?_
      refine z_iadd (pc := 741) G dL_law_741 ?_
      obtain ⟨x742, hv742, hX⟩ := z_bd hX
      refine z_iald (pc := 742) G dL_law_742 hv742 ?_
      obtain ⟨hi743, hX⟩ := z_gu_s hX
      obtain ⟨r743, hv743, hX⟩ := z_bd hX
      refine z_cVI (pc := 743) (As := [.int x737, .int x742]) (c2 := kc) (s2 := ks) G kK9 (lX9_reuse hO hv743) hi743 kt_1645 kt_11 kt_1642 kt_1643 kt_1644 ydX9_reuse ⟨by decide, by decide⟩ rfl (Nat.le_of_ble_eq_true rfl) ⟨by show kc + 0 = kc; omega, by show ks + 0 = ks; omega⟩ ⟨by show kc ≤ 600000; omega, by show ks ≤ 7302250; omega⟩ rfl dL_law_743 ?_
      refine z_icmp_eq (pc := 746) (tgt := 1560) G dL_law_746 (by decide) (fun hc746 => ?_) (fun hc746 => ?_)
      · have hX := z_it hc746 hX
        refine z_iincw (pc := 1560) (w := 6) (lv2 := [(0, .ref l0), (1, .ref l1), (2, .ref l2), (3, .int (l3 + 6))]) G 3 dL_law_1560 rfl (by decide) (by decide) rfl rfl ?_
        refine z_goto (pc := 1563) (tgt := 18) G dL_law_1563 (by decide) ?_
        refine z_wid (k := kc + 13) (n := ks + 534) (by omega) (by omega) ?_
        exact H18 _ _ _ _ _ hX
      · have hX := z_if hc746 hX
        refine z_iconst (pc := 749) (v := 0) G dL_law_749 (by decide) ?_
        exact z_lno hX hr1
    have hX := z_if hs33_16 hX
    by_cases hs33_17 : (x29 &&& (63 : Int32)) = 17
    · have hX := z_it hs33_17 hX
      refine z_tableIn (pc := 33) (off := 718) (tgt := 751) G dL_law_33 (by rw [hs33_17]; decide) (by rw [hs33_17]; decide) (by rw [hs33_17]; decide) (by decide) ?_
      refine z_aload_n (pc := 751) G 1 dL_law_751 rfl rfl ?_
      refine z_aload_n (pc := 752) G 0 dL_law_752 rfl rfl ?_
      refine z_iload_n (pc := 753) G 3 dL_law_753 rfl rfl ?_
      refine z_iconst (pc := 754) (v := 1) G dL_law_754 (by decide) ?_
      refine z_iadd (pc := 755) G dL_law_755 ?_
      obtain ⟨x756, hv756, hX⟩ := z_bd hX
      refine z_iald (pc := 756) G dL_law_756 hv756 ?_
      obtain ⟨hi757, hX⟩ := z_gu_s hX
      obtain ⟨r757, hv757, hX⟩ := z_bd hX
      refine z_cVI (pc := 757) (As := [.int x756]) (c2 := kc) (s2 := ks) G kK8 (lX8_rate hO hv757) hi757 kt_967 kt_1 kt_964 kt_965 kt_966 ydX8_rate ⟨by decide, by decide⟩ rfl (Nat.le_of_ble_eq_true rfl) ⟨by show kc + 0 = kc; omega, by show ks + 0 = ks; omega⟩ ⟨by show kc ≤ 600000; omega, by show ks ≤ 7302250; omega⟩ rfl dL_law_757 ?_
      refine z_aload_n (pc := 760) G 2 dL_law_760 rfl rfl ?_
      refine z_aload_n (pc := 761) G 0 dL_law_761 rfl rfl ?_
      refine z_iload_n (pc := 762) G 3 dL_law_762 rfl rfl ?_
      refine z_iconst (pc := 763) (v := 1) G dL_law_763 (by decide) ?_
      refine z_iadd (pc := 764) G dL_law_764 ?_
      obtain ⟨x765, hv765, hX⟩ := z_bd hX
      refine z_iald (pc := 765) G dL_law_765 hv765 ?_
      obtain ⟨hi766, hX⟩ := z_gu_s hX
      obtain ⟨r766, hv766, hX⟩ := z_bd hX
      refine z_cVI (pc := 766) (As := [.int x765]) (c2 := kc) (s2 := ks) G kK9 (lX9_rate hO hv766) hi766 kt_1649 kt_11 kt_1646 kt_1647 kt_1648 ydX9_rate ⟨by decide, by decide⟩ rfl (Nat.le_of_ble_eq_true rfl) ⟨by show kc + 0 = kc; omega, by show ks + 0 = ks; omega⟩ ⟨by show kc ≤ 600000; omega, by show ks ≤ 7302250; omega⟩ rfl dL_law_766 ?_
      refine z_icmp_eq (pc := 769) (tgt := 1560) G dL_law_769 (by decide) (fun hc769 => ?_) (fun hc769 => ?_)
      · have hX := z_it hc769 hX
        refine z_iincw (pc := 1560) (w := 6) (lv2 := [(0, .ref l0), (1, .ref l1), (2, .ref l2), (3, .int (l3 + 6))]) G 3 dL_law_1560 rfl (by decide) (by decide) rfl rfl ?_
        refine z_goto (pc := 1563) (tgt := 18) G dL_law_1563 (by decide) ?_
        refine z_wid (k := kc + 13) (n := ks + 534) (by omega) (by omega) ?_
        exact H18 _ _ _ _ _ hX
      · have hX := z_if hc769 hX
        refine z_iconst (pc := 772) (v := 0) G dL_law_772 (by decide) ?_
        exact z_lno hX hr1
    have hX := z_if hs33_17 hX
    by_cases hs33_18 : (x29 &&& (63 : Int32)) = 18
    · have hX := z_it hs33_18 hX
      refine z_tableIn (pc := 33) (off := 741) (tgt := 774) G dL_law_33 (by rw [hs33_18]; decide) (by rw [hs33_18]; decide) (by rw [hs33_18]; decide) (by decide) ?_
      refine z_aload_n (pc := 774) G 1 dL_law_774 rfl rfl ?_
      refine z_aload_n (pc := 775) G 0 dL_law_775 rfl rfl ?_
      refine z_iload_n (pc := 776) G 3 dL_law_776 rfl rfl ?_
      refine z_iconst (pc := 777) (v := 1) G dL_law_777 (by decide) ?_
      refine z_iadd (pc := 778) G dL_law_778 ?_
      obtain ⟨x779, hv779, hX⟩ := z_bd hX
      refine z_iald (pc := 779) G dL_law_779 hv779 ?_
      obtain ⟨hi780, hX⟩ := z_gu_s hX
      obtain ⟨r780, hv780, hX⟩ := z_bd hX
      refine z_cVI (pc := 780) (As := [.int x779]) (c2 := kc) (s2 := ks) G kK8 (lX8_next hO hv780) hi780 kt_972 kt_1 kt_969 kt_970 kt_971 ydX8_next ⟨by decide, by decide⟩ rfl (Nat.le_of_ble_eq_true rfl) ⟨by show kc + 0 = kc; omega, by show ks + 0 = ks; omega⟩ ⟨by show kc ≤ 600000; omega, by show ks ≤ 7302250; omega⟩ rfl dL_law_780 ?_
      refine z_aload_n (pc := 783) G 2 dL_law_783 rfl rfl ?_
      refine z_aload_n (pc := 784) G 0 dL_law_784 rfl rfl ?_
      refine z_iload_n (pc := 785) G 3 dL_law_785 rfl rfl ?_
      refine z_iconst (pc := 786) (v := 1) G dL_law_786 (by decide) ?_
      refine z_iadd (pc := 787) G dL_law_787 ?_
      obtain ⟨x788, hv788, hX⟩ := z_bd hX
      refine z_iald (pc := 788) G dL_law_788 hv788 ?_
      obtain ⟨hi789, hX⟩ := z_gu_s hX
      obtain ⟨r789, hv789, hX⟩ := z_bd hX
      refine z_cVI (pc := 789) (As := [.int x788]) (c2 := kc) (s2 := ks) G kK9 (lX9_next hO hv789) hi789 kt_1799 kt_11 kt_1796 kt_1797 kt_1798 ydX9_next ⟨by decide, by decide⟩ rfl (Nat.le_of_ble_eq_true rfl) ⟨by show kc + 0 = kc; omega, by show ks + 0 = ks; omega⟩ ⟨by show kc ≤ 600000; omega, by show ks ≤ 7302250; omega⟩ rfl dL_law_789 ?_
      refine z_icmp_eq (pc := 792) (tgt := 1560) G dL_law_792 (by decide) (fun hc792 => ?_) (fun hc792 => ?_)
      · have hX := z_it hc792 hX
        refine z_iincw (pc := 1560) (w := 6) (lv2 := [(0, .ref l0), (1, .ref l1), (2, .ref l2), (3, .int (l3 + 6))]) G 3 dL_law_1560 rfl (by decide) (by decide) rfl rfl ?_
        refine z_goto (pc := 1563) (tgt := 18) G dL_law_1563 (by decide) ?_
        refine z_wid (k := kc + 13) (n := ks + 534) (by omega) (by omega) ?_
        exact H18 _ _ _ _ _ hX
      · have hX := z_if hc792 hX
        refine z_iconst (pc := 795) (v := 0) G dL_law_795 (by decide) ?_
        exact z_lno hX hr1
    have hX := z_if hs33_18 hX
    by_cases hs33_19 : (x29 &&& (63 : Int32)) = 19
    · have hX := z_it hs33_19 hX
      refine z_tableIn (pc := 33) (off := 764) (tgt := 797) G dL_law_33 (by rw [hs33_19]; decide) (by rw [hs33_19]; decide) (by rw [hs33_19]; decide) (by decide) ?_
      refine z_aload_n (pc := 797) G 1 dL_law_797 rfl rfl ?_
      refine z_aload_n (pc := 798) G 0 dL_law_798 rfl rfl ?_
      refine z_iload_n (pc := 799) G 3 dL_law_799 rfl rfl ?_
      refine z_iconst (pc := 800) (v := 1) G dL_law_800 (by decide) ?_
      refine z_iadd (pc := 801) G dL_law_801 ?_
      obtain ⟨x802, hv802, hX⟩ := z_bd hX
      refine z_iald (pc := 802) G dL_law_802 hv802 ?_
      refine z_aload_n (pc := 803) G 0 dL_law_803 rfl rfl ?_
      refine z_iload_n (pc := 804) G 3 dL_law_804 rfl rfl ?_
      refine z_iconst (pc := 805) (v := 2) G dL_law_805 (by decide) ?_
      refine z_iadd (pc := 806) G dL_law_806 ?_
      obtain ⟨x807, hv807, hX⟩ := z_bd hX
      refine z_iald (pc := 807) G dL_law_807 hv807 ?_
      obtain ⟨hi808, hX⟩ := z_gu_s hX
      obtain ⟨r808, hv808, hX⟩ := z_bd hX
      refine z_cVI (pc := 808) (As := [.int x802, .int x807]) (c2 := kc) (s2 := ks) G kK8 (lX8_will hO hv808) hi808 kt_977 kt_1 kt_974 kt_975 kt_976 ydX8_will ⟨by decide, by decide⟩ rfl (Nat.le_of_ble_eq_true rfl) ⟨by show kc + 0 = kc; omega, by show ks + 0 = ks; omega⟩ ⟨by show kc ≤ 600000; omega, by show ks ≤ 7302250; omega⟩ rfl dL_law_808 ?_
      refine z_aload_n (pc := 811) G 2 dL_law_811 rfl rfl ?_
      refine z_aload_n (pc := 812) G 0 dL_law_812 rfl rfl ?_
      refine z_iload_n (pc := 813) G 3 dL_law_813 rfl rfl ?_
      refine z_iconst (pc := 814) (v := 1) G dL_law_814 (by decide) ?_
      refine z_iadd (pc := 815) G dL_law_815 ?_
      obtain ⟨x816, hv816, hX⟩ := z_bd hX
      refine z_iald (pc := 816) G dL_law_816 hv816 ?_
      refine z_aload_n (pc := 817) G 0 dL_law_817 rfl rfl ?_
      refine z_iload_n (pc := 818) G 3 dL_law_818 rfl rfl ?_
      refine z_iconst (pc := 819) (v := 2) G dL_law_819 (by decide) ?_
      refine z_iadd (pc := 820) G dL_law_820 ?_
      obtain ⟨x821, hv821, hX⟩ := z_bd hX
      refine z_iald (pc := 821) G dL_law_821 hv821 ?_
      obtain ⟨hi822, hX⟩ := z_gu_s hX
      obtain ⟨r822, hv822, hX⟩ := z_bd hX
      refine z_cVI (pc := 822) (As := [.int x816, .int x821]) (c2 := kc) (s2 := ks) G kK9 (lX9_will hO hv822) hi822 kt_1811 kt_11 kt_1808 kt_1809 kt_1810 ydX9_will ⟨by decide, by decide⟩ rfl (Nat.le_of_ble_eq_true rfl) ⟨by show kc + 0 = kc; omega, by show ks + 0 = ks; omega⟩ ⟨by show kc ≤ 600000; omega, by show ks ≤ 7302250; omega⟩ rfl dL_law_822 ?_
      refine z_icmp_eq (pc := 825) (tgt := 1560) G dL_law_825 (by decide) (fun hc825 => ?_) (fun hc825 => ?_)
      · have hX := z_it hc825 hX
        refine z_iincw (pc := 1560) (w := 6) (lv2 := [(0, .ref l0), (1, .ref l1), (2, .ref l2), (3, .int (l3 + 6))]) G 3 dL_law_1560 rfl (by decide) (by decide) rfl rfl ?_
        refine z_goto (pc := 1563) (tgt := 18) G dL_law_1563 (by decide) ?_
        refine z_wid (k := kc + 13) (n := ks + 534) (by omega) (by omega) ?_
        exact H18 _ _ _ _ _ hX
      · have hX := z_if hc825 hX
        refine z_iconst (pc := 828) (v := 0) G dL_law_828 (by decide) ?_
        exact z_lno hX hr1
    have hX := z_if hs33_19 hX
    by_cases hs33_20 : (x29 &&& (63 : Int32)) = 20
    · have hX := z_it hs33_20 hX
      refine z_tableIn (pc := 33) (off := 797) (tgt := 830) G dL_law_33 (by rw [hs33_20]; decide) (by rw [hs33_20]; decide) (by rw [hs33_20]; decide) (by decide) ?_
      refine z_aload_n (pc := 830) G 1 dL_law_830 rfl rfl ?_
      refine z_aload_n (pc := 831) G 0 dL_law_831 rfl rfl ?_
      refine z_iload_n (pc := 832) G 3 dL_law_832 rfl rfl ?_
      refine z_iconst (pc := 833) (v := 1) G dL_law_833 (by decide) ?_
      refine z_iadd (pc := 834) G dL_law_834 ?_
      obtain ⟨x835, hv835, hX⟩ := z_bd hX
      refine z_iald (pc := 835) G dL_law_835 hv835 ?_
      obtain ⟨hi836, hX⟩ := z_gu_s hX
      obtain ⟨r836, hv836, hX⟩ := z_bd hX
      refine z_cVI (pc := 836) (As := [.int x835]) (c2 := kc) (s2 := ks) G kK8 (lX8_clashes hO hv836) hi836 kt_981 kt_1 kt_978 kt_979 kt_980 ydX8_clashes ⟨by decide, by decide⟩ rfl (Nat.le_of_ble_eq_true rfl) ⟨by show kc + 0 = kc; omega, by show ks + 0 = ks; omega⟩ ⟨by show kc ≤ 600000; omega, by show ks ≤ 7302250; omega⟩ rfl dL_law_836 ?_
      refine z_aload_n (pc := 839) G 2 dL_law_839 rfl rfl ?_
      refine z_aload_n (pc := 840) G 0 dL_law_840 rfl rfl ?_
      refine z_iload_n (pc := 841) G 3 dL_law_841 rfl rfl ?_
      refine z_iconst (pc := 842) (v := 1) G dL_law_842 (by decide) ?_
      refine z_iadd (pc := 843) G dL_law_843 ?_
      obtain ⟨x844, hv844, hX⟩ := z_bd hX
      refine z_iald (pc := 844) G dL_law_844 hv844 ?_
      obtain ⟨hi845, hX⟩ := z_gu_s hX
      obtain ⟨r845, hv845, hX⟩ := z_bd hX
      refine z_cVI (pc := 845) (As := [.int x844]) (c2 := kc) (s2 := ks) G kK9 (lX9_clashes hO hv845) hi845 kt_1819 kt_11 kt_1816 kt_1817 kt_1818 ydX9_clashes ⟨by decide, by decide⟩ rfl (Nat.le_of_ble_eq_true rfl) ⟨by show kc + 0 = kc; omega, by show ks + 0 = ks; omega⟩ ⟨by show kc ≤ 600000; omega, by show ks ≤ 7302250; omega⟩ rfl dL_law_845 ?_
      refine z_icmp_eq (pc := 848) (tgt := 1560) G dL_law_848 (by decide) (fun hc848 => ?_) (fun hc848 => ?_)
      · have hX := z_it hc848 hX
        refine z_iincw (pc := 1560) (w := 6) (lv2 := [(0, .ref l0), (1, .ref l1), (2, .ref l2), (3, .int (l3 + 6))]) G 3 dL_law_1560 rfl (by decide) (by decide) rfl rfl ?_
        refine z_goto (pc := 1563) (tgt := 18) G dL_law_1563 (by decide) ?_
        refine z_wid (k := kc + 13) (n := ks + 534) (by omega) (by omega) ?_
        exact H18 _ _ _ _ _ hX
      · have hX := z_if hc848 hX
        refine z_iconst (pc := 851) (v := 0) G dL_law_851 (by decide) ?_
        exact z_lno hX hr1
    have hX := z_if hs33_20 hX
    by_cases hs33_21 : (x29 &&& (63 : Int32)) = 21
    · have hX := z_it hs33_21 hX
      refine z_tableIn (pc := 33) (off := 820) (tgt := 853) G dL_law_33 (by rw [hs33_21]; decide) (by rw [hs33_21]; decide) (by rw [hs33_21]; decide) (by decide) ?_
      refine z_aload_n (pc := 853) G 1 dL_law_853 rfl rfl ?_
      refine z_aload_n (pc := 854) G 0 dL_law_854 rfl rfl ?_
      refine z_iload_n (pc := 855) G 3 dL_law_855 rfl rfl ?_
      refine z_iconst (pc := 856) (v := 1) G dL_law_856 (by decide) ?_
      refine z_iadd (pc := 857) G dL_law_857 ?_
      obtain ⟨x858, hv858, hX⟩ := z_bd hX
      refine z_iald (pc := 858) G dL_law_858 hv858 ?_
      refine z_aload_n (pc := 859) G 0 dL_law_859 rfl rfl ?_
      refine z_iload_n (pc := 860) G 3 dL_law_860 rfl rfl ?_
      refine z_iconst (pc := 861) (v := 2) G dL_law_861 (by decide) ?_
      refine z_iadd (pc := 862) G dL_law_862 ?_
      obtain ⟨x863, hv863, hX⟩ := z_bd hX
      refine z_iald (pc := 863) G dL_law_863 hv863 ?_
      obtain ⟨hi864, hX⟩ := z_gu_s hX
      obtain ⟨r864, hv864, hX⟩ := z_bd hX
      refine z_cVI (pc := 864) (As := [.int x858, .int x863]) (c2 := kc) (s2 := ks) G kK8 (lX8_agree hO hv864) hi864 kt_985 kt_1 kt_982 kt_983 kt_984 ydX8_agree ⟨by decide, by decide⟩ rfl (Nat.le_of_ble_eq_true rfl) ⟨by show kc + 0 = kc; omega, by show ks + 0 = ks; omega⟩ ⟨by show kc ≤ 600000; omega, by show ks ≤ 7302250; omega⟩ rfl dL_law_864 ?_
      refine z_aload_n (pc := 867) G 2 dL_law_867 rfl rfl ?_
      refine z_aload_n (pc := 868) G 0 dL_law_868 rfl rfl ?_
      refine z_iload_n (pc := 869) G 3 dL_law_869 rfl rfl ?_
      refine z_iconst (pc := 870) (v := 1) G dL_law_870 (by decide) ?_
      refine z_iadd (pc := 871) G dL_law_871 ?_
      obtain ⟨x872, hv872, hX⟩ := z_bd hX
      refine z_iald (pc := 872) G dL_law_872 hv872 ?_
      refine z_aload_n (pc := 873) G 0 dL_law_873 rfl rfl ?_
      refine z_iload_n (pc := 874) G 3 dL_law_874 rfl rfl ?_
      refine z_iconst (pc := 875) (v := 2) G dL_law_875 (by decide) ?_
      refine z_iadd (pc := 876) G dL_law_876 ?_
      obtain ⟨x877, hv877, hX⟩ := z_bd hX
      refine z_iald (pc := 877) G dL_law_877 hv877 ?_
      obtain ⟨hi878, hX⟩ := z_gu_s hX
      obtain ⟨r878, hv878, hX⟩ := z_bd hX
      refine z_cVI (pc := 878) (As := [.int x872, .int x877]) (c2 := kc) (s2 := ks) G kK9 (lX9_agree hO hv878) hi878 kt_1675 kt_11 kt_1672 kt_1673 kt_1674 ydX9_agree ⟨by decide, by decide⟩ rfl (Nat.le_of_ble_eq_true rfl) ⟨by show kc + 0 = kc; omega, by show ks + 0 = ks; omega⟩ ⟨by show kc ≤ 600000; omega, by show ks ≤ 7302250; omega⟩ rfl dL_law_878 ?_
      refine z_icmp_eq (pc := 881) (tgt := 1560) G dL_law_881 (by decide) (fun hc881 => ?_) (fun hc881 => ?_)
      · have hX := z_it hc881 hX
        refine z_iincw (pc := 1560) (w := 6) (lv2 := [(0, .ref l0), (1, .ref l1), (2, .ref l2), (3, .int (l3 + 6))]) G 3 dL_law_1560 rfl (by decide) (by decide) rfl rfl ?_
        refine z_goto (pc := 1563) (tgt := 18) G dL_law_1563 (by decide) ?_
        refine z_wid (k := kc + 13) (n := ks + 534) (by omega) (by omega) ?_
        exact H18 _ _ _ _ _ hX
      · have hX := z_if hc881 hX
        refine z_iconst (pc := 884) (v := 0) G dL_law_884 (by decide) ?_
        exact z_lno hX hr1
    have hX := z_if hs33_21 hX
    by_cases hs33_22 : (x29 &&& (63 : Int32)) = 22
    · have hX := z_it hs33_22 hX
      refine z_tableIn (pc := 33) (off := 853) (tgt := 886) G dL_law_33 (by rw [hs33_22]; decide) (by rw [hs33_22]; decide) (by rw [hs33_22]; decide) (by decide) ?_
      refine z_aload_n (pc := 886) G 1 dL_law_886 rfl rfl ?_
      refine z_aload_n (pc := 887) G 0 dL_law_887 rfl rfl ?_
      refine z_iload_n (pc := 888) G 3 dL_law_888 rfl rfl ?_
      refine z_iconst (pc := 889) (v := 1) G dL_law_889 (by decide) ?_
      refine z_iadd (pc := 890) G dL_law_890 ?_
      obtain ⟨x891, hv891, hX⟩ := z_bd hX
      refine z_iald (pc := 891) G dL_law_891 hv891 ?_
      obtain ⟨hi892, hX⟩ := z_gu_s hX
      obtain ⟨r892, hv892, hX⟩ := z_bd hX
      refine z_cVI (pc := 892) (As := [.int x891]) (c2 := kc) (s2 := ks) G kK8 (lX8_wrong hO hv892) hi892 kt_989 kt_1 kt_986 kt_987 kt_988 ydX8_wrong ⟨by decide, by decide⟩ rfl (Nat.le_of_ble_eq_true rfl) ⟨by show kc + 0 = kc; omega, by show ks + 0 = ks; omega⟩ ⟨by show kc ≤ 600000; omega, by show ks ≤ 7302250; omega⟩ rfl dL_law_892 ?_
      refine z_aload_n (pc := 895) G 2 dL_law_895 rfl rfl ?_
      refine z_aload_n (pc := 896) G 0 dL_law_896 rfl rfl ?_
      refine z_iload_n (pc := 897) G 3 dL_law_897 rfl rfl ?_
      refine z_iconst (pc := 898) (v := 1) G dL_law_898 (by decide) ?_
      refine z_iadd (pc := 899) G dL_law_899 ?_
      obtain ⟨x900, hv900, hX⟩ := z_bd hX
      refine z_iald (pc := 900) G dL_law_900 hv900 ?_
      obtain ⟨hi901, hX⟩ := z_gu_s hX
      obtain ⟨r901, hv901, hX⟩ := z_bd hX
      refine z_cVI (pc := 901) (As := [.int x900]) (c2 := kc) (s2 := ks) G kK9 (lX9_wrong hO hv901) hi901 kt_1679 kt_11 kt_1676 kt_1677 kt_1678 ydX9_wrong ⟨by decide, by decide⟩ rfl (Nat.le_of_ble_eq_true rfl) ⟨by show kc + 0 = kc; omega, by show ks + 0 = ks; omega⟩ ⟨by show kc ≤ 600000; omega, by show ks ≤ 7302250; omega⟩ rfl dL_law_901 ?_
      refine z_icmp_eq (pc := 904) (tgt := 1560) G dL_law_904 (by decide) (fun hc904 => ?_) (fun hc904 => ?_)
      · have hX := z_it hc904 hX
        refine z_iincw (pc := 1560) (w := 6) (lv2 := [(0, .ref l0), (1, .ref l1), (2, .ref l2), (3, .int (l3 + 6))]) G 3 dL_law_1560 rfl (by decide) (by decide) rfl rfl ?_
        refine z_goto (pc := 1563) (tgt := 18) G dL_law_1563 (by decide) ?_
        refine z_wid (k := kc + 13) (n := ks + 534) (by omega) (by omega) ?_
        exact H18 _ _ _ _ _ hX
      · have hX := z_if hc904 hX
        refine z_iconst (pc := 907) (v := 0) G dL_law_907 (by decide) ?_
        exact z_lno hX hr1
    have hX := z_if hs33_22 hX
    by_cases hs33_23 : (x29 &&& (63 : Int32)) = 23
    · have hX := z_it hs33_23 hX
      refine z_tableIn (pc := 33) (off := 876) (tgt := 909) G dL_law_33 (by rw [hs33_23]; decide) (by rw [hs33_23]; decide) (by rw [hs33_23]; decide) (by decide) ?_
      refine z_aload_n (pc := 909) G 1 dL_law_909 rfl rfl ?_
      refine z_aload_n (pc := 910) G 0 dL_law_910 rfl rfl ?_
      refine z_iload_n (pc := 911) G 3 dL_law_911 rfl rfl ?_
      refine z_iconst (pc := 912) (v := 1) G dL_law_912 (by decide) ?_
      refine z_iadd (pc := 913) G dL_law_913 ?_
      obtain ⟨x914, hv914, hX⟩ := z_bd hX
      refine z_iald (pc := 914) G dL_law_914 hv914 ?_
      refine z_aload_n (pc := 915) G 0 dL_law_915 rfl rfl ?_
      refine z_iload_n (pc := 916) G 3 dL_law_916 rfl rfl ?_
      refine z_iconst (pc := 917) (v := 2) G dL_law_917 (by decide) ?_
      refine z_iadd (pc := 918) G dL_law_918 ?_
      obtain ⟨x919, hv919, hX⟩ := z_bd hX
      refine z_iald (pc := 919) G dL_law_919 hv919 ?_
      obtain ⟨hi920, hX⟩ := z_gu_s hX
      obtain ⟨r920, hv920, hX⟩ := z_bd hX
      refine z_cVI (pc := 920) (As := [.int x914, .int x919]) (c2 := kc) (s2 := ks) G kK8 (lX8_hidden hO hv920) hi920 kt_997 kt_1 kt_994 kt_995 kt_996 ydX8_hidden ⟨by decide, by decide⟩ rfl (Nat.le_of_ble_eq_true rfl) ⟨by show kc + 0 = kc; omega, by show ks + 0 = ks; omega⟩ ⟨by show kc ≤ 600000; omega, by show ks ≤ 7302250; omega⟩ rfl dL_law_920 ?_
      refine z_aload_n (pc := 923) G 2 dL_law_923 rfl rfl ?_
      refine z_aload_n (pc := 924) G 0 dL_law_924 rfl rfl ?_
      refine z_iload_n (pc := 925) G 3 dL_law_925 rfl rfl ?_
      refine z_iconst (pc := 926) (v := 1) G dL_law_926 (by decide) ?_
      refine z_iadd (pc := 927) G dL_law_927 ?_
      obtain ⟨x928, hv928, hX⟩ := z_bd hX
      refine z_iald (pc := 928) G dL_law_928 hv928 ?_
      refine z_aload_n (pc := 929) G 0 dL_law_929 rfl rfl ?_
      refine z_iload_n (pc := 930) G 3 dL_law_930 rfl rfl ?_
      refine z_iconst (pc := 931) (v := 2) G dL_law_931 (by decide) ?_
      refine z_iadd (pc := 932) G dL_law_932 ?_
      obtain ⟨x933, hv933, hX⟩ := z_bd hX
      refine z_iald (pc := 933) G dL_law_933 hv933 ?_
      obtain ⟨hi934, hX⟩ := z_gu_s hX
      obtain ⟨r934, hv934, hX⟩ := z_bd hX
      refine z_cVI (pc := 934) (As := [.int x928, .int x933]) (c2 := kc) (s2 := ks) G kK9 (lX9_hidden hO hv934) hi934 kt_1823 kt_11 kt_1820 kt_1821 kt_1822 ydX9_hidden ⟨by decide, by decide⟩ rfl (Nat.le_of_ble_eq_true rfl) ⟨by show kc + 0 = kc; omega, by show ks + 0 = ks; omega⟩ ⟨by show kc ≤ 600000; omega, by show ks ≤ 7302250; omega⟩ rfl dL_law_934 ?_
      refine z_icmp_eq (pc := 937) (tgt := 1560) G dL_law_937 (by decide) (fun hc937 => ?_) (fun hc937 => ?_)
      · have hX := z_it hc937 hX
        refine z_iincw (pc := 1560) (w := 6) (lv2 := [(0, .ref l0), (1, .ref l1), (2, .ref l2), (3, .int (l3 + 6))]) G 3 dL_law_1560 rfl (by decide) (by decide) rfl rfl ?_
        refine z_goto (pc := 1563) (tgt := 18) G dL_law_1563 (by decide) ?_
        refine z_wid (k := kc + 13) (n := ks + 534) (by omega) (by omega) ?_
        exact H18 _ _ _ _ _ hX
      · have hX := z_if hc937 hX
        refine z_iconst (pc := 940) (v := 0) G dL_law_940 (by decide) ?_
        exact z_lno hX hr1
    have hX := z_if hs33_23 hX
    by_cases hs33_24 : (x29 &&& (63 : Int32)) = 24
    · have hX := z_it hs33_24 hX
      refine z_tableIn (pc := 33) (off := 909) (tgt := 942) G dL_law_33 (by rw [hs33_24]; decide) (by rw [hs33_24]; decide) (by rw [hs33_24]; decide) (by decide) ?_
      refine z_aload_n (pc := 942) G 1 dL_law_942 rfl rfl ?_
      refine z_aload_n (pc := 943) G 0 dL_law_943 rfl rfl ?_
      refine z_iload_n (pc := 944) G 3 dL_law_944 rfl rfl ?_
      refine z_iconst (pc := 945) (v := 1) G dL_law_945 (by decide) ?_
      refine z_iadd (pc := 946) G dL_law_946 ?_
      obtain ⟨x947, hv947, hX⟩ := z_bd hX
      refine z_iald (pc := 947) G dL_law_947 hv947 ?_
      obtain ⟨hi948, hX⟩ := z_gu_s hX
      obtain ⟨r948, hv948, hX⟩ := z_bd hX
      refine z_cVI (pc := 948) (As := [.int x947]) (c2 := kc) (s2 := ks) G kK8 (lX8_colours hO hv948) hi948 kt_1019 kt_1 kt_1016 kt_1017 kt_1018 ydX8_colours ⟨by decide, by decide⟩ rfl (Nat.le_of_ble_eq_true rfl) ⟨by show kc + 0 = kc; omega, by show ks + 0 = ks; omega⟩ ⟨by show kc ≤ 600000; omega, by show ks ≤ 7302250; omega⟩ rfl dL_law_948 ?_
      refine z_aload_n (pc := 951) G 2 dL_law_951 rfl rfl ?_
      refine z_aload_n (pc := 952) G 0 dL_law_952 rfl rfl ?_
      refine z_iload_n (pc := 953) G 3 dL_law_953 rfl rfl ?_
      refine z_iconst (pc := 954) (v := 1) G dL_law_954 (by decide) ?_
      refine z_iadd (pc := 955) G dL_law_955 ?_
      obtain ⟨x956, hv956, hX⟩ := z_bd hX
      refine z_iald (pc := 956) G dL_law_956 hv956 ?_
      obtain ⟨hi957, hX⟩ := z_gu_s hX
      obtain ⟨r957, hv957, hX⟩ := z_bd hX
      refine z_cVI (pc := 957) (As := [.int x956]) (c2 := kc) (s2 := ks) G kK9 (lX9_colours hO hv957) hi957 kt_1831 kt_11 kt_1828 kt_1829 kt_1830 ydX9_colours ⟨by decide, by decide⟩ rfl (Nat.le_of_ble_eq_true rfl) ⟨by show kc + 0 = kc; omega, by show ks + 0 = ks; omega⟩ ⟨by show kc ≤ 600000; omega, by show ks ≤ 7302250; omega⟩ rfl dL_law_957 ?_
      refine z_icmp_eq (pc := 960) (tgt := 1560) G dL_law_960 (by decide) (fun hc960 => ?_) (fun hc960 => ?_)
      · have hX := z_it hc960 hX
        refine z_iincw (pc := 1560) (w := 6) (lv2 := [(0, .ref l0), (1, .ref l1), (2, .ref l2), (3, .int (l3 + 6))]) G 3 dL_law_1560 rfl (by decide) (by decide) rfl rfl ?_
        refine z_goto (pc := 1563) (tgt := 18) G dL_law_1563 (by decide) ?_
        refine z_wid (k := kc + 13) (n := ks + 534) (by omega) (by omega) ?_
        exact H18 _ _ _ _ _ hX
      · have hX := z_if hc960 hX
        refine z_iconst (pc := 963) (v := 0) G dL_law_963 (by decide) ?_
        exact z_lno hX hr1
    have hX := z_if hs33_24 hX
    by_cases hs33_25 : (x29 &&& (63 : Int32)) = 25
    · have hX := z_it hs33_25 hX
      refine z_tableIn (pc := 33) (off := 932) (tgt := 965) G dL_law_33 (by rw [hs33_25]; decide) (by rw [hs33_25]; decide) (by rw [hs33_25]; decide) (by decide) ?_
      refine z_aload_n (pc := 965) G 1 dL_law_965 rfl rfl ?_
      refine z_aload_n (pc := 966) G 0 dL_law_966 rfl rfl ?_
      refine z_iload_n (pc := 967) G 3 dL_law_967 rfl rfl ?_
      refine z_iconst (pc := 968) (v := 1) G dL_law_968 (by decide) ?_
      refine z_iadd (pc := 969) G dL_law_969 ?_
      obtain ⟨x970, hv970, hX⟩ := z_bd hX
      refine z_iald (pc := 970) G dL_law_970 hv970 ?_
      obtain ⟨hi971, hX⟩ := z_gu_s hX
      obtain ⟨r971, hv971, hX⟩ := z_bd hX
      refine z_cVI (pc := 971) (As := [.int x970]) (c2 := kc) (s2 := ks) G kK8 (lX8_crowd hO hv971) hi971 kt_1036 kt_1 kt_1033 kt_1034 kt_1035 ydX8_crowd ⟨by decide, by decide⟩ rfl (Nat.le_of_ble_eq_true rfl) ⟨by show kc + 0 = kc; omega, by show ks + 0 = ks; omega⟩ ⟨by show kc ≤ 600000; omega, by show ks ≤ 7302250; omega⟩ rfl dL_law_971 ?_
      refine z_aload_n (pc := 974) G 2 dL_law_974 rfl rfl ?_
      refine z_aload_n (pc := 975) G 0 dL_law_975 rfl rfl ?_
      refine z_iload_n (pc := 976) G 3 dL_law_976 rfl rfl ?_
      refine z_iconst (pc := 977) (v := 1) G dL_law_977 (by decide) ?_
      refine z_iadd (pc := 978) G dL_law_978 ?_
      obtain ⟨x979, hv979, hX⟩ := z_bd hX
      refine z_iald (pc := 979) G dL_law_979 hv979 ?_
      obtain ⟨hi980, hX⟩ := z_gu_s hX
      obtain ⟨r980, hv980, hX⟩ := z_bd hX
      refine z_cVI (pc := 980) (As := [.int x979]) (c2 := kc) (s2 := ks) G kK9 (lX9_crowd hO hv980) hi980 kt_1853 kt_11 kt_1850 kt_1851 kt_1852 ydX9_crowd ⟨by decide, by decide⟩ rfl (Nat.le_of_ble_eq_true rfl) ⟨by show kc + 0 = kc; omega, by show ks + 0 = ks; omega⟩ ⟨by show kc ≤ 600000; omega, by show ks ≤ 7302250; omega⟩ rfl dL_law_980 ?_
      refine z_icmp_eq (pc := 983) (tgt := 1560) G dL_law_983 (by decide) (fun hc983 => ?_) (fun hc983 => ?_)
      · have hX := z_it hc983 hX
        refine z_iincw (pc := 1560) (w := 6) (lv2 := [(0, .ref l0), (1, .ref l1), (2, .ref l2), (3, .int (l3 + 6))]) G 3 dL_law_1560 rfl (by decide) (by decide) rfl rfl ?_
        refine z_goto (pc := 1563) (tgt := 18) G dL_law_1563 (by decide) ?_
        refine z_wid (k := kc + 13) (n := ks + 534) (by omega) (by omega) ?_
        exact H18 _ _ _ _ _ hX
      · have hX := z_if hc983 hX
        refine z_iconst (pc := 986) (v := 0) G dL_law_986 (by decide) ?_
        exact z_lno hX hr1
    have hX := z_if hs33_25 hX
    by_cases hs33_26 : (x29 &&& (63 : Int32)) = 26
    · have hX := z_it hs33_26 hX
      refine z_tableIn (pc := 33) (off := 955) (tgt := 988) G dL_law_33 (by rw [hs33_26]; decide) (by rw [hs33_26]; decide) (by rw [hs33_26]; decide) (by decide) ?_
      refine z_aload_n (pc := 988) G 1 dL_law_988 rfl rfl ?_
      obtain ⟨hi989, hX⟩ := z_gu_s hX
      obtain ⟨r989, hv989, hX⟩ := z_bd hX
      refine z_cVI (pc := 989) (As := []) (c2 := kc) (s2 := ks) G kK8 (lX8_parts hO hv989) hi989 kt_1050 kt_1 kt_1047 kt_1048 kt_1049 ydX8_parts ⟨by decide, by decide⟩ rfl (Nat.le_of_ble_eq_true rfl) ⟨by show kc + 0 = kc; omega, by show ks + 0 = ks; omega⟩ ⟨by show kc ≤ 600000; omega, by show ks ≤ 7302250; omega⟩ rfl dL_law_989 ?_
      refine z_aload_n (pc := 992) G 2 dL_law_992 rfl rfl ?_
      obtain ⟨hi993, hX⟩ := z_gu_s hX
      obtain ⟨r993, hv993, hX⟩ := z_bd hX
      refine z_cVI (pc := 993) (As := []) (c2 := kc) (s2 := ks) G kK9 (lX9_parts hO hv993) hi993 kt_1861 kt_11 kt_1858 kt_1859 kt_1860 ydX9_parts ⟨by decide, by decide⟩ rfl (Nat.le_of_ble_eq_true rfl) ⟨by show kc + 0 = kc; omega, by show ks + 0 = ks; omega⟩ ⟨by show kc ≤ 600000; omega, by show ks ≤ 7302250; omega⟩ rfl dL_law_993 ?_
      refine z_icmp_eq (pc := 996) (tgt := 1560) G dL_law_996 (by decide) (fun hc996 => ?_) (fun hc996 => ?_)
      · have hX := z_it hc996 hX
        refine z_iincw (pc := 1560) (w := 6) (lv2 := [(0, .ref l0), (1, .ref l1), (2, .ref l2), (3, .int (l3 + 6))]) G 3 dL_law_1560 rfl (by decide) (by decide) rfl rfl ?_
        refine z_goto (pc := 1563) (tgt := 18) G dL_law_1563 (by decide) ?_
        refine z_wid (k := kc + 13) (n := ks + 534) (by omega) (by omega) ?_
        exact H18 _ _ _ _ _ hX
      · have hX := z_if hc996 hX
        refine z_iconst (pc := 999) (v := 0) G dL_law_999 (by decide) ?_
        exact z_lno hX hr1
    have hX := z_if hs33_26 hX
    by_cases hs33_27 : (x29 &&& (63 : Int32)) = 27
    · have hX := z_it hs33_27 hX
      refine z_tableIn (pc := 33) (off := 968) (tgt := 1001) G dL_law_33 (by rw [hs33_27]; decide) (by rw [hs33_27]; decide) (by rw [hs33_27]; decide) (by decide) ?_
      refine z_aload_n (pc := 1001) G 1 dL_law_1001 rfl rfl ?_
      obtain ⟨hi1002, hX⟩ := z_gu_s hX
      obtain ⟨r1002, hv1002, hX⟩ := z_bd hX
      refine z_cVI (pc := 1002) (As := []) (c2 := kc) (s2 := ks) G kK8 (lX8_twins hO hv1002) hi1002 kt_1062 kt_1 kt_1059 kt_1060 kt_1061 ydX8_twins ⟨by decide, by decide⟩ rfl (Nat.le_of_ble_eq_true rfl) ⟨by show kc + 0 = kc; omega, by show ks + 0 = ks; omega⟩ ⟨by show kc ≤ 600000; omega, by show ks ≤ 7302250; omega⟩ rfl dL_law_1002 ?_
      refine z_aload_n (pc := 1005) G 2 dL_law_1005 rfl rfl ?_
      obtain ⟨hi1006, hX⟩ := z_gu_s hX
      obtain ⟨r1006, hv1006, hX⟩ := z_bd hX
      refine z_cVI (pc := 1006) (As := []) (c2 := kc) (s2 := ks) G kK9 (lX9_twins hO hv1006) hi1006 kt_1715 kt_11 kt_1712 kt_1713 kt_1714 ydX9_twins ⟨by decide, by decide⟩ rfl (Nat.le_of_ble_eq_true rfl) ⟨by show kc + 0 = kc; omega, by show ks + 0 = ks; omega⟩ ⟨by show kc ≤ 600000; omega, by show ks ≤ 7302250; omega⟩ rfl dL_law_1006 ?_
      refine z_icmp_eq (pc := 1009) (tgt := 1560) G dL_law_1009 (by decide) (fun hc1009 => ?_) (fun hc1009 => ?_)
      · have hX := z_it hc1009 hX
        refine z_iincw (pc := 1560) (w := 6) (lv2 := [(0, .ref l0), (1, .ref l1), (2, .ref l2), (3, .int (l3 + 6))]) G 3 dL_law_1560 rfl (by decide) (by decide) rfl rfl ?_
        refine z_goto (pc := 1563) (tgt := 18) G dL_law_1563 (by decide) ?_
        refine z_wid (k := kc + 13) (n := ks + 534) (by omega) (by omega) ?_
        exact H18 _ _ _ _ _ hX
      · have hX := z_if hc1009 hX
        refine z_iconst (pc := 1012) (v := 0) G dL_law_1012 (by decide) ?_
        exact z_lno hX hr1
    have hX := z_if hs33_27 hX
    by_cases hs33_28 : (x29 &&& (63 : Int32)) = 28
    · have hX := z_it hs33_28 hX
      refine z_tableIn (pc := 33) (off := 981) (tgt := 1014) G dL_law_33 (by rw [hs33_28]; decide) (by rw [hs33_28]; decide) (by rw [hs33_28]; decide) (by decide) ?_
      refine z_aload_n (pc := 1014) G 1 dL_law_1014 rfl rfl ?_
      refine z_aload_n (pc := 1015) G 0 dL_law_1015 rfl rfl ?_
      refine z_iload_n (pc := 1016) G 3 dL_law_1016 rfl rfl ?_
      refine z_iconst (pc := 1017) (v := 1) G dL_law_1017 (by decide) ?_
      refine z_iadd (pc := 1018) G dL_law_1018 ?_
      obtain ⟨x1019, hv1019, hX⟩ := z_bd hX
      refine z_iald (pc := 1019) G dL_law_1019 hv1019 ?_
      refine z_aload_n (pc := 1020) G 0 dL_law_1020 rfl rfl ?_
      refine z_iload_n (pc := 1021) G 3 dL_law_1021 rfl rfl ?_
      refine z_iconst (pc := 1022) (v := 2) G dL_law_1022 (by decide) ?_
      refine z_iadd (pc := 1023) G dL_law_1023 ?_
      obtain ⟨x1024, hv1024, hX⟩ := z_bd hX
      refine z_iald (pc := 1024) G dL_law_1024 hv1024 ?_
      refine z_aload_n (pc := 1025) G 0 dL_law_1025 rfl rfl ?_
      refine z_iload_n (pc := 1026) G 3 dL_law_1026 rfl rfl ?_
      refine z_iconst (pc := 1027) (v := 3) G dL_law_1027 (by decide) ?_
      refine z_iadd (pc := 1028) G dL_law_1028 ?_
      obtain ⟨x1029, hv1029, hX⟩ := z_bd hX
      refine z_iald (pc := 1029) G dL_law_1029 hv1029 ?_
      obtain ⟨hi1030, hX⟩ := z_gu_s hX
      obtain ⟨r1030, hv1030, hX⟩ := z_bd hX
      refine z_cVI (pc := 1030) (As := [.int x1019, .int x1024, .int x1029]) (c2 := kc) (s2 := ks) G kK8 (lX8_meet hO hv1030) hi1030 kt_1067 kt_1 kt_1064 kt_1065 kt_1066 ydX8_meet ⟨by decide, by decide⟩ rfl (Nat.le_of_ble_eq_true rfl) ⟨by show kc + 0 = kc; omega, by show ks + 0 = ks; omega⟩ ⟨by show kc ≤ 600000; omega, by show ks ≤ 7302250; omega⟩ rfl dL_law_1030 ?_
      refine z_aload_n (pc := 1033) G 2 dL_law_1033 rfl rfl ?_
      refine z_aload_n (pc := 1034) G 0 dL_law_1034 rfl rfl ?_
      refine z_iload_n (pc := 1035) G 3 dL_law_1035 rfl rfl ?_
      refine z_iconst (pc := 1036) (v := 1) G dL_law_1036 (by decide) ?_
      refine z_iadd (pc := 1037) G dL_law_1037 ?_
      obtain ⟨x1038, hv1038, hX⟩ := z_bd hX
      refine z_iald (pc := 1038) G dL_law_1038 hv1038 ?_
      refine z_aload_n (pc := 1039) G 0 dL_law_1039 rfl rfl ?_
      refine z_iload_n (pc := 1040) G 3 dL_law_1040 rfl rfl ?_
      refine z_iconst (pc := 1041) (v := 2) G dL_law_1041 (by decide) ?_
      refine z_iadd (pc := 1042) G dL_law_1042 ?_
      obtain ⟨x1043, hv1043, hX⟩ := z_bd hX
      refine z_iald (pc := 1043) G dL_law_1043 hv1043 ?_
      refine z_aload_n (pc := 1044) G 0 dL_law_1044 rfl rfl ?_
      refine z_iload_n (pc := 1045) G 3 dL_law_1045 rfl rfl ?_
      refine z_iconst (pc := 1046) (v := 3) G dL_law_1046 (by decide) ?_
      refine z_iadd (pc := 1047) G dL_law_1047 ?_
      obtain ⟨x1048, hv1048, hX⟩ := z_bd hX
      refine z_iald (pc := 1048) G dL_law_1048 hv1048 ?_
      obtain ⟨hi1049, hX⟩ := z_gu_s hX
      obtain ⟨r1049, hv1049, hX⟩ := z_bd hX
      refine z_cVI (pc := 1049) (As := [.int x1038, .int x1043, .int x1048]) (c2 := kc) (s2 := ks) G kK9 (lX9_meet hO hv1049) hi1049 kt_1865 kt_11 kt_1862 kt_1863 kt_1864 ydX9_meet ⟨by decide, by decide⟩ rfl (Nat.le_of_ble_eq_true rfl) ⟨by show kc + 0 = kc; omega, by show ks + 0 = ks; omega⟩ ⟨by show kc ≤ 600000; omega, by show ks ≤ 7302250; omega⟩ rfl dL_law_1049 ?_
      refine z_icmp_eq (pc := 1052) (tgt := 1560) G dL_law_1052 (by decide) (fun hc1052 => ?_) (fun hc1052 => ?_)
      · have hX := z_it hc1052 hX
        refine z_iincw (pc := 1560) (w := 6) (lv2 := [(0, .ref l0), (1, .ref l1), (2, .ref l2), (3, .int (l3 + 6))]) G 3 dL_law_1560 rfl (by decide) (by decide) rfl rfl ?_
        refine z_goto (pc := 1563) (tgt := 18) G dL_law_1563 (by decide) ?_
        refine z_wid (k := kc + 13) (n := ks + 534) (by omega) (by omega) ?_
        exact H18 _ _ _ _ _ hX
      · have hX := z_if hc1052 hX
        refine z_iconst (pc := 1055) (v := 0) G dL_law_1055 (by decide) ?_
        exact z_lno hX hr1
    have hX := z_if hs33_28 hX
    by_cases hs33_29 : (x29 &&& (63 : Int32)) = 29
    · have hX := z_it hs33_29 hX
      refine z_tableIn (pc := 33) (off := 1024) (tgt := 1057) G dL_law_33 (by rw [hs33_29]; decide) (by rw [hs33_29]; decide) (by rw [hs33_29]; decide) (by decide) ?_
      refine z_aload_n (pc := 1057) G 1 dL_law_1057 rfl rfl ?_
      obtain ⟨hi1058, hX⟩ := z_gu_s hX
      obtain ⟨r1058, hv1058, hX⟩ := z_bd hX
      refine z_cVI (pc := 1058) (As := []) (c2 := kc) (s2 := ks) G kK8 (lX8_lit hO hv1058) hi1058 kt_1075 kt_1 kt_1072 kt_1073 kt_1074 ydX8_lit ⟨by decide, by decide⟩ rfl (Nat.le_of_ble_eq_true rfl) ⟨by show kc + 0 = kc; omega, by show ks + 0 = ks; omega⟩ ⟨by show kc ≤ 600000; omega, by show ks ≤ 7302250; omega⟩ rfl dL_law_1058 ?_
      refine z_aload_n (pc := 1061) G 2 dL_law_1061 rfl rfl ?_
      obtain ⟨hi1062, hX⟩ := z_gu_s hX
      obtain ⟨r1062, hv1062, hX⟩ := z_bd hX
      refine z_cVI (pc := 1062) (As := []) (c2 := kc) (s2 := ks) G kK9 (lX9_lit hO hv1062) hi1062 kt_1683 kt_11 kt_1680 kt_1681 kt_1682 ydX9_lit ⟨by decide, by decide⟩ rfl (Nat.le_of_ble_eq_true rfl) ⟨by show kc + 0 = kc; omega, by show ks + 0 = ks; omega⟩ ⟨by show kc ≤ 600000; omega, by show ks ≤ 7302250; omega⟩ rfl dL_law_1062 ?_
      refine z_icmp_eq (pc := 1065) (tgt := 1560) G dL_law_1065 (by decide) (fun hc1065 => ?_) (fun hc1065 => ?_)
      · have hX := z_it hc1065 hX
        refine z_iincw (pc := 1560) (w := 6) (lv2 := [(0, .ref l0), (1, .ref l1), (2, .ref l2), (3, .int (l3 + 6))]) G 3 dL_law_1560 rfl (by decide) (by decide) rfl rfl ?_
        refine z_goto (pc := 1563) (tgt := 18) G dL_law_1563 (by decide) ?_
        refine z_wid (k := kc + 13) (n := ks + 534) (by omega) (by omega) ?_
        exact H18 _ _ _ _ _ hX
      · have hX := z_if hc1065 hX
        refine z_iconst (pc := 1068) (v := 0) G dL_law_1068 (by decide) ?_
        exact z_lno hX hr1
    have hX := z_if hs33_29 hX
    by_cases hs33_30 : (x29 &&& (63 : Int32)) = 30
    · have hX := z_it hs33_30 hX
      refine z_tableIn (pc := 33) (off := 1037) (tgt := 1070) G dL_law_33 (by rw [hs33_30]; decide) (by rw [hs33_30]; decide) (by rw [hs33_30]; decide) (by decide) ?_
      refine z_aload_n (pc := 1070) G 1 dL_law_1070 rfl rfl ?_
      obtain ⟨hi1071, hX⟩ := z_gu_s hX
      obtain ⟨r1071, hv1071, hX⟩ := z_bd hX
      refine z_cVI (pc := 1071) (As := []) (c2 := kc) (s2 := ks) G kK8 (lX8_taken hO hv1071) hi1071 kt_1080 kt_1 kt_1077 kt_1078 kt_1079 ydX8_taken ⟨by decide, by decide⟩ rfl (Nat.le_of_ble_eq_true rfl) ⟨by show kc + 0 = kc; omega, by show ks + 0 = ks; omega⟩ ⟨by show kc ≤ 600000; omega, by show ks ≤ 7302250; omega⟩ rfl dL_law_1071 ?_
      refine z_aload_n (pc := 1074) G 2 dL_law_1074 rfl rfl ?_
      obtain ⟨hi1075, hX⟩ := z_gu_s hX
      obtain ⟨r1075, hv1075, hX⟩ := z_bd hX
      refine z_cVI (pc := 1075) (As := []) (c2 := kc) (s2 := ks) G kK9 (lX9_taken hO hv1075) hi1075 kt_1691 kt_11 kt_1688 kt_1689 kt_1690 ydX9_taken ⟨by decide, by decide⟩ rfl (Nat.le_of_ble_eq_true rfl) ⟨by show kc + 0 = kc; omega, by show ks + 0 = ks; omega⟩ ⟨by show kc ≤ 600000; omega, by show ks ≤ 7302250; omega⟩ rfl dL_law_1075 ?_
      refine z_icmp_eq (pc := 1078) (tgt := 1560) G dL_law_1078 (by decide) (fun hc1078 => ?_) (fun hc1078 => ?_)
      · have hX := z_it hc1078 hX
        refine z_iincw (pc := 1560) (w := 6) (lv2 := [(0, .ref l0), (1, .ref l1), (2, .ref l2), (3, .int (l3 + 6))]) G 3 dL_law_1560 rfl (by decide) (by decide) rfl rfl ?_
        refine z_goto (pc := 1563) (tgt := 18) G dL_law_1563 (by decide) ?_
        refine z_wid (k := kc + 13) (n := ks + 534) (by omega) (by omega) ?_
        exact H18 _ _ _ _ _ hX
      · have hX := z_if hc1078 hX
        refine z_iconst (pc := 1081) (v := 0) G dL_law_1081 (by decide) ?_
        exact z_lno hX hr1
    have hX := z_if hs33_30 hX
    by_cases hs33_31 : (x29 &&& (63 : Int32)) = 31
    · have hX := z_it hs33_31 hX
      refine z_tableIn (pc := 33) (off := 1050) (tgt := 1083) G dL_law_33 (by rw [hs33_31]; decide) (by rw [hs33_31]; decide) (by rw [hs33_31]; decide) (by decide) ?_
      refine z_aload_n (pc := 1083) G 1 dL_law_1083 rfl rfl ?_
      refine z_aload_n (pc := 1084) G 0 dL_law_1084 rfl rfl ?_
      refine z_iload_n (pc := 1085) G 3 dL_law_1085 rfl rfl ?_
      refine z_iconst (pc := 1086) (v := 1) G dL_law_1086 (by decide) ?_
      refine z_iadd (pc := 1087) G dL_law_1087 ?_
      obtain ⟨x1088, hv1088, hX⟩ := z_bd hX
      refine z_iald (pc := 1088) G dL_law_1088 hv1088 ?_
      obtain ⟨hi1089, hX⟩ := z_gu_s hX
      obtain ⟨r1089, hv1089, hX⟩ := z_bd hX
      refine z_cVI (pc := 1089) (As := [.int x1088]) (c2 := kc) (s2 := ks) G kK8 (lX8_fullest hO hv1089) hi1089 kt_1084 kt_1 kt_1081 kt_1082 kt_1083 ydX8_fullest ⟨by decide, by decide⟩ rfl (Nat.le_of_ble_eq_true rfl) ⟨by show kc + 0 = kc; omega, by show ks + 0 = ks; omega⟩ ⟨by show kc ≤ 600000; omega, by show ks ≤ 7302250; omega⟩ rfl dL_law_1089 ?_
      refine z_aload_n (pc := 1092) G 2 dL_law_1092 rfl rfl ?_
      refine z_aload_n (pc := 1093) G 0 dL_law_1093 rfl rfl ?_
      refine z_iload_n (pc := 1094) G 3 dL_law_1094 rfl rfl ?_
      refine z_iconst (pc := 1095) (v := 1) G dL_law_1095 (by decide) ?_
      refine z_iadd (pc := 1096) G dL_law_1096 ?_
      obtain ⟨x1097, hv1097, hX⟩ := z_bd hX
      refine z_iald (pc := 1097) G dL_law_1097 hv1097 ?_
      obtain ⟨hi1098, hX⟩ := z_gu_s hX
      obtain ⟨r1098, hv1098, hX⟩ := z_bd hX
      refine z_cVI (pc := 1098) (As := [.int x1097]) (c2 := kc) (s2 := ks) G kK9 (lX9_fullest hO hv1098) hi1098 kt_1699 kt_11 kt_1696 kt_1697 kt_1698 ydX9_fullest ⟨by decide, by decide⟩ rfl (Nat.le_of_ble_eq_true rfl) ⟨by show kc + 0 = kc; omega, by show ks + 0 = ks; omega⟩ ⟨by show kc ≤ 600000; omega, by show ks ≤ 7302250; omega⟩ rfl dL_law_1098 ?_
      refine z_icmp_eq (pc := 1101) (tgt := 1560) G dL_law_1101 (by decide) (fun hc1101 => ?_) (fun hc1101 => ?_)
      · have hX := z_it hc1101 hX
        refine z_iincw (pc := 1560) (w := 6) (lv2 := [(0, .ref l0), (1, .ref l1), (2, .ref l2), (3, .int (l3 + 6))]) G 3 dL_law_1560 rfl (by decide) (by decide) rfl rfl ?_
        refine z_goto (pc := 1563) (tgt := 18) G dL_law_1563 (by decide) ?_
        refine z_wid (k := kc + 13) (n := ks + 534) (by omega) (by omega) ?_
        exact H18 _ _ _ _ _ hX
      · have hX := z_if hc1101 hX
        refine z_iconst (pc := 1104) (v := 0) G dL_law_1104 (by decide) ?_
        exact z_lno hX hr1
    have hX := z_if hs33_31 hX
    by_cases hs33_32 : (x29 &&& (63 : Int32)) = 32
    · have hX := z_it hs33_32 hX
      refine z_tableIn (pc := 33) (off := 1073) (tgt := 1106) G dL_law_33 (by rw [hs33_32]; decide) (by rw [hs33_32]; decide) (by rw [hs33_32]; decide) (by decide) ?_
      refine z_aload_n (pc := 1106) G 1 dL_law_1106 rfl rfl ?_
      refine z_aload_n (pc := 1107) G 0 dL_law_1107 rfl rfl ?_
      refine z_iload_n (pc := 1108) G 3 dL_law_1108 rfl rfl ?_
      refine z_iconst (pc := 1109) (v := 1) G dL_law_1109 (by decide) ?_
      refine z_iadd (pc := 1110) G dL_law_1110 ?_
      obtain ⟨x1111, hv1111, hX⟩ := z_bd hX
      refine z_iald (pc := 1111) G dL_law_1111 hv1111 ?_
      obtain ⟨hi1112, hX⟩ := z_gu_s hX
      obtain ⟨r1112, hv1112, hX⟩ := z_bd hX
      refine z_cVI (pc := 1112) (As := [.int x1111]) (c2 := kc) (s2 := ks) G kK8 (lX8_strangers hO hv1112) hi1112 kt_1093 kt_1 kt_1090 kt_1091 kt_1092 ydX8_strangers ⟨by decide, by decide⟩ rfl (Nat.le_of_ble_eq_true rfl) ⟨by show kc + 0 = kc; omega, by show ks + 0 = ks; omega⟩ ⟨by show kc ≤ 600000; omega, by show ks ≤ 7302250; omega⟩ rfl dL_law_1112 ?_
      refine z_aload_n (pc := 1115) G 2 dL_law_1115 rfl rfl ?_
      refine z_aload_n (pc := 1116) G 0 dL_law_1116 rfl rfl ?_
      refine z_iload_n (pc := 1117) G 3 dL_law_1117 rfl rfl ?_
      refine z_iconst (pc := 1118) (v := 1) G dL_law_1118 (by decide) ?_
      refine z_iadd (pc := 1119) G dL_law_1119 ?_
      obtain ⟨x1120, hv1120, hX⟩ := z_bd hX
      refine z_iald (pc := 1120) G dL_law_1120 hv1120 ?_
      obtain ⟨hi1121, hX⟩ := z_gu_s hX
      obtain ⟨r1121, hv1121, hX⟩ := z_bd hX
      refine z_cVI (pc := 1121) (As := [.int x1120]) (c2 := kc) (s2 := ks) G kK9 (lX9_strangers hO hv1121) hi1121 kt_1703 kt_11 kt_1700 kt_1701 kt_1702 ydX9_strangers ⟨by decide, by decide⟩ rfl (Nat.le_of_ble_eq_true rfl) ⟨by show kc + 0 = kc; omega, by show ks + 0 = ks; omega⟩ ⟨by show kc ≤ 600000; omega, by show ks ≤ 7302250; omega⟩ rfl dL_law_1121 ?_
      refine z_icmp_eq (pc := 1124) (tgt := 1560) G dL_law_1124 (by decide) (fun hc1124 => ?_) (fun hc1124 => ?_)
      · have hX := z_it hc1124 hX
        refine z_iincw (pc := 1560) (w := 6) (lv2 := [(0, .ref l0), (1, .ref l1), (2, .ref l2), (3, .int (l3 + 6))]) G 3 dL_law_1560 rfl (by decide) (by decide) rfl rfl ?_
        refine z_goto (pc := 1563) (tgt := 18) G dL_law_1563 (by decide) ?_
        refine z_wid (k := kc + 13) (n := ks + 534) (by omega) (by omega) ?_
        exact H18 _ _ _ _ _ hX
      · have hX := z_if hc1124 hX
        refine z_iconst (pc := 1127) (v := 0) G dL_law_1127 (by decide) ?_
        exact z_lno hX hr1
    have hX := z_if hs33_32 hX
    by_cases hs33_33 : (x29 &&& (63 : Int32)) = 33
    · have hX := z_it hs33_33 hX
      refine z_tableIn (pc := 33) (off := 1096) (tgt := 1129) G dL_law_33 (by rw [hs33_33]; decide) (by rw [hs33_33]; decide) (by rw [hs33_33]; decide) (by decide) ?_
      refine z_aload_n (pc := 1129) G 1 dL_law_1129 rfl rfl ?_
      obtain ⟨hi1130, hX⟩ := z_gu_s hX
      obtain ⟨r1130, hv1130, hX⟩ := z_bd hX
      refine z_cVI (pc := 1130) (As := []) (c2 := kc) (s2 := ks) G kK8 (lX8_best hO hv1130) hi1130 kt_1099 kt_1 kt_1096 kt_1097 kt_1098 ydX8_best ⟨by decide, by decide⟩ rfl (Nat.le_of_ble_eq_true rfl) ⟨by show kc + 0 = kc; omega, by show ks + 0 = ks; omega⟩ ⟨by show kc ≤ 600000; omega, by show ks ≤ 7302250; omega⟩ rfl dL_law_1130 ?_
      refine z_aload_n (pc := 1133) G 2 dL_law_1133 rfl rfl ?_
      obtain ⟨hi1134, hX⟩ := z_gu_s hX
      obtain ⟨r1134, hv1134, hX⟩ := z_bd hX
      refine z_cVI (pc := 1134) (As := []) (c2 := kc) (s2 := ks) G kK9 (lX9_best hO hv1134) hi1134 kt_1695 kt_11 kt_1692 kt_1693 kt_1694 ydX9_best ⟨by decide, by decide⟩ rfl (Nat.le_of_ble_eq_true rfl) ⟨by show kc + 0 = kc; omega, by show ks + 0 = ks; omega⟩ ⟨by show kc ≤ 600000; omega, by show ks ≤ 7302250; omega⟩ rfl dL_law_1134 ?_
      refine z_icmp_eq (pc := 1137) (tgt := 1560) G dL_law_1137 (by decide) (fun hc1137 => ?_) (fun hc1137 => ?_)
      · have hX := z_it hc1137 hX
        refine z_iincw (pc := 1560) (w := 6) (lv2 := [(0, .ref l0), (1, .ref l1), (2, .ref l2), (3, .int (l3 + 6))]) G 3 dL_law_1560 rfl (by decide) (by decide) rfl rfl ?_
        refine z_goto (pc := 1563) (tgt := 18) G dL_law_1563 (by decide) ?_
        refine z_wid (k := kc + 13) (n := ks + 534) (by omega) (by omega) ?_
        exact H18 _ _ _ _ _ hX
      · have hX := z_if hc1137 hX
        refine z_iconst (pc := 1140) (v := 0) G dL_law_1140 (by decide) ?_
        exact z_lno hX hr1
    have hX := z_if hs33_33 hX
    by_cases hs33_34 : (x29 &&& (63 : Int32)) = 34
    · have hX := z_it hs33_34 hX
      refine z_tableIn (pc := 33) (off := 1109) (tgt := 1142) G dL_law_33 (by rw [hs33_34]; decide) (by rw [hs33_34]; decide) (by rw [hs33_34]; decide) (by decide) ?_
      refine z_aload_n (pc := 1142) G 1 dL_law_1142 rfl rfl ?_
      refine z_aload_n (pc := 1143) G 0 dL_law_1143 rfl rfl ?_
      refine z_iload_n (pc := 1144) G 3 dL_law_1144 rfl rfl ?_
      refine z_iconst (pc := 1145) (v := 1) G dL_law_1145 (by decide) ?_
      refine z_iadd (pc := 1146) G dL_law_1146 ?_
      obtain ⟨x1147, hv1147, hX⟩ := z_bd hX
      refine z_iald (pc := 1147) G dL_law_1147 hv1147 ?_
      obtain ⟨hi1148, hX⟩ := z_gu_s hX
      obtain ⟨r1148, hv1148, hX⟩ := z_bd hX
      refine z_cVI (pc := 1148) (As := [.int x1147]) (c2 := kc) (s2 := ks) G kK8 (lX8_reach hO hv1148) hi1148 kt_1103 kt_1 kt_1100 kt_1101 kt_1102 ydX8_reach ⟨by decide, by decide⟩ rfl (Nat.le_of_ble_eq_true rfl) ⟨by show kc + 0 = kc; omega, by show ks + 0 = ks; omega⟩ ⟨by show kc ≤ 600000; omega, by show ks ≤ 7302250; omega⟩ rfl dL_law_1148 ?_
      refine z_aload_n (pc := 1151) G 2 dL_law_1151 rfl rfl ?_
      refine z_aload_n (pc := 1152) G 0 dL_law_1152 rfl rfl ?_
      refine z_iload_n (pc := 1153) G 3 dL_law_1153 rfl rfl ?_
      refine z_iconst (pc := 1154) (v := 1) G dL_law_1154 (by decide) ?_
      refine z_iadd (pc := 1155) G dL_law_1155 ?_
      obtain ⟨x1156, hv1156, hX⟩ := z_bd hX
      refine z_iald (pc := 1156) G dL_law_1156 hv1156 ?_
      obtain ⟨hi1157, hX⟩ := z_gu_s hX
      obtain ⟨r1157, hv1157, hX⟩ := z_bd hX
      refine z_cVI (pc := 1157) (As := [.int x1156]) (c2 := kc) (s2 := ks) G kK9 (lX9_reach hO hv1157) hi1157 kt_1869 kt_11 kt_1866 kt_1867 kt_1868 ydX9_reach ⟨by decide, by decide⟩ rfl (Nat.le_of_ble_eq_true rfl) ⟨by show kc + 0 = kc; omega, by show ks + 0 = ks; omega⟩ ⟨by show kc ≤ 600000; omega, by show ks ≤ 7302250; omega⟩ rfl dL_law_1157 ?_
      refine z_icmp_eq (pc := 1160) (tgt := 1560) G dL_law_1160 (by decide) (fun hc1160 => ?_) (fun hc1160 => ?_)
      · have hX := z_it hc1160 hX
        refine z_iincw (pc := 1560) (w := 6) (lv2 := [(0, .ref l0), (1, .ref l1), (2, .ref l2), (3, .int (l3 + 6))]) G 3 dL_law_1560 rfl (by decide) (by decide) rfl rfl ?_
        refine z_goto (pc := 1563) (tgt := 18) G dL_law_1563 (by decide) ?_
        refine z_wid (k := kc + 13) (n := ks + 534) (by omega) (by omega) ?_
        exact H18 _ _ _ _ _ hX
      · have hX := z_if hc1160 hX
        refine z_iconst (pc := 1163) (v := 0) G dL_law_1163 (by decide) ?_
        exact z_lno hX hr1
    have hX := z_if hs33_34 hX
    by_cases hs33_35 : (x29 &&& (63 : Int32)) = 35
    · have hX := z_it hs33_35 hX
      refine z_tableIn (pc := 33) (off := 1132) (tgt := 1165) G dL_law_33 (by rw [hs33_35]; decide) (by rw [hs33_35]; decide) (by rw [hs33_35]; decide) (by decide) ?_
      refine z_aload_n (pc := 1165) G 1 dL_law_1165 rfl rfl ?_
      refine z_aload_n (pc := 1166) G 0 dL_law_1166 rfl rfl ?_
      refine z_iload_n (pc := 1167) G 3 dL_law_1167 rfl rfl ?_
      refine z_iconst (pc := 1168) (v := 1) G dL_law_1168 (by decide) ?_
      refine z_iadd (pc := 1169) G dL_law_1169 ?_
      obtain ⟨x1170, hv1170, hX⟩ := z_bd hX
      refine z_iald (pc := 1170) G dL_law_1170 hv1170 ?_
      refine z_aload_n (pc := 1171) G 0 dL_law_1171 rfl rfl ?_
      refine z_iload_n (pc := 1172) G 3 dL_law_1172 rfl rfl ?_
      refine z_iconst (pc := 1173) (v := 2) G dL_law_1173 (by decide) ?_
      refine z_iadd (pc := 1174) G dL_law_1174 ?_
      obtain ⟨x1175, hv1175, hX⟩ := z_bd hX
      refine z_iald (pc := 1175) G dL_law_1175 hv1175 ?_
      refine z_aload_n (pc := 1176) G 0 dL_law_1176 rfl rfl ?_
      refine z_iload_n (pc := 1177) G 3 dL_law_1177 rfl rfl ?_
      refine z_iconst (pc := 1178) (v := 3) G dL_law_1178 (by decide) ?_
      refine z_iadd (pc := 1179) G dL_law_1179 ?_
      obtain ⟨x1180, hv1180, hX⟩ := z_bd hX
      refine z_iald (pc := 1180) G dL_law_1180 hv1180 ?_
      obtain ⟨hi1181, hX⟩ := z_gu_s hX
      obtain ⟨r1181, hv1181, hX⟩ := z_bd hX
      refine z_cVI (pc := 1181) (As := [.int x1170, .int x1175, .int x1180]) (c2 := kc) (s2 := ks) G kK8 (lX8_law hO hv1181) hi1181 kt_1107 kt_1 kt_1104 kt_1105 kt_1106 ydX8_law ⟨by decide, by decide⟩ rfl (Nat.le_of_ble_eq_true rfl) ⟨by show kc + 0 = kc; omega, by show ks + 0 = ks; omega⟩ ⟨by show kc ≤ 600000; omega, by show ks ≤ 7302250; omega⟩ rfl dL_law_1181 ?_
      refine z_aload_n (pc := 1184) G 2 dL_law_1184 rfl rfl ?_
      refine z_aload_n (pc := 1185) G 0 dL_law_1185 rfl rfl ?_
      refine z_iload_n (pc := 1186) G 3 dL_law_1186 rfl rfl ?_
      refine z_iconst (pc := 1187) (v := 1) G dL_law_1187 (by decide) ?_
      refine z_iadd (pc := 1188) G dL_law_1188 ?_
      obtain ⟨x1189, hv1189, hX⟩ := z_bd hX
      refine z_iald (pc := 1189) G dL_law_1189 hv1189 ?_
      refine z_aload_n (pc := 1190) G 0 dL_law_1190 rfl rfl ?_
      refine z_iload_n (pc := 1191) G 3 dL_law_1191 rfl rfl ?_
      refine z_iconst (pc := 1192) (v := 2) G dL_law_1192 (by decide) ?_
      refine z_iadd (pc := 1193) G dL_law_1193 ?_
      obtain ⟨x1194, hv1194, hX⟩ := z_bd hX
      refine z_iald (pc := 1194) G dL_law_1194 hv1194 ?_
      refine z_aload_n (pc := 1195) G 0 dL_law_1195 rfl rfl ?_
      refine z_iload_n (pc := 1196) G 3 dL_law_1196 rfl rfl ?_
      refine z_iconst (pc := 1197) (v := 3) G dL_law_1197 (by decide) ?_
      refine z_iadd (pc := 1198) G dL_law_1198 ?_
      obtain ⟨x1199, hv1199, hX⟩ := z_bd hX
      refine z_iald (pc := 1199) G dL_law_1199 hv1199 ?_
      obtain ⟨hi1200, hX⟩ := z_gu_s hX
      obtain ⟨r1200, hv1200, hX⟩ := z_bd hX
      refine z_cVI (pc := 1200) (As := [.int x1189, .int x1194, .int x1199]) (c2 := kc) (s2 := ks) G kK9 (lX9_law hO hv1200) hi1200 kt_1671 kt_11 kt_1668 kt_1669 kt_1670 ydX9_law ⟨by decide, by decide⟩ rfl (Nat.le_of_ble_eq_true rfl) ⟨by show kc + 0 = kc; omega, by show ks + 0 = ks; omega⟩ ⟨by show kc ≤ 600000; omega, by show ks ≤ 7302250; omega⟩ rfl dL_law_1200 ?_
      refine z_icmp_eq (pc := 1203) (tgt := 1560) G dL_law_1203 (by decide) (fun hc1203 => ?_) (fun hc1203 => ?_)
      · have hX := z_it hc1203 hX
        refine z_iincw (pc := 1560) (w := 6) (lv2 := [(0, .ref l0), (1, .ref l1), (2, .ref l2), (3, .int (l3 + 6))]) G 3 dL_law_1560 rfl (by decide) (by decide) rfl rfl ?_
        refine z_goto (pc := 1563) (tgt := 18) G dL_law_1563 (by decide) ?_
        refine z_wid (k := kc + 13) (n := ks + 534) (by omega) (by omega) ?_
        exact H18 _ _ _ _ _ hX
      · have hX := z_if hc1203 hX
        refine z_iconst (pc := 1206) (v := 0) G dL_law_1206 (by decide) ?_
        exact z_lno hX hr1
    have hX := z_if hs33_35 hX
    by_cases hs33_36 : (x29 &&& (63 : Int32)) = 36
    · have hX := z_it hs33_36 hX
      refine z_tableIn (pc := 33) (off := 1175) (tgt := 1208) G dL_law_33 (by rw [hs33_36]; decide) (by rw [hs33_36]; decide) (by rw [hs33_36]; decide) (by decide) ?_
      refine z_aload_n (pc := 1208) G 1 dL_law_1208 rfl rfl ?_
      refine z_aload_n (pc := 1209) G 0 dL_law_1209 rfl rfl ?_
      refine z_iload_n (pc := 1210) G 3 dL_law_1210 rfl rfl ?_
      refine z_iconst (pc := 1211) (v := 1) G dL_law_1211 (by decide) ?_
      refine z_iadd (pc := 1212) G dL_law_1212 ?_
      obtain ⟨x1213, hv1213, hX⟩ := z_bd hX
      refine z_iald (pc := 1213) G dL_law_1213 hv1213 ?_
      refine z_aload_n (pc := 1214) G 0 dL_law_1214 rfl rfl ?_
      refine z_iload_n (pc := 1215) G 3 dL_law_1215 rfl rfl ?_
      refine z_iconst (pc := 1216) (v := 2) G dL_law_1216 (by decide) ?_
      refine z_iadd (pc := 1217) G dL_law_1217 ?_
      obtain ⟨x1218, hv1218, hX⟩ := z_bd hX
      refine z_iald (pc := 1218) G dL_law_1218 hv1218 ?_
      obtain ⟨hi1219, hX⟩ := z_gu_s hX
      obtain ⟨r1219, hv1219, hX⟩ := z_bd hX
      refine z_cVI (pc := 1219) (As := [.int x1213, .int x1218]) (c2 := kc) (s2 := ks) G kK8 (lX8_odds hO hv1219) hi1219 kt_1111 kt_1 kt_1108 kt_1109 kt_1110 ydX8_odds ⟨by decide, by decide⟩ rfl (Nat.le_of_ble_eq_true rfl) ⟨by show kc + 0 = kc; omega, by show ks + 0 = ks; omega⟩ ⟨by show kc ≤ 600000; omega, by show ks ≤ 7302250; omega⟩ rfl dL_law_1219 ?_
      refine z_aload_n (pc := 1222) G 2 dL_law_1222 rfl rfl ?_
      refine z_aload_n (pc := 1223) G 0 dL_law_1223 rfl rfl ?_
      refine z_iload_n (pc := 1224) G 3 dL_law_1224 rfl rfl ?_
      refine z_iconst (pc := 1225) (v := 1) G dL_law_1225 (by decide) ?_
      refine z_iadd (pc := 1226) G dL_law_1226 ?_
      obtain ⟨x1227, hv1227, hX⟩ := z_bd hX
      refine z_iald (pc := 1227) G dL_law_1227 hv1227 ?_
      refine z_aload_n (pc := 1228) G 0 dL_law_1228 rfl rfl ?_
      refine z_iload_n (pc := 1229) G 3 dL_law_1229 rfl rfl ?_
      refine z_iconst (pc := 1230) (v := 2) G dL_law_1230 (by decide) ?_
      refine z_iadd (pc := 1231) G dL_law_1231 ?_
      obtain ⟨x1232, hv1232, hX⟩ := z_bd hX
      refine z_iald (pc := 1232) G dL_law_1232 hv1232 ?_
      obtain ⟨hi1233, hX⟩ := z_gu_s hX
      obtain ⟨r1233, hv1233, hX⟩ := z_bd hX
      refine z_cVI (pc := 1233) (As := [.int x1227, .int x1232]) (c2 := kc) (s2 := ks) G kK9 (lX9_odds hO hv1233) hi1233 kt_1881 kt_11 kt_1878 kt_1879 kt_1880 ydX9_odds ⟨by decide, by decide⟩ rfl (Nat.le_of_ble_eq_true rfl) ⟨by show kc + 0 = kc; omega, by show ks + 0 = ks; omega⟩ ⟨by show kc ≤ 600000; omega, by show ks ≤ 7302250; omega⟩ rfl dL_law_1233 ?_
      refine z_icmp_eq (pc := 1236) (tgt := 1560) G dL_law_1236 (by decide) (fun hc1236 => ?_) (fun hc1236 => ?_)
      · have hX := z_it hc1236 hX
        refine z_iincw (pc := 1560) (w := 6) (lv2 := [(0, .ref l0), (1, .ref l1), (2, .ref l2), (3, .int (l3 + 6))]) G 3 dL_law_1560 rfl (by decide) (by decide) rfl rfl ?_
        refine z_goto (pc := 1563) (tgt := 18) G dL_law_1563 (by decide) ?_
        refine z_wid (k := kc + 13) (n := ks + 534) (by omega) (by omega) ?_
        exact H18 _ _ _ _ _ hX
      · have hX := z_if hc1236 hX
        refine z_iconst (pc := 1239) (v := 0) G dL_law_1239 (by decide) ?_
        exact z_lno hX hr1
    have hX := z_if hs33_36 hX
    by_cases hs33_37 : (x29 &&& (63 : Int32)) = 37
    · have hX := z_it hs33_37 hX
      refine z_tableIn (pc := 33) (off := 1208) (tgt := 1241) G dL_law_33 (by rw [hs33_37]; decide) (by rw [hs33_37]; decide) (by rw [hs33_37]; decide) (by decide) ?_
      refine z_aload_n (pc := 1241) G 1 dL_law_1241 rfl rfl ?_
      refine z_aload_n (pc := 1242) G 0 dL_law_1242 rfl rfl ?_
      refine z_iload_n (pc := 1243) G 3 dL_law_1243 rfl rfl ?_
      refine z_iconst (pc := 1244) (v := 1) G dL_law_1244 (by decide) ?_
      refine z_iadd (pc := 1245) G dL_law_1245 ?_
      obtain ⟨x1246, hv1246, hX⟩ := z_bd hX
      refine z_iald (pc := 1246) G dL_law_1246 hv1246 ?_
      obtain ⟨hi1247, hX⟩ := z_gu_s hX
      obtain ⟨r1247, hv1247, hX⟩ := z_bd hX
      refine z_cVI (pc := 1247) (As := [.int x1246]) (c2 := kc) (s2 := ks) G kK8 (lX8_near hO hv1247) hi1247 kt_1118 kt_1 kt_1115 kt_1116 kt_1117 ydX8_near ⟨by decide, by decide⟩ rfl (Nat.le_of_ble_eq_true rfl) ⟨by show kc + 0 = kc; omega, by show ks + 0 = ks; omega⟩ ⟨by show kc ≤ 600000; omega, by show ks ≤ 7302250; omega⟩ rfl dL_law_1247 ?_
      refine z_aload_n (pc := 1250) G 2 dL_law_1250 rfl rfl ?_
      refine z_aload_n (pc := 1251) G 0 dL_law_1251 rfl rfl ?_
      refine z_iload_n (pc := 1252) G 3 dL_law_1252 rfl rfl ?_
      refine z_iconst (pc := 1253) (v := 1) G dL_law_1253 (by decide) ?_
      refine z_iadd (pc := 1254) G dL_law_1254 ?_
      obtain ⟨x1255, hv1255, hX⟩ := z_bd hX
      refine z_iald (pc := 1255) G dL_law_1255 hv1255 ?_
      obtain ⟨hi1256, hX⟩ := z_gu_s hX
      obtain ⟨r1256, hv1256, hX⟩ := z_bd hX
      refine z_cVI (pc := 1256) (As := [.int x1255]) (c2 := kc) (s2 := ks) G kK9 (lX9_near hO hv1256) hi1256 kt_1877 kt_11 kt_1874 kt_1875 kt_1876 ydX9_near ⟨by decide, by decide⟩ rfl (Nat.le_of_ble_eq_true rfl) ⟨by show kc + 0 = kc; omega, by show ks + 0 = ks; omega⟩ ⟨by show kc ≤ 600000; omega, by show ks ≤ 7302250; omega⟩ rfl dL_law_1256 ?_
      refine z_icmp_eq (pc := 1259) (tgt := 1560) G dL_law_1259 (by decide) (fun hc1259 => ?_) (fun hc1259 => ?_)
      · have hX := z_it hc1259 hX
        refine z_iincw (pc := 1560) (w := 6) (lv2 := [(0, .ref l0), (1, .ref l1), (2, .ref l2), (3, .int (l3 + 6))]) G 3 dL_law_1560 rfl (by decide) (by decide) rfl rfl ?_
        refine z_goto (pc := 1563) (tgt := 18) G dL_law_1563 (by decide) ?_
        refine z_wid (k := kc + 13) (n := ks + 534) (by omega) (by omega) ?_
        exact H18 _ _ _ _ _ hX
      · have hX := z_if hc1259 hX
        refine z_iconst (pc := 1262) (v := 0) G dL_law_1262 (by decide) ?_
        exact z_lno hX hr1
    have hX := z_if hs33_37 hX
    by_cases hs33_38 : (x29 &&& (63 : Int32)) = 38
    · have hX := z_it hs33_38 hX
      refine z_tableIn (pc := 33) (off := 1231) (tgt := 1264) G dL_law_33 (by rw [hs33_38]; decide) (by rw [hs33_38]; decide) (by rw [hs33_38]; decide) (by decide) ?_
      refine z_aload_n (pc := 1264) G 1 dL_law_1264 rfl rfl ?_
      refine z_aload_n (pc := 1265) G 0 dL_law_1265 rfl rfl ?_
      refine z_iload_n (pc := 1266) G 3 dL_law_1266 rfl rfl ?_
      refine z_iconst (pc := 1267) (v := 1) G dL_law_1267 (by decide) ?_
      refine z_iadd (pc := 1268) G dL_law_1268 ?_
      obtain ⟨x1269, hv1269, hX⟩ := z_bd hX
      refine z_iald (pc := 1269) G dL_law_1269 hv1269 ?_
      obtain ⟨hi1270, hX⟩ := z_gu_s hX
      obtain ⟨r1270, hv1270, hX⟩ := z_bd hX
      refine z_cVI (pc := 1270) (As := [.int x1269]) (c2 := kc) (s2 := ks) G kK8 (lX8_lies hO hv1270) hi1270 kt_1126 kt_1 kt_1123 kt_1124 kt_1125 ydX8_lies ⟨by decide, by decide⟩ rfl (Nat.le_of_ble_eq_true rfl) ⟨by show kc + 0 = kc; omega, by show ks + 0 = ks; omega⟩ ⟨by show kc ≤ 600000; omega, by show ks ≤ 7302250; omega⟩ rfl dL_law_1270 ?_
      refine z_aload_n (pc := 1273) G 2 dL_law_1273 rfl rfl ?_
      refine z_aload_n (pc := 1274) G 0 dL_law_1274 rfl rfl ?_
      refine z_iload_n (pc := 1275) G 3 dL_law_1275 rfl rfl ?_
      refine z_iconst (pc := 1276) (v := 1) G dL_law_1276 (by decide) ?_
      refine z_iadd (pc := 1277) G dL_law_1277 ?_
      obtain ⟨x1278, hv1278, hX⟩ := z_bd hX
      refine z_iald (pc := 1278) G dL_law_1278 hv1278 ?_
      obtain ⟨hi1279, hX⟩ := z_gu_s hX
      obtain ⟨r1279, hv1279, hX⟩ := z_bd hX
      refine z_cVI (pc := 1279) (As := [.int x1278]) (c2 := kc) (s2 := ks) G kK9 (lX9_lies hO hv1279) hi1279 kt_1873 kt_11 kt_1870 kt_1871 kt_1872 ydX9_lies ⟨by decide, by decide⟩ rfl (Nat.le_of_ble_eq_true rfl) ⟨by show kc + 0 = kc; omega, by show ks + 0 = ks; omega⟩ ⟨by show kc ≤ 600000; omega, by show ks ≤ 7302250; omega⟩ rfl dL_law_1279 ?_
      refine z_icmp_eq (pc := 1282) (tgt := 1560) G dL_law_1282 (by decide) (fun hc1282 => ?_) (fun hc1282 => ?_)
      · have hX := z_it hc1282 hX
        refine z_iincw (pc := 1560) (w := 6) (lv2 := [(0, .ref l0), (1, .ref l1), (2, .ref l2), (3, .int (l3 + 6))]) G 3 dL_law_1560 rfl (by decide) (by decide) rfl rfl ?_
        refine z_goto (pc := 1563) (tgt := 18) G dL_law_1563 (by decide) ?_
        refine z_wid (k := kc + 13) (n := ks + 534) (by omega) (by omega) ?_
        exact H18 _ _ _ _ _ hX
      · have hX := z_if hc1282 hX
        refine z_iconst (pc := 1285) (v := 0) G dL_law_1285 (by decide) ?_
        exact z_lno hX hr1
    have hX := z_if hs33_38 hX
    by_cases hs33_39 : (x29 &&& (63 : Int32)) = 39
    · have hX := z_it hs33_39 hX
      refine z_tableIn (pc := 33) (off := 1254) (tgt := 1287) G dL_law_33 (by rw [hs33_39]; decide) (by rw [hs33_39]; decide) (by rw [hs33_39]; decide) (by decide) ?_
      refine z_aload_n (pc := 1287) G 1 dL_law_1287 rfl rfl ?_
      refine z_aload_n (pc := 1288) G 0 dL_law_1288 rfl rfl ?_
      refine z_iload_n (pc := 1289) G 3 dL_law_1289 rfl rfl ?_
      refine z_iconst (pc := 1290) (v := 1) G dL_law_1290 (by decide) ?_
      refine z_iadd (pc := 1291) G dL_law_1291 ?_
      obtain ⟨x1292, hv1292, hX⟩ := z_bd hX
      refine z_iald (pc := 1292) G dL_law_1292 hv1292 ?_
      refine z_aload_n (pc := 1293) G 0 dL_law_1293 rfl rfl ?_
      refine z_iload_n (pc := 1294) G 3 dL_law_1294 rfl rfl ?_
      refine z_iconst (pc := 1295) (v := 2) G dL_law_1295 (by decide) ?_
      refine z_iadd (pc := 1296) G dL_law_1296 ?_
      obtain ⟨x1297, hv1297, hX⟩ := z_bd hX
      refine z_iald (pc := 1297) G dL_law_1297 hv1297 ?_
      refine z_aload_n (pc := 1298) G 0 dL_law_1298 rfl rfl ?_
      refine z_iload_n (pc := 1299) G 3 dL_law_1299 rfl rfl ?_
      refine z_iconst (pc := 1300) (v := 3) G dL_law_1300 (by decide) ?_
      refine z_iadd (pc := 1301) G dL_law_1301 ?_
      obtain ⟨x1302, hv1302, hX⟩ := z_bd hX
      refine z_iald (pc := 1302) G dL_law_1302 hv1302 ?_
      refine z_if_eq (pc := 1303) (tgt := 1310) G dL_law_1303 (by decide) (fun hc1303 => ?_) (fun hc1303 => ?_)
      · have hX := z_it hc1303 hX
        refine z_iconst (pc := 1310) (v := 0) G dL_law_1310 (by decide) ?_
        obtain ⟨hi1311, hX⟩ := z_gu_s hX
        obtain ⟨r1311, hv1311, hX⟩ := z_bd hX
        refine z_cVI (pc := 1311) (As := [.int x1292, .int x1297, .int (0 : Int32)]) (c2 := kc) (s2 := ks) G kK8 (lX8_seen hO hv1311) hi1311 kt_1130 kt_1 kt_1127 kt_1128 kt_1129 ydX8_seen ⟨by decide, by decide⟩ rfl (Nat.le_of_ble_eq_true rfl) ⟨by show kc + 0 = kc; omega, by show ks + 0 = ks; omega⟩ ⟨by show kc ≤ 600000; omega, by show ks ≤ 7302250; omega⟩ rfl dL_law_1311 ?_
        refine z_aload_n (pc := 1314) G 2 dL_law_1314 rfl rfl ?_
        refine z_aload_n (pc := 1315) G 0 dL_law_1315 rfl rfl ?_
        refine z_iload_n (pc := 1316) G 3 dL_law_1316 rfl rfl ?_
        refine z_iconst (pc := 1317) (v := 1) G dL_law_1317 (by decide) ?_
        refine z_iadd (pc := 1318) G dL_law_1318 ?_
        obtain ⟨x1319, hv1319, hX⟩ := z_bd hX
        refine z_iald (pc := 1319) G dL_law_1319 hv1319 ?_
        refine z_aload_n (pc := 1320) G 0 dL_law_1320 rfl rfl ?_
        refine z_iload_n (pc := 1321) G 3 dL_law_1321 rfl rfl ?_
        refine z_iconst (pc := 1322) (v := 2) G dL_law_1322 (by decide) ?_
        refine z_iadd (pc := 1323) G dL_law_1323 ?_
        obtain ⟨x1324, hv1324, hX⟩ := z_bd hX
        refine z_iald (pc := 1324) G dL_law_1324 hv1324 ?_
        refine z_aload_n (pc := 1325) G 0 dL_law_1325 rfl rfl ?_
        refine z_iload_n (pc := 1326) G 3 dL_law_1326 rfl rfl ?_
        refine z_iconst (pc := 1327) (v := 3) G dL_law_1327 (by decide) ?_
        refine z_iadd (pc := 1328) G dL_law_1328 ?_
        obtain ⟨x1329, hv1329, hX⟩ := z_bd hX
        refine z_iald (pc := 1329) G dL_law_1329 hv1329 ?_
        refine z_if_eq (pc := 1330) (tgt := 1337) G dL_law_1330 (by decide) (fun hc1330 => ?_) (fun hc1330 => ?_)
        · have hX := z_it hc1330 hX
          refine z_iconst (pc := 1337) (v := 0) G dL_law_1337 (by decide) ?_
          obtain ⟨hi1338, hX⟩ := z_gu_s hX
          obtain ⟨r1338, hv1338, hX⟩ := z_bd hX
          refine z_cVI (pc := 1338) (As := [.int x1319, .int x1324, .int (0 : Int32)]) (c2 := kc) (s2 := ks) G kK9 (lX9_seen hO hv1338) hi1338 kt_1888 kt_11 kt_1885 kt_1886 kt_1887 ydX9_seen ⟨by decide, by decide⟩ rfl (Nat.le_of_ble_eq_true rfl) ⟨by show kc + 0 = kc; omega, by show ks + 0 = ks; omega⟩ ⟨by show kc ≤ 600000; omega, by show ks ≤ 7302250; omega⟩ rfl dL_law_1338 ?_
          refine z_icmp_eq (pc := 1341) (tgt := 1560) G dL_law_1341 (by decide) (fun hc1341 => ?_) (fun hc1341 => ?_)
          · have hX := z_it hc1341 hX
            refine z_iincw (pc := 1560) (w := 6) (lv2 := [(0, .ref l0), (1, .ref l1), (2, .ref l2), (3, .int (l3 + 6))]) G 3 dL_law_1560 rfl (by decide) (by decide) rfl rfl ?_
            refine z_goto (pc := 1563) (tgt := 18) G dL_law_1563 (by decide) ?_
            refine z_wid (k := kc + 13) (n := ks + 534) (by omega) (by omega) ?_
            exact H18 _ _ _ _ _ hX
          · have hX := z_if hc1341 hX
            refine z_iconst (pc := 1344) (v := 0) G dL_law_1344 (by decide) ?_
            exact z_lno hX hr1
        · have hX := z_if hc1330 hX
          refine z_iconst (pc := 1333) (v := 1) G dL_law_1333 (by decide) ?_
          refine z_goto (pc := 1334) (tgt := 1338) G dL_law_1334 (by decide) ?_
          obtain ⟨hi1338, hX⟩ := z_gu_s hX
          obtain ⟨r1338, hv1338, hX⟩ := z_bd hX
          refine z_cVI (pc := 1338) (As := [.int x1319, .int x1324, .int (1 : Int32)]) (c2 := kc) (s2 := ks) G kK9 (lX9_seen hO hv1338) hi1338 kt_1888 kt_11 kt_1885 kt_1886 kt_1887 ydX9_seen ⟨by decide, by decide⟩ rfl (Nat.le_of_ble_eq_true rfl) ⟨by show kc + 0 = kc; omega, by show ks + 0 = ks; omega⟩ ⟨by show kc ≤ 600000; omega, by show ks ≤ 7302250; omega⟩ rfl dL_law_1338 ?_
          refine z_icmp_eq (pc := 1341) (tgt := 1560) G dL_law_1341 (by decide) (fun hc1341 => ?_) (fun hc1341 => ?_)
          · have hX := z_it hc1341 hX
            refine z_iincw (pc := 1560) (w := 6) (lv2 := [(0, .ref l0), (1, .ref l1), (2, .ref l2), (3, .int (l3 + 6))]) G 3 dL_law_1560 rfl (by decide) (by decide) rfl rfl ?_
            refine z_goto (pc := 1563) (tgt := 18) G dL_law_1563 (by decide) ?_
            refine z_wid (k := kc + 13) (n := ks + 534) (by omega) (by omega) ?_
            exact H18 _ _ _ _ _ hX
          · have hX := z_if hc1341 hX
            refine z_iconst (pc := 1344) (v := 0) G dL_law_1344 (by decide) ?_
            exact z_lno hX hr1
      · have hX := z_if hc1303 hX
        refine z_iconst (pc := 1306) (v := 1) G dL_law_1306 (by decide) ?_
        refine z_goto (pc := 1307) (tgt := 1311) G dL_law_1307 (by decide) ?_
        obtain ⟨hi1311, hX⟩ := z_gu_s hX
        obtain ⟨r1311, hv1311, hX⟩ := z_bd hX
        refine z_cVI (pc := 1311) (As := [.int x1292, .int x1297, .int (1 : Int32)]) (c2 := kc) (s2 := ks) G kK8 (lX8_seen hO hv1311) hi1311 kt_1130 kt_1 kt_1127 kt_1128 kt_1129 ydX8_seen ⟨by decide, by decide⟩ rfl (Nat.le_of_ble_eq_true rfl) ⟨by show kc + 0 = kc; omega, by show ks + 0 = ks; omega⟩ ⟨by show kc ≤ 600000; omega, by show ks ≤ 7302250; omega⟩ rfl dL_law_1311 ?_
        refine z_aload_n (pc := 1314) G 2 dL_law_1314 rfl rfl ?_
        refine z_aload_n (pc := 1315) G 0 dL_law_1315 rfl rfl ?_
        refine z_iload_n (pc := 1316) G 3 dL_law_1316 rfl rfl ?_
        refine z_iconst (pc := 1317) (v := 1) G dL_law_1317 (by decide) ?_
        refine z_iadd (pc := 1318) G dL_law_1318 ?_
        obtain ⟨x1319, hv1319, hX⟩ := z_bd hX
        refine z_iald (pc := 1319) G dL_law_1319 hv1319 ?_
        refine z_aload_n (pc := 1320) G 0 dL_law_1320 rfl rfl ?_
        refine z_iload_n (pc := 1321) G 3 dL_law_1321 rfl rfl ?_
        refine z_iconst (pc := 1322) (v := 2) G dL_law_1322 (by decide) ?_
        refine z_iadd (pc := 1323) G dL_law_1323 ?_
        obtain ⟨x1324, hv1324, hX⟩ := z_bd hX
        refine z_iald (pc := 1324) G dL_law_1324 hv1324 ?_
        refine z_aload_n (pc := 1325) G 0 dL_law_1325 rfl rfl ?_
        refine z_iload_n (pc := 1326) G 3 dL_law_1326 rfl rfl ?_
        refine z_iconst (pc := 1327) (v := 3) G dL_law_1327 (by decide) ?_
        refine z_iadd (pc := 1328) G dL_law_1328 ?_
        obtain ⟨x1329, hv1329, hX⟩ := z_bd hX
        refine z_iald (pc := 1329) G dL_law_1329 hv1329 ?_
        refine z_if_eq (pc := 1330) (tgt := 1337) G dL_law_1330 (by decide) (fun hc1330 => ?_) (fun hc1330 => ?_)
        · have hX := z_it hc1330 hX
          refine z_iconst (pc := 1337) (v := 0) G dL_law_1337 (by decide) ?_
          obtain ⟨hi1338, hX⟩ := z_gu_s hX
          obtain ⟨r1338, hv1338, hX⟩ := z_bd hX
          refine z_cVI (pc := 1338) (As := [.int x1319, .int x1324, .int (0 : Int32)]) (c2 := kc) (s2 := ks) G kK9 (lX9_seen hO hv1338) hi1338 kt_1888 kt_11 kt_1885 kt_1886 kt_1887 ydX9_seen ⟨by decide, by decide⟩ rfl (Nat.le_of_ble_eq_true rfl) ⟨by show kc + 0 = kc; omega, by show ks + 0 = ks; omega⟩ ⟨by show kc ≤ 600000; omega, by show ks ≤ 7302250; omega⟩ rfl dL_law_1338 ?_
          refine z_icmp_eq (pc := 1341) (tgt := 1560) G dL_law_1341 (by decide) (fun hc1341 => ?_) (fun hc1341 => ?_)
          · have hX := z_it hc1341 hX
            refine z_iincw (pc := 1560) (w := 6) (lv2 := [(0, .ref l0), (1, .ref l1), (2, .ref l2), (3, .int (l3 + 6))]) G 3 dL_law_1560 rfl (by decide) (by decide) rfl rfl ?_
            refine z_goto (pc := 1563) (tgt := 18) G dL_law_1563 (by decide) ?_
            refine z_wid (k := kc + 13) (n := ks + 534) (by omega) (by omega) ?_
            exact H18 _ _ _ _ _ hX
          · have hX := z_if hc1341 hX
            refine z_iconst (pc := 1344) (v := 0) G dL_law_1344 (by decide) ?_
            exact z_lno hX hr1
        · have hX := z_if hc1330 hX
          refine z_iconst (pc := 1333) (v := 1) G dL_law_1333 (by decide) ?_
          refine z_goto (pc := 1334) (tgt := 1338) G dL_law_1334 (by decide) ?_
          obtain ⟨hi1338, hX⟩ := z_gu_s hX
          obtain ⟨r1338, hv1338, hX⟩ := z_bd hX
          refine z_cVI (pc := 1338) (As := [.int x1319, .int x1324, .int (1 : Int32)]) (c2 := kc) (s2 := ks) G kK9 (lX9_seen hO hv1338) hi1338 kt_1888 kt_11 kt_1885 kt_1886 kt_1887 ydX9_seen ⟨by decide, by decide⟩ rfl (Nat.le_of_ble_eq_true rfl) ⟨by show kc + 0 = kc; omega, by show ks + 0 = ks; omega⟩ ⟨by show kc ≤ 600000; omega, by show ks ≤ 7302250; omega⟩ rfl dL_law_1338 ?_
          refine z_icmp_eq (pc := 1341) (tgt := 1560) G dL_law_1341 (by decide) (fun hc1341 => ?_) (fun hc1341 => ?_)
          · have hX := z_it hc1341 hX
            refine z_iincw (pc := 1560) (w := 6) (lv2 := [(0, .ref l0), (1, .ref l1), (2, .ref l2), (3, .int (l3 + 6))]) G 3 dL_law_1560 rfl (by decide) (by decide) rfl rfl ?_
            refine z_goto (pc := 1563) (tgt := 18) G dL_law_1563 (by decide) ?_
            refine z_wid (k := kc + 13) (n := ks + 534) (by omega) (by omega) ?_
            exact H18 _ _ _ _ _ hX
          · have hX := z_if hc1341 hX
            refine z_iconst (pc := 1344) (v := 0) G dL_law_1344 (by decide) ?_
            exact z_lno hX hr1
    have hX := z_if hs33_39 hX
    by_cases hs33_40 : (x29 &&& (63 : Int32)) = 40
    · have hX := z_it hs33_40 hX
      refine z_tableIn (pc := 33) (off := 1313) (tgt := 1346) G dL_law_33 (by rw [hs33_40]; decide) (by rw [hs33_40]; decide) (by rw [hs33_40]; decide) (by decide) ?_
      refine z_aload_n (pc := 1346) G 1 dL_law_1346 rfl rfl ?_
      refine z_aload_n (pc := 1347) G 0 dL_law_1347 rfl rfl ?_
      refine z_iload_n (pc := 1348) G 3 dL_law_1348 rfl rfl ?_
      refine z_iconst (pc := 1349) (v := 1) G dL_law_1349 (by decide) ?_
      refine z_iadd (pc := 1350) G dL_law_1350 ?_
      obtain ⟨x1351, hv1351, hX⟩ := z_bd hX
      refine z_iald (pc := 1351) G dL_law_1351 hv1351 ?_
      obtain ⟨hi1352, hX⟩ := z_gu_s hX
      obtain ⟨r1352, hv1352, hX⟩ := z_bd hX
      refine z_cVI (pc := 1352) (As := [.int x1351]) (c2 := kc) (s2 := ks) G kK8 (lX8_untell hO hv1352) hi1352 kt_1139 kt_1 kt_1136 kt_1137 kt_1138 ydX8_untell ⟨by decide, by decide⟩ rfl (Nat.le_of_ble_eq_true rfl) ⟨by show kc + 0 = kc; omega, by show ks + 0 = ks; omega⟩ ⟨by show kc ≤ 600000; omega, by show ks ≤ 7302250; omega⟩ rfl dL_law_1352 ?_
      refine z_aload_n (pc := 1355) G 2 dL_law_1355 rfl rfl ?_
      refine z_aload_n (pc := 1356) G 0 dL_law_1356 rfl rfl ?_
      refine z_iload_n (pc := 1357) G 3 dL_law_1357 rfl rfl ?_
      refine z_iconst (pc := 1358) (v := 1) G dL_law_1358 (by decide) ?_
      refine z_iadd (pc := 1359) G dL_law_1359 ?_
      obtain ⟨x1360, hv1360, hX⟩ := z_bd hX
      refine z_iald (pc := 1360) G dL_law_1360 hv1360 ?_
      obtain ⟨hi1361, hX⟩ := z_gu_s hX
      obtain ⟨r1361, hv1361, hX⟩ := z_bd hX
      refine z_cVI (pc := 1361) (As := [.int x1360]) (c2 := kc) (s2 := ks) G kK9 (lX9_untell hO hv1361) hi1361 kt_1892 kt_11 kt_1889 kt_1890 kt_1891 ydX9_untell ⟨by decide, by decide⟩ rfl (Nat.le_of_ble_eq_true rfl) ⟨by show kc + 0 = kc; omega, by show ks + 0 = ks; omega⟩ ⟨by show kc ≤ 600000; omega, by show ks ≤ 7302250; omega⟩ rfl dL_law_1361 ?_
      refine z_icmp_eq (pc := 1364) (tgt := 1560) G dL_law_1364 (by decide) (fun hc1364 => ?_) (fun hc1364 => ?_)
      · have hX := z_it hc1364 hX
        refine z_iincw (pc := 1560) (w := 6) (lv2 := [(0, .ref l0), (1, .ref l1), (2, .ref l2), (3, .int (l3 + 6))]) G 3 dL_law_1560 rfl (by decide) (by decide) rfl rfl ?_
        refine z_goto (pc := 1563) (tgt := 18) G dL_law_1563 (by decide) ?_
        refine z_wid (k := kc + 13) (n := ks + 534) (by omega) (by omega) ?_
        exact H18 _ _ _ _ _ hX
      · have hX := z_if hc1364 hX
        refine z_iconst (pc := 1367) (v := 0) G dL_law_1367 (by decide) ?_
        exact z_lno hX hr1
    have hX := z_if hs33_40 hX
    by_cases hs33_41 : (x29 &&& (63 : Int32)) = 41
    · have hX := z_it hs33_41 hX
      refine z_tableIn (pc := 33) (off := 1336) (tgt := 1369) G dL_law_33 (by rw [hs33_41]; decide) (by rw [hs33_41]; decide) (by rw [hs33_41]; decide) (by decide) ?_
      refine z_aload_n (pc := 1369) G 1 dL_law_1369 rfl rfl ?_
      refine z_aload_n (pc := 1370) G 0 dL_law_1370 rfl rfl ?_
      refine z_iload_n (pc := 1371) G 3 dL_law_1371 rfl rfl ?_
      refine z_iconst (pc := 1372) (v := 1) G dL_law_1372 (by decide) ?_
      refine z_iadd (pc := 1373) G dL_law_1373 ?_
      obtain ⟨x1374, hv1374, hX⟩ := z_bd hX
      refine z_iald (pc := 1374) G dL_law_1374 hv1374 ?_
      obtain ⟨hi1375, hX⟩ := z_gu_s hX
      obtain ⟨r1375, hv1375, hX⟩ := z_bd hX
      refine z_cVI (pc := 1375) (As := [.int x1374]) (c2 := kc) (s2 := ks) G kK8 (lX8_later hO hv1375) hi1375 kt_1147 kt_1 kt_1144 kt_1145 kt_1146 ydX8_later ⟨by decide, by decide⟩ rfl (Nat.le_of_ble_eq_true rfl) ⟨by show kc + 0 = kc; omega, by show ks + 0 = ks; omega⟩ ⟨by show kc ≤ 600000; omega, by show ks ≤ 7302250; omega⟩ rfl dL_law_1375 ?_
      refine z_aload_n (pc := 1378) G 2 dL_law_1378 rfl rfl ?_
      refine z_aload_n (pc := 1379) G 0 dL_law_1379 rfl rfl ?_
      refine z_iload_n (pc := 1380) G 3 dL_law_1380 rfl rfl ?_
      refine z_iconst (pc := 1381) (v := 1) G dL_law_1381 (by decide) ?_
      refine z_iadd (pc := 1382) G dL_law_1382 ?_
      obtain ⟨x1383, hv1383, hX⟩ := z_bd hX
      refine z_iald (pc := 1383) G dL_law_1383 hv1383 ?_
      obtain ⟨hi1384, hX⟩ := z_gu_s hX
      obtain ⟨r1384, hv1384, hX⟩ := z_bd hX
      refine z_cVI (pc := 1384) (As := [.int x1383]) (c2 := kc) (s2 := ks) G kK9 (lX9_later hO hv1384) hi1384 kt_1896 kt_11 kt_1893 kt_1894 kt_1895 ydX9_later ⟨by decide, by decide⟩ rfl (Nat.le_of_ble_eq_true rfl) ⟨by show kc + 0 = kc; omega, by show ks + 0 = ks; omega⟩ ⟨by show kc ≤ 600000; omega, by show ks ≤ 7302250; omega⟩ rfl dL_law_1384 ?_
      refine z_icmp_eq (pc := 1387) (tgt := 1560) G dL_law_1387 (by decide) (fun hc1387 => ?_) (fun hc1387 => ?_)
      · have hX := z_it hc1387 hX
        refine z_iincw (pc := 1560) (w := 6) (lv2 := [(0, .ref l0), (1, .ref l1), (2, .ref l2), (3, .int (l3 + 6))]) G 3 dL_law_1560 rfl (by decide) (by decide) rfl rfl ?_
        refine z_goto (pc := 1563) (tgt := 18) G dL_law_1563 (by decide) ?_
        refine z_wid (k := kc + 13) (n := ks + 534) (by omega) (by omega) ?_
        exact H18 _ _ _ _ _ hX
      · have hX := z_if hc1387 hX
        refine z_iconst (pc := 1390) (v := 0) G dL_law_1390 (by decide) ?_
        exact z_lno hX hr1
    have hX := z_if hs33_41 hX
    by_cases hs33_42 : (x29 &&& (63 : Int32)) = 42
    · have hX := z_it hs33_42 hX
      refine z_tableIn (pc := 33) (off := 1359) (tgt := 1392) G dL_law_33 (by rw [hs33_42]; decide) (by rw [hs33_42]; decide) (by rw [hs33_42]; decide) (by decide) ?_
      refine z_aload_n (pc := 1392) G 1 dL_law_1392 rfl rfl ?_
      refine z_aload_n (pc := 1393) G 0 dL_law_1393 rfl rfl ?_
      refine z_iload_n (pc := 1394) G 3 dL_law_1394 rfl rfl ?_
      refine z_iconst (pc := 1395) (v := 1) G dL_law_1395 (by decide) ?_
      refine z_iadd (pc := 1396) G dL_law_1396 ?_
      obtain ⟨x1397, hv1397, hX⟩ := z_bd hX
      refine z_iald (pc := 1397) G dL_law_1397 hv1397 ?_
      obtain ⟨hi1398, hX⟩ := z_gu_s hX
      obtain ⟨r1398, hv1398, hX⟩ := z_bd hX
      refine z_cVI (pc := 1398) (As := [.int x1397]) (c2 := kc) (s2 := ks) G kK8 (lX8_fits hO hv1398) hi1398 kt_1152 kt_1 kt_1149 kt_1150 kt_1151 ydX8_fits ⟨by decide, by decide⟩ rfl (Nat.le_of_ble_eq_true rfl) ⟨by show kc + 0 = kc; omega, by show ks + 0 = ks; omega⟩ ⟨by show kc ≤ 600000; omega, by show ks ≤ 7302250; omega⟩ rfl dL_law_1398 ?_
      refine z_aload_n (pc := 1401) G 2 dL_law_1401 rfl rfl ?_
      refine z_aload_n (pc := 1402) G 0 dL_law_1402 rfl rfl ?_
      refine z_iload_n (pc := 1403) G 3 dL_law_1403 rfl rfl ?_
      refine z_iconst (pc := 1404) (v := 1) G dL_law_1404 (by decide) ?_
      refine z_iadd (pc := 1405) G dL_law_1405 ?_
      obtain ⟨x1406, hv1406, hX⟩ := z_bd hX
      refine z_iald (pc := 1406) G dL_law_1406 hv1406 ?_
      obtain ⟨hi1407, hX⟩ := z_gu_s hX
      obtain ⟨r1407, hv1407, hX⟩ := z_bd hX
      refine z_cVI (pc := 1407) (As := [.int x1406]) (c2 := kc) (s2 := ks) G kK9 (lX9_fits hO hv1407) hi1407 kt_1901 kt_11 kt_1898 kt_1899 kt_1900 ydX9_fits ⟨by decide, by decide⟩ rfl (Nat.le_of_ble_eq_true rfl) ⟨by show kc + 0 = kc; omega, by show ks + 0 = ks; omega⟩ ⟨by show kc ≤ 600000; omega, by show ks ≤ 7302250; omega⟩ rfl dL_law_1407 ?_
      refine z_icmp_eq (pc := 1410) (tgt := 1560) G dL_law_1410 (by decide) (fun hc1410 => ?_) (fun hc1410 => ?_)
      · have hX := z_it hc1410 hX
        refine z_iincw (pc := 1560) (w := 6) (lv2 := [(0, .ref l0), (1, .ref l1), (2, .ref l2), (3, .int (l3 + 6))]) G 3 dL_law_1560 rfl (by decide) (by decide) rfl rfl ?_
        refine z_goto (pc := 1563) (tgt := 18) G dL_law_1563 (by decide) ?_
        refine z_wid (k := kc + 13) (n := ks + 534) (by omega) (by omega) ?_
        exact H18 _ _ _ _ _ hX
      · have hX := z_if hc1410 hX
        refine z_iconst (pc := 1413) (v := 0) G dL_law_1413 (by decide) ?_
        exact z_lno hX hr1
    have hX := z_if hs33_42 hX
    by_cases hs33_43 : (x29 &&& (63 : Int32)) = 43
    · have hX := z_it hs33_43 hX
      refine z_tableIn (pc := 33) (off := 1382) (tgt := 1415) G dL_law_33 (by rw [hs33_43]; decide) (by rw [hs33_43]; decide) (by rw [hs33_43]; decide) (by decide) ?_
      refine z_aload_n (pc := 1415) G 1 dL_law_1415 rfl rfl ?_
      refine z_aload_n (pc := 1416) G 0 dL_law_1416 rfl rfl ?_
      refine z_iload_n (pc := 1417) G 3 dL_law_1417 rfl rfl ?_
      refine z_iconst (pc := 1418) (v := 1) G dL_law_1418 (by decide) ?_
      refine z_iadd (pc := 1419) G dL_law_1419 ?_
      obtain ⟨x1420, hv1420, hX⟩ := z_bd hX
      refine z_iald (pc := 1420) G dL_law_1420 hv1420 ?_
      refine z_aload_n (pc := 1421) G 0 dL_law_1421 rfl rfl ?_
      refine z_iload_n (pc := 1422) G 3 dL_law_1422 rfl rfl ?_
      refine z_iconst (pc := 1423) (v := 2) G dL_law_1423 (by decide) ?_
      refine z_iadd (pc := 1424) G dL_law_1424 ?_
      obtain ⟨x1425, hv1425, hX⟩ := z_bd hX
      refine z_iald (pc := 1425) G dL_law_1425 hv1425 ?_
      obtain ⟨hi1426, hX⟩ := z_gu_s hX
      obtain ⟨r1426, hv1426, hX⟩ := z_bd hX
      refine z_cVI (pc := 1426) (As := [.int x1420, .int x1425]) (c2 := kc) (s2 := ks) G kK8 (lX8_sure hO hv1426) hi1426 kt_1170 kt_1 kt_1167 kt_1168 kt_1169 ydX8_sure ⟨by decide, by decide⟩ rfl (Nat.le_of_ble_eq_true rfl) ⟨by show kc + 0 = kc; omega, by show ks + 0 = ks; omega⟩ ⟨by show kc ≤ 600000; omega, by show ks ≤ 7302250; omega⟩ rfl dL_law_1426 ?_
      refine z_aload_n (pc := 1429) G 2 dL_law_1429 rfl rfl ?_
      refine z_aload_n (pc := 1430) G 0 dL_law_1430 rfl rfl ?_
      refine z_iload_n (pc := 1431) G 3 dL_law_1431 rfl rfl ?_
      refine z_iconst (pc := 1432) (v := 1) G dL_law_1432 (by decide) ?_
      refine z_iadd (pc := 1433) G dL_law_1433 ?_
      obtain ⟨x1434, hv1434, hX⟩ := z_bd hX
      refine z_iald (pc := 1434) G dL_law_1434 hv1434 ?_
      refine z_aload_n (pc := 1435) G 0 dL_law_1435 rfl rfl ?_
      refine z_iload_n (pc := 1436) G 3 dL_law_1436 rfl rfl ?_
      refine z_iconst (pc := 1437) (v := 2) G dL_law_1437 (by decide) ?_
      refine z_iadd (pc := 1438) G dL_law_1438 ?_
      obtain ⟨x1439, hv1439, hX⟩ := z_bd hX
      refine z_iald (pc := 1439) G dL_law_1439 hv1439 ?_
      obtain ⟨hi1440, hX⟩ := z_gu_s hX
      obtain ⟨r1440, hv1440, hX⟩ := z_bd hX
      refine z_cVI (pc := 1440) (As := [.int x1434, .int x1439]) (c2 := kc) (s2 := ks) G kK9 (lX9_sure hO hv1440) hi1440 kt_1913 kt_11 kt_1910 kt_1911 kt_1912 ydX9_sure ⟨by decide, by decide⟩ rfl (Nat.le_of_ble_eq_true rfl) ⟨by show kc + 0 = kc; omega, by show ks + 0 = ks; omega⟩ ⟨by show kc ≤ 600000; omega, by show ks ≤ 7302250; omega⟩ rfl dL_law_1440 ?_
      refine z_icmp_eq (pc := 1443) (tgt := 1560) G dL_law_1443 (by decide) (fun hc1443 => ?_) (fun hc1443 => ?_)
      · have hX := z_it hc1443 hX
        refine z_iincw (pc := 1560) (w := 6) (lv2 := [(0, .ref l0), (1, .ref l1), (2, .ref l2), (3, .int (l3 + 6))]) G 3 dL_law_1560 rfl (by decide) (by decide) rfl rfl ?_
        refine z_goto (pc := 1563) (tgt := 18) G dL_law_1563 (by decide) ?_
        refine z_wid (k := kc + 13) (n := ks + 534) (by omega) (by omega) ?_
        exact H18 _ _ _ _ _ hX
      · have hX := z_if hc1443 hX
        refine z_iconst (pc := 1446) (v := 0) G dL_law_1446 (by decide) ?_
        exact z_lno hX hr1
    have hX := z_if hs33_43 hX
    by_cases hs33_44 : (x29 &&& (63 : Int32)) = 44
    · have hX := z_it hs33_44 hX
      refine z_tableIn (pc := 33) (off := 1415) (tgt := 1448) G dL_law_33 (by rw [hs33_44]; decide) (by rw [hs33_44]; decide) (by rw [hs33_44]; decide) (by decide) ?_
      refine z_aload_n (pc := 1448) G 1 dL_law_1448 rfl rfl ?_
      refine z_aload_n (pc := 1449) G 0 dL_law_1449 rfl rfl ?_
      refine z_iload_n (pc := 1450) G 3 dL_law_1450 rfl rfl ?_
      refine z_iconst (pc := 1451) (v := 1) G dL_law_1451 (by decide) ?_
      refine z_iadd (pc := 1452) G dL_law_1452 ?_
      obtain ⟨x1453, hv1453, hX⟩ := z_bd hX
      refine z_iald (pc := 1453) G dL_law_1453 hv1453 ?_
      refine z_aload_n (pc := 1454) G 0 dL_law_1454 rfl rfl ?_
      refine z_iload_n (pc := 1455) G 3 dL_law_1455 rfl rfl ?_
      refine z_iconst (pc := 1456) (v := 2) G dL_law_1456 (by decide) ?_
      refine z_iadd (pc := 1457) G dL_law_1457 ?_
      obtain ⟨x1458, hv1458, hX⟩ := z_bd hX
      refine z_iald (pc := 1458) G dL_law_1458 hv1458 ?_
      refine z_aload_n (pc := 1459) G 0 dL_law_1459 rfl rfl ?_
      refine z_iload_n (pc := 1460) G 3 dL_law_1460 rfl rfl ?_
      refine z_iconst (pc := 1461) (v := 3) G dL_law_1461 (by decide) ?_
      refine z_iadd (pc := 1462) G dL_law_1462 ?_
      obtain ⟨x1463, hv1463, hX⟩ := z_bd hX
      refine z_iald (pc := 1463) G dL_law_1463 hv1463 ?_
      obtain ⟨hi1464, hX⟩ := z_gu_s hX
      obtain ⟨r1464, hv1464, hX⟩ := z_bd hX
      refine z_cVI (pc := 1464) (As := [.int x1453, .int x1458, .int x1463]) (c2 := kc) (s2 := ks) G kK8 (lX8_ask hO hv1464) hi1464 kt_1182 kt_1 kt_1179 kt_1180 kt_1181 ydX8_ask ⟨by decide, by decide⟩ rfl (Nat.le_of_ble_eq_true rfl) ⟨by show kc + 0 = kc; omega, by show ks + 0 = ks; omega⟩ ⟨by show kc ≤ 600000; omega, by show ks ≤ 7302250; omega⟩ rfl dL_law_1464 ?_
      refine z_aload_n (pc := 1467) G 2 dL_law_1467 rfl rfl ?_
      refine z_aload_n (pc := 1468) G 0 dL_law_1468 rfl rfl ?_
      refine z_iload_n (pc := 1469) G 3 dL_law_1469 rfl rfl ?_
      refine z_iconst (pc := 1470) (v := 1) G dL_law_1470 (by decide) ?_
      refine z_iadd (pc := 1471) G dL_law_1471 ?_
      obtain ⟨x1472, hv1472, hX⟩ := z_bd hX
      refine z_iald (pc := 1472) G dL_law_1472 hv1472 ?_
      refine z_aload_n (pc := 1473) G 0 dL_law_1473 rfl rfl ?_
      refine z_iload_n (pc := 1474) G 3 dL_law_1474 rfl rfl ?_
      refine z_iconst (pc := 1475) (v := 2) G dL_law_1475 (by decide) ?_
      refine z_iadd (pc := 1476) G dL_law_1476 ?_
      obtain ⟨x1477, hv1477, hX⟩ := z_bd hX
      refine z_iald (pc := 1477) G dL_law_1477 hv1477 ?_
      refine z_aload_n (pc := 1478) G 0 dL_law_1478 rfl rfl ?_
      refine z_iload_n (pc := 1479) G 3 dL_law_1479 rfl rfl ?_
      refine z_iconst (pc := 1480) (v := 3) G dL_law_1480 (by decide) ?_
      refine z_iadd (pc := 1481) G dL_law_1481 ?_
      obtain ⟨x1482, hv1482, hX⟩ := z_bd hX
      refine z_iald (pc := 1482) G dL_law_1482 hv1482 ?_
      obtain ⟨hi1483, hX⟩ := z_gu_s hX
      obtain ⟨r1483, hv1483, hX⟩ := z_bd hX
      refine z_cVI (pc := 1483) (As := [.int x1472, .int x1477, .int x1482]) (c2 := kc) (s2 := ks) G kK9 (lX9_ask hO hv1483) hi1483 kt_1918 kt_11 kt_1915 kt_1916 kt_1917 ydX9_ask ⟨by decide, by decide⟩ rfl (Nat.le_of_ble_eq_true rfl) ⟨by show kc + 0 = kc; omega, by show ks + 0 = ks; omega⟩ ⟨by show kc ≤ 600000; omega, by show ks ≤ 7302250; omega⟩ rfl dL_law_1483 ?_
      refine z_icmp_eq (pc := 1486) (tgt := 1560) G dL_law_1486 (by decide) (fun hc1486 => ?_) (fun hc1486 => ?_)
      · have hX := z_it hc1486 hX
        refine z_iincw (pc := 1560) (w := 6) (lv2 := [(0, .ref l0), (1, .ref l1), (2, .ref l2), (3, .int (l3 + 6))]) G 3 dL_law_1560 rfl (by decide) (by decide) rfl rfl ?_
        refine z_goto (pc := 1563) (tgt := 18) G dL_law_1563 (by decide) ?_
        refine z_wid (k := kc + 13) (n := ks + 534) (by omega) (by omega) ?_
        exact H18 _ _ _ _ _ hX
      · have hX := z_if hc1486 hX
        refine z_iconst (pc := 1489) (v := 0) G dL_law_1489 (by decide) ?_
        exact z_lno hX hr1
    have hX := z_if hs33_44 hX
    by_cases hs33_45 : (x29 &&& (63 : Int32)) = 45
    · have hX := z_it hs33_45 hX
      refine z_tableIn (pc := 33) (off := 1458) (tgt := 1491) G dL_law_33 (by rw [hs33_45]; decide) (by rw [hs33_45]; decide) (by rw [hs33_45]; decide) (by decide) ?_
      refine z_aload_n (pc := 1491) G 1 dL_law_1491 rfl rfl ?_
      refine z_aload_n (pc := 1492) G 0 dL_law_1492 rfl rfl ?_
      refine z_iload_n (pc := 1493) G 3 dL_law_1493 rfl rfl ?_
      refine z_iconst (pc := 1494) (v := 1) G dL_law_1494 (by decide) ?_
      refine z_iadd (pc := 1495) G dL_law_1495 ?_
      obtain ⟨x1496, hv1496, hX⟩ := z_bd hX
      refine z_iald (pc := 1496) G dL_law_1496 hv1496 ?_
      obtain ⟨hi1497, hX⟩ := z_gu_s hX
      obtain ⟨r1497, hv1497, hX⟩ := z_bd hX
      refine z_cVI (pc := 1497) (As := [.int x1496]) (c2 := (kc + 13)) (s2 := (ks + 534)) G kK8 (lX8_image hO hv1497) hi1497 kt_1191 kt_1 kt_1188 kt_1189 kt_1190 ydX8_image ⟨by decide, by decide⟩ rfl (Nat.le_of_ble_eq_true rfl) ⟨by show kc + 13 = (kc + 13); omega, by show ks + 534 = (ks + 534); omega⟩ ⟨by show (kc + 13) ≤ 600000; omega, by show (ks + 534) ≤ 7302250; omega⟩ rfl dL_law_1497 ?_
      refine z_aload_n (pc := 1500) G 2 dL_law_1500 rfl rfl ?_
      refine z_aload_n (pc := 1501) G 0 dL_law_1501 rfl rfl ?_
      refine z_iload_n (pc := 1502) G 3 dL_law_1502 rfl rfl ?_
      refine z_iconst (pc := 1503) (v := 1) G dL_law_1503 (by decide) ?_
      refine z_iadd (pc := 1504) G dL_law_1504 ?_
      obtain ⟨x1505, hv1505, hX⟩ := z_bd hX
      refine z_iald (pc := 1505) G dL_law_1505 hv1505 ?_
      obtain ⟨hi1506, hX⟩ := z_gu_s hX
      obtain ⟨r1506, hv1506, hX⟩ := z_bd hX
      refine z_cVI (pc := 1506) (As := [.int x1505]) (c2 := (kc + 13)) (s2 := (ks + 534)) G kK9 (lX9_image hO hv1506) hi1506 kt_1926 kt_11 kt_1923 kt_1924 kt_1925 ydX9_image ⟨by decide, by decide⟩ rfl (Nat.le_of_ble_eq_true rfl) ⟨by show (kc + 13) + 0 = (kc + 13); omega, by show (ks + 534) + 0 = (ks + 534); omega⟩ ⟨by show (kc + 13) ≤ 600000; omega, by show (ks + 534) ≤ 7302250; omega⟩ rfl dL_law_1506 ?_
      refine z_icmp_eq (pc := 1509) (tgt := 1560) G dL_law_1509 (by decide) (fun hc1509 => ?_) (fun hc1509 => ?_)
      · have hX := z_it hc1509 hX
        refine z_iincw (pc := 1560) (w := 6) (lv2 := [(0, .ref l0), (1, .ref l1), (2, .ref l2), (3, .int (l3 + 6))]) G 3 dL_law_1560 rfl (by decide) (by decide) rfl rfl ?_
        refine z_goto (pc := 1563) (tgt := 18) G dL_law_1563 (by decide) ?_
        refine z_wid (k := kc + 13) (n := ks + 534) (by omega) (by omega) ?_
        exact H18 _ _ _ _ _ hX
      · have hX := z_if hc1509 hX
        refine z_iconst (pc := 1512) (v := 0) G dL_law_1512 (by decide) ?_
        exact z_lno hX hr1
    have hX := z_if hs33_45 hX
    by_cases hs33_46 : (x29 &&& (63 : Int32)) = 46
    · have hX := z_it hs33_46 hX
      refine z_tableIn (pc := 33) (off := 1481) (tgt := 1514) G dL_law_33 (by rw [hs33_46]; decide) (by rw [hs33_46]; decide) (by rw [hs33_46]; decide) (by decide) ?_
      refine z_aload_n (pc := 1514) G 1 dL_law_1514 rfl rfl ?_
      refine z_aload_n (pc := 1515) G 0 dL_law_1515 rfl rfl ?_
      refine z_iload_n (pc := 1516) G 3 dL_law_1516 rfl rfl ?_
      refine z_iconst (pc := 1517) (v := 1) G dL_law_1517 (by decide) ?_
      refine z_iadd (pc := 1518) G dL_law_1518 ?_
      obtain ⟨x1519, hv1519, hX⟩ := z_bd hX
      refine z_iald (pc := 1519) G dL_law_1519 hv1519 ?_
      obtain ⟨hi1520, hX⟩ := z_gu_s hX
      obtain ⟨r1520, hv1520, hX⟩ := z_bd hX
      refine z_cVI (pc := 1520) (As := [.int x1519]) (c2 := kc) (s2 := ks) G kK8 (lX8_back hO hv1520) hi1520 kt_1195 kt_1 kt_1192 kt_1193 kt_1194 ydX8_back ⟨by decide, by decide⟩ rfl (Nat.le_of_ble_eq_true rfl) ⟨by show kc + 0 = kc; omega, by show ks + 0 = ks; omega⟩ ⟨by show kc ≤ 600000; omega, by show ks ≤ 7302250; omega⟩ rfl dL_law_1520 ?_
      refine z_aload_n (pc := 1523) G 2 dL_law_1523 rfl rfl ?_
      refine z_aload_n (pc := 1524) G 0 dL_law_1524 rfl rfl ?_
      refine z_iload_n (pc := 1525) G 3 dL_law_1525 rfl rfl ?_
      refine z_iconst (pc := 1526) (v := 1) G dL_law_1526 (by decide) ?_
      refine z_iadd (pc := 1527) G dL_law_1527 ?_
      obtain ⟨x1528, hv1528, hX⟩ := z_bd hX
      refine z_iald (pc := 1528) G dL_law_1528 hv1528 ?_
      obtain ⟨hi1529, hX⟩ := z_gu_s hX
      obtain ⟨r1529, hv1529, hX⟩ := z_bd hX
      refine z_cVI (pc := 1529) (As := [.int x1528]) (c2 := kc) (s2 := ks) G kK9 (lX9_back hO hv1529) hi1529 kt_1930 kt_11 kt_1927 kt_1928 kt_1929 ydX9_back ⟨by decide, by decide⟩ rfl (Nat.le_of_ble_eq_true rfl) ⟨by show kc + 0 = kc; omega, by show ks + 0 = ks; omega⟩ ⟨by show kc ≤ 600000; omega, by show ks ≤ 7302250; omega⟩ rfl dL_law_1529 ?_
      refine z_icmp_eq (pc := 1532) (tgt := 1560) G dL_law_1532 (by decide) (fun hc1532 => ?_) (fun hc1532 => ?_)
      · have hX := z_it hc1532 hX
        refine z_iincw (pc := 1560) (w := 6) (lv2 := [(0, .ref l0), (1, .ref l1), (2, .ref l2), (3, .int (l3 + 6))]) G 3 dL_law_1560 rfl (by decide) (by decide) rfl rfl ?_
        refine z_goto (pc := 1563) (tgt := 18) G dL_law_1563 (by decide) ?_
        refine z_wid (k := kc + 13) (n := ks + 534) (by omega) (by omega) ?_
        exact H18 _ _ _ _ _ hX
      · have hX := z_if hc1532 hX
        refine z_iconst (pc := 1535) (v := 0) G dL_law_1535 (by decide) ?_
        exact z_lno hX hr1
    have hX := z_if hs33_46 hX
    by_cases hs33_47 : (x29 &&& (63 : Int32)) = 47
    · have hX := z_it hs33_47 hX
      refine z_tableIn (pc := 33) (off := 1504) (tgt := 1537) G dL_law_33 (by rw [hs33_47]; decide) (by rw [hs33_47]; decide) (by rw [hs33_47]; decide) (by decide) ?_
      refine z_aload_n (pc := 1537) G 1 dL_law_1537 rfl rfl ?_
      refine z_aload_n (pc := 1538) G 0 dL_law_1538 rfl rfl ?_
      refine z_iload_n (pc := 1539) G 3 dL_law_1539 rfl rfl ?_
      refine z_iconst (pc := 1540) (v := 1) G dL_law_1540 (by decide) ?_
      refine z_iadd (pc := 1541) G dL_law_1541 ?_
      obtain ⟨x1542, hv1542, hX⟩ := z_bd hX
      refine z_iald (pc := 1542) G dL_law_1542 hv1542 ?_
      obtain ⟨hi1543, hX⟩ := z_gu_s hX
      obtain ⟨r1543, hv1543, hX⟩ := z_bd hX
      refine z_cVI (pc := 1543) (As := [.int x1542]) (c2 := kc) (s2 := ks) G kK8 (lX8_about hO hv1543) hi1543 kt_1199 kt_1 kt_1196 kt_1197 kt_1198 ydX8_about ⟨by decide, by decide⟩ rfl (Nat.le_of_ble_eq_true rfl) ⟨by show kc + 0 = kc; omega, by show ks + 0 = ks; omega⟩ ⟨by show kc ≤ 600000; omega, by show ks ≤ 7302250; omega⟩ rfl dL_law_1543 ?_
      refine z_aload_n (pc := 1546) G 2 dL_law_1546 rfl rfl ?_
      refine z_aload_n (pc := 1547) G 0 dL_law_1547 rfl rfl ?_
      refine z_iload_n (pc := 1548) G 3 dL_law_1548 rfl rfl ?_
      refine z_iconst (pc := 1549) (v := 1) G dL_law_1549 (by decide) ?_
      refine z_iadd (pc := 1550) G dL_law_1550 ?_
      obtain ⟨x1551, hv1551, hX⟩ := z_bd hX
      refine z_iald (pc := 1551) G dL_law_1551 hv1551 ?_
      obtain ⟨hi1552, hX⟩ := z_gu_s hX
      obtain ⟨r1552, hv1552, hX⟩ := z_bd hX
      refine z_cVI (pc := 1552) (As := [.int x1551]) (c2 := kc) (s2 := ks) G kK9 (lX9_about hO hv1552) hi1552 kt_1934 kt_11 kt_1931 kt_1932 kt_1933 ydX9_about ⟨by decide, by decide⟩ rfl (Nat.le_of_ble_eq_true rfl) ⟨by show kc + 0 = kc; omega, by show ks + 0 = ks; omega⟩ ⟨by show kc ≤ 600000; omega, by show ks ≤ 7302250; omega⟩ rfl dL_law_1552 ?_
      refine z_icmp_eq (pc := 1555) (tgt := 1560) G dL_law_1555 (by decide) (fun hc1555 => ?_) (fun hc1555 => ?_)
      · have hX := z_it hc1555 hX
        refine z_iincw (pc := 1560) (w := 6) (lv2 := [(0, .ref l0), (1, .ref l1), (2, .ref l2), (3, .int (l3 + 6))]) G 3 dL_law_1560 rfl (by decide) (by decide) rfl rfl ?_
        refine z_goto (pc := 1563) (tgt := 18) G dL_law_1563 (by decide) ?_
        refine z_wid (k := kc + 13) (n := ks + 534) (by omega) (by omega) ?_
        exact H18 _ _ _ _ _ hX
      · have hX := z_if hc1555 hX
        refine z_iconst (pc := 1558) (v := 0) G dL_law_1558 (by decide) ?_
        exact z_lno hX hr1
    have hX := z_if hs33_47 hX
    refine z_tableOut (pc := 33) (tgt := 1560) G dL_law_33 (z_tout 48 (by decide) (fun j hj => by
      rcases (show j = 0 ∨ j = 1 ∨ j = 2 ∨ j = 3 ∨ j = 4 ∨ j = 5 ∨ j = 6 ∨ j = 7 ∨ j = 8 ∨ j = 9 ∨ j = 10 ∨ j = 11 ∨ j = 12 ∨ j = 13 ∨ j = 14 ∨ j = 15 ∨ j = 16 ∨ j = 17 ∨ j = 18 ∨ j = 19 ∨ j = 20 ∨ j = 21 ∨ j = 22 ∨ j = 23 ∨ j = 24 ∨ j = 25 ∨ j = 26 ∨ j = 27 ∨ j = 28 ∨ j = 29 ∨ j = 30 ∨ j = 31 ∨ j = 32 ∨ j = 33 ∨ j = 34 ∨ j = 35 ∨ j = 36 ∨ j = 37 ∨ j = 38 ∨ j = 39 ∨ j = 40 ∨ j = 41 ∨ j = 42 ∨ j = 43 ∨ j = 44 ∨ j = 45 ∨ j = 46 ∨ j = 47 by omega) with rfl | rfl | rfl | rfl | rfl | rfl | rfl | rfl | rfl | rfl | rfl | rfl | rfl | rfl | rfl | rfl | rfl | rfl | rfl | rfl | rfl | rfl | rfl | rfl | rfl | rfl | rfl | rfl | rfl | rfl | rfl | rfl | rfl | rfl | rfl | rfl | rfl | rfl | rfl | rfl | rfl | rfl | rfl | rfl | rfl | rfl | rfl | rfl
      · exact fun z => hs33_0 (z.trans (by decide))
      · exact fun z => hs33_1 (z.trans (by decide))
      · exact fun z => hs33_2 (z.trans (by decide))
      · exact fun z => hs33_3 (z.trans (by decide))
      · exact fun z => hs33_4 (z.trans (by decide))
      · exact fun z => hs33_5 (z.trans (by decide))
      · exact fun z => hs33_6 (z.trans (by decide))
      · exact fun z => hs33_7 (z.trans (by decide))
      · exact fun z => hs33_8 (z.trans (by decide))
      · exact fun z => hs33_9 (z.trans (by decide))
      · exact fun z => hs33_10 (z.trans (by decide))
      · exact fun z => hs33_11 (z.trans (by decide))
      · exact fun z => hs33_12 (z.trans (by decide))
      · exact fun z => hs33_13 (z.trans (by decide))
      · exact fun z => hs33_14 (z.trans (by decide))
      · exact fun z => hs33_15 (z.trans (by decide))
      · exact fun z => hs33_16 (z.trans (by decide))
      · exact fun z => hs33_17 (z.trans (by decide))
      · exact fun z => hs33_18 (z.trans (by decide))
      · exact fun z => hs33_19 (z.trans (by decide))
      · exact fun z => hs33_20 (z.trans (by decide))
      · exact fun z => hs33_21 (z.trans (by decide))
      · exact fun z => hs33_22 (z.trans (by decide))
      · exact fun z => hs33_23 (z.trans (by decide))
      · exact fun z => hs33_24 (z.trans (by decide))
      · exact fun z => hs33_25 (z.trans (by decide))
      · exact fun z => hs33_26 (z.trans (by decide))
      · exact fun z => hs33_27 (z.trans (by decide))
      · exact fun z => hs33_28 (z.trans (by decide))
      · exact fun z => hs33_29 (z.trans (by decide))
      · exact fun z => hs33_30 (z.trans (by decide))
      · exact fun z => hs33_31 (z.trans (by decide))
      · exact fun z => hs33_32 (z.trans (by decide))
      · exact fun z => hs33_33 (z.trans (by decide))
      · exact fun z => hs33_34 (z.trans (by decide))
      · exact fun z => hs33_35 (z.trans (by decide))
      · exact fun z => hs33_36 (z.trans (by decide))
      · exact fun z => hs33_37 (z.trans (by decide))
      · exact fun z => hs33_38 (z.trans (by decide))
      · exact fun z => hs33_39 (z.trans (by decide))
      · exact fun z => hs33_40 (z.trans (by decide))
      · exact fun z => hs33_41 (z.trans (by decide))
      · exact fun z => hs33_42 (z.trans (by decide))
      · exact fun z => hs33_43 (z.trans (by decide))
      · exact fun z => hs33_44 (z.trans (by decide))
      · exact fun z => hs33_45 (z.trans (by decide))
      · exact fun z => hs33_46 (z.trans (by decide))
      · exact fun z => hs33_47 (z.trans (by decide)))) (by decide) ?_
    refine z_iincw (pc := 1560) (w := 6) (lv2 := [(0, .ref l0), (1, .ref l1), (2, .ref l2), (3, .int (l3 + 6))]) G 3 dL_law_1560 rfl (by decide) (by decide) rfl rfl ?_
    refine z_goto (pc := 1563) (tgt := 18) G dL_law_1563 (by decide) ?_
    refine z_wid (k := kc + 13) (n := ks + 534) (by omega) (by omega) ?_
    exact H18 _ _ _ _ _ hX
set_option maxHeartbeats 40000000 in
set_option maxRecDepth 100000 in
theorem wL_law_L18 {Γ : ZG} {p : Program} {l : Launch} {e : Env} {s : State} {m : MethodId} {b : Nat} {below : List Frame} {meth : Method} {c : Code} (hO : z_OK Γ) (G : z_GG Γ p s m #[Value.ref b] meth c cL_law 4 RL) (hb0 : Γ.2.2.2.1 = s.heap.size) (hr : meth.sig.returnType = ret) {r : Int32 × ZH} (hr1 : r.1 = 1) : ∀ (nn kc ks : Nat), kc + 13 * nn ≤ 600000 → ks + 534 * nn ≤ 7302250 → ∀ (l0 : Nat) (l1 : Nat) (l2 : Nat) (l3 : Int32) (h : ZH), xL_law_L18 nn l0 l1 l2 l3 h = some r → z_W Γ p l e room_1 s m #[Value.ref b] below meth c 4 kc ks (lw_Z below #[Value.ref b] s) 18 [(0, .ref l0), (1, .ref l1), (2, .ref l2), (3, .int l3)] [] h := by
  intro nn
  induction nn with
  | zero => intro kc ks _ _ l0 l1 l2 l3 h hX; cases hX
  | succ nn ih => intro kc ks hkc hks l0 l1 l2 l3 h hX; exact wL_law_B18 hO G hb0 hr hr1 hkc hks (ih (kc + 13) (ks + 534) (by omega) (by omega)) l0 l1 l2 l3 h hX
noncomputable def xL_law (l0 : Nat) (h : ZH) : Option (Int32 × ZH) := ((z_nw h (.inl (8, [.null, .int 0, .int 0, .int 0, .null, .null, .null, .null, .null, .null, .null, .null, .null, .null, .null, .null, .int 0, .int 0]))).bind fun q0 => ((xX8_init q0.1 q0.2).bind fun h4 => ((z_nw h4 (.inl (9, [.null, .null, .int 0, .int 0, .int 0, .int 0, .int 0, .int 0, .int 0, .int 0, .long 0, .null, .null, .null, .null, .null, .null, .null, .null, .null, .null, .null, .null, .null, .null, .null, .null, .null, .null, .null, .null, .null, .null, .null, .int 0, .int 0, .int 0, .int 0, .int 0, .int 0, .int 0, .null, .null, .int 0, .null, .null, .null, .null, .int 0, .int 0, .null, .int 0, .null, .null, .null, .null, .null, .int 0, .int 0, .null, .null]))).bind fun q8 => ((xX9_init q8.1 q8.2).bind fun h12 => xL_law_L18 520 l0 q0.1 q8.1 (0 : Int32) h12))))
set_option maxHeartbeats 40000000 in
set_option maxRecDepth 100000 in
theorem wL_law {Γ : ZG} {p : Program} {l : Launch} {e : Env} {s : State} {m : MethodId} {b : Nat} {below : List Frame} {meth : Method} {c : Code} (hO : z_OK Γ) (G : z_GG Γ p s m #[Value.ref b] meth c cL_law 4 RL) (hb0 : Γ.2.2.2.1 = s.heap.size) (hr : meth.sig.returnType = ret) {r : Int32 × ZH} (hr1 : r.1 = 1) {l0 : Nat} {h : ZH} (hX : xL_law l0 h = some r) : z_W Γ p l e room_1 s m #[Value.ref b] below meth c 4 0 0 (lw_Z below #[Value.ref b] s) 0 [(0, .ref l0)] [] h := by
  obtain ⟨q0, hv0, hX⟩ := z_bd hX
  refine z_nO (pc := 0) (c2 := 1) (s2 := 18) G kK8 kt_19 kt_20 kt_1 (fun j hj => by rcases (show j = 0 ∨ j = 1 ∨ j = 2 ∨ j = 3 ∨ j = 4 ∨ j = 5 ∨ j = 6 ∨ j = 7 ∨ j = 8 ∨ j = 9 ∨ j = 10 ∨ j = 11 ∨ j = 12 ∨ j = 13 ∨ j = 14 ∨ j = 15 ∨ j = 16 ∨ j = 17 by omega) with rfl | rfl | rfl | rfl | rfl | rfl | rfl | rfl | rfl | rfl | rfl | rfl | rfl | rfl | rfl | rfl | rfl | rfl <;> rfl) ⟨rfl, rfl⟩ ⟨by decide, by decide⟩ dL_law_0 hv0 ?_
  refine z_dup (pc := 3) G dL_law_3 rfl ?_
  obtain ⟨h4, hv4, hX⟩ := z_bd hX
  refine z_cI (pc := 4) (As := []) (c2 := 70) (s2 := 3912) G (lX8_init hO hv4) kt_23 kt_1 kt_21 kt_22 rfl ydX8_init ⟨by decide, by decide⟩ rfl (Nat.le_of_ble_eq_true rfl) ⟨rfl, rfl⟩ ⟨by decide, by decide⟩ rfl dL_law_4 ?_
  refine z_astore_n (pc := 7) (lv2 := [(0, .ref l0), (1, .ref q0.1)]) G dL_law_7 rfl (by decide) rfl rfl ?_
  obtain ⟨q8, hv8, hX⟩ := z_bd hX
  refine z_nO (pc := 8) (c2 := 71) (s2 := 3973) G kK9 kt_1200 kt_1201 kt_11 (fun j hj => by rcases (show j = 0 ∨ j = 1 ∨ j = 2 ∨ j = 3 ∨ j = 4 ∨ j = 5 ∨ j = 6 ∨ j = 7 ∨ j = 8 ∨ j = 9 ∨ j = 10 ∨ j = 11 ∨ j = 12 ∨ j = 13 ∨ j = 14 ∨ j = 15 ∨ j = 16 ∨ j = 17 ∨ j = 18 ∨ j = 19 ∨ j = 20 ∨ j = 21 ∨ j = 22 ∨ j = 23 ∨ j = 24 ∨ j = 25 ∨ j = 26 ∨ j = 27 ∨ j = 28 ∨ j = 29 ∨ j = 30 ∨ j = 31 ∨ j = 32 ∨ j = 33 ∨ j = 34 ∨ j = 35 ∨ j = 36 ∨ j = 37 ∨ j = 38 ∨ j = 39 ∨ j = 40 ∨ j = 41 ∨ j = 42 ∨ j = 43 ∨ j = 44 ∨ j = 45 ∨ j = 46 ∨ j = 47 ∨ j = 48 ∨ j = 49 ∨ j = 50 ∨ j = 51 ∨ j = 52 ∨ j = 53 ∨ j = 54 ∨ j = 55 ∨ j = 56 ∨ j = 57 ∨ j = 58 ∨ j = 59 ∨ j = 60 by omega) with rfl | rfl | rfl | rfl | rfl | rfl | rfl | rfl | rfl | rfl | rfl | rfl | rfl | rfl | rfl | rfl | rfl | rfl | rfl | rfl | rfl | rfl | rfl | rfl | rfl | rfl | rfl | rfl | rfl | rfl | rfl | rfl | rfl | rfl | rfl | rfl | rfl | rfl | rfl | rfl | rfl | rfl | rfl | rfl | rfl | rfl | rfl | rfl | rfl | rfl | rfl | rfl | rfl | rfl | rfl | rfl | rfl | rfl | rfl | rfl | rfl <;> rfl) ⟨rfl, rfl⟩ ⟨by decide, by decide⟩ dL_law_8 hv8 ?_
  refine z_dup (pc := 11) G dL_law_11 rfl ?_
  obtain ⟨h12, hv12, hX⟩ := z_bd hX
  refine z_cI (pc := 12) (As := []) (c2 := 110) (s2 := 33936) G (lX9_init hO hv12) kt_1204 kt_11 kt_1202 kt_1203 rfl ydX9_init ⟨by decide, by decide⟩ rfl (Nat.le_of_ble_eq_true rfl) ⟨rfl, rfl⟩ ⟨by decide, by decide⟩ rfl dL_law_12 ?_
  refine z_astore_n (pc := 15) (lv2 := [(0, .ref l0), (1, .ref q0.1), (2, .ref q8.1)]) G dL_law_15 rfl (by decide) rfl rfl ?_
  refine z_iconst (pc := 16) (v := 0) G dL_law_16 (by decide) ?_
  refine z_istore_n (pc := 17) (lv2 := [(0, .ref l0), (1, .ref q0.1), (2, .ref q8.1), (3, .int (0 : Int32))]) G dL_law_17 rfl (by decide) rfl rfl ?_
  refine z_drop (lv2 := [(0, .ref l0), (1, .ref q0.1), (2, .ref q8.1), (3, .int (0 : Int32))]) [0, 1, 2, 3] rfl ?_
  exact wL_law_L18 hO G hb0 hr hr1 520 110 33936 (by decide) (by decide) _ _ _ _ _ hX
